section KB
variable {p : Program} {l : Launch} {e : Env} {R : Room} {s : State} {m : MethodId} {args : Array Value} {below : List Frame} {meth : Method} {c : Code} {s0 : State} {D : va_G} {cA : Nat → ClassId} {ι0 : Nat → Nat} {h0 hf : kx_H} {rr : kx_R} {C : kx_C} {d : Nat} {J : Nat → kx_F}
/-! TaskDeskModel.<init>()V -/
def bk_88_0 (d : Nat) (C : kx_C) (J : Nat → kx_F) : kx_F := (kx_la 0 (kx_obj (kx_la 0 (kx_c (kx_i 256) (kx_newa kx_cc kx_cs 101 (kx_pR 9 4 101 (kx_la 0 (kx_c (kx_i 256) (kx_newa kx_cc kx_cs 99 (kx_pR 9 5 99 (kx_la 0 (kx_c (kx_i 256) (kx_newa kx_cc kx_cs 99 (kx_pR 9 6 99 (kx_la 0 (kx_c (kx_i 256) (kx_newa kx_cc kx_cs 100 (kx_pR 9 7 100 (kx_la 0 (kx_c (kx_i 256) (kx_newa kx_cc kx_cs 101 (kx_pR 9 8 101 (kx_la 0 (kx_c (kx_i 256) (kx_newa kx_cc kx_cs 99 (kx_pR 9 9 99 (kx_la 0 (kx_c (kx_i 256) (kx_newa kx_cc kx_cs 101 (kx_pR 9 10 101 (kx_la 0 (kx_c (kx_i 256) (kx_newa kx_cc kx_cs 99 (kx_pR 9 12 99 (kx_la 0 (kx_c (kx_i 512) (kx_newa kx_cc kx_cs 101 (kx_pR 9 13 101 (kx_la 0 (kx_c (kx_i 512) (kx_newa kx_cc kx_cs 101 (kx_pR 9 14 101 (kx_la 0 (kx_c (kx_i 512) (kx_newa kx_cc kx_cs 99 (kx_pR 9 15 99 (kx_la 0 (kx_c (kx_i 8192) (kx_newa kx_cc kx_cs 99 (kx_pR 9 18 99 (kx_la 0 (kx_c (kx_i 8192) (kx_newa kx_cc kx_cs 100 (kx_pR 9 19 100 (kx_la 0 (kx_c (kx_i 4352) (kx_newa kx_cc kx_cs 99 (kx_pR 9 21 99 (kx_la 0 (kx_c (kx_i 4352) (kx_newa kx_cc kx_cs 99 (kx_pR 9 22 99 (kx_la 0 (kx_c (kx_i 4352) (kx_newa kx_cc kx_cs 101 (kx_pR 9 23 101 (kx_la 0 (kx_c (kx_i 4352) (kx_newa kx_cc kx_cs 100 (kx_pR 9 24 100 (kx_la 0 (kx_c (kx_i 4352) (kx_newa kx_cc kx_cs 99 (kx_pR 9 25 99 (kx_la 0 (kx_c (kx_i 16) (kx_newa kx_cc kx_cs 99 (kx_pR 9 27 99 (kx_la 0 (kx_c (kx_i 16) (kx_newa kx_cc kx_cs 101 (kx_pR 9 28 101 (kx_la 0 (kx_c (kx_i 16) (kx_newa kx_cc kx_cs 100 (kx_pR 9 29 100 (kx_la 0 (kx_c (kx_i 256) (kx_newa kx_cc kx_cs 99 (kx_pR 9 31 99 (kx_la 0 (kx_c (kx_i 256) (kx_newa kx_cc kx_cs 99 (kx_pR 9 32 99 (kx_la 0 (kx_c (kx_i 256) (kx_newa kx_cc kx_cs 99 (kx_pR 9 33 99 (kx_la 0 (kx_c (kx_i 256) (kx_newa kx_cc kx_cs 99 (kx_pR 9 35 99 (kx_la 0 (kx_c (kx_i 256) (kx_newa kx_cc kx_cs 99 (kx_pR 9 36 99 (kx_la 0 (kx_c (kx_i 256) (kx_newa kx_cc kx_cs 101 (kx_pR 9 37 101 (kx_la 0 (kx_c (kx_i 512) (kx_newa kx_cc kx_cs 99 (kx_pR 9 39 99 (kx_la 0 (kx_c (kx_i 512) (kx_newa kx_cc kx_cs 100 (kx_pR 9 40 100 (kx_la 0 (kx_gR 9 4 101 (kx_c (kx_i 0) (kx_c (kx_i 1) (kx_asB 101 (kx_la 0 (kx_gR 9 9 99 (kx_c (kx_i 0) (kx_c (kx_i (-1)) (kx_asI 99 (kx_la 0 (kx_gR 9 6 99 (kx_c (kx_i 0) (kx_c (kx_i (-1)) (kx_asI 99 kx_rv)))))))))))))))))))))))))))))))))))))))))))))))))))))))))))))))))))))))))))))))))))))))))))))))))))))))))))))))))))))))))))))))))))))
def bm_88 (d : Nat) (C : kx_C) (b : Nat) (J : Nat → kx_F) : kx_F := bif Nat.beq b 0 then bk_88_0 d C J else fun _ _ _ => none
set_option maxRecDepth 20000 in
theorem sk_88_0 (X : kx_X p l e R s m args below meth c s0 D cA 1 ι0 h0 rr hf prog_11_method_1_code "TaskDeskModel" C d (Option.none : Option Jvm.ClassFile.FieldType) "<init>" J) : kx_Sn p l e R s m args below meth c s0 D cA 1 ι0 h0 rr hf 0 (bk_88_0 d C J) := by
  obtain ⟨G, CS, R9, O9, RT, NM, T0, FL, JS⟩ := X
  exact (kx_s_aload_n (j := 0) G rfl (by decide +kernel) (kx_s_obj G kw_929 kw_103 kw_104 (by have := R9.1; omega) (by have := R9.2; omega) (by decide +kernel) (kx_s_aload_n (j := 0) G rfl (by decide +kernel) (kx_s_sipush (i := 256) G (by decide +kernel) (by decide +kernel) (kx_s_newa (at9 := .boolean) G ka_101 rfl (by decide) rfl (fun _ h => by cases h) kw_1057 (by decide +kernel) (kx_s_pRF (ty := .array .boolean) G kf_9_7 rfl NM rfl (by decide +kernel) rfl (by decide +kernel) (kx_s_aload_n (j := 0) G rfl (by decide +kernel) (kx_s_sipush (i := 256) G (by decide +kernel) (by decide +kernel) (kx_s_newa (at9 := .int) G ka_99 rfl (by decide) rfl (fun _ h => by cases h) kw_1058 (by decide +kernel) (kx_s_pRF (ty := .array .int) G kf_9_13 rfl NM rfl (by decide +kernel) rfl (by decide +kernel) (kx_s_aload_n (j := 0) G rfl (by decide +kernel) (kx_s_sipush (i := 256) G (by decide +kernel) (by decide +kernel) (kx_s_newa (at9 := .int) G ka_99 rfl (by decide) rfl (fun _ h => by cases h) kw_1058 (by decide +kernel) (kx_s_pRF (ty := .array .int) G kf_9_17 rfl NM rfl (by decide +kernel) rfl (by decide +kernel) (kx_s_aload_n (j := 0) G rfl (by decide +kernel) (kx_s_sipush (i := 256) G (by decide +kernel) (by decide +kernel) (kx_s_newa (at9 := .long) G ka_100 rfl (by decide) rfl (fun _ h => by cases h) kw_1059 (by decide +kernel) (kx_s_pRF (ty := .array .long) G kf_9_20 rfl NM rfl (by decide +kernel) rfl (by decide +kernel) (kx_s_aload_n (j := 0) G rfl (by decide +kernel) (kx_s_sipush (i := 256) G (by decide +kernel) (by decide +kernel) (kx_s_newa (at9 := .boolean) G ka_101 rfl (by decide) rfl (fun _ h => by cases h) kw_1057 (by decide +kernel) (kx_s_pRF (ty := .array .boolean) G kf_9_24 rfl NM rfl (by decide +kernel) rfl (by decide +kernel) (kx_s_aload_n (j := 0) G rfl (by decide +kernel) (kx_s_sipush (i := 256) G (by decide +kernel) (by decide +kernel) (kx_s_newa (at9 := .int) G ka_99 rfl (by decide) rfl (fun _ h => by cases h) kw_1058 (by decide +kernel) (kx_s_pRF (ty := .array .int) G kf_9_27 rfl NM rfl (by decide +kernel) rfl (by decide +kernel) (kx_s_aload_n (j := 0) G rfl (by decide +kernel) (kx_s_sipush (i := 256) G (by decide +kernel) (by decide +kernel) (kx_s_newa (at9 := .boolean) G ka_101 rfl (by decide) rfl (fun _ h => by cases h) kw_1057 (by decide +kernel) (kx_s_pRF (ty := .array .boolean) G kf_9_30 rfl NM rfl (by decide +kernel) rfl (by decide +kernel) (kx_s_aload_n (j := 0) G rfl (by decide +kernel) (kx_s_sipush (i := 256) G (by decide +kernel) (by decide +kernel) (kx_s_newa (at9 := .int) G ka_99 rfl (by decide) rfl (fun _ h => by cases h) kw_1058 (by decide +kernel) (kx_s_pRF (ty := .array .int) G kf_9_33 rfl NM rfl (by decide +kernel) rfl (by decide +kernel) (kx_s_aload_n (j := 0) G rfl (by decide +kernel) (kx_s_sipush (i := 512) G (by decide +kernel) (by decide +kernel) (kx_s_newa (at9 := .boolean) G ka_101 rfl (by decide) rfl (fun _ h => by cases h) kw_1057 (by decide +kernel) (kx_s_pRF (ty := .array .boolean) G kf_9_36 rfl NM rfl (by decide +kernel) rfl (by decide +kernel) (kx_s_aload_n (j := 0) G rfl (by decide +kernel) (kx_s_sipush (i := 512) G (by decide +kernel) (by decide +kernel) (kx_s_newa (at9 := .boolean) G ka_101 rfl (by decide) rfl (fun _ h => by cases h) kw_1057 (by decide +kernel) (kx_s_pRF (ty := .array .boolean) G kf_9_39 rfl NM rfl (by decide +kernel) rfl (by decide +kernel) (kx_s_aload_n (j := 0) G rfl (by decide +kernel) (kx_s_sipush (i := 512) G (by decide +kernel) (by decide +kernel) (kx_s_newa (at9 := .int) G ka_99 rfl (by decide) rfl (fun _ h => by cases h) kw_1058 (by decide +kernel) (kx_s_pRF (ty := .array .int) G kf_9_42 rfl NM rfl (by decide +kernel) rfl (by decide +kernel) (kx_s_aload_n (j := 0) G rfl (by decide +kernel) (kx_s_sipush (i := 8192) G (by decide +kernel) (by decide +kernel) (kx_s_newa (at9 := .int) G ka_99 rfl (by decide) rfl (fun _ h => by cases h) kw_1058 (by decide +kernel) (kx_s_pRF (ty := .array .int) G kf_9_45 rfl NM rfl (by decide +kernel) rfl (by decide +kernel) (kx_s_aload_n (j := 0) G rfl (by decide +kernel) (kx_s_sipush (i := 8192) G (by decide +kernel) (by decide +kernel) (kx_s_newa (at9 := .long) G ka_100 rfl (by decide) rfl (fun _ h => by cases h) kw_1059 (by decide +kernel) (kx_s_pRF (ty := .array .long) G kf_9_48 rfl NM rfl (by decide +kernel) rfl (by decide +kernel) (kx_s_aload_n (j := 0) G rfl (by decide +kernel) (kx_s_sipush (i := 4352) G (by decide +kernel) (by decide +kernel) (kx_s_newa (at9 := .int) G ka_99 rfl (by decide) rfl (fun _ h => by cases h) kw_1058 (by decide +kernel) (kx_s_pRF (ty := .array .int) G kf_9_51 rfl NM rfl (by decide +kernel) rfl (by decide +kernel) (kx_s_aload_n (j := 0) G rfl (by decide +kernel) (kx_s_sipush (i := 4352) G (by decide +kernel) (by decide +kernel) (kx_s_newa (at9 := .int) G ka_99 rfl (by decide) rfl (fun _ h => by cases h) kw_1058 (by decide +kernel) (kx_s_pRF (ty := .array .int) G kf_9_54 rfl NM rfl (by decide +kernel) rfl (by decide +kernel) (kx_s_aload_n (j := 0) G rfl (by decide +kernel) (kx_s_sipush (i := 4352) G (by decide +kernel) (by decide +kernel) (kx_s_newa (at9 := .boolean) G ka_101 rfl (by decide) rfl (fun _ h => by cases h) kw_1057 (by decide +kernel) (kx_s_pRF (ty := .array .boolean) G kf_9_57 rfl NM rfl (by decide +kernel) rfl (by decide +kernel) (kx_s_aload_n (j := 0) G rfl (by decide +kernel) (kx_s_sipush (i := 4352) G (by decide +kernel) (by decide +kernel) (kx_s_newa (at9 := .long) G ka_100 rfl (by decide) rfl (fun _ h => by cases h) kw_1059 (by decide +kernel) (kx_s_pRF (ty := .array .long) G kf_9_60 rfl NM rfl (by decide +kernel) rfl (by decide +kernel) (kx_s_aload_n (j := 0) G rfl (by decide +kernel) (kx_s_sipush (i := 4352) G (by decide +kernel) (by decide +kernel) (kx_s_newa (at9 := .int) G ka_99 rfl (by decide) rfl (fun _ h => by cases h) kw_1058 (by decide +kernel) (kx_s_pRF (ty := .array .int) G kf_9_63 rfl NM rfl (by decide +kernel) rfl (by decide +kernel) (kx_s_aload_n (j := 0) G rfl (by decide +kernel) (kx_s_bipush (i := 16) G (by decide +kernel) (by decide +kernel) (kx_s_newa (at9 := .int) G ka_99 rfl (by decide) rfl (fun _ h => by cases h) kw_1058 (by decide +kernel) (kx_s_pRF (ty := .array .int) G kf_9_66 rfl NM rfl (by decide +kernel) rfl (by decide +kernel) (kx_s_aload_n (j := 0) G rfl (by decide +kernel) (kx_s_bipush (i := 16) G (by decide +kernel) (by decide +kernel) (kx_s_newa (at9 := .boolean) G ka_101 rfl (by decide) rfl (fun _ h => by cases h) kw_1057 (by decide +kernel) (kx_s_pRF (ty := .array .boolean) G kf_9_69 rfl NM rfl (by decide +kernel) rfl (by decide +kernel) (kx_s_aload_n (j := 0) G rfl (by decide +kernel) (kx_s_bipush (i := 16) G (by decide +kernel) (by decide +kernel) (kx_s_newa (at9 := .long) G ka_100 rfl (by decide) rfl (fun _ h => by cases h) kw_1059 (by decide +kernel) (kx_s_pRF (ty := .array .long) G kf_9_72 rfl NM rfl (by decide +kernel) rfl (by decide +kernel) (kx_s_aload_n (j := 0) G rfl (by decide +kernel) (kx_s_sipush (i := 256) G (by decide +kernel) (by decide +kernel) (kx_s_newa (at9 := .int) G ka_99 rfl (by decide) rfl (fun _ h => by cases h) kw_1058 (by decide +kernel) (kx_s_pRF (ty := .array .int) G kf_9_75 rfl NM rfl (by decide +kernel) rfl (by decide +kernel) (kx_s_aload_n (j := 0) G rfl (by decide +kernel) (kx_s_sipush (i := 256) G (by decide +kernel) (by decide +kernel) (kx_s_newa (at9 := .int) G ka_99 rfl (by decide) rfl (fun _ h => by cases h) kw_1058 (by decide +kernel) (kx_s_pRF (ty := .array .int) G kf_9_78 rfl NM rfl (by decide +kernel) rfl (by decide +kernel) (kx_s_aload_n (j := 0) G rfl (by decide +kernel) (kx_s_sipush (i := 256) G (by decide +kernel) (by decide +kernel) (kx_s_newa (at9 := .int) G ka_99 rfl (by decide) rfl (fun _ h => by cases h) kw_1058 (by decide +kernel) (kx_s_pRF (ty := .array .int) G kf_9_81 rfl NM rfl (by decide +kernel) rfl (by decide +kernel) (kx_s_aload_n (j := 0) G rfl (by decide +kernel) (kx_s_sipush (i := 256) G (by decide +kernel) (by decide +kernel) (kx_s_newa (at9 := .int) G ka_99 rfl (by decide) rfl (fun _ h => by cases h) kw_1058 (by decide +kernel) (kx_s_pRF (ty := .array .int) G kf_9_84 rfl NM rfl (by decide +kernel) rfl (by decide +kernel) (kx_s_aload_n (j := 0) G rfl (by decide +kernel) (kx_s_sipush (i := 256) G (by decide +kernel) (by decide +kernel) (kx_s_newa (at9 := .int) G ka_99 rfl (by decide) rfl (fun _ h => by cases h) kw_1058 (by decide +kernel) (kx_s_pRF (ty := .array .int) G kf_9_87 rfl NM rfl (by decide +kernel) rfl (by decide +kernel) (kx_s_aload_n (j := 0) G rfl (by decide +kernel) (kx_s_sipush (i := 256) G (by decide +kernel) (by decide +kernel) (kx_s_newa (at9 := .boolean) G ka_101 rfl (by decide) rfl (fun _ h => by cases h) kw_1057 (by decide +kernel) (kx_s_pRF (ty := .array .boolean) G kf_9_90 rfl NM rfl (by decide +kernel) rfl (by decide +kernel) (kx_s_aload_n (j := 0) G rfl (by decide +kernel) (kx_s_sipush (i := 512) G (by decide +kernel) (by decide +kernel) (kx_s_newa (at9 := .int) G ka_99 rfl (by decide) rfl (fun _ h => by cases h) kw_1058 (by decide +kernel) (kx_s_pRF (ty := .array .int) G kf_9_93 rfl NM rfl (by decide +kernel) rfl (by decide +kernel) (kx_s_aload_n (j := 0) G rfl (by decide +kernel) (kx_s_sipush (i := 512) G (by decide +kernel) (by decide +kernel) (kx_s_newa (at9 := .long) G ka_100 rfl (by decide) rfl (fun _ h => by cases h) kw_1059 (by decide +kernel) (kx_s_pRF (ty := .array .long) G kf_9_96 rfl NM rfl (by decide +kernel) rfl (by decide +kernel) (kx_s_aload_n (j := 0) G rfl (by decide +kernel) (kx_s_gR G kf_9_7 (by decide +kernel) (kx_s_iconst (i := 0) G (by decide +kernel) (by decide +kernel) (kx_s_iconst (i := 1) G (by decide +kernel) (by decide +kernel) (kx_s_asB G ka_101 (by decide +kernel) (kx_s_aload_n (j := 0) G rfl (by decide +kernel) (kx_s_gR G kf_9_27 (by decide +kernel) (kx_s_iconst (i := 0) G (by decide +kernel) (by decide +kernel) (kx_s_iconst (i := -1) G (by decide +kernel) (by decide +kernel) (kx_s_asI G ka_99 (by decide +kernel) (kx_s_aload_n (j := 0) G rfl (by decide +kernel) (kx_s_gR G kf_9_17 (by decide +kernel) (kx_s_iconst (i := 0) G (by decide +kernel) (by decide +kernel) (kx_s_iconst (i := -1) G (by decide +kernel) (by decide +kernel) (kx_s_asI G ka_99 (by decide +kernel) (kx_s_return G RT (by decide +kernel)))))))))))))))))))))))))))))))))))))))))))))))))))))))))))))))))))))))))))))))))))))))))))))))))))))))))))))))))))))))))))))))))))))))
theorem sm_88 (X : kx_X p l e R s m args below meth c s0 D cA 1 ι0 h0 rr hf prog_11_method_1_code "TaskDeskModel" C d (Option.none : Option Jvm.ClassFile.FieldType) "<init>" J) (b : Nat) : kx_Sn p l e R s m args below meth c s0 D cA 1 ι0 h0 rr hf b (bm_88 d C b J) := by
  unfold bm_88
  cases h0 : Nat.beq b 0 with
  | true => rw [Nat.eq_of_beq_eq_true h0]; exact sk_88_0 X
  | false =>
   exact kx_s_no
/-! TaskDeskModel.thrown()I -/
def bk_89_0 (d : Nat) (C : kx_C) (J : Nat → kx_F) : kx_F := (kx_la 0 (kx_gI 9 0 kx_ri))
def bm_89 (d : Nat) (C : kx_C) (b : Nat) (J : Nat → kx_F) : kx_F := bif Nat.beq b 0 then bk_89_0 d C J else fun _ _ _ => none
set_option maxRecDepth 20000 in
theorem sk_89_0 (X : kx_X p l e R s m args below meth c s0 D cA 1 ι0 h0 rr hf prog_11_method_2_code "TaskDeskModel" C d (Option.some Jvm.ClassFile.FieldType.int) "thrown" J) : kx_Sn p l e R s m args below meth c s0 D cA 1 ι0 h0 rr hf 0 (bk_89_0 d C J) := by
  obtain ⟨G, CS, R9, O9, RT, NM, T0, FL, JS⟩ := X
  exact (kx_s_aload_n (j := 0) G rfl (by decide +kernel) (kx_s_gI G kf_9_99 (by decide +kernel) (kx_s_ireturn G RT (by decide +kernel))))
theorem sm_89 (X : kx_X p l e R s m args below meth c s0 D cA 1 ι0 h0 rr hf prog_11_method_2_code "TaskDeskModel" C d (Option.some Jvm.ClassFile.FieldType.int) "thrown" J) (b : Nat) : kx_Sn p l e R s m args below meth c s0 D cA 1 ι0 h0 rr hf b (bm_89 d C b J) := by
  unfold bm_89
  cases h0 : Nat.beq b 0 with
  | true => rw [Nat.eq_of_beq_eq_true h0]; exact sk_89_0 X
  | false =>
   exact kx_s_no
/-! TaskDeskModel.channel(I)I -/
def bk_90_0 (d : Nat) (C : kx_C) (J : Nat → kx_F) : kx_F := (kx_la 0 (kx_c (kx_i 0) (kx_pI 9 0 (kx_li 1 (kx_iflt (kx_nm [0] (J 16)) (kx_li 1 (kx_c (kx_i 8192) (kx_cle (kx_c (kx_i 0) (kx_si 2 (kx_nm [0, 1, 2] (J 24)))) (kx_nm [0] (J 16))))))))))
def bk_90_16 (d : Nat) (C : kx_C) (J : Nat → kx_F) : kx_F := (kx_la 0 (kx_c (kx_i 1) (kx_Vi C 91 9 [0] kx_ri)))
def bk_90_24 (d : Nat) (C : kx_C) (J : Nat → kx_F) : kx_F := (kx_li 2 (kx_c (kx_i 512) (kx_cge (kx_nm [0, 1, 2] (J 46)) (kx_la 0 (kx_gR 9 13 101 (kx_li 2 (kx_aB 101 (kx_ifeq (kx_nm [0, 1, 2] (J 46)) (kx_inc 2 1 (kx_nm [0, 1, 2] (J 24)))))))))))
def bk_90_46 (d : Nat) (C : kx_C) (J : Nat → kx_F) : kx_F := (kx_li 2 (kx_c (kx_i 512) (kx_ceq (kx_nm [0] (J 65)) (kx_la 0 (kx_gI 9 16 (kx_li 1 (kx_ii (fun x y => x + y) (kx_c (kx_i 8192) (kx_cle (kx_la 0 (kx_gR 9 13 101 (kx_li 2 (kx_c (kx_i 1) (kx_asB 101 (kx_la 0 (kx_gR 9 14 101 (kx_li 2 (kx_c (kx_i 0) (kx_asB 101 (kx_la 0 (kx_gR 9 15 99 (kx_li 2 (kx_li 1 (kx_asI 99 (kx_la 0 (kx_dup (kx_gI 9 16 (kx_li 1 (kx_ii (fun x y => x + y) (kx_pI 9 16 (kx_li 2 kx_ri)))))))))))))))))))))) (kx_nm [0] (J 65)))))))))))
def bk_90_65 (d : Nat) (C : kx_C) (J : Nat → kx_F) : kx_F := (kx_la 0 (kx_c (kx_i 2) (kx_Vi C 91 9 [0] kx_ri)))
def bm_90 (d : Nat) (C : kx_C) (b : Nat) (J : Nat → kx_F) : kx_F := bif Nat.beq b 0 then bk_90_0 d C J else bif Nat.beq b 16 then bk_90_16 d C J else bif Nat.beq b 24 then bk_90_24 d C J else bif Nat.beq b 46 then bk_90_46 d C J else bif Nat.beq b 65 then bk_90_65 d C J else fun _ _ _ => none
set_option maxRecDepth 20000 in
theorem sk_90_0 (X : kx_X p l e R s m args below meth c s0 D cA 3 ι0 h0 rr hf prog_11_method_23_code "TaskDeskModel" C d (Option.some Jvm.ClassFile.FieldType.int) "channel" J) : kx_Sn p l e R s m args below meth c s0 D cA 3 ι0 h0 rr hf 0 (bk_90_0 d C J) := by
  obtain ⟨G, CS, R9, O9, RT, NM, T0, FL, JS⟩ := X
  exact (kx_s_aload_n (j := 0) G rfl (by decide +kernel) (kx_s_iconst (i := 0) G (by decide +kernel) (by decide +kernel) (kx_s_pI G kf_9_99 rfl (by decide +kernel) (by decide +kernel) (kx_s_iload_n (j := 1) G rfl (by decide +kernel) (kx_s_iflt (off := 10) (tgt := 16) G (by decide +kernel) rfl (kx_s_nm (JS 16)) (kx_s_iload_n (j := 1) G rfl (by decide +kernel) (kx_s_sipush (i := 8192) G (by decide +kernel) (by decide +kernel) (kx_s_cle (off := 9) (tgt := 22) G (by decide +kernel) rfl (kx_s_iconst (i := 0) G (by decide +kernel) (by decide +kernel) (kx_s_istore_n (j := 2) G rfl (by decide +kernel) (by decide) (kx_s_nm (JS 24)))) (kx_s_nm (JS 16))))))))))
set_option maxRecDepth 20000 in
theorem sk_90_16 (X : kx_X p l e R s m args below meth c s0 D cA 3 ι0 h0 rr hf prog_11_method_23_code "TaskDeskModel" C d (Option.some Jvm.ClassFile.FieldType.int) "channel" J) : kx_Sn p l e R s m args below meth c s0 D cA 3 ι0 h0 rr hf 16 (bk_90_16 d C J) := by
  obtain ⟨G, CS, R9, O9, RT, NM, T0, FL, JS⟩ := X
  exact (kx_s_aload_n (j := 0) G rfl (by decide +kernel) (kx_s_iconst (i := 1) G (by decide +kernel) (by decide +kernel) (kx_s_Vi (n := 91) G kx_good CS R9 (O9 _) kc_91 rfl kw_1068 kw_1070 kw_41 (r := kr_9) rfl (by decide) (by decide +kernel) (kx_s_ireturn G RT (by decide +kernel)))))
set_option maxRecDepth 20000 in
theorem sk_90_24 (X : kx_X p l e R s m args below meth c s0 D cA 3 ι0 h0 rr hf prog_11_method_23_code "TaskDeskModel" C d (Option.some Jvm.ClassFile.FieldType.int) "channel" J) : kx_Sn p l e R s m args below meth c s0 D cA 3 ι0 h0 rr hf 24 (bk_90_24 d C J) := by
  obtain ⟨G, CS, R9, O9, RT, NM, T0, FL, JS⟩ := X
  exact (kx_s_iload_n (j := 2) G rfl (by decide +kernel) (kx_s_sipush (i := 512) G (by decide +kernel) (by decide +kernel) (kx_s_cge (off := 18) (tgt := 46) G (by decide +kernel) rfl (kx_s_nm (JS 46)) (kx_s_aload_n (j := 0) G rfl (by decide +kernel) (kx_s_gR G kf_9_36 (by decide +kernel) (kx_s_iload_n (j := 2) G rfl (by decide +kernel) (kx_s_aB G ka_101 (by decide +kernel) (kx_s_ifeq (off := 9) (tgt := 46) G (by decide +kernel) rfl (kx_s_nm (JS 46)) (kx_s_iinc (n := 1) G (by decide +kernel) (by decide +kernel) (by decide) (kx_s_goto (off := -19) (tgt := 24) G (by decide +kernel) rfl (kx_s_nm (JS 24))))))))))))
set_option maxRecDepth 20000 in
theorem sk_90_46 (X : kx_X p l e R s m args below meth c s0 D cA 3 ι0 h0 rr hf prog_11_method_23_code "TaskDeskModel" C d (Option.some Jvm.ClassFile.FieldType.int) "channel" J) : kx_Sn p l e R s m args below meth c s0 D cA 3 ι0 h0 rr hf 46 (bk_90_46 d C J) := by
  obtain ⟨G, CS, R9, O9, RT, NM, T0, FL, JS⟩ := X
  exact (kx_s_iload_n (j := 2) G rfl (by decide +kernel) (kx_s_sipush (i := 512) G (by decide +kernel) (by decide +kernel) (kx_s_ceq (off := 15) (tgt := 65) G (by decide +kernel) rfl (kx_s_nm (JS 65)) (kx_s_aload_n (j := 0) G rfl (by decide +kernel) (kx_s_gI G kf_9_173 (by decide +kernel) (kx_s_iload_n (j := 1) G rfl (by decide +kernel) (kx_s_iadd G (by decide +kernel) (kx_s_sipush (i := 8192) G (by decide +kernel) (by decide +kernel) (kx_s_cle (off := 9) (tgt := 71) G (by decide +kernel) rfl (kx_s_aload_n (j := 0) G rfl (by decide +kernel) (kx_s_gR G kf_9_36 (by decide +kernel) (kx_s_iload_n (j := 2) G rfl (by decide +kernel) (kx_s_iconst (i := 1) G (by decide +kernel) (by decide +kernel) (kx_s_asB G ka_101 (by decide +kernel) (kx_s_aload_n (j := 0) G rfl (by decide +kernel) (kx_s_gR G kf_9_39 (by decide +kernel) (kx_s_iload_n (j := 2) G rfl (by decide +kernel) (kx_s_iconst (i := 0) G (by decide +kernel) (by decide +kernel) (kx_s_asB G ka_101 (by decide +kernel) (kx_s_aload_n (j := 0) G rfl (by decide +kernel) (kx_s_gR G kf_9_42 (by decide +kernel) (kx_s_iload_n (j := 2) G rfl (by decide +kernel) (kx_s_iload_n (j := 1) G rfl (by decide +kernel) (kx_s_asI G ka_99 (by decide +kernel) (kx_s_aload_n (j := 0) G rfl (by decide +kernel) (kx_s_dup G (by decide +kernel) (kx_s_gI G kf_9_173 (by decide +kernel) (kx_s_iload_n (j := 1) G rfl (by decide +kernel) (kx_s_iadd G (by decide +kernel) (kx_s_pI G kf_9_173 rfl (by decide +kernel) (by decide +kernel) (kx_s_iload_n (j := 2) G rfl (by decide +kernel) (kx_s_ireturn G RT (by decide +kernel)))))))))))))))))))))))) (kx_s_nm (JS 65)))))))))))
set_option maxRecDepth 20000 in
theorem sk_90_65 (X : kx_X p l e R s m args below meth c s0 D cA 3 ι0 h0 rr hf prog_11_method_23_code "TaskDeskModel" C d (Option.some Jvm.ClassFile.FieldType.int) "channel" J) : kx_Sn p l e R s m args below meth c s0 D cA 3 ι0 h0 rr hf 65 (bk_90_65 d C J) := by
  obtain ⟨G, CS, R9, O9, RT, NM, T0, FL, JS⟩ := X
  exact (kx_s_aload_n (j := 0) G rfl (by decide +kernel) (kx_s_iconst (i := 2) G (by decide +kernel) (by decide +kernel) (kx_s_Vi (n := 91) G kx_good CS R9 (O9 _) kc_91 rfl kw_1068 kw_1070 kw_41 (r := kr_9) rfl (by decide) (by decide +kernel) (kx_s_ireturn G RT (by decide +kernel)))))
theorem sm_90 (X : kx_X p l e R s m args below meth c s0 D cA 3 ι0 h0 rr hf prog_11_method_23_code "TaskDeskModel" C d (Option.some Jvm.ClassFile.FieldType.int) "channel" J) (b : Nat) : kx_Sn p l e R s m args below meth c s0 D cA 3 ι0 h0 rr hf b (bm_90 d C b J) := by
  unfold bm_90
  cases h0 : Nat.beq b 0 with
  | true => rw [Nat.eq_of_beq_eq_true h0]; exact sk_90_0 X
  | false =>
   cases h16 : Nat.beq b 16 with
   | true => rw [Nat.eq_of_beq_eq_true h16]; exact sk_90_16 X
   | false =>
    cases h24 : Nat.beq b 24 with
    | true => rw [Nat.eq_of_beq_eq_true h24]; exact sk_90_24 X
    | false =>
     cases h46 : Nat.beq b 46 with
     | true => rw [Nat.eq_of_beq_eq_true h46]; exact sk_90_46 X
     | false =>
      cases h65 : Nat.beq b 65 with
      | true => rw [Nat.eq_of_beq_eq_true h65]; exact sk_90_65 X
      | false =>
       exact kx_s_no
/-! TaskDeskModel.fail(I)I -/
def bk_91_0 (d : Nat) (C : kx_C) (J : Nat → kx_F) : kx_F := (kx_la 0 (kx_li 1 (kx_pI 9 0 (kx_c (kx_i 0) kx_ri))))
def bm_91 (d : Nat) (C : kx_C) (b : Nat) (J : Nat → kx_F) : kx_F := bif Nat.beq b 0 then bk_91_0 d C J else fun _ _ _ => none
set_option maxRecDepth 20000 in
theorem sk_91_0 (X : kx_X p l e R s m args below meth c s0 D cA 2 ι0 h0 rr hf prog_11_method_3_code "TaskDeskModel" C d (Option.some Jvm.ClassFile.FieldType.int) "fail" J) : kx_Sn p l e R s m args below meth c s0 D cA 2 ι0 h0 rr hf 0 (bk_91_0 d C J) := by
  obtain ⟨G, CS, R9, O9, RT, NM, T0, FL, JS⟩ := X
  exact (kx_s_aload_n (j := 0) G rfl (by decide +kernel) (kx_s_iload_n (j := 1) G rfl (by decide +kernel) (kx_s_pI G kf_9_99 rfl (by decide +kernel) (by decide +kernel) (kx_s_iconst (i := 0) G (by decide +kernel) (by decide +kernel) (kx_s_ireturn G RT (by decide +kernel))))))
theorem sm_91 (X : kx_X p l e R s m args below meth c s0 D cA 2 ι0 h0 rr hf prog_11_method_3_code "TaskDeskModel" C d (Option.some Jvm.ClassFile.FieldType.int) "fail" J) (b : Nat) : kx_Sn p l e R s m args below meth c s0 D cA 2 ι0 h0 rr hf b (bm_91 d C b J) := by
  unfold bm_91
  cases h0 : Nat.beq b 0 with
  | true => rw [Nat.eq_of_beq_eq_true h0]; exact sk_91_0 X
  | false =>
   exact kx_s_no
/-! TaskDeskModel.release(I)Z -/
def bk_92_0 (d : Nat) (C : kx_C) (J : Nat → kx_F) : kx_F := (kx_la 0 (kx_c (kx_i 0) (kx_pI 9 0 (kx_la 0 (kx_li 1 (kx_Vi C 93 9 [0] (kx_ifeq (kx_nm [] (J 31)) (kx_la 0 (kx_li 1 (kx_c (kx_i 1) (kx_Vi C 94 9 [0, 0] (kx_ifge (kx_nm [] (J 31)) (kx_la 0 (kx_li 1 (kx_c (kx_i 0) (kx_Vi C 94 9 [0, 0] (kx_iflt (kx_c (kx_i 0) (kx_si 2 (kx_nm [0, 1, 2] (J 35)))) (kx_nm [] (J 31)))))))))))))))))))
def bk_92_31 (d : Nat) (C : kx_C) (J : Nat → kx_F) : kx_F := (kx_c (kx_i 0) kx_rz)
def bk_92_35 (d : Nat) (C : kx_C) (J : Nat → kx_F) : kx_F := (kx_li 2 (kx_la 0 (kx_gI 9 38 (kx_cge (kx_c (kx_i 0) (kx_si 2 (kx_nm [0, 1, 2] (J 65)))) (kx_la 0 (kx_gR 9 39 99 (kx_li 2 (kx_aI 99 (kx_c (kx_i (-1)) (kx_li 1 (kx_ii (fun x y => x - y) (kx_cne (kx_inc 2 1 (kx_nm [0, 1, 2] (J 35))) (kx_c (kx_i 0) kx_rz)))))))))))))
def bk_92_65 (d : Nat) (C : kx_C) (J : Nat → kx_F) : kx_F := (kx_li 2 (kx_la 0 (kx_gI 9 26 (kx_cge (kx_nm [0, 1] (J 91)) (kx_la 0 (kx_gR 9 27 99 (kx_li 2 (kx_aI 99 (kx_li 1 (kx_cne (kx_inc 2 1 (kx_nm [0, 1, 2] (J 65))) (kx_c (kx_i 0) kx_rz)))))))))))
def bk_92_91 (d : Nat) (C : kx_C) (J : Nat → kx_F) : kx_F := (kx_la 0 (kx_li 1 (kx_Vi C 95 9 [0] (kx_ifle (kx_la 0 (kx_gR 9 13 101 (kx_li 1 (kx_c (kx_i 0) (kx_asB 101 (kx_la 0 (kx_dup (kx_gI 9 16 (kx_la 0 (kx_gR 9 15 99 (kx_li 1 (kx_aI 99 (kx_ii (fun x y => x - y) (kx_pI 9 16 (kx_c (kx_i 1) kx_rz))))))))))))))) (kx_la 0 (kx_li 1 (kx_Vl C 96 9 [0] (kx_sl 2 (kx_la 0 (kx_gR 9 19 100 (kx_la 0 (kx_gI 9 17 (kx_ll 2 (kx_asL 100 (kx_nm [0, 1] (J 91))))))))))))))))
def bm_92 (d : Nat) (C : kx_C) (b : Nat) (J : Nat → kx_F) : kx_F := bif Nat.beq b 0 then bk_92_0 d C J else bif Nat.beq b 31 then bk_92_31 d C J else bif Nat.beq b 35 then bk_92_35 d C J else bif Nat.beq b 65 then bk_92_65 d C J else bif Nat.beq b 91 then bk_92_91 d C J else fun _ _ _ => none
set_option maxRecDepth 20000 in
theorem sk_92_0 (X : kx_X p l e R s m args below meth c s0 D cA 4 ι0 h0 rr hf prog_11_method_24_code "TaskDeskModel" C d (Option.some Jvm.ClassFile.FieldType.boolean) "release" J) : kx_Sn p l e R s m args below meth c s0 D cA 4 ι0 h0 rr hf 0 (bk_92_0 d C J) := by
  obtain ⟨G, CS, R9, O9, RT, NM, T0, FL, JS⟩ := X
  exact (kx_s_aload_n (j := 0) G rfl (by decide +kernel) (kx_s_iconst (i := 0) G (by decide +kernel) (by decide +kernel) (kx_s_pI G kf_9_99 rfl (by decide +kernel) (by decide +kernel) (kx_s_aload_n (j := 0) G rfl (by decide +kernel) (kx_s_iload_n (j := 1) G rfl (by decide +kernel) (kx_s_Vi (n := 93) G kx_good CS R9 (O9 _) kc_93 rfl kw_1076 kw_1078 kw_42 (r := kr_9) rfl (by decide) (by decide +kernel) (kx_s_ifeq (off := 21) (tgt := 31) G (by decide +kernel) rfl (kx_s_nm (JS 31)) (kx_s_aload_n (j := 0) G rfl (by decide +kernel) (kx_s_iload_n (j := 1) G rfl (by decide +kernel) (kx_s_iconst (i := 1) G (by decide +kernel) (by decide +kernel) (kx_s_Vi (n := 94) G kx_good CS R9 (O9 _) kc_94 rfl kw_1080 kw_1082 kw_43 (r := kr_9) rfl (by decide) (by decide +kernel) (kx_s_ifge (off := 12) (tgt := 31) G (by decide +kernel) rfl (kx_s_nm (JS 31)) (kx_s_aload_n (j := 0) G rfl (by decide +kernel) (kx_s_iload_n (j := 1) G rfl (by decide +kernel) (kx_s_iconst (i := 0) G (by decide +kernel) (by decide +kernel) (kx_s_Vi (n := 94) G kx_good CS R9 (O9 _) kc_94 rfl kw_1080 kw_1082 kw_43 (r := kr_9) rfl (by decide) (by decide +kernel) (kx_s_iflt (off := 5) (tgt := 33) G (by decide +kernel) rfl (kx_s_iconst (i := 0) G (by decide +kernel) (by decide +kernel) (kx_s_istore_n (j := 2) G rfl (by decide +kernel) (by decide) (kx_s_nm (JS 35)))) (kx_s_nm (JS 31)))))))))))))))))))
set_option maxRecDepth 20000 in
theorem sk_92_31 (X : kx_X p l e R s m args below meth c s0 D cA 4 ι0 h0 rr hf prog_11_method_24_code "TaskDeskModel" C d (Option.some Jvm.ClassFile.FieldType.boolean) "release" J) : kx_Sn p l e R s m args below meth c s0 D cA 4 ι0 h0 rr hf 31 (bk_92_31 d C J) := by
  obtain ⟨G, CS, R9, O9, RT, NM, T0, FL, JS⟩ := X
  exact (kx_s_iconst (i := 0) G (by decide +kernel) (by decide +kernel) (kx_s_zreturn G RT (by decide +kernel)))
set_option maxRecDepth 20000 in
theorem sk_92_35 (X : kx_X p l e R s m args below meth c s0 D cA 4 ι0 h0 rr hf prog_11_method_24_code "TaskDeskModel" C d (Option.some Jvm.ClassFile.FieldType.boolean) "release" J) : kx_Sn p l e R s m args below meth c s0 D cA 4 ι0 h0 rr hf 35 (bk_92_35 d C J) := by
  obtain ⟨G, CS, R9, O9, RT, NM, T0, FL, JS⟩ := X
  exact (kx_s_iload_n (j := 2) G rfl (by decide +kernel) (kx_s_aload_n (j := 0) G rfl (by decide +kernel) (kx_s_gI G kf_9_112 (by decide +kernel) (kx_s_cge (off := 23) (tgt := 63) G (by decide +kernel) rfl (kx_s_iconst (i := 0) G (by decide +kernel) (by decide +kernel) (kx_s_istore_n (j := 2) G rfl (by decide +kernel) (by decide) (kx_s_nm (JS 65)))) (kx_s_aload_n (j := 0) G rfl (by decide +kernel) (kx_s_gR G kf_9_93 (by decide +kernel) (kx_s_iload_n (j := 2) G rfl (by decide +kernel) (kx_s_aI G ka_99 (by decide +kernel) (kx_s_iconst (i := -1) G (by decide +kernel) (by decide +kernel) (kx_s_iload_n (j := 1) G rfl (by decide +kernel) (kx_s_isub G (by decide +kernel) (kx_s_cne (off := 5) (tgt := 57) G (by decide +kernel) rfl (kx_s_iinc (n := 1) G (by decide +kernel) (by decide +kernel) (by decide) (kx_s_goto (off := -25) (tgt := 35) G (by decide +kernel) rfl (kx_s_nm (JS 35)))) (kx_s_iconst (i := 0) G (by decide +kernel) (by decide +kernel) (kx_s_zreturn G RT (by decide +kernel)))))))))))))))
set_option maxRecDepth 20000 in
theorem sk_92_65 (X : kx_X p l e R s m args below meth c s0 D cA 4 ι0 h0 rr hf prog_11_method_24_code "TaskDeskModel" C d (Option.some Jvm.ClassFile.FieldType.boolean) "release" J) : kx_Sn p l e R s m args below meth c s0 D cA 4 ι0 h0 rr hf 65 (bk_92_65 d C J) := by
  obtain ⟨G, CS, R9, O9, RT, NM, T0, FL, JS⟩ := X
  exact (kx_s_iload_n (j := 2) G rfl (by decide +kernel) (kx_s_aload_n (j := 0) G rfl (by decide +kernel) (kx_s_gI G kf_9_180 (by decide +kernel) (kx_s_cge (off := 21) (tgt := 91) G (by decide +kernel) rfl (kx_s_nm (JS 91)) (kx_s_aload_n (j := 0) G rfl (by decide +kernel) (kx_s_gR G kf_9_66 (by decide +kernel) (kx_s_iload_n (j := 2) G rfl (by decide +kernel) (kx_s_aI G ka_99 (by decide +kernel) (kx_s_iload_n (j := 1) G rfl (by decide +kernel) (kx_s_cne (off := 5) (tgt := 85) G (by decide +kernel) rfl (kx_s_iinc (n := 1) G (by decide +kernel) (by decide +kernel) (by decide) (kx_s_goto (off := -23) (tgt := 65) G (by decide +kernel) rfl (kx_s_nm (JS 65)))) (kx_s_iconst (i := 0) G (by decide +kernel) (by decide +kernel) (kx_s_zreturn G RT (by decide +kernel)))))))))))))
set_option maxRecDepth 20000 in
theorem sk_92_91 (X : kx_X p l e R s m args below meth c s0 D cA 4 ι0 h0 rr hf prog_11_method_24_code "TaskDeskModel" C d (Option.some Jvm.ClassFile.FieldType.boolean) "release" J) : kx_Sn p l e R s m args below meth c s0 D cA 4 ι0 h0 rr hf 91 (bk_92_91 d C J) := by
  obtain ⟨G, CS, R9, O9, RT, NM, T0, FL, JS⟩ := X
  exact (kx_s_aload_n (j := 0) G rfl (by decide +kernel) (kx_s_iload_n (j := 1) G rfl (by decide +kernel) (kx_s_Vi (n := 95) G kx_good CS R9 (O9 _) kc_95 rfl kw_1084 kw_1086 kw_44 (r := kr_9) rfl (by decide) (by decide +kernel) (kx_s_ifle (off := 22) (tgt := 118) G (by decide +kernel) rfl (kx_s_aload_n (j := 0) G rfl (by decide +kernel) (kx_s_gR G kf_9_36 (by decide +kernel) (kx_s_iload_n (j := 1) G rfl (by decide +kernel) (kx_s_iconst (i := 0) G (by decide +kernel) (by decide +kernel) (kx_s_asB G ka_101 (by decide +kernel) (kx_s_aload_n (j := 0) G rfl (by decide +kernel) (kx_s_dup G (by decide +kernel) (kx_s_gI G kf_9_173 (by decide +kernel) (kx_s_aload_n (j := 0) G rfl (by decide +kernel) (kx_s_gR G kf_9_42 (by decide +kernel) (kx_s_iload_n (j := 1) G rfl (by decide +kernel) (kx_s_aI G ka_99 (by decide +kernel) (kx_s_isub G (by decide +kernel) (kx_s_pI G kf_9_173 rfl (by decide +kernel) (by decide +kernel) (kx_s_iconst (i := 1) G (by decide +kernel) (by decide +kernel) (kx_s_zreturn G RT (by decide +kernel))))))))))))))))) (kx_s_aload_n (j := 0) G rfl (by decide +kernel) (kx_s_iload_n (j := 1) G rfl (by decide +kernel) (kx_s_Vl (n := 96) G kx_good CS R9 (O9 _) kc_96 rfl kw_1088 kw_1090 kw_45 (r := kr_9) rfl (by decide) (by decide +kernel) (kx_s_lstore_n (j := 2) G rfl (by decide +kernel) (by decide) (kx_s_aload_n (j := 0) G rfl (by decide +kernel) (kx_s_gR G kf_9_48 (by decide +kernel) (kx_s_aload_n (j := 0) G rfl (by decide +kernel) (kx_s_gI G kf_9_146 (by decide +kernel) (kx_s_lload_n (j := 2) G rfl (by decide +kernel) (kx_s_asL G ka_100 (by decide +kernel) (kx_s_goto (off := -24) (tgt := 91) G (by decide +kernel) rfl (kx_s_nm (JS 91)))))))))))))))))
theorem sm_92 (X : kx_X p l e R s m args below meth c s0 D cA 4 ι0 h0 rr hf prog_11_method_24_code "TaskDeskModel" C d (Option.some Jvm.ClassFile.FieldType.boolean) "release" J) (b : Nat) : kx_Sn p l e R s m args below meth c s0 D cA 4 ι0 h0 rr hf b (bm_92 d C b J) := by
  unfold bm_92
  cases h0 : Nat.beq b 0 with
  | true => rw [Nat.eq_of_beq_eq_true h0]; exact sk_92_0 X
  | false =>
   cases h31 : Nat.beq b 31 with
   | true => rw [Nat.eq_of_beq_eq_true h31]; exact sk_92_31 X
   | false =>
    cases h35 : Nat.beq b 35 with
    | true => rw [Nat.eq_of_beq_eq_true h35]; exact sk_92_35 X
    | false =>
     cases h65 : Nat.beq b 65 with
     | true => rw [Nat.eq_of_beq_eq_true h65]; exact sk_92_65 X
     | false =>
      cases h91 : Nat.beq b 91 with
      | true => rw [Nat.eq_of_beq_eq_true h91]; exact sk_92_91 X
      | false =>
       exact kx_s_no
/-! TaskDeskModel.isChannel(I)Z -/
def bk_93_0 (d : Nat) (C : kx_C) (J : Nat → kx_F) : kx_F := (kx_li 1 (kx_iflt (kx_nm [] (J 24)) (kx_li 1 (kx_c (kx_i 512) (kx_cge (kx_nm [] (J 24)) (kx_la 0 (kx_gR 9 13 101 (kx_li 1 (kx_aB 101 (kx_ifeq (kx_nm [] (J 24)) (kx_c (kx_i 1) (kx_nm [] (J 25)))))))))))))
def bk_93_24 (d : Nat) (C : kx_C) (J : Nat → kx_F) : kx_F := (kx_c (kx_i 0) (kx_nm [] (J 25)))
def bk_93_25 (d : Nat) (C : kx_C) (J : Nat → kx_F) : kx_F := kx_rz
def bm_93 (d : Nat) (C : kx_C) (b : Nat) (J : Nat → kx_F) : kx_F := bif Nat.beq b 0 then bk_93_0 d C J else bif Nat.beq b 24 then bk_93_24 d C J else bif Nat.beq b 25 then bk_93_25 d C J else fun _ _ _ => none
set_option maxRecDepth 20000 in
theorem sk_93_0 (X : kx_X p l e R s m args below meth c s0 D cA 2 ι0 h0 rr hf prog_11_method_11_code "TaskDeskModel" C d (Option.some Jvm.ClassFile.FieldType.boolean) "isChannel" J) : kx_Sn p l e R s m args below meth c s0 D cA 2 ι0 h0 rr hf 0 (bk_93_0 d C J) := by
  obtain ⟨G, CS, R9, O9, RT, NM, T0, FL, JS⟩ := X
  exact (kx_s_iload_n (j := 1) G rfl (by decide +kernel) (kx_s_iflt (off := 23) (tgt := 24) G (by decide +kernel) rfl (kx_s_nm (JS 24)) (kx_s_iload_n (j := 1) G rfl (by decide +kernel) (kx_s_sipush (i := 512) G (by decide +kernel) (by decide +kernel) (kx_s_cge (off := 16) (tgt := 24) G (by decide +kernel) rfl (kx_s_nm (JS 24)) (kx_s_aload_n (j := 0) G rfl (by decide +kernel) (kx_s_gR G kf_9_36 (by decide +kernel) (kx_s_iload_n (j := 1) G rfl (by decide +kernel) (kx_s_aB G ka_101 (by decide +kernel) (kx_s_ifeq (off := 7) (tgt := 24) G (by decide +kernel) rfl (kx_s_nm (JS 24)) (kx_s_iconst (i := 1) G (by decide +kernel) (by decide +kernel) (kx_s_goto (off := 4) (tgt := 25) G (by decide +kernel) rfl (kx_s_nm (JS 25))))))))))))))
set_option maxRecDepth 20000 in
theorem sk_93_24 (X : kx_X p l e R s m args below meth c s0 D cA 2 ι0 h0 rr hf prog_11_method_11_code "TaskDeskModel" C d (Option.some Jvm.ClassFile.FieldType.boolean) "isChannel" J) : kx_Sn p l e R s m args below meth c s0 D cA 2 ι0 h0 rr hf 24 (bk_93_24 d C J) := by
  obtain ⟨G, CS, R9, O9, RT, NM, T0, FL, JS⟩ := X
  exact (kx_s_iconst (i := 0) G (by decide +kernel) (by decide +kernel) (kx_s_nm (JS 25)))
set_option maxRecDepth 20000 in
theorem sk_93_25 (X : kx_X p l e R s m args below meth c s0 D cA 2 ι0 h0 rr hf prog_11_method_11_code "TaskDeskModel" C d (Option.some Jvm.ClassFile.FieldType.boolean) "isChannel" J) : kx_Sn p l e R s m args below meth c s0 D cA 2 ι0 h0 rr hf 25 (bk_93_25 d C J) := by
  obtain ⟨G, CS, R9, O9, RT, NM, T0, FL, JS⟩ := X
  exact (kx_s_zreturn G RT (by decide +kernel))
theorem sm_93 (X : kx_X p l e R s m args below meth c s0 D cA 2 ι0 h0 rr hf prog_11_method_11_code "TaskDeskModel" C d (Option.some Jvm.ClassFile.FieldType.boolean) "isChannel" J) (b : Nat) : kx_Sn p l e R s m args below meth c s0 D cA 2 ι0 h0 rr hf b (bm_93 d C b J) := by
  unfold bm_93
  cases h0 : Nat.beq b 0 with
  | true => rw [Nat.eq_of_beq_eq_true h0]; exact sk_93_0 X
  | false =>
   cases h24 : Nat.beq b 24 with
   | true => rw [Nat.eq_of_beq_eq_true h24]; exact sk_93_24 X
   | false =>
    cases h25 : Nat.beq b 25 with
    | true => rw [Nat.eq_of_beq_eq_true h25]; exact sk_93_25 X
    | false =>
     exact kx_s_no
/-! TaskDeskModel.first(IZ)I -/
def bk_94_0 (d : Nat) (C : kx_C) (J : Nat → kx_F) : kx_F := (kx_c (kx_i 0) (kx_si 3 (kx_nm [0, 1, 2, 3] (J 2))))
def bk_94_2 (d : Nat) (C : kx_C) (J : Nat → kx_F) : kx_F := (kx_li 3 (kx_la 0 (kx_gI 9 20 (kx_cge (kx_c (kx_i (-1)) kx_ri) (kx_la 0 (kx_gR 9 22 99 (kx_li 3 (kx_aI 99 (kx_li 1 (kx_cne (kx_nm [0, 1, 2, 3] (J 32)) (kx_la 0 (kx_gR 9 23 101 (kx_li 3 (kx_aB 101 (kx_li 2 (kx_cne (kx_nm [0, 1, 2, 3] (J 32)) (kx_li 3 kx_ri)))))))))))))))))
def bk_94_32 (d : Nat) (C : kx_C) (J : Nat → kx_F) : kx_F := (kx_inc 3 1 (kx_nm [0, 1, 2, 3] (J 2)))
def bm_94 (d : Nat) (C : kx_C) (b : Nat) (J : Nat → kx_F) : kx_F := bif Nat.beq b 0 then bk_94_0 d C J else bif Nat.beq b 2 then bk_94_2 d C J else bif Nat.beq b 32 then bk_94_32 d C J else fun _ _ _ => none
set_option maxRecDepth 20000 in
theorem sk_94_0 (X : kx_X p l e R s m args below meth c s0 D cA 4 ι0 h0 rr hf prog_11_method_13_code "TaskDeskModel" C d (Option.some Jvm.ClassFile.FieldType.int) "first" J) : kx_Sn p l e R s m args below meth c s0 D cA 4 ι0 h0 rr hf 0 (bk_94_0 d C J) := by
  obtain ⟨G, CS, R9, O9, RT, NM, T0, FL, JS⟩ := X
  exact (kx_s_iconst (i := 0) G (by decide +kernel) (by decide +kernel) (kx_s_istore_n (j := 3) G rfl (by decide +kernel) (by decide) (kx_s_nm (JS 2))))
set_option maxRecDepth 20000 in
theorem sk_94_2 (X : kx_X p l e R s m args below meth c s0 D cA 4 ι0 h0 rr hf prog_11_method_13_code "TaskDeskModel" C d (Option.some Jvm.ClassFile.FieldType.int) "first" J) : kx_Sn p l e R s m args below meth c s0 D cA 4 ι0 h0 rr hf 2 (bk_94_2 d C J) := by
  obtain ⟨G, CS, R9, O9, RT, NM, T0, FL, JS⟩ := X
  exact (kx_s_iload_n (j := 3) G rfl (by decide +kernel) (kx_s_aload_n (j := 0) G rfl (by decide +kernel) (kx_s_gI G kf_9_149 (by decide +kernel) (kx_s_cge (off := 31) (tgt := 38) G (by decide +kernel) rfl (kx_s_iconst (i := -1) G (by decide +kernel) (by decide +kernel) (kx_s_ireturn G RT (by decide +kernel))) (kx_s_aload_n (j := 0) G rfl (by decide +kernel) (kx_s_gR G kf_9_54 (by decide +kernel) (kx_s_iload_n (j := 3) G rfl (by decide +kernel) (kx_s_aI G ka_99 (by decide +kernel) (kx_s_iload_n (j := 1) G rfl (by decide +kernel) (kx_s_cne (off := 15) (tgt := 32) G (by decide +kernel) rfl (kx_s_nm (JS 32)) (kx_s_aload_n (j := 0) G rfl (by decide +kernel) (kx_s_gR G kf_9_57 (by decide +kernel) (kx_s_iload_n (j := 3) G rfl (by decide +kernel) (kx_s_aB G ka_101 (by decide +kernel) (kx_s_iload_n (j := 2) G rfl (by decide +kernel) (kx_s_cne (off := 5) (tgt := 32) G (by decide +kernel) rfl (kx_s_nm (JS 32)) (kx_s_iload_n (j := 3) G rfl (by decide +kernel) (kx_s_ireturn G RT (by decide +kernel)))))))))))))))))))
set_option maxRecDepth 20000 in
theorem sk_94_32 (X : kx_X p l e R s m args below meth c s0 D cA 4 ι0 h0 rr hf prog_11_method_13_code "TaskDeskModel" C d (Option.some Jvm.ClassFile.FieldType.int) "first" J) : kx_Sn p l e R s m args below meth c s0 D cA 4 ι0 h0 rr hf 32 (bk_94_32 d C J) := by
  obtain ⟨G, CS, R9, O9, RT, NM, T0, FL, JS⟩ := X
  exact (kx_s_iinc (n := 1) G (by decide +kernel) (by decide +kernel) (by decide) (kx_s_goto (off := -33) (tgt := 2) G (by decide +kernel) rfl (kx_s_nm (JS 2))))
theorem sm_94 (X : kx_X p l e R s m args below meth c s0 D cA 4 ι0 h0 rr hf prog_11_method_13_code "TaskDeskModel" C d (Option.some Jvm.ClassFile.FieldType.int) "first" J) (b : Nat) : kx_Sn p l e R s m args below meth c s0 D cA 4 ι0 h0 rr hf b (bm_94 d C b J) := by
  unfold bm_94
  cases h0 : Nat.beq b 0 with
  | true => rw [Nat.eq_of_beq_eq_true h0]; exact sk_94_0 X
  | false =>
   cases h2 : Nat.beq b 2 with
   | true => rw [Nat.eq_of_beq_eq_true h2]; exact sk_94_2 X
   | false =>
    cases h32 : Nat.beq b 32 with
    | true => rw [Nat.eq_of_beq_eq_true h32]; exact sk_94_32 X
    | false =>
     exact kx_s_no
/-! TaskDeskModel.held(I)I -/
def bk_95_0 (d : Nat) (C : kx_C) (J : Nat → kx_F) : kx_F := (kx_c (kx_i 0) (kx_si 2 (kx_c (kx_i 0) (kx_si 3 (kx_nm [0, 1, 2, 3] (J 4))))))
def bk_95_4 (d : Nat) (C : kx_C) (J : Nat → kx_F) : kx_F := (kx_li 3 (kx_la 0 (kx_gI 9 17 (kx_cge (kx_li 2 kx_ri) (kx_li 2 (kx_la 0 (kx_gR 9 18 99 (kx_li 3 (kx_aI 99 (kx_li 1 (kx_cne (kx_c (kx_i 0) (kx_nm [0, 1, 3] (J 28))) (kx_c (kx_i 1) (kx_nm [0, 1, 3] (J 28))))))))))))))
def bk_95_28 (d : Nat) (C : kx_C) (J : Nat → kx_F) : kx_F := (kx_ii (fun x y => x + y) (kx_si 2 (kx_inc 3 1 (kx_nm [0, 1, 2, 3] (J 4)))))
def bm_95 (d : Nat) (C : kx_C) (b : Nat) (J : Nat → kx_F) : kx_F := bif Nat.beq b 0 then bk_95_0 d C J else bif Nat.beq b 4 then bk_95_4 d C J else bif Nat.beq b 28 then bk_95_28 d C J else fun _ _ _ => none
set_option maxRecDepth 20000 in
theorem sk_95_0 (X : kx_X p l e R s m args below meth c s0 D cA 4 ι0 h0 rr hf prog_11_method_12_code "TaskDeskModel" C d (Option.some Jvm.ClassFile.FieldType.int) "held" J) : kx_Sn p l e R s m args below meth c s0 D cA 4 ι0 h0 rr hf 0 (bk_95_0 d C J) := by
  obtain ⟨G, CS, R9, O9, RT, NM, T0, FL, JS⟩ := X
  exact (kx_s_iconst (i := 0) G (by decide +kernel) (by decide +kernel) (kx_s_istore_n (j := 2) G rfl (by decide +kernel) (by decide) (kx_s_iconst (i := 0) G (by decide +kernel) (by decide +kernel) (kx_s_istore_n (j := 3) G rfl (by decide +kernel) (by decide) (kx_s_nm (JS 4))))))
set_option maxRecDepth 20000 in
theorem sk_95_4 (X : kx_X p l e R s m args below meth c s0 D cA 4 ι0 h0 rr hf prog_11_method_12_code "TaskDeskModel" C d (Option.some Jvm.ClassFile.FieldType.int) "held" J) : kx_Sn p l e R s m args below meth c s0 D cA 4 ι0 h0 rr hf 4 (bk_95_4 d C J) := by
  obtain ⟨G, CS, R9, O9, RT, NM, T0, FL, JS⟩ := X
  exact (kx_s_iload_n (j := 3) G rfl (by decide +kernel) (kx_s_aload_n (j := 0) G rfl (by decide +kernel) (kx_s_gI G kf_9_146 (by decide +kernel) (kx_s_cge (off := 27) (tgt := 36) G (by decide +kernel) rfl (kx_s_iload_n (j := 2) G rfl (by decide +kernel) (kx_s_ireturn G RT (by decide +kernel))) (kx_s_iload_n (j := 2) G rfl (by decide +kernel) (kx_s_aload_n (j := 0) G rfl (by decide +kernel) (kx_s_gR G kf_9_45 (by decide +kernel) (kx_s_iload_n (j := 3) G rfl (by decide +kernel) (kx_s_aI G ka_99 (by decide +kernel) (kx_s_iload_n (j := 1) G rfl (by decide +kernel) (kx_s_cne (off := 7) (tgt := 27) G (by decide +kernel) rfl (kx_s_iconst (i := 0) G (by decide +kernel) (by decide +kernel) (kx_s_nm (JS 28))) (kx_s_iconst (i := 1) G (by decide +kernel) (by decide +kernel) (kx_s_goto (off := 4) (tgt := 28) G (by decide +kernel) rfl (kx_s_nm (JS 28)))))))))))))))
set_option maxRecDepth 20000 in
theorem sk_95_28 (X : kx_X p l e R s m args below meth c s0 D cA 4 ι0 h0 rr hf prog_11_method_12_code "TaskDeskModel" C d (Option.some Jvm.ClassFile.FieldType.int) "held" J) : kx_Sn p l e R s m args below meth c s0 D cA 4 ι0 h0 rr hf 28 (bk_95_28 d C J) := by
  obtain ⟨G, CS, R9, O9, RT, NM, T0, FL, JS⟩ := X
  exact (kx_s_iadd G (by decide +kernel) (kx_s_istore_n (j := 2) G rfl (by decide +kernel) (by decide) (kx_s_iinc (n := 1) G (by decide +kernel) (by decide +kernel) (by decide) (kx_s_goto (off := -29) (tgt := 4) G (by decide +kernel) rfl (kx_s_nm (JS 4))))))
theorem sm_95 (X : kx_X p l e R s m args below meth c s0 D cA 4 ι0 h0 rr hf prog_11_method_12_code "TaskDeskModel" C d (Option.some Jvm.ClassFile.FieldType.int) "held" J) (b : Nat) : kx_Sn p l e R s m args below meth c s0 D cA 4 ι0 h0 rr hf b (bm_95 d C b J) := by
  unfold bm_95
  cases h0 : Nat.beq b 0 with
  | true => rw [Nat.eq_of_beq_eq_true h0]; exact sk_95_0 X
  | false =>
   cases h4 : Nat.beq b 4 with
   | true => rw [Nat.eq_of_beq_eq_true h4]; exact sk_95_4 X
   | false =>
    cases h28 : Nat.beq b 28 with
    | true => rw [Nat.eq_of_beq_eq_true h28]; exact sk_95_28 X
    | false =>
     exact kx_s_no
/-! TaskDeskModel.takeFirst(I)J -/
def bk_96_0 (d : Nat) (C : kx_C) (J : Nat → kx_F) : kx_F := (kx_c (kx_i 0) (kx_si 2 (kx_nm [0, 1, 2] (J 2))))
def bk_96_2 (d : Nat) (C : kx_C) (J : Nat → kx_F) : kx_F := (kx_la 0 (kx_gR 9 18 99 (kx_li 2 (kx_aI 99 (kx_li 1 (kx_ceq (kx_la 0 (kx_gR 9 19 100 (kx_li 2 (kx_aL 100 (kx_sl 3 (kx_la 0 (kx_dup (kx_gI 9 17 (kx_c (kx_i 1) (kx_ii (fun x y => x - y) (kx_pI 9 17 (kx_nm [0, 2, 3] (J 35))))))))))))) (kx_inc 2 1 (kx_nm [0, 1, 2] (J 2)))))))))
def bk_96_35 (d : Nat) (C : kx_C) (J : Nat → kx_F) : kx_F := (kx_li 2 (kx_la 0 (kx_gI 9 17 (kx_cge (kx_ll 3 kx_rl) (kx_la 0 (kx_gR 9 18 99 (kx_li 2 (kx_la 0 (kx_gR 9 18 99 (kx_li 2 (kx_c (kx_i 1) (kx_ii (fun x y => x + y) (kx_aI 99 (kx_asI 99 (kx_la 0 (kx_gR 9 19 100 (kx_li 2 (kx_la 0 (kx_gR 9 19 100 (kx_li 2 (kx_c (kx_i 1) (kx_ii (fun x y => x + y) (kx_aL 100 (kx_asL 100 (kx_inc 2 1 (kx_nm [0, 2, 3] (J 35)))))))))))))))))))))))))))
def bm_96 (d : Nat) (C : kx_C) (b : Nat) (J : Nat → kx_F) : kx_F := bif Nat.beq b 0 then bk_96_0 d C J else bif Nat.beq b 2 then bk_96_2 d C J else bif Nat.beq b 35 then bk_96_35 d C J else fun _ _ _ => none
set_option maxRecDepth 20000 in
theorem sk_96_0 (X : kx_X p l e R s m args below meth c s0 D cA 5 ι0 h0 rr hf prog_11_method_19_code "TaskDeskModel" C d (Option.some Jvm.ClassFile.FieldType.long) "takeFirst" J) : kx_Sn p l e R s m args below meth c s0 D cA 5 ι0 h0 rr hf 0 (bk_96_0 d C J) := by
  obtain ⟨G, CS, R9, O9, RT, NM, T0, FL, JS⟩ := X
  exact (kx_s_iconst (i := 0) G (by decide +kernel) (by decide +kernel) (kx_s_istore_n (j := 2) G rfl (by decide +kernel) (by decide) (kx_s_nm (JS 2))))
set_option maxRecDepth 20000 in
theorem sk_96_2 (X : kx_X p l e R s m args below meth c s0 D cA 5 ι0 h0 rr hf prog_11_method_19_code "TaskDeskModel" C d (Option.some Jvm.ClassFile.FieldType.long) "takeFirst" J) : kx_Sn p l e R s m args below meth c s0 D cA 5 ι0 h0 rr hf 2 (bk_96_2 d C J) := by
  obtain ⟨G, CS, R9, O9, RT, NM, T0, FL, JS⟩ := X
  exact (kx_s_aload_n (j := 0) G rfl (by decide +kernel) (kx_s_gR G kf_9_45 (by decide +kernel) (kx_s_iload_n (j := 2) G rfl (by decide +kernel) (kx_s_aI G ka_99 (by decide +kernel) (kx_s_iload_n (j := 1) G rfl (by decide +kernel) (kx_s_ceq (off := 9) (tgt := 18) G (by decide +kernel) rfl (kx_s_aload_n (j := 0) G rfl (by decide +kernel) (kx_s_gR G kf_9_48 (by decide +kernel) (kx_s_iload_n (j := 2) G rfl (by decide +kernel) (kx_s_aL G ka_100 (by decide +kernel) (kx_s_lstore_n (j := 3) G rfl (by decide +kernel) (by decide) (kx_s_aload_n (j := 0) G rfl (by decide +kernel) (kx_s_dup G (by decide +kernel) (kx_s_gI G kf_9_146 (by decide +kernel) (kx_s_iconst (i := 1) G (by decide +kernel) (by decide +kernel) (kx_s_isub G (by decide +kernel) (kx_s_pI G kf_9_146 rfl (by decide +kernel) (by decide +kernel) (kx_s_nm (JS 35))))))))))))) (kx_s_iinc (n := 1) G (by decide +kernel) (by decide +kernel) (by decide) (kx_s_goto (off := -13) (tgt := 2) G (by decide +kernel) rfl (kx_s_nm (JS 2))))))))))
set_option maxRecDepth 20000 in
theorem sk_96_35 (X : kx_X p l e R s m args below meth c s0 D cA 5 ι0 h0 rr hf prog_11_method_19_code "TaskDeskModel" C d (Option.some Jvm.ClassFile.FieldType.long) "takeFirst" J) : kx_Sn p l e R s m args below meth c s0 D cA 5 ι0 h0 rr hf 35 (bk_96_35 d C J) := by
  obtain ⟨G, CS, R9, O9, RT, NM, T0, FL, JS⟩ := X
  exact (kx_s_iload_n (j := 2) G rfl (by decide +kernel) (kx_s_aload_n (j := 0) G rfl (by decide +kernel) (kx_s_gI G kf_9_146 (by decide +kernel) (kx_s_cge (off := 37) (tgt := 77) G (by decide +kernel) rfl (kx_s_lload_n (j := 3) G rfl (by decide +kernel) (kx_s_lreturn G RT (by decide +kernel))) (kx_s_aload_n (j := 0) G rfl (by decide +kernel) (kx_s_gR G kf_9_45 (by decide +kernel) (kx_s_iload_n (j := 2) G rfl (by decide +kernel) (kx_s_aload_n (j := 0) G rfl (by decide +kernel) (kx_s_gR G kf_9_45 (by decide +kernel) (kx_s_iload_n (j := 2) G rfl (by decide +kernel) (kx_s_iconst (i := 1) G (by decide +kernel) (by decide +kernel) (kx_s_iadd G (by decide +kernel) (kx_s_aI G ka_99 (by decide +kernel) (kx_s_asI G ka_99 (by decide +kernel) (kx_s_aload_n (j := 0) G rfl (by decide +kernel) (kx_s_gR G kf_9_48 (by decide +kernel) (kx_s_iload_n (j := 2) G rfl (by decide +kernel) (kx_s_aload_n (j := 0) G rfl (by decide +kernel) (kx_s_gR G kf_9_48 (by decide +kernel) (kx_s_iload_n (j := 2) G rfl (by decide +kernel) (kx_s_iconst (i := 1) G (by decide +kernel) (by decide +kernel) (kx_s_iadd G (by decide +kernel) (kx_s_aL G ka_100 (by decide +kernel) (kx_s_asL G ka_100 (by decide +kernel) (kx_s_iinc (n := 1) G (by decide +kernel) (by decide +kernel) (by decide) (kx_s_goto (off := -39) (tgt := 35) G (by decide +kernel) rfl (kx_s_nm (JS 35))))))))))))))))))))))))))))
theorem sm_96 (X : kx_X p l e R s m args below meth c s0 D cA 5 ι0 h0 rr hf prog_11_method_19_code "TaskDeskModel" C d (Option.some Jvm.ClassFile.FieldType.long) "takeFirst" J) (b : Nat) : kx_Sn p l e R s m args below meth c s0 D cA 5 ι0 h0 rr hf b (bm_96 d C b J) := by
  unfold bm_96
  cases h0 : Nat.beq b 0 with
  | true => rw [Nat.eq_of_beq_eq_true h0]; exact sk_96_0 X
  | false =>
   cases h2 : Nat.beq b 2 with
   | true => rw [Nat.eq_of_beq_eq_true h2]; exact sk_96_2 X
   | false =>
    cases h35 : Nat.beq b 35 with
    | true => rw [Nat.eq_of_beq_eq_true h35]; exact sk_96_35 X
    | false =>
     exact kx_s_no
/-! TaskDeskModel.alarm(IJ)V -/
def bk_97_0 (d : Nat) (C : kx_C) (J : Nat → kx_F) : kx_F := (kx_la 0 (kx_c (kx_i 0) (kx_pI 9 0 (kx_la 0 (kx_li 1 (kx_Vi C 93 9 [0] (kx_ifeq (kx_nm [0, 1, 2] (J 27)) (kx_ll 2 (kx_c (kx_l 0) (kx_lcmp (kx_iflt (kx_nm [0, 1, 2] (J 27)) (kx_ll 2 (kx_c (kx_l 1000000000) (kx_lcmp (kx_ifle (kx_la 0 (kx_gI 9 1 (kx_iflt (kx_nm [0, 1, 2] (J 52)) (kx_la 0 (kx_gI 9 41 (kx_c (kx_i 256) (kx_cne (kx_nm [0, 1, 2] (J 57)) (kx_nm [0, 1, 2] (J 52))))))))) (kx_nm [0, 1, 2] (J 27)))))))))))))))))
def bk_97_27 (d : Nat) (C : kx_C) (J : Nat → kx_F) : kx_F := (kx_la 0 (kx_c (kx_i 1) (kx_pI 9 0 (kx_nm [0, 1, 2] (J 57)))))
def bk_97_52 (d : Nat) (C : kx_C) (J : Nat → kx_F) : kx_F := (kx_la 0 (kx_c (kx_i 2) (kx_pI 9 0 (kx_nm [0, 1, 2] (J 57)))))
def bk_97_57 (d : Nat) (C : kx_C) (J : Nat → kx_F) : kx_F := (kx_la 0 (kx_gI 9 0 (kx_ifle (kx_la 0 (kx_gR 9 39 99 (kx_la 0 (kx_gI 9 38 (kx_c (kx_i (-1)) (kx_li 1 (kx_ii (fun x y => x - y) (kx_asI 99 (kx_la 0 (kx_gR 9 40 100 (kx_la 0 (kx_gI 9 38 (kx_la 0 (kx_gL 9 3 (kx_ll 2 (kx_jj (fun x y => x + y) (kx_asL 100 (kx_la 0 (kx_dup (kx_gI 9 38 (kx_c (kx_i 1) (kx_ii (fun x y => x + y) (kx_pI 9 38 (kx_la 0 (kx_dup (kx_gI 9 41 (kx_c (kx_i 1) (kx_ii (fun x y => x + y) (kx_pI 9 41 kx_rv))))))))))))))))))))))))))))) kx_rv)))
def bm_97 (d : Nat) (C : kx_C) (b : Nat) (J : Nat → kx_F) : kx_F := bif Nat.beq b 0 then bk_97_0 d C J else bif Nat.beq b 27 then bk_97_27 d C J else bif Nat.beq b 52 then bk_97_52 d C J else bif Nat.beq b 57 then bk_97_57 d C J else fun _ _ _ => none
set_option maxRecDepth 20000 in
theorem sk_97_0 (X : kx_X p l e R s m args below meth c s0 D cA 4 ι0 h0 rr hf prog_11_method_25_code "TaskDeskModel" C d (Option.none : Option Jvm.ClassFile.FieldType) "alarm" J) : kx_Sn p l e R s m args below meth c s0 D cA 4 ι0 h0 rr hf 0 (bk_97_0 d C J) := by
  obtain ⟨G, CS, R9, O9, RT, NM, T0, FL, JS⟩ := X
  exact (kx_s_aload_n (j := 0) G rfl (by decide +kernel) (kx_s_iconst (i := 0) G (by decide +kernel) (by decide +kernel) (kx_s_pI G kf_9_99 rfl (by decide +kernel) (by decide +kernel) (kx_s_aload_n (j := 0) G rfl (by decide +kernel) (kx_s_iload_n (j := 1) G rfl (by decide +kernel) (kx_s_Vi (n := 93) G kx_good CS R9 (O9 _) kc_93 rfl kw_1076 kw_1078 kw_42 (r := kr_9) rfl (by decide) (by decide +kernel) (kx_s_ifeq (off := 17) (tgt := 27) G (by decide +kernel) rfl (kx_s_nm (JS 27)) (kx_s_lload_n (j := 2) G rfl (by decide +kernel) (kx_s_lconst (i := 0) G (by decide +kernel) (by decide +kernel) (kx_s_lcmp G (by decide +kernel) (kx_s_iflt (off := 11) (tgt := 27) G (by decide +kernel) rfl (kx_s_nm (JS 27)) (kx_s_lload_n (j := 2) G rfl (by decide +kernel) (kx_s_ldc2 G kw_1096 (by decide +kernel) (kx_s_lcmp G (by decide +kernel) (kx_s_ifle (off := 11) (tgt := 35) G (by decide +kernel) rfl (kx_s_aload_n (j := 0) G rfl (by decide +kernel) (kx_s_gI G kf_9_106 (by decide +kernel) (kx_s_iflt (off := 13) (tgt := 52) G (by decide +kernel) rfl (kx_s_nm (JS 52)) (kx_s_aload_n (j := 0) G rfl (by decide +kernel) (kx_s_gI G kf_9_129 (by decide +kernel) (kx_s_sipush (i := 256) G (by decide +kernel) (by decide +kernel) (kx_s_cne (off := 8) (tgt := 57) G (by decide +kernel) rfl (kx_s_nm (JS 57)) (kx_s_nm (JS 52))))))))) (kx_s_nm (JS 27)))))))))))))))))
set_option maxRecDepth 20000 in
theorem sk_97_27 (X : kx_X p l e R s m args below meth c s0 D cA 4 ι0 h0 rr hf prog_11_method_25_code "TaskDeskModel" C d (Option.none : Option Jvm.ClassFile.FieldType) "alarm" J) : kx_Sn p l e R s m args below meth c s0 D cA 4 ι0 h0 rr hf 27 (bk_97_27 d C J) := by
  obtain ⟨G, CS, R9, O9, RT, NM, T0, FL, JS⟩ := X
  exact (kx_s_aload_n (j := 0) G rfl (by decide +kernel) (kx_s_iconst (i := 1) G (by decide +kernel) (by decide +kernel) (kx_s_pI G kf_9_99 rfl (by decide +kernel) (by decide +kernel) (kx_s_goto (off := 25) (tgt := 57) G (by decide +kernel) rfl (kx_s_nm (JS 57))))))
set_option maxRecDepth 20000 in
theorem sk_97_52 (X : kx_X p l e R s m args below meth c s0 D cA 4 ι0 h0 rr hf prog_11_method_25_code "TaskDeskModel" C d (Option.none : Option Jvm.ClassFile.FieldType) "alarm" J) : kx_Sn p l e R s m args below meth c s0 D cA 4 ι0 h0 rr hf 52 (bk_97_52 d C J) := by
  obtain ⟨G, CS, R9, O9, RT, NM, T0, FL, JS⟩ := X
  exact (kx_s_aload_n (j := 0) G rfl (by decide +kernel) (kx_s_iconst (i := 2) G (by decide +kernel) (by decide +kernel) (kx_s_pI G kf_9_99 rfl (by decide +kernel) (by decide +kernel) (kx_s_nm (JS 57)))))
set_option maxRecDepth 20000 in
theorem sk_97_57 (X : kx_X p l e R s m args below meth c s0 D cA 4 ι0 h0 rr hf prog_11_method_25_code "TaskDeskModel" C d (Option.none : Option Jvm.ClassFile.FieldType) "alarm" J) : kx_Sn p l e R s m args below meth c s0 D cA 4 ι0 h0 rr hf 57 (bk_97_57 d C J) := by
  obtain ⟨G, CS, R9, O9, RT, NM, T0, FL, JS⟩ := X
  exact (kx_s_aload_n (j := 0) G rfl (by decide +kernel) (kx_s_gI G kf_9_99 (by decide +kernel) (kx_s_ifle (off := 4) (tgt := 65) G (by decide +kernel) rfl (kx_s_aload_n (j := 0) G rfl (by decide +kernel) (kx_s_gR G kf_9_93 (by decide +kernel) (kx_s_aload_n (j := 0) G rfl (by decide +kernel) (kx_s_gI G kf_9_112 (by decide +kernel) (kx_s_iconst (i := -1) G (by decide +kernel) (by decide +kernel) (kx_s_iload_n (j := 1) G rfl (by decide +kernel) (kx_s_isub G (by decide +kernel) (kx_s_asI G ka_99 (by decide +kernel) (kx_s_aload_n (j := 0) G rfl (by decide +kernel) (kx_s_gR G kf_9_96 (by decide +kernel) (kx_s_aload_n (j := 0) G rfl (by decide +kernel) (kx_s_gI G kf_9_112 (by decide +kernel) (kx_s_aload_n (j := 0) G rfl (by decide +kernel) (kx_s_gL G kf_9_121 (by decide +kernel) (kx_s_lload_n (j := 2) G rfl (by decide +kernel) (kx_s_ladd G (by decide +kernel) (kx_s_asL G ka_100 (by decide +kernel) (kx_s_aload_n (j := 0) G rfl (by decide +kernel) (kx_s_dup G (by decide +kernel) (kx_s_gI G kf_9_112 (by decide +kernel) (kx_s_iconst (i := 1) G (by decide +kernel) (by decide +kernel) (kx_s_iadd G (by decide +kernel) (kx_s_pI G kf_9_112 rfl (by decide +kernel) (by decide +kernel) (kx_s_aload_n (j := 0) G rfl (by decide +kernel) (kx_s_dup G (by decide +kernel) (kx_s_gI G kf_9_129 (by decide +kernel) (kx_s_iconst (i := 1) G (by decide +kernel) (by decide +kernel) (kx_s_iadd G (by decide +kernel) (kx_s_pI G kf_9_129 rfl (by decide +kernel) (by decide +kernel) (kx_s_return G RT (by decide +kernel))))))))))))))))))))))))))))))) (kx_s_return G RT (by decide +kernel)))))
theorem sm_97 (X : kx_X p l e R s m args below meth c s0 D cA 4 ι0 h0 rr hf prog_11_method_25_code "TaskDeskModel" C d (Option.none : Option Jvm.ClassFile.FieldType) "alarm" J) (b : Nat) : kx_Sn p l e R s m args below meth c s0 D cA 4 ι0 h0 rr hf b (bm_97 d C b J) := by
  unfold bm_97
  cases h0 : Nat.beq b 0 with
  | true => rw [Nat.eq_of_beq_eq_true h0]; exact sk_97_0 X
  | false =>
   cases h27 : Nat.beq b 27 with
   | true => rw [Nat.eq_of_beq_eq_true h27]; exact sk_97_27 X
   | false =>
    cases h52 : Nat.beq b 52 with
    | true => rw [Nat.eq_of_beq_eq_true h52]; exact sk_97_52 X
    | false =>
     cases h57 : Nat.beq b 57 with
     | true => rw [Nat.eq_of_beq_eq_true h57]; exact sk_97_57 X
     | false =>
      exact kx_s_no
/-! TaskDeskModel.send(IJ)Z -/
def bk_98_0 (d : Nat) (C : kx_C) (J : Nat → kx_F) : kx_F := (kx_la 0 (kx_c (kx_i 0) (kx_pI 9 0 (kx_li 1 (kx_c (kx_i (-1)) (kx_ceq (kx_nm [0, 1, 2] (J 24)) (kx_la 0 (kx_li 1 (kx_Vi C 93 9 [0] (kx_ifne (kx_nm [0, 1, 2] (J 24)) (kx_la 0 (kx_c (kx_i 1) (kx_Vi C 99 9 [0] kx_rz)))))))))))))
def bk_98_24 (d : Nat) (C : kx_C) (J : Nat → kx_F) : kx_F := (kx_la 0 (kx_gI 9 1 (kx_ifge (kx_li 1 (kx_iflt (kx_nm [0, 1, 2] (J 56)) (kx_la 0 (kx_gR 9 14 101 (kx_li 1 (kx_aB 101 (kx_ifeq (kx_nm [0, 1, 2] (J 56)) (kx_la 0 (kx_c (kx_i 3) (kx_Vi C 99 9 [0] kx_rz)))))))))) (kx_la 0 (kx_c (kx_i 2) (kx_Vi C 99 9 [0] kx_rz))))))
def bk_98_56 (d : Nat) (C : kx_C) (J : Nat → kx_F) : kx_F := (kx_la 0 (kx_li 1 (kx_Vi C 100 9 [0] (kx_ifeq (kx_li 1 (kx_iflt (kx_nm [0, 1] (J 100)) (kx_la 0 (kx_la 0 (kx_gI 9 1 (kx_li 1 (kx_c (kx_i 1) (kx_ll 2 (kx_c (kx_i (-1)) (kx_Vv C 107 9 [0, 0, 0, 1, 0] (kx_nm [0, 1] (J 100)))))))))))) (kx_la 0 (kx_li 1 (kx_ll 2 (kx_Vv C 101 9 [0, 1] (kx_la 0 (kx_la 0 (kx_gI 9 1 (kx_c (kx_l 0) (kx_c (kx_i 1) (kx_c (kx_i (-1)) (kx_c (kx_i 0) (kx_Vv C 103 9 [0, 1, 0, 0, 0] (kx_c (kx_i 1) kx_rz)))))))))))))))))
def bk_98_100 (d : Nat) (C : kx_C) (J : Nat → kx_F) : kx_F := (kx_la 0 (kx_li 1 (kx_ifge (kx_c (kx_i 2) (kx_nm [1] (J 111))) (kx_c (kx_i 7) (kx_nm [1] (J 111))))))
def bk_98_111 (d : Nat) (C : kx_C) (J : Nat → kx_F) : kx_F := (kx_li 1 (kx_Vv C 108 9 [0, 0] (kx_c (kx_i 0) kx_rz)))
def bm_98 (d : Nat) (C : kx_C) (b : Nat) (J : Nat → kx_F) : kx_F := bif Nat.beq b 0 then bk_98_0 d C J else bif Nat.beq b 24 then bk_98_24 d C J else bif Nat.beq b 56 then bk_98_56 d C J else bif Nat.beq b 100 then bk_98_100 d C J else bif Nat.beq b 111 then bk_98_111 d C J else fun _ _ _ => none
set_option maxRecDepth 20000 in
theorem sk_98_0 (X : kx_X p l e R s m args below meth c s0 D cA 4 ι0 h0 rr hf prog_11_method_26_code "TaskDeskModel" C d (Option.some Jvm.ClassFile.FieldType.boolean) "send" J) : kx_Sn p l e R s m args below meth c s0 D cA 4 ι0 h0 rr hf 0 (bk_98_0 d C J) := by
  obtain ⟨G, CS, R9, O9, RT, NM, T0, FL, JS⟩ := X
  exact (kx_s_aload_n (j := 0) G rfl (by decide +kernel) (kx_s_iconst (i := 0) G (by decide +kernel) (by decide +kernel) (kx_s_pI G kf_9_99 rfl (by decide +kernel) (by decide +kernel) (kx_s_iload_n (j := 1) G rfl (by decide +kernel) (kx_s_iconst (i := -1) G (by decide +kernel) (by decide +kernel) (kx_s_ceq (off := 17) (tgt := 24) G (by decide +kernel) rfl (kx_s_nm (JS 24)) (kx_s_aload_n (j := 0) G rfl (by decide +kernel) (kx_s_iload_n (j := 1) G rfl (by decide +kernel) (kx_s_Vi (n := 93) G kx_good CS R9 (O9 _) kc_93 rfl kw_1076 kw_1078 kw_42 (r := kr_9) rfl (by decide) (by decide +kernel) (kx_s_ifne (off := 9) (tgt := 24) G (by decide +kernel) rfl (kx_s_nm (JS 24)) (kx_s_aload_n (j := 0) G rfl (by decide +kernel) (kx_s_iconst (i := 1) G (by decide +kernel) (by decide +kernel) (kx_s_Vi (n := 99) G kx_good CS R9 (O9 _) kc_99 rfl kw_1101 kw_1103 kw_46 (r := kr_9) rfl (by decide) (by decide +kernel) (kx_s_zreturn G RT (by decide +kernel)))))))))))))))
set_option maxRecDepth 20000 in
theorem sk_98_24 (X : kx_X p l e R s m args below meth c s0 D cA 4 ι0 h0 rr hf prog_11_method_26_code "TaskDeskModel" C d (Option.some Jvm.ClassFile.FieldType.boolean) "send" J) : kx_Sn p l e R s m args below meth c s0 D cA 4 ι0 h0 rr hf 24 (bk_98_24 d C J) := by
  obtain ⟨G, CS, R9, O9, RT, NM, T0, FL, JS⟩ := X
  exact (kx_s_aload_n (j := 0) G rfl (by decide +kernel) (kx_s_gI G kf_9_106 (by decide +kernel) (kx_s_ifge (off := 9) (tgt := 37) G (by decide +kernel) rfl (kx_s_iload_n (j := 1) G rfl (by decide +kernel) (kx_s_iflt (off := 18) (tgt := 56) G (by decide +kernel) rfl (kx_s_nm (JS 56)) (kx_s_aload_n (j := 0) G rfl (by decide +kernel) (kx_s_gR G kf_9_39 (by decide +kernel) (kx_s_iload_n (j := 1) G rfl (by decide +kernel) (kx_s_aB G ka_101 (by decide +kernel) (kx_s_ifeq (off := 9) (tgt := 56) G (by decide +kernel) rfl (kx_s_nm (JS 56)) (kx_s_aload_n (j := 0) G rfl (by decide +kernel) (kx_s_iconst (i := 3) G (by decide +kernel) (by decide +kernel) (kx_s_Vi (n := 99) G kx_good CS R9 (O9 _) kc_99 rfl kw_1101 kw_1103 kw_46 (r := kr_9) rfl (by decide) (by decide +kernel) (kx_s_zreturn G RT (by decide +kernel)))))))))))) (kx_s_aload_n (j := 0) G rfl (by decide +kernel) (kx_s_iconst (i := 2) G (by decide +kernel) (by decide +kernel) (kx_s_Vi (n := 99) G kx_good CS R9 (O9 _) kc_99 rfl kw_1101 kw_1103 kw_46 (r := kr_9) rfl (by decide) (by decide +kernel) (kx_s_zreturn G RT (by decide +kernel))))))))
set_option maxRecDepth 20000 in
theorem sk_98_56 (X : kx_X p l e R s m args below meth c s0 D cA 4 ι0 h0 rr hf prog_11_method_26_code "TaskDeskModel" C d (Option.some Jvm.ClassFile.FieldType.boolean) "send" J) : kx_Sn p l e R s m args below meth c s0 D cA 4 ι0 h0 rr hf 56 (bk_98_56 d C J) := by
  obtain ⟨G, CS, R9, O9, RT, NM, T0, FL, JS⟩ := X
  exact (kx_s_aload_n (j := 0) G rfl (by decide +kernel) (kx_s_iload_n (j := 1) G rfl (by decide +kernel) (kx_s_Vi (n := 100) G kx_good CS R9 (O9 _) kc_100 rfl kw_1105 kw_1107 kw_47 (r := kr_9) rfl (by decide) (by decide +kernel) (kx_s_ifeq (off := 23) (tgt := 84) G (by decide +kernel) rfl (kx_s_iload_n (j := 1) G rfl (by decide +kernel) (kx_s_iflt (off := 15) (tgt := 100) G (by decide +kernel) rfl (kx_s_nm (JS 100)) (kx_s_aload_n (j := 0) G rfl (by decide +kernel) (kx_s_aload_n (j := 0) G rfl (by decide +kernel) (kx_s_gI G kf_9_106 (by decide +kernel) (kx_s_iload_n (j := 1) G rfl (by decide +kernel) (kx_s_iconst (i := 1) G (by decide +kernel) (by decide +kernel) (kx_s_lload_n (j := 2) G rfl (by decide +kernel) (kx_s_iconst (i := -1) G (by decide +kernel) (by decide +kernel) (kx_s_Vv (n := 107) G kx_good CS R9 (O9 _) kc_107 rfl kw_1133 kw_1135 kw_54 (r := kr_9) rfl (by decide) (by decide +kernel) (kx_s_nm (JS 100)))))))))))) (kx_s_aload_n (j := 0) G rfl (by decide +kernel) (kx_s_iload_n (j := 1) G rfl (by decide +kernel) (kx_s_lload_n (j := 2) G rfl (by decide +kernel) (kx_s_Vv (n := 101) G kx_good CS R9 (O9 _) kc_101 rfl kw_1109 kw_1111 kw_48 (r := kr_9) rfl (by decide) (by decide +kernel) (kx_s_aload_n (j := 0) G rfl (by decide +kernel) (kx_s_aload_n (j := 0) G rfl (by decide +kernel) (kx_s_gI G kf_9_106 (by decide +kernel) (kx_s_lconst (i := 0) G (by decide +kernel) (by decide +kernel) (kx_s_iconst (i := 1) G (by decide +kernel) (by decide +kernel) (kx_s_iconst (i := -1) G (by decide +kernel) (by decide +kernel) (kx_s_iconst (i := 0) G (by decide +kernel) (by decide +kernel) (kx_s_Vv (n := 103) G kx_good CS R9 (O9 _) kc_103 rfl kw_1117 kw_1119 kw_50 (r := kr_9) rfl (by decide) (by decide +kernel) (kx_s_iconst (i := 1) G (by decide +kernel) (by decide +kernel) (kx_s_zreturn G RT (by decide +kernel)))))))))))))))))))
set_option maxRecDepth 20000 in
theorem sk_98_100 (X : kx_X p l e R s m args below meth c s0 D cA 4 ι0 h0 rr hf prog_11_method_26_code "TaskDeskModel" C d (Option.some Jvm.ClassFile.FieldType.boolean) "send" J) : kx_Sn p l e R s m args below meth c s0 D cA 4 ι0 h0 rr hf 100 (bk_98_100 d C J) := by
  obtain ⟨G, CS, R9, O9, RT, NM, T0, FL, JS⟩ := X
  exact (kx_s_aload_n (j := 0) G rfl (by decide +kernel) (kx_s_iload_n (j := 1) G rfl (by decide +kernel) (kx_s_ifge (off := 8) (tgt := 110) G (by decide +kernel) rfl (kx_s_iconst (i := 2) G (by decide +kernel) (by decide +kernel) (kx_s_nm (JS 111))) (kx_s_bipush (i := 7) G (by decide +kernel) (by decide +kernel) (kx_s_goto (off := 4) (tgt := 111) G (by decide +kernel) rfl (kx_s_nm (JS 111)))))))
set_option maxRecDepth 20000 in
theorem sk_98_111 (X : kx_X p l e R s m args below meth c s0 D cA 4 ι0 h0 rr hf prog_11_method_26_code "TaskDeskModel" C d (Option.some Jvm.ClassFile.FieldType.boolean) "send" J) : kx_Sn p l e R s m args below meth c s0 D cA 4 ι0 h0 rr hf 111 (bk_98_111 d C J) := by
  obtain ⟨G, CS, R9, O9, RT, NM, T0, FL, JS⟩ := X
  exact (kx_s_iload_n (j := 1) G rfl (by decide +kernel) (kx_s_Vv (n := 108) G kx_good CS R9 (O9 _) kc_108 rfl kw_1137 kw_1139 kw_55 (r := kr_9) rfl (by decide) (by decide +kernel) (kx_s_iconst (i := 0) G (by decide +kernel) (by decide +kernel) (kx_s_zreturn G RT (by decide +kernel)))))
theorem sm_98 (X : kx_X p l e R s m args below meth c s0 D cA 4 ι0 h0 rr hf prog_11_method_26_code "TaskDeskModel" C d (Option.some Jvm.ClassFile.FieldType.boolean) "send" J) (b : Nat) : kx_Sn p l e R s m args below meth c s0 D cA 4 ι0 h0 rr hf b (bm_98 d C b J) := by
  unfold bm_98
  cases h0 : Nat.beq b 0 with
  | true => rw [Nat.eq_of_beq_eq_true h0]; exact sk_98_0 X
  | false =>
   cases h24 : Nat.beq b 24 with
   | true => rw [Nat.eq_of_beq_eq_true h24]; exact sk_98_24 X
   | false =>
    cases h56 : Nat.beq b 56 with
    | true => rw [Nat.eq_of_beq_eq_true h56]; exact sk_98_56 X
    | false =>
     cases h100 : Nat.beq b 100 with
     | true => rw [Nat.eq_of_beq_eq_true h100]; exact sk_98_100 X
     | false =>
      cases h111 : Nat.beq b 111 with
      | true => rw [Nat.eq_of_beq_eq_true h111]; exact sk_98_111 X
      | false =>
       exact kx_s_no
/-! TaskDeskModel.no(I)Z -/
def bk_99_0 (d : Nat) (C : kx_C) (J : Nat → kx_F) : kx_F := (kx_la 0 (kx_li 1 (kx_pI 9 0 (kx_c (kx_i 0) kx_rz))))
def bm_99 (d : Nat) (C : kx_C) (b : Nat) (J : Nat → kx_F) : kx_F := bif Nat.beq b 0 then bk_99_0 d C J else fun _ _ _ => none
set_option maxRecDepth 20000 in
theorem sk_99_0 (X : kx_X p l e R s m args below meth c s0 D cA 2 ι0 h0 rr hf prog_11_method_4_code "TaskDeskModel" C d (Option.some Jvm.ClassFile.FieldType.boolean) "no" J) : kx_Sn p l e R s m args below meth c s0 D cA 2 ι0 h0 rr hf 0 (bk_99_0 d C J) := by
  obtain ⟨G, CS, R9, O9, RT, NM, T0, FL, JS⟩ := X
  exact (kx_s_aload_n (j := 0) G rfl (by decide +kernel) (kx_s_iload_n (j := 1) G rfl (by decide +kernel) (kx_s_pI G kf_9_99 rfl (by decide +kernel) (by decide +kernel) (kx_s_iconst (i := 0) G (by decide +kernel) (by decide +kernel) (kx_s_zreturn G RT (by decide +kernel))))))
theorem sm_99 (X : kx_X p l e R s m args below meth c s0 D cA 2 ι0 h0 rr hf prog_11_method_4_code "TaskDeskModel" C d (Option.some Jvm.ClassFile.FieldType.boolean) "no" J) (b : Nat) : kx_Sn p l e R s m args below meth c s0 D cA 2 ι0 h0 rr hf b (bm_99 d C b J) := by
  unfold bm_99
  cases h0 : Nat.beq b 0 with
  | true => rw [Nat.eq_of_beq_eq_true h0]; exact sk_99_0 X
  | false =>
   exact kx_s_no
/-! TaskDeskModel.maySend(I)Z -/
def bk_100_0 (d : Nat) (C : kx_C) (J : Nat → kx_F) : kx_F := (kx_li 1 (kx_iflt (kx_nm [] (J 40)) (kx_la 0 (kx_gR 9 14 101 (kx_li 1 (kx_aB 101 (kx_ifne (kx_nm [] (J 36)) (kx_la 0 (kx_li 1 (kx_c (kx_i 0) (kx_Vi C 94 9 [0, 0] (kx_ifge (kx_nm [] (J 36)) (kx_la 0 (kx_li 1 (kx_Vi C 95 9 [0] (kx_la 0 (kx_gR 9 15 99 (kx_li 1 (kx_aI 99 (kx_cge (kx_nm [] (J 40)) (kx_nm [] (J 36))))))))))))))))))))))
def bk_100_36 (d : Nat) (C : kx_C) (J : Nat → kx_F) : kx_F := (kx_c (kx_i 1) (kx_nm [] (J 41)))
def bk_100_40 (d : Nat) (C : kx_C) (J : Nat → kx_F) : kx_F := (kx_c (kx_i 0) (kx_nm [] (J 41)))
def bk_100_41 (d : Nat) (C : kx_C) (J : Nat → kx_F) : kx_F := kx_rz
def bm_100 (d : Nat) (C : kx_C) (b : Nat) (J : Nat → kx_F) : kx_F := bif Nat.beq b 0 then bk_100_0 d C J else bif Nat.beq b 36 then bk_100_36 d C J else bif Nat.beq b 40 then bk_100_40 d C J else bif Nat.beq b 41 then bk_100_41 d C J else fun _ _ _ => none
set_option maxRecDepth 20000 in
theorem sk_100_0 (X : kx_X p l e R s m args below meth c s0 D cA 2 ι0 h0 rr hf prog_11_method_21_code "TaskDeskModel" C d (Option.some Jvm.ClassFile.FieldType.boolean) "maySend" J) : kx_Sn p l e R s m args below meth c s0 D cA 2 ι0 h0 rr hf 0 (bk_100_0 d C J) := by
  obtain ⟨G, CS, R9, O9, RT, NM, T0, FL, JS⟩ := X
  exact (kx_s_iload_n (j := 1) G rfl (by decide +kernel) (kx_s_iflt (off := 39) (tgt := 40) G (by decide +kernel) rfl (kx_s_nm (JS 40)) (kx_s_aload_n (j := 0) G rfl (by decide +kernel) (kx_s_gR G kf_9_39 (by decide +kernel) (kx_s_iload_n (j := 1) G rfl (by decide +kernel) (kx_s_aB G ka_101 (by decide +kernel) (kx_s_ifne (off := 26) (tgt := 36) G (by decide +kernel) rfl (kx_s_nm (JS 36)) (kx_s_aload_n (j := 0) G rfl (by decide +kernel) (kx_s_iload_n (j := 1) G rfl (by decide +kernel) (kx_s_iconst (i := 0) G (by decide +kernel) (by decide +kernel) (kx_s_Vi (n := 94) G kx_good CS R9 (O9 _) kc_94 rfl kw_1080 kw_1082 kw_43 (r := kr_9) rfl (by decide) (by decide +kernel) (kx_s_ifge (off := 17) (tgt := 36) G (by decide +kernel) rfl (kx_s_nm (JS 36)) (kx_s_aload_n (j := 0) G rfl (by decide +kernel) (kx_s_iload_n (j := 1) G rfl (by decide +kernel) (kx_s_Vi (n := 95) G kx_good CS R9 (O9 _) kc_95 rfl kw_1084 kw_1086 kw_44 (r := kr_9) rfl (by decide) (by decide +kernel) (kx_s_aload_n (j := 0) G rfl (by decide +kernel) (kx_s_gR G kf_9_42 (by decide +kernel) (kx_s_iload_n (j := 1) G rfl (by decide +kernel) (kx_s_aI G ka_99 (by decide +kernel) (kx_s_cge (off := 7) (tgt := 40) G (by decide +kernel) rfl (kx_s_nm (JS 40)) (kx_s_nm (JS 36))))))))))))))))))))))
set_option maxRecDepth 20000 in
theorem sk_100_36 (X : kx_X p l e R s m args below meth c s0 D cA 2 ι0 h0 rr hf prog_11_method_21_code "TaskDeskModel" C d (Option.some Jvm.ClassFile.FieldType.boolean) "maySend" J) : kx_Sn p l e R s m args below meth c s0 D cA 2 ι0 h0 rr hf 36 (bk_100_36 d C J) := by
  obtain ⟨G, CS, R9, O9, RT, NM, T0, FL, JS⟩ := X
  exact (kx_s_iconst (i := 1) G (by decide +kernel) (by decide +kernel) (kx_s_goto (off := 4) (tgt := 41) G (by decide +kernel) rfl (kx_s_nm (JS 41))))
set_option maxRecDepth 20000 in
theorem sk_100_40 (X : kx_X p l e R s m args below meth c s0 D cA 2 ι0 h0 rr hf prog_11_method_21_code "TaskDeskModel" C d (Option.some Jvm.ClassFile.FieldType.boolean) "maySend" J) : kx_Sn p l e R s m args below meth c s0 D cA 2 ι0 h0 rr hf 40 (bk_100_40 d C J) := by
  obtain ⟨G, CS, R9, O9, RT, NM, T0, FL, JS⟩ := X
  exact (kx_s_iconst (i := 0) G (by decide +kernel) (by decide +kernel) (kx_s_nm (JS 41)))
set_option maxRecDepth 20000 in
theorem sk_100_41 (X : kx_X p l e R s m args below meth c s0 D cA 2 ι0 h0 rr hf prog_11_method_21_code "TaskDeskModel" C d (Option.some Jvm.ClassFile.FieldType.boolean) "maySend" J) : kx_Sn p l e R s m args below meth c s0 D cA 2 ι0 h0 rr hf 41 (bk_100_41 d C J) := by
  obtain ⟨G, CS, R9, O9, RT, NM, T0, FL, JS⟩ := X
  exact (kx_s_zreturn G RT (by decide +kernel))
theorem sm_100 (X : kx_X p l e R s m args below meth c s0 D cA 2 ι0 h0 rr hf prog_11_method_21_code "TaskDeskModel" C d (Option.some Jvm.ClassFile.FieldType.boolean) "maySend" J) (b : Nat) : kx_Sn p l e R s m args below meth c s0 D cA 2 ι0 h0 rr hf b (bm_100 d C b J) := by
  unfold bm_100
  cases h0 : Nat.beq b 0 with
  | true => rw [Nat.eq_of_beq_eq_true h0]; exact sk_100_0 X
  | false =>
   cases h36 : Nat.beq b 36 with
   | true => rw [Nat.eq_of_beq_eq_true h36]; exact sk_100_36 X
   | false =>
    cases h40 : Nat.beq b 40 with
    | true => rw [Nat.eq_of_beq_eq_true h40]; exact sk_100_40 X
    | false =>
     cases h41 : Nat.beq b 41 with
     | true => rw [Nat.eq_of_beq_eq_true h41]; exact sk_100_41 X
     | false =>
      exact kx_s_no
/-! TaskDeskModel.deliver(IJ)V -/
def bk_101_0 (d : Nat) (C : kx_C) (J : Nat → kx_F) : kx_F := (kx_la 0 (kx_li 1 (kx_c (kx_i 0) (kx_Vi C 94 9 [0, 0] (kx_si 4 (kx_li 4 (kx_iflt (kx_la 0 (kx_li 1 (kx_ll 2 (kx_Vv C 106 9 [0, 1] (kx_nm [] (J 31)))))) (kx_la 0 (kx_li 4 (kx_ll 2 (kx_c (kx_i 1) (kx_c (kx_i 0) (kx_Vv C 102 9 [0, 1, 0, 0] (kx_nm [] (J 31)))))))))))))))
def bk_101_31 (d : Nat) (C : kx_C) (J : Nat → kx_F) : kx_F := kx_rv
def bm_101 (d : Nat) (C : kx_C) (b : Nat) (J : Nat → kx_F) : kx_F := bif Nat.beq b 0 then bk_101_0 d C J else bif Nat.beq b 31 then bk_101_31 d C J else fun _ _ _ => none
set_option maxRecDepth 20000 in
theorem sk_101_0 (X : kx_X p l e R s m args below meth c s0 D cA 5 ι0 h0 rr hf prog_11_method_18_code "TaskDeskModel" C d (Option.none : Option Jvm.ClassFile.FieldType) "deliver" J) : kx_Sn p l e R s m args below meth c s0 D cA 5 ι0 h0 rr hf 0 (bk_101_0 d C J) := by
  obtain ⟨G, CS, R9, O9, RT, NM, T0, FL, JS⟩ := X
  exact (kx_s_aload_n (j := 0) G rfl (by decide +kernel) (kx_s_iload_n (j := 1) G rfl (by decide +kernel) (kx_s_iconst (i := 0) G (by decide +kernel) (by decide +kernel) (kx_s_Vi (n := 94) G kx_good CS R9 (O9 _) kc_94 rfl kw_1080 kw_1082 kw_43 (r := kr_9) rfl (by decide) (by decide +kernel) (kx_s_istore G (by decide +kernel) (by decide) (kx_s_iload G (by decide +kernel) (kx_s_iflt (off := 15) (tgt := 25) G (by decide +kernel) rfl (kx_s_aload_n (j := 0) G rfl (by decide +kernel) (kx_s_iload_n (j := 1) G rfl (by decide +kernel) (kx_s_lload_n (j := 2) G rfl (by decide +kernel) (kx_s_Vv (n := 106) G kx_good CS R9 (O9 _) kc_106 rfl kw_1129 kw_1131 kw_53 (r := kr_9) rfl (by decide) (by decide +kernel) (kx_s_nm (JS 31)))))) (kx_s_aload_n (j := 0) G rfl (by decide +kernel) (kx_s_iload G (by decide +kernel) (kx_s_lload_n (j := 2) G rfl (by decide +kernel) (kx_s_iconst (i := 1) G (by decide +kernel) (by decide +kernel) (kx_s_iconst (i := 0) G (by decide +kernel) (by decide +kernel) (kx_s_Vv (n := 102) G kx_good CS R9 (O9 _) kc_102 rfl kw_1113 kw_1115 kw_49 (r := kr_9) rfl (by decide) (by decide +kernel) (kx_s_goto (off := 9) (tgt := 31) G (by decide +kernel) rfl (kx_s_nm (JS 31))))))))))))))))
set_option maxRecDepth 20000 in
theorem sk_101_31 (X : kx_X p l e R s m args below meth c s0 D cA 5 ι0 h0 rr hf prog_11_method_18_code "TaskDeskModel" C d (Option.none : Option Jvm.ClassFile.FieldType) "deliver" J) : kx_Sn p l e R s m args below meth c s0 D cA 5 ι0 h0 rr hf 31 (bk_101_31 d C J) := by
  obtain ⟨G, CS, R9, O9, RT, NM, T0, FL, JS⟩ := X
  exact (kx_s_return G RT (by decide +kernel))
theorem sm_101 (X : kx_X p l e R s m args below meth c s0 D cA 5 ι0 h0 rr hf prog_11_method_18_code "TaskDeskModel" C d (Option.none : Option Jvm.ClassFile.FieldType) "deliver" J) (b : Nat) : kx_Sn p l e R s m args below meth c s0 D cA 5 ι0 h0 rr hf b (bm_101 d C b J) := by
  unfold bm_101
  cases h0 : Nat.beq b 0 with
  | true => rw [Nat.eq_of_beq_eq_true h0]; exact sk_101_0 X
  | false =>
   cases h31 : Nat.beq b 31 with
   | true => rw [Nat.eq_of_beq_eq_true h31]; exact sk_101_31 X
   | false =>
    exact kx_s_no
/-! TaskDeskModel.met(IJZZ)V -/
def bk_102_0 (d : Nat) (C : kx_C) (J : Nat → kx_F) : kx_F := (kx_la 0 (kx_gR 9 21 99 (kx_li 1 (kx_aI 99 (kx_si 6 (kx_la 0 (kx_li 6 (kx_ll 2 (kx_li 4 (kx_la 0 (kx_gR 9 25 99 (kx_li 1 (kx_aI 99 (kx_li 5 (kx_Vv C 103 9 [0, 1, 0, 0, 0] (kx_la 0 (kx_li 6 (kx_Vv C 104 9 [0] (kx_la 0 (kx_li 6 (kx_Vv C 105 9 [0] kx_rv)))))))))))))))))))))
def bm_102 (d : Nat) (C : kx_C) (b : Nat) (J : Nat → kx_F) : kx_F := bif Nat.beq b 0 then bk_102_0 d C J else fun _ _ _ => none
set_option maxRecDepth 20000 in
theorem sk_102_0 (X : kx_X p l e R s m args below meth c s0 D cA 7 ι0 h0 rr hf prog_11_method_15_code "TaskDeskModel" C d (Option.none : Option Jvm.ClassFile.FieldType) "met" J) : kx_Sn p l e R s m args below meth c s0 D cA 7 ι0 h0 rr hf 0 (bk_102_0 d C J) := by
  obtain ⟨G, CS, R9, O9, RT, NM, T0, FL, JS⟩ := X
  exact (kx_s_aload_n (j := 0) G rfl (by decide +kernel) (kx_s_gR G kf_9_51 (by decide +kernel) (kx_s_iload_n (j := 1) G rfl (by decide +kernel) (kx_s_aI G ka_99 (by decide +kernel) (kx_s_istore G (by decide +kernel) (by decide) (kx_s_aload_n (j := 0) G rfl (by decide +kernel) (kx_s_iload G (by decide +kernel) (kx_s_lload_n (j := 2) G rfl (by decide +kernel) (kx_s_iload G (by decide +kernel) (kx_s_aload_n (j := 0) G rfl (by decide +kernel) (kx_s_gR G kf_9_63 (by decide +kernel) (kx_s_iload_n (j := 1) G rfl (by decide +kernel) (kx_s_aI G ka_99 (by decide +kernel) (kx_s_iload G (by decide +kernel) (kx_s_Vv (n := 103) G kx_good CS R9 (O9 _) kc_103 rfl kw_1117 kw_1119 kw_50 (r := kr_9) rfl (by decide) (by decide +kernel) (kx_s_aload_n (j := 0) G rfl (by decide +kernel) (kx_s_iload G (by decide +kernel) (kx_s_Vv (n := 104) G kx_good CS R9 (O9 _) kc_104 rfl kw_1121 kw_1123 kw_51 (r := kr_9) rfl (by decide) (by decide +kernel) (kx_s_aload_n (j := 0) G rfl (by decide +kernel) (kx_s_iload G (by decide +kernel) (kx_s_Vv (n := 105) G kx_good CS R9 (O9 _) kc_105 rfl kw_1125 kw_1127 kw_52 (r := kr_9) rfl (by decide) (by decide +kernel) (kx_s_return G RT (by decide +kernel)))))))))))))))))))))))
theorem sm_102 (X : kx_X p l e R s m args below meth c s0 D cA 7 ι0 h0 rr hf prog_11_method_15_code "TaskDeskModel" C d (Option.none : Option Jvm.ClassFile.FieldType) "met" J) (b : Nat) : kx_Sn p l e R s m args below meth c s0 D cA 7 ι0 h0 rr hf b (bm_102 d C b J) := by
  unfold bm_102
  cases h0 : Nat.beq b 0 with
  | true => rw [Nat.eq_of_beq_eq_true h0]; exact sk_102_0 X
  | false =>
   exact kx_s_no
/-! TaskDeskModel.has(IJZIZ)V -/
def bk_103_0 (d : Nat) (C : kx_C) (J : Nat → kx_F) : kx_F := (kx_la 0 (kx_gR 9 7 100 (kx_li 1 (kx_ll 2 (kx_asL 100 (kx_la 0 (kx_gR 9 8 101 (kx_li 1 (kx_li 4 (kx_asB 101 (kx_la 0 (kx_gR 9 9 99 (kx_li 1 (kx_li 5 (kx_asI 99 (kx_la 0 (kx_gR 9 10 101 (kx_li 1 (kx_li 6 (kx_asB 101 kx_rv))))))))))))))))))))
def bm_103 (d : Nat) (C : kx_C) (b : Nat) (J : Nat → kx_F) : kx_F := bif Nat.beq b 0 then bk_103_0 d C J else fun _ _ _ => none
set_option maxRecDepth 20000 in
theorem sk_103_0 (X : kx_X p l e R s m args below meth c s0 D cA 7 ι0 h0 rr hf prog_11_method_5_code "TaskDeskModel" C d (Option.none : Option Jvm.ClassFile.FieldType) "has" J) : kx_Sn p l e R s m args below meth c s0 D cA 7 ι0 h0 rr hf 0 (bk_103_0 d C J) := by
  obtain ⟨G, CS, R9, O9, RT, NM, T0, FL, JS⟩ := X
  exact (kx_s_aload_n (j := 0) G rfl (by decide +kernel) (kx_s_gR G kf_9_20 (by decide +kernel) (kx_s_iload_n (j := 1) G rfl (by decide +kernel) (kx_s_lload_n (j := 2) G rfl (by decide +kernel) (kx_s_asL G ka_100 (by decide +kernel) (kx_s_aload_n (j := 0) G rfl (by decide +kernel) (kx_s_gR G kf_9_24 (by decide +kernel) (kx_s_iload_n (j := 1) G rfl (by decide +kernel) (kx_s_iload G (by decide +kernel) (kx_s_asB G ka_101 (by decide +kernel) (kx_s_aload_n (j := 0) G rfl (by decide +kernel) (kx_s_gR G kf_9_27 (by decide +kernel) (kx_s_iload_n (j := 1) G rfl (by decide +kernel) (kx_s_iload G (by decide +kernel) (kx_s_asI G ka_99 (by decide +kernel) (kx_s_aload_n (j := 0) G rfl (by decide +kernel) (kx_s_gR G kf_9_30 (by decide +kernel) (kx_s_iload_n (j := 1) G rfl (by decide +kernel) (kx_s_iload G (by decide +kernel) (kx_s_asB G ka_101 (by decide +kernel) (kx_s_return G RT (by decide +kernel))))))))))))))))))))))
theorem sm_103 (X : kx_X p l e R s m args below meth c s0 D cA 7 ι0 h0 rr hf prog_11_method_5_code "TaskDeskModel" C d (Option.none : Option Jvm.ClassFile.FieldType) "has" J) (b : Nat) : kx_Sn p l e R s m args below meth c s0 D cA 7 ι0 h0 rr hf b (bm_103 d C b J) := by
  unfold bm_103
  cases h0 : Nat.beq b 0 with
  | true => rw [Nat.eq_of_beq_eq_true h0]; exact sk_103_0 X
  | false =>
   exact kx_s_no
/-! TaskDeskModel.withdraw(I)V -/
def bk_104_0 (d : Nat) (C : kx_C) (J : Nat → kx_F) : kx_F := (kx_c (kx_i 0) (kx_si 2 (kx_c (kx_i 0) (kx_si 3 (kx_nm [0, 1, 2, 3] (J 4))))))
def bk_104_4 (d : Nat) (C : kx_C) (J : Nat → kx_F) : kx_F := (kx_li 3 (kx_la 0 (kx_gI 9 20 (kx_cge (kx_la 0 (kx_li 2 (kx_pI 9 20 kx_rv))) (kx_la 0 (kx_gR 9 21 99 (kx_li 3 (kx_aI 99 (kx_li 1 (kx_cne (kx_la 0 (kx_gR 9 21 99 (kx_li 2 (kx_la 0 (kx_gR 9 21 99 (kx_li 3 (kx_aI 99 (kx_asI 99 (kx_la 0 (kx_gR 9 22 99 (kx_li 2 (kx_la 0 (kx_gR 9 22 99 (kx_li 3 (kx_aI 99 (kx_asI 99 (kx_la 0 (kx_gR 9 23 101 (kx_li 2 (kx_la 0 (kx_gR 9 23 101 (kx_li 3 (kx_aB 101 (kx_asB 101 (kx_la 0 (kx_gR 9 24 100 (kx_li 2 (kx_la 0 (kx_gR 9 24 100 (kx_li 3 (kx_aL 100 (kx_asL 100 (kx_la 0 (kx_gR 9 25 99 (kx_li 2 (kx_la 0 (kx_gR 9 25 99 (kx_li 3 (kx_aI 99 (kx_asI 99 (kx_inc 2 1 (kx_nm [0, 1, 2, 3] (J 88))))))))))))))))))))))))))))))))))))))))))) (kx_nm [0, 1, 2, 3] (J 88))))))))))))
def bk_104_88 (d : Nat) (C : kx_C) (J : Nat → kx_F) : kx_F := (kx_inc 3 1 (kx_nm [0, 1, 2, 3] (J 4)))
def bm_104 (d : Nat) (C : kx_C) (b : Nat) (J : Nat → kx_F) : kx_F := bif Nat.beq b 0 then bk_104_0 d C J else bif Nat.beq b 4 then bk_104_4 d C J else bif Nat.beq b 88 then bk_104_88 d C J else fun _ _ _ => none
set_option maxRecDepth 20000 in
theorem sk_104_0 (X : kx_X p l e R s m args below meth c s0 D cA 4 ι0 h0 rr hf prog_11_method_14_code "TaskDeskModel" C d (Option.none : Option Jvm.ClassFile.FieldType) "withdraw" J) : kx_Sn p l e R s m args below meth c s0 D cA 4 ι0 h0 rr hf 0 (bk_104_0 d C J) := by
  obtain ⟨G, CS, R9, O9, RT, NM, T0, FL, JS⟩ := X
  exact (kx_s_iconst (i := 0) G (by decide +kernel) (by decide +kernel) (kx_s_istore_n (j := 2) G rfl (by decide +kernel) (by decide) (kx_s_iconst (i := 0) G (by decide +kernel) (by decide +kernel) (kx_s_istore_n (j := 3) G rfl (by decide +kernel) (by decide) (kx_s_nm (JS 4))))))
set_option maxRecDepth 20000 in
theorem sk_104_4 (X : kx_X p l e R s m args below meth c s0 D cA 4 ι0 h0 rr hf prog_11_method_14_code "TaskDeskModel" C d (Option.none : Option Jvm.ClassFile.FieldType) "withdraw" J) : kx_Sn p l e R s m args below meth c s0 D cA 4 ι0 h0 rr hf 4 (bk_104_4 d C J) := by
  obtain ⟨G, CS, R9, O9, RT, NM, T0, FL, JS⟩ := X
  exact (kx_s_iload_n (j := 3) G rfl (by decide +kernel) (kx_s_aload_n (j := 0) G rfl (by decide +kernel) (kx_s_gI G kf_9_149 (by decide +kernel) (kx_s_cge (off := 85) (tgt := 94) G (by decide +kernel) rfl (kx_s_aload_n (j := 0) G rfl (by decide +kernel) (kx_s_iload_n (j := 2) G rfl (by decide +kernel) (kx_s_pI G kf_9_149 rfl (by decide +kernel) (by decide +kernel) (kx_s_return G RT (by decide +kernel))))) (kx_s_aload_n (j := 0) G rfl (by decide +kernel) (kx_s_gR G kf_9_51 (by decide +kernel) (kx_s_iload_n (j := 3) G rfl (by decide +kernel) (kx_s_aI G ka_99 (by decide +kernel) (kx_s_iload_n (j := 1) G rfl (by decide +kernel) (kx_s_cne (off := 6) (tgt := 25) G (by decide +kernel) rfl (kx_s_aload_n (j := 0) G rfl (by decide +kernel) (kx_s_gR G kf_9_51 (by decide +kernel) (kx_s_iload_n (j := 2) G rfl (by decide +kernel) (kx_s_aload_n (j := 0) G rfl (by decide +kernel) (kx_s_gR G kf_9_51 (by decide +kernel) (kx_s_iload_n (j := 3) G rfl (by decide +kernel) (kx_s_aI G ka_99 (by decide +kernel) (kx_s_asI G ka_99 (by decide +kernel) (kx_s_aload_n (j := 0) G rfl (by decide +kernel) (kx_s_gR G kf_9_54 (by decide +kernel) (kx_s_iload_n (j := 2) G rfl (by decide +kernel) (kx_s_aload_n (j := 0) G rfl (by decide +kernel) (kx_s_gR G kf_9_54 (by decide +kernel) (kx_s_iload_n (j := 3) G rfl (by decide +kernel) (kx_s_aI G ka_99 (by decide +kernel) (kx_s_asI G ka_99 (by decide +kernel) (kx_s_aload_n (j := 0) G rfl (by decide +kernel) (kx_s_gR G kf_9_57 (by decide +kernel) (kx_s_iload_n (j := 2) G rfl (by decide +kernel) (kx_s_aload_n (j := 0) G rfl (by decide +kernel) (kx_s_gR G kf_9_57 (by decide +kernel) (kx_s_iload_n (j := 3) G rfl (by decide +kernel) (kx_s_aB G ka_101 (by decide +kernel) (kx_s_asB G ka_101 (by decide +kernel) (kx_s_aload_n (j := 0) G rfl (by decide +kernel) (kx_s_gR G kf_9_60 (by decide +kernel) (kx_s_iload_n (j := 2) G rfl (by decide +kernel) (kx_s_aload_n (j := 0) G rfl (by decide +kernel) (kx_s_gR G kf_9_60 (by decide +kernel) (kx_s_iload_n (j := 3) G rfl (by decide +kernel) (kx_s_aL G ka_100 (by decide +kernel) (kx_s_asL G ka_100 (by decide +kernel) (kx_s_aload_n (j := 0) G rfl (by decide +kernel) (kx_s_gR G kf_9_63 (by decide +kernel) (kx_s_iload_n (j := 2) G rfl (by decide +kernel) (kx_s_aload_n (j := 0) G rfl (by decide +kernel) (kx_s_gR G kf_9_63 (by decide +kernel) (kx_s_iload_n (j := 3) G rfl (by decide +kernel) (kx_s_aI G ka_99 (by decide +kernel) (kx_s_asI G ka_99 (by decide +kernel) (kx_s_iinc (n := 1) G (by decide +kernel) (by decide +kernel) (by decide) (kx_s_nm (JS 88))))))))))))))))))))))))))))))))))))))))))) (kx_s_goto (off := 66) (tgt := 88) G (by decide +kernel) rfl (kx_s_nm (JS 88)))))))))))))
set_option maxRecDepth 20000 in
theorem sk_104_88 (X : kx_X p l e R s m args below meth c s0 D cA 4 ι0 h0 rr hf prog_11_method_14_code "TaskDeskModel" C d (Option.none : Option Jvm.ClassFile.FieldType) "withdraw" J) : kx_Sn p l e R s m args below meth c s0 D cA 4 ι0 h0 rr hf 88 (bk_104_88 d C J) := by
  obtain ⟨G, CS, R9, O9, RT, NM, T0, FL, JS⟩ := X
  exact (kx_s_iinc (n := 1) G (by decide +kernel) (by decide +kernel) (by decide) (kx_s_goto (off := -87) (tgt := 4) G (by decide +kernel) rfl (kx_s_nm (JS 4))))
theorem sm_104 (X : kx_X p l e R s m args below meth c s0 D cA 4 ι0 h0 rr hf prog_11_method_14_code "TaskDeskModel" C d (Option.none : Option Jvm.ClassFile.FieldType) "withdraw" J) (b : Nat) : kx_Sn p l e R s m args below meth c s0 D cA 4 ι0 h0 rr hf b (bm_104 d C b J) := by
  unfold bm_104
  cases h0 : Nat.beq b 0 with
  | true => rw [Nat.eq_of_beq_eq_true h0]; exact sk_104_0 X
  | false =>
   cases h4 : Nat.beq b 4 with
   | true => rw [Nat.eq_of_beq_eq_true h4]; exact sk_104_4 X
   | false =>
    cases h88 : Nat.beq b 88 with
    | true => rw [Nat.eq_of_beq_eq_true h88]; exact sk_104_88 X
    | false =>
     exact kx_s_no
/-! TaskDeskModel.wake(I)V -/
def bk_105_0 (d : Nat) (C : kx_C) (J : Nat → kx_F) : kx_F := (kx_la 0 (kx_gR 9 5 99 (kx_li 1 (kx_c (kx_i 1) (kx_asI 99 (kx_la 0 (kx_gR 9 6 99 (kx_li 1 (kx_c (kx_i (-1)) (kx_asI 99 (kx_la 0 (kx_gR 9 12 99 (kx_la 0 (kx_gI 9 11 (kx_li 1 (kx_asI 99 (kx_la 0 (kx_dup (kx_gI 9 11 (kx_c (kx_i 1) (kx_ii (fun x y => x + y) (kx_pI 9 11 kx_rv))))))))))))))))))))))
def bm_105 (d : Nat) (C : kx_C) (b : Nat) (J : Nat → kx_F) : kx_F := bif Nat.beq b 0 then bk_105_0 d C J else fun _ _ _ => none
set_option maxRecDepth 20000 in
theorem sk_105_0 (X : kx_X p l e R s m args below meth c s0 D cA 2 ι0 h0 rr hf prog_11_method_6_code "TaskDeskModel" C d (Option.none : Option Jvm.ClassFile.FieldType) "wake" J) : kx_Sn p l e R s m args below meth c s0 D cA 2 ι0 h0 rr hf 0 (bk_105_0 d C J) := by
  obtain ⟨G, CS, R9, O9, RT, NM, T0, FL, JS⟩ := X
  exact (kx_s_aload_n (j := 0) G rfl (by decide +kernel) (kx_s_gR G kf_9_13 (by decide +kernel) (kx_s_iload_n (j := 1) G rfl (by decide +kernel) (kx_s_iconst (i := 1) G (by decide +kernel) (by decide +kernel) (kx_s_asI G ka_99 (by decide +kernel) (kx_s_aload_n (j := 0) G rfl (by decide +kernel) (kx_s_gR G kf_9_17 (by decide +kernel) (kx_s_iload_n (j := 1) G rfl (by decide +kernel) (kx_s_iconst (i := -1) G (by decide +kernel) (by decide +kernel) (kx_s_asI G ka_99 (by decide +kernel) (kx_s_aload_n (j := 0) G rfl (by decide +kernel) (kx_s_gR G kf_9_33 (by decide +kernel) (kx_s_aload_n (j := 0) G rfl (by decide +kernel) (kx_s_gI G kf_9_103 (by decide +kernel) (kx_s_iload_n (j := 1) G rfl (by decide +kernel) (kx_s_asI G ka_99 (by decide +kernel) (kx_s_aload_n (j := 0) G rfl (by decide +kernel) (kx_s_dup G (by decide +kernel) (kx_s_gI G kf_9_103 (by decide +kernel) (kx_s_iconst (i := 1) G (by decide +kernel) (by decide +kernel) (kx_s_iadd G (by decide +kernel) (kx_s_pI G kf_9_103 rfl (by decide +kernel) (by decide +kernel) (kx_s_return G RT (by decide +kernel))))))))))))))))))))))))
theorem sm_105 (X : kx_X p l e R s m args below meth c s0 D cA 2 ι0 h0 rr hf prog_11_method_6_code "TaskDeskModel" C d (Option.none : Option Jvm.ClassFile.FieldType) "wake" J) (b : Nat) : kx_Sn p l e R s m args below meth c s0 D cA 2 ι0 h0 rr hf b (bm_105 d C b J) := by
  unfold bm_105
  cases h0 : Nat.beq b 0 with
  | true => rw [Nat.eq_of_beq_eq_true h0]; exact sk_105_0 X
  | false =>
   exact kx_s_no
/-! TaskDeskModel.store(IJ)V -/
def bk_106_0 (d : Nat) (C : kx_C) (J : Nat → kx_F) : kx_F := (kx_la 0 (kx_gR 9 18 99 (kx_la 0 (kx_gI 9 17 (kx_li 1 (kx_asI 99 (kx_la 0 (kx_gR 9 19 100 (kx_la 0 (kx_gI 9 17 (kx_ll 2 (kx_asL 100 (kx_la 0 (kx_dup (kx_gI 9 17 (kx_c (kx_i 1) (kx_ii (fun x y => x + y) (kx_pI 9 17 kx_rv))))))))))))))))))
def bm_106 (d : Nat) (C : kx_C) (b : Nat) (J : Nat → kx_F) : kx_F := bif Nat.beq b 0 then bk_106_0 d C J else fun _ _ _ => none
set_option maxRecDepth 20000 in
theorem sk_106_0 (X : kx_X p l e R s m args below meth c s0 D cA 4 ι0 h0 rr hf prog_11_method_17_code "TaskDeskModel" C d (Option.none : Option Jvm.ClassFile.FieldType) "store" J) : kx_Sn p l e R s m args below meth c s0 D cA 4 ι0 h0 rr hf 0 (bk_106_0 d C J) := by
  obtain ⟨G, CS, R9, O9, RT, NM, T0, FL, JS⟩ := X
  exact (kx_s_aload_n (j := 0) G rfl (by decide +kernel) (kx_s_gR G kf_9_45 (by decide +kernel) (kx_s_aload_n (j := 0) G rfl (by decide +kernel) (kx_s_gI G kf_9_146 (by decide +kernel) (kx_s_iload_n (j := 1) G rfl (by decide +kernel) (kx_s_asI G ka_99 (by decide +kernel) (kx_s_aload_n (j := 0) G rfl (by decide +kernel) (kx_s_gR G kf_9_48 (by decide +kernel) (kx_s_aload_n (j := 0) G rfl (by decide +kernel) (kx_s_gI G kf_9_146 (by decide +kernel) (kx_s_lload_n (j := 2) G rfl (by decide +kernel) (kx_s_asL G ka_100 (by decide +kernel) (kx_s_aload_n (j := 0) G rfl (by decide +kernel) (kx_s_dup G (by decide +kernel) (kx_s_gI G kf_9_146 (by decide +kernel) (kx_s_iconst (i := 1) G (by decide +kernel) (by decide +kernel) (kx_s_iadd G (by decide +kernel) (kx_s_pI G kf_9_146 rfl (by decide +kernel) (by decide +kernel) (kx_s_return G RT (by decide +kernel))))))))))))))))))))
theorem sm_106 (X : kx_X p l e R s m args below meth c s0 D cA 4 ι0 h0 rr hf prog_11_method_17_code "TaskDeskModel" C d (Option.none : Option Jvm.ClassFile.FieldType) "store" J) (b : Nat) : kx_Sn p l e R s m args below meth c s0 D cA 4 ι0 h0 rr hf b (bm_106 d C b J) := by
  unfold bm_106
  cases h0 : Nat.beq b 0 with
  | true => rw [Nat.eq_of_beq_eq_true h0]; exact sk_106_0 X
  | false =>
   exact kx_s_no
/-! TaskDeskModel.offer(IIZJI)V -/
def bk_107_0 (d : Nat) (C : kx_C) (J : Nat → kx_F) : kx_F := (kx_la 0 (kx_gR 9 21 99 (kx_la 0 (kx_gI 9 20 (kx_li 1 (kx_asI 99 (kx_la 0 (kx_gR 9 22 99 (kx_la 0 (kx_gI 9 20 (kx_li 2 (kx_asI 99 (kx_la 0 (kx_gR 9 23 101 (kx_la 0 (kx_gI 9 20 (kx_li 3 (kx_asB 101 (kx_la 0 (kx_gR 9 24 100 (kx_la 0 (kx_gI 9 20 (kx_ll 4 (kx_asL 100 (kx_la 0 (kx_gR 9 25 99 (kx_la 0 (kx_gI 9 20 (kx_li 6 (kx_asI 99 (kx_la 0 (kx_dup (kx_gI 9 20 (kx_c (kx_i 1) (kx_ii (fun x y => x + y) (kx_pI 9 20 kx_rv))))))))))))))))))))))))))))))))))))
def bm_107 (d : Nat) (C : kx_C) (b : Nat) (J : Nat → kx_F) : kx_F := bif Nat.beq b 0 then bk_107_0 d C J else fun _ _ _ => none
set_option maxRecDepth 20000 in
theorem sk_107_0 (X : kx_X p l e R s m args below meth c s0 D cA 7 ι0 h0 rr hf prog_11_method_16_code "TaskDeskModel" C d (Option.none : Option Jvm.ClassFile.FieldType) "offer" J) : kx_Sn p l e R s m args below meth c s0 D cA 7 ι0 h0 rr hf 0 (bk_107_0 d C J) := by
  obtain ⟨G, CS, R9, O9, RT, NM, T0, FL, JS⟩ := X
  exact (kx_s_aload_n (j := 0) G rfl (by decide +kernel) (kx_s_gR G kf_9_51 (by decide +kernel) (kx_s_aload_n (j := 0) G rfl (by decide +kernel) (kx_s_gI G kf_9_149 (by decide +kernel) (kx_s_iload_n (j := 1) G rfl (by decide +kernel) (kx_s_asI G ka_99 (by decide +kernel) (kx_s_aload_n (j := 0) G rfl (by decide +kernel) (kx_s_gR G kf_9_54 (by decide +kernel) (kx_s_aload_n (j := 0) G rfl (by decide +kernel) (kx_s_gI G kf_9_149 (by decide +kernel) (kx_s_iload_n (j := 2) G rfl (by decide +kernel) (kx_s_asI G ka_99 (by decide +kernel) (kx_s_aload_n (j := 0) G rfl (by decide +kernel) (kx_s_gR G kf_9_57 (by decide +kernel) (kx_s_aload_n (j := 0) G rfl (by decide +kernel) (kx_s_gI G kf_9_149 (by decide +kernel) (kx_s_iload_n (j := 3) G rfl (by decide +kernel) (kx_s_asB G ka_101 (by decide +kernel) (kx_s_aload_n (j := 0) G rfl (by decide +kernel) (kx_s_gR G kf_9_60 (by decide +kernel) (kx_s_aload_n (j := 0) G rfl (by decide +kernel) (kx_s_gI G kf_9_149 (by decide +kernel) (kx_s_lload G (by decide +kernel) (kx_s_asL G ka_100 (by decide +kernel) (kx_s_aload_n (j := 0) G rfl (by decide +kernel) (kx_s_gR G kf_9_63 (by decide +kernel) (kx_s_aload_n (j := 0) G rfl (by decide +kernel) (kx_s_gI G kf_9_149 (by decide +kernel) (kx_s_iload G (by decide +kernel) (kx_s_asI G ka_99 (by decide +kernel) (kx_s_aload_n (j := 0) G rfl (by decide +kernel) (kx_s_dup G (by decide +kernel) (kx_s_gI G kf_9_149 (by decide +kernel) (kx_s_iconst (i := 1) G (by decide +kernel) (by decide +kernel) (kx_s_iadd G (by decide +kernel) (kx_s_pI G kf_9_149 rfl (by decide +kernel) (by decide +kernel) (kx_s_return G RT (by decide +kernel))))))))))))))))))))))))))))))))))))))
theorem sm_107 (X : kx_X p l e R s m args below meth c s0 D cA 7 ι0 h0 rr hf prog_11_method_16_code "TaskDeskModel" C d (Option.none : Option Jvm.ClassFile.FieldType) "offer" J) (b : Nat) : kx_Sn p l e R s m args below meth c s0 D cA 7 ι0 h0 rr hf b (bm_107 d C b J) := by
  unfold bm_107
  cases h0 : Nat.beq b 0 with
  | true => rw [Nat.eq_of_beq_eq_true h0]; exact sk_107_0 X
  | false =>
   exact kx_s_no
/-! TaskDeskModel.rest(II)V -/
def bk_108_0 (d : Nat) (C : kx_C) (J : Nat → kx_F) : kx_F := (kx_la 0 (kx_gR 9 5 99 (kx_la 0 (kx_gI 9 1 (kx_li 1 (kx_asI 99 (kx_la 0 (kx_gR 9 6 99 (kx_la 0 (kx_gI 9 1 (kx_li 2 (kx_asI 99 (kx_la 0 (kx_c (kx_i (-1)) (kx_pI 9 1 (kx_la 0 (kx_Vv C 109 9 [] kx_rv)))))))))))))))))
def bm_108 (d : Nat) (C : kx_C) (b : Nat) (J : Nat → kx_F) : kx_F := bif Nat.beq b 0 then bk_108_0 d C J else fun _ _ _ => none
set_option maxRecDepth 20000 in
theorem sk_108_0 (X : kx_X p l e R s m args below meth c s0 D cA 3 ι0 h0 rr hf prog_11_method_7_code "TaskDeskModel" C d (Option.none : Option Jvm.ClassFile.FieldType) "rest" J) : kx_Sn p l e R s m args below meth c s0 D cA 3 ι0 h0 rr hf 0 (bk_108_0 d C J) := by
  obtain ⟨G, CS, R9, O9, RT, NM, T0, FL, JS⟩ := X
  exact (kx_s_aload_n (j := 0) G rfl (by decide +kernel) (kx_s_gR G kf_9_13 (by decide +kernel) (kx_s_aload_n (j := 0) G rfl (by decide +kernel) (kx_s_gI G kf_9_106 (by decide +kernel) (kx_s_iload_n (j := 1) G rfl (by decide +kernel) (kx_s_asI G ka_99 (by decide +kernel) (kx_s_aload_n (j := 0) G rfl (by decide +kernel) (kx_s_gR G kf_9_17 (by decide +kernel) (kx_s_aload_n (j := 0) G rfl (by decide +kernel) (kx_s_gI G kf_9_106 (by decide +kernel) (kx_s_iload_n (j := 2) G rfl (by decide +kernel) (kx_s_asI G ka_99 (by decide +kernel) (kx_s_aload_n (j := 0) G rfl (by decide +kernel) (kx_s_iconst (i := -1) G (by decide +kernel) (by decide +kernel) (kx_s_pI G kf_9_106 rfl (by decide +kernel) (by decide +kernel) (kx_s_aload_n (j := 0) G rfl (by decide +kernel) (kx_s_Vv (n := 109) G kx_good CS R9 (O9 _) kc_109 rfl kw_1141 kw_1143 kw_56 (r := kr_9) rfl (by decide) (by decide +kernel) (kx_s_return G RT (by decide +kernel)))))))))))))))))))
theorem sm_108 (X : kx_X p l e R s m args below meth c s0 D cA 3 ι0 h0 rr hf prog_11_method_7_code "TaskDeskModel" C d (Option.none : Option Jvm.ClassFile.FieldType) "rest" J) (b : Nat) : kx_Sn p l e R s m args below meth c s0 D cA 3 ι0 h0 rr hf b (bm_108 d C b J) := by
  unfold bm_108
  cases h0 : Nat.beq b 0 with
  | true => rw [Nat.eq_of_beq_eq_true h0]; exact sk_108_0 X
  | false =>
   exact kx_s_no
/-! TaskDeskModel.next()V -/
def bk_109_0 (d : Nat) (C : kx_C) (J : Nat → kx_F) : kx_F := (kx_la 0 (kx_gI 9 11 (kx_ifne (kx_nm [0] (J 21)) (kx_la 0 (kx_gI 9 38 (kx_ifle (kx_nm [0] (J 21)) (kx_la 0 (kx_Vv C 110 9 [] (kx_nm [0] (J 0))))))))))
def bk_109_21 (d : Nat) (C : kx_C) (J : Nat → kx_F) : kx_F := (kx_la 0 (kx_gI 9 11 (kx_ifne (kx_la 0 (kx_la 0 (kx_gR 9 12 99 (kx_c (kx_i 0) (kx_aI 99 (kx_pI 9 1 (kx_la 0 (kx_dup (kx_gI 9 11 (kx_c (kx_i 1) (kx_ii (fun x y => x - y) (kx_pI 9 11 (kx_c (kx_i 0) (kx_si 1 (kx_nm [0, 1] (J 56)))))))))))))))) (kx_la 0 (kx_c (kx_i 2) (kx_pI 9 2 kx_rv))))))
def bk_109_56 (d : Nat) (C : kx_C) (J : Nat → kx_F) : kx_F := (kx_li 1 (kx_la 0 (kx_gI 9 11 (kx_cge (kx_la 0 (kx_gR 9 5 99 (kx_la 0 (kx_gI 9 1 (kx_c (kx_i 0) (kx_asI 99 kx_rv)))))) (kx_la 0 (kx_gR 9 12 99 (kx_li 1 (kx_la 0 (kx_gR 9 12 99 (kx_li 1 (kx_c (kx_i 1) (kx_ii (fun x y => x + y) (kx_aI 99 (kx_asI 99 (kx_inc 1 1 (kx_nm [0, 1] (J 56)))))))))))))))))
def bm_109 (d : Nat) (C : kx_C) (b : Nat) (J : Nat → kx_F) : kx_F := bif Nat.beq b 0 then bk_109_0 d C J else bif Nat.beq b 21 then bk_109_21 d C J else bif Nat.beq b 56 then bk_109_56 d C J else fun _ _ _ => none
set_option maxRecDepth 20000 in
theorem sk_109_0 (X : kx_X p l e R s m args below meth c s0 D cA 2 ι0 h0 rr hf prog_11_method_8_code "TaskDeskModel" C d (Option.none : Option Jvm.ClassFile.FieldType) "next" J) : kx_Sn p l e R s m args below meth c s0 D cA 2 ι0 h0 rr hf 0 (bk_109_0 d C J) := by
  obtain ⟨G, CS, R9, O9, RT, NM, T0, FL, JS⟩ := X
  exact (kx_s_aload_n (j := 0) G rfl (by decide +kernel) (kx_s_gI G kf_9_103 (by decide +kernel) (kx_s_ifne (off := 17) (tgt := 21) G (by decide +kernel) rfl (kx_s_nm (JS 21)) (kx_s_aload_n (j := 0) G rfl (by decide +kernel) (kx_s_gI G kf_9_112 (by decide +kernel) (kx_s_ifle (off := 10) (tgt := 21) G (by decide +kernel) rfl (kx_s_nm (JS 21)) (kx_s_aload_n (j := 0) G rfl (by decide +kernel) (kx_s_Vv (n := 110) G kx_good CS R9 (O9 _) kc_110 rfl kw_1145 kw_1147 kw_57 (r := kr_9) rfl (by decide) (by decide +kernel) (kx_s_goto (off := -18) (tgt := 0) G (by decide +kernel) rfl (kx_s_nm (JS 0)))))))))))
set_option maxRecDepth 20000 in
theorem sk_109_21 (X : kx_X p l e R s m args below meth c s0 D cA 2 ι0 h0 rr hf prog_11_method_8_code "TaskDeskModel" C d (Option.none : Option Jvm.ClassFile.FieldType) "next" J) : kx_Sn p l e R s m args below meth c s0 D cA 2 ι0 h0 rr hf 21 (bk_109_21 d C J) := by
  obtain ⟨G, CS, R9, O9, RT, NM, T0, FL, JS⟩ := X
  exact (kx_s_aload_n (j := 0) G rfl (by decide +kernel) (kx_s_gI G kf_9_103 (by decide +kernel) (kx_s_ifne (off := 9) (tgt := 34) G (by decide +kernel) rfl (kx_s_aload_n (j := 0) G rfl (by decide +kernel) (kx_s_aload_n (j := 0) G rfl (by decide +kernel) (kx_s_gR G kf_9_33 (by decide +kernel) (kx_s_iconst (i := 0) G (by decide +kernel) (by decide +kernel) (kx_s_aI G ka_99 (by decide +kernel) (kx_s_pI G kf_9_106 rfl (by decide +kernel) (by decide +kernel) (kx_s_aload_n (j := 0) G rfl (by decide +kernel) (kx_s_dup G (by decide +kernel) (kx_s_gI G kf_9_103 (by decide +kernel) (kx_s_iconst (i := 1) G (by decide +kernel) (by decide +kernel) (kx_s_isub G (by decide +kernel) (kx_s_pI G kf_9_103 rfl (by decide +kernel) (by decide +kernel) (kx_s_iconst (i := 0) G (by decide +kernel) (by decide +kernel) (kx_s_istore_n (j := 1) G rfl (by decide +kernel) (by decide) (kx_s_nm (JS 56)))))))))))))))) (kx_s_aload_n (j := 0) G rfl (by decide +kernel) (kx_s_iconst (i := 2) G (by decide +kernel) (by decide +kernel) (kx_s_pI G kf_9_118 rfl (by decide +kernel) (by decide +kernel) (kx_s_return G RT (by decide +kernel))))))))
set_option maxRecDepth 20000 in
theorem sk_109_56 (X : kx_X p l e R s m args below meth c s0 D cA 2 ι0 h0 rr hf prog_11_method_8_code "TaskDeskModel" C d (Option.none : Option Jvm.ClassFile.FieldType) "next" J) : kx_Sn p l e R s m args below meth c s0 D cA 2 ι0 h0 rr hf 56 (bk_109_56 d C J) := by
  obtain ⟨G, CS, R9, O9, RT, NM, T0, FL, JS⟩ := X
  exact (kx_s_iload_n (j := 1) G rfl (by decide +kernel) (kx_s_aload_n (j := 0) G rfl (by decide +kernel) (kx_s_gI G kf_9_103 (by decide +kernel) (kx_s_cge (off := 23) (tgt := 84) G (by decide +kernel) rfl (kx_s_aload_n (j := 0) G rfl (by decide +kernel) (kx_s_gR G kf_9_13 (by decide +kernel) (kx_s_aload_n (j := 0) G rfl (by decide +kernel) (kx_s_gI G kf_9_106 (by decide +kernel) (kx_s_iconst (i := 0) G (by decide +kernel) (by decide +kernel) (kx_s_asI G ka_99 (by decide +kernel) (kx_s_return G RT (by decide +kernel)))))))) (kx_s_aload_n (j := 0) G rfl (by decide +kernel) (kx_s_gR G kf_9_33 (by decide +kernel) (kx_s_iload_n (j := 1) G rfl (by decide +kernel) (kx_s_aload_n (j := 0) G rfl (by decide +kernel) (kx_s_gR G kf_9_33 (by decide +kernel) (kx_s_iload_n (j := 1) G rfl (by decide +kernel) (kx_s_iconst (i := 1) G (by decide +kernel) (by decide +kernel) (kx_s_iadd G (by decide +kernel) (kx_s_aI G ka_99 (by decide +kernel) (kx_s_asI G ka_99 (by decide +kernel) (kx_s_iinc (n := 1) G (by decide +kernel) (by decide +kernel) (by decide) (kx_s_goto (off := -25) (tgt := 56) G (by decide +kernel) rfl (kx_s_nm (JS 56))))))))))))))))))
theorem sm_109 (X : kx_X p l e R s m args below meth c s0 D cA 2 ι0 h0 rr hf prog_11_method_8_code "TaskDeskModel" C d (Option.none : Option Jvm.ClassFile.FieldType) "next" J) (b : Nat) : kx_Sn p l e R s m args below meth c s0 D cA 2 ι0 h0 rr hf b (bm_109 d C b J) := by
  unfold bm_109
  cases h0 : Nat.beq b 0 with
  | true => rw [Nat.eq_of_beq_eq_true h0]; exact sk_109_0 X
  | false =>
   cases h21 : Nat.beq b 21 with
   | true => rw [Nat.eq_of_beq_eq_true h21]; exact sk_109_21 X
   | false =>
    cases h56 : Nat.beq b 56 with
    | true => rw [Nat.eq_of_beq_eq_true h56]; exact sk_109_56 X
    | false =>
     exact kx_s_no
/-! TaskDeskModel.ring()V -/
def bk_110_0 (d : Nat) (C : kx_C) (J : Nat → kx_F) : kx_F := (kx_la 0 (kx_gR 9 40 100 (kx_c (kx_i 0) (kx_aL 100 (kx_sl 1 (kx_c (kx_i 1) (kx_si 3 (kx_nm [0, 1, 3] (J 9)))))))))
def bk_110_9 (d : Nat) (C : kx_C) (J : Nat → kx_F) : kx_F := (kx_li 3 (kx_la 0 (kx_gI 9 38 (kx_cge (kx_la 0 (kx_ll 1 (kx_pL 9 3 (kx_c (kx_i 0) (kx_si 3 (kx_la 0 (kx_gI 9 38 (kx_si 4 (kx_c (kx_i 0) (kx_si 5 (kx_nm [0, 1, 3, 4, 5] (J 61)))))))))))) (kx_la 0 (kx_gR 9 40 100 (kx_li 3 (kx_aL 100 (kx_ll 1 (kx_lcmp (kx_ifge (kx_ll 1 (kx_nm [0, 3] (J 38))) (kx_la 0 (kx_gR 9 40 100 (kx_li 3 (kx_aL 100 (kx_nm [0, 3] (J 38)))))))))))))))))
def bk_110_38 (d : Nat) (C : kx_C) (J : Nat → kx_F) : kx_F := (kx_sl 1 (kx_inc 3 1 (kx_nm [0, 1, 3] (J 9))))
def bk_110_61 (d : Nat) (C : kx_C) (J : Nat → kx_F) : kx_F := (kx_li 5 (kx_li 4 (kx_cge (kx_la 0 (kx_li 3 (kx_pI 9 38 kx_rv))) (kx_la 0 (kx_gR 9 40 100 (kx_li 5 (kx_aL 100 (kx_ll 1 (kx_lcmp (kx_ifeq (kx_la 0 (kx_gR 9 39 99 (kx_li 5 (kx_aI 99 (kx_iflt (kx_la 0 (kx_dup (kx_gI 9 41 (kx_c (kx_i 1) (kx_ii (fun x y => x - y) (kx_pI 9 41 (kx_la 0 (kx_c (kx_i (-1)) (kx_la 0 (kx_gR 9 39 99 (kx_li 5 (kx_aI 99 (kx_ii (fun x y => x - y) (kx_Vv C 111 9 [0] (kx_nm [0, 1, 3, 4, 5] (J 159)))))))))))))))) (kx_la 0 (kx_la 0 (kx_gR 9 39 99 (kx_li 5 (kx_aI 99 (kx_Vv C 105 9 [0] (kx_nm [0, 1, 3, 4, 5] (J 159))))))))))))) (kx_la 0 (kx_gR 9 39 99 (kx_li 3 (kx_la 0 (kx_gR 9 39 99 (kx_li 5 (kx_aI 99 (kx_asI 99 (kx_la 0 (kx_gR 9 40 100 (kx_li 3 (kx_la 0 (kx_gR 9 40 100 (kx_li 5 (kx_aL 100 (kx_asL 100 (kx_inc 3 1 (kx_nm [0, 1, 3, 4, 5] (J 159)))))))))))))))))))))))))))))
def bk_110_159 (d : Nat) (C : kx_C) (J : Nat → kx_F) : kx_F := (kx_inc 5 1 (kx_nm [0, 1, 3, 4, 5] (J 61)))
def bm_110 (d : Nat) (C : kx_C) (b : Nat) (J : Nat → kx_F) : kx_F := bif Nat.beq b 0 then bk_110_0 d C J else bif Nat.beq b 9 then bk_110_9 d C J else bif Nat.beq b 38 then bk_110_38 d C J else bif Nat.beq b 61 then bk_110_61 d C J else bif Nat.beq b 159 then bk_110_159 d C J else fun _ _ _ => none
set_option maxRecDepth 20000 in
theorem sk_110_0 (X : kx_X p l e R s m args below meth c s0 D cA 6 ι0 h0 rr hf prog_11_method_9_code "TaskDeskModel" C d (Option.none : Option Jvm.ClassFile.FieldType) "ring" J) : kx_Sn p l e R s m args below meth c s0 D cA 6 ι0 h0 rr hf 0 (bk_110_0 d C J) := by
  obtain ⟨G, CS, R9, O9, RT, NM, T0, FL, JS⟩ := X
  exact (kx_s_aload_n (j := 0) G rfl (by decide +kernel) (kx_s_gR G kf_9_96 (by decide +kernel) (kx_s_iconst (i := 0) G (by decide +kernel) (by decide +kernel) (kx_s_aL G ka_100 (by decide +kernel) (kx_s_lstore_n (j := 1) G rfl (by decide +kernel) (by decide) (kx_s_iconst (i := 1) G (by decide +kernel) (by decide +kernel) (kx_s_istore_n (j := 3) G rfl (by decide +kernel) (by decide) (kx_s_nm (JS 9)))))))))
set_option maxRecDepth 20000 in
theorem sk_110_9 (X : kx_X p l e R s m args below meth c s0 D cA 6 ι0 h0 rr hf prog_11_method_9_code "TaskDeskModel" C d (Option.none : Option Jvm.ClassFile.FieldType) "ring" J) : kx_Sn p l e R s m args below meth c s0 D cA 6 ι0 h0 rr hf 9 (bk_110_9 d C J) := by
  obtain ⟨G, CS, R9, O9, RT, NM, T0, FL, JS⟩ := X
  exact (kx_s_iload_n (j := 3) G rfl (by decide +kernel) (kx_s_aload_n (j := 0) G rfl (by decide +kernel) (kx_s_gI G kf_9_112 (by decide +kernel) (kx_s_cge (off := 31) (tgt := 45) G (by decide +kernel) rfl (kx_s_aload_n (j := 0) G rfl (by decide +kernel) (kx_s_lload_n (j := 1) G rfl (by decide +kernel) (kx_s_pL G kf_9_121 rfl (by decide +kernel) (by decide +kernel) (kx_s_iconst (i := 0) G (by decide +kernel) (by decide +kernel) (kx_s_istore_n (j := 3) G rfl (by decide +kernel) (by decide) (kx_s_aload_n (j := 0) G rfl (by decide +kernel) (kx_s_gI G kf_9_112 (by decide +kernel) (kx_s_istore G (by decide +kernel) (by decide) (kx_s_iconst (i := 0) G (by decide +kernel) (by decide +kernel) (kx_s_istore G (by decide +kernel) (by decide) (kx_s_nm (JS 61)))))))))))) (kx_s_aload_n (j := 0) G rfl (by decide +kernel) (kx_s_gR G kf_9_96 (by decide +kernel) (kx_s_iload_n (j := 3) G rfl (by decide +kernel) (kx_s_aL G ka_100 (by decide +kernel) (kx_s_lload_n (j := 1) G rfl (by decide +kernel) (kx_s_lcmp G (by decide +kernel) (kx_s_ifge (off := 12) (tgt := 37) G (by decide +kernel) rfl (kx_s_lload_n (j := 1) G rfl (by decide +kernel) (kx_s_nm (JS 38))) (kx_s_aload_n (j := 0) G rfl (by decide +kernel) (kx_s_gR G kf_9_96 (by decide +kernel) (kx_s_iload_n (j := 3) G rfl (by decide +kernel) (kx_s_aL G ka_100 (by decide +kernel) (kx_s_goto (off := 4) (tgt := 38) G (by decide +kernel) rfl (kx_s_nm (JS 38))))))))))))))))))
set_option maxRecDepth 20000 in
theorem sk_110_38 (X : kx_X p l e R s m args below meth c s0 D cA 6 ι0 h0 rr hf prog_11_method_9_code "TaskDeskModel" C d (Option.none : Option Jvm.ClassFile.FieldType) "ring" J) : kx_Sn p l e R s m args below meth c s0 D cA 6 ι0 h0 rr hf 38 (bk_110_38 d C J) := by
  obtain ⟨G, CS, R9, O9, RT, NM, T0, FL, JS⟩ := X
  exact (kx_s_lstore_n (j := 1) G rfl (by decide +kernel) (by decide) (kx_s_iinc (n := 1) G (by decide +kernel) (by decide +kernel) (by decide) (kx_s_goto (off := -33) (tgt := 9) G (by decide +kernel) rfl (kx_s_nm (JS 9)))))
set_option maxRecDepth 20000 in
theorem sk_110_61 (X : kx_X p l e R s m args below meth c s0 D cA 6 ι0 h0 rr hf prog_11_method_9_code "TaskDeskModel" C d (Option.none : Option Jvm.ClassFile.FieldType) "ring" J) : kx_Sn p l e R s m args below meth c s0 D cA 6 ι0 h0 rr hf 61 (bk_110_61 d C J) := by
  obtain ⟨G, CS, R9, O9, RT, NM, T0, FL, JS⟩ := X
  exact (kx_s_iload G (by decide +kernel) (kx_s_iload G (by decide +kernel) (kx_s_cge (off := 100) (tgt := 165) G (by decide +kernel) rfl (kx_s_aload_n (j := 0) G rfl (by decide +kernel) (kx_s_iload_n (j := 3) G rfl (by decide +kernel) (kx_s_pI G kf_9_112 rfl (by decide +kernel) (by decide +kernel) (kx_s_return G RT (by decide +kernel))))) (kx_s_aload_n (j := 0) G rfl (by decide +kernel) (kx_s_gR G kf_9_96 (by decide +kernel) (kx_s_iload G (by decide +kernel) (kx_s_aL G ka_100 (by decide +kernel) (kx_s_lload_n (j := 1) G rfl (by decide +kernel) (kx_s_lcmp G (by decide +kernel) (kx_s_ifeq (off := 35) (tgt := 112) G (by decide +kernel) rfl (kx_s_aload_n (j := 0) G rfl (by decide +kernel) (kx_s_gR G kf_9_93 (by decide +kernel) (kx_s_iload G (by decide +kernel) (kx_s_aI G ka_99 (by decide +kernel) (kx_s_iflt (off := 17) (tgt := 136) G (by decide +kernel) rfl (kx_s_aload_n (j := 0) G rfl (by decide +kernel) (kx_s_dup G (by decide +kernel) (kx_s_gI G kf_9_129 (by decide +kernel) (kx_s_iconst (i := 1) G (by decide +kernel) (by decide +kernel) (kx_s_isub G (by decide +kernel) (kx_s_pI G kf_9_129 rfl (by decide +kernel) (by decide +kernel) (kx_s_aload_n (j := 0) G rfl (by decide +kernel) (kx_s_iconst (i := -1) G (by decide +kernel) (by decide +kernel) (kx_s_aload_n (j := 0) G rfl (by decide +kernel) (kx_s_gR G kf_9_93 (by decide +kernel) (kx_s_iload G (by decide +kernel) (kx_s_aI G ka_99 (by decide +kernel) (kx_s_isub G (by decide +kernel) (kx_s_Vv (n := 111) G kx_good CS R9 (O9 _) kc_111 rfl kw_1149 kw_1151 kw_58 (r := kr_9) rfl (by decide) (by decide +kernel) (kx_s_nm (JS 159)))))))))))))))) (kx_s_aload_n (j := 0) G rfl (by decide +kernel) (kx_s_aload_n (j := 0) G rfl (by decide +kernel) (kx_s_gR G kf_9_93 (by decide +kernel) (kx_s_iload G (by decide +kernel) (kx_s_aI G ka_99 (by decide +kernel) (kx_s_Vv (n := 105) G kx_good CS R9 (O9 _) kc_105 rfl kw_1125 kw_1127 kw_52 (r := kr_9) rfl (by decide) (by decide +kernel) (kx_s_goto (off := 26) (tgt := 159) G (by decide +kernel) rfl (kx_s_nm (JS 159)))))))))))))) (kx_s_aload_n (j := 0) G rfl (by decide +kernel) (kx_s_gR G kf_9_93 (by decide +kernel) (kx_s_iload_n (j := 3) G rfl (by decide +kernel) (kx_s_aload_n (j := 0) G rfl (by decide +kernel) (kx_s_gR G kf_9_93 (by decide +kernel) (kx_s_iload G (by decide +kernel) (kx_s_aI G ka_99 (by decide +kernel) (kx_s_asI G ka_99 (by decide +kernel) (kx_s_aload_n (j := 0) G rfl (by decide +kernel) (kx_s_gR G kf_9_96 (by decide +kernel) (kx_s_iload_n (j := 3) G rfl (by decide +kernel) (kx_s_aload_n (j := 0) G rfl (by decide +kernel) (kx_s_gR G kf_9_96 (by decide +kernel) (kx_s_iload G (by decide +kernel) (kx_s_aL G ka_100 (by decide +kernel) (kx_s_asL G ka_100 (by decide +kernel) (kx_s_iinc (n := 1) G (by decide +kernel) (by decide +kernel) (by decide) (kx_s_goto (off := 50) (tgt := 159) G (by decide +kernel) rfl (kx_s_nm (JS 159))))))))))))))))))))))))))))))
set_option maxRecDepth 20000 in
theorem sk_110_159 (X : kx_X p l e R s m args below meth c s0 D cA 6 ι0 h0 rr hf prog_11_method_9_code "TaskDeskModel" C d (Option.none : Option Jvm.ClassFile.FieldType) "ring" J) : kx_Sn p l e R s m args below meth c s0 D cA 6 ι0 h0 rr hf 159 (bk_110_159 d C J) := by
  obtain ⟨G, CS, R9, O9, RT, NM, T0, FL, JS⟩ := X
  exact (kx_s_iinc (n := 1) G (by decide +kernel) (by decide +kernel) (by decide) (kx_s_goto (off := -101) (tgt := 61) G (by decide +kernel) rfl (kx_s_nm (JS 61))))
theorem sm_110 (X : kx_X p l e R s m args below meth c s0 D cA 6 ι0 h0 rr hf prog_11_method_9_code "TaskDeskModel" C d (Option.none : Option Jvm.ClassFile.FieldType) "ring" J) (b : Nat) : kx_Sn p l e R s m args below meth c s0 D cA 6 ι0 h0 rr hf b (bm_110 d C b J) := by
  unfold bm_110
  cases h0 : Nat.beq b 0 with
  | true => rw [Nat.eq_of_beq_eq_true h0]; exact sk_110_0 X
  | false =>
   cases h9 : Nat.beq b 9 with
   | true => rw [Nat.eq_of_beq_eq_true h9]; exact sk_110_9 X
   | false =>
    cases h38 : Nat.beq b 38 with
    | true => rw [Nat.eq_of_beq_eq_true h38]; exact sk_110_38 X
    | false =>
     cases h61 : Nat.beq b 61 with
     | true => rw [Nat.eq_of_beq_eq_true h61]; exact sk_110_61 X
     | false =>
      cases h159 : Nat.beq b 159 with
      | true => rw [Nat.eq_of_beq_eq_true h159]; exact sk_110_159 X
      | false =>
       exact kx_s_no
/-! TaskDeskModel.rings(I)V -/
def bk_111_0 (d : Nat) (C : kx_C) (J : Nat → kx_F) : kx_F := (kx_la 0 (kx_gR 9 14 101 (kx_li 1 (kx_aB 101 (kx_ifeq (kx_la 0 (kx_li 1 (kx_c (kx_i 0) (kx_Vi C 94 9 [0, 0] (kx_ifge (kx_nm [0, 1] (J 33)) (kx_la 0 (kx_li 1 (kx_Vi C 95 9 [0] (kx_la 0 (kx_gR 9 15 99 (kx_li 1 (kx_aI 99 (kx_cge (kx_nm [] (J 42)) (kx_nm [0, 1] (J 33))))))))))))))) kx_rv)))))
def bk_111_33 (d : Nat) (C : kx_C) (J : Nat → kx_F) : kx_F := (kx_la 0 (kx_li 1 (kx_la 0 (kx_gL 9 3 (kx_Vv C 101 9 [0, 1] (kx_nm [] (J 42)))))))
def bk_111_42 (d : Nat) (C : kx_C) (J : Nat → kx_F) : kx_F := kx_rv
def bm_111 (d : Nat) (C : kx_C) (b : Nat) (J : Nat → kx_F) : kx_F := bif Nat.beq b 0 then bk_111_0 d C J else bif Nat.beq b 33 then bk_111_33 d C J else bif Nat.beq b 42 then bk_111_42 d C J else fun _ _ _ => none
set_option maxRecDepth 20000 in
theorem sk_111_0 (X : kx_X p l e R s m args below meth c s0 D cA 2 ι0 h0 rr hf prog_11_method_10_code "TaskDeskModel" C d (Option.none : Option Jvm.ClassFile.FieldType) "rings" J) : kx_Sn p l e R s m args below meth c s0 D cA 2 ι0 h0 rr hf 0 (bk_111_0 d C J) := by
  obtain ⟨G, CS, R9, O9, RT, NM, T0, FL, JS⟩ := X
  exact (kx_s_aload_n (j := 0) G rfl (by decide +kernel) (kx_s_gR G kf_9_39 (by decide +kernel) (kx_s_iload_n (j := 1) G rfl (by decide +kernel) (kx_s_aB G ka_101 (by decide +kernel) (kx_s_ifeq (off := 4) (tgt := 10) G (by decide +kernel) rfl (kx_s_aload_n (j := 0) G rfl (by decide +kernel) (kx_s_iload_n (j := 1) G rfl (by decide +kernel) (kx_s_iconst (i := 0) G (by decide +kernel) (by decide +kernel) (kx_s_Vi (n := 94) G kx_good CS R9 (O9 _) kc_94 rfl kw_1080 kw_1082 kw_43 (r := kr_9) rfl (by decide) (by decide +kernel) (kx_s_ifge (off := 17) (tgt := 33) G (by decide +kernel) rfl (kx_s_nm (JS 33)) (kx_s_aload_n (j := 0) G rfl (by decide +kernel) (kx_s_iload_n (j := 1) G rfl (by decide +kernel) (kx_s_Vi (n := 95) G kx_good CS R9 (O9 _) kc_95 rfl kw_1084 kw_1086 kw_44 (r := kr_9) rfl (by decide) (by decide +kernel) (kx_s_aload_n (j := 0) G rfl (by decide +kernel) (kx_s_gR G kf_9_42 (by decide +kernel) (kx_s_iload_n (j := 1) G rfl (by decide +kernel) (kx_s_aI G ka_99 (by decide +kernel) (kx_s_cge (off := 12) (tgt := 42) G (by decide +kernel) rfl (kx_s_nm (JS 42)) (kx_s_nm (JS 33))))))))))))))) (kx_s_return G RT (by decide +kernel)))))))
set_option maxRecDepth 20000 in
theorem sk_111_33 (X : kx_X p l e R s m args below meth c s0 D cA 2 ι0 h0 rr hf prog_11_method_10_code "TaskDeskModel" C d (Option.none : Option Jvm.ClassFile.FieldType) "rings" J) : kx_Sn p l e R s m args below meth c s0 D cA 2 ι0 h0 rr hf 33 (bk_111_33 d C J) := by
  obtain ⟨G, CS, R9, O9, RT, NM, T0, FL, JS⟩ := X
  exact (kx_s_aload_n (j := 0) G rfl (by decide +kernel) (kx_s_iload_n (j := 1) G rfl (by decide +kernel) (kx_s_aload_n (j := 0) G rfl (by decide +kernel) (kx_s_gL G kf_9_121 (by decide +kernel) (kx_s_Vv (n := 101) G kx_good CS R9 (O9 _) kc_101 rfl kw_1109 kw_1111 kw_48 (r := kr_9) rfl (by decide) (by decide +kernel) (kx_s_nm (JS 42)))))))
set_option maxRecDepth 20000 in
theorem sk_111_42 (X : kx_X p l e R s m args below meth c s0 D cA 2 ι0 h0 rr hf prog_11_method_10_code "TaskDeskModel" C d (Option.none : Option Jvm.ClassFile.FieldType) "rings" J) : kx_Sn p l e R s m args below meth c s0 D cA 2 ι0 h0 rr hf 42 (bk_111_42 d C J) := by
  obtain ⟨G, CS, R9, O9, RT, NM, T0, FL, JS⟩ := X
  exact (kx_s_return G RT (by decide +kernel))
theorem sm_111 (X : kx_X p l e R s m args below meth c s0 D cA 2 ι0 h0 rr hf prog_11_method_10_code "TaskDeskModel" C d (Option.none : Option Jvm.ClassFile.FieldType) "rings" J) (b : Nat) : kx_Sn p l e R s m args below meth c s0 D cA 2 ι0 h0 rr hf b (bm_111 d C b J) := by
  unfold bm_111
  cases h0 : Nat.beq b 0 with
  | true => rw [Nat.eq_of_beq_eq_true h0]; exact sk_111_0 X
  | false =>
   cases h33 : Nat.beq b 33 with
   | true => rw [Nat.eq_of_beq_eq_true h33]; exact sk_111_33 X
   | false =>
    cases h42 : Nat.beq b 42 with
    | true => rw [Nat.eq_of_beq_eq_true h42]; exact sk_111_42 X
    | false =>
     exact kx_s_no
/-! TaskDeskModel.receive(I)Z -/
def bk_112_0 (d : Nat) (C : kx_C) (J : Nat → kx_F) : kx_F := (kx_la 0 (kx_c (kx_i 0) (kx_pI 9 0 (kx_li 1 (kx_c (kx_i (-1)) (kx_ceq (kx_nm [0, 1] (J 24)) (kx_la 0 (kx_li 1 (kx_Vi C 93 9 [0] (kx_ifne (kx_nm [0, 1] (J 24)) (kx_la 0 (kx_c (kx_i 1) (kx_Vi C 99 9 [0] kx_rz)))))))))))))
def bk_112_24 (d : Nat) (C : kx_C) (J : Nat → kx_F) : kx_F := (kx_la 0 (kx_gI 9 1 (kx_ifge (kx_la 0 (kx_li 1 (kx_Vi C 113 9 [0] (kx_ifeq (kx_li 1 (kx_iflt (kx_nm [0, 1] (J 69)) (kx_la 0 (kx_la 0 (kx_gI 9 1 (kx_li 1 (kx_c (kx_i 0) (kx_c (kx_l 0) (kx_c (kx_i (-1)) (kx_Vv C 107 9 [0, 0, 0, 1, 0] (kx_nm [0, 1] (J 69)))))))))))) (kx_la 0 (kx_li 1 (kx_c (kx_i (-1)) (kx_Vv C 114 9 [0, 0] (kx_c (kx_i 1) kx_rz))))))))) (kx_la 0 (kx_c (kx_i 2) (kx_Vi C 99 9 [0] kx_rz))))))
def bk_112_69 (d : Nat) (C : kx_C) (J : Nat → kx_F) : kx_F := (kx_la 0 (kx_li 1 (kx_ifge (kx_c (kx_i 3) (kx_nm [1] (J 80))) (kx_c (kx_i 7) (kx_nm [1] (J 80))))))
def bk_112_80 (d : Nat) (C : kx_C) (J : Nat → kx_F) : kx_F := (kx_li 1 (kx_Vv C 108 9 [0, 0] (kx_c (kx_i 0) kx_rz)))
def bm_112 (d : Nat) (C : kx_C) (b : Nat) (J : Nat → kx_F) : kx_F := bif Nat.beq b 0 then bk_112_0 d C J else bif Nat.beq b 24 then bk_112_24 d C J else bif Nat.beq b 69 then bk_112_69 d C J else bif Nat.beq b 80 then bk_112_80 d C J else fun _ _ _ => none
set_option maxRecDepth 20000 in
theorem sk_112_0 (X : kx_X p l e R s m args below meth c s0 D cA 2 ι0 h0 rr hf prog_11_method_27_code "TaskDeskModel" C d (Option.some Jvm.ClassFile.FieldType.boolean) "receive" J) : kx_Sn p l e R s m args below meth c s0 D cA 2 ι0 h0 rr hf 0 (bk_112_0 d C J) := by
  obtain ⟨G, CS, R9, O9, RT, NM, T0, FL, JS⟩ := X
  exact (kx_s_aload_n (j := 0) G rfl (by decide +kernel) (kx_s_iconst (i := 0) G (by decide +kernel) (by decide +kernel) (kx_s_pI G kf_9_99 rfl (by decide +kernel) (by decide +kernel) (kx_s_iload_n (j := 1) G rfl (by decide +kernel) (kx_s_iconst (i := -1) G (by decide +kernel) (by decide +kernel) (kx_s_ceq (off := 17) (tgt := 24) G (by decide +kernel) rfl (kx_s_nm (JS 24)) (kx_s_aload_n (j := 0) G rfl (by decide +kernel) (kx_s_iload_n (j := 1) G rfl (by decide +kernel) (kx_s_Vi (n := 93) G kx_good CS R9 (O9 _) kc_93 rfl kw_1076 kw_1078 kw_42 (r := kr_9) rfl (by decide) (by decide +kernel) (kx_s_ifne (off := 9) (tgt := 24) G (by decide +kernel) rfl (kx_s_nm (JS 24)) (kx_s_aload_n (j := 0) G rfl (by decide +kernel) (kx_s_iconst (i := 1) G (by decide +kernel) (by decide +kernel) (kx_s_Vi (n := 99) G kx_good CS R9 (O9 _) kc_99 rfl kw_1101 kw_1103 kw_46 (r := kr_9) rfl (by decide) (by decide +kernel) (kx_s_zreturn G RT (by decide +kernel)))))))))))))))
set_option maxRecDepth 20000 in
theorem sk_112_24 (X : kx_X p l e R s m args below meth c s0 D cA 2 ι0 h0 rr hf prog_11_method_27_code "TaskDeskModel" C d (Option.some Jvm.ClassFile.FieldType.boolean) "receive" J) : kx_Sn p l e R s m args below meth c s0 D cA 2 ι0 h0 rr hf 24 (bk_112_24 d C J) := by
  obtain ⟨G, CS, R9, O9, RT, NM, T0, FL, JS⟩ := X
  exact (kx_s_aload_n (j := 0) G rfl (by decide +kernel) (kx_s_gI G kf_9_106 (by decide +kernel) (kx_s_ifge (off := 9) (tgt := 37) G (by decide +kernel) rfl (kx_s_aload_n (j := 0) G rfl (by decide +kernel) (kx_s_iload_n (j := 1) G rfl (by decide +kernel) (kx_s_Vi (n := 113) G kx_good CS R9 (O9 _) kc_113 rfl kw_1157 kw_1159 kw_59 (r := kr_9) rfl (by decide) (by decide +kernel) (kx_s_ifeq (off := 11) (tgt := 53) G (by decide +kernel) rfl (kx_s_iload_n (j := 1) G rfl (by decide +kernel) (kx_s_iflt (off := 15) (tgt := 69) G (by decide +kernel) rfl (kx_s_nm (JS 69)) (kx_s_aload_n (j := 0) G rfl (by decide +kernel) (kx_s_aload_n (j := 0) G rfl (by decide +kernel) (kx_s_gI G kf_9_106 (by decide +kernel) (kx_s_iload_n (j := 1) G rfl (by decide +kernel) (kx_s_iconst (i := 0) G (by decide +kernel) (by decide +kernel) (kx_s_lconst (i := 0) G (by decide +kernel) (by decide +kernel) (kx_s_iconst (i := -1) G (by decide +kernel) (by decide +kernel) (kx_s_Vv (n := 107) G kx_good CS R9 (O9 _) kc_107 rfl kw_1133 kw_1135 kw_54 (r := kr_9) rfl (by decide) (by decide +kernel) (kx_s_nm (JS 69)))))))))))) (kx_s_aload_n (j := 0) G rfl (by decide +kernel) (kx_s_iload_n (j := 1) G rfl (by decide +kernel) (kx_s_iconst (i := -1) G (by decide +kernel) (by decide +kernel) (kx_s_Vv (n := 114) G kx_good CS R9 (O9 _) kc_114 rfl kw_1161 kw_1163 kw_60 (r := kr_9) rfl (by decide) (by decide +kernel) (kx_s_iconst (i := 1) G (by decide +kernel) (by decide +kernel) (kx_s_zreturn G RT (by decide +kernel))))))))))) (kx_s_aload_n (j := 0) G rfl (by decide +kernel) (kx_s_iconst (i := 2) G (by decide +kernel) (by decide +kernel) (kx_s_Vi (n := 99) G kx_good CS R9 (O9 _) kc_99 rfl kw_1101 kw_1103 kw_46 (r := kr_9) rfl (by decide) (by decide +kernel) (kx_s_zreturn G RT (by decide +kernel))))))))
set_option maxRecDepth 20000 in
theorem sk_112_69 (X : kx_X p l e R s m args below meth c s0 D cA 2 ι0 h0 rr hf prog_11_method_27_code "TaskDeskModel" C d (Option.some Jvm.ClassFile.FieldType.boolean) "receive" J) : kx_Sn p l e R s m args below meth c s0 D cA 2 ι0 h0 rr hf 69 (bk_112_69 d C J) := by
  obtain ⟨G, CS, R9, O9, RT, NM, T0, FL, JS⟩ := X
  exact (kx_s_aload_n (j := 0) G rfl (by decide +kernel) (kx_s_iload_n (j := 1) G rfl (by decide +kernel) (kx_s_ifge (off := 8) (tgt := 79) G (by decide +kernel) rfl (kx_s_iconst (i := 3) G (by decide +kernel) (by decide +kernel) (kx_s_nm (JS 80))) (kx_s_bipush (i := 7) G (by decide +kernel) (by decide +kernel) (kx_s_goto (off := 4) (tgt := 80) G (by decide +kernel) rfl (kx_s_nm (JS 80)))))))
set_option maxRecDepth 20000 in
theorem sk_112_80 (X : kx_X p l e R s m args below meth c s0 D cA 2 ι0 h0 rr hf prog_11_method_27_code "TaskDeskModel" C d (Option.some Jvm.ClassFile.FieldType.boolean) "receive" J) : kx_Sn p l e R s m args below meth c s0 D cA 2 ι0 h0 rr hf 80 (bk_112_80 d C J) := by
  obtain ⟨G, CS, R9, O9, RT, NM, T0, FL, JS⟩ := X
  exact (kx_s_iload_n (j := 1) G rfl (by decide +kernel) (kx_s_Vv (n := 108) G kx_good CS R9 (O9 _) kc_108 rfl kw_1137 kw_1139 kw_55 (r := kr_9) rfl (by decide) (by decide +kernel) (kx_s_iconst (i := 0) G (by decide +kernel) (by decide +kernel) (kx_s_zreturn G RT (by decide +kernel)))))
theorem sm_112 (X : kx_X p l e R s m args below meth c s0 D cA 2 ι0 h0 rr hf prog_11_method_27_code "TaskDeskModel" C d (Option.some Jvm.ClassFile.FieldType.boolean) "receive" J) (b : Nat) : kx_Sn p l e R s m args below meth c s0 D cA 2 ι0 h0 rr hf b (bm_112 d C b J) := by
  unfold bm_112
  cases h0 : Nat.beq b 0 with
  | true => rw [Nat.eq_of_beq_eq_true h0]; exact sk_112_0 X
  | false =>
   cases h24 : Nat.beq b 24 with
   | true => rw [Nat.eq_of_beq_eq_true h24]; exact sk_112_24 X
   | false =>
    cases h69 : Nat.beq b 69 with
    | true => rw [Nat.eq_of_beq_eq_true h69]; exact sk_112_69 X
    | false =>
     cases h80 : Nat.beq b 80 with
     | true => rw [Nat.eq_of_beq_eq_true h80]; exact sk_112_80 X
     | false =>
      exact kx_s_no
/-! TaskDeskModel.mayReceive(I)Z -/
def bk_113_0 (d : Nat) (C : kx_C) (J : Nat → kx_F) : kx_F := (kx_li 1 (kx_iflt (kx_nm [] (J 34)) (kx_la 0 (kx_gR 9 14 101 (kx_li 1 (kx_aB 101 (kx_ifne (kx_nm [] (J 30)) (kx_la 0 (kx_li 1 (kx_c (kx_i 1) (kx_Vi C 94 9 [0, 0] (kx_ifge (kx_nm [] (J 30)) (kx_la 0 (kx_li 1 (kx_Vi C 95 9 [0] (kx_ifle (kx_nm [] (J 34)) (kx_nm [] (J 30))))))))))))))))))
def bk_113_30 (d : Nat) (C : kx_C) (J : Nat → kx_F) : kx_F := (kx_c (kx_i 1) (kx_nm [] (J 35)))
def bk_113_34 (d : Nat) (C : kx_C) (J : Nat → kx_F) : kx_F := (kx_c (kx_i 0) (kx_nm [] (J 35)))
def bk_113_35 (d : Nat) (C : kx_C) (J : Nat → kx_F) : kx_F := kx_rz
def bm_113 (d : Nat) (C : kx_C) (b : Nat) (J : Nat → kx_F) : kx_F := bif Nat.beq b 0 then bk_113_0 d C J else bif Nat.beq b 30 then bk_113_30 d C J else bif Nat.beq b 34 then bk_113_34 d C J else bif Nat.beq b 35 then bk_113_35 d C J else fun _ _ _ => none
set_option maxRecDepth 20000 in
theorem sk_113_0 (X : kx_X p l e R s m args below meth c s0 D cA 2 ι0 h0 rr hf prog_11_method_22_code "TaskDeskModel" C d (Option.some Jvm.ClassFile.FieldType.boolean) "mayReceive" J) : kx_Sn p l e R s m args below meth c s0 D cA 2 ι0 h0 rr hf 0 (bk_113_0 d C J) := by
  obtain ⟨G, CS, R9, O9, RT, NM, T0, FL, JS⟩ := X
  exact (kx_s_iload_n (j := 1) G rfl (by decide +kernel) (kx_s_iflt (off := 33) (tgt := 34) G (by decide +kernel) rfl (kx_s_nm (JS 34)) (kx_s_aload_n (j := 0) G rfl (by decide +kernel) (kx_s_gR G kf_9_39 (by decide +kernel) (kx_s_iload_n (j := 1) G rfl (by decide +kernel) (kx_s_aB G ka_101 (by decide +kernel) (kx_s_ifne (off := 20) (tgt := 30) G (by decide +kernel) rfl (kx_s_nm (JS 30)) (kx_s_aload_n (j := 0) G rfl (by decide +kernel) (kx_s_iload_n (j := 1) G rfl (by decide +kernel) (kx_s_iconst (i := 1) G (by decide +kernel) (by decide +kernel) (kx_s_Vi (n := 94) G kx_good CS R9 (O9 _) kc_94 rfl kw_1080 kw_1082 kw_43 (r := kr_9) rfl (by decide) (by decide +kernel) (kx_s_ifge (off := 11) (tgt := 30) G (by decide +kernel) rfl (kx_s_nm (JS 30)) (kx_s_aload_n (j := 0) G rfl (by decide +kernel) (kx_s_iload_n (j := 1) G rfl (by decide +kernel) (kx_s_Vi (n := 95) G kx_good CS R9 (O9 _) kc_95 rfl kw_1084 kw_1086 kw_44 (r := kr_9) rfl (by decide) (by decide +kernel) (kx_s_ifle (off := 7) (tgt := 34) G (by decide +kernel) rfl (kx_s_nm (JS 34)) (kx_s_nm (JS 30))))))))))))))))))
set_option maxRecDepth 20000 in
theorem sk_113_30 (X : kx_X p l e R s m args below meth c s0 D cA 2 ι0 h0 rr hf prog_11_method_22_code "TaskDeskModel" C d (Option.some Jvm.ClassFile.FieldType.boolean) "mayReceive" J) : kx_Sn p l e R s m args below meth c s0 D cA 2 ι0 h0 rr hf 30 (bk_113_30 d C J) := by
  obtain ⟨G, CS, R9, O9, RT, NM, T0, FL, JS⟩ := X
  exact (kx_s_iconst (i := 1) G (by decide +kernel) (by decide +kernel) (kx_s_goto (off := 4) (tgt := 35) G (by decide +kernel) rfl (kx_s_nm (JS 35))))
set_option maxRecDepth 20000 in
theorem sk_113_34 (X : kx_X p l e R s m args below meth c s0 D cA 2 ι0 h0 rr hf prog_11_method_22_code "TaskDeskModel" C d (Option.some Jvm.ClassFile.FieldType.boolean) "mayReceive" J) : kx_Sn p l e R s m args below meth c s0 D cA 2 ι0 h0 rr hf 34 (bk_113_34 d C J) := by
  obtain ⟨G, CS, R9, O9, RT, NM, T0, FL, JS⟩ := X
  exact (kx_s_iconst (i := 0) G (by decide +kernel) (by decide +kernel) (kx_s_nm (JS 35)))
set_option maxRecDepth 20000 in
theorem sk_113_35 (X : kx_X p l e R s m args below meth c s0 D cA 2 ι0 h0 rr hf prog_11_method_22_code "TaskDeskModel" C d (Option.some Jvm.ClassFile.FieldType.boolean) "mayReceive" J) : kx_Sn p l e R s m args below meth c s0 D cA 2 ι0 h0 rr hf 35 (bk_113_35 d C J) := by
  obtain ⟨G, CS, R9, O9, RT, NM, T0, FL, JS⟩ := X
  exact (kx_s_zreturn G RT (by decide +kernel))
theorem sm_113 (X : kx_X p l e R s m args below meth c s0 D cA 2 ι0 h0 rr hf prog_11_method_22_code "TaskDeskModel" C d (Option.some Jvm.ClassFile.FieldType.boolean) "mayReceive" J) (b : Nat) : kx_Sn p l e R s m args below meth c s0 D cA 2 ι0 h0 rr hf b (bm_113 d C b J) := by
  unfold bm_113
  cases h0 : Nat.beq b 0 with
  | true => rw [Nat.eq_of_beq_eq_true h0]; exact sk_113_0 X
  | false =>
   cases h30 : Nat.beq b 30 with
   | true => rw [Nat.eq_of_beq_eq_true h30]; exact sk_113_30 X
   | false =>
    cases h34 : Nat.beq b 34 with
    | true => rw [Nat.eq_of_beq_eq_true h34]; exact sk_113_34 X
    | false =>
     cases h35 : Nat.beq b 35 with
     | true => rw [Nat.eq_of_beq_eq_true h35]; exact sk_113_35 X
     | false =>
      exact kx_s_no
/-! TaskDeskModel.take(II)V -/
def bk_114_0 (d : Nat) (C : kx_C) (J : Nat → kx_F) : kx_F := (kx_la 0 (kx_li 1 (kx_c (kx_i 1) (kx_Vi C 94 9 [0, 0] (kx_si 3 (kx_la 0 (kx_li 1 (kx_Vi C 95 9 [0] (kx_ifle (kx_li 3 (kx_iflt (kx_la 0 (kx_la 0 (kx_gI 9 1 (kx_c (kx_l 0) (kx_c (kx_i 0) (kx_li 2 (kx_c (kx_i 0) (kx_Vv C 103 9 [0, 1, 0, 0, 0] (kx_nm [] (J 101)))))))))) (kx_la 0 (kx_la 0 (kx_gI 9 1 (kx_la 0 (kx_gR 9 24 100 (kx_li 3 (kx_aL 100 (kx_c (kx_i 1) (kx_li 2 (kx_c (kx_i 0) (kx_Vv C 103 9 [0, 1, 0, 0, 0] (kx_la 0 (kx_li 3 (kx_c (kx_l 0) (kx_c (kx_i 1) (kx_c (kx_i 0) (kx_Vv C 102 9 [0, 1, 0, 0] (kx_nm [] (J 101))))))))))))))))))))) (kx_la 0 (kx_la 0 (kx_gI 9 1 (kx_la 0 (kx_li 1 (kx_Vl C 96 9 [0] (kx_c (kx_i 1) (kx_li 2 (kx_c (kx_i 0) (kx_Vv C 103 9 [0, 1, 0, 0, 0] (kx_li 3 (kx_iflt (kx_nm [] (J 101)) (kx_la 0 (kx_li 1 (kx_la 0 (kx_gR 9 24 100 (kx_li 3 (kx_aL 100 (kx_Vv C 106 9 [0, 1] (kx_la 0 (kx_li 3 (kx_c (kx_l 0) (kx_c (kx_i 1) (kx_c (kx_i 0) (kx_Vv C 102 9 [0, 1, 0, 0] (kx_nm [] (J 101))))))))))))))))))))))))))))))))))))
def bk_114_101 (d : Nat) (C : kx_C) (J : Nat → kx_F) : kx_F := kx_rv
def bm_114 (d : Nat) (C : kx_C) (b : Nat) (J : Nat → kx_F) : kx_F := bif Nat.beq b 0 then bk_114_0 d C J else bif Nat.beq b 101 then bk_114_101 d C J else fun _ _ _ => none
set_option maxRecDepth 20000 in
theorem sk_114_0 (X : kx_X p l e R s m args below meth c s0 D cA 4 ι0 h0 rr hf prog_11_method_20_code "TaskDeskModel" C d (Option.none : Option Jvm.ClassFile.FieldType) "take" J) : kx_Sn p l e R s m args below meth c s0 D cA 4 ι0 h0 rr hf 0 (bk_114_0 d C J) := by
  obtain ⟨G, CS, R9, O9, RT, NM, T0, FL, JS⟩ := X
  exact (kx_s_aload_n (j := 0) G rfl (by decide +kernel) (kx_s_iload_n (j := 1) G rfl (by decide +kernel) (kx_s_iconst (i := 1) G (by decide +kernel) (by decide +kernel) (kx_s_Vi (n := 94) G kx_good CS R9 (O9 _) kc_94 rfl kw_1080 kw_1082 kw_43 (r := kr_9) rfl (by decide) (by decide +kernel) (kx_s_istore_n (j := 3) G rfl (by decide +kernel) (by decide) (kx_s_aload_n (j := 0) G rfl (by decide +kernel) (kx_s_iload_n (j := 1) G rfl (by decide +kernel) (kx_s_Vi (n := 95) G kx_good CS R9 (O9 _) kc_95 rfl kw_1084 kw_1086 kw_44 (r := kr_9) rfl (by decide) (by decide +kernel) (kx_s_ifle (off := 45) (tgt := 57) G (by decide +kernel) rfl (kx_s_iload_n (j := 3) G rfl (by decide +kernel) (kx_s_iflt (off := 31) (tgt := 89) G (by decide +kernel) rfl (kx_s_aload_n (j := 0) G rfl (by decide +kernel) (kx_s_aload_n (j := 0) G rfl (by decide +kernel) (kx_s_gI G kf_9_106 (by decide +kernel) (kx_s_lconst (i := 0) G (by decide +kernel) (by decide +kernel) (kx_s_iconst (i := 0) G (by decide +kernel) (by decide +kernel) (kx_s_iload_n (j := 2) G rfl (by decide +kernel) (kx_s_iconst (i := 0) G (by decide +kernel) (by decide +kernel) (kx_s_Vv (n := 103) G kx_good CS R9 (O9 _) kc_103 rfl kw_1117 kw_1119 kw_50 (r := kr_9) rfl (by decide) (by decide +kernel) (kx_s_nm (JS 101)))))))))) (kx_s_aload_n (j := 0) G rfl (by decide +kernel) (kx_s_aload_n (j := 0) G rfl (by decide +kernel) (kx_s_gI G kf_9_106 (by decide +kernel) (kx_s_aload_n (j := 0) G rfl (by decide +kernel) (kx_s_gR G kf_9_60 (by decide +kernel) (kx_s_iload_n (j := 3) G rfl (by decide +kernel) (kx_s_aL G ka_100 (by decide +kernel) (kx_s_iconst (i := 1) G (by decide +kernel) (by decide +kernel) (kx_s_iload_n (j := 2) G rfl (by decide +kernel) (kx_s_iconst (i := 0) G (by decide +kernel) (by decide +kernel) (kx_s_Vv (n := 103) G kx_good CS R9 (O9 _) kc_103 rfl kw_1117 kw_1119 kw_50 (r := kr_9) rfl (by decide) (by decide +kernel) (kx_s_aload_n (j := 0) G rfl (by decide +kernel) (kx_s_iload_n (j := 3) G rfl (by decide +kernel) (kx_s_lconst (i := 0) G (by decide +kernel) (by decide +kernel) (kx_s_iconst (i := 1) G (by decide +kernel) (by decide +kernel) (kx_s_iconst (i := 0) G (by decide +kernel) (by decide +kernel) (kx_s_Vv (n := 102) G kx_good CS R9 (O9 _) kc_102 rfl kw_1113 kw_1115 kw_49 (r := kr_9) rfl (by decide) (by decide +kernel) (kx_s_goto (off := 15) (tgt := 101) G (by decide +kernel) rfl (kx_s_nm (JS 101)))))))))))))))))))))) (kx_s_aload_n (j := 0) G rfl (by decide +kernel) (kx_s_aload_n (j := 0) G rfl (by decide +kernel) (kx_s_gI G kf_9_106 (by decide +kernel) (kx_s_aload_n (j := 0) G rfl (by decide +kernel) (kx_s_iload_n (j := 1) G rfl (by decide +kernel) (kx_s_Vl (n := 96) G kx_good CS R9 (O9 _) kc_96 rfl kw_1088 kw_1090 kw_45 (r := kr_9) rfl (by decide) (by decide +kernel) (kx_s_iconst (i := 1) G (by decide +kernel) (by decide +kernel) (kx_s_iload_n (j := 2) G rfl (by decide +kernel) (kx_s_iconst (i := 0) G (by decide +kernel) (by decide +kernel) (kx_s_Vv (n := 103) G kx_good CS R9 (O9 _) kc_103 rfl kw_1117 kw_1119 kw_50 (r := kr_9) rfl (by decide) (by decide +kernel) (kx_s_iload_n (j := 3) G rfl (by decide +kernel) (kx_s_iflt (off := 69) (tgt := 101) G (by decide +kernel) rfl (kx_s_nm (JS 101)) (kx_s_aload_n (j := 0) G rfl (by decide +kernel) (kx_s_iload_n (j := 1) G rfl (by decide +kernel) (kx_s_aload_n (j := 0) G rfl (by decide +kernel) (kx_s_gR G kf_9_60 (by decide +kernel) (kx_s_iload_n (j := 3) G rfl (by decide +kernel) (kx_s_aL G ka_100 (by decide +kernel) (kx_s_Vv (n := 106) G kx_good CS R9 (O9 _) kc_106 rfl kw_1129 kw_1131 kw_53 (r := kr_9) rfl (by decide) (by decide +kernel) (kx_s_aload_n (j := 0) G rfl (by decide +kernel) (kx_s_iload_n (j := 3) G rfl (by decide +kernel) (kx_s_lconst (i := 0) G (by decide +kernel) (by decide +kernel) (kx_s_iconst (i := 1) G (by decide +kernel) (by decide +kernel) (kx_s_iconst (i := 0) G (by decide +kernel) (by decide +kernel) (kx_s_Vv (n := 102) G kx_good CS R9 (O9 _) kc_102 rfl kw_1113 kw_1115 kw_49 (r := kr_9) rfl (by decide) (by decide +kernel) (kx_s_goto (off := 47) (tgt := 101) G (by decide +kernel) rfl (kx_s_nm (JS 101)))))))))))))))))))))))))))))))))))))
set_option maxRecDepth 20000 in
theorem sk_114_101 (X : kx_X p l e R s m args below meth c s0 D cA 4 ι0 h0 rr hf prog_11_method_20_code "TaskDeskModel" C d (Option.none : Option Jvm.ClassFile.FieldType) "take" J) : kx_Sn p l e R s m args below meth c s0 D cA 4 ι0 h0 rr hf 101 (bk_114_101 d C J) := by
  obtain ⟨G, CS, R9, O9, RT, NM, T0, FL, JS⟩ := X
  exact (kx_s_return G RT (by decide +kernel))
theorem sm_114 (X : kx_X p l e R s m args below meth c s0 D cA 4 ι0 h0 rr hf prog_11_method_20_code "TaskDeskModel" C d (Option.none : Option Jvm.ClassFile.FieldType) "take" J) (b : Nat) : kx_Sn p l e R s m args below meth c s0 D cA 4 ι0 h0 rr hf b (bm_114 d C b J) := by
  unfold bm_114
  cases h0 : Nat.beq b 0 with
  | true => rw [Nat.eq_of_beq_eq_true h0]; exact sk_114_0 X
  | false =>
   cases h101 : Nat.beq b 101 with
   | true => rw [Nat.eq_of_beq_eq_true h101]; exact sk_114_101 X
   | false =>
    exact kx_s_no
/-! TaskDeskModel.close(I)V -/
def bk_115_0 (d : Nat) (C : kx_C) (J : Nat → kx_F) : kx_F := (kx_la 0 (kx_li 1 (kx_c (kx_i (-1)) (kx_ceq (kx_nm [0, 1] (J 18)) (kx_la 0 (kx_li 1 (kx_Vi C 93 9 [0] (kx_ifne (kx_nm [0, 1] (J 18)) (kx_c (kx_i 1) (kx_nm [0, 1] (J 47)))))))))))
def bk_115_18 (d : Nat) (C : kx_C) (J : Nat → kx_F) : kx_F := (kx_la 0 (kx_gI 9 1 (kx_ifge (kx_li 1 (kx_iflt (kx_nm [0, 1] (J 42)) (kx_la 0 (kx_gR 9 14 101 (kx_li 1 (kx_aB 101 (kx_ifeq (kx_c (kx_i 0) (kx_nm [0, 1] (J 47))) (kx_nm [0, 1] (J 42))))))))) (kx_c (kx_i 2) (kx_nm [0, 1] (J 47))))))
def bk_115_42 (d : Nat) (C : kx_C) (J : Nat → kx_F) : kx_F := (kx_c (kx_i 3) (kx_nm [0, 1] (J 47)))
def bk_115_47 (d : Nat) (C : kx_C) (J : Nat → kx_F) : kx_F := (kx_pI 9 0 (kx_la 0 (kx_gI 9 0 (kx_ifle (kx_la 0 (kx_gR 9 14 101 (kx_li 1 (kx_c (kx_i 1) (kx_asB 101 (kx_la 0 (kx_li 1 (kx_c (kx_i 0) (kx_Vi C 94 9 [0, 0] (kx_si 2 (kx_nm [0, 1, 2] (J 72)))))))))))) kx_rv))))
def bk_115_72 (d : Nat) (C : kx_C) (J : Nat → kx_F) : kx_F := (kx_li 2 (kx_iflt (kx_la 0 (kx_li 1 (kx_c (kx_i 1) (kx_Vi C 94 9 [0, 0] (kx_si 2 (kx_nm [0, 1, 2] (J 101))))))) (kx_la 0 (kx_li 2 (kx_c (kx_l 0) (kx_c (kx_i 0) (kx_c (kx_i 0) (kx_Vv C 102 9 [0, 1, 0, 0] (kx_la 0 (kx_li 1 (kx_c (kx_i 0) (kx_Vi C 94 9 [0, 0] (kx_si 2 (kx_nm [0, 1, 2] (J 72)))))))))))))))
def bk_115_101 (d : Nat) (C : kx_C) (J : Nat → kx_F) : kx_F := (kx_li 2 (kx_iflt kx_rv (kx_la 0 (kx_li 2 (kx_c (kx_l 0) (kx_c (kx_i 0) (kx_c (kx_i 1) (kx_Vv C 102 9 [0, 1, 0, 0] (kx_la 0 (kx_li 1 (kx_c (kx_i 1) (kx_Vi C 94 9 [0, 0] (kx_si 2 (kx_nm [0, 1, 2] (J 101)))))))))))))))
def bm_115 (d : Nat) (C : kx_C) (b : Nat) (J : Nat → kx_F) : kx_F := bif Nat.beq b 0 then bk_115_0 d C J else bif Nat.beq b 18 then bk_115_18 d C J else bif Nat.beq b 42 then bk_115_42 d C J else bif Nat.beq b 47 then bk_115_47 d C J else bif Nat.beq b 72 then bk_115_72 d C J else bif Nat.beq b 101 then bk_115_101 d C J else fun _ _ _ => none
set_option maxRecDepth 20000 in
theorem sk_115_0 (X : kx_X p l e R s m args below meth c s0 D cA 3 ι0 h0 rr hf prog_11_method_28_code "TaskDeskModel" C d (Option.none : Option Jvm.ClassFile.FieldType) "close" J) : kx_Sn p l e R s m args below meth c s0 D cA 3 ι0 h0 rr hf 0 (bk_115_0 d C J) := by
  obtain ⟨G, CS, R9, O9, RT, NM, T0, FL, JS⟩ := X
  exact (kx_s_aload_n (j := 0) G rfl (by decide +kernel) (kx_s_iload_n (j := 1) G rfl (by decide +kernel) (kx_s_iconst (i := -1) G (by decide +kernel) (by decide +kernel) (kx_s_ceq (off := 15) (tgt := 18) G (by decide +kernel) rfl (kx_s_nm (JS 18)) (kx_s_aload_n (j := 0) G rfl (by decide +kernel) (kx_s_iload_n (j := 1) G rfl (by decide +kernel) (kx_s_Vi (n := 93) G kx_good CS R9 (O9 _) kc_93 rfl kw_1076 kw_1078 kw_42 (r := kr_9) rfl (by decide) (by decide +kernel) (kx_s_ifne (off := 7) (tgt := 18) G (by decide +kernel) rfl (kx_s_nm (JS 18)) (kx_s_iconst (i := 1) G (by decide +kernel) (by decide +kernel) (kx_s_goto (off := 32) (tgt := 47) G (by decide +kernel) rfl (kx_s_nm (JS 47))))))))))))
set_option maxRecDepth 20000 in
theorem sk_115_18 (X : kx_X p l e R s m args below meth c s0 D cA 3 ι0 h0 rr hf prog_11_method_28_code "TaskDeskModel" C d (Option.none : Option Jvm.ClassFile.FieldType) "close" J) : kx_Sn p l e R s m args below meth c s0 D cA 3 ι0 h0 rr hf 18 (bk_115_18 d C J) := by
  obtain ⟨G, CS, R9, O9, RT, NM, T0, FL, JS⟩ := X
  exact (kx_s_aload_n (j := 0) G rfl (by decide +kernel) (kx_s_gI G kf_9_106 (by decide +kernel) (kx_s_ifge (off := 7) (tgt := 29) G (by decide +kernel) rfl (kx_s_iload_n (j := 1) G rfl (by decide +kernel) (kx_s_iflt (off := 12) (tgt := 42) G (by decide +kernel) rfl (kx_s_nm (JS 42)) (kx_s_aload_n (j := 0) G rfl (by decide +kernel) (kx_s_gR G kf_9_39 (by decide +kernel) (kx_s_iload_n (j := 1) G rfl (by decide +kernel) (kx_s_aB G ka_101 (by decide +kernel) (kx_s_ifeq (off := 7) (tgt := 46) G (by decide +kernel) rfl (kx_s_iconst (i := 0) G (by decide +kernel) (by decide +kernel) (kx_s_nm (JS 47))) (kx_s_nm (JS 42))))))))) (kx_s_iconst (i := 2) G (by decide +kernel) (by decide +kernel) (kx_s_goto (off := 21) (tgt := 47) G (by decide +kernel) rfl (kx_s_nm (JS 47)))))))
set_option maxRecDepth 20000 in
theorem sk_115_42 (X : kx_X p l e R s m args below meth c s0 D cA 3 ι0 h0 rr hf prog_11_method_28_code "TaskDeskModel" C d (Option.none : Option Jvm.ClassFile.FieldType) "close" J) : kx_Sn p l e R s m args below meth c s0 D cA 3 ι0 h0 rr hf 42 (bk_115_42 d C J) := by
  obtain ⟨G, CS, R9, O9, RT, NM, T0, FL, JS⟩ := X
  exact (kx_s_iconst (i := 3) G (by decide +kernel) (by decide +kernel) (kx_s_goto (off := 4) (tgt := 47) G (by decide +kernel) rfl (kx_s_nm (JS 47))))
set_option maxRecDepth 20000 in
theorem sk_115_47 (X : kx_X p l e R s m args below meth c s0 D cA 3 ι0 h0 rr hf prog_11_method_28_code "TaskDeskModel" C d (Option.none : Option Jvm.ClassFile.FieldType) "close" J) : kx_Sn p l e R s m args below meth c s0 D cA 3 ι0 h0 rr hf 47 (bk_115_47 d C J) := by
  obtain ⟨G, CS, R9, O9, RT, NM, T0, FL, JS⟩ := X
  exact (kx_s_pI G kf_9_99 rfl (by decide +kernel) (by decide +kernel) (kx_s_aload_n (j := 0) G rfl (by decide +kernel) (kx_s_gI G kf_9_99 (by decide +kernel) (kx_s_ifle (off := 4) (tgt := 58) G (by decide +kernel) rfl (kx_s_aload_n (j := 0) G rfl (by decide +kernel) (kx_s_gR G kf_9_39 (by decide +kernel) (kx_s_iload_n (j := 1) G rfl (by decide +kernel) (kx_s_iconst (i := 1) G (by decide +kernel) (by decide +kernel) (kx_s_asB G ka_101 (by decide +kernel) (kx_s_aload_n (j := 0) G rfl (by decide +kernel) (kx_s_iload_n (j := 1) G rfl (by decide +kernel) (kx_s_iconst (i := 0) G (by decide +kernel) (by decide +kernel) (kx_s_Vi (n := 94) G kx_good CS R9 (O9 _) kc_94 rfl kw_1080 kw_1082 kw_43 (r := kr_9) rfl (by decide) (by decide +kernel) (kx_s_istore_n (j := 2) G rfl (by decide +kernel) (by decide) (kx_s_nm (JS 72)))))))))))) (kx_s_return G RT (by decide +kernel))))))
set_option maxRecDepth 20000 in
theorem sk_115_72 (X : kx_X p l e R s m args below meth c s0 D cA 3 ι0 h0 rr hf prog_11_method_28_code "TaskDeskModel" C d (Option.none : Option Jvm.ClassFile.FieldType) "close" J) : kx_Sn p l e R s m args below meth c s0 D cA 3 ι0 h0 rr hf 72 (bk_115_72 d C J) := by
  obtain ⟨G, CS, R9, O9, RT, NM, T0, FL, JS⟩ := X
  exact (kx_s_iload_n (j := 2) G rfl (by decide +kernel) (kx_s_iflt (off := 21) (tgt := 94) G (by decide +kernel) rfl (kx_s_aload_n (j := 0) G rfl (by decide +kernel) (kx_s_iload_n (j := 1) G rfl (by decide +kernel) (kx_s_iconst (i := 1) G (by decide +kernel) (by decide +kernel) (kx_s_Vi (n := 94) G kx_good CS R9 (O9 _) kc_94 rfl kw_1080 kw_1082 kw_43 (r := kr_9) rfl (by decide) (by decide +kernel) (kx_s_istore_n (j := 2) G rfl (by decide +kernel) (by decide) (kx_s_nm (JS 101))))))) (kx_s_aload_n (j := 0) G rfl (by decide +kernel) (kx_s_iload_n (j := 2) G rfl (by decide +kernel) (kx_s_lconst (i := 0) G (by decide +kernel) (by decide +kernel) (kx_s_iconst (i := 0) G (by decide +kernel) (by decide +kernel) (kx_s_iconst (i := 0) G (by decide +kernel) (by decide +kernel) (kx_s_Vv (n := 102) G kx_good CS R9 (O9 _) kc_102 rfl kw_1113 kw_1115 kw_49 (r := kr_9) rfl (by decide) (by decide +kernel) (kx_s_aload_n (j := 0) G rfl (by decide +kernel) (kx_s_iload_n (j := 1) G rfl (by decide +kernel) (kx_s_iconst (i := 0) G (by decide +kernel) (by decide +kernel) (kx_s_Vi (n := 94) G kx_good CS R9 (O9 _) kc_94 rfl kw_1080 kw_1082 kw_43 (r := kr_9) rfl (by decide) (by decide +kernel) (kx_s_istore_n (j := 2) G rfl (by decide +kernel) (by decide) (kx_s_goto (off := -19) (tgt := 72) G (by decide +kernel) rfl (kx_s_nm (JS 72))))))))))))))))
set_option maxRecDepth 20000 in
theorem sk_115_101 (X : kx_X p l e R s m args below meth c s0 D cA 3 ι0 h0 rr hf prog_11_method_28_code "TaskDeskModel" C d (Option.none : Option Jvm.ClassFile.FieldType) "close" J) : kx_Sn p l e R s m args below meth c s0 D cA 3 ι0 h0 rr hf 101 (bk_115_101 d C J) := by
  obtain ⟨G, CS, R9, O9, RT, NM, T0, FL, JS⟩ := X
  exact (kx_s_iload_n (j := 2) G rfl (by decide +kernel) (kx_s_iflt (off := 21) (tgt := 123) G (by decide +kernel) rfl (kx_s_return G RT (by decide +kernel)) (kx_s_aload_n (j := 0) G rfl (by decide +kernel) (kx_s_iload_n (j := 2) G rfl (by decide +kernel) (kx_s_lconst (i := 0) G (by decide +kernel) (by decide +kernel) (kx_s_iconst (i := 0) G (by decide +kernel) (by decide +kernel) (kx_s_iconst (i := 1) G (by decide +kernel) (by decide +kernel) (kx_s_Vv (n := 102) G kx_good CS R9 (O9 _) kc_102 rfl kw_1113 kw_1115 kw_49 (r := kr_9) rfl (by decide) (by decide +kernel) (kx_s_aload_n (j := 0) G rfl (by decide +kernel) (kx_s_iload_n (j := 1) G rfl (by decide +kernel) (kx_s_iconst (i := 1) G (by decide +kernel) (by decide +kernel) (kx_s_Vi (n := 94) G kx_good CS R9 (O9 _) kc_94 rfl kw_1080 kw_1082 kw_43 (r := kr_9) rfl (by decide) (by decide +kernel) (kx_s_istore_n (j := 2) G rfl (by decide +kernel) (by decide) (kx_s_goto (off := -19) (tgt := 101) G (by decide +kernel) rfl (kx_s_nm (JS 101))))))))))))))))
theorem sm_115 (X : kx_X p l e R s m args below meth c s0 D cA 3 ι0 h0 rr hf prog_11_method_28_code "TaskDeskModel" C d (Option.none : Option Jvm.ClassFile.FieldType) "close" J) (b : Nat) : kx_Sn p l e R s m args below meth c s0 D cA 3 ι0 h0 rr hf b (bm_115 d C b J) := by
  unfold bm_115
  cases h0 : Nat.beq b 0 with
  | true => rw [Nat.eq_of_beq_eq_true h0]; exact sk_115_0 X
  | false =>
   cases h18 : Nat.beq b 18 with
   | true => rw [Nat.eq_of_beq_eq_true h18]; exact sk_115_18 X
   | false =>
    cases h42 : Nat.beq b 42 with
    | true => rw [Nat.eq_of_beq_eq_true h42]; exact sk_115_42 X
    | false =>
     cases h47 : Nat.beq b 47 with
     | true => rw [Nat.eq_of_beq_eq_true h47]; exact sk_115_47 X
     | false =>
      cases h72 : Nat.beq b 72 with
      | true => rw [Nat.eq_of_beq_eq_true h72]; exact sk_115_72 X
      | false =>
       cases h101 : Nat.beq b 101 with
       | true => rw [Nat.eq_of_beq_eq_true h101]; exact sk_115_101 X
       | false =>
        exact kx_s_no
/-! TaskDeskModel.offer(IZJ)I -/
def bk_116_0 (d : Nat) (C : kx_C) (J : Nat → kx_F) : kx_F := (kx_la 0 (kx_c (kx_i 0) (kx_pI 9 0 (kx_li 1 (kx_c (kx_i (-1)) (kx_ceq (kx_nm [0, 1, 2, 3] (J 24)) (kx_la 0 (kx_li 1 (kx_Vi C 93 9 [0] (kx_ifne (kx_nm [0, 1, 2, 3] (J 24)) (kx_la 0 (kx_c (kx_i 1) (kx_Vi C 91 9 [0] kx_ri)))))))))))))
def bk_116_24 (d : Nat) (C : kx_C) (J : Nat → kx_F) : kx_F := (kx_la 0 (kx_gI 9 1 (kx_iflt (kx_nm [0] (J 40)) (kx_la 0 (kx_gI 9 26 (kx_c (kx_i 16) (kx_cne (kx_la 0 (kx_gR 9 27 99 (kx_la 0 (kx_gI 9 26 (kx_li 1 (kx_asI 99 (kx_la 0 (kx_gR 9 28 101 (kx_la 0 (kx_gI 9 26 (kx_li 2 (kx_asB 101 (kx_la 0 (kx_gR 9 29 100 (kx_la 0 (kx_gI 9 26 (kx_ll 3 (kx_asL 100 (kx_la 0 (kx_dup (kx_gI 9 26 (kx_c (kx_i 1) (kx_ii (fun x y => x + y) (kx_pI 9 26 (kx_la 0 (kx_gI 9 26 (kx_c (kx_i 1) (kx_ii (fun x y => x - y) kx_ri)))))))))))))))))))))))))))) (kx_nm [0] (J 40)))))))))
def bk_116_40 (d : Nat) (C : kx_C) (J : Nat → kx_F) : kx_F := (kx_la 0 (kx_c (kx_i 2) (kx_Vi C 91 9 [0] kx_ri)))
def bm_116 (d : Nat) (C : kx_C) (b : Nat) (J : Nat → kx_F) : kx_F := bif Nat.beq b 0 then bk_116_0 d C J else bif Nat.beq b 24 then bk_116_24 d C J else bif Nat.beq b 40 then bk_116_40 d C J else fun _ _ _ => none
set_option maxRecDepth 20000 in
theorem sk_116_0 (X : kx_X p l e R s m args below meth c s0 D cA 5 ι0 h0 rr hf prog_11_method_29_code "TaskDeskModel" C d (Option.some Jvm.ClassFile.FieldType.int) "offer" J) : kx_Sn p l e R s m args below meth c s0 D cA 5 ι0 h0 rr hf 0 (bk_116_0 d C J) := by
  obtain ⟨G, CS, R9, O9, RT, NM, T0, FL, JS⟩ := X
  exact (kx_s_aload_n (j := 0) G rfl (by decide +kernel) (kx_s_iconst (i := 0) G (by decide +kernel) (by decide +kernel) (kx_s_pI G kf_9_99 rfl (by decide +kernel) (by decide +kernel) (kx_s_iload_n (j := 1) G rfl (by decide +kernel) (kx_s_iconst (i := -1) G (by decide +kernel) (by decide +kernel) (kx_s_ceq (off := 17) (tgt := 24) G (by decide +kernel) rfl (kx_s_nm (JS 24)) (kx_s_aload_n (j := 0) G rfl (by decide +kernel) (kx_s_iload_n (j := 1) G rfl (by decide +kernel) (kx_s_Vi (n := 93) G kx_good CS R9 (O9 _) kc_93 rfl kw_1076 kw_1078 kw_42 (r := kr_9) rfl (by decide) (by decide +kernel) (kx_s_ifne (off := 9) (tgt := 24) G (by decide +kernel) rfl (kx_s_nm (JS 24)) (kx_s_aload_n (j := 0) G rfl (by decide +kernel) (kx_s_iconst (i := 1) G (by decide +kernel) (by decide +kernel) (kx_s_Vi (n := 91) G kx_good CS R9 (O9 _) kc_91 rfl kw_1068 kw_1070 kw_41 (r := kr_9) rfl (by decide) (by decide +kernel) (kx_s_ireturn G RT (by decide +kernel)))))))))))))))
set_option maxRecDepth 20000 in
theorem sk_116_24 (X : kx_X p l e R s m args below meth c s0 D cA 5 ι0 h0 rr hf prog_11_method_29_code "TaskDeskModel" C d (Option.some Jvm.ClassFile.FieldType.int) "offer" J) : kx_Sn p l e R s m args below meth c s0 D cA 5 ι0 h0 rr hf 24 (bk_116_24 d C J) := by
  obtain ⟨G, CS, R9, O9, RT, NM, T0, FL, JS⟩ := X
  exact (kx_s_aload_n (j := 0) G rfl (by decide +kernel) (kx_s_gI G kf_9_106 (by decide +kernel) (kx_s_iflt (off := 12) (tgt := 40) G (by decide +kernel) rfl (kx_s_nm (JS 40)) (kx_s_aload_n (j := 0) G rfl (by decide +kernel) (kx_s_gI G kf_9_180 (by decide +kernel) (kx_s_bipush (i := 16) G (by decide +kernel) (by decide +kernel) (kx_s_cne (off := 9) (tgt := 46) G (by decide +kernel) rfl (kx_s_aload_n (j := 0) G rfl (by decide +kernel) (kx_s_gR G kf_9_66 (by decide +kernel) (kx_s_aload_n (j := 0) G rfl (by decide +kernel) (kx_s_gI G kf_9_180 (by decide +kernel) (kx_s_iload_n (j := 1) G rfl (by decide +kernel) (kx_s_asI G ka_99 (by decide +kernel) (kx_s_aload_n (j := 0) G rfl (by decide +kernel) (kx_s_gR G kf_9_69 (by decide +kernel) (kx_s_aload_n (j := 0) G rfl (by decide +kernel) (kx_s_gI G kf_9_180 (by decide +kernel) (kx_s_iload_n (j := 2) G rfl (by decide +kernel) (kx_s_asB G ka_101 (by decide +kernel) (kx_s_aload_n (j := 0) G rfl (by decide +kernel) (kx_s_gR G kf_9_72 (by decide +kernel) (kx_s_aload_n (j := 0) G rfl (by decide +kernel) (kx_s_gI G kf_9_180 (by decide +kernel) (kx_s_lload_n (j := 3) G rfl (by decide +kernel) (kx_s_asL G ka_100 (by decide +kernel) (kx_s_aload_n (j := 0) G rfl (by decide +kernel) (kx_s_dup G (by decide +kernel) (kx_s_gI G kf_9_180 (by decide +kernel) (kx_s_iconst (i := 1) G (by decide +kernel) (by decide +kernel) (kx_s_iadd G (by decide +kernel) (kx_s_pI G kf_9_180 rfl (by decide +kernel) (by decide +kernel) (kx_s_aload_n (j := 0) G rfl (by decide +kernel) (kx_s_gI G kf_9_180 (by decide +kernel) (kx_s_iconst (i := 1) G (by decide +kernel) (by decide +kernel) (kx_s_isub G (by decide +kernel) (kx_s_ireturn G RT (by decide +kernel)))))))))))))))))))))))))))))) (kx_s_nm (JS 40)))))))))
set_option maxRecDepth 20000 in
theorem sk_116_40 (X : kx_X p l e R s m args below meth c s0 D cA 5 ι0 h0 rr hf prog_11_method_29_code "TaskDeskModel" C d (Option.some Jvm.ClassFile.FieldType.int) "offer" J) : kx_Sn p l e R s m args below meth c s0 D cA 5 ι0 h0 rr hf 40 (bk_116_40 d C J) := by
  obtain ⟨G, CS, R9, O9, RT, NM, T0, FL, JS⟩ := X
  exact (kx_s_aload_n (j := 0) G rfl (by decide +kernel) (kx_s_iconst (i := 2) G (by decide +kernel) (by decide +kernel) (kx_s_Vi (n := 91) G kx_good CS R9 (O9 _) kc_91 rfl kw_1068 kw_1070 kw_41 (r := kr_9) rfl (by decide) (by decide +kernel) (kx_s_ireturn G RT (by decide +kernel)))))
theorem sm_116 (X : kx_X p l e R s m args below meth c s0 D cA 5 ι0 h0 rr hf prog_11_method_29_code "TaskDeskModel" C d (Option.some Jvm.ClassFile.FieldType.int) "offer" J) (b : Nat) : kx_Sn p l e R s m args below meth c s0 D cA 5 ι0 h0 rr hf b (bm_116 d C b J) := by
  unfold bm_116
  cases h0 : Nat.beq b 0 with
  | true => rw [Nat.eq_of_beq_eq_true h0]; exact sk_116_0 X
  | false =>
   cases h24 : Nat.beq b 24 with
   | true => rw [Nat.eq_of_beq_eq_true h24]; exact sk_116_24 X
   | false =>
    cases h40 : Nat.beq b 40 with
    | true => rw [Nat.eq_of_beq_eq_true h40]; exact sk_116_40 X
    | false =>
     exact kx_s_no
/-! TaskDeskModel.choose(IZ)Z -/
def bk_117_0 (d : Nat) (C : kx_C) (J : Nat → kx_F) : kx_F := (kx_la 0 (kx_c (kx_i 0) (kx_pI 9 0 (kx_li 1 (kx_ifge (kx_la 0 (kx_gI 9 1 (kx_ifge (kx_c (kx_i 0) (kx_si 3 (kx_c (kx_i 0) (kx_si 4 (kx_nm [0, 1, 2, 3, 4] (J 33)))))) (kx_la 0 (kx_c (kx_i 2) (kx_Vi C 99 9 [0] kx_rz)))))) (kx_la 0 (kx_c (kx_i 1) (kx_Vi C 99 9 [0] kx_rz))))))))
def bk_117_33 (d : Nat) (C : kx_C) (J : Nat → kx_F) : kx_F := (kx_li 4 (kx_la 0 (kx_gI 9 26 (kx_cge (kx_la 0 (kx_gI 9 26 (kx_si 4 (kx_la 0 (kx_c (kx_i 0) (kx_pI 9 26 (kx_li 3 (kx_ifle (kx_li 2 (kx_ifeq (kx_c (kx_i 0) (kx_si 5 (kx_c (kx_i 0) (kx_si 6 (kx_nm [0, 4, 5, 6] (J 158)))))) (kx_la 0 (kx_la 0 (kx_gI 9 1 (kx_c (kx_l 0) (kx_c (kx_i 0) (kx_c (kx_i (-1)) (kx_c (kx_i 0) (kx_Vv C 103 9 [0, 1, 0, 0, 0] (kx_c (kx_i 1) kx_rz))))))))))) (kx_li 1 (kx_li 3 (kx_irem (kx_si 5 (kx_c (kx_i 0) (kx_si 6 (kx_nm [0, 5, 6] (J 88)))))))))))))))) (kx_li 3 (kx_la 0 (kx_li 4 (kx_Vi C 118 9 [0] (kx_ifeq (kx_c (kx_i 0) (kx_nm [0, 1, 2, 4] (J 57))) (kx_c (kx_i 1) (kx_nm [0, 1, 2, 4] (J 57))))))))))))
def bk_117_57 (d : Nat) (C : kx_C) (J : Nat → kx_F) : kx_F := (kx_ii (fun x y => x + y) (kx_si 3 (kx_inc 4 1 (kx_nm [0, 1, 2, 3, 4] (J 33)))))
def bk_117_88 (d : Nat) (C : kx_C) (J : Nat → kx_F) : kx_F := (kx_li 5 (kx_ifgt (kx_nm [0, 5, 6] (J 102)) (kx_la 0 (kx_li 6 (kx_Vi C 118 9 [0] (kx_ifne (kx_la 0 (kx_li 6 (kx_Vi C 119 9 [0] kx_rz))) (kx_nm [0, 5, 6] (J 102))))))))
def bk_117_102 (d : Nat) (C : kx_C) (J : Nat → kx_F) : kx_F := (kx_li 5 (kx_la 0 (kx_li 6 (kx_Vi C 118 9 [0] (kx_ifeq (kx_c (kx_i 0) (kx_nm [0, 6] (J 118))) (kx_c (kx_i 1) (kx_nm [0, 6] (J 118))))))))
def bk_117_118 (d : Nat) (C : kx_C) (J : Nat → kx_F) : kx_F := (kx_ii (fun x y => x - y) (kx_si 5 (kx_inc 6 1 (kx_nm [0, 5, 6] (J 88)))))
def bk_117_158 (d : Nat) (C : kx_C) (J : Nat → kx_F) : kx_F := (kx_li 6 (kx_li 4 (kx_cge (kx_la 0 (kx_li 5 (kx_ifeq (kx_c (kx_i 7) (kx_nm [] (J 230))) (kx_c (kx_i 4) (kx_nm [] (J 230)))))) (kx_la 0 (kx_gR 9 27 99 (kx_li 6 (kx_aI 99 (kx_ifge (kx_la 0 (kx_la 0 (kx_gI 9 1 (kx_la 0 (kx_gR 9 27 99 (kx_li 6 (kx_aI 99 (kx_la 0 (kx_gR 9 28 101 (kx_li 6 (kx_aB 101 (kx_la 0 (kx_gR 9 29 100 (kx_li 6 (kx_aL 100 (kx_li 6 (kx_Vv C 107 9 [0, 0, 0, 1, 0] (kx_c (kx_i 1) (kx_si 5 (kx_nm [0, 4, 5, 6] (J 212))))))))))))))))))))) (kx_nm [0, 4, 5, 6] (J 212))))))))))
def bk_117_212 (d : Nat) (C : kx_C) (J : Nat → kx_F) : kx_F := (kx_inc 6 1 (kx_nm [0, 4, 5, 6] (J 158)))
def bk_117_230 (d : Nat) (C : kx_C) (J : Nat → kx_F) : kx_F := (kx_c (kx_i (-1)) (kx_Vv C 108 9 [0, 0] (kx_c (kx_i 0) kx_rz)))
def bm_117 (d : Nat) (C : kx_C) (b : Nat) (J : Nat → kx_F) : kx_F := bif Nat.beq b 0 then bk_117_0 d C J else bif Nat.beq b 33 then bk_117_33 d C J else bif Nat.beq b 57 then bk_117_57 d C J else bif Nat.beq b 88 then bk_117_88 d C J else bif Nat.beq b 102 then bk_117_102 d C J else bif Nat.beq b 118 then bk_117_118 d C J else bif Nat.beq b 158 then bk_117_158 d C J else bif Nat.beq b 212 then bk_117_212 d C J else bif Nat.beq b 230 then bk_117_230 d C J else fun _ _ _ => none
set_option maxRecDepth 20000 in
theorem sk_117_0 (X : kx_X p l e R s m args below meth c s0 D cA 7 ι0 h0 rr hf prog_11_method_31_code "TaskDeskModel" C d (Option.some Jvm.ClassFile.FieldType.boolean) "choose" J) : kx_Sn p l e R s m args below meth c s0 D cA 7 ι0 h0 rr hf 0 (bk_117_0 d C J) := by
  obtain ⟨G, CS, R9, O9, RT, NM, T0, FL, JS⟩ := X
  exact (kx_s_aload_n (j := 0) G rfl (by decide +kernel) (kx_s_iconst (i := 0) G (by decide +kernel) (by decide +kernel) (kx_s_pI G kf_9_99 rfl (by decide +kernel) (by decide +kernel) (kx_s_iload_n (j := 1) G rfl (by decide +kernel) (kx_s_ifge (off := 9) (tgt := 15) G (by decide +kernel) rfl (kx_s_aload_n (j := 0) G rfl (by decide +kernel) (kx_s_gI G kf_9_106 (by decide +kernel) (kx_s_ifge (off := 9) (tgt := 28) G (by decide +kernel) rfl (kx_s_iconst (i := 0) G (by decide +kernel) (by decide +kernel) (kx_s_istore_n (j := 3) G rfl (by decide +kernel) (by decide) (kx_s_iconst (i := 0) G (by decide +kernel) (by decide +kernel) (kx_s_istore G (by decide +kernel) (by decide) (kx_s_nm (JS 33)))))) (kx_s_aload_n (j := 0) G rfl (by decide +kernel) (kx_s_iconst (i := 2) G (by decide +kernel) (by decide +kernel) (kx_s_Vi (n := 99) G kx_good CS R9 (O9 _) kc_99 rfl kw_1101 kw_1103 kw_46 (r := kr_9) rfl (by decide) (by decide +kernel) (kx_s_zreturn G RT (by decide +kernel)))))))) (kx_s_aload_n (j := 0) G rfl (by decide +kernel) (kx_s_iconst (i := 1) G (by decide +kernel) (by decide +kernel) (kx_s_Vi (n := 99) G kx_good CS R9 (O9 _) kc_99 rfl kw_1101 kw_1103 kw_46 (r := kr_9) rfl (by decide) (by decide +kernel) (kx_s_zreturn G RT (by decide +kernel))))))))))
set_option maxRecDepth 20000 in
theorem sk_117_33 (X : kx_X p l e R s m args below meth c s0 D cA 7 ι0 h0 rr hf prog_11_method_31_code "TaskDeskModel" C d (Option.some Jvm.ClassFile.FieldType.boolean) "choose" J) : kx_Sn p l e R s m args below meth c s0 D cA 7 ι0 h0 rr hf 33 (bk_117_33 d C J) := by
  obtain ⟨G, CS, R9, O9, RT, NM, T0, FL, JS⟩ := X
  exact (kx_s_iload G (by decide +kernel) (kx_s_aload_n (j := 0) G rfl (by decide +kernel) (kx_s_gI G kf_9_180 (by decide +kernel) (kx_s_cge (off := 26) (tgt := 65) G (by decide +kernel) rfl (kx_s_aload_n (j := 0) G rfl (by decide +kernel) (kx_s_gI G kf_9_180 (by decide +kernel) (kx_s_istore G (by decide +kernel) (by decide) (kx_s_aload_n (j := 0) G rfl (by decide +kernel) (kx_s_iconst (i := 0) G (by decide +kernel) (by decide +kernel) (kx_s_pI G kf_9_180 rfl (by decide +kernel) (by decide +kernel) (kx_s_iload_n (j := 3) G rfl (by decide +kernel) (kx_s_ifle (off := 57) (tgt := 134) G (by decide +kernel) rfl (kx_s_iload_n (j := 2) G rfl (by decide +kernel) (kx_s_ifeq (off := 17) (tgt := 152) G (by decide +kernel) rfl (kx_s_iconst (i := 0) G (by decide +kernel) (by decide +kernel) (kx_s_istore G (by decide +kernel) (by decide) (kx_s_iconst (i := 0) G (by decide +kernel) (by decide +kernel) (kx_s_istore G (by decide +kernel) (by decide) (kx_s_nm (JS 158)))))) (kx_s_aload_n (j := 0) G rfl (by decide +kernel) (kx_s_aload_n (j := 0) G rfl (by decide +kernel) (kx_s_gI G kf_9_106 (by decide +kernel) (kx_s_lconst (i := 0) G (by decide +kernel) (by decide +kernel) (kx_s_iconst (i := 0) G (by decide +kernel) (by decide +kernel) (kx_s_iconst (i := -1) G (by decide +kernel) (by decide +kernel) (kx_s_iconst (i := 0) G (by decide +kernel) (by decide +kernel) (kx_s_Vv (n := 103) G kx_good CS R9 (O9 _) kc_103 rfl kw_1117 kw_1119 kw_50 (r := kr_9) rfl (by decide) (by decide +kernel) (kx_s_iconst (i := 1) G (by decide +kernel) (by decide +kernel) (kx_s_zreturn G RT (by decide +kernel))))))))))))) (kx_s_iload_n (j := 1) G rfl (by decide +kernel) (kx_s_iload_n (j := 3) G rfl (by decide +kernel) (kx_s_irem G (by decide +kernel) (kx_s_istore G (by decide +kernel) (by decide) (kx_s_iconst (i := 0) G (by decide +kernel) (by decide +kernel) (kx_s_istore G (by decide +kernel) (by decide) (kx_s_nm (JS 88)))))))))))))))) (kx_s_iload_n (j := 3) G rfl (by decide +kernel) (kx_s_aload_n (j := 0) G rfl (by decide +kernel) (kx_s_iload G (by decide +kernel) (kx_s_Vi (n := 118) G kx_good CS R9 (O9 _) kc_118 rfl kw_1177 kw_1179 kw_61 (r := kr_9) rfl (by decide) (by decide +kernel) (kx_s_ifeq (off := 7) (tgt := 56) G (by decide +kernel) rfl (kx_s_iconst (i := 0) G (by decide +kernel) (by decide +kernel) (kx_s_nm (JS 57))) (kx_s_iconst (i := 1) G (by decide +kernel) (by decide +kernel) (kx_s_goto (off := 4) (tgt := 57) G (by decide +kernel) rfl (kx_s_nm (JS 57)))))))))))))
set_option maxRecDepth 20000 in
theorem sk_117_57 (X : kx_X p l e R s m args below meth c s0 D cA 7 ι0 h0 rr hf prog_11_method_31_code "TaskDeskModel" C d (Option.some Jvm.ClassFile.FieldType.boolean) "choose" J) : kx_Sn p l e R s m args below meth c s0 D cA 7 ι0 h0 rr hf 57 (bk_117_57 d C J) := by
  obtain ⟨G, CS, R9, O9, RT, NM, T0, FL, JS⟩ := X
  exact (kx_s_iadd G (by decide +kernel) (kx_s_istore_n (j := 3) G rfl (by decide +kernel) (by decide) (kx_s_iinc (n := 1) G (by decide +kernel) (by decide +kernel) (by decide) (kx_s_goto (off := -29) (tgt := 33) G (by decide +kernel) rfl (kx_s_nm (JS 33))))))
set_option maxRecDepth 20000 in
theorem sk_117_88 (X : kx_X p l e R s m args below meth c s0 D cA 7 ι0 h0 rr hf prog_11_method_31_code "TaskDeskModel" C d (Option.some Jvm.ClassFile.FieldType.boolean) "choose" J) : kx_Sn p l e R s m args below meth c s0 D cA 7 ι0 h0 rr hf 88 (bk_117_88 d C J) := by
  obtain ⟨G, CS, R9, O9, RT, NM, T0, FL, JS⟩ := X
  exact (kx_s_iload G (by decide +kernel) (kx_s_ifgt (off := 12) (tgt := 102) G (by decide +kernel) rfl (kx_s_nm (JS 102)) (kx_s_aload_n (j := 0) G rfl (by decide +kernel) (kx_s_iload G (by decide +kernel) (kx_s_Vi (n := 118) G kx_good CS R9 (O9 _) kc_118 rfl kw_1177 kw_1179 kw_61 (r := kr_9) rfl (by decide) (by decide +kernel) (kx_s_ifne (off := 28) (tgt := 127) G (by decide +kernel) rfl (kx_s_aload_n (j := 0) G rfl (by decide +kernel) (kx_s_iload G (by decide +kernel) (kx_s_Vi (n := 119) G kx_good CS R9 (O9 _) kc_119 rfl kw_1181 kw_1183 kw_62 (r := kr_9) rfl (by decide) (by decide +kernel) (kx_s_zreturn G RT (by decide +kernel))))) (kx_s_nm (JS 102))))))))
set_option maxRecDepth 20000 in
theorem sk_117_102 (X : kx_X p l e R s m args below meth c s0 D cA 7 ι0 h0 rr hf prog_11_method_31_code "TaskDeskModel" C d (Option.some Jvm.ClassFile.FieldType.boolean) "choose" J) : kx_Sn p l e R s m args below meth c s0 D cA 7 ι0 h0 rr hf 102 (bk_117_102 d C J) := by
  obtain ⟨G, CS, R9, O9, RT, NM, T0, FL, JS⟩ := X
  exact (kx_s_iload G (by decide +kernel) (kx_s_aload_n (j := 0) G rfl (by decide +kernel) (kx_s_iload G (by decide +kernel) (kx_s_Vi (n := 118) G kx_good CS R9 (O9 _) kc_118 rfl kw_1177 kw_1179 kw_61 (r := kr_9) rfl (by decide) (by decide +kernel) (kx_s_ifeq (off := 7) (tgt := 117) G (by decide +kernel) rfl (kx_s_iconst (i := 0) G (by decide +kernel) (by decide +kernel) (kx_s_nm (JS 118))) (kx_s_iconst (i := 1) G (by decide +kernel) (by decide +kernel) (kx_s_goto (off := 4) (tgt := 118) G (by decide +kernel) rfl (kx_s_nm (JS 118)))))))))
set_option maxRecDepth 20000 in
theorem sk_117_118 (X : kx_X p l e R s m args below meth c s0 D cA 7 ι0 h0 rr hf prog_11_method_31_code "TaskDeskModel" C d (Option.some Jvm.ClassFile.FieldType.boolean) "choose" J) : kx_Sn p l e R s m args below meth c s0 D cA 7 ι0 h0 rr hf 118 (bk_117_118 d C J) := by
  obtain ⟨G, CS, R9, O9, RT, NM, T0, FL, JS⟩ := X
  exact (kx_s_isub G (by decide +kernel) (kx_s_istore G (by decide +kernel) (by decide) (kx_s_iinc (n := 1) G (by decide +kernel) (by decide +kernel) (by decide) (kx_s_goto (off := -36) (tgt := 88) G (by decide +kernel) rfl (kx_s_nm (JS 88))))))
set_option maxRecDepth 20000 in
theorem sk_117_158 (X : kx_X p l e R s m args below meth c s0 D cA 7 ι0 h0 rr hf prog_11_method_31_code "TaskDeskModel" C d (Option.some Jvm.ClassFile.FieldType.boolean) "choose" J) : kx_Sn p l e R s m args below meth c s0 D cA 7 ι0 h0 rr hf 158 (bk_117_158 d C J) := by
  obtain ⟨G, CS, R9, O9, RT, NM, T0, FL, JS⟩ := X
  exact (kx_s_iload G (by decide +kernel) (kx_s_iload G (by decide +kernel) (kx_s_cge (off := 56) (tgt := 218) G (by decide +kernel) rfl (kx_s_aload_n (j := 0) G rfl (by decide +kernel) (kx_s_iload G (by decide +kernel) (kx_s_ifeq (off := 7) (tgt := 228) G (by decide +kernel) rfl (kx_s_bipush (i := 7) G (by decide +kernel) (by decide +kernel) (kx_s_nm (JS 230))) (kx_s_iconst (i := 4) G (by decide +kernel) (by decide +kernel) (kx_s_goto (off := 5) (tgt := 230) G (by decide +kernel) rfl (kx_s_nm (JS 230))))))) (kx_s_aload_n (j := 0) G rfl (by decide +kernel) (kx_s_gR G kf_9_66 (by decide +kernel) (kx_s_iload G (by decide +kernel) (kx_s_aI G ka_99 (by decide +kernel) (kx_s_ifge (off := 6) (tgt := 178) G (by decide +kernel) rfl (kx_s_aload_n (j := 0) G rfl (by decide +kernel) (kx_s_aload_n (j := 0) G rfl (by decide +kernel) (kx_s_gI G kf_9_106 (by decide +kernel) (kx_s_aload_n (j := 0) G rfl (by decide +kernel) (kx_s_gR G kf_9_66 (by decide +kernel) (kx_s_iload G (by decide +kernel) (kx_s_aI G ka_99 (by decide +kernel) (kx_s_aload_n (j := 0) G rfl (by decide +kernel) (kx_s_gR G kf_9_69 (by decide +kernel) (kx_s_iload G (by decide +kernel) (kx_s_aB G ka_101 (by decide +kernel) (kx_s_aload_n (j := 0) G rfl (by decide +kernel) (kx_s_gR G kf_9_72 (by decide +kernel) (kx_s_iload G (by decide +kernel) (kx_s_aL G ka_100 (by decide +kernel) (kx_s_iload G (by decide +kernel) (kx_s_Vv (n := 107) G kx_good CS R9 (O9 _) kc_107 rfl kw_1133 kw_1135 kw_54 (r := kr_9) rfl (by decide) (by decide +kernel) (kx_s_iconst (i := 1) G (by decide +kernel) (by decide +kernel) (kx_s_istore G (by decide +kernel) (by decide) (kx_s_nm (JS 212))))))))))))))))))))) (kx_s_goto (off := 37) (tgt := 212) G (by decide +kernel) rfl (kx_s_nm (JS 212)))))))))))
set_option maxRecDepth 20000 in
theorem sk_117_212 (X : kx_X p l e R s m args below meth c s0 D cA 7 ι0 h0 rr hf prog_11_method_31_code "TaskDeskModel" C d (Option.some Jvm.ClassFile.FieldType.boolean) "choose" J) : kx_Sn p l e R s m args below meth c s0 D cA 7 ι0 h0 rr hf 212 (bk_117_212 d C J) := by
  obtain ⟨G, CS, R9, O9, RT, NM, T0, FL, JS⟩ := X
  exact (kx_s_iinc (n := 1) G (by decide +kernel) (by decide +kernel) (by decide) (kx_s_goto (off := -57) (tgt := 158) G (by decide +kernel) rfl (kx_s_nm (JS 158))))
set_option maxRecDepth 20000 in
theorem sk_117_230 (X : kx_X p l e R s m args below meth c s0 D cA 7 ι0 h0 rr hf prog_11_method_31_code "TaskDeskModel" C d (Option.some Jvm.ClassFile.FieldType.boolean) "choose" J) : kx_Sn p l e R s m args below meth c s0 D cA 7 ι0 h0 rr hf 230 (bk_117_230 d C J) := by
  obtain ⟨G, CS, R9, O9, RT, NM, T0, FL, JS⟩ := X
  exact (kx_s_iconst (i := -1) G (by decide +kernel) (by decide +kernel) (kx_s_Vv (n := 108) G kx_good CS R9 (O9 _) kc_108 rfl kw_1137 kw_1139 kw_55 (r := kr_9) rfl (by decide) (by decide +kernel) (kx_s_iconst (i := 0) G (by decide +kernel) (by decide +kernel) (kx_s_zreturn G RT (by decide +kernel)))))
theorem sm_117 (X : kx_X p l e R s m args below meth c s0 D cA 7 ι0 h0 rr hf prog_11_method_31_code "TaskDeskModel" C d (Option.some Jvm.ClassFile.FieldType.boolean) "choose" J) (b : Nat) : kx_Sn p l e R s m args below meth c s0 D cA 7 ι0 h0 rr hf b (bm_117 d C b J) := by
  unfold bm_117
  cases h0 : Nat.beq b 0 with
  | true => rw [Nat.eq_of_beq_eq_true h0]; exact sk_117_0 X
  | false =>
   cases h33 : Nat.beq b 33 with
   | true => rw [Nat.eq_of_beq_eq_true h33]; exact sk_117_33 X
   | false =>
    cases h57 : Nat.beq b 57 with
    | true => rw [Nat.eq_of_beq_eq_true h57]; exact sk_117_57 X
    | false =>
     cases h88 : Nat.beq b 88 with
     | true => rw [Nat.eq_of_beq_eq_true h88]; exact sk_117_88 X
     | false =>
      cases h102 : Nat.beq b 102 with
      | true => rw [Nat.eq_of_beq_eq_true h102]; exact sk_117_102 X
      | false =>
       cases h118 : Nat.beq b 118 with
       | true => rw [Nat.eq_of_beq_eq_true h118]; exact sk_117_118 X
       | false =>
        cases h158 : Nat.beq b 158 with
        | true => rw [Nat.eq_of_beq_eq_true h158]; exact sk_117_158 X
        | false =>
         cases h212 : Nat.beq b 212 with
         | true => rw [Nat.eq_of_beq_eq_true h212]; exact sk_117_212 X
         | false =>
          cases h230 : Nat.beq b 230 with
          | true => rw [Nat.eq_of_beq_eq_true h230]; exact sk_117_230 X
          | false =>
           exact kx_s_no
/-! TaskDeskModel.isReady(I)Z -/
def bk_118_0 (d : Nat) (C : kx_C) (J : Nat → kx_F) : kx_F := (kx_la 0 (kx_gR 9 28 101 (kx_li 1 (kx_aB 101 (kx_ifeq (kx_la 0 (kx_la 0 (kx_gR 9 27 99 (kx_li 1 (kx_aI 99 (kx_Vi C 113 9 [0] (kx_nm [] (J 32)))))))) (kx_la 0 (kx_la 0 (kx_gR 9 27 99 (kx_li 1 (kx_aI 99 (kx_Vi C 100 9 [0] (kx_nm [] (J 32)))))))))))))
def bk_118_32 (d : Nat) (C : kx_C) (J : Nat → kx_F) : kx_F := kx_rz
def bm_118 (d : Nat) (C : kx_C) (b : Nat) (J : Nat → kx_F) : kx_F := bif Nat.beq b 0 then bk_118_0 d C J else bif Nat.beq b 32 then bk_118_32 d C J else fun _ _ _ => none
set_option maxRecDepth 20000 in
theorem sk_118_0 (X : kx_X p l e R s m args below meth c s0 D cA 2 ι0 h0 rr hf prog_11_method_30_code "TaskDeskModel" C d (Option.some Jvm.ClassFile.FieldType.boolean) "isReady" J) : kx_Sn p l e R s m args below meth c s0 D cA 2 ι0 h0 rr hf 0 (bk_118_0 d C J) := by
  obtain ⟨G, CS, R9, O9, RT, NM, T0, FL, JS⟩ := X
  exact (kx_s_aload_n (j := 0) G rfl (by decide +kernel) (kx_s_gR G kf_9_69 (by decide +kernel) (kx_s_iload_n (j := 1) G rfl (by decide +kernel) (kx_s_aB G ka_101 (by decide +kernel) (kx_s_ifeq (off := 16) (tgt := 22) G (by decide +kernel) rfl (kx_s_aload_n (j := 0) G rfl (by decide +kernel) (kx_s_aload_n (j := 0) G rfl (by decide +kernel) (kx_s_gR G kf_9_66 (by decide +kernel) (kx_s_iload_n (j := 1) G rfl (by decide +kernel) (kx_s_aI G ka_99 (by decide +kernel) (kx_s_Vi (n := 113) G kx_good CS R9 (O9 _) kc_113 rfl kw_1157 kw_1159 kw_59 (r := kr_9) rfl (by decide) (by decide +kernel) (kx_s_nm (JS 32)))))))) (kx_s_aload_n (j := 0) G rfl (by decide +kernel) (kx_s_aload_n (j := 0) G rfl (by decide +kernel) (kx_s_gR G kf_9_66 (by decide +kernel) (kx_s_iload_n (j := 1) G rfl (by decide +kernel) (kx_s_aI G ka_99 (by decide +kernel) (kx_s_Vi (n := 100) G kx_good CS R9 (O9 _) kc_100 rfl kw_1105 kw_1107 kw_47 (r := kr_9) rfl (by decide) (by decide +kernel) (kx_s_goto (off := 13) (tgt := 32) G (by decide +kernel) rfl (kx_s_nm (JS 32))))))))))))))
set_option maxRecDepth 20000 in
theorem sk_118_32 (X : kx_X p l e R s m args below meth c s0 D cA 2 ι0 h0 rr hf prog_11_method_30_code "TaskDeskModel" C d (Option.some Jvm.ClassFile.FieldType.boolean) "isReady" J) : kx_Sn p l e R s m args below meth c s0 D cA 2 ι0 h0 rr hf 32 (bk_118_32 d C J) := by
  obtain ⟨G, CS, R9, O9, RT, NM, T0, FL, JS⟩ := X
  exact (kx_s_zreturn G RT (by decide +kernel))
theorem sm_118 (X : kx_X p l e R s m args below meth c s0 D cA 2 ι0 h0 rr hf prog_11_method_30_code "TaskDeskModel" C d (Option.some Jvm.ClassFile.FieldType.boolean) "isReady" J) (b : Nat) : kx_Sn p l e R s m args below meth c s0 D cA 2 ι0 h0 rr hf b (bm_118 d C b J) := by
  unfold bm_118
  cases h0 : Nat.beq b 0 with
  | true => rw [Nat.eq_of_beq_eq_true h0]; exact sk_118_0 X
  | false =>
   cases h32 : Nat.beq b 32 with
   | true => rw [Nat.eq_of_beq_eq_true h32]; exact sk_118_32 X
   | false =>
    exact kx_s_no
/-! TaskDeskModel.done(I)Z -/
def bk_119_0 (d : Nat) (C : kx_C) (J : Nat → kx_F) : kx_F := (kx_la 0 (kx_gR 9 27 99 (kx_li 1 (kx_aI 99 (kx_si 2 (kx_la 0 (kx_gR 9 28 101 (kx_li 1 (kx_aB 101 (kx_ifne (kx_la 0 (kx_gR 9 14 101 (kx_li 2 (kx_aB 101 (kx_ifeq (kx_la 0 (kx_li 2 (kx_la 0 (kx_gR 9 29 100 (kx_li 1 (kx_aL 100 (kx_Vv C 101 9 [0, 1] (kx_la 0 (kx_la 0 (kx_gI 9 1 (kx_c (kx_l 0) (kx_c (kx_i 1) (kx_li 1 (kx_c (kx_i 0) (kx_Vv C 103 9 [0, 1, 0, 0, 0] (kx_c (kx_i 1) kx_rz)))))))))))))))) (kx_la 0 (kx_c (kx_i 3) (kx_Vi C 99 9 [0] kx_rz)))))))) (kx_la 0 (kx_li 2 (kx_li 1 (kx_Vv C 114 9 [0, 0] (kx_c (kx_i 1) kx_rz)))))))))))))))
def bm_119 (d : Nat) (C : kx_C) (b : Nat) (J : Nat → kx_F) : kx_F := bif Nat.beq b 0 then bk_119_0 d C J else fun _ _ _ => none
set_option maxRecDepth 20000 in
theorem sk_119_0 (X : kx_X p l e R s m args below meth c s0 D cA 3 ι0 h0 rr hf prog_11_method_32_code "TaskDeskModel" C d (Option.some Jvm.ClassFile.FieldType.boolean) "done" J) : kx_Sn p l e R s m args below meth c s0 D cA 3 ι0 h0 rr hf 0 (bk_119_0 d C J) := by
  obtain ⟨G, CS, R9, O9, RT, NM, T0, FL, JS⟩ := X
  exact (kx_s_aload_n (j := 0) G rfl (by decide +kernel) (kx_s_gR G kf_9_66 (by decide +kernel) (kx_s_iload_n (j := 1) G rfl (by decide +kernel) (kx_s_aI G ka_99 (by decide +kernel) (kx_s_istore_n (j := 2) G rfl (by decide +kernel) (by decide) (kx_s_aload_n (j := 0) G rfl (by decide +kernel) (kx_s_gR G kf_9_69 (by decide +kernel) (kx_s_iload_n (j := 1) G rfl (by decide +kernel) (kx_s_aB G ka_101 (by decide +kernel) (kx_s_ifne (off := 11) (tgt := 24) G (by decide +kernel) rfl (kx_s_aload_n (j := 0) G rfl (by decide +kernel) (kx_s_gR G kf_9_39 (by decide +kernel) (kx_s_iload_n (j := 2) G rfl (by decide +kernel) (kx_s_aB G ka_101 (by decide +kernel) (kx_s_ifeq (off := 9) (tgt := 39) G (by decide +kernel) rfl (kx_s_aload_n (j := 0) G rfl (by decide +kernel) (kx_s_iload_n (j := 2) G rfl (by decide +kernel) (kx_s_aload_n (j := 0) G rfl (by decide +kernel) (kx_s_gR G kf_9_72 (by decide +kernel) (kx_s_iload_n (j := 1) G rfl (by decide +kernel) (kx_s_aL G ka_100 (by decide +kernel) (kx_s_Vv (n := 101) G kx_good CS R9 (O9 _) kc_101 rfl kw_1109 kw_1111 kw_48 (r := kr_9) rfl (by decide) (by decide +kernel) (kx_s_aload_n (j := 0) G rfl (by decide +kernel) (kx_s_aload_n (j := 0) G rfl (by decide +kernel) (kx_s_gI G kf_9_106 (by decide +kernel) (kx_s_lconst (i := 0) G (by decide +kernel) (by decide +kernel) (kx_s_iconst (i := 1) G (by decide +kernel) (by decide +kernel) (kx_s_iload_n (j := 1) G rfl (by decide +kernel) (kx_s_iconst (i := 0) G (by decide +kernel) (by decide +kernel) (kx_s_Vv (n := 103) G kx_good CS R9 (O9 _) kc_103 rfl kw_1117 kw_1119 kw_50 (r := kr_9) rfl (by decide) (by decide +kernel) (kx_s_iconst (i := 1) G (by decide +kernel) (by decide +kernel) (kx_s_zreturn G RT (by decide +kernel)))))))))))))))))) (kx_s_aload_n (j := 0) G rfl (by decide +kernel) (kx_s_iconst (i := 3) G (by decide +kernel) (by decide +kernel) (kx_s_Vi (n := 99) G kx_good CS R9 (O9 _) kc_99 rfl kw_1101 kw_1103 kw_46 (r := kr_9) rfl (by decide) (by decide +kernel) (kx_s_zreturn G RT (by decide +kernel)))))))))) (kx_s_aload_n (j := 0) G rfl (by decide +kernel) (kx_s_iload_n (j := 2) G rfl (by decide +kernel) (kx_s_iload_n (j := 1) G rfl (by decide +kernel) (kx_s_Vv (n := 114) G kx_good CS R9 (O9 _) kc_114 rfl kw_1161 kw_1163 kw_60 (r := kr_9) rfl (by decide) (by decide +kernel) (kx_s_iconst (i := 1) G (by decide +kernel) (by decide +kernel) (kx_s_zreturn G RT (by decide +kernel)))))))))))))))))
theorem sm_119 (X : kx_X p l e R s m args below meth c s0 D cA 3 ι0 h0 rr hf prog_11_method_32_code "TaskDeskModel" C d (Option.some Jvm.ClassFile.FieldType.boolean) "done" J) (b : Nat) : kx_Sn p l e R s m args below meth c s0 D cA 3 ι0 h0 rr hf b (bm_119 d C b J) := by
  unfold bm_119
  cases h0 : Nat.beq b 0 with
  | true => rw [Nat.eq_of_beq_eq_true h0]; exact sk_119_0 X
  | false =>
   exact kx_s_no
end KB
