section KW
variable {T : Nat → Option Nat} {C C' : kx_C} {J J' : Nat → kx_F} {d : Nat}
/-! TaskDesk.keepValue(LTaskDesk$Value;)V -/
def wk_9_0 (d : Nat) (C : kx_C) (J : Nat → kx_F) : kx_F := (kx_la 1 (kx_la 0 (wx_gR 0 12 8 (wx_pR 8 1 8 (kx_la 0 (kx_la 1 (wx_pR 0 12 8 kx_rv)))))))
def wm_9 (d : Nat) (C : kx_C) (b : Nat) (J : Nat → kx_F) : kx_F := bif Nat.beq b 0 then wk_9_0 d C J else fun _ _ _ => none
theorem zk_9_0 (CS : kZC T C C') (JS : ∀ b, kZ T (J b) (J' b)) : kZ T (bk_9_0 d C J) (wk_9_0 d C' J') := (zz_la (zz_la (zz_gR (by decide) rfl (zz_pR (by decide) rfl (zz_la (zz_la (zz_pR (by decide) rfl zz_rv)))))))
theorem zm_9 (CS : kZC T C C') (J J' : Nat → kx_F) (JS : ∀ b, kZ T (J b) (J' b)) (b : Nat) : kZ T (bm_9 d C b J) (wm_9 d C' b J') := by
  unfold bm_9 wm_9
  cases h0 : Nat.beq b 0 with
  | true => exact zk_9_0 (d := d) CS JS
  | false =>
   exact zz_no
/-! TaskDesk.keepPlace(LTaskDesk$Place;)V -/
def wk_10_0 (d : Nat) (C : kx_C) (J : Nat → kx_F) : kx_F := (kx_la 1 (kx_la 0 (wx_gR 0 15 4 (wx_pR 4 8 4 (kx_la 0 (kx_la 1 (wx_pR 0 15 4 kx_rv)))))))
def wm_10 (d : Nat) (C : kx_C) (b : Nat) (J : Nat → kx_F) : kx_F := bif Nat.beq b 0 then wk_10_0 d C J else fun _ _ _ => none
theorem zk_10_0 (CS : kZC T C C') (JS : ∀ b, kZ T (J b) (J' b)) : kZ T (bk_10_0 d C J) (wk_10_0 d C' J') := (zz_la (zz_la (zz_gR (by decide) rfl (zz_pR (by decide) rfl (zz_la (zz_la (zz_pR (by decide) rfl zz_rv)))))))
theorem zm_10 (CS : kZC T C C') (J J' : Nat → kx_F) (JS : ∀ b, kZ T (J b) (J' b)) (b : Nat) : kZ T (bm_10 d C b J) (wm_10 d C' b J') := by
  unfold bm_10 wm_10
  cases h0 : Nat.beq b 0 with
  | true => exact zk_10_0 (d := d) CS JS
  | false =>
   exact zz_no
/-! TaskDesk$Task.begin()V -/
def wk_11_0 (d : Nat) (C : kx_C) (J : Nat → kx_F) : kx_F := (kx_la 0 (kx_c (kx_i 1) (wx_pB 6 2 (kx_la 0 (kx_c (kx_i (-1)) (wx_pI 6 4 (kx_la 0 (kx_c (kx_l 0) (kx_c (kx_i 0) (kx_c (kx_i (-1)) (kx_c (kx_i 0) (kx_Vv C 12 6 [1, 0, 0, 0] kx_rv))))))))))))
def wm_11 (d : Nat) (C : kx_C) (b : Nat) (J : Nat → kx_F) : kx_F := bif Nat.beq b 0 then wk_11_0 d C J else fun _ _ _ => none
theorem zk_11_0 (CS : kZC T C C') (JS : ∀ b, kZ T (J b) (J' b)) : kZ T (bk_11_0 d C J) (wk_11_0 d C' J') := (zz_la (zz_ci (zz_pB (by decide) (zz_la (zz_ci (zz_pI (by decide) (zz_la (zz_cl (zz_ci (zz_ci (zz_ci (zz_Vv CS zz_rv))))))))))))
theorem zm_11 (CS : kZC T C C') (J J' : Nat → kx_F) (JS : ∀ b, kZ T (J b) (J' b)) (b : Nat) : kZ T (bm_11 d C b J) (wm_11 d C' b J') := by
  unfold bm_11 wm_11
  cases h0 : Nat.beq b 0 with
  | true => exact zk_11_0 (d := d) CS JS
  | false =>
   exact zz_no
/-! TaskDesk$Task.tell(JZIZ)V -/
def wk_12_0 (d : Nat) (C : kx_C) (J : Nat → kx_F) : kx_F := (kx_la 0 (kx_ll 1 (wx_pL 6 6 (kx_la 0 (kx_li 3 (wx_pB 6 7 (kx_la 0 (kx_li 4 (wx_pI 6 8 (kx_la 0 (kx_li 5 (wx_pB 6 9 kx_rv))))))))))))
def wm_12 (d : Nat) (C : kx_C) (b : Nat) (J : Nat → kx_F) : kx_F := bif Nat.beq b 0 then wk_12_0 d C J else fun _ _ _ => none
theorem zk_12_0 (CS : kZC T C C') (JS : ∀ b, kZ T (J b) (J' b)) : kZ T (bk_12_0 d C J) (wk_12_0 d C' J') := (zz_la (zz_ll (zz_pL (by decide) (zz_la (zz_li (zz_pB (by decide) (zz_la (zz_li (zz_pI (by decide) (zz_la (zz_li (zz_pB (by decide) zz_rv))))))))))))
theorem zm_12 (CS : kZC T C C') (J J' : Nat → kx_F) (JS : ∀ b, kZ T (J b) (J' b)) (b : Nat) : kZ T (bm_12 d C b J) (wm_12 d C' b J') := by
  unfold bm_12 wm_12
  cases h0 : Nat.beq b 0 with
  | true => exact zk_12_0 (d := d) CS JS
  | false =>
   exact zz_no
/-! TaskDesk.release(I)Z -/
def wk_13_0 (d : Nat) (C : kx_C) (J : Nat → kx_F) : kx_F := (kx_la 0 (kx_li 1 (kx_Vr C 14 0 [0] 2 (kx_sa 2 (kx_la 2 (kx_nul (kx_nm [] (J 25)) (kx_la 2 (kx_Vi C 15 2 [] (kx_ifne (kx_nm [] (J 25)) (kx_la 0 (kx_la 2 (kx_Vi C 16 0 [4] (kx_ifeq (kx_la 2 (wx_gI 2 6 (kx_si 3 (kx_nm [0, 2, 3] (J 32))))) (kx_nm [] (J 25)))))))))))))))
def wk_13_25 (d : Nat) (C : kx_C) (J : Nat → kx_F) : kx_F := (kx_c (kx_i 0) kx_rz)
def wk_13_32 (d : Nat) (C : kx_C) (J : Nat → kx_F) : kx_F := (kx_li 3 (kx_ifle (kx_la 2 (kx_c (kx_i 0) (wx_pB 2 3 (kx_la 0 (kx_dup (wx_gI 0 10 (kx_c (kx_i 1) (kx_ii (fun x y => x - y) (wx_pI 0 10 (kx_la 0 (kx_dup (wx_gI 0 11 (kx_la 2 (wx_gI 2 5 (kx_ii (fun x y => x - y) (wx_pI 0 11 (kx_c (kx_i 1) kx_rz))))))))))))))))) (kx_la 0 (kx_la 2 (kx_Vl C 17 0 [4] (kx_pop2 (kx_inc 3 (-1) (kx_nm [0, 2, 3] (J 32)))))))))
def wm_13 (d : Nat) (C : kx_C) (b : Nat) (J : Nat → kx_F) : kx_F := bif Nat.beq b 0 then wk_13_0 d C J else bif Nat.beq b 25 then wk_13_25 d C J else bif Nat.beq b 32 then wk_13_32 d C J else fun _ _ _ => none
theorem zk_13_0 (CS : kZC T C C') (JS : ∀ b, kZ T (J b) (J' b)) : kZ T (bk_13_0 d C J) (wk_13_0 d C' J') := (zz_la (zz_li (zz_Vr CS (zz_sa (zz_la (zz_nul (zz_nm (JS 25)) (zz_la (zz_Vi CS (zz_ifne (zz_nm (JS 25)) (zz_la (zz_la (zz_Vi CS (zz_ifeq (zz_la (zz_gI (by decide) (zz_si (zz_nm (JS 32))))) (zz_nm (JS 25)))))))))))))))
theorem zk_13_25 (CS : kZC T C C') (JS : ∀ b, kZ T (J b) (J' b)) : kZ T (bk_13_25 d C J) (wk_13_25 d C' J') := (zz_ci zz_rz)
theorem zk_13_32 (CS : kZC T C C') (JS : ∀ b, kZ T (J b) (J' b)) : kZ T (bk_13_32 d C J) (wk_13_32 d C' J') := (zz_li (zz_ifle (zz_la (zz_ci (zz_pB (by decide) (zz_la (zz_dup (zz_gI (by decide) (zz_ci (zz_ii (zz_pI (by decide) (zz_la (zz_dup (zz_gI (by decide) (zz_la (zz_gI (by decide) (zz_ii (zz_pI (by decide) (zz_ci zz_rz))))))))))))))))) (zz_la (zz_la (zz_Vl CS (zz_pop2 (zz_inc (zz_nm (JS 32)))))))))
theorem zm_13 (CS : kZC T C C') (J J' : Nat → kx_F) (JS : ∀ b, kZ T (J b) (J' b)) (b : Nat) : kZ T (bm_13 d C b J) (wm_13 d C' b J') := by
  unfold bm_13 wm_13
  cases h0 : Nat.beq b 0 with
  | true => exact zk_13_0 (d := d) CS JS
  | false =>
   cases h25 : Nat.beq b 25 with
   | true => exact zk_13_25 (d := d) CS JS
   | false =>
    cases h32 : Nat.beq b 32 with
    | true => exact zk_13_32 (d := d) CS JS
    | false =>
     exact zz_no
/-! TaskDesk.channelAt(I)LTaskDesk$Channel; -/
def wk_14_0 (d : Nat) (C : kx_C) (J : Nat → kx_F) : kx_F := (kx_li 1 (kx_iflt (kx_nm [] (J 23)) (kx_li 1 (kx_c (kx_i 512) (kx_cge (kx_nm [] (J 23)) (kx_la 0 (wx_gR 0 8 103 (kx_li 1 (wx_aR 103 2 (wx_gB 2 3 (kx_ifne (kx_la 0 (wx_gR 0 8 103 (kx_li 1 (wx_aR 103 2 kx_rr)))) (kx_nm [] (J 23)))))))))))))
def wk_14_23 (d : Nat) (C : kx_C) (J : Nat → kx_F) : kx_F := (kx_c (kx_r 2 none) kx_rr)
def wm_14 (d : Nat) (C : kx_C) (b : Nat) (J : Nat → kx_F) : kx_F := bif Nat.beq b 0 then wk_14_0 d C J else bif Nat.beq b 23 then wk_14_23 d C J else fun _ _ _ => none
theorem zk_14_0 (CS : kZC T C C') (JS : ∀ b, kZ T (J b) (J' b)) : kZ T (bk_14_0 d C J) (wk_14_0 d C' J') := (zz_li (zz_iflt (zz_nm (JS 23)) (zz_li (zz_ci (zz_cge (zz_nm (JS 23)) (zz_la (zz_gR (by decide) rfl (zz_li (zz_aR (by decide) rfl (zz_gB (by decide) (zz_ifne (zz_la (zz_gR (by decide) rfl (zz_li (zz_aR (by decide) rfl zz_rr)))) (zz_nm (JS 23)))))))))))))
theorem zk_14_23 (CS : kZC T C C') (JS : ∀ b, kZ T (J b) (J' b)) : kZ T (bk_14_23 d C J) (wk_14_23 d C' J') := (zz_cn zz_rr)
theorem zm_14 (CS : kZC T C C') (J J' : Nat → kx_F) (JS : ∀ b, kZ T (J b) (J' b)) (b : Nat) : kZ T (bm_14 d C b J) (wm_14 d C' b J') := by
  unfold bm_14 wm_14
  cases h0 : Nat.beq b 0 with
  | true => exact zk_14_0 (d := d) CS JS
  | false =>
   cases h23 : Nat.beq b 23 with
   | true => exact zk_14_23 (d := d) CS JS
   | false =>
    exact zz_no
/-! TaskDesk$Channel.isAwaited()Z -/
def wk_15_0 (d : Nat) (C : kx_C) (J : Nat → kx_F) : kx_F := (kx_la 0 (wx_gR 2 1 5 (wx_gI 5 2 (kx_ifgt (kx_nm [] (J 27)) (kx_la 0 (wx_gR 2 2 5 (wx_gI 5 2 (kx_ifgt (kx_nm [] (J 27)) (kx_la 0 (wx_gI 2 7 (kx_ifle (kx_c (kx_i 0) (kx_nm [] (J 32))) (kx_nm [] (J 27)))))))))))))
def wk_15_27 (d : Nat) (C : kx_C) (J : Nat → kx_F) : kx_F := (kx_c (kx_i 1) (kx_nm [] (J 32)))
def wk_15_32 (d : Nat) (C : kx_C) (J : Nat → kx_F) : kx_F := kx_rz
def wm_15 (d : Nat) (C : kx_C) (b : Nat) (J : Nat → kx_F) : kx_F := bif Nat.beq b 0 then wk_15_0 d C J else bif Nat.beq b 27 then wk_15_27 d C J else bif Nat.beq b 32 then wk_15_32 d C J else fun _ _ _ => none
theorem zk_15_0 (CS : kZC T C C') (JS : ∀ b, kZ T (J b) (J' b)) : kZ T (bk_15_0 d C J) (wk_15_0 d C' J') := (zz_la (zz_gR (by decide) rfl (zz_gI (by decide) (zz_ifgt (zz_nm (JS 27)) (zz_la (zz_gR (by decide) rfl (zz_gI (by decide) (zz_ifgt (zz_nm (JS 27)) (zz_la (zz_gI (by decide) (zz_ifle (zz_ci (zz_nm (JS 32))) (zz_nm (JS 27)))))))))))))
theorem zk_15_27 (CS : kZC T C C') (JS : ∀ b, kZ T (J b) (J' b)) : kZ T (bk_15_27 d C J) (wk_15_27 d C' J') := (zz_ci (zz_nm (JS 32)))
theorem zk_15_32 (CS : kZC T C C') (JS : ∀ b, kZ T (J b) (J' b)) : kZ T (bk_15_32 d C J) (wk_15_32 d C' J') := zz_rz
theorem zm_15 (CS : kZC T C C') (J J' : Nat → kx_F) (JS : ∀ b, kZ T (J b) (J' b)) (b : Nat) : kZ T (bm_15 d C b J) (wm_15 d C' b J') := by
  unfold bm_15 wm_15
  cases h0 : Nat.beq b 0 with
  | true => exact zk_15_0 (d := d) CS JS
  | false =>
   cases h27 : Nat.beq b 27 with
   | true => exact zk_15_27 (d := d) CS JS
   | false =>
    cases h32 : Nat.beq b 32 with
    | true => exact zk_15_32 (d := d) CS JS
    | false =>
     exact zz_no
/-! TaskDesk.isTold(LTaskDesk$Channel;)Z -/
def wk_16_0 (d : Nat) (C : kx_C) (J : Nat → kx_F) : kx_F := (kx_c (kx_i 0) (kx_si 2 (kx_nm [0, 1, 2] (J 2))))
def wk_16_2 (d : Nat) (C : kx_C) (J : Nat → kx_F) : kx_F := (kx_li 2 (kx_la 0 (wx_gI 0 14 (kx_cge (kx_c (kx_i 0) kx_rz) (kx_la 0 (wx_gR 0 13 104 (kx_li 2 (wx_aR 104 4 (kx_nul (kx_nm [0, 1, 2] (J 34)) (kx_la 0 (wx_gR 0 13 104 (kx_li 2 (wx_aR 104 4 (wx_gR 4 1 2 (kx_la 1 (kx_ane (kx_nm [0, 1, 2] (J 34)) (kx_c (kx_i 1) kx_rz)))))))))))))))))
def wk_16_34 (d : Nat) (C : kx_C) (J : Nat → kx_F) : kx_F := (kx_inc 2 1 (kx_nm [0, 1, 2] (J 2)))
def wm_16 (d : Nat) (C : kx_C) (b : Nat) (J : Nat → kx_F) : kx_F := bif Nat.beq b 0 then wk_16_0 d C J else bif Nat.beq b 2 then wk_16_2 d C J else bif Nat.beq b 34 then wk_16_34 d C J else fun _ _ _ => none
theorem zk_16_0 (CS : kZC T C C') (JS : ∀ b, kZ T (J b) (J' b)) : kZ T (bk_16_0 d C J) (wk_16_0 d C' J') := (zz_ci (zz_si (zz_nm (JS 2))))
theorem zk_16_2 (CS : kZC T C C') (JS : ∀ b, kZ T (J b) (J' b)) : kZ T (bk_16_2 d C J) (wk_16_2 d C' J') := (zz_li (zz_la (zz_gI (by decide) (zz_cge (zz_ci zz_rz) (zz_la (zz_gR (by decide) rfl (zz_li (zz_aR (by decide) rfl (zz_nul (zz_nm (JS 34)) (zz_la (zz_gR (by decide) rfl (zz_li (zz_aR (by decide) rfl (zz_gR (by decide) rfl (zz_la (zz_ane (zz_nm (JS 34)) (zz_ci zz_rz)))))))))))))))))
theorem zk_16_34 (CS : kZC T C C') (JS : ∀ b, kZ T (J b) (J' b)) : kZ T (bk_16_34 d C J) (wk_16_34 d C' J') := (zz_inc (zz_nm (JS 2)))
theorem zm_16 (CS : kZC T C C') (J J' : Nat → kx_F) (JS : ∀ b, kZ T (J b) (J' b)) (b : Nat) : kZ T (bm_16 d C b J) (wm_16 d C' b J') := by
  unfold bm_16 wm_16
  cases h0 : Nat.beq b 0 with
  | true => exact zk_16_0 (d := d) CS JS
  | false =>
   cases h2 : Nat.beq b 2 with
   | true => exact zk_16_2 (d := d) CS JS
   | false =>
    cases h34 : Nat.beq b 34 with
    | true => exact zk_16_34 (d := d) CS JS
    | false =>
     exact zz_no
/-! TaskDesk.takeValue(LTaskDesk$Channel;)J -/
def wk_17_0 (d : Nat) (C : kx_C) (J : Nat → kx_F) : kx_F := (kx_la 1 (wx_gR 2 8 8 (kx_sa 2 (kx_la 2 (kx_nnul (kx_la 1 (kx_Vv C 18 2 [] (kx_la 0 (kx_la 2 (kx_Vv C 9 0 [10] (kx_la 2 (wx_gL 8 0 kx_rl))))))) (kx_c (kx_l 0) kx_rl))))))
def wm_17 (d : Nat) (C : kx_C) (b : Nat) (J : Nat → kx_F) : kx_F := bif Nat.beq b 0 then wk_17_0 d C J else fun _ _ _ => none
theorem zk_17_0 (CS : kZC T C C') (JS : ∀ b, kZ T (J b) (J' b)) : kZ T (bk_17_0 d C J) (wk_17_0 d C' J') := (zz_la (zz_gR (by decide) rfl (zz_sa (zz_la (zz_nnul (zz_la (zz_Vv CS (zz_la (zz_la (zz_Vv CS (zz_la (zz_gL (by decide) zz_rl))))))) (zz_cl zz_rl))))))
theorem zm_17 (CS : kZC T C C') (J J' : Nat → kx_F) (JS : ∀ b, kZ T (J b) (J' b)) (b : Nat) : kZ T (bm_17 d C b J) (wm_17 d C' b J') := by
  unfold bm_17 wm_17
  cases h0 : Nat.beq b 0 with
  | true => exact zk_17_0 (d := d) CS JS
  | false =>
   exact zz_no
/-! TaskDesk$Channel.removeFirst()V -/
def wk_18_0 (d : Nat) (C : kx_C) (J : Nat → kx_F) : kx_F := (kx_la 0 (wx_gR 2 8 8 (kx_nnul (kx_la 0 (kx_la 0 (wx_gR 2 8 8 (wx_gR 8 1 8 (wx_pR 2 8 8 (kx_la 0 (wx_gR 2 8 8 (kx_nnul (kx_nm [0] (J 31)) (kx_la 0 (kx_c (kx_r 8 none) (wx_pR 2 9 8 (kx_nm [0] (J 31))))))))))))) kx_rv)))
def wk_18_31 (d : Nat) (C : kx_C) (J : Nat → kx_F) : kx_F := (kx_la 0 (kx_dup (wx_gI 2 6 (kx_c (kx_i 1) (kx_ii (fun x y => x - y) (wx_pI 2 6 kx_rv))))))
def wm_18 (d : Nat) (C : kx_C) (b : Nat) (J : Nat → kx_F) : kx_F := bif Nat.beq b 0 then wk_18_0 d C J else bif Nat.beq b 31 then wk_18_31 d C J else fun _ _ _ => none
theorem zk_18_0 (CS : kZC T C C') (JS : ∀ b, kZ T (J b) (J' b)) : kZ T (bk_18_0 d C J) (wk_18_0 d C' J') := (zz_la (zz_gR (by decide) rfl (zz_nnul (zz_la (zz_la (zz_gR (by decide) rfl (zz_gR (by decide) rfl (zz_pR (by decide) rfl (zz_la (zz_gR (by decide) rfl (zz_nnul (zz_nm (JS 31)) (zz_la (zz_cn (zz_pR (by decide) rfl (zz_nm (JS 31))))))))))))) zz_rv)))
theorem zk_18_31 (CS : kZC T C C') (JS : ∀ b, kZ T (J b) (J' b)) : kZ T (bk_18_31 d C J) (wk_18_31 d C' J') := (zz_la (zz_dup (zz_gI (by decide) (zz_ci (zz_ii (zz_pI (by decide) zz_rv))))))
theorem zm_18 (CS : kZC T C C') (J J' : Nat → kx_F) (JS : ∀ b, kZ T (J b) (J' b)) (b : Nat) : kZ T (bm_18 d C b J) (wm_18 d C' b J') := by
  unfold bm_18 wm_18
  cases h0 : Nat.beq b 0 with
  | true => exact zk_18_0 (d := d) CS JS
  | false =>
   cases h31 : Nat.beq b 31 with
   | true => exact zk_18_31 (d := d) CS JS
   | false =>
    exact zz_no
/-! TaskDesk.current()I -/
def wk_19_0 (d : Nat) (C : kx_C) (J : Nat → kx_F) : kx_F := (kx_la 0 (wx_gR 0 3 6 (kx_nnul (kx_la 0 (wx_gR 0 3 6 (wx_gI 6 0 (kx_nm [] (J 18))))) (kx_c (kx_i (-1)) (kx_nm [] (J 18))))))
def wk_19_18 (d : Nat) (C : kx_C) (J : Nat → kx_F) : kx_F := kx_ri
def wm_19 (d : Nat) (C : kx_C) (b : Nat) (J : Nat → kx_F) : kx_F := bif Nat.beq b 0 then wk_19_0 d C J else bif Nat.beq b 18 then wk_19_18 d C J else fun _ _ _ => none
theorem zk_19_0 (CS : kZC T C C') (JS : ∀ b, kZ T (J b) (J' b)) : kZ T (bk_19_0 d C J) (wk_19_0 d C' J') := (zz_la (zz_gR (by decide) rfl (zz_nnul (zz_la (zz_gR (by decide) rfl (zz_gI (by decide) (zz_nm (JS 18))))) (zz_ci (zz_nm (JS 18))))))
theorem zk_19_18 (CS : kZC T C C') (JS : ∀ b, kZ T (J b) (J' b)) : kZ T (bk_19_18 d C J) (wk_19_18 d C' J') := zz_ri
theorem zm_19 (CS : kZC T C C') (J J' : Nat → kx_F) (JS : ∀ b, kZ T (J b) (J' b)) (b : Nat) : kZ T (bm_19 d C b J) (wm_19 d C' b J') := by
  unfold bm_19 wm_19
  cases h0 : Nat.beq b 0 with
  | true => exact zk_19_0 (d := d) CS JS
  | false =>
   cases h18 : Nat.beq b 18 with
   | true => exact zk_19_18 (d := d) CS JS
   | false =>
    exact zz_no
/-! TaskDesk.clock()J -/
def wk_20_0 (d : Nat) (C : kx_C) (J : Nat → kx_F) : kx_F := (kx_la 0 (wx_gL 0 5 kx_rl))
def wm_20 (d : Nat) (C : kx_C) (b : Nat) (J : Nat → kx_F) : kx_F := bif Nat.beq b 0 then wk_20_0 d C J else fun _ _ _ => none
theorem zk_20_0 (CS : kZC T C C') (JS : ∀ b, kZ T (J b) (J' b)) : kZ T (bk_20_0 d C J) (wk_20_0 d C' J') := (zz_la (zz_gL (by decide) zz_rl))
theorem zm_20 (CS : kZC T C C') (J J' : Nat → kx_F) (JS : ∀ b, kZ T (J b) (J' b)) (b : Nat) : kZ T (bm_20 d C b J) (wm_20 d C' b J') := by
  unfold bm_20 wm_20
  cases h0 : Nat.beq b 0 with
  | true => exact zk_20_0 (d := d) CS JS
  | false =>
   exact zz_no
/-! TaskDesk.count(I)I -/
def wk_21_0 (d : Nat) (C : kx_C) (J : Nat → kx_F) : kx_F := (kx_li 1 (kx_sw [(0, (kx_la 0 (wx_gI 0 1 kx_ri))), (1, (kx_la 0 (wx_gR 0 2 5 (wx_gI 5 2 kx_ri)))), (2, (kx_la 0 (wx_gI 0 10 kx_ri))), (3, (kx_la 0 (wx_gI 0 11 kx_ri))), (4, (kx_la 0 (wx_gI 0 17 kx_ri))), (5, (kx_la 0 (wx_gI 0 7 kx_ri))), (6, (kx_la 0 (wx_gI 0 14 kx_ri))), (7, (kx_la 0 (kx_Vi C 22 0 [] kx_ri)))] (kx_c (kx_i (-1)) kx_ri)))
def wm_21 (d : Nat) (C : kx_C) (b : Nat) (J : Nat → kx_F) : kx_F := bif Nat.beq b 0 then wk_21_0 d C J else fun _ _ _ => none
theorem zk_21_0 (CS : kZC T C C') (JS : ∀ b, kZ T (J b) (J' b)) : kZ T (bk_21_0 d C J) (wk_21_0 d C' J') := (zz_li (zz_sw ⟨rfl, (zz_la (zz_gI (by decide) zz_ri)), ⟨rfl, (zz_la (zz_gR (by decide) rfl (zz_gI (by decide) zz_ri))), ⟨rfl, (zz_la (zz_gI (by decide) zz_ri)), ⟨rfl, (zz_la (zz_gI (by decide) zz_ri)), ⟨rfl, (zz_la (zz_gI (by decide) zz_ri)), ⟨rfl, (zz_la (zz_gI (by decide) zz_ri)), ⟨rfl, (zz_la (zz_gI (by decide) zz_ri)), ⟨rfl, (zz_la (zz_Vi CS zz_ri)), trivial⟩⟩⟩⟩⟩⟩⟩⟩ (zz_ci zz_ri)))
theorem zm_21 (CS : kZC T C C') (J J' : Nat → kx_F) (JS : ∀ b, kZ T (J b) (J' b)) (b : Nat) : kZ T (bm_21 d C b J) (wm_21 d C' b J') := by
  unfold bm_21 wm_21
  cases h0 : Nat.beq b 0 with
  | true => exact zk_21_0 (d := d) CS JS
  | false =>
   exact zz_no
/-! TaskDesk.howItStands()I -/
def wk_22_0 (d : Nat) (C : kx_C) (J : Nat → kx_F) : kx_F := (kx_la 0 (wx_gR 0 3 6 (kx_nul (kx_la 0 (wx_gB 0 4 (kx_ifeq (kx_c (kx_i 2) (kx_nm [] (J 21))) (kx_c (kx_i 1) (kx_nm [] (J 21)))))) (kx_c (kx_i 0) kx_ri))))
def wk_22_21 (d : Nat) (C : kx_C) (J : Nat → kx_F) : kx_F := kx_ri
def wm_22 (d : Nat) (C : kx_C) (b : Nat) (J : Nat → kx_F) : kx_F := bif Nat.beq b 0 then wk_22_0 d C J else bif Nat.beq b 21 then wk_22_21 d C J else fun _ _ _ => none
theorem zk_22_0 (CS : kZC T C C') (JS : ∀ b, kZ T (J b) (J' b)) : kZ T (bk_22_0 d C J) (wk_22_0 d C' J') := (zz_la (zz_gR (by decide) rfl (zz_nul (zz_la (zz_gB (by decide) (zz_ifeq (zz_ci (zz_nm (JS 21))) (zz_ci (zz_nm (JS 21)))))) (zz_ci zz_ri))))
theorem zk_22_21 (CS : kZC T C C') (JS : ∀ b, kZ T (J b) (J' b)) : kZ T (bk_22_21 d C J) (wk_22_21 d C' J') := zz_ri
theorem zm_22 (CS : kZC T C C') (J J' : Nat → kx_F) (JS : ∀ b, kZ T (J b) (J' b)) (b : Nat) : kZ T (bm_22 d C b J) (wm_22 d C' b J') := by
  unfold bm_22 wm_22
  cases h0 : Nat.beq b 0 with
  | true => exact zk_22_0 (d := d) CS JS
  | false =>
   cases h21 : Nat.beq b 21 with
   | true => exact zk_22_21 (d := d) CS JS
   | false =>
    exact zz_no
/-! TaskDesk.spawn()I -/
def wk_23_0 (d : Nat) (C : kx_C) (J : Nat → kx_F) : kx_F := (kx_la 0 (kx_Vr C 24 0 [] 6 (kx_pop (kx_la 0 (kx_Vr C 25 0 [] 6 (kx_sa 1 (kx_la 1 (kx_nnul (kx_la 1 (kx_Vv C 11 6 [] (kx_la 0 (kx_dup (wx_gI 0 1 (kx_c (kx_i 1) (kx_ii (fun x y => x + y) (wx_pI 0 1 (kx_la 0 (kx_la 1 (kx_Vv C 26 0 [8] (kx_la 1 (wx_gI 6 0 kx_ri))))))))))))) (kx_thd kx_cc kx_cs d 0)))))))))
def wm_23 (d : Nat) (C : kx_C) (b : Nat) (J : Nat → kx_F) : kx_F := bif Nat.beq b 0 then wk_23_0 d C J else fun _ _ _ => none
theorem zk_23_0 (CS : kZC T C C') (JS : ∀ b, kZ T (J b) (J' b)) : kZ T (bk_23_0 d C J) (wk_23_0 d C' J') := (zz_la (zz_Vr CS (zz_pop (zz_la (zz_Vr CS (zz_sa (zz_la (zz_nnul (zz_la (zz_Vv CS (zz_la (zz_dup (zz_gI (by decide) (zz_ci (zz_ii (zz_pI (by decide) (zz_la (zz_la (zz_Vv CS (zz_la (zz_gI (by decide) zz_ri))))))))))))) zz_thd))))))))
theorem zm_23 (CS : kZC T C C') (J J' : Nat → kx_F) (JS : ∀ b, kZ T (J b) (J' b)) (b : Nat) : kZ T (bm_23 d C b J) (wm_23 d C' b J') := by
  unfold bm_23 wm_23
  cases h0 : Nat.beq b 0 with
  | true => exact zk_23_0 (d := d) CS JS
  | false =>
   exact zz_no
/-! TaskDesk.mustBeCurrent()LTaskDesk$Task; -/
def wk_24_0 (d : Nat) (C : kx_C) (J : Nat → kx_F) : kx_F := (kx_la 0 (wx_gR 0 3 6 (kx_nnul (kx_la 0 (wx_gR 0 3 6 kx_rr)) (kx_thd kx_cc kx_cs d 0))))
def wm_24 (d : Nat) (C : kx_C) (b : Nat) (J : Nat → kx_F) : kx_F := bif Nat.beq b 0 then wk_24_0 d C J else fun _ _ _ => none
theorem zk_24_0 (CS : kZC T C C') (JS : ∀ b, kZ T (J b) (J' b)) : kZ T (bk_24_0 d C J) (wk_24_0 d C' J') := (zz_la (zz_gR (by decide) rfl (zz_nnul (zz_la (zz_gR (by decide) rfl zz_rr)) zz_thd)))
theorem zm_24 (CS : kZC T C C') (J J' : Nat → kx_F) (JS : ∀ b, kZ T (J b) (J' b)) (b : Nat) : kZ T (bm_24 d C b J) (wm_24 d C' b J') := by
  unfold bm_24 wm_24
  cases h0 : Nat.beq b 0 with
  | true => exact zk_24_0 (d := d) CS JS
  | false =>
   exact zz_no
/-! TaskDesk.firstFreeTask()LTaskDesk$Task; -/
def wk_25_0 (d : Nat) (C : kx_C) (J : Nat → kx_F) : kx_F := (kx_c (kx_i 0) (kx_si 1 (kx_nm [0, 1] (J 2))))
def wk_25_2 (d : Nat) (C : kx_C) (J : Nat → kx_F) : kx_F := (kx_li 1 (kx_c (kx_i 256) (kx_cge (kx_c (kx_r 6 none) kx_rr) (kx_la 0 (wx_gR 0 0 102 (kx_li 1 (wx_aR 102 6 (wx_gB 6 2 (kx_ifne (kx_inc 1 1 (kx_nm [0, 1] (J 2))) (kx_la 0 (wx_gR 0 0 102 (kx_li 1 (wx_aR 102 6 kx_rr)))))))))))))
def wm_25 (d : Nat) (C : kx_C) (b : Nat) (J : Nat → kx_F) : kx_F := bif Nat.beq b 0 then wk_25_0 d C J else bif Nat.beq b 2 then wk_25_2 d C J else fun _ _ _ => none
theorem zk_25_0 (CS : kZC T C C') (JS : ∀ b, kZ T (J b) (J' b)) : kZ T (bk_25_0 d C J) (wk_25_0 d C' J') := (zz_ci (zz_si (zz_nm (JS 2))))
theorem zk_25_2 (CS : kZC T C C') (JS : ∀ b, kZ T (J b) (J' b)) : kZ T (bk_25_2 d C J) (wk_25_2 d C' J') := (zz_li (zz_ci (zz_cge (zz_cn zz_rr) (zz_la (zz_gR (by decide) rfl (zz_li (zz_aR (by decide) rfl (zz_gB (by decide) (zz_ifne (zz_inc (zz_nm (JS 2))) (zz_la (zz_gR (by decide) rfl (zz_li (zz_aR (by decide) rfl zz_rr)))))))))))))
theorem zm_25 (CS : kZC T C C') (J J' : Nat → kx_F) (JS : ∀ b, kZ T (J b) (J' b)) (b : Nat) : kZ T (bm_25 d C b J) (wm_25 d C' b J') := by
  unfold bm_25 wm_25
  cases h0 : Nat.beq b 0 with
  | true => exact zk_25_0 (d := d) CS JS
  | false =>
   cases h2 : Nat.beq b 2 with
   | true => exact zk_25_2 (d := d) CS JS
   | false =>
    exact zz_no
/-! TaskDesk.makeReady(LTaskDesk$Task;)V -/
def wk_26_0 (d : Nat) (C : kx_C) (J : Nat → kx_F) : kx_F := (kx_la 1 (kx_la 0 (wx_gR 0 2 5 (kx_c (kx_i 1) (kx_c (kx_i (-1)) (kx_Vv C 27 6 [7, 0, 0] kx_rv))))))
def wm_26 (d : Nat) (C : kx_C) (b : Nat) (J : Nat → kx_F) : kx_F := bif Nat.beq b 0 then wk_26_0 d C J else fun _ _ _ => none
theorem zk_26_0 (CS : kZC T C C') (JS : ∀ b, kZ T (J b) (J' b)) : kZ T (bk_26_0 d C J) (wk_26_0 d C' J') := (zz_la (zz_la (zz_gR (by decide) rfl (zz_ci (zz_ci (zz_Vv CS zz_rv))))))
theorem zm_26 (CS : kZC T C C') (J J' : Nat → kx_F) (JS : ∀ b, kZ T (J b) (J' b)) (b : Nat) : kZ T (bm_26 d C b J) (wm_26 d C' b J') := by
  unfold bm_26 wm_26
  cases h0 : Nat.beq b 0 with
  | true => exact zk_26_0 (d := d) CS JS
  | false =>
   exact zz_no
/-! TaskDesk$Task.waitIn(LTaskDesk$Row;II)V -/
def wk_27_0 (d : Nat) (C : kx_C) (J : Nat → kx_F) : kx_F := (kx_la 0 (kx_li 2 (wx_pI 6 3 (kx_la 0 (kx_li 3 (wx_pI 6 4 (kx_la 1 (kx_la 0 (wx_gR 6 1 4 (kx_Vv C 28 5 [6] kx_rv))))))))))
def wm_27 (d : Nat) (C : kx_C) (b : Nat) (J : Nat → kx_F) : kx_F := bif Nat.beq b 0 then wk_27_0 d C J else fun _ _ _ => none
theorem zk_27_0 (CS : kZC T C C') (JS : ∀ b, kZ T (J b) (J' b)) : kZ T (bk_27_0 d C J) (wk_27_0 d C' J') := (zz_la (zz_li (zz_pI (by decide) (zz_la (zz_li (zz_pI (by decide) (zz_la (zz_la (zz_gR (by decide) rfl (zz_Vv CS zz_rv))))))))))
theorem zm_27 (CS : kZC T C C') (J J' : Nat → kx_F) (JS : ∀ b, kZ T (J b) (J' b)) (b : Nat) : kZ T (bm_27 d C b J) (wm_27 d C' b J') := by
  unfold bm_27 wm_27
  cases h0 : Nat.beq b 0 with
  | true => exact zk_27_0 (d := d) CS JS
  | false =>
   exact zz_no
/-! TaskDesk$Row.append(LTaskDesk$Place;)V -/
def wk_28_0 (d : Nat) (C : kx_C) (J : Nat → kx_F) : kx_F := (kx_la 1 (kx_la 0 (wx_pR 4 5 5 (kx_la 1 (kx_la 0 (wx_gR 5 1 4 (wx_pR 4 6 4 (kx_la 0 (wx_gR 5 1 4 (kx_nnul (kx_la 0 (wx_gR 5 1 4 (kx_la 1 (wx_pR 4 7 4 (kx_nm [0, 1] (J 36)))))) (kx_la 0 (kx_la 1 (wx_pR 5 0 4 (kx_nm [0, 1] (J 36)))))))))))))))
def wk_28_36 (d : Nat) (C : kx_C) (J : Nat → kx_F) : kx_F := (kx_la 0 (kx_la 1 (wx_pR 5 1 4 (kx_la 0 (kx_dup (wx_gI 5 2 (kx_c (kx_i 1) (kx_ii (fun x y => x + y) (wx_pI 5 2 kx_rv)))))))))
def wm_28 (d : Nat) (C : kx_C) (b : Nat) (J : Nat → kx_F) : kx_F := bif Nat.beq b 0 then wk_28_0 d C J else bif Nat.beq b 36 then wk_28_36 d C J else fun _ _ _ => none
theorem zk_28_0 (CS : kZC T C C') (JS : ∀ b, kZ T (J b) (J' b)) : kZ T (bk_28_0 d C J) (wk_28_0 d C' J') := (zz_la (zz_la (zz_pR (by decide) rfl (zz_la (zz_la (zz_gR (by decide) rfl (zz_pR (by decide) rfl (zz_la (zz_gR (by decide) rfl (zz_nnul (zz_la (zz_gR (by decide) rfl (zz_la (zz_pR (by decide) rfl (zz_nm (JS 36)))))) (zz_la (zz_la (zz_pR (by decide) rfl (zz_nm (JS 36)))))))))))))))
theorem zk_28_36 (CS : kZC T C C') (JS : ∀ b, kZ T (J b) (J' b)) : kZ T (bk_28_36 d C J) (wk_28_36 d C' J') := (zz_la (zz_la (zz_pR (by decide) rfl (zz_la (zz_dup (zz_gI (by decide) (zz_ci (zz_ii (zz_pI (by decide) zz_rv)))))))))
theorem zm_28 (CS : kZC T C C') (J J' : Nat → kx_F) (JS : ∀ b, kZ T (J b) (J' b)) (b : Nat) : kZ T (bm_28 d C b J) (wm_28 d C' b J') := by
  unfold bm_28 wm_28
  cases h0 : Nat.beq b 0 with
  | true => exact zk_28_0 (d := d) CS JS
  | false =>
   cases h36 : Nat.beq b 36 with
   | true => exact zk_28_36 (d := d) CS JS
   | false =>
    exact zz_no
/-! TaskDesk.giveWay()I -/
def wk_29_0 (d : Nat) (C : kx_C) (J : Nat → kx_F) : kx_F := (kx_la 0 (kx_la 0 (kx_Vr C 24 0 [] 6 (kx_Vv C 26 0 [8] (kx_la 0 (kx_Vv C 30 0 [] (kx_la 0 (kx_Vi C 19 0 [] kx_ri))))))))
def wm_29 (d : Nat) (C : kx_C) (b : Nat) (J : Nat → kx_F) : kx_F := bif Nat.beq b 0 then wk_29_0 d C J else fun _ _ _ => none
theorem zk_29_0 (CS : kZC T C C') (JS : ∀ b, kZ T (J b) (J' b)) : kZ T (bk_29_0 d C J) (wk_29_0 d C' J') := (zz_la (zz_la (zz_Vr CS (zz_Vv CS (zz_la (zz_Vv CS (zz_la (zz_Vi CS zz_ri))))))))
theorem zm_29 (CS : kZC T C C') (J J' : Nat → kx_F) (JS : ∀ b, kZ T (J b) (J' b)) (b : Nat) : kZ T (bm_29 d C b J) (wm_29 d C' b J') := by
  unfold bm_29 wm_29
  cases h0 : Nat.beq b 0 with
  | true => exact zk_29_0 (d := d) CS JS
  | false =>
   exact zz_no
/-! TaskDesk.goOn()V -/
def wk_30_0 (d : Nat) (C : kx_C) (J : Nat → kx_F) : kx_F := (kx_la 0 (kx_c (kx_r 6 none) (wx_pR 0 3 6 (kx_la 0 (wx_gR 0 2 5 (wx_gR 5 0 4 (kx_nnul (kx_c (kx_i 0) (kx_nm [0] (J 20))) (kx_c (kx_i 1) (kx_nm [0] (J 20))))))))))
def wk_30_20 (d : Nat) (C : kx_C) (J : Nat → kx_F) : kx_F := (kx_si 1 (kx_c (kx_i 512) (kx_si 2 (kx_nm [0, 1, 2] (J 25)))))
def wk_30_25 (d : Nat) (C : kx_C) (J : Nat → kx_F) : kx_F := (kx_li 1 (kx_ifeq (kx_nm [0] (J 108)) (kx_li 2 (kx_ifle (kx_nm [0] (J 108)) (kx_la 0 (wx_gR 0 6 1 (kx_Vr C 31 1 [] 7 (kx_sa 3 (kx_la 3 (kx_nul (kx_nm [0, 2] (J 58)) (kx_la 0 (kx_la 3 (wx_gL 7 0 (wx_pL 0 5 (kx_la 0 (kx_la 3 (kx_Vv C 32 0 [9] (kx_nm [0, 2] (J 58)))))))))))))))))))
def wk_30_58 (d : Nat) (C : kx_C) (J : Nat → kx_F) : kx_F := (kx_la 0 (wx_gR 0 6 1 (wx_gR 1 0 7 (kx_nul (kx_nm [0, 2] (J 100)) (kx_la 0 (wx_gR 0 2 5 (wx_gR 5 0 4 (kx_nul (kx_nm [0, 2] (J 96)) (kx_la 0 (wx_gR 0 6 1 (wx_gR 1 0 7 (wx_gL 7 0 (kx_la 0 (wx_gL 0 5 (kx_lcmp (kx_ifne (kx_nm [0, 2] (J 100)) (kx_nm [0, 2] (J 96))))))))))))))))))
def wk_30_96 (d : Nat) (C : kx_C) (J : Nat → kx_F) : kx_F := (kx_c (kx_i 1) (kx_nm [0, 2] (J 101)))
def wk_30_100 (d : Nat) (C : kx_C) (J : Nat → kx_F) : kx_F := (kx_c (kx_i 0) (kx_nm [0, 2] (J 101)))
def wk_30_101 (d : Nat) (C : kx_C) (J : Nat → kx_F) : kx_F := (kx_si 1 (kx_inc 2 (-1) (kx_nm [0, 1, 2] (J 25))))
def wk_30_108 (d : Nat) (C : kx_C) (J : Nat → kx_F) : kx_F := (kx_la 0 (wx_gR 0 2 5 (wx_gR 5 0 4 (kx_sa 2 (kx_la 2 (kx_nul (kx_nm [0] (J 132)) (kx_la 2 (kx_Vv C 37 4 [] (kx_la 0 (kx_la 2 (wx_gR 4 0 6 (wx_pR 0 3 6 (kx_nm [0] (J 132))))))))))))))
def wk_30_132 (d : Nat) (C : kx_C) (J : Nat → kx_F) : kx_F := (kx_la 0 (wx_gR 0 3 6 (kx_nul (kx_nm [] (J 147)) (kx_la 0 (wx_gR 0 3 6 (kx_c (kx_i 0) (wx_pI 6 3 (kx_nm [] (J 147)))))))))
def wk_30_147 (d : Nat) (C : kx_C) (J : Nat → kx_F) : kx_F := kx_rv
def wm_30 (d : Nat) (C : kx_C) (b : Nat) (J : Nat → kx_F) : kx_F := bif Nat.beq b 0 then wk_30_0 d C J else bif Nat.beq b 20 then wk_30_20 d C J else bif Nat.beq b 25 then wk_30_25 d C J else bif Nat.beq b 58 then wk_30_58 d C J else bif Nat.beq b 96 then wk_30_96 d C J else bif Nat.beq b 100 then wk_30_100 d C J else bif Nat.beq b 101 then wk_30_101 d C J else bif Nat.beq b 108 then wk_30_108 d C J else bif Nat.beq b 132 then wk_30_132 d C J else bif Nat.beq b 147 then wk_30_147 d C J else fun _ _ _ => none
theorem zk_30_0 (CS : kZC T C C') (JS : ∀ b, kZ T (J b) (J' b)) : kZ T (bk_30_0 d C J) (wk_30_0 d C' J') := (zz_la (zz_cn (zz_pR (by decide) rfl (zz_la (zz_gR (by decide) rfl (zz_gR (by decide) rfl (zz_nnul (zz_ci (zz_nm (JS 20))) (zz_ci (zz_nm (JS 20))))))))))
theorem zk_30_20 (CS : kZC T C C') (JS : ∀ b, kZ T (J b) (J' b)) : kZ T (bk_30_20 d C J) (wk_30_20 d C' J') := (zz_si (zz_ci (zz_si (zz_nm (JS 25)))))
theorem zk_30_25 (CS : kZC T C C') (JS : ∀ b, kZ T (J b) (J' b)) : kZ T (bk_30_25 d C J) (wk_30_25 d C' J') := (zz_li (zz_ifeq (zz_nm (JS 108)) (zz_li (zz_ifle (zz_nm (JS 108)) (zz_la (zz_gR (by decide) rfl (zz_Vr CS (zz_sa (zz_la (zz_nul (zz_nm (JS 58)) (zz_la (zz_la (zz_gL (by decide) (zz_pL (by decide) (zz_la (zz_la (zz_Vv CS (zz_nm (JS 58)))))))))))))))))))
theorem zk_30_58 (CS : kZC T C C') (JS : ∀ b, kZ T (J b) (J' b)) : kZ T (bk_30_58 d C J) (wk_30_58 d C' J') := (zz_la (zz_gR (by decide) rfl (zz_gR (by decide) rfl (zz_nul (zz_nm (JS 100)) (zz_la (zz_gR (by decide) rfl (zz_gR (by decide) rfl (zz_nul (zz_nm (JS 96)) (zz_la (zz_gR (by decide) rfl (zz_gR (by decide) rfl (zz_gL (by decide) (zz_la (zz_gL (by decide) (zz_lcmp (zz_ifne (zz_nm (JS 100)) (zz_nm (JS 96))))))))))))))))))
theorem zk_30_96 (CS : kZC T C C') (JS : ∀ b, kZ T (J b) (J' b)) : kZ T (bk_30_96 d C J) (wk_30_96 d C' J') := (zz_ci (zz_nm (JS 101)))
theorem zk_30_100 (CS : kZC T C C') (JS : ∀ b, kZ T (J b) (J' b)) : kZ T (bk_30_100 d C J) (wk_30_100 d C' J') := (zz_ci (zz_nm (JS 101)))
theorem zk_30_101 (CS : kZC T C C') (JS : ∀ b, kZ T (J b) (J' b)) : kZ T (bk_30_101 d C J) (wk_30_101 d C' J') := (zz_si (zz_inc (zz_nm (JS 25))))
theorem zk_30_108 (CS : kZC T C C') (JS : ∀ b, kZ T (J b) (J' b)) : kZ T (bk_30_108 d C J) (wk_30_108 d C' J') := (zz_la (zz_gR (by decide) rfl (zz_gR (by decide) rfl (zz_sa (zz_la (zz_nul (zz_nm (JS 132)) (zz_la (zz_Vv CS (zz_la (zz_la (zz_gR (by decide) rfl (zz_pR (by decide) rfl (zz_nm (JS 132))))))))))))))
theorem zk_30_132 (CS : kZC T C C') (JS : ∀ b, kZ T (J b) (J' b)) : kZ T (bk_30_132 d C J) (wk_30_132 d C' J') := (zz_la (zz_gR (by decide) rfl (zz_nul (zz_nm (JS 147)) (zz_la (zz_gR (by decide) rfl (zz_ci (zz_pI (by decide) (zz_nm (JS 147)))))))))
theorem zk_30_147 (CS : kZC T C C') (JS : ∀ b, kZ T (J b) (J' b)) : kZ T (bk_30_147 d C J) (wk_30_147 d C' J') := zz_rv
theorem zm_30 (CS : kZC T C C') (J J' : Nat → kx_F) (JS : ∀ b, kZ T (J b) (J' b)) (b : Nat) : kZ T (bm_30 d C b J) (wm_30 d C' b J') := by
  unfold bm_30 wm_30
  cases h0 : Nat.beq b 0 with
  | true => exact zk_30_0 (d := d) CS JS
  | false =>
   cases h20 : Nat.beq b 20 with
   | true => exact zk_30_20 (d := d) CS JS
   | false =>
    cases h25 : Nat.beq b 25 with
    | true => exact zk_30_25 (d := d) CS JS
    | false =>
     cases h58 : Nat.beq b 58 with
     | true => exact zk_30_58 (d := d) CS JS
     | false =>
      cases h96 : Nat.beq b 96 with
      | true => exact zk_30_96 (d := d) CS JS
      | false =>
       cases h100 : Nat.beq b 100 with
       | true => exact zk_30_100 (d := d) CS JS
       | false =>
        cases h101 : Nat.beq b 101 with
        | true => exact zk_30_101 (d := d) CS JS
        | false =>
         cases h108 : Nat.beq b 108 with
         | true => exact zk_30_108 (d := d) CS JS
         | false =>
          cases h132 : Nat.beq b 132 with
          | true => exact zk_30_132 (d := d) CS JS
          | false =>
           cases h147 : Nat.beq b 147 with
           | true => exact zk_30_147 (d := d) CS JS
           | false =>
            exact zz_no
/-! TaskDesk$Agenda.takeFirst()LTaskDesk$Timer; -/
def wk_31_0 (d : Nat) (C : kx_C) (J : Nat → kx_F) : kx_F := (kx_la 0 (wx_gR 1 0 7 (kx_sa 1 (kx_la 1 (kx_nul (kx_nm [1] (J 30)) (kx_la 0 (kx_la 1 (wx_gR 7 3 7 (wx_pR 1 0 7 (kx_la 1 (kx_la 0 (wx_gR 1 1 7 (wx_pR 7 3 7 (kx_la 0 (kx_la 1 (wx_pR 1 1 7 (kx_nm [1] (J 30))))))))))))))))))
def wk_31_30 (d : Nat) (C : kx_C) (J : Nat → kx_F) : kx_F := (kx_la 1 kx_rr)
def wm_31 (d : Nat) (C : kx_C) (b : Nat) (J : Nat → kx_F) : kx_F := bif Nat.beq b 0 then wk_31_0 d C J else bif Nat.beq b 30 then wk_31_30 d C J else fun _ _ _ => none
theorem zk_31_0 (CS : kZC T C C') (JS : ∀ b, kZ T (J b) (J' b)) : kZ T (bk_31_0 d C J) (wk_31_0 d C' J') := (zz_la (zz_gR (by decide) rfl (zz_sa (zz_la (zz_nul (zz_nm (JS 30)) (zz_la (zz_la (zz_gR (by decide) rfl (zz_pR (by decide) rfl (zz_la (zz_la (zz_gR (by decide) rfl (zz_pR (by decide) rfl (zz_la (zz_la (zz_pR (by decide) rfl (zz_nm (JS 30))))))))))))))))))
theorem zk_31_30 (CS : kZC T C C') (JS : ∀ b, kZ T (J b) (J' b)) : kZ T (bk_31_30 d C J) (wk_31_30 d C' J') := (zz_la zz_rr)
theorem zm_31 (CS : kZC T C C') (J J' : Nat → kx_F) (JS : ∀ b, kZ T (J b) (J' b)) (b : Nat) : kZ T (bm_31 d C b J) (wm_31 d C' b J') := by
  unfold bm_31 wm_31
  cases h0 : Nat.beq b 0 with
  | true => exact zk_31_0 (d := d) CS JS
  | false =>
   cases h30 : Nat.beq b 30 with
   | true => exact zk_31_30 (d := d) CS JS
   | false =>
    exact zz_no
/-! TaskDesk.ring(LTaskDesk$Timer;)V -/
def wk_32_0 (d : Nat) (C : kx_C) (J : Nat → kx_F) : kx_F := (kx_la 1 (wx_gR 7 1 6 (kx_nul (kx_nm [0, 1] (J 15)) (kx_la 0 (kx_la 1 (wx_gR 7 1 6 (kx_Vv C 26 0 [8] (kx_nm [0, 1] (J 15)))))))))
def wk_32_15 (d : Nat) (C : kx_C) (J : Nat → kx_F) : kx_F := (kx_la 1 (wx_gR 7 2 2 (kx_sa 2 (kx_la 2 (kx_nul (kx_nm [] (J 61)) (kx_la 2 (kx_dup (wx_gI 2 7 (kx_c (kx_i 1) (kx_ii (fun x y => x - y) (wx_pI 2 7 (kx_la 0 (kx_dup (wx_gI 0 7 (kx_c (kx_i 1) (kx_ii (fun x y => x - y) (wx_pI 0 7 (kx_la 0 (kx_la 2 (kx_Vi C 33 0 [4] (kx_ifeq (kx_nm [] (J 61)) (kx_la 0 (kx_la 2 (kx_la 0 (wx_gL 0 5 (kx_Vv C 34 0 [4, 1] (kx_nm [] (J 61))))))))))))))))))))))))))))
def wk_32_61 (d : Nat) (C : kx_C) (J : Nat → kx_F) : kx_F := kx_rv
def wm_32 (d : Nat) (C : kx_C) (b : Nat) (J : Nat → kx_F) : kx_F := bif Nat.beq b 0 then wk_32_0 d C J else bif Nat.beq b 15 then wk_32_15 d C J else bif Nat.beq b 61 then wk_32_61 d C J else fun _ _ _ => none
theorem zk_32_0 (CS : kZC T C C') (JS : ∀ b, kZ T (J b) (J' b)) : kZ T (bk_32_0 d C J) (wk_32_0 d C' J') := (zz_la (zz_gR (by decide) rfl (zz_nul (zz_nm (JS 15)) (zz_la (zz_la (zz_gR (by decide) rfl (zz_Vv CS (zz_nm (JS 15)))))))))
theorem zk_32_15 (CS : kZC T C C') (JS : ∀ b, kZ T (J b) (J' b)) : kZ T (bk_32_15 d C J) (wk_32_15 d C' J') := (zz_la (zz_gR (by decide) rfl (zz_sa (zz_la (zz_nul (zz_nm (JS 61)) (zz_la (zz_dup (zz_gI (by decide) (zz_ci (zz_ii (zz_pI (by decide) (zz_la (zz_dup (zz_gI (by decide) (zz_ci (zz_ii (zz_pI (by decide) (zz_la (zz_la (zz_Vi CS (zz_ifeq (zz_nm (JS 61)) (zz_la (zz_la (zz_la (zz_gL (by decide) (zz_Vv CS (zz_nm (JS 61))))))))))))))))))))))))))))
theorem zk_32_61 (CS : kZC T C C') (JS : ∀ b, kZ T (J b) (J' b)) : kZ T (bk_32_61 d C J) (wk_32_61 d C' J') := zz_rv
theorem zm_32 (CS : kZC T C C') (J J' : Nat → kx_F) (JS : ∀ b, kZ T (J b) (J' b)) (b : Nat) : kZ T (bm_32 d C b J) (wm_32 d C' b J') := by
  unfold bm_32 wm_32
  cases h0 : Nat.beq b 0 with
  | true => exact zk_32_0 (d := d) CS JS
  | false =>
   cases h15 : Nat.beq b 15 with
   | true => exact zk_32_15 (d := d) CS JS
   | false =>
    cases h61 : Nat.beq b 61 with
    | true => exact zk_32_61 (d := d) CS JS
    | false =>
     exact zz_no
/-! TaskDesk.takesAtOnce(LTaskDesk$Channel;)Z -/
def wk_33_0 (d : Nat) (C : kx_C) (J : Nat → kx_F) : kx_F := (kx_la 1 (wx_gR 2 2 5 (wx_gR 5 0 4 (kx_nnul (kx_nm [0, 1] (J 21)) (kx_la 1 (wx_gI 2 6 (kx_la 1 (wx_gI 2 5 (kx_cge (kx_c (kx_i 0) (kx_nm [0, 1] (J 26))) (kx_nm [0, 1] (J 21)))))))))))
def wk_33_21 (d : Nat) (C : kx_C) (J : Nat → kx_F) : kx_F := (kx_c (kx_i 1) (kx_nm [0, 1] (J 26)))
def wk_33_26 (d : Nat) (C : kx_C) (J : Nat → kx_F) : kx_F := (kx_si 2 (kx_la 1 (kx_la 0 (wx_gR 0 9 2 (kx_aeq (kx_nm [] (J 50)) (kx_la 1 (wx_gB 2 4 (kx_ifne (kx_nm [] (J 50)) (kx_li 2 (kx_ifeq (kx_nm [] (J 50)) (kx_c (kx_i 1) (kx_nm [] (J 51)))))))))))))
def wk_33_50 (d : Nat) (C : kx_C) (J : Nat → kx_F) : kx_F := (kx_c (kx_i 0) (kx_nm [] (J 51)))
def wk_33_51 (d : Nat) (C : kx_C) (J : Nat → kx_F) : kx_F := kx_rz
def wm_33 (d : Nat) (C : kx_C) (b : Nat) (J : Nat → kx_F) : kx_F := bif Nat.beq b 0 then wk_33_0 d C J else bif Nat.beq b 21 then wk_33_21 d C J else bif Nat.beq b 26 then wk_33_26 d C J else bif Nat.beq b 50 then wk_33_50 d C J else bif Nat.beq b 51 then wk_33_51 d C J else fun _ _ _ => none
theorem zk_33_0 (CS : kZC T C C') (JS : ∀ b, kZ T (J b) (J' b)) : kZ T (bk_33_0 d C J) (wk_33_0 d C' J') := (zz_la (zz_gR (by decide) rfl (zz_gR (by decide) rfl (zz_nnul (zz_nm (JS 21)) (zz_la (zz_gI (by decide) (zz_la (zz_gI (by decide) (zz_cge (zz_ci (zz_nm (JS 26))) (zz_nm (JS 21)))))))))))
theorem zk_33_21 (CS : kZC T C C') (JS : ∀ b, kZ T (J b) (J' b)) : kZ T (bk_33_21 d C J) (wk_33_21 d C' J') := (zz_ci (zz_nm (JS 26)))
theorem zk_33_26 (CS : kZC T C C') (JS : ∀ b, kZ T (J b) (J' b)) : kZ T (bk_33_26 d C J) (wk_33_26 d C' J') := (zz_si (zz_la (zz_la (zz_gR (by decide) rfl (zz_aeq (zz_nm (JS 50)) (zz_la (zz_gB (by decide) (zz_ifne (zz_nm (JS 50)) (zz_li (zz_ifeq (zz_nm (JS 50)) (zz_ci (zz_nm (JS 51)))))))))))))
theorem zk_33_50 (CS : kZC T C C') (JS : ∀ b, kZ T (J b) (J' b)) : kZ T (bk_33_50 d C J) (wk_33_50 d C' J') := (zz_ci (zz_nm (JS 51)))
theorem zk_33_51 (CS : kZC T C C') (JS : ∀ b, kZ T (J b) (J' b)) : kZ T (bk_33_51 d C J) (wk_33_51 d C' J') := zz_rz
theorem zm_33 (CS : kZC T C C') (J J' : Nat → kx_F) (JS : ∀ b, kZ T (J b) (J' b)) (b : Nat) : kZ T (bm_33 d C b J) (wm_33 d C' b J') := by
  unfold bm_33 wm_33
  cases h0 : Nat.beq b 0 with
  | true => exact zk_33_0 (d := d) CS JS
  | false =>
   cases h21 : Nat.beq b 21 with
   | true => exact zk_33_21 (d := d) CS JS
   | false =>
    cases h26 : Nat.beq b 26 with
    | true => exact zk_33_26 (d := d) CS JS
    | false =>
     cases h50 : Nat.beq b 50 with
     | true => exact zk_33_50 (d := d) CS JS
     | false =>
      cases h51 : Nat.beq b 51 with
      | true => exact zk_33_51 (d := d) CS JS
      | false =>
       exact zz_no
/-! TaskDesk.pass(LTaskDesk$Channel;J)V -/
def wk_34_0 (d : Nat) (C : kx_C) (J : Nat → kx_F) : kx_F := (kx_la 1 (wx_gR 2 2 5 (wx_gR 5 0 4 (kx_sa 4 (kx_la 4 (kx_nul (kx_la 0 (kx_la 1 (kx_ll 2 (kx_Vv C 38 0 [4, 1] (kx_nm [] (J 32)))))) (kx_la 0 (kx_la 4 (kx_ll 2 (kx_c (kx_i 1) (kx_c (kx_i 0) (kx_Vv C 35 0 [6, 1, 0, 0] (kx_nm [] (J 32))))))))))))))
def wk_34_32 (d : Nat) (C : kx_C) (J : Nat → kx_F) : kx_F := kx_rv
def wm_34 (d : Nat) (C : kx_C) (b : Nat) (J : Nat → kx_F) : kx_F := bif Nat.beq b 0 then wk_34_0 d C J else bif Nat.beq b 32 then wk_34_32 d C J else fun _ _ _ => none
theorem zk_34_0 (CS : kZC T C C') (JS : ∀ b, kZ T (J b) (J' b)) : kZ T (bk_34_0 d C J) (wk_34_0 d C' J') := (zz_la (zz_gR (by decide) rfl (zz_gR (by decide) rfl (zz_sa (zz_la (zz_nul (zz_la (zz_la (zz_ll (zz_Vv CS (zz_nm (JS 32)))))) (zz_la (zz_la (zz_ll (zz_ci (zz_ci (zz_Vv CS (zz_nm (JS 32))))))))))))))
theorem zk_34_32 (CS : kZC T C C') (JS : ∀ b, kZ T (J b) (J' b)) : kZ T (bk_34_32 d C J) (wk_34_32 d C' J') := zz_rv
theorem zm_34 (CS : kZC T C C') (J J' : Nat → kx_F) (JS : ∀ b, kZ T (J b) (J' b)) (b : Nat) : kZ T (bm_34 d C b J) (wm_34 d C' b J') := by
  unfold bm_34 wm_34
  cases h0 : Nat.beq b 0 with
  | true => exact zk_34_0 (d := d) CS JS
  | false =>
   cases h32 : Nat.beq b 32 with
   | true => exact zk_34_32 (d := d) CS JS
   | false =>
    exact zz_no
/-! TaskDesk.wake(LTaskDesk$Place;JZZ)V -/
def wk_35_0 (d : Nat) (C : kx_C) (J : Nat → kx_F) : kx_F := (kx_la 1 (wx_gR 4 0 6 (kx_sa 6 (kx_la 6 (kx_nul (kx_nm [] (J 42)) (kx_la 6 (kx_ll 2 (kx_li 4 (kx_la 1 (wx_gI 4 4 (kx_li 5 (kx_Vv C 12 6 [1, 0, 0, 0] (kx_la 0 (kx_la 6 (kx_Vv C 36 0 [8] (kx_la 6 (kx_la 0 (wx_gR 0 2 5 (kx_c (kx_i 1) (kx_c (kx_i (-1)) (kx_Vv C 27 6 [7, 0, 0] (kx_nm [] (J 42)))))))))))))))))))))))
def wk_35_42 (d : Nat) (C : kx_C) (J : Nat → kx_F) : kx_F := kx_rv
def wm_35 (d : Nat) (C : kx_C) (b : Nat) (J : Nat → kx_F) : kx_F := bif Nat.beq b 0 then wk_35_0 d C J else bif Nat.beq b 42 then wk_35_42 d C J else fun _ _ _ => none
theorem zk_35_0 (CS : kZC T C C') (JS : ∀ b, kZ T (J b) (J' b)) : kZ T (bk_35_0 d C J) (wk_35_0 d C' J') := (zz_la (zz_gR (by decide) rfl (zz_sa (zz_la (zz_nul (zz_nm (JS 42)) (zz_la (zz_ll (zz_li (zz_la (zz_gI (by decide) (zz_li (zz_Vv CS (zz_la (zz_la (zz_Vv CS (zz_la (zz_la (zz_gR (by decide) rfl (zz_ci (zz_ci (zz_Vv CS (zz_nm (JS 42)))))))))))))))))))))))
theorem zk_35_42 (CS : kZC T C C') (JS : ∀ b, kZ T (J b) (J' b)) : kZ T (bk_35_42 d C J) (wk_35_42 d C' J') := zz_rv
theorem zm_35 (CS : kZC T C C') (J J' : Nat → kx_F) (JS : ∀ b, kZ T (J b) (J' b)) (b : Nat) : kZ T (bm_35 d C b J) (wm_35 d C' b J') := by
  unfold bm_35 wm_35
  cases h0 : Nat.beq b 0 with
  | true => exact zk_35_0 (d := d) CS JS
  | false =>
   cases h42 : Nat.beq b 42 with
   | true => exact zk_35_42 (d := d) CS JS
   | false =>
    exact zz_no
/-! TaskDesk.takeOut(LTaskDesk$Task;)V -/
def wk_36_0 (d : Nat) (C : kx_C) (J : Nat → kx_F) : kx_F := (kx_la 1 (wx_gR 6 1 4 (kx_Vv C 37 4 [] (kx_la 1 (wx_gR 6 5 4 (kx_sa 2 (kx_la 1 (kx_c (kx_r 4 none) (wx_pR 6 5 4 (kx_c (kx_i 16) (kx_si 3 (kx_nm [0, 2, 3] (J 20)))))))))))))
def wk_36_20 (d : Nat) (C : kx_C) (J : Nat → kx_F) : kx_F := (kx_li 3 (kx_ifle (kx_nm [] (J 52)) (kx_la 2 (kx_nul (kx_nm [] (J 52)) (kx_la 2 (wx_gR 4 8 4 (kx_sa 4 (kx_la 2 (kx_Vv C 37 4 [] (kx_la 0 (kx_la 2 (kx_Vv C 10 0 [6] (kx_la 4 (kx_sa 2 (kx_inc 3 (-1) (kx_nm [0, 2, 3] (J 20)))))))))))))))))
def wk_36_52 (d : Nat) (C : kx_C) (J : Nat → kx_F) : kx_F := kx_rv
def wm_36 (d : Nat) (C : kx_C) (b : Nat) (J : Nat → kx_F) : kx_F := bif Nat.beq b 0 then wk_36_0 d C J else bif Nat.beq b 20 then wk_36_20 d C J else bif Nat.beq b 52 then wk_36_52 d C J else fun _ _ _ => none
theorem zk_36_0 (CS : kZC T C C') (JS : ∀ b, kZ T (J b) (J' b)) : kZ T (bk_36_0 d C J) (wk_36_0 d C' J') := (zz_la (zz_gR (by decide) rfl (zz_Vv CS (zz_la (zz_gR (by decide) rfl (zz_sa (zz_la (zz_cn (zz_pR (by decide) rfl (zz_ci (zz_si (zz_nm (JS 20)))))))))))))
theorem zk_36_20 (CS : kZC T C C') (JS : ∀ b, kZ T (J b) (J' b)) : kZ T (bk_36_20 d C J) (wk_36_20 d C' J') := (zz_li (zz_ifle (zz_nm (JS 52)) (zz_la (zz_nul (zz_nm (JS 52)) (zz_la (zz_gR (by decide) rfl (zz_sa (zz_la (zz_Vv CS (zz_la (zz_la (zz_Vv CS (zz_la (zz_sa (zz_inc (zz_nm (JS 20)))))))))))))))))
theorem zk_36_52 (CS : kZC T C C') (JS : ∀ b, kZ T (J b) (J' b)) : kZ T (bk_36_52 d C J) (wk_36_52 d C' J') := zz_rv
theorem zm_36 (CS : kZC T C C') (J J' : Nat → kx_F) (JS : ∀ b, kZ T (J b) (J' b)) (b : Nat) : kZ T (bm_36 d C b J) (wm_36 d C' b J') := by
  unfold bm_36 wm_36
  cases h0 : Nat.beq b 0 with
  | true => exact zk_36_0 (d := d) CS JS
  | false =>
   cases h20 : Nat.beq b 20 with
   | true => exact zk_36_20 (d := d) CS JS
   | false =>
    cases h52 : Nat.beq b 52 with
    | true => exact zk_36_52 (d := d) CS JS
    | false =>
     exact zz_no
/-! TaskDesk$Place.stepOut()V -/
def wk_37_0 (d : Nat) (C : kx_C) (J : Nat → kx_F) : kx_F := (kx_la 0 (wx_gR 4 5 5 (kx_nnul (kx_la 0 (wx_gR 4 6 4 (kx_nnul (kx_la 0 (wx_gR 4 6 4 (kx_la 0 (wx_gR 4 7 4 (wx_pR 4 7 4 (kx_nm [0] (J 40))))))) (kx_la 0 (wx_gR 4 5 5 (kx_la 0 (wx_gR 4 7 4 (wx_pR 5 0 4 (kx_nm [0] (J 40)))))))))) kx_rv)))
def wk_37_40 (d : Nat) (C : kx_C) (J : Nat → kx_F) : kx_F := (kx_la 0 (wx_gR 4 7 4 (kx_nnul (kx_la 0 (wx_gR 4 7 4 (kx_la 0 (wx_gR 4 6 4 (wx_pR 4 6 4 (kx_nm [0] (J 72))))))) (kx_la 0 (wx_gR 4 5 5 (kx_la 0 (wx_gR 4 6 4 (wx_pR 5 1 4 (kx_nm [0] (J 72))))))))))
def wk_37_72 (d : Nat) (C : kx_C) (J : Nat → kx_F) : kx_F := (kx_la 0 (wx_gR 4 5 5 (kx_dup (wx_gI 5 2 (kx_c (kx_i 1) (kx_ii (fun x y => x - y) (wx_pI 5 2 (kx_la 0 (kx_c (kx_r 5 none) (wx_pR 4 5 5 (kx_la 0 (kx_c (kx_r 4 none) (wx_pR 4 6 4 (kx_la 0 (kx_c (kx_r 4 none) (wx_pR 4 7 4 kx_rv))))))))))))))))
def wm_37 (d : Nat) (C : kx_C) (b : Nat) (J : Nat → kx_F) : kx_F := bif Nat.beq b 0 then wk_37_0 d C J else bif Nat.beq b 40 then wk_37_40 d C J else bif Nat.beq b 72 then wk_37_72 d C J else fun _ _ _ => none
theorem zk_37_0 (CS : kZC T C C') (JS : ∀ b, kZ T (J b) (J' b)) : kZ T (bk_37_0 d C J) (wk_37_0 d C' J') := (zz_la (zz_gR (by decide) rfl (zz_nnul (zz_la (zz_gR (by decide) rfl (zz_nnul (zz_la (zz_gR (by decide) rfl (zz_la (zz_gR (by decide) rfl (zz_pR (by decide) rfl (zz_nm (JS 40))))))) (zz_la (zz_gR (by decide) rfl (zz_la (zz_gR (by decide) rfl (zz_pR (by decide) rfl (zz_nm (JS 40)))))))))) zz_rv)))
theorem zk_37_40 (CS : kZC T C C') (JS : ∀ b, kZ T (J b) (J' b)) : kZ T (bk_37_40 d C J) (wk_37_40 d C' J') := (zz_la (zz_gR (by decide) rfl (zz_nnul (zz_la (zz_gR (by decide) rfl (zz_la (zz_gR (by decide) rfl (zz_pR (by decide) rfl (zz_nm (JS 72))))))) (zz_la (zz_gR (by decide) rfl (zz_la (zz_gR (by decide) rfl (zz_pR (by decide) rfl (zz_nm (JS 72))))))))))
theorem zk_37_72 (CS : kZC T C C') (JS : ∀ b, kZ T (J b) (J' b)) : kZ T (bk_37_72 d C J) (wk_37_72 d C' J') := (zz_la (zz_gR (by decide) rfl (zz_dup (zz_gI (by decide) (zz_ci (zz_ii (zz_pI (by decide) (zz_la (zz_cn (zz_pR (by decide) rfl (zz_la (zz_cn (zz_pR (by decide) rfl (zz_la (zz_cn (zz_pR (by decide) rfl zz_rv))))))))))))))))
theorem zm_37 (CS : kZC T C C') (J J' : Nat → kx_F) (JS : ∀ b, kZ T (J b) (J' b)) (b : Nat) : kZ T (bm_37 d C b J) (wm_37 d C' b J') := by
  unfold bm_37 wm_37
  cases h0 : Nat.beq b 0 with
  | true => exact zk_37_0 (d := d) CS JS
  | false =>
   cases h40 : Nat.beq b 40 with
   | true => exact zk_37_40 (d := d) CS JS
   | false =>
    cases h72 : Nat.beq b 72 with
    | true => exact zk_37_72 (d := d) CS JS
    | false =>
     exact zz_no
/-! TaskDesk.putValue(LTaskDesk$Channel;J)V -/
def wk_38_0 (d : Nat) (C : kx_C) (J : Nat → kx_F) : kx_F := (kx_la 0 (wx_gR 0 12 8 (kx_sa 4 (kx_la 4 (kx_nul (kx_nm [] (J 32)) (kx_la 0 (kx_la 4 (wx_gR 8 1 8 (wx_pR 0 12 8 (kx_la 4 (kx_ll 2 (wx_pL 8 0 (kx_la 1 (kx_la 4 (kx_Vv C 39 2 [10] (kx_nm [] (J 32)))))))))))))))))
def wk_38_32 (d : Nat) (C : kx_C) (J : Nat → kx_F) : kx_F := kx_rv
def wm_38 (d : Nat) (C : kx_C) (b : Nat) (J : Nat → kx_F) : kx_F := bif Nat.beq b 0 then wk_38_0 d C J else bif Nat.beq b 32 then wk_38_32 d C J else fun _ _ _ => none
theorem zk_38_0 (CS : kZC T C C') (JS : ∀ b, kZ T (J b) (J' b)) : kZ T (bk_38_0 d C J) (wk_38_0 d C' J') := (zz_la (zz_gR (by decide) rfl (zz_sa (zz_la (zz_nul (zz_nm (JS 32)) (zz_la (zz_la (zz_gR (by decide) rfl (zz_pR (by decide) rfl (zz_la (zz_ll (zz_pL (by decide) (zz_la (zz_la (zz_Vv CS (zz_nm (JS 32)))))))))))))))))
theorem zk_38_32 (CS : kZC T C C') (JS : ∀ b, kZ T (J b) (J' b)) : kZ T (bk_38_32 d C J) (wk_38_32 d C' J') := zz_rv
theorem zm_38 (CS : kZC T C C') (J J' : Nat → kx_F) (JS : ∀ b, kZ T (J b) (J' b)) (b : Nat) : kZ T (bm_38 d C b J) (wm_38 d C' b J') := by
  unfold bm_38 wm_38
  cases h0 : Nat.beq b 0 with
  | true => exact zk_38_0 (d := d) CS JS
  | false =>
   cases h32 : Nat.beq b 32 with
   | true => exact zk_38_32 (d := d) CS JS
   | false =>
    exact zz_no
/-! TaskDesk$Channel.append(LTaskDesk$Value;)V -/
def wk_39_0 (d : Nat) (C : kx_C) (J : Nat → kx_F) : kx_F := (kx_la 1 (kx_c (kx_r 8 none) (wx_pR 8 1 8 (kx_la 0 (wx_gR 2 9 8 (kx_nnul (kx_la 0 (wx_gR 2 9 8 (kx_la 1 (wx_pR 8 1 8 (kx_nm [0, 1] (J 28)))))) (kx_la 0 (kx_la 1 (wx_pR 2 8 8 (kx_nm [0, 1] (J 28)))))))))))
def wk_39_28 (d : Nat) (C : kx_C) (J : Nat → kx_F) : kx_F := (kx_la 0 (kx_la 1 (wx_pR 2 9 8 (kx_la 0 (kx_dup (wx_gI 2 6 (kx_c (kx_i 1) (kx_ii (fun x y => x + y) (wx_pI 2 6 kx_rv)))))))))
def wm_39 (d : Nat) (C : kx_C) (b : Nat) (J : Nat → kx_F) : kx_F := bif Nat.beq b 0 then wk_39_0 d C J else bif Nat.beq b 28 then wk_39_28 d C J else fun _ _ _ => none
theorem zk_39_0 (CS : kZC T C C') (JS : ∀ b, kZ T (J b) (J' b)) : kZ T (bk_39_0 d C J) (wk_39_0 d C' J') := (zz_la (zz_cn (zz_pR (by decide) rfl (zz_la (zz_gR (by decide) rfl (zz_nnul (zz_la (zz_gR (by decide) rfl (zz_la (zz_pR (by decide) rfl (zz_nm (JS 28)))))) (zz_la (zz_la (zz_pR (by decide) rfl (zz_nm (JS 28)))))))))))
theorem zk_39_28 (CS : kZC T C C') (JS : ∀ b, kZ T (J b) (J' b)) : kZ T (bk_39_28 d C J) (wk_39_28 d C' J') := (zz_la (zz_la (zz_pR (by decide) rfl (zz_la (zz_dup (zz_gI (by decide) (zz_ci (zz_ii (zz_pI (by decide) zz_rv)))))))))
theorem zm_39 (CS : kZC T C C') (J J' : Nat → kx_F) (JS : ∀ b, kZ T (J b) (J' b)) (b : Nat) : kZ T (bm_39 d C b J) (wm_39 d C' b J') := by
  unfold bm_39 wm_39
  cases h0 : Nat.beq b 0 with
  | true => exact zk_39_0 (d := d) CS JS
  | false =>
   cases h28 : Nat.beq b 28 with
   | true => exact zk_39_28 (d := d) CS JS
   | false =>
    exact zz_no
/-! TaskDesk.finish()I -/
def wk_40_0 (d : Nat) (C : kx_C) (J : Nat → kx_F) : kx_F := (kx_la 0 (kx_Vr C 24 0 [] 6 (kx_sa 1 (kx_la 1 (wx_gI 6 0 (kx_ifne (kx_la 1 (kx_c (kx_i 0) (wx_pB 6 2 (kx_la 0 (kx_dup (wx_gI 0 1 (kx_c (kx_i 1) (kx_ii (fun x y => x - y) (wx_pI 0 1 (kx_la 0 (kx_Vv C 30 0 [] (kx_nm [0] (J 38))))))))))))) (kx_la 0 (kx_Vv C 41 0 [] (kx_nm [0] (J 38))))))))))
def wk_40_38 (d : Nat) (C : kx_C) (J : Nat → kx_F) : kx_F := (kx_la 0 (kx_Vi C 19 0 [] kx_ri))
def wm_40 (d : Nat) (C : kx_C) (b : Nat) (J : Nat → kx_F) : kx_F := bif Nat.beq b 0 then wk_40_0 d C J else bif Nat.beq b 38 then wk_40_38 d C J else fun _ _ _ => none
theorem zk_40_0 (CS : kZC T C C') (JS : ∀ b, kZ T (J b) (J' b)) : kZ T (bk_40_0 d C J) (wk_40_0 d C' J') := (zz_la (zz_Vr CS (zz_sa (zz_la (zz_gI (by decide) (zz_ifne (zz_la (zz_ci (zz_pB (by decide) (zz_la (zz_dup (zz_gI (by decide) (zz_ci (zz_ii (zz_pI (by decide) (zz_la (zz_Vv CS (zz_nm (JS 38))))))))))))) (zz_la (zz_Vv CS (zz_nm (JS 38))))))))))
theorem zk_40_38 (CS : kZC T C C') (JS : ∀ b, kZ T (J b) (J' b)) : kZ T (bk_40_38 d C J) (wk_40_38 d C' J') := (zz_la (zz_Vi CS zz_ri))
theorem zm_40 (CS : kZC T C C') (J J' : Nat → kx_F) (JS : ∀ b, kZ T (J b) (J' b)) (b : Nat) : kZ T (bm_40 d C b J) (wm_40 d C' b J') := by
  unfold bm_40 wm_40
  cases h0 : Nat.beq b 0 with
  | true => exact zk_40_0 (d := d) CS JS
  | false =>
   cases h38 : Nat.beq b 38 with
   | true => exact zk_40_38 (d := d) CS JS
   | false =>
    exact zz_no
/-! TaskDesk.endAll()V -/
def wk_41_0 (d : Nat) (C : kx_C) (J : Nat → kx_F) : kx_F := (kx_c (kx_i 0) (kx_si 1 (kx_nm [0, 1] (J 2))))
def wk_41_2 (d : Nat) (C : kx_C) (J : Nat → kx_F) : kx_F := (kx_li 1 (kx_c (kx_i 256) (kx_cge (kx_la 0 (kx_c (kx_i 0) (wx_pI 0 1 (kx_la 0 (kx_c (kx_r 6 none) (wx_pR 0 3 6 (kx_la 0 (kx_c (kx_i 1) (wx_pB 0 4 kx_rv))))))))) (kx_la 0 (kx_la 0 (wx_gR 0 0 102 (kx_li 1 (wx_aR 102 6 (kx_Vv C 36 0 [8] (kx_la 0 (wx_gR 0 0 102 (kx_li 1 (wx_aR 102 6 (kx_c (kx_i 0) (wx_pB 6 2 (kx_inc 1 1 (kx_nm [0, 1] (J 2))))))))))))))))))
def wm_41 (d : Nat) (C : kx_C) (b : Nat) (J : Nat → kx_F) : kx_F := bif Nat.beq b 0 then wk_41_0 d C J else bif Nat.beq b 2 then wk_41_2 d C J else fun _ _ _ => none
theorem zk_41_0 (CS : kZC T C C') (JS : ∀ b, kZ T (J b) (J' b)) : kZ T (bk_41_0 d C J) (wk_41_0 d C' J') := (zz_ci (zz_si (zz_nm (JS 2))))
theorem zk_41_2 (CS : kZC T C C') (JS : ∀ b, kZ T (J b) (J' b)) : kZ T (bk_41_2 d C J) (wk_41_2 d C' J') := (zz_li (zz_ci (zz_cge (zz_la (zz_ci (zz_pI (by decide) (zz_la (zz_cn (zz_pR (by decide) rfl (zz_la (zz_ci (zz_pB (by decide) zz_rv))))))))) (zz_la (zz_la (zz_gR (by decide) rfl (zz_li (zz_aR (by decide) rfl (zz_Vv CS (zz_la (zz_gR (by decide) rfl (zz_li (zz_aR (by decide) rfl (zz_ci (zz_pB (by decide) (zz_inc (zz_nm (JS 2))))))))))))))))))
theorem zm_41 (CS : kZC T C C') (J J' : Nat → kx_F) (JS : ∀ b, kZ T (J b) (J' b)) (b : Nat) : kZ T (bm_41 d C b J) (wm_41 d C' b J') := by
  unfold bm_41 wm_41
  cases h0 : Nat.beq b 0 with
  | true => exact zk_41_0 (d := d) CS JS
  | false =>
   cases h2 : Nat.beq b 2 with
   | true => exact zk_41_2 (d := d) CS JS
   | false =>
    exact zz_no
/-! TaskDesk.sleep(J)I -/
def wk_42_0 (d : Nat) (C : kx_C) (J : Nat → kx_F) : kx_F := (kx_ll 1 (kx_c (kx_l 1000000000) (kx_lcmp (kx_ifle (kx_la 0 (kx_Vr C 24 0 [] 6 (kx_sa 3 (kx_ll 1 (kx_c (kx_l 0) (kx_lcmp (kx_ifgt (kx_la 3 (kx_c (kx_i 5) (wx_pI 6 3 (kx_la 0 (wx_gR 0 6 1 (kx_la 0 (wx_gL 0 5 (kx_ll 1 (kx_jj (fun x y => x + y) (kx_la 3 (kx_c (kx_r 2 none) (kx_Vv C 43 1 [1, 8, 4] (kx_nm [0] (J 57)))))))))))))) (kx_la 0 (kx_la 3 (kx_Vv C 26 0 [8] (kx_nm [0] (J 57)))))))))))) (kx_thd kx_cc kx_cs d 1)))))
def wk_42_57 (d : Nat) (C : kx_C) (J : Nat → kx_F) : kx_F := (kx_la 0 (kx_Vv C 30 0 [] (kx_la 0 (kx_Vi C 19 0 [] kx_ri))))
def wm_42 (d : Nat) (C : kx_C) (b : Nat) (J : Nat → kx_F) : kx_F := bif Nat.beq b 0 then wk_42_0 d C J else bif Nat.beq b 57 then wk_42_57 d C J else fun _ _ _ => none
theorem zk_42_0 (CS : kZC T C C') (JS : ∀ b, kZ T (J b) (J' b)) : kZ T (bk_42_0 d C J) (wk_42_0 d C' J') := (zz_ll (zz_cl (zz_lcmp (zz_ifle (zz_la (zz_Vr CS (zz_sa (zz_ll (zz_cl (zz_lcmp (zz_ifgt (zz_la (zz_ci (zz_pI (by decide) (zz_la (zz_gR (by decide) rfl (zz_la (zz_gL (by decide) (zz_ll (zz_jj (zz_la (zz_cn (zz_Vv CS (zz_nm (JS 57)))))))))))))) (zz_la (zz_la (zz_Vv CS (zz_nm (JS 57)))))))))))) zz_thd))))
theorem zk_42_57 (CS : kZC T C C') (JS : ∀ b, kZ T (J b) (J' b)) : kZ T (bk_42_57 d C J) (wk_42_57 d C' J') := (zz_la (zz_Vv CS (zz_la (zz_Vi CS zz_ri))))
theorem zm_42 (CS : kZC T C C') (J J' : Nat → kx_F) (JS : ∀ b, kZ T (J b) (J' b)) (b : Nat) : kZ T (bm_42 d C b J) (wm_42 d C' b J') := by
  unfold bm_42 wm_42
  cases h0 : Nat.beq b 0 with
  | true => exact zk_42_0 (d := d) CS JS
  | false =>
   cases h57 : Nat.beq b 57 with
   | true => exact zk_42_57 (d := d) CS JS
   | false =>
    exact zz_no
/-! TaskDesk$Agenda.note(JLTaskDesk$Task;LTaskDesk$Channel;)V -/
def wk_43_0 (d : Nat) (C : kx_C) (J : Nat → kx_F) : kx_F := (kx_la 0 (wx_gR 1 1 7 (kx_sa 5 (kx_la 5 (kx_nnul (kx_la 0 (kx_la 5 (wx_gR 7 3 7 (wx_pR 1 1 7 (kx_la 5 (kx_ll 1 (wx_pL 7 0 (kx_la 5 (kx_la 3 (wx_pR 7 1 6 (kx_la 5 (kx_la 4 (wx_pR 7 2 2 (kx_la 0 (kx_ll 1 (kx_Vr C 44 1 [1] 7 (kx_sa 6 (kx_la 6 (kx_nnul (kx_la 5 (kx_la 6 (wx_gR 7 3 7 (wx_pR 7 3 7 (kx_la 6 (kx_la 5 (wx_pR 7 3 7 (kx_nm [] (J 87))))))))) (kx_la 5 (kx_la 0 (wx_gR 1 0 7 (wx_pR 7 3 7 (kx_la 0 (kx_la 5 (wx_pR 1 0 7 (kx_nm [] (J 87)))))))))))))))))))))))))))) kx_rv)))))
def wk_43_87 (d : Nat) (C : kx_C) (J : Nat → kx_F) : kx_F := kx_rv
def wm_43 (d : Nat) (C : kx_C) (b : Nat) (J : Nat → kx_F) : kx_F := bif Nat.beq b 0 then wk_43_0 d C J else bif Nat.beq b 87 then wk_43_87 d C J else fun _ _ _ => none
theorem zk_43_0 (CS : kZC T C C') (JS : ∀ b, kZ T (J b) (J' b)) : kZ T (bk_43_0 d C J) (wk_43_0 d C' J') := (zz_la (zz_gR (by decide) rfl (zz_sa (zz_la (zz_nnul (zz_la (zz_la (zz_gR (by decide) rfl (zz_pR (by decide) rfl (zz_la (zz_ll (zz_pL (by decide) (zz_la (zz_la (zz_pR (by decide) rfl (zz_la (zz_la (zz_pR (by decide) rfl (zz_la (zz_ll (zz_Vr CS (zz_sa (zz_la (zz_nnul (zz_la (zz_la (zz_gR (by decide) rfl (zz_pR (by decide) rfl (zz_la (zz_la (zz_pR (by decide) rfl (zz_nm (JS 87))))))))) (zz_la (zz_la (zz_gR (by decide) rfl (zz_pR (by decide) rfl (zz_la (zz_la (zz_pR (by decide) rfl (zz_nm (JS 87)))))))))))))))))))))))))))) zz_rv)))))
theorem zk_43_87 (CS : kZC T C C') (JS : ∀ b, kZ T (J b) (J' b)) : kZ T (bk_43_87 d C J) (wk_43_87 d C' J') := zz_rv
theorem zm_43 (CS : kZC T C C') (J J' : Nat → kx_F) (JS : ∀ b, kZ T (J b) (J' b)) (b : Nat) : kZ T (bm_43 d C b J) (wm_43 d C' b J') := by
  unfold bm_43 wm_43
  cases h0 : Nat.beq b 0 with
  | true => exact zk_43_0 (d := d) CS JS
  | false =>
   cases h87 : Nat.beq b 87 with
   | true => exact zk_43_87 (d := d) CS JS
   | false =>
    exact zz_no
/-! TaskDesk$Agenda.lastNotAfter(J)LTaskDesk$Timer; -/
def wk_44_0 (d : Nat) (C : kx_C) (J : Nat → kx_F) : kx_F := (kx_c (kx_r 7 none) (kx_sa 3 (kx_la 0 (wx_gR 1 0 7 (kx_sa 4 (kx_nm [1, 3, 4] (J 8)))))))
def wk_44_8 (d : Nat) (C : kx_C) (J : Nat → kx_F) : kx_F := (kx_la 4 (kx_nul (kx_nm [3] (J 36)) (kx_la 4 (wx_gL 7 0 (kx_ll 1 (kx_lcmp (kx_ifgt (kx_nm [3] (J 36)) (kx_la 4 (kx_sa 3 (kx_la 4 (wx_gR 7 3 7 (kx_sa 4 (kx_nm [1, 3, 4] (J 8))))))))))))))
def wk_44_36 (d : Nat) (C : kx_C) (J : Nat → kx_F) : kx_F := (kx_la 3 kx_rr)
def wm_44 (d : Nat) (C : kx_C) (b : Nat) (J : Nat → kx_F) : kx_F := bif Nat.beq b 0 then wk_44_0 d C J else bif Nat.beq b 8 then wk_44_8 d C J else bif Nat.beq b 36 then wk_44_36 d C J else fun _ _ _ => none
theorem zk_44_0 (CS : kZC T C C') (JS : ∀ b, kZ T (J b) (J' b)) : kZ T (bk_44_0 d C J) (wk_44_0 d C' J') := (zz_cn (zz_sa (zz_la (zz_gR (by decide) rfl (zz_sa (zz_nm (JS 8)))))))
theorem zk_44_8 (CS : kZC T C C') (JS : ∀ b, kZ T (J b) (J' b)) : kZ T (bk_44_8 d C J) (wk_44_8 d C' J') := (zz_la (zz_nul (zz_nm (JS 36)) (zz_la (zz_gL (by decide) (zz_ll (zz_lcmp (zz_ifgt (zz_nm (JS 36)) (zz_la (zz_sa (zz_la (zz_gR (by decide) rfl (zz_sa (zz_nm (JS 8))))))))))))))
theorem zk_44_36 (CS : kZC T C C') (JS : ∀ b, kZ T (J b) (J' b)) : kZ T (bk_44_36 d C J) (wk_44_36 d C' J') := (zz_la zz_rr)
theorem zm_44 (CS : kZC T C C') (J J' : Nat → kx_F) (JS : ∀ b, kZ T (J b) (J' b)) (b : Nat) : kZ T (bm_44 d C b J) (wm_44 d C' b J') := by
  unfold bm_44 wm_44
  cases h0 : Nat.beq b 0 with
  | true => exact zk_44_0 (d := d) CS JS
  | false =>
   cases h8 : Nat.beq b 8 with
   | true => exact zk_44_8 (d := d) CS JS
   | false =>
    cases h36 : Nat.beq b 36 with
    | true => exact zk_44_36 (d := d) CS JS
    | false =>
     exact zz_no
/-! TaskDesk.channel(I)I -/
def wk_45_0 (d : Nat) (C : kx_C) (J : Nat → kx_F) : kx_F := (kx_li 1 (kx_iflt (kx_nm [] (J 11)) (kx_li 1 (kx_c (kx_i 8192) (kx_cle (kx_la 0 (kx_Vr C 46 0 [] 2 (kx_sa 2 (kx_la 2 (kx_nul (kx_nm [] (J 42)) (kx_li 1 (kx_c (kx_i 8192) (kx_la 0 (wx_gI 0 11 (kx_ii (fun x y => x - y) (kx_cle (kx_la 2 (kx_c (kx_i 1) (wx_pB 2 3 (kx_la 2 (kx_c (kx_i 0) (wx_pB 2 4 (kx_la 2 (kx_li 1 (wx_pI 2 5 (kx_la 0 (kx_dup (wx_gI 0 10 (kx_c (kx_i 1) (kx_ii (fun x y => x + y) (wx_pI 0 10 (kx_la 0 (kx_dup (wx_gI 0 11 (kx_li 1 (kx_ii (fun x y => x + y) (wx_pI 0 11 (kx_la 2 (wx_gI 2 0 kx_ri))))))))))))))))))))))) (kx_nm [] (J 42))))))))))))) (kx_nm [] (J 11)))))))
def wk_45_11 (d : Nat) (C : kx_C) (J : Nat → kx_F) : kx_F := (kx_thd kx_cc kx_cs d 1)
def wk_45_42 (d : Nat) (C : kx_C) (J : Nat → kx_F) : kx_F := (kx_thd kx_cc kx_cs d 0)
def wm_45 (d : Nat) (C : kx_C) (b : Nat) (J : Nat → kx_F) : kx_F := bif Nat.beq b 0 then wk_45_0 d C J else bif Nat.beq b 11 then wk_45_11 d C J else bif Nat.beq b 42 then wk_45_42 d C J else fun _ _ _ => none
theorem zk_45_0 (CS : kZC T C C') (JS : ∀ b, kZ T (J b) (J' b)) : kZ T (bk_45_0 d C J) (wk_45_0 d C' J') := (zz_li (zz_iflt (zz_nm (JS 11)) (zz_li (zz_ci (zz_cle (zz_la (zz_Vr CS (zz_sa (zz_la (zz_nul (zz_nm (JS 42)) (zz_li (zz_ci (zz_la (zz_gI (by decide) (zz_ii (zz_cle (zz_la (zz_ci (zz_pB (by decide) (zz_la (zz_ci (zz_pB (by decide) (zz_la (zz_li (zz_pI (by decide) (zz_la (zz_dup (zz_gI (by decide) (zz_ci (zz_ii (zz_pI (by decide) (zz_la (zz_dup (zz_gI (by decide) (zz_li (zz_ii (zz_pI (by decide) (zz_la (zz_gI (by decide) zz_ri))))))))))))))))))))))) (zz_nm (JS 42))))))))))))) (zz_nm (JS 11)))))))
theorem zk_45_11 (CS : kZC T C C') (JS : ∀ b, kZ T (J b) (J' b)) : kZ T (bk_45_11 d C J) (wk_45_11 d C' J') := zz_thd
theorem zk_45_42 (CS : kZC T C C') (JS : ∀ b, kZ T (J b) (J' b)) : kZ T (bk_45_42 d C J) (wk_45_42 d C' J') := zz_thd
theorem zm_45 (CS : kZC T C C') (J J' : Nat → kx_F) (JS : ∀ b, kZ T (J b) (J' b)) (b : Nat) : kZ T (bm_45 d C b J) (wm_45 d C' b J') := by
  unfold bm_45 wm_45
  cases h0 : Nat.beq b 0 with
  | true => exact zk_45_0 (d := d) CS JS
  | false =>
   cases h11 : Nat.beq b 11 with
   | true => exact zk_45_11 (d := d) CS JS
   | false =>
    cases h42 : Nat.beq b 42 with
    | true => exact zk_45_42 (d := d) CS JS
    | false =>
     exact zz_no
/-! TaskDesk.firstFreeChannel()LTaskDesk$Channel; -/
def wk_46_0 (d : Nat) (C : kx_C) (J : Nat → kx_F) : kx_F := (kx_c (kx_i 0) (kx_si 1 (kx_nm [0, 1] (J 2))))
def wk_46_2 (d : Nat) (C : kx_C) (J : Nat → kx_F) : kx_F := (kx_li 1 (kx_c (kx_i 512) (kx_cge (kx_c (kx_r 2 none) kx_rr) (kx_la 0 (wx_gR 0 8 103 (kx_li 1 (wx_aR 103 2 (wx_gB 2 3 (kx_ifne (kx_inc 1 1 (kx_nm [0, 1] (J 2))) (kx_la 0 (wx_gR 0 8 103 (kx_li 1 (wx_aR 103 2 kx_rr)))))))))))))
def wm_46 (d : Nat) (C : kx_C) (b : Nat) (J : Nat → kx_F) : kx_F := bif Nat.beq b 0 then wk_46_0 d C J else bif Nat.beq b 2 then wk_46_2 d C J else fun _ _ _ => none
theorem zk_46_0 (CS : kZC T C C') (JS : ∀ b, kZ T (J b) (J' b)) : kZ T (bk_46_0 d C J) (wk_46_0 d C' J') := (zz_ci (zz_si (zz_nm (JS 2))))
theorem zk_46_2 (CS : kZC T C C') (JS : ∀ b, kZ T (J b) (J' b)) : kZ T (bk_46_2 d C J) (wk_46_2 d C' J') := (zz_li (zz_ci (zz_cge (zz_cn zz_rr) (zz_la (zz_gR (by decide) rfl (zz_li (zz_aR (by decide) rfl (zz_gB (by decide) (zz_ifne (zz_inc (zz_nm (JS 2))) (zz_la (zz_gR (by decide) rfl (zz_li (zz_aR (by decide) rfl zz_rr)))))))))))))
theorem zm_46 (CS : kZC T C C') (J J' : Nat → kx_F) (JS : ∀ b, kZ T (J b) (J' b)) (b : Nat) : kZ T (bm_46 d C b J) (wm_46 d C' b J') := by
  unfold bm_46 wm_46
  cases h0 : Nat.beq b 0 with
  | true => exact zk_46_0 (d := d) CS JS
  | false =>
   cases h2 : Nat.beq b 2 with
   | true => exact zk_46_2 (d := d) CS JS
   | false =>
    exact zz_no
/-! TaskDesk.alarm(IJ)V -/
def wk_47_0 (d : Nat) (C : kx_C) (J : Nat → kx_F) : kx_F := (kx_la 0 (kx_li 1 (kx_Vr C 14 0 [0] 2 (kx_sa 4 (kx_la 4 (kx_nul (kx_nm [] (J 26)) (kx_ll 2 (kx_c (kx_l 0) (kx_lcmp (kx_iflt (kx_nm [] (J 26)) (kx_ll 2 (kx_c (kx_l 1000000000) (kx_lcmp (kx_ifle (kx_la 0 (kx_Vr C 24 0 [] 6 (kx_pop (kx_la 0 (wx_gI 0 7 (kx_c (kx_i 256) (kx_clt (kx_la 0 (wx_gR 0 6 1 (kx_la 0 (wx_gL 0 5 (kx_ll 2 (kx_jj (fun x y => x + y) (kx_c (kx_r 6 none) (kx_la 4 (kx_Vv C 43 1 [1, 8, 4] (kx_la 4 (kx_dup (wx_gI 2 7 (kx_c (kx_i 1) (kx_ii (fun x y => x + y) (wx_pI 2 7 (kx_la 0 (kx_dup (wx_gI 0 7 (kx_c (kx_i 1) (kx_ii (fun x y => x + y) (wx_pI 0 7 kx_rv))))))))))))))))))))) (kx_thd kx_cc kx_cs d 0)))))))) (kx_nm [] (J 26))))))))))))))))
def wk_47_26 (d : Nat) (C : kx_C) (J : Nat → kx_F) : kx_F := (kx_thd kx_cc kx_cs d 1)
def wm_47 (d : Nat) (C : kx_C) (b : Nat) (J : Nat → kx_F) : kx_F := bif Nat.beq b 0 then wk_47_0 d C J else bif Nat.beq b 26 then wk_47_26 d C J else fun _ _ _ => none
theorem zk_47_0 (CS : kZC T C C') (JS : ∀ b, kZ T (J b) (J' b)) : kZ T (bk_47_0 d C J) (wk_47_0 d C' J') := (zz_la (zz_li (zz_Vr CS (zz_sa (zz_la (zz_nul (zz_nm (JS 26)) (zz_ll (zz_cl (zz_lcmp (zz_iflt (zz_nm (JS 26)) (zz_ll (zz_cl (zz_lcmp (zz_ifle (zz_la (zz_Vr CS (zz_pop (zz_la (zz_gI (by decide) (zz_ci (zz_clt (zz_la (zz_gR (by decide) rfl (zz_la (zz_gL (by decide) (zz_ll (zz_jj (zz_cn (zz_la (zz_Vv CS (zz_la (zz_dup (zz_gI (by decide) (zz_ci (zz_ii (zz_pI (by decide) (zz_la (zz_dup (zz_gI (by decide) (zz_ci (zz_ii (zz_pI (by decide) zz_rv))))))))))))))))))))) zz_thd))))))) (zz_nm (JS 26))))))))))))))))
theorem zk_47_26 (CS : kZC T C C') (JS : ∀ b, kZ T (J b) (J' b)) : kZ T (bk_47_26 d C J) (wk_47_26 d C' J') := zz_thd
theorem zm_47 (CS : kZC T C C') (J J' : Nat → kx_F) (JS : ∀ b, kZ T (J b) (J' b)) (b : Nat) : kZ T (bm_47 d C b J) (wm_47 d C' b J') := by
  unfold bm_47 wm_47
  cases h0 : Nat.beq b 0 with
  | true => exact zk_47_0 (d := d) CS JS
  | false =>
   cases h26 : Nat.beq b 26 with
   | true => exact zk_47_26 (d := d) CS JS
   | false =>
    exact zz_no
/-! TaskDesk.send(IJ)Z -/
def wk_48_0 (d : Nat) (C : kx_C) (J : Nat → kx_F) : kx_F := (kx_la 0 (kx_li 1 (kx_Vr C 49 0 [0] 2 (kx_sa 4 (kx_la 0 (kx_Vr C 24 0 [] 6 (kx_sa 5 (kx_la 4 (wx_gB 2 4 (kx_ifeq (kx_la 0 (kx_la 4 (kx_Vi C 33 0 [4] (kx_ifeq (kx_la 5 (wx_gR 6 1 4 (kx_ll 2 (wx_pL 4 3 (kx_la 5 (kx_la 4 (wx_gR 2 1 5 (kx_la 4 (kx_la 0 (wx_gR 0 9 2 (kx_ane (kx_c (kx_i 2) (kx_nm [0, 4] (J 89))) (kx_c (kx_i 7) (kx_nm [0, 4] (J 89)))))))))))))) (kx_la 0 (kx_la 4 (kx_ll 2 (kx_Vv C 34 0 [4, 1] (kx_la 5 (kx_c (kx_l 0) (kx_c (kx_i 1) (kx_c (kx_i (-1)) (kx_c (kx_i 0) (kx_Vv C 12 6 [1, 0, 0, 0] (kx_c (kx_i 1) kx_rz))))))))))))))) (kx_thd kx_cc kx_cs d 2)))))))))))
def wk_48_89 (d : Nat) (C : kx_C) (J : Nat → kx_F) : kx_F := (kx_la 4 (wx_gI 2 0 (kx_Vv C 27 6 [7, 0, 0] (kx_la 0 (kx_Vv C 30 0 [] (kx_c (kx_i 0) kx_rz))))))
def wm_48 (d : Nat) (C : kx_C) (b : Nat) (J : Nat → kx_F) : kx_F := bif Nat.beq b 0 then wk_48_0 d C J else bif Nat.beq b 89 then wk_48_89 d C J else fun _ _ _ => none
theorem zk_48_0 (CS : kZC T C C') (JS : ∀ b, kZ T (J b) (J' b)) : kZ T (bk_48_0 d C J) (wk_48_0 d C' J') := (zz_la (zz_li (zz_Vr CS (zz_sa (zz_la (zz_Vr CS (zz_sa (zz_la (zz_gB (by decide) (zz_ifeq (zz_la (zz_la (zz_Vi CS (zz_ifeq (zz_la (zz_gR (by decide) rfl (zz_ll (zz_pL (by decide) (zz_la (zz_la (zz_gR (by decide) rfl (zz_la (zz_la (zz_gR (by decide) rfl (zz_ane (zz_ci (zz_nm (JS 89))) (zz_ci (zz_nm (JS 89)))))))))))))) (zz_la (zz_la (zz_ll (zz_Vv CS (zz_la (zz_cl (zz_ci (zz_ci (zz_ci (zz_Vv CS (zz_ci zz_rz))))))))))))))) zz_thd))))))))))
theorem zk_48_89 (CS : kZC T C C') (JS : ∀ b, kZ T (J b) (J' b)) : kZ T (bk_48_89 d C J) (wk_48_89 d C' J') := (zz_la (zz_gI (by decide) (zz_Vv CS (zz_la (zz_Vv CS (zz_ci zz_rz))))))
theorem zm_48 (CS : kZC T C C') (J J' : Nat → kx_F) (JS : ∀ b, kZ T (J b) (J' b)) (b : Nat) : kZ T (bm_48 d C b J) (wm_48 d C' b J') := by
  unfold bm_48 wm_48
  cases h0 : Nat.beq b 0 with
  | true => exact zk_48_0 (d := d) CS JS
  | false =>
   cases h89 : Nat.beq b 89 with
   | true => exact zk_48_89 (d := d) CS JS
   | false =>
    exact zz_no
/-! TaskDesk.mustBeChannel(I)LTaskDesk$Channel; -/
def wk_49_0 (d : Nat) (C : kx_C) (J : Nat → kx_F) : kx_F := (kx_li 1 (kx_c (kx_i (-1)) (kx_cne (kx_la 0 (kx_li 1 (kx_Vr C 14 0 [0] 2 (kx_nm [] (J 17))))) (kx_la 0 (wx_gR 0 9 2 (kx_nm [] (J 17)))))))
def wk_49_17 (d : Nat) (C : kx_C) (J : Nat → kx_F) : kx_F := (kx_sa 2 (kx_la 2 (kx_nnul (kx_la 2 kx_rr) (kx_thd kx_cc kx_cs d 1))))
def wm_49 (d : Nat) (C : kx_C) (b : Nat) (J : Nat → kx_F) : kx_F := bif Nat.beq b 0 then wk_49_0 d C J else bif Nat.beq b 17 then wk_49_17 d C J else fun _ _ _ => none
theorem zk_49_0 (CS : kZC T C C') (JS : ∀ b, kZ T (J b) (J' b)) : kZ T (bk_49_0 d C J) (wk_49_0 d C' J') := (zz_li (zz_ci (zz_cne (zz_la (zz_li (zz_Vr CS (zz_nm (JS 17))))) (zz_la (zz_gR (by decide) rfl (zz_nm (JS 17)))))))
theorem zk_49_17 (CS : kZC T C C') (JS : ∀ b, kZ T (J b) (J' b)) : kZ T (bk_49_17 d C J) (wk_49_17 d C' J') := (zz_sa (zz_la (zz_nnul (zz_la zz_rr) zz_thd)))
theorem zm_49 (CS : kZC T C C') (J J' : Nat → kx_F) (JS : ∀ b, kZ T (J b) (J' b)) (b : Nat) : kZ T (bm_49 d C b J) (wm_49 d C' b J') := by
  unfold bm_49 wm_49
  cases h0 : Nat.beq b 0 with
  | true => exact zk_49_0 (d := d) CS JS
  | false =>
   cases h17 : Nat.beq b 17 with
   | true => exact zk_49_17 (d := d) CS JS
   | false =>
    exact zz_no
/-! TaskDesk.receive(I)Z -/
def wk_50_0 (d : Nat) (C : kx_C) (J : Nat → kx_F) : kx_F := (kx_la 0 (kx_li 1 (kx_Vr C 49 0 [0] 2 (kx_sa 2 (kx_la 0 (kx_Vr C 24 0 [] 6 (kx_sa 3 (kx_la 0 (kx_la 2 (kx_Vi C 51 0 [4] (kx_ifeq (kx_la 3 (kx_la 2 (wx_gR 2 2 5 (kx_la 2 (kx_la 0 (wx_gR 0 9 2 (kx_ane (kx_c (kx_i 3) (kx_nm [0, 2] (J 47))) (kx_c (kx_i 7) (kx_nm [0, 2] (J 47)))))))))) (kx_la 0 (kx_la 3 (kx_la 2 (kx_c (kx_i (-1)) (kx_Vv C 52 0 [8, 4, 0] (kx_c (kx_i 1) kx_rz)))))))))))))))))
def wk_50_47 (d : Nat) (C : kx_C) (J : Nat → kx_F) : kx_F := (kx_la 2 (wx_gI 2 0 (kx_Vv C 27 6 [7, 0, 0] (kx_la 0 (kx_Vv C 30 0 [] (kx_c (kx_i 0) kx_rz))))))
def wm_50 (d : Nat) (C : kx_C) (b : Nat) (J : Nat → kx_F) : kx_F := bif Nat.beq b 0 then wk_50_0 d C J else bif Nat.beq b 47 then wk_50_47 d C J else fun _ _ _ => none
theorem zk_50_0 (CS : kZC T C C') (JS : ∀ b, kZ T (J b) (J' b)) : kZ T (bk_50_0 d C J) (wk_50_0 d C' J') := (zz_la (zz_li (zz_Vr CS (zz_sa (zz_la (zz_Vr CS (zz_sa (zz_la (zz_la (zz_Vi CS (zz_ifeq (zz_la (zz_la (zz_gR (by decide) rfl (zz_la (zz_la (zz_gR (by decide) rfl (zz_ane (zz_ci (zz_nm (JS 47))) (zz_ci (zz_nm (JS 47)))))))))) (zz_la (zz_la (zz_la (zz_ci (zz_Vv CS (zz_ci zz_rz)))))))))))))))))
theorem zk_50_47 (CS : kZC T C C') (JS : ∀ b, kZ T (J b) (J' b)) : kZ T (bk_50_47 d C J) (wk_50_47 d C' J') := (zz_la (zz_gI (by decide) (zz_Vv CS (zz_la (zz_Vv CS (zz_ci zz_rz))))))
theorem zm_50 (CS : kZC T C C') (J J' : Nat → kx_F) (JS : ∀ b, kZ T (J b) (J' b)) (b : Nat) : kZ T (bm_50 d C b J) (wm_50 d C' b J') := by
  unfold bm_50 wm_50
  cases h0 : Nat.beq b 0 with
  | true => exact zk_50_0 (d := d) CS JS
  | false =>
   cases h47 : Nat.beq b 47 with
   | true => exact zk_50_47 (d := d) CS JS
   | false =>
    exact zz_no
/-! TaskDesk.givesAtOnce(LTaskDesk$Channel;)Z -/
def wk_51_0 (d : Nat) (C : kx_C) (J : Nat → kx_F) : kx_F := (kx_la 1 (wx_gI 2 6 (kx_ifgt (kx_nm [0, 1] (J 17)) (kx_la 1 (wx_gR 2 1 5 (wx_gR 5 0 4 (kx_nul (kx_c (kx_i 0) (kx_nm [0, 1] (J 22))) (kx_nm [0, 1] (J 17)))))))))
def wk_51_17 (d : Nat) (C : kx_C) (J : Nat → kx_F) : kx_F := (kx_c (kx_i 1) (kx_nm [0, 1] (J 22)))
def wk_51_22 (d : Nat) (C : kx_C) (J : Nat → kx_F) : kx_F := (kx_si 2 (kx_la 1 (kx_la 0 (wx_gR 0 9 2 (kx_aeq (kx_nm [] (J 46)) (kx_la 1 (wx_gB 2 4 (kx_ifne (kx_nm [] (J 42)) (kx_li 2 (kx_ifeq (kx_nm [] (J 46)) (kx_nm [] (J 42))))))))))))
def wk_51_42 (d : Nat) (C : kx_C) (J : Nat → kx_F) : kx_F := (kx_c (kx_i 1) (kx_nm [] (J 47)))
def wk_51_46 (d : Nat) (C : kx_C) (J : Nat → kx_F) : kx_F := (kx_c (kx_i 0) (kx_nm [] (J 47)))
def wk_51_47 (d : Nat) (C : kx_C) (J : Nat → kx_F) : kx_F := kx_rz
def wm_51 (d : Nat) (C : kx_C) (b : Nat) (J : Nat → kx_F) : kx_F := bif Nat.beq b 0 then wk_51_0 d C J else bif Nat.beq b 17 then wk_51_17 d C J else bif Nat.beq b 22 then wk_51_22 d C J else bif Nat.beq b 42 then wk_51_42 d C J else bif Nat.beq b 46 then wk_51_46 d C J else bif Nat.beq b 47 then wk_51_47 d C J else fun _ _ _ => none
theorem zk_51_0 (CS : kZC T C C') (JS : ∀ b, kZ T (J b) (J' b)) : kZ T (bk_51_0 d C J) (wk_51_0 d C' J') := (zz_la (zz_gI (by decide) (zz_ifgt (zz_nm (JS 17)) (zz_la (zz_gR (by decide) rfl (zz_gR (by decide) rfl (zz_nul (zz_ci (zz_nm (JS 22))) (zz_nm (JS 17)))))))))
theorem zk_51_17 (CS : kZC T C C') (JS : ∀ b, kZ T (J b) (J' b)) : kZ T (bk_51_17 d C J) (wk_51_17 d C' J') := (zz_ci (zz_nm (JS 22)))
theorem zk_51_22 (CS : kZC T C C') (JS : ∀ b, kZ T (J b) (J' b)) : kZ T (bk_51_22 d C J) (wk_51_22 d C' J') := (zz_si (zz_la (zz_la (zz_gR (by decide) rfl (zz_aeq (zz_nm (JS 46)) (zz_la (zz_gB (by decide) (zz_ifne (zz_nm (JS 42)) (zz_li (zz_ifeq (zz_nm (JS 46)) (zz_nm (JS 42))))))))))))
theorem zk_51_42 (CS : kZC T C C') (JS : ∀ b, kZ T (J b) (J' b)) : kZ T (bk_51_42 d C J) (wk_51_42 d C' J') := (zz_ci (zz_nm (JS 47)))
theorem zk_51_46 (CS : kZC T C C') (JS : ∀ b, kZ T (J b) (J' b)) : kZ T (bk_51_46 d C J) (wk_51_46 d C' J') := (zz_ci (zz_nm (JS 47)))
theorem zk_51_47 (CS : kZC T C C') (JS : ∀ b, kZ T (J b) (J' b)) : kZ T (bk_51_47 d C J) (wk_51_47 d C' J') := zz_rz
theorem zm_51 (CS : kZC T C C') (J J' : Nat → kx_F) (JS : ∀ b, kZ T (J b) (J' b)) (b : Nat) : kZ T (bm_51 d C b J) (wm_51 d C' b J') := by
  unfold bm_51 wm_51
  cases h0 : Nat.beq b 0 with
  | true => exact zk_51_0 (d := d) CS JS
  | false =>
   cases h17 : Nat.beq b 17 with
   | true => exact zk_51_17 (d := d) CS JS
   | false =>
    cases h22 : Nat.beq b 22 with
    | true => exact zk_51_22 (d := d) CS JS
    | false =>
     cases h42 : Nat.beq b 42 with
     | true => exact zk_51_42 (d := d) CS JS
     | false =>
      cases h46 : Nat.beq b 46 with
      | true => exact zk_51_46 (d := d) CS JS
      | false =>
       cases h47 : Nat.beq b 47 with
       | true => exact zk_51_47 (d := d) CS JS
       | false =>
        exact zz_no
/-! TaskDesk.receiveNow(LTaskDesk$Task;LTaskDesk$Channel;I)V -/
def wk_52_0 (d : Nat) (C : kx_C) (J : Nat → kx_F) : kx_F := (kx_la 2 (wx_gR 2 1 5 (wx_gR 5 0 4 (kx_sa 4 (kx_la 2 (wx_gI 2 6 (kx_ifgt (kx_nm [0, 1, 2, 3, 4] (J 21)) (kx_la 4 (kx_nul (kx_c (kx_i 0) (kx_nm [0, 1, 2, 3, 4] (J 26))) (kx_nm [0, 1, 2, 3, 4] (J 21)))))))))))
def wk_52_21 (d : Nat) (C : kx_C) (J : Nat → kx_F) : kx_F := (kx_c (kx_i 1) (kx_nm [0, 1, 2, 3, 4] (J 26)))
def wk_52_26 (d : Nat) (C : kx_C) (J : Nat → kx_F) : kx_F := (kx_si 5 (kx_c (kx_l 0) (kx_sl 6 (kx_la 2 (wx_gI 2 6 (kx_ifle (kx_la 4 (kx_nul (kx_nm [0, 1, 3, 4, 5, 6] (J 75)) (kx_la 4 (wx_gL 4 3 (kx_sl 6 (kx_nm [0, 1, 3, 4, 5, 6] (J 75))))))) (kx_la 0 (kx_la 2 (kx_Vl C 17 0 [4] (kx_sl 6 (kx_la 4 (kx_nul (kx_nm [0, 1, 3, 4, 5, 6] (J 75)) (kx_la 0 (kx_la 2 (kx_la 4 (wx_gL 4 3 (kx_Vv C 38 0 [4, 1] (kx_nm [0, 1, 3, 4, 5, 6] (J 75)))))))))))))))))))
def wk_52_75 (d : Nat) (C : kx_C) (J : Nat → kx_F) : kx_F := (kx_la 4 (kx_nul (kx_nm [1, 3, 5, 6] (J 89)) (kx_la 0 (kx_la 4 (kx_c (kx_l 0) (kx_c (kx_i 1) (kx_c (kx_i 0) (kx_Vv C 35 0 [6, 1, 0, 0] (kx_nm [1, 3, 5, 6] (J 89))))))))))
def wk_52_89 (d : Nat) (C : kx_C) (J : Nat → kx_F) : kx_F := (kx_la 1 (kx_ll 6 (kx_li 5 (kx_li 3 (kx_c (kx_i 0) (kx_Vv C 12 6 [1, 0, 0, 0] kx_rv))))))
def wm_52 (d : Nat) (C : kx_C) (b : Nat) (J : Nat → kx_F) : kx_F := bif Nat.beq b 0 then wk_52_0 d C J else bif Nat.beq b 21 then wk_52_21 d C J else bif Nat.beq b 26 then wk_52_26 d C J else bif Nat.beq b 75 then wk_52_75 d C J else bif Nat.beq b 89 then wk_52_89 d C J else fun _ _ _ => none
theorem zk_52_0 (CS : kZC T C C') (JS : ∀ b, kZ T (J b) (J' b)) : kZ T (bk_52_0 d C J) (wk_52_0 d C' J') := (zz_la (zz_gR (by decide) rfl (zz_gR (by decide) rfl (zz_sa (zz_la (zz_gI (by decide) (zz_ifgt (zz_nm (JS 21)) (zz_la (zz_nul (zz_ci (zz_nm (JS 26))) (zz_nm (JS 21)))))))))))
theorem zk_52_21 (CS : kZC T C C') (JS : ∀ b, kZ T (J b) (J' b)) : kZ T (bk_52_21 d C J) (wk_52_21 d C' J') := (zz_ci (zz_nm (JS 26)))
theorem zk_52_26 (CS : kZC T C C') (JS : ∀ b, kZ T (J b) (J' b)) : kZ T (bk_52_26 d C J) (wk_52_26 d C' J') := (zz_si (zz_cl (zz_sl (zz_la (zz_gI (by decide) (zz_ifle (zz_la (zz_nul (zz_nm (JS 75)) (zz_la (zz_gL (by decide) (zz_sl (zz_nm (JS 75))))))) (zz_la (zz_la (zz_Vl CS (zz_sl (zz_la (zz_nul (zz_nm (JS 75)) (zz_la (zz_la (zz_la (zz_gL (by decide) (zz_Vv CS (zz_nm (JS 75)))))))))))))))))))
theorem zk_52_75 (CS : kZC T C C') (JS : ∀ b, kZ T (J b) (J' b)) : kZ T (bk_52_75 d C J) (wk_52_75 d C' J') := (zz_la (zz_nul (zz_nm (JS 89)) (zz_la (zz_la (zz_cl (zz_ci (zz_ci (zz_Vv CS (zz_nm (JS 89))))))))))
theorem zk_52_89 (CS : kZC T C C') (JS : ∀ b, kZ T (J b) (J' b)) : kZ T (bk_52_89 d C J) (wk_52_89 d C' J') := (zz_la (zz_ll (zz_li (zz_li (zz_ci (zz_Vv CS zz_rv))))))
theorem zm_52 (CS : kZC T C C') (J J' : Nat → kx_F) (JS : ∀ b, kZ T (J b) (J' b)) (b : Nat) : kZ T (bm_52 d C b J) (wm_52 d C' b J') := by
  unfold bm_52 wm_52
  cases h0 : Nat.beq b 0 with
  | true => exact zk_52_0 (d := d) CS JS
  | false =>
   cases h21 : Nat.beq b 21 with
   | true => exact zk_52_21 (d := d) CS JS
   | false =>
    cases h26 : Nat.beq b 26 with
    | true => exact zk_52_26 (d := d) CS JS
    | false =>
     cases h75 : Nat.beq b 75 with
     | true => exact zk_52_75 (d := d) CS JS
     | false =>
      cases h89 : Nat.beq b 89 with
      | true => exact zk_52_89 (d := d) CS JS
      | false =>
       exact zz_no
/-! TaskDesk.close(I)V -/
def wk_53_0 (d : Nat) (C : kx_C) (J : Nat → kx_F) : kx_F := (kx_la 0 (kx_li 1 (kx_Vr C 49 0 [0] 2 (kx_sa 2 (kx_la 0 (kx_Vr C 24 0 [] 6 (kx_pop (kx_la 2 (kx_la 0 (wx_gR 0 9 2 (kx_aeq (kx_nm [] (J 26)) (kx_la 2 (wx_gB 2 4 (kx_ifeq (kx_la 2 (kx_c (kx_i 1) (wx_pB 2 4 (kx_la 0 (kx_la 2 (wx_gR 2 2 5 (kx_c (kx_i 0) (kx_c (kx_i 0) (kx_Vv C 54 0 [7, 0, 0] (kx_la 0 (kx_la 2 (wx_gR 2 1 5 (kx_c (kx_i 0) (kx_c (kx_i 1) (kx_Vv C 54 0 [7, 0, 0] kx_rv))))))))))))))) (kx_nm [] (J 26))))))))))))))))
def wk_53_26 (d : Nat) (C : kx_C) (J : Nat → kx_F) : kx_F := (kx_thd kx_cc kx_cs d 2)
def wm_53 (d : Nat) (C : kx_C) (b : Nat) (J : Nat → kx_F) : kx_F := bif Nat.beq b 0 then wk_53_0 d C J else bif Nat.beq b 26 then wk_53_26 d C J else fun _ _ _ => none
theorem zk_53_0 (CS : kZC T C C') (JS : ∀ b, kZ T (J b) (J' b)) : kZ T (bk_53_0 d C J) (wk_53_0 d C' J') := (zz_la (zz_li (zz_Vr CS (zz_sa (zz_la (zz_Vr CS (zz_pop (zz_la (zz_la (zz_gR (by decide) rfl (zz_aeq (zz_nm (JS 26)) (zz_la (zz_gB (by decide) (zz_ifeq (zz_la (zz_ci (zz_pB (by decide) (zz_la (zz_la (zz_gR (by decide) rfl (zz_ci (zz_ci (zz_Vv CS (zz_la (zz_la (zz_gR (by decide) rfl (zz_ci (zz_ci (zz_Vv CS zz_rv))))))))))))))) (zz_nm (JS 26))))))))))))))))
theorem zk_53_26 (CS : kZC T C C') (JS : ∀ b, kZ T (J b) (J' b)) : kZ T (bk_53_26 d C J) (wk_53_26 d C' J') := zz_thd
theorem zm_53 (CS : kZC T C C') (J J' : Nat → kx_F) (JS : ∀ b, kZ T (J b) (J' b)) (b : Nat) : kZ T (bm_53 d C b J) (wm_53 d C' b J') := by
  unfold bm_53 wm_53
  cases h0 : Nat.beq b 0 with
  | true => exact zk_53_0 (d := d) CS JS
  | false =>
   cases h26 : Nat.beq b 26 with
   | true => exact zk_53_26 (d := d) CS JS
   | false =>
    exact zz_no
/-! TaskDesk.wakeAll(LTaskDesk$Row;ZZ)V -/
def wk_54_0 (d : Nat) (C : kx_C) (J : Nat → kx_F) : kx_F := (kx_la 1 (wx_gI 5 2 (kx_si 4 (kx_nm [0, 1, 2, 3, 4] (J 6)))))
def wk_54_6 (d : Nat) (C : kx_C) (J : Nat → kx_F) : kx_F := (kx_li 4 (kx_ifle (kx_nm [] (J 35)) (kx_la 1 (wx_gR 5 0 4 (kx_nul (kx_nm [] (J 35)) (kx_la 0 (kx_la 1 (wx_gR 5 0 4 (kx_c (kx_l 0) (kx_li 2 (kx_li 3 (kx_Vv C 35 0 [6, 1, 0, 0] (kx_inc 4 (-1) (kx_nm [0, 1, 2, 3, 4] (J 6)))))))))))))))
def wk_54_35 (d : Nat) (C : kx_C) (J : Nat → kx_F) : kx_F := kx_rv
def wm_54 (d : Nat) (C : kx_C) (b : Nat) (J : Nat → kx_F) : kx_F := bif Nat.beq b 0 then wk_54_0 d C J else bif Nat.beq b 6 then wk_54_6 d C J else bif Nat.beq b 35 then wk_54_35 d C J else fun _ _ _ => none
theorem zk_54_0 (CS : kZC T C C') (JS : ∀ b, kZ T (J b) (J' b)) : kZ T (bk_54_0 d C J) (wk_54_0 d C' J') := (zz_la (zz_gI (by decide) (zz_si (zz_nm (JS 6)))))
theorem zk_54_6 (CS : kZC T C C') (JS : ∀ b, kZ T (J b) (J' b)) : kZ T (bk_54_6 d C J) (wk_54_6 d C' J') := (zz_li (zz_ifle (zz_nm (JS 35)) (zz_la (zz_gR (by decide) rfl (zz_nul (zz_nm (JS 35)) (zz_la (zz_la (zz_gR (by decide) rfl (zz_cl (zz_li (zz_li (zz_Vv CS (zz_inc (zz_nm (JS 6)))))))))))))))
theorem zk_54_35 (CS : kZC T C C') (JS : ∀ b, kZ T (J b) (J' b)) : kZ T (bk_54_35 d C J) (wk_54_35 d C' J') := zz_rv
theorem zm_54 (CS : kZC T C C') (J J' : Nat → kx_F) (JS : ∀ b, kZ T (J b) (J' b)) (b : Nat) : kZ T (bm_54 d C b J) (wm_54 d C' b J') := by
  unfold bm_54 wm_54
  cases h0 : Nat.beq b 0 with
  | true => exact zk_54_0 (d := d) CS JS
  | false =>
   cases h6 : Nat.beq b 6 with
   | true => exact zk_54_6 (d := d) CS JS
   | false =>
    cases h35 : Nat.beq b 35 with
    | true => exact zk_54_35 (d := d) CS JS
    | false =>
     exact zz_no
/-! TaskDesk.offer(IZJ)I -/
def wk_55_0 (d : Nat) (C : kx_C) (J : Nat → kx_F) : kx_F := (kx_la 0 (kx_li 1 (kx_Vr C 49 0 [0] 2 (kx_sa 5 (kx_la 0 (kx_Vr C 24 0 [] 6 (kx_pop (kx_la 0 (wx_gR 0 15 4 (kx_sa 6 (kx_la 0 (wx_gI 0 14 (kx_c (kx_i 16) (kx_cge (kx_nm [] (J 32)) (kx_la 6 (kx_nnul (kx_la 0 (kx_la 6 (wx_gR 4 8 4 (wx_pR 0 15 4 (kx_la 6 (kx_la 5 (wx_pR 4 1 2 (kx_la 6 (kx_li 2 (wx_pB 4 2 (kx_la 6 (kx_ll 3 (wx_pL 4 3 (kx_la 6 (kx_la 0 (wx_gI 0 14 (wx_pI 4 4 (kx_la 0 (wx_gR 0 13 104 (kx_la 0 (wx_gI 0 14 (kx_la 6 (wx_asR 104 4 (kx_la 0 (kx_dup (wx_gI 0 14 (kx_c (kx_i 1) (kx_ii (fun x y => x + y) (wx_pI 0 14 (kx_la 6 (wx_gI 4 4 kx_ri))))))))))))))))))))))))))))))) (kx_nm [] (J 32))))))))))))))))))
def wk_55_32 (d : Nat) (C : kx_C) (J : Nat → kx_F) : kx_F := (kx_thd kx_cc kx_cs d 0)
def wm_55 (d : Nat) (C : kx_C) (b : Nat) (J : Nat → kx_F) : kx_F := bif Nat.beq b 0 then wk_55_0 d C J else bif Nat.beq b 32 then wk_55_32 d C J else fun _ _ _ => none
theorem zk_55_0 (CS : kZC T C C') (JS : ∀ b, kZ T (J b) (J' b)) : kZ T (bk_55_0 d C J) (wk_55_0 d C' J') := (zz_la (zz_li (zz_Vr CS (zz_sa (zz_la (zz_Vr CS (zz_pop (zz_la (zz_gR (by decide) rfl (zz_sa (zz_la (zz_gI (by decide) (zz_ci (zz_cge (zz_nm (JS 32)) (zz_la (zz_nnul (zz_la (zz_la (zz_gR (by decide) rfl (zz_pR (by decide) rfl (zz_la (zz_la (zz_pR (by decide) rfl (zz_la (zz_li (zz_pB (by decide) (zz_la (zz_ll (zz_pL (by decide) (zz_la (zz_la (zz_gI (by decide) (zz_pI (by decide) (zz_la (zz_gR (by decide) rfl (zz_la (zz_gI (by decide) (zz_la (zz_asR (by decide) rfl (zz_la (zz_dup (zz_gI (by decide) (zz_ci (zz_ii (zz_pI (by decide) (zz_la (zz_gI (by decide) zz_ri))))))))))))))))))))))))))))))) (zz_nm (JS 32))))))))))))))))))
theorem zk_55_32 (CS : kZC T C C') (JS : ∀ b, kZ T (J b) (J' b)) : kZ T (bk_55_32 d C J) (wk_55_32 d C' J') := zz_thd
theorem zm_55 (CS : kZC T C C') (J J' : Nat → kx_F) (JS : ∀ b, kZ T (J b) (J' b)) (b : Nat) : kZ T (bm_55 d C b J) (wm_55 d C' b J') := by
  unfold bm_55 wm_55
  cases h0 : Nat.beq b 0 with
  | true => exact zk_55_0 (d := d) CS JS
  | false =>
   cases h32 : Nat.beq b 32 with
   | true => exact zk_55_32 (d := d) CS JS
   | false =>
    exact zz_no
/-! TaskDesk.choose(IZ)Z -/
def wk_56_0 (d : Nat) (C : kx_C) (J : Nat → kx_F) : kx_F := (kx_li 1 (kx_ifge (kx_la 0 (kx_Vr C 24 0 [] 6 (kx_sa 3 (kx_la 0 (kx_li 1 (kx_Vr C 57 0 [0] 4 (kx_sa 4 (kx_la 4 (kx_nul (kx_li 2 (kx_ifeq (kx_la 0 (kx_la 3 (kx_Vv C 61 0 [8] (kx_la 0 (kx_Vv C 30 0 [] (kx_c (kx_i 0) kx_rz)))))) (kx_la 0 (kx_Vv C 60 0 [] (kx_la 3 (kx_c (kx_l 0) (kx_c (kx_i 0) (kx_c (kx_i (-1)) (kx_c (kx_i 0) (kx_Vv C 12 6 [1, 0, 0, 0] (kx_c (kx_i 1) kx_rz))))))))))) (kx_la 0 (kx_la 3 (kx_la 4 (kx_Vv C 59 0 [8, 6] (kx_c (kx_i 1) kx_rz)))))))))))))) (kx_thd kx_cc kx_cs d 1)))
def wm_56 (d : Nat) (C : kx_C) (b : Nat) (J : Nat → kx_F) : kx_F := bif Nat.beq b 0 then wk_56_0 d C J else fun _ _ _ => none
theorem zk_56_0 (CS : kZC T C C') (JS : ∀ b, kZ T (J b) (J' b)) : kZ T (bk_56_0 d C J) (wk_56_0 d C' J') := (zz_li (zz_ifge (zz_la (zz_Vr CS (zz_sa (zz_la (zz_li (zz_Vr CS (zz_sa (zz_la (zz_nul (zz_li (zz_ifeq (zz_la (zz_la (zz_Vv CS (zz_la (zz_Vv CS (zz_ci zz_rz)))))) (zz_la (zz_Vv CS (zz_la (zz_cl (zz_ci (zz_ci (zz_ci (zz_Vv CS (zz_ci zz_rz))))))))))) (zz_la (zz_la (zz_la (zz_Vv CS (zz_ci zz_rz)))))))))))))) zz_thd))
theorem zm_56 (CS : kZC T C C') (J J' : Nat → kx_F) (JS : ∀ b, kZ T (J b) (J' b)) (b : Nat) : kZ T (bm_56 d C b J) (wm_56 d C' b J') := by
  unfold bm_56 wm_56
  cases h0 : Nat.beq b 0 with
  | true => exact zk_56_0 (d := d) CS JS
  | false =>
   exact zz_no
/-! TaskDesk.openCase(I)LTaskDesk$Place; -/
def wk_57_0 (d : Nat) (C : kx_C) (J : Nat → kx_F) : kx_F := (kx_c (kx_i 0) (kx_si 2 (kx_c (kx_i 0) (kx_si 3 (kx_nm [0, 1, 2, 3] (J 4))))))
def wk_57_4 (d : Nat) (C : kx_C) (J : Nat → kx_F) : kx_F := (kx_li 3 (kx_la 0 (wx_gI 0 14 (kx_cge (kx_li 2 (kx_ifle (kx_c (kx_i 0) (kx_nm [0] (J 50))) (kx_li 1 (kx_li 2 (kx_irem (kx_nm [0] (J 50))))))) (kx_li 2 (kx_la 0 (kx_la 0 (wx_gR 0 13 104 (kx_li 3 (wx_aR 104 4 (kx_Vi C 58 0 [6] (kx_ifeq (kx_c (kx_i 0) (kx_nm [0, 1, 3] (J 31))) (kx_c (kx_i 1) (kx_nm [0, 1, 3] (J 31)))))))))))))))
def wk_57_31 (d : Nat) (C : kx_C) (J : Nat → kx_F) : kx_F := (kx_ii (fun x y => x + y) (kx_si 2 (kx_inc 3 1 (kx_nm [0, 1, 2, 3] (J 4)))))
def wk_57_50 (d : Nat) (C : kx_C) (J : Nat → kx_F) : kx_F := (kx_si 3 (kx_c (kx_i 0) (kx_si 4 (kx_nm [0, 3, 4] (J 54)))))
def wk_57_54 (d : Nat) (C : kx_C) (J : Nat → kx_F) : kx_F := (kx_li 4 (kx_la 0 (wx_gI 0 14 (kx_cge (kx_c (kx_r 4 none) kx_rr) (kx_la 0 (kx_la 0 (wx_gR 0 13 104 (kx_li 4 (wx_aR 104 4 (kx_Vi C 58 0 [6] (kx_ifeq (kx_nm [0, 3, 4] (J 92)) (kx_li 3 (kx_ifne (kx_inc 3 (-1) (kx_nm [0, 3, 4] (J 92))) (kx_la 0 (wx_gR 0 13 104 (kx_li 4 (wx_aR 104 4 kx_rr)))))))))))))))))
def wk_57_92 (d : Nat) (C : kx_C) (J : Nat → kx_F) : kx_F := (kx_inc 4 1 (kx_nm [0, 3, 4] (J 54)))
def wm_57 (d : Nat) (C : kx_C) (b : Nat) (J : Nat → kx_F) : kx_F := bif Nat.beq b 0 then wk_57_0 d C J else bif Nat.beq b 4 then wk_57_4 d C J else bif Nat.beq b 31 then wk_57_31 d C J else bif Nat.beq b 50 then wk_57_50 d C J else bif Nat.beq b 54 then wk_57_54 d C J else bif Nat.beq b 92 then wk_57_92 d C J else fun _ _ _ => none
theorem zk_57_0 (CS : kZC T C C') (JS : ∀ b, kZ T (J b) (J' b)) : kZ T (bk_57_0 d C J) (wk_57_0 d C' J') := (zz_ci (zz_si (zz_ci (zz_si (zz_nm (JS 4))))))
theorem zk_57_4 (CS : kZC T C C') (JS : ∀ b, kZ T (J b) (J' b)) : kZ T (bk_57_4 d C J) (wk_57_4 d C' J') := (zz_li (zz_la (zz_gI (by decide) (zz_cge (zz_li (zz_ifle (zz_ci (zz_nm (JS 50))) (zz_li (zz_li (zz_irem (zz_nm (JS 50))))))) (zz_li (zz_la (zz_la (zz_gR (by decide) rfl (zz_li (zz_aR (by decide) rfl (zz_Vi CS (zz_ifeq (zz_ci (zz_nm (JS 31))) (zz_ci (zz_nm (JS 31)))))))))))))))
theorem zk_57_31 (CS : kZC T C C') (JS : ∀ b, kZ T (J b) (J' b)) : kZ T (bk_57_31 d C J) (wk_57_31 d C' J') := (zz_ii (zz_si (zz_inc (zz_nm (JS 4)))))
theorem zk_57_50 (CS : kZC T C C') (JS : ∀ b, kZ T (J b) (J' b)) : kZ T (bk_57_50 d C J) (wk_57_50 d C' J') := (zz_si (zz_ci (zz_si (zz_nm (JS 54)))))
theorem zk_57_54 (CS : kZC T C C') (JS : ∀ b, kZ T (J b) (J' b)) : kZ T (bk_57_54 d C J) (wk_57_54 d C' J') := (zz_li (zz_la (zz_gI (by decide) (zz_cge (zz_cn zz_rr) (zz_la (zz_la (zz_gR (by decide) rfl (zz_li (zz_aR (by decide) rfl (zz_Vi CS (zz_ifeq (zz_nm (JS 92)) (zz_li (zz_ifne (zz_inc (zz_nm (JS 92))) (zz_la (zz_gR (by decide) rfl (zz_li (zz_aR (by decide) rfl zz_rr)))))))))))))))))
theorem zk_57_92 (CS : kZC T C C') (JS : ∀ b, kZ T (J b) (J' b)) : kZ T (bk_57_92 d C J) (wk_57_92 d C' J') := (zz_inc (zz_nm (JS 54)))
theorem zm_57 (CS : kZC T C C') (J J' : Nat → kx_F) (JS : ∀ b, kZ T (J b) (J' b)) (b : Nat) : kZ T (bm_57 d C b J) (wm_57 d C' b J') := by
  unfold bm_57 wm_57
  cases h0 : Nat.beq b 0 with
  | true => exact zk_57_0 (d := d) CS JS
  | false =>
   cases h4 : Nat.beq b 4 with
   | true => exact zk_57_4 (d := d) CS JS
   | false =>
    cases h31 : Nat.beq b 31 with
    | true => exact zk_57_31 (d := d) CS JS
    | false =>
     cases h50 : Nat.beq b 50 with
     | true => exact zk_57_50 (d := d) CS JS
     | false =>
      cases h54 : Nat.beq b 54 with
      | true => exact zk_57_54 (d := d) CS JS
      | false =>
       cases h92 : Nat.beq b 92 with
       | true => exact zk_57_92 (d := d) CS JS
       | false =>
        exact zz_no
/-! TaskDesk.isOpen(LTaskDesk$Place;)Z -/
def wk_58_0 (d : Nat) (C : kx_C) (J : Nat → kx_F) : kx_F := (kx_la 1 (kx_nnul (kx_la 1 (wx_gR 4 1 2 (kx_sa 2 (kx_la 1 (wx_gB 4 2 (kx_ifeq (kx_la 0 (kx_la 2 (kx_Vi C 51 0 [4] (kx_nm [] (J 46))))) (kx_la 2 (wx_gB 2 4 (kx_ifne (kx_nm [] (J 33)) (kx_la 0 (kx_la 2 (kx_Vi C 33 0 [4] (kx_ifeq (kx_c (kx_i 0) (kx_nm [] (J 46))) (kx_nm [] (J 33))))))))))))))) (kx_c (kx_i 0) kx_rz)))
def wk_58_33 (d : Nat) (C : kx_C) (J : Nat → kx_F) : kx_F := (kx_c (kx_i 1) (kx_nm [] (J 46)))
def wk_58_46 (d : Nat) (C : kx_C) (J : Nat → kx_F) : kx_F := kx_rz
def wm_58 (d : Nat) (C : kx_C) (b : Nat) (J : Nat → kx_F) : kx_F := bif Nat.beq b 0 then wk_58_0 d C J else bif Nat.beq b 33 then wk_58_33 d C J else bif Nat.beq b 46 then wk_58_46 d C J else fun _ _ _ => none
theorem zk_58_0 (CS : kZC T C C') (JS : ∀ b, kZ T (J b) (J' b)) : kZ T (bk_58_0 d C J) (wk_58_0 d C' J') := (zz_la (zz_nnul (zz_la (zz_gR (by decide) rfl (zz_sa (zz_la (zz_gB (by decide) (zz_ifeq (zz_la (zz_la (zz_Vi CS (zz_nm (JS 46))))) (zz_la (zz_gB (by decide) (zz_ifne (zz_nm (JS 33)) (zz_la (zz_la (zz_Vi CS (zz_ifeq (zz_ci (zz_nm (JS 46))) (zz_nm (JS 33))))))))))))))) (zz_ci zz_rz)))
theorem zk_58_33 (CS : kZC T C C') (JS : ∀ b, kZ T (J b) (J' b)) : kZ T (bk_58_33 d C J) (wk_58_33 d C' J') := (zz_ci (zz_nm (JS 46)))
theorem zk_58_46 (CS : kZC T C C') (JS : ∀ b, kZ T (J b) (J' b)) : kZ T (bk_58_46 d C J) (wk_58_46 d C' J') := zz_rz
theorem zm_58 (CS : kZC T C C') (J J' : Nat → kx_F) (JS : ∀ b, kZ T (J b) (J' b)) (b : Nat) : kZ T (bm_58 d C b J) (wm_58 d C' b J') := by
  unfold bm_58 wm_58
  cases h0 : Nat.beq b 0 with
  | true => exact zk_58_0 (d := d) CS JS
  | false =>
   cases h33 : Nat.beq b 33 with
   | true => exact zk_58_33 (d := d) CS JS
   | false =>
    cases h46 : Nat.beq b 46 with
    | true => exact zk_58_46 (d := d) CS JS
    | false =>
     exact zz_no
/-! TaskDesk.doCase(LTaskDesk$Task;LTaskDesk$Place;)V -/
def wk_59_0 (d : Nat) (C : kx_C) (J : Nat → kx_F) : kx_F := (kx_la 2 (wx_gR 4 1 2 (kx_sa 3 (kx_la 0 (kx_Vv C 60 0 [] (kx_la 2 (wx_gB 4 2 (kx_ifne (kx_la 3 (wx_gB 2 4 (kx_ifeq (kx_la 0 (kx_la 3 (kx_la 2 (wx_gL 4 3 (kx_Vv C 34 0 [4, 1] (kx_la 1 (kx_c (kx_l 0) (kx_c (kx_i 1) (kx_la 2 (wx_gI 4 4 (kx_c (kx_i 0) (kx_Vv C 12 6 [1, 0, 0, 0] (kx_nm [] (J 66)))))))))))))) (kx_thd kx_cc kx_cs d 2)))) (kx_la 0 (kx_la 1 (kx_la 3 (kx_la 2 (wx_gI 4 4 (kx_Vv C 52 0 [8, 4, 0] (kx_nm [] (J 66))))))))))))))))
def wk_59_66 (d : Nat) (C : kx_C) (J : Nat → kx_F) : kx_F := kx_rv
def wm_59 (d : Nat) (C : kx_C) (b : Nat) (J : Nat → kx_F) : kx_F := bif Nat.beq b 0 then wk_59_0 d C J else bif Nat.beq b 66 then wk_59_66 d C J else fun _ _ _ => none
theorem zk_59_0 (CS : kZC T C C') (JS : ∀ b, kZ T (J b) (J' b)) : kZ T (bk_59_0 d C J) (wk_59_0 d C' J') := (zz_la (zz_gR (by decide) rfl (zz_sa (zz_la (zz_Vv CS (zz_la (zz_gB (by decide) (zz_ifne (zz_la (zz_gB (by decide) (zz_ifeq (zz_la (zz_la (zz_la (zz_gL (by decide) (zz_Vv CS (zz_la (zz_cl (zz_ci (zz_la (zz_gI (by decide) (zz_ci (zz_Vv CS (zz_nm (JS 66)))))))))))))) zz_thd))) (zz_la (zz_la (zz_la (zz_la (zz_gI (by decide) (zz_Vv CS (zz_nm (JS 66))))))))))))))))
theorem zk_59_66 (CS : kZC T C C') (JS : ∀ b, kZ T (J b) (J' b)) : kZ T (bk_59_66 d C J) (wk_59_66 d C' J') := zz_rv
theorem zm_59 (CS : kZC T C C') (J J' : Nat → kx_F) (JS : ∀ b, kZ T (J b) (J' b)) (b : Nat) : kZ T (bm_59 d C b J) (wm_59 d C' b J') := by
  unfold bm_59 wm_59
  cases h0 : Nat.beq b 0 with
  | true => exact zk_59_0 (d := d) CS JS
  | false =>
   cases h66 : Nat.beq b 66 with
   | true => exact zk_59_66 (d := d) CS JS
   | false =>
    exact zz_no
/-! TaskDesk.forgetCases()V -/
def wk_60_0 (d : Nat) (C : kx_C) (J : Nat → kx_F) : kx_F := (kx_c (kx_i 0) (kx_si 1 (kx_nm [0, 1] (J 2))))
def wk_60_2 (d : Nat) (C : kx_C) (J : Nat → kx_F) : kx_F := (kx_li 1 (kx_la 0 (wx_gI 0 14 (kx_cge (kx_la 0 (kx_c (kx_i 0) (wx_pI 0 14 kx_rv))) (kx_la 0 (wx_gR 0 13 104 (kx_li 1 (wx_aR 104 4 (kx_nul (kx_nm [0, 1] (J 29)) (kx_la 0 (kx_la 0 (wx_gR 0 13 104 (kx_li 1 (wx_aR 104 4 (kx_Vv C 10 0 [6] (kx_nm [0, 1] (J 29)))))))))))))))))
def wk_60_29 (d : Nat) (C : kx_C) (J : Nat → kx_F) : kx_F := (kx_inc 1 1 (kx_nm [0, 1] (J 2)))
def wm_60 (d : Nat) (C : kx_C) (b : Nat) (J : Nat → kx_F) : kx_F := bif Nat.beq b 0 then wk_60_0 d C J else bif Nat.beq b 2 then wk_60_2 d C J else bif Nat.beq b 29 then wk_60_29 d C J else fun _ _ _ => none
theorem zk_60_0 (CS : kZC T C C') (JS : ∀ b, kZ T (J b) (J' b)) : kZ T (bk_60_0 d C J) (wk_60_0 d C' J') := (zz_ci (zz_si (zz_nm (JS 2))))
theorem zk_60_2 (CS : kZC T C C') (JS : ∀ b, kZ T (J b) (J' b)) : kZ T (bk_60_2 d C J) (wk_60_2 d C' J') := (zz_li (zz_la (zz_gI (by decide) (zz_cge (zz_la (zz_ci (zz_pI (by decide) zz_rv))) (zz_la (zz_gR (by decide) rfl (zz_li (zz_aR (by decide) rfl (zz_nul (zz_nm (JS 29)) (zz_la (zz_la (zz_gR (by decide) rfl (zz_li (zz_aR (by decide) rfl (zz_Vv CS (zz_nm (JS 29)))))))))))))))))
theorem zk_60_29 (CS : kZC T C C') (JS : ∀ b, kZ T (J b) (J' b)) : kZ T (bk_60_29 d C J) (wk_60_29 d C' J') := (zz_inc (zz_nm (JS 2)))
theorem zm_60 (CS : kZC T C C') (J J' : Nat → kx_F) (JS : ∀ b, kZ T (J b) (J' b)) (b : Nat) : kZ T (bm_60 d C b J) (wm_60 d C' b J') := by
  unfold bm_60 wm_60
  cases h0 : Nat.beq b 0 with
  | true => exact zk_60_0 (d := d) CS JS
  | false =>
   cases h2 : Nat.beq b 2 with
   | true => exact zk_60_2 (d := d) CS JS
   | false =>
    cases h29 : Nat.beq b 29 with
    | true => exact zk_60_29 (d := d) CS JS
    | false =>
     exact zz_no
/-! TaskDesk.waitInCases(LTaskDesk$Task;)V -/
def wk_61_0 (d : Nat) (C : kx_C) (J : Nat → kx_F) : kx_F := (kx_la 1 (kx_c (kx_i 7) (wx_pI 6 3 (kx_c (kx_i 0) (kx_si 2 (kx_nm [0, 1, 2] (J 8)))))))
def wk_61_8 (d : Nat) (C : kx_C) (J : Nat → kx_F) : kx_F := (kx_li 2 (kx_la 0 (wx_gI 0 14 (kx_cge (kx_la 0 (kx_c (kx_i 0) (wx_pI 0 14 kx_rv))) (kx_la 0 (wx_gR 0 13 104 (kx_li 2 (wx_aR 104 4 (kx_sa 3 (kx_la 3 (kx_nul (kx_nm [0, 1, 2] (J 87)) (kx_la 3 (wx_gB 4 2 (kx_ifeq (kx_la 3 (wx_gR 4 1 2 (wx_gR 2 2 5 (kx_nm [0, 1, 2, 3] (J 51))))) (kx_la 3 (wx_gR 4 1 2 (wx_gR 2 1 5 (kx_nm [0, 1, 2, 3] (J 51)))))))))))))))))))
def wk_61_51 (d : Nat) (C : kx_C) (J : Nat → kx_F) : kx_F := (kx_sa 4 (kx_la 4 (kx_la 3 (kx_Vv C 28 5 [6] (kx_la 1 (kx_la 3 (kx_Vv C 62 6 [6] (kx_la 1 (kx_la 3 (wx_gR 4 1 2 (kx_la 0 (wx_gR 0 9 2 (kx_ane (kx_c (kx_i 4) (kx_nm [0, 1, 2] (J 84))) (kx_la 1 (wx_gI 6 3 (kx_nm [0, 1, 2] (J 84)))))))))))))))))
def wk_61_84 (d : Nat) (C : kx_C) (J : Nat → kx_F) : kx_F := (wx_pI 6 3 (kx_nm [0, 1, 2] (J 87)))
def wk_61_87 (d : Nat) (C : kx_C) (J : Nat → kx_F) : kx_F := (kx_inc 2 1 (kx_nm [0, 1, 2] (J 8)))
def wm_61 (d : Nat) (C : kx_C) (b : Nat) (J : Nat → kx_F) : kx_F := bif Nat.beq b 0 then wk_61_0 d C J else bif Nat.beq b 8 then wk_61_8 d C J else bif Nat.beq b 51 then wk_61_51 d C J else bif Nat.beq b 84 then wk_61_84 d C J else bif Nat.beq b 87 then wk_61_87 d C J else fun _ _ _ => none
theorem zk_61_0 (CS : kZC T C C') (JS : ∀ b, kZ T (J b) (J' b)) : kZ T (bk_61_0 d C J) (wk_61_0 d C' J') := (zz_la (zz_ci (zz_pI (by decide) (zz_ci (zz_si (zz_nm (JS 8)))))))
theorem zk_61_8 (CS : kZC T C C') (JS : ∀ b, kZ T (J b) (J' b)) : kZ T (bk_61_8 d C J) (wk_61_8 d C' J') := (zz_li (zz_la (zz_gI (by decide) (zz_cge (zz_la (zz_ci (zz_pI (by decide) zz_rv))) (zz_la (zz_gR (by decide) rfl (zz_li (zz_aR (by decide) rfl (zz_sa (zz_la (zz_nul (zz_nm (JS 87)) (zz_la (zz_gB (by decide) (zz_ifeq (zz_la (zz_gR (by decide) rfl (zz_gR (by decide) rfl (zz_nm (JS 51))))) (zz_la (zz_gR (by decide) rfl (zz_gR (by decide) rfl (zz_nm (JS 51)))))))))))))))))))
theorem zk_61_51 (CS : kZC T C C') (JS : ∀ b, kZ T (J b) (J' b)) : kZ T (bk_61_51 d C J) (wk_61_51 d C' J') := (zz_sa (zz_la (zz_la (zz_Vv CS (zz_la (zz_la (zz_Vv CS (zz_la (zz_la (zz_gR (by decide) rfl (zz_la (zz_gR (by decide) rfl (zz_ane (zz_ci (zz_nm (JS 84))) (zz_la (zz_gI (by decide) (zz_nm (JS 84)))))))))))))))))
theorem zk_61_84 (CS : kZC T C C') (JS : ∀ b, kZ T (J b) (J' b)) : kZ T (bk_61_84 d C J) (wk_61_84 d C' J') := (zz_pI (by decide) (zz_nm (JS 87)))
theorem zk_61_87 (CS : kZC T C C') (JS : ∀ b, kZ T (J b) (J' b)) : kZ T (bk_61_87 d C J) (wk_61_87 d C' J') := (zz_inc (zz_nm (JS 8)))
theorem zm_61 (CS : kZC T C C') (J J' : Nat → kx_F) (JS : ∀ b, kZ T (J b) (J' b)) (b : Nat) : kZ T (bm_61 d C b J) (wm_61 d C' b J') := by
  unfold bm_61 wm_61
  cases h0 : Nat.beq b 0 with
  | true => exact zk_61_0 (d := d) CS JS
  | false =>
   cases h8 : Nat.beq b 8 with
   | true => exact zk_61_8 (d := d) CS JS
   | false =>
    cases h51 : Nat.beq b 51 with
    | true => exact zk_61_51 (d := d) CS JS
    | false =>
     cases h84 : Nat.beq b 84 with
     | true => exact zk_61_84 (d := d) CS JS
     | false =>
      cases h87 : Nat.beq b 87 with
      | true => exact zk_61_87 (d := d) CS JS
      | false =>
       exact zz_no
/-! TaskDesk$Task.adopt(LTaskDesk$Place;)V -/
def wk_62_0 (d : Nat) (C : kx_C) (J : Nat → kx_F) : kx_F := (kx_la 1 (kx_la 0 (wx_pR 4 0 6 (kx_la 1 (kx_la 0 (wx_gR 6 5 4 (wx_pR 4 8 4 (kx_la 0 (kx_la 1 (wx_pR 6 5 4 kx_rv))))))))))
def wm_62 (d : Nat) (C : kx_C) (b : Nat) (J : Nat → kx_F) : kx_F := bif Nat.beq b 0 then wk_62_0 d C J else fun _ _ _ => none
theorem zk_62_0 (CS : kZC T C C') (JS : ∀ b, kZ T (J b) (J' b)) : kZ T (bk_62_0 d C J) (wk_62_0 d C' J') := (zz_la (zz_la (zz_pR (by decide) rfl (zz_la (zz_la (zz_gR (by decide) rfl (zz_pR (by decide) rfl (zz_la (zz_la (zz_pR (by decide) rfl zz_rv))))))))))
theorem zm_62 (CS : kZC T C C') (J J' : Nat → kx_F) (JS : ∀ b, kZ T (J b) (J' b)) (b : Nat) : kZ T (bm_62 d C b J) (wm_62 d C' b J') := by
  unfold bm_62 wm_62
  cases h0 : Nat.beq b 0 with
  | true => exact zk_62_0 (d := d) CS JS
  | false =>
   exact zz_no
/-! TaskDesk.gate(II)I -/
def wk_63_0 (d : Nat) (C : kx_C) (J : Nat → kx_F) : kx_F := (kx_li 1 (kx_c (kx_i 3) (kx_cne (kx_c (kx_r 3 none) (kx_nm [0, 1] (J 14))) (kx_la 0 (kx_li 2 (kx_Vr C 64 0 [0] 3 (kx_nm [0, 1] (J 14))))))))
def wk_63_14 (d : Nat) (C : kx_C) (J : Nat → kx_F) : kx_F := (kx_sa 3 (kx_li 1 (kx_c (kx_i 3) (kx_cne (kx_nm [0, 1, 3] (J 35)) (kx_la 3 (kx_nul (kx_nm [0, 1, 3] (J 31)) (kx_la 3 (wx_gI 3 3 (kx_ifeq (kx_nm [0, 1, 3] (J 35)) (kx_nm [0, 1, 3] (J 31)))))))))))
def wk_63_31 (d : Nat) (C : kx_C) (J : Nat → kx_F) : kx_F := (kx_c (kx_i 1) (kx_nm [0, 1, 3] (J 36)))
def wk_63_35 (d : Nat) (C : kx_C) (J : Nat → kx_F) : kx_F := (kx_c (kx_i 0) (kx_nm [0, 1, 3] (J 36)))
def wk_63_36 (d : Nat) (C : kx_C) (J : Nat → kx_F) : kx_F := (kx_si 4 (kx_li 1 (kx_iflt (kx_nm [] (J 52)) (kx_li 1 (kx_c (kx_i 4) (kx_cgt (kx_nm [] (J 52)) (kx_li 4 (kx_ifeq (kx_la 0 (wx_gI 0 17 (kx_c (kx_i 256) (kx_clt (kx_la 0 (wx_gR 0 16 105 (kx_la 0 (wx_gI 0 17 (wx_aR 105 3 (kx_sa 5 (kx_la 5 (kx_li 1 (wx_pI 3 3 (kx_la 5 (kx_la 3 (wx_pR 3 5 3 (kx_la 0 (kx_dup (wx_gI 0 17 (kx_c (kx_i 1) (kx_ii (fun x y => x + y) (wx_pI 0 17 (kx_la 5 (wx_gI 3 0 kx_ri)))))))))))))))))))) (kx_thd kx_cc kx_cs d 0))))) (kx_nm [] (J 52))))))))))
def wk_63_52 (d : Nat) (C : kx_C) (J : Nat → kx_F) : kx_F := (kx_thd kx_cc kx_cs d 1)
def wm_63 (d : Nat) (C : kx_C) (b : Nat) (J : Nat → kx_F) : kx_F := bif Nat.beq b 0 then wk_63_0 d C J else bif Nat.beq b 14 then wk_63_14 d C J else bif Nat.beq b 31 then wk_63_31 d C J else bif Nat.beq b 35 then wk_63_35 d C J else bif Nat.beq b 36 then wk_63_36 d C J else bif Nat.beq b 52 then wk_63_52 d C J else fun _ _ _ => none
theorem zk_63_0 (CS : kZC T C C') (JS : ∀ b, kZ T (J b) (J' b)) : kZ T (bk_63_0 d C J) (wk_63_0 d C' J') := (zz_li (zz_ci (zz_cne (zz_cn (zz_nm (JS 14))) (zz_la (zz_li (zz_Vr CS (zz_nm (JS 14))))))))
theorem zk_63_14 (CS : kZC T C C') (JS : ∀ b, kZ T (J b) (J' b)) : kZ T (bk_63_14 d C J) (wk_63_14 d C' J') := (zz_sa (zz_li (zz_ci (zz_cne (zz_nm (JS 35)) (zz_la (zz_nul (zz_nm (JS 31)) (zz_la (zz_gI (by decide) (zz_ifeq (zz_nm (JS 35)) (zz_nm (JS 31)))))))))))
theorem zk_63_31 (CS : kZC T C C') (JS : ∀ b, kZ T (J b) (J' b)) : kZ T (bk_63_31 d C J) (wk_63_31 d C' J') := (zz_ci (zz_nm (JS 36)))
theorem zk_63_35 (CS : kZC T C C') (JS : ∀ b, kZ T (J b) (J' b)) : kZ T (bk_63_35 d C J) (wk_63_35 d C' J') := (zz_ci (zz_nm (JS 36)))
theorem zk_63_36 (CS : kZC T C C') (JS : ∀ b, kZ T (J b) (J' b)) : kZ T (bk_63_36 d C J) (wk_63_36 d C' J') := (zz_si (zz_li (zz_iflt (zz_nm (JS 52)) (zz_li (zz_ci (zz_cgt (zz_nm (JS 52)) (zz_li (zz_ifeq (zz_la (zz_gI (by decide) (zz_ci (zz_clt (zz_la (zz_gR (by decide) rfl (zz_la (zz_gI (by decide) (zz_aR (by decide) rfl (zz_sa (zz_la (zz_li (zz_pI (by decide) (zz_la (zz_la (zz_pR (by decide) rfl (zz_la (zz_dup (zz_gI (by decide) (zz_ci (zz_ii (zz_pI (by decide) (zz_la (zz_gI (by decide) zz_ri)))))))))))))))))))) zz_thd)))) (zz_nm (JS 52))))))))))
theorem zk_63_52 (CS : kZC T C C') (JS : ∀ b, kZ T (J b) (J' b)) : kZ T (bk_63_52 d C J) (wk_63_52 d C' J') := zz_thd
theorem zm_63 (CS : kZC T C C') (J J' : Nat → kx_F) (JS : ∀ b, kZ T (J b) (J' b)) (b : Nat) : kZ T (bm_63 d C b J) (wm_63 d C' b J') := by
  unfold bm_63 wm_63
  cases h0 : Nat.beq b 0 with
  | true => exact zk_63_0 (d := d) CS JS
  | false =>
   cases h14 : Nat.beq b 14 with
   | true => exact zk_63_14 (d := d) CS JS
   | false =>
    cases h31 : Nat.beq b 31 with
    | true => exact zk_63_31 (d := d) CS JS
    | false =>
     cases h35 : Nat.beq b 35 with
     | true => exact zk_63_35 (d := d) CS JS
     | false =>
      cases h36 : Nat.beq b 36 with
      | true => exact zk_63_36 (d := d) CS JS
      | false =>
       cases h52 : Nat.beq b 52 with
       | true => exact zk_63_52 (d := d) CS JS
       | false =>
        exact zz_no
/-! TaskDesk.gateAt(I)LTaskDesk$Gate; -/
def wk_64_0 (d : Nat) (C : kx_C) (J : Nat → kx_F) : kx_F := (kx_li 1 (kx_iflt (kx_nm [] (J 12)) (kx_li 1 (kx_la 0 (wx_gI 0 17 (kx_clt (kx_la 0 (wx_gR 0 16 105 (kx_li 1 (wx_aR 105 3 (kx_nm [] (J 22)))))) (kx_nm [] (J 12))))))))
def wk_64_12 (d : Nat) (C : kx_C) (J : Nat → kx_F) : kx_F := (kx_c (kx_r 3 none) (kx_nm [] (J 22)))
def wk_64_22 (d : Nat) (C : kx_C) (J : Nat → kx_F) : kx_F := kx_rr
def wm_64 (d : Nat) (C : kx_C) (b : Nat) (J : Nat → kx_F) : kx_F := bif Nat.beq b 0 then wk_64_0 d C J else bif Nat.beq b 12 then wk_64_12 d C J else bif Nat.beq b 22 then wk_64_22 d C J else fun _ _ _ => none
theorem zk_64_0 (CS : kZC T C C') (JS : ∀ b, kZ T (J b) (J' b)) : kZ T (bk_64_0 d C J) (wk_64_0 d C' J') := (zz_li (zz_iflt (zz_nm (JS 12)) (zz_li (zz_la (zz_gI (by decide) (zz_clt (zz_la (zz_gR (by decide) rfl (zz_li (zz_aR (by decide) rfl (zz_nm (JS 22)))))) (zz_nm (JS 12))))))))
theorem zk_64_12 (CS : kZC T C C') (JS : ∀ b, kZ T (J b) (J' b)) : kZ T (bk_64_12 d C J) (wk_64_12 d C' J') := (zz_cn (zz_nm (JS 22)))
theorem zk_64_22 (CS : kZC T C C') (JS : ∀ b, kZ T (J b) (J' b)) : kZ T (bk_64_22 d C J) (wk_64_22 d C' J') := zz_rr
theorem zm_64 (CS : kZC T C C') (J J' : Nat → kx_F) (JS : ∀ b, kZ T (J b) (J' b)) (b : Nat) : kZ T (bm_64 d C b J) (wm_64 d C' b J') := by
  unfold bm_64 wm_64
  cases h0 : Nat.beq b 0 with
  | true => exact zk_64_0 (d := d) CS JS
  | false =>
   cases h12 : Nat.beq b 12 with
   | true => exact zk_64_12 (d := d) CS JS
   | false =>
    cases h22 : Nat.beq b 22 with
    | true => exact zk_64_22 (d := d) CS JS
    | false =>
     exact zz_no
/-! TaskDesk.enter(I)Z -/
def wk_65_0 (d : Nat) (C : kx_C) (J : Nat → kx_F) : kx_F := (kx_la 0 (kx_li 1 (kx_Vr C 66 0 [0] 3 (kx_sa 2 (kx_la 0 (kx_Vr C 24 0 [] 6 (kx_sa 3 (kx_la 2 (wx_gI 3 3 (kx_c (kx_i 3) (kx_cne (kx_nm [0, 2, 3] (J 24)) (kx_la 0 (kx_la 2 (kx_Vv C 67 0 [5] (kx_nm [0, 2, 3] (J 24))))))))))))))))
def wk_65_24 (d : Nat) (C : kx_C) (J : Nat → kx_F) : kx_F := (kx_la 2 (kx_Vi C 69 3 [] (kx_ifeq (kx_la 3 (kx_la 2 (wx_gR 3 1 5 (kx_c (kx_i 6) (kx_la 2 (wx_gI 3 0 (kx_Vv C 27 6 [7, 0, 0] (kx_la 0 (kx_Vv C 30 0 [] (kx_c (kx_i 0) kx_rz)))))))))) (kx_la 2 (wx_gI 3 3 (kx_c (kx_i 4) (kx_cne (kx_nm [2, 3] (J 46)) (kx_la 2 (wx_gI 3 4 (kx_ifne (kx_c (kx_i 0) (kx_nm [2, 3] (J 51))) (kx_nm [2, 3] (J 46))))))))))))
def wk_65_46 (d : Nat) (C : kx_C) (J : Nat → kx_F) : kx_F := (kx_c (kx_i 1) (kx_nm [2, 3] (J 51)))
def wk_65_51 (d : Nat) (C : kx_C) (J : Nat → kx_F) : kx_F := (kx_si 4 (kx_la 2 (kx_Vv C 70 3 [] (kx_la 3 (kx_c (kx_l 0) (kx_li 4 (kx_c (kx_i (-1)) (kx_c (kx_i 0) (kx_Vv C 12 6 [1, 0, 0, 0] (kx_c (kx_i 1) kx_rz))))))))))
def wm_65 (d : Nat) (C : kx_C) (b : Nat) (J : Nat → kx_F) : kx_F := bif Nat.beq b 0 then wk_65_0 d C J else bif Nat.beq b 24 then wk_65_24 d C J else bif Nat.beq b 46 then wk_65_46 d C J else bif Nat.beq b 51 then wk_65_51 d C J else fun _ _ _ => none
theorem zk_65_0 (CS : kZC T C C') (JS : ∀ b, kZ T (J b) (J' b)) : kZ T (bk_65_0 d C J) (wk_65_0 d C' J') := (zz_la (zz_li (zz_Vr CS (zz_sa (zz_la (zz_Vr CS (zz_sa (zz_la (zz_gI (by decide) (zz_ci (zz_cne (zz_nm (JS 24)) (zz_la (zz_la (zz_Vv CS (zz_nm (JS 24))))))))))))))))
theorem zk_65_24 (CS : kZC T C C') (JS : ∀ b, kZ T (J b) (J' b)) : kZ T (bk_65_24 d C J) (wk_65_24 d C' J') := (zz_la (zz_Vi CS (zz_ifeq (zz_la (zz_la (zz_gR (by decide) rfl (zz_ci (zz_la (zz_gI (by decide) (zz_Vv CS (zz_la (zz_Vv CS (zz_ci zz_rz)))))))))) (zz_la (zz_gI (by decide) (zz_ci (zz_cne (zz_nm (JS 46)) (zz_la (zz_gI (by decide) (zz_ifne (zz_ci (zz_nm (JS 51))) (zz_nm (JS 46))))))))))))
theorem zk_65_46 (CS : kZC T C C') (JS : ∀ b, kZ T (J b) (J' b)) : kZ T (bk_65_46 d C J) (wk_65_46 d C' J') := (zz_ci (zz_nm (JS 51)))
theorem zk_65_51 (CS : kZC T C C') (JS : ∀ b, kZ T (J b) (J' b)) : kZ T (bk_65_51 d C J) (wk_65_51 d C' J') := (zz_si (zz_la (zz_Vv CS (zz_la (zz_cl (zz_li (zz_ci (zz_ci (zz_Vv CS (zz_ci zz_rz))))))))))
theorem zm_65 (CS : kZC T C C') (J J' : Nat → kx_F) (JS : ∀ b, kZ T (J b) (J' b)) (b : Nat) : kZ T (bm_65 d C b J) (wm_65 d C' b J') := by
  unfold bm_65 wm_65
  cases h0 : Nat.beq b 0 with
  | true => exact zk_65_0 (d := d) CS JS
  | false =>
   cases h24 : Nat.beq b 24 with
   | true => exact zk_65_24 (d := d) CS JS
   | false =>
    cases h46 : Nat.beq b 46 with
    | true => exact zk_65_46 (d := d) CS JS
    | false =>
     cases h51 : Nat.beq b 51 with
     | true => exact zk_65_51 (d := d) CS JS
     | false =>
      exact zz_no
/-! TaskDesk.mustBeGate(I)LTaskDesk$Gate; -/
def wk_66_0 (d : Nat) (C : kx_C) (J : Nat → kx_F) : kx_F := (kx_la 0 (kx_li 1 (kx_Vr C 64 0 [0] 3 (kx_sa 2 (kx_la 2 (kx_nnul (kx_la 2 kx_rr) (kx_thd kx_cc kx_cs d 1)))))))
def wm_66 (d : Nat) (C : kx_C) (b : Nat) (J : Nat → kx_F) : kx_F := bif Nat.beq b 0 then wk_66_0 d C J else fun _ _ _ => none
theorem zk_66_0 (CS : kZC T C C') (JS : ∀ b, kZ T (J b) (J' b)) : kZ T (bk_66_0 d C J) (wk_66_0 d C' J') := (zz_la (zz_li (zz_Vr CS (zz_sa (zz_la (zz_nnul (zz_la zz_rr) zz_thd))))))
theorem zm_66 (CS : kZC T C C') (J J' : Nat → kx_F) (JS : ∀ b, kZ T (J b) (J' b)) (b : Nat) : kZ T (bm_66 d C b J) (wm_66 d C' b J') := by
  unfold bm_66 wm_66
  cases h0 : Nat.beq b 0 with
  | true => exact zk_66_0 (d := d) CS JS
  | false =>
   exact zz_no
/-! TaskDesk.giveUpLockOf(LTaskDesk$Gate;)V -/
def wk_67_0 (d : Nat) (C : kx_C) (J : Nat → kx_F) : kx_F := (kx_la 1 (wx_gR 3 5 3 (kx_nul (kx_nm [] (J 17)) (kx_la 1 (wx_gR 3 5 3 (wx_gI 3 4 (kx_ifne (kx_la 0 (kx_la 1 (wx_gR 3 5 3 (kx_Vv C 68 0 [5] kx_rv)))) (kx_nm [] (J 17)))))))))
def wk_67_17 (d : Nat) (C : kx_C) (J : Nat → kx_F) : kx_F := (kx_thd kx_cc kx_cs d 2)
def wm_67 (d : Nat) (C : kx_C) (b : Nat) (J : Nat → kx_F) : kx_F := bif Nat.beq b 0 then wk_67_0 d C J else bif Nat.beq b 17 then wk_67_17 d C J else fun _ _ _ => none
theorem zk_67_0 (CS : kZC T C C') (JS : ∀ b, kZ T (J b) (J' b)) : kZ T (bk_67_0 d C J) (wk_67_0 d C' J') := (zz_la (zz_gR (by decide) rfl (zz_nul (zz_nm (JS 17)) (zz_la (zz_gR (by decide) rfl (zz_gI (by decide) (zz_ifne (zz_la (zz_la (zz_gR (by decide) rfl (zz_Vv CS zz_rv)))) (zz_nm (JS 17)))))))))
theorem zk_67_17 (CS : kZC T C C') (JS : ∀ b, kZ T (J b) (J' b)) : kZ T (bk_67_17 d C J) (wk_67_17 d C' J') := zz_thd
theorem zm_67 (CS : kZC T C C') (J J' : Nat → kx_F) (JS : ∀ b, kZ T (J b) (J' b)) (b : Nat) : kZ T (bm_67 d C b J) (wm_67 d C' b J') := by
  unfold bm_67 wm_67
  cases h0 : Nat.beq b 0 with
  | true => exact zk_67_0 (d := d) CS JS
  | false =>
   cases h17 : Nat.beq b 17 with
   | true => exact zk_67_17 (d := d) CS JS
   | false =>
    exact zz_no
/-! TaskDesk.giveLockBack(LTaskDesk$Gate;)V -/
def wk_68_0 (d : Nat) (C : kx_C) (J : Nat → kx_F) : kx_F := (kx_la 1 (wx_gR 3 1 5 (wx_gR 5 0 4 (kx_sa 2 (kx_la 2 (kx_nnul (kx_la 0 (kx_la 2 (kx_c (kx_l 0) (kx_c (kx_i 1) (kx_c (kx_i 0) (kx_Vv C 35 0 [6, 1, 0, 0] (kx_nm [] (J 28)))))))) (kx_la 1 (kx_c (kx_i 0) (wx_pI 3 4 (kx_nm [] (J 28)))))))))))
def wk_68_28 (d : Nat) (C : kx_C) (J : Nat → kx_F) : kx_F := kx_rv
def wm_68 (d : Nat) (C : kx_C) (b : Nat) (J : Nat → kx_F) : kx_F := bif Nat.beq b 0 then wk_68_0 d C J else bif Nat.beq b 28 then wk_68_28 d C J else fun _ _ _ => none
theorem zk_68_0 (CS : kZC T C C') (JS : ∀ b, kZ T (J b) (J' b)) : kZ T (bk_68_0 d C J) (wk_68_0 d C' J') := (zz_la (zz_gR (by decide) rfl (zz_gR (by decide) rfl (zz_sa (zz_la (zz_nnul (zz_la (zz_la (zz_cl (zz_ci (zz_ci (zz_Vv CS (zz_nm (JS 28)))))))) (zz_la (zz_ci (zz_pI (by decide) (zz_nm (JS 28)))))))))))
theorem zk_68_28 (CS : kZC T C C') (JS : ∀ b, kZ T (J b) (J' b)) : kZ T (bk_68_28 d C J) (wk_68_28 d C' J') := zz_rv
theorem zm_68 (CS : kZC T C C') (J J' : Nat → kx_F) (JS : ∀ b, kZ T (J b) (J' b)) (b : Nat) : kZ T (bm_68 d C b J) (wm_68 d C' b J') := by
  unfold bm_68 wm_68
  cases h0 : Nat.beq b 0 with
  | true => exact zk_68_0 (d := d) CS JS
  | false =>
   cases h28 : Nat.beq b 28 with
   | true => exact zk_68_28 (d := d) CS JS
   | false =>
    exact zz_no
/-! TaskDesk$Gate.letsInAtOnce()Z -/
def wk_69_0 (d : Nat) (C : kx_C) (J : Nat → kx_F) : kx_F := (kx_la 0 (wx_gI 3 3 (kx_sw [(3, (kx_c (kx_i 0) kx_rz)), (4, (kx_la 0 (wx_gI 3 4 (kx_c (kx_i 1) (kx_ceq (kx_c (kx_i 0) (kx_nm [] (J 47))) (kx_c (kx_i 1) (kx_nm [] (J 47))))))))] (kx_la 0 (wx_gI 3 4 (kx_ifne (kx_c (kx_i 0) (kx_nm [] (J 60))) (kx_c (kx_i 1) (kx_nm [] (J 60)))))))))
def wk_69_47 (d : Nat) (C : kx_C) (J : Nat → kx_F) : kx_F := kx_rz
def wk_69_60 (d : Nat) (C : kx_C) (J : Nat → kx_F) : kx_F := kx_rz
def wm_69 (d : Nat) (C : kx_C) (b : Nat) (J : Nat → kx_F) : kx_F := bif Nat.beq b 0 then wk_69_0 d C J else bif Nat.beq b 47 then wk_69_47 d C J else bif Nat.beq b 60 then wk_69_60 d C J else fun _ _ _ => none
theorem zk_69_0 (CS : kZC T C C') (JS : ∀ b, kZ T (J b) (J' b)) : kZ T (bk_69_0 d C J) (wk_69_0 d C' J') := (zz_la (zz_gI (by decide) (zz_sw ⟨rfl, (zz_ci zz_rz), ⟨rfl, (zz_la (zz_gI (by decide) (zz_ci (zz_ceq (zz_ci (zz_nm (JS 47))) (zz_ci (zz_nm (JS 47))))))), trivial⟩⟩ (zz_la (zz_gI (by decide) (zz_ifne (zz_ci (zz_nm (JS 60))) (zz_ci (zz_nm (JS 60)))))))))
theorem zk_69_47 (CS : kZC T C C') (JS : ∀ b, kZ T (J b) (J' b)) : kZ T (bk_69_47 d C J) (wk_69_47 d C' J') := zz_rz
theorem zk_69_60 (CS : kZC T C C') (JS : ∀ b, kZ T (J b) (J' b)) : kZ T (bk_69_60 d C J) (wk_69_60 d C' J') := zz_rz
theorem zm_69 (CS : kZC T C C') (J J' : Nat → kx_F) (JS : ∀ b, kZ T (J b) (J' b)) (b : Nat) : kZ T (bm_69 d C b J) (wm_69 d C' b J') := by
  unfold bm_69 wm_69
  cases h0 : Nat.beq b 0 with
  | true => exact zk_69_0 (d := d) CS JS
  | false =>
   cases h47 : Nat.beq b 47 with
   | true => exact zk_69_47 (d := d) CS JS
   | false =>
    cases h60 : Nat.beq b 60 with
    | true => exact zk_69_60 (d := d) CS JS
    | false =>
     exact zz_no
/-! TaskDesk$Gate.take()V -/
def wk_70_0 (d : Nat) (C : kx_C) (J : Nat → kx_F) : kx_F := (kx_la 0 (wx_gI 3 3 (kx_ifne (kx_la 0 (wx_gI 3 3 (kx_c (kx_i 1) (kx_cne (kx_la 0 (wx_gI 3 3 (kx_c (kx_i 4) (kx_cne (kx_nm [] (J 51)) (kx_la 0 (wx_gI 3 4 (kx_ifne (kx_nm [] (J 51)) (kx_la 0 (kx_c (kx_i 1) (wx_pI 3 4 (kx_nm [] (J 51)))))))))))) (kx_la 0 (kx_c (kx_i (-1)) (wx_pI 3 4 (kx_nm [] (J 51))))))))) (kx_la 0 (kx_c (kx_i 1) (wx_pI 3 4 (kx_nm [] (J 51))))))))
def wk_70_51 (d : Nat) (C : kx_C) (J : Nat → kx_F) : kx_F := kx_rv
def wm_70 (d : Nat) (C : kx_C) (b : Nat) (J : Nat → kx_F) : kx_F := bif Nat.beq b 0 then wk_70_0 d C J else bif Nat.beq b 51 then wk_70_51 d C J else fun _ _ _ => none
theorem zk_70_0 (CS : kZC T C C') (JS : ∀ b, kZ T (J b) (J' b)) : kZ T (bk_70_0 d C J) (wk_70_0 d C' J') := (zz_la (zz_gI (by decide) (zz_ifne (zz_la (zz_gI (by decide) (zz_ci (zz_cne (zz_la (zz_gI (by decide) (zz_ci (zz_cne (zz_nm (JS 51)) (zz_la (zz_gI (by decide) (zz_ifne (zz_nm (JS 51)) (zz_la (zz_ci (zz_pI (by decide) (zz_nm (JS 51)))))))))))) (zz_la (zz_ci (zz_pI (by decide) (zz_nm (JS 51))))))))) (zz_la (zz_ci (zz_pI (by decide) (zz_nm (JS 51))))))))
theorem zk_70_51 (CS : kZC T C C') (JS : ∀ b, kZ T (J b) (J' b)) : kZ T (bk_70_51 d C J) (wk_70_51 d C' J') := zz_rv
theorem zm_70 (CS : kZC T C C') (J J' : Nat → kx_F) (JS : ∀ b, kZ T (J b) (J' b)) (b : Nat) : kZ T (bm_70 d C b J) (wm_70 d C' b J') := by
  unfold bm_70 wm_70
  cases h0 : Nat.beq b 0 with
  | true => exact zk_70_0 (d := d) CS JS
  | false =>
   cases h51 : Nat.beq b 51 with
   | true => exact zk_70_51 (d := d) CS JS
   | false =>
    exact zz_no
/-! TaskDesk.read(I)Z -/
def wk_71_0 (d : Nat) (C : kx_C) (J : Nat → kx_F) : kx_F := (kx_la 0 (kx_li 1 (kx_Vr C 66 0 [0] 3 (kx_sa 2 (kx_la 2 (wx_gI 3 3 (kx_c (kx_i 1) (kx_ceq (kx_la 0 (kx_Vr C 24 0 [] 6 (kx_sa 3 (kx_la 2 (wx_gI 3 4 (kx_c (kx_i (-1)) (kx_ceq (kx_nm [0, 2, 3] (J 68)) (kx_la 2 (wx_gR 3 1 5 (wx_gR 5 0 4 (kx_nnul (kx_nm [0, 2, 3] (J 68)) (kx_la 2 (kx_dup (wx_gI 3 4 (kx_c (kx_i 1) (kx_ii (fun x y => x + y) (wx_pI 3 4 (kx_la 3 (kx_c (kx_l 0) (kx_c (kx_i 1) (kx_c (kx_i (-1)) (kx_c (kx_i 0) (kx_Vv C 12 6 [1, 0, 0, 0] (kx_c (kx_i 1) kx_rz)))))))))))))))))))))))) (kx_thd kx_cc kx_cs d 1)))))))))
def wk_71_68 (d : Nat) (C : kx_C) (J : Nat → kx_F) : kx_F := (kx_la 3 (kx_la 2 (wx_gR 3 2 5 (kx_c (kx_i 6) (kx_la 2 (wx_gI 3 0 (kx_Vv C 27 6 [7, 0, 0] (kx_la 0 (kx_Vv C 30 0 [] (kx_c (kx_i 0) kx_rz))))))))))
def wm_71 (d : Nat) (C : kx_C) (b : Nat) (J : Nat → kx_F) : kx_F := bif Nat.beq b 0 then wk_71_0 d C J else bif Nat.beq b 68 then wk_71_68 d C J else fun _ _ _ => none
theorem zk_71_0 (CS : kZC T C C') (JS : ∀ b, kZ T (J b) (J' b)) : kZ T (bk_71_0 d C J) (wk_71_0 d C' J') := (zz_la (zz_li (zz_Vr CS (zz_sa (zz_la (zz_gI (by decide) (zz_ci (zz_ceq (zz_la (zz_Vr CS (zz_sa (zz_la (zz_gI (by decide) (zz_ci (zz_ceq (zz_nm (JS 68)) (zz_la (zz_gR (by decide) rfl (zz_gR (by decide) rfl (zz_nnul (zz_nm (JS 68)) (zz_la (zz_dup (zz_gI (by decide) (zz_ci (zz_ii (zz_pI (by decide) (zz_la (zz_cl (zz_ci (zz_ci (zz_ci (zz_Vv CS (zz_ci zz_rz)))))))))))))))))))))))) zz_thd))))))))
theorem zk_71_68 (CS : kZC T C C') (JS : ∀ b, kZ T (J b) (J' b)) : kZ T (bk_71_68 d C J) (wk_71_68 d C' J') := (zz_la (zz_la (zz_gR (by decide) rfl (zz_ci (zz_la (zz_gI (by decide) (zz_Vv CS (zz_la (zz_Vv CS (zz_ci zz_rz))))))))))
theorem zm_71 (CS : kZC T C C') (J J' : Nat → kx_F) (JS : ∀ b, kZ T (J b) (J' b)) (b : Nat) : kZ T (bm_71 d C b J) (wm_71 d C' b J') := by
  unfold bm_71 wm_71
  cases h0 : Nat.beq b 0 with
  | true => exact zk_71_0 (d := d) CS JS
  | false =>
   cases h68 : Nat.beq b 68 with
   | true => exact zk_71_68 (d := d) CS JS
   | false =>
    exact zz_no
/-! TaskDesk.leave(I)V -/
def wk_72_0 (d : Nat) (C : kx_C) (J : Nat → kx_F) : kx_F := (kx_la 0 (kx_li 1 (kx_Vr C 66 0 [0] 3 (kx_sa 2 (kx_la 0 (kx_Vr C 24 0 [] 6 (kx_pop (kx_la 2 (kx_Vi C 73 3 [] (kx_ifne (kx_la 2 (wx_gI 3 3 (kx_sw [(0, (kx_la 0 (kx_la 2 (kx_Vv C 68 0 [5] (kx_nm [] (J 117)))))), (1, (kx_la 0 (kx_la 2 (kx_Vv C 74 0 [5] (kx_nm [] (J 117)))))), (2, (kx_la 0 (kx_la 2 (kx_la 2 (wx_gI 3 4 (kx_c (kx_i 1) (kx_ii (fun x y => x - y) (kx_Vv C 76 0 [5, 0] (kx_nm [] (J 117)))))))))), (3, (kx_la 0 (kx_la 2 (kx_Vv C 77 0 [5] (kx_nm [] (J 117))))))] (kx_la 2 (kx_c (kx_i 2) (wx_pI 3 4 (kx_la 0 (kx_la 2 (wx_gR 3 1 5 (kx_c (kx_i 0) (kx_c (kx_i 0) (kx_Vv C 54 0 [7, 0, 0] (kx_nm [] (J 117)))))))))))))) (kx_thd kx_cc kx_cs d 2)))))))))))
def wk_72_117 (d : Nat) (C : kx_C) (J : Nat → kx_F) : kx_F := kx_rv
def wm_72 (d : Nat) (C : kx_C) (b : Nat) (J : Nat → kx_F) : kx_F := bif Nat.beq b 0 then wk_72_0 d C J else bif Nat.beq b 117 then wk_72_117 d C J else fun _ _ _ => none
theorem zk_72_0 (CS : kZC T C C') (JS : ∀ b, kZ T (J b) (J' b)) : kZ T (bk_72_0 d C J) (wk_72_0 d C' J') := (zz_la (zz_li (zz_Vr CS (zz_sa (zz_la (zz_Vr CS (zz_pop (zz_la (zz_Vi CS (zz_ifne (zz_la (zz_gI (by decide) (zz_sw ⟨rfl, (zz_la (zz_la (zz_Vv CS (zz_nm (JS 117))))), ⟨rfl, (zz_la (zz_la (zz_Vv CS (zz_nm (JS 117))))), ⟨rfl, (zz_la (zz_la (zz_la (zz_gI (by decide) (zz_ci (zz_ii (zz_Vv CS (zz_nm (JS 117))))))))), ⟨rfl, (zz_la (zz_la (zz_Vv CS (zz_nm (JS 117))))), trivial⟩⟩⟩⟩ (zz_la (zz_ci (zz_pI (by decide) (zz_la (zz_la (zz_gR (by decide) rfl (zz_ci (zz_ci (zz_Vv CS (zz_nm (JS 117)))))))))))))) zz_thd))))))))))
theorem zk_72_117 (CS : kZC T C C') (JS : ∀ b, kZ T (J b) (J' b)) : kZ T (bk_72_117 d C J) (wk_72_117 d C' J') := zz_rv
theorem zm_72 (CS : kZC T C C') (J J' : Nat → kx_F) (JS : ∀ b, kZ T (J b) (J' b)) (b : Nat) : kZ T (bm_72 d C b J) (wm_72 d C' b J') := by
  unfold bm_72 wm_72
  cases h0 : Nat.beq b 0 with
  | true => exact zk_72_0 (d := d) CS JS
  | false =>
   cases h117 : Nat.beq b 117 with
   | true => exact zk_72_117 (d := d) CS JS
   | false =>
    exact zz_no
/-! TaskDesk$Gate.canBeLeft()Z -/
def wk_73_0 (d : Nat) (C : kx_C) (J : Nat → kx_F) : kx_F := (kx_la 0 (wx_gI 3 3 (kx_sw [(0, (kx_la 0 (wx_gI 3 4 (kx_c (kx_i 1) (kx_cne (kx_c (kx_i 0) (kx_nm [] (J 49))) (kx_c (kx_i 1) (kx_nm [] (J 49)))))))), (1, (kx_la 0 (wx_gI 3 4 (kx_c (kx_i (-1)) (kx_cne (kx_c (kx_i 0) (kx_nm [] (J 63))) (kx_c (kx_i 1) (kx_nm [] (J 63)))))))), (2, (kx_la 0 (wx_gI 3 4 (kx_ifle (kx_c (kx_i 0) (kx_nm [] (J 76))) (kx_c (kx_i 1) (kx_nm [] (J 76))))))), (3, (kx_c (kx_i 1) kx_rz))] (kx_la 0 (wx_gI 3 4 (kx_c (kx_i 1) (kx_cne (kx_c (kx_i 0) (kx_nm [] (J 92))) (kx_c (kx_i 1) (kx_nm [] (J 92))))))))))
def wk_73_49 (d : Nat) (C : kx_C) (J : Nat → kx_F) : kx_F := kx_rz
def wk_73_63 (d : Nat) (C : kx_C) (J : Nat → kx_F) : kx_F := kx_rz
def wk_73_76 (d : Nat) (C : kx_C) (J : Nat → kx_F) : kx_F := kx_rz
def wk_73_92 (d : Nat) (C : kx_C) (J : Nat → kx_F) : kx_F := kx_rz
def wm_73 (d : Nat) (C : kx_C) (b : Nat) (J : Nat → kx_F) : kx_F := bif Nat.beq b 0 then wk_73_0 d C J else bif Nat.beq b 49 then wk_73_49 d C J else bif Nat.beq b 63 then wk_73_63 d C J else bif Nat.beq b 76 then wk_73_76 d C J else bif Nat.beq b 92 then wk_73_92 d C J else fun _ _ _ => none
theorem zk_73_0 (CS : kZC T C C') (JS : ∀ b, kZ T (J b) (J' b)) : kZ T (bk_73_0 d C J) (wk_73_0 d C' J') := (zz_la (zz_gI (by decide) (zz_sw ⟨rfl, (zz_la (zz_gI (by decide) (zz_ci (zz_cne (zz_ci (zz_nm (JS 49))) (zz_ci (zz_nm (JS 49))))))), ⟨rfl, (zz_la (zz_gI (by decide) (zz_ci (zz_cne (zz_ci (zz_nm (JS 63))) (zz_ci (zz_nm (JS 63))))))), ⟨rfl, (zz_la (zz_gI (by decide) (zz_ifle (zz_ci (zz_nm (JS 76))) (zz_ci (zz_nm (JS 76)))))), ⟨rfl, (zz_ci zz_rz), trivial⟩⟩⟩⟩ (zz_la (zz_gI (by decide) (zz_ci (zz_cne (zz_ci (zz_nm (JS 92))) (zz_ci (zz_nm (JS 92))))))))))
theorem zk_73_49 (CS : kZC T C C') (JS : ∀ b, kZ T (J b) (J' b)) : kZ T (bk_73_49 d C J) (wk_73_49 d C' J') := zz_rz
theorem zk_73_63 (CS : kZC T C C') (JS : ∀ b, kZ T (J b) (J' b)) : kZ T (bk_73_63 d C J) (wk_73_63 d C' J') := zz_rz
theorem zk_73_76 (CS : kZC T C C') (JS : ∀ b, kZ T (J b) (J' b)) : kZ T (bk_73_76 d C J) (wk_73_76 d C' J') := zz_rz
theorem zk_73_92 (CS : kZC T C C') (JS : ∀ b, kZ T (J b) (J' b)) : kZ T (bk_73_92 d C J) (wk_73_92 d C' J') := zz_rz
theorem zm_73 (CS : kZC T C C') (J J' : Nat → kx_F) (JS : ∀ b, kZ T (J b) (J' b)) (b : Nat) : kZ T (bm_73 d C b J) (wm_73 d C' b J') := by
  unfold bm_73 wm_73
  cases h0 : Nat.beq b 0 with
  | true => exact zk_73_0 (d := d) CS JS
  | false =>
   cases h49 : Nat.beq b 49 with
   | true => exact zk_73_49 (d := d) CS JS
   | false =>
    cases h63 : Nat.beq b 63 with
    | true => exact zk_73_63 (d := d) CS JS
    | false =>
     cases h76 : Nat.beq b 76 with
     | true => exact zk_73_76 (d := d) CS JS
     | false =>
      cases h92 : Nat.beq b 92 with
      | true => exact zk_73_92 (d := d) CS JS
      | false =>
       exact zz_no
/-! TaskDesk.endWriting(LTaskDesk$Gate;)V -/
def wk_74_0 (d : Nat) (C : kx_C) (J : Nat → kx_F) : kx_F := (kx_la 1 (wx_gR 3 2 5 (wx_gI 5 2 (kx_ifle (kx_la 0 (kx_la 1 (kx_Vv C 75 0 [5] (kx_nm [] (J 39))))) (kx_la 1 (kx_la 1 (wx_gR 3 2 5 (wx_gI 5 2 (wx_pI 3 4 (kx_la 0 (kx_la 1 (wx_gR 3 2 5 (kx_c (kx_i 1) (kx_c (kx_i 0) (kx_Vv C 54 0 [7, 0, 0] (kx_nm [] (J 39)))))))))))))))))
def wk_74_39 (d : Nat) (C : kx_C) (J : Nat → kx_F) : kx_F := kx_rv
def wm_74 (d : Nat) (C : kx_C) (b : Nat) (J : Nat → kx_F) : kx_F := bif Nat.beq b 0 then wk_74_0 d C J else bif Nat.beq b 39 then wk_74_39 d C J else fun _ _ _ => none
theorem zk_74_0 (CS : kZC T C C') (JS : ∀ b, kZ T (J b) (J' b)) : kZ T (bk_74_0 d C J) (wk_74_0 d C' J') := (zz_la (zz_gR (by decide) rfl (zz_gI (by decide) (zz_ifle (zz_la (zz_la (zz_Vv CS (zz_nm (JS 39))))) (zz_la (zz_la (zz_gR (by decide) rfl (zz_gI (by decide) (zz_pI (by decide) (zz_la (zz_la (zz_gR (by decide) rfl (zz_ci (zz_ci (zz_Vv CS (zz_nm (JS 39)))))))))))))))))
theorem zk_74_39 (CS : kZC T C C') (JS : ∀ b, kZ T (J b) (J' b)) : kZ T (bk_74_39 d C J) (wk_74_39 d C' J') := zz_rv
theorem zm_74 (CS : kZC T C C') (J J' : Nat → kx_F) (JS : ∀ b, kZ T (J b) (J' b)) (b : Nat) : kZ T (bm_74 d C b J) (wm_74 d C' b J') := by
  unfold bm_74 wm_74
  cases h0 : Nat.beq b 0 with
  | true => exact zk_74_0 (d := d) CS JS
  | false =>
   cases h39 : Nat.beq b 39 with
   | true => exact zk_74_39 (d := d) CS JS
   | false =>
    exact zz_no
/-! TaskDesk.letWriterIn(LTaskDesk$Gate;)V -/
def wk_75_0 (d : Nat) (C : kx_C) (J : Nat → kx_F) : kx_F := (kx_la 1 (wx_gR 3 1 5 (wx_gR 5 0 4 (kx_sa 2 (kx_la 2 (kx_nnul (kx_la 1 (kx_c (kx_i (-1)) (wx_pI 3 4 (kx_la 0 (kx_la 2 (kx_c (kx_l 0) (kx_c (kx_i 1) (kx_c (kx_i 0) (kx_Vv C 35 0 [6, 1, 0, 0] (kx_nm [] (J 33))))))))))) (kx_la 1 (kx_c (kx_i 0) (wx_pI 3 4 (kx_nm [] (J 33)))))))))))
def wk_75_33 (d : Nat) (C : kx_C) (J : Nat → kx_F) : kx_F := kx_rv
def wm_75 (d : Nat) (C : kx_C) (b : Nat) (J : Nat → kx_F) : kx_F := bif Nat.beq b 0 then wk_75_0 d C J else bif Nat.beq b 33 then wk_75_33 d C J else fun _ _ _ => none
theorem zk_75_0 (CS : kZC T C C') (JS : ∀ b, kZ T (J b) (J' b)) : kZ T (bk_75_0 d C J) (wk_75_0 d C' J') := (zz_la (zz_gR (by decide) rfl (zz_gR (by decide) rfl (zz_sa (zz_la (zz_nnul (zz_la (zz_ci (zz_pI (by decide) (zz_la (zz_la (zz_cl (zz_ci (zz_ci (zz_Vv CS (zz_nm (JS 33))))))))))) (zz_la (zz_ci (zz_pI (by decide) (zz_nm (JS 33)))))))))))
theorem zk_75_33 (CS : kZC T C C') (JS : ∀ b, kZ T (J b) (J' b)) : kZ T (bk_75_33 d C J) (wk_75_33 d C' J') := zz_rv
theorem zm_75 (CS : kZC T C C') (J J' : Nat → kx_F) (JS : ∀ b, kZ T (J b) (J' b)) (b : Nat) : kZ T (bm_75 d C b J) (wm_75 d C' b J') := by
  unfold bm_75 wm_75
  cases h0 : Nat.beq b 0 with
  | true => exact zk_75_0 (d := d) CS JS
  | false =>
   cases h33 : Nat.beq b 33 with
   | true => exact zk_75_33 (d := d) CS JS
   | false =>
    exact zz_no
/-! TaskDesk.setGroup(LTaskDesk$Gate;I)V -/
def wk_76_0 (d : Nat) (C : kx_C) (J : Nat → kx_F) : kx_F := (kx_la 1 (kx_li 2 (wx_pI 3 4 (kx_li 2 (kx_ifne (kx_nm [] (J 19)) (kx_la 0 (kx_la 1 (wx_gR 3 1 5 (kx_c (kx_i 1) (kx_c (kx_i 0) (kx_Vv C 54 0 [7, 0, 0] (kx_nm [] (J 19)))))))))))))
def wk_76_19 (d : Nat) (C : kx_C) (J : Nat → kx_F) : kx_F := kx_rv
def wm_76 (d : Nat) (C : kx_C) (b : Nat) (J : Nat → kx_F) : kx_F := bif Nat.beq b 0 then wk_76_0 d C J else bif Nat.beq b 19 then wk_76_19 d C J else fun _ _ _ => none
theorem zk_76_0 (CS : kZC T C C') (JS : ∀ b, kZ T (J b) (J' b)) : kZ T (bk_76_0 d C J) (wk_76_0 d C' J') := (zz_la (zz_li (zz_pI (by decide) (zz_li (zz_ifne (zz_nm (JS 19)) (zz_la (zz_la (zz_gR (by decide) rfl (zz_ci (zz_ci (zz_Vv CS (zz_nm (JS 19)))))))))))))
theorem zk_76_19 (CS : kZC T C C') (JS : ∀ b, kZ T (J b) (J' b)) : kZ T (bk_76_19 d C J) (wk_76_19 d C' J') := zz_rv
theorem zm_76 (CS : kZC T C C') (J J' : Nat → kx_F) (JS : ∀ b, kZ T (J b) (J' b)) (b : Nat) : kZ T (bm_76 d C b J) (wm_76 d C' b J') := by
  unfold bm_76 wm_76
  cases h0 : Nat.beq b 0 with
  | true => exact zk_76_0 (d := d) CS JS
  | false =>
   cases h19 : Nat.beq b 19 with
   | true => exact zk_76_19 (d := d) CS JS
   | false =>
    exact zz_no
/-! TaskDesk.wakeFirstOfSignal(LTaskDesk$Gate;)V -/
def wk_77_0 (d : Nat) (C : kx_C) (J : Nat → kx_F) : kx_F := (kx_la 1 (wx_gR 3 1 5 (wx_gR 5 0 4 (kx_sa 2 (kx_la 1 (wx_gR 3 5 3 (kx_sa 3 (kx_la 2 (kx_nul (kx_nm [] (J 21)) (kx_la 3 (kx_nnul (kx_la 3 (wx_gI 3 4 (kx_ifne (kx_la 2 (wx_gR 4 0 6 (kx_nul (kx_nm [] (J 73)) (kx_la 2 (kx_Vv C 37 4 [] (kx_la 2 (wx_gR 4 0 6 (kx_la 3 (wx_gR 3 1 5 (kx_c (kx_i 6) (kx_la 3 (wx_gI 3 0 (kx_Vv C 27 6 [7, 0, 0] (kx_nm [] (J 73))))))))))))))) (kx_la 3 (kx_c (kx_i 1) (wx_pI 3 4 (kx_la 0 (kx_la 2 (kx_c (kx_l 0) (kx_c (kx_i 1) (kx_c (kx_i 0) (kx_Vv C 35 0 [6, 1, 0, 0] (kx_nm [] (J 73)))))))))))))) (kx_nm [] (J 21)))))))))))))
def wk_77_21 (d : Nat) (C : kx_C) (J : Nat → kx_F) : kx_F := kx_rv
def wk_77_73 (d : Nat) (C : kx_C) (J : Nat → kx_F) : kx_F := kx_rv
def wm_77 (d : Nat) (C : kx_C) (b : Nat) (J : Nat → kx_F) : kx_F := bif Nat.beq b 0 then wk_77_0 d C J else bif Nat.beq b 21 then wk_77_21 d C J else bif Nat.beq b 73 then wk_77_73 d C J else fun _ _ _ => none
theorem zk_77_0 (CS : kZC T C C') (JS : ∀ b, kZ T (J b) (J' b)) : kZ T (bk_77_0 d C J) (wk_77_0 d C' J') := (zz_la (zz_gR (by decide) rfl (zz_gR (by decide) rfl (zz_sa (zz_la (zz_gR (by decide) rfl (zz_sa (zz_la (zz_nul (zz_nm (JS 21)) (zz_la (zz_nnul (zz_la (zz_gI (by decide) (zz_ifne (zz_la (zz_gR (by decide) rfl (zz_nul (zz_nm (JS 73)) (zz_la (zz_Vv CS (zz_la (zz_gR (by decide) rfl (zz_la (zz_gR (by decide) rfl (zz_ci (zz_la (zz_gI (by decide) (zz_Vv CS (zz_nm (JS 73))))))))))))))) (zz_la (zz_ci (zz_pI (by decide) (zz_la (zz_la (zz_cl (zz_ci (zz_ci (zz_Vv CS (zz_nm (JS 73)))))))))))))) (zz_nm (JS 21)))))))))))))
theorem zk_77_21 (CS : kZC T C C') (JS : ∀ b, kZ T (J b) (J' b)) : kZ T (bk_77_21 d C J) (wk_77_21 d C' J') := zz_rv
theorem zk_77_73 (CS : kZC T C C') (JS : ∀ b, kZ T (J b) (J' b)) : kZ T (bk_77_73 d C J) (wk_77_73 d C' J') := zz_rv
theorem zm_77 (CS : kZC T C C') (J J' : Nat → kx_F) (JS : ∀ b, kZ T (J b) (J' b)) (b : Nat) : kZ T (bm_77 d C b J) (wm_77 d C' b J') := by
  unfold bm_77 wm_77
  cases h0 : Nat.beq b 0 with
  | true => exact zk_77_0 (d := d) CS JS
  | false =>
   cases h21 : Nat.beq b 21 with
   | true => exact zk_77_21 (d := d) CS JS
   | false =>
    cases h73 : Nat.beq b 73 with
    | true => exact zk_77_73 (d := d) CS JS
    | false =>
     exact zz_no
/-! TaskDesk.change(II)V -/
def wk_78_0 (d : Nat) (C : kx_C) (J : Nat → kx_F) : kx_F := (kx_la 0 (kx_li 1 (kx_Vr C 66 0 [0] 3 (kx_sa 3 (kx_la 3 (wx_gI 3 3 (kx_ifeq (kx_nm [] (J 21)) (kx_la 3 (wx_gI 3 3 (kx_c (kx_i 4) (kx_cne (kx_la 0 (kx_Vr C 24 0 [] 6 (kx_pop (kx_la 3 (kx_li 2 (kx_Vi C 79 3 [0] (kx_ifne (kx_la 3 (wx_gI 3 3 (kx_c (kx_i 1) (kx_cne (kx_la 3 (wx_gI 3 3 (kx_c (kx_i 2) (kx_cne (kx_la 0 (kx_la 3 (kx_Vv C 81 0 [5] (kx_nm [] (J 99))))) (kx_la 0 (kx_la 3 (kx_la 3 (wx_gI 3 4 (kx_li 2 (kx_ii (fun x y => x + y) (kx_Vv C 76 0 [5, 0] (kx_nm [] (J 99))))))))))))) (kx_la 0 (kx_la 3 (kx_Vv C 80 0 [5] (kx_nm [] (J 99))))))))) (kx_thd kx_cc kx_cs d 2)))))))) (kx_nm [] (J 21)))))))))))))
def wk_78_21 (d : Nat) (C : kx_C) (J : Nat → kx_F) : kx_F := (kx_thd kx_cc kx_cs d 1)
def wk_78_99 (d : Nat) (C : kx_C) (J : Nat → kx_F) : kx_F := kx_rv
def wm_78 (d : Nat) (C : kx_C) (b : Nat) (J : Nat → kx_F) : kx_F := bif Nat.beq b 0 then wk_78_0 d C J else bif Nat.beq b 21 then wk_78_21 d C J else bif Nat.beq b 99 then wk_78_99 d C J else fun _ _ _ => none
theorem zk_78_0 (CS : kZC T C C') (JS : ∀ b, kZ T (J b) (J' b)) : kZ T (bk_78_0 d C J) (wk_78_0 d C' J') := (zz_la (zz_li (zz_Vr CS (zz_sa (zz_la (zz_gI (by decide) (zz_ifeq (zz_nm (JS 21)) (zz_la (zz_gI (by decide) (zz_ci (zz_cne (zz_la (zz_Vr CS (zz_pop (zz_la (zz_li (zz_Vi CS (zz_ifne (zz_la (zz_gI (by decide) (zz_ci (zz_cne (zz_la (zz_gI (by decide) (zz_ci (zz_cne (zz_la (zz_la (zz_Vv CS (zz_nm (JS 99))))) (zz_la (zz_la (zz_la (zz_gI (by decide) (zz_li (zz_ii (zz_Vv CS (zz_nm (JS 99))))))))))))) (zz_la (zz_la (zz_Vv CS (zz_nm (JS 99))))))))) zz_thd))))))) (zz_nm (JS 21)))))))))))))
theorem zk_78_21 (CS : kZC T C C') (JS : ∀ b, kZ T (J b) (J' b)) : kZ T (bk_78_21 d C J) (wk_78_21 d C' J') := zz_thd
theorem zk_78_99 (CS : kZC T C C') (JS : ∀ b, kZ T (J b) (J' b)) : kZ T (bk_78_99 d C J) (wk_78_99 d C' J') := zz_rv
theorem zm_78 (CS : kZC T C C') (J J' : Nat → kx_F) (JS : ∀ b, kZ T (J b) (J' b)) (b : Nat) : kZ T (bm_78 d C b J) (wm_78 d C' b J') := by
  unfold bm_78 wm_78
  cases h0 : Nat.beq b 0 with
  | true => exact zk_78_0 (d := d) CS JS
  | false =>
   cases h21 : Nat.beq b 21 with
   | true => exact zk_78_21 (d := d) CS JS
   | false =>
    cases h99 : Nat.beq b 99 with
    | true => exact zk_78_99 (d := d) CS JS
    | false =>
     exact zz_no
/-! TaskDesk$Gate.canChangeBy(I)Z -/
def wk_79_0 (d : Nat) (C : kx_C) (J : Nat → kx_F) : kx_F := (kx_la 0 (wx_gI 3 3 (kx_sw [(1, (kx_la 0 (wx_gI 3 4 (kx_ifle (kx_c (kx_i 0) (kx_nm [] (J 44))) (kx_c (kx_i 1) (kx_nm [] (J 44))))))), (2, (kx_la 0 (wx_gI 3 4 (kx_i2l (kx_li 1 (kx_i2l (kx_jj (fun x y => x + y) (kx_sl 2 (kx_ll 2 (kx_c (kx_l 0) (kx_lcmp (kx_iflt (kx_nm [] (J 72)) (kx_ll 2 (kx_c (kx_l 1000000000) (kx_lcmp (kx_ifgt (kx_nm [] (J 72)) (kx_c (kx_i 1) (kx_nm [] (J 73)))))))))))))))))))] (kx_la 0 (wx_gI 3 3 (kx_c (kx_i 3) (kx_cne (kx_c (kx_i 0) (kx_nm [] (J 87))) (kx_c (kx_i 1) (kx_nm [] (J 87))))))))))
def wk_79_44 (d : Nat) (C : kx_C) (J : Nat → kx_F) : kx_F := kx_rz
def wk_79_72 (d : Nat) (C : kx_C) (J : Nat → kx_F) : kx_F := (kx_c (kx_i 0) (kx_nm [] (J 73)))
def wk_79_73 (d : Nat) (C : kx_C) (J : Nat → kx_F) : kx_F := kx_rz
def wk_79_87 (d : Nat) (C : kx_C) (J : Nat → kx_F) : kx_F := kx_rz
def wm_79 (d : Nat) (C : kx_C) (b : Nat) (J : Nat → kx_F) : kx_F := bif Nat.beq b 0 then wk_79_0 d C J else bif Nat.beq b 44 then wk_79_44 d C J else bif Nat.beq b 72 then wk_79_72 d C J else bif Nat.beq b 73 then wk_79_73 d C J else bif Nat.beq b 87 then wk_79_87 d C J else fun _ _ _ => none
theorem zk_79_0 (CS : kZC T C C') (JS : ∀ b, kZ T (J b) (J' b)) : kZ T (bk_79_0 d C J) (wk_79_0 d C' J') := (zz_la (zz_gI (by decide) (zz_sw ⟨rfl, (zz_la (zz_gI (by decide) (zz_ifle (zz_ci (zz_nm (JS 44))) (zz_ci (zz_nm (JS 44)))))), ⟨rfl, (zz_la (zz_gI (by decide) (zz_i2l (zz_li (zz_i2l (zz_jj (zz_sl (zz_ll (zz_cl (zz_lcmp (zz_iflt (zz_nm (JS 72)) (zz_ll (zz_cl (zz_lcmp (zz_ifgt (zz_nm (JS 72)) (zz_ci (zz_nm (JS 73)))))))))))))))))), trivial⟩⟩ (zz_la (zz_gI (by decide) (zz_ci (zz_cne (zz_ci (zz_nm (JS 87))) (zz_ci (zz_nm (JS 87))))))))))
theorem zk_79_44 (CS : kZC T C C') (JS : ∀ b, kZ T (J b) (J' b)) : kZ T (bk_79_44 d C J) (wk_79_44 d C' J') := zz_rz
theorem zk_79_72 (CS : kZC T C C') (JS : ∀ b, kZ T (J b) (J' b)) : kZ T (bk_79_72 d C J) (wk_79_72 d C' J') := (zz_ci (zz_nm (JS 73)))
theorem zk_79_73 (CS : kZC T C C') (JS : ∀ b, kZ T (J b) (J' b)) : kZ T (bk_79_73 d C J) (wk_79_73 d C' J') := zz_rz
theorem zk_79_87 (CS : kZC T C C') (JS : ∀ b, kZ T (J b) (J' b)) : kZ T (bk_79_87 d C J) (wk_79_87 d C' J') := zz_rz
theorem zm_79 (CS : kZC T C C') (J J' : Nat → kx_F) (JS : ∀ b, kZ T (J b) (J' b)) (b : Nat) : kZ T (bm_79 d C b J) (wm_79 d C' b J') := by
  unfold bm_79 wm_79
  cases h0 : Nat.beq b 0 with
  | true => exact zk_79_0 (d := d) CS JS
  | false =>
   cases h44 : Nat.beq b 44 with
   | true => exact zk_79_44 (d := d) CS JS
   | false =>
    cases h72 : Nat.beq b 72 with
    | true => exact zk_79_72 (d := d) CS JS
    | false =>
     cases h73 : Nat.beq b 73 with
     | true => exact zk_79_73 (d := d) CS JS
     | false =>
      cases h87 : Nat.beq b 87 with
      | true => exact zk_79_87 (d := d) CS JS
      | false =>
       exact zz_no
/-! TaskDesk.endReading(LTaskDesk$Gate;)V -/
def wk_80_0 (d : Nat) (C : kx_C) (J : Nat → kx_F) : kx_F := (kx_la 1 (kx_dup (wx_gI 3 4 (kx_c (kx_i 1) (kx_ii (fun x y => x - y) (wx_pI 3 4 (kx_la 1 (wx_gI 3 4 (kx_ifne (kx_nm [] (J 22)) (kx_la 0 (kx_la 1 (kx_Vv C 75 0 [5] (kx_nm [] (J 22))))))))))))))
def wk_80_22 (d : Nat) (C : kx_C) (J : Nat → kx_F) : kx_F := kx_rv
def wm_80 (d : Nat) (C : kx_C) (b : Nat) (J : Nat → kx_F) : kx_F := bif Nat.beq b 0 then wk_80_0 d C J else bif Nat.beq b 22 then wk_80_22 d C J else fun _ _ _ => none
theorem zk_80_0 (CS : kZC T C C') (JS : ∀ b, kZ T (J b) (J' b)) : kZ T (bk_80_0 d C J) (wk_80_0 d C' J') := (zz_la (zz_dup (zz_gI (by decide) (zz_ci (zz_ii (zz_pI (by decide) (zz_la (zz_gI (by decide) (zz_ifne (zz_nm (JS 22)) (zz_la (zz_la (zz_Vv CS (zz_nm (JS 22))))))))))))))
theorem zk_80_22 (CS : kZC T C C') (JS : ∀ b, kZ T (J b) (J' b)) : kZ T (bk_80_22 d C J) (wk_80_22 d C' J') := zz_rv
theorem zm_80 (CS : kZC T C C') (J J' : Nat → kx_F) (JS : ∀ b, kZ T (J b) (J' b)) (b : Nat) : kZ T (bm_80 d C b J) (wm_80 d C' b J') := by
  unfold bm_80 wm_80
  cases h0 : Nat.beq b 0 with
  | true => exact zk_80_0 (d := d) CS JS
  | false =>
   cases h22 : Nat.beq b 22 with
   | true => exact zk_80_22 (d := d) CS JS
   | false =>
    exact zz_no
/-! TaskDesk.wakeAllOfSignal(LTaskDesk$Gate;)V -/
def wk_81_0 (d : Nat) (C : kx_C) (J : Nat → kx_F) : kx_F := (kx_la 1 (wx_gR 3 1 5 (wx_gI 5 2 (kx_si 2 (kx_nm [0, 1, 2] (J 8))))))
def wk_81_8 (d : Nat) (C : kx_C) (J : Nat → kx_F) : kx_F := (kx_li 2 (kx_ifle kx_rv (kx_la 0 (kx_la 1 (kx_Vv C 77 0 [5] (kx_inc 2 (-1) (kx_nm [0, 1, 2] (J 8))))))))
def wm_81 (d : Nat) (C : kx_C) (b : Nat) (J : Nat → kx_F) : kx_F := bif Nat.beq b 0 then wk_81_0 d C J else bif Nat.beq b 8 then wk_81_8 d C J else fun _ _ _ => none
theorem zk_81_0 (CS : kZC T C C') (JS : ∀ b, kZ T (J b) (J' b)) : kZ T (bk_81_0 d C J) (wk_81_0 d C' J') := (zz_la (zz_gR (by decide) rfl (zz_gI (by decide) (zz_si (zz_nm (JS 8))))))
theorem zk_81_8 (CS : kZC T C C') (JS : ∀ b, kZ T (J b) (J' b)) : kZ T (bk_81_8 d C J) (wk_81_8 d C' J') := (zz_li (zz_ifle zz_rv (zz_la (zz_la (zz_Vv CS (zz_inc (zz_nm (JS 8))))))))
theorem zm_81 (CS : kZC T C C') (J J' : Nat → kx_F) (JS : ∀ b, kZ T (J b) (J' b)) (b : Nat) : kZ T (bm_81 d C b J) (wm_81 d C' b J') := by
  unfold bm_81 wm_81
  cases h0 : Nat.beq b 0 with
  | true => exact zk_81_0 (d := d) CS JS
  | false =>
   cases h8 : Nat.beq b 8 with
   | true => exact zk_81_8 (d := d) CS JS
   | false =>
    exact zz_no
/-! TaskDesk.task(II)I -/
def wk_82_0 (d : Nat) (C : kx_C) (J : Nat → kx_F) : kx_F := (kx_la 0 (kx_li 1 (kx_Vr C 83 0 [0] 6 (kx_sa 3 (kx_li 2 (kx_sw [(0, (kx_la 3 (wx_gI 6 3 kx_ri))), (1, (kx_la 3 (wx_gI 6 4 kx_ri))), (2, (kx_la 3 (wx_gI 6 8 kx_ri))), (3, (kx_la 3 (wx_gB 6 7 (kx_ifeq (kx_c (kx_i 0) (kx_nm [] (J 71))) (kx_c (kx_i 1) (kx_nm [] (J 71))))))), (4, (kx_la 3 (wx_gB 6 9 (kx_ifeq (kx_c (kx_i 0) (kx_nm [] (J 84))) (kx_c (kx_i 1) (kx_nm [] (J 84))))))), (5, (kx_la 3 (wx_gI 6 3 (kx_c (kx_i 1) (kx_cne (kx_c (kx_i (-1)) (kx_nm [] (J 105))) (kx_la 0 (kx_la 3 (wx_gR 6 1 4 (kx_Vi C 84 0 [6] (kx_nm [] (J 105)))))))))))] (kx_thd kx_cc kx_cs d 3)))))))
def wk_82_71 (d : Nat) (C : kx_C) (J : Nat → kx_F) : kx_F := kx_ri
def wk_82_84 (d : Nat) (C : kx_C) (J : Nat → kx_F) : kx_F := kx_ri
def wk_82_105 (d : Nat) (C : kx_C) (J : Nat → kx_F) : kx_F := kx_ri
def wm_82 (d : Nat) (C : kx_C) (b : Nat) (J : Nat → kx_F) : kx_F := bif Nat.beq b 0 then wk_82_0 d C J else bif Nat.beq b 71 then wk_82_71 d C J else bif Nat.beq b 84 then wk_82_84 d C J else bif Nat.beq b 105 then wk_82_105 d C J else fun _ _ _ => none
theorem zk_82_0 (CS : kZC T C C') (JS : ∀ b, kZ T (J b) (J' b)) : kZ T (bk_82_0 d C J) (wk_82_0 d C' J') := (zz_la (zz_li (zz_Vr CS (zz_sa (zz_li (zz_sw ⟨rfl, (zz_la (zz_gI (by decide) zz_ri)), ⟨rfl, (zz_la (zz_gI (by decide) zz_ri)), ⟨rfl, (zz_la (zz_gI (by decide) zz_ri)), ⟨rfl, (zz_la (zz_gB (by decide) (zz_ifeq (zz_ci (zz_nm (JS 71))) (zz_ci (zz_nm (JS 71)))))), ⟨rfl, (zz_la (zz_gB (by decide) (zz_ifeq (zz_ci (zz_nm (JS 84))) (zz_ci (zz_nm (JS 84)))))), ⟨rfl, (zz_la (zz_gI (by decide) (zz_ci (zz_cne (zz_ci (zz_nm (JS 105))) (zz_la (zz_la (zz_gR (by decide) rfl (zz_Vi CS (zz_nm (JS 105)))))))))), trivial⟩⟩⟩⟩⟩⟩ zz_thd))))))
theorem zk_82_71 (CS : kZC T C C') (JS : ∀ b, kZ T (J b) (J' b)) : kZ T (bk_82_71 d C J) (wk_82_71 d C' J') := zz_ri
theorem zk_82_84 (CS : kZC T C C') (JS : ∀ b, kZ T (J b) (J' b)) : kZ T (bk_82_84 d C J) (wk_82_84 d C' J') := zz_ri
theorem zk_82_105 (CS : kZC T C C') (JS : ∀ b, kZ T (J b) (J' b)) : kZ T (bk_82_105 d C J) (wk_82_105 d C' J') := zz_ri
theorem zm_82 (CS : kZC T C C') (J J' : Nat → kx_F) (JS : ∀ b, kZ T (J b) (J' b)) (b : Nat) : kZ T (bm_82 d C b J) (wm_82 d C' b J') := by
  unfold bm_82 wm_82
  cases h0 : Nat.beq b 0 with
  | true => exact zk_82_0 (d := d) CS JS
  | false =>
   cases h71 : Nat.beq b 71 with
   | true => exact zk_82_71 (d := d) CS JS
   | false =>
    cases h84 : Nat.beq b 84 with
    | true => exact zk_82_84 (d := d) CS JS
    | false =>
     cases h105 : Nat.beq b 105 with
     | true => exact zk_82_105 (d := d) CS JS
     | false =>
      exact zz_no
/-! TaskDesk.mustBeTask(I)LTaskDesk$Task; -/
def wk_83_0 (d : Nat) (C : kx_C) (J : Nat → kx_F) : kx_F := (kx_li 1 (kx_iflt (kx_nm [] (J 23)) (kx_li 1 (kx_c (kx_i 256) (kx_cge (kx_nm [] (J 23)) (kx_la 0 (wx_gR 0 0 102 (kx_li 1 (wx_aR 102 6 (wx_gB 6 2 (kx_ifne (kx_la 0 (wx_gR 0 0 102 (kx_li 1 (wx_aR 102 6 kx_rr)))) (kx_nm [] (J 23)))))))))))))
def wk_83_23 (d : Nat) (C : kx_C) (J : Nat → kx_F) : kx_F := (kx_thd kx_cc kx_cs d 3)
def wm_83 (d : Nat) (C : kx_C) (b : Nat) (J : Nat → kx_F) : kx_F := bif Nat.beq b 0 then wk_83_0 d C J else bif Nat.beq b 23 then wk_83_23 d C J else fun _ _ _ => none
theorem zk_83_0 (CS : kZC T C C') (JS : ∀ b, kZ T (J b) (J' b)) : kZ T (bk_83_0 d C J) (wk_83_0 d C' J') := (zz_li (zz_iflt (zz_nm (JS 23)) (zz_li (zz_ci (zz_cge (zz_nm (JS 23)) (zz_la (zz_gR (by decide) rfl (zz_li (zz_aR (by decide) rfl (zz_gB (by decide) (zz_ifne (zz_la (zz_gR (by decide) rfl (zz_li (zz_aR (by decide) rfl zz_rr)))) (zz_nm (JS 23)))))))))))))
theorem zk_83_23 (CS : kZC T C C') (JS : ∀ b, kZ T (J b) (J' b)) : kZ T (bk_83_23 d C J) (wk_83_23 d C' J') := zz_thd
theorem zm_83 (CS : kZC T C C') (J J' : Nat → kx_F) (JS : ∀ b, kZ T (J b) (J' b)) (b : Nat) : kZ T (bm_83 d C b J) (wm_83 d C' b J') := by
  unfold bm_83 wm_83
  cases h0 : Nat.beq b 0 with
  | true => exact zk_83_0 (d := d) CS JS
  | false =>
   cases h23 : Nat.beq b 23 with
   | true => exact zk_83_23 (d := d) CS JS
   | false =>
    exact zz_no
/-! TaskDesk.countBefore(LTaskDesk$Place;)I -/
def wk_84_0 (d : Nat) (C : kx_C) (J : Nat → kx_F) : kx_F := (kx_c (kx_i 0) (kx_si 2 (kx_la 1 (wx_gR 4 6 4 (kx_sa 3 (kx_nm [2, 3] (J 7)))))))
def wk_84_7 (d : Nat) (C : kx_C) (J : Nat → kx_F) : kx_F := (kx_la 3 (kx_nul (kx_li 2 kx_ri) (kx_inc 2 1 (kx_la 3 (wx_gR 4 6 4 (kx_sa 3 (kx_nm [2, 3] (J 7))))))))
def wm_84 (d : Nat) (C : kx_C) (b : Nat) (J : Nat → kx_F) : kx_F := bif Nat.beq b 0 then wk_84_0 d C J else bif Nat.beq b 7 then wk_84_7 d C J else fun _ _ _ => none
theorem zk_84_0 (CS : kZC T C C') (JS : ∀ b, kZ T (J b) (J' b)) : kZ T (bk_84_0 d C J) (wk_84_0 d C' J') := (zz_ci (zz_si (zz_la (zz_gR (by decide) rfl (zz_sa (zz_nm (JS 7)))))))
theorem zk_84_7 (CS : kZC T C C') (JS : ∀ b, kZ T (J b) (J' b)) : kZ T (bk_84_7 d C J) (wk_84_7 d C' J') := (zz_la (zz_nul (zz_li zz_ri) (zz_inc (zz_la (zz_gR (by decide) rfl (zz_sa (zz_nm (JS 7))))))))
theorem zm_84 (CS : kZC T C C') (J J' : Nat → kx_F) (JS : ∀ b, kZ T (J b) (J' b)) (b : Nat) : kZ T (bm_84 d C b J) (wm_84 d C' b J') := by
  unfold bm_84 wm_84
  cases h0 : Nat.beq b 0 with
  | true => exact zk_84_0 (d := d) CS JS
  | false =>
   cases h7 : Nat.beq b 7 with
   | true => exact zk_84_7 (d := d) CS JS
   | false =>
    exact zz_no
/-! TaskDesk.outcome(I)J -/
def wk_85_0 (d : Nat) (C : kx_C) (J : Nat → kx_F) : kx_F := (kx_la 0 (kx_li 1 (kx_Vr C 83 0 [0] 6 (wx_gL 6 6 kx_rl))))
def wm_85 (d : Nat) (C : kx_C) (b : Nat) (J : Nat → kx_F) : kx_F := bif Nat.beq b 0 then wk_85_0 d C J else fun _ _ _ => none
theorem zk_85_0 (CS : kZC T C C') (JS : ∀ b, kZ T (J b) (J' b)) : kZ T (bk_85_0 d C J) (wk_85_0 d C' J') := (zz_la (zz_li (zz_Vr CS (zz_gL (by decide) zz_rl))))
theorem zm_85 (CS : kZC T C C') (J J' : Nat → kx_F) (JS : ∀ b, kZ T (J b) (J' b)) (b : Nat) : kZ T (bm_85 d C b J) (wm_85 d C' b J') := by
  unfold bm_85 wm_85
  cases h0 : Nat.beq b 0 with
  | true => exact zk_85_0 (d := d) CS JS
  | false =>
   exact zz_no
/-! TaskDesk.look(II)I -/
def wk_86_0 (d : Nat) (C : kx_C) (J : Nat → kx_F) : kx_F := (kx_la 0 (kx_li 1 (kx_Vr C 14 0 [0] 2 (kx_sa 3 (kx_la 3 (kx_nnul (kx_li 2 (kx_sw [(0, (kx_la 3 (wx_gI 2 6 kx_ri))), (1, (kx_la 3 (wx_gI 2 5 kx_ri))), (2, (kx_la 3 (wx_gR 2 1 5 (wx_gI 5 2 kx_ri)))), (3, (kx_la 3 (wx_gR 2 2 5 (wx_gI 5 2 kx_ri)))), (4, (kx_la 3 (wx_gB 2 4 (kx_ifeq (kx_c (kx_i 0) (kx_nm [] (J 94))) (kx_c (kx_i 1) (kx_nm [] (J 94)))))))] (kx_thd kx_cc kx_cs d 3))) (kx_thd kx_cc kx_cs d 3)))))))
def wk_86_94 (d : Nat) (C : kx_C) (J : Nat → kx_F) : kx_F := kx_ri
def wm_86 (d : Nat) (C : kx_C) (b : Nat) (J : Nat → kx_F) : kx_F := bif Nat.beq b 0 then wk_86_0 d C J else bif Nat.beq b 94 then wk_86_94 d C J else fun _ _ _ => none
theorem zk_86_0 (CS : kZC T C C') (JS : ∀ b, kZ T (J b) (J' b)) : kZ T (bk_86_0 d C J) (wk_86_0 d C' J') := (zz_la (zz_li (zz_Vr CS (zz_sa (zz_la (zz_nnul (zz_li (zz_sw ⟨rfl, (zz_la (zz_gI (by decide) zz_ri)), ⟨rfl, (zz_la (zz_gI (by decide) zz_ri)), ⟨rfl, (zz_la (zz_gR (by decide) rfl (zz_gI (by decide) zz_ri))), ⟨rfl, (zz_la (zz_gR (by decide) rfl (zz_gI (by decide) zz_ri))), ⟨rfl, (zz_la (zz_gB (by decide) (zz_ifeq (zz_ci (zz_nm (JS 94))) (zz_ci (zz_nm (JS 94)))))), trivial⟩⟩⟩⟩⟩ zz_thd)) zz_thd))))))
theorem zk_86_94 (CS : kZC T C C') (JS : ∀ b, kZ T (J b) (J' b)) : kZ T (bk_86_94 d C J) (wk_86_94 d C' J') := zz_ri
theorem zm_86 (CS : kZC T C C') (J J' : Nat → kx_F) (JS : ∀ b, kZ T (J b) (J' b)) (b : Nat) : kZ T (bm_86 d C b J) (wm_86 d C' b J') := by
  unfold bm_86 wm_86
  cases h0 : Nat.beq b 0 with
  | true => exact zk_86_0 (d := d) CS JS
  | false =>
   cases h94 : Nat.beq b 94 with
   | true => exact zk_86_94 (d := d) CS JS
   | false =>
    exact zz_no
/-! TaskDesk.watch(II)I -/
def wk_87_0 (d : Nat) (C : kx_C) (J : Nat → kx_F) : kx_F := (kx_la 0 (kx_li 1 (kx_Vr C 64 0 [0] 3 (kx_sa 3 (kx_la 3 (kx_nnul (kx_li 2 (kx_sw [(0, (kx_la 3 (wx_gI 3 3 kx_ri))), (1, (kx_la 3 (wx_gI 3 4 kx_ri))), (2, (kx_la 3 (wx_gR 3 1 5 (wx_gI 5 2 (kx_la 3 (wx_gR 3 2 5 (wx_gI 5 2 (kx_ii (fun x y => x + y) kx_ri))))))))] (kx_thd kx_cc kx_cs d 3))) (kx_thd kx_cc kx_cs d 3)))))))
def wm_87 (d : Nat) (C : kx_C) (b : Nat) (J : Nat → kx_F) : kx_F := bif Nat.beq b 0 then wk_87_0 d C J else fun _ _ _ => none
theorem zk_87_0 (CS : kZC T C C') (JS : ∀ b, kZ T (J b) (J' b)) : kZ T (bk_87_0 d C J) (wk_87_0 d C' J') := (zz_la (zz_li (zz_Vr CS (zz_sa (zz_la (zz_nnul (zz_li (zz_sw ⟨rfl, (zz_la (zz_gI (by decide) zz_ri)), ⟨rfl, (zz_la (zz_gI (by decide) zz_ri)), ⟨rfl, (zz_la (zz_gR (by decide) rfl (zz_gI (by decide) (zz_la (zz_gR (by decide) rfl (zz_gI (by decide) (zz_ii zz_ri))))))), trivial⟩⟩⟩ zz_thd)) zz_thd))))))
theorem zm_87 (CS : kZC T C C') (J J' : Nat → kx_F) (JS : ∀ b, kZ T (J b) (J' b)) (b : Nat) : kZ T (bm_87 d C b J) (wm_87 d C' b J') := by
  unfold bm_87 wm_87
  cases h0 : Nat.beq b 0 with
  | true => exact zk_87_0 (d := d) CS JS
  | false =>
   exact zz_no
end KW
