section KW
variable {T : Nat → Option Nat} {C C' : kx_C} {J J' : Nat → kx_F} {d : Nat}
/-! TaskDeskModel.thrown()I -/
def wk_89_0 (d : Nat) (C : kx_C) (J : Nat → kx_F) : kx_F := (kx_la 0 (wx_gI 9 0 kx_ri))
def wm_89 (d : Nat) (C : kx_C) (b : Nat) (J : Nat → kx_F) : kx_F := bif Nat.beq b 0 then wk_89_0 d C J else fun _ _ _ => none
theorem zk_89_0 (CS : kZC T C C') (JS : ∀ b, kZ T (J b) (J' b)) : kZ T (bk_89_0 d C J) (wk_89_0 d C' J') := (zz_la (zz_gI (by decide) zz_ri))
theorem zm_89 (CS : kZC T C C') (J J' : Nat → kx_F) (JS : ∀ b, kZ T (J b) (J' b)) (b : Nat) : kZ T (bm_89 d C b J) (wm_89 d C' b J') := by
  unfold bm_89 wm_89
  cases h0 : Nat.beq b 0 with
  | true => exact zk_89_0 (d := d) CS JS
  | false =>
   exact zz_no
/-! TaskDeskModel.channel(I)I -/
def wk_90_0 (d : Nat) (C : kx_C) (J : Nat → kx_F) : kx_F := (kx_la 0 (kx_c (kx_i 0) (wx_pI 9 0 (kx_li 1 (kx_iflt (kx_nm [0] (J 16)) (kx_li 1 (kx_c (kx_i 8192) (kx_cle (kx_c (kx_i 0) (kx_si 2 (kx_nm [0, 1, 2] (J 24)))) (kx_nm [0] (J 16))))))))))
def wk_90_16 (d : Nat) (C : kx_C) (J : Nat → kx_F) : kx_F := (kx_la 0 (kx_c (kx_i 1) (kx_Vi C 91 9 [0] kx_ri)))
def wk_90_24 (d : Nat) (C : kx_C) (J : Nat → kx_F) : kx_F := (kx_li 2 (kx_c (kx_i 512) (kx_cge (kx_nm [0, 1, 2] (J 46)) (kx_la 0 (wx_gR 9 13 101 (kx_li 2 (wx_aB 101 (kx_ifeq (kx_nm [0, 1, 2] (J 46)) (kx_inc 2 1 (kx_nm [0, 1, 2] (J 24)))))))))))
def wk_90_46 (d : Nat) (C : kx_C) (J : Nat → kx_F) : kx_F := (kx_li 2 (kx_c (kx_i 512) (kx_ceq (kx_nm [0] (J 65)) (kx_la 0 (wx_gI 9 16 (kx_li 1 (kx_ii (fun x y => x + y) (kx_c (kx_i 8192) (kx_cle (kx_la 0 (wx_gR 9 13 101 (kx_li 2 (kx_c (kx_i 1) (wx_asB 101 (kx_la 0 (wx_gR 9 14 101 (kx_li 2 (kx_c (kx_i 0) (wx_asB 101 (kx_la 0 (wx_gR 9 15 99 (kx_li 2 (kx_li 1 (wx_asI 99 (kx_la 0 (kx_dup (wx_gI 9 16 (kx_li 1 (kx_ii (fun x y => x + y) (wx_pI 9 16 (kx_li 2 kx_ri)))))))))))))))))))))) (kx_nm [0] (J 65)))))))))))
def wk_90_65 (d : Nat) (C : kx_C) (J : Nat → kx_F) : kx_F := (kx_la 0 (kx_c (kx_i 2) (kx_Vi C 91 9 [0] kx_ri)))
def wm_90 (d : Nat) (C : kx_C) (b : Nat) (J : Nat → kx_F) : kx_F := bif Nat.beq b 0 then wk_90_0 d C J else bif Nat.beq b 16 then wk_90_16 d C J else bif Nat.beq b 24 then wk_90_24 d C J else bif Nat.beq b 46 then wk_90_46 d C J else bif Nat.beq b 65 then wk_90_65 d C J else fun _ _ _ => none
theorem zk_90_0 (CS : kZC T C C') (JS : ∀ b, kZ T (J b) (J' b)) : kZ T (bk_90_0 d C J) (wk_90_0 d C' J') := (zz_la (zz_ci (zz_pI (by decide) (zz_li (zz_iflt (zz_nm (JS 16)) (zz_li (zz_ci (zz_cle (zz_ci (zz_si (zz_nm (JS 24)))) (zz_nm (JS 16))))))))))
theorem zk_90_16 (CS : kZC T C C') (JS : ∀ b, kZ T (J b) (J' b)) : kZ T (bk_90_16 d C J) (wk_90_16 d C' J') := (zz_la (zz_ci (zz_Vi CS zz_ri)))
theorem zk_90_24 (CS : kZC T C C') (JS : ∀ b, kZ T (J b) (J' b)) : kZ T (bk_90_24 d C J) (wk_90_24 d C' J') := (zz_li (zz_ci (zz_cge (zz_nm (JS 46)) (zz_la (zz_gR (by decide) rfl (zz_li (zz_aB (by decide) (zz_ifeq (zz_nm (JS 46)) (zz_inc (zz_nm (JS 24)))))))))))
theorem zk_90_46 (CS : kZC T C C') (JS : ∀ b, kZ T (J b) (J' b)) : kZ T (bk_90_46 d C J) (wk_90_46 d C' J') := (zz_li (zz_ci (zz_ceq (zz_nm (JS 65)) (zz_la (zz_gI (by decide) (zz_li (zz_ii (zz_ci (zz_cle (zz_la (zz_gR (by decide) rfl (zz_li (zz_ci (zz_asB (by decide) (zz_la (zz_gR (by decide) rfl (zz_li (zz_ci (zz_asB (by decide) (zz_la (zz_gR (by decide) rfl (zz_li (zz_li (zz_asI (by decide) (zz_la (zz_dup (zz_gI (by decide) (zz_li (zz_ii (zz_pI (by decide) (zz_li zz_ri)))))))))))))))))))))) (zz_nm (JS 65)))))))))))
theorem zk_90_65 (CS : kZC T C C') (JS : ∀ b, kZ T (J b) (J' b)) : kZ T (bk_90_65 d C J) (wk_90_65 d C' J') := (zz_la (zz_ci (zz_Vi CS zz_ri)))
theorem zm_90 (CS : kZC T C C') (J J' : Nat → kx_F) (JS : ∀ b, kZ T (J b) (J' b)) (b : Nat) : kZ T (bm_90 d C b J) (wm_90 d C' b J') := by
  unfold bm_90 wm_90
  cases h0 : Nat.beq b 0 with
  | true => exact zk_90_0 (d := d) CS JS
  | false =>
   cases h16 : Nat.beq b 16 with
   | true => exact zk_90_16 (d := d) CS JS
   | false =>
    cases h24 : Nat.beq b 24 with
    | true => exact zk_90_24 (d := d) CS JS
    | false =>
     cases h46 : Nat.beq b 46 with
     | true => exact zk_90_46 (d := d) CS JS
     | false =>
      cases h65 : Nat.beq b 65 with
      | true => exact zk_90_65 (d := d) CS JS
      | false =>
       exact zz_no
/-! TaskDeskModel.fail(I)I -/
def wk_91_0 (d : Nat) (C : kx_C) (J : Nat → kx_F) : kx_F := (kx_la 0 (kx_li 1 (wx_pI 9 0 (kx_c (kx_i 0) kx_ri))))
def wm_91 (d : Nat) (C : kx_C) (b : Nat) (J : Nat → kx_F) : kx_F := bif Nat.beq b 0 then wk_91_0 d C J else fun _ _ _ => none
theorem zk_91_0 (CS : kZC T C C') (JS : ∀ b, kZ T (J b) (J' b)) : kZ T (bk_91_0 d C J) (wk_91_0 d C' J') := (zz_la (zz_li (zz_pI (by decide) (zz_ci zz_ri))))
theorem zm_91 (CS : kZC T C C') (J J' : Nat → kx_F) (JS : ∀ b, kZ T (J b) (J' b)) (b : Nat) : kZ T (bm_91 d C b J) (wm_91 d C' b J') := by
  unfold bm_91 wm_91
  cases h0 : Nat.beq b 0 with
  | true => exact zk_91_0 (d := d) CS JS
  | false =>
   exact zz_no
/-! TaskDeskModel.release(I)Z -/
def wk_92_0 (d : Nat) (C : kx_C) (J : Nat → kx_F) : kx_F := (kx_la 0 (kx_c (kx_i 0) (wx_pI 9 0 (kx_la 0 (kx_li 1 (kx_Vi C 93 9 [0] (kx_ifeq (kx_nm [] (J 31)) (kx_la 0 (kx_li 1 (kx_c (kx_i 1) (kx_Vi C 94 9 [0, 0] (kx_ifge (kx_nm [] (J 31)) (kx_la 0 (kx_li 1 (kx_c (kx_i 0) (kx_Vi C 94 9 [0, 0] (kx_iflt (kx_c (kx_i 0) (kx_si 2 (kx_nm [0, 1, 2] (J 35)))) (kx_nm [] (J 31)))))))))))))))))))
def wk_92_31 (d : Nat) (C : kx_C) (J : Nat → kx_F) : kx_F := (kx_c (kx_i 0) kx_rz)
def wk_92_35 (d : Nat) (C : kx_C) (J : Nat → kx_F) : kx_F := (kx_li 2 (kx_la 0 (wx_gI 9 38 (kx_cge (kx_c (kx_i 0) (kx_si 2 (kx_nm [0, 1, 2] (J 65)))) (kx_la 0 (wx_gR 9 39 99 (kx_li 2 (wx_aI 99 (kx_c (kx_i (-1)) (kx_li 1 (kx_ii (fun x y => x - y) (kx_cne (kx_inc 2 1 (kx_nm [0, 1, 2] (J 35))) (kx_c (kx_i 0) kx_rz)))))))))))))
def wk_92_65 (d : Nat) (C : kx_C) (J : Nat → kx_F) : kx_F := (kx_li 2 (kx_la 0 (wx_gI 9 26 (kx_cge (kx_nm [0, 1] (J 91)) (kx_la 0 (wx_gR 9 27 99 (kx_li 2 (wx_aI 99 (kx_li 1 (kx_cne (kx_inc 2 1 (kx_nm [0, 1, 2] (J 65))) (kx_c (kx_i 0) kx_rz)))))))))))
def wk_92_91 (d : Nat) (C : kx_C) (J : Nat → kx_F) : kx_F := (kx_la 0 (kx_li 1 (kx_Vi C 95 9 [0] (kx_ifle (kx_la 0 (wx_gR 9 13 101 (kx_li 1 (kx_c (kx_i 0) (wx_asB 101 (kx_la 0 (kx_dup (wx_gI 9 16 (kx_la 0 (wx_gR 9 15 99 (kx_li 1 (wx_aI 99 (kx_ii (fun x y => x - y) (wx_pI 9 16 (kx_c (kx_i 1) kx_rz))))))))))))))) (kx_la 0 (kx_li 1 (kx_Vl C 96 9 [0] (kx_sl 2 (kx_la 0 (wx_gR 9 19 100 (kx_la 0 (wx_gI 9 17 (kx_ll 2 (wx_asL 100 (kx_nm [0, 1] (J 91))))))))))))))))
def wm_92 (d : Nat) (C : kx_C) (b : Nat) (J : Nat → kx_F) : kx_F := bif Nat.beq b 0 then wk_92_0 d C J else bif Nat.beq b 31 then wk_92_31 d C J else bif Nat.beq b 35 then wk_92_35 d C J else bif Nat.beq b 65 then wk_92_65 d C J else bif Nat.beq b 91 then wk_92_91 d C J else fun _ _ _ => none
theorem zk_92_0 (CS : kZC T C C') (JS : ∀ b, kZ T (J b) (J' b)) : kZ T (bk_92_0 d C J) (wk_92_0 d C' J') := (zz_la (zz_ci (zz_pI (by decide) (zz_la (zz_li (zz_Vi CS (zz_ifeq (zz_nm (JS 31)) (zz_la (zz_li (zz_ci (zz_Vi CS (zz_ifge (zz_nm (JS 31)) (zz_la (zz_li (zz_ci (zz_Vi CS (zz_iflt (zz_ci (zz_si (zz_nm (JS 35)))) (zz_nm (JS 31)))))))))))))))))))
theorem zk_92_31 (CS : kZC T C C') (JS : ∀ b, kZ T (J b) (J' b)) : kZ T (bk_92_31 d C J) (wk_92_31 d C' J') := (zz_ci zz_rz)
theorem zk_92_35 (CS : kZC T C C') (JS : ∀ b, kZ T (J b) (J' b)) : kZ T (bk_92_35 d C J) (wk_92_35 d C' J') := (zz_li (zz_la (zz_gI (by decide) (zz_cge (zz_ci (zz_si (zz_nm (JS 65)))) (zz_la (zz_gR (by decide) rfl (zz_li (zz_aI (by decide) (zz_ci (zz_li (zz_ii (zz_cne (zz_inc (zz_nm (JS 35))) (zz_ci zz_rz)))))))))))))
theorem zk_92_65 (CS : kZC T C C') (JS : ∀ b, kZ T (J b) (J' b)) : kZ T (bk_92_65 d C J) (wk_92_65 d C' J') := (zz_li (zz_la (zz_gI (by decide) (zz_cge (zz_nm (JS 91)) (zz_la (zz_gR (by decide) rfl (zz_li (zz_aI (by decide) (zz_li (zz_cne (zz_inc (zz_nm (JS 65))) (zz_ci zz_rz)))))))))))
theorem zk_92_91 (CS : kZC T C C') (JS : ∀ b, kZ T (J b) (J' b)) : kZ T (bk_92_91 d C J) (wk_92_91 d C' J') := (zz_la (zz_li (zz_Vi CS (zz_ifle (zz_la (zz_gR (by decide) rfl (zz_li (zz_ci (zz_asB (by decide) (zz_la (zz_dup (zz_gI (by decide) (zz_la (zz_gR (by decide) rfl (zz_li (zz_aI (by decide) (zz_ii (zz_pI (by decide) (zz_ci zz_rz))))))))))))))) (zz_la (zz_li (zz_Vl CS (zz_sl (zz_la (zz_gR (by decide) rfl (zz_la (zz_gI (by decide) (zz_ll (zz_asL (by decide) (zz_nm (JS 91))))))))))))))))
theorem zm_92 (CS : kZC T C C') (J J' : Nat → kx_F) (JS : ∀ b, kZ T (J b) (J' b)) (b : Nat) : kZ T (bm_92 d C b J) (wm_92 d C' b J') := by
  unfold bm_92 wm_92
  cases h0 : Nat.beq b 0 with
  | true => exact zk_92_0 (d := d) CS JS
  | false =>
   cases h31 : Nat.beq b 31 with
   | true => exact zk_92_31 (d := d) CS JS
   | false =>
    cases h35 : Nat.beq b 35 with
    | true => exact zk_92_35 (d := d) CS JS
    | false =>
     cases h65 : Nat.beq b 65 with
     | true => exact zk_92_65 (d := d) CS JS
     | false =>
      cases h91 : Nat.beq b 91 with
      | true => exact zk_92_91 (d := d) CS JS
      | false =>
       exact zz_no
/-! TaskDeskModel.isChannel(I)Z -/
def wk_93_0 (d : Nat) (C : kx_C) (J : Nat → kx_F) : kx_F := (kx_li 1 (kx_iflt (kx_nm [] (J 24)) (kx_li 1 (kx_c (kx_i 512) (kx_cge (kx_nm [] (J 24)) (kx_la 0 (wx_gR 9 13 101 (kx_li 1 (wx_aB 101 (kx_ifeq (kx_nm [] (J 24)) (kx_c (kx_i 1) (kx_nm [] (J 25)))))))))))))
def wk_93_24 (d : Nat) (C : kx_C) (J : Nat → kx_F) : kx_F := (kx_c (kx_i 0) (kx_nm [] (J 25)))
def wk_93_25 (d : Nat) (C : kx_C) (J : Nat → kx_F) : kx_F := kx_rz
def wm_93 (d : Nat) (C : kx_C) (b : Nat) (J : Nat → kx_F) : kx_F := bif Nat.beq b 0 then wk_93_0 d C J else bif Nat.beq b 24 then wk_93_24 d C J else bif Nat.beq b 25 then wk_93_25 d C J else fun _ _ _ => none
theorem zk_93_0 (CS : kZC T C C') (JS : ∀ b, kZ T (J b) (J' b)) : kZ T (bk_93_0 d C J) (wk_93_0 d C' J') := (zz_li (zz_iflt (zz_nm (JS 24)) (zz_li (zz_ci (zz_cge (zz_nm (JS 24)) (zz_la (zz_gR (by decide) rfl (zz_li (zz_aB (by decide) (zz_ifeq (zz_nm (JS 24)) (zz_ci (zz_nm (JS 25)))))))))))))
theorem zk_93_24 (CS : kZC T C C') (JS : ∀ b, kZ T (J b) (J' b)) : kZ T (bk_93_24 d C J) (wk_93_24 d C' J') := (zz_ci (zz_nm (JS 25)))
theorem zk_93_25 (CS : kZC T C C') (JS : ∀ b, kZ T (J b) (J' b)) : kZ T (bk_93_25 d C J) (wk_93_25 d C' J') := zz_rz
theorem zm_93 (CS : kZC T C C') (J J' : Nat → kx_F) (JS : ∀ b, kZ T (J b) (J' b)) (b : Nat) : kZ T (bm_93 d C b J) (wm_93 d C' b J') := by
  unfold bm_93 wm_93
  cases h0 : Nat.beq b 0 with
  | true => exact zk_93_0 (d := d) CS JS
  | false =>
   cases h24 : Nat.beq b 24 with
   | true => exact zk_93_24 (d := d) CS JS
   | false =>
    cases h25 : Nat.beq b 25 with
    | true => exact zk_93_25 (d := d) CS JS
    | false =>
     exact zz_no
/-! TaskDeskModel.first(IZ)I -/
def wk_94_0 (d : Nat) (C : kx_C) (J : Nat → kx_F) : kx_F := (kx_c (kx_i 0) (kx_si 3 (kx_nm [0, 1, 2, 3] (J 2))))
def wk_94_2 (d : Nat) (C : kx_C) (J : Nat → kx_F) : kx_F := (kx_li 3 (kx_la 0 (wx_gI 9 20 (kx_cge (kx_c (kx_i (-1)) kx_ri) (kx_la 0 (wx_gR 9 22 99 (kx_li 3 (wx_aI 99 (kx_li 1 (kx_cne (kx_nm [0, 1, 2, 3] (J 32)) (kx_la 0 (wx_gR 9 23 101 (kx_li 3 (wx_aB 101 (kx_li 2 (kx_cne (kx_nm [0, 1, 2, 3] (J 32)) (kx_li 3 kx_ri)))))))))))))))))
def wk_94_32 (d : Nat) (C : kx_C) (J : Nat → kx_F) : kx_F := (kx_inc 3 1 (kx_nm [0, 1, 2, 3] (J 2)))
def wm_94 (d : Nat) (C : kx_C) (b : Nat) (J : Nat → kx_F) : kx_F := bif Nat.beq b 0 then wk_94_0 d C J else bif Nat.beq b 2 then wk_94_2 d C J else bif Nat.beq b 32 then wk_94_32 d C J else fun _ _ _ => none
theorem zk_94_0 (CS : kZC T C C') (JS : ∀ b, kZ T (J b) (J' b)) : kZ T (bk_94_0 d C J) (wk_94_0 d C' J') := (zz_ci (zz_si (zz_nm (JS 2))))
theorem zk_94_2 (CS : kZC T C C') (JS : ∀ b, kZ T (J b) (J' b)) : kZ T (bk_94_2 d C J) (wk_94_2 d C' J') := (zz_li (zz_la (zz_gI (by decide) (zz_cge (zz_ci zz_ri) (zz_la (zz_gR (by decide) rfl (zz_li (zz_aI (by decide) (zz_li (zz_cne (zz_nm (JS 32)) (zz_la (zz_gR (by decide) rfl (zz_li (zz_aB (by decide) (zz_li (zz_cne (zz_nm (JS 32)) (zz_li zz_ri)))))))))))))))))
theorem zk_94_32 (CS : kZC T C C') (JS : ∀ b, kZ T (J b) (J' b)) : kZ T (bk_94_32 d C J) (wk_94_32 d C' J') := (zz_inc (zz_nm (JS 2)))
theorem zm_94 (CS : kZC T C C') (J J' : Nat → kx_F) (JS : ∀ b, kZ T (J b) (J' b)) (b : Nat) : kZ T (bm_94 d C b J) (wm_94 d C' b J') := by
  unfold bm_94 wm_94
  cases h0 : Nat.beq b 0 with
  | true => exact zk_94_0 (d := d) CS JS
  | false =>
   cases h2 : Nat.beq b 2 with
   | true => exact zk_94_2 (d := d) CS JS
   | false =>
    cases h32 : Nat.beq b 32 with
    | true => exact zk_94_32 (d := d) CS JS
    | false =>
     exact zz_no
/-! TaskDeskModel.held(I)I -/
def wk_95_0 (d : Nat) (C : kx_C) (J : Nat → kx_F) : kx_F := (kx_c (kx_i 0) (kx_si 2 (kx_c (kx_i 0) (kx_si 3 (kx_nm [0, 1, 2, 3] (J 4))))))
def wk_95_4 (d : Nat) (C : kx_C) (J : Nat → kx_F) : kx_F := (kx_li 3 (kx_la 0 (wx_gI 9 17 (kx_cge (kx_li 2 kx_ri) (kx_li 2 (kx_la 0 (wx_gR 9 18 99 (kx_li 3 (wx_aI 99 (kx_li 1 (kx_cne (kx_c (kx_i 0) (kx_nm [0, 1, 3] (J 28))) (kx_c (kx_i 1) (kx_nm [0, 1, 3] (J 28))))))))))))))
def wk_95_28 (d : Nat) (C : kx_C) (J : Nat → kx_F) : kx_F := (kx_ii (fun x y => x + y) (kx_si 2 (kx_inc 3 1 (kx_nm [0, 1, 2, 3] (J 4)))))
def wm_95 (d : Nat) (C : kx_C) (b : Nat) (J : Nat → kx_F) : kx_F := bif Nat.beq b 0 then wk_95_0 d C J else bif Nat.beq b 4 then wk_95_4 d C J else bif Nat.beq b 28 then wk_95_28 d C J else fun _ _ _ => none
theorem zk_95_0 (CS : kZC T C C') (JS : ∀ b, kZ T (J b) (J' b)) : kZ T (bk_95_0 d C J) (wk_95_0 d C' J') := (zz_ci (zz_si (zz_ci (zz_si (zz_nm (JS 4))))))
theorem zk_95_4 (CS : kZC T C C') (JS : ∀ b, kZ T (J b) (J' b)) : kZ T (bk_95_4 d C J) (wk_95_4 d C' J') := (zz_li (zz_la (zz_gI (by decide) (zz_cge (zz_li zz_ri) (zz_li (zz_la (zz_gR (by decide) rfl (zz_li (zz_aI (by decide) (zz_li (zz_cne (zz_ci (zz_nm (JS 28))) (zz_ci (zz_nm (JS 28))))))))))))))
theorem zk_95_28 (CS : kZC T C C') (JS : ∀ b, kZ T (J b) (J' b)) : kZ T (bk_95_28 d C J) (wk_95_28 d C' J') := (zz_ii (zz_si (zz_inc (zz_nm (JS 4)))))
theorem zm_95 (CS : kZC T C C') (J J' : Nat → kx_F) (JS : ∀ b, kZ T (J b) (J' b)) (b : Nat) : kZ T (bm_95 d C b J) (wm_95 d C' b J') := by
  unfold bm_95 wm_95
  cases h0 : Nat.beq b 0 with
  | true => exact zk_95_0 (d := d) CS JS
  | false =>
   cases h4 : Nat.beq b 4 with
   | true => exact zk_95_4 (d := d) CS JS
   | false =>
    cases h28 : Nat.beq b 28 with
    | true => exact zk_95_28 (d := d) CS JS
    | false =>
     exact zz_no
/-! TaskDeskModel.takeFirst(I)J -/
def wk_96_0 (d : Nat) (C : kx_C) (J : Nat → kx_F) : kx_F := (kx_c (kx_i 0) (kx_si 2 (kx_nm [0, 1, 2] (J 2))))
def wk_96_2 (d : Nat) (C : kx_C) (J : Nat → kx_F) : kx_F := (kx_la 0 (wx_gR 9 18 99 (kx_li 2 (wx_aI 99 (kx_li 1 (kx_ceq (kx_la 0 (wx_gR 9 19 100 (kx_li 2 (wx_aL 100 (kx_sl 3 (kx_la 0 (kx_dup (wx_gI 9 17 (kx_c (kx_i 1) (kx_ii (fun x y => x - y) (wx_pI 9 17 (kx_nm [0, 2, 3] (J 35))))))))))))) (kx_inc 2 1 (kx_nm [0, 1, 2] (J 2)))))))))
def wk_96_35 (d : Nat) (C : kx_C) (J : Nat → kx_F) : kx_F := (kx_li 2 (kx_la 0 (wx_gI 9 17 (kx_cge (kx_ll 3 kx_rl) (kx_la 0 (wx_gR 9 18 99 (kx_li 2 (kx_la 0 (wx_gR 9 18 99 (kx_li 2 (kx_c (kx_i 1) (kx_ii (fun x y => x + y) (wx_aI 99 (wx_asI 99 (kx_la 0 (wx_gR 9 19 100 (kx_li 2 (kx_la 0 (wx_gR 9 19 100 (kx_li 2 (kx_c (kx_i 1) (kx_ii (fun x y => x + y) (wx_aL 100 (wx_asL 100 (kx_inc 2 1 (kx_nm [0, 2, 3] (J 35)))))))))))))))))))))))))))
def wm_96 (d : Nat) (C : kx_C) (b : Nat) (J : Nat → kx_F) : kx_F := bif Nat.beq b 0 then wk_96_0 d C J else bif Nat.beq b 2 then wk_96_2 d C J else bif Nat.beq b 35 then wk_96_35 d C J else fun _ _ _ => none
theorem zk_96_0 (CS : kZC T C C') (JS : ∀ b, kZ T (J b) (J' b)) : kZ T (bk_96_0 d C J) (wk_96_0 d C' J') := (zz_ci (zz_si (zz_nm (JS 2))))
theorem zk_96_2 (CS : kZC T C C') (JS : ∀ b, kZ T (J b) (J' b)) : kZ T (bk_96_2 d C J) (wk_96_2 d C' J') := (zz_la (zz_gR (by decide) rfl (zz_li (zz_aI (by decide) (zz_li (zz_ceq (zz_la (zz_gR (by decide) rfl (zz_li (zz_aL (by decide) (zz_sl (zz_la (zz_dup (zz_gI (by decide) (zz_ci (zz_ii (zz_pI (by decide) (zz_nm (JS 35))))))))))))) (zz_inc (zz_nm (JS 2)))))))))
theorem zk_96_35 (CS : kZC T C C') (JS : ∀ b, kZ T (J b) (J' b)) : kZ T (bk_96_35 d C J) (wk_96_35 d C' J') := (zz_li (zz_la (zz_gI (by decide) (zz_cge (zz_ll zz_rl) (zz_la (zz_gR (by decide) rfl (zz_li (zz_la (zz_gR (by decide) rfl (zz_li (zz_ci (zz_ii (zz_aI (by decide) (zz_asI (by decide) (zz_la (zz_gR (by decide) rfl (zz_li (zz_la (zz_gR (by decide) rfl (zz_li (zz_ci (zz_ii (zz_aL (by decide) (zz_asL (by decide) (zz_inc (zz_nm (JS 35)))))))))))))))))))))))))))
theorem zm_96 (CS : kZC T C C') (J J' : Nat → kx_F) (JS : ∀ b, kZ T (J b) (J' b)) (b : Nat) : kZ T (bm_96 d C b J) (wm_96 d C' b J') := by
  unfold bm_96 wm_96
  cases h0 : Nat.beq b 0 with
  | true => exact zk_96_0 (d := d) CS JS
  | false =>
   cases h2 : Nat.beq b 2 with
   | true => exact zk_96_2 (d := d) CS JS
   | false =>
    cases h35 : Nat.beq b 35 with
    | true => exact zk_96_35 (d := d) CS JS
    | false =>
     exact zz_no
/-! TaskDeskModel.alarm(IJ)V -/
def wk_97_0 (d : Nat) (C : kx_C) (J : Nat → kx_F) : kx_F := (kx_la 0 (kx_c (kx_i 0) (wx_pI 9 0 (kx_la 0 (kx_li 1 (kx_Vi C 93 9 [0] (kx_ifeq (kx_nm [0, 1, 2] (J 27)) (kx_ll 2 (kx_c (kx_l 0) (kx_lcmp (kx_iflt (kx_nm [0, 1, 2] (J 27)) (kx_ll 2 (kx_c (kx_l 1000000000) (kx_lcmp (kx_ifle (kx_la 0 (wx_gI 9 1 (kx_iflt (kx_nm [0, 1, 2] (J 52)) (kx_la 0 (wx_gI 9 41 (kx_c (kx_i 256) (kx_cne (kx_nm [0, 1, 2] (J 57)) (kx_nm [0, 1, 2] (J 52))))))))) (kx_nm [0, 1, 2] (J 27)))))))))))))))))
def wk_97_27 (d : Nat) (C : kx_C) (J : Nat → kx_F) : kx_F := (kx_la 0 (kx_c (kx_i 1) (wx_pI 9 0 (kx_nm [0, 1, 2] (J 57)))))
def wk_97_52 (d : Nat) (C : kx_C) (J : Nat → kx_F) : kx_F := (kx_la 0 (kx_c (kx_i 2) (wx_pI 9 0 (kx_nm [0, 1, 2] (J 57)))))
def wk_97_57 (d : Nat) (C : kx_C) (J : Nat → kx_F) : kx_F := (kx_la 0 (wx_gI 9 0 (kx_ifle (kx_la 0 (wx_gR 9 39 99 (kx_la 0 (wx_gI 9 38 (kx_c (kx_i (-1)) (kx_li 1 (kx_ii (fun x y => x - y) (wx_asI 99 (kx_la 0 (wx_gR 9 40 100 (kx_la 0 (wx_gI 9 38 (kx_la 0 (wx_gL 9 3 (kx_ll 2 (kx_jj (fun x y => x + y) (wx_asL 100 (kx_la 0 (kx_dup (wx_gI 9 38 (kx_c (kx_i 1) (kx_ii (fun x y => x + y) (wx_pI 9 38 (kx_la 0 (kx_dup (wx_gI 9 41 (kx_c (kx_i 1) (kx_ii (fun x y => x + y) (wx_pI 9 41 kx_rv))))))))))))))))))))))))))))) kx_rv)))
def wm_97 (d : Nat) (C : kx_C) (b : Nat) (J : Nat → kx_F) : kx_F := bif Nat.beq b 0 then wk_97_0 d C J else bif Nat.beq b 27 then wk_97_27 d C J else bif Nat.beq b 52 then wk_97_52 d C J else bif Nat.beq b 57 then wk_97_57 d C J else fun _ _ _ => none
theorem zk_97_0 (CS : kZC T C C') (JS : ∀ b, kZ T (J b) (J' b)) : kZ T (bk_97_0 d C J) (wk_97_0 d C' J') := (zz_la (zz_ci (zz_pI (by decide) (zz_la (zz_li (zz_Vi CS (zz_ifeq (zz_nm (JS 27)) (zz_ll (zz_cl (zz_lcmp (zz_iflt (zz_nm (JS 27)) (zz_ll (zz_cl (zz_lcmp (zz_ifle (zz_la (zz_gI (by decide) (zz_iflt (zz_nm (JS 52)) (zz_la (zz_gI (by decide) (zz_ci (zz_cne (zz_nm (JS 57)) (zz_nm (JS 52))))))))) (zz_nm (JS 27)))))))))))))))))
theorem zk_97_27 (CS : kZC T C C') (JS : ∀ b, kZ T (J b) (J' b)) : kZ T (bk_97_27 d C J) (wk_97_27 d C' J') := (zz_la (zz_ci (zz_pI (by decide) (zz_nm (JS 57)))))
theorem zk_97_52 (CS : kZC T C C') (JS : ∀ b, kZ T (J b) (J' b)) : kZ T (bk_97_52 d C J) (wk_97_52 d C' J') := (zz_la (zz_ci (zz_pI (by decide) (zz_nm (JS 57)))))
theorem zk_97_57 (CS : kZC T C C') (JS : ∀ b, kZ T (J b) (J' b)) : kZ T (bk_97_57 d C J) (wk_97_57 d C' J') := (zz_la (zz_gI (by decide) (zz_ifle (zz_la (zz_gR (by decide) rfl (zz_la (zz_gI (by decide) (zz_ci (zz_li (zz_ii (zz_asI (by decide) (zz_la (zz_gR (by decide) rfl (zz_la (zz_gI (by decide) (zz_la (zz_gL (by decide) (zz_ll (zz_jj (zz_asL (by decide) (zz_la (zz_dup (zz_gI (by decide) (zz_ci (zz_ii (zz_pI (by decide) (zz_la (zz_dup (zz_gI (by decide) (zz_ci (zz_ii (zz_pI (by decide) zz_rv))))))))))))))))))))))))))))) zz_rv)))
theorem zm_97 (CS : kZC T C C') (J J' : Nat → kx_F) (JS : ∀ b, kZ T (J b) (J' b)) (b : Nat) : kZ T (bm_97 d C b J) (wm_97 d C' b J') := by
  unfold bm_97 wm_97
  cases h0 : Nat.beq b 0 with
  | true => exact zk_97_0 (d := d) CS JS
  | false =>
   cases h27 : Nat.beq b 27 with
   | true => exact zk_97_27 (d := d) CS JS
   | false =>
    cases h52 : Nat.beq b 52 with
    | true => exact zk_97_52 (d := d) CS JS
    | false =>
     cases h57 : Nat.beq b 57 with
     | true => exact zk_97_57 (d := d) CS JS
     | false =>
      exact zz_no
/-! TaskDeskModel.send(IJ)Z -/
def wk_98_0 (d : Nat) (C : kx_C) (J : Nat → kx_F) : kx_F := (kx_la 0 (kx_c (kx_i 0) (wx_pI 9 0 (kx_li 1 (kx_c (kx_i (-1)) (kx_ceq (kx_nm [0, 1, 2] (J 24)) (kx_la 0 (kx_li 1 (kx_Vi C 93 9 [0] (kx_ifne (kx_nm [0, 1, 2] (J 24)) (kx_la 0 (kx_c (kx_i 1) (kx_Vi C 99 9 [0] kx_rz)))))))))))))
def wk_98_24 (d : Nat) (C : kx_C) (J : Nat → kx_F) : kx_F := (kx_la 0 (wx_gI 9 1 (kx_ifge (kx_li 1 (kx_iflt (kx_nm [0, 1, 2] (J 56)) (kx_la 0 (wx_gR 9 14 101 (kx_li 1 (wx_aB 101 (kx_ifeq (kx_nm [0, 1, 2] (J 56)) (kx_la 0 (kx_c (kx_i 3) (kx_Vi C 99 9 [0] kx_rz)))))))))) (kx_la 0 (kx_c (kx_i 2) (kx_Vi C 99 9 [0] kx_rz))))))
def wk_98_56 (d : Nat) (C : kx_C) (J : Nat → kx_F) : kx_F := (kx_la 0 (kx_li 1 (kx_Vi C 100 9 [0] (kx_ifeq (kx_li 1 (kx_iflt (kx_nm [0, 1] (J 100)) (kx_la 0 (kx_la 0 (wx_gI 9 1 (kx_li 1 (kx_c (kx_i 1) (kx_ll 2 (kx_c (kx_i (-1)) (kx_Vv C 107 9 [0, 0, 0, 1, 0] (kx_nm [0, 1] (J 100)))))))))))) (kx_la 0 (kx_li 1 (kx_ll 2 (kx_Vv C 101 9 [0, 1] (kx_la 0 (kx_la 0 (wx_gI 9 1 (kx_c (kx_l 0) (kx_c (kx_i 1) (kx_c (kx_i (-1)) (kx_c (kx_i 0) (kx_Vv C 103 9 [0, 1, 0, 0, 0] (kx_c (kx_i 1) kx_rz)))))))))))))))))
def wk_98_100 (d : Nat) (C : kx_C) (J : Nat → kx_F) : kx_F := (kx_la 0 (kx_li 1 (kx_ifge (kx_c (kx_i 2) (kx_nm [1] (J 111))) (kx_c (kx_i 7) (kx_nm [1] (J 111))))))
def wk_98_111 (d : Nat) (C : kx_C) (J : Nat → kx_F) : kx_F := (kx_li 1 (kx_Vv C 108 9 [0, 0] (kx_c (kx_i 0) kx_rz)))
def wm_98 (d : Nat) (C : kx_C) (b : Nat) (J : Nat → kx_F) : kx_F := bif Nat.beq b 0 then wk_98_0 d C J else bif Nat.beq b 24 then wk_98_24 d C J else bif Nat.beq b 56 then wk_98_56 d C J else bif Nat.beq b 100 then wk_98_100 d C J else bif Nat.beq b 111 then wk_98_111 d C J else fun _ _ _ => none
theorem zk_98_0 (CS : kZC T C C') (JS : ∀ b, kZ T (J b) (J' b)) : kZ T (bk_98_0 d C J) (wk_98_0 d C' J') := (zz_la (zz_ci (zz_pI (by decide) (zz_li (zz_ci (zz_ceq (zz_nm (JS 24)) (zz_la (zz_li (zz_Vi CS (zz_ifne (zz_nm (JS 24)) (zz_la (zz_ci (zz_Vi CS zz_rz)))))))))))))
theorem zk_98_24 (CS : kZC T C C') (JS : ∀ b, kZ T (J b) (J' b)) : kZ T (bk_98_24 d C J) (wk_98_24 d C' J') := (zz_la (zz_gI (by decide) (zz_ifge (zz_li (zz_iflt (zz_nm (JS 56)) (zz_la (zz_gR (by decide) rfl (zz_li (zz_aB (by decide) (zz_ifeq (zz_nm (JS 56)) (zz_la (zz_ci (zz_Vi CS zz_rz)))))))))) (zz_la (zz_ci (zz_Vi CS zz_rz))))))
theorem zk_98_56 (CS : kZC T C C') (JS : ∀ b, kZ T (J b) (J' b)) : kZ T (bk_98_56 d C J) (wk_98_56 d C' J') := (zz_la (zz_li (zz_Vi CS (zz_ifeq (zz_li (zz_iflt (zz_nm (JS 100)) (zz_la (zz_la (zz_gI (by decide) (zz_li (zz_ci (zz_ll (zz_ci (zz_Vv CS (zz_nm (JS 100)))))))))))) (zz_la (zz_li (zz_ll (zz_Vv CS (zz_la (zz_la (zz_gI (by decide) (zz_cl (zz_ci (zz_ci (zz_ci (zz_Vv CS (zz_ci zz_rz)))))))))))))))))
theorem zk_98_100 (CS : kZC T C C') (JS : ∀ b, kZ T (J b) (J' b)) : kZ T (bk_98_100 d C J) (wk_98_100 d C' J') := (zz_la (zz_li (zz_ifge (zz_ci (zz_nm (JS 111))) (zz_ci (zz_nm (JS 111))))))
theorem zk_98_111 (CS : kZC T C C') (JS : ∀ b, kZ T (J b) (J' b)) : kZ T (bk_98_111 d C J) (wk_98_111 d C' J') := (zz_li (zz_Vv CS (zz_ci zz_rz)))
theorem zm_98 (CS : kZC T C C') (J J' : Nat → kx_F) (JS : ∀ b, kZ T (J b) (J' b)) (b : Nat) : kZ T (bm_98 d C b J) (wm_98 d C' b J') := by
  unfold bm_98 wm_98
  cases h0 : Nat.beq b 0 with
  | true => exact zk_98_0 (d := d) CS JS
  | false =>
   cases h24 : Nat.beq b 24 with
   | true => exact zk_98_24 (d := d) CS JS
   | false =>
    cases h56 : Nat.beq b 56 with
    | true => exact zk_98_56 (d := d) CS JS
    | false =>
     cases h100 : Nat.beq b 100 with
     | true => exact zk_98_100 (d := d) CS JS
     | false =>
      cases h111 : Nat.beq b 111 with
      | true => exact zk_98_111 (d := d) CS JS
      | false =>
       exact zz_no
/-! TaskDeskModel.no(I)Z -/
def wk_99_0 (d : Nat) (C : kx_C) (J : Nat → kx_F) : kx_F := (kx_la 0 (kx_li 1 (wx_pI 9 0 (kx_c (kx_i 0) kx_rz))))
def wm_99 (d : Nat) (C : kx_C) (b : Nat) (J : Nat → kx_F) : kx_F := bif Nat.beq b 0 then wk_99_0 d C J else fun _ _ _ => none
theorem zk_99_0 (CS : kZC T C C') (JS : ∀ b, kZ T (J b) (J' b)) : kZ T (bk_99_0 d C J) (wk_99_0 d C' J') := (zz_la (zz_li (zz_pI (by decide) (zz_ci zz_rz))))
theorem zm_99 (CS : kZC T C C') (J J' : Nat → kx_F) (JS : ∀ b, kZ T (J b) (J' b)) (b : Nat) : kZ T (bm_99 d C b J) (wm_99 d C' b J') := by
  unfold bm_99 wm_99
  cases h0 : Nat.beq b 0 with
  | true => exact zk_99_0 (d := d) CS JS
  | false =>
   exact zz_no
/-! TaskDeskModel.maySend(I)Z -/
def wk_100_0 (d : Nat) (C : kx_C) (J : Nat → kx_F) : kx_F := (kx_li 1 (kx_iflt (kx_nm [] (J 40)) (kx_la 0 (wx_gR 9 14 101 (kx_li 1 (wx_aB 101 (kx_ifne (kx_nm [] (J 36)) (kx_la 0 (kx_li 1 (kx_c (kx_i 0) (kx_Vi C 94 9 [0, 0] (kx_ifge (kx_nm [] (J 36)) (kx_la 0 (kx_li 1 (kx_Vi C 95 9 [0] (kx_la 0 (wx_gR 9 15 99 (kx_li 1 (wx_aI 99 (kx_cge (kx_nm [] (J 40)) (kx_nm [] (J 36))))))))))))))))))))))
def wk_100_36 (d : Nat) (C : kx_C) (J : Nat → kx_F) : kx_F := (kx_c (kx_i 1) (kx_nm [] (J 41)))
def wk_100_40 (d : Nat) (C : kx_C) (J : Nat → kx_F) : kx_F := (kx_c (kx_i 0) (kx_nm [] (J 41)))
def wk_100_41 (d : Nat) (C : kx_C) (J : Nat → kx_F) : kx_F := kx_rz
def wm_100 (d : Nat) (C : kx_C) (b : Nat) (J : Nat → kx_F) : kx_F := bif Nat.beq b 0 then wk_100_0 d C J else bif Nat.beq b 36 then wk_100_36 d C J else bif Nat.beq b 40 then wk_100_40 d C J else bif Nat.beq b 41 then wk_100_41 d C J else fun _ _ _ => none
theorem zk_100_0 (CS : kZC T C C') (JS : ∀ b, kZ T (J b) (J' b)) : kZ T (bk_100_0 d C J) (wk_100_0 d C' J') := (zz_li (zz_iflt (zz_nm (JS 40)) (zz_la (zz_gR (by decide) rfl (zz_li (zz_aB (by decide) (zz_ifne (zz_nm (JS 36)) (zz_la (zz_li (zz_ci (zz_Vi CS (zz_ifge (zz_nm (JS 36)) (zz_la (zz_li (zz_Vi CS (zz_la (zz_gR (by decide) rfl (zz_li (zz_aI (by decide) (zz_cge (zz_nm (JS 40)) (zz_nm (JS 36))))))))))))))))))))))
theorem zk_100_36 (CS : kZC T C C') (JS : ∀ b, kZ T (J b) (J' b)) : kZ T (bk_100_36 d C J) (wk_100_36 d C' J') := (zz_ci (zz_nm (JS 41)))
theorem zk_100_40 (CS : kZC T C C') (JS : ∀ b, kZ T (J b) (J' b)) : kZ T (bk_100_40 d C J) (wk_100_40 d C' J') := (zz_ci (zz_nm (JS 41)))
theorem zk_100_41 (CS : kZC T C C') (JS : ∀ b, kZ T (J b) (J' b)) : kZ T (bk_100_41 d C J) (wk_100_41 d C' J') := zz_rz
theorem zm_100 (CS : kZC T C C') (J J' : Nat → kx_F) (JS : ∀ b, kZ T (J b) (J' b)) (b : Nat) : kZ T (bm_100 d C b J) (wm_100 d C' b J') := by
  unfold bm_100 wm_100
  cases h0 : Nat.beq b 0 with
  | true => exact zk_100_0 (d := d) CS JS
  | false =>
   cases h36 : Nat.beq b 36 with
   | true => exact zk_100_36 (d := d) CS JS
   | false =>
    cases h40 : Nat.beq b 40 with
    | true => exact zk_100_40 (d := d) CS JS
    | false =>
     cases h41 : Nat.beq b 41 with
     | true => exact zk_100_41 (d := d) CS JS
     | false =>
      exact zz_no
/-! TaskDeskModel.deliver(IJ)V -/
def wk_101_0 (d : Nat) (C : kx_C) (J : Nat → kx_F) : kx_F := (kx_la 0 (kx_li 1 (kx_c (kx_i 0) (kx_Vi C 94 9 [0, 0] (kx_si 4 (kx_li 4 (kx_iflt (kx_la 0 (kx_li 1 (kx_ll 2 (kx_Vv C 106 9 [0, 1] (kx_nm [] (J 31)))))) (kx_la 0 (kx_li 4 (kx_ll 2 (kx_c (kx_i 1) (kx_c (kx_i 0) (kx_Vv C 102 9 [0, 1, 0, 0] (kx_nm [] (J 31)))))))))))))))
def wk_101_31 (d : Nat) (C : kx_C) (J : Nat → kx_F) : kx_F := kx_rv
def wm_101 (d : Nat) (C : kx_C) (b : Nat) (J : Nat → kx_F) : kx_F := bif Nat.beq b 0 then wk_101_0 d C J else bif Nat.beq b 31 then wk_101_31 d C J else fun _ _ _ => none
theorem zk_101_0 (CS : kZC T C C') (JS : ∀ b, kZ T (J b) (J' b)) : kZ T (bk_101_0 d C J) (wk_101_0 d C' J') := (zz_la (zz_li (zz_ci (zz_Vi CS (zz_si (zz_li (zz_iflt (zz_la (zz_li (zz_ll (zz_Vv CS (zz_nm (JS 31)))))) (zz_la (zz_li (zz_ll (zz_ci (zz_ci (zz_Vv CS (zz_nm (JS 31)))))))))))))))
theorem zk_101_31 (CS : kZC T C C') (JS : ∀ b, kZ T (J b) (J' b)) : kZ T (bk_101_31 d C J) (wk_101_31 d C' J') := zz_rv
theorem zm_101 (CS : kZC T C C') (J J' : Nat → kx_F) (JS : ∀ b, kZ T (J b) (J' b)) (b : Nat) : kZ T (bm_101 d C b J) (wm_101 d C' b J') := by
  unfold bm_101 wm_101
  cases h0 : Nat.beq b 0 with
  | true => exact zk_101_0 (d := d) CS JS
  | false =>
   cases h31 : Nat.beq b 31 with
   | true => exact zk_101_31 (d := d) CS JS
   | false =>
    exact zz_no
/-! TaskDeskModel.met(IJZZ)V -/
def wk_102_0 (d : Nat) (C : kx_C) (J : Nat → kx_F) : kx_F := (kx_la 0 (wx_gR 9 21 99 (kx_li 1 (wx_aI 99 (kx_si 6 (kx_la 0 (kx_li 6 (kx_ll 2 (kx_li 4 (kx_la 0 (wx_gR 9 25 99 (kx_li 1 (wx_aI 99 (kx_li 5 (kx_Vv C 103 9 [0, 1, 0, 0, 0] (kx_la 0 (kx_li 6 (kx_Vv C 104 9 [0] (kx_la 0 (kx_li 6 (kx_Vv C 105 9 [0] kx_rv)))))))))))))))))))))
def wm_102 (d : Nat) (C : kx_C) (b : Nat) (J : Nat → kx_F) : kx_F := bif Nat.beq b 0 then wk_102_0 d C J else fun _ _ _ => none
theorem zk_102_0 (CS : kZC T C C') (JS : ∀ b, kZ T (J b) (J' b)) : kZ T (bk_102_0 d C J) (wk_102_0 d C' J') := (zz_la (zz_gR (by decide) rfl (zz_li (zz_aI (by decide) (zz_si (zz_la (zz_li (zz_ll (zz_li (zz_la (zz_gR (by decide) rfl (zz_li (zz_aI (by decide) (zz_li (zz_Vv CS (zz_la (zz_li (zz_Vv CS (zz_la (zz_li (zz_Vv CS zz_rv)))))))))))))))))))))
theorem zm_102 (CS : kZC T C C') (J J' : Nat → kx_F) (JS : ∀ b, kZ T (J b) (J' b)) (b : Nat) : kZ T (bm_102 d C b J) (wm_102 d C' b J') := by
  unfold bm_102 wm_102
  cases h0 : Nat.beq b 0 with
  | true => exact zk_102_0 (d := d) CS JS
  | false =>
   exact zz_no
/-! TaskDeskModel.has(IJZIZ)V -/
def wk_103_0 (d : Nat) (C : kx_C) (J : Nat → kx_F) : kx_F := (kx_la 0 (wx_gR 9 7 100 (kx_li 1 (kx_ll 2 (wx_asL 100 (kx_la 0 (wx_gR 9 8 101 (kx_li 1 (kx_li 4 (wx_asB 101 (kx_la 0 (wx_gR 9 9 99 (kx_li 1 (kx_li 5 (wx_asI 99 (kx_la 0 (wx_gR 9 10 101 (kx_li 1 (kx_li 6 (wx_asB 101 kx_rv))))))))))))))))))))
def wm_103 (d : Nat) (C : kx_C) (b : Nat) (J : Nat → kx_F) : kx_F := bif Nat.beq b 0 then wk_103_0 d C J else fun _ _ _ => none
theorem zk_103_0 (CS : kZC T C C') (JS : ∀ b, kZ T (J b) (J' b)) : kZ T (bk_103_0 d C J) (wk_103_0 d C' J') := (zz_la (zz_gR (by decide) rfl (zz_li (zz_ll (zz_asL (by decide) (zz_la (zz_gR (by decide) rfl (zz_li (zz_li (zz_asB (by decide) (zz_la (zz_gR (by decide) rfl (zz_li (zz_li (zz_asI (by decide) (zz_la (zz_gR (by decide) rfl (zz_li (zz_li (zz_asB (by decide) zz_rv))))))))))))))))))))
theorem zm_103 (CS : kZC T C C') (J J' : Nat → kx_F) (JS : ∀ b, kZ T (J b) (J' b)) (b : Nat) : kZ T (bm_103 d C b J) (wm_103 d C' b J') := by
  unfold bm_103 wm_103
  cases h0 : Nat.beq b 0 with
  | true => exact zk_103_0 (d := d) CS JS
  | false =>
   exact zz_no
/-! TaskDeskModel.withdraw(I)V -/
def wk_104_0 (d : Nat) (C : kx_C) (J : Nat → kx_F) : kx_F := (kx_c (kx_i 0) (kx_si 2 (kx_c (kx_i 0) (kx_si 3 (kx_nm [0, 1, 2, 3] (J 4))))))
def wk_104_4 (d : Nat) (C : kx_C) (J : Nat → kx_F) : kx_F := (kx_li 3 (kx_la 0 (wx_gI 9 20 (kx_cge (kx_la 0 (kx_li 2 (wx_pI 9 20 kx_rv))) (kx_la 0 (wx_gR 9 21 99 (kx_li 3 (wx_aI 99 (kx_li 1 (kx_cne (kx_la 0 (wx_gR 9 21 99 (kx_li 2 (kx_la 0 (wx_gR 9 21 99 (kx_li 3 (wx_aI 99 (wx_asI 99 (kx_la 0 (wx_gR 9 22 99 (kx_li 2 (kx_la 0 (wx_gR 9 22 99 (kx_li 3 (wx_aI 99 (wx_asI 99 (kx_la 0 (wx_gR 9 23 101 (kx_li 2 (kx_la 0 (wx_gR 9 23 101 (kx_li 3 (wx_aB 101 (wx_asB 101 (kx_la 0 (wx_gR 9 24 100 (kx_li 2 (kx_la 0 (wx_gR 9 24 100 (kx_li 3 (wx_aL 100 (wx_asL 100 (kx_la 0 (wx_gR 9 25 99 (kx_li 2 (kx_la 0 (wx_gR 9 25 99 (kx_li 3 (wx_aI 99 (wx_asI 99 (kx_inc 2 1 (kx_nm [0, 1, 2, 3] (J 88))))))))))))))))))))))))))))))))))))))))))) (kx_nm [0, 1, 2, 3] (J 88))))))))))))
def wk_104_88 (d : Nat) (C : kx_C) (J : Nat → kx_F) : kx_F := (kx_inc 3 1 (kx_nm [0, 1, 2, 3] (J 4)))
def wm_104 (d : Nat) (C : kx_C) (b : Nat) (J : Nat → kx_F) : kx_F := bif Nat.beq b 0 then wk_104_0 d C J else bif Nat.beq b 4 then wk_104_4 d C J else bif Nat.beq b 88 then wk_104_88 d C J else fun _ _ _ => none
theorem zk_104_0 (CS : kZC T C C') (JS : ∀ b, kZ T (J b) (J' b)) : kZ T (bk_104_0 d C J) (wk_104_0 d C' J') := (zz_ci (zz_si (zz_ci (zz_si (zz_nm (JS 4))))))
theorem zk_104_4 (CS : kZC T C C') (JS : ∀ b, kZ T (J b) (J' b)) : kZ T (bk_104_4 d C J) (wk_104_4 d C' J') := (zz_li (zz_la (zz_gI (by decide) (zz_cge (zz_la (zz_li (zz_pI (by decide) zz_rv))) (zz_la (zz_gR (by decide) rfl (zz_li (zz_aI (by decide) (zz_li (zz_cne (zz_la (zz_gR (by decide) rfl (zz_li (zz_la (zz_gR (by decide) rfl (zz_li (zz_aI (by decide) (zz_asI (by decide) (zz_la (zz_gR (by decide) rfl (zz_li (zz_la (zz_gR (by decide) rfl (zz_li (zz_aI (by decide) (zz_asI (by decide) (zz_la (zz_gR (by decide) rfl (zz_li (zz_la (zz_gR (by decide) rfl (zz_li (zz_aB (by decide) (zz_asB (by decide) (zz_la (zz_gR (by decide) rfl (zz_li (zz_la (zz_gR (by decide) rfl (zz_li (zz_aL (by decide) (zz_asL (by decide) (zz_la (zz_gR (by decide) rfl (zz_li (zz_la (zz_gR (by decide) rfl (zz_li (zz_aI (by decide) (zz_asI (by decide) (zz_inc (zz_nm (JS 88))))))))))))))))))))))))))))))))))))))))))) (zz_nm (JS 88))))))))))))
theorem zk_104_88 (CS : kZC T C C') (JS : ∀ b, kZ T (J b) (J' b)) : kZ T (bk_104_88 d C J) (wk_104_88 d C' J') := (zz_inc (zz_nm (JS 4)))
theorem zm_104 (CS : kZC T C C') (J J' : Nat → kx_F) (JS : ∀ b, kZ T (J b) (J' b)) (b : Nat) : kZ T (bm_104 d C b J) (wm_104 d C' b J') := by
  unfold bm_104 wm_104
  cases h0 : Nat.beq b 0 with
  | true => exact zk_104_0 (d := d) CS JS
  | false =>
   cases h4 : Nat.beq b 4 with
   | true => exact zk_104_4 (d := d) CS JS
   | false =>
    cases h88 : Nat.beq b 88 with
    | true => exact zk_104_88 (d := d) CS JS
    | false =>
     exact zz_no
/-! TaskDeskModel.wake(I)V -/
def wk_105_0 (d : Nat) (C : kx_C) (J : Nat → kx_F) : kx_F := (kx_la 0 (wx_gR 9 5 99 (kx_li 1 (kx_c (kx_i 1) (wx_asI 99 (kx_la 0 (wx_gR 9 6 99 (kx_li 1 (kx_c (kx_i (-1)) (wx_asI 99 (kx_la 0 (wx_gR 9 12 99 (kx_la 0 (wx_gI 9 11 (kx_li 1 (wx_asI 99 (kx_la 0 (kx_dup (wx_gI 9 11 (kx_c (kx_i 1) (kx_ii (fun x y => x + y) (wx_pI 9 11 kx_rv))))))))))))))))))))))
def wm_105 (d : Nat) (C : kx_C) (b : Nat) (J : Nat → kx_F) : kx_F := bif Nat.beq b 0 then wk_105_0 d C J else fun _ _ _ => none
theorem zk_105_0 (CS : kZC T C C') (JS : ∀ b, kZ T (J b) (J' b)) : kZ T (bk_105_0 d C J) (wk_105_0 d C' J') := (zz_la (zz_gR (by decide) rfl (zz_li (zz_ci (zz_asI (by decide) (zz_la (zz_gR (by decide) rfl (zz_li (zz_ci (zz_asI (by decide) (zz_la (zz_gR (by decide) rfl (zz_la (zz_gI (by decide) (zz_li (zz_asI (by decide) (zz_la (zz_dup (zz_gI (by decide) (zz_ci (zz_ii (zz_pI (by decide) zz_rv))))))))))))))))))))))
theorem zm_105 (CS : kZC T C C') (J J' : Nat → kx_F) (JS : ∀ b, kZ T (J b) (J' b)) (b : Nat) : kZ T (bm_105 d C b J) (wm_105 d C' b J') := by
  unfold bm_105 wm_105
  cases h0 : Nat.beq b 0 with
  | true => exact zk_105_0 (d := d) CS JS
  | false =>
   exact zz_no
/-! TaskDeskModel.store(IJ)V -/
def wk_106_0 (d : Nat) (C : kx_C) (J : Nat → kx_F) : kx_F := (kx_la 0 (wx_gR 9 18 99 (kx_la 0 (wx_gI 9 17 (kx_li 1 (wx_asI 99 (kx_la 0 (wx_gR 9 19 100 (kx_la 0 (wx_gI 9 17 (kx_ll 2 (wx_asL 100 (kx_la 0 (kx_dup (wx_gI 9 17 (kx_c (kx_i 1) (kx_ii (fun x y => x + y) (wx_pI 9 17 kx_rv))))))))))))))))))
def wm_106 (d : Nat) (C : kx_C) (b : Nat) (J : Nat → kx_F) : kx_F := bif Nat.beq b 0 then wk_106_0 d C J else fun _ _ _ => none
theorem zk_106_0 (CS : kZC T C C') (JS : ∀ b, kZ T (J b) (J' b)) : kZ T (bk_106_0 d C J) (wk_106_0 d C' J') := (zz_la (zz_gR (by decide) rfl (zz_la (zz_gI (by decide) (zz_li (zz_asI (by decide) (zz_la (zz_gR (by decide) rfl (zz_la (zz_gI (by decide) (zz_ll (zz_asL (by decide) (zz_la (zz_dup (zz_gI (by decide) (zz_ci (zz_ii (zz_pI (by decide) zz_rv))))))))))))))))))
theorem zm_106 (CS : kZC T C C') (J J' : Nat → kx_F) (JS : ∀ b, kZ T (J b) (J' b)) (b : Nat) : kZ T (bm_106 d C b J) (wm_106 d C' b J') := by
  unfold bm_106 wm_106
  cases h0 : Nat.beq b 0 with
  | true => exact zk_106_0 (d := d) CS JS
  | false =>
   exact zz_no
/-! TaskDeskModel.offer(IIZJI)V -/
def wk_107_0 (d : Nat) (C : kx_C) (J : Nat → kx_F) : kx_F := (kx_la 0 (wx_gR 9 21 99 (kx_la 0 (wx_gI 9 20 (kx_li 1 (wx_asI 99 (kx_la 0 (wx_gR 9 22 99 (kx_la 0 (wx_gI 9 20 (kx_li 2 (wx_asI 99 (kx_la 0 (wx_gR 9 23 101 (kx_la 0 (wx_gI 9 20 (kx_li 3 (wx_asB 101 (kx_la 0 (wx_gR 9 24 100 (kx_la 0 (wx_gI 9 20 (kx_ll 4 (wx_asL 100 (kx_la 0 (wx_gR 9 25 99 (kx_la 0 (wx_gI 9 20 (kx_li 6 (wx_asI 99 (kx_la 0 (kx_dup (wx_gI 9 20 (kx_c (kx_i 1) (kx_ii (fun x y => x + y) (wx_pI 9 20 kx_rv))))))))))))))))))))))))))))))))))))
def wm_107 (d : Nat) (C : kx_C) (b : Nat) (J : Nat → kx_F) : kx_F := bif Nat.beq b 0 then wk_107_0 d C J else fun _ _ _ => none
theorem zk_107_0 (CS : kZC T C C') (JS : ∀ b, kZ T (J b) (J' b)) : kZ T (bk_107_0 d C J) (wk_107_0 d C' J') := (zz_la (zz_gR (by decide) rfl (zz_la (zz_gI (by decide) (zz_li (zz_asI (by decide) (zz_la (zz_gR (by decide) rfl (zz_la (zz_gI (by decide) (zz_li (zz_asI (by decide) (zz_la (zz_gR (by decide) rfl (zz_la (zz_gI (by decide) (zz_li (zz_asB (by decide) (zz_la (zz_gR (by decide) rfl (zz_la (zz_gI (by decide) (zz_ll (zz_asL (by decide) (zz_la (zz_gR (by decide) rfl (zz_la (zz_gI (by decide) (zz_li (zz_asI (by decide) (zz_la (zz_dup (zz_gI (by decide) (zz_ci (zz_ii (zz_pI (by decide) zz_rv))))))))))))))))))))))))))))))))))))
theorem zm_107 (CS : kZC T C C') (J J' : Nat → kx_F) (JS : ∀ b, kZ T (J b) (J' b)) (b : Nat) : kZ T (bm_107 d C b J) (wm_107 d C' b J') := by
  unfold bm_107 wm_107
  cases h0 : Nat.beq b 0 with
  | true => exact zk_107_0 (d := d) CS JS
  | false =>
   exact zz_no
/-! TaskDeskModel.rest(II)V -/
def wk_108_0 (d : Nat) (C : kx_C) (J : Nat → kx_F) : kx_F := (kx_la 0 (wx_gR 9 5 99 (kx_la 0 (wx_gI 9 1 (kx_li 1 (wx_asI 99 (kx_la 0 (wx_gR 9 6 99 (kx_la 0 (wx_gI 9 1 (kx_li 2 (wx_asI 99 (kx_la 0 (kx_c (kx_i (-1)) (wx_pI 9 1 (kx_la 0 (kx_Vv C 109 9 [] kx_rv)))))))))))))))))
def wm_108 (d : Nat) (C : kx_C) (b : Nat) (J : Nat → kx_F) : kx_F := bif Nat.beq b 0 then wk_108_0 d C J else fun _ _ _ => none
theorem zk_108_0 (CS : kZC T C C') (JS : ∀ b, kZ T (J b) (J' b)) : kZ T (bk_108_0 d C J) (wk_108_0 d C' J') := (zz_la (zz_gR (by decide) rfl (zz_la (zz_gI (by decide) (zz_li (zz_asI (by decide) (zz_la (zz_gR (by decide) rfl (zz_la (zz_gI (by decide) (zz_li (zz_asI (by decide) (zz_la (zz_ci (zz_pI (by decide) (zz_la (zz_Vv CS zz_rv)))))))))))))))))
theorem zm_108 (CS : kZC T C C') (J J' : Nat → kx_F) (JS : ∀ b, kZ T (J b) (J' b)) (b : Nat) : kZ T (bm_108 d C b J) (wm_108 d C' b J') := by
  unfold bm_108 wm_108
  cases h0 : Nat.beq b 0 with
  | true => exact zk_108_0 (d := d) CS JS
  | false =>
   exact zz_no
/-! TaskDeskModel.next()V -/
def wk_109_0 (d : Nat) (C : kx_C) (J : Nat → kx_F) : kx_F := (kx_la 0 (wx_gI 9 11 (kx_ifne (kx_nm [0] (J 21)) (kx_la 0 (wx_gI 9 38 (kx_ifle (kx_nm [0] (J 21)) (kx_la 0 (kx_Vv C 110 9 [] (kx_nm [0] (J 0))))))))))
def wk_109_21 (d : Nat) (C : kx_C) (J : Nat → kx_F) : kx_F := (kx_la 0 (wx_gI 9 11 (kx_ifne (kx_la 0 (kx_la 0 (wx_gR 9 12 99 (kx_c (kx_i 0) (wx_aI 99 (wx_pI 9 1 (kx_la 0 (kx_dup (wx_gI 9 11 (kx_c (kx_i 1) (kx_ii (fun x y => x - y) (wx_pI 9 11 (kx_c (kx_i 0) (kx_si 1 (kx_nm [0, 1] (J 56)))))))))))))))) (kx_la 0 (kx_c (kx_i 2) (wx_pI 9 2 kx_rv))))))
def wk_109_56 (d : Nat) (C : kx_C) (J : Nat → kx_F) : kx_F := (kx_li 1 (kx_la 0 (wx_gI 9 11 (kx_cge (kx_la 0 (wx_gR 9 5 99 (kx_la 0 (wx_gI 9 1 (kx_c (kx_i 0) (wx_asI 99 kx_rv)))))) (kx_la 0 (wx_gR 9 12 99 (kx_li 1 (kx_la 0 (wx_gR 9 12 99 (kx_li 1 (kx_c (kx_i 1) (kx_ii (fun x y => x + y) (wx_aI 99 (wx_asI 99 (kx_inc 1 1 (kx_nm [0, 1] (J 56)))))))))))))))))
def wm_109 (d : Nat) (C : kx_C) (b : Nat) (J : Nat → kx_F) : kx_F := bif Nat.beq b 0 then wk_109_0 d C J else bif Nat.beq b 21 then wk_109_21 d C J else bif Nat.beq b 56 then wk_109_56 d C J else fun _ _ _ => none
theorem zk_109_0 (CS : kZC T C C') (JS : ∀ b, kZ T (J b) (J' b)) : kZ T (bk_109_0 d C J) (wk_109_0 d C' J') := (zz_la (zz_gI (by decide) (zz_ifne (zz_nm (JS 21)) (zz_la (zz_gI (by decide) (zz_ifle (zz_nm (JS 21)) (zz_la (zz_Vv CS (zz_nm (JS 0))))))))))
theorem zk_109_21 (CS : kZC T C C') (JS : ∀ b, kZ T (J b) (J' b)) : kZ T (bk_109_21 d C J) (wk_109_21 d C' J') := (zz_la (zz_gI (by decide) (zz_ifne (zz_la (zz_la (zz_gR (by decide) rfl (zz_ci (zz_aI (by decide) (zz_pI (by decide) (zz_la (zz_dup (zz_gI (by decide) (zz_ci (zz_ii (zz_pI (by decide) (zz_ci (zz_si (zz_nm (JS 56)))))))))))))))) (zz_la (zz_ci (zz_pI (by decide) zz_rv))))))
theorem zk_109_56 (CS : kZC T C C') (JS : ∀ b, kZ T (J b) (J' b)) : kZ T (bk_109_56 d C J) (wk_109_56 d C' J') := (zz_li (zz_la (zz_gI (by decide) (zz_cge (zz_la (zz_gR (by decide) rfl (zz_la (zz_gI (by decide) (zz_ci (zz_asI (by decide) zz_rv)))))) (zz_la (zz_gR (by decide) rfl (zz_li (zz_la (zz_gR (by decide) rfl (zz_li (zz_ci (zz_ii (zz_aI (by decide) (zz_asI (by decide) (zz_inc (zz_nm (JS 56)))))))))))))))))
theorem zm_109 (CS : kZC T C C') (J J' : Nat → kx_F) (JS : ∀ b, kZ T (J b) (J' b)) (b : Nat) : kZ T (bm_109 d C b J) (wm_109 d C' b J') := by
  unfold bm_109 wm_109
  cases h0 : Nat.beq b 0 with
  | true => exact zk_109_0 (d := d) CS JS
  | false =>
   cases h21 : Nat.beq b 21 with
   | true => exact zk_109_21 (d := d) CS JS
   | false =>
    cases h56 : Nat.beq b 56 with
    | true => exact zk_109_56 (d := d) CS JS
    | false =>
     exact zz_no
/-! TaskDeskModel.ring()V -/
def wk_110_0 (d : Nat) (C : kx_C) (J : Nat → kx_F) : kx_F := (kx_la 0 (wx_gR 9 40 100 (kx_c (kx_i 0) (wx_aL 100 (kx_sl 1 (kx_c (kx_i 1) (kx_si 3 (kx_nm [0, 1, 3] (J 9)))))))))
def wk_110_9 (d : Nat) (C : kx_C) (J : Nat → kx_F) : kx_F := (kx_li 3 (kx_la 0 (wx_gI 9 38 (kx_cge (kx_la 0 (kx_ll 1 (wx_pL 9 3 (kx_c (kx_i 0) (kx_si 3 (kx_la 0 (wx_gI 9 38 (kx_si 4 (kx_c (kx_i 0) (kx_si 5 (kx_nm [0, 1, 3, 4, 5] (J 61)))))))))))) (kx_la 0 (wx_gR 9 40 100 (kx_li 3 (wx_aL 100 (kx_ll 1 (kx_lcmp (kx_ifge (kx_ll 1 (kx_nm [0, 3] (J 38))) (kx_la 0 (wx_gR 9 40 100 (kx_li 3 (wx_aL 100 (kx_nm [0, 3] (J 38)))))))))))))))))
def wk_110_38 (d : Nat) (C : kx_C) (J : Nat → kx_F) : kx_F := (kx_sl 1 (kx_inc 3 1 (kx_nm [0, 1, 3] (J 9))))
def wk_110_61 (d : Nat) (C : kx_C) (J : Nat → kx_F) : kx_F := (kx_li 5 (kx_li 4 (kx_cge (kx_la 0 (kx_li 3 (wx_pI 9 38 kx_rv))) (kx_la 0 (wx_gR 9 40 100 (kx_li 5 (wx_aL 100 (kx_ll 1 (kx_lcmp (kx_ifeq (kx_la 0 (wx_gR 9 39 99 (kx_li 5 (wx_aI 99 (kx_iflt (kx_la 0 (kx_dup (wx_gI 9 41 (kx_c (kx_i 1) (kx_ii (fun x y => x - y) (wx_pI 9 41 (kx_la 0 (kx_c (kx_i (-1)) (kx_la 0 (wx_gR 9 39 99 (kx_li 5 (wx_aI 99 (kx_ii (fun x y => x - y) (kx_Vv C 111 9 [0] (kx_nm [0, 1, 3, 4, 5] (J 159)))))))))))))))) (kx_la 0 (kx_la 0 (wx_gR 9 39 99 (kx_li 5 (wx_aI 99 (kx_Vv C 105 9 [0] (kx_nm [0, 1, 3, 4, 5] (J 159))))))))))))) (kx_la 0 (wx_gR 9 39 99 (kx_li 3 (kx_la 0 (wx_gR 9 39 99 (kx_li 5 (wx_aI 99 (wx_asI 99 (kx_la 0 (wx_gR 9 40 100 (kx_li 3 (kx_la 0 (wx_gR 9 40 100 (kx_li 5 (wx_aL 100 (wx_asL 100 (kx_inc 3 1 (kx_nm [0, 1, 3, 4, 5] (J 159)))))))))))))))))))))))))))))
def wk_110_159 (d : Nat) (C : kx_C) (J : Nat → kx_F) : kx_F := (kx_inc 5 1 (kx_nm [0, 1, 3, 4, 5] (J 61)))
def wm_110 (d : Nat) (C : kx_C) (b : Nat) (J : Nat → kx_F) : kx_F := bif Nat.beq b 0 then wk_110_0 d C J else bif Nat.beq b 9 then wk_110_9 d C J else bif Nat.beq b 38 then wk_110_38 d C J else bif Nat.beq b 61 then wk_110_61 d C J else bif Nat.beq b 159 then wk_110_159 d C J else fun _ _ _ => none
theorem zk_110_0 (CS : kZC T C C') (JS : ∀ b, kZ T (J b) (J' b)) : kZ T (bk_110_0 d C J) (wk_110_0 d C' J') := (zz_la (zz_gR (by decide) rfl (zz_ci (zz_aL (by decide) (zz_sl (zz_ci (zz_si (zz_nm (JS 9)))))))))
theorem zk_110_9 (CS : kZC T C C') (JS : ∀ b, kZ T (J b) (J' b)) : kZ T (bk_110_9 d C J) (wk_110_9 d C' J') := (zz_li (zz_la (zz_gI (by decide) (zz_cge (zz_la (zz_ll (zz_pL (by decide) (zz_ci (zz_si (zz_la (zz_gI (by decide) (zz_si (zz_ci (zz_si (zz_nm (JS 61)))))))))))) (zz_la (zz_gR (by decide) rfl (zz_li (zz_aL (by decide) (zz_ll (zz_lcmp (zz_ifge (zz_ll (zz_nm (JS 38))) (zz_la (zz_gR (by decide) rfl (zz_li (zz_aL (by decide) (zz_nm (JS 38)))))))))))))))))
theorem zk_110_38 (CS : kZC T C C') (JS : ∀ b, kZ T (J b) (J' b)) : kZ T (bk_110_38 d C J) (wk_110_38 d C' J') := (zz_sl (zz_inc (zz_nm (JS 9))))
theorem zk_110_61 (CS : kZC T C C') (JS : ∀ b, kZ T (J b) (J' b)) : kZ T (bk_110_61 d C J) (wk_110_61 d C' J') := (zz_li (zz_li (zz_cge (zz_la (zz_li (zz_pI (by decide) zz_rv))) (zz_la (zz_gR (by decide) rfl (zz_li (zz_aL (by decide) (zz_ll (zz_lcmp (zz_ifeq (zz_la (zz_gR (by decide) rfl (zz_li (zz_aI (by decide) (zz_iflt (zz_la (zz_dup (zz_gI (by decide) (zz_ci (zz_ii (zz_pI (by decide) (zz_la (zz_ci (zz_la (zz_gR (by decide) rfl (zz_li (zz_aI (by decide) (zz_ii (zz_Vv CS (zz_nm (JS 159)))))))))))))))) (zz_la (zz_la (zz_gR (by decide) rfl (zz_li (zz_aI (by decide) (zz_Vv CS (zz_nm (JS 159))))))))))))) (zz_la (zz_gR (by decide) rfl (zz_li (zz_la (zz_gR (by decide) rfl (zz_li (zz_aI (by decide) (zz_asI (by decide) (zz_la (zz_gR (by decide) rfl (zz_li (zz_la (zz_gR (by decide) rfl (zz_li (zz_aL (by decide) (zz_asL (by decide) (zz_inc (zz_nm (JS 159)))))))))))))))))))))))))))))
theorem zk_110_159 (CS : kZC T C C') (JS : ∀ b, kZ T (J b) (J' b)) : kZ T (bk_110_159 d C J) (wk_110_159 d C' J') := (zz_inc (zz_nm (JS 61)))
theorem zm_110 (CS : kZC T C C') (J J' : Nat → kx_F) (JS : ∀ b, kZ T (J b) (J' b)) (b : Nat) : kZ T (bm_110 d C b J) (wm_110 d C' b J') := by
  unfold bm_110 wm_110
  cases h0 : Nat.beq b 0 with
  | true => exact zk_110_0 (d := d) CS JS
  | false =>
   cases h9 : Nat.beq b 9 with
   | true => exact zk_110_9 (d := d) CS JS
   | false =>
    cases h38 : Nat.beq b 38 with
    | true => exact zk_110_38 (d := d) CS JS
    | false =>
     cases h61 : Nat.beq b 61 with
     | true => exact zk_110_61 (d := d) CS JS
     | false =>
      cases h159 : Nat.beq b 159 with
      | true => exact zk_110_159 (d := d) CS JS
      | false =>
       exact zz_no
/-! TaskDeskModel.rings(I)V -/
def wk_111_0 (d : Nat) (C : kx_C) (J : Nat → kx_F) : kx_F := (kx_la 0 (wx_gR 9 14 101 (kx_li 1 (wx_aB 101 (kx_ifeq (kx_la 0 (kx_li 1 (kx_c (kx_i 0) (kx_Vi C 94 9 [0, 0] (kx_ifge (kx_nm [0, 1] (J 33)) (kx_la 0 (kx_li 1 (kx_Vi C 95 9 [0] (kx_la 0 (wx_gR 9 15 99 (kx_li 1 (wx_aI 99 (kx_cge (kx_nm [] (J 42)) (kx_nm [0, 1] (J 33))))))))))))))) kx_rv)))))
def wk_111_33 (d : Nat) (C : kx_C) (J : Nat → kx_F) : kx_F := (kx_la 0 (kx_li 1 (kx_la 0 (wx_gL 9 3 (kx_Vv C 101 9 [0, 1] (kx_nm [] (J 42)))))))
def wk_111_42 (d : Nat) (C : kx_C) (J : Nat → kx_F) : kx_F := kx_rv
def wm_111 (d : Nat) (C : kx_C) (b : Nat) (J : Nat → kx_F) : kx_F := bif Nat.beq b 0 then wk_111_0 d C J else bif Nat.beq b 33 then wk_111_33 d C J else bif Nat.beq b 42 then wk_111_42 d C J else fun _ _ _ => none
theorem zk_111_0 (CS : kZC T C C') (JS : ∀ b, kZ T (J b) (J' b)) : kZ T (bk_111_0 d C J) (wk_111_0 d C' J') := (zz_la (zz_gR (by decide) rfl (zz_li (zz_aB (by decide) (zz_ifeq (zz_la (zz_li (zz_ci (zz_Vi CS (zz_ifge (zz_nm (JS 33)) (zz_la (zz_li (zz_Vi CS (zz_la (zz_gR (by decide) rfl (zz_li (zz_aI (by decide) (zz_cge (zz_nm (JS 42)) (zz_nm (JS 33))))))))))))))) zz_rv)))))
theorem zk_111_33 (CS : kZC T C C') (JS : ∀ b, kZ T (J b) (J' b)) : kZ T (bk_111_33 d C J) (wk_111_33 d C' J') := (zz_la (zz_li (zz_la (zz_gL (by decide) (zz_Vv CS (zz_nm (JS 42)))))))
theorem zk_111_42 (CS : kZC T C C') (JS : ∀ b, kZ T (J b) (J' b)) : kZ T (bk_111_42 d C J) (wk_111_42 d C' J') := zz_rv
theorem zm_111 (CS : kZC T C C') (J J' : Nat → kx_F) (JS : ∀ b, kZ T (J b) (J' b)) (b : Nat) : kZ T (bm_111 d C b J) (wm_111 d C' b J') := by
  unfold bm_111 wm_111
  cases h0 : Nat.beq b 0 with
  | true => exact zk_111_0 (d := d) CS JS
  | false =>
   cases h33 : Nat.beq b 33 with
   | true => exact zk_111_33 (d := d) CS JS
   | false =>
    cases h42 : Nat.beq b 42 with
    | true => exact zk_111_42 (d := d) CS JS
    | false =>
     exact zz_no
/-! TaskDeskModel.receive(I)Z -/
def wk_112_0 (d : Nat) (C : kx_C) (J : Nat → kx_F) : kx_F := (kx_la 0 (kx_c (kx_i 0) (wx_pI 9 0 (kx_li 1 (kx_c (kx_i (-1)) (kx_ceq (kx_nm [0, 1] (J 24)) (kx_la 0 (kx_li 1 (kx_Vi C 93 9 [0] (kx_ifne (kx_nm [0, 1] (J 24)) (kx_la 0 (kx_c (kx_i 1) (kx_Vi C 99 9 [0] kx_rz)))))))))))))
def wk_112_24 (d : Nat) (C : kx_C) (J : Nat → kx_F) : kx_F := (kx_la 0 (wx_gI 9 1 (kx_ifge (kx_la 0 (kx_li 1 (kx_Vi C 113 9 [0] (kx_ifeq (kx_li 1 (kx_iflt (kx_nm [0, 1] (J 69)) (kx_la 0 (kx_la 0 (wx_gI 9 1 (kx_li 1 (kx_c (kx_i 0) (kx_c (kx_l 0) (kx_c (kx_i (-1)) (kx_Vv C 107 9 [0, 0, 0, 1, 0] (kx_nm [0, 1] (J 69)))))))))))) (kx_la 0 (kx_li 1 (kx_c (kx_i (-1)) (kx_Vv C 114 9 [0, 0] (kx_c (kx_i 1) kx_rz))))))))) (kx_la 0 (kx_c (kx_i 2) (kx_Vi C 99 9 [0] kx_rz))))))
def wk_112_69 (d : Nat) (C : kx_C) (J : Nat → kx_F) : kx_F := (kx_la 0 (kx_li 1 (kx_ifge (kx_c (kx_i 3) (kx_nm [1] (J 80))) (kx_c (kx_i 7) (kx_nm [1] (J 80))))))
def wk_112_80 (d : Nat) (C : kx_C) (J : Nat → kx_F) : kx_F := (kx_li 1 (kx_Vv C 108 9 [0, 0] (kx_c (kx_i 0) kx_rz)))
def wm_112 (d : Nat) (C : kx_C) (b : Nat) (J : Nat → kx_F) : kx_F := bif Nat.beq b 0 then wk_112_0 d C J else bif Nat.beq b 24 then wk_112_24 d C J else bif Nat.beq b 69 then wk_112_69 d C J else bif Nat.beq b 80 then wk_112_80 d C J else fun _ _ _ => none
theorem zk_112_0 (CS : kZC T C C') (JS : ∀ b, kZ T (J b) (J' b)) : kZ T (bk_112_0 d C J) (wk_112_0 d C' J') := (zz_la (zz_ci (zz_pI (by decide) (zz_li (zz_ci (zz_ceq (zz_nm (JS 24)) (zz_la (zz_li (zz_Vi CS (zz_ifne (zz_nm (JS 24)) (zz_la (zz_ci (zz_Vi CS zz_rz)))))))))))))
theorem zk_112_24 (CS : kZC T C C') (JS : ∀ b, kZ T (J b) (J' b)) : kZ T (bk_112_24 d C J) (wk_112_24 d C' J') := (zz_la (zz_gI (by decide) (zz_ifge (zz_la (zz_li (zz_Vi CS (zz_ifeq (zz_li (zz_iflt (zz_nm (JS 69)) (zz_la (zz_la (zz_gI (by decide) (zz_li (zz_ci (zz_cl (zz_ci (zz_Vv CS (zz_nm (JS 69)))))))))))) (zz_la (zz_li (zz_ci (zz_Vv CS (zz_ci zz_rz))))))))) (zz_la (zz_ci (zz_Vi CS zz_rz))))))
theorem zk_112_69 (CS : kZC T C C') (JS : ∀ b, kZ T (J b) (J' b)) : kZ T (bk_112_69 d C J) (wk_112_69 d C' J') := (zz_la (zz_li (zz_ifge (zz_ci (zz_nm (JS 80))) (zz_ci (zz_nm (JS 80))))))
theorem zk_112_80 (CS : kZC T C C') (JS : ∀ b, kZ T (J b) (J' b)) : kZ T (bk_112_80 d C J) (wk_112_80 d C' J') := (zz_li (zz_Vv CS (zz_ci zz_rz)))
theorem zm_112 (CS : kZC T C C') (J J' : Nat → kx_F) (JS : ∀ b, kZ T (J b) (J' b)) (b : Nat) : kZ T (bm_112 d C b J) (wm_112 d C' b J') := by
  unfold bm_112 wm_112
  cases h0 : Nat.beq b 0 with
  | true => exact zk_112_0 (d := d) CS JS
  | false =>
   cases h24 : Nat.beq b 24 with
   | true => exact zk_112_24 (d := d) CS JS
   | false =>
    cases h69 : Nat.beq b 69 with
    | true => exact zk_112_69 (d := d) CS JS
    | false =>
     cases h80 : Nat.beq b 80 with
     | true => exact zk_112_80 (d := d) CS JS
     | false =>
      exact zz_no
/-! TaskDeskModel.mayReceive(I)Z -/
def wk_113_0 (d : Nat) (C : kx_C) (J : Nat → kx_F) : kx_F := (kx_li 1 (kx_iflt (kx_nm [] (J 34)) (kx_la 0 (wx_gR 9 14 101 (kx_li 1 (wx_aB 101 (kx_ifne (kx_nm [] (J 30)) (kx_la 0 (kx_li 1 (kx_c (kx_i 1) (kx_Vi C 94 9 [0, 0] (kx_ifge (kx_nm [] (J 30)) (kx_la 0 (kx_li 1 (kx_Vi C 95 9 [0] (kx_ifle (kx_nm [] (J 34)) (kx_nm [] (J 30))))))))))))))))))
def wk_113_30 (d : Nat) (C : kx_C) (J : Nat → kx_F) : kx_F := (kx_c (kx_i 1) (kx_nm [] (J 35)))
def wk_113_34 (d : Nat) (C : kx_C) (J : Nat → kx_F) : kx_F := (kx_c (kx_i 0) (kx_nm [] (J 35)))
def wk_113_35 (d : Nat) (C : kx_C) (J : Nat → kx_F) : kx_F := kx_rz
def wm_113 (d : Nat) (C : kx_C) (b : Nat) (J : Nat → kx_F) : kx_F := bif Nat.beq b 0 then wk_113_0 d C J else bif Nat.beq b 30 then wk_113_30 d C J else bif Nat.beq b 34 then wk_113_34 d C J else bif Nat.beq b 35 then wk_113_35 d C J else fun _ _ _ => none
theorem zk_113_0 (CS : kZC T C C') (JS : ∀ b, kZ T (J b) (J' b)) : kZ T (bk_113_0 d C J) (wk_113_0 d C' J') := (zz_li (zz_iflt (zz_nm (JS 34)) (zz_la (zz_gR (by decide) rfl (zz_li (zz_aB (by decide) (zz_ifne (zz_nm (JS 30)) (zz_la (zz_li (zz_ci (zz_Vi CS (zz_ifge (zz_nm (JS 30)) (zz_la (zz_li (zz_Vi CS (zz_ifle (zz_nm (JS 34)) (zz_nm (JS 30))))))))))))))))))
theorem zk_113_30 (CS : kZC T C C') (JS : ∀ b, kZ T (J b) (J' b)) : kZ T (bk_113_30 d C J) (wk_113_30 d C' J') := (zz_ci (zz_nm (JS 35)))
theorem zk_113_34 (CS : kZC T C C') (JS : ∀ b, kZ T (J b) (J' b)) : kZ T (bk_113_34 d C J) (wk_113_34 d C' J') := (zz_ci (zz_nm (JS 35)))
theorem zk_113_35 (CS : kZC T C C') (JS : ∀ b, kZ T (J b) (J' b)) : kZ T (bk_113_35 d C J) (wk_113_35 d C' J') := zz_rz
theorem zm_113 (CS : kZC T C C') (J J' : Nat → kx_F) (JS : ∀ b, kZ T (J b) (J' b)) (b : Nat) : kZ T (bm_113 d C b J) (wm_113 d C' b J') := by
  unfold bm_113 wm_113
  cases h0 : Nat.beq b 0 with
  | true => exact zk_113_0 (d := d) CS JS
  | false =>
   cases h30 : Nat.beq b 30 with
   | true => exact zk_113_30 (d := d) CS JS
   | false =>
    cases h34 : Nat.beq b 34 with
    | true => exact zk_113_34 (d := d) CS JS
    | false =>
     cases h35 : Nat.beq b 35 with
     | true => exact zk_113_35 (d := d) CS JS
     | false =>
      exact zz_no
/-! TaskDeskModel.take(II)V -/
def wk_114_0 (d : Nat) (C : kx_C) (J : Nat → kx_F) : kx_F := (kx_la 0 (kx_li 1 (kx_c (kx_i 1) (kx_Vi C 94 9 [0, 0] (kx_si 3 (kx_la 0 (kx_li 1 (kx_Vi C 95 9 [0] (kx_ifle (kx_li 3 (kx_iflt (kx_la 0 (kx_la 0 (wx_gI 9 1 (kx_c (kx_l 0) (kx_c (kx_i 0) (kx_li 2 (kx_c (kx_i 0) (kx_Vv C 103 9 [0, 1, 0, 0, 0] (kx_nm [] (J 101)))))))))) (kx_la 0 (kx_la 0 (wx_gI 9 1 (kx_la 0 (wx_gR 9 24 100 (kx_li 3 (wx_aL 100 (kx_c (kx_i 1) (kx_li 2 (kx_c (kx_i 0) (kx_Vv C 103 9 [0, 1, 0, 0, 0] (kx_la 0 (kx_li 3 (kx_c (kx_l 0) (kx_c (kx_i 1) (kx_c (kx_i 0) (kx_Vv C 102 9 [0, 1, 0, 0] (kx_nm [] (J 101))))))))))))))))))))) (kx_la 0 (kx_la 0 (wx_gI 9 1 (kx_la 0 (kx_li 1 (kx_Vl C 96 9 [0] (kx_c (kx_i 1) (kx_li 2 (kx_c (kx_i 0) (kx_Vv C 103 9 [0, 1, 0, 0, 0] (kx_li 3 (kx_iflt (kx_nm [] (J 101)) (kx_la 0 (kx_li 1 (kx_la 0 (wx_gR 9 24 100 (kx_li 3 (wx_aL 100 (kx_Vv C 106 9 [0, 1] (kx_la 0 (kx_li 3 (kx_c (kx_l 0) (kx_c (kx_i 1) (kx_c (kx_i 0) (kx_Vv C 102 9 [0, 1, 0, 0] (kx_nm [] (J 101))))))))))))))))))))))))))))))))))))
def wk_114_101 (d : Nat) (C : kx_C) (J : Nat → kx_F) : kx_F := kx_rv
def wm_114 (d : Nat) (C : kx_C) (b : Nat) (J : Nat → kx_F) : kx_F := bif Nat.beq b 0 then wk_114_0 d C J else bif Nat.beq b 101 then wk_114_101 d C J else fun _ _ _ => none
theorem zk_114_0 (CS : kZC T C C') (JS : ∀ b, kZ T (J b) (J' b)) : kZ T (bk_114_0 d C J) (wk_114_0 d C' J') := (zz_la (zz_li (zz_ci (zz_Vi CS (zz_si (zz_la (zz_li (zz_Vi CS (zz_ifle (zz_li (zz_iflt (zz_la (zz_la (zz_gI (by decide) (zz_cl (zz_ci (zz_li (zz_ci (zz_Vv CS (zz_nm (JS 101)))))))))) (zz_la (zz_la (zz_gI (by decide) (zz_la (zz_gR (by decide) rfl (zz_li (zz_aL (by decide) (zz_ci (zz_li (zz_ci (zz_Vv CS (zz_la (zz_li (zz_cl (zz_ci (zz_ci (zz_Vv CS (zz_nm (JS 101))))))))))))))))))))) (zz_la (zz_la (zz_gI (by decide) (zz_la (zz_li (zz_Vl CS (zz_ci (zz_li (zz_ci (zz_Vv CS (zz_li (zz_iflt (zz_nm (JS 101)) (zz_la (zz_li (zz_la (zz_gR (by decide) rfl (zz_li (zz_aL (by decide) (zz_Vv CS (zz_la (zz_li (zz_cl (zz_ci (zz_ci (zz_Vv CS (zz_nm (JS 101))))))))))))))))))))))))))))))))))))
theorem zk_114_101 (CS : kZC T C C') (JS : ∀ b, kZ T (J b) (J' b)) : kZ T (bk_114_101 d C J) (wk_114_101 d C' J') := zz_rv
theorem zm_114 (CS : kZC T C C') (J J' : Nat → kx_F) (JS : ∀ b, kZ T (J b) (J' b)) (b : Nat) : kZ T (bm_114 d C b J) (wm_114 d C' b J') := by
  unfold bm_114 wm_114
  cases h0 : Nat.beq b 0 with
  | true => exact zk_114_0 (d := d) CS JS
  | false =>
   cases h101 : Nat.beq b 101 with
   | true => exact zk_114_101 (d := d) CS JS
   | false =>
    exact zz_no
/-! TaskDeskModel.close(I)V -/
def wk_115_0 (d : Nat) (C : kx_C) (J : Nat → kx_F) : kx_F := (kx_la 0 (kx_li 1 (kx_c (kx_i (-1)) (kx_ceq (kx_nm [0, 1] (J 18)) (kx_la 0 (kx_li 1 (kx_Vi C 93 9 [0] (kx_ifne (kx_nm [0, 1] (J 18)) (kx_c (kx_i 1) (kx_nm [0, 1] (J 47)))))))))))
def wk_115_18 (d : Nat) (C : kx_C) (J : Nat → kx_F) : kx_F := (kx_la 0 (wx_gI 9 1 (kx_ifge (kx_li 1 (kx_iflt (kx_nm [0, 1] (J 42)) (kx_la 0 (wx_gR 9 14 101 (kx_li 1 (wx_aB 101 (kx_ifeq (kx_c (kx_i 0) (kx_nm [0, 1] (J 47))) (kx_nm [0, 1] (J 42))))))))) (kx_c (kx_i 2) (kx_nm [0, 1] (J 47))))))
def wk_115_42 (d : Nat) (C : kx_C) (J : Nat → kx_F) : kx_F := (kx_c (kx_i 3) (kx_nm [0, 1] (J 47)))
def wk_115_47 (d : Nat) (C : kx_C) (J : Nat → kx_F) : kx_F := (wx_pI 9 0 (kx_la 0 (wx_gI 9 0 (kx_ifle (kx_la 0 (wx_gR 9 14 101 (kx_li 1 (kx_c (kx_i 1) (wx_asB 101 (kx_la 0 (kx_li 1 (kx_c (kx_i 0) (kx_Vi C 94 9 [0, 0] (kx_si 2 (kx_nm [0, 1, 2] (J 72)))))))))))) kx_rv))))
def wk_115_72 (d : Nat) (C : kx_C) (J : Nat → kx_F) : kx_F := (kx_li 2 (kx_iflt (kx_la 0 (kx_li 1 (kx_c (kx_i 1) (kx_Vi C 94 9 [0, 0] (kx_si 2 (kx_nm [0, 1, 2] (J 101))))))) (kx_la 0 (kx_li 2 (kx_c (kx_l 0) (kx_c (kx_i 0) (kx_c (kx_i 0) (kx_Vv C 102 9 [0, 1, 0, 0] (kx_la 0 (kx_li 1 (kx_c (kx_i 0) (kx_Vi C 94 9 [0, 0] (kx_si 2 (kx_nm [0, 1, 2] (J 72)))))))))))))))
def wk_115_101 (d : Nat) (C : kx_C) (J : Nat → kx_F) : kx_F := (kx_li 2 (kx_iflt kx_rv (kx_la 0 (kx_li 2 (kx_c (kx_l 0) (kx_c (kx_i 0) (kx_c (kx_i 1) (kx_Vv C 102 9 [0, 1, 0, 0] (kx_la 0 (kx_li 1 (kx_c (kx_i 1) (kx_Vi C 94 9 [0, 0] (kx_si 2 (kx_nm [0, 1, 2] (J 101)))))))))))))))
def wm_115 (d : Nat) (C : kx_C) (b : Nat) (J : Nat → kx_F) : kx_F := bif Nat.beq b 0 then wk_115_0 d C J else bif Nat.beq b 18 then wk_115_18 d C J else bif Nat.beq b 42 then wk_115_42 d C J else bif Nat.beq b 47 then wk_115_47 d C J else bif Nat.beq b 72 then wk_115_72 d C J else bif Nat.beq b 101 then wk_115_101 d C J else fun _ _ _ => none
theorem zk_115_0 (CS : kZC T C C') (JS : ∀ b, kZ T (J b) (J' b)) : kZ T (bk_115_0 d C J) (wk_115_0 d C' J') := (zz_la (zz_li (zz_ci (zz_ceq (zz_nm (JS 18)) (zz_la (zz_li (zz_Vi CS (zz_ifne (zz_nm (JS 18)) (zz_ci (zz_nm (JS 47)))))))))))
theorem zk_115_18 (CS : kZC T C C') (JS : ∀ b, kZ T (J b) (J' b)) : kZ T (bk_115_18 d C J) (wk_115_18 d C' J') := (zz_la (zz_gI (by decide) (zz_ifge (zz_li (zz_iflt (zz_nm (JS 42)) (zz_la (zz_gR (by decide) rfl (zz_li (zz_aB (by decide) (zz_ifeq (zz_ci (zz_nm (JS 47))) (zz_nm (JS 42))))))))) (zz_ci (zz_nm (JS 47))))))
theorem zk_115_42 (CS : kZC T C C') (JS : ∀ b, kZ T (J b) (J' b)) : kZ T (bk_115_42 d C J) (wk_115_42 d C' J') := (zz_ci (zz_nm (JS 47)))
theorem zk_115_47 (CS : kZC T C C') (JS : ∀ b, kZ T (J b) (J' b)) : kZ T (bk_115_47 d C J) (wk_115_47 d C' J') := (zz_pI (by decide) (zz_la (zz_gI (by decide) (zz_ifle (zz_la (zz_gR (by decide) rfl (zz_li (zz_ci (zz_asB (by decide) (zz_la (zz_li (zz_ci (zz_Vi CS (zz_si (zz_nm (JS 72)))))))))))) zz_rv))))
theorem zk_115_72 (CS : kZC T C C') (JS : ∀ b, kZ T (J b) (J' b)) : kZ T (bk_115_72 d C J) (wk_115_72 d C' J') := (zz_li (zz_iflt (zz_la (zz_li (zz_ci (zz_Vi CS (zz_si (zz_nm (JS 101))))))) (zz_la (zz_li (zz_cl (zz_ci (zz_ci (zz_Vv CS (zz_la (zz_li (zz_ci (zz_Vi CS (zz_si (zz_nm (JS 72)))))))))))))))
theorem zk_115_101 (CS : kZC T C C') (JS : ∀ b, kZ T (J b) (J' b)) : kZ T (bk_115_101 d C J) (wk_115_101 d C' J') := (zz_li (zz_iflt zz_rv (zz_la (zz_li (zz_cl (zz_ci (zz_ci (zz_Vv CS (zz_la (zz_li (zz_ci (zz_Vi CS (zz_si (zz_nm (JS 101)))))))))))))))
theorem zm_115 (CS : kZC T C C') (J J' : Nat → kx_F) (JS : ∀ b, kZ T (J b) (J' b)) (b : Nat) : kZ T (bm_115 d C b J) (wm_115 d C' b J') := by
  unfold bm_115 wm_115
  cases h0 : Nat.beq b 0 with
  | true => exact zk_115_0 (d := d) CS JS
  | false =>
   cases h18 : Nat.beq b 18 with
   | true => exact zk_115_18 (d := d) CS JS
   | false =>
    cases h42 : Nat.beq b 42 with
    | true => exact zk_115_42 (d := d) CS JS
    | false =>
     cases h47 : Nat.beq b 47 with
     | true => exact zk_115_47 (d := d) CS JS
     | false =>
      cases h72 : Nat.beq b 72 with
      | true => exact zk_115_72 (d := d) CS JS
      | false =>
       cases h101 : Nat.beq b 101 with
       | true => exact zk_115_101 (d := d) CS JS
       | false =>
        exact zz_no
/-! TaskDeskModel.offer(IZJ)I -/
def wk_116_0 (d : Nat) (C : kx_C) (J : Nat → kx_F) : kx_F := (kx_la 0 (kx_c (kx_i 0) (wx_pI 9 0 (kx_li 1 (kx_c (kx_i (-1)) (kx_ceq (kx_nm [0, 1, 2, 3] (J 24)) (kx_la 0 (kx_li 1 (kx_Vi C 93 9 [0] (kx_ifne (kx_nm [0, 1, 2, 3] (J 24)) (kx_la 0 (kx_c (kx_i 1) (kx_Vi C 91 9 [0] kx_ri)))))))))))))
def wk_116_24 (d : Nat) (C : kx_C) (J : Nat → kx_F) : kx_F := (kx_la 0 (wx_gI 9 1 (kx_iflt (kx_nm [0] (J 40)) (kx_la 0 (wx_gI 9 26 (kx_c (kx_i 16) (kx_cne (kx_la 0 (wx_gR 9 27 99 (kx_la 0 (wx_gI 9 26 (kx_li 1 (wx_asI 99 (kx_la 0 (wx_gR 9 28 101 (kx_la 0 (wx_gI 9 26 (kx_li 2 (wx_asB 101 (kx_la 0 (wx_gR 9 29 100 (kx_la 0 (wx_gI 9 26 (kx_ll 3 (wx_asL 100 (kx_la 0 (kx_dup (wx_gI 9 26 (kx_c (kx_i 1) (kx_ii (fun x y => x + y) (wx_pI 9 26 (kx_la 0 (wx_gI 9 26 (kx_c (kx_i 1) (kx_ii (fun x y => x - y) kx_ri)))))))))))))))))))))))))))) (kx_nm [0] (J 40)))))))))
def wk_116_40 (d : Nat) (C : kx_C) (J : Nat → kx_F) : kx_F := (kx_la 0 (kx_c (kx_i 2) (kx_Vi C 91 9 [0] kx_ri)))
def wm_116 (d : Nat) (C : kx_C) (b : Nat) (J : Nat → kx_F) : kx_F := bif Nat.beq b 0 then wk_116_0 d C J else bif Nat.beq b 24 then wk_116_24 d C J else bif Nat.beq b 40 then wk_116_40 d C J else fun _ _ _ => none
theorem zk_116_0 (CS : kZC T C C') (JS : ∀ b, kZ T (J b) (J' b)) : kZ T (bk_116_0 d C J) (wk_116_0 d C' J') := (zz_la (zz_ci (zz_pI (by decide) (zz_li (zz_ci (zz_ceq (zz_nm (JS 24)) (zz_la (zz_li (zz_Vi CS (zz_ifne (zz_nm (JS 24)) (zz_la (zz_ci (zz_Vi CS zz_ri)))))))))))))
theorem zk_116_24 (CS : kZC T C C') (JS : ∀ b, kZ T (J b) (J' b)) : kZ T (bk_116_24 d C J) (wk_116_24 d C' J') := (zz_la (zz_gI (by decide) (zz_iflt (zz_nm (JS 40)) (zz_la (zz_gI (by decide) (zz_ci (zz_cne (zz_la (zz_gR (by decide) rfl (zz_la (zz_gI (by decide) (zz_li (zz_asI (by decide) (zz_la (zz_gR (by decide) rfl (zz_la (zz_gI (by decide) (zz_li (zz_asB (by decide) (zz_la (zz_gR (by decide) rfl (zz_la (zz_gI (by decide) (zz_ll (zz_asL (by decide) (zz_la (zz_dup (zz_gI (by decide) (zz_ci (zz_ii (zz_pI (by decide) (zz_la (zz_gI (by decide) (zz_ci (zz_ii zz_ri)))))))))))))))))))))))))))) (zz_nm (JS 40)))))))))
theorem zk_116_40 (CS : kZC T C C') (JS : ∀ b, kZ T (J b) (J' b)) : kZ T (bk_116_40 d C J) (wk_116_40 d C' J') := (zz_la (zz_ci (zz_Vi CS zz_ri)))
theorem zm_116 (CS : kZC T C C') (J J' : Nat → kx_F) (JS : ∀ b, kZ T (J b) (J' b)) (b : Nat) : kZ T (bm_116 d C b J) (wm_116 d C' b J') := by
  unfold bm_116 wm_116
  cases h0 : Nat.beq b 0 with
  | true => exact zk_116_0 (d := d) CS JS
  | false =>
   cases h24 : Nat.beq b 24 with
   | true => exact zk_116_24 (d := d) CS JS
   | false =>
    cases h40 : Nat.beq b 40 with
    | true => exact zk_116_40 (d := d) CS JS
    | false =>
     exact zz_no
/-! TaskDeskModel.choose(IZ)Z -/
def wk_117_0 (d : Nat) (C : kx_C) (J : Nat → kx_F) : kx_F := (kx_la 0 (kx_c (kx_i 0) (wx_pI 9 0 (kx_li 1 (kx_ifge (kx_la 0 (wx_gI 9 1 (kx_ifge (kx_c (kx_i 0) (kx_si 3 (kx_c (kx_i 0) (kx_si 4 (kx_nm [0, 1, 2, 3, 4] (J 33)))))) (kx_la 0 (kx_c (kx_i 2) (kx_Vi C 99 9 [0] kx_rz)))))) (kx_la 0 (kx_c (kx_i 1) (kx_Vi C 99 9 [0] kx_rz))))))))
def wk_117_33 (d : Nat) (C : kx_C) (J : Nat → kx_F) : kx_F := (kx_li 4 (kx_la 0 (wx_gI 9 26 (kx_cge (kx_la 0 (wx_gI 9 26 (kx_si 4 (kx_la 0 (kx_c (kx_i 0) (wx_pI 9 26 (kx_li 3 (kx_ifle (kx_li 2 (kx_ifeq (kx_c (kx_i 0) (kx_si 5 (kx_c (kx_i 0) (kx_si 6 (kx_nm [0, 4, 5, 6] (J 158)))))) (kx_la 0 (kx_la 0 (wx_gI 9 1 (kx_c (kx_l 0) (kx_c (kx_i 0) (kx_c (kx_i (-1)) (kx_c (kx_i 0) (kx_Vv C 103 9 [0, 1, 0, 0, 0] (kx_c (kx_i 1) kx_rz))))))))))) (kx_li 1 (kx_li 3 (kx_irem (kx_si 5 (kx_c (kx_i 0) (kx_si 6 (kx_nm [0, 5, 6] (J 88)))))))))))))))) (kx_li 3 (kx_la 0 (kx_li 4 (kx_Vi C 118 9 [0] (kx_ifeq (kx_c (kx_i 0) (kx_nm [0, 1, 2, 4] (J 57))) (kx_c (kx_i 1) (kx_nm [0, 1, 2, 4] (J 57))))))))))))
def wk_117_57 (d : Nat) (C : kx_C) (J : Nat → kx_F) : kx_F := (kx_ii (fun x y => x + y) (kx_si 3 (kx_inc 4 1 (kx_nm [0, 1, 2, 3, 4] (J 33)))))
def wk_117_88 (d : Nat) (C : kx_C) (J : Nat → kx_F) : kx_F := (kx_li 5 (kx_ifgt (kx_nm [0, 5, 6] (J 102)) (kx_la 0 (kx_li 6 (kx_Vi C 118 9 [0] (kx_ifne (kx_la 0 (kx_li 6 (kx_Vi C 119 9 [0] kx_rz))) (kx_nm [0, 5, 6] (J 102))))))))
def wk_117_102 (d : Nat) (C : kx_C) (J : Nat → kx_F) : kx_F := (kx_li 5 (kx_la 0 (kx_li 6 (kx_Vi C 118 9 [0] (kx_ifeq (kx_c (kx_i 0) (kx_nm [0, 6] (J 118))) (kx_c (kx_i 1) (kx_nm [0, 6] (J 118))))))))
def wk_117_118 (d : Nat) (C : kx_C) (J : Nat → kx_F) : kx_F := (kx_ii (fun x y => x - y) (kx_si 5 (kx_inc 6 1 (kx_nm [0, 5, 6] (J 88)))))
def wk_117_158 (d : Nat) (C : kx_C) (J : Nat → kx_F) : kx_F := (kx_li 6 (kx_li 4 (kx_cge (kx_la 0 (kx_li 5 (kx_ifeq (kx_c (kx_i 7) (kx_nm [] (J 230))) (kx_c (kx_i 4) (kx_nm [] (J 230)))))) (kx_la 0 (wx_gR 9 27 99 (kx_li 6 (wx_aI 99 (kx_ifge (kx_la 0 (kx_la 0 (wx_gI 9 1 (kx_la 0 (wx_gR 9 27 99 (kx_li 6 (wx_aI 99 (kx_la 0 (wx_gR 9 28 101 (kx_li 6 (wx_aB 101 (kx_la 0 (wx_gR 9 29 100 (kx_li 6 (wx_aL 100 (kx_li 6 (kx_Vv C 107 9 [0, 0, 0, 1, 0] (kx_c (kx_i 1) (kx_si 5 (kx_nm [0, 4, 5, 6] (J 212))))))))))))))))))))) (kx_nm [0, 4, 5, 6] (J 212))))))))))
def wk_117_212 (d : Nat) (C : kx_C) (J : Nat → kx_F) : kx_F := (kx_inc 6 1 (kx_nm [0, 4, 5, 6] (J 158)))
def wk_117_230 (d : Nat) (C : kx_C) (J : Nat → kx_F) : kx_F := (kx_c (kx_i (-1)) (kx_Vv C 108 9 [0, 0] (kx_c (kx_i 0) kx_rz)))
def wm_117 (d : Nat) (C : kx_C) (b : Nat) (J : Nat → kx_F) : kx_F := bif Nat.beq b 0 then wk_117_0 d C J else bif Nat.beq b 33 then wk_117_33 d C J else bif Nat.beq b 57 then wk_117_57 d C J else bif Nat.beq b 88 then wk_117_88 d C J else bif Nat.beq b 102 then wk_117_102 d C J else bif Nat.beq b 118 then wk_117_118 d C J else bif Nat.beq b 158 then wk_117_158 d C J else bif Nat.beq b 212 then wk_117_212 d C J else bif Nat.beq b 230 then wk_117_230 d C J else fun _ _ _ => none
theorem zk_117_0 (CS : kZC T C C') (JS : ∀ b, kZ T (J b) (J' b)) : kZ T (bk_117_0 d C J) (wk_117_0 d C' J') := (zz_la (zz_ci (zz_pI (by decide) (zz_li (zz_ifge (zz_la (zz_gI (by decide) (zz_ifge (zz_ci (zz_si (zz_ci (zz_si (zz_nm (JS 33)))))) (zz_la (zz_ci (zz_Vi CS zz_rz)))))) (zz_la (zz_ci (zz_Vi CS zz_rz))))))))
theorem zk_117_33 (CS : kZC T C C') (JS : ∀ b, kZ T (J b) (J' b)) : kZ T (bk_117_33 d C J) (wk_117_33 d C' J') := (zz_li (zz_la (zz_gI (by decide) (zz_cge (zz_la (zz_gI (by decide) (zz_si (zz_la (zz_ci (zz_pI (by decide) (zz_li (zz_ifle (zz_li (zz_ifeq (zz_ci (zz_si (zz_ci (zz_si (zz_nm (JS 158)))))) (zz_la (zz_la (zz_gI (by decide) (zz_cl (zz_ci (zz_ci (zz_ci (zz_Vv CS (zz_ci zz_rz))))))))))) (zz_li (zz_li (zz_irem (zz_si (zz_ci (zz_si (zz_nm (JS 88)))))))))))))))) (zz_li (zz_la (zz_li (zz_Vi CS (zz_ifeq (zz_ci (zz_nm (JS 57))) (zz_ci (zz_nm (JS 57))))))))))))
theorem zk_117_57 (CS : kZC T C C') (JS : ∀ b, kZ T (J b) (J' b)) : kZ T (bk_117_57 d C J) (wk_117_57 d C' J') := (zz_ii (zz_si (zz_inc (zz_nm (JS 33)))))
theorem zk_117_88 (CS : kZC T C C') (JS : ∀ b, kZ T (J b) (J' b)) : kZ T (bk_117_88 d C J) (wk_117_88 d C' J') := (zz_li (zz_ifgt (zz_nm (JS 102)) (zz_la (zz_li (zz_Vi CS (zz_ifne (zz_la (zz_li (zz_Vi CS zz_rz))) (zz_nm (JS 102))))))))
theorem zk_117_102 (CS : kZC T C C') (JS : ∀ b, kZ T (J b) (J' b)) : kZ T (bk_117_102 d C J) (wk_117_102 d C' J') := (zz_li (zz_la (zz_li (zz_Vi CS (zz_ifeq (zz_ci (zz_nm (JS 118))) (zz_ci (zz_nm (JS 118))))))))
theorem zk_117_118 (CS : kZC T C C') (JS : ∀ b, kZ T (J b) (J' b)) : kZ T (bk_117_118 d C J) (wk_117_118 d C' J') := (zz_ii (zz_si (zz_inc (zz_nm (JS 88)))))
theorem zk_117_158 (CS : kZC T C C') (JS : ∀ b, kZ T (J b) (J' b)) : kZ T (bk_117_158 d C J) (wk_117_158 d C' J') := (zz_li (zz_li (zz_cge (zz_la (zz_li (zz_ifeq (zz_ci (zz_nm (JS 230))) (zz_ci (zz_nm (JS 230)))))) (zz_la (zz_gR (by decide) rfl (zz_li (zz_aI (by decide) (zz_ifge (zz_la (zz_la (zz_gI (by decide) (zz_la (zz_gR (by decide) rfl (zz_li (zz_aI (by decide) (zz_la (zz_gR (by decide) rfl (zz_li (zz_aB (by decide) (zz_la (zz_gR (by decide) rfl (zz_li (zz_aL (by decide) (zz_li (zz_Vv CS (zz_ci (zz_si (zz_nm (JS 212))))))))))))))))))))) (zz_nm (JS 212))))))))))
theorem zk_117_212 (CS : kZC T C C') (JS : ∀ b, kZ T (J b) (J' b)) : kZ T (bk_117_212 d C J) (wk_117_212 d C' J') := (zz_inc (zz_nm (JS 158)))
theorem zk_117_230 (CS : kZC T C C') (JS : ∀ b, kZ T (J b) (J' b)) : kZ T (bk_117_230 d C J) (wk_117_230 d C' J') := (zz_ci (zz_Vv CS (zz_ci zz_rz)))
theorem zm_117 (CS : kZC T C C') (J J' : Nat → kx_F) (JS : ∀ b, kZ T (J b) (J' b)) (b : Nat) : kZ T (bm_117 d C b J) (wm_117 d C' b J') := by
  unfold bm_117 wm_117
  cases h0 : Nat.beq b 0 with
  | true => exact zk_117_0 (d := d) CS JS
  | false =>
   cases h33 : Nat.beq b 33 with
   | true => exact zk_117_33 (d := d) CS JS
   | false =>
    cases h57 : Nat.beq b 57 with
    | true => exact zk_117_57 (d := d) CS JS
    | false =>
     cases h88 : Nat.beq b 88 with
     | true => exact zk_117_88 (d := d) CS JS
     | false =>
      cases h102 : Nat.beq b 102 with
      | true => exact zk_117_102 (d := d) CS JS
      | false =>
       cases h118 : Nat.beq b 118 with
       | true => exact zk_117_118 (d := d) CS JS
       | false =>
        cases h158 : Nat.beq b 158 with
        | true => exact zk_117_158 (d := d) CS JS
        | false =>
         cases h212 : Nat.beq b 212 with
         | true => exact zk_117_212 (d := d) CS JS
         | false =>
          cases h230 : Nat.beq b 230 with
          | true => exact zk_117_230 (d := d) CS JS
          | false =>
           exact zz_no
/-! TaskDeskModel.isReady(I)Z -/
def wk_118_0 (d : Nat) (C : kx_C) (J : Nat → kx_F) : kx_F := (kx_la 0 (wx_gR 9 28 101 (kx_li 1 (wx_aB 101 (kx_ifeq (kx_la 0 (kx_la 0 (wx_gR 9 27 99 (kx_li 1 (wx_aI 99 (kx_Vi C 113 9 [0] (kx_nm [] (J 32)))))))) (kx_la 0 (kx_la 0 (wx_gR 9 27 99 (kx_li 1 (wx_aI 99 (kx_Vi C 100 9 [0] (kx_nm [] (J 32)))))))))))))
def wk_118_32 (d : Nat) (C : kx_C) (J : Nat → kx_F) : kx_F := kx_rz
def wm_118 (d : Nat) (C : kx_C) (b : Nat) (J : Nat → kx_F) : kx_F := bif Nat.beq b 0 then wk_118_0 d C J else bif Nat.beq b 32 then wk_118_32 d C J else fun _ _ _ => none
theorem zk_118_0 (CS : kZC T C C') (JS : ∀ b, kZ T (J b) (J' b)) : kZ T (bk_118_0 d C J) (wk_118_0 d C' J') := (zz_la (zz_gR (by decide) rfl (zz_li (zz_aB (by decide) (zz_ifeq (zz_la (zz_la (zz_gR (by decide) rfl (zz_li (zz_aI (by decide) (zz_Vi CS (zz_nm (JS 32)))))))) (zz_la (zz_la (zz_gR (by decide) rfl (zz_li (zz_aI (by decide) (zz_Vi CS (zz_nm (JS 32)))))))))))))
theorem zk_118_32 (CS : kZC T C C') (JS : ∀ b, kZ T (J b) (J' b)) : kZ T (bk_118_32 d C J) (wk_118_32 d C' J') := zz_rz
theorem zm_118 (CS : kZC T C C') (J J' : Nat → kx_F) (JS : ∀ b, kZ T (J b) (J' b)) (b : Nat) : kZ T (bm_118 d C b J) (wm_118 d C' b J') := by
  unfold bm_118 wm_118
  cases h0 : Nat.beq b 0 with
  | true => exact zk_118_0 (d := d) CS JS
  | false =>
   cases h32 : Nat.beq b 32 with
   | true => exact zk_118_32 (d := d) CS JS
   | false =>
    exact zz_no
/-! TaskDeskModel.done(I)Z -/
def wk_119_0 (d : Nat) (C : kx_C) (J : Nat → kx_F) : kx_F := (kx_la 0 (wx_gR 9 27 99 (kx_li 1 (wx_aI 99 (kx_si 2 (kx_la 0 (wx_gR 9 28 101 (kx_li 1 (wx_aB 101 (kx_ifne (kx_la 0 (wx_gR 9 14 101 (kx_li 2 (wx_aB 101 (kx_ifeq (kx_la 0 (kx_li 2 (kx_la 0 (wx_gR 9 29 100 (kx_li 1 (wx_aL 100 (kx_Vv C 101 9 [0, 1] (kx_la 0 (kx_la 0 (wx_gI 9 1 (kx_c (kx_l 0) (kx_c (kx_i 1) (kx_li 1 (kx_c (kx_i 0) (kx_Vv C 103 9 [0, 1, 0, 0, 0] (kx_c (kx_i 1) kx_rz)))))))))))))))) (kx_la 0 (kx_c (kx_i 3) (kx_Vi C 99 9 [0] kx_rz)))))))) (kx_la 0 (kx_li 2 (kx_li 1 (kx_Vv C 114 9 [0, 0] (kx_c (kx_i 1) kx_rz)))))))))))))))
def wm_119 (d : Nat) (C : kx_C) (b : Nat) (J : Nat → kx_F) : kx_F := bif Nat.beq b 0 then wk_119_0 d C J else fun _ _ _ => none
theorem zk_119_0 (CS : kZC T C C') (JS : ∀ b, kZ T (J b) (J' b)) : kZ T (bk_119_0 d C J) (wk_119_0 d C' J') := (zz_la (zz_gR (by decide) rfl (zz_li (zz_aI (by decide) (zz_si (zz_la (zz_gR (by decide) rfl (zz_li (zz_aB (by decide) (zz_ifne (zz_la (zz_gR (by decide) rfl (zz_li (zz_aB (by decide) (zz_ifeq (zz_la (zz_li (zz_la (zz_gR (by decide) rfl (zz_li (zz_aL (by decide) (zz_Vv CS (zz_la (zz_la (zz_gI (by decide) (zz_cl (zz_ci (zz_li (zz_ci (zz_Vv CS (zz_ci zz_rz)))))))))))))))) (zz_la (zz_ci (zz_Vi CS zz_rz)))))))) (zz_la (zz_li (zz_li (zz_Vv CS (zz_ci zz_rz)))))))))))))))
theorem zm_119 (CS : kZC T C C') (J J' : Nat → kx_F) (JS : ∀ b, kZ T (J b) (J' b)) (b : Nat) : kZ T (bm_119 d C b J) (wm_119 d C' b J') := by
  unfold bm_119 wm_119
  cases h0 : Nat.beq b 0 with
  | true => exact zk_119_0 (d := d) CS JS
  | false =>
   exact zz_no
/-! TaskDeskModel.spawn()I -/
def wk_120_0 (d : Nat) (C : kx_C) (J : Nat → kx_F) : kx_F := (kx_la 0 (kx_c (kx_i 0) (wx_pI 9 0 (kx_c (kx_i 0) (kx_si 1 (kx_nm [0, 1] (J 7)))))))
def wk_120_7 (d : Nat) (C : kx_C) (J : Nat → kx_F) : kx_F := (kx_li 1 (kx_c (kx_i 256) (kx_cge (kx_nm [0, 1] (J 29)) (kx_la 0 (wx_gR 9 4 101 (kx_li 1 (wx_aB 101 (kx_ifeq (kx_nm [0, 1] (J 29)) (kx_inc 1 1 (kx_nm [0, 1] (J 7)))))))))))
def wk_120_29 (d : Nat) (C : kx_C) (J : Nat → kx_F) : kx_F := (kx_la 0 (wx_gI 9 1 (kx_iflt (kx_nm [0] (J 43)) (kx_li 1 (kx_c (kx_i 256) (kx_cne (kx_la 0 (wx_gR 9 4 101 (kx_li 1 (kx_c (kx_i 1) (wx_asB 101 (kx_la 0 (kx_li 1 (kx_c (kx_l 0) (kx_c (kx_i 0) (kx_c (kx_i (-1)) (kx_c (kx_i 0) (kx_Vv C 103 9 [0, 1, 0, 0, 0] (kx_la 0 (kx_li 1 (kx_Vv C 105 9 [0] (kx_li 1 kx_ri)))))))))))))))) (kx_nm [0] (J 43))))))))
def wk_120_43 (d : Nat) (C : kx_C) (J : Nat → kx_F) : kx_F := (kx_la 0 (kx_c (kx_i 1) (kx_Vi C 91 9 [0] kx_ri)))
def wm_120 (d : Nat) (C : kx_C) (b : Nat) (J : Nat → kx_F) : kx_F := bif Nat.beq b 0 then wk_120_0 d C J else bif Nat.beq b 7 then wk_120_7 d C J else bif Nat.beq b 29 then wk_120_29 d C J else bif Nat.beq b 43 then wk_120_43 d C J else fun _ _ _ => none
theorem zk_120_0 (CS : kZC T C C') (JS : ∀ b, kZ T (J b) (J' b)) : kZ T (bk_120_0 d C J) (wk_120_0 d C' J') := (zz_la (zz_ci (zz_pI (by decide) (zz_ci (zz_si (zz_nm (JS 7)))))))
theorem zk_120_7 (CS : kZC T C C') (JS : ∀ b, kZ T (J b) (J' b)) : kZ T (bk_120_7 d C J) (wk_120_7 d C' J') := (zz_li (zz_ci (zz_cge (zz_nm (JS 29)) (zz_la (zz_gR (by decide) rfl (zz_li (zz_aB (by decide) (zz_ifeq (zz_nm (JS 29)) (zz_inc (zz_nm (JS 7)))))))))))
theorem zk_120_29 (CS : kZC T C C') (JS : ∀ b, kZ T (J b) (J' b)) : kZ T (bk_120_29 d C J) (wk_120_29 d C' J') := (zz_la (zz_gI (by decide) (zz_iflt (zz_nm (JS 43)) (zz_li (zz_ci (zz_cne (zz_la (zz_gR (by decide) rfl (zz_li (zz_ci (zz_asB (by decide) (zz_la (zz_li (zz_cl (zz_ci (zz_ci (zz_ci (zz_Vv CS (zz_la (zz_li (zz_Vv CS (zz_li zz_ri)))))))))))))))) (zz_nm (JS 43))))))))
theorem zk_120_43 (CS : kZC T C C') (JS : ∀ b, kZ T (J b) (J' b)) : kZ T (bk_120_43 d C J) (wk_120_43 d C' J') := (zz_la (zz_ci (zz_Vi CS zz_ri)))
theorem zm_120 (CS : kZC T C C') (J J' : Nat → kx_F) (JS : ∀ b, kZ T (J b) (J' b)) (b : Nat) : kZ T (bm_120 d C b J) (wm_120 d C' b J') := by
  unfold bm_120 wm_120
  cases h0 : Nat.beq b 0 with
  | true => exact zk_120_0 (d := d) CS JS
  | false =>
   cases h7 : Nat.beq b 7 with
   | true => exact zk_120_7 (d := d) CS JS
   | false =>
    cases h29 : Nat.beq b 29 with
    | true => exact zk_120_29 (d := d) CS JS
    | false =>
     cases h43 : Nat.beq b 43 with
     | true => exact zk_120_43 (d := d) CS JS
     | false =>
      exact zz_no
/-! TaskDeskModel.giveWay()I -/
def wk_121_0 (d : Nat) (C : kx_C) (J : Nat → kx_F) : kx_F := (kx_la 0 (kx_c (kx_i 0) (wx_pI 9 0 (kx_la 0 (wx_gI 9 1 (kx_ifge (kx_la 0 (kx_la 0 (wx_gI 9 1 (kx_Vv C 105 9 [0] (kx_la 0 (kx_Vv C 109 9 [] (kx_la 0 (wx_gI 9 1 kx_ri)))))))) (kx_la 0 (kx_c (kx_i 1) (kx_Vi C 91 9 [0] kx_ri)))))))))
def wm_121 (d : Nat) (C : kx_C) (b : Nat) (J : Nat → kx_F) : kx_F := bif Nat.beq b 0 then wk_121_0 d C J else fun _ _ _ => none
theorem zk_121_0 (CS : kZC T C C') (JS : ∀ b, kZ T (J b) (J' b)) : kZ T (bk_121_0 d C J) (wk_121_0 d C' J') := (zz_la (zz_ci (zz_pI (by decide) (zz_la (zz_gI (by decide) (zz_ifge (zz_la (zz_la (zz_gI (by decide) (zz_Vv CS (zz_la (zz_Vv CS (zz_la (zz_gI (by decide) zz_ri)))))))) (zz_la (zz_ci (zz_Vi CS zz_ri)))))))))
theorem zm_121 (CS : kZC T C C') (J J' : Nat → kx_F) (JS : ∀ b, kZ T (J b) (J' b)) (b : Nat) : kZ T (bm_121 d C b J) (wm_121 d C' b J') := by
  unfold bm_121 wm_121
  cases h0 : Nat.beq b 0 with
  | true => exact zk_121_0 (d := d) CS JS
  | false =>
   exact zz_no
/-! TaskDeskModel.finish()I -/
def wk_122_0 (d : Nat) (C : kx_C) (J : Nat → kx_F) : kx_F := (kx_la 0 (kx_c (kx_i 0) (wx_pI 9 0 (kx_la 0 (wx_gI 9 1 (kx_ifge (kx_la 0 (wx_gR 9 4 101 (kx_la 0 (wx_gI 9 1 (kx_c (kx_i 0) (wx_asB 101 (kx_la 0 (wx_gI 9 1 (kx_ifle (kx_c (kx_i 0) (kx_si 1 (kx_nm [0, 1] (J 51)))) (kx_la 0 (kx_c (kx_i (-1)) (wx_pI 9 1 (kx_la 0 (kx_Vv C 109 9 [] (kx_la 0 (wx_gI 9 1 kx_ri)))))))))))))))) (kx_la 0 (kx_c (kx_i 1) (kx_Vi C 91 9 [0] kx_ri)))))))))
def wk_122_51 (d : Nat) (C : kx_C) (J : Nat → kx_F) : kx_F := (kx_li 1 (kx_c (kx_i 256) (kx_cge (kx_la 0 (kx_c (kx_i 0) (wx_pI 9 11 (kx_la 0 (kx_c (kx_i 0) (wx_pI 9 20 (kx_la 0 (kx_c (kx_i 0) (wx_pI 9 34 (kx_c (kx_i 0) (kx_si 1 (kx_c (kx_i 0) (kx_si 2 (kx_nm [0, 1, 2] (J 90))))))))))))))) (kx_la 0 (wx_gR 9 4 101 (kx_li 1 (kx_c (kx_i 0) (wx_asB 101 (kx_inc 1 1 (kx_nm [0, 1] (J 51)))))))))))
def wk_122_90 (d : Nat) (C : kx_C) (J : Nat → kx_F) : kx_F := (kx_li 2 (kx_la 0 (wx_gI 9 38 (kx_cge (kx_la 0 (kx_li 1 (wx_pI 9 38 (kx_la 0 (kx_c (kx_i (-1)) (wx_pI 9 1 (kx_la 0 (kx_c (kx_i 1) (wx_pI 9 2 (kx_c (kx_i (-1)) kx_ri)))))))))) (kx_la 0 (wx_gR 9 39 99 (kx_li 2 (wx_aI 99 (kx_iflt (kx_la 0 (wx_gR 9 39 99 (kx_li 1 (kx_la 0 (wx_gR 9 39 99 (kx_li 2 (wx_aI 99 (wx_asI 99 (kx_la 0 (wx_gR 9 40 100 (kx_li 1 (kx_la 0 (wx_gR 9 40 100 (kx_li 2 (wx_aL 100 (wx_asL 100 (kx_inc 1 1 (kx_nm [0, 1, 2] (J 137))))))))))))))))))) (kx_nm [0, 1, 2] (J 137)))))))))))
def wk_122_137 (d : Nat) (C : kx_C) (J : Nat → kx_F) : kx_F := (kx_inc 2 1 (kx_nm [0, 1, 2] (J 90)))
def wm_122 (d : Nat) (C : kx_C) (b : Nat) (J : Nat → kx_F) : kx_F := bif Nat.beq b 0 then wk_122_0 d C J else bif Nat.beq b 51 then wk_122_51 d C J else bif Nat.beq b 90 then wk_122_90 d C J else bif Nat.beq b 137 then wk_122_137 d C J else fun _ _ _ => none
theorem zk_122_0 (CS : kZC T C C') (JS : ∀ b, kZ T (J b) (J' b)) : kZ T (bk_122_0 d C J) (wk_122_0 d C' J') := (zz_la (zz_ci (zz_pI (by decide) (zz_la (zz_gI (by decide) (zz_ifge (zz_la (zz_gR (by decide) rfl (zz_la (zz_gI (by decide) (zz_ci (zz_asB (by decide) (zz_la (zz_gI (by decide) (zz_ifle (zz_ci (zz_si (zz_nm (JS 51)))) (zz_la (zz_ci (zz_pI (by decide) (zz_la (zz_Vv CS (zz_la (zz_gI (by decide) zz_ri)))))))))))))))) (zz_la (zz_ci (zz_Vi CS zz_ri)))))))))
theorem zk_122_51 (CS : kZC T C C') (JS : ∀ b, kZ T (J b) (J' b)) : kZ T (bk_122_51 d C J) (wk_122_51 d C' J') := (zz_li (zz_ci (zz_cge (zz_la (zz_ci (zz_pI (by decide) (zz_la (zz_ci (zz_pI (by decide) (zz_la (zz_ci (zz_pI (by decide) (zz_ci (zz_si (zz_ci (zz_si (zz_nm (JS 90))))))))))))))) (zz_la (zz_gR (by decide) rfl (zz_li (zz_ci (zz_asB (by decide) (zz_inc (zz_nm (JS 51)))))))))))
theorem zk_122_90 (CS : kZC T C C') (JS : ∀ b, kZ T (J b) (J' b)) : kZ T (bk_122_90 d C J) (wk_122_90 d C' J') := (zz_li (zz_la (zz_gI (by decide) (zz_cge (zz_la (zz_li (zz_pI (by decide) (zz_la (zz_ci (zz_pI (by decide) (zz_la (zz_ci (zz_pI (by decide) (zz_ci zz_ri)))))))))) (zz_la (zz_gR (by decide) rfl (zz_li (zz_aI (by decide) (zz_iflt (zz_la (zz_gR (by decide) rfl (zz_li (zz_la (zz_gR (by decide) rfl (zz_li (zz_aI (by decide) (zz_asI (by decide) (zz_la (zz_gR (by decide) rfl (zz_li (zz_la (zz_gR (by decide) rfl (zz_li (zz_aL (by decide) (zz_asL (by decide) (zz_inc (zz_nm (JS 137))))))))))))))))))) (zz_nm (JS 137)))))))))))
theorem zk_122_137 (CS : kZC T C C') (JS : ∀ b, kZ T (J b) (J' b)) : kZ T (bk_122_137 d C J) (wk_122_137 d C' J') := (zz_inc (zz_nm (JS 90)))
theorem zm_122 (CS : kZC T C C') (J J' : Nat → kx_F) (JS : ∀ b, kZ T (J b) (J' b)) (b : Nat) : kZ T (bm_122 d C b J) (wm_122 d C' b J') := by
  unfold bm_122 wm_122
  cases h0 : Nat.beq b 0 with
  | true => exact zk_122_0 (d := d) CS JS
  | false =>
   cases h51 : Nat.beq b 51 with
   | true => exact zk_122_51 (d := d) CS JS
   | false =>
    cases h90 : Nat.beq b 90 with
    | true => exact zk_122_90 (d := d) CS JS
    | false =>
     cases h137 : Nat.beq b 137 with
     | true => exact zk_122_137 (d := d) CS JS
     | false =>
      exact zz_no
/-! TaskDeskModel.sleep(J)I -/
def wk_123_0 (d : Nat) (C : kx_C) (J : Nat → kx_F) : kx_F := (kx_la 0 (kx_c (kx_i 0) (wx_pI 9 0 (kx_ll 1 (kx_c (kx_l 1000000000) (kx_lcmp (kx_ifle (kx_la 0 (wx_gI 9 1 (kx_ifge (kx_ll 1 (kx_c (kx_l 0) (kx_lcmp (kx_ifgt (kx_la 0 (wx_gR 9 39 99 (kx_la 0 (wx_gI 9 38 (kx_la 0 (wx_gI 9 1 (wx_asI 99 (kx_la 0 (wx_gR 9 40 100 (kx_la 0 (wx_gI 9 38 (kx_la 0 (wx_gL 9 3 (kx_ll 1 (kx_jj (fun x y => x + y) (wx_asL 100 (kx_la 0 (kx_dup (wx_gI 9 38 (kx_c (kx_i 1) (kx_ii (fun x y => x + y) (wx_pI 9 38 (kx_la 0 (kx_c (kx_i 5) (kx_c (kx_i (-1)) (kx_Vv C 108 9 [0, 0] (kx_la 0 (wx_gI 9 1 kx_ri)))))))))))))))))))))))))))) (kx_la 0 (kx_Vi C 121 9 [] kx_ri)))))) (kx_la 0 (kx_c (kx_i 2) (kx_Vi C 91 9 [0] kx_ri)))))) (kx_la 0 (kx_c (kx_i 1) (kx_Vi C 91 9 [0] kx_ri))))))))))
def wm_123 (d : Nat) (C : kx_C) (b : Nat) (J : Nat → kx_F) : kx_F := bif Nat.beq b 0 then wk_123_0 d C J else fun _ _ _ => none
theorem zk_123_0 (CS : kZC T C C') (JS : ∀ b, kZ T (J b) (J' b)) : kZ T (bk_123_0 d C J) (wk_123_0 d C' J') := (zz_la (zz_ci (zz_pI (by decide) (zz_ll (zz_cl (zz_lcmp (zz_ifle (zz_la (zz_gI (by decide) (zz_ifge (zz_ll (zz_cl (zz_lcmp (zz_ifgt (zz_la (zz_gR (by decide) rfl (zz_la (zz_gI (by decide) (zz_la (zz_gI (by decide) (zz_asI (by decide) (zz_la (zz_gR (by decide) rfl (zz_la (zz_gI (by decide) (zz_la (zz_gL (by decide) (zz_ll (zz_jj (zz_asL (by decide) (zz_la (zz_dup (zz_gI (by decide) (zz_ci (zz_ii (zz_pI (by decide) (zz_la (zz_ci (zz_ci (zz_Vv CS (zz_la (zz_gI (by decide) zz_ri)))))))))))))))))))))))))))) (zz_la (zz_Vi CS zz_ri)))))) (zz_la (zz_ci (zz_Vi CS zz_ri)))))) (zz_la (zz_ci (zz_Vi CS zz_ri))))))))))
theorem zm_123 (CS : kZC T C C') (J J' : Nat → kx_F) (JS : ∀ b, kZ T (J b) (J' b)) (b : Nat) : kZ T (bm_123 d C b J) (wm_123 d C' b J') := by
  unfold bm_123 wm_123
  cases h0 : Nat.beq b 0 with
  | true => exact zk_123_0 (d := d) CS JS
  | false =>
   exact zz_no
/-! TaskDeskModel.gate(II)I -/
def wk_124_0 (d : Nat) (C : kx_C) (J : Nat → kx_F) : kx_F := (kx_la 0 (kx_c (kx_i 0) (wx_pI 9 0 (kx_li 1 (kx_iflt (kx_nm [0] (J 36)) (kx_li 1 (kx_c (kx_i 4) (kx_cgt (kx_nm [0] (J 36)) (kx_li 1 (kx_c (kx_i 3) (kx_cne (kx_nm [0, 1, 2] (J 42)) (kx_la 0 (kx_li 2 (kx_Vi C 125 9 [0] (kx_ifeq (kx_nm [0] (J 36)) (kx_la 0 (wx_gR 9 31 99 (kx_li 2 (wx_aI 99 (kx_ifeq (kx_nm [0, 1, 2] (J 42)) (kx_nm [0] (J 36))))))))))))))))))))))
def wk_124_36 (d : Nat) (C : kx_C) (J : Nat → kx_F) : kx_F := (kx_la 0 (kx_c (kx_i 1) (kx_Vi C 91 9 [0] kx_ri)))
def wk_124_42 (d : Nat) (C : kx_C) (J : Nat → kx_F) : kx_F := (kx_la 0 (wx_gI 9 30 (kx_c (kx_i 256) (kx_cne (kx_la 0 (wx_gR 9 31 99 (kx_la 0 (wx_gI 9 30 (kx_li 1 (wx_asI 99 (kx_la 0 (wx_gR 9 33 99 (kx_la 0 (wx_gI 9 30 (kx_li 2 (wx_asI 99 (kx_la 0 (wx_gR 9 32 99 (kx_la 0 (wx_gI 9 30 (kx_c (kx_i 0) (wx_asI 99 (kx_la 0 (kx_dup (wx_gI 9 30 (kx_c (kx_i 1) (kx_ii (fun x y => x + y) (wx_pI 9 30 (kx_la 0 (wx_gI 9 30 (kx_c (kx_i 1) (kx_ii (fun x y => x - y) kx_ri)))))))))))))))))))))))))))) (kx_la 0 (kx_c (kx_i 2) (kx_Vi C 91 9 [0] kx_ri)))))))
def wm_124 (d : Nat) (C : kx_C) (b : Nat) (J : Nat → kx_F) : kx_F := bif Nat.beq b 0 then wk_124_0 d C J else bif Nat.beq b 36 then wk_124_36 d C J else bif Nat.beq b 42 then wk_124_42 d C J else fun _ _ _ => none
theorem zk_124_0 (CS : kZC T C C') (JS : ∀ b, kZ T (J b) (J' b)) : kZ T (bk_124_0 d C J) (wk_124_0 d C' J') := (zz_la (zz_ci (zz_pI (by decide) (zz_li (zz_iflt (zz_nm (JS 36)) (zz_li (zz_ci (zz_cgt (zz_nm (JS 36)) (zz_li (zz_ci (zz_cne (zz_nm (JS 42)) (zz_la (zz_li (zz_Vi CS (zz_ifeq (zz_nm (JS 36)) (zz_la (zz_gR (by decide) rfl (zz_li (zz_aI (by decide) (zz_ifeq (zz_nm (JS 42)) (zz_nm (JS 36))))))))))))))))))))))
theorem zk_124_36 (CS : kZC T C C') (JS : ∀ b, kZ T (J b) (J' b)) : kZ T (bk_124_36 d C J) (wk_124_36 d C' J') := (zz_la (zz_ci (zz_Vi CS zz_ri)))
theorem zk_124_42 (CS : kZC T C C') (JS : ∀ b, kZ T (J b) (J' b)) : kZ T (bk_124_42 d C J) (wk_124_42 d C' J') := (zz_la (zz_gI (by decide) (zz_ci (zz_cne (zz_la (zz_gR (by decide) rfl (zz_la (zz_gI (by decide) (zz_li (zz_asI (by decide) (zz_la (zz_gR (by decide) rfl (zz_la (zz_gI (by decide) (zz_li (zz_asI (by decide) (zz_la (zz_gR (by decide) rfl (zz_la (zz_gI (by decide) (zz_ci (zz_asI (by decide) (zz_la (zz_dup (zz_gI (by decide) (zz_ci (zz_ii (zz_pI (by decide) (zz_la (zz_gI (by decide) (zz_ci (zz_ii zz_ri)))))))))))))))))))))))))))) (zz_la (zz_ci (zz_Vi CS zz_ri)))))))
theorem zm_124 (CS : kZC T C C') (J J' : Nat → kx_F) (JS : ∀ b, kZ T (J b) (J' b)) (b : Nat) : kZ T (bm_124 d C b J) (wm_124 d C' b J') := by
  unfold bm_124 wm_124
  cases h0 : Nat.beq b 0 with
  | true => exact zk_124_0 (d := d) CS JS
  | false =>
   cases h36 : Nat.beq b 36 with
   | true => exact zk_124_36 (d := d) CS JS
   | false =>
    cases h42 : Nat.beq b 42 with
    | true => exact zk_124_42 (d := d) CS JS
    | false =>
     exact zz_no
/-! TaskDeskModel.isGate(I)Z -/
def wk_125_0 (d : Nat) (C : kx_C) (J : Nat → kx_F) : kx_F := (kx_li 1 (kx_iflt (kx_nm [] (J 16)) (kx_li 1 (kx_la 0 (wx_gI 9 30 (kx_cge (kx_nm [] (J 16)) (kx_c (kx_i 1) (kx_nm [] (J 17)))))))))
def wk_125_16 (d : Nat) (C : kx_C) (J : Nat → kx_F) : kx_F := (kx_c (kx_i 0) (kx_nm [] (J 17)))
def wk_125_17 (d : Nat) (C : kx_C) (J : Nat → kx_F) : kx_F := kx_rz
def wm_125 (d : Nat) (C : kx_C) (b : Nat) (J : Nat → kx_F) : kx_F := bif Nat.beq b 0 then wk_125_0 d C J else bif Nat.beq b 16 then wk_125_16 d C J else bif Nat.beq b 17 then wk_125_17 d C J else fun _ _ _ => none
theorem zk_125_0 (CS : kZC T C C') (JS : ∀ b, kZ T (J b) (J' b)) : kZ T (bk_125_0 d C J) (wk_125_0 d C' J') := (zz_li (zz_iflt (zz_nm (JS 16)) (zz_li (zz_la (zz_gI (by decide) (zz_cge (zz_nm (JS 16)) (zz_ci (zz_nm (JS 17)))))))))
theorem zk_125_16 (CS : kZC T C C') (JS : ∀ b, kZ T (J b) (J' b)) : kZ T (bk_125_16 d C J) (wk_125_16 d C' J') := (zz_ci (zz_nm (JS 17)))
theorem zk_125_17 (CS : kZC T C C') (JS : ∀ b, kZ T (J b) (J' b)) : kZ T (bk_125_17 d C J) (wk_125_17 d C' J') := zz_rz
theorem zm_125 (CS : kZC T C C') (J J' : Nat → kx_F) (JS : ∀ b, kZ T (J b) (J' b)) (b : Nat) : kZ T (bm_125 d C b J) (wm_125 d C' b J') := by
  unfold bm_125 wm_125
  cases h0 : Nat.beq b 0 with
  | true => exact zk_125_0 (d := d) CS JS
  | false =>
   cases h16 : Nat.beq b 16 with
   | true => exact zk_125_16 (d := d) CS JS
   | false =>
    cases h17 : Nat.beq b 17 with
    | true => exact zk_125_17 (d := d) CS JS
    | false =>
     exact zz_no
/-! TaskDeskModel.enter(I)Z -/
def wk_126_0 (d : Nat) (C : kx_C) (J : Nat → kx_F) : kx_F := (kx_la 0 (kx_c (kx_i 0) (wx_pI 9 0 (kx_la 0 (kx_li 1 (kx_Vi C 125 9 [0] (kx_ifne (kx_la 0 (wx_gI 9 1 (kx_ifge (kx_la 0 (wx_gR 9 32 99 (kx_li 1 (wx_aI 99 (kx_si 2 (kx_la 0 (wx_gR 9 31 99 (kx_li 1 (wx_aI 99 (kx_sw [(0, (kx_la 0 (wx_gR 9 32 99 (kx_li 1 (kx_c (kx_i 1) (wx_asI 99 (kx_la 0 (kx_li 2 (kx_ifne (kx_c (kx_i 0) (kx_nm [1] (J 93))) (kx_c (kx_i 1) (kx_nm [1] (J 93)))))))))))), (1, (kx_li 2 (kx_ifne (kx_nm [0, 1, 2] (J 111)) (kx_la 0 (wx_gR 9 32 99 (kx_li 1 (kx_c (kx_i (-1)) (wx_asI 99 (kx_nm [0, 1, 2] (J 111)))))))))), (2, (kx_la 0 (kx_li 2 (kx_ifne (kx_c (kx_i 0) (kx_nm [1] (J 138))) (kx_c (kx_i 1) (kx_nm [1] (J 138))))))), (3, (kx_la 0 (wx_gR 9 32 99 (kx_la 0 (wx_gR 9 33 99 (kx_li 1 (wx_aI 99 (wx_aI 99 (kx_ifne (kx_la 0 (kx_la 0 (wx_gR 9 33 99 (kx_li 1 (wx_aI 99 (kx_Vv C 129 9 [0] (kx_la 0 (kx_c (kx_i 0) (kx_li 1 (kx_c (kx_i 0) (kx_c (kx_i 1) (kx_Vi C 127 9 [0, 0, 0, 0] kx_rz)))))))))))) (kx_la 0 (kx_c (kx_i 3) (kx_Vi C 99 9 [0] kx_rz))))))))))))] (kx_la 0 (wx_gR 9 32 99 (kx_li 1 (kx_li 2 (kx_ifne (kx_li 2 (kx_nm [0, 1, 2] (J 198))) (kx_c (kx_i 1) (kx_nm [0, 1, 2] (J 198)))))))))))))))))) (kx_la 0 (kx_c (kx_i 2) (kx_Vi C 99 9 [0] kx_rz)))))) (kx_la 0 (kx_c (kx_i 1) (kx_Vi C 99 9 [0] kx_rz))))))))))
def wk_126_93 (d : Nat) (C : kx_C) (J : Nat → kx_F) : kx_F := (kx_li 1 (kx_c (kx_i 0) (kx_c (kx_i 1) (kx_Vi C 127 9 [0, 0, 0, 0] kx_rz))))
def wk_126_111 (d : Nat) (C : kx_C) (J : Nat → kx_F) : kx_F := (kx_la 0 (kx_li 2 (kx_ifne (kx_c (kx_i 0) (kx_nm [1] (J 121))) (kx_c (kx_i 1) (kx_nm [1] (J 121))))))
def wk_126_121 (d : Nat) (C : kx_C) (J : Nat → kx_F) : kx_F := (kx_li 1 (kx_c (kx_i 0) (kx_c (kx_i 1) (kx_Vi C 127 9 [0, 0, 0, 0] kx_rz))))
def wk_126_138 (d : Nat) (C : kx_C) (J : Nat → kx_F) : kx_F := (kx_li 1 (kx_c (kx_i 0) (kx_c (kx_i 1) (kx_Vi C 127 9 [0, 0, 0, 0] kx_rz))))
def wk_126_198 (d : Nat) (C : kx_C) (J : Nat → kx_F) : kx_F := (wx_asI 99 (kx_la 0 (kx_li 2 (kx_c (kx_i 1) (kx_ceq (kx_c (kx_i 0) (kx_nm [1, 2] (J 210))) (kx_c (kx_i 1) (kx_nm [1, 2] (J 210))))))))
def wk_126_210 (d : Nat) (C : kx_C) (J : Nat → kx_F) : kx_F := (kx_li 1 (kx_c (kx_i 0) (kx_li 2 (kx_ifne (kx_c (kx_i 0) (kx_nm [] (J 221))) (kx_c (kx_i 1) (kx_nm [] (J 221)))))))
def wk_126_221 (d : Nat) (C : kx_C) (J : Nat → kx_F) : kx_F := (kx_Vi C 127 9 [0, 0, 0, 0] kx_rz)
def wm_126 (d : Nat) (C : kx_C) (b : Nat) (J : Nat → kx_F) : kx_F := bif Nat.beq b 0 then wk_126_0 d C J else bif Nat.beq b 93 then wk_126_93 d C J else bif Nat.beq b 111 then wk_126_111 d C J else bif Nat.beq b 121 then wk_126_121 d C J else bif Nat.beq b 138 then wk_126_138 d C J else bif Nat.beq b 198 then wk_126_198 d C J else bif Nat.beq b 210 then wk_126_210 d C J else bif Nat.beq b 221 then wk_126_221 d C J else fun _ _ _ => none
theorem zk_126_0 (CS : kZC T C C') (JS : ∀ b, kZ T (J b) (J' b)) : kZ T (bk_126_0 d C J) (wk_126_0 d C' J') := (zz_la (zz_ci (zz_pI (by decide) (zz_la (zz_li (zz_Vi CS (zz_ifne (zz_la (zz_gI (by decide) (zz_ifge (zz_la (zz_gR (by decide) rfl (zz_li (zz_aI (by decide) (zz_si (zz_la (zz_gR (by decide) rfl (zz_li (zz_aI (by decide) (zz_sw ⟨rfl, (zz_la (zz_gR (by decide) rfl (zz_li (zz_ci (zz_asI (by decide) (zz_la (zz_li (zz_ifne (zz_ci (zz_nm (JS 93))) (zz_ci (zz_nm (JS 93))))))))))), ⟨rfl, (zz_li (zz_ifne (zz_nm (JS 111)) (zz_la (zz_gR (by decide) rfl (zz_li (zz_ci (zz_asI (by decide) (zz_nm (JS 111))))))))), ⟨rfl, (zz_la (zz_li (zz_ifne (zz_ci (zz_nm (JS 138))) (zz_ci (zz_nm (JS 138)))))), ⟨rfl, (zz_la (zz_gR (by decide) rfl (zz_la (zz_gR (by decide) rfl (zz_li (zz_aI (by decide) (zz_aI (by decide) (zz_ifne (zz_la (zz_la (zz_gR (by decide) rfl (zz_li (zz_aI (by decide) (zz_Vv CS (zz_la (zz_ci (zz_li (zz_ci (zz_ci (zz_Vi CS zz_rz)))))))))))) (zz_la (zz_ci (zz_Vi CS zz_rz))))))))))), trivial⟩⟩⟩⟩ (zz_la (zz_gR (by decide) rfl (zz_li (zz_li (zz_ifne (zz_li (zz_nm (JS 198))) (zz_ci (zz_nm (JS 198)))))))))))))))))) (zz_la (zz_ci (zz_Vi CS zz_rz)))))) (zz_la (zz_ci (zz_Vi CS zz_rz))))))))))
theorem zk_126_93 (CS : kZC T C C') (JS : ∀ b, kZ T (J b) (J' b)) : kZ T (bk_126_93 d C J) (wk_126_93 d C' J') := (zz_li (zz_ci (zz_ci (zz_Vi CS zz_rz))))
theorem zk_126_111 (CS : kZC T C C') (JS : ∀ b, kZ T (J b) (J' b)) : kZ T (bk_126_111 d C J) (wk_126_111 d C' J') := (zz_la (zz_li (zz_ifne (zz_ci (zz_nm (JS 121))) (zz_ci (zz_nm (JS 121))))))
theorem zk_126_121 (CS : kZC T C C') (JS : ∀ b, kZ T (J b) (J' b)) : kZ T (bk_126_121 d C J) (wk_126_121 d C' J') := (zz_li (zz_ci (zz_ci (zz_Vi CS zz_rz))))
theorem zk_126_138 (CS : kZC T C C') (JS : ∀ b, kZ T (J b) (J' b)) : kZ T (bk_126_138 d C J) (wk_126_138 d C' J') := (zz_li (zz_ci (zz_ci (zz_Vi CS zz_rz))))
theorem zk_126_198 (CS : kZC T C C') (JS : ∀ b, kZ T (J b) (J' b)) : kZ T (bk_126_198 d C J) (wk_126_198 d C' J') := (zz_asI (by decide) (zz_la (zz_li (zz_ci (zz_ceq (zz_ci (zz_nm (JS 210))) (zz_ci (zz_nm (JS 210))))))))
theorem zk_126_210 (CS : kZC T C C') (JS : ∀ b, kZ T (J b) (J' b)) : kZ T (bk_126_210 d C J) (wk_126_210 d C' J') := (zz_li (zz_ci (zz_li (zz_ifne (zz_ci (zz_nm (JS 221))) (zz_ci (zz_nm (JS 221)))))))
theorem zk_126_221 (CS : kZC T C C') (JS : ∀ b, kZ T (J b) (J' b)) : kZ T (bk_126_221 d C J) (wk_126_221 d C' J') := (zz_Vi CS zz_rz)
theorem zm_126 (CS : kZC T C C') (J J' : Nat → kx_F) (JS : ∀ b, kZ T (J b) (J' b)) (b : Nat) : kZ T (bm_126 d C b J) (wm_126 d C' b J') := by
  unfold bm_126 wm_126
  cases h0 : Nat.beq b 0 with
  | true => exact zk_126_0 (d := d) CS JS
  | false =>
   cases h93 : Nat.beq b 93 with
   | true => exact zk_126_93 (d := d) CS JS
   | false =>
    cases h111 : Nat.beq b 111 with
    | true => exact zk_126_111 (d := d) CS JS
    | false =>
     cases h121 : Nat.beq b 121 with
     | true => exact zk_126_121 (d := d) CS JS
     | false =>
      cases h138 : Nat.beq b 138 with
      | true => exact zk_126_138 (d := d) CS JS
      | false =>
       cases h198 : Nat.beq b 198 with
       | true => exact zk_126_198 (d := d) CS JS
       | false =>
        cases h210 : Nat.beq b 210 with
        | true => exact zk_126_210 (d := d) CS JS
        | false =>
         cases h221 : Nat.beq b 221 with
         | true => exact zk_126_221 (d := d) CS JS
         | false =>
          exact zz_no
/-! TaskDeskModel.passes(ZIZZ)Z -/
def wk_127_0 (d : Nat) (C : kx_C) (J : Nat → kx_F) : kx_F := (kx_li 1 (kx_ifeq (kx_la 0 (kx_la 0 (wx_gI 9 1 (kx_li 2 (kx_li 3 (kx_Vv C 128 9 [0, 0, 0] (kx_la 0 (kx_c (kx_i 6) (kx_li 2 (kx_Vv C 108 9 [0, 0] (kx_c (kx_i 0) kx_rz))))))))))) (kx_la 0 (kx_la 0 (wx_gI 9 1 (kx_c (kx_l 0) (kx_li 4 (kx_c (kx_i (-1)) (kx_c (kx_i 0) (kx_Vv C 103 9 [0, 1, 0, 0, 0] (kx_c (kx_i 1) kx_rz)))))))))))
def wm_127 (d : Nat) (C : kx_C) (b : Nat) (J : Nat → kx_F) : kx_F := bif Nat.beq b 0 then wk_127_0 d C J else fun _ _ _ => none
theorem zk_127_0 (CS : kZC T C C') (JS : ∀ b, kZ T (J b) (J' b)) : kZ T (bk_127_0 d C J) (wk_127_0 d C' J') := (zz_li (zz_ifeq (zz_la (zz_la (zz_gI (by decide) (zz_li (zz_li (zz_Vv CS (zz_la (zz_ci (zz_li (zz_Vv CS (zz_ci zz_rz))))))))))) (zz_la (zz_la (zz_gI (by decide) (zz_cl (zz_li (zz_ci (zz_ci (zz_Vv CS (zz_ci zz_rz)))))))))))
theorem zm_127 (CS : kZC T C C') (J J' : Nat → kx_F) (JS : ∀ b, kZ T (J b) (J' b)) (b : Nat) : kZ T (bm_127 d C b J) (wm_127 d C' b J') := by
  unfold bm_127 wm_127
  cases h0 : Nat.beq b 0 with
  | true => exact zk_127_0 (d := d) CS JS
  | false =>
   exact zz_no
/-! TaskDeskModel.stand(IIZ)V -/
def wk_128_0 (d : Nat) (C : kx_C) (J : Nat → kx_F) : kx_F := (kx_la 0 (wx_gR 9 35 99 (kx_la 0 (wx_gI 9 34 (kx_li 1 (wx_asI 99 (kx_la 0 (wx_gR 9 36 99 (kx_la 0 (wx_gI 9 34 (kx_li 2 (wx_asI 99 (kx_la 0 (wx_gR 9 37 101 (kx_la 0 (wx_gI 9 34 (kx_li 3 (wx_asB 101 (kx_la 0 (kx_dup (wx_gI 9 34 (kx_c (kx_i 1) (kx_ii (fun x y => x + y) (wx_pI 9 34 kx_rv))))))))))))))))))))))))
def wm_128 (d : Nat) (C : kx_C) (b : Nat) (J : Nat → kx_F) : kx_F := bif Nat.beq b 0 then wk_128_0 d C J else fun _ _ _ => none
theorem zk_128_0 (CS : kZC T C C') (JS : ∀ b, kZ T (J b) (J' b)) : kZ T (bk_128_0 d C J) (wk_128_0 d C' J') := (zz_la (zz_gR (by decide) rfl (zz_la (zz_gI (by decide) (zz_li (zz_asI (by decide) (zz_la (zz_gR (by decide) rfl (zz_la (zz_gI (by decide) (zz_li (zz_asI (by decide) (zz_la (zz_gR (by decide) rfl (zz_la (zz_gI (by decide) (zz_li (zz_asB (by decide) (zz_la (zz_dup (zz_gI (by decide) (zz_ci (zz_ii (zz_pI (by decide) zz_rv))))))))))))))))))))))))
theorem zm_128 (CS : kZC T C C') (J J' : Nat → kx_F) (JS : ∀ b, kZ T (J b) (J' b)) (b : Nat) : kZ T (bm_128 d C b J) (wm_128 d C' b J') := by
  unfold bm_128 wm_128
  cases h0 : Nat.beq b 0 with
  | true => exact zk_128_0 (d := d) CS JS
  | false =>
   exact zz_no
/-! TaskDeskModel.unlock(I)V -/
def wk_129_0 (d : Nat) (C : kx_C) (J : Nat → kx_F) : kx_F := (kx_la 0 (kx_li 1 (kx_c (kx_i 2) (kx_Vi C 130 9 [0, 0] (kx_si 2 (kx_li 2 (kx_ifge (kx_la 0 (kx_li 2 (kx_c (kx_i 1) (kx_Vv C 131 9 [0, 0] (kx_nm [] (J 27)))))) (kx_la 0 (wx_gR 9 32 99 (kx_li 1 (kx_c (kx_i 0) (wx_asI 99 (kx_nm [] (J 27))))))))))))))
def wk_129_27 (d : Nat) (C : kx_C) (J : Nat → kx_F) : kx_F := kx_rv
def wm_129 (d : Nat) (C : kx_C) (b : Nat) (J : Nat → kx_F) : kx_F := bif Nat.beq b 0 then wk_129_0 d C J else bif Nat.beq b 27 then wk_129_27 d C J else fun _ _ _ => none
theorem zk_129_0 (CS : kZC T C C') (JS : ∀ b, kZ T (J b) (J' b)) : kZ T (bk_129_0 d C J) (wk_129_0 d C' J') := (zz_la (zz_li (zz_ci (zz_Vi CS (zz_si (zz_li (zz_ifge (zz_la (zz_li (zz_ci (zz_Vv CS (zz_nm (JS 27)))))) (zz_la (zz_gR (by decide) rfl (zz_li (zz_ci (zz_asI (by decide) (zz_nm (JS 27))))))))))))))
theorem zk_129_27 (CS : kZC T C C') (JS : ∀ b, kZ T (J b) (J' b)) : kZ T (bk_129_27 d C J) (wk_129_27 d C' J') := zz_rv
theorem zm_129 (CS : kZC T C C') (J J' : Nat → kx_F) (JS : ∀ b, kZ T (J b) (J' b)) (b : Nat) : kZ T (bm_129 d C b J) (wm_129 d C' b J') := by
  unfold bm_129 wm_129
  cases h0 : Nat.beq b 0 with
  | true => exact zk_129_0 (d := d) CS JS
  | false =>
   cases h27 : Nat.beq b 27 with
   | true => exact zk_129_27 (d := d) CS JS
   | false =>
    exact zz_no
/-! TaskDeskModel.standing(II)I -/
def wk_130_0 (d : Nat) (C : kx_C) (J : Nat → kx_F) : kx_F := (kx_c (kx_i 0) (kx_si 3 (kx_nm [0, 1, 2, 3] (J 2))))
def wk_130_2 (d : Nat) (C : kx_C) (J : Nat → kx_F) : kx_F := (kx_li 3 (kx_la 0 (wx_gI 9 34 (kx_cge (kx_c (kx_i (-1)) kx_ri) (kx_la 0 (wx_gR 9 36 99 (kx_li 3 (wx_aI 99 (kx_li 1 (kx_cne (kx_nm [0, 1, 2, 3] (J 46)) (kx_li 2 (kx_c (kx_i 2) (kx_ceq (kx_nm [3] (J 44)) (kx_la 0 (wx_gR 9 37 101 (kx_li 3 (wx_aB 101 (kx_li 2 (kx_c (kx_i 1) (kx_cne (kx_c (kx_i 0) (kx_nm [0, 1, 2, 3] (J 41))) (kx_c (kx_i 1) (kx_nm [0, 1, 2, 3] (J 41)))))))))))))))))))))))
def wk_130_41 (d : Nat) (C : kx_C) (J : Nat → kx_F) : kx_F := (kx_cne (kx_nm [0, 1, 2, 3] (J 46)) (kx_nm [3] (J 44)))
def wk_130_44 (d : Nat) (C : kx_C) (J : Nat → kx_F) : kx_F := (kx_li 3 kx_ri)
def wk_130_46 (d : Nat) (C : kx_C) (J : Nat → kx_F) : kx_F := (kx_inc 3 1 (kx_nm [0, 1, 2, 3] (J 2)))
def wm_130 (d : Nat) (C : kx_C) (b : Nat) (J : Nat → kx_F) : kx_F := bif Nat.beq b 0 then wk_130_0 d C J else bif Nat.beq b 2 then wk_130_2 d C J else bif Nat.beq b 41 then wk_130_41 d C J else bif Nat.beq b 44 then wk_130_44 d C J else bif Nat.beq b 46 then wk_130_46 d C J else fun _ _ _ => none
theorem zk_130_0 (CS : kZC T C C') (JS : ∀ b, kZ T (J b) (J' b)) : kZ T (bk_130_0 d C J) (wk_130_0 d C' J') := (zz_ci (zz_si (zz_nm (JS 2))))
theorem zk_130_2 (CS : kZC T C C') (JS : ∀ b, kZ T (J b) (J' b)) : kZ T (bk_130_2 d C J) (wk_130_2 d C' J') := (zz_li (zz_la (zz_gI (by decide) (zz_cge (zz_ci zz_ri) (zz_la (zz_gR (by decide) rfl (zz_li (zz_aI (by decide) (zz_li (zz_cne (zz_nm (JS 46)) (zz_li (zz_ci (zz_ceq (zz_nm (JS 44)) (zz_la (zz_gR (by decide) rfl (zz_li (zz_aB (by decide) (zz_li (zz_ci (zz_cne (zz_ci (zz_nm (JS 41))) (zz_ci (zz_nm (JS 41)))))))))))))))))))))))
theorem zk_130_41 (CS : kZC T C C') (JS : ∀ b, kZ T (J b) (J' b)) : kZ T (bk_130_41 d C J) (wk_130_41 d C' J') := (zz_cne (zz_nm (JS 46)) (zz_nm (JS 44)))
theorem zk_130_44 (CS : kZC T C C') (JS : ∀ b, kZ T (J b) (J' b)) : kZ T (bk_130_44 d C J) (wk_130_44 d C' J') := (zz_li zz_ri)
theorem zk_130_46 (CS : kZC T C C') (JS : ∀ b, kZ T (J b) (J' b)) : kZ T (bk_130_46 d C J) (wk_130_46 d C' J') := (zz_inc (zz_nm (JS 2)))
theorem zm_130 (CS : kZC T C C') (J J' : Nat → kx_F) (JS : ∀ b, kZ T (J b) (J' b)) (b : Nat) : kZ T (bm_130 d C b J) (wm_130 d C' b J') := by
  unfold bm_130 wm_130
  cases h0 : Nat.beq b 0 with
  | true => exact zk_130_0 (d := d) CS JS
  | false =>
   cases h2 : Nat.beq b 2 with
   | true => exact zk_130_2 (d := d) CS JS
   | false =>
    cases h41 : Nat.beq b 41 with
    | true => exact zk_130_41 (d := d) CS JS
    | false =>
     cases h44 : Nat.beq b 44 with
     | true => exact zk_130_44 (d := d) CS JS
     | false =>
      cases h46 : Nat.beq b 46 with
      | true => exact zk_130_46 (d := d) CS JS
      | false =>
       exact zz_no
/-! TaskDeskModel.lets(IZ)V -/
def wk_131_0 (d : Nat) (C : kx_C) (J : Nat → kx_F) : kx_F := (kx_la 0 (kx_li 1 (kx_Vi C 132 9 [0] (kx_si 3 (kx_la 0 (kx_li 3 (kx_c (kx_l 0) (kx_li 2 (kx_c (kx_i (-1)) (kx_c (kx_i 0) (kx_Vv C 103 9 [0, 1, 0, 0, 0] (kx_la 0 (kx_li 3 (kx_Vv C 105 9 [0] kx_rv))))))))))))))
def wm_131 (d : Nat) (C : kx_C) (b : Nat) (J : Nat → kx_F) : kx_F := bif Nat.beq b 0 then wk_131_0 d C J else fun _ _ _ => none
theorem zk_131_0 (CS : kZC T C C') (JS : ∀ b, kZ T (J b) (J' b)) : kZ T (bk_131_0 d C J) (wk_131_0 d C' J') := (zz_la (zz_li (zz_Vi CS (zz_si (zz_la (zz_li (zz_cl (zz_li (zz_ci (zz_ci (zz_Vv CS (zz_la (zz_li (zz_Vv CS zz_rv))))))))))))))
theorem zm_131 (CS : kZC T C C') (J J' : Nat → kx_F) (JS : ∀ b, kZ T (J b) (J' b)) (b : Nat) : kZ T (bm_131 d C b J) (wm_131 d C' b J') := by
  unfold bm_131 wm_131
  cases h0 : Nat.beq b 0 with
  | true => exact zk_131_0 (d := d) CS JS
  | false =>
   exact zz_no
/-! TaskDeskModel.takeOut(I)I -/
def wk_132_0 (d : Nat) (C : kx_C) (J : Nat → kx_F) : kx_F := (kx_la 0 (wx_gR 9 35 99 (kx_li 1 (wx_aI 99 (kx_si 2 (kx_la 0 (kx_dup (wx_gI 9 34 (kx_c (kx_i 1) (kx_ii (fun x y => x - y) (wx_pI 9 34 (kx_li 1 (kx_si 3 (kx_nm [0, 2, 3] (J 19)))))))))))))))
def wk_132_19 (d : Nat) (C : kx_C) (J : Nat → kx_F) : kx_F := (kx_li 3 (kx_la 0 (wx_gI 9 34 (kx_cge (kx_li 2 kx_ri) (kx_la 0 (wx_gR 9 35 99 (kx_li 3 (kx_la 0 (wx_gR 9 35 99 (kx_li 3 (kx_c (kx_i 1) (kx_ii (fun x y => x + y) (wx_aI 99 (wx_asI 99 (kx_la 0 (wx_gR 9 36 99 (kx_li 3 (kx_la 0 (wx_gR 9 36 99 (kx_li 3 (kx_c (kx_i 1) (kx_ii (fun x y => x + y) (wx_aI 99 (wx_asI 99 (kx_la 0 (wx_gR 9 37 101 (kx_li 3 (kx_la 0 (wx_gR 9 37 101 (kx_li 3 (kx_c (kx_i 1) (kx_ii (fun x y => x + y) (wx_aB 101 (wx_asB 101 (kx_inc 3 1 (kx_nm [0, 2, 3] (J 19)))))))))))))))))))))))))))))))))))))
def wm_132 (d : Nat) (C : kx_C) (b : Nat) (J : Nat → kx_F) : kx_F := bif Nat.beq b 0 then wk_132_0 d C J else bif Nat.beq b 19 then wk_132_19 d C J else fun _ _ _ => none
theorem zk_132_0 (CS : kZC T C C') (JS : ∀ b, kZ T (J b) (J' b)) : kZ T (bk_132_0 d C J) (wk_132_0 d C' J') := (zz_la (zz_gR (by decide) rfl (zz_li (zz_aI (by decide) (zz_si (zz_la (zz_dup (zz_gI (by decide) (zz_ci (zz_ii (zz_pI (by decide) (zz_li (zz_si (zz_nm (JS 19)))))))))))))))
theorem zk_132_19 (CS : kZC T C C') (JS : ∀ b, kZ T (J b) (J' b)) : kZ T (bk_132_19 d C J) (wk_132_19 d C' J') := (zz_li (zz_la (zz_gI (by decide) (zz_cge (zz_li zz_ri) (zz_la (zz_gR (by decide) rfl (zz_li (zz_la (zz_gR (by decide) rfl (zz_li (zz_ci (zz_ii (zz_aI (by decide) (zz_asI (by decide) (zz_la (zz_gR (by decide) rfl (zz_li (zz_la (zz_gR (by decide) rfl (zz_li (zz_ci (zz_ii (zz_aI (by decide) (zz_asI (by decide) (zz_la (zz_gR (by decide) rfl (zz_li (zz_la (zz_gR (by decide) rfl (zz_li (zz_ci (zz_ii (zz_aB (by decide) (zz_asB (by decide) (zz_inc (zz_nm (JS 19)))))))))))))))))))))))))))))))))))))
theorem zm_132 (CS : kZC T C C') (J J' : Nat → kx_F) (JS : ∀ b, kZ T (J b) (J' b)) (b : Nat) : kZ T (bm_132 d C b J) (wm_132 d C' b J') := by
  unfold bm_132 wm_132
  cases h0 : Nat.beq b 0 with
  | true => exact zk_132_0 (d := d) CS JS
  | false =>
   cases h19 : Nat.beq b 19 with
   | true => exact zk_132_19 (d := d) CS JS
   | false =>
    exact zz_no
/-! TaskDeskModel.read(I)Z -/
def wk_133_0 (d : Nat) (C : kx_C) (J : Nat → kx_F) : kx_F := (kx_la 0 (kx_c (kx_i 0) (wx_pI 9 0 (kx_la 0 (kx_li 1 (kx_Vi C 125 9 [0] (kx_ifeq (kx_nm [0] (J 23)) (kx_la 0 (wx_gR 9 31 99 (kx_li 1 (wx_aI 99 (kx_c (kx_i 1) (kx_ceq (kx_la 0 (wx_gI 9 1 (kx_ifge (kx_la 0 (wx_gR 9 32 99 (kx_li 1 (wx_aI 99 (kx_iflt (kx_nm [0, 1] (J 64)) (kx_la 0 (kx_li 1 (kx_c (kx_i 0) (kx_Vi C 130 9 [0, 0] (kx_ifge (kx_nm [0, 1] (J 64)) (kx_c (kx_i 1) (kx_nm [0, 1] (J 65))))))))))))) (kx_la 0 (kx_c (kx_i 2) (kx_Vi C 99 9 [0] kx_rz)))))) (kx_nm [0] (J 23)))))))))))))))
def wk_133_23 (d : Nat) (C : kx_C) (J : Nat → kx_F) : kx_F := (kx_la 0 (kx_c (kx_i 1) (kx_Vi C 99 9 [0] kx_rz)))
def wk_133_64 (d : Nat) (C : kx_C) (J : Nat → kx_F) : kx_F := (kx_c (kx_i 0) (kx_nm [0, 1] (J 65)))
def wk_133_65 (d : Nat) (C : kx_C) (J : Nat → kx_F) : kx_F := (kx_si 2 (kx_li 2 (kx_ifeq (kx_nm [0, 1, 2] (J 80)) (kx_la 0 (wx_gR 9 32 99 (kx_li 1 (kx_dup2 (wx_aI 99 (kx_c (kx_i 1) (kx_ii (fun x y => x + y) (wx_asI 99 (kx_nm [0, 1, 2] (J 80)))))))))))))
def wk_133_80 (d : Nat) (C : kx_C) (J : Nat → kx_F) : kx_F := (kx_la 0 (kx_li 2 (kx_li 1 (kx_c (kx_i 1) (kx_c (kx_i 1) (kx_Vi C 127 9 [0, 0, 0, 0] kx_rz))))))
def wm_133 (d : Nat) (C : kx_C) (b : Nat) (J : Nat → kx_F) : kx_F := bif Nat.beq b 0 then wk_133_0 d C J else bif Nat.beq b 23 then wk_133_23 d C J else bif Nat.beq b 64 then wk_133_64 d C J else bif Nat.beq b 65 then wk_133_65 d C J else bif Nat.beq b 80 then wk_133_80 d C J else fun _ _ _ => none
theorem zk_133_0 (CS : kZC T C C') (JS : ∀ b, kZ T (J b) (J' b)) : kZ T (bk_133_0 d C J) (wk_133_0 d C' J') := (zz_la (zz_ci (zz_pI (by decide) (zz_la (zz_li (zz_Vi CS (zz_ifeq (zz_nm (JS 23)) (zz_la (zz_gR (by decide) rfl (zz_li (zz_aI (by decide) (zz_ci (zz_ceq (zz_la (zz_gI (by decide) (zz_ifge (zz_la (zz_gR (by decide) rfl (zz_li (zz_aI (by decide) (zz_iflt (zz_nm (JS 64)) (zz_la (zz_li (zz_ci (zz_Vi CS (zz_ifge (zz_nm (JS 64)) (zz_ci (zz_nm (JS 65))))))))))))) (zz_la (zz_ci (zz_Vi CS zz_rz)))))) (zz_nm (JS 23)))))))))))))))
theorem zk_133_23 (CS : kZC T C C') (JS : ∀ b, kZ T (J b) (J' b)) : kZ T (bk_133_23 d C J) (wk_133_23 d C' J') := (zz_la (zz_ci (zz_Vi CS zz_rz)))
theorem zk_133_64 (CS : kZC T C C') (JS : ∀ b, kZ T (J b) (J' b)) : kZ T (bk_133_64 d C J) (wk_133_64 d C' J') := (zz_ci (zz_nm (JS 65)))
theorem zk_133_65 (CS : kZC T C C') (JS : ∀ b, kZ T (J b) (J' b)) : kZ T (bk_133_65 d C J) (wk_133_65 d C' J') := (zz_si (zz_li (zz_ifeq (zz_nm (JS 80)) (zz_la (zz_gR (by decide) rfl (zz_li (zz_dup2 (zz_aI (by decide) (zz_ci (zz_ii (zz_asI (by decide) (zz_nm (JS 80)))))))))))))
theorem zk_133_80 (CS : kZC T C C') (JS : ∀ b, kZ T (J b) (J' b)) : kZ T (bk_133_80 d C J) (wk_133_80 d C' J') := (zz_la (zz_li (zz_li (zz_ci (zz_ci (zz_Vi CS zz_rz))))))
theorem zm_133 (CS : kZC T C C') (J J' : Nat → kx_F) (JS : ∀ b, kZ T (J b) (J' b)) (b : Nat) : kZ T (bm_133 d C b J) (wm_133 d C' b J') := by
  unfold bm_133 wm_133
  cases h0 : Nat.beq b 0 with
  | true => exact zk_133_0 (d := d) CS JS
  | false =>
   cases h23 : Nat.beq b 23 with
   | true => exact zk_133_23 (d := d) CS JS
   | false =>
    cases h64 : Nat.beq b 64 with
    | true => exact zk_133_64 (d := d) CS JS
    | false =>
     cases h65 : Nat.beq b 65 with
     | true => exact zk_133_65 (d := d) CS JS
     | false =>
      cases h80 : Nat.beq b 80 with
      | true => exact zk_133_80 (d := d) CS JS
      | false =>
       exact zz_no
/-! TaskDeskModel.leave(I)V -/
def wk_134_0 (d : Nat) (C : kx_C) (J : Nat → kx_F) : kx_F := (kx_la 0 (kx_la 0 (kx_li 1 (kx_Vi C 125 9 [0] (kx_ifne (kx_la 0 (wx_gI 9 1 (kx_ifge (kx_c (kx_i 0) (kx_nm [0, 1] (J 25))) (kx_c (kx_i 2) (kx_nm [0, 1] (J 25)))))) (kx_c (kx_i 1) (kx_nm [0, 1] (J 25))))))))
def wk_134_25 (d : Nat) (C : kx_C) (J : Nat → kx_F) : kx_F := (wx_pI 9 0 (kx_la 0 (wx_gI 9 0 (kx_ifle (kx_la 0 (wx_gR 9 32 99 (kx_li 1 (wx_aI 99 (kx_si 2 (kx_la 0 (wx_gR 9 31 99 (kx_li 1 (wx_aI 99 (kx_si 3 (kx_li 3 (kx_c (kx_i 1) (kx_cne (kx_li 3 (kx_c (kx_i 4) (kx_cne (kx_li 3 (kx_c (kx_i 3) (kx_ceq (kx_nm [0, 1, 3] (J 90)) (kx_li 2 (kx_ifne (kx_nm [0, 1, 3] (J 90)) (kx_nm [0] (J 84))))))) (kx_li 2 (kx_c (kx_i 1) (kx_ceq (kx_nm [0, 1, 3] (J 90)) (kx_nm [0] (J 84)))))))) (kx_li 2 (kx_iflt (kx_nm [0, 1, 3] (J 90)) (kx_nm [0] (J 84))))))))))))))))) kx_rv))))
def wk_134_84 (d : Nat) (C : kx_C) (J : Nat → kx_F) : kx_F := (kx_la 0 (kx_c (kx_i 3) (wx_pI 9 0 kx_rv)))
def wk_134_90 (d : Nat) (C : kx_C) (J : Nat → kx_F) : kx_F := (kx_li 3 (kx_ifne (kx_li 3 (kx_c (kx_i 1) (kx_cne (kx_li 3 (kx_c (kx_i 2) (kx_cne (kx_li 3 (kx_c (kx_i 3) (kx_cne (kx_la 0 (wx_gR 9 32 99 (kx_li 1 (kx_c (kx_i 2) (wx_asI 99 (kx_la 0 (kx_li 1 (kx_c (kx_i 0) (kx_Vv C 138 9 [0, 0] (kx_nm [] (J 155))))))))))) (kx_la 0 (kx_li 1 (kx_Vv C 139 9 [0] (kx_nm [] (J 155)))))))) (kx_la 0 (kx_li 1 (kx_c (kx_i (-1)) (kx_Vv C 137 9 [0, 0] (kx_nm [] (J 155))))))))) (kx_la 0 (kx_li 1 (kx_Vv C 135 9 [0] (kx_nm [] (J 155)))))))) (kx_la 0 (kx_li 1 (kx_Vv C 129 9 [0] (kx_nm [] (J 155)))))))
def wk_134_155 (d : Nat) (C : kx_C) (J : Nat → kx_F) : kx_F := kx_rv
def wm_134 (d : Nat) (C : kx_C) (b : Nat) (J : Nat → kx_F) : kx_F := bif Nat.beq b 0 then wk_134_0 d C J else bif Nat.beq b 25 then wk_134_25 d C J else bif Nat.beq b 84 then wk_134_84 d C J else bif Nat.beq b 90 then wk_134_90 d C J else bif Nat.beq b 155 then wk_134_155 d C J else fun _ _ _ => none
theorem zk_134_0 (CS : kZC T C C') (JS : ∀ b, kZ T (J b) (J' b)) : kZ T (bk_134_0 d C J) (wk_134_0 d C' J') := (zz_la (zz_la (zz_li (zz_Vi CS (zz_ifne (zz_la (zz_gI (by decide) (zz_ifge (zz_ci (zz_nm (JS 25))) (zz_ci (zz_nm (JS 25)))))) (zz_ci (zz_nm (JS 25))))))))
theorem zk_134_25 (CS : kZC T C C') (JS : ∀ b, kZ T (J b) (J' b)) : kZ T (bk_134_25 d C J) (wk_134_25 d C' J') := (zz_pI (by decide) (zz_la (zz_gI (by decide) (zz_ifle (zz_la (zz_gR (by decide) rfl (zz_li (zz_aI (by decide) (zz_si (zz_la (zz_gR (by decide) rfl (zz_li (zz_aI (by decide) (zz_si (zz_li (zz_ci (zz_cne (zz_li (zz_ci (zz_cne (zz_li (zz_ci (zz_ceq (zz_nm (JS 90)) (zz_li (zz_ifne (zz_nm (JS 90)) (zz_nm (JS 84))))))) (zz_li (zz_ci (zz_ceq (zz_nm (JS 90)) (zz_nm (JS 84)))))))) (zz_li (zz_iflt (zz_nm (JS 90)) (zz_nm (JS 84))))))))))))))))) zz_rv))))
theorem zk_134_84 (CS : kZC T C C') (JS : ∀ b, kZ T (J b) (J' b)) : kZ T (bk_134_84 d C J) (wk_134_84 d C' J') := (zz_la (zz_ci (zz_pI (by decide) zz_rv)))
theorem zk_134_90 (CS : kZC T C C') (JS : ∀ b, kZ T (J b) (J' b)) : kZ T (bk_134_90 d C J) (wk_134_90 d C' J') := (zz_li (zz_ifne (zz_li (zz_ci (zz_cne (zz_li (zz_ci (zz_cne (zz_li (zz_ci (zz_cne (zz_la (zz_gR (by decide) rfl (zz_li (zz_ci (zz_asI (by decide) (zz_la (zz_li (zz_ci (zz_Vv CS (zz_nm (JS 155))))))))))) (zz_la (zz_li (zz_Vv CS (zz_nm (JS 155)))))))) (zz_la (zz_li (zz_ci (zz_Vv CS (zz_nm (JS 155))))))))) (zz_la (zz_li (zz_Vv CS (zz_nm (JS 155)))))))) (zz_la (zz_li (zz_Vv CS (zz_nm (JS 155)))))))
theorem zk_134_155 (CS : kZC T C C') (JS : ∀ b, kZ T (J b) (J' b)) : kZ T (bk_134_155 d C J) (wk_134_155 d C' J') := zz_rv
theorem zm_134 (CS : kZC T C C') (J J' : Nat → kx_F) (JS : ∀ b, kZ T (J b) (J' b)) (b : Nat) : kZ T (bm_134 d C b J) (wm_134 d C' b J') := by
  unfold bm_134 wm_134
  cases h0 : Nat.beq b 0 with
  | true => exact zk_134_0 (d := d) CS JS
  | false =>
   cases h25 : Nat.beq b 25 with
   | true => exact zk_134_25 (d := d) CS JS
   | false =>
    cases h84 : Nat.beq b 84 with
    | true => exact zk_134_84 (d := d) CS JS
    | false =>
     cases h90 : Nat.beq b 90 with
     | true => exact zk_134_90 (d := d) CS JS
     | false =>
      cases h155 : Nat.beq b 155 with
      | true => exact zk_134_155 (d := d) CS JS
      | false =>
       exact zz_no
/-! TaskDeskModel.letReaders(I)V -/
def wk_135_0 (d : Nat) (C : kx_C) (J : Nat → kx_F) : kx_F := (kx_la 0 (wx_gR 9 32 99 (kx_li 1 (kx_c (kx_i 0) (wx_asI 99 (kx_la 0 (kx_li 1 (kx_c (kx_i 1) (kx_Vi C 130 9 [0, 0] (kx_si 2 (kx_nm [0, 1, 2] (J 14))))))))))))
def wk_135_14 (d : Nat) (C : kx_C) (J : Nat → kx_F) : kx_F := (kx_li 2 (kx_iflt (kx_la 0 (wx_gR 9 32 99 (kx_li 1 (wx_aI 99 (kx_ifne (kx_nm [] (J 58)) (kx_la 0 (kx_li 1 (kx_Vv C 136 9 [0] (kx_nm [] (J 58)))))))))) (kx_la 0 (wx_gR 9 32 99 (kx_li 1 (kx_dup2 (wx_aI 99 (kx_c (kx_i 1) (kx_ii (fun x y => x + y) (wx_asI 99 (kx_la 0 (kx_li 2 (kx_c (kx_i 1) (kx_Vv C 131 9 [0, 0] (kx_la 0 (kx_li 1 (kx_c (kx_i 1) (kx_Vi C 130 9 [0, 0] (kx_si 2 (kx_nm [0, 1, 2] (J 14)))))))))))))))))))))
def wk_135_58 (d : Nat) (C : kx_C) (J : Nat → kx_F) : kx_F := kx_rv
def wm_135 (d : Nat) (C : kx_C) (b : Nat) (J : Nat → kx_F) : kx_F := bif Nat.beq b 0 then wk_135_0 d C J else bif Nat.beq b 14 then wk_135_14 d C J else bif Nat.beq b 58 then wk_135_58 d C J else fun _ _ _ => none
theorem zk_135_0 (CS : kZC T C C') (JS : ∀ b, kZ T (J b) (J' b)) : kZ T (bk_135_0 d C J) (wk_135_0 d C' J') := (zz_la (zz_gR (by decide) rfl (zz_li (zz_ci (zz_asI (by decide) (zz_la (zz_li (zz_ci (zz_Vi CS (zz_si (zz_nm (JS 14))))))))))))
theorem zk_135_14 (CS : kZC T C C') (JS : ∀ b, kZ T (J b) (J' b)) : kZ T (bk_135_14 d C J) (wk_135_14 d C' J') := (zz_li (zz_iflt (zz_la (zz_gR (by decide) rfl (zz_li (zz_aI (by decide) (zz_ifne (zz_nm (JS 58)) (zz_la (zz_li (zz_Vv CS (zz_nm (JS 58)))))))))) (zz_la (zz_gR (by decide) rfl (zz_li (zz_dup2 (zz_aI (by decide) (zz_ci (zz_ii (zz_asI (by decide) (zz_la (zz_li (zz_ci (zz_Vv CS (zz_la (zz_li (zz_ci (zz_Vi CS (zz_si (zz_nm (JS 14)))))))))))))))))))))
theorem zk_135_58 (CS : kZC T C C') (JS : ∀ b, kZ T (J b) (J' b)) : kZ T (bk_135_58 d C J) (wk_135_58 d C' J') := zz_rv
theorem zm_135 (CS : kZC T C C') (J J' : Nat → kx_F) (JS : ∀ b, kZ T (J b) (J' b)) (b : Nat) : kZ T (bm_135 d C b J) (wm_135 d C' b J') := by
  unfold bm_135 wm_135
  cases h0 : Nat.beq b 0 with
  | true => exact zk_135_0 (d := d) CS JS
  | false =>
   cases h14 : Nat.beq b 14 with
   | true => exact zk_135_14 (d := d) CS JS
   | false =>
    cases h58 : Nat.beq b 58 with
    | true => exact zk_135_58 (d := d) CS JS
    | false =>
     exact zz_no
/-! TaskDeskModel.letWriter(I)V -/
def wk_136_0 (d : Nat) (C : kx_C) (J : Nat → kx_F) : kx_F := (kx_la 0 (kx_li 1 (kx_c (kx_i 0) (kx_Vi C 130 9 [0, 0] (kx_si 2 (kx_li 2 (kx_ifge (kx_la 0 (wx_gR 9 32 99 (kx_li 1 (kx_c (kx_i (-1)) (wx_asI 99 (kx_la 0 (kx_li 2 (kx_c (kx_i 1) (kx_Vv C 131 9 [0, 0] kx_rv))))))))) kx_rv)))))))
def wm_136 (d : Nat) (C : kx_C) (b : Nat) (J : Nat → kx_F) : kx_F := bif Nat.beq b 0 then wk_136_0 d C J else fun _ _ _ => none
theorem zk_136_0 (CS : kZC T C C') (JS : ∀ b, kZ T (J b) (J' b)) : kZ T (bk_136_0 d C J) (wk_136_0 d C' J') := (zz_la (zz_li (zz_ci (zz_Vi CS (zz_si (zz_li (zz_ifge (zz_la (zz_gR (by decide) rfl (zz_li (zz_ci (zz_asI (by decide) (zz_la (zz_li (zz_ci (zz_Vv CS zz_rv))))))))) zz_rv)))))))
theorem zm_136 (CS : kZC T C C') (J J' : Nat → kx_F) (JS : ∀ b, kZ T (J b) (J' b)) (b : Nat) : kZ T (bm_136 d C b J) (wm_136 d C' b J') := by
  unfold bm_136 wm_136
  cases h0 : Nat.beq b 0 with
  | true => exact zk_136_0 (d := d) CS JS
  | false =>
   exact zz_no
/-! TaskDeskModel.grow(II)V -/
def wk_137_0 (d : Nat) (C : kx_C) (J : Nat → kx_F) : kx_F := (kx_la 0 (wx_gR 9 32 99 (kx_li 1 (kx_dup2 (wx_aI 99 (kx_li 2 (kx_ii (fun x y => x + y) (wx_asI 99 (kx_la 0 (wx_gR 9 32 99 (kx_li 1 (wx_aI 99 (kx_ifne (kx_nm [] (J 25)) (kx_la 0 (kx_li 1 (kx_c (kx_i 1) (kx_Vv C 138 9 [0, 0] (kx_nm [] (J 25)))))))))))))))))))
def wk_137_25 (d : Nat) (C : kx_C) (J : Nat → kx_F) : kx_F := kx_rv
def wm_137 (d : Nat) (C : kx_C) (b : Nat) (J : Nat → kx_F) : kx_F := bif Nat.beq b 0 then wk_137_0 d C J else bif Nat.beq b 25 then wk_137_25 d C J else fun _ _ _ => none
theorem zk_137_0 (CS : kZC T C C') (JS : ∀ b, kZ T (J b) (J' b)) : kZ T (bk_137_0 d C J) (wk_137_0 d C' J') := (zz_la (zz_gR (by decide) rfl (zz_li (zz_dup2 (zz_aI (by decide) (zz_li (zz_ii (zz_asI (by decide) (zz_la (zz_gR (by decide) rfl (zz_li (zz_aI (by decide) (zz_ifne (zz_nm (JS 25)) (zz_la (zz_li (zz_ci (zz_Vv CS (zz_nm (JS 25)))))))))))))))))))
theorem zk_137_25 (CS : kZC T C C') (JS : ∀ b, kZ T (J b) (J' b)) : kZ T (bk_137_25 d C J) (wk_137_25 d C' J') := zz_rv
theorem zm_137 (CS : kZC T C C') (J J' : Nat → kx_F) (JS : ∀ b, kZ T (J b) (J' b)) (b : Nat) : kZ T (bm_137 d C b J) (wm_137 d C' b J') := by
  unfold bm_137 wm_137
  cases h0 : Nat.beq b 0 with
  | true => exact zk_137_0 (d := d) CS JS
  | false =>
   cases h25 : Nat.beq b 25 with
   | true => exact zk_137_25 (d := d) CS JS
   | false =>
    exact zz_no
/-! TaskDeskModel.letAll(IZ)V -/
def wk_138_0 (d : Nat) (C : kx_C) (J : Nat → kx_F) : kx_F := (kx_la 0 (kx_li 1 (kx_c (kx_i 2) (kx_Vi C 130 9 [0, 0] (kx_si 3 (kx_nm [0, 1, 2, 3] (J 7)))))))
def wk_138_7 (d : Nat) (C : kx_C) (J : Nat → kx_F) : kx_F := (kx_li 3 (kx_iflt kx_rv (kx_la 0 (kx_li 3 (kx_li 2 (kx_Vv C 131 9 [0, 0] (kx_la 0 (kx_li 1 (kx_c (kx_i 2) (kx_Vi C 130 9 [0, 0] (kx_si 3 (kx_nm [0, 1, 2, 3] (J 7)))))))))))))
def wm_138 (d : Nat) (C : kx_C) (b : Nat) (J : Nat → kx_F) : kx_F := bif Nat.beq b 0 then wk_138_0 d C J else bif Nat.beq b 7 then wk_138_7 d C J else fun _ _ _ => none
theorem zk_138_0 (CS : kZC T C C') (JS : ∀ b, kZ T (J b) (J' b)) : kZ T (bk_138_0 d C J) (wk_138_0 d C' J') := (zz_la (zz_li (zz_ci (zz_Vi CS (zz_si (zz_nm (JS 7)))))))
theorem zk_138_7 (CS : kZC T C C') (JS : ∀ b, kZ T (J b) (J' b)) : kZ T (bk_138_7 d C J) (wk_138_7 d C' J') := (zz_li (zz_iflt zz_rv (zz_la (zz_li (zz_li (zz_Vv CS (zz_la (zz_li (zz_ci (zz_Vi CS (zz_si (zz_nm (JS 7)))))))))))))
theorem zm_138 (CS : kZC T C C') (J J' : Nat → kx_F) (JS : ∀ b, kZ T (J b) (J' b)) (b : Nat) : kZ T (bm_138 d C b J) (wm_138 d C' b J') := by
  unfold bm_138 wm_138
  cases h0 : Nat.beq b 0 with
  | true => exact zk_138_0 (d := d) CS JS
  | false =>
   cases h7 : Nat.beq b 7 with
   | true => exact zk_138_7 (d := d) CS JS
   | false =>
    exact zz_no
/-! TaskDeskModel.signal(I)V -/
def wk_139_0 (d : Nat) (C : kx_C) (J : Nat → kx_F) : kx_F := (kx_la 0 (kx_li 1 (kx_c (kx_i 2) (kx_Vi C 130 9 [0, 0] (kx_si 2 (kx_la 0 (wx_gR 9 33 99 (kx_li 1 (wx_aI 99 (kx_si 3 (kx_li 2 (kx_ifge (kx_la 0 (wx_gR 9 32 99 (kx_li 3 (wx_aI 99 (kx_ifne (kx_la 0 (kx_li 2 (kx_Vi C 132 9 [0] (kx_si 4 (kx_la 0 (wx_gR 9 6 99 (kx_li 4 (kx_li 3 (wx_asI 99 (kx_la 0 (kx_li 4 (kx_li 3 (kx_c (kx_i 0) (kx_Vv C 128 9 [0, 0, 0] kx_rv)))))))))))))) (kx_la 0 (wx_gR 9 32 99 (kx_li 3 (kx_c (kx_i 1) (wx_asI 99 (kx_la 0 (kx_li 2 (kx_c (kx_i 1) (kx_Vv C 131 9 [0, 0] kx_rv)))))))))))))) kx_rv))))))))))))
def wm_139 (d : Nat) (C : kx_C) (b : Nat) (J : Nat → kx_F) : kx_F := bif Nat.beq b 0 then wk_139_0 d C J else fun _ _ _ => none
theorem zk_139_0 (CS : kZC T C C') (JS : ∀ b, kZ T (J b) (J' b)) : kZ T (bk_139_0 d C J) (wk_139_0 d C' J') := (zz_la (zz_li (zz_ci (zz_Vi CS (zz_si (zz_la (zz_gR (by decide) rfl (zz_li (zz_aI (by decide) (zz_si (zz_li (zz_ifge (zz_la (zz_gR (by decide) rfl (zz_li (zz_aI (by decide) (zz_ifne (zz_la (zz_li (zz_Vi CS (zz_si (zz_la (zz_gR (by decide) rfl (zz_li (zz_li (zz_asI (by decide) (zz_la (zz_li (zz_li (zz_ci (zz_Vv CS zz_rv)))))))))))))) (zz_la (zz_gR (by decide) rfl (zz_li (zz_ci (zz_asI (by decide) (zz_la (zz_li (zz_ci (zz_Vv CS zz_rv)))))))))))))) zz_rv))))))))))))
theorem zm_139 (CS : kZC T C C') (J J' : Nat → kx_F) (JS : ∀ b, kZ T (J b) (J' b)) (b : Nat) : kZ T (bm_139 d C b J) (wm_139 d C' b J') := by
  unfold bm_139 wm_139
  cases h0 : Nat.beq b 0 with
  | true => exact zk_139_0 (d := d) CS JS
  | false =>
   exact zz_no
/-! TaskDeskModel.change(II)V -/
def wk_140_0 (d : Nat) (C : kx_C) (J : Nat → kx_F) : kx_F := (kx_la 0 (kx_la 0 (kx_li 1 (kx_Vi C 125 9 [0] (kx_ifeq (kx_nm [0, 1, 2] (J 28)) (kx_la 0 (wx_gR 9 31 99 (kx_li 1 (wx_aI 99 (kx_ifeq (kx_nm [0, 1, 2] (J 28)) (kx_la 0 (wx_gR 9 31 99 (kx_li 1 (wx_aI 99 (kx_c (kx_i 4) (kx_cne (kx_la 0 (wx_gI 9 1 (kx_ifge (kx_c (kx_i 0) (kx_nm [0, 1, 2] (J 44))) (kx_c (kx_i 2) (kx_nm [0, 1, 2] (J 44)))))) (kx_nm [0, 1, 2] (J 28))))))))))))))))))
def wk_140_28 (d : Nat) (C : kx_C) (J : Nat → kx_F) : kx_F := (kx_c (kx_i 1) (kx_nm [0, 1, 2] (J 44)))
def wk_140_44 (d : Nat) (C : kx_C) (J : Nat → kx_F) : kx_F := (wx_pI 9 0 (kx_la 0 (wx_gI 9 0 (kx_ifle (kx_la 0 (wx_gR 9 32 99 (kx_li 1 (wx_aI 99 (kx_i2l (kx_li 2 (kx_i2l (kx_jj (fun x y => x + y) (kx_sl 3 (kx_la 0 (wx_gR 9 31 99 (kx_li 1 (wx_aI 99 (kx_c (kx_i 1) (kx_cne (kx_nm [0, 1, 2, 3] (J 85)) (kx_la 0 (wx_gR 9 32 99 (kx_li 1 (wx_aI 99 (kx_ifle (kx_nm [0] (J 109)) (kx_nm [0, 1, 2, 3] (J 85)))))))))))))))))))))) kx_rv))))
def wk_140_85 (d : Nat) (C : kx_C) (J : Nat → kx_F) : kx_F := (kx_la 0 (wx_gR 9 31 99 (kx_li 1 (wx_aI 99 (kx_c (kx_i 2) (kx_cne (kx_nm [0, 1, 2] (J 115)) (kx_ll 3 (kx_c (kx_l 0) (kx_lcmp (kx_iflt (kx_nm [0] (J 109)) (kx_ll 3 (kx_c (kx_l 1000000000) (kx_lcmp (kx_ifle (kx_nm [0, 1, 2] (J 115)) (kx_nm [0] (J 109))))))))))))))))
def wk_140_109 (d : Nat) (C : kx_C) (J : Nat → kx_F) : kx_F := (kx_la 0 (kx_c (kx_i 3) (wx_pI 9 0 kx_rv)))
def wk_140_115 (d : Nat) (C : kx_C) (J : Nat → kx_F) : kx_F := (kx_la 0 (wx_gR 9 31 99 (kx_li 1 (wx_aI 99 (kx_c (kx_i 2) (kx_cne (kx_la 0 (wx_gR 9 31 99 (kx_li 1 (wx_aI 99 (kx_c (kx_i 1) (kx_cne (kx_la 0 (kx_li 1 (kx_Vi C 141 9 [0] (kx_si 5 (kx_c (kx_i 0) (kx_si 6 (kx_nm [0, 1, 5, 6] (J 181)))))))) (kx_la 0 (wx_gR 9 32 99 (kx_li 1 (kx_dup2 (wx_aI 99 (kx_c (kx_i 1) (kx_ii (fun x y => x - y) (wx_asI 99 (kx_la 0 (wx_gR 9 32 99 (kx_li 1 (wx_aI 99 (kx_ifne (kx_nm [] (J 199)) (kx_la 0 (kx_li 1 (kx_Vv C 136 9 [0] (kx_nm [] (J 199)))))))))))))))))))))))) (kx_la 0 (kx_li 1 (kx_li 2 (kx_Vv C 137 9 [0, 0] (kx_nm [] (J 199))))))))))))
def wk_140_181 (d : Nat) (C : kx_C) (J : Nat → kx_F) : kx_F := (kx_li 6 (kx_li 5 (kx_cge (kx_nm [] (J 199)) (kx_la 0 (kx_li 1 (kx_Vv C 139 9 [0] (kx_inc 6 1 (kx_nm [0, 1, 5, 6] (J 181)))))))))
def wk_140_199 (d : Nat) (C : kx_C) (J : Nat → kx_F) : kx_F := kx_rv
def wm_140 (d : Nat) (C : kx_C) (b : Nat) (J : Nat → kx_F) : kx_F := bif Nat.beq b 0 then wk_140_0 d C J else bif Nat.beq b 28 then wk_140_28 d C J else bif Nat.beq b 44 then wk_140_44 d C J else bif Nat.beq b 85 then wk_140_85 d C J else bif Nat.beq b 109 then wk_140_109 d C J else bif Nat.beq b 115 then wk_140_115 d C J else bif Nat.beq b 181 then wk_140_181 d C J else bif Nat.beq b 199 then wk_140_199 d C J else fun _ _ _ => none
theorem zk_140_0 (CS : kZC T C C') (JS : ∀ b, kZ T (J b) (J' b)) : kZ T (bk_140_0 d C J) (wk_140_0 d C' J') := (zz_la (zz_la (zz_li (zz_Vi CS (zz_ifeq (zz_nm (JS 28)) (zz_la (zz_gR (by decide) rfl (zz_li (zz_aI (by decide) (zz_ifeq (zz_nm (JS 28)) (zz_la (zz_gR (by decide) rfl (zz_li (zz_aI (by decide) (zz_ci (zz_cne (zz_la (zz_gI (by decide) (zz_ifge (zz_ci (zz_nm (JS 44))) (zz_ci (zz_nm (JS 44)))))) (zz_nm (JS 28))))))))))))))))))
theorem zk_140_28 (CS : kZC T C C') (JS : ∀ b, kZ T (J b) (J' b)) : kZ T (bk_140_28 d C J) (wk_140_28 d C' J') := (zz_ci (zz_nm (JS 44)))
theorem zk_140_44 (CS : kZC T C C') (JS : ∀ b, kZ T (J b) (J' b)) : kZ T (bk_140_44 d C J) (wk_140_44 d C' J') := (zz_pI (by decide) (zz_la (zz_gI (by decide) (zz_ifle (zz_la (zz_gR (by decide) rfl (zz_li (zz_aI (by decide) (zz_i2l (zz_li (zz_i2l (zz_jj (zz_sl (zz_la (zz_gR (by decide) rfl (zz_li (zz_aI (by decide) (zz_ci (zz_cne (zz_nm (JS 85)) (zz_la (zz_gR (by decide) rfl (zz_li (zz_aI (by decide) (zz_ifle (zz_nm (JS 109)) (zz_nm (JS 85)))))))))))))))))))))) zz_rv))))
theorem zk_140_85 (CS : kZC T C C') (JS : ∀ b, kZ T (J b) (J' b)) : kZ T (bk_140_85 d C J) (wk_140_85 d C' J') := (zz_la (zz_gR (by decide) rfl (zz_li (zz_aI (by decide) (zz_ci (zz_cne (zz_nm (JS 115)) (zz_ll (zz_cl (zz_lcmp (zz_iflt (zz_nm (JS 109)) (zz_ll (zz_cl (zz_lcmp (zz_ifle (zz_nm (JS 115)) (zz_nm (JS 109))))))))))))))))
theorem zk_140_109 (CS : kZC T C C') (JS : ∀ b, kZ T (J b) (J' b)) : kZ T (bk_140_109 d C J) (wk_140_109 d C' J') := (zz_la (zz_ci (zz_pI (by decide) zz_rv)))
theorem zk_140_115 (CS : kZC T C C') (JS : ∀ b, kZ T (J b) (J' b)) : kZ T (bk_140_115 d C J) (wk_140_115 d C' J') := (zz_la (zz_gR (by decide) rfl (zz_li (zz_aI (by decide) (zz_ci (zz_cne (zz_la (zz_gR (by decide) rfl (zz_li (zz_aI (by decide) (zz_ci (zz_cne (zz_la (zz_li (zz_Vi CS (zz_si (zz_ci (zz_si (zz_nm (JS 181)))))))) (zz_la (zz_gR (by decide) rfl (zz_li (zz_dup2 (zz_aI (by decide) (zz_ci (zz_ii (zz_asI (by decide) (zz_la (zz_gR (by decide) rfl (zz_li (zz_aI (by decide) (zz_ifne (zz_nm (JS 199)) (zz_la (zz_li (zz_Vv CS (zz_nm (JS 199)))))))))))))))))))))))) (zz_la (zz_li (zz_li (zz_Vv CS (zz_nm (JS 199))))))))))))
theorem zk_140_181 (CS : kZC T C C') (JS : ∀ b, kZ T (J b) (J' b)) : kZ T (bk_140_181 d C J) (wk_140_181 d C' J') := (zz_li (zz_li (zz_cge (zz_nm (JS 199)) (zz_la (zz_li (zz_Vv CS (zz_inc (zz_nm (JS 181)))))))))
theorem zk_140_199 (CS : kZC T C C') (JS : ∀ b, kZ T (J b) (J' b)) : kZ T (bk_140_199 d C J) (wk_140_199 d C' J') := zz_rv
theorem zm_140 (CS : kZC T C C') (J J' : Nat → kx_F) (JS : ∀ b, kZ T (J b) (J' b)) (b : Nat) : kZ T (bm_140 d C b J) (wm_140 d C' b J') := by
  unfold bm_140 wm_140
  cases h0 : Nat.beq b 0 with
  | true => exact zk_140_0 (d := d) CS JS
  | false =>
   cases h28 : Nat.beq b 28 with
   | true => exact zk_140_28 (d := d) CS JS
   | false =>
    cases h44 : Nat.beq b 44 with
    | true => exact zk_140_44 (d := d) CS JS
    | false =>
     cases h85 : Nat.beq b 85 with
     | true => exact zk_140_85 (d := d) CS JS
     | false =>
      cases h109 : Nat.beq b 109 with
      | true => exact zk_140_109 (d := d) CS JS
      | false =>
       cases h115 : Nat.beq b 115 with
       | true => exact zk_140_115 (d := d) CS JS
       | false =>
        cases h181 : Nat.beq b 181 with
        | true => exact zk_140_181 (d := d) CS JS
        | false =>
         cases h199 : Nat.beq b 199 with
         | true => exact zk_140_199 (d := d) CS JS
         | false =>
          exact zz_no
/-! TaskDeskModel.waitAt(I)I -/
def wk_141_0 (d : Nat) (C : kx_C) (J : Nat → kx_F) : kx_F := (kx_c (kx_i 0) (kx_si 2 (kx_c (kx_i 0) (kx_si 3 (kx_nm [0, 1, 2, 3] (J 4))))))
def wk_141_4 (d : Nat) (C : kx_C) (J : Nat → kx_F) : kx_F := (kx_li 3 (kx_la 0 (wx_gI 9 34 (kx_cge (kx_li 2 kx_ri) (kx_li 2 (kx_la 0 (wx_gR 9 36 99 (kx_li 3 (wx_aI 99 (kx_li 1 (kx_cne (kx_c (kx_i 0) (kx_nm [0, 1, 3] (J 28))) (kx_c (kx_i 1) (kx_nm [0, 1, 3] (J 28))))))))))))))
def wk_141_28 (d : Nat) (C : kx_C) (J : Nat → kx_F) : kx_F := (kx_ii (fun x y => x + y) (kx_si 2 (kx_inc 3 1 (kx_nm [0, 1, 2, 3] (J 4)))))
def wm_141 (d : Nat) (C : kx_C) (b : Nat) (J : Nat → kx_F) : kx_F := bif Nat.beq b 0 then wk_141_0 d C J else bif Nat.beq b 4 then wk_141_4 d C J else bif Nat.beq b 28 then wk_141_28 d C J else fun _ _ _ => none
theorem zk_141_0 (CS : kZC T C C') (JS : ∀ b, kZ T (J b) (J' b)) : kZ T (bk_141_0 d C J) (wk_141_0 d C' J') := (zz_ci (zz_si (zz_ci (zz_si (zz_nm (JS 4))))))
theorem zk_141_4 (CS : kZC T C C') (JS : ∀ b, kZ T (J b) (J' b)) : kZ T (bk_141_4 d C J) (wk_141_4 d C' J') := (zz_li (zz_la (zz_gI (by decide) (zz_cge (zz_li zz_ri) (zz_li (zz_la (zz_gR (by decide) rfl (zz_li (zz_aI (by decide) (zz_li (zz_cne (zz_ci (zz_nm (JS 28))) (zz_ci (zz_nm (JS 28))))))))))))))
theorem zk_141_28 (CS : kZC T C C') (JS : ∀ b, kZ T (J b) (J' b)) : kZ T (bk_141_28 d C J) (wk_141_28 d C' J') := (zz_ii (zz_si (zz_inc (zz_nm (JS 4)))))
theorem zm_141 (CS : kZC T C C') (J J' : Nat → kx_F) (JS : ∀ b, kZ T (J b) (J' b)) (b : Nat) : kZ T (bm_141 d C b J) (wm_141 d C' b J') := by
  unfold bm_141 wm_141
  cases h0 : Nat.beq b 0 with
  | true => exact zk_141_0 (d := d) CS JS
  | false =>
   cases h4 : Nat.beq b 4 with
   | true => exact zk_141_4 (d := d) CS JS
   | false =>
    cases h28 : Nat.beq b 28 with
    | true => exact zk_141_28 (d := d) CS JS
    | false =>
     exact zz_no
/-! TaskDeskModel.current()I -/
def wk_142_0 (d : Nat) (C : kx_C) (J : Nat → kx_F) : kx_F := (kx_la 0 (kx_c (kx_i 0) (wx_pI 9 0 (kx_la 0 (wx_gI 9 1 kx_ri)))))
def wm_142 (d : Nat) (C : kx_C) (b : Nat) (J : Nat → kx_F) : kx_F := bif Nat.beq b 0 then wk_142_0 d C J else fun _ _ _ => none
theorem zk_142_0 (CS : kZC T C C') (JS : ∀ b, kZ T (J b) (J' b)) : kZ T (bk_142_0 d C J) (wk_142_0 d C' J') := (zz_la (zz_ci (zz_pI (by decide) (zz_la (zz_gI (by decide) zz_ri)))))
theorem zm_142 (CS : kZC T C C') (J J' : Nat → kx_F) (JS : ∀ b, kZ T (J b) (J' b)) (b : Nat) : kZ T (bm_142 d C b J) (wm_142 d C' b J') := by
  unfold bm_142 wm_142
  cases h0 : Nat.beq b 0 with
  | true => exact zk_142_0 (d := d) CS JS
  | false =>
   exact zz_no
/-! TaskDeskModel.task(II)I -/
def wk_143_0 (d : Nat) (C : kx_C) (J : Nat → kx_F) : kx_F := (kx_la 0 (kx_c (kx_i 0) (wx_pI 9 0 (kx_la 0 (kx_li 1 (kx_Vi C 144 9 [0] (kx_ifeq (kx_nm [0] (J 22)) (kx_li 2 (kx_iflt (kx_nm [0] (J 22)) (kx_li 2 (kx_c (kx_i 5) (kx_cle (kx_li 2 (kx_ifne (kx_li 2 (kx_c (kx_i 1) (kx_cne (kx_li 2 (kx_c (kx_i 5) (kx_cge (kx_c (kx_i 0) (kx_si 3 (kx_nm [0, 1, 3] (J 144)))) (kx_li 2 (kx_c (kx_i 2) (kx_cne (kx_li 2 (kx_c (kx_i 3) (kx_cne (kx_la 0 (wx_gR 9 10 101 (kx_li 1 (wx_aB 101 (kx_ifeq (kx_c (kx_i 0) (kx_nm [] (J 141))) (kx_c (kx_i 1) (kx_nm [] (J 141)))))))) (kx_la 0 (wx_gR 9 8 101 (kx_li 1 (wx_aB 101 (kx_ifeq (kx_c (kx_i 0) (kx_nm [] (J 141))) (kx_c (kx_i 1) (kx_nm [] (J 141))))))))))) (kx_la 0 (wx_gR 9 9 99 (kx_li 1 (wx_aI 99 (kx_nm [] (J 141)))))))))))) (kx_la 0 (wx_gR 9 5 99 (kx_li 1 (wx_aI 99 (kx_c (kx_i 2) (kx_ceq (kx_nm [0, 1] (J 75)) (kx_la 0 (wx_gR 9 5 99 (kx_li 1 (wx_aI 99 (kx_c (kx_i 3) (kx_ceq (kx_nm [0, 1] (J 75)) (kx_la 0 (wx_gR 9 5 99 (kx_li 1 (wx_aI 99 (kx_c (kx_i 6) (kx_cne (kx_c (kx_i (-1)) (kx_nm [] (J 85))) (kx_nm [0, 1] (J 75))))))))))))))))))))))) (kx_la 0 (wx_gR 9 5 99 (kx_li 1 (wx_aI 99 kx_ri)))))) (kx_nm [0] (J 22))))))))))))))
def wk_143_22 (d : Nat) (C : kx_C) (J : Nat → kx_F) : kx_F := (kx_la 0 (kx_c (kx_i 1) (kx_Vi C 91 9 [0] kx_ri)))
def wk_143_75 (d : Nat) (C : kx_C) (J : Nat → kx_F) : kx_F := (kx_la 0 (wx_gR 9 6 99 (kx_li 1 (wx_aI 99 (kx_nm [] (J 85))))))
def wk_143_85 (d : Nat) (C : kx_C) (J : Nat → kx_F) : kx_F := kx_ri
def wk_143_141 (d : Nat) (C : kx_C) (J : Nat → kx_F) : kx_F := kx_ri
def wk_143_144 (d : Nat) (C : kx_C) (J : Nat → kx_F) : kx_F := (kx_li 3 (kx_la 0 (wx_gI 9 11 (kx_cge (kx_c (kx_i (-1)) kx_ri) (kx_la 0 (wx_gR 9 12 99 (kx_li 3 (wx_aI 99 (kx_li 1 (kx_cne (kx_inc 3 1 (kx_nm [0, 1, 3] (J 144))) (kx_li 3 kx_ri)))))))))))
def wm_143 (d : Nat) (C : kx_C) (b : Nat) (J : Nat → kx_F) : kx_F := bif Nat.beq b 0 then wk_143_0 d C J else bif Nat.beq b 22 then wk_143_22 d C J else bif Nat.beq b 75 then wk_143_75 d C J else bif Nat.beq b 85 then wk_143_85 d C J else bif Nat.beq b 141 then wk_143_141 d C J else bif Nat.beq b 144 then wk_143_144 d C J else fun _ _ _ => none
theorem zk_143_0 (CS : kZC T C C') (JS : ∀ b, kZ T (J b) (J' b)) : kZ T (bk_143_0 d C J) (wk_143_0 d C' J') := (zz_la (zz_ci (zz_pI (by decide) (zz_la (zz_li (zz_Vi CS (zz_ifeq (zz_nm (JS 22)) (zz_li (zz_iflt (zz_nm (JS 22)) (zz_li (zz_ci (zz_cle (zz_li (zz_ifne (zz_li (zz_ci (zz_cne (zz_li (zz_ci (zz_cge (zz_ci (zz_si (zz_nm (JS 144)))) (zz_li (zz_ci (zz_cne (zz_li (zz_ci (zz_cne (zz_la (zz_gR (by decide) rfl (zz_li (zz_aB (by decide) (zz_ifeq (zz_ci (zz_nm (JS 141))) (zz_ci (zz_nm (JS 141)))))))) (zz_la (zz_gR (by decide) rfl (zz_li (zz_aB (by decide) (zz_ifeq (zz_ci (zz_nm (JS 141))) (zz_ci (zz_nm (JS 141))))))))))) (zz_la (zz_gR (by decide) rfl (zz_li (zz_aI (by decide) (zz_nm (JS 141)))))))))))) (zz_la (zz_gR (by decide) rfl (zz_li (zz_aI (by decide) (zz_ci (zz_ceq (zz_nm (JS 75)) (zz_la (zz_gR (by decide) rfl (zz_li (zz_aI (by decide) (zz_ci (zz_ceq (zz_nm (JS 75)) (zz_la (zz_gR (by decide) rfl (zz_li (zz_aI (by decide) (zz_ci (zz_cne (zz_ci (zz_nm (JS 85))) (zz_nm (JS 75))))))))))))))))))))))) (zz_la (zz_gR (by decide) rfl (zz_li (zz_aI (by decide) zz_ri)))))) (zz_nm (JS 22))))))))))))))
theorem zk_143_22 (CS : kZC T C C') (JS : ∀ b, kZ T (J b) (J' b)) : kZ T (bk_143_22 d C J) (wk_143_22 d C' J') := (zz_la (zz_ci (zz_Vi CS zz_ri)))
theorem zk_143_75 (CS : kZC T C C') (JS : ∀ b, kZ T (J b) (J' b)) : kZ T (bk_143_75 d C J) (wk_143_75 d C' J') := (zz_la (zz_gR (by decide) rfl (zz_li (zz_aI (by decide) (zz_nm (JS 85))))))
theorem zk_143_85 (CS : kZC T C C') (JS : ∀ b, kZ T (J b) (J' b)) : kZ T (bk_143_85 d C J) (wk_143_85 d C' J') := zz_ri
theorem zk_143_141 (CS : kZC T C C') (JS : ∀ b, kZ T (J b) (J' b)) : kZ T (bk_143_141 d C J) (wk_143_141 d C' J') := zz_ri
theorem zk_143_144 (CS : kZC T C C') (JS : ∀ b, kZ T (J b) (J' b)) : kZ T (bk_143_144 d C J) (wk_143_144 d C' J') := (zz_li (zz_la (zz_gI (by decide) (zz_cge (zz_ci zz_ri) (zz_la (zz_gR (by decide) rfl (zz_li (zz_aI (by decide) (zz_li (zz_cne (zz_inc (zz_nm (JS 144))) (zz_li zz_ri)))))))))))
theorem zm_143 (CS : kZC T C C') (J J' : Nat → kx_F) (JS : ∀ b, kZ T (J b) (J' b)) (b : Nat) : kZ T (bm_143 d C b J) (wm_143 d C' b J') := by
  unfold bm_143 wm_143
  cases h0 : Nat.beq b 0 with
  | true => exact zk_143_0 (d := d) CS JS
  | false =>
   cases h22 : Nat.beq b 22 with
   | true => exact zk_143_22 (d := d) CS JS
   | false =>
    cases h75 : Nat.beq b 75 with
    | true => exact zk_143_75 (d := d) CS JS
    | false =>
     cases h85 : Nat.beq b 85 with
     | true => exact zk_143_85 (d := d) CS JS
     | false =>
      cases h141 : Nat.beq b 141 with
      | true => exact zk_143_141 (d := d) CS JS
      | false =>
       cases h144 : Nat.beq b 144 with
       | true => exact zk_143_144 (d := d) CS JS
       | false =>
        exact zz_no
/-! TaskDeskModel.isTask(I)Z -/
def wk_144_0 (d : Nat) (C : kx_C) (J : Nat → kx_F) : kx_F := (kx_li 1 (kx_iflt (kx_nm [] (J 24)) (kx_li 1 (kx_c (kx_i 256) (kx_cge (kx_nm [] (J 24)) (kx_la 0 (wx_gR 9 4 101 (kx_li 1 (wx_aB 101 (kx_ifeq (kx_nm [] (J 24)) (kx_c (kx_i 1) (kx_nm [] (J 25)))))))))))))
def wk_144_24 (d : Nat) (C : kx_C) (J : Nat → kx_F) : kx_F := (kx_c (kx_i 0) (kx_nm [] (J 25)))
def wk_144_25 (d : Nat) (C : kx_C) (J : Nat → kx_F) : kx_F := kx_rz
def wm_144 (d : Nat) (C : kx_C) (b : Nat) (J : Nat → kx_F) : kx_F := bif Nat.beq b 0 then wk_144_0 d C J else bif Nat.beq b 24 then wk_144_24 d C J else bif Nat.beq b 25 then wk_144_25 d C J else fun _ _ _ => none
theorem zk_144_0 (CS : kZC T C C') (JS : ∀ b, kZ T (J b) (J' b)) : kZ T (bk_144_0 d C J) (wk_144_0 d C' J') := (zz_li (zz_iflt (zz_nm (JS 24)) (zz_li (zz_ci (zz_cge (zz_nm (JS 24)) (zz_la (zz_gR (by decide) rfl (zz_li (zz_aB (by decide) (zz_ifeq (zz_nm (JS 24)) (zz_ci (zz_nm (JS 25)))))))))))))
theorem zk_144_24 (CS : kZC T C C') (JS : ∀ b, kZ T (J b) (J' b)) : kZ T (bk_144_24 d C J) (wk_144_24 d C' J') := (zz_ci (zz_nm (JS 25)))
theorem zk_144_25 (CS : kZC T C C') (JS : ∀ b, kZ T (J b) (J' b)) : kZ T (bk_144_25 d C J) (wk_144_25 d C' J') := zz_rz
theorem zm_144 (CS : kZC T C C') (J J' : Nat → kx_F) (JS : ∀ b, kZ T (J b) (J' b)) (b : Nat) : kZ T (bm_144 d C b J) (wm_144 d C' b J') := by
  unfold bm_144 wm_144
  cases h0 : Nat.beq b 0 with
  | true => exact zk_144_0 (d := d) CS JS
  | false =>
   cases h24 : Nat.beq b 24 with
   | true => exact zk_144_24 (d := d) CS JS
   | false =>
    cases h25 : Nat.beq b 25 with
    | true => exact zk_144_25 (d := d) CS JS
    | false =>
     exact zz_no
/-! TaskDeskModel.outcome(I)J -/
def wk_145_0 (d : Nat) (C : kx_C) (J : Nat → kx_F) : kx_F := (kx_la 0 (kx_c (kx_i 0) (wx_pI 9 0 (kx_la 0 (kx_li 1 (kx_Vi C 144 9 [0] (kx_ifeq (kx_la 0 (kx_c (kx_i 1) (kx_Vi C 91 9 [0] (kx_i2l (kx_nm [] (J 28)))))) (kx_la 0 (wx_gR 9 7 100 (kx_li 1 (wx_aL 100 (kx_nm [] (J 28)))))))))))))
def wk_145_28 (d : Nat) (C : kx_C) (J : Nat → kx_F) : kx_F := kx_rl
def wm_145 (d : Nat) (C : kx_C) (b : Nat) (J : Nat → kx_F) : kx_F := bif Nat.beq b 0 then wk_145_0 d C J else bif Nat.beq b 28 then wk_145_28 d C J else fun _ _ _ => none
theorem zk_145_0 (CS : kZC T C C') (JS : ∀ b, kZ T (J b) (J' b)) : kZ T (bk_145_0 d C J) (wk_145_0 d C' J') := (zz_la (zz_ci (zz_pI (by decide) (zz_la (zz_li (zz_Vi CS (zz_ifeq (zz_la (zz_ci (zz_Vi CS (zz_i2l (zz_nm (JS 28)))))) (zz_la (zz_gR (by decide) rfl (zz_li (zz_aL (by decide) (zz_nm (JS 28)))))))))))))
theorem zk_145_28 (CS : kZC T C C') (JS : ∀ b, kZ T (J b) (J' b)) : kZ T (bk_145_28 d C J) (wk_145_28 d C' J') := zz_rl
theorem zm_145 (CS : kZC T C C') (J J' : Nat → kx_F) (JS : ∀ b, kZ T (J b) (J' b)) (b : Nat) : kZ T (bm_145 d C b J) (wm_145 d C' b J') := by
  unfold bm_145 wm_145
  cases h0 : Nat.beq b 0 with
  | true => exact zk_145_0 (d := d) CS JS
  | false =>
   cases h28 : Nat.beq b 28 with
   | true => exact zk_145_28 (d := d) CS JS
   | false =>
    exact zz_no
/-! TaskDeskModel.look(II)I -/
def wk_146_0 (d : Nat) (C : kx_C) (J : Nat → kx_F) : kx_F := (kx_la 0 (kx_c (kx_i 0) (wx_pI 9 0 (kx_la 0 (kx_li 1 (kx_Vi C 93 9 [0] (kx_ifeq (kx_nm [0] (J 22)) (kx_li 2 (kx_iflt (kx_nm [0] (J 22)) (kx_li 2 (kx_c (kx_i 4) (kx_cle (kx_li 2 (kx_c (kx_i 2) (kx_cge (kx_li 2 (kx_c (kx_i 4) (kx_cne (kx_c (kx_i 0) (kx_si 3 (kx_c (kx_i 0) (kx_si 4 (kx_nm [0, 1, 2, 3, 4] (J 77)))))) (kx_la 0 (wx_gR 9 14 101 (kx_li 1 (wx_aB 101 (kx_ifeq (kx_c (kx_i 0) (kx_nm [] (J 71))) (kx_c (kx_i 1) (kx_nm [] (J 71))))))))))) (kx_li 2 (kx_ifne (kx_la 0 (wx_gR 9 15 99 (kx_li 1 (wx_aI 99 (kx_nm [] (J 51)))))) (kx_la 0 (kx_li 1 (kx_Vi C 95 9 [0] (kx_nm [] (J 51)))))))))) (kx_nm [0] (J 22))))))))))))))
def wk_146_22 (d : Nat) (C : kx_C) (J : Nat → kx_F) : kx_F := (kx_la 0 (kx_c (kx_i 1) (kx_Vi C 91 9 [0] kx_ri)))
def wk_146_51 (d : Nat) (C : kx_C) (J : Nat → kx_F) : kx_F := kx_ri
def wk_146_71 (d : Nat) (C : kx_C) (J : Nat → kx_F) : kx_F := kx_ri
def wk_146_77 (d : Nat) (C : kx_C) (J : Nat → kx_F) : kx_F := (kx_li 4 (kx_la 0 (wx_gI 9 20 (kx_cge (kx_li 3 kx_ri) (kx_li 3 (kx_la 0 (wx_gR 9 22 99 (kx_li 4 (wx_aI 99 (kx_li 1 (kx_cne (kx_nm [0, 1, 2, 4] (J 122)) (kx_la 0 (wx_gR 9 23 101 (kx_li 4 (wx_aB 101 (kx_li 2 (kx_c (kx_i 2) (kx_cne (kx_c (kx_i 0) (kx_nm [0, 1, 2, 4] (J 115))) (kx_c (kx_i 1) (kx_nm [0, 1, 2, 4] (J 115)))))))))))))))))))))
def wk_146_115 (d : Nat) (C : kx_C) (J : Nat → kx_F) : kx_F := (kx_cne (kx_nm [0, 1, 2, 4] (J 122)) (kx_c (kx_i 1) (kx_nm [0, 1, 2, 4] (J 123))))
def wk_146_122 (d : Nat) (C : kx_C) (J : Nat → kx_F) : kx_F := (kx_c (kx_i 0) (kx_nm [0, 1, 2, 4] (J 123)))
def wk_146_123 (d : Nat) (C : kx_C) (J : Nat → kx_F) : kx_F := (kx_ii (fun x y => x + y) (kx_si 3 (kx_inc 4 1 (kx_nm [0, 1, 2, 3, 4] (J 77)))))
def wm_146 (d : Nat) (C : kx_C) (b : Nat) (J : Nat → kx_F) : kx_F := bif Nat.beq b 0 then wk_146_0 d C J else bif Nat.beq b 22 then wk_146_22 d C J else bif Nat.beq b 51 then wk_146_51 d C J else bif Nat.beq b 71 then wk_146_71 d C J else bif Nat.beq b 77 then wk_146_77 d C J else bif Nat.beq b 115 then wk_146_115 d C J else bif Nat.beq b 122 then wk_146_122 d C J else bif Nat.beq b 123 then wk_146_123 d C J else fun _ _ _ => none
theorem zk_146_0 (CS : kZC T C C') (JS : ∀ b, kZ T (J b) (J' b)) : kZ T (bk_146_0 d C J) (wk_146_0 d C' J') := (zz_la (zz_ci (zz_pI (by decide) (zz_la (zz_li (zz_Vi CS (zz_ifeq (zz_nm (JS 22)) (zz_li (zz_iflt (zz_nm (JS 22)) (zz_li (zz_ci (zz_cle (zz_li (zz_ci (zz_cge (zz_li (zz_ci (zz_cne (zz_ci (zz_si (zz_ci (zz_si (zz_nm (JS 77)))))) (zz_la (zz_gR (by decide) rfl (zz_li (zz_aB (by decide) (zz_ifeq (zz_ci (zz_nm (JS 71))) (zz_ci (zz_nm (JS 71))))))))))) (zz_li (zz_ifne (zz_la (zz_gR (by decide) rfl (zz_li (zz_aI (by decide) (zz_nm (JS 51)))))) (zz_la (zz_li (zz_Vi CS (zz_nm (JS 51)))))))))) (zz_nm (JS 22))))))))))))))
theorem zk_146_22 (CS : kZC T C C') (JS : ∀ b, kZ T (J b) (J' b)) : kZ T (bk_146_22 d C J) (wk_146_22 d C' J') := (zz_la (zz_ci (zz_Vi CS zz_ri)))
theorem zk_146_51 (CS : kZC T C C') (JS : ∀ b, kZ T (J b) (J' b)) : kZ T (bk_146_51 d C J) (wk_146_51 d C' J') := zz_ri
theorem zk_146_71 (CS : kZC T C C') (JS : ∀ b, kZ T (J b) (J' b)) : kZ T (bk_146_71 d C J) (wk_146_71 d C' J') := zz_ri
theorem zk_146_77 (CS : kZC T C C') (JS : ∀ b, kZ T (J b) (J' b)) : kZ T (bk_146_77 d C J) (wk_146_77 d C' J') := (zz_li (zz_la (zz_gI (by decide) (zz_cge (zz_li zz_ri) (zz_li (zz_la (zz_gR (by decide) rfl (zz_li (zz_aI (by decide) (zz_li (zz_cne (zz_nm (JS 122)) (zz_la (zz_gR (by decide) rfl (zz_li (zz_aB (by decide) (zz_li (zz_ci (zz_cne (zz_ci (zz_nm (JS 115))) (zz_ci (zz_nm (JS 115)))))))))))))))))))))
theorem zk_146_115 (CS : kZC T C C') (JS : ∀ b, kZ T (J b) (J' b)) : kZ T (bk_146_115 d C J) (wk_146_115 d C' J') := (zz_cne (zz_nm (JS 122)) (zz_ci (zz_nm (JS 123))))
theorem zk_146_122 (CS : kZC T C C') (JS : ∀ b, kZ T (J b) (J' b)) : kZ T (bk_146_122 d C J) (wk_146_122 d C' J') := (zz_ci (zz_nm (JS 123)))
theorem zk_146_123 (CS : kZC T C C') (JS : ∀ b, kZ T (J b) (J' b)) : kZ T (bk_146_123 d C J) (wk_146_123 d C' J') := (zz_ii (zz_si (zz_inc (zz_nm (JS 77)))))
theorem zm_146 (CS : kZC T C C') (J J' : Nat → kx_F) (JS : ∀ b, kZ T (J b) (J' b)) (b : Nat) : kZ T (bm_146 d C b J) (wm_146 d C' b J') := by
  unfold bm_146 wm_146
  cases h0 : Nat.beq b 0 with
  | true => exact zk_146_0 (d := d) CS JS
  | false =>
   cases h22 : Nat.beq b 22 with
   | true => exact zk_146_22 (d := d) CS JS
   | false =>
    cases h51 : Nat.beq b 51 with
    | true => exact zk_146_51 (d := d) CS JS
    | false =>
     cases h71 : Nat.beq b 71 with
     | true => exact zk_146_71 (d := d) CS JS
     | false =>
      cases h77 : Nat.beq b 77 with
      | true => exact zk_146_77 (d := d) CS JS
      | false =>
       cases h115 : Nat.beq b 115 with
       | true => exact zk_146_115 (d := d) CS JS
       | false =>
        cases h122 : Nat.beq b 122 with
        | true => exact zk_146_122 (d := d) CS JS
        | false =>
         cases h123 : Nat.beq b 123 with
         | true => exact zk_146_123 (d := d) CS JS
         | false =>
          exact zz_no
/-! TaskDeskModel.watch(II)I -/
def wk_147_0 (d : Nat) (C : kx_C) (J : Nat → kx_F) : kx_F := (kx_la 0 (kx_c (kx_i 0) (wx_pI 9 0 (kx_la 0 (kx_li 1 (kx_Vi C 125 9 [0] (kx_ifeq (kx_nm [0] (J 22)) (kx_li 2 (kx_iflt (kx_nm [0] (J 22)) (kx_li 2 (kx_c (kx_i 2) (kx_cle (kx_li 2 (kx_ifne (kx_li 2 (kx_c (kx_i 1) (kx_cne (kx_la 0 (kx_li 1 (kx_Vi C 141 9 [0] (kx_nm [] (J 60))))) (kx_la 0 (wx_gR 9 32 99 (kx_li 1 (wx_aI 99 (kx_nm [] (J 60))))))))) (kx_la 0 (wx_gR 9 31 99 (kx_li 1 (wx_aI 99 (kx_nm [] (J 60)))))))) (kx_nm [0] (J 22))))))))))))))
def wk_147_22 (d : Nat) (C : kx_C) (J : Nat → kx_F) : kx_F := (kx_la 0 (kx_c (kx_i 1) (kx_Vi C 91 9 [0] kx_ri)))
def wk_147_60 (d : Nat) (C : kx_C) (J : Nat → kx_F) : kx_F := kx_ri
def wm_147 (d : Nat) (C : kx_C) (b : Nat) (J : Nat → kx_F) : kx_F := bif Nat.beq b 0 then wk_147_0 d C J else bif Nat.beq b 22 then wk_147_22 d C J else bif Nat.beq b 60 then wk_147_60 d C J else fun _ _ _ => none
theorem zk_147_0 (CS : kZC T C C') (JS : ∀ b, kZ T (J b) (J' b)) : kZ T (bk_147_0 d C J) (wk_147_0 d C' J') := (zz_la (zz_ci (zz_pI (by decide) (zz_la (zz_li (zz_Vi CS (zz_ifeq (zz_nm (JS 22)) (zz_li (zz_iflt (zz_nm (JS 22)) (zz_li (zz_ci (zz_cle (zz_li (zz_ifne (zz_li (zz_ci (zz_cne (zz_la (zz_li (zz_Vi CS (zz_nm (JS 60))))) (zz_la (zz_gR (by decide) rfl (zz_li (zz_aI (by decide) (zz_nm (JS 60))))))))) (zz_la (zz_gR (by decide) rfl (zz_li (zz_aI (by decide) (zz_nm (JS 60)))))))) (zz_nm (JS 22))))))))))))))
theorem zk_147_22 (CS : kZC T C C') (JS : ∀ b, kZ T (J b) (J' b)) : kZ T (bk_147_22 d C J) (wk_147_22 d C' J') := (zz_la (zz_ci (zz_Vi CS zz_ri)))
theorem zk_147_60 (CS : kZC T C C') (JS : ∀ b, kZ T (J b) (J' b)) : kZ T (bk_147_60 d C J) (wk_147_60 d C' J') := zz_ri
theorem zm_147 (CS : kZC T C C') (J J' : Nat → kx_F) (JS : ∀ b, kZ T (J b) (J' b)) (b : Nat) : kZ T (bm_147 d C b J) (wm_147 d C' b J') := by
  unfold bm_147 wm_147
  cases h0 : Nat.beq b 0 with
  | true => exact zk_147_0 (d := d) CS JS
  | false =>
   cases h22 : Nat.beq b 22 with
   | true => exact zk_147_22 (d := d) CS JS
   | false =>
    cases h60 : Nat.beq b 60 with
    | true => exact zk_147_60 (d := d) CS JS
    | false =>
     exact zz_no
/-! TaskDeskModel.clock()J -/
def wk_148_0 (d : Nat) (C : kx_C) (J : Nat → kx_F) : kx_F := (kx_la 0 (kx_c (kx_i 0) (wx_pI 9 0 (kx_la 0 (wx_gL 9 3 kx_rl)))))
def wm_148 (d : Nat) (C : kx_C) (b : Nat) (J : Nat → kx_F) : kx_F := bif Nat.beq b 0 then wk_148_0 d C J else fun _ _ _ => none
theorem zk_148_0 (CS : kZC T C C') (JS : ∀ b, kZ T (J b) (J' b)) : kZ T (bk_148_0 d C J) (wk_148_0 d C' J') := (zz_la (zz_ci (zz_pI (by decide) (zz_la (zz_gL (by decide) zz_rl)))))
theorem zm_148 (CS : kZC T C C') (J J' : Nat → kx_F) (JS : ∀ b, kZ T (J b) (J' b)) (b : Nat) : kZ T (bm_148 d C b J) (wm_148 d C' b J') := by
  unfold bm_148 wm_148
  cases h0 : Nat.beq b 0 with
  | true => exact zk_148_0 (d := d) CS JS
  | false =>
   exact zz_no
/-! TaskDeskModel.count(I)I -/
def wk_149_0 (d : Nat) (C : kx_C) (J : Nat → kx_F) : kx_F := (kx_la 0 (kx_c (kx_i 0) (wx_pI 9 0 (kx_li 1 (kx_sw [(0, (kx_la 0 (kx_Vi C 150 9 [] kx_ri))), (1, (kx_la 0 (wx_gI 9 11 kx_ri))), (2, (kx_la 0 (kx_Vi C 151 9 [] kx_ri))), (3, (kx_la 0 (wx_gI 9 16 kx_ri))), (4, (kx_la 0 (wx_gI 9 30 kx_ri))), (5, (kx_la 0 (wx_gI 9 41 kx_ri))), (6, (kx_la 0 (wx_gI 9 26 kx_ri))), (7, (kx_la 0 (wx_gI 9 2 kx_ri)))] (kx_c (kx_i (-1)) kx_ri))))))
def wm_149 (d : Nat) (C : kx_C) (b : Nat) (J : Nat → kx_F) : kx_F := bif Nat.beq b 0 then wk_149_0 d C J else fun _ _ _ => none
theorem zk_149_0 (CS : kZC T C C') (JS : ∀ b, kZ T (J b) (J' b)) : kZ T (bk_149_0 d C J) (wk_149_0 d C' J') := (zz_la (zz_ci (zz_pI (by decide) (zz_li (zz_sw ⟨rfl, (zz_la (zz_Vi CS zz_ri)), ⟨rfl, (zz_la (zz_gI (by decide) zz_ri)), ⟨rfl, (zz_la (zz_Vi CS zz_ri)), ⟨rfl, (zz_la (zz_gI (by decide) zz_ri)), ⟨rfl, (zz_la (zz_gI (by decide) zz_ri)), ⟨rfl, (zz_la (zz_gI (by decide) zz_ri)), ⟨rfl, (zz_la (zz_gI (by decide) zz_ri)), ⟨rfl, (zz_la (zz_gI (by decide) zz_ri)), trivial⟩⟩⟩⟩⟩⟩⟩⟩ (zz_ci zz_ri))))))
theorem zm_149 (CS : kZC T C C') (J J' : Nat → kx_F) (JS : ∀ b, kZ T (J b) (J' b)) (b : Nat) : kZ T (bm_149 d C b J) (wm_149 d C' b J') := by
  unfold bm_149 wm_149
  cases h0 : Nat.beq b 0 with
  | true => exact zk_149_0 (d := d) CS JS
  | false =>
   exact zz_no
/-! TaskDeskModel.living()I -/
def wk_150_0 (d : Nat) (C : kx_C) (J : Nat → kx_F) : kx_F := (kx_c (kx_i 0) (kx_si 1 (kx_c (kx_i 0) (kx_si 2 (kx_nm [0, 1, 2] (J 4))))))
def wk_150_4 (d : Nat) (C : kx_C) (J : Nat → kx_F) : kx_F := (kx_li 2 (kx_c (kx_i 256) (kx_cge (kx_li 1 kx_ri) (kx_li 1 (kx_la 0 (wx_gR 9 4 101 (kx_li 2 (wx_aB 101 (kx_ifeq (kx_c (kx_i 0) (kx_nm [0, 2] (J 26))) (kx_c (kx_i 1) (kx_nm [0, 2] (J 26))))))))))))
def wk_150_26 (d : Nat) (C : kx_C) (J : Nat → kx_F) : kx_F := (kx_ii (fun x y => x + y) (kx_si 1 (kx_inc 2 1 (kx_nm [0, 1, 2] (J 4)))))
def wm_150 (d : Nat) (C : kx_C) (b : Nat) (J : Nat → kx_F) : kx_F := bif Nat.beq b 0 then wk_150_0 d C J else bif Nat.beq b 4 then wk_150_4 d C J else bif Nat.beq b 26 then wk_150_26 d C J else fun _ _ _ => none
theorem zk_150_0 (CS : kZC T C C') (JS : ∀ b, kZ T (J b) (J' b)) : kZ T (bk_150_0 d C J) (wk_150_0 d C' J') := (zz_ci (zz_si (zz_ci (zz_si (zz_nm (JS 4))))))
theorem zk_150_4 (CS : kZC T C C') (JS : ∀ b, kZ T (J b) (J' b)) : kZ T (bk_150_4 d C J) (wk_150_4 d C' J') := (zz_li (zz_ci (zz_cge (zz_li zz_ri) (zz_li (zz_la (zz_gR (by decide) rfl (zz_li (zz_aB (by decide) (zz_ifeq (zz_ci (zz_nm (JS 26))) (zz_ci (zz_nm (JS 26))))))))))))
theorem zk_150_26 (CS : kZC T C C') (JS : ∀ b, kZ T (J b) (J' b)) : kZ T (bk_150_26 d C J) (wk_150_26 d C' J') := (zz_ii (zz_si (zz_inc (zz_nm (JS 4)))))
theorem zm_150 (CS : kZC T C C') (J J' : Nat → kx_F) (JS : ∀ b, kZ T (J b) (J' b)) (b : Nat) : kZ T (bm_150 d C b J) (wm_150 d C' b J') := by
  unfold bm_150 wm_150
  cases h0 : Nat.beq b 0 with
  | true => exact zk_150_0 (d := d) CS JS
  | false =>
   cases h4 : Nat.beq b 4 with
   | true => exact zk_150_4 (d := d) CS JS
   | false =>
    cases h26 : Nat.beq b 26 with
    | true => exact zk_150_26 (d := d) CS JS
    | false =>
     exact zz_no
/-! TaskDeskModel.channels()I -/
def wk_151_0 (d : Nat) (C : kx_C) (J : Nat → kx_F) : kx_F := (kx_c (kx_i 0) (kx_si 1 (kx_c (kx_i 0) (kx_si 2 (kx_nm [0, 1, 2] (J 4))))))
def wk_151_4 (d : Nat) (C : kx_C) (J : Nat → kx_F) : kx_F := (kx_li 2 (kx_c (kx_i 512) (kx_cge (kx_li 1 kx_ri) (kx_li 1 (kx_la 0 (wx_gR 9 13 101 (kx_li 2 (wx_aB 101 (kx_ifeq (kx_c (kx_i 0) (kx_nm [0, 2] (J 26))) (kx_c (kx_i 1) (kx_nm [0, 2] (J 26))))))))))))
def wk_151_26 (d : Nat) (C : kx_C) (J : Nat → kx_F) : kx_F := (kx_ii (fun x y => x + y) (kx_si 1 (kx_inc 2 1 (kx_nm [0, 1, 2] (J 4)))))
def wm_151 (d : Nat) (C : kx_C) (b : Nat) (J : Nat → kx_F) : kx_F := bif Nat.beq b 0 then wk_151_0 d C J else bif Nat.beq b 4 then wk_151_4 d C J else bif Nat.beq b 26 then wk_151_26 d C J else fun _ _ _ => none
theorem zk_151_0 (CS : kZC T C C') (JS : ∀ b, kZ T (J b) (J' b)) : kZ T (bk_151_0 d C J) (wk_151_0 d C' J') := (zz_ci (zz_si (zz_ci (zz_si (zz_nm (JS 4))))))
theorem zk_151_4 (CS : kZC T C C') (JS : ∀ b, kZ T (J b) (J' b)) : kZ T (bk_151_4 d C J) (wk_151_4 d C' J') := (zz_li (zz_ci (zz_cge (zz_li zz_ri) (zz_li (zz_la (zz_gR (by decide) rfl (zz_li (zz_aB (by decide) (zz_ifeq (zz_ci (zz_nm (JS 26))) (zz_ci (zz_nm (JS 26))))))))))))
theorem zk_151_26 (CS : kZC T C C') (JS : ∀ b, kZ T (J b) (J' b)) : kZ T (bk_151_26 d C J) (wk_151_26 d C' J') := (zz_ii (zz_si (zz_inc (zz_nm (JS 4)))))
theorem zm_151 (CS : kZC T C C') (J J' : Nat → kx_F) (JS : ∀ b, kZ T (J b) (J' b)) (b : Nat) : kZ T (bm_151 d C b J) (wm_151 d C' b J') := by
  unfold bm_151 wm_151
  cases h0 : Nat.beq b 0 with
  | true => exact zk_151_0 (d := d) CS JS
  | false =>
   cases h4 : Nat.beq b 4 with
   | true => exact zk_151_4 (d := d) CS JS
   | false =>
    cases h26 : Nat.beq b 26 with
    | true => exact zk_151_26 (d := d) CS JS
    | false =>
     exact zz_no
end KW
