section KW
variable {T : Nat → Option Nat} {C C' : kx_C} {J J' : Nat → kx_F} {d : Nat}
/-! TaskDeskLaw.spawn(LTaskDesk;[J)I -/
def wk_152_0 (d : Nat) (C : kx_C) (J : Nat → kx_F) : kx_F := (kx_la 1 (kx_c (kx_i 0) (kx_la 0 (kx_Vic C 23 0 [] kH_152 (kx_i2l (wx_asL 100 (kx_c (kx_i 0) kx_ri)))))))
def wm_152 (d : Nat) (C : kx_C) (b : Nat) (J : Nat → kx_F) : kx_F := bif Nat.beq b 0 then wk_152_0 d C J else fun _ _ _ => none
theorem zk_152_0 (CS : kZC T C C') (JS : ∀ b, kZ T (J b) (J' b)) : kZ T (bk_152_0 d C J) (wk_152_0 d C' J') := (zz_la (zz_ci (zz_la (zz_Vic CS (zz_i2l (zz_asL (by decide) (zz_ci zz_ri)))))))
theorem zm_152 (CS : kZC T C C') (J J' : Nat → kx_F) (JS : ∀ b, kZ T (J b) (J' b)) (b : Nat) : kZ T (bm_152 d C b J) (wm_152 d C' b J') := by
  unfold bm_152 wm_152
  cases h0 : Nat.beq b 0 with
  | true => exact zk_152_0 (d := d) CS JS
  | false =>
   exact zz_no
/-! TaskDeskLaw.giveWay(LTaskDesk;[J)I -/
def wk_153_0 (d : Nat) (C : kx_C) (J : Nat → kx_F) : kx_F := (kx_la 1 (kx_c (kx_i 0) (kx_la 0 (kx_Vic C 29 0 [] kH_153 (kx_i2l (wx_asL 100 (kx_c (kx_i 0) kx_ri)))))))
def wm_153 (d : Nat) (C : kx_C) (b : Nat) (J : Nat → kx_F) : kx_F := bif Nat.beq b 0 then wk_153_0 d C J else fun _ _ _ => none
theorem zk_153_0 (CS : kZC T C C') (JS : ∀ b, kZ T (J b) (J' b)) : kZ T (bk_153_0 d C J) (wk_153_0 d C' J') := (zz_la (zz_ci (zz_la (zz_Vic CS (zz_i2l (zz_asL (by decide) (zz_ci zz_ri)))))))
theorem zm_153 (CS : kZC T C C') (J J' : Nat → kx_F) (JS : ∀ b, kZ T (J b) (J' b)) (b : Nat) : kZ T (bm_153 d C b J) (wm_153 d C' b J') := by
  unfold bm_153 wm_153
  cases h0 : Nat.beq b 0 with
  | true => exact zk_153_0 (d := d) CS JS
  | false =>
   exact zz_no
/-! TaskDeskLaw.finish(LTaskDesk;[J)I -/
def wk_154_0 (d : Nat) (C : kx_C) (J : Nat → kx_F) : kx_F := (kx_la 1 (kx_c (kx_i 0) (kx_la 0 (kx_Vic C 40 0 [] kH_154 (kx_i2l (wx_asL 100 (kx_c (kx_i 0) kx_ri)))))))
def wm_154 (d : Nat) (C : kx_C) (b : Nat) (J : Nat → kx_F) : kx_F := bif Nat.beq b 0 then wk_154_0 d C J else fun _ _ _ => none
theorem zk_154_0 (CS : kZC T C C') (JS : ∀ b, kZ T (J b) (J' b)) : kZ T (bk_154_0 d C J) (wk_154_0 d C' J') := (zz_la (zz_ci (zz_la (zz_Vic CS (zz_i2l (zz_asL (by decide) (zz_ci zz_ri)))))))
theorem zm_154 (CS : kZC T C C') (J J' : Nat → kx_F) (JS : ∀ b, kZ T (J b) (J' b)) (b : Nat) : kZ T (bm_154 d C b J) (wm_154 d C' b J') := by
  unfold bm_154 wm_154
  cases h0 : Nat.beq b 0 with
  | true => exact zk_154_0 (d := d) CS JS
  | false =>
   exact zz_no
/-! TaskDeskLaw.sleep(LTaskDesk;J[J)I -/
def wk_155_0 (d : Nat) (C : kx_C) (J : Nat → kx_F) : kx_F := (kx_la 3 (kx_c (kx_i 0) (kx_la 0 (kx_ll 1 (kx_Vic C 42 0 [1] kH_155 (kx_i2l (wx_asL 100 (kx_c (kx_i 0) kx_ri))))))))
def wm_155 (d : Nat) (C : kx_C) (b : Nat) (J : Nat → kx_F) : kx_F := bif Nat.beq b 0 then wk_155_0 d C J else fun _ _ _ => none
theorem zk_155_0 (CS : kZC T C C') (JS : ∀ b, kZ T (J b) (J' b)) : kZ T (bk_155_0 d C J) (wk_155_0 d C' J') := (zz_la (zz_ci (zz_la (zz_ll (zz_Vic CS (zz_i2l (zz_asL (by decide) (zz_ci zz_ri))))))))
theorem zm_155 (CS : kZC T C C') (J J' : Nat → kx_F) (JS : ∀ b, kZ T (J b) (J' b)) (b : Nat) : kZ T (bm_155 d C b J) (wm_155 d C' b J') := by
  unfold bm_155 wm_155
  cases h0 : Nat.beq b 0 with
  | true => exact zk_155_0 (d := d) CS JS
  | false =>
   exact zz_no
/-! TaskDeskLaw.channel(LTaskDesk;I[J)I -/
def wk_156_0 (d : Nat) (C : kx_C) (J : Nat → kx_F) : kx_F := (kx_la 2 (kx_c (kx_i 0) (kx_la 0 (kx_li 1 (kx_Vic C 45 0 [0] kH_156 (kx_i2l (wx_asL 100 (kx_c (kx_i 0) kx_ri))))))))
def wm_156 (d : Nat) (C : kx_C) (b : Nat) (J : Nat → kx_F) : kx_F := bif Nat.beq b 0 then wk_156_0 d C J else fun _ _ _ => none
theorem zk_156_0 (CS : kZC T C C') (JS : ∀ b, kZ T (J b) (J' b)) : kZ T (bk_156_0 d C J) (wk_156_0 d C' J') := (zz_la (zz_ci (zz_la (zz_li (zz_Vic CS (zz_i2l (zz_asL (by decide) (zz_ci zz_ri))))))))
theorem zm_156 (CS : kZC T C C') (J J' : Nat → kx_F) (JS : ∀ b, kZ T (J b) (J' b)) (b : Nat) : kZ T (bm_156 d C b J) (wm_156 d C' b J') := by
  unfold bm_156 wm_156
  cases h0 : Nat.beq b 0 with
  | true => exact zk_156_0 (d := d) CS JS
  | false =>
   exact zz_no
/-! TaskDeskLaw.alarm(LTaskDesk;IJ)I -/
def wk_157_0 (d : Nat) (C : kx_C) (J : Nat → kx_F) : kx_F := (kx_la 0 (kx_li 1 (kx_ll 2 (kx_Vvc C 47 0 [0, 1] kH_157 (kx_c (kx_i 0) kx_ri)))))
def wm_157 (d : Nat) (C : kx_C) (b : Nat) (J : Nat → kx_F) : kx_F := bif Nat.beq b 0 then wk_157_0 d C J else fun _ _ _ => none
theorem zk_157_0 (CS : kZC T C C') (JS : ∀ b, kZ T (J b) (J' b)) : kZ T (bk_157_0 d C J) (wk_157_0 d C' J') := (zz_la (zz_li (zz_ll (zz_Vvc CS (zz_ci zz_ri)))))
theorem zm_157 (CS : kZC T C C') (J J' : Nat → kx_F) (JS : ∀ b, kZ T (J b) (J' b)) (b : Nat) : kZ T (bm_157 d C b J) (wm_157 d C' b J') := by
  unfold bm_157 wm_157
  cases h0 : Nat.beq b 0 with
  | true => exact zk_157_0 (d := d) CS JS
  | false =>
   exact zz_no
/-! TaskDeskLaw.send(LTaskDesk;IJ[J)I -/
def wk_158_0 (d : Nat) (C : kx_C) (J : Nat → kx_F) : kx_F := (kx_la 4 (kx_c (kx_i 0) (kx_la 0 (kx_li 1 (kx_ll 2 (kx_Vic C 48 0 [0, 1] kH_158 (kx_ifeq (kx_c (kx_l 0) (kx_nm [] (J 17))) (kx_c (kx_l 1) (kx_nm [] (J 17))))))))))
def wk_158_17 (d : Nat) (C : kx_C) (J : Nat → kx_F) : kx_F := (wx_asL 100 (kx_c (kx_i 0) kx_ri))
def wm_158 (d : Nat) (C : kx_C) (b : Nat) (J : Nat → kx_F) : kx_F := bif Nat.beq b 0 then wk_158_0 d C J else bif Nat.beq b 17 then wk_158_17 d C J else fun _ _ _ => none
theorem zk_158_0 (CS : kZC T C C') (JS : ∀ b, kZ T (J b) (J' b)) : kZ T (bk_158_0 d C J) (wk_158_0 d C' J') := (zz_la (zz_ci (zz_la (zz_li (zz_ll (zz_Vic CS (zz_ifeq (zz_cl (zz_nm (JS 17))) (zz_cl (zz_nm (JS 17))))))))))
theorem zk_158_17 (CS : kZC T C C') (JS : ∀ b, kZ T (J b) (J' b)) : kZ T (bk_158_17 d C J) (wk_158_17 d C' J') := (zz_asL (by decide) (zz_ci zz_ri))
theorem zm_158 (CS : kZC T C C') (J J' : Nat → kx_F) (JS : ∀ b, kZ T (J b) (J' b)) (b : Nat) : kZ T (bm_158 d C b J) (wm_158 d C' b J') := by
  unfold bm_158 wm_158
  cases h0 : Nat.beq b 0 with
  | true => exact zk_158_0 (d := d) CS JS
  | false =>
   cases h17 : Nat.beq b 17 with
   | true => exact zk_158_17 (d := d) CS JS
   | false =>
    exact zz_no
/-! TaskDeskLaw.receive(LTaskDesk;I[J)I -/
def wk_159_0 (d : Nat) (C : kx_C) (J : Nat → kx_F) : kx_F := (kx_la 2 (kx_c (kx_i 0) (kx_la 0 (kx_li 1 (kx_Vic C 50 0 [0] kH_159 (kx_ifeq (kx_c (kx_l 0) (kx_nm [] (J 15))) (kx_c (kx_l 1) (kx_nm [] (J 15)))))))))
def wk_159_15 (d : Nat) (C : kx_C) (J : Nat → kx_F) : kx_F := (wx_asL 100 (kx_c (kx_i 0) kx_ri))
def wm_159 (d : Nat) (C : kx_C) (b : Nat) (J : Nat → kx_F) : kx_F := bif Nat.beq b 0 then wk_159_0 d C J else bif Nat.beq b 15 then wk_159_15 d C J else fun _ _ _ => none
theorem zk_159_0 (CS : kZC T C C') (JS : ∀ b, kZ T (J b) (J' b)) : kZ T (bk_159_0 d C J) (wk_159_0 d C' J') := (zz_la (zz_ci (zz_la (zz_li (zz_Vic CS (zz_ifeq (zz_cl (zz_nm (JS 15))) (zz_cl (zz_nm (JS 15)))))))))
theorem zk_159_15 (CS : kZC T C C') (JS : ∀ b, kZ T (J b) (J' b)) : kZ T (bk_159_15 d C J) (wk_159_15 d C' J') := (zz_asL (by decide) (zz_ci zz_ri))
theorem zm_159 (CS : kZC T C C') (J J' : Nat → kx_F) (JS : ∀ b, kZ T (J b) (J' b)) (b : Nat) : kZ T (bm_159 d C b J) (wm_159 d C' b J') := by
  unfold bm_159 wm_159
  cases h0 : Nat.beq b 0 with
  | true => exact zk_159_0 (d := d) CS JS
  | false =>
   cases h15 : Nat.beq b 15 with
   | true => exact zk_159_15 (d := d) CS JS
   | false =>
    exact zz_no
/-! TaskDeskLaw.close(LTaskDesk;I)I -/
def wk_160_0 (d : Nat) (C : kx_C) (J : Nat → kx_F) : kx_F := (kx_la 0 (kx_li 1 (kx_Vvc C 53 0 [0] kH_160 (kx_c (kx_i 0) kx_ri))))
def wm_160 (d : Nat) (C : kx_C) (b : Nat) (J : Nat → kx_F) : kx_F := bif Nat.beq b 0 then wk_160_0 d C J else fun _ _ _ => none
theorem zk_160_0 (CS : kZC T C C') (JS : ∀ b, kZ T (J b) (J' b)) : kZ T (bk_160_0 d C J) (wk_160_0 d C' J') := (zz_la (zz_li (zz_Vvc CS (zz_ci zz_ri))))
theorem zm_160 (CS : kZC T C C') (J J' : Nat → kx_F) (JS : ∀ b, kZ T (J b) (J' b)) (b : Nat) : kZ T (bm_160 d C b J) (wm_160 d C' b J') := by
  unfold bm_160 wm_160
  cases h0 : Nat.beq b 0 with
  | true => exact zk_160_0 (d := d) CS JS
  | false =>
   exact zz_no
/-! TaskDeskLaw.offer(LTaskDesk;IZJ[J)I -/
def wk_161_0 (d : Nat) (C : kx_C) (J : Nat → kx_F) : kx_F := (kx_la 5 (kx_c (kx_i 0) (kx_la 0 (kx_li 1 (kx_li 2 (kx_ll 3 (kx_Vic C 55 0 [0, 0, 1] kH_161 (kx_i2l (wx_asL 100 (kx_c (kx_i 0) kx_ri))))))))))
def wm_161 (d : Nat) (C : kx_C) (b : Nat) (J : Nat → kx_F) : kx_F := bif Nat.beq b 0 then wk_161_0 d C J else fun _ _ _ => none
theorem zk_161_0 (CS : kZC T C C') (JS : ∀ b, kZ T (J b) (J' b)) : kZ T (bk_161_0 d C J) (wk_161_0 d C' J') := (zz_la (zz_ci (zz_la (zz_li (zz_li (zz_ll (zz_Vic CS (zz_i2l (zz_asL (by decide) (zz_ci zz_ri))))))))))
theorem zm_161 (CS : kZC T C C') (J J' : Nat → kx_F) (JS : ∀ b, kZ T (J b) (J' b)) (b : Nat) : kZ T (bm_161 d C b J) (wm_161 d C' b J') := by
  unfold bm_161 wm_161
  cases h0 : Nat.beq b 0 with
  | true => exact zk_161_0 (d := d) CS JS
  | false =>
   exact zz_no
/-! TaskDeskLaw.choose(LTaskDesk;IZ[J)I -/
def wk_162_0 (d : Nat) (C : kx_C) (J : Nat → kx_F) : kx_F := (kx_la 3 (kx_c (kx_i 0) (kx_la 0 (kx_li 1 (kx_li 2 (kx_Vic C 56 0 [0, 0] kH_162 (kx_ifeq (kx_c (kx_l 0) (kx_nm [] (J 16))) (kx_c (kx_l 1) (kx_nm [] (J 16))))))))))
def wk_162_16 (d : Nat) (C : kx_C) (J : Nat → kx_F) : kx_F := (wx_asL 100 (kx_c (kx_i 0) kx_ri))
def wm_162 (d : Nat) (C : kx_C) (b : Nat) (J : Nat → kx_F) : kx_F := bif Nat.beq b 0 then wk_162_0 d C J else bif Nat.beq b 16 then wk_162_16 d C J else fun _ _ _ => none
theorem zk_162_0 (CS : kZC T C C') (JS : ∀ b, kZ T (J b) (J' b)) : kZ T (bk_162_0 d C J) (wk_162_0 d C' J') := (zz_la (zz_ci (zz_la (zz_li (zz_li (zz_Vic CS (zz_ifeq (zz_cl (zz_nm (JS 16))) (zz_cl (zz_nm (JS 16))))))))))
theorem zk_162_16 (CS : kZC T C C') (JS : ∀ b, kZ T (J b) (J' b)) : kZ T (bk_162_16 d C J) (wk_162_16 d C' J') := (zz_asL (by decide) (zz_ci zz_ri))
theorem zm_162 (CS : kZC T C C') (J J' : Nat → kx_F) (JS : ∀ b, kZ T (J b) (J' b)) (b : Nat) : kZ T (bm_162 d C b J) (wm_162 d C' b J') := by
  unfold bm_162 wm_162
  cases h0 : Nat.beq b 0 with
  | true => exact zk_162_0 (d := d) CS JS
  | false =>
   cases h16 : Nat.beq b 16 with
   | true => exact zk_162_16 (d := d) CS JS
   | false =>
    exact zz_no
/-! TaskDeskLaw.gate(LTaskDesk;II[J)I -/
def wk_163_0 (d : Nat) (C : kx_C) (J : Nat → kx_F) : kx_F := (kx_la 3 (kx_c (kx_i 0) (kx_la 0 (kx_li 1 (kx_li 2 (kx_Vic C 63 0 [0, 0] kH_163 (kx_i2l (wx_asL 100 (kx_c (kx_i 0) kx_ri)))))))))
def wm_163 (d : Nat) (C : kx_C) (b : Nat) (J : Nat → kx_F) : kx_F := bif Nat.beq b 0 then wk_163_0 d C J else fun _ _ _ => none
theorem zk_163_0 (CS : kZC T C C') (JS : ∀ b, kZ T (J b) (J' b)) : kZ T (bk_163_0 d C J) (wk_163_0 d C' J') := (zz_la (zz_ci (zz_la (zz_li (zz_li (zz_Vic CS (zz_i2l (zz_asL (by decide) (zz_ci zz_ri)))))))))
theorem zm_163 (CS : kZC T C C') (J J' : Nat → kx_F) (JS : ∀ b, kZ T (J b) (J' b)) (b : Nat) : kZ T (bm_163 d C b J) (wm_163 d C' b J') := by
  unfold bm_163 wm_163
  cases h0 : Nat.beq b 0 with
  | true => exact zk_163_0 (d := d) CS JS
  | false =>
   exact zz_no
/-! TaskDeskLaw.enter(LTaskDesk;I[J)I -/
def wk_164_0 (d : Nat) (C : kx_C) (J : Nat → kx_F) : kx_F := (kx_la 2 (kx_c (kx_i 0) (kx_la 0 (kx_li 1 (kx_Vic C 65 0 [0] kH_164 (kx_ifeq (kx_c (kx_l 0) (kx_nm [] (J 15))) (kx_c (kx_l 1) (kx_nm [] (J 15)))))))))
def wk_164_15 (d : Nat) (C : kx_C) (J : Nat → kx_F) : kx_F := (wx_asL 100 (kx_c (kx_i 0) kx_ri))
def wm_164 (d : Nat) (C : kx_C) (b : Nat) (J : Nat → kx_F) : kx_F := bif Nat.beq b 0 then wk_164_0 d C J else bif Nat.beq b 15 then wk_164_15 d C J else fun _ _ _ => none
theorem zk_164_0 (CS : kZC T C C') (JS : ∀ b, kZ T (J b) (J' b)) : kZ T (bk_164_0 d C J) (wk_164_0 d C' J') := (zz_la (zz_ci (zz_la (zz_li (zz_Vic CS (zz_ifeq (zz_cl (zz_nm (JS 15))) (zz_cl (zz_nm (JS 15)))))))))
theorem zk_164_15 (CS : kZC T C C') (JS : ∀ b, kZ T (J b) (J' b)) : kZ T (bk_164_15 d C J) (wk_164_15 d C' J') := (zz_asL (by decide) (zz_ci zz_ri))
theorem zm_164 (CS : kZC T C C') (J J' : Nat → kx_F) (JS : ∀ b, kZ T (J b) (J' b)) (b : Nat) : kZ T (bm_164 d C b J) (wm_164 d C' b J') := by
  unfold bm_164 wm_164
  cases h0 : Nat.beq b 0 with
  | true => exact zk_164_0 (d := d) CS JS
  | false =>
   cases h15 : Nat.beq b 15 with
   | true => exact zk_164_15 (d := d) CS JS
   | false =>
    exact zz_no
/-! TaskDeskLaw.read(LTaskDesk;I[J)I -/
def wk_165_0 (d : Nat) (C : kx_C) (J : Nat → kx_F) : kx_F := (kx_la 2 (kx_c (kx_i 0) (kx_la 0 (kx_li 1 (kx_Vic C 71 0 [0] kH_165 (kx_ifeq (kx_c (kx_l 0) (kx_nm [] (J 15))) (kx_c (kx_l 1) (kx_nm [] (J 15)))))))))
def wk_165_15 (d : Nat) (C : kx_C) (J : Nat → kx_F) : kx_F := (wx_asL 100 (kx_c (kx_i 0) kx_ri))
def wm_165 (d : Nat) (C : kx_C) (b : Nat) (J : Nat → kx_F) : kx_F := bif Nat.beq b 0 then wk_165_0 d C J else bif Nat.beq b 15 then wk_165_15 d C J else fun _ _ _ => none
theorem zk_165_0 (CS : kZC T C C') (JS : ∀ b, kZ T (J b) (J' b)) : kZ T (bk_165_0 d C J) (wk_165_0 d C' J') := (zz_la (zz_ci (zz_la (zz_li (zz_Vic CS (zz_ifeq (zz_cl (zz_nm (JS 15))) (zz_cl (zz_nm (JS 15)))))))))
theorem zk_165_15 (CS : kZC T C C') (JS : ∀ b, kZ T (J b) (J' b)) : kZ T (bk_165_15 d C J) (wk_165_15 d C' J') := (zz_asL (by decide) (zz_ci zz_ri))
theorem zm_165 (CS : kZC T C C') (J J' : Nat → kx_F) (JS : ∀ b, kZ T (J b) (J' b)) (b : Nat) : kZ T (bm_165 d C b J) (wm_165 d C' b J') := by
  unfold bm_165 wm_165
  cases h0 : Nat.beq b 0 with
  | true => exact zk_165_0 (d := d) CS JS
  | false =>
   cases h15 : Nat.beq b 15 with
   | true => exact zk_165_15 (d := d) CS JS
   | false =>
    exact zz_no
/-! TaskDeskLaw.leave(LTaskDesk;I)I -/
def wk_166_0 (d : Nat) (C : kx_C) (J : Nat → kx_F) : kx_F := (kx_la 0 (kx_li 1 (kx_Vvc C 72 0 [0] kH_166 (kx_c (kx_i 0) kx_ri))))
def wm_166 (d : Nat) (C : kx_C) (b : Nat) (J : Nat → kx_F) : kx_F := bif Nat.beq b 0 then wk_166_0 d C J else fun _ _ _ => none
theorem zk_166_0 (CS : kZC T C C') (JS : ∀ b, kZ T (J b) (J' b)) : kZ T (bk_166_0 d C J) (wk_166_0 d C' J') := (zz_la (zz_li (zz_Vvc CS (zz_ci zz_ri))))
theorem zm_166 (CS : kZC T C C') (J J' : Nat → kx_F) (JS : ∀ b, kZ T (J b) (J' b)) (b : Nat) : kZ T (bm_166 d C b J) (wm_166 d C' b J') := by
  unfold bm_166 wm_166
  cases h0 : Nat.beq b 0 with
  | true => exact zk_166_0 (d := d) CS JS
  | false =>
   exact zz_no
/-! TaskDeskLaw.change(LTaskDesk;II)I -/
def wk_167_0 (d : Nat) (C : kx_C) (J : Nat → kx_F) : kx_F := (kx_la 0 (kx_li 1 (kx_li 2 (kx_Vvc C 78 0 [0, 0] kH_167 (kx_c (kx_i 0) kx_ri)))))
def wm_167 (d : Nat) (C : kx_C) (b : Nat) (J : Nat → kx_F) : kx_F := bif Nat.beq b 0 then wk_167_0 d C J else fun _ _ _ => none
theorem zk_167_0 (CS : kZC T C C') (JS : ∀ b, kZ T (J b) (J' b)) : kZ T (bk_167_0 d C J) (wk_167_0 d C' J') := (zz_la (zz_li (zz_li (zz_Vvc CS (zz_ci zz_ri)))))
theorem zm_167 (CS : kZC T C C') (J J' : Nat → kx_F) (JS : ∀ b, kZ T (J b) (J' b)) (b : Nat) : kZ T (bm_167 d C b J) (wm_167 d C' b J') := by
  unfold bm_167 wm_167
  cases h0 : Nat.beq b 0 with
  | true => exact zk_167_0 (d := d) CS JS
  | false =>
   exact zz_no
/-! TaskDeskLaw.task(LTaskDesk;II[J)I -/
def wk_168_0 (d : Nat) (C : kx_C) (J : Nat → kx_F) : kx_F := (kx_la 3 (kx_c (kx_i 0) (kx_la 0 (kx_li 1 (kx_li 2 (kx_Vic C 82 0 [0, 0] kH_168 (kx_i2l (wx_asL 100 (kx_c (kx_i 0) kx_ri)))))))))
def wm_168 (d : Nat) (C : kx_C) (b : Nat) (J : Nat → kx_F) : kx_F := bif Nat.beq b 0 then wk_168_0 d C J else fun _ _ _ => none
theorem zk_168_0 (CS : kZC T C C') (JS : ∀ b, kZ T (J b) (J' b)) : kZ T (bk_168_0 d C J) (wk_168_0 d C' J') := (zz_la (zz_ci (zz_la (zz_li (zz_li (zz_Vic CS (zz_i2l (zz_asL (by decide) (zz_ci zz_ri)))))))))
theorem zm_168 (CS : kZC T C C') (J J' : Nat → kx_F) (JS : ∀ b, kZ T (J b) (J' b)) (b : Nat) : kZ T (bm_168 d C b J) (wm_168 d C' b J') := by
  unfold bm_168 wm_168
  cases h0 : Nat.beq b 0 with
  | true => exact zk_168_0 (d := d) CS JS
  | false =>
   exact zz_no
/-! TaskDeskLaw.outcome(LTaskDesk;I[J)I -/
def wk_169_0 (d : Nat) (C : kx_C) (J : Nat → kx_F) : kx_F := (kx_la 2 (kx_c (kx_i 0) (kx_la 0 (kx_li 1 (kx_Vlc C 85 0 [0] kH_169 (wx_asL 100 (kx_c (kx_i 0) kx_ri)))))))
def wm_169 (d : Nat) (C : kx_C) (b : Nat) (J : Nat → kx_F) : kx_F := bif Nat.beq b 0 then wk_169_0 d C J else fun _ _ _ => none
theorem zk_169_0 (CS : kZC T C C') (JS : ∀ b, kZ T (J b) (J' b)) : kZ T (bk_169_0 d C J) (wk_169_0 d C' J') := (zz_la (zz_ci (zz_la (zz_li (zz_Vlc CS (zz_asL (by decide) (zz_ci zz_ri)))))))
theorem zm_169 (CS : kZC T C C') (J J' : Nat → kx_F) (JS : ∀ b, kZ T (J b) (J' b)) (b : Nat) : kZ T (bm_169 d C b J) (wm_169 d C' b J') := by
  unfold bm_169 wm_169
  cases h0 : Nat.beq b 0 with
  | true => exact zk_169_0 (d := d) CS JS
  | false =>
   exact zz_no
/-! TaskDeskLaw.look(LTaskDesk;II[J)I -/
def wk_170_0 (d : Nat) (C : kx_C) (J : Nat → kx_F) : kx_F := (kx_la 3 (kx_c (kx_i 0) (kx_la 0 (kx_li 1 (kx_li 2 (kx_Vic C 86 0 [0, 0] kH_170 (kx_i2l (wx_asL 100 (kx_c (kx_i 0) kx_ri)))))))))
def wm_170 (d : Nat) (C : kx_C) (b : Nat) (J : Nat → kx_F) : kx_F := bif Nat.beq b 0 then wk_170_0 d C J else fun _ _ _ => none
theorem zk_170_0 (CS : kZC T C C') (JS : ∀ b, kZ T (J b) (J' b)) : kZ T (bk_170_0 d C J) (wk_170_0 d C' J') := (zz_la (zz_ci (zz_la (zz_li (zz_li (zz_Vic CS (zz_i2l (zz_asL (by decide) (zz_ci zz_ri)))))))))
theorem zm_170 (CS : kZC T C C') (J J' : Nat → kx_F) (JS : ∀ b, kZ T (J b) (J' b)) (b : Nat) : kZ T (bm_170 d C b J) (wm_170 d C' b J') := by
  unfold bm_170 wm_170
  cases h0 : Nat.beq b 0 with
  | true => exact zk_170_0 (d := d) CS JS
  | false =>
   exact zz_no
/-! TaskDeskLaw.watch(LTaskDesk;II[J)I -/
def wk_171_0 (d : Nat) (C : kx_C) (J : Nat → kx_F) : kx_F := (kx_la 3 (kx_c (kx_i 0) (kx_la 0 (kx_li 1 (kx_li 2 (kx_Vic C 87 0 [0, 0] kH_171 (kx_i2l (wx_asL 100 (kx_c (kx_i 0) kx_ri)))))))))
def wm_171 (d : Nat) (C : kx_C) (b : Nat) (J : Nat → kx_F) : kx_F := bif Nat.beq b 0 then wk_171_0 d C J else fun _ _ _ => none
theorem zk_171_0 (CS : kZC T C C') (JS : ∀ b, kZ T (J b) (J' b)) : kZ T (bk_171_0 d C J) (wk_171_0 d C' J') := (zz_la (zz_ci (zz_la (zz_li (zz_li (zz_Vic CS (zz_i2l (zz_asL (by decide) (zz_ci zz_ri)))))))))
theorem zm_171 (CS : kZC T C C') (J J' : Nat → kx_F) (JS : ∀ b, kZ T (J b) (J' b)) (b : Nat) : kZ T (bm_171 d C b J) (wm_171 d C' b J') := by
  unfold bm_171 wm_171
  cases h0 : Nat.beq b 0 with
  | true => exact zk_171_0 (d := d) CS JS
  | false =>
   exact zz_no
/-! TaskDeskLaw.law([I)Z -/
def wl_23 (d : Nat) (C : kx_C) (J : Nat → kx_F) : kx_F := (kx_li 4 (kx_la 0 (kx_len 98 (kx_c (kx_i 5) (kx_ii (fun x y => x - y) (kx_cgt (kx_c (kx_i 1) kx_rz) (kx_la 0 (kx_li 4 (wx_aI 98 (kx_c (kx_i 31) (kx_ii (fun x y => x &&& y) (kx_sw [(0, (kx_la 1 (kx_la 3 (kx_Si C 152 [2, 102] (kx_si 5 (kx_la 2 (kx_Vi C 120 9 [] (kx_si 6 (kx_la 2 (kx_Vi C 89 9 [] (kx_li 5 (kx_ceq (kx_li 5 (kx_ifne (kx_nm [0, 1, 2, 3, 4] (J 189)) (kx_la 3 (kx_c (kx_i 0) (wx_aL 100 (kx_li 6 (kx_i2l (kx_lcmp (kx_ifeq (kx_nm [0, 1, 2, 3, 4] (J 189)) (kx_c (kx_i 0) kx_rz)))))))))) (kx_c (kx_i 0) kx_rz))))))))))))), (1, (kx_la 1 (kx_la 3 (kx_Si C 153 [2, 102] (kx_si 5 (kx_la 2 (kx_Vi C 121 9 [] (kx_si 6 (kx_la 2 (kx_Vi C 89 9 [] (kx_li 5 (kx_ceq (kx_li 5 (kx_ifne (kx_nm [0, 1, 2, 3, 4] (J 233)) (kx_la 3 (kx_c (kx_i 0) (wx_aL 100 (kx_li 6 (kx_i2l (kx_lcmp (kx_ifeq (kx_nm [0, 1, 2, 3, 4] (J 233)) (kx_c (kx_i 0) kx_rz)))))))))) (kx_c (kx_i 0) kx_rz))))))))))))), (2, (kx_la 1 (kx_la 3 (kx_Si C 154 [2, 102] (kx_si 5 (kx_la 2 (kx_Vi C 122 9 [] (kx_si 6 (kx_la 2 (kx_Vi C 89 9 [] (kx_li 5 (kx_ceq (kx_li 5 (kx_ifne (kx_nm [0, 1, 2, 3, 4] (J 277)) (kx_la 3 (kx_c (kx_i 0) (wx_aL 100 (kx_li 6 (kx_i2l (kx_lcmp (kx_ifeq (kx_nm [0, 1, 2, 3, 4] (J 277)) (kx_c (kx_i 0) kx_rz)))))))))) (kx_c (kx_i 0) kx_rz))))))))))))), (3, (kx_la 1 (kx_la 0 (kx_li 4 (kx_c (kx_i 1) (kx_ii (fun x y => x + y) (wx_aI 98 (kx_i2l (kx_c (kx_i 32) (kx_ji (fun x y => x <<< (y.toInt64 &&& 63)) (kx_la 0 (kx_li 4 (kx_c (kx_i 2) (kx_ii (fun x y => x + y) (wx_aI 98 (kx_i2l (kx_c (kx_l 4294967295) (kx_jj (fun x y => x &&& y) (kx_jj (fun x y => x ||| y) (kx_la 3 (kx_Si C 155 [2, 1, 102] (kx_si 5 (kx_la 2 (kx_la 0 (kx_li 4 (kx_c (kx_i 1) (kx_ii (fun x y => x + y) (wx_aI 98 (kx_i2l (kx_c (kx_i 32) (kx_ji (fun x y => x <<< (y.toInt64 &&& 63)) (kx_la 0 (kx_li 4 (kx_c (kx_i 2) (kx_ii (fun x y => x + y) (wx_aI 98 (kx_i2l (kx_c (kx_l 4294967295) (kx_jj (fun x y => x &&& y) (kx_jj (fun x y => x ||| y) (kx_Vi C 123 9 [1] (kx_si 6 (kx_la 2 (kx_Vi C 89 9 [] (kx_li 5 (kx_ceq (kx_li 5 (kx_ifne (kx_nm [0, 1, 2, 3, 4] (J 365)) (kx_la 3 (kx_c (kx_i 0) (wx_aL 100 (kx_li 6 (kx_i2l (kx_lcmp (kx_ifeq (kx_nm [0, 1, 2, 3, 4] (J 365)) (kx_c (kx_i 0) kx_rz)))))))))) (kx_c (kx_i 0) kx_rz))))))))))))))))))))))))))))))))))))))))))))))), (4, (kx_la 1 (kx_la 0 (kx_li 4 (kx_c (kx_i 1) (kx_ii (fun x y => x + y) (wx_aI 98 (kx_la 3 (kx_Si C 156 [2, 0, 102] (kx_si 5 (kx_la 2 (kx_la 0 (kx_li 4 (kx_c (kx_i 1) (kx_ii (fun x y => x + y) (wx_aI 98 (kx_Vi C 90 9 [0] (kx_si 6 (kx_la 2 (kx_Vi C 89 9 [] (kx_li 5 (kx_ceq (kx_li 5 (kx_ifne (kx_nm [0, 1, 2, 3, 4] (J 421)) (kx_la 3 (kx_c (kx_i 0) (wx_aL 100 (kx_li 6 (kx_i2l (kx_lcmp (kx_ifeq (kx_nm [0, 1, 2, 3, 4] (J 421)) (kx_c (kx_i 0) kx_rz)))))))))) (kx_c (kx_i 0) kx_rz))))))))))))))))))))))), (5, (kx_la 1 (kx_la 0 (kx_li 4 (kx_c (kx_i 1) (kx_ii (fun x y => x + y) (wx_aI 98 (kx_Vi C 13 0 [0] (kx_la 2 (kx_la 0 (kx_li 4 (kx_c (kx_i 1) (kx_ii (fun x y => x + y) (wx_aI 98 (kx_Vi C 92 9 [0] (kx_ceq (kx_nm [0, 1, 2, 3, 4] (J 1543)) (kx_c (kx_i 0) kx_rz))))))))))))))))), (6, (kx_la 1 (kx_la 0 (kx_li 4 (kx_c (kx_i 1) (kx_ii (fun x y => x + y) (wx_aI 98 (kx_la 0 (kx_li 4 (kx_c (kx_i 2) (kx_ii (fun x y => x + y) (wx_aI 98 (kx_i2l (kx_c (kx_i 32) (kx_ji (fun x y => x <<< (y.toInt64 &&& 63)) (kx_la 0 (kx_li 4 (kx_c (kx_i 3) (kx_ii (fun x y => x + y) (wx_aI 98 (kx_i2l (kx_c (kx_l 4294967295) (kx_jj (fun x y => x &&& y) (kx_jj (fun x y => x ||| y) (kx_Si C 157 [2, 0, 1] (kx_si 5 (kx_la 2 (kx_la 0 (kx_li 4 (kx_c (kx_i 1) (kx_ii (fun x y => x + y) (wx_aI 98 (kx_la 0 (kx_li 4 (kx_c (kx_i 2) (kx_ii (fun x y => x + y) (wx_aI 98 (kx_i2l (kx_c (kx_i 32) (kx_ji (fun x y => x <<< (y.toInt64 &&& 63)) (kx_la 0 (kx_li 4 (kx_c (kx_i 3) (kx_ii (fun x y => x + y) (wx_aI 98 (kx_i2l (kx_c (kx_l 4294967295) (kx_jj (fun x y => x &&& y) (kx_jj (fun x y => x ||| y) (kx_Vv C 97 9 [0, 1] (kx_la 2 (kx_Vi C 89 9 [] (kx_li 5 (kx_ceq (kx_nm [0, 1, 2, 3, 4] (J 1543)) (kx_c (kx_i 0) kx_rz))))))))))))))))))))))))))))))))))))))))))))))))))))))), (7, (kx_la 1 (kx_la 0 (kx_li 4 (kx_c (kx_i 1) (kx_ii (fun x y => x + y) (wx_aI 98 (kx_la 0 (kx_li 4 (kx_c (kx_i 2) (kx_ii (fun x y => x + y) (wx_aI 98 (kx_i2l (kx_c (kx_i 32) (kx_ji (fun x y => x <<< (y.toInt64 &&& 63)) (kx_la 0 (kx_li 4 (kx_c (kx_i 3) (kx_ii (fun x y => x + y) (wx_aI 98 (kx_i2l (kx_c (kx_l 4294967295) (kx_jj (fun x y => x &&& y) (kx_jj (fun x y => x ||| y) (kx_la 3 (kx_Si C 158 [2, 0, 1, 102] (kx_si 5 (kx_la 2 (kx_la 0 (kx_li 4 (kx_c (kx_i 1) (kx_ii (fun x y => x + y) (wx_aI 98 (kx_la 0 (kx_li 4 (kx_c (kx_i 2) (kx_ii (fun x y => x + y) (wx_aI 98 (kx_i2l (kx_c (kx_i 32) (kx_ji (fun x y => x <<< (y.toInt64 &&& 63)) (kx_la 0 (kx_li 4 (kx_c (kx_i 3) (kx_ii (fun x y => x + y) (wx_aI 98 (kx_i2l (kx_c (kx_l 4294967295) (kx_jj (fun x y => x &&& y) (kx_jj (fun x y => x ||| y) (kx_Vi C 98 9 [0, 1] (kx_si 6 (kx_la 2 (kx_Vi C 89 9 [] (kx_li 5 (kx_ceq (kx_li 5 (kx_ifne (kx_nm [0, 1, 2, 3, 4] (J 633)) (kx_la 3 (kx_c (kx_i 0) (wx_aL 100 (kx_li 6 (kx_ifeq (kx_c (kx_l 0) (kx_nm [0, 1, 2, 3, 4] (J 627))) (kx_c (kx_l 1) (kx_nm [0, 1, 2, 3, 4] (J 627)))))))))) (kx_c (kx_i 0) kx_rz))))))))))))))))))))))))))))))))))))))))))))))))))))))))), (8, (kx_la 1 (kx_la 0 (kx_li 4 (kx_c (kx_i 1) (kx_ii (fun x y => x + y) (wx_aI 98 (kx_la 3 (kx_Si C 159 [2, 0, 102] (kx_si 5 (kx_la 2 (kx_la 0 (kx_li 4 (kx_c (kx_i 1) (kx_ii (fun x y => x + y) (wx_aI 98 (kx_Vi C 112 9 [0] (kx_si 6 (kx_la 2 (kx_Vi C 89 9 [] (kx_li 5 (kx_ceq (kx_li 5 (kx_ifne (kx_nm [0, 1, 2, 3, 4] (J 696)) (kx_la 3 (kx_c (kx_i 0) (wx_aL 100 (kx_li 6 (kx_ifeq (kx_c (kx_l 0) (kx_nm [0, 1, 2, 3, 4] (J 690))) (kx_c (kx_l 1) (kx_nm [0, 1, 2, 3, 4] (J 690)))))))))) (kx_c (kx_i 0) kx_rz))))))))))))))))))))))), (9, (kx_la 1 (kx_la 0 (kx_li 4 (kx_c (kx_i 1) (kx_ii (fun x y => x + y) (wx_aI 98 (kx_Si C 160 [2, 0] (kx_si 5 (kx_la 2 (kx_la 0 (kx_li 4 (kx_c (kx_i 1) (kx_ii (fun x y => x + y) (wx_aI 98 (kx_Vv C 115 9 [0] (kx_la 2 (kx_Vi C 89 9 [] (kx_li 5 (kx_ceq (kx_nm [0, 1, 2, 3, 4] (J 1543)) (kx_c (kx_i 0) kx_rz))))))))))))))))))))), (10, (kx_la 1 (kx_la 0 (kx_li 4 (kx_c (kx_i 1) (kx_ii (fun x y => x + y) (wx_aI 98 (kx_la 0 (kx_li 4 (kx_c (kx_i 2) (kx_ii (fun x y => x + y) (wx_aI 98 (kx_ifeq (kx_c (kx_i 0) (kx_nm [0, 1, 2, 3, 4] (J 756))) (kx_c (kx_i 1) (kx_nm [0, 1, 2, 3, 4] (J 756)))))))))))))))), (11, (kx_la 1 (kx_la 0 (kx_li 4 (kx_c (kx_i 1) (kx_ii (fun x y => x + y) (wx_aI 98 (kx_la 0 (kx_li 4 (kx_c (kx_i 2) (kx_ii (fun x y => x + y) (wx_aI 98 (kx_ifeq (kx_c (kx_i 0) (kx_nm [0, 1, 2, 3, 4] (J 884))) (kx_c (kx_i 1) (kx_nm [0, 1, 2, 3, 4] (J 884)))))))))))))))), (12, (kx_la 1 (kx_la 0 (kx_li 4 (kx_c (kx_i 1) (kx_ii (fun x y => x + y) (wx_aI 98 (kx_la 0 (kx_li 4 (kx_c (kx_i 2) (kx_ii (fun x y => x + y) (wx_aI 98 (kx_la 3 (kx_Si C 163 [2, 0, 0, 102] (kx_si 5 (kx_la 2 (kx_la 0 (kx_li 4 (kx_c (kx_i 1) (kx_ii (fun x y => x + y) (wx_aI 98 (kx_la 0 (kx_li 4 (kx_c (kx_i 2) (kx_ii (fun x y => x + y) (wx_aI 98 (kx_Vi C 124 9 [0, 0] (kx_si 6 (kx_la 2 (kx_Vi C 89 9 [] (kx_li 5 (kx_ceq (kx_li 5 (kx_ifne (kx_nm [0, 1, 2, 3, 4] (J 1019)) (kx_la 3 (kx_c (kx_i 0) (wx_aL 100 (kx_li 6 (kx_i2l (kx_lcmp (kx_ifeq (kx_nm [0, 1, 2, 3, 4] (J 1019)) (kx_c (kx_i 0) kx_rz)))))))))) (kx_c (kx_i 0) kx_rz))))))))))))))))))))))))))))))))), (13, (kx_la 1 (kx_la 0 (kx_li 4 (kx_c (kx_i 1) (kx_ii (fun x y => x + y) (wx_aI 98 (kx_la 3 (kx_Si C 164 [2, 0, 102] (kx_si 5 (kx_la 2 (kx_la 0 (kx_li 4 (kx_c (kx_i 1) (kx_ii (fun x y => x + y) (wx_aI 98 (kx_Vi C 126 9 [0] (kx_si 6 (kx_la 2 (kx_Vi C 89 9 [] (kx_li 5 (kx_ceq (kx_li 5 (kx_ifne (kx_nm [0, 1, 2, 3, 4] (J 1082)) (kx_la 3 (kx_c (kx_i 0) (wx_aL 100 (kx_li 6 (kx_ifeq (kx_c (kx_l 0) (kx_nm [0, 1, 2, 3, 4] (J 1076))) (kx_c (kx_l 1) (kx_nm [0, 1, 2, 3, 4] (J 1076)))))))))) (kx_c (kx_i 0) kx_rz))))))))))))))))))))))), (14, (kx_la 1 (kx_la 0 (kx_li 4 (kx_c (kx_i 1) (kx_ii (fun x y => x + y) (wx_aI 98 (kx_la 3 (kx_Si C 165 [2, 0, 102] (kx_si 5 (kx_la 2 (kx_la 0 (kx_li 4 (kx_c (kx_i 1) (kx_ii (fun x y => x + y) (wx_aI 98 (kx_Vi C 133 9 [0] (kx_si 6 (kx_la 2 (kx_Vi C 89 9 [] (kx_li 5 (kx_ceq (kx_li 5 (kx_ifne (kx_nm [0, 1, 2, 3, 4] (J 1145)) (kx_la 3 (kx_c (kx_i 0) (wx_aL 100 (kx_li 6 (kx_ifeq (kx_c (kx_l 0) (kx_nm [0, 1, 2, 3, 4] (J 1139))) (kx_c (kx_l 1) (kx_nm [0, 1, 2, 3, 4] (J 1139)))))))))) (kx_c (kx_i 0) kx_rz))))))))))))))))))))))), (15, (kx_la 1 (kx_la 0 (kx_li 4 (kx_c (kx_i 1) (kx_ii (fun x y => x + y) (wx_aI 98 (kx_Si C 166 [2, 0] (kx_si 5 (kx_la 2 (kx_la 0 (kx_li 4 (kx_c (kx_i 1) (kx_ii (fun x y => x + y) (wx_aI 98 (kx_Vv C 134 9 [0] (kx_la 2 (kx_Vi C 89 9 [] (kx_li 5 (kx_ceq (kx_nm [0, 1, 2, 3, 4] (J 1543)) (kx_c (kx_i 0) kx_rz))))))))))))))))))))), (16, (kx_la 1 (kx_la 0 (kx_li 4 (kx_c (kx_i 1) (kx_ii (fun x y => x + y) (wx_aI 98 (kx_la 0 (kx_li 4 (kx_c (kx_i 2) (kx_ii (fun x y => x + y) (wx_aI 98 (kx_Si C 167 [2, 0, 0] (kx_si 5 (kx_la 2 (kx_la 0 (kx_li 4 (kx_c (kx_i 1) (kx_ii (fun x y => x + y) (wx_aI 98 (kx_la 0 (kx_li 4 (kx_c (kx_i 2) (kx_ii (fun x y => x + y) (wx_aI 98 (kx_Vv C 140 9 [0, 0] (kx_la 2 (kx_Vi C 89 9 [] (kx_li 5 (kx_ceq (kx_nm [0, 1, 2, 3, 4] (J 1543)) (kx_c (kx_i 0) kx_rz))))))))))))))))))))))))))))))), (17, (kx_la 1 (kx_Vi C 19 0 [] (kx_la 2 (kx_Vi C 142 9 [] (kx_ceq (kx_nm [0, 1, 2, 3, 4] (J 1543)) (kx_c (kx_i 0) kx_rz))))))), (18, (kx_la 1 (kx_la 0 (kx_li 4 (kx_c (kx_i 1) (kx_ii (fun x y => x + y) (wx_aI 98 (kx_la 0 (kx_li 4 (kx_c (kx_i 2) (kx_ii (fun x y => x + y) (wx_aI 98 (kx_la 3 (kx_Si C 168 [2, 0, 0, 102] (kx_si 5 (kx_la 2 (kx_la 0 (kx_li 4 (kx_c (kx_i 1) (kx_ii (fun x y => x + y) (wx_aI 98 (kx_la 0 (kx_li 4 (kx_c (kx_i 2) (kx_ii (fun x y => x + y) (wx_aI 98 (kx_Vi C 143 9 [0, 0] (kx_si 6 (kx_la 2 (kx_Vi C 89 9 [] (kx_li 5 (kx_ceq (kx_li 5 (kx_ifne (kx_nm [0, 1, 2, 3, 4] (J 1310)) (kx_la 3 (kx_c (kx_i 0) (wx_aL 100 (kx_li 6 (kx_i2l (kx_lcmp (kx_ifeq (kx_nm [0, 1, 2, 3, 4] (J 1310)) (kx_c (kx_i 0) kx_rz)))))))))) (kx_c (kx_i 0) kx_rz))))))))))))))))))))))))))))))))), (19, (kx_la 1 (kx_la 0 (kx_li 4 (kx_c (kx_i 1) (kx_ii (fun x y => x + y) (wx_aI 98 (kx_la 3 (kx_Si C 169 [2, 0, 102] (kx_si 5 (kx_la 2 (kx_la 0 (kx_li 4 (kx_c (kx_i 1) (kx_ii (fun x y => x + y) (wx_aI 98 (kx_Vl C 145 9 [0] (kx_sl 6 (kx_la 2 (kx_Vi C 89 9 [] (kx_li 5 (kx_ceq (kx_li 5 (kx_ifne (kx_nm [0, 1, 2, 3, 4] (J 1365)) (kx_la 3 (kx_c (kx_i 0) (wx_aL 100 (kx_ll 6 (kx_lcmp (kx_ifeq (kx_nm [0, 1, 2, 3, 4] (J 1365)) (kx_c (kx_i 0) kx_rz))))))))) (kx_c (kx_i 0) kx_rz))))))))))))))))))))))), (20, (kx_la 1 (kx_la 0 (kx_li 4 (kx_c (kx_i 1) (kx_ii (fun x y => x + y) (wx_aI 98 (kx_la 0 (kx_li 4 (kx_c (kx_i 2) (kx_ii (fun x y => x + y) (wx_aI 98 (kx_la 3 (kx_Si C 170 [2, 0, 0, 102] (kx_si 5 (kx_la 2 (kx_la 0 (kx_li 4 (kx_c (kx_i 1) (kx_ii (fun x y => x + y) (wx_aI 98 (kx_la 0 (kx_li 4 (kx_c (kx_i 2) (kx_ii (fun x y => x + y) (wx_aI 98 (kx_Vi C 146 9 [0, 0] (kx_si 6 (kx_la 2 (kx_Vi C 89 9 [] (kx_li 5 (kx_ceq (kx_li 5 (kx_ifne (kx_nm [0, 1, 2, 3, 4] (J 1433)) (kx_la 3 (kx_c (kx_i 0) (wx_aL 100 (kx_li 6 (kx_i2l (kx_lcmp (kx_ifeq (kx_nm [0, 1, 2, 3, 4] (J 1433)) (kx_c (kx_i 0) kx_rz)))))))))) (kx_c (kx_i 0) kx_rz))))))))))))))))))))))))))))))))), (21, (kx_la 1 (kx_la 0 (kx_li 4 (kx_c (kx_i 1) (kx_ii (fun x y => x + y) (wx_aI 98 (kx_la 0 (kx_li 4 (kx_c (kx_i 2) (kx_ii (fun x y => x + y) (wx_aI 98 (kx_la 3 (kx_Si C 171 [2, 0, 0, 102] (kx_si 5 (kx_la 2 (kx_la 0 (kx_li 4 (kx_c (kx_i 1) (kx_ii (fun x y => x + y) (wx_aI 98 (kx_la 0 (kx_li 4 (kx_c (kx_i 2) (kx_ii (fun x y => x + y) (wx_aI 98 (kx_Vi C 147 9 [0, 0] (kx_si 6 (kx_la 2 (kx_Vi C 89 9 [] (kx_li 5 (kx_ceq (kx_li 5 (kx_ifne (kx_nm [0, 1, 2, 3, 4] (J 1501)) (kx_la 3 (kx_c (kx_i 0) (wx_aL 100 (kx_li 6 (kx_i2l (kx_lcmp (kx_ifeq (kx_nm [0, 1, 2, 3, 4] (J 1501)) (kx_c (kx_i 0) kx_rz)))))))))) (kx_c (kx_i 0) kx_rz))))))))))))))))))))))))))))))))), (22, (kx_la 1 (kx_Vl C 20 0 [] (kx_la 2 (kx_Vl C 148 9 [] (kx_lcmp (kx_ifeq (kx_nm [0, 1, 2, 3, 4] (J 1543)) (kx_c (kx_i 0) kx_rz)))))))), (23, (kx_la 1 (kx_la 0 (kx_li 4 (kx_c (kx_i 1) (kx_ii (fun x y => x + y) (wx_aI 98 (kx_Vi C 21 0 [0] (kx_la 2 (kx_la 0 (kx_li 4 (kx_c (kx_i 1) (kx_ii (fun x y => x + y) (wx_aI 98 (kx_Vi C 149 9 [0] (kx_ceq (kx_nm [0, 1, 2, 3, 4] (J 1543)) (kx_c (kx_i 0) kx_rz)))))))))))))))))] (kx_nm [0, 1, 2, 3, 4] (J 1543))))))))))))))
def wl_189 (d : Nat) (C : kx_C) (J : Nat → kx_F) : kx_F := (kx_nm [0, 1, 2, 3, 4] (J 1543))
def wl_233 (d : Nat) (C : kx_C) (J : Nat → kx_F) : kx_F := (kx_nm [0, 1, 2, 3, 4] (J 1543))
def wl_277 (d : Nat) (C : kx_C) (J : Nat → kx_F) : kx_F := (kx_nm [0, 1, 2, 3, 4] (J 1543))
def wl_365 (d : Nat) (C : kx_C) (J : Nat → kx_F) : kx_F := (kx_nm [0, 1, 2, 3, 4] (J 1543))
def wl_421 (d : Nat) (C : kx_C) (J : Nat → kx_F) : kx_F := (kx_nm [0, 1, 2, 3, 4] (J 1543))
def wl_627 (d : Nat) (C : kx_C) (J : Nat → kx_F) : kx_F := (kx_lcmp (kx_ifeq (kx_nm [0, 1, 2, 3, 4] (J 633)) (kx_c (kx_i 0) kx_rz)))
def wl_633 (d : Nat) (C : kx_C) (J : Nat → kx_F) : kx_F := (kx_nm [0, 1, 2, 3, 4] (J 1543))
def wl_690 (d : Nat) (C : kx_C) (J : Nat → kx_F) : kx_F := (kx_lcmp (kx_ifeq (kx_nm [0, 1, 2, 3, 4] (J 696)) (kx_c (kx_i 0) kx_rz)))
def wl_696 (d : Nat) (C : kx_C) (J : Nat → kx_F) : kx_F := (kx_nm [0, 1, 2, 3, 4] (J 1543))
def wl_756 (d : Nat) (C : kx_C) (J : Nat → kx_F) : kx_F := (kx_la 0 (kx_li 4 (kx_c (kx_i 3) (kx_ii (fun x y => x + y) (wx_aI 98 (kx_i2l (kx_c (kx_i 32) (kx_ji (fun x y => x <<< (y.toInt64 &&& 63)) (kx_la 0 (kx_li 4 (kx_c (kx_i 4) (kx_ii (fun x y => x + y) (wx_aI 98 (kx_i2l (kx_c (kx_l 4294967295) (kx_jj (fun x y => x &&& y) (kx_jj (fun x y => x ||| y) (kx_la 3 (kx_Si C 161 [2, 0, 0, 1, 102] (kx_si 5 (kx_la 2 (kx_la 0 (kx_li 4 (kx_c (kx_i 1) (kx_ii (fun x y => x + y) (wx_aI 98 (kx_la 0 (kx_li 4 (kx_c (kx_i 2) (kx_ii (fun x y => x + y) (wx_aI 98 (kx_ifeq (kx_c (kx_i 0) (kx_nm [0, 1, 2, 3, 4, 5] (J 805))) (kx_c (kx_i 1) (kx_nm [0, 1, 2, 3, 4, 5] (J 805)))))))))))))))))))))))))))))))))))
def wl_805 (d : Nat) (C : kx_C) (J : Nat → kx_F) : kx_F := (kx_la 0 (kx_li 4 (kx_c (kx_i 3) (kx_ii (fun x y => x + y) (wx_aI 98 (kx_i2l (kx_c (kx_i 32) (kx_ji (fun x y => x <<< (y.toInt64 &&& 63)) (kx_la 0 (kx_li 4 (kx_c (kx_i 4) (kx_ii (fun x y => x + y) (wx_aI 98 (kx_i2l (kx_c (kx_l 4294967295) (kx_jj (fun x y => x &&& y) (kx_jj (fun x y => x ||| y) (kx_Vi C 116 9 [0, 0, 1] (kx_si 6 (kx_la 2 (kx_Vi C 89 9 [] (kx_li 5 (kx_ceq (kx_li 5 (kx_ifne (kx_nm [0, 1, 2, 3, 4] (J 860)) (kx_la 3 (kx_c (kx_i 0) (wx_aL 100 (kx_li 6 (kx_i2l (kx_lcmp (kx_ifeq (kx_nm [0, 1, 2, 3, 4] (J 860)) (kx_c (kx_i 0) kx_rz)))))))))) (kx_c (kx_i 0) kx_rz))))))))))))))))))))))))
def wl_860 (d : Nat) (C : kx_C) (J : Nat → kx_F) : kx_F := (kx_nm [0, 1, 2, 3, 4] (J 1543))
def wl_884 (d : Nat) (C : kx_C) (J : Nat → kx_F) : kx_F := (kx_la 3 (kx_Si C 162 [2, 0, 0, 102] (kx_si 5 (kx_la 2 (kx_la 0 (kx_li 4 (kx_c (kx_i 1) (kx_ii (fun x y => x + y) (wx_aI 98 (kx_la 0 (kx_li 4 (kx_c (kx_i 2) (kx_ii (fun x y => x + y) (wx_aI 98 (kx_ifeq (kx_c (kx_i 0) (kx_nm [0, 1, 2, 3, 4, 5] (J 911))) (kx_c (kx_i 1) (kx_nm [0, 1, 2, 3, 4, 5] (J 911))))))))))))))))))
def wl_911 (d : Nat) (C : kx_C) (J : Nat → kx_F) : kx_F := (kx_Vi C 117 9 [0, 0] (kx_si 6 (kx_la 2 (kx_Vi C 89 9 [] (kx_li 5 (kx_ceq (kx_li 5 (kx_ifne (kx_nm [0, 1, 2, 3, 4] (J 951)) (kx_la 3 (kx_c (kx_i 0) (wx_aL 100 (kx_li 6 (kx_ifeq (kx_c (kx_l 0) (kx_nm [0, 1, 2, 3, 4] (J 945))) (kx_c (kx_l 1) (kx_nm [0, 1, 2, 3, 4] (J 945)))))))))) (kx_c (kx_i 0) kx_rz)))))))
def wl_945 (d : Nat) (C : kx_C) (J : Nat → kx_F) : kx_F := (kx_lcmp (kx_ifeq (kx_nm [0, 1, 2, 3, 4] (J 951)) (kx_c (kx_i 0) kx_rz)))
def wl_951 (d : Nat) (C : kx_C) (J : Nat → kx_F) : kx_F := (kx_nm [0, 1, 2, 3, 4] (J 1543))
def wl_1019 (d : Nat) (C : kx_C) (J : Nat → kx_F) : kx_F := (kx_nm [0, 1, 2, 3, 4] (J 1543))
def wl_1076 (d : Nat) (C : kx_C) (J : Nat → kx_F) : kx_F := (kx_lcmp (kx_ifeq (kx_nm [0, 1, 2, 3, 4] (J 1082)) (kx_c (kx_i 0) kx_rz)))
def wl_1082 (d : Nat) (C : kx_C) (J : Nat → kx_F) : kx_F := (kx_nm [0, 1, 2, 3, 4] (J 1543))
def wl_1139 (d : Nat) (C : kx_C) (J : Nat → kx_F) : kx_F := (kx_lcmp (kx_ifeq (kx_nm [0, 1, 2, 3, 4] (J 1145)) (kx_c (kx_i 0) kx_rz)))
def wl_1145 (d : Nat) (C : kx_C) (J : Nat → kx_F) : kx_F := (kx_nm [0, 1, 2, 3, 4] (J 1543))
def wl_1310 (d : Nat) (C : kx_C) (J : Nat → kx_F) : kx_F := (kx_nm [0, 1, 2, 3, 4] (J 1543))
def wl_1365 (d : Nat) (C : kx_C) (J : Nat → kx_F) : kx_F := (kx_nm [0, 1, 2, 3, 4] (J 1543))
def wl_1433 (d : Nat) (C : kx_C) (J : Nat → kx_F) : kx_F := (kx_nm [0, 1, 2, 3, 4] (J 1543))
def wl_1501 (d : Nat) (C : kx_C) (J : Nat → kx_F) : kx_F := (kx_nm [0, 1, 2, 3, 4] (J 1543))
def wl_1543 (d : Nat) (C : kx_C) (J : Nat → kx_F) : kx_F := (kx_inc 4 5 (kx_nm [0, 1, 2, 3, 4] (J 23)))
def wl_m (d : Nat) (C : kx_C) (b : Nat) (J : Nat → kx_F) : kx_F := bif Nat.beq b 0 then fun _ _ _ => none else bif Nat.beq b 23 then wl_23 d C J else bif Nat.beq b 189 then wl_189 d C J else bif Nat.beq b 233 then wl_233 d C J else bif Nat.beq b 277 then wl_277 d C J else bif Nat.beq b 365 then wl_365 d C J else bif Nat.beq b 421 then wl_421 d C J else bif Nat.beq b 627 then wl_627 d C J else bif Nat.beq b 633 then wl_633 d C J else bif Nat.beq b 690 then wl_690 d C J else bif Nat.beq b 696 then wl_696 d C J else bif Nat.beq b 756 then wl_756 d C J else bif Nat.beq b 805 then wl_805 d C J else bif Nat.beq b 860 then wl_860 d C J else bif Nat.beq b 884 then wl_884 d C J else bif Nat.beq b 911 then wl_911 d C J else bif Nat.beq b 945 then wl_945 d C J else bif Nat.beq b 951 then wl_951 d C J else bif Nat.beq b 1019 then wl_1019 d C J else bif Nat.beq b 1076 then wl_1076 d C J else bif Nat.beq b 1082 then wl_1082 d C J else bif Nat.beq b 1139 then wl_1139 d C J else bif Nat.beq b 1145 then wl_1145 d C J else bif Nat.beq b 1310 then wl_1310 d C J else bif Nat.beq b 1365 then wl_1365 d C J else bif Nat.beq b 1433 then wl_1433 d C J else bif Nat.beq b 1501 then wl_1501 d C J else bif Nat.beq b 1543 then wl_1543 d C J else fun _ _ _ => none
theorem zl_23 (CS : kZC T C C') (JS : ∀ b, kZ T (J b) (J' b)) : kZ T (bl_23 d C J) (wl_23 d C' J') := (zz_li (zz_la (zz_len (zz_ci (zz_ii (zz_cgt (zz_ci zz_rz) (zz_la (zz_li (zz_aI (by decide) (zz_ci (zz_ii (zz_sw ⟨rfl, (zz_la (zz_la (zz_Si CS (zz_si (zz_la (zz_Vi CS (zz_si (zz_la (zz_Vi CS (zz_li (zz_ceq (zz_li (zz_ifne (zz_nm (JS 189)) (zz_la (zz_ci (zz_aL (by decide) (zz_li (zz_i2l (zz_lcmp (zz_ifeq (zz_nm (JS 189)) (zz_ci zz_rz)))))))))) (zz_ci zz_rz)))))))))))), ⟨rfl, (zz_la (zz_la (zz_Si CS (zz_si (zz_la (zz_Vi CS (zz_si (zz_la (zz_Vi CS (zz_li (zz_ceq (zz_li (zz_ifne (zz_nm (JS 233)) (zz_la (zz_ci (zz_aL (by decide) (zz_li (zz_i2l (zz_lcmp (zz_ifeq (zz_nm (JS 233)) (zz_ci zz_rz)))))))))) (zz_ci zz_rz)))))))))))), ⟨rfl, (zz_la (zz_la (zz_Si CS (zz_si (zz_la (zz_Vi CS (zz_si (zz_la (zz_Vi CS (zz_li (zz_ceq (zz_li (zz_ifne (zz_nm (JS 277)) (zz_la (zz_ci (zz_aL (by decide) (zz_li (zz_i2l (zz_lcmp (zz_ifeq (zz_nm (JS 277)) (zz_ci zz_rz)))))))))) (zz_ci zz_rz)))))))))))), ⟨rfl, (zz_la (zz_la (zz_li (zz_ci (zz_ii (zz_aI (by decide) (zz_i2l (zz_ci (zz_ji (zz_la (zz_li (zz_ci (zz_ii (zz_aI (by decide) (zz_i2l (zz_cl (zz_jj (zz_jj (zz_la (zz_Si CS (zz_si (zz_la (zz_la (zz_li (zz_ci (zz_ii (zz_aI (by decide) (zz_i2l (zz_ci (zz_ji (zz_la (zz_li (zz_ci (zz_ii (zz_aI (by decide) (zz_i2l (zz_cl (zz_jj (zz_jj (zz_Vi CS (zz_si (zz_la (zz_Vi CS (zz_li (zz_ceq (zz_li (zz_ifne (zz_nm (JS 365)) (zz_la (zz_ci (zz_aL (by decide) (zz_li (zz_i2l (zz_lcmp (zz_ifeq (zz_nm (JS 365)) (zz_ci zz_rz)))))))))) (zz_ci zz_rz)))))))))))))))))))))))))))))))))))))))))))))), ⟨rfl, (zz_la (zz_la (zz_li (zz_ci (zz_ii (zz_aI (by decide) (zz_la (zz_Si CS (zz_si (zz_la (zz_la (zz_li (zz_ci (zz_ii (zz_aI (by decide) (zz_Vi CS (zz_si (zz_la (zz_Vi CS (zz_li (zz_ceq (zz_li (zz_ifne (zz_nm (JS 421)) (zz_la (zz_ci (zz_aL (by decide) (zz_li (zz_i2l (zz_lcmp (zz_ifeq (zz_nm (JS 421)) (zz_ci zz_rz)))))))))) (zz_ci zz_rz)))))))))))))))))))))), ⟨rfl, (zz_la (zz_la (zz_li (zz_ci (zz_ii (zz_aI (by decide) (zz_Vi CS (zz_la (zz_la (zz_li (zz_ci (zz_ii (zz_aI (by decide) (zz_Vi CS (zz_ceq (zz_nm (JS 1543)) (zz_ci zz_rz)))))))))))))))), ⟨rfl, (zz_la (zz_la (zz_li (zz_ci (zz_ii (zz_aI (by decide) (zz_la (zz_li (zz_ci (zz_ii (zz_aI (by decide) (zz_i2l (zz_ci (zz_ji (zz_la (zz_li (zz_ci (zz_ii (zz_aI (by decide) (zz_i2l (zz_cl (zz_jj (zz_jj (zz_Si CS (zz_si (zz_la (zz_la (zz_li (zz_ci (zz_ii (zz_aI (by decide) (zz_la (zz_li (zz_ci (zz_ii (zz_aI (by decide) (zz_i2l (zz_ci (zz_ji (zz_la (zz_li (zz_ci (zz_ii (zz_aI (by decide) (zz_i2l (zz_cl (zz_jj (zz_jj (zz_Vv CS (zz_la (zz_Vi CS (zz_li (zz_ceq (zz_nm (JS 1543)) (zz_ci zz_rz)))))))))))))))))))))))))))))))))))))))))))))))))))))), ⟨rfl, (zz_la (zz_la (zz_li (zz_ci (zz_ii (zz_aI (by decide) (zz_la (zz_li (zz_ci (zz_ii (zz_aI (by decide) (zz_i2l (zz_ci (zz_ji (zz_la (zz_li (zz_ci (zz_ii (zz_aI (by decide) (zz_i2l (zz_cl (zz_jj (zz_jj (zz_la (zz_Si CS (zz_si (zz_la (zz_la (zz_li (zz_ci (zz_ii (zz_aI (by decide) (zz_la (zz_li (zz_ci (zz_ii (zz_aI (by decide) (zz_i2l (zz_ci (zz_ji (zz_la (zz_li (zz_ci (zz_ii (zz_aI (by decide) (zz_i2l (zz_cl (zz_jj (zz_jj (zz_Vi CS (zz_si (zz_la (zz_Vi CS (zz_li (zz_ceq (zz_li (zz_ifne (zz_nm (JS 633)) (zz_la (zz_ci (zz_aL (by decide) (zz_li (zz_ifeq (zz_cl (zz_nm (JS 627))) (zz_cl (zz_nm (JS 627)))))))))) (zz_ci zz_rz)))))))))))))))))))))))))))))))))))))))))))))))))))))))), ⟨rfl, (zz_la (zz_la (zz_li (zz_ci (zz_ii (zz_aI (by decide) (zz_la (zz_Si CS (zz_si (zz_la (zz_la (zz_li (zz_ci (zz_ii (zz_aI (by decide) (zz_Vi CS (zz_si (zz_la (zz_Vi CS (zz_li (zz_ceq (zz_li (zz_ifne (zz_nm (JS 696)) (zz_la (zz_ci (zz_aL (by decide) (zz_li (zz_ifeq (zz_cl (zz_nm (JS 690))) (zz_cl (zz_nm (JS 690)))))))))) (zz_ci zz_rz)))))))))))))))))))))), ⟨rfl, (zz_la (zz_la (zz_li (zz_ci (zz_ii (zz_aI (by decide) (zz_Si CS (zz_si (zz_la (zz_la (zz_li (zz_ci (zz_ii (zz_aI (by decide) (zz_Vv CS (zz_la (zz_Vi CS (zz_li (zz_ceq (zz_nm (JS 1543)) (zz_ci zz_rz)))))))))))))))))))), ⟨rfl, (zz_la (zz_la (zz_li (zz_ci (zz_ii (zz_aI (by decide) (zz_la (zz_li (zz_ci (zz_ii (zz_aI (by decide) (zz_ifeq (zz_ci (zz_nm (JS 756))) (zz_ci (zz_nm (JS 756))))))))))))))), ⟨rfl, (zz_la (zz_la (zz_li (zz_ci (zz_ii (zz_aI (by decide) (zz_la (zz_li (zz_ci (zz_ii (zz_aI (by decide) (zz_ifeq (zz_ci (zz_nm (JS 884))) (zz_ci (zz_nm (JS 884))))))))))))))), ⟨rfl, (zz_la (zz_la (zz_li (zz_ci (zz_ii (zz_aI (by decide) (zz_la (zz_li (zz_ci (zz_ii (zz_aI (by decide) (zz_la (zz_Si CS (zz_si (zz_la (zz_la (zz_li (zz_ci (zz_ii (zz_aI (by decide) (zz_la (zz_li (zz_ci (zz_ii (zz_aI (by decide) (zz_Vi CS (zz_si (zz_la (zz_Vi CS (zz_li (zz_ceq (zz_li (zz_ifne (zz_nm (JS 1019)) (zz_la (zz_ci (zz_aL (by decide) (zz_li (zz_i2l (zz_lcmp (zz_ifeq (zz_nm (JS 1019)) (zz_ci zz_rz)))))))))) (zz_ci zz_rz)))))))))))))))))))))))))))))))), ⟨rfl, (zz_la (zz_la (zz_li (zz_ci (zz_ii (zz_aI (by decide) (zz_la (zz_Si CS (zz_si (zz_la (zz_la (zz_li (zz_ci (zz_ii (zz_aI (by decide) (zz_Vi CS (zz_si (zz_la (zz_Vi CS (zz_li (zz_ceq (zz_li (zz_ifne (zz_nm (JS 1082)) (zz_la (zz_ci (zz_aL (by decide) (zz_li (zz_ifeq (zz_cl (zz_nm (JS 1076))) (zz_cl (zz_nm (JS 1076)))))))))) (zz_ci zz_rz)))))))))))))))))))))), ⟨rfl, (zz_la (zz_la (zz_li (zz_ci (zz_ii (zz_aI (by decide) (zz_la (zz_Si CS (zz_si (zz_la (zz_la (zz_li (zz_ci (zz_ii (zz_aI (by decide) (zz_Vi CS (zz_si (zz_la (zz_Vi CS (zz_li (zz_ceq (zz_li (zz_ifne (zz_nm (JS 1145)) (zz_la (zz_ci (zz_aL (by decide) (zz_li (zz_ifeq (zz_cl (zz_nm (JS 1139))) (zz_cl (zz_nm (JS 1139)))))))))) (zz_ci zz_rz)))))))))))))))))))))), ⟨rfl, (zz_la (zz_la (zz_li (zz_ci (zz_ii (zz_aI (by decide) (zz_Si CS (zz_si (zz_la (zz_la (zz_li (zz_ci (zz_ii (zz_aI (by decide) (zz_Vv CS (zz_la (zz_Vi CS (zz_li (zz_ceq (zz_nm (JS 1543)) (zz_ci zz_rz)))))))))))))))))))), ⟨rfl, (zz_la (zz_la (zz_li (zz_ci (zz_ii (zz_aI (by decide) (zz_la (zz_li (zz_ci (zz_ii (zz_aI (by decide) (zz_Si CS (zz_si (zz_la (zz_la (zz_li (zz_ci (zz_ii (zz_aI (by decide) (zz_la (zz_li (zz_ci (zz_ii (zz_aI (by decide) (zz_Vv CS (zz_la (zz_Vi CS (zz_li (zz_ceq (zz_nm (JS 1543)) (zz_ci zz_rz)))))))))))))))))))))))))))))), ⟨rfl, (zz_la (zz_Vi CS (zz_la (zz_Vi CS (zz_ceq (zz_nm (JS 1543)) (zz_ci zz_rz)))))), ⟨rfl, (zz_la (zz_la (zz_li (zz_ci (zz_ii (zz_aI (by decide) (zz_la (zz_li (zz_ci (zz_ii (zz_aI (by decide) (zz_la (zz_Si CS (zz_si (zz_la (zz_la (zz_li (zz_ci (zz_ii (zz_aI (by decide) (zz_la (zz_li (zz_ci (zz_ii (zz_aI (by decide) (zz_Vi CS (zz_si (zz_la (zz_Vi CS (zz_li (zz_ceq (zz_li (zz_ifne (zz_nm (JS 1310)) (zz_la (zz_ci (zz_aL (by decide) (zz_li (zz_i2l (zz_lcmp (zz_ifeq (zz_nm (JS 1310)) (zz_ci zz_rz)))))))))) (zz_ci zz_rz)))))))))))))))))))))))))))))))), ⟨rfl, (zz_la (zz_la (zz_li (zz_ci (zz_ii (zz_aI (by decide) (zz_la (zz_Si CS (zz_si (zz_la (zz_la (zz_li (zz_ci (zz_ii (zz_aI (by decide) (zz_Vl CS (zz_sl (zz_la (zz_Vi CS (zz_li (zz_ceq (zz_li (zz_ifne (zz_nm (JS 1365)) (zz_la (zz_ci (zz_aL (by decide) (zz_ll (zz_lcmp (zz_ifeq (zz_nm (JS 1365)) (zz_ci zz_rz))))))))) (zz_ci zz_rz)))))))))))))))))))))), ⟨rfl, (zz_la (zz_la (zz_li (zz_ci (zz_ii (zz_aI (by decide) (zz_la (zz_li (zz_ci (zz_ii (zz_aI (by decide) (zz_la (zz_Si CS (zz_si (zz_la (zz_la (zz_li (zz_ci (zz_ii (zz_aI (by decide) (zz_la (zz_li (zz_ci (zz_ii (zz_aI (by decide) (zz_Vi CS (zz_si (zz_la (zz_Vi CS (zz_li (zz_ceq (zz_li (zz_ifne (zz_nm (JS 1433)) (zz_la (zz_ci (zz_aL (by decide) (zz_li (zz_i2l (zz_lcmp (zz_ifeq (zz_nm (JS 1433)) (zz_ci zz_rz)))))))))) (zz_ci zz_rz)))))))))))))))))))))))))))))))), ⟨rfl, (zz_la (zz_la (zz_li (zz_ci (zz_ii (zz_aI (by decide) (zz_la (zz_li (zz_ci (zz_ii (zz_aI (by decide) (zz_la (zz_Si CS (zz_si (zz_la (zz_la (zz_li (zz_ci (zz_ii (zz_aI (by decide) (zz_la (zz_li (zz_ci (zz_ii (zz_aI (by decide) (zz_Vi CS (zz_si (zz_la (zz_Vi CS (zz_li (zz_ceq (zz_li (zz_ifne (zz_nm (JS 1501)) (zz_la (zz_ci (zz_aL (by decide) (zz_li (zz_i2l (zz_lcmp (zz_ifeq (zz_nm (JS 1501)) (zz_ci zz_rz)))))))))) (zz_ci zz_rz)))))))))))))))))))))))))))))))), ⟨rfl, (zz_la (zz_Vl CS (zz_la (zz_Vl CS (zz_lcmp (zz_ifeq (zz_nm (JS 1543)) (zz_ci zz_rz))))))), ⟨rfl, (zz_la (zz_la (zz_li (zz_ci (zz_ii (zz_aI (by decide) (zz_Vi CS (zz_la (zz_la (zz_li (zz_ci (zz_ii (zz_aI (by decide) (zz_Vi CS (zz_ceq (zz_nm (JS 1543)) (zz_ci zz_rz)))))))))))))))), trivial⟩⟩⟩⟩⟩⟩⟩⟩⟩⟩⟩⟩⟩⟩⟩⟩⟩⟩⟩⟩⟩⟩⟩⟩ (zz_nm (JS 1543))))))))))))))
theorem zl_189 (CS : kZC T C C') (JS : ∀ b, kZ T (J b) (J' b)) : kZ T (bl_189 d C J) (wl_189 d C' J') := (zz_nm (JS 1543))
theorem zl_233 (CS : kZC T C C') (JS : ∀ b, kZ T (J b) (J' b)) : kZ T (bl_233 d C J) (wl_233 d C' J') := (zz_nm (JS 1543))
theorem zl_277 (CS : kZC T C C') (JS : ∀ b, kZ T (J b) (J' b)) : kZ T (bl_277 d C J) (wl_277 d C' J') := (zz_nm (JS 1543))
theorem zl_365 (CS : kZC T C C') (JS : ∀ b, kZ T (J b) (J' b)) : kZ T (bl_365 d C J) (wl_365 d C' J') := (zz_nm (JS 1543))
theorem zl_421 (CS : kZC T C C') (JS : ∀ b, kZ T (J b) (J' b)) : kZ T (bl_421 d C J) (wl_421 d C' J') := (zz_nm (JS 1543))
theorem zl_627 (CS : kZC T C C') (JS : ∀ b, kZ T (J b) (J' b)) : kZ T (bl_627 d C J) (wl_627 d C' J') := (zz_lcmp (zz_ifeq (zz_nm (JS 633)) (zz_ci zz_rz)))
theorem zl_633 (CS : kZC T C C') (JS : ∀ b, kZ T (J b) (J' b)) : kZ T (bl_633 d C J) (wl_633 d C' J') := (zz_nm (JS 1543))
theorem zl_690 (CS : kZC T C C') (JS : ∀ b, kZ T (J b) (J' b)) : kZ T (bl_690 d C J) (wl_690 d C' J') := (zz_lcmp (zz_ifeq (zz_nm (JS 696)) (zz_ci zz_rz)))
theorem zl_696 (CS : kZC T C C') (JS : ∀ b, kZ T (J b) (J' b)) : kZ T (bl_696 d C J) (wl_696 d C' J') := (zz_nm (JS 1543))
theorem zl_756 (CS : kZC T C C') (JS : ∀ b, kZ T (J b) (J' b)) : kZ T (bl_756 d C J) (wl_756 d C' J') := (zz_la (zz_li (zz_ci (zz_ii (zz_aI (by decide) (zz_i2l (zz_ci (zz_ji (zz_la (zz_li (zz_ci (zz_ii (zz_aI (by decide) (zz_i2l (zz_cl (zz_jj (zz_jj (zz_la (zz_Si CS (zz_si (zz_la (zz_la (zz_li (zz_ci (zz_ii (zz_aI (by decide) (zz_la (zz_li (zz_ci (zz_ii (zz_aI (by decide) (zz_ifeq (zz_ci (zz_nm (JS 805))) (zz_ci (zz_nm (JS 805)))))))))))))))))))))))))))))))))))
theorem zl_805 (CS : kZC T C C') (JS : ∀ b, kZ T (J b) (J' b)) : kZ T (bl_805 d C J) (wl_805 d C' J') := (zz_la (zz_li (zz_ci (zz_ii (zz_aI (by decide) (zz_i2l (zz_ci (zz_ji (zz_la (zz_li (zz_ci (zz_ii (zz_aI (by decide) (zz_i2l (zz_cl (zz_jj (zz_jj (zz_Vi CS (zz_si (zz_la (zz_Vi CS (zz_li (zz_ceq (zz_li (zz_ifne (zz_nm (JS 860)) (zz_la (zz_ci (zz_aL (by decide) (zz_li (zz_i2l (zz_lcmp (zz_ifeq (zz_nm (JS 860)) (zz_ci zz_rz)))))))))) (zz_ci zz_rz))))))))))))))))))))))))
theorem zl_860 (CS : kZC T C C') (JS : ∀ b, kZ T (J b) (J' b)) : kZ T (bl_860 d C J) (wl_860 d C' J') := (zz_nm (JS 1543))
theorem zl_884 (CS : kZC T C C') (JS : ∀ b, kZ T (J b) (J' b)) : kZ T (bl_884 d C J) (wl_884 d C' J') := (zz_la (zz_Si CS (zz_si (zz_la (zz_la (zz_li (zz_ci (zz_ii (zz_aI (by decide) (zz_la (zz_li (zz_ci (zz_ii (zz_aI (by decide) (zz_ifeq (zz_ci (zz_nm (JS 911))) (zz_ci (zz_nm (JS 911))))))))))))))))))
theorem zl_911 (CS : kZC T C C') (JS : ∀ b, kZ T (J b) (J' b)) : kZ T (bl_911 d C J) (wl_911 d C' J') := (zz_Vi CS (zz_si (zz_la (zz_Vi CS (zz_li (zz_ceq (zz_li (zz_ifne (zz_nm (JS 951)) (zz_la (zz_ci (zz_aL (by decide) (zz_li (zz_ifeq (zz_cl (zz_nm (JS 945))) (zz_cl (zz_nm (JS 945)))))))))) (zz_ci zz_rz)))))))
theorem zl_945 (CS : kZC T C C') (JS : ∀ b, kZ T (J b) (J' b)) : kZ T (bl_945 d C J) (wl_945 d C' J') := (zz_lcmp (zz_ifeq (zz_nm (JS 951)) (zz_ci zz_rz)))
theorem zl_951 (CS : kZC T C C') (JS : ∀ b, kZ T (J b) (J' b)) : kZ T (bl_951 d C J) (wl_951 d C' J') := (zz_nm (JS 1543))
theorem zl_1019 (CS : kZC T C C') (JS : ∀ b, kZ T (J b) (J' b)) : kZ T (bl_1019 d C J) (wl_1019 d C' J') := (zz_nm (JS 1543))
theorem zl_1076 (CS : kZC T C C') (JS : ∀ b, kZ T (J b) (J' b)) : kZ T (bl_1076 d C J) (wl_1076 d C' J') := (zz_lcmp (zz_ifeq (zz_nm (JS 1082)) (zz_ci zz_rz)))
theorem zl_1082 (CS : kZC T C C') (JS : ∀ b, kZ T (J b) (J' b)) : kZ T (bl_1082 d C J) (wl_1082 d C' J') := (zz_nm (JS 1543))
theorem zl_1139 (CS : kZC T C C') (JS : ∀ b, kZ T (J b) (J' b)) : kZ T (bl_1139 d C J) (wl_1139 d C' J') := (zz_lcmp (zz_ifeq (zz_nm (JS 1145)) (zz_ci zz_rz)))
theorem zl_1145 (CS : kZC T C C') (JS : ∀ b, kZ T (J b) (J' b)) : kZ T (bl_1145 d C J) (wl_1145 d C' J') := (zz_nm (JS 1543))
theorem zl_1310 (CS : kZC T C C') (JS : ∀ b, kZ T (J b) (J' b)) : kZ T (bl_1310 d C J) (wl_1310 d C' J') := (zz_nm (JS 1543))
theorem zl_1365 (CS : kZC T C C') (JS : ∀ b, kZ T (J b) (J' b)) : kZ T (bl_1365 d C J) (wl_1365 d C' J') := (zz_nm (JS 1543))
theorem zl_1433 (CS : kZC T C C') (JS : ∀ b, kZ T (J b) (J' b)) : kZ T (bl_1433 d C J) (wl_1433 d C' J') := (zz_nm (JS 1543))
theorem zl_1501 (CS : kZC T C C') (JS : ∀ b, kZ T (J b) (J' b)) : kZ T (bl_1501 d C J) (wl_1501 d C' J') := (zz_nm (JS 1543))
theorem zl_1543 (CS : kZC T C C') (JS : ∀ b, kZ T (J b) (J' b)) : kZ T (bl_1543 d C J) (wl_1543 d C' J') := (zz_inc (zz_nm (JS 23)))
theorem zl_m (CS : kZC T C C') (J J' : Nat → kx_F) (JS : ∀ b, kZ T (J b) (J' b)) (b : Nat) : kZ T (bl_m d C b J) (wl_m d C' b J') := by
  unfold bl_m wl_m
  cases h0 : Nat.beq b 0 with
  | true => exact zz_no
  | false =>
   cases h23 : Nat.beq b 23 with
   | true => exact zl_23 (d := d) CS JS
   | false =>
    cases h189 : Nat.beq b 189 with
    | true => exact zl_189 (d := d) CS JS
    | false =>
     cases h233 : Nat.beq b 233 with
     | true => exact zl_233 (d := d) CS JS
     | false =>
      cases h277 : Nat.beq b 277 with
      | true => exact zl_277 (d := d) CS JS
      | false =>
       cases h365 : Nat.beq b 365 with
       | true => exact zl_365 (d := d) CS JS
       | false =>
        cases h421 : Nat.beq b 421 with
        | true => exact zl_421 (d := d) CS JS
        | false =>
         cases h627 : Nat.beq b 627 with
         | true => exact zl_627 (d := d) CS JS
         | false =>
          cases h633 : Nat.beq b 633 with
          | true => exact zl_633 (d := d) CS JS
          | false =>
           cases h690 : Nat.beq b 690 with
           | true => exact zl_690 (d := d) CS JS
           | false =>
            cases h696 : Nat.beq b 696 with
            | true => exact zl_696 (d := d) CS JS
            | false =>
             cases h756 : Nat.beq b 756 with
             | true => exact zl_756 (d := d) CS JS
             | false =>
              cases h805 : Nat.beq b 805 with
              | true => exact zl_805 (d := d) CS JS
              | false =>
               cases h860 : Nat.beq b 860 with
               | true => exact zl_860 (d := d) CS JS
               | false =>
                cases h884 : Nat.beq b 884 with
                | true => exact zl_884 (d := d) CS JS
                | false =>
                 cases h911 : Nat.beq b 911 with
                 | true => exact zl_911 (d := d) CS JS
                 | false =>
                  cases h945 : Nat.beq b 945 with
                  | true => exact zl_945 (d := d) CS JS
                  | false =>
                   cases h951 : Nat.beq b 951 with
                   | true => exact zl_951 (d := d) CS JS
                   | false =>
                    cases h1019 : Nat.beq b 1019 with
                    | true => exact zl_1019 (d := d) CS JS
                    | false =>
                     cases h1076 : Nat.beq b 1076 with
                     | true => exact zl_1076 (d := d) CS JS
                     | false =>
                      cases h1082 : Nat.beq b 1082 with
                      | true => exact zl_1082 (d := d) CS JS
                      | false =>
                       cases h1139 : Nat.beq b 1139 with
                       | true => exact zl_1139 (d := d) CS JS
                       | false =>
                        cases h1145 : Nat.beq b 1145 with
                        | true => exact zl_1145 (d := d) CS JS
                        | false =>
                         cases h1310 : Nat.beq b 1310 with
                         | true => exact zl_1310 (d := d) CS JS
                         | false =>
                          cases h1365 : Nat.beq b 1365 with
                          | true => exact zl_1365 (d := d) CS JS
                          | false =>
                           cases h1433 : Nat.beq b 1433 with
                           | true => exact zl_1433 (d := d) CS JS
                           | false =>
                            cases h1501 : Nat.beq b 1501 with
                            | true => exact zl_1501 (d := d) CS JS
                            | false =>
                             cases h1543 : Nat.beq b 1543 with
                             | true => exact zl_1543 (d := d) CS JS
                             | false =>
                              exact zz_no
def wx_M1 (n d : Nat) (C : kx_C) : Nat → (Nat → kx_F) → kx_F := match n with
  | 9 => wm_9 d C
  | 10 => wm_10 d C
  | 11 => wm_11 d C
  | 12 => wm_12 d C
  | 13 => wm_13 d C
  | 14 => wm_14 d C
  | 15 => wm_15 d C
  | 16 => wm_16 d C
  | 17 => wm_17 d C
  | 18 => wm_18 d C
  | 19 => wm_19 d C
  | 20 => wm_20 d C
  | 21 => wm_21 d C
  | 22 => wm_22 d C
  | 23 => wm_23 d C
  | 24 => wm_24 d C
  | 25 => wm_25 d C
  | 26 => wm_26 d C
  | 27 => wm_27 d C
  | 28 => wm_28 d C
  | 29 => wm_29 d C
  | 30 => wm_30 d C
  | 31 => wm_31 d C
  | 32 => wm_32 d C
  | 33 => wm_33 d C
  | 34 => wm_34 d C
  | 35 => wm_35 d C
  | 36 => wm_36 d C
  | 37 => wm_37 d C
  | 38 => wm_38 d C
  | 39 => wm_39 d C
  | 40 => wm_40 d C
  | 41 => wm_41 d C
  | 42 => wm_42 d C
  | 43 => wm_43 d C
  | 44 => wm_44 d C
  | 45 => wm_45 d C
  | 46 => wm_46 d C
  | 47 => wm_47 d C
  | 48 => wm_48 d C
  | 49 => wm_49 d C
  | 50 => wm_50 d C
  | 51 => wm_51 d C
  | 52 => wm_52 d C
  | 53 => wm_53 d C
  | 54 => wm_54 d C
  | 55 => wm_55 d C
  | 56 => wm_56 d C
  | 57 => wm_57 d C
  | 58 => wm_58 d C
  | 59 => wm_59 d C
  | 60 => wm_60 d C
  | 61 => wm_61 d C
  | 62 => wm_62 d C
  | 63 => wm_63 d C
  | 64 => wm_64 d C
  | 65 => wm_65 d C
  | 66 => wm_66 d C
  | 67 => wm_67 d C
  | 68 => wm_68 d C
  | 69 => wm_69 d C
  | 70 => wm_70 d C
  | 71 => wm_71 d C
  | 72 => wm_72 d C
  | 73 => wm_73 d C
  | 74 => wm_74 d C
  | 75 => wm_75 d C
  | 76 => wm_76 d C
  | 77 => wm_77 d C
  | 78 => wm_78 d C
  | 79 => wm_79 d C
  | 80 => wm_80 d C
  | 81 => wm_81 d C
  | 82 => wm_82 d C
  | 83 => wm_83 d C
  | 84 => wm_84 d C
  | 85 => wm_85 d C
  | 86 => wm_86 d C
  | 87 => wm_87 d C
  | 89 => wm_89 d C
  | 90 => wm_90 d C
  | 91 => wm_91 d C
  | 92 => wm_92 d C
  | 93 => wm_93 d C
  | 94 => wm_94 d C
  | 95 => wm_95 d C
  | 96 => wm_96 d C
  | 97 => wm_97 d C
  | 98 => wm_98 d C
  | 99 => wm_99 d C
  | 100 => wm_100 d C
  | 101 => wm_101 d C
  | 102 => wm_102 d C
  | 103 => wm_103 d C
  | 104 => wm_104 d C
  | 105 => wm_105 d C
  | 106 => wm_106 d C
  | 107 => wm_107 d C
  | 108 => wm_108 d C
  | 109 => wm_109 d C
  | 110 => wm_110 d C
  | 111 => wm_111 d C
  | 112 => wm_112 d C
  | 113 => wm_113 d C
  | 114 => wm_114 d C
  | 115 => wm_115 d C
  | 116 => wm_116 d C
  | 117 => wm_117 d C
  | 118 => wm_118 d C
  | 119 => wm_119 d C
  | 120 => wm_120 d C
  | 121 => wm_121 d C
  | 122 => wm_122 d C
  | 123 => wm_123 d C
  | 124 => wm_124 d C
  | 125 => wm_125 d C
  | 126 => wm_126 d C
  | 127 => wm_127 d C
  | 128 => wm_128 d C
  | 129 => wm_129 d C
  | 130 => wm_130 d C
  | 131 => wm_131 d C
  | 132 => wm_132 d C
  | 133 => wm_133 d C
  | 134 => wm_134 d C
  | 135 => wm_135 d C
  | 136 => wm_136 d C
  | 137 => wm_137 d C
  | 138 => wm_138 d C
  | 139 => wm_139 d C
  | 140 => wm_140 d C
  | 141 => wm_141 d C
  | 142 => wm_142 d C
  | 143 => wm_143 d C
  | 144 => wm_144 d C
  | 145 => wm_145 d C
  | 146 => wm_146 d C
  | 147 => wm_147 d C
  | 148 => wm_148 d C
  | 149 => wm_149 d C
  | 150 => wm_150 d C
  | 151 => wm_151 d C
  | 152 => wm_152 d C
  | 153 => wm_153 d C
  | 154 => wm_154 d C
  | 155 => wm_155 d C
  | 156 => wm_156 d C
  | 157 => wm_157 d C
  | 158 => wm_158 d C
  | 159 => wm_159 d C
  | 160 => wm_160 d C
  | 161 => wm_161 d C
  | 162 => wm_162 d C
  | 163 => wm_163 d C
  | 164 => wm_164 d C
  | 165 => wm_165 d C
  | 166 => wm_166 d C
  | 167 => wm_167 d C
  | 168 => wm_168 d C
  | 169 => wm_169 d C
  | 170 => wm_170 d C
  | 171 => wm_171 d C
  | _ => fun _ _ _ _ _ => none
def wx_M (n d : Nat) (C : kx_C) : Nat → (Nat → kx_F) → kx_F := bif Nat.blt n 172 then wx_M1 n d C else fun _ _ _ _ _ => none
theorem zz_none {B : Nat → (Nat → kx_F) → kx_F} : ∀ n b, kZ T (kx_ex B n b) (kx_ex (fun _ _ _ _ _ => none) n b) := by
  intro n b
  cases n with
  | zero => exact zz_no
  | succ n => exact zz_no
set_option maxRecDepth 20000 in
theorem zz_M1 (CS : kZC T C C') : ∀ n, n < 172 → ∀ f b, kZ T (kx_ex (kx_M1 n d C) f b) (kx_ex (wx_M1 n d C') f b) := (lt_s (lt_s (lt_s (lt_s (lt_s (lt_s (lt_s (lt_s (lt_s (lt_s (lt_s (lt_s (lt_s (lt_s (lt_s (lt_s (lt_s (lt_s (lt_s (lt_s (lt_s (lt_s (lt_s (lt_s (lt_s (lt_s (lt_s (lt_s (lt_s (lt_s (lt_s (lt_s (lt_s (lt_s (lt_s (lt_s (lt_s (lt_s (lt_s (lt_s (lt_s (lt_s (lt_s (lt_s (lt_s (lt_s (lt_s (lt_s (lt_s (lt_s (lt_s (lt_s (lt_s (lt_s (lt_s (lt_s (lt_s (lt_s (lt_s (lt_s (lt_s (lt_s (lt_s (lt_s (lt_s (lt_s (lt_s (lt_s (lt_s (lt_s (lt_s (lt_s (lt_s (lt_s (lt_s (lt_s (lt_s (lt_s (lt_s (lt_s (lt_s (lt_s (lt_s (lt_s (lt_s (lt_s (lt_s (lt_s (lt_s (lt_s (lt_s (lt_s (lt_s (lt_s (lt_s (lt_s (lt_s (lt_s (lt_s (lt_s (lt_s (lt_s (lt_s (lt_s (lt_s (lt_s (lt_s (lt_s (lt_s (lt_s (lt_s (lt_s (lt_s (lt_s (lt_s (lt_s (lt_s (lt_s (lt_s (lt_s (lt_s (lt_s (lt_s (lt_s (lt_s (lt_s (lt_s (lt_s (lt_s (lt_s (lt_s (lt_s (lt_s (lt_s (lt_s (lt_s (lt_s (lt_s (lt_s (lt_s (lt_s (lt_s (lt_s (lt_s (lt_s (lt_s (lt_s (lt_s (lt_s (lt_s (lt_s (lt_s (lt_s (lt_s (lt_s (lt_s (lt_s (lt_s (lt_s (lt_s (lt_s (lt_s (lt_s (lt_s (lt_s (lt_s (lt_s (lt_s (lt_s (lt_s (lt_s (lt_s lt_0 (fun n b => zz_none n b)) (fun n b => zz_none n b)) (fun n b => zz_none n b)) (fun n b => zz_none n b)) (fun n b => zz_none n b)) (fun n b => zz_none n b)) (fun n b => zz_none n b)) (fun n b => zz_none n b)) (fun n b => zz_none n b)) (zz_loop (zm_9 CS))) (zz_loop (zm_10 CS))) (zz_loop (zm_11 CS))) (zz_loop (zm_12 CS))) (zz_loop (zm_13 CS))) (zz_loop (zm_14 CS))) (zz_loop (zm_15 CS))) (zz_loop (zm_16 CS))) (zz_loop (zm_17 CS))) (zz_loop (zm_18 CS))) (zz_loop (zm_19 CS))) (zz_loop (zm_20 CS))) (zz_loop (zm_21 CS))) (zz_loop (zm_22 CS))) (zz_loop (zm_23 CS))) (zz_loop (zm_24 CS))) (zz_loop (zm_25 CS))) (zz_loop (zm_26 CS))) (zz_loop (zm_27 CS))) (zz_loop (zm_28 CS))) (zz_loop (zm_29 CS))) (zz_loop (zm_30 CS))) (zz_loop (zm_31 CS))) (zz_loop (zm_32 CS))) (zz_loop (zm_33 CS))) (zz_loop (zm_34 CS))) (zz_loop (zm_35 CS))) (zz_loop (zm_36 CS))) (zz_loop (zm_37 CS))) (zz_loop (zm_38 CS))) (zz_loop (zm_39 CS))) (zz_loop (zm_40 CS))) (zz_loop (zm_41 CS))) (zz_loop (zm_42 CS))) (zz_loop (zm_43 CS))) (zz_loop (zm_44 CS))) (zz_loop (zm_45 CS))) (zz_loop (zm_46 CS))) (zz_loop (zm_47 CS))) (zz_loop (zm_48 CS))) (zz_loop (zm_49 CS))) (zz_loop (zm_50 CS))) (zz_loop (zm_51 CS))) (zz_loop (zm_52 CS))) (zz_loop (zm_53 CS))) (zz_loop (zm_54 CS))) (zz_loop (zm_55 CS))) (zz_loop (zm_56 CS))) (zz_loop (zm_57 CS))) (zz_loop (zm_58 CS))) (zz_loop (zm_59 CS))) (zz_loop (zm_60 CS))) (zz_loop (zm_61 CS))) (zz_loop (zm_62 CS))) (zz_loop (zm_63 CS))) (zz_loop (zm_64 CS))) (zz_loop (zm_65 CS))) (zz_loop (zm_66 CS))) (zz_loop (zm_67 CS))) (zz_loop (zm_68 CS))) (zz_loop (zm_69 CS))) (zz_loop (zm_70 CS))) (zz_loop (zm_71 CS))) (zz_loop (zm_72 CS))) (zz_loop (zm_73 CS))) (zz_loop (zm_74 CS))) (zz_loop (zm_75 CS))) (zz_loop (zm_76 CS))) (zz_loop (zm_77 CS))) (zz_loop (zm_78 CS))) (zz_loop (zm_79 CS))) (zz_loop (zm_80 CS))) (zz_loop (zm_81 CS))) (zz_loop (zm_82 CS))) (zz_loop (zm_83 CS))) (zz_loop (zm_84 CS))) (zz_loop (zm_85 CS))) (zz_loop (zm_86 CS))) (zz_loop (zm_87 CS))) (fun n b => zz_none n b)) (zz_loop (zm_89 CS))) (zz_loop (zm_90 CS))) (zz_loop (zm_91 CS))) (zz_loop (zm_92 CS))) (zz_loop (zm_93 CS))) (zz_loop (zm_94 CS))) (zz_loop (zm_95 CS))) (zz_loop (zm_96 CS))) (zz_loop (zm_97 CS))) (zz_loop (zm_98 CS))) (zz_loop (zm_99 CS))) (zz_loop (zm_100 CS))) (zz_loop (zm_101 CS))) (zz_loop (zm_102 CS))) (zz_loop (zm_103 CS))) (zz_loop (zm_104 CS))) (zz_loop (zm_105 CS))) (zz_loop (zm_106 CS))) (zz_loop (zm_107 CS))) (zz_loop (zm_108 CS))) (zz_loop (zm_109 CS))) (zz_loop (zm_110 CS))) (zz_loop (zm_111 CS))) (zz_loop (zm_112 CS))) (zz_loop (zm_113 CS))) (zz_loop (zm_114 CS))) (zz_loop (zm_115 CS))) (zz_loop (zm_116 CS))) (zz_loop (zm_117 CS))) (zz_loop (zm_118 CS))) (zz_loop (zm_119 CS))) (zz_loop (zm_120 CS))) (zz_loop (zm_121 CS))) (zz_loop (zm_122 CS))) (zz_loop (zm_123 CS))) (zz_loop (zm_124 CS))) (zz_loop (zm_125 CS))) (zz_loop (zm_126 CS))) (zz_loop (zm_127 CS))) (zz_loop (zm_128 CS))) (zz_loop (zm_129 CS))) (zz_loop (zm_130 CS))) (zz_loop (zm_131 CS))) (zz_loop (zm_132 CS))) (zz_loop (zm_133 CS))) (zz_loop (zm_134 CS))) (zz_loop (zm_135 CS))) (zz_loop (zm_136 CS))) (zz_loop (zm_137 CS))) (zz_loop (zm_138 CS))) (zz_loop (zm_139 CS))) (zz_loop (zm_140 CS))) (zz_loop (zm_141 CS))) (zz_loop (zm_142 CS))) (zz_loop (zm_143 CS))) (zz_loop (zm_144 CS))) (zz_loop (zm_145 CS))) (zz_loop (zm_146 CS))) (zz_loop (zm_147 CS))) (zz_loop (zm_148 CS))) (zz_loop (zm_149 CS))) (zz_loop (zm_150 CS))) (zz_loop (zm_151 CS))) (zz_loop (zm_152 CS))) (zz_loop (zm_153 CS))) (zz_loop (zm_154 CS))) (zz_loop (zm_155 CS))) (zz_loop (zm_156 CS))) (zz_loop (zm_157 CS))) (zz_loop (zm_158 CS))) (zz_loop (zm_159 CS))) (zz_loop (zm_160 CS))) (zz_loop (zm_161 CS))) (zz_loop (zm_162 CS))) (zz_loop (zm_163 CS))) (zz_loop (zm_164 CS))) (zz_loop (zm_165 CS))) (zz_loop (zm_166 CS))) (zz_loop (zm_167 CS))) (zz_loop (zm_168 CS))) (zz_loop (zm_169 CS))) (zz_loop (zm_170 CS))) (zz_loop (zm_171 CS)))
theorem zz_all : ∀ d, kZC T (kx_ev kx_M d) (kx_ev wx_M d) := by
  intro d
  induction d with
  | zero => intro n as w ha hW; exact kZr_n
  | succ d ih =>
    intro n as w ha hW
    show kZr T (kx_ex (kx_M n d (kx_ev kx_M d)) kx_fuel 0 (kx_in 0 as) [] (kz_e w)) (kx_ex (wx_M n d (kx_ev wx_M d)) kx_fuel 0 (kx_in 0 as) [] w)
    unfold kx_M wx_M
    cases hb : Nat.blt n 172 with
    | true => exact zz_M1 ih n (Nat.le_of_ble_eq_true hb) kx_fuel 0 _ _ _ (kz_in ha 0) (fun v hv => by cases hv) hW
    | false => exact zz_none kx_fuel 0 _ _ _ (kz_in ha 0) (fun v hv => by cases hv) hW
theorem zz_law : ∀ f b, kZ T (kx_ex (bl_m d (kx_ev kx_M d)) f b) (kx_ex (wl_m d (kx_ev wx_M d)) f b) := zz_loop (zl_m (zz_all d))
end KW
