/-! the model's shape; the state that both speak of: scalars as a store with the model's keys, and the lists -/
def SH (w : kx_H) : Prop := hp_R w 1808 4363 = some 4364 ∧ hp_R w 1810 4363 = some 4365 ∧ hp_R w 1812 4363 = some 4366 ∧ hp_R w 1814 4363 = some 4367 ∧ hp_R w 1816 4363 = some 4368 ∧ hp_R w 1818 4363 = some 4369 ∧ hp_R w 1820 4363 = some 4370 ∧ hp_R w 1824 4363 = some 4371 ∧ hp_R w 1826 4363 = some 4372 ∧ hp_R w 1828 4363 = some 4373 ∧ hp_R w 1830 4363 = some 4374 ∧ hp_R w 1836 4363 = some 4375 ∧ hp_R w 1838 4363 = some 4376 ∧ hp_R w 1842 4363 = some 4377 ∧ hp_R w 1844 4363 = some 4378 ∧ hp_R w 1846 4363 = some 4379 ∧ hp_R w 1848 4363 = some 4380 ∧ hp_R w 1850 4363 = some 4381 ∧ hp_R w 1854 4363 = some 4382 ∧ hp_R w 1856 4363 = some 4383 ∧ hp_R w 1858 4363 = some 4384 ∧ hp_R w 1862 4363 = some 4385 ∧ hp_R w 1864 4363 = some 4386 ∧ hp_R w 1866 4363 = some 4387 ∧ hp_R w 1870 4363 = some 4388 ∧ hp_R w 1872 4363 = some 4389 ∧ hp_R w 1874 4363 = some 4390 ∧ hp_R w 1878 4363 = some 4391 ∧ hp_R w 1880 4363 = some 4392 ∧ hp_N w 4364 = 256 ∧ hp_N w 4365 = 256 ∧ hp_N w 4366 = 256 ∧ hp_N w 4367 = 256 ∧ hp_N w 4368 = 256 ∧ hp_N w 4369 = 256 ∧ hp_N w 4370 = 256 ∧ hp_N w 4371 = 256 ∧ hp_N w 4372 = 512 ∧ hp_N w 4373 = 512 ∧ hp_N w 4374 = 512 ∧ hp_N w 4375 = 8192 ∧ hp_N w 4376 = 8192 ∧ hp_N w 4377 = 4352 ∧ hp_N w 4378 = 4352 ∧ hp_N w 4379 = 4352 ∧ hp_N w 4380 = 4352 ∧ hp_N w 4381 = 4352 ∧ hp_N w 4382 = 16 ∧ hp_N w 4383 = 16 ∧ hp_N w 4384 = 16 ∧ hp_N w 4385 = 256 ∧ hp_N w 4386 = 256 ∧ hp_N w 4387 = 256 ∧ hp_N w 4388 = 256 ∧ hp_N w 4389 = 256 ∧ hp_N w 4390 = 256 ∧ hp_N w 4391 = 512 ∧ hp_N w 4392 = 512
theorem SH.cong {w w' : kx_H} (h : SH w) (h1 : hp_R w' = hp_R w) (h2 : hp_N w' = hp_N w) : SH w' := by
  unfold SH
  rw [h1, h2]
  exact h
/-- an offer: task, channel, gives, value, case -/
abbrev kMo : Type := Nat × Nat × Bool × Int64 × Int32
/-- a told case: channel or -1, gives, value -/
abbrev kMt : Type := Int32 × Bool × Int64
/-- a stander: task, gate, reads -/
abbrev kMs : Type := Nat × Nat × Bool
/-- an event: task, or channel; its time -/
abbrev kMe : Type := (Nat ⊕ Nat) × Int64
def ecode (e : Nat ⊕ Nat) : Int32 := match e with
  | .inl t => i32 t
  | .inr c => -1 - i32 c
def Lrd (w : kx_H) (rd : List Nat) : Prop := hp_I w 1822 4363 = i32 rd.length ∧ ∀ k x, rd[k]? = some x → hp_I w 8743 k = i32 x ∧ x < 256
def Lmv (w : kx_H) (mv : List (Nat × Int64)) : Prop := hp_I w 1834 4363 = i32 mv.length ∧ ∀ k x, mv[k]? = some x → hp_I w 8751 k = i32 x.1 ∧ hp_L w 8753 k = x.2 ∧ x.1 < 512
def Lmo (w : kx_H) (mo : List kMo) : Prop := hp_I w 1840 4363 = i32 mo.length ∧ ∀ k x, mo[k]? = some x → hp_I w 8755 k = i32 x.1 ∧ hp_I w 8757 k = i32 x.2.1 ∧ hp_B w 8759 k = x.2.2.1 ∧ hp_L w 8761 k = x.2.2.2.1 ∧ hp_I w 8763 k = x.2.2.2.2 ∧ x.1 < 256 ∧ x.2.1 < 512
def Lmt (w : kx_H) (mt : List kMt) : Prop := hp_I w 1852 4363 = i32 mt.length ∧ ∀ k x, mt[k]? = some x → hp_I w 8765 k = x.1 ∧ hp_B w 8767 k = x.2.1 ∧ hp_L w 8769 k = x.2.2
def Lsn (w : kx_H) (sn : List kMs) : Prop := hp_I w 1868 4363 = i32 sn.length ∧ ∀ k x, sn[k]? = some x → hp_I w 8777 k = i32 x.1 ∧ hp_I w 8779 k = i32 x.2.1 ∧ hp_B w 8781 k = x.2.2 ∧ x.1 < 256 ∧ x.2.1 < 256
def Lme (w : kx_H) (me : List kMe) : Prop := hp_I w 1876 4363 = i32 me.length ∧ ∀ k x, me[k]? = some x → hp_I w 8783 k = ecode x.1 ∧ hp_L w 8785 k = x.2
theorem Lrd.cong {w w' : kx_H} {l : List Nat} (h : Lrd w l) (h1 : hp_I w' 1822 = hp_I w 1822) (h2 : hp_I w' 8743 = hp_I w 8743) : Lrd w' l := by
  unfold Lrd; rw [h1, h2]; exact h
theorem Lmv.cong {w w' : kx_H} {l : List (Nat × Int64)} (h : Lmv w l) (h1 : hp_I w' 1834 = hp_I w 1834) (h2 : hp_I w' 8751 = hp_I w 8751) (h3 : hp_L w' 8753 = hp_L w 8753) : Lmv w' l := by
  unfold Lmv; rw [h1, h2, h3]; exact h
theorem Lmo.cong {w w' : kx_H} {l : List kMo} (h : Lmo w l) (h1 : hp_I w' 1840 = hp_I w 1840) (h2 : hp_I w' 8755 = hp_I w 8755) (h3 : hp_I w' 8757 = hp_I w 8757) (h4 : hp_B w' 8759 = hp_B w 8759) (h5 : hp_L w' 8761 = hp_L w 8761) (h6 : hp_I w' 8763 = hp_I w 8763) : Lmo w' l := by
  unfold Lmo; rw [h1, h2, h3, h4, h5, h6]; exact h
theorem Lmt.cong {w w' : kx_H} {l : List kMt} (h : Lmt w l) (h1 : hp_I w' 1852 = hp_I w 1852) (h2 : hp_I w' 8765 = hp_I w 8765) (h3 : hp_B w' 8767 = hp_B w 8767) (h4 : hp_L w' 8769 = hp_L w 8769) : Lmt w' l := by
  unfold Lmt; rw [h1, h2, h3, h4]; exact h
theorem Lsn.cong {w w' : kx_H} {l : List kMs} (h : Lsn w l) (h1 : hp_I w' 1868 = hp_I w 1868) (h2 : hp_I w' 8777 = hp_I w 8777) (h3 : hp_I w' 8779 = hp_I w 8779) (h4 : hp_B w' 8781 = hp_B w 8781) : Lsn w' l := by
  unfold Lsn; rw [h1, h2, h3, h4]; exact h
theorem Lme.cong {w w' : kx_H} {l : List kMe} (h : Lme w l) (h1 : hp_I w' 1876 = hp_I w 1876) (h2 : hp_I w' 8783 = hp_I w 8783) (h3 : hp_L w' 8785 = hp_L w 8785) : Lme w' l := by
  unfold Lme; rw [h1, h2, h3]; exact h
