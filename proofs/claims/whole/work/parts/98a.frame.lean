/-! what each side reads, and that the other leaves it -/
def LC (w w' : kx_H) : Prop := (∀ k, k < 1800 → hp_I w' k = hp_I w k) ∧ (∀ k, k < 1800 → hp_L w' k = hp_L w k) ∧ (∀ k, k < 1800 → hp_R w' k = hp_R w k) ∧ (∀ k, k < 1800 → hp_B w' k = hp_B w k) ∧ hp_N w' = hp_N w
theorem LC.I {w w' : kx_H} (h : LC w w') (k : Nat) (hk : k < 1800) : hp_I w' k = hp_I w k := h.1 k hk
theorem LC.L {w w' : kx_H} (h : LC w w') (k : Nat) (hk : k < 1800) : hp_L w' k = hp_L w k := h.2.1 k hk
theorem LC.R {w w' : kx_H} (h : LC w w') (k : Nat) (hk : k < 1800) : hp_R w' k = hp_R w k := h.2.2.1 k hk
theorem LC.B {w w' : kx_H} (h : LC w w') (k : Nat) (hk : k < 1800) : hp_B w' k = hp_B w k := h.2.2.2.1 k hk
theorem LC.N {w w' : kx_H} (h : LC w w') : hp_N w' = hp_N w := h.2.2.2.2
def LM (w w' : kx_H) : Prop := (∀ k, 1800 ≤ k ∧ k ≤ 8786 → hp_I w' k = hp_I w k) ∧ (∀ k, 1800 ≤ k ∧ k ≤ 8786 → hp_L w' k = hp_L w k) ∧ (∀ k, 1800 ≤ k ∧ k ≤ 8786 → hp_R w' k = hp_R w k) ∧ (∀ k, 1800 ≤ k ∧ k ≤ 8786 → hp_B w' k = hp_B w k) ∧ hp_N w' = hp_N w
theorem LM.I {w w' : kx_H} (h : LM w w') (k : Nat) (hk : 1800 ≤ k ∧ k ≤ 8786) : hp_I w' k = hp_I w k := h.1 k hk
theorem LM.L {w w' : kx_H} (h : LM w w') (k : Nat) (hk : 1800 ≤ k ∧ k ≤ 8786) : hp_L w' k = hp_L w k := h.2.1 k hk
theorem LM.R {w w' : kx_H} (h : LM w w') (k : Nat) (hk : 1800 ≤ k ∧ k ≤ 8786) : hp_R w' k = hp_R w k := h.2.2.1 k hk
theorem LM.B {w w' : kx_H} (h : LM w w') (k : Nat) (hk : 1800 ≤ k ∧ k ≤ 8786) : hp_B w' k = hp_B w k := h.2.2.2.1 k hk
theorem LM.N {w w' : kx_H} (h : LM w w') : hp_N w' = hp_N w := h.2.2.2.2
theorem CK.lc {w w' : kx_H}  (h : CK w ) (F : LC w w') : CK w'  := by
  unfold CK
  simp only [F.I 1200 (by decide), F.I 400 (by decide), F.I 600 (by decide), F.R 0 (by decide), F.R 4 (by decide), F.R 12 (by decide), F.R 16 (by decide), F.R 18 (by decide), F.R 26 (by decide), F.R 32 (by decide), F.R 5 (by decide), F.R 1202 (by decide), F.R 1035 (by decide), F.R 402 (by decide), F.R 404 (by decide), F.R 1045 (by decide), F.R 602 (by decide), F.R 604 (by decide), F.N]
  exact h
theorem CT.lc {w w' : kx_H} {m : kx_H} (h : CT w m) (F : LC w w') : CT w' m := by
  unfold CT
  simp only [F.I 1206 (by decide), F.I 1208 (by decide), F.I 1216 (by decide), F.L 1212 (by decide), F.B 1204 (by decide), F.B 1214 (by decide), F.B 1218 (by decide)]
  exact h
theorem CS.lc {w w' : kx_H} {S : kS} (h : CS w S) (F : LC w w') : CS w' S := by
  unfold CS
  simp only [F.I 2 (by decide), F.I 20 (by decide), F.I 22 (by decide), F.I 34 (by decide), F.I 14 (by decide), F.I 28 (by decide), F.L 10 (by decide), F.R 6 (by decide), F.B 8 (by decide)]
  exact h
theorem CC.lc {w w' : kx_H} {S : kS} (h : CC w S) (F : LC w w') : CC w' S := by
  unfold CC
  simp only [F.I 410 (by decide), F.I 412 (by decide), F.I 414 (by decide), F.B 406 (by decide), F.B 408 (by decide)]
  exact h
theorem CGt.lc {w w' : kx_H} {S : kS} (h : CGt w S) (F : LC w w') : CGt w' S := by
  unfold CGt
  simp only [F.I 606 (by decide), F.I 608 (by decide), F.R 610 (by decide)]
  exact h
theorem CQ.lc {w w' : kx_H} {st : Nat → Int32} {Q : List kQ} {fp tp : List Nat} {n : Nat} (h : CQ w st Q fp tp n) (F : LC w w') : CQ w' st Q fp tp n := by
  unfold CQ
  simp only [F.I 808 (by decide), F.I 1004 (by decide), F.L 806 (by decide), F.R 800 (by decide), F.R 816 (by decide), F.R 1210 (by decide), F.R 30 (by decide), F.R 810 (by decide), F.R 812 (by decide), F.R 814 (by decide), F.R 1000 (by decide), F.R 1002 (by decide), kRow]
  exact h
theorem CTo.lc {w w' : kx_H} {mt : List kMt} {tp : List Nat} (h : CTo w mt tp) (F : LC w w') : CTo w' mt tp := by
  unfold CTo
  simp only [F.I 808 (by decide), F.L 806 (by decide), F.R 1043 (by decide), F.R 802 (by decide), F.B 804 (by decide)]
  exact h
theorem CV.lc {w w' : kx_H} {mv : List (Nat × Int64)} {V : List (Nat × Int64 × Nat)} {fv : List Nat} (h : CV w mv V fv) (F : LC w w') : CV w' mv V fv := by
  unfold CV
  simp only [F.L 1600 (by decide), F.R 1602 (by decide), F.R 416 (by decide), F.R 418 (by decide), F.R 24 (by decide)]
  exact h
theorem CA.lc {w w' : kx_H} {me : List kMe} {A : List (Nat × kMe)} {ft : List Nat} (h : CA w me A ft) (F : LC w w') : CA w' me A ft := by
  unfold CA
  simp only [F.L 1400 (by decide), F.R 1406 (by decide), F.R 200 (by decide), F.R 202 (by decide), F.R 1402 (by decide), F.R 1404 (by decide)]
  exact h
theorem CR.lc {w w' : kx_H} {S : kS} {n : Nat} (H : CR w S n) (F : LC w w') : CR w' S n := by
  obtain ⟨Q, fp, tp, V, fv, A, ft, H⟩ := H
  exact ⟨Q, fp, tp, V, fv, A, ft, CK.lc H.k F, CT.lc H.t F, CS.lc H.s F, CC.lc H.c F, CGt.lc H.g F, CQ.lc H.q F, CTo.lc H.o F, H.rd, H.mo, H.sn, CV.lc H.v F, H.a.imp id (fun h => CA.lc h F)⟩
theorem SH.lm {w w' : kx_H} (h : SH w) (F : LM w w') : SH w' := by
  unfold SH
  simp only [F.R 1808 (by decide), F.R 1810 (by decide), F.R 1812 (by decide), F.R 1814 (by decide), F.R 1816 (by decide), F.R 1818 (by decide), F.R 1820 (by decide), F.R 1824 (by decide), F.R 1826 (by decide), F.R 1828 (by decide), F.R 1830 (by decide), F.R 1836 (by decide), F.R 1838 (by decide), F.R 1842 (by decide), F.R 1844 (by decide), F.R 1846 (by decide), F.R 1848 (by decide), F.R 1850 (by decide), F.R 1854 (by decide), F.R 1856 (by decide), F.R 1858 (by decide), F.R 1862 (by decide), F.R 1864 (by decide), F.R 1866 (by decide), F.R 1870 (by decide), F.R 1872 (by decide), F.R 1874 (by decide), F.R 1878 (by decide), F.R 1880 (by decide), F.N]
  exact h
theorem aIr : ∀ k ∈ aI, 1800 ≤ k ∧ k ≤ 8786 := by decide
theorem aBr : ∀ k ∈ aB, 1800 ≤ k ∧ k ≤ 8786 := by decide
theorem MR.lm {w w' : kx_H} {S : kS} (M : MR w S) (F : LM w w') : MR w' S := ⟨SH.lm M.sh F, (congrFun (F.I 1800 (by decide)) 4363).trans M.th, (congrFun (F.I 1802 (by decide)) 4363).trans M.cu, (congrFun (F.I 1804 (by decide)) 4363).trans M.st, (congrFun (F.L 1806 (by decide)) 4363).trans M.ck, ⟨fun k hk => (F.I k (aIr k hk)).trans (M.ag.1 k hk), (F.L 8735 (by decide)).trans M.ag.2.1, fun k hk => (F.B k (aBr k hk)).trans (M.ag.2.2 k hk)⟩, Lrd.cong M.rd (F.I 1822 (by decide)) (F.I 8743 (by decide)), (congrFun (F.I 1832 (by decide)) 4363).trans M.rm, Lmv.cong M.mv (F.I 1834 (by decide)) (F.I 8751 (by decide)) (F.L 8753 (by decide)), Lmo.cong M.mo (F.I 1840 (by decide)) (F.I 8755 (by decide)) (F.I 8757 (by decide)) (F.B 8759 (by decide)) (F.L 8761 (by decide)) (F.I 8763 (by decide)), Lmt.cong M.mt (F.I 1852 (by decide)) (F.I 8765 (by decide)) (F.B 8767 (by decide)) (F.L 8769 (by decide)), (congrFun (F.I 1860 (by decide)) 4363).trans M.ga, Lsn.cong M.sn (F.I 1868 (by decide)) (F.I 8777 (by decide)) (F.I 8779 (by decide)) (F.B 8781 (by decide)), Lme.cong M.me (F.I 1876 (by decide)) (F.I 8783 (by decide)) (F.L 8785 (by decide)), (congrFun (F.I 1882 (by decide)) 4363).trans M.al⟩
theorem FM.lc {w w' : kx_H} (F : FM w w') : LC w w' := ⟨fun k hk => F.i k (Or.inl hk), fun k hk => F.l k (Or.inl hk), fun k _ => congrFun F.r k, fun k hk => F.b k (Or.inl hk), F.n⟩
/-- what a helper of the law leaves as it is -/
def FO (w w' : kx_H) : Prop := LM w w' ∧ hp_I w' 1 = hp_I w 1 ∧ hp_C w' ≤ hp_C w + 1 ∧ hp_U w' ≤ hp_U w + 6
theorem FB.lm {w w' : kx_H} (F : FB w w') : LM w w' := ⟨fun k hk => F.1 k (Or.inl hk.1), fun k hk => F.2.1 k (Or.inl hk.1), fun k hk => F.2.2.1 k (Or.inl hk.1), fun k hk => F.2.2.2.1 k (Or.inl hk.1), F.2.2.2.2.2.1⟩
theorem FB.fo {w w' : kx_H} (F : FB w w') : FO w w' := ⟨F.lm, F.1 1 (Or.inr rfl), F.2.2.2.2.2.2.2.1, F.2.2.2.2.2.2.2.2⟩
theorem sL_row {k : Nat} (w : kx_H) (v : Int64) (h : k ≠ 8787) : hp_L (hp_sL w 8787 0 v) k = hp_L w k := by
  funext j
  rw [hL_L, if_neg (fun e => h e.1)]
theorem LM.out {w w' : kx_H} (F : LM w w') (v : Int64) : LM w (hp_sL w' 8787 0 v) := ⟨F.1, fun k hk => (sL_row w' v (by omega)).trans (F.L k hk), F.2.2.1, F.2.2.2.1, F.N⟩
theorem FO.out {w w' : kx_H} (F : FO w w') (v : Int64) : FO w (hp_sL w' 8787 0 v) := ⟨F.1.out v, F.2.1, F.2.2.1, F.2.2.2⟩
theorem LC.out (w : kx_H) (v : Int64) : LC w (hp_sL w 8787 0 v) := ⟨fun _ _ => rfl, fun k hk => sL_row w v (by omega), fun _ _ => rfl, fun _ _ => rfl, rfl⟩
/-- what holds of the law's round -/
def LI (L : Nat) (xs : Nat → Int32) (n : Nat) (w : kx_H) (S : kS) : Prop := CR w S n ∧ MR w S ∧ FI S n ∧ hp_N w 0 = L ∧ hp_I w 1 = xs ∧ hp_N w 4393 = 1 ∧ hp_C w ≤ 100000 + n ∧ hp_U w ≤ 1000000 + 6 * n
theorem LI.rm {L n : Nat} {xs : Nat → Int32} {w : kx_H} {S : kS} (h : LI L xs n w S) (hn : n ≤ 512) : rmOK w := by
  obtain ⟨-, -, -, -, -, -, h7, h8⟩ := h
  unfold rmOK kx_cc kx_cs
  omega
/-- behind the class's and the model's call -/
theorem LI.next {L n m : Nat} {xs : Nat → Int32} {w w1 w2 : kx_H} {S P : kS} (h : LI L xs n w S) (hC : CR w1 P m) (hm : m ≤ n + 1) (F1 : FO w w1) (hM : MR w2 P) (F2 : FM w1 w2) (hF : FI P (n + 1)) : LI L xs (n + 1) w2 P := by
  obtain ⟨h1, h2, h3, h4, h5, h6, h7, h8⟩ := h
  obtain ⟨f1, f2, f3, f4⟩ := F1
  refine ⟨(hC.mono hm).lc F2.lc, hM, hF, ?_, ?_, ?_, ?_, ?_⟩
  · rw [F2.n, f1.N]; exact h4
  · rw [F2.i 1 (Or.inl (by omega)), f2]; exact h5
  · rw [F2.n, f1.N]; exact h6
  · rw [F2.c]; omega
  · rw [F2.u]; omega
