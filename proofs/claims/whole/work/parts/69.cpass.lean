/-! what a channel takes or gives at once; what passes; all are woken -/
theorem CR.k {w : kx_H} {S : kS} {n : Nat} (H : CR w S n) : CK w := by obtain ⟨_, _, _, _, _, _, _, H⟩ := H; exact CX.k H
theorem CR.t {w : kx_H} {S : kS} {n : Nat} (H : CR w S n) : CT w S.m := by obtain ⟨_, _, _, _, _, _, _, H⟩ := H; exact CX.t H
theorem CR.s {w : kx_H} {S : kS} {n : Nat} (H : CR w S n) : CS w S := by obtain ⟨_, _, _, _, _, _, _, H⟩ := H; exact CX.s H
theorem CR.c {w : kx_H} {S : kS} {n : Nat} (H : CR w S n) : CC w S := by obtain ⟨_, _, _, _, _, _, _, H⟩ := H; exact CX.c H
theorem CR.g {w : kx_H} {S : kS} {n : Nat} (H : CR w S n) : CGt w S := by obtain ⟨_, _, _, _, _, _, _, H⟩ := H; exact CX.g H
section CP
variable {w w' : kx_H} {S S' : kS} {t g n d c : Nat} {x how st k : Int32} {v val : Int64} {f b : Bool}
def tkAt (S : kS) (c : Nat) : Bool := !sClosed S c && ((sFst S c false).isSome || decide (i32 (sCnt S c) < sRoom S c))
def gvAt (S : kS) (c : Nat) : Bool := sClosed S c || decide (0 < sCnt S c) || (sFst S c true).isSome
theorem i01 : ((0 : Int32) = 1) = False := by decide
theorem C_takes (H : CR w S n) (hc : c < 512) : kx_ev wx_M (d + 1) 33 [kx_r 0 (some 1), kx_r 2 (some (1035 + 3 * c))] w = some (.inl (some (.inl (kx_b (tkAt S c)))), w) := by
  have k4 := (H.k.c c hc).2.2.2
  have k18 := H.k.d.2.2.2.2.1
  have ro := H.c.ro c hc
  have he := H.c.he c hc
  have cl := H.c.cl c hc
  have hne : (some (1035 + 3 * c) = some 518) = False := by simp; omega
  unfold tkAt
  obtain ⟨ψ, hψ⟩ := kx_fu
  rw [mE_33 hψ]
  unfold mb_33_0
  simp only [ob_s, k4, ro, he, k18, hne, if_false, cl, kx_b_0, me_33_21, mb_33_21, me_33_26, mb_33_26, me_33_50, mb_33_50, me_33_51, mb_33_51]
  have e1 : hp_B S.m 8747 c = sClosed S c := rfl
  have e2 : hp_I S.m 8749 c = sRoom S c := rfl
  rw [e2]
  simp only [e1]
  cases hf : sFst S c false with
  | none =>
    have h1 : hp_R w 1000 (1037 + 3 * c) = none := C_none (r := false) H hc hf
    by_cases h2 : sRoom S c ≤ i32 (sCnt S c)
    · have h3 : ¬ i32 (sCnt S c) < sRoom S c := by rw [nlt_le]; exact h2
      cases hcl : sClosed S c <;> simp [h1, h2, h3, kx_b]
    · have h3 : i32 (sCnt S c) < sRoom S c := by rw [← nle_lt]; exact h2
      cases hcl : sClosed S c <;> simp [h1, h2, h3, kx_b]
  | some e =>
    obtain ⟨p, h1, -⟩ := C_met (d := d) (r := false) H hc hf
    have h1' : hp_R w 1000 (1037 + 3 * c) = some p := h1
    cases hcl : sClosed S c <;> simp [h1', kx_b]
theorem C_takes0 (H : CR w S n) : kx_ev wx_M (d + 1) 33 [kx_r 0 (some 1), kx_r 2 (some 518)] w = some (.inl (some (.inl 0)), w) := by
  have k4 := H.k.nw.2.2
  have k18 := H.k.d.2.2.2.2.1
  obtain ⟨n1, n2, n3⟩ := H.c.nw
  obtain ⟨ψ, hψ⟩ := kx_fu
  rw [mE_33 hψ]
  unfold mb_33_0
  simp only [ob_s, k4, k18, if_true, n2, n3, me_33_21, mb_33_21, me_33_26, mb_33_26, me_33_50, mb_33_50, me_33_51, mb_33_51]
  simp
theorem C_gives (H : CR w S n) (hc : c < 512) (hv : S.mv.length ≤ 8192) : kx_ev wx_M (d + 1) 51 [kx_r 0 (some 1), kx_r 2 (some (1035 + 3 * c))] w = some (.inl (some (.inl (kx_b (gvAt S c)))), w) := by
  have k4 := (H.k.c c hc).2.2.1
  have k18 := H.k.d.2.2.2.2.1
  have he := H.c.he c hc
  have cl := H.c.cl c hc
  have hl := sCnt_le S c
  have hne : (some (1035 + 3 * c) = some 518) = False := by simp; omega
  have hp : (0 < i32 (sCnt S c)) = (0 < sCnt S c) := by
    have := i32_lt (a := 0) (b := sCnt S c) (by omega) (by omega)
    rw [show i32 0 = 0 from rfl] at this
    exact this
  unfold gvAt
  obtain ⟨ψ, hψ⟩ := kx_fu
  rw [mE_51 hψ]
  unfold mb_51_0
  simp only [ob_s, k4, he, k18, hne, if_false, cl, kx_b_0, hp, me_51_17, mb_51_17, me_51_22, mb_51_22, me_51_42, mb_51_42, me_51_46, mb_51_46, me_51_47, mb_51_47]
  have e1 : hp_B S.m 8747 c = sClosed S c := rfl
  simp only [e1]
  cases hf : sFst S c true with
  | none =>
    have h1 : hp_R w 1000 (1036 + 3 * c) = none := C_none (r := true) H hc hf
    by_cases h2 : 0 < sCnt S c
    · cases hcl : sClosed S c <;> simp [h1, h2, kx_b]
    · cases hcl : sClosed S c <;> simp [h1, h2, kx_b]
  | some e =>
    obtain ⟨p, h1, -⟩ := C_met (d := d) (r := true) H hc hf
    have h1' : hp_R w 1000 (1036 + 3 * c) = some p := h1
    by_cases h2 : 0 < sCnt S c
    · cases hcl : sClosed S c <;> simp [h1', h2, kx_b]
    · cases hcl : sClosed S c <;> simp [h1', h2, kx_b]
theorem C_gives0 (H : CR w S n) : kx_ev wx_M (d + 1) 51 [kx_r 0 (some 1), kx_r 2 (some 518)] w = some (.inl (some (.inl 0)), w) := by
  have k4 := H.k.nw.2.1
  have k18 := H.k.d.2.2.2.2.1
  obtain ⟨n1, n2, n3⟩ := H.c.nw
  obtain ⟨ψ, hψ⟩ := kx_fu
  rw [mE_51 hψ]
  unfold mb_51_0
  simp only [ob_s, k4, k18, if_true, n2, n3, me_51_17, mb_51_17, me_51_22, mb_51_22, me_51_42, mb_51_42, me_51_46, mb_51_46, me_51_47, mb_51_47]
  simp
/-- TaskDesk.pass -/
theorem C_pass (H : CR w S n) (hc : c < 512) (hl : S.mv.length < 512) : ∃ w', kx_ev wx_M (d + 4) 34 [kx_r 0 (some 1), kx_r 2 (some (1035 + 3 * c)), kx_l v] w = some (.inl none, w') ∧ CR w' (sDel S c v) n ∧ FC w w' := by
  have k4 := (H.k.c c hc).2.2.2
  unfold sDel
  cases hf : sFst S c false with
  | none =>
    have h1 : hp_R w 1000 (1037 + 3 * c) = none := C_none (r := false) H hc hf
    obtain ⟨Q, fp, tp, V, fv, A, ft, H⟩ := H
    obtain ⟨w', V', fv', a1, H1, F1⟩ := C_put (d := d + 1) (v := v) H hc hl
    refine ⟨w', ?_, H1.cr, FC.of F1 (by decide) (by decide) (by decide) (by decide)⟩
    obtain ⟨ψ, hψ⟩ := kx_fu
    rw [mE_34 hψ]
    unfold mb_34_0
    simp only [ob_s, k4, h1, if_true, a1, bv_n, me_34_32, mb_34_32]
  | some e =>
    obtain ⟨p, h1, -, -, h4⟩ := C_met (d := d) (r := false) H hc hf
    have h1' : hp_R w 1000 (1037 + 3 * c) = some p := h1
    obtain ⟨w', a1, H1, F1⟩ := h4 v true false
    rw [kx_b_t, kx_b_f] at a1
    refine ⟨w', ?_, H1, F1⟩
    obtain ⟨ψ, hψ⟩ := kx_fu
    rw [mE_34 hψ]
    unfold mb_34_0
    simp only [ob_s, k4, h1', reduceCtorEq, if_false, a1, bv_n, me_34_32, mb_34_32]
theorem kx_ext {a b : kx_H} (h1 : hp_I a = hp_I b) (h2 : hp_L a = hp_L b) (h3 : hp_R a = hp_R b) (h4 : hp_B a = hp_B b) (h5 : hp_T a = hp_T b) (h6 : hp_N a = hp_N b) (h7 : hp_X a = hp_X b) (h8 : hp_C a = hp_C b) (h9 : hp_U a = hp_U b) : a = b :=
  Prod.ext h5 (Prod.ext h1 (Prod.ext h2 (Prod.ext h3 (Prod.ext h4 (Prod.ext h6 (Prod.ext h7 (Prod.ext h8 h9)))))))
/-- what one task has and who else is woken may change places -/
theorem has_comm (m : kx_H) {t q : Nat} (h : t ≠ q) (v v' : Int64) (f f' b b' : Bool) (k k' : Int32) :
    hp_sB (hp_sI (hp_sB (hp_sL (hp_sI (hp_sI (hp_sB (hp_sI (hp_sB (hp_sL m 8735 q v') 8737 q f') 8739 q k') 8741 q b') 8731 q 1) 8733 q (-1)) 8735 t v) 8737 t f) 8739 t k) 8741 t b =
    hp_sI (hp_sI (hp_sB (hp_sI (hp_sB (hp_sL (hp_sB (hp_sI (hp_sB (hp_sL m 8735 t v) 8737 t f) 8739 t k) 8741 t b) 8735 q v') 8737 q f') 8739 q k') 8741 q b') 8731 q 1) 8733 q (-1) := by
  refine kx_ext ?_ ?_ rfl ?_ rfl rfl rfl rfl rfl
  · funext a j
    simp only [hI_I, hI_L, hI_R, hI_B, hI_b, hL_I, hL_L, hL_R, hL_B, hL_b, hR_I, hR_L, hR_R, hR_B, hR_b, hB_I, hB_L, hB_R, hB_B, hB_b, hN_I, hN_L, hN_R, hN_B, hN_b, hT_I, hT_L, hT_R, hT_B, hT_b, hX_I, hX_L, hX_R, hX_B, hX_b, hC_I, hC_L, hC_R, hC_B, hC_b, hU_I, hU_L, hU_R, hU_B, hU_b]
    by_cases h1 : a = 8739
    · subst h1
      by_cases h2 : j = t
      · subst h2; simp [h]
      · simp [h2]
    · simp [h1]
  · funext a j
    simp only [hI_I, hI_L, hI_R, hI_B, hI_b, hL_I, hL_L, hL_R, hL_B, hL_b, hR_I, hR_L, hR_R, hR_B, hR_b, hB_I, hB_L, hB_R, hB_B, hB_b, hN_I, hN_L, hN_R, hN_B, hN_b, hT_I, hT_L, hT_R, hT_B, hT_b, hX_I, hX_L, hX_R, hX_B, hX_b, hC_I, hC_L, hC_R, hC_B, hC_b, hU_I, hU_L, hU_R, hU_B, hU_b]
    by_cases h1 : a = 8735
    · subst h1
      by_cases h2 : j = t
      · subst h2; simp [h]
      · simp [h2]
    · simp [h1]
  · funext a j
    simp only [hI_I, hI_L, hI_R, hI_B, hI_b, hL_I, hL_L, hL_R, hL_B, hL_b, hR_I, hR_L, hR_R, hR_B, hR_b, hB_I, hB_L, hB_R, hB_B, hB_b, hN_I, hN_L, hN_R, hN_B, hN_b, hT_I, hT_L, hT_R, hT_B, hT_b, hX_I, hX_L, hX_R, hX_B, hX_b, hC_I, hC_L, hC_R, hC_B, hC_b, hU_I, hU_L, hU_R, hU_B, hU_b]
    by_cases h1 : a = 8737
    · subst h1
      by_cases h2 : j = t
      · subst h2; simp [h]
      · simp [h2]
    · by_cases h3 : a = 8741
      · subst h3
        by_cases h2 : j = t
        · subst h2; simp [h]
        · simp [h2]
      · simp [h1, h3]
theorem has_met {e : kMo} {v' : Int64} {f' b' : Bool} (h : t ≠ e.1) : sHas (sMet S e v' f' b') t v f k b = sMet (sHas S t v f k b) e v' f' b' := by
  have hm := has_comm S.m h v v' f f' b b' k e.2.2.2.2
  have e1 : sHas (sMet S e v' f' b') t v f k b = ((S.s_mo (S.mo.filter (fun q => q.1 != e.1))).s_rd (S.rd ++ [e.1])).s_m (hp_sB (hp_sI (hp_sB (hp_sL (hp_sI (hp_sI (hp_sB (hp_sI (hp_sB (hp_sL S.m 8735 e.1 v') 8737 e.1 f') 8739 e.1 e.2.2.2.2) 8741 e.1 b') 8731 e.1 1) 8733 e.1 (-1)) 8735 t v) 8737 t f) 8739 t k) 8741 t b) := rfl
  rw [e1, hm]
  rfl
/-- TaskDesk.receiveNow -/
theorem C_recvNow (H : CR w S n) (hc : c < 512) (hl : S.mv.length < 512) (ht : t < 256) (h0 : stt S t = 0) : ∃ w', kx_ev wx_M (d + 4) 52 [kx_r 0 (some 1), kx_r 6 (some (524 + 2 * t)), kx_r 2 (some (1035 + 3 * c)), kx_i k] w = some (.inl none, w') ∧ CR w' (sTake S t c k) n ∧ FC w w' := by
  have k4 := (H.k.c c hc).2.2.1
  have he := H.c.he c hc
  have hcl := sCnt_le S c
  have hp : (0 < i32 (sCnt S c)) = (0 < sCnt S c) := by
    have := i32_lt (a := 0) (b := sCnt S c) (by omega) (by omega)
    rw [show i32 0 = 0 from rfl] at this
    exact this
  have hp2 := i32_p0 (k := sCnt S c) (by omega)
  unfold sTake
  cases hf : sFst S c true with
  | none =>
    have h1 : hp_R w 1000 (1036 + 3 * c) = none := C_none (r := true) H hc hf
    obtain ⟨Q, fp, tp, V, fv, A, ft, H⟩ := H
    by_cases h2 : 0 < sCnt S c
    · obtain ⟨w1, V1, fv1, a1, H1, F1⟩ := C_tk (d := d + 1) H hc h2
      obtain ⟨w2, a2, H2, F2⟩ := C_tell (d := d + 2) (t := t) (v := sTkV S c) (f := true) (x := k) (b := false) H1 ht
      rw [kx_b_t, kx_b_f] at a2
      simp only [if_pos h2]
      refine ⟨w2, ?_, H2.cr, (FC.of F1 (by decide) (by decide) (by decide) (by decide)).tr (FC.of F2 (by decide) (by decide) (by decide) (by decide))⟩
      obtain ⟨ψ, hψ⟩ := kx_fu
      rw [mE_52 hψ]
      unfold mb_52_0
      simp only [ob_s, k4, h1, he, hp, hp2, h2, not_true, if_true, if_false, me_52_21, mb_52_21, me_52_26, mb_52_26, a1, bl_n, me_52_75, mb_52_75, me_52_89, mb_52_89, a2, bv_n]
    · obtain ⟨w2, a2, H2, F2⟩ := C_tell (d := d + 2) (t := t) (v := 0) (f := false) (x := k) (b := false) H ht
      rw [kx_b_f] at a2
      simp only [if_neg h2]
      refine ⟨w2, ?_, H2.cr, FC.of F2 (by decide) (by decide) (by decide) (by decide)⟩
      obtain ⟨ψ, hψ⟩ := kx_fu
      rw [mE_52 hψ]
      unfold mb_52_0
      simp only [ob_s, k4, h1, he, hp, hp2, h2, not_false_eq_true, if_true, if_false, me_52_21, mb_52_21, me_52_26, mb_52_26, me_52_75, mb_52_75, me_52_89, mb_52_89, a2, bv_n]
  | some e =>
    have hte : t ≠ e.1 := fun z => by
      obtain ⟨Q, fp, tp, V, fv, A, ft, H⟩ := H
      have := st_mo H (sFst_mem hf).1
      rw [← z, h0] at this
      revert this; decide
    obtain ⟨p, h1, h3, -, -⟩ := C_met (d := d) (r := true) H hc hf
    have h1' : hp_R w 1000 (1036 + 3 * c) = some p := h1
    have h3' := h3 rfl
    by_cases h2 : 0 < sCnt S c
    · obtain ⟨Q, fp, tp, V, fv, A, ft, H⟩ := H
      obtain ⟨w1, V1, fv1, a1, H1, F1⟩ := C_tk (d := d + 1) H hc h2
      have h806 : hp_L w1 806 p = e.2.2.2.1 := by rw [F1.L 806 (by decide)]; exact h3'
      obtain ⟨w2, V2, fv2, a2, H2, F2⟩ := C_put (d := d + 1) (c := c) (v := e.2.2.2.1) H1 hc (Nat.lt_of_le_of_lt (List.eraseP_sublist.length_le) hl)
      have hf2 : sFst (sStore (sTkF S c) c e.2.2.2.1) c true = some e := hf
      obtain ⟨p2, g1, -, -, g4⟩ := C_met (d := d) (r := true) H2.cr hc hf2
      have hpp : p2 = p := by
        have e1 : hp_R w2 1000 (1036 + 3 * c) = some p2 := g1
        rw [F2.R 1000 (by decide), F1.R 1000 (by decide), h1'] at e1
        exact (Option.some.inj e1).symm
      subst hpp
      obtain ⟨w3, a3, H3, F3⟩ := g4 0 true false
      obtain ⟨Q', fp', tp', V', fv', A', ft', H3⟩ := H3
      obtain ⟨w4, a4, H4, F4⟩ := C_tell (d := d + 2) (t := t) (v := sTkV S c) (f := true) (x := k) (b := false) H3 ht
      rw [has_met hte] at H4
      rw [kx_b_t, kx_b_f] at a3 a4
      simp only [if_pos h2]
      refine ⟨w4, ?_, H4.cr, (FC.of F1 (by decide) (by decide) (by decide) (by decide)).tr ((FC.of F2 (by decide) (by decide) (by decide) (by decide)).tr (F3.tr (FC.of F4 (by decide) (by decide) (by decide) (by decide))))⟩
      obtain ⟨ψ, hψ⟩ := kx_fu
      rw [mE_52 hψ]
      unfold mb_52_0
      simp only [ob_s, k4, h1', he, hp, hp2, h2, not_true, if_true, if_false, me_52_21, mb_52_21, me_52_26, mb_52_26, a1, bl_n, reduceCtorEq, h806, a2, bv_n, me_52_75, mb_52_75, a3, me_52_89, mb_52_89, a4]
    · obtain ⟨p2, g1, -, -, g4⟩ := C_met (d := d) (r := true) H hc hf
      have hpp : p2 = p := by
        rw [h1] at g1
        exact (Option.some.inj g1).symm
      subst hpp
      obtain ⟨w3, a3, H3, F3⟩ := g4 0 true false
      obtain ⟨Q', fp', tp', V', fv', A', ft', H3⟩ := H3
      obtain ⟨w4, a4, H4, F4⟩ := C_tell (d := d + 2) (t := t) (v := e.2.2.2.1) (f := true) (x := k) (b := false) H3 ht
      rw [has_met hte] at H4
      rw [kx_b_t, kx_b_f] at a3 a4
      simp only [if_neg h2]
      refine ⟨w4, ?_, H4.cr, F3.tr (FC.of F4 (by decide) (by decide) (by decide) (by decide))⟩
      obtain ⟨ψ, hψ⟩ := kx_fu
      rw [mE_52 hψ]
      unfold mb_52_0
      simp only [ob_s, k4, h1', he, hp, hp2, h2, not_false_eq_true, if_true, if_false, me_52_21, mb_52_21, me_52_26, mb_52_26, reduceCtorEq, h3', bv_n, me_52_75, mb_52_75, a3, me_52_89, mb_52_89, a4]
theorem cnt_lt {l : List kMo} {e : kMo} {p : kMo → Bool} (he : e ∈ l) (hp : p e = true) : (l.filter (fun q => q.1 != e.1)).countP p < l.countP p := by
  induction l with
  | nil => simp at he
  | cons a l ih =>
    by_cases hae : a.1 = e.1
    · rw [List.filter_cons_of_neg (by simp [hae])]
      have h1 : (l.filter (fun q => q.1 != e.1)).countP p ≤ l.countP p := (List.filter_sublist).countP_le
      by_cases ha : p a = true
      · rw [List.countP_cons_of_pos ha]
        omega
      · rw [List.countP_cons_of_neg ha]
        rcases List.mem_cons.mp he with rfl | he
        · exact absurd hp ha
        · exact ih he
    · rw [List.filter_cons_of_pos (by simp [hae])]
      rcases List.mem_cons.mp he with rfl | he
      · exact absurd rfl hae
      · have := ih he
        rw [List.countP_cons, List.countP_cons]
        omega
theorem em1 (k : Nat) : i32 (k + 1) + -1 = i32 k := by
  have : i32 (k + 1) + -1 = i32 (k + 1) - 1 := (Int32.sub_eq_add_neg _ _).symm
  rw [this, i32_sub1]
/-- TaskDesk.wakeAll at a channel -/
theorem C_all_l {C : kx_C} (hC : C = kx_ev wx_M (d + 3)) {r : Bool} (hc : c < 512) : ∀ L F w (S : kS) k, CR w S n → S.mo.countP (oAt c r) ≤ L → L < 1000 → S.mo.length ≤ k → L + 2 ≤ F →
    ∃ w', kx_ex (wm_54 (d + 3) C) F 6 [(0, kx_r 0 (some 1)), (1, kx_r 5 (some (lrw (some (.inl (some c, r)))))), (2, kx_i (kx_b f)), (3, kx_i (kx_b b)), (4, kx_i (i32 L))] [] w = some (.inl none, w') ∧ CR w' (sAll k S c r f b) n ∧ FC w w' := by
  have stop : ∀ (S : kS) k, sFst S c r = none → sAll k S c r f b = S := by
    intro S k h
    cases k with
    | zero => rfl
    | succ k => unfold sAll; rw [h]
  intro L
  induction L with
  | zero =>
    intro F w S k H hL hL2 hk hF
    obtain ⟨F, rfl⟩ : ∃ f', F = f' + 1 + 1 := ⟨F - 2, by omega⟩
    have hn : sFst S c r = none := by
      unfold sFst
      rw [List.find?_eq_none]
      have : S.mo.countP (oAt c r) = 0 := by omega
      exact List.countP_eq_zero.mp this
    rw [stop S k hn]
    refine ⟨w, ?_, H, FC.rf⟩
    rw [me_54_6]
    unfold mb_54_6
    rw [if_pos (show i32 0 ≤ 0 by decide), me_54_35]
    unfold mb_54_35
    rfl
  | succ L ih =>
    intro F w S k H hL hL2 hk hF
    obtain ⟨F, rfl⟩ : ∃ f', F = f' + 1 + 1 := ⟨F - 2, by omega⟩
    cases hf : sFst S c r with
    | none =>
      rw [stop S k hf]
      refine ⟨w, ?_, H, FC.rf⟩
      have h1 := C_none H hc hf
      rw [me_54_6]
      unfold mb_54_6
      simp only [ob_s, h1, if_true, ite_self, me_54_35, mb_54_35]
    | some e =>
      obtain ⟨hem, he1, he2⟩ := sFst_mem hf
      have hlt : 0 < S.mo.length := List.length_pos_of_mem hem
      obtain ⟨k, rfl⟩ : ∃ k', k = k' + 1 := ⟨k - 1, by omega⟩
      obtain ⟨p, h1, -, -, h4⟩ := C_met (d := d) H hc hf
      obtain ⟨w1, a1, H1, F1⟩ := h4 0 f b
      have hcl := cnt_lt (p := oAt c r) hem (by simp [oAt, he1, he2])
      have hml := met_lt (S := S) (v := 0) (f := f) (b := b) hem
      obtain ⟨w', r1, r2, r3⟩ := ih (F + 1) w1 (sMet S e 0 f b) k H1 (by show (S.mo.filter (fun q => q.1 != e.1)).countP (oAt c r) ≤ L; omega) (by omega) (by omega) (by omega)
      have es : sAll (k + 1) S c r f b = sAll k (sMet S e 0 f b) c r f b := by
        conv => lhs; unfold sAll
        rw [hf]
      rw [es]
      refine ⟨w', ?_, r2, F1.tr r3⟩
      rw [me_54_6]
      unfold mb_54_6
      rw [if_neg (show ¬ i32 (L + 1) ≤ 0 by rw [i32_p0 (by omega)]; simp)]
      rw [← hC] at a1
      simp only [ob_s, h1, reduceCtorEq, if_false, a1, bv_n]
      rw [em1]
      exact r1
theorem C_all {r : Bool} (H : CR w S n) (hc : c < 512) (hm : S.mo.length < 1000) : ∃ w', kx_ev wx_M (d + 4) 54 [kx_r 0 (some 1), kx_r 5 (some (lrw (some (.inl (some c, r))))), kx_i (kx_b f), kx_i (kx_b b)] w = some (.inl none, w') ∧ CR w' (sAll S.mo.length S c r f b) n ∧ FC w w' := by
  obtain ⟨ψ, hψ⟩ := kx_fl 2000 (by omega)
  have hl := List.countP_le_length (p := oAt c r) (l := S.mo)
  obtain ⟨w', r1, r2, r3⟩ := C_all_l (d := d) (f := f) (b := b) rfl (r := r) hc (S.mo.countP (oAt c r)) (ψ + 2000) w S S.mo.length H (Nat.le_refl _) (by omega) (Nat.le_refl _) (by omega)
  refine ⟨w', ?_, r2, r3⟩
  rw [mE_54 hψ]
  unfold mb_54_0
  simp only [ob_s, len_mo H hc]
  exact r1
end CP
