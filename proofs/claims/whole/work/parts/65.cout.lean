/-! a task leaves its rows -/
section CO
variable {w w' : kx_H} {S S' : kS} {t g n d : Nat} {x how : Int32} {v : Int64} {f b : Bool} {Q : List kQ} {fp tp fv ft : List Nat} {V : List (Nat × Int64 × Nat)} {A : List (Nat × kMe)}
theorem ch_upd {f : Nat → Option Nat} {s : Option Nat} {l : List Nat} {p : Nat} {y : Option Nat} (h : ch f s l) (hp : p ∉ l) : ch (fun q => if q = p then y else f q) s l := h.upd (fun q hq => if_neg (fun e : q = p => hp (e ▸ hq)))
theorem L_out_l {C : kx_C} (hC : C = kx_ev wx_M (d + 1)) : ∀ (L : List Nat) (k F : Nat) (w : kx_H) (Q : List kQ) (x : Option Nat) (fp : List Nat), L.length ≤ k → k ≤ 16 → L.length + 2 ≤ F → kRow w (Qrl Q) → ch (hp_R w 816) x L → L.Nodup → ch (hp_R w 816) (hp_R w 30 1) fp → (∀ p ∈ L, p ∉ fp) →
    ∃ w', kx_ex (wm_36 (d + 1) C) F 20 [(0, kx_r 0 (some 1)), (2, kx_r 4 x), (3, kx_i (i32 k))] [] w = some (.inl none, w') ∧ kRow w' (Qrl (Q.filter (fun q => decide (q.2.1 ∉ L)))) ∧ ch (hp_R w' 816) (hp_R w' 30 1) (L.reverse ++ fp) ∧ (∀ p, p ∉ L → hp_R w' 816 p = hp_R w 816 p) ∧ (∀ p, p ∉ L → hp_R w' 810 p = hp_R w 810 p) ∧ FR [1004] [] [810, 812, 814, 1000, 1002, 816, 30] [] w w' := by
  intro L
  induction L with
  | nil =>
    intro k F w Q x fp hk hk16 hF K hx nd hf hd
    obtain ⟨F, rfl⟩ : ∃ f', F = f' + 1 + 1 := ⟨F - 2, by simp at hF; omega⟩
    have hx' : x = none := hx
    refine ⟨w, ?_, ?_, hf, fun _ _ => rfl, fun _ _ => rfl, FR.rf⟩
    · rw [me_36_20]
      unfold mb_36_20
      rw [hx', if_pos rfl, ite_self, me_36_52]
      unfold mb_36_52
      rfl
    · have e : Q.filter (fun q => decide (q.2.1 ∉ ([] : List Nat))) = Q := by
        rw [List.filter_eq_self]
        intro a _
        simp
      rw [e]
      exact K
  | cons p r ih =>
    intro k F w Q x fp hk hk16 hF K hx nd hf hd
    obtain ⟨F, rfl⟩ : ∃ f', F = f' + 1 := ⟨F - 1, by omega⟩
    obtain ⟨hx1, hx2⟩ := hx
    have hpr : p ∉ r := (List.nodup_cons.mp nd).1
    have hpf : p ∉ fp := hd p List.mem_cons_self
    obtain ⟨w2, s1, K2, s3, s4, F2⟩ := L_stepOut (d := d) (p := p) K
    rw [Qrl_out] at K2
    have e816 : hp_R w2 816 = hp_R w 816 := F2.R 816 (by decide)
    have e30 : hp_R w2 30 = hp_R w 30 := F2.R 30 (by decide)
    have F5 : FR [1004] [] [810, 812, 814, 1000, 1002, 816, 30] [] w2 (hp_sR (hp_sR w2 816 p (hp_R w2 30 1)) 30 1 (some p)) := FR.sR (by decide) (FR.sR (by decide) FR.rf)
    have c816 : ∀ q, hp_R (hp_sR (hp_sR w2 816 p (hp_R w2 30 1)) 30 1 (some p)) 816 q = if q = p then hp_R w 30 1 else hp_R w 816 q := by
      intro q
      by_cases hq : q = p <;> simp [hI_I, hI_L, hI_R, hI_B, hI_b, hL_I, hL_L, hL_R, hL_B, hL_b, hR_I, hR_L, hR_R, hR_B, hR_b, hB_I, hB_L, hB_R, hB_B, hB_b, hN_I, hN_L, hN_R, hN_B, hN_b, hT_I, hT_L, hT_R, hT_B, hT_b, hX_I, hX_L, hX_R, hX_B, hX_b, hC_I, hC_L, hC_R, hC_B, hC_b, hU_I, hU_L, hU_R, hU_B, hU_b, hq, e30, e816]
    have c30 : hp_R (hp_sR (hp_sR w2 816 p (hp_R w2 30 1)) 30 1 (some p)) 30 1 = some p := by simp [hI_I, hI_L, hI_R, hI_B, hI_b, hL_I, hL_L, hL_R, hL_B, hL_b, hR_I, hR_L, hR_R, hR_B, hR_b, hB_I, hB_L, hB_R, hB_B, hB_b, hN_I, hN_L, hN_R, hN_B, hN_b, hT_I, hT_L, hT_R, hT_B, hT_b, hX_I, hX_L, hX_R, hX_B, hX_b, hC_I, hC_L, hC_R, hC_B, hC_b, hU_I, hU_L, hU_R, hU_B, hU_b]
    have K5 : kRow (hp_sR (hp_sR w2 816 p (hp_R w2 30 1)) 30 1 (some p)) (Qrl (Q.filter (fun q => q.2.1 != p))) := by
      refine K2.cong ?_ ?_ ?_ ?_ ?_ ?_ <;> (funext j; simp [hI_I, hI_L, hI_R, hI_B, hI_b, hL_I, hL_L, hL_R, hL_B, hL_b, hR_I, hR_L, hR_R, hR_B, hR_b, hB_I, hB_L, hB_R, hB_B, hB_b, hN_I, hN_L, hN_R, hN_B, hN_b, hT_I, hT_L, hT_R, hT_B, hT_b, hX_I, hX_L, hX_R, hX_B, hX_b, hC_I, hC_L, hC_R, hC_B, hC_b, hU_I, hU_L, hU_R, hU_B, hU_b])
    obtain ⟨k, rfl⟩ : ∃ k', k = k' + 1 := ⟨k - 1, by simp at hk; omega⟩
    obtain ⟨w', r1, r2, r3, r4, r5, r6⟩ := ih k F (hp_sR (hp_sR w2 816 p (hp_R w2 30 1)) 30 1 (some p)) (Q.filter (fun q => q.2.1 != p)) (hp_R w 816 p) (p :: fp) (by simp at hk; omega) (by omega) (by simp at hF; omega) K5 (hx2.upd (fun q hq => by rw [c816, if_neg (fun e : q = p => hpr (e ▸ hq))])) (List.nodup_cons.mp nd).2 ⟨c30, by
      rw [c816, if_pos rfl]
      exact hf.upd (fun q hq => by rw [c816, if_neg (fun e : q = p => hpf (e ▸ hq))])⟩ (fun q hq hm => by
      rcases List.mem_cons.mp hm with rfl | hm
      · exact hpr hq
      · exact hd q (List.mem_cons_of_mem _ hq) hm)
    refine ⟨w', ?_, ?_, ?_, ?_, ?_, ((F2.mono (fun _ h => h) (fun _ h => h) (fun k h => by revert k; decide) (fun _ h => h)).tr F5).tr r6⟩
    · rw [me_36_20]
      unfold mb_36_20
      rw [if_neg (show ¬ i32 (k + 1) ≤ 0 by rw [i32_p0 (by omega)]; simp), hx1, if_neg (by simp)]
      have a10 : kx_ev wx_M (d + 1) 10 [kx_r 0 (some 1), kx_r 4 (some p)] w2 = some (.inl none, hp_sR (hp_sR w2 816 p (hp_R w2 30 1)) 30 1 (some p)) := by
        obtain ⟨ψ, hψ⟩ := kx_fu
        rw [mE_10 hψ]
        unfold mb_10_0
        simp only [ob_s]
      rw [← hC] at s1 a10
      simp only [ob_s, s1, bv_n, a10]
      have em : i32 (k + 1) + -1 = i32 k := by
        have : i32 (k + 1) + -1 = i32 (k + 1) - 1 := (Int32.sub_eq_add_neg _ _).symm
        rw [this, i32_sub1]
      rw [em]
      exact r1
    · have e : (Q.filter (fun q => q.2.1 != p)).filter (fun q => decide (q.2.1 ∉ r)) = Q.filter (fun q => decide (q.2.1 ∉ p :: r)) := by
        rw [List.filter_filter]
        apply List.filter_congr
        intro q _
        rw [Bool.eq_iff_iff]
        simp
        exact ⟨fun h => ⟨h.2, h.1⟩, fun h => ⟨h.2, h.1⟩⟩
      rw [← e]
      exact r2
    · rw [List.reverse_cons, List.append_assoc]
      exact r3
    · intro q hq
      rw [r4 q (fun h => hq (List.mem_cons_of_mem _ h)), c816, if_neg (fun e : q = p => hq (e ▸ List.mem_cons_self))]
    · intro q hq
      rw [r5 q (fun h => hq (List.mem_cons_of_mem _ h))]
      have : hp_R (hp_sR (hp_sR w2 816 p (hp_R w2 30 1)) 30 1 (some p)) 810 q = hp_R w2 810 q := by simp [hI_I, hI_L, hI_R, hI_B, hI_b, hL_I, hL_L, hL_R, hL_B, hL_b, hR_I, hR_L, hR_R, hR_B, hR_b, hB_I, hB_L, hB_R, hB_B, hB_b, hN_I, hN_L, hN_R, hN_B, hN_b, hT_I, hT_L, hT_R, hT_B, hT_b, hX_I, hX_L, hX_R, hX_B, hX_b, hC_I, hC_L, hC_R, hC_B, hC_b, hU_I, hU_L, hU_R, hU_B, hU_b]
      rw [this]
      exact s4 q (fun e => hq (e ▸ List.mem_cons_self))
theorem qIs_f {q : kQ} : qIs q = false ↔ q.2.1 = 523 + 2 * q.2.2.1 := by unfold qIs; simp
theorem qIs_t {q : kQ} : qIs q = true ↔ q.2.1 ≠ 523 + 2 * q.2.2.1 := by unfold qIs; simp
theorem CQ.plS {st : Nat → Int32} (h : CQ w st Q fp tp n) {q : kQ} (hq : q ∈ Q) : qIs q = true → isPL q.2.1 := by
  intro hi
  rcases h.pl q hq with ⟨h1, -⟩ | ⟨h1, -⟩
  · exact absurd h1 (qIs_t.mp hi)
  · exact h1
/-- the place says whose it is -/
theorem CQ.stP {st : Nat → Int32} (h : CQ w st Q fp tp n) {q : kQ} (hq : q ∈ Q) {t : Nat} (ht : t < 256) (e : q.2.1 = 523 + 2 * t) : q.2.2.1 = t ∧ qIs q = false := by
  have h1 : qIs q = false := by
    cases hi : qIs q with
    | false => rfl
    | true =>
      have := h.plS hq hi
      unfold isPL at this
      omega
  have h2 := qIs_f.mp h1
  have := (h.loc q hq).2.1
  exact ⟨by omega, h1⟩
theorem CQ.cas_m {st : Nat → Int32} (h : CQ w st Q fp tp n) {p : Nat} (hp : p ∈ qCas Q t) : ∃ q ∈ Q, q.2.1 = p ∧ q.2.2.1 = t ∧ qIs q = true := by
  unfold qCas at hp
  rw [List.mem_reverse] at hp
  obtain ⟨q, h1, h2⟩ := List.mem_map.mp hp
  obtain ⟨h3, h4⟩ := List.mem_filter.mp h1
  simp at h4
  exact ⟨q, h3, h2, h4.1, h4.2⟩
theorem nd_eq {α : Type} {f : α → Nat} {l : List α} (h : (l.map f).Nodup) {a b : α} (ha : a ∈ l) (hb : b ∈ l) (e : f a = f b) : a = b := by
  induction l with
  | nil => simp at ha
  | cons c l ih =>
    rw [List.map_cons, List.nodup_cons] at h
    rcases List.mem_cons.mp ha with rfl | ha' <;> rcases List.mem_cons.mp hb with rfl | hb'
    · rfl
    · exact absurd (List.mem_map.mpr ⟨b, hb', e.symm⟩) h.1
    · exact absurd (List.mem_map.mpr ⟨a, ha', e⟩) h.1
    · exact ih h.2 ha' hb'
/-- the state without t in its rows -/
def sNot (S : kS) (t : Nat) : kS := (kS.s_sn ((kS.s_mo ((kS.s_rd S (S.rd.filter (fun q => q != t)))) (S.mo.filter (fun e => e.1 != t)))) (S.sn.filter (fun e => e.1 != t)))
theorem Qrd_fl2 : (Q.filter (fun q => q.2.2.1 != t)).filterMap qRd = (Q.filterMap qRd).filter (fun e => e != t) := by
  induction Q with
  | nil => rfl
  | cons q Q ih =>
    have hm : ∀ e, qRd q = some e → e = q.2.2.1 := by
      obtain ⟨ql, qp, qt, qv, qk⟩ := q
      intro e he
      rcases ql with _ | a <;> cases he
      rfl
    cases h : qRd q with
    | none =>
      rw [fm_no h, ← ih]
      by_cases hq : q.2.2.1 = t
      · rw [List.filter_cons, if_neg (by simp [hq])]
      · rw [List.filter_cons, if_pos (by simp [hq]), fm_no h]
    | some e =>
      rw [List.filterMap_cons_some h]
      have he := hm e h
      by_cases hq : q.2.2.1 = t
      · rw [List.filter_cons, if_neg (by simp [hq]), List.filter_cons, if_neg (by rw [he]; simp [hq])]
        exact ih
      · rw [List.filter_cons, if_pos (by simp [hq]), List.filterMap_cons_some h, List.filter_cons, if_pos (by rw [he]; simp [hq]), ih]
theorem cas_ne (h : t ≠ g) : qCas (Q.filter (fun q => q.2.2.1 != t)) g = qCas Q g := by
  unfold qCas
  rw [List.filter_filter]
  congr 2
  apply List.filter_congr
  intro q _
  rw [Bool.eq_iff_iff]
  simp
  intro e _ e2
  exact h (e2.symm.trans e)
theorem cas_eq : qCas (Q.filter (fun q => q.2.2.1 != t)) t = [] := by
  unfold qCas
  rw [List.filter_filter]
  have : Q.filter (fun a => (a.2.2.1 == t && qIs a) && a.2.2.1 != t) = [] := by
    rw [List.filter_eq_nil_iff]
    intro q _
    simp
    intro e _
    exact e
  rw [this]
  rfl
/-- TaskDesk.takeOut, the rows alone -/
theorem C_outQ {st : Nat → Int32} (hq : CQ w st Q fp tp n) (hk : hp_R w 1202 (524 + 2 * t) = some (523 + 2 * t)) (ht : t < 256) : ∃ w', kx_ev wx_M (d + 2) 36 [kx_r 0 (some 1), kx_r 6 (some (524 + 2 * t))] w = some (.inl none, w') ∧ CQ w' st (Q.filter (fun q => q.2.2.1 != t)) ((qCas Q t).reverse ++ fp) tp n ∧ hp_R w' 810 (523 + 2 * t) = none ∧ FR [1004] [] [810, 812, 814, 1000, 1002, 816, 30, 1210] [] w w' := by
  obtain ⟨w1, s1, K1, s3, s4, F1⟩ := L_stepOut (d := d) (p := 523 + 2 * t) hq.row
  rw [Qrl_out] at K1
  have F2 : FR [1004] [] [810, 812, 814, 1000, 1002, 816, 30, 1210] [] w1 (hp_sR w1 1210 (524 + 2 * t) none) := FR.sR (by decide) FR.rf
  have K2 : kRow (hp_sR w1 1210 (524 + 2 * t) none) (Qrl (Q.filter (fun q => q.2.1 != 523 + 2 * t))) := by
    refine K1.cong ?_ ?_ ?_ ?_ ?_ ?_ <;> (funext j; simp [hI_I, hI_L, hI_R, hI_B, hI_b, hL_I, hL_L, hL_R, hL_B, hL_b, hR_I, hR_L, hR_R, hR_B, hR_b, hB_I, hB_L, hB_R, hB_B, hB_b, hN_I, hN_L, hN_R, hN_B, hN_b, hT_I, hT_L, hT_R, hT_B, hT_b, hX_I, hX_L, hX_R, hX_B, hX_b, hC_I, hC_L, hC_R, hC_B, hC_b, hU_I, hU_L, hU_R, hU_B, hU_b])
  have e816 : hp_R (hp_sR w1 1210 (524 + 2 * t) none) 816 = hp_R w 816 := by
    rw [← F1.R 816 (by decide)]
    funext j
    simp [hI_I, hI_L, hI_R, hI_B, hI_b, hL_I, hL_L, hL_R, hL_B, hL_b, hR_I, hR_L, hR_R, hR_B, hR_b, hB_I, hB_L, hB_R, hB_B, hB_b, hN_I, hN_L, hN_R, hN_B, hN_b, hT_I, hT_L, hT_R, hT_B, hT_b, hX_I, hX_L, hX_R, hX_B, hX_b, hC_I, hC_L, hC_R, hC_B, hC_b, hU_I, hU_L, hU_R, hU_B, hU_b]
  have e30 : hp_R (hp_sR w1 1210 (524 + 2 * t) none) 30 = hp_R w 30 := by
    rw [← F1.R 30 (by decide)]
    funext j
    simp [hI_I, hI_L, hI_R, hI_B, hI_b, hL_I, hL_L, hL_R, hL_B, hL_b, hR_I, hR_L, hR_R, hR_B, hR_b, hB_I, hB_L, hB_R, hB_B, hB_b, hN_I, hN_L, hN_R, hN_B, hN_b, hT_I, hT_L, hT_R, hT_B, hT_b, hX_I, hX_L, hX_R, hX_B, hX_b, hC_I, hC_L, hC_R, hC_B, hC_b, hU_I, hU_L, hU_R, hU_B, hU_b]
  have hnd := hq.nd
  have casP : ∀ p ∈ qCas Q t, p ∈ qPl Q := by
    intro p hp
    obtain ⟨q, h1, h2, h3, h4⟩ := hq.cas_m hp
    exact List.mem_map.mpr ⟨q, List.mem_filter.mpr ⟨h1, h4⟩, h2⟩
  have ndC : (qCas Q t).Nodup := by
    unfold qCas
    exact (List.reverse_perm _).nodup_iff.mpr ((List.filter_sublist.map _).nodup hq.qn)
  have hcn : ∀ p ∈ qCas Q t, p ∉ fp := fun p hp hf => by
    rw [List.nodup_append] at hnd
    exact hnd.2.2 p (List.mem_append_left _ hf) p (casP p hp) rfl
  have e1210 : hp_R w1 1210 = hp_R w 1210 := F1.R 1210 (by decide)
  obtain ⟨ψ, hψ⟩ := kx_fl 100 (by omega)
  have hcl := hq.caL t
  obtain ⟨w', r1, r2, r3, r4, r5, r6⟩ := L_out_l (d := d) rfl (qCas Q t) 16 (ψ + 100) (hp_sR w1 1210 (524 + 2 * t) none) (Q.filter (fun q => q.2.1 != 523 + 2 * t)) (hp_R w 1210 (524 + 2 * t)) fp hcl (by omega) (by omega) K2 (by rw [e816]; exact hq.cas t ht) ndC (by rw [e816, e30]; exact hq.fre) hcn
  have eQ : (Q.filter (fun q => q.2.1 != 523 + 2 * t)).filter (fun q => decide (q.2.1 ∉ qCas Q t)) = Q.filter (fun q => q.2.2.1 != t) := by
    rw [List.filter_filter]
    apply List.filter_congr
    intro q hqm
    rw [Bool.eq_iff_iff]
    simp
    constructor
    · rintro ⟨h1, h2⟩ e
      cases hi : qIs q with
      | false =>
        have := qIs_f.mp hi
        rw [e] at this
        exact h2 this
      | true =>
        apply h1
        unfold qCas
        rw [List.mem_reverse]
        exact List.mem_map.mpr ⟨q, List.mem_filter.mpr ⟨hqm, by simp [e, hi]⟩, rfl⟩
    · intro e
      refine ⟨fun hm => ?_, fun e2 => e (hq.stP hqm ht e2).1⟩
      obtain ⟨q2, g1, g2, g3, g4⟩ := hq.cas_m hm
      have := nd_eq hq.qn g1 hqm g2
      rw [this] at g3
      exact e g3
  rw [eQ] at r2
  have FF : FR [1004] [] [810, 812, 814, 1000, 1002, 816, 30, 1210] [] w w' := ((F1.mono (fun _ h => h) (fun _ h => h) (fun k h => by revert k; decide) (fun _ h => h)).tr F2).tr (r6.mono (fun _ h => h) (fun _ h => h) (fun k h => by revert k; decide) (fun _ h => h))
  have c1210 : ∀ j, hp_R w' 1210 j = if j = 524 + 2 * t then none else hp_R w 1210 j := by
    intro j
    rw [r6.R 1210 (by decide), ← e1210]
    by_cases hj : j = 524 + 2 * t <;> simp [hI_I, hI_L, hI_R, hI_B, hI_b, hL_I, hL_L, hL_R, hL_B, hL_b, hR_I, hR_L, hR_R, hR_B, hR_b, hB_I, hB_L, hB_R, hB_B, hB_b, hN_I, hN_L, hN_R, hN_B, hN_b, hT_I, hT_L, hT_R, hT_B, hT_b, hX_I, hX_L, hX_R, hX_B, hX_b, hC_I, hC_L, hC_R, hC_B, hC_b, hU_I, hU_L, hU_R, hU_B, hU_b, hj]
  refine ⟨w', ?_, ?_, ?_, FF⟩
  · rw [mE_36 hψ]
    unfold mb_36_0
    simp only [ob_s, hk, s1, bv_n, e1210]
    exact r1
  · have mem : ∀ q, q ∈ Q.filter (fun q => q.2.2.1 != t) → q ∈ Q := fun q h => (List.mem_filter.mp h).1
    refine ⟨r2, fun q hm => hq.loc q (mem q hm), fun q hm => hq.pl q (mem q hm), fun q hm => ?_, fun j hj => ?_, fun j hj => ?_, fun j => ?_, r3, ?_, ?_, ?_, ?_⟩
    · rw [FF.R 800 (by decide), FF.I 808 (by decide), FF.L 806 (by decide)]
      exact hq.own q (mem q hm)
    · rw [FF.R 800 (by decide), FF.I 808 (by decide)]
      exact hq.std j hj
    · rw [c1210]
      by_cases hjt : j = t
      · subst hjt
        rw [if_pos rfl, cas_eq]
        rfl
      · rw [if_neg (by omega), cas_ne (Ne.symm hjt)]
        refine (hq.cas j hj).upd (fun p hp => ?_)
        rw [r4 p (fun hm => ?_), e816]
        obtain ⟨q1, a1, a2, a3, a4⟩ := hq.cas_m hp
        obtain ⟨q2, b1, b2, b3, b4⟩ := hq.cas_m hm
        have := nd_eq hq.qn a1 b1 (a2.trans b2.symm)
        rw [this] at a3
        exact hjt (a3.symm.trans b3)
    · by_cases hjt : j = t
      · subst hjt; rw [cas_eq]; simp
      · rw [cas_ne (Ne.symm hjt)]; exact hq.caL j
    · have hperm : List.Perm ((qCas Q t).reverse ++ qPl (Q.filter (fun q => q.2.2.1 != t))) (qPl Q) := by
        unfold qCas qPl
        rw [List.reverse_reverse, ← List.map_append]
        apply List.Perm.map
        have e1 : (Q.filter (fun q => q.2.2.1 != t)).filter qIs = (Q.filter qIs).filter (fun q => !(q.2.2.1 == t)) := by
          rw [List.filter_filter, List.filter_filter]
          apply List.filter_congr
          intro q _
          cases qIs q <;> simp [bne]
        have e2 : Q.filter (fun q => q.2.2.1 == t && qIs q) = (Q.filter qIs).filter (fun q => q.2.2.1 == t) := by
          rw [List.filter_filter]
        rw [e1, e2]
        exact List.filter_append_perm _ _
      have hp2 : List.Perm ((qCas Q t).reverse ++ fp ++ tp ++ qPl (Q.filter (fun q => q.2.2.1 != t))) (fp ++ tp ++ qPl Q) := by
        refine List.Perm.trans ?_ (List.Perm.append_left (fp ++ tp) hperm)
        rw [List.append_assoc ((qCas Q t).reverse), List.append_assoc ((qCas Q t).reverse)]
        refine List.perm_append_comm.trans ?_
        rw [List.append_assoc]
        exact List.Perm.append_left _ List.perm_append_comm
      exact hp2.nodup_iff.mpr hnd
    · exact (List.filter_sublist.map _).nodup hq.qn
    · intro p hp
      rw [List.append_assoc] at hp
      rcases List.mem_append.mp hp with hp | hp
      · obtain ⟨q, h1, h2, h3, h4⟩ := hq.cas_m (List.mem_reverse.mp hp)
        rw [← h2]
        exact hq.plS h1 h4
      · exact hq.isp p hp
    · have := hq.len
      rw [List.length_append]
      omega
  · have hnc : 523 + 2 * t ∉ qCas Q t := fun hm => by
      obtain ⟨q, h1, h2, h3, h4⟩ := hq.cas_m hm
      exact qIs_t.mp h4 (by rw [h2, h3])
    rw [r5 _ hnc]
    simp [hI_I, hI_L, hI_R, hI_B, hI_b, hL_I, hL_L, hL_R, hL_B, hL_b, hR_I, hR_L, hR_R, hR_B, hR_b, hB_I, hB_L, hB_R, hB_B, hB_b, hN_I, hN_L, hN_R, hN_B, hN_b, hT_I, hT_L, hT_R, hT_B, hT_b, hX_I, hX_L, hX_R, hX_B, hX_b, hC_I, hC_L, hC_R, hC_B, hC_b, hU_I, hU_L, hU_R, hU_B, hU_b]
    exact s3
/-- TaskDesk.takeOut -/
theorem C_out (H : CX w S n Q fp tp V fv A ft) (ht : t < 256) : ∃ w', kx_ev wx_M (d + 2) 36 [kx_r 0 (some 1), kx_r 6 (some (524 + 2 * t))] w = some (.inl none, w') ∧ CX w' (sNot S t) n (Q.filter (fun q => q.2.2.1 != t)) ((qCas Q t).reverse ++ fp) tp V fv A ft ∧ hp_R w' 810 (523 + 2 * t) = none ∧ FR [1004] [] [810, 812, 814, 1000, 1002, 816, 30, 1210] [] w w' := by
  obtain ⟨w', a1, q1, h8, FF⟩ := C_outQ (d := d) H.q (H.k.t t ht).2.2 ht
  refine ⟨w', a1, ⟨H.k.fr FF (by decide) (by decide) (by decide) (by decide), H.t.fr FF (by decide) (by decide) (by decide) (by decide), (H.s.fr FF (by decide) (by decide) (by decide) (by decide)).sc rfl rfl rfl rfl rfl rfl rfl rfl rfl, (H.c.fr FF (by decide) (by decide) (by decide) (by decide)).sc rfl rfl rfl rfl rfl, (H.g.fr FF (by decide) (by decide) (by decide) (by decide)).sc rfl rfl rfl rfl, q1, H.o.fr FF (by decide) (by decide) (by decide) (by decide), ?_, ?_, ?_, H.v.fr FF (by decide) (by decide) (by decide) (by decide), H.a.imp id (fun h => h.fr FF (by decide) (by decide) (by decide) (by decide))⟩, h8, FF⟩
  · show S.rd.filter _ = _
    rw [Qrd_fl2, H.rd]
  · show S.mo.filter _ = _
    rw [Qmo_fl, H.mo]
  · show S.sn.filter _ = _
    rw [Qsn_fl, H.sn]
end CO
