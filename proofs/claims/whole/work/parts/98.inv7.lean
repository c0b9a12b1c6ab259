/-! what the calls keep: gate, enter, read, leave, change -/
section IV7
variable {S S' S'' : kS} {t c g n n' l : Nat} {v : Int64} {f b r goes : Bool} {k how place xc x y : Int32}
theorem F_gate (h : FI S n) : FI (pGate S x y).1 (n + 1) := by
  unfold pGate
  by_cases h1 : x < 0 ∨ 4 < x ∨ (x = 3 ∧ (isGa S y = false ∨ sKind S y.toNatClampNeg ≠ 0))
  · rw [if_pos h1]; exact h.th (Nat.le_succ _) 1
  · rw [if_neg h1]
    by_cases h2 : S.gates = 256
    · rw [if_pos h2]; exact h.th (Nat.le_succ _) 2
    · rw [if_neg h2]
      obtain ⟨a1, a2, a3, a4, a5, a6, a7⟩ := FX.rf.ig h.ga (Nat.le_succ n)
      have hlt : S.gates < 256 := by omega
      have hk5 : x = 0 ∨ x = 1 ∨ x = 2 ∨ x = 3 ∨ x = 4 := by
        have n1 : ¬ x < 0 := fun h => h1 (Or.inl h)
        have n2 : ¬ 4 < x := fun h => h1 (Or.inr (Or.inl h))
        obtain ⟨e1, e2⟩ := i32_of n1
        generalize hq : x.toNatClampNeg = q at e1 e2
        subst e1
        rw [show (4 : Int32) = i32 4 from rfl, i32_ltb (by omega) e2] at n2
        rcases (by omega : q = 0 ∨ q = 1 ∨ q = 2 ∨ q = 3 ∨ q = 4) with rfl | rfl | rfl | rfl | rfl
        · exact Or.inl rfl
        · exact Or.inr (Or.inl rfl)
        · exact Or.inr (Or.inr (Or.inl rfl))
        · exact Or.inr (Or.inr (Or.inr (Or.inl rfl)))
        · exact Or.inr (Or.inr (Or.inr (Or.inr rfl)))
      obtain ⟨U, hU⟩ : ∃ U : kS, U = (kS.s_gates ((kS.s_m ((kS.s_th S (0))) (hp_sI (hp_sI (hp_sI S.m 8771 S.gates x) 8775 S.gates y) 8773 S.gates 0))) (S.gates + 1)) := ⟨_, rfl⟩
      show FI _ (n + 1)
      rw [← hU]
      have um : U.m = hp_sI (hp_sI (hp_sI S.m 8771 S.gates x) 8775 S.gates y) 8773 S.gates 0 := by subst hU; rfl
      have ug : U.gates = S.gates + 1 := by subst hU; rfl
      have us : U.sn = S.sn := by subst hU; rfl
      have hI : ∀ k, k ≠ 8771 → k ≠ 8775 → k ≠ 8773 → hp_I U.m k = hp_I S.m k := fun k h1 h2 h3 => by rw [um]; funext j; simp [hI_I, h1, h2, h3]
      have hB : hp_B U.m = hp_B S.m := by rw [um]; rfl
      have hk : ∀ q, sKind U q = if q = S.gates then x else sKind S q := fun q => by
        unfold sKind; rw [um]
        by_cases hq : q = S.gates <;> simp [hI_I, hq]
      have hl : ∀ q, sLock U q = if q = S.gates then y else sLock S q := fun q => by
        unfold sLock; rw [um]
        by_cases hq : q = S.gates <;> simp [hI_I, hq]
      have hh : ∀ q, sHeld U q = if q = S.gates then 0 else sHeld S q := fun q => by
        unfold sHeld; rw [um]
        by_cases hq : q = S.gates <;> simp [hI_I, hq]
      refine h.of (n' := n + 1) (by subst hU; rfl) (by subst hU; rfl) (by subst hU; rfl) (by subst hU; rfl) us (by subst hU; rfl) (by subst hU; rfl) (by subst hU; rfl) (by subst hU; exact Nat.le_refl _) (Nat.le_succ _) (congrFun hB _) (hI _ (by decide) (by decide) (by decide)) (hI _ (by decide) (by decide) (by decide)) ⟨?_, fun q hq h3 => ?_, fun q hq => ?_, fun q hq => ?_, fun q h3 h4 => ?_, fun e he hr => ?_, fun e he => ?_⟩ (h.ro.cong (Nat.le_succ _) (by subst hU; rfl) (hI _ (by decide) (by decide) (by decide)))
      · rw [ug]; omega
      · rw [ug] at hq
        rw [hk] at h3
        rw [hl, ug]
        by_cases hqg : q = S.gates
        · rw [if_pos hqg] at h3 ⊢
          have hi : isGa S y = true := by
            cases h5 : isGa S y with
            | true => rfl
            | false => exact absurd (Or.inr (Or.inr ⟨h3, Or.inl h5⟩)) h1
          obtain ⟨p, p1, rfl⟩ := isGa_t (by omega) hi
          have hk0 : sKind S p = 0 := by
            by_cases h6 : sKind S p = 0
            · exact h6
            · exact absurd (Or.inr (Or.inr ⟨h3, Or.inr (by rw [i32_nat (by omega)]; exact h6)⟩)) h1
          exact ⟨p, by omega, rfl, by rw [hk, if_neg (by omega)]; exact hk0⟩
        · rw [if_neg hqg] at h3 ⊢
          obtain ⟨p, p1, p2, p3⟩ := a2 q (by omega) h3
          exact ⟨p, by omega, p2, by rw [hk, if_neg (by omega)]; exact p3⟩
      · rw [ug] at hq
        rw [hk]
        by_cases hqg : q = S.gates
        · rw [if_pos hqg]; exact hk5
        · rw [if_neg hqg]; exact a3 q (by omega)
      · rw [ug] at hq
        rw [hk, hh]
        by_cases hqg : q = S.gates
        · rw [if_pos hqg, if_pos hqg]
          exact ⟨fun _ => Or.inl rfl, fun _ => Or.inr ⟨0, by omega, rfl⟩, fun _ => by decide⟩
        · rw [if_neg hqg, if_neg hqg]; exact a4 q (by omega)
      · rw [ug] at h3
        rw [hh, if_neg (by omega)]
        exact a5 q (by omega) h4
      · rw [us] at he
        have := a7 e he
        rw [hk, if_neg (by omega)]
        exact a6 e he hr
      · rw [us] at he
        have := a7 e he
        rw [ug]; omega
theorem F_enter (h : FI S n) : FI (pEnter S x).1 (n + 1) := by
  unfold pEnter
  cases hi : isGa S x with
  | false => rw [if_pos rfl]; exact h.th (Nat.le_succ _) 1
  | true =>
    rw [if_neg (show ¬ true = false by decide)]
    obtain ⟨q, q1, rfl⟩ := isGa_t h.1.gl hi
    have hgl := h.1.gl
    rw [i32_nat (n := q) (by omega)]
    rcases cur_or S with hc | ⟨t, hc⟩
    · rw [hc]; exact h.th (Nat.le_succ _) 2
    · obtain ⟨V, hs, al, h0, ht⟩ := h.v0 hc
      simp only [hc]
      have V1 : IV (sTh S 0) (n + 1) := V.mono (Nat.le_succ _)
      have P : ∀ U : kS, IV U (n + 1) → FG (sTh S 0) U → stt U t = 0 → ∀ goes f, FI (sPass U t goes q false f).1 (n + 1) := by
        intro U VU F s goes f
        exact VU.pass (F.1.trans hc) s (by unfold aliv; rw [F.2.2.1]; exact al) (F.2.1.trans hs) ht (by rw [F.2.2.2.1]; exact q1) (fun h => by cases h)
      have PH : ∀ y, hOK (sTh S 0) q y (n + 1) → ∀ goes f, FI (sPass (stHeld (sTh S 0) q y) t goes q false f).1 (n + 1) := fun y hy goes f => P _ (V.held (Nat.le_succ _) q1 hy) FG.held (st0_held h0) goes f
      by_cases k0 : sKind S q = 0
      · rw [if_pos k0]
        exact PH 1 ⟨fun _ => Or.inr rfl, fun h => absurd (k0.symm.trans h) (by decide), fun _ => by decide⟩ _ _
      · rw [if_neg k0]
        by_cases k1 : sKind S q = 1
        · rw [if_pos k1]
          by_cases hh : sHeld S q = 0
          · rw [if_pos hh]
            exact PH (-1) ⟨fun h => absurd (k1.symm.trans h) (by decide), fun _ => Or.inl rfl, fun h => absurd (k1.symm.trans h) (by decide)⟩ _ _
          · rw [if_neg hh]
            exact P _ V1 FG.rf h0 _ _
        · rw [if_neg k1]
          by_cases k2 : sKind S q = 2
          · rw [if_pos k2]
            exact P _ V1 FG.rf h0 _ _
          · rw [if_neg k2]
            by_cases k3 : sKind S q = 3
            · rw [if_pos k3]
              obtain ⟨lk, l1, l2, l3⟩ := h.1.lk q q1 k3
              rw [l2, i32_nat (by omega)]
              by_cases hh : sHeld S lk = 0
              · rw [if_pos hh]; exact h.th (Nat.le_succ _) 3
              · rw [if_neg hh]
                exact P _ (V1.unlock l1 l3) FG.unlock (st0_unlock V1.1 h0) _ _
            · rw [if_neg k3]
              exact PH _ ⟨fun h => absurd h k0, fun h => absurd h k1, fun h => absurd h k2⟩ _ _
theorem F_read (h : FI S n) (hn : n < 512) : FI (pRead S x).1 (n + 1) := by
  unfold pRead
  by_cases hA : isGa S x = false ∨ sKind S x.toNatClampNeg ≠ 1
  · rw [if_pos hA]; exact h.th (Nat.le_succ _) 1
  · rw [if_neg hA]
    have hi : isGa S x = true := by
      cases h5 : isGa S x with
      | true => rfl
      | false => exact absurd (Or.inl h5) hA
    obtain ⟨q, q1, rfl⟩ := isGa_t h.1.gl hi
    have hgl := h.1.gl
    rw [i32_nat (n := q) (by omega)] at hA ⊢
    have k1 : sKind S q = 1 := by
      by_cases h6 : sKind S q = 1
      · exact h6
      · exact absurd (Or.inr h6) hA
    rcases cur_or S with hc | ⟨t, hc⟩
    · rw [hc]; exact h.th (Nat.le_succ _) 2
    · obtain ⟨V, hs, al, h0, ht⟩ := h.v0 hc
      simp only [hc]
      by_cases h1 : 0 ≤ sHeld S q ∧ sStg S q 0 = none
      · rw [if_pos h1]
        have V2 : IV (stHeld (sTh S 0) q (sHeld S q + 1)) (n + 1) := by
          refine V.held (Nat.le_succ _) q1 ⟨fun h => absurd (k1.symm.trans h) (by decide), fun _ => ?_, fun h => absurd (k1.symm.trans h) (by decide)⟩
          rcases (h.2.hk q q1).2.1 k1 with h5 | ⟨j, hj, h5⟩
          · rw [h5] at h1; exact absurd h1.1 (by decide)
          · exact Or.inr ⟨j + 1, by omega, by rw [h5]; exact i32_add1 j⟩
        exact V2.pass (S := stHeld (sTh S 0) q (sHeld S q + 1)) hc (st0_held h0) al hs ht q1 (fun _ => (congrFun (held_I (by decide)) q).trans k1)
      · rw [if_neg h1]
        exact (V.mono (Nat.le_succ _)).pass (S := sTh S 0) hc h0 al hs ht q1 (fun _ => k1)
theorem IV.letR (V : IV S n) (hg : g < S.gates) (hk : sKind S g = 1) : IV (sLetR S g) n ∧ FG S (sLetR S g) ∧ ∀ t, stt S t = 0 → stt (sLetR S g) t = 0 := by
  have hcl := List.countP_le_length (p := gAt g 1) (l := S.sn)
  have hsl := V.1.sl2
  have V1 : IV (stHeld S g (i32 (sReaders S g))) n := V.held (Nat.le_refl _) hg ⟨fun h => absurd (hk.symm.trans h) (by decide), fun _ => Or.inr ⟨_, by unfold sReaders; omega, rfl⟩, fun h => absurd (hk.symm.trans h) (by decide)⟩
  have F1 : FG S (stHeld S g (i32 (sReaders S g))) := FG.held
  have s1 : ∀ t, stt S t = 0 → stt (stHeld S g (i32 (sReaders S g))) t = 0 := fun t h => st0_held h
  unfold sLetR
  simp only
  generalize stHeld S g (i32 (sReaders S g)) = U at V1 F1 s1
  have V2 : IV (sLetAll U g 1 true) n := IV.lall _ U V1
  have F2 : FG U (sLetAll U g 1 true) := FG.lall _ U
  have s2 : ∀ t, stt U t = 0 → stt (sLetAll U g 1 true) t = 0 := fun t h => st0_lall _ U V1.1 h
  generalize sLetAll U g 1 true = W at V2 F2 s2
  have F3 := F1.tr F2
  by_cases hz : sReaders S g = 0
  · rw [if_pos hz]
    exact ⟨V2.writer (by rw [F3.2.2.2.1]; exact hg) ((congrFun F3.2.2.2.2.1 g).trans hk), F3.tr FG.writer, fun t h => st0_writer V2.1 (s2 t (s1 t h))⟩
  · rw [if_neg hz]
    exact ⟨V2, F3, fun t h => s2 t (s1 t h)⟩
theorem IV.grow (V : IV S n) (hg : g < S.gates) (hk : sKind S g = 2) (h0 : 0 ≤ sHeld S g + x) : IV (sGrow S g x) n ∧ FG S (sGrow S g x) ∧ ∀ t, stt S t = 0 → stt (sGrow S g x) t = 0 := by
  have V1 : IV (stHeld S g (sHeld S g + x)) n := V.held (Nat.le_refl _) hg ⟨fun h => absurd (hk.symm.trans h) (by decide), fun h => absurd (hk.symm.trans h) (by decide), fun _ => h0⟩
  have F1 : FG S (stHeld S g (sHeld S g + x)) := FG.held
  have s1 : ∀ t, stt S t = 0 → stt (stHeld S g (sHeld S g + x)) t = 0 := fun t h => st0_held h
  unfold sGrow
  simp only
  generalize stHeld S g (sHeld S g + x) = U at V1 F1 s1
  by_cases hz : sHeld S g + x = 0
  · rw [if_pos hz]
    exact ⟨IV.lall _ U V1, F1.tr (FG.lall _ U), fun t h => st0_lall _ U V1.1 (s1 t h)⟩
  · rw [if_neg hz]
    exact ⟨V1, F1, s1⟩
theorem F_leave (h : FI S n) : FI (pLeave S x) (n + 1) := by
  unfold pLeave
  cases hi : isGa S x with
  | false => rw [if_pos rfl]; exact h.th (Nat.le_succ _) 1
  | true =>
    rw [if_neg (show ¬ true = false by decide)]
    obtain ⟨q, q1, rfl⟩ := isGa_t h.1.gl hi
    have hgl := h.1.gl
    rw [i32_nat (n := q) (by omega)]
    rcases cur_or S with hc | ⟨t, hc⟩
    · rw [if_pos hc]; exact h.th (Nat.le_succ _) 2
    · rw [if_neg (show ¬ S.cur = none by rw [hc]; simp)]
      obtain ⟨V, hs, al, h0, ht⟩ := h.v0 hc
      simp only
      by_cases h1 : (if sKind S q = 1 then 0 ≤ sHeld S q else if sKind S q = 4 then sHeld S q ≠ 1 else sKind S q ≠ 3 ∧ sHeld S q = 0)
      · rw [if_pos h1]; exact h.th (Nat.le_succ _) 3
      · rw [if_neg h1]
        have V1 : IV (sTh S 0) (n + 1) := V.mono (Nat.le_succ _)
        have fin : ∀ U : kS, (IV U (n + 1) ∧ FG (sTh S 0) U ∧ ∀ t, stt (sTh S 0) t = 0 → stt U t = 0) → FI U (n + 1) := fun U ⟨a, b, c⟩ => b.stay a hc (c t h0) al hs
        by_cases k0 : sKind S q = 0
        · rw [if_pos k0]
          exact fin _ ⟨V1.unlock q1 k0, FG.unlock, fun t h => st0_unlock V1.1 h⟩
        · rw [if_neg k0]
          by_cases k1 : sKind S q = 1
          · rw [if_pos k1]
            exact fin _ (V1.letR q1 k1)
          · rw [if_neg k1]
            by_cases k2 : sKind S q = 2
            · rw [if_pos k2]
              refine fin _ (V1.grow q1 k2 ?_)
              have hge := (h.2.hk q q1).2.2 k2
              have hne : sHeld S q ≠ 0 := fun h5 => h1 (by rw [if_neg k1, if_neg (by rw [k2]; decide)]; exact ⟨by rw [k2]; decide, h5⟩)
              show (0 : Int32) ≤ sHeld S q + -1
              rw [Int32.le_iff_toInt_le] at hge ⊢
              have hge' : 0 ≤ (sHeld S q).toInt := hge
              have hne' : (sHeld S q).toInt ≠ 0 := fun h5 => hne (Int32.toInt_inj.mp h5)
              have hlt := (sHeld S q).toInt_lt
              rw [Int32.toInt_add]
              show 0 ≤ Int.bmod ((sHeld S q).toInt + -1) (2 ^ 32)
              rw [Int.bmod_eq_of_le (by omega) (by omega)]
              omega
            · rw [if_neg k2]
              by_cases k3 : sKind S q = 3
              · rw [if_pos k3]
                obtain ⟨lk, l1, l2, l3⟩ := h.1.lk q q1 k3
                exact fin _ (V1.signal (S := sTh S 0) (g := q) l1 l2 l3)
              · rw [if_neg k3]
                have V2 : IV (stHeld (sTh S 0) q 2) (n + 1) := V1.held (Nat.le_refl _) q1 ⟨fun h => absurd h k0, fun h => absurd h k1, fun h => absurd h k2⟩
                exact fin _ ⟨IV.lall _ _ V2, FG.held.tr (FG.lall _ _), fun t h => st0_lall _ _ V2.1 (st0_held h)⟩
theorem F_change (h : FI S n) : FI (pChange S x y) (n + 1) := by
  unfold pChange
  by_cases hA : isGa S x = false ∨ sKind S x.toNatClampNeg = 0 ∨ sKind S x.toNatClampNeg = 4
  · rw [if_pos hA]; exact h.th (Nat.le_succ _) 1
  · rw [if_neg hA]
    rcases cur_or S with hc | ⟨t, hc⟩
    · rw [if_pos hc]; exact h.th (Nat.le_succ _) 2
    · rw [if_neg (show ¬ S.cur = none by rw [hc]; simp)]
      have hi : isGa S x = true := by
        cases h5 : isGa S x with
        | true => rfl
        | false => exact absurd (Or.inl h5) hA
      obtain ⟨q, q1, rfl⟩ := isGa_t h.1.gl hi
      have hgl := h.1.gl
      rw [i32_nat (n := q) (by omega)] at hA ⊢
      obtain ⟨V, hs, al, h0, ht⟩ := h.v0 hc
      simp only
      by_cases h1 : (sKind S q = 1 ∧ sHeld S q ≤ 0) ∨ (sKind S q = 2 ∧ ((sHeld S q).toInt64 + y.toInt64 < 0 ∨ 1000000000 < (sHeld S q).toInt64 + y.toInt64))
      · rw [if_pos h1]; exact h.th (Nat.le_succ _) 3
      · rw [if_neg h1]
        have V1 : IV (sTh S 0) (n + 1) := V.mono (Nat.le_succ _)
        have fin : ∀ U : kS, (IV U (n + 1) ∧ FG (sTh S 0) U ∧ ∀ t, stt (sTh S 0) t = 0 → stt U t = 0) → FI U (n + 1) := fun U ⟨a, b, c⟩ => b.stay a hc (c t h0) al hs
        by_cases k2 : sKind S q = 2
        · rw [if_pos k2]
          refine fin _ (V1.grow q1 k2 ?_)
          have n1 : ¬ (sHeld S q).toInt64 + y.toInt64 < 0 := fun h5 => h1 (Or.inr ⟨k2, Or.inl h5⟩)
          have n2 : ¬ 1000000000 < (sHeld S q).toInt64 + y.toInt64 := fun h5 => h1 (Or.inr ⟨k2, Or.inr h5⟩)
          have l1 := (sHeld S q).toInt_lt
          have l2 := (sHeld S q).le_toInt
          have l3 := y.toInt_lt
          have l4 := y.le_toInt
          have e64 : ((sHeld S q).toInt64 + y.toInt64).toInt = (sHeld S q).toInt + y.toInt := by
            rw [Int64.toInt_add, Int32.toInt_toInt64, Int32.toInt_toInt64]
            exact Int.bmod_eq_of_le (by omega) (by omega)
          rw [Int64.lt_iff_toInt_lt, e64] at n1 n2
          have n1' : ¬ (sHeld S q).toInt + y.toInt < 0 := n1
          have n2' : ¬ (1000000000 : Int) < (sHeld S q).toInt + y.toInt := n2
          show (0 : Int32) ≤ sHeld S q + y
          rw [Int32.le_iff_toInt_le, Int32.toInt_add]
          show 0 ≤ Int.bmod ((sHeld S q).toInt + y.toInt) (2 ^ 32)
          rw [Int.bmod_eq_of_le (by omega) (by omega)]
          omega
        · rw [if_neg k2]
          by_cases k1 : sKind S q = 1
          · rw [if_pos k1]
            have hpos : ¬ sHeld S q ≤ 0 := fun h5 => h1 (Or.inl ⟨k1, h5⟩)
            have V2 : IV (stHeld (sTh S 0) q (sHeld S q - 1)) (n + 1) := by
              refine V1.held (Nat.le_refl _) q1 ⟨fun h => absurd (k1.symm.trans h) (by decide), fun _ => ?_, fun h => absurd (k1.symm.trans h) (by decide)⟩
              rcases (h.2.hk q q1).2.1 k1 with h5 | ⟨j, hj, h5⟩
              · rw [h5] at hpos; exact absurd (by decide) hpos
              · cases j with
                | zero => rw [h5] at hpos; exact absurd (by decide) hpos
                | succ j => exact Or.inr ⟨j, by omega, by rw [h5, i32_sub1]⟩
            by_cases hz : sHeld S q - 1 = 0
            · rw [if_pos hz]
              exact fin _ ⟨V2.writer q1 ((congrFun (held_I (by decide)) q).trans k1), FG.held.tr FG.writer, fun t h => st0_writer V2.1 (st0_held h)⟩
            · rw [if_neg hz]
              exact fin _ ⟨V2, FG.held, fun t h => st0_held h⟩
          · rw [if_neg k1]
            have k3 : sKind S q = 3 := by
              rcases h.2.kd q q1 with h5 | h5 | h5 | h5 | h5
              · exact absurd (Or.inr (Or.inl h5)) hA
              · exact absurd h5 k1
              · exact absurd h5 k2
              · exact h5
              · exact absurd (Or.inr (Or.inr h5)) hA
            obtain ⟨lk, l1, l2, l3⟩ := h.1.lk q q1 k3
            exact fin _ (IV.sigs (g := q) (show lk < 256 by omega) _ (sTh S 0) V1 l1 l2 l3)
theorem F_task (h : FI S n) : FI (pTask S x y).1 (n + 1) := by
  unfold pTask
  split
  · exact h.th (Nat.le_succ _) 1
  · exact h.th (Nat.le_succ _) 0
theorem F_outc (h : FI S n) : FI (pOut S x).1 (n + 1) := by
  unfold pOut
  split
  · exact h.th (Nat.le_succ _) 0
  · exact h.th (Nat.le_succ _) 1
theorem F_look (h : FI S n) : FI (pLook S x y).1 (n + 1) := by
  unfold pLook
  split
  · exact h.th (Nat.le_succ _) 1
  · exact h.th (Nat.le_succ _) 0
theorem F_watch (h : FI S n) : FI (pWatch S x y).1 (n + 1) := by
  unfold pWatch
  split
  · exact h.th (Nat.le_succ _) 1
  · exact h.th (Nat.le_succ _) 0
end IV7
