/-! what the calls keep: gates, rooms, lengths; who is next -/
section IV2
variable {S S' S'' : kS} {t c g n n' : Nat} {v x : Int64} {f b : Bool} {k how place : Int32} {e : kMe} {L : List kMe}
def IG (S : kS) (n : Nat) : Prop := S.gates ≤ 256 ∧ (∀ g, g < S.gates → sKind S g = 3 → ∃ l, l < S.gates ∧ sLock S g = i32 l ∧ sKind S l = 0) ∧ (∀ g, g < S.gates → sKind S g = 0 ∨ sKind S g = 1 ∨ sKind S g = 2 ∨ sKind S g = 3 ∨ sKind S g = 4) ∧ (∀ g, g < S.gates → (sKind S g = 0 → sHeld S g = 0 ∨ sHeld S g = 1) ∧ (sKind S g = 1 → sHeld S g = -1 ∨ ∃ j, j ≤ n + 256 ∧ sHeld S g = i32 j) ∧ (sKind S g = 2 → 0 ≤ sHeld S g)) ∧ (∀ g, S.gates ≤ g → g < 256 → sHeld S g = 0) ∧ (∀ e ∈ S.sn, e.2.2 = true → sKind S e.2.1 = 1) ∧ (∀ e ∈ S.sn, e.2.1 < S.gates)
theorem IG.cong (h : IG S n) (hn : n ≤ n') (hg : S'.gates = S.gates) (hs : ∀ e ∈ S'.sn, e ∈ S.sn) (h1 : hp_I S'.m 8771 = hp_I S.m 8771) (h3 : hp_I S'.m 8773 = hp_I S.m 8773) (h5 : hp_I S'.m 8775 = hp_I S.m 8775) : IG S' n' := by
  obtain ⟨a1, a2, a3, a4, a5, a6, a7⟩ := h
  unfold IG sKind sHeld sLock
  rw [hg, h1, h3, h5]
  refine ⟨a1, a2, a3, fun g hg => ⟨(a4 g hg).1, fun hk => ?_, (a4 g hg).2.2⟩, a5, fun e he => a6 e (hs e he), fun e he => a7 e (hs e he)⟩
  rcases (a4 g hg).2.1 hk with h | ⟨j, hj, h⟩
  · exact Or.inl h
  · exact Or.inr ⟨j, by omega, h⟩
def IR (S : kS) (n : Nat) : Prop := (-8192 * (n : Int) ≤ S.rooms.toInt ∧ S.rooms.toInt ≤ 8192) ∧ (∀ c, c < 512 → 0 ≤ (sRoom S c).toInt ∧ (sRoom S c).toInt ≤ 8192)
theorem IR.cong (h : IR S n) (hn : n ≤ n') (h1 : S'.rooms = S.rooms) (h2 : hp_I S'.m 8749 = hp_I S.m 8749) : IR S' n' := by
  unfold IR sRoom
  rw [h1, h2]
  exact ⟨⟨by have := h.1.1; omega, h.1.2⟩, h.2⟩
def IL (S : kS) (n : Nat) : Prop := SL S n ∧ SA S ∧ S.mt.length ≤ 16 ∧ (∀ e ∈ S.mt, e.1 = -1 ∨ ∃ c, c < 512 ∧ e.1 = i32 c) ∧ S.al ≤ 256
theorem IL.mono (h : IL S n) (hn : n ≤ n') : IL S n' := by
  obtain ⟨⟨a1, a2⟩, a3, a4, a5, a6⟩ := h
  exact ⟨⟨by omega, by omega⟩, a3, a4, a5, a6⟩
theorem IL.of (h : IL S n) (h1 : S'.mv.length + S'.me.length ≤ n') (h2 : S'.mo.length + S'.mt.length ≤ n') (h3 : S'.me = S.me) (h4 : S'.mt = S.mt) (h5 : S'.al = S.al) : IL S' n' := by
  obtain ⟨-, a3, a4, a5, a6⟩ := h
  refine ⟨⟨h1, h2⟩, ?_, ?_, ?_, ?_⟩
  · unfold SA; rw [h5, h3]; exact a3
  · rw [h4]; exact a4
  · rw [h4]; exact a5
  · rw [h5]; exact a6
def IV (S : kS) (n : Nat) : Prop := SB S ∧ IT S ∧ IG S n ∧ IR S n ∧ IL S n
def FI (S : kS) (n : Nat) : Prop := SI S n ∧ SJ S n
theorem FX.ig (F : FX S S') (h : IG S n) (hn : n ≤ n') : IG S' n' := h.cong hn F.1 (fun e he => by rw [← F.2.1]; exact he) (F.2.2.2.2.2.2.1 8771 (by decide) (by decide) (by decide)) (F.2.2.2.2.2.2.1 8773 (by decide) (by decide) (by decide)) (F.2.2.2.2.2.2.1 8775 (by decide) (by decide) (by decide))
theorem FX.ir (F : FX S S') (h : IR S n) (hn : n ≤ n') : IR S' n' := h.cong hn F.2.2.1 (F.2.2.2.2.2.2.1 8749 (by decide) (by decide) (by decide))
theorem FI.iv (h : FI S n) (hc : S.cur = some t) : IV S n ∧ S.std = 0 ∧ aliv S t ∧ stt S t = 0 ∧ t < 256 := by
  obtain ⟨I, J⟩ := h
  exact ⟨⟨I.b, ⟨J.dd (by rw [hc]; simp), J.wh, J.rr⟩, ⟨I.gl, I.lk, J.kd, J.hk, J.hz, J.rk, J.sg⟩, ⟨J.rb, J.rc⟩, ⟨I.l, I.a, I.ml, I.mc, I.al⟩⟩, J.sd t hc, J.lv t hc, I.cs t hc, I.b.cu t hc⟩
theorem IV.stay (h : IV S n) (hc : S.cur = some t) (h0 : stt S t = 0) (al : aliv S t) (hs : S.std = 0) : FI S n := by
  obtain ⟨b, ⟨t1, t2, t3⟩, ⟨g1, g2, g3, g4, g5, g6, g7⟩, ⟨r1, r2⟩, ⟨l1, l2, l3, l4, l5⟩⟩ := h
  refine ⟨⟨b, l1, l2, fun q hq => ?_, l3, l4, g1, l5, g2⟩, ⟨fun _ _ => hs, fun h => ?_, g3, fun _ => t1, fun q hq => ?_, t2, g4, g5, g6, g7, r1, r2, t3⟩⟩
  · rw [hc] at hq; cases hq; exact h0
  · rw [hc] at h; cases h
  · rw [hc] at hq; cases hq; exact al
/-- nothing is done but that the answer says so -/
theorem FI.th (h : FI S n) (hn : n ≤ n') (e : Int32) : FI (sTh S e) n' := by
  obtain ⟨I, J⟩ := h
  obtain ⟨b, ⟨l1, l2⟩, a, cs, ml, mc, gl, al, lk⟩ := I
  obtain ⟨sd, s2, kd, dd, lv, wh, hk, hz, rk, sg, rb, rc, rr⟩ := J
  refine ⟨⟨b.th, ⟨?_, ?_⟩, a, cs, ml, mc, gl, al, lk⟩, ⟨sd, s2, kd, dd, lv, wh, fun g hg => ?_, hz, rk, sg, ⟨?_, rb.2⟩, rc, rr⟩⟩
  · show S.mv.length + S.me.length ≤ n'; omega
  · show S.mo.length + S.mt.length ≤ n'; omega
  · obtain ⟨z1, z2, z3⟩ := hk g hg
    refine ⟨z1, fun hk => ?_, z3⟩
    rcases z2 hk with h | ⟨j, hj, h⟩
    · exact Or.inl h
    · exact Or.inr ⟨j, by omega, h⟩
  · have := rb.1
    show -8192 * (n' : Int) ≤ S.rooms.toInt
    omega
theorem SA.loop : ∀ (j : Nat) (S : kS), SA S → SA (sLoop j S) := by
  intro j
  induction j with
  | zero => intro S h; exact h
  | succ j ih =>
    intro S h
    unfold sLoop
    split
    · exact ih _ h.ring
    · exact h
theorem SL.loop : ∀ (j : Nat) (S : kS), SL S n → SL (sLoop j S) n := by
  intro j
  induction j with
  | zero => intro S h; exact h
  | succ j ih =>
    intro S h
    unfold sLoop
    split
    · exact ih _ h.ring
    · exact h
theorem loop_sub : ∀ (j : Nat) (S : kS), (sLoop j S).me.Sublist S.me := by
  intro j
  induction j with
  | zero => intro S; exact List.Sublist.refl _
  | succ j ih =>
    intro S
    unfold sLoop
    split
    · exact (ih _).trans List.filter_sublist
    · exact List.Sublist.refl _
theorem IL.loop (h : IL S n) (j : Nat) : IL (sLoop j S) n := by
  obtain ⟨a1, a2, a3, a4, a5⟩ := h
  have F := FX.loop j S
  refine ⟨a1.loop j S, a2.loop j S, ?_, ?_, ?_⟩
  · rw [F.2.2.2.1]; exact a3
  · rw [F.2.2.2.1]; exact a4
  · have h1 := a2.loop j S
    unfold SA at h1 a2
    have h2 := (loop_sub j S).countP_le (p := fun e => e.1.isRight)
    omega
theorem pick_nil (h : S.rd = []) : sPick S = S.s_std 2 := by unfold sPick; rw [h]
theorem pick_cons {r : List Nat} (h : S.rd = t :: r) : sPick S = ((S.s_cur (some t)).s_rd r).s_m (hp_sI S.m 8731 t 0) := by unfold sPick; rw [h]
theorem IV.pick (h : IV S n) (hs : S.std = 0) (hc : S.cur = none) : FI (sPick S) n := by
  obtain ⟨B, T, G, R, L⟩ := h
  have B2 := B.pick
  cases hr : S.rd with
  | nil =>
    rw [pick_nil hr] at B2 ⊢
    obtain ⟨t1, t2, t3⟩ := T
    obtain ⟨g1, g2, g3, g4, g5, g6, g7⟩ := G
    obtain ⟨r1, r2⟩ := R
    obtain ⟨l1, l2, l3, l4, l5⟩ := L
    have hcur : (S.s_std 2).cur = none := hc
    refine ⟨⟨B2, l1, l2, fun q hq => ?_, l3, l4, g1, l5, g2⟩, ⟨fun q hq => ?_, fun _ => Or.inr rfl, g3, fun h => absurd hcur h, fun q hq => ?_, t2, g4, g5, g6, g7, r1, r2, t3⟩⟩
    · rw [hcur] at hq; cases hq
    · rw [hcur] at hq; cases hq
    · rw [hcur] at hq; cases hq
  | cons t r =>
    rw [pick_cons hr] at B2 ⊢
    have al := (alv_of B T).1 t (by rw [hr]; exact List.mem_cons_self)
    obtain ⟨ht, h1⟩ := B.rs t (by rw [hr]; exact List.mem_cons_self)
    generalize hU : ((S.s_cur (some t)).s_rd r).s_m (hp_sI S.m 8731 t 0) = U at B2
    have um : U.m = hp_sI S.m 8731 t 0 := by rw [← hU]
    have uc : U.cur = some t := by rw [← hU]
    have us : U.std = 0 := by rw [← hU]; exact hs
    have ur : U.rd = r := by rw [← hU]
    have hI : ∀ k, k ≠ 8731 → hp_I U.m k = hp_I S.m k := fun k hk => by funext j; rw [um]; simp [hI_I, hk]
    have hst : ∀ q, stt U q = if q = t then 0 else stt S q := fun q => by
      unfold stt
      rw [um]
      by_cases hq : q = t <;> simp [hI_I, hq]
    have hB : hp_B U.m 8729 = hp_B S.m 8729 := by rw [um]; rfl
    have hat : hp_I S.m 8733 t = -1 := by
      rcases T.2.1 t ht al with h | h
      · rw [h1] at h; exact absurd h (by decide)
      · exact h
    have T2 : IT U := T.set (how := 0) (place := -1) hB hst (fun q => by
      rw [hI 8733 (by decide)]
      by_cases hq : q = t
      · rw [if_pos hq, hq, hat]
      · rw [if_neg hq]) (fun q hq hm => by
        rw [hr] at hm
        rw [ur]
        rcases List.mem_cons.mp hm with h | h
        · exact absurd h hq
        · exact h) al (Or.inr rfl) (fun h => absurd h (by decide))
    have V : IV U n := ⟨B2, T2, G.cong (Nat.le_refl _) (by rw [← hU]) (fun e he => by rw [← hU] at he; exact he) (hI _ (by decide)) (hI _ (by decide)) (hI _ (by decide)), R.cong (Nat.le_refl _) (by rw [← hU]) (hI _ (by decide)), by rw [← hU]; exact L⟩
    refine V.stay uc ?_ ?_ us
    · rw [hst, if_pos rfl]
    · unfold aliv; rw [hB]; exact al
theorem IV.next (h : IV S n) (hs : S.std = 0) (hc : S.cur = none) : FI (sNext S) n := by
  obtain ⟨B, T, G, R, L⟩ := h
  unfold sNext
  have F := FX.loop S.me.length S
  obtain ⟨-, a2, -, a4⟩ := alv_of B T
  refine IV.pick ⟨B.loop, (TA.loop _ S ⟨T, a2⟩ a4).1, F.ig G (Nat.le_refl _), F.ir R (Nat.le_refl _), L.loop _⟩ ?_ ?_
  · rw [F.2.2.2.2.1]; exact hs
  · rw [F.2.2.2.2.2.1]; exact hc
end IV2
