/-! what rings, one by one -/
def meq (a b : List kMe) : Prop := ∀ x : Int64, a.filter (fun e => e.2 == x) = b.filter (fun e => e.2 == x)
def mso (a : List kMe) : Prop := a.Pairwise (fun p q => p.2 ≤ q.2)
theorem meq.mem {a b : List kMe} (h : meq a b) {e : kMe} (he : e ∈ a) : e ∈ b := by
  have := h e.2
  have h1 : e ∈ a.filter (fun q => q.2 == e.2) := List.mem_filter.mpr ⟨he, by simp⟩
  rw [this] at h1
  exact (List.mem_filter.mp h1).1
theorem meq.sy {a b : List kMe} (h : meq a b) : meq b a := fun x => (h x).symm
theorem meq.nil {b : List kMe} (h : meq [] b) : b = [] := by
  cases b with
  | nil => rfl
  | cons e b => exact absurd (h.sy.mem (e := e) List.mem_cons_self) (by simp)
theorem le_as {a b : Int64} (h1 : a ≤ b) (h2 : b ≤ a) : a = b := by
  rw [Int64.le_iff_toInt_le] at h1 h2
  exact Int64.toInt_inj.mp (by omega)
theorem mso_eq : ∀ {a b : List kMe}, mso a → mso b → meq a b → a = b := by
  intro a
  induction a with
  | nil => intro b _ _ h; exact h.nil.symm
  | cons p a ih =>
    intro b ha hb h
    cases b with
    | nil => exact h.sy.nil
    | cons q b =>
      obtain ⟨a1, a2⟩ := List.pairwise_cons.mp ha
      obtain ⟨b1, b2⟩ := List.pairwise_cons.mp hb
      have e1 : p.2 ≤ q.2 := by
        rcases List.mem_cons.mp (h.sy.mem (e := q) List.mem_cons_self) with e | e
        · rw [e]; exact Int64.le_refl _
        · exact a1 q e
      have e2 : q.2 ≤ p.2 := by
        rcases List.mem_cons.mp (h.mem (e := p) List.mem_cons_self) with e | e
        · rw [e]; exact Int64.le_refl _
        · exact b1 p e
      have e3 := le_as e1 e2
      have h0 := h p.2
      rw [List.filter_cons_of_pos (by simp), List.filter_cons_of_pos (by simp [e3])] at h0
      obtain ⟨h3, h4⟩ := List.cons.inj h0
      subst h3
      rw [ih a2 b2 (fun x => by
        have h5 := h x
        by_cases hx : p.2 = x
        · rw [List.filter_cons_of_pos (by simp [hx]), List.filter_cons_of_pos (by simp [hx])] at h5
          exact (List.cons.inj h5).2
        · rw [List.filter_cons_of_neg (by simp [hx]), List.filter_cons_of_neg (by simp [hx])] at h5
          exact h5)]
theorem meq.perm : ∀ {a b : List kMe}, meq a b → List.Perm a b := by
  intro a
  induction a with
  | nil => intro b h; rw [h.nil]
  | cons e r ih =>
    intro b h
    have h0 := (h e.2).symm
    rw [List.filter_cons_of_pos (by simp)] at h0
    obtain ⟨l1, l2, h1, h2, h3, h4⟩ := List.filter_eq_cons_iff.mp h0
    subst h1
    refine (List.Perm.cons e (ih (b := l1 ++ l2) (fun x => ?_))).trans List.perm_middle.symm
    have h5 := h x
    by_cases hx : e.2 = x
    · subst hx
      rw [List.filter_append]
      have hn : l1.filter (fun q => q.2 == e.2) = [] := by
        rw [List.filter_eq_nil_iff]
        exact h2
      rw [hn, h4]
      rfl
    · rw [List.filter_cons_of_neg (by simp [hx]), List.filter_append, List.filter_cons_of_neg (by simp [hx])] at h5
      rw [h5, List.filter_append]
/-- one rings -/
def cStep (S : kS) (e : kMe) (r : List kMe) : kS := sRing1 e.2 (kS.s_me ((kS.s_clk S (e.2))) (r)) e
def cGo : Nat → kS → kS
  | 0, S => S
  | k + 1, S => match S.me with
    | [] => S
    | e :: r => if r ≠ [] ∧ ((cStep S e r).rd = [] ∨ (r.head?.map (·.2)) = some e.2) then cGo k (cStep S e r) else cStep S e r
section GO
variable {S : kS} {x : Int64} {A B : List kMe}
theorem s1_clk (S : kS) (e : kMe) : (sRing1 x S e).clk = S.clk ∧ (sRing1 x S e).std = S.std ∧ (sRing1 x S e).me = S.me := by
  have hr : ∀ (S : kS) c, (sRings S c).clk = S.clk ∧ (sRings S c).std = S.std ∧ (sRings S c).me = S.me := by
    intro S c
    unfold sRings
    split
    · exact ⟨rfl, rfl, rfl⟩
    · split
      · unfold sDel
        cases sFst S c false <;> exact ⟨rfl, rfl, rfl⟩
      · exact ⟨rfl, rfl, rfl⟩
  unfold sRing1
  split
  · obtain ⟨e1, e2⟩ := e
    cases e1 with
    | inl t => exact ⟨rfl, rfl, rfl⟩
    | inr c => exact hr (kS.s_al S (S.al - 1)) c
  · exact ⟨rfl, rfl, rfl⟩
theorem cGo_batch : ∀ (B : List kMe) (T : kS), (∀ b ∈ B, b.2 = x) → B ≠ [] → T.me = B ++ A → T.clk = x ∨ True → (∀ a, A.head? = some a → a.2 ≠ x) →
    cGo (B.length + A.length) T = if A ≠ [] ∧ (kS.s_me (B.foldl (sRing1 x) (kS.s_clk T (x))) A).rd = [] then cGo A.length (kS.s_me (B.foldl (sRing1 x) (kS.s_clk T (x))) A) else kS.s_me (B.foldl (sRing1 x) (kS.s_clk T (x))) A := by
  intro B
  induction B with
  | nil => intro T _ h; exact absurd rfl h
  | cons b B ih =>
    intro T hb _ hm _ hA
    have hbx : b.2 = x := hb b List.mem_cons_self
    rw [show (b :: B).length + A.length = (B.length + A.length) + 1 by simp; omega]
    have hst : cStep T b (B ++ A) = kS.s_me (sRing1 x (kS.s_clk T (x)) b) (B ++ A) := by
      unfold cStep
      rw [hbx]
      exact sRing1_me (S := (kS.s_clk T (x))) (L := B ++ A) (e := b)
    have e0 : cGo ((B.length + A.length) + 1) T = if B ++ A ≠ [] ∧ ((cStep T b (B ++ A)).rd = [] ∨ ((B ++ A).head?.map (·.2)) = some b.2) then cGo (B.length + A.length) (cStep T b (B ++ A)) else cStep T b (B ++ A) := by
      conv => lhs; unfold cGo
      rw [hm]
      rfl
    rw [e0, hst]
    cases B with
    | nil =>
      simp only [List.nil_append, List.length_nil, Nat.zero_add, List.foldl_cons, List.foldl_nil]
      have hh : ¬ (A.head?.map (·.2)) = some b.2 := by
        cases hA2 : A.head? with
        | none => simp
        | some a =>
          simp
          rw [hbx]
          exact hA a hA2
      simp only [hh, or_false]
      rfl
    | cons c B =>
      have hc : c.2 = x := hb c (by simp)
      rw [if_pos ⟨by simp, Or.inr (by simp [hc, hbx])⟩]
      have := ih (kS.s_me (sRing1 x (kS.s_clk T (x)) b) (c :: B ++ A)) (fun q hq => hb q (List.mem_cons_of_mem _ hq)) (by simp) rfl (Or.inr trivial) hA
      rw [this]
      have hck : ((sRing1 x (kS.s_clk T (x)) b).clk) = x := (s1_clk _ b).1
      have e1 : kS.s_clk (kS.s_me (sRing1 x (kS.s_clk T (x)) b) (c :: B ++ A)) x = kS.s_me (sRing1 x (kS.s_clk T (x)) b) (c :: B ++ A) := by
        have : ∀ U : kS, U.clk = x → U.s_clk x = U := fun U h => by subst h; rfl
        exact this _ hck
      rw [e1]
      have e2 : ∀ (L : List kMe) (U : kS) (M : List kMe), L.foldl (sRing1 x) (U.s_me M) = (L.foldl (sRing1 x) U).s_me M := by
        intro L
        induction L with
        | nil => intro U M; rfl
        | cons q L ihL => intro U M; rw [List.foldl_cons, List.foldl_cons, sRing1_me, ihL]
      rw [e2, kS_me_me]
      rfl
theorem fold_fl (L : List kMe) (U : kS) : L.foldl (sRing1 x) U = (L.filter (fun e => e.2 == x)).foldl (sRing1 x) U := by
  induction L generalizing U with
  | nil => rfl
  | cons q L ih =>
    by_cases hq : q.2 = x
    · rw [List.filter_cons_of_pos (by simp [hq]), List.foldl_cons, List.foldl_cons, ih]
    · rw [List.filter_cons_of_neg (by simp [hq]), List.foldl_cons, ih]
      congr 1
      exact if_neg hq
theorem least_le (l : List kMe) : ∀ e ∈ l, sLeast l ≤ e.2 := by
  cases l with
  | nil => intro e he; simp at he
  | cons a r =>
    show ∀ e ∈ a :: r, r.foldl (fun x e => if e.2 < x then e.2 else x) a.2 ≤ e.2
    have h : ∀ (r : List kMe) (z : Int64), r.foldl (fun x e => if e.2 < x then e.2 else x) z ≤ z ∧ ∀ e ∈ r, r.foldl (fun x e => if e.2 < x then e.2 else x) z ≤ e.2 := by
      intro r
      induction r with
      | nil => intro z; exact ⟨Int64.le_refl _, fun e he => by simp at he⟩
      | cons q r ih =>
        intro z
        rw [List.foldl_cons]
        obtain ⟨i1, i2⟩ := ih (if q.2 < z then q.2 else z)
        have hm : (if q.2 < z then q.2 else z) ≤ z ∧ (if q.2 < z then q.2 else z) ≤ q.2 := by
          split
          · rename_i h
            rw [Int64.lt_iff_toInt_lt] at h
            refine ⟨?_, Int64.le_refl _⟩
            rw [Int64.le_iff_toInt_le]
            omega
          · rename_i h
            exact ⟨Int64.le_refl _, le_of_nlt h⟩
        refine ⟨Int64.le_trans i1 hm.1, fun e he => ?_⟩
        rcases List.mem_cons.mp he with rfl | he
        · exact Int64.le_trans i1 hm.2
        · exact i2 e he
    intro e he
    rcases List.mem_cons.mp he with rfl | he
    · exact (h r e.2).1
    · exact (h r a.2).2 e he
theorem sLoop_fuel : ∀ (k j : Nat) (S : kS), S.me.length ≤ k → S.me.length ≤ j → sLoop k S = sLoop j S := by
  intro k
  induction k with
  | zero =>
    intro j S hk _
    have h0 : S.me = [] := List.eq_nil_of_length_eq_zero (by omega)
    cases j with
    | zero => rfl
    | succ j =>
      conv => rhs; unfold sLoop
      rw [if_neg (by simp [h0])]
      rfl
  | succ k ih =>
    intro j S hk hj
    cases j with
    | zero =>
      have h0 : S.me = [] := List.eq_nil_of_length_eq_zero (by omega)
      conv => lhs; unfold sLoop
      rw [if_neg (by simp [h0])]
      rfl
    | succ j =>
      unfold sLoop
      by_cases h : S.rd = [] ∧ S.me ≠ []
      · rw [if_pos h, if_pos h]
        have := sRing_lt h.2
        exact ih j (sRing S) (by omega) (by omega)
      · rw [if_neg h, if_neg h]
/-- one by one is as all at once -/
theorem cGo_loop : ∀ (N : Nat) (A : List kMe) (S : kS), A.length ≤ N → mso A → meq A S.me → S.rd = [] → ∃ A', mso A' ∧ meq A' (sLoop S.me.length S).me ∧ cGo A.length (S.s_me A) = (sLoop S.me.length S).s_me A' := by
  intro N
  induction N with
  | zero =>
    intro A S hN hs hq hr
    have h0 : A = [] := List.eq_nil_of_length_eq_zero (by omega)
    subst h0
    have h1 := hq.nil
    refine ⟨[], hs, ?_, ?_⟩
    · rw [h1]; exact fun x => by rw [show sLoop ([] : List kMe).length S = S from rfl, h1]
    · rw [h1]; rfl
  | succ N ih =>
    intro A S hN hs hq hr
    cases A with
    | nil =>
      have h1 := hq.nil
      refine ⟨[], hs, ?_, ?_⟩
      · rw [h1]; exact fun x => by rw [show sLoop ([] : List kMe).length S = S from rfl, h1]
      · rw [h1]; rfl
    | cons a A =>
      have hne : S.me ≠ [] := fun h => by
        rw [h] at hq
        exact absurd (hq.mem (e := a) List.mem_cons_self) (by simp)
      obtain ⟨s1, s2⟩ := List.pairwise_cons.mp hs
      have hx : sLeast S.me = a.2 := by
        obtain ⟨e, e1, e2⟩ := sLeast_mem hne
        refine le_as (least_le _ a (hq.mem List.mem_cons_self)) ?_
        rw [← e2]
        rcases List.mem_cons.mp (hq.sy.mem e1) with h | h
        · rw [h]; exact Int64.le_refl _
        · exact s1 e h
      -- the batch
      obtain ⟨B, hB⟩ : ∃ B, B = (a :: A).filter (fun e => e.2 == a.2) := ⟨_, rfl⟩
      obtain ⟨R, hR⟩ : ∃ R, R = (a :: A).filter (fun e => e.2 != a.2) := ⟨_, rfl⟩
      have hBR : B ++ R = a :: A := by
        have hspl : ∀ l : List kMe, mso l → (∀ e ∈ l, a.2 ≤ e.2) → l.filter (fun e => e.2 == a.2) ++ l.filter (fun e => e.2 != a.2) = l := by
          intro l
          induction l with
          | nil => intro _ _; rfl
          | cons q l ihl =>
            intro hl hle
            obtain ⟨q1, q2⟩ := List.pairwise_cons.mp hl
            by_cases hqa : q.2 = a.2
            · rw [List.filter_cons_of_pos (by simp [hqa]), List.filter_cons_of_neg (by simp [hqa]), List.cons_append, ihl q2 (fun e he => hle e (List.mem_cons_of_mem _ he))]
            · have hn : (q :: l).filter (fun e => e.2 == a.2) = [] := by
                rw [List.filter_eq_nil_iff]
                intro e he h
                simp at h
                rcases List.mem_cons.mp he with rfl | he
                · exact hqa h
                · have h1 := q1 e he
                  rw [h] at h1
                  exact hqa (le_as h1 (hle q List.mem_cons_self))
              have hf : (q :: l).filter (fun e => e.2 != a.2) = q :: l := by
                rw [List.filter_eq_self]
                intro e he
                have := (List.filter_eq_nil_iff.mp hn) e he
                simpa using this
              rw [hn, hf]
              rfl
        rw [hB, hR]
        exact hspl (a :: A) hs (fun e he => by
          rcases List.mem_cons.mp he with rfl | he
          · exact Int64.le_refl _
          · exact s1 e he)
      have hBx : ∀ b ∈ B, b.2 = a.2 := fun b hb => by
        rw [hB] at hb
        have := (List.mem_filter.mp hb).2
        simpa using this
      have hBn : B ≠ [] := fun h => by
        have : a ∈ B := by rw [hB]; exact List.mem_filter.mpr ⟨List.mem_cons_self, by simp⟩
        rw [h] at this
        simp at this
      have hRh : ∀ q, R.head? = some q → q.2 ≠ a.2 := fun q hq => by
        have : q ∈ R := List.mem_of_head? hq
        rw [hR] at this
        have := (List.mem_filter.mp this).2
        simpa using this
      have hRs : mso R := by rw [hR]; exact List.Pairwise.sublist List.filter_sublist hs
      have hlen : (a :: A).length = B.length + R.length := by rw [← hBR, List.length_append]
      have hBl : 0 < B.length := List.length_pos_iff.mpr hBn
      have hRm : meq R (S.me.filter (fun e => e.2 != a.2)) := fun y => by
        rw [hR, List.filter_filter, List.filter_filter]
        have h5 : ∀ l : List kMe, l.filter (fun q => q.2 == y && q.2 != a.2) = (l.filter (fun q => q.2 == y)).filter (fun q => q.2 != a.2) := fun l => by
          rw [List.filter_filter]
          apply List.filter_congr
          intro q _
          exact Bool.and_comm _ _
        rw [h5, h5, hq y]
      have hg := cGo_batch (x := a.2) (A := R) B (S.s_me (a :: A)) hBx hBn hBR.symm (Or.inr trivial) hRh
      have hfold : (B.foldl (sRing1 a.2) (kS.s_clk (S.s_me (a :: A)) a.2)).s_me R = (sRing S).s_me R := by
        unfold sRing
        rw [hx, kS_me_me, fold_fl S.me, ← hq a.2, ← hB]
        have e2 : ∀ (L : List kMe) (U : kS) (M : List kMe), L.foldl (sRing1 a.2) (U.s_me M) = (L.foldl (sRing1 a.2) U).s_me M := by
          intro L
          induction L with
          | nil => intro U M; rfl
          | cons q L ihL => intro U M; rw [List.foldl_cons, List.foldl_cons, sRing1_me, ihL]
        have e3 : kS.s_clk (S.s_me (a :: A)) a.2 = (S.s_clk a.2).s_me (a :: A) := rfl
        rw [e3, e2, kS_me_me]
      have hml : 0 < S.me.length := List.length_pos_iff.mpr hne
      obtain ⟨j, hj⟩ : ∃ j, S.me.length = j + 1 := ⟨S.me.length - 1, by omega⟩
      have hrl := sRing_lt hne
      have e9 : sLoop S.me.length S = sLoop (sRing S).me.length (sRing S) := by
        rw [hj]
        conv => lhs; unfold sLoop
        rw [if_pos ⟨hr, hne⟩]
        exact sLoop_fuel _ _ _ (by omega) (Nat.le_refl _)
      rw [e9, hlen, hg, hfold]
      have hme : (sRing S).me = S.me.filter (fun e => e.2 != a.2) := by
        show S.me.filter (fun e => e.2 != sLeast S.me) = _
        rw [hx]
      rw [← hme] at hRm
      by_cases hc : R ≠ [] ∧ (kS.s_me (sRing S) R).rd = []
      · rw [if_pos hc]
        exact ih R (sRing S) (by omega) hRs hRm hc.2
      · rw [if_neg hc]
        have e8 : sLoop (sRing S).me.length (sRing S) = sRing S := by
          cases hk : (sRing S).me.length with
          | zero => rfl
          | succ k =>
            conv => lhs; unfold sLoop
            rw [if_neg (fun h => hc ⟨fun h2 => ?_, h.1⟩)]
            have : (sRing S).me = [] := by rw [h2] at hRm; exact hRm.nil
            exact h.2 this
        rw [e8]
        exact ⟨R, hRs, hRm, rfl⟩
end GO
