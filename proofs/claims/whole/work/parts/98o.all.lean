/-! what holds at the first round; all scripts -/
section ALL
variable {L : Nat} {xs : Nat → Int32} {W : kx_H}
def S00 (W : kx_H) : kS := (0, some 0, 0, 0, W, [], 0, [], [], [], 0, [], [], 0)
theorem WF.I0 (h : WF L xs W) (k a : Nat) (h1 : k ∉ [400, 808, 1200, 600, 8733, 8739, 2, 1216, 1208, 1]) : hp_I W k a = 0 := by
  simp only [List.mem_cons, List.not_mem_nil, or_false, not_or] at h1
  obtain ⟨a1, a2, a3, a4, a5, a6, a7, a8, a9, a10⟩ := h1
  rw [h.2.2.2.2.1 k a (by simp [a1, a2, a3, a4]), if_neg (fun e => a5 e.1), if_neg (fun e => a6 e.1), if_neg (fun e => a7 e.1), if_neg (fun e => a8 e.1), if_neg (fun e => a9 e.1), if_neg a10]
theorem WF.L0 (h : WF L xs W) (k a : Nat) : hp_L W k a = 0 := h.2.2.2.2.2.1 k a
theorem WF.B0 (h : WF L xs W) (k a : Nat) (h1 : k ≠ 8729) (h2 : k ≠ 1204) : hp_B W k a = false := by
  rw [h.2.2.2.2.2.2.1 k a, decide_eq_false_iff_not]
  exact fun e => e.elim (fun e => h1 e.1) (fun e => h2 e.1)
theorem WF.R0 (h : WF L xs W) (k a : Nat) (hk : k < 1800) (hk2 : k ∉ [6, 0, 4, 1406, 202, 12, 16, 402, 404, 18, 26, 32, 802, 800, 1202, 5, 1035, 602, 604, 1045, 1602, 24, 816, 30]) : hp_R W k a = none := h.2.2.2.2.2.2.2.1 k a hk hk2
theorem WF.al (h : WF L xs W) (t : Nat) : hp_B W 8729 t = decide (t = 0) := by
  rw [h.2.2.2.2.2.2.1]
  by_cases ht : t = 0 <;> simp [ht]
theorem WF.at (h : WF L xs W) (t : Nat) : hp_I W 8733 t = if t = 0 then -1 else 0 := by
  rw [h.2.2.2.2.1 8733 t (by decide)]
  by_cases ht : t = 0 <;> simp [ht]
theorem WF.ca (h : WF L xs W) (t : Nat) : hp_I W 8739 t = if t = 0 then -1 else 0 := by
  rw [h.2.2.2.2.1 8739 t (by decide)]
  by_cases ht : t = 0 <;> simp [ht]
theorem cnt0 : (List.range 256).countP (fun t => decide (t = 0)) = 1 := by decide +kernel
theorem WF.cr (h : WF L xs W) : CR W (S00 W) 0 := by
  have hT := h.2.2.2.2.2.2.2.2.2
  obtain ⟨⟨r0, r4, r12, r16, r18, r26, r32, r6⟩, nw, cA, ta, cn, ga, cv, cp⟩ := hT
  have hN := h.2.2.1
  refine ⟨[], nl 3340 2 512, [], [], nl 3339 2 512, [], nl 5 1 512, ⟨⟨r0, r4, r12, r16, r18, r26, r32⟩, ⟨hN.2.2.1, hN.2.2.2.1, hN.2.2.2.2.1, hN.2.2.2.2.2⟩, fun t ht => ⟨(ta t ht).1, (ta t ht).2.1, (ta t ht).2.2.1⟩, cn, nw, ga⟩, ⟨fun t ht => ?_, fun t ht => ?_, fun t ht => ?_, fun t ht => ?_, fun t ht => ?_, fun t ht => ?_, fun t ht => ?_⟩, ⟨r6, ?_, h.L0 _ _, ?_, ?_, h.I0 _ _ (by decide), h.I0 _ _ (by decide), h.I0 _ _ (by decide), h.I0 _ _ (by decide)⟩, ⟨fun c hc => ?_, fun c hc => ?_, fun c hc => ?_, fun c hc => h.I0 _ _ (by decide), fun c hc => h.I0 _ _ (by decide), h.B0 _ _ (by decide) (by decide), h.I0 _ _ (by decide), h.I0 _ _ (by decide)⟩, ⟨fun g hg => ?_, fun g hg => ?_, fun g l hg => absurd hg (Nat.not_lt_zero _)⟩, ?_, ⟨rfl, fun i p e hp => (by cases i <;> cases hp)⟩, rfl, rfl, rfl, ?_, Or.inr ?_⟩
  · show hp_B W 1204 (524 + 2 * t) = hp_B W 8729 t
    rw [h.al, h.2.2.2.2.2.2.1]
    by_cases ht : t = 0
    · subst ht; decide
    · rw [decide_eq_false ht, decide_eq_false_iff_not]
      omega
  · show hp_I W 1206 (524 + 2 * t) = hp_I W 8731 t
    rw [h.I0 _ _ (by decide), h.I0 _ _ (by decide)]
  · show hp_I W 1208 (524 + 2 * t) = hp_I W 8733 t
    rw [h.at, h.2.2.2.2.1 1208 _ (by decide)]
    by_cases ht : t = 0
    · subst ht
      rw [if_neg (by decide), if_neg (by decide), if_neg (by decide), if_neg (by decide), if_pos (by decide), if_pos rfl]
    · rw [if_neg (by omega), if_neg (by omega), if_neg (by omega), if_neg (by omega), if_neg (by omega), if_neg (by omega), if_neg ht]
  · show hp_L W 1212 (524 + 2 * t) = hp_L W 8735 t
    rw [h.L0, h.L0]
  · show hp_B W 1214 (524 + 2 * t) = hp_B W 8737 t
    rw [h.B0 _ _ (by decide) (by decide), h.B0 _ _ (by decide) (by decide)]
  · show hp_I W 1216 (524 + 2 * t) = hp_I W 8739 t
    rw [h.ca, h.2.2.2.2.1 1216 _ (by decide)]
    by_cases ht : t = 0
    · subst ht
      rw [if_neg (by decide), if_neg (by decide), if_neg (by decide), if_pos (by decide), if_pos rfl]
    · rw [if_neg (by omega), if_neg (by omega), if_neg (by omega), if_neg (by omega), if_neg (by omega), if_neg (by omega), if_neg ht]
  · show hp_B W 1218 (524 + 2 * t) = hp_B W 8741 t
    rw [h.B0 _ _ (by decide) (by decide), h.B0 _ _ (by decide) (by decide)]
  · rw [h.B0 _ _ (by decide) (by decide)]; rfl
  · show hp_I W 2 1 = i32 ((List.range 256).countP (fun t => hp_B W 8729 t))
    rw [show (fun t => hp_B W 8729 t) = fun t => decide (t = 0) from funext h.al, cnt0, h.2.2.2.2.1 2 1 (by decide)]
    rfl
  · show hp_I W 20 1 = i32 ((List.range 512).countP (fun c => hp_B W 8745 c))
    rw [show (fun t => hp_B W 8745 t) = fun t => false from funext fun t => h.B0 _ _ (by decide) (by decide), h.I0 _ _ (by decide), List.countP_false]
    rfl
  · show hp_B W 406 (1035 + 3 * c) = hp_B W 8745 c
    rw [h.B0 _ _ (by decide) (by decide), h.B0 _ _ (by decide) (by decide)]
  · show hp_B W 408 (1035 + 3 * c) = hp_B W 8747 c
    rw [h.B0 _ _ (by decide) (by decide), h.B0 _ _ (by decide) (by decide)]
  · show hp_I W 410 (1035 + 3 * c) = hp_I W 8749 c
    rw [h.I0 _ _ (by decide), h.I0 _ _ (by decide)]
  · show hp_I W 606 (2571 + 3 * g) = hp_I W 8771 g
    rw [h.I0 _ _ (by decide), h.I0 _ _ (by decide)]
  · show hp_I W 608 (2571 + 3 * g) = hp_I W 8773 g
    rw [h.I0 _ _ (by decide), h.I0 _ _ (by decide)]
  · refine ⟨⟨fun r => ⟨h.R0 _ _ (by decide) (by decide), h.R0 _ _ (by decide) (by decide), h.I0 _ _ (by decide), List.nodup_nil⟩, fun r xs p ys e => ?_, fun p r e => ?_, fun p _ => ⟨h.R0 _ _ (by decide) (by decide), h.R0 _ _ (by decide) (by decide)⟩⟩, fun q hq => (by cases hq), fun q hq => (by cases hq), fun q hq => (by cases hq), fun t ht => ⟨(ta t ht).2.2.2.1, (ta t ht).2.2.2.2⟩, fun t ht => h.R0 _ _ (by decide) (by decide), fun t => Nat.zero_le _, cp, ?_, List.nodup_nil, fun p hp => ?_, ?_⟩
    · have e' : [] = xs ++ p :: ys := e
      cases xs <;> cases e'
    · rw [h.R0 _ _ (by decide) (by decide)] at e
      cases e
    · show (nl 3340 2 512 ++ [] ++ []).Nodup
      rw [List.append_nil, List.append_nil]
      exact nl_nd (by decide) 512
    · rw [List.append_nil] at hp
      obtain ⟨j, hj, rfl⟩ := nl_mem hp
      unfold isPL
      omega
    · rw [nl_len]
      omega
  · refine ⟨rfl, fun c hc => ⟨h.R0 _ _ (by decide) (by decide), h.R0 _ _ (by decide) (by decide)⟩, fun x hx => (by cases hx), cv, ?_, ?_⟩
    · show (nl 3339 2 512 ++ []).Nodup
      rw [List.append_nil]
      exact nl_nd (by decide) 512
    · rw [nl_len]
      rfl
  · refine ⟨h.R0 _ _ (by decide) (by decide), fun x hx => (by cases hx), cA, ?_, ?_, List.Pairwise.nil, fun x => rfl⟩
    · show (nl 5 1 512 ++ []).Nodup
      rw [List.append_nil]
      exact nl_nd (by decide) 512
    · rw [nl_len]
      rfl
theorem WF.mr (h : WF L xs W) : MR W (S00 W) :=
  ⟨h.2.2.2.2.2.2.2.2.1, h.I0 _ _ (by decide), h.I0 _ _ (by decide), h.I0 _ _ (by decide), h.L0 _ _, ⟨fun _ _ => rfl, rfl, fun _ _ => rfl⟩, ⟨h.I0 _ _ (by decide), fun k x e => (by cases k <;> cases e)⟩, h.I0 _ _ (by decide), ⟨h.I0 _ _ (by decide), fun k x e => (by cases k <;> cases e)⟩, ⟨h.I0 _ _ (by decide), fun k x e => (by cases k <;> cases e)⟩, ⟨h.I0 _ _ (by decide), fun k x e => (by cases k <;> cases e)⟩, h.I0 _ _ (by decide), ⟨h.I0 _ _ (by decide), fun k x e => (by cases k <;> cases e)⟩, ⟨h.I0 _ _ (by decide), fun k x e => (by cases k <;> cases e)⟩, h.I0 _ _ (by decide)⟩
theorem WF.fi (h : WF L xs W) : FI (S00 W) 0 := by
  have hs : ∀ t, stt (S00 W) t = 0 := fun t => h.I0 _ _ (by decide)
  refine ⟨⟨⟨fun t e => ?_, List.nodup_nil, fun t e => (by cases e), fun t e => (by cases e), List.nodup_nil, fun t e => (by cases e), List.nodup_nil, fun t x e => (by cases e), fun t x e => (by cases e)⟩, ⟨Nat.le_refl _, Nat.le_refl _⟩, rfl, fun t _ => hs t, Nat.zero_le _, fun e he => (by cases he), Nat.zero_le _, Nat.zero_le _, fun g hg => absurd hg (Nat.not_lt_zero _)⟩, fun t _ => rfl, fun e => (by cases e), fun g hg => absurd hg (Nat.not_lt_zero _), fun _ t _ _ => hs t, fun t e => ?_, fun t _ e => Or.inr ?_, fun g hg => absurd hg (Nat.not_lt_zero _), fun g _ _ => h.I0 _ _ (by decide), fun e he => (by cases he), fun e he => (by cases he), ⟨?_, ?_⟩, fun c hc => ?_, fun t _ _ e => ?_⟩
  · have e' : some 0 = some t := e
    cases e'
    decide
  · have e' : some 0 = some t := e
    cases e'
    show hp_B W 8729 0 = true
    rw [h.al]
    rfl
  · have e' : hp_B W 8729 t = true := e
    rw [h.al, decide_eq_true_iff] at e'
    show hp_I W 8733 t = -1
    rw [h.at, if_pos e']
  · show -8192 * ((0 : Nat) : Int) ≤ (0 : Int32).toInt
    decide
  · show (0 : Int32).toInt ≤ 8192
    decide
  · have e : sRoom (S00 W) c = 0 := h.I0 _ _ (by decide)
    rw [e]
    decide
  · rw [hs] at e
    exact absurd e (by decide)
theorem WF.li (h : WF L xs W) : LI L xs 0 W (S00 W) := by
  refine ⟨h.cr, h.mr, h.fi, h.2.2.1.1, ?_, h.2.2.1.2.1, h.2.2.2.1.1, h.2.2.2.1.2⟩
  funext a
  rw [h.2.2.2.2.1 1 a (by decide)]
  simp
theorem kx_all_good : ∀ L xs, L ≤ 2560 → kx_goodL L xs := by
  intro L xs hL
  obtain ⟨φ, hφ⟩ := kx_fl 4000 (by omega)
  obtain ⟨W, e, h⟩ := law0 L xs (φ + 4000)
  obtain ⟨hf, e2⟩ := o_loop (xs := xs) hL 512 0 (φ + 4000) W (S00 W) (by omega) (by omega) h.li
  have ok : ∀ q ∈ kLv 0, kz_ok (hp_T W) q.2 := by
    intro q hq
    simp only [List.mem_cons, List.not_mem_nil, or_false] at hq
    rcases hq with rfl | rfl | rfl | rfl | rfl
    · intro a e; cases e; exact h.2.1.1
    · intro a e; cases e; exact h.2.1.2.1
    · intro a e; cases e; exact h.2.1.2.2.1
    · intro a e; cases e; exact h.2.1.2.2.2
    · trivial
  obtain ⟨e3, -⟩ := zz_law (T := hp_T W) (d := 9) (φ + 4000) 23 (kLv 0) [] W ok (fun v hv => (by cases hv)) h.1 _ _ e2
  refine ⟨kz_e hf, ?_⟩
  rw [hφ]
  exact e.trans e3
end ALL
