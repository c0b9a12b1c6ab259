/-! frames, chains, rows -/
def FR (ki kl kr kb : List Nat) (w w' : kx_H) : Prop := (∀ k, k ∉ ki → hp_I w' k = hp_I w k) ∧ (∀ k, k ∉ kl → hp_L w' k = hp_L w k) ∧ (∀ k, k ∉ kr → hp_R w' k = hp_R w k) ∧ (∀ k, k ∉ kb → hp_B w' k = hp_B w k) ∧ hp_T w' = hp_T w ∧ hp_N w' = hp_N w ∧ hp_X w' = hp_X w ∧ hp_C w' = hp_C w ∧ hp_U w' = hp_U w
section FRS
variable {ki kl kr kb ki' kl' kr' kb' : List Nat} {w w' w'' : kx_H} {k i : Nat}
theorem FR.rf : FR ki kl kr kb w w := ⟨fun _ _ => rfl, fun _ _ => rfl, fun _ _ => rfl, fun _ _ => rfl, rfl, rfl, rfl, rfl, rfl⟩
theorem FR.sI {v : Int32} (hk : k ∈ ki) (h : FR ki kl kr kb w w') : FR ki kl kr kb w (hp_sI w' k i v) := by
  obtain ⟨h1, h2⟩ := h
  refine ⟨fun q hq => ?_, h2⟩
  rw [← h1 q hq]
  funext j
  exact if_neg (fun z : q = k ∧ j = i => hq (z.1 ▸ hk))
theorem FR.sL {v : Int64} (hk : k ∈ kl) (h : FR ki kl kr kb w w') : FR ki kl kr kb w (hp_sL w' k i v) := by
  obtain ⟨h1, h2, h3⟩ := h
  refine ⟨h1, fun q hq => ?_, h3⟩
  rw [← h2 q hq]
  funext j
  exact if_neg (fun z : q = k ∧ j = i => hq (z.1 ▸ hk))
theorem FR.sR {v : Option Nat} (hk : k ∈ kr) (h : FR ki kl kr kb w w') : FR ki kl kr kb w (hp_sR w' k i v) := by
  obtain ⟨h1, h2, h3, h4⟩ := h
  refine ⟨h1, h2, fun q hq => ?_, h4⟩
  rw [← h3 q hq]
  funext j
  exact if_neg (fun z : q = k ∧ j = i => hq (z.1 ▸ hk))
theorem FR.sB {v : Bool} (hk : k ∈ kb) (h : FR ki kl kr kb w w') : FR ki kl kr kb w (hp_sB w' k i v) := by
  obtain ⟨h1, h2, h3, h4, h5⟩ := h
  refine ⟨h1, h2, h3, fun q hq => ?_, h5⟩
  rw [← h4 q hq]
  funext j
  exact if_neg (fun z : q = k ∧ j = i => hq (z.1 ▸ hk))
theorem FR.tr (h : FR ki kl kr kb w w') (h' : FR ki kl kr kb w' w'') : FR ki kl kr kb w w'' := by
  obtain ⟨a1, a2, a3, a4, a5, a6, a7, a8, a9⟩ := h
  obtain ⟨b1, b2, b3, b4, b5, b6, b7, b8, b9⟩ := h'
  exact ⟨fun k hk => (b1 k hk).trans (a1 k hk), fun k hk => (b2 k hk).trans (a2 k hk), fun k hk => (b3 k hk).trans (a3 k hk), fun k hk => (b4 k hk).trans (a4 k hk), b5.trans a5, b6.trans a6, b7.trans a7, b8.trans a8, b9.trans a9⟩
theorem FR.mono (h : FR ki kl kr kb w w') (h1 : ∀ x ∈ ki, x ∈ ki') (h2 : ∀ x ∈ kl, x ∈ kl') (h3 : ∀ x ∈ kr, x ∈ kr') (h4 : ∀ x ∈ kb, x ∈ kb') : FR ki' kl' kr' kb' w w' := by
  obtain ⟨a1, a2, a3, a4, a5⟩ := h
  exact ⟨fun k hk => a1 k (fun z => hk (h1 k z)), fun k hk => a2 k (fun z => hk (h2 k z)), fun k hk => a3 k (fun z => hk (h3 k z)), fun k hk => a4 k (fun z => hk (h4 k z)), a5⟩
theorem FR.I (h : FR ki kl kr kb w w') (k : Nat) (hk : k ∉ ki) : hp_I w' k = hp_I w k := h.1 k hk
theorem FR.L (h : FR ki kl kr kb w w') (k : Nat) (hk : k ∉ kl) : hp_L w' k = hp_L w k := h.2.1 k hk
theorem FR.R (h : FR ki kl kr kb w w') (k : Nat) (hk : k ∉ kr) : hp_R w' k = hp_R w k := h.2.2.1 k hk
theorem FR.B (h : FR ki kl kr kb w w') (k : Nat) (hk : k ∉ kb) : hp_B w' k = hp_B w k := h.2.2.2.1 k hk
theorem FR.N (h : FR ki kl kr kb w w') : hp_N w' = hp_N w := h.2.2.2.2.2.1
theorem FR.C (h : FR ki kl kr kb w w') : hp_C w' = hp_C w := h.2.2.2.2.2.2.2.1
theorem FR.U (h : FR ki kl kr kb w w') : hp_U w' = hp_U w := h.2.2.2.2.2.2.2.2
end FRS
/-- a chain by f -/
def ch (f : Nat → Option Nat) (s : Option Nat) (l : List Nat) : Prop := match l with
  | [] => s = none
  | p :: r => s = some p ∧ ch f (f p) r
theorem ch.upd {f g : Nat → Option Nat} {s : Option Nat} {l : List Nat} (h : ch f s l) (hg : ∀ p ∈ l, g p = f p) : ch g s l := by
  induction l generalizing s with
  | nil => exact h
  | cons p r ih =>
    refine ⟨h.1, ?_⟩
    rw [hg p List.mem_cons_self]
    exact ih h.2 (fun q hq => hg q (List.mem_cons_of_mem _ hq))
def up (f : Nat → List Nat) (r : Nat) (l : List Nat) : Nat → List Nat := fun x => if x = r then l else f x
theorem up_s (f : Nat → List Nat) (r : Nat) (l : List Nat) : up f r l r = l := if_pos rfl
theorem up_n (f : Nat → List Nat) {r x : Nat} (l : List Nat) (h : x ≠ r) : up f r l x = f x := if_neg h
/-- rows, doubly linked: of each row the places -/
def kRow (w : kx_H) (rl : Nat → List Nat) : Prop :=
  (∀ r, hp_R w 1000 r = (rl r).head? ∧ hp_R w 1002 r = (rl r).getLast? ∧ hp_I w 1004 r = i32 (rl r).length ∧ (rl r).Nodup) ∧
  (∀ r xs p ys, rl r = xs ++ p :: ys → hp_R w 810 p = some r ∧ hp_R w 812 p = xs.getLast? ∧ hp_R w 814 p = ys.head?) ∧
  (∀ p r, hp_R w 810 p = some r → p ∈ rl r) ∧
  (∀ p, hp_R w 810 p = none → hp_R w 812 p = none ∧ hp_R w 814 p = none)
theorem kRow.cong {w w' : kx_H} {rl : Nat → List Nat} (h : kRow w rl) (h1 : hp_R w' 810 = hp_R w 810) (h2 : hp_R w' 812 = hp_R w 812) (h3 : hp_R w' 814 = hp_R w 814) (h4 : hp_R w' 1000 = hp_R w 1000) (h5 : hp_R w' 1002 = hp_R w 1002) (h6 : hp_I w' 1004 = hp_I w 1004) : kRow w' rl := by
  unfold kRow
  rw [h1, h2, h3, h4, h5, h6]
  exact h
theorem kRow.row {w : kx_H} {rl : Nat → List Nat} (h : kRow w rl) {r p : Nat} (hp : p ∈ rl r) : hp_R w 810 p = some r := by
  obtain ⟨xs, ys, e⟩ := List.append_of_mem hp
  exact (h.2.1 r xs p ys e).1
theorem kRow.not {w : kx_H} {rl : Nat → List Nat} (h : kRow w rl) {p : Nat} (hp : hp_R w 810 p = none) (r : Nat) : p ∉ rl r := fun hm => by
  rw [h.row hm] at hp
  cases hp
theorem ls_split {L xs ys : List Nat} {p y : Nat} (h : L ++ [p] = xs ++ y :: ys) : (ys = [] ∧ y = p ∧ xs = L) ∨ ∃ zs, ys = zs ++ [p] ∧ L = xs ++ y :: zs := by
  rcases List.eq_nil_or_concat ys with rfl | ⟨zs, z, rfl⟩
  · have := List.append_inj' h rfl
    simp at this
    exact Or.inl ⟨rfl, this.2.symm, this.1.symm⟩
  · right
    have h' : L ++ [p] = (xs ++ y :: zs) ++ [z] := by simpa using h
    have := List.append_inj' h' rfl
    simp at this
    refine ⟨zs, by simp [this.2], this.1⟩
section ROWS
variable {w : kx_H} {rl : Nat → List Nat} {d r p : Nat}
/-- Row.append -/
theorem L_append (K : kRow w rl) (hp : hp_R w 810 p = none) : ∃ w', kx_ev wx_M (d + 1) 28 [kx_r 5 (some r), kx_r 4 (some p)] w = some (.inl none, w') ∧ kRow w' (up rl r (rl r ++ [p])) ∧ FR [1004] [] [810, 812, 814, 1000, 1002] [] w w' := by
  obtain ⟨K1, K2, K3, K4⟩ := id K
  obtain ⟨k1, k2, k3, k4⟩ := K1 r
  have hn := K.not hp
  obtain ⟨ψ, hψ⟩ := kx_fu
  rw [mE_28 hψ]
  unfold mb_28_0
  rcases List.eq_nil_or_concat (rl r) with hL | ⟨L, q, hL⟩
  · have e2 : hp_R w 1002 r = none := by rw [k2, hL]; rfl
    refine ⟨hp_sI (hp_sR (hp_sR (hp_sR (hp_sR w 810 p (some r)) 812 p none) 1000 r (some p)) 1002 r (some p)) 1004 r (i32 1), ?_, ⟨fun x => ?_, fun x xs y ys hx => ?_, fun y x hy => ?_, fun y hy => ?_⟩, FR.sI (by decide) (FR.sR (by decide) (FR.sR (by decide) (FR.sR (by decide) (FR.sR (by decide) FR.rf))))⟩
    · have e3 : hp_I w 1004 r = 0 := by rw [k3, hL]; rfl
      simp only [ob_s, hI_I, hI_L, hI_R, hI_B, hI_b, hL_I, hL_L, hL_R, hL_B, hL_b, hR_I, hR_L, hR_R, hR_B, hR_b, hB_I, hB_L, hB_R, hB_B, hB_b, hN_I, hN_L, hN_R, hN_B, hN_b, hT_I, hT_L, hT_R, hT_B, hT_b, hX_I, hX_L, hX_R, hX_B, hX_b, hC_I, hC_L, hC_R, hC_B, hC_b, hU_I, hU_L, hU_R, hU_B, hU_b, e2, me_28_36, mb_28_36, e3]
      simp
      rfl
    · by_cases hx : x = r
      · subst hx
        rw [up_s, hL]
        simp only [hI_I, hI_L, hI_R, hI_B, hI_b, hL_I, hL_L, hL_R, hL_B, hL_b, hR_I, hR_L, hR_R, hR_B, hR_b, hB_I, hB_L, hB_R, hB_B, hB_b, hN_I, hN_L, hN_R, hN_B, hN_b, hT_I, hT_L, hT_R, hT_B, hT_b, hX_I, hX_L, hX_R, hX_B, hX_b, hC_I, hC_L, hC_R, hC_B, hC_b, hU_I, hU_L, hU_R, hU_B, hU_b]
        simp
      · rw [up_n _ _ hx]
        simp only [hI_I, hI_L, hI_R, hI_B, hI_b, hL_I, hL_L, hL_R, hL_B, hL_b, hR_I, hR_L, hR_R, hR_B, hR_b, hB_I, hB_L, hB_R, hB_B, hB_b, hN_I, hN_L, hN_R, hN_B, hN_b, hT_I, hT_L, hT_R, hT_B, hT_b, hX_I, hX_L, hX_R, hX_B, hX_b, hC_I, hC_L, hC_R, hC_B, hC_b, hU_I, hU_L, hU_R, hU_B, hU_b]
        simp [hx]
        exact K1 x
    · by_cases hx9 : x = r
      · subst hx9
        rw [up_s, hL] at hx
        rcases ls_split hx with ⟨rfl, rfl, rfl⟩ | ⟨zs, -, hz⟩
        · simp only [hI_I, hI_L, hI_R, hI_B, hI_b, hL_I, hL_L, hL_R, hL_B, hL_b, hR_I, hR_L, hR_R, hR_B, hR_b, hB_I, hB_L, hB_R, hB_B, hB_b, hN_I, hN_L, hN_R, hN_B, hN_b, hT_I, hT_L, hT_R, hT_B, hT_b, hX_I, hX_L, hX_R, hX_B, hX_b, hC_I, hC_L, hC_R, hC_B, hC_b, hU_I, hU_L, hU_R, hU_B, hU_b]
          simp
          exact (K4 _ hp).2
        · simp at hz
      · rw [up_n _ _ hx9] at hx
        have hy := K2 x xs y ys hx
        have hyp : y ≠ p := fun e => by rw [e] at hy; rw [hp] at hy; cases hy.1
        simp only [hI_I, hI_L, hI_R, hI_B, hI_b, hL_I, hL_L, hL_R, hL_B, hL_b, hR_I, hR_L, hR_R, hR_B, hR_b, hB_I, hB_L, hB_R, hB_B, hB_b, hN_I, hN_L, hN_R, hN_B, hN_b, hT_I, hT_L, hT_R, hT_B, hT_b, hX_I, hX_L, hX_R, hX_B, hX_b, hC_I, hC_L, hC_R, hC_B, hC_b, hU_I, hU_L, hU_R, hU_B, hU_b]
        simp [hyp]
        exact hy
    · simp only [hI_I, hI_L, hI_R, hI_B, hI_b, hL_I, hL_L, hL_R, hL_B, hL_b, hR_I, hR_L, hR_R, hR_B, hR_b, hB_I, hB_L, hB_R, hB_B, hB_b, hN_I, hN_L, hN_R, hN_B, hN_b, hT_I, hT_L, hT_R, hT_B, hT_b, hX_I, hX_L, hX_R, hX_B, hX_b, hC_I, hC_L, hC_R, hC_B, hC_b, hU_I, hU_L, hU_R, hU_B, hU_b] at hy
      by_cases hyp : y = p
      · subst hyp
        simp at hy
        subst hy
        rw [up_s]
        simp
      · simp [hyp] at hy
        have := K3 y x hy
        by_cases hx : x = r
        · subst hx; rw [up_s]; simp [this]
        · rw [up_n _ _ hx]; exact this
    · simp only [hI_I, hI_L, hI_R, hI_B, hI_b, hL_I, hL_L, hL_R, hL_B, hL_b, hR_I, hR_L, hR_R, hR_B, hR_b, hB_I, hB_L, hB_R, hB_B, hB_b, hN_I, hN_L, hN_R, hN_B, hN_b, hT_I, hT_L, hT_R, hT_B, hT_b, hX_I, hX_L, hX_R, hX_B, hX_b, hC_I, hC_L, hC_R, hC_B, hC_b, hU_I, hU_L, hU_R, hU_B, hU_b] at hy ⊢
      by_cases hyp : y = p
      · subst hyp; simp at hy
      · simp [hyp] at hy ⊢
        exact K4 y hy
  · have e2 : hp_R w 1002 r = some q := by rw [k2, hL]; simp
    have hqr : hp_R w 810 q = some r := K.row (by rw [hL]; simp)
    have hqp : q ≠ p := fun e => by rw [e, hp] at hqr; cases hqr
    have hq := K2 r L q [] (by rw [hL]; simp)
    refine ⟨hp_sI (hp_sR (hp_sR (hp_sR (hp_sR w 810 p (some r)) 812 p (some q)) 814 q (some p)) 1002 r (some p)) 1004 r (i32 ((rl r).length + 1)), ?_, ⟨fun x => ?_, fun x xs y ys hx => ?_, fun y x hy => ?_, fun y hy => ?_⟩, FR.sI (by decide) (FR.sR (by decide) (FR.sR (by decide) (FR.sR (by decide) (FR.sR (by decide) FR.rf))))⟩
    · simp only [ob_s, hI_I, hI_L, hI_R, hI_B, hI_b, hL_I, hL_L, hL_R, hL_B, hL_b, hR_I, hR_L, hR_R, hR_B, hR_b, hB_I, hB_L, hB_R, hB_B, hB_b, hN_I, hN_L, hN_R, hN_B, hN_b, hT_I, hT_L, hT_R, hT_B, hT_b, hX_I, hX_L, hX_R, hX_B, hX_b, hC_I, hC_L, hC_R, hC_B, hC_b, hU_I, hU_L, hU_R, hU_B, hU_b, e2, me_28_36, mb_28_36, k3]
      simp
      rw [i32_add1]
    · by_cases hx : x = r
      · subst hx
        rw [up_s]
        simp only [hI_I, hI_L, hI_R, hI_B, hI_b, hL_I, hL_L, hL_R, hL_B, hL_b, hR_I, hR_L, hR_R, hR_B, hR_b, hB_I, hB_L, hB_R, hB_B, hB_b, hN_I, hN_L, hN_R, hN_B, hN_b, hT_I, hT_L, hT_R, hT_B, hT_b, hX_I, hX_L, hX_R, hX_B, hX_b, hC_I, hC_L, hC_R, hC_B, hC_b, hU_I, hU_L, hU_R, hU_B, hU_b]
        simp
        refine ⟨?_, ?_⟩
        · rw [k1, hL]; cases L <;> simp
        · refine List.nodup_append.mpr ⟨k4, by simp, ?_⟩
          intro a ha b hb
          simp at hb
          subst hb
          intro e
          subst e
          exact hn _ ha
      · rw [up_n _ _ hx]
        simp only [hI_I, hI_L, hI_R, hI_B, hI_b, hL_I, hL_L, hL_R, hL_B, hL_b, hR_I, hR_L, hR_R, hR_B, hR_b, hB_I, hB_L, hB_R, hB_B, hB_b, hN_I, hN_L, hN_R, hN_B, hN_b, hT_I, hT_L, hT_R, hT_B, hT_b, hX_I, hX_L, hX_R, hX_B, hX_b, hC_I, hC_L, hC_R, hC_B, hC_b, hU_I, hU_L, hU_R, hU_B, hU_b]
        simp [hx]
        exact K1 x
    · by_cases hx9 : x = r
      · subst hx9
        rw [up_s] at hx
        rcases ls_split hx with ⟨rfl, rfl, rfl⟩ | ⟨zs, rfl, hz⟩
        · simp only [hI_I, hI_L, hI_R, hI_B, hI_b, hL_I, hL_L, hL_R, hL_B, hL_b, hR_I, hR_L, hR_R, hR_B, hR_b, hB_I, hB_L, hB_R, hB_B, hB_b, hN_I, hN_L, hN_R, hN_B, hN_b, hT_I, hT_L, hT_R, hT_B, hT_b, hX_I, hX_L, hX_R, hX_B, hX_b, hC_I, hC_L, hC_R, hC_B, hC_b, hU_I, hU_L, hU_R, hU_B, hU_b]
          simp [Ne.symm hqp]
          refine ⟨by rw [hL]; simp, (K4 _ hp).2⟩
        · have hy := K2 x xs y zs hz
          have hyp : y ≠ p := fun e => by rw [e] at hy; rw [hp] at hy; cases hy.1
          simp only [hI_I, hI_L, hI_R, hI_B, hI_b, hL_I, hL_L, hL_R, hL_B, hL_b, hR_I, hR_L, hR_R, hR_B, hR_b, hB_I, hB_L, hB_R, hB_B, hB_b, hN_I, hN_L, hN_R, hN_B, hN_b, hT_I, hT_L, hT_R, hT_B, hT_b, hX_I, hX_L, hX_R, hX_B, hX_b, hC_I, hC_L, hC_R, hC_B, hC_b, hU_I, hU_L, hU_R, hU_B, hU_b]
          simp [hyp]
          refine ⟨hy.1, hy.2.1, ?_⟩
          by_cases hyq : y = q
          · subst hyq
            simp
            have hzs : zs = [] := by
              have h1 : L ++ [y] = xs ++ y :: zs := by rw [← hz, hL]; simp
              rcases ls_split h1 with ⟨h2, -, -⟩ | ⟨us, -, h3⟩
              · exact h2
              · exfalso
                have h4 : (L ++ [y]).Nodup := by rw [hL] at k4; simpa using k4
                exact (List.nodup_append.mp h4).2.2 y (by rw [h3]; simp) y (by simp) rfl
            rw [hzs]
            rfl
          · simp [hyq]
            rw [hy.2.2]
            cases zs with
            | nil =>
              exfalso
              have h1 : L ++ [q] = xs ++ [y] := by rw [← hz, hL]; simp
              have := List.append_inj' h1 rfl
              simp at this
              exact hyq this.2.symm
            | cons z zs => rfl
      · rw [up_n _ _ hx9] at hx
        have hy := K2 x xs y ys hx
        have hyp : y ≠ p := fun e => by rw [e] at hy; rw [hp] at hy; cases hy.1
        have hyq : y ≠ q := fun e => by rw [e] at hy; rw [hqr] at hy; exact hx9 (Option.some.inj hy.1).symm
        simp only [hI_I, hI_L, hI_R, hI_B, hI_b, hL_I, hL_L, hL_R, hL_B, hL_b, hR_I, hR_L, hR_R, hR_B, hR_b, hB_I, hB_L, hB_R, hB_B, hB_b, hN_I, hN_L, hN_R, hN_B, hN_b, hT_I, hT_L, hT_R, hT_B, hT_b, hX_I, hX_L, hX_R, hX_B, hX_b, hC_I, hC_L, hC_R, hC_B, hC_b, hU_I, hU_L, hU_R, hU_B, hU_b]
        simp [hyp, hyq]
        exact hy
    · simp only [hI_I, hI_L, hI_R, hI_B, hI_b, hL_I, hL_L, hL_R, hL_B, hL_b, hR_I, hR_L, hR_R, hR_B, hR_b, hB_I, hB_L, hB_R, hB_B, hB_b, hN_I, hN_L, hN_R, hN_B, hN_b, hT_I, hT_L, hT_R, hT_B, hT_b, hX_I, hX_L, hX_R, hX_B, hX_b, hC_I, hC_L, hC_R, hC_B, hC_b, hU_I, hU_L, hU_R, hU_B, hU_b] at hy
      by_cases hyp : y = p
      · subst hyp
        simp at hy
        subst hy
        rw [up_s]
        simp
      · simp [hyp] at hy
        have := K3 y x hy
        by_cases hx : x = r
        · subst hx; rw [up_s]; simp [this]
        · rw [up_n _ _ hx]; exact this
    · simp only [hI_I, hI_L, hI_R, hI_B, hI_b, hL_I, hL_L, hL_R, hL_B, hL_b, hR_I, hR_L, hR_R, hR_B, hR_b, hB_I, hB_L, hB_R, hB_B, hB_b, hN_I, hN_L, hN_R, hN_B, hN_b, hT_I, hT_L, hT_R, hT_B, hT_b, hX_I, hX_L, hX_R, hX_B, hX_b, hC_I, hC_L, hC_R, hC_B, hC_b, hU_I, hU_L, hU_R, hU_B, hU_b] at hy ⊢
      by_cases hyp : y = p
      · subst hyp; simp at hy
      · simp [hyp] at hy ⊢
        have hyq : y ≠ q := fun e => by rw [e, hqr] at hy; cases hy
        simp [hyq]
        exact K4 y hy
end ROWS
