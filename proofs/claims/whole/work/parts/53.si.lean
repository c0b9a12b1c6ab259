/-! what holds between the calls -/
def SI (S : kS) (n : Nat) : Prop := (SB S) ∧ (SL S n) ∧ (SA S) ∧ (∀ t, S.cur = some t → stt S t = 0) ∧ (S.mt.length ≤ 16) ∧ (∀ e ∈ S.mt, e.1 = -1 ∨ ∃ c, c < 512 ∧ e.1 = i32 c) ∧ (S.gates ≤ 256) ∧ (S.al ≤ 256) ∧ (∀ g, g < S.gates → sKind S g = 3 → ∃ l, l < S.gates ∧ sLock S g = i32 l ∧ sKind S l = 0)
theorem SI.b {S : kS} {n : Nat} (h : SI S n) : SB S := h.1
theorem SI.l {S : kS} {n : Nat} (h : SI S n) : SL S n := h.2.1
theorem SI.a {S : kS} {n : Nat} (h : SI S n) : SA S := h.2.2.1
theorem SI.cs {S : kS} {n : Nat} (h : SI S n) : ∀ t, S.cur = some t → stt S t = 0 := h.2.2.2.1
theorem SI.ml {S : kS} {n : Nat} (h : SI S n) : S.mt.length ≤ 16 := h.2.2.2.2.1
theorem SI.mc {S : kS} {n : Nat} (h : SI S n) : ∀ e ∈ S.mt, e.1 = -1 ∨ ∃ c, c < 512 ∧ e.1 = i32 c := h.2.2.2.2.2.1
theorem SI.gl {S : kS} {n : Nat} (h : SI S n) : S.gates ≤ 256 := h.2.2.2.2.2.2.1
theorem SI.al {S : kS} {n : Nat} (h : SI S n) : S.al ≤ 256 := h.2.2.2.2.2.2.2.1
theorem SI.lk {S : kS} {n : Nat} (h : SI S n) : ∀ g, g < S.gates → sKind S g = 3 → ∃ l, l < S.gates ∧ sLock S g = i32 l ∧ sKind S l = 0 := h.2.2.2.2.2.2.2.2
section SIS
variable {S : kS} {t n : Nat} {how place : Int32}
theorem stt_set (S : kS) (t : Nat) (how place : Int32) (q : Nat) : hp_I (hp_sI (hp_sI S.m 8731 t how) 8733 t place) 8731 q = if q = t then how else stt S q := by
  by_cases h : q = t <;> simp [stt, hI_I, h]
theorem SB.rest (B : SB S) (h : nIn S t) (ht : t < 256) (X : List kMo) (Y : List kMe) (Z : List kMs)
    (hX : ∀ e ∈ X, e.1 = t ∧ e.2.1 < 512 ∧ (how = 2 ∨ how = 3 ∨ how = 4)) (hY : Y = [] ∨ ∃ y, Y = [(Sum.inl t, y)] ∧ how = 5) (hZ : Z = [] ∨ ∃ g r, Z = [(t, g, r)] ∧ g < 256 ∧ how = 6) :
    SB (kS.s_cur ((kS.s_m ((kS.s_sn ((kS.s_me ((kS.s_mo S (S.mo ++ X))) (S.me ++ Y))) (S.sn ++ Z))) (hp_sI (hp_sI S.m 8731 t how) 8733 t place))) (none)) := by
  obtain ⟨h1, h2, h3, h4⟩ := h
  have st : ∀ q, stt (kS.s_cur ((kS.s_m ((kS.s_sn ((kS.s_me ((kS.s_mo S (S.mo ++ X))) (S.me ++ Y))) (S.sn ++ Z))) (hp_sI (hp_sI S.m 8731 t how) 8733 t place))) (none)) q = if q = t then how else stt S q := stt_set S t how place
  refine ⟨fun q hq => (nomatch hq), B.rn, fun q hq => ?_, fun e he => ?_, ?_, fun e he => ?_, ?_, fun q y hy => ?_, fun c y hy => ?_⟩
  · rw [st, if_neg (fun z : q = t => h1 (z ▸ hq))]; exact B.rs q hq
  · rw [st]
    rcases List.mem_append.mp he with h5 | h5
    · rw [if_neg (h2 e h5)]; exact B.os e h5
    · obtain ⟨e1, e2, e3⟩ := hX e h5
      rw [if_pos e1, e1]
      exact ⟨ht, e2, e3⟩
  · show ((S.sn ++ Z).map (·.1)).Nodup
    rcases hZ with rfl | ⟨g, r, rfl, -, -⟩
    · simpa using B.nn
    · rw [List.map_append, List.nodup_append]
      refine ⟨B.nn, by simp, fun a ha b hb z => ?_⟩
      simp at hb
      subst hb
      subst z
      obtain ⟨q, h5, h6⟩ := List.mem_map.mp ha
      exact h3 q h5 h6
  · rw [st]
    rcases List.mem_append.mp he with h5 | h5
    · rw [if_neg (h3 e h5)]; exact B.ss e h5
    · rcases hZ with rfl | ⟨g, r, rfl, hg, hh⟩
      · simp at h5
      · simp at h5
        subst h5
        rw [if_pos rfl]
        exact ⟨ht, hg, hh⟩
  · show (eTs (S.me ++ Y)).Nodup
    rcases hY with rfl | ⟨y, rfl, -⟩
    · simpa using B.en
    · unfold eTs
      rw [List.filterMap_append, List.nodup_append]
      refine ⟨B.en, by simp, fun a ha b hb z => ?_⟩
      simp at hb
      subst hb
      subst z
      obtain ⟨q, h5, h6⟩ := List.mem_filterMap.mp ha
      obtain ⟨q1, q2⟩ := q
      cases q1 with
      | inl q1 =>
        simp at h6
        subst h6
        exact h4 _ h5
      | inr q1 => simp at h6
  · rw [st]
    rcases List.mem_append.mp hy with h5 | h5
    · rw [if_neg (fun z : q = t => h4 y (z ▸ h5))]; exact B.es q y h5
    · rcases hY with rfl | ⟨y', rfl, hh⟩
      · simp at h5
      · simp at h5
        obtain ⟨rfl, rfl⟩ := h5
        rw [if_pos rfl]
        exact ⟨ht, hh⟩
  · rcases List.mem_append.mp hy with h5 | h5
    · exact B.ec c y h5
    · rcases hY with rfl | ⟨y', rfl, hh⟩
      · simp at h5
      · simp at h5
theorem SB.nin0 (B : SB S) (h : stt S t = 0) : nIn S t := B.nin (by rw [h]; decide) (by rw [h]; decide) (by rw [h]; decide) (by rw [h]; decide) (by rw [h]; decide) (by rw [h]; decide)
end SIS
