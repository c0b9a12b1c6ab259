/-! what is thrown -/
abbrev T1 (x : Int32) : Prop := x = 0 ∨ x = 1
abbrev T2 (x : Int32) : Prop := x = 0 ∨ x = 1 ∨ x = 2
abbrev T3 (x : Int32) : Prop := x = 0 ∨ x = 1 ∨ x = 2 ∨ x = 3
theorem T3.o0 {x : Int32} (h : x = 0) : T3 x := Or.inl h
theorem T3.o1 {x : Int32} (h : x = 1) : T3 x := Or.inr (Or.inl h)
theorem T3.o2 {x : Int32} (h : x = 2) : T3 x := Or.inr (Or.inr (Or.inl h))
theorem T3.o3 {x : Int32} (h : x = 3) : T3 x := Or.inr (Or.inr (Or.inr h))
theorem T2.o0 {x : Int32} (h : x = 0) : T2 x := Or.inl h
theorem T2.o1 {x : Int32} (h : x = 1) : T2 x := Or.inr (Or.inl h)
theorem T2.o2 {x : Int32} (h : x = 2) : T2 x := Or.inr (Or.inr h)
section TH
variable {S : kS} {t g : Nat} {c x y how place : Int32} {v : Int64} {b goes r f : Bool}
theorem rest_th : (sRest S t how place).th = S.th := by
  unfold sRest
  rw [next_th] <;> rfl
theorem del_th : (sDel S g v).th = S.th := by
  unfold sDel
  split <;> rfl
theorem unlock_th : (sUnlock S g).th = S.th := by
  unfold sUnlock
  split <;> rfl
theorem pass_th : (sPass S t goes g r f).1.th = S.th := by
  unfold sPass
  split
  · rfl
  · exact rest_th
theorem grow_th : (sGrow S g x).th = S.th := by
  unfold sGrow
  dsimp only
  split
  · exact letAll_th
  · rfl
theorem th_send : T3 (pSend S c v).1.th := by
  unfold pSend
  split
  · exact T3.o1 rfl
  split
  · exact T3.o2 rfl
  split
  · exact T3.o3 rfl
  split
  · refine T3.o0 ?_
    rw [has_th, del_th] <;> rfl
  split
  · refine T3.o0 ?_
    rw [rest_th] <;> rfl
  · refine T3.o0 ?_
    rw [rest_th] <;> rfl
theorem th_recv : T2 (pRecv S c).1.th := by
  unfold pRecv
  split
  · exact T2.o1 rfl
  split
  · exact T2.o2 rfl
  split
  · refine T2.o0 ?_
    rw [take_th] <;> rfl
  split
  · refine T2.o0 ?_
    rw [rest_th] <;> rfl
  · refine T2.o0 ?_
    rw [rest_th] <;> rfl
theorem th_close : T3 (pClose S c).th := by
  unfold pClose
  split
  · exact T3.o1 rfl
  split
  · exact T3.o2 rfl
  split
  · exact T3.o3 rfl
  · refine T3.o0 ?_
    dsimp only
    rw [all_th, all_th] <;> rfl
theorem th_offer : T2 (pOffer S c b v).1.th := by
  unfold pOffer
  split
  · exact T2.o1 rfl
  split
  · exact T2.o2 rfl
  · exact T2.o0 rfl
theorem th_choose : T3 (pChoose S c b).1.th := by
  unfold pChoose
  split
  · exact T3.o1 rfl
  split
  · exact T3.o2 rfl
  split
  · unfold sDone
    split
    · refine T3.o0 ?_
      rw [take_th] <;> rfl
    split
    · exact T3.o3 rfl
    · refine T3.o0 ?_
      rw [has_th, del_th] <;> rfl
  split
  · refine T3.o0 ?_
    rw [has_th] <;> rfl
  · refine T3.o0 ?_
    rw [rest_th] <;> rfl
theorem th_alarm : T2 (pAlarm S c v).th := by
  unfold pAlarm
  split
  · exact T2.o1 rfl
  split
  · exact T2.o2 rfl
  · exact T2.o0 rfl
theorem th_channel : T2 (pChannel S c).1.th := by
  unfold pChannel
  split
  · exact T2.o1 rfl
  split
  · exact T2.o2 rfl
  split
  · exact T2.o2 rfl
  · exact T2.o0 rfl
theorem th_spawn : T1 (pSpawn S).1.th := by
  unfold pSpawn
  split
  · exact Or.inr rfl
  split
  · exact Or.inr rfl
  · exact Or.inl rfl
theorem th_way : T1 (pWay S).1.th := by
  unfold pWay
  split
  · exact Or.inr rfl
  · refine Or.inl ?_
    show (sNext _).th = 0
    rw [next_th] <;> rfl
theorem th_finish : T1 (pFinish S).1.th := by
  unfold pFinish
  split
  · exact Or.inr rfl
  · exact Or.inl (sEnd_th S)
  · refine Or.inl ?_
    show (sNext _).th = 0
    rw [next_th] <;> rfl
theorem th_sleep : T2 (pSleep S v).1.th := by
  unfold pSleep
  split
  · exact T2.o1 rfl
  split
  · exact T2.o2 rfl
  split
  · exact (th_way (S := S)).imp id Or.inl
  · refine T2.o0 ?_
    show (sRest _ _ _ _).th = 0
    rw [rest_th] <;> rfl
theorem th_gate : T2 (pGate S c x).1.th := by
  unfold pGate
  split
  · exact T2.o1 rfl
  split
  · exact T2.o2 rfl
  · exact T2.o0 rfl
theorem th_enter : T3 (pEnter S c).1.th := by
  unfold pEnter
  split
  · exact T3.o1 rfl
  split
  · exact T3.o2 rfl
  dsimp only
  split
  · exact T3.o0 (pass_th.trans rfl)
  split
  · refine T3.o0 (pass_th.trans ?_)
    split <;> rfl
  split
  · exact T3.o0 (pass_th.trans rfl)
  split
  · split
    · exact T3.o3 rfl
    · exact T3.o0 (pass_th.trans (unlock_th.trans rfl))
  · exact T3.o0 (pass_th.trans rfl)
theorem th_read : T2 (pRead S c).1.th := by
  unfold pRead
  split
  · exact T2.o1 rfl
  split
  · exact T2.o2 rfl
  dsimp only
  split
  · exact T2.o0 (pass_th.trans rfl)
  · exact T2.o0 (pass_th.trans rfl)
theorem T3.ite {p : Prop} [Decidable p] {A B : kS} (ha : T3 A.th) (hb : T3 B.th) : T3 (if p then A else B).th := by
  by_cases h : p
  · rw [if_pos h]; exact ha
  · rw [if_neg h]; exact hb
theorem th_leave : T3 (pLeave S c).th := by
  unfold pLeave
  exact T3.ite (T3.o1 rfl) (T3.ite (T3.o2 rfl) (T3.ite (T3.o3 rfl) (T3.ite (T3.o0 (unlock_th.trans rfl)) (T3.ite (T3.o0 (letR_th.trans rfl)) (T3.ite (T3.o0 (grow_th.trans rfl)) (T3.ite (T3.o0 (sig_th.trans rfl)) (T3.o0 (letAll_th.trans rfl))))))))
theorem th_change : T3 (pChange S c x).th := by
  unfold pChange
  split
  · exact T3.o1 rfl
  split
  · exact T3.o2 rfl
  dsimp only
  split
  · exact T3.o3 rfl
  split
  · exact T3.o0 (grow_th.trans rfl)
  split
  · split
    · exact T3.o0 (writer_th.trans rfl)
    · exact T3.o0 rfl
  · exact T3.o0 ((sigs_th _ _).trans rfl)
theorem th_task : T1 (pTask S c x).1.th := by
  unfold pTask
  split
  · exact Or.inr rfl
  · exact Or.inl rfl
theorem th_out : T1 (pOut S c).1.th := by
  unfold pOut
  split
  · exact Or.inl rfl
  · exact Or.inr rfl
theorem th_look : T1 (pLook S c x).1.th := by
  unfold pLook
  split
  · exact Or.inr rfl
  · exact Or.inl rfl
theorem th_watch : T1 (pWatch S c x).1.th := by
  unfold pWatch
  split
  · exact Or.inr rfl
  · exact Or.inl rfl
theorem th_release : (pRelease S c).1.th = 0 := by
  unfold pRelease
  split <;> rfl
end TH
