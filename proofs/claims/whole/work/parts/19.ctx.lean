section KX
variable {p : Program} {l : Launch} {e : Env} {R : Room} {s : State} {m : MethodId} {args : Array Value} {below : List Frame} {meth : Method} {c : Code} {H : Heap} {locs : List Loc} {cells slots : Nat} {Q : State → Prop}
variable {s0 : State} {D : va_G} {cA : Nat → ClassId} {cc : ByteArray} {own : String} {nL : Nat} {ι ι0 : Nat → Nat} {h h0 hf : kx_H} {rr : kx_R} {pc : Nat} {k : kx_F} {ls : Array Slot} {rest : List Value} {a t i : Nat} {r : vw_C}
/-- all that a block's walk leans on -/
def kx_X (p : Program) (l : Launch) (e : Env) (R : Room) (s : State) (m : MethodId) (args : Array Value) (below : List Frame) (meth : Method) (c : Code) (s0 : State) (D : va_G) (cA : Nat → ClassId) (nL : Nat) (ι0 : Nat → Nat) (h0 : kx_H) (rr : kx_R) (hf : kx_H) (cc : ByteArray) (own : String) (C : kx_C) (d : Nat) (ret : Option FieldType) (nm : String) (J : Nat → kx_F) : Prop :=
  kx_G p e R s m args meth c s0 D cA cc own nL h0 ∧ kx_cs9 l s0 D cA C d ∧ kx_need (d + 1) R ∧ (∀ pc, ∀ x ∈ c.exceptionTable.toList, covers x pc = false) ∧ meth.sig.returnType = ret ∧ meth.name = nm ∧ kx_T0 s0 ∧ l.flags = pinnedFlags ++ [noTraceFlag] ∧ ∀ b, kx_Sn p l e R s m args below meth c s0 D cA nL ι0 h0 rr hf b (J b)
theorem kx_sub {ws : List Cond} (is : List Nat) (h : ws = is.filterMap (fun i => lw_tbl[i]?)) (hk : ws.all kx_kb = true) : ∀ w ∈ ws, w ∈ kx_WS := by
  intro w hw
  have h1 := List.all_eq_true.mp hk w hw
  rw [h] at hw
  obtain ⟨i, -, hi⟩ := List.mem_filterMap.mp hw
  exact kx_in_ws (List.mem_of_getElem? hi) h1
theorem kx_wd1 {w : Cond} (i : Nat) (h : lw_tbl[i]? = some w) (hk : kx_kb w = true) : w ∈ kx_WS := kx_in_ws (List.mem_of_getElem? h) hk
theorem kx_s_thd (G : kx_G p e R s m args meth c s0 D cA cc own nL h0) (hT0 : kx_T0 s0) (hfl : l.flags = pinnedFlags ++ [noTraceFlag]) {d ic ex i9 i8 w : Nat} {tx : String} (hR : kx_need (d + 1) R) (hq : (own, ic, ex) ∈ kx_ths) (hfit : Bundle.fit (kx_en ex) = true) (h1 : Cond.classLink own i9 (kx_en ex) ∈ kx_WS) (h2 : Cond.instantiable (kx_en ex) 6 ∈ kx_WS) (h3 : Cond.initialized (kx_en ex) ∈ kx_WS) (h4 : Cond.stringRef own i8 tx ∈ kx_WS)
    (hd0 : decode cc pc = .ok (.new i9, 3)) (hd1 : decode cc (pc + 3) = .ok (.dup, 1)) (hd2 : kx_ld cc (pc + 4) i8 w) (hd3 : decode cc (pc + 4 + w) = .ok (.invokespecial ic, 3)) (hd4 : decode cc (pc + 4 + w + 3) = .ok (.athrow, 1)) (hout : ∀ pc, ∀ x ∈ c.exceptionTable.toList, covers x pc = false) : kx_Sn p l e R s m args below meth c s0 D cA nL ι0 h0 rr hf pc (kx_thd kx_cc kx_cs d ex) := by
  unfold kx_thd
  cases hz : Nat.ble 4 d with
  | false => exact kx_s_no
  | true =>
    have h9 := Nat.le_of_ble_eq_true hz
    exact kx_s_th G hT0 hfl hq hfit h1 h2 h3 h4 hd0 hd1 hd2 hd3 hd4 (by have := hR.1; omega) (by have := hR.2; omega) hout
theorem kx_s_pop2 (G : kx_G p e R s m args meth c s0 D cA cc own nL h0) (hd : decode cc pc = .ok (.pop2, 1)) (hk : kx_Sn p l e R s m args below meth c s0 D cA nL ι0 h0 rr hf (pc + 1) k) : kx_Sn p l e R s m args below meth c s0 D cA nL ι0 h0 rr hf pc (kx_pop2 k) := by
  intro lv st h hF
  unfold kx_pop2 at hF
  split at hF
  · intro ι H locs cells slots ls hP hA hl hs hv hS hC hU hI hE
    exact lv_pop2_2 G.1 G.2.1 hd rfl (hk _ _ _ hF ι H locs cells slots ls hP hA hl (kx_okt hs) hv hS hC hU hI hE)
  · cases hF
theorem kx_tq {lo hi : Int} {offs : Array Int} {v : Int32} {F : kx_F} (off : Int) (tgt : Nat) (h1 : ¬ v.toInt < lo) (h2 : ¬ hi < v.toInt) (h3 : offs[(v.toInt - lo).toNat]? = some off) (h4 : (pc : Int) + off = (tgt : Int)) (h5 : kx_Sn p l e R s m args below meth c s0 D cA nL ι0 h0 rr hf tgt F) : ¬ ((v, F) : Int32 × kx_F).1.toInt < lo ∧ ¬ hi < ((v, F) : Int32 × kx_F).1.toInt ∧ ∃ (off : Int) (tgt : Nat), offs[(((v, F) : Int32 × kx_F).1.toInt - lo).toNat]? = some off ∧ (pc : Int) + off = (tgt : Int) ∧ kx_Sn p l e R s m args below meth c s0 D cA nL ι0 h0 rr hf tgt ((v, F) : Int32 × kx_F).2 := ⟨h1, h2, off, tgt, h3, h4, h5⟩
theorem kx_lq {dflt : Int} {ps : Array (Int × Int)} {v : Int32} {F : kx_F} (off : Int) (tgt : Nat) (h3 : Op.lookupswitch.offset ps.toList dflt v.toInt = off) (h4 : (pc : Int) + off = (tgt : Int)) (h5 : kx_Sn p l e R s m args below meth c s0 D cA nL ι0 h0 rr hf tgt F) : ∃ (off : Int) (tgt : Nat), Op.lookupswitch.offset ps.toList dflt ((v, F) : Int32 × kx_F).1.toInt = off ∧ (pc : Int) + off = (tgt : Int) ∧ kx_Sn p l e R s m args below meth c s0 D cA nL ι0 h0 rr hf tgt ((v, F) : Int32 × kx_F).2 := ⟨off, tgt, h3, h4, h5⟩
end KX
