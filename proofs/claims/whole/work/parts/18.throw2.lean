section KH
variable {p : Program} {l : Launch} {e : Env} {R : Room} {s : State} {m : MethodId} {args : Array Value} {below : List Frame} {meth : Method} {c : Code} {H : Heap} {locs : List Loc} {cells slots : Nat} {Q : State → Prop}
variable {s0 : State} {D : va_G} {cA : Nat → ClassId} {cc : ByteArray} {own : String} {nL : Nat} {ι ι0 : Nat → Nat} {h h0 hf : kx_H} {rr : kx_R} {pc : Nat} {k : kx_F} {ls : Array Slot} {rest : List Value} {a t i : Nat} {r : vw_C}
theorem kx_P_keep {H' : Heap} {k9 n9 : Nat} (hP : kx_P s0 D cA ι h H) (hz : s0.heap.size ≤ H.size) (hq : ∀ q : Nat, q < H.size → H'[q]? = H[q]?) : kx_P s0 D cA ι (hp_bump h k9 n9) H' := by
  refine ⟨fun b t' hb => ?_, hP.2.1, hP.2.2.1, hP.2.2.2⟩
  have hlt := kx_P_lt hP hz hb
  obtain ⟨g1, g2, g3, g4⟩ := hP.1 b t' hb
  refine ⟨g1, fun z => ?_, fun z => ?_, fun z => ?_⟩
  · obtain ⟨x1, x2⟩ := g2 z
    exact ⟨x1.kept (hq _ hlt), x2⟩
  · obtain ⟨x0, r', x1, x2⟩ := g3 z
    exact ⟨x0, r', x1, x2.kept (hq _ hlt)⟩
  · obtain ⟨x0, x1⟩ := g4 z
    exact ⟨x0, by rw [hq _ hlt]; exact x1⟩
/-- ldc of a String, short or wide -/
def kx_ld (cc : ByteArray) (pc i w : Nat) : Prop := (w = 2 ∧ decode cc pc = .ok (.ldc i, 2)) ∨ (w = 3 ∧ decode cc pc = .ok (.ldc_w i, 3))
theorem kx_ldcs (hx : p.tables.exec = Jvm.exec) (hb : c.code = cc) {tx : String} {w : Nat} (hown : s.vm.findClass own = some m.cls) (hw : (Cond.stringRef own i tx).before args s = true) (hd : kx_ld cc pc i w)
    (kk : ∀ q : Nat, W p l e R s m args below meth c H locs cells slots Q (F0 m (pc + w) ls (.ref q :: rest))) : W p l e R s m args below meth c H locs cells slots Q (F0 m pc ls rest) := by
  obtain ⟨k, cf, j, a', -, -, -, -, -, hev⟩ := Cond.stringRef_spec hown hw
  intro T hT X
  rcases hd with ⟨rfl, hd⟩ | ⟨rfl, hd⟩
  · obtain ⟨t, a1, b1⟩ := kk a' T hT X
    exact ⟨t, X.ldcString hx hown (text := tx) (a := a') hw hev (g := F0 m pc ls rest) rfl (by rw [hb]; exact hd) t a1, b1⟩
  · obtain ⟨t, a1, b1⟩ := kk a' T hT X
    exact ⟨t, X.ldcStringW hx hown (text := tx) (a := a') hw hev (g := F0 m pc ls rest) rfl (by rw [hb]; exact hd) t a1, b1⟩
theorem kx_s_th (G : kx_G p e R s m args meth c s0 D cA cc own nL h0) (hT0 : kx_T0 s0) (hfl : l.flags = pinnedFlags ++ [noTraceFlag]) {ic ex i9 i8 w : Nat} {tx : String} (hq : (own, ic, ex) ∈ kx_ths) (hfit : Bundle.fit (kx_en ex) = true) (h1 : Cond.classLink own i9 (kx_en ex) ∈ kx_WS) (h2 : Cond.instantiable (kx_en ex) 6 ∈ kx_WS) (h3 : Cond.initialized (kx_en ex) ∈ kx_WS) (h4 : Cond.stringRef own i8 tx ∈ kx_WS)
    (hd0 : decode cc pc = .ok (.new i9, 3)) (hd1 : decode cc (pc + 3) = .ok (.dup, 1)) (hd2 : kx_ld cc (pc + 4) i8 w) (hd3 : decode cc (pc + 4 + w) = .ok (.invokespecial ic, 3)) (hd4 : decode cc (pc + 4 + w + 3) = .ok (.athrow, 1)) (hfr : 6 ≤ R.frames) (hlo : 100 ≤ R.locals) (hout : ∀ pc, ∀ x ∈ c.exceptionTable.toList, covers x pc = false) : kx_Sn p l e R s m args below meth c s0 D cA nL ι0 h0 rr hf pc (kx_th kx_cc kx_cs ex) := by
  intro lv st h hF
  unfold kx_th at hF
  split at hF
  · split at hF
    · rename_i hroom
      cases hF
      intro ι H locs cells slots ls hP hA hl hs hv hS hC hU hI hE
      obtain ⟨hx, hb, hown, hml, hlocks, hts, hB, hcc, hcs⟩ := id G
      intro T hT X
      have hc1 : cells + 1 ≤ R.cells := by omega
      have hs1 : slots + 6 ≤ R.slots := by omega
      have X' := kx_rebase X (by omega) (by omega)
      have hW' : s.WarmedH (T.setFrames (.invoking m args :: below)).vm := X.warmed
      have hh' : (T.setFrames (.invoking m args :: below)).heap = H := hT
      have hvm' : (T.setFrames (.invoking m args :: below)).vm = T.vm := rfl
      generalize hs' : T.setFrames (.invoking m args :: below) = s' at X' hW' hh' hvm'
      have hts' : ∀ w ∈ kx_WS, w.before args s' = true := fun w hw => kx_good w hw args args s s' hW' (hts w hw)
      have hown' : s'.vm.findClass own = some m.cls := by rw [hW'.alike.findClass]; exact hown
      have hBU := kx_BU hB hW' (by rw [hh']; exact hS)
      have hrx := kx_rx_ok (kx_ths_lt hq)
      have hta := kx_ta_at hT0 hBU.1 hBU.2.2.2.2 hq args
      obtain ⟨cX, kX, hfX, hkX, -⟩ := Cond.instantiable_spec (hts' _ h2)
      have hin : W p l e { frames := R.frames, cells := R.cells - cells, slots := R.slots - slots, locals := R.locals } s' m args below meth c H [] 0 0 (fun t => t.status = .running ∧ Ended t below (.threw H.size) ∧ s'.WarmedH t.vm ∧ s'.sameButNew ({ t with vm := s'.vm } : State) [] 1 6 ∧ ∃ ce, t.heap[H.size]? = some ce ∧ ce.vm = .none ∧ s'.vm.findClass (kx_en ex) = some ce.cls) (F0 m pc ls []) := by
        refine W.newcK hx hb hown' (hts' _ h1) (hts' _ h2) (hts' _ h3) rfl hd0 (by show 0 + 1 ≤ R.cells - cells; omega) (by show 0 + 6 ≤ R.slots - slots; omega) hfX rfl fun H' kC hkC e1 e2 e3 => ?_
        refine lv_dup hx hb hd1 rfl ?_
        refine kx_ldcs hx hb hown' (hts' _ h4) hd2 fun q => ?_
        intro T2 hT2 X2
        obtain ⟨U, u1, u2, u3, u4, u5, ce, u6, u7⟩ := kx_ctorX X2 hx (Launch.traces_off hfl X2.admits) hrx.1 hrx.2.1 hrx.2.2.1 hrx.2.2.2 hown' hfit (by decide +kernel) hta (fun x hx => by cases hx) (a := H.size) (cX := cX) (kX := kC) hfX hkC (by rw [hT2]; exact e1) (by rw [hh']; exact Nat.le_refl _) (msg := .ref q) rfl (g := F0 m (pc + 4 + w) ls [.ref q, .ref H.size, .ref H.size]) rfl (by show ls.size = _; rw [hml]; exact hl.1) rfl rfl (rest := []) rfl (by rw [hb]; exact hd3) (by rw [hb]; exact hd4) (hout _) (by show 2 + 3 < R.frames; omega) (by show 2 * 0 + (1 + 0) + (13 * (2 + 1) + 42) ≤ R.locals; omega) hlocks
        exact ⟨U, u1, u2, u3, u4, u5, ce, u6, u7⟩
      obtain ⟨t, a1, b1, b2, b3, b4, ce, b5, b6, b7⟩ := hin T hT X'
      have hkeep : ∀ q : Nat, q < H.size → t.heap[q]? = H[q]? := by
        intro q hq9
        have z : s'.heap[q]? = some H[q] := by rw [hh']; exact Array.getElem?_eq_getElem hq9
        have z2 := b4.old_cell z
        rw [Array.getElem?_eq_getElem hq9]
        exact z2
      have hz : s0.heap.size ≤ H.size := Nat.le_trans hB.2.2.2.1 hS.1
      have hsame : T.sameButNew ({ t with vm := T.vm } : State) [] 1 6 := by
        obtain ⟨z1, z2⟩ := b4
        rw [← hs'] at z1 z2
        refine ⟨?_, z2⟩
        rw [State.setFrames_setFrames] at z1
        exact z1
      have hfin := X.same.trans (hsame.setVm s.vm)
      rw [List.append_nil] at hfin
      refine ⟨t, a1, .threw H.size, b1, b2, ι, locs, cells + 1, slots + 6, hI, kx_P_keep hP hz hkeep, ⟨H.size, ce, rfl, b5, (by rw [b6]; rfl), (by rw [b6]; exact fun z => (by cases z)), ?_⟩, State.WarmedH.trans hW' b3, hfin, hS.2.2, fun q hq9 => ?_, ?_, ?_, ?_⟩
      · rw [b3.alike.findClass]; exact b7
      · rw [hkeep q (Nat.lt_of_lt_of_le hq9 hz)]
        exact hS.2.1 q (Nat.lt_of_lt_of_le hq9 hB.2.2.2.1) (fun z => absurd z.1 (by omega))
      · show hp_C h0 + (cells + 1) = hp_C h + 1; omega
      · show hp_U h0 + (slots + 6) = hp_U h + 6; omega
      · exact ⟨hE.1, hE.2.1, hroom.1, hroom.2⟩
    · cases hF
  · cases hF
end KH
