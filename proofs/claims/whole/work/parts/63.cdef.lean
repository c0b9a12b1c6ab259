/-! the class's relation: where each task stands; what each cell holds -/
abbrev kLoc : Type := Option ((Option Nat × Bool) ⊕ (Nat × Bool))
def lrw (l : kLoc) : Nat := match l with
  | none => 3
  | some (.inl (some c, g)) => bif g then 1036 + 3 * c else 1037 + 3 * c
  | some (.inl (none, g)) => bif g then 519 else 520
  | some (.inr (g, r)) => bif r then 2573 + 3 * g else 2572 + 3 * g
def lok (l : kLoc) : Prop := match l with
  | none => True
  | some (.inl (some c, _)) => c < 512
  | some (.inl (none, _)) => True
  | some (.inr (g, _)) => g < 256
def lgv (l : kLoc) : Bool := match l with
  | some (.inl (_, g)) => g
  | _ => false
def sOK (l : kLoc) (s : Int32) : Prop := match l with
  | none => s = 1
  | some (.inl _) => s = 2 ∨ s = 3 ∨ s = 4 ∨ s = 7
  | some (.inr _) => s = 6
theorem lrw_inj {a b : kLoc} (ha : lok a) (hb : lok b) (h : lrw a = lrw b) : a = b := by
  rcases a with _ | ⟨⟨_ | c, g⟩ | ⟨g, r⟩⟩ <;> rcases b with _ | ⟨⟨_ | c', g'⟩ | ⟨g', r'⟩⟩ <;> (try cases g) <;> (try cases g') <;> (try cases r) <;> (try cases r') <;> simp [lrw, lok] at ha hb h ⊢ <;> omega
/-- a place in a row: where, its cell, whose, the value, the case -/
abbrev kQ : Type := kLoc × Nat × Nat × Int64 × Int32
def Qrl (Q : List kQ) (r : Nat) : List Nat := (Q.filter (fun q => lrw q.1 == r)).map (·.2.1)
def qRd (q : kQ) : Option Nat := match q.1 with
  | none => some q.2.2.1
  | some _ => none
def qMo (q : kQ) : Option kMo := match q.1 with
  | some (.inl (some c, g)) => some (q.2.2.1, c, g, q.2.2.2.1, q.2.2.2.2)
  | _ => none
def qSn (q : kQ) : Option kMs := match q.1 with
  | some (.inr (g, r)) => some (q.2.2.1, g, r)
  | _ => none
def isPL (p : Nat) : Prop := 3340 ≤ p ∧ p < 4364 ∧ p % 2 = 0
def qIs (q : kQ) : Bool := !(q.2.1 == 523 + 2 * q.2.2.1)
def qCas (Q : List kQ) (t : Nat) : List Nat := ((Q.filter (fun q => q.2.2.1 == t && qIs q)).map (·.2.1)).reverse
def qPl (Q : List kQ) : List Nat := (Q.filter qIs).map (·.2.1)
def chc (c : Int32) : Nat := if c < 0 then 518 else 1035 + 3 * c.toNatClampNeg
def vCe (V : List (Nat × Int64 × Nat)) (c : Nat) : List Nat := (V.filter (fun x => x.1 == c)).map (·.2.2)
def CK (w : kx_H)  : Prop := (hp_R w 0 1 = some 2 ∧ hp_R w 4 1 = some 3 ∧ hp_R w 12 1 = some 4 ∧ hp_R w 16 1 = some 517 ∧ hp_R w 18 1 = some 518 ∧ hp_R w 26 1 = some 521 ∧ hp_R w 32 1 = some 522) ∧ (hp_N w 2 = 256 ∧ hp_N w 517 = 512 ∧ hp_N w 521 = 16 ∧ hp_N w 522 = 256) ∧ (∀ t, t < 256 → hp_R w 5 t = some (524 + 2 * t) ∧ hp_I w 1200 (524 + 2 * t) = i32 t ∧ hp_R w 1202 (524 + 2 * t) = some (523 + 2 * t)) ∧ (∀ c, c < 512 → hp_R w 1035 c = some (1035 + 3 * c) ∧ hp_I w 400 (1035 + 3 * c) = i32 c ∧ hp_R w 402 (1035 + 3 * c) = some (1036 + 3 * c) ∧ hp_R w 404 (1035 + 3 * c) = some (1037 + 3 * c)) ∧ (hp_I w 400 518 = -1 ∧ hp_R w 402 518 = some 519 ∧ hp_R w 404 518 = some 520) ∧ (∀ g, g < 256 → hp_R w 1045 g = some (2571 + 3 * g) ∧ hp_I w 600 (2571 + 3 * g) = i32 g ∧ hp_R w 602 (2571 + 3 * g) = some (2572 + 3 * g) ∧ hp_R w 604 (2571 + 3 * g) = some (2573 + 3 * g))
theorem CK.d {w : kx_H}  (h : CK w ) : hp_R w 0 1 = some 2 ∧ hp_R w 4 1 = some 3 ∧ hp_R w 12 1 = some 4 ∧ hp_R w 16 1 = some 517 ∧ hp_R w 18 1 = some 518 ∧ hp_R w 26 1 = some 521 ∧ hp_R w 32 1 = some 522 := h.1
theorem CK.n {w : kx_H}  (h : CK w ) : hp_N w 2 = 256 ∧ hp_N w 517 = 512 ∧ hp_N w 521 = 16 ∧ hp_N w 522 = 256 := h.2.1
theorem CK.t {w : kx_H}  (h : CK w ) : ∀ t, t < 256 → hp_R w 5 t = some (524 + 2 * t) ∧ hp_I w 1200 (524 + 2 * t) = i32 t ∧ hp_R w 1202 (524 + 2 * t) = some (523 + 2 * t) := h.2.2.1
theorem CK.c {w : kx_H}  (h : CK w ) : ∀ c, c < 512 → hp_R w 1035 c = some (1035 + 3 * c) ∧ hp_I w 400 (1035 + 3 * c) = i32 c ∧ hp_R w 402 (1035 + 3 * c) = some (1036 + 3 * c) ∧ hp_R w 404 (1035 + 3 * c) = some (1037 + 3 * c) := h.2.2.2.1
theorem CK.nw {w : kx_H}  (h : CK w ) : hp_I w 400 518 = -1 ∧ hp_R w 402 518 = some 519 ∧ hp_R w 404 518 = some 520 := h.2.2.2.2.1
theorem CK.g {w : kx_H}  (h : CK w ) : ∀ g, g < 256 → hp_R w 1045 g = some (2571 + 3 * g) ∧ hp_I w 600 (2571 + 3 * g) = i32 g ∧ hp_R w 602 (2571 + 3 * g) = some (2572 + 3 * g) ∧ hp_R w 604 (2571 + 3 * g) = some (2573 + 3 * g) := h.2.2.2.2.2
theorem CK.fr {w w' : kx_H}  {ki kl kr kb : List Nat} (h : CK w ) (F : FR ki kl kr kb w w') (hI : ∀ k ∈ ([1200, 400, 600] : List Nat), k ∉ ki) (hL : ∀ k ∈ ([] : List Nat), k ∉ kl) (hR : ∀ k ∈ ([0, 4, 12, 16, 18, 26, 32, 5, 1202, 1035, 402, 404, 1045, 602, 604] : List Nat), k ∉ kr) (hB : ∀ k ∈ ([] : List Nat), k ∉ kb) : CK w'  := by
  unfold CK
  simp only [F.I 1200 (hI 1200 (by decide)), F.I 400 (hI 400 (by decide)), F.I 600 (hI 600 (by decide)), F.R 0 (hR 0 (by decide)), F.R 4 (hR 4 (by decide)), F.R 12 (hR 12 (by decide)), F.R 16 (hR 16 (by decide)), F.R 18 (hR 18 (by decide)), F.R 26 (hR 26 (by decide)), F.R 32 (hR 32 (by decide)), F.R 5 (hR 5 (by decide)), F.R 1202 (hR 1202 (by decide)), F.R 1035 (hR 1035 (by decide)), F.R 402 (hR 402 (by decide)), F.R 404 (hR 404 (by decide)), F.R 1045 (hR 1045 (by decide)), F.R 602 (hR 602 (by decide)), F.R 604 (hR 604 (by decide)), F.N]
  exact h

def CT (w : kx_H) (m : kx_H) : Prop := (∀ t, t < 256 → hp_B w 1204 (524 + 2 * t) = hp_B m 8729 t) ∧ (∀ t, t < 256 → hp_I w 1206 (524 + 2 * t) = hp_I m 8731 t) ∧ (∀ t, t < 256 → hp_I w 1208 (524 + 2 * t) = hp_I m 8733 t) ∧ (∀ t, t < 256 → hp_L w 1212 (524 + 2 * t) = hp_L m 8735 t) ∧ (∀ t, t < 256 → hp_B w 1214 (524 + 2 * t) = hp_B m 8737 t) ∧ (∀ t, t < 256 → hp_I w 1216 (524 + 2 * t) = hp_I m 8739 t) ∧ (∀ t, t < 256 → hp_B w 1218 (524 + 2 * t) = hp_B m 8741 t)
theorem CT.al {w : kx_H} {m : kx_H} (h : CT w m) : ∀ t, t < 256 → hp_B w 1204 (524 + 2 * t) = hp_B m 8729 t := h.1
theorem CT.st {w : kx_H} {m : kx_H} (h : CT w m) : ∀ t, t < 256 → hp_I w 1206 (524 + 2 * t) = hp_I m 8731 t := h.2.1
theorem CT.at {w : kx_H} {m : kx_H} (h : CT w m) : ∀ t, t < 256 → hp_I w 1208 (524 + 2 * t) = hp_I m 8733 t := h.2.2.1
theorem CT.re {w : kx_H} {m : kx_H} (h : CT w m) : ∀ t, t < 256 → hp_L w 1212 (524 + 2 * t) = hp_L m 8735 t := h.2.2.2.1
theorem CT.fl {w : kx_H} {m : kx_H} (h : CT w m) : ∀ t, t < 256 → hp_B w 1214 (524 + 2 * t) = hp_B m 8737 t := h.2.2.2.2.1
theorem CT.ca {w : kx_H} {m : kx_H} (h : CT w m) : ∀ t, t < 256 → hp_I w 1216 (524 + 2 * t) = hp_I m 8739 t := h.2.2.2.2.2.1
theorem CT.br {w : kx_H} {m : kx_H} (h : CT w m) : ∀ t, t < 256 → hp_B w 1218 (524 + 2 * t) = hp_B m 8741 t := h.2.2.2.2.2.2
theorem CT.fr {w w' : kx_H} {m : kx_H} {ki kl kr kb : List Nat} (h : CT w m) (F : FR ki kl kr kb w w') (hI : ∀ k ∈ ([1206, 1208, 1216] : List Nat), k ∉ ki) (hL : ∀ k ∈ ([1212] : List Nat), k ∉ kl) (hR : ∀ k ∈ ([] : List Nat), k ∉ kr) (hB : ∀ k ∈ ([1204, 1214, 1218] : List Nat), k ∉ kb) : CT w' m := by
  unfold CT
  simp only [F.I 1206 (hI 1206 (by decide)), F.I 1208 (hI 1208 (by decide)), F.I 1216 (hI 1216 (by decide)), F.L 1212 (hL 1212 (by decide)), F.B 1204 (hB 1204 (by decide)), F.B 1214 (hB 1214 (by decide)), F.B 1218 (hB 1218 (by decide))]
  exact h

def CS (w : kx_H) (S : kS) : Prop := (hp_R w 6 1 = S.cur.map (fun t => 524 + 2 * t)) ∧ (hp_B w 8 1 = decide (S.std = 1)) ∧ (hp_L w 10 1 = S.clk) ∧ (hp_I w 2 1 = i32 ((List.range 256).countP (fun t => hp_B S.m 8729 t))) ∧ (hp_I w 20 1 = i32 ((List.range 512).countP (fun c => hp_B S.m 8745 c))) ∧ (hp_I w 22 1 = S.rooms) ∧ (hp_I w 34 1 = i32 S.gates) ∧ (hp_I w 14 1 = i32 S.al) ∧ (hp_I w 28 1 = i32 S.mt.length)
theorem CS.ru {w : kx_H} {S : kS} (h : CS w S) : hp_R w 6 1 = S.cur.map (fun t => 524 + 2 * t) := h.1
theorem CS.ov {w : kx_H} {S : kS} (h : CS w S) : hp_B w 8 1 = decide (S.std = 1) := h.2.1
theorem CS.nw {w : kx_H} {S : kS} (h : CS w S) : hp_L w 10 1 = S.clk := h.2.2.1
theorem CS.tc {w : kx_H} {S : kS} (h : CS w S) : hp_I w 2 1 = i32 ((List.range 256).countP (fun t => hp_B S.m 8729 t)) := h.2.2.2.1
theorem CS.cc {w : kx_H} {S : kS} (h : CS w S) : hp_I w 20 1 = i32 ((List.range 512).countP (fun c => hp_B S.m 8745 c)) := h.2.2.2.2.1
theorem CS.ro {w : kx_H} {S : kS} (h : CS w S) : hp_I w 22 1 = S.rooms := h.2.2.2.2.2.1
theorem CS.gc {w : kx_H} {S : kS} (h : CS w S) : hp_I w 34 1 = i32 S.gates := h.2.2.2.2.2.2.1
theorem CS.ac {w : kx_H} {S : kS} (h : CS w S) : hp_I w 14 1 = i32 S.al := h.2.2.2.2.2.2.2.1
theorem CS.to {w : kx_H} {S : kS} (h : CS w S) : hp_I w 28 1 = i32 S.mt.length := h.2.2.2.2.2.2.2.2
theorem CS.fr {w w' : kx_H} {S : kS} {ki kl kr kb : List Nat} (h : CS w S) (F : FR ki kl kr kb w w') (hI : ∀ k ∈ ([2, 20, 22, 34, 14, 28] : List Nat), k ∉ ki) (hL : ∀ k ∈ ([10] : List Nat), k ∉ kl) (hR : ∀ k ∈ ([6] : List Nat), k ∉ kr) (hB : ∀ k ∈ ([8] : List Nat), k ∉ kb) : CS w' S := by
  unfold CS
  simp only [F.I 2 (hI 2 (by decide)), F.I 20 (hI 20 (by decide)), F.I 22 (hI 22 (by decide)), F.I 34 (hI 34 (by decide)), F.I 14 (hI 14 (by decide)), F.I 28 (hI 28 (by decide)), F.L 10 (hL 10 (by decide)), F.R 6 (hR 6 (by decide)), F.B 8 (hB 8 (by decide))]
  exact h

def CC (w : kx_H) (S : kS) : Prop := (∀ c, c < 512 → hp_B w 406 (1035 + 3 * c) = hp_B S.m 8745 c) ∧ (∀ c, c < 512 → hp_B w 408 (1035 + 3 * c) = hp_B S.m 8747 c) ∧ (∀ c, c < 512 → hp_I w 410 (1035 + 3 * c) = hp_I S.m 8749 c) ∧ (∀ c, c < 512 → hp_I w 412 (1035 + 3 * c) = i32 (sCnt S c)) ∧ (∀ c, c < 512 → hp_I w 414 (1035 + 3 * c) = i32 (S.me.countP (fun e => decide (e.1 = .inr c)))) ∧ (hp_B w 408 518 = false ∧ hp_I w 410 518 = 0 ∧ hp_I w 412 518 = 0)
theorem CC.th {w : kx_H} {S : kS} (h : CC w S) : ∀ c, c < 512 → hp_B w 406 (1035 + 3 * c) = hp_B S.m 8745 c := h.1
theorem CC.cl {w : kx_H} {S : kS} (h : CC w S) : ∀ c, c < 512 → hp_B w 408 (1035 + 3 * c) = hp_B S.m 8747 c := h.2.1
theorem CC.ro {w : kx_H} {S : kS} (h : CC w S) : ∀ c, c < 512 → hp_I w 410 (1035 + 3 * c) = hp_I S.m 8749 c := h.2.2.1
theorem CC.he {w : kx_H} {S : kS} (h : CC w S) : ∀ c, c < 512 → hp_I w 412 (1035 + 3 * c) = i32 (sCnt S c) := h.2.2.2.1
theorem CC.al {w : kx_H} {S : kS} (h : CC w S) : ∀ c, c < 512 → hp_I w 414 (1035 + 3 * c) = i32 (S.me.countP (fun e => decide (e.1 = .inr c))) := h.2.2.2.2.1
theorem CC.nw {w : kx_H} {S : kS} (h : CC w S) : hp_B w 408 518 = false ∧ hp_I w 410 518 = 0 ∧ hp_I w 412 518 = 0 := h.2.2.2.2.2
theorem CC.fr {w w' : kx_H} {S : kS} {ki kl kr kb : List Nat} (h : CC w S) (F : FR ki kl kr kb w w') (hI : ∀ k ∈ ([410, 412, 414] : List Nat), k ∉ ki) (hL : ∀ k ∈ ([] : List Nat), k ∉ kl) (hR : ∀ k ∈ ([] : List Nat), k ∉ kr) (hB : ∀ k ∈ ([406, 408] : List Nat), k ∉ kb) : CC w' S := by
  unfold CC
  simp only [F.I 410 (hI 410 (by decide)), F.I 412 (hI 412 (by decide)), F.I 414 (hI 414 (by decide)), F.B 406 (hB 406 (by decide)), F.B 408 (hB 408 (by decide))]
  exact h

def CGt (w : kx_H) (S : kS) : Prop := (∀ g, g < 256 → hp_I w 606 (2571 + 3 * g) = hp_I S.m 8771 g) ∧ (∀ g, g < 256 → hp_I w 608 (2571 + 3 * g) = hp_I S.m 8773 g) ∧ (∀ g l, g < S.gates → sKind S g = 3 → sLock S g = i32 l → l < 256 → hp_R w 610 (2571 + 3 * g) = some (2571 + 3 * l))
theorem CGt.ki {w : kx_H} {S : kS} (h : CGt w S) : ∀ g, g < 256 → hp_I w 606 (2571 + 3 * g) = hp_I S.m 8771 g := h.1
theorem CGt.ta {w : kx_H} {S : kS} (h : CGt w S) : ∀ g, g < 256 → hp_I w 608 (2571 + 3 * g) = hp_I S.m 8773 g := h.2.1
theorem CGt.lo {w : kx_H} {S : kS} (h : CGt w S) : ∀ g l, g < S.gates → sKind S g = 3 → sLock S g = i32 l → l < 256 → hp_R w 610 (2571 + 3 * g) = some (2571 + 3 * l) := h.2.2
theorem CGt.fr {w w' : kx_H} {S : kS} {ki kl kr kb : List Nat} (h : CGt w S) (F : FR ki kl kr kb w w') (hI : ∀ k ∈ ([606, 608] : List Nat), k ∉ ki) (hL : ∀ k ∈ ([] : List Nat), k ∉ kl) (hR : ∀ k ∈ ([610] : List Nat), k ∉ kr) (hB : ∀ k ∈ ([] : List Nat), k ∉ kb) : CGt w' S := by
  unfold CGt
  simp only [F.I 606 (hI 606 (by decide)), F.I 608 (hI 608 (by decide)), F.R 610 (hR 610 (by decide))]
  exact h

def CQ (w : kx_H) (st : Nat → Int32) (Q : List kQ) (fp tp : List Nat) (n : Nat) : Prop := (kRow w (Qrl Q)) ∧ (∀ q ∈ Q, lok q.1 ∧ q.2.2.1 < 256 ∧ sOK q.1 (st q.2.2.1)) ∧ (∀ q ∈ Q, (q.2.1 = 523 + 2 * q.2.2.1 ∧ q.2.2.2.2 = -1) ∨ (isPL q.2.1 ∧ ∃ x, q.1 = some (.inl x))) ∧ (∀ q ∈ Q, hp_R w 800 q.2.1 = some (524 + 2 * q.2.2.1) ∧ hp_I w 808 q.2.1 = q.2.2.2.2 ∧ (lgv q.1 = true → hp_L w 806 q.2.1 = q.2.2.2.1)) ∧ (∀ t, t < 256 → hp_R w 800 (523 + 2 * t) = some (524 + 2 * t) ∧ hp_I w 808 (523 + 2 * t) = -1) ∧ (∀ t, t < 256 → ch (hp_R w 816) (hp_R w 1210 (524 + 2 * t)) (qCas Q t)) ∧ (∀ t, (qCas Q t).length ≤ 16) ∧ (ch (hp_R w 816) (hp_R w 30 1) fp) ∧ ((fp ++ tp ++ qPl Q).Nodup) ∧ ((Q.map (·.2.1)).Nodup) ∧ (∀ p ∈ fp ++ tp, isPL p) ∧ (512 ≤ fp.length + n)
theorem CQ.row {w : kx_H} {st : Nat → Int32} {Q : List kQ} {fp tp : List Nat} {n : Nat} (h : CQ w st Q fp tp n) : kRow w (Qrl Q) := h.1
theorem CQ.loc {w : kx_H} {st : Nat → Int32} {Q : List kQ} {fp tp : List Nat} {n : Nat} (h : CQ w st Q fp tp n) : ∀ q ∈ Q, lok q.1 ∧ q.2.2.1 < 256 ∧ sOK q.1 (st q.2.2.1) := h.2.1
theorem CQ.pl {w : kx_H} {st : Nat → Int32} {Q : List kQ} {fp tp : List Nat} {n : Nat} (h : CQ w st Q fp tp n) : ∀ q ∈ Q, (q.2.1 = 523 + 2 * q.2.2.1 ∧ q.2.2.2.2 = -1) ∨ (isPL q.2.1 ∧ ∃ x, q.1 = some (.inl x)) := h.2.2.1
theorem CQ.own {w : kx_H} {st : Nat → Int32} {Q : List kQ} {fp tp : List Nat} {n : Nat} (h : CQ w st Q fp tp n) : ∀ q ∈ Q, hp_R w 800 q.2.1 = some (524 + 2 * q.2.2.1) ∧ hp_I w 808 q.2.1 = q.2.2.2.2 ∧ (lgv q.1 = true → hp_L w 806 q.2.1 = q.2.2.2.1) := h.2.2.2.1
theorem CQ.std {w : kx_H} {st : Nat → Int32} {Q : List kQ} {fp tp : List Nat} {n : Nat} (h : CQ w st Q fp tp n) : ∀ t, t < 256 → hp_R w 800 (523 + 2 * t) = some (524 + 2 * t) ∧ hp_I w 808 (523 + 2 * t) = -1 := h.2.2.2.2.1
theorem CQ.cas {w : kx_H} {st : Nat → Int32} {Q : List kQ} {fp tp : List Nat} {n : Nat} (h : CQ w st Q fp tp n) : ∀ t, t < 256 → ch (hp_R w 816) (hp_R w 1210 (524 + 2 * t)) (qCas Q t) := h.2.2.2.2.2.1
theorem CQ.caL {w : kx_H} {st : Nat → Int32} {Q : List kQ} {fp tp : List Nat} {n : Nat} (h : CQ w st Q fp tp n) : ∀ t, (qCas Q t).length ≤ 16 := h.2.2.2.2.2.2.1
theorem CQ.fre {w : kx_H} {st : Nat → Int32} {Q : List kQ} {fp tp : List Nat} {n : Nat} (h : CQ w st Q fp tp n) : ch (hp_R w 816) (hp_R w 30 1) fp := h.2.2.2.2.2.2.2.1
theorem CQ.nd {w : kx_H} {st : Nat → Int32} {Q : List kQ} {fp tp : List Nat} {n : Nat} (h : CQ w st Q fp tp n) : (fp ++ tp ++ qPl Q).Nodup := h.2.2.2.2.2.2.2.2.1
theorem CQ.qn {w : kx_H} {st : Nat → Int32} {Q : List kQ} {fp tp : List Nat} {n : Nat} (h : CQ w st Q fp tp n) : (Q.map (·.2.1)).Nodup := h.2.2.2.2.2.2.2.2.2.1
theorem CQ.isp {w : kx_H} {st : Nat → Int32} {Q : List kQ} {fp tp : List Nat} {n : Nat} (h : CQ w st Q fp tp n) : ∀ p ∈ fp ++ tp, isPL p := h.2.2.2.2.2.2.2.2.2.2.1
theorem CQ.len {w : kx_H} {st : Nat → Int32} {Q : List kQ} {fp tp : List Nat} {n : Nat} (h : CQ w st Q fp tp n) : 512 ≤ fp.length + n := h.2.2.2.2.2.2.2.2.2.2.2
theorem CQ.fr {w w' : kx_H} {st : Nat → Int32} {Q : List kQ} {fp tp : List Nat} {n : Nat} {ki kl kr kb : List Nat} (h : CQ w st Q fp tp n) (F : FR ki kl kr kb w w') (hI : ∀ k ∈ ([808, 1004] : List Nat), k ∉ ki) (hL : ∀ k ∈ ([806] : List Nat), k ∉ kl) (hR : ∀ k ∈ ([800, 816, 1210, 30, 810, 812, 814, 1000, 1002] : List Nat), k ∉ kr) (hB : ∀ k ∈ ([] : List Nat), k ∉ kb) : CQ w' st Q fp tp n := by
  unfold CQ
  simp only [F.I 808 (hI 808 (by decide)), F.I 1004 (hI 1004 (by decide)), F.L 806 (hL 806 (by decide)), F.R 800 (hR 800 (by decide)), F.R 816 (hR 816 (by decide)), F.R 1210 (hR 1210 (by decide)), F.R 30 (hR 30 (by decide)), F.R 810 (hR 810 (by decide)), F.R 812 (hR 812 (by decide)), F.R 814 (hR 814 (by decide)), F.R 1000 (hR 1000 (by decide)), F.R 1002 (hR 1002 (by decide)), kRow]
  exact h

def CTo (w : kx_H) (mt : List kMt) (tp : List Nat) : Prop := (tp.length = mt.length) ∧ (∀ i p e, tp[i]? = some p → mt[i]? = some e → hp_R w 1043 i = some p ∧ hp_R w 802 p = some (chc e.1) ∧ hp_B w 804 p = e.2.1 ∧ hp_L w 806 p = e.2.2 ∧ hp_I w 808 p = i32 i)
theorem CTo.len {w : kx_H} {mt : List kMt} {tp : List Nat} (h : CTo w mt tp) : tp.length = mt.length := h.1
theorem CTo.e {w : kx_H} {mt : List kMt} {tp : List Nat} (h : CTo w mt tp) : ∀ i p e, tp[i]? = some p → mt[i]? = some e → hp_R w 1043 i = some p ∧ hp_R w 802 p = some (chc e.1) ∧ hp_B w 804 p = e.2.1 ∧ hp_L w 806 p = e.2.2 ∧ hp_I w 808 p = i32 i := h.2
theorem CTo.fr {w w' : kx_H} {mt : List kMt} {tp : List Nat} {ki kl kr kb : List Nat} (h : CTo w mt tp) (F : FR ki kl kr kb w w') (hI : ∀ k ∈ ([808] : List Nat), k ∉ ki) (hL : ∀ k ∈ ([806] : List Nat), k ∉ kl) (hR : ∀ k ∈ ([1043, 802] : List Nat), k ∉ kr) (hB : ∀ k ∈ ([804] : List Nat), k ∉ kb) : CTo w' mt tp := by
  unfold CTo
  simp only [F.I 808 (hI 808 (by decide)), F.L 806 (hL 806 (by decide)), F.R 1043 (hR 1043 (by decide)), F.R 802 (hR 802 (by decide)), F.B 804 (hB 804 (by decide))]
  exact h

def CV (w : kx_H) (mv : List (Nat × Int64)) (V : List (Nat × Int64 × Nat)) (fv : List Nat) : Prop := (mv = V.map (fun x => (x.1, x.2.1))) ∧ (∀ c, c < 512 → ch (hp_R w 1602) (hp_R w 416 (1035 + 3 * c)) (vCe V c) ∧ hp_R w 418 (1035 + 3 * c) = (vCe V c).getLast?) ∧ (∀ x ∈ V, hp_L w 1600 x.2.2 = x.2.1) ∧ (ch (hp_R w 1602) (hp_R w 24 1) fv) ∧ ((fv ++ V.map (·.2.2)).Nodup) ∧ (fv.length + V.length = 512)
theorem CV.mv {w : kx_H} {mv : List (Nat × Int64)} {V : List (Nat × Int64 × Nat)} {fv : List Nat} (h : CV w mv V fv) : mv = V.map (fun x => (x.1, x.2.1)) := h.1
theorem CV.chn {w : kx_H} {mv : List (Nat × Int64)} {V : List (Nat × Int64 × Nat)} {fv : List Nat} (h : CV w mv V fv) : ∀ c, c < 512 → ch (hp_R w 1602) (hp_R w 416 (1035 + 3 * c)) (vCe V c) ∧ hp_R w 418 (1035 + 3 * c) = (vCe V c).getLast? := h.2.1
theorem CV.nu {w : kx_H} {mv : List (Nat × Int64)} {V : List (Nat × Int64 × Nat)} {fv : List Nat} (h : CV w mv V fv) : ∀ x ∈ V, hp_L w 1600 x.2.2 = x.2.1 := h.2.2.1
theorem CV.fre {w : kx_H} {mv : List (Nat × Int64)} {V : List (Nat × Int64 × Nat)} {fv : List Nat} (h : CV w mv V fv) : ch (hp_R w 1602) (hp_R w 24 1) fv := h.2.2.2.1
theorem CV.nd {w : kx_H} {mv : List (Nat × Int64)} {V : List (Nat × Int64 × Nat)} {fv : List Nat} (h : CV w mv V fv) : (fv ++ V.map (·.2.2)).Nodup := h.2.2.2.2.1
theorem CV.len {w : kx_H} {mv : List (Nat × Int64)} {V : List (Nat × Int64 × Nat)} {fv : List Nat} (h : CV w mv V fv) : fv.length + V.length = 512 := h.2.2.2.2.2
theorem CV.fr {w w' : kx_H} {mv : List (Nat × Int64)} {V : List (Nat × Int64 × Nat)} {fv : List Nat} {ki kl kr kb : List Nat} (h : CV w mv V fv) (F : FR ki kl kr kb w w') (hI : ∀ k ∈ ([] : List Nat), k ∉ ki) (hL : ∀ k ∈ ([1600] : List Nat), k ∉ kl) (hR : ∀ k ∈ ([1602, 416, 418, 24] : List Nat), k ∉ kr) (hB : ∀ k ∈ ([] : List Nat), k ∉ kb) : CV w' mv V fv := by
  unfold CV
  simp only [F.L 1600 (hL 1600 (by decide)), F.R 1602 (hR 1602 (by decide)), F.R 416 (hR 416 (by decide)), F.R 418 (hR 418 (by decide)), F.R 24 (hR 24 (by decide))]
  exact h

def CA (w : kx_H) (me : List kMe) (A : List (Nat × kMe)) (ft : List Nat) : Prop := (ch (hp_R w 1406) (hp_R w 200 4) (A.map (·.1))) ∧ (∀ x ∈ A, hp_L w 1400 x.1 = x.2.2 ∧ hp_R w 1402 x.1 = (match x.2.1 with | .inl t => some (524 + 2 * t) | .inr _ => none) ∧ hp_R w 1404 x.1 = (match x.2.1 with | .inl _ => none | .inr c => some (1035 + 3 * c))) ∧ (ch (hp_R w 1406) (hp_R w 202 4) ft) ∧ ((ft ++ A.map (·.1)).Nodup) ∧ (ft.length + A.length = 512) ∧ (A.Pairwise (fun a b => a.2.2 ≤ b.2.2)) ∧ (∀ x : Int64, (A.filter (fun a => a.2.2 == x)).map (·.2) = me.filter (fun e => e.2 == x))
theorem CA.chn {w : kx_H} {me : List kMe} {A : List (Nat × kMe)} {ft : List Nat} (h : CA w me A ft) : ch (hp_R w 1406) (hp_R w 200 4) (A.map (·.1)) := h.1
theorem CA.fl {w : kx_H} {me : List kMe} {A : List (Nat × kMe)} {ft : List Nat} (h : CA w me A ft) : ∀ x ∈ A, hp_L w 1400 x.1 = x.2.2 ∧ hp_R w 1402 x.1 = (match x.2.1 with | .inl t => some (524 + 2 * t) | .inr _ => none) ∧ hp_R w 1404 x.1 = (match x.2.1 with | .inl _ => none | .inr c => some (1035 + 3 * c)) := h.2.1
theorem CA.fre {w : kx_H} {me : List kMe} {A : List (Nat × kMe)} {ft : List Nat} (h : CA w me A ft) : ch (hp_R w 1406) (hp_R w 202 4) ft := h.2.2.1
theorem CA.nd {w : kx_H} {me : List kMe} {A : List (Nat × kMe)} {ft : List Nat} (h : CA w me A ft) : (ft ++ A.map (·.1)).Nodup := h.2.2.2.1
theorem CA.len {w : kx_H} {me : List kMe} {A : List (Nat × kMe)} {ft : List Nat} (h : CA w me A ft) : ft.length + A.length = 512 := h.2.2.2.2.1
theorem CA.so {w : kx_H} {me : List kMe} {A : List (Nat × kMe)} {ft : List Nat} (h : CA w me A ft) : A.Pairwise (fun a b => a.2.2 ≤ b.2.2) := h.2.2.2.2.2.1
theorem CA.eq {w : kx_H} {me : List kMe} {A : List (Nat × kMe)} {ft : List Nat} (h : CA w me A ft) : ∀ x : Int64, (A.filter (fun a => a.2.2 == x)).map (·.2) = me.filter (fun e => e.2 == x) := h.2.2.2.2.2.2
theorem CA.fr {w w' : kx_H} {me : List kMe} {A : List (Nat × kMe)} {ft : List Nat} {ki kl kr kb : List Nat} (h : CA w me A ft) (F : FR ki kl kr kb w w') (hI : ∀ k ∈ ([] : List Nat), k ∉ ki) (hL : ∀ k ∈ ([1400] : List Nat), k ∉ kl) (hR : ∀ k ∈ ([1406, 200, 202, 1402, 1404] : List Nat), k ∉ kr) (hB : ∀ k ∈ ([] : List Nat), k ∉ kb) : CA w' me A ft := by
  unfold CA
  simp only [F.L 1400 (hL 1400 (by decide)), F.R 1406 (hR 1406 (by decide)), F.R 200 (hR 200 (by decide)), F.R 202 (hR 202 (by decide)), F.R 1402 (hR 1402 (by decide)), F.R 1404 (hR 1404 (by decide))]
  exact h

def CX (w : kx_H) (S : kS) (n : Nat) (Q : List kQ) (fp tp : List Nat) (V : List (Nat × Int64 × Nat)) (fv : List Nat) (A : List (Nat × kMe)) (ft : List Nat) : Prop := (CK w) ∧ (CT w S.m) ∧ (CS w S) ∧ (CC w S) ∧ (CGt w S) ∧ (CQ w (stt S) Q fp tp n) ∧ (CTo w S.mt tp) ∧ (S.rd = Q.filterMap qRd) ∧ (S.mo = Q.filterMap qMo) ∧ (S.sn = Q.filterMap qSn) ∧ (CV w S.mv V fv) ∧ (S.std = 1 ∨ CA w S.me A ft)
theorem CX.k {w : kx_H} {S : kS} {n : Nat} {Q : List kQ} {fp tp : List Nat} {V : List (Nat × Int64 × Nat)} {fv : List Nat} {A : List (Nat × kMe)} {ft : List Nat} (h : CX w S n Q fp tp V fv A ft) : CK w := h.1
theorem CX.t {w : kx_H} {S : kS} {n : Nat} {Q : List kQ} {fp tp : List Nat} {V : List (Nat × Int64 × Nat)} {fv : List Nat} {A : List (Nat × kMe)} {ft : List Nat} (h : CX w S n Q fp tp V fv A ft) : CT w S.m := h.2.1
theorem CX.s {w : kx_H} {S : kS} {n : Nat} {Q : List kQ} {fp tp : List Nat} {V : List (Nat × Int64 × Nat)} {fv : List Nat} {A : List (Nat × kMe)} {ft : List Nat} (h : CX w S n Q fp tp V fv A ft) : CS w S := h.2.2.1
theorem CX.c {w : kx_H} {S : kS} {n : Nat} {Q : List kQ} {fp tp : List Nat} {V : List (Nat × Int64 × Nat)} {fv : List Nat} {A : List (Nat × kMe)} {ft : List Nat} (h : CX w S n Q fp tp V fv A ft) : CC w S := h.2.2.2.1
theorem CX.g {w : kx_H} {S : kS} {n : Nat} {Q : List kQ} {fp tp : List Nat} {V : List (Nat × Int64 × Nat)} {fv : List Nat} {A : List (Nat × kMe)} {ft : List Nat} (h : CX w S n Q fp tp V fv A ft) : CGt w S := h.2.2.2.2.1
theorem CX.q {w : kx_H} {S : kS} {n : Nat} {Q : List kQ} {fp tp : List Nat} {V : List (Nat × Int64 × Nat)} {fv : List Nat} {A : List (Nat × kMe)} {ft : List Nat} (h : CX w S n Q fp tp V fv A ft) : CQ w (stt S) Q fp tp n := h.2.2.2.2.2.1
theorem CX.o {w : kx_H} {S : kS} {n : Nat} {Q : List kQ} {fp tp : List Nat} {V : List (Nat × Int64 × Nat)} {fv : List Nat} {A : List (Nat × kMe)} {ft : List Nat} (h : CX w S n Q fp tp V fv A ft) : CTo w S.mt tp := h.2.2.2.2.2.2.1
theorem CX.rd {w : kx_H} {S : kS} {n : Nat} {Q : List kQ} {fp tp : List Nat} {V : List (Nat × Int64 × Nat)} {fv : List Nat} {A : List (Nat × kMe)} {ft : List Nat} (h : CX w S n Q fp tp V fv A ft) : S.rd = Q.filterMap qRd := h.2.2.2.2.2.2.2.1
theorem CX.mo {w : kx_H} {S : kS} {n : Nat} {Q : List kQ} {fp tp : List Nat} {V : List (Nat × Int64 × Nat)} {fv : List Nat} {A : List (Nat × kMe)} {ft : List Nat} (h : CX w S n Q fp tp V fv A ft) : S.mo = Q.filterMap qMo := h.2.2.2.2.2.2.2.2.1
theorem CX.sn {w : kx_H} {S : kS} {n : Nat} {Q : List kQ} {fp tp : List Nat} {V : List (Nat × Int64 × Nat)} {fv : List Nat} {A : List (Nat × kMe)} {ft : List Nat} (h : CX w S n Q fp tp V fv A ft) : S.sn = Q.filterMap qSn := h.2.2.2.2.2.2.2.2.2.1
theorem CX.v {w : kx_H} {S : kS} {n : Nat} {Q : List kQ} {fp tp : List Nat} {V : List (Nat × Int64 × Nat)} {fv : List Nat} {A : List (Nat × kMe)} {ft : List Nat} (h : CX w S n Q fp tp V fv A ft) : CV w S.mv V fv := h.2.2.2.2.2.2.2.2.2.2.1
theorem CX.a {w : kx_H} {S : kS} {n : Nat} {Q : List kQ} {fp tp : List Nat} {V : List (Nat × Int64 × Nat)} {fv : List Nat} {A : List (Nat × kMe)} {ft : List Nat} (h : CX w S n Q fp tp V fv A ft) : S.std = 1 ∨ CA w S.me A ft := h.2.2.2.2.2.2.2.2.2.2.2
/-- what the class leaves as it is -/
def FC (w w' : kx_H) : Prop := (∀ k, 1800 ≤ k ∨ k = 1 → hp_I w' k = hp_I w k) ∧ (∀ k, 1800 ≤ k ∨ k = 1 → hp_L w' k = hp_L w k) ∧ (∀ k, 1800 ≤ k ∨ k = 1 → hp_R w' k = hp_R w k) ∧ (∀ k, 1800 ≤ k ∨ k = 1 → hp_B w' k = hp_B w k) ∧ hp_T w' = hp_T w ∧ hp_N w' = hp_N w ∧ hp_X w' = hp_X w ∧ hp_C w' = hp_C w ∧ hp_U w' = hp_U w
section FCS
variable {w w' w'' : kx_H}
theorem FC.rf : FC w w := ⟨fun _ _ => rfl, fun _ _ => rfl, fun _ _ => rfl, fun _ _ => rfl, rfl, rfl, rfl, rfl, rfl⟩
theorem FC.tr (h : FC w w') (h' : FC w' w'') : FC w w'' := by
  obtain ⟨a1, a2, a3, a4, a5, a6, a7, a8, a9⟩ := h
  obtain ⟨b1, b2, b3, b4, b5, b6, b7, b8, b9⟩ := h'
  exact ⟨fun k hk => (b1 k hk).trans (a1 k hk), fun k hk => (b2 k hk).trans (a2 k hk), fun k hk => (b3 k hk).trans (a3 k hk), fun k hk => (b4 k hk).trans (a4 k hk), b5.trans a5, b6.trans a6, b7.trans a7, b8.trans a8, b9.trans a9⟩
abbrev cK (l : List Nat) : Prop := ∀ k ∈ l, k < 1800 ∧ k ≠ 1
theorem FC.of {ki kl kr kb : List Nat} (F : FR ki kl kr kb w w') (h1 : cK ki) (h2 : cK kl) (h3 : cK kr) (h4 : cK kb) : FC w w' :=
  ⟨fun k hk => F.I k (fun h => by have := h1 k h; omega), fun k hk => F.L k (fun h => by have := h2 k h; omega), fun k hk => F.R k (fun h => by have := h3 k h; omega), fun k hk => F.B k (fun h => by have := h4 k h; omega), F.2.2.2.2.1, F.N, F.2.2.2.2.2.2.1, F.C, F.U⟩
end FCS
