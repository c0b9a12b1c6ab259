/-! the state that both sides speak of, and what each call makes of it -/
abbrev kS : Type := (Int32) × (Option Nat) × (Int32) × (Int64) × (kx_H) × (List Nat) × (Int32) × (List (Nat × Int64)) × (List kMo) × (List kMt) × (Nat) × (List kMs) × (List kMe) × (Nat)
abbrev kS.th (S : kS) : Int32 := S.1
abbrev kS.cur (S : kS) : Option Nat := S.2.1
abbrev kS.std (S : kS) : Int32 := S.2.2.1
abbrev kS.clk (S : kS) : Int64 := S.2.2.2.1
abbrev kS.m (S : kS) : kx_H := S.2.2.2.2.1
abbrev kS.rd (S : kS) : List Nat := S.2.2.2.2.2.1
abbrev kS.rooms (S : kS) : Int32 := S.2.2.2.2.2.2.1
abbrev kS.mv (S : kS) : List (Nat × Int64) := S.2.2.2.2.2.2.2.1
abbrev kS.mo (S : kS) : List kMo := S.2.2.2.2.2.2.2.2.1
abbrev kS.mt (S : kS) : List kMt := S.2.2.2.2.2.2.2.2.2.1
abbrev kS.gates (S : kS) : Nat := S.2.2.2.2.2.2.2.2.2.2.1
abbrev kS.sn (S : kS) : List kMs := S.2.2.2.2.2.2.2.2.2.2.2.1
abbrev kS.me (S : kS) : List kMe := S.2.2.2.2.2.2.2.2.2.2.2.2.1
abbrev kS.al (S : kS) : Nat := S.2.2.2.2.2.2.2.2.2.2.2.2.2
abbrev kS.s_th (S : kS) (v : Int32) : kS := (v, S.cur, S.std, S.clk, S.m, S.rd, S.rooms, S.mv, S.mo, S.mt, S.gates, S.sn, S.me, S.al)
abbrev kS.s_cur (S : kS) (v : Option Nat) : kS := (S.th, v, S.std, S.clk, S.m, S.rd, S.rooms, S.mv, S.mo, S.mt, S.gates, S.sn, S.me, S.al)
abbrev kS.s_std (S : kS) (v : Int32) : kS := (S.th, S.cur, v, S.clk, S.m, S.rd, S.rooms, S.mv, S.mo, S.mt, S.gates, S.sn, S.me, S.al)
abbrev kS.s_clk (S : kS) (v : Int64) : kS := (S.th, S.cur, S.std, v, S.m, S.rd, S.rooms, S.mv, S.mo, S.mt, S.gates, S.sn, S.me, S.al)
abbrev kS.s_m (S : kS) (v : kx_H) : kS := (S.th, S.cur, S.std, S.clk, v, S.rd, S.rooms, S.mv, S.mo, S.mt, S.gates, S.sn, S.me, S.al)
abbrev kS.s_rd (S : kS) (v : List Nat) : kS := (S.th, S.cur, S.std, S.clk, S.m, v, S.rooms, S.mv, S.mo, S.mt, S.gates, S.sn, S.me, S.al)
abbrev kS.s_rooms (S : kS) (v : Int32) : kS := (S.th, S.cur, S.std, S.clk, S.m, S.rd, v, S.mv, S.mo, S.mt, S.gates, S.sn, S.me, S.al)
abbrev kS.s_mv (S : kS) (v : List (Nat × Int64)) : kS := (S.th, S.cur, S.std, S.clk, S.m, S.rd, S.rooms, v, S.mo, S.mt, S.gates, S.sn, S.me, S.al)
abbrev kS.s_mo (S : kS) (v : List kMo) : kS := (S.th, S.cur, S.std, S.clk, S.m, S.rd, S.rooms, S.mv, v, S.mt, S.gates, S.sn, S.me, S.al)
abbrev kS.s_mt (S : kS) (v : List kMt) : kS := (S.th, S.cur, S.std, S.clk, S.m, S.rd, S.rooms, S.mv, S.mo, v, S.gates, S.sn, S.me, S.al)
abbrev kS.s_gates (S : kS) (v : Nat) : kS := (S.th, S.cur, S.std, S.clk, S.m, S.rd, S.rooms, S.mv, S.mo, S.mt, v, S.sn, S.me, S.al)
abbrev kS.s_sn (S : kS) (v : List kMs) : kS := (S.th, S.cur, S.std, S.clk, S.m, S.rd, S.rooms, S.mv, S.mo, S.mt, S.gates, v, S.me, S.al)
abbrev kS.s_me (S : kS) (v : List kMe) : kS := (S.th, S.cur, S.std, S.clk, S.m, S.rd, S.rooms, S.mv, S.mo, S.mt, S.gates, S.sn, v, S.al)
abbrev kS.s_al (S : kS) (v : Nat) : kS := (S.th, S.cur, S.std, S.clk, S.m, S.rd, S.rooms, S.mv, S.mo, S.mt, S.gates, S.sn, S.me, v)
def sHas (S : kS) (t : Nat) (n : Int64) (f : Bool) (c : Int32) (b : Bool) : kS := (kS.s_m S (hp_sB (hp_sI (hp_sB (hp_sL S.m 8735 t n) 8737 t f) 8739 t c) 8741 t b))
def sWake (S : kS) (t : Nat) : kS := (kS.s_rd ((kS.s_m S (hp_sI (hp_sI S.m 8731 t 1) 8733 t (-1)))) (S.rd ++ [t]))
def sWdr (S : kS) (t : Nat) : kS := (kS.s_mo S (S.mo.filter (fun e => e.1 != t)))
def sMet (S : kS) (e : kMo) (n : Int64) (f b : Bool) : kS := sWake (sWdr (sHas S e.1 n f e.2.2.2.2 b) e.1) e.1
def oAt (c : Nat) (g : Bool) : kMo → Bool := fun o => o.2.1 == c && o.2.2.1 == g
def sFst (S : kS) (c : Nat) (g : Bool) : Option kMo := S.mo.find? (oAt c g)
def sStore (S : kS) (c : Nat) (v : Int64) : kS := (kS.s_mv S (S.mv ++ [(c, v)]))
def sDel (S : kS) (c : Nat) (v : Int64) : kS := match sFst S c false with
  | some e => sMet S e v true false
  | none => sStore S c v
def vAt (c : Nat) : Nat × Int64 → Bool := fun x => x.1 == c
def sCnt (S : kS) (c : Nat) : Nat := S.mv.countP (vAt c)
def sTkV (S : kS) (c : Nat) : Int64 := match S.mv.find? (vAt c) with
  | some x => x.2
  | none => 0
def sTkF (S : kS) (c : Nat) : kS := (kS.s_mv S (S.mv.eraseP (vAt c)))
def sTake (S : kS) (t c : Nat) (k : Int32) : kS := match sFst S c true with
  | some e => if 0 < sCnt S c then sMet (sStore (sHas (sTkF S c) t (sTkV S c) true k false) c e.2.2.2.1) e 0 true false else sMet (sHas S t e.2.2.2.1 true k false) e 0 true false
  | none => if 0 < sCnt S c then sHas (sTkF S c) t (sTkV S c) true k false else sHas S t 0 false k false
def sClosed (S : kS) (c : Nat) : Bool := hp_B S.m 8747 c
def sRoom (S : kS) (c : Nat) : Int32 := hp_I S.m 8749 c
def sRings (S : kS) (c : Nat) : kS := if sClosed S c = true then S else if (sFst S c false).isSome = true ∨ i32 (sCnt S c) < sRoom S c then sDel S c S.clk else S
def sRing1 (x : Int64) (S : kS) (e : kMe) : kS := if e.2 = x then (match e.1 with
  | .inl t => sWake S t
  | .inr c => sRings (kS.s_al S (S.al - 1)) c) else S
def sLeast (l : List kMe) : Int64 := match l with
  | [] => 0
  | e :: r => r.foldl (fun x e => if e.2 < x then e.2 else x) e.2
def sRing (S : kS) : kS := (kS.s_me (S.me.foldl (sRing1 (sLeast S.me)) (kS.s_clk S (sLeast S.me))) (S.me.filter (fun e => e.2 != sLeast S.me)))
def sLoop : Nat → kS → kS
  | 0, S => S
  | n + 1, S => if S.rd = [] ∧ S.me ≠ [] then sLoop n (sRing S) else S
def sPick (S : kS) : kS := match S.rd with
  | [] => (kS.s_std S (2))
  | t :: r => (kS.s_m ((kS.s_rd ((kS.s_cur S (some t))) (r))) (hp_sI S.m 8731 t 0))
def sNext (S : kS) : kS := sPick (sLoop S.me.length S)
def sRest (S : kS) (t : Nat) (how place : Int32) : kS := sNext (kS.s_cur ((kS.s_m S (hp_sI (hp_sI S.m 8731 t how) 8733 t place))) (none))
def sTh (S : kS) (e : Int32) : kS := (kS.s_th S (e))
def isCh (S : kS) (c : Int32) : Bool := decide (0 ≤ c ∧ c < 512 ∧ hp_B S.m 8745 c.toNatClampNeg = true)
def maySend (S : kS) (c : Int32) : Bool := decide (0 ≤ c ∧ (sClosed S c.toNatClampNeg = true ∨ (sFst S c.toNatClampNeg false).isSome = true ∨ i32 (sCnt S c.toNatClampNeg) < sRoom S c.toNatClampNeg))
def mayRecv (S : kS) (c : Int32) : Bool := decide (0 ≤ c ∧ (sClosed S c.toNatClampNeg = true ∨ (sFst S c.toNatClampNeg true).isSome = true ∨ 0 < sCnt S c.toNatClampNeg))
/-! the calls -/
def pChannel (S : kS) (n : Int32) : kS × Int32 := if n < 0 ∨ 8192 < n then (sTh S 1, 0) else match (List.range 512).find? (fun c => !hp_B S.m 8745 c) with
  | none => (sTh S 2, 0)
  | some c => if 8192 < S.rooms + n then (sTh S 2, 0) else ((kS.s_rooms ((kS.s_m ((kS.s_th S (0))) (hp_sI (hp_sB (hp_sB S.m 8745 c true) 8747 c false) 8749 c n))) (S.rooms + n)), i32 c)
def pRelease (S : kS) (c : Int32) : kS × Bool := if isCh S c = true ∧ sFst S c.toNatClampNeg true = none ∧ sFst S c.toNatClampNeg false = none ∧ (∀ e ∈ S.me, e.1 ≠ .inr c.toNatClampNeg) ∧ (∀ e ∈ S.mt, e.1 ≠ c) then
    ((kS.s_rooms ((kS.s_m ((kS.s_mv ((kS.s_th S (0))) (S.mv.filter (fun x => !vAt c.toNatClampNeg x)))) (hp_sB S.m 8745 c.toNatClampNeg false))) (S.rooms - sRoom S c.toNatClampNeg)), true)
  else (sTh S 0, false)
def pAlarm (S : kS) (c : Int32) (x : Int64) : kS := if isCh S c = false ∨ x < 0 ∨ 1000000000 < x then sTh S 1 else if S.cur = none ∨ S.al = 256 then sTh S 2 else
  (kS.s_al ((kS.s_me ((kS.s_th S (0))) (S.me ++ [(.inr c.toNatClampNeg, S.clk + x)]))) (S.al + 1))
def pSend (S : kS) (c : Int32) (v : Int64) : kS × Bool := if c ≠ -1 ∧ isCh S c = false then (sTh S 1, false) else match S.cur with
  | none => (sTh S 2, false)
  | some t => if 0 ≤ c ∧ sClosed S c.toNatClampNeg = true then (sTh S 3, false) else if maySend S c = true then (sHas (sDel (sTh S 0) c.toNatClampNeg v) t 0 true (-1) false, true)
    else if 0 ≤ c then (sRest (kS.s_mo ((kS.s_th S (0))) (S.mo ++ [(t, c.toNatClampNeg, true, v, -1)])) t 2 c, false) else (sRest (sTh S 0) t 7 c, false)
def pRecv (S : kS) (c : Int32) : kS × Bool := if c ≠ -1 ∧ isCh S c = false then (sTh S 1, false) else match S.cur with
  | none => (sTh S 2, false)
  | some t => if mayRecv S c = true then (sTake (sTh S 0) t c.toNatClampNeg (-1), true)
    else if 0 ≤ c then (sRest (kS.s_mo ((kS.s_th S (0))) (S.mo ++ [(t, c.toNatClampNeg, false, 0, -1)])) t 3 c, false) else (sRest (sTh S 0) t 7 c, false)
def sAll : Nat → kS → Nat → Bool → Bool → Bool → kS
  | 0, S, _, _, _, _ => S
  | n + 1, S, c, g, f, b => match sFst S c g with
    | none => S
    | some e => sAll n (sMet S e 0 f b) c g f b
def pClose (S : kS) (c : Int32) : kS := if c ≠ -1 ∧ isCh S c = false then sTh S 1 else if S.cur = none then sTh S 2 else if c < 0 ∨ sClosed S c.toNatClampNeg = true then sTh S 3 else
  let S1 := (kS.s_m ((kS.s_th S (0))) (hp_sB S.m 8747 c.toNatClampNeg true))
  let S2 := sAll S1.mo.length S1 c.toNatClampNeg false false false
  sAll S2.mo.length S2 c.toNatClampNeg true false true
def pOffer (S : kS) (c : Int32) (g : Bool) (v : Int64) : kS × Int32 := if c ≠ -1 ∧ isCh S c = false then (sTh S 1, 0) else if S.cur = none ∨ S.mt.length = 16 then (sTh S 2, 0) else
  ((kS.s_mt ((kS.s_th S (0))) (S.mt ++ [(c, g, v)])), i32 S.mt.length)
def isRdy (S : kS) (e : kMt) : Bool := if e.2.1 = true then maySend S e.1 else mayRecv S e.1
def cRdy (S : kS) : List (kMt × Nat) := S.mt.zipIdx.filter (fun e => isRdy S e.1)
def sDone (S : kS) (t : Nat) (e : kMt × Nat) : kS × Bool := if e.1.2.1 = false then (sTake S t e.1.1.toNatClampNeg (i32 e.2), true) else if sClosed S e.1.1.toNatClampNeg = true then (sTh S 3, false) else
  (sHas (sDel S e.1.1.toNatClampNeg e.1.2.2) t 0 true (i32 e.2) false, true)
def cOff (t : Nat) (mt : List kMt) : List kMo := mt.zipIdx.filterMap (fun e => if e.1.1 < 0 then none else some (t, e.1.1.toNatClampNeg, e.1.2.1, e.1.2.2, i32 e.2))
def pChoose (S : kS) (n : Int32) (out : Bool) : kS × Bool := if n < 0 then (sTh S 1, false) else match S.cur with
  | none => (sTh S 2, false)
  | some t => match (cRdy S)[n.toNatClampNeg % (cRdy S).length]? with
    | some e => sDone (kS.s_mt ((kS.s_th S (0))) ([])) t e
    | none => if out = true then (sHas (kS.s_mt ((kS.s_th S (0))) ([])) t 0 false (-1) false, true) else
      (sRest (kS.s_mo ((kS.s_mt ((kS.s_th S (0))) ([]))) (S.mo ++ cOff t S.mt)) t (if cOff t S.mt = [] then 7 else 4) (-1), false)
def pSpawn (S : kS) : kS × Int32 := match (List.range 256).find? (fun t => !hp_B S.m 8729 t) with
  | none => (sTh S 1, 0)
  | some t => if S.cur = none then (sTh S 1, 0) else (sWake (sHas (kS.s_m ((kS.s_th S (0))) (hp_sB S.m 8729 t true)) t 0 false (-1) false) t, i32 t)
def pWay (S : kS) : kS × Int32 := match S.cur with
  | none => (sTh S 1, 0)
  | some t => (sNext (sWake (sTh S 0) t), fidx (sNext (sWake (sTh S 0) t)).cur)
def sKill (m : kx_H) : kx_H := (List.range 256).foldl (fun m t => hp_sB m 8729 t false) m
def sEnd (S : kS) : kS := (kS.s_std ((kS.s_cur ((kS.s_me ((kS.s_sn ((kS.s_mo ((kS.s_rd ((kS.s_m ((kS.s_th S (0))) (sKill S.m))) ([]))) ([]))) ([]))) (S.me.filter (fun e => e.1.isRight)))) (none))) (1))
def pFinish (S : kS) : kS × Int32 := match S.cur with
  | none => (sTh S 1, 0)
  | some 0 => (sEnd S, -1)
  | some (t + 1) => let S1 := sNext (kS.s_cur ((kS.s_m ((kS.s_th S (0))) (hp_sB S.m 8729 (t + 1) false))) (none)); (S1, fidx S1.cur)
def pSleep (S : kS) (x : Int64) : kS × Int32 := if 1000000000 < x then (sTh S 1, 0) else match S.cur with
  | none => (sTh S 2, 0)
  | some t => if x ≤ 0 then pWay S else let S1 := sRest (kS.s_me ((kS.s_th S (0))) (S.me ++ [(.inl t, S.clk + x)])) t 5 (-1); (S1, fidx S1.cur)
def isGa (S : kS) (g : Int32) : Bool := decide (0 ≤ g ∧ g < i32 S.gates)
def sKind (S : kS) (g : Nat) : Int32 := hp_I S.m 8771 g
def sHeld (S : kS) (g : Nat) : Int32 := hp_I S.m 8773 g
def sLock (S : kS) (g : Nat) : Int32 := hp_I S.m 8775 g
def stHeld (S : kS) (g : Nat) (x : Int32) : kS := (kS.s_m S (hp_sI S.m 8773 g x))
def pGate (S : kS) (k lock : Int32) : kS × Int32 := if k < 0 ∨ 4 < k ∨ (k = 3 ∧ (isGa S lock = false ∨ sKind S lock.toNatClampNeg ≠ 0)) then (sTh S 1, 0) else if S.gates = 256 then (sTh S 2, 0) else
  ((kS.s_gates ((kS.s_m ((kS.s_th S (0))) (hp_sI (hp_sI (hp_sI S.m 8771 S.gates k) 8775 S.gates lock) 8773 S.gates 0))) (S.gates + 1)), i32 S.gates)
/-- how: 2 any, 1 who reads, 0 who doesn't -/
def gAt (g : Nat) (how : Int32) : kMs → Bool := fun e => e.2.1 == g && (how == 2 || e.2.2 == (how == 1))
def sStg (S : kS) (g : Nat) (how : Int32) : Option kMs := S.sn.find? (gAt g how)
def sOut (S : kS) (t : Nat) : kS := (kS.s_sn S (S.sn.filter (fun e => e.1 != t)))
def sLets (S : kS) (e : kMs) (f : Bool) : kS := sWake (sHas (sOut S e.1) e.1 0 f (-1) false) e.1
def sLall : Nat → kS → Nat → Int32 → Bool → kS
  | 0, S, _, _, _ => S
  | n + 1, S, g, how, f => match sStg S g how with
    | none => S
    | some e => sLall n (sLets S e f) g how f
def sLetAll (S : kS) (g : Nat) (how : Int32) (f : Bool) : kS := sLall S.sn.length S g how f
def sUnlock (S : kS) (g : Nat) : kS := match sStg S g 2 with
  | none => stHeld S g 0
  | some e => sLets S e true
def sSignal (S : kS) (g : Nat) : kS := match sStg S g 2 with
  | none => S
  | some e => if sHeld S (sLock S g).toNatClampNeg = 0 then sLets (stHeld S (sLock S g).toNatClampNeg 1) e true else
    let S1 := sOut S e.1
    (kS.s_sn ((kS.s_m S1 (hp_sI S1.m 8733 e.1 (sLock S g)))) (S1.sn ++ [(e.1, (sLock S g).toNatClampNeg, false)]))
def sSigs : Nat → kS → Nat → kS
  | 0, S, _ => S
  | n + 1, S, g => sSigs n (sSignal S g) g
def sPass (S : kS) (t : Nat) (goes : Bool) (g : Nat) (r f : Bool) : kS × Bool := if goes = true then (sHas S t 0 f (-1) false, true) else (sRest (kS.s_sn S (S.sn ++ [(t, g, r)])) t 6 (i32 g), false)
def pEnter (S : kS) (g : Int32) : kS × Bool := if isGa S g = false then (sTh S 1, false) else match S.cur with
  | none => (sTh S 2, false)
  | some t =>
    let q := g.toNatClampNeg
    let h := sHeld S q
    let S0 := sTh S 0
    if sKind S q = 0 then sPass (stHeld S0 q 1) t (decide (h = 0)) q false true
    else if sKind S q = 1 then sPass (if h = 0 then stHeld S0 q (-1) else S0) t (decide (h = 0)) q false true
    else if sKind S q = 2 then sPass S0 t (decide (h = 0)) q false true
    else if sKind S q = 3 then (if sHeld S (sLock S q).toNatClampNeg = 0 then (sTh S 3, false) else sPass (sUnlock S0 (sLock S q).toNatClampNeg) t false q false true)
    else sPass (stHeld S0 q (if h = 0 then 1 else h)) t (decide (h ≠ 1)) q false (decide (h = 0))
def pRead (S : kS) (g : Int32) : kS × Bool := if isGa S g = false ∨ sKind S g.toNatClampNeg ≠ 1 then (sTh S 1, false) else match S.cur with
  | none => (sTh S 2, false)
  | some t =>
    let q := g.toNatClampNeg
    if 0 ≤ sHeld S q ∧ sStg S q 0 = none then sPass (stHeld (sTh S 0) q (sHeld S q + 1)) t true q true true else sPass (sTh S 0) t false q true true
def sReaders (S : kS) (g : Nat) : Nat := S.sn.countP (gAt g 1)
def sWriter (S : kS) (g : Nat) : kS := match sStg S g 0 with
  | none => S
  | some e => sLets (stHeld S g (-1)) e true
def sLetR (S : kS) (g : Nat) : kS := let S1 := sLetAll (stHeld S g (i32 (sReaders S g))) g 1 true; if sReaders S g = 0 then sWriter S1 g else S1
def sGrow (S : kS) (g : Nat) (n : Int32) : kS := let S1 := stHeld S g (sHeld S g + n); if sHeld S g + n = 0 then sLetAll S1 g 2 true else S1
def pLeave (S : kS) (g : Int32) : kS := if isGa S g = false then sTh S 1 else if S.cur = none then sTh S 2 else
  let q := g.toNatClampNeg
  let h := sHeld S q
  let k := sKind S q
  if (if k = 1 then 0 ≤ h else if k = 4 then h ≠ 1 else k ≠ 3 ∧ h = 0) then sTh S 3 else
  let S0 := sTh S 0
  if k = 0 then sUnlock S0 q else if k = 1 then sLetR S0 q else if k = 2 then sGrow S0 q (-1) else if k = 3 then sSignal S0 q else sLetAll (stHeld S0 q 2) q 2 false
def sWait (S : kS) (g : Nat) : Nat := S.sn.countP (fun e => e.2.1 == g)
def pChange (S : kS) (g n : Int32) : kS := if isGa S g = false ∨ sKind S g.toNatClampNeg = 0 ∨ sKind S g.toNatClampNeg = 4 then sTh S 1 else if S.cur = none then sTh S 2 else
  let q := g.toNatClampNeg
  let h := sHeld S q
  let k := sKind S q
  if (k = 1 ∧ h ≤ 0) ∨ (k = 2 ∧ (h.toInt64 + n.toInt64 < 0 ∨ 1000000000 < h.toInt64 + n.toInt64)) then sTh S 3 else
  let S0 := sTh S 0
  if k = 2 then sGrow S0 q n else if k = 1 then (let S1 := stHeld S0 q (h - 1); if h - 1 = 0 then sWriter S1 q else S1) else sSigs (sWait S q) S0 q
def isTa (S : kS) (t : Int32) : Bool := decide (0 ≤ t ∧ t < 256 ∧ hp_B S.m 8729 t.toNatClampNeg = true)
def pTask (S : kS) (t k : Int32) : kS × Int32 := if isTa S t = false ∨ k < 0 ∨ 5 < k then (sTh S 1, 0) else
  let q := t.toNatClampNeg
  let st := hp_I S.m 8731 q
  (sTh S 0, if k = 0 then st else if k = 1 then (if st = 2 ∨ st = 3 ∨ st = 6 then hp_I S.m 8733 q else -1) else if k = 2 then hp_I S.m 8739 q else if k = 3 then kx_b (hp_B S.m 8737 q) else if k = 4 then kx_b (hp_B S.m 8741 q) else fidx (S.rd.findIdx? (fun x => x == q)))
def pOut (S : kS) (t : Int32) : kS × Int64 := if isTa S t = true then (sTh S 0, hp_L S.m 8735 t.toNatClampNeg) else (sTh S 1, 0)
def pLook (S : kS) (c k : Int32) : kS × Int32 := if isCh S c = false ∨ k < 0 ∨ 4 < k then (sTh S 1, 0) else
  let q := c.toNatClampNeg
  (sTh S 0, if k = 0 then i32 (sCnt S q) else if k = 1 then sRoom S q else if k = 4 then kx_b (sClosed S q) else i32 (S.mo.countP (oAt q (decide (k = 2)))))
def pWatch (S : kS) (g k : Int32) : kS × Int32 := if isGa S g = false ∨ k < 0 ∨ 2 < k then (sTh S 1, 0) else
  let q := g.toNatClampNeg
  (sTh S 0, if k = 0 then sKind S q else if k = 1 then sHeld S q else i32 (sWait S q))
def pCount (S : kS) (k : Int32) : Int32 := if k = 0 then i32 ((List.range 256).countP (fun t => hp_B S.m 8729 t)) else if k = 1 then i32 S.rd.length else if k = 2 then i32 ((List.range 512).countP (fun c => hp_B S.m 8745 c)) else if k = 3 then S.rooms else if k = 4 then i32 S.gates else if k = 5 then i32 S.al else if k = 6 then i32 S.mt.length else if k = 7 then S.std else -1
