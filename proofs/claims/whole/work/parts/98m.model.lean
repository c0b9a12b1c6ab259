/-! the model as it is made; the law's beginning -/
def kA : List (Nat × Nat × Nat) → kx_F → kx_F
  | [], k => k
  | e :: r, k => kx_la 0 (kx_c (kx_i (i32 e.2.2)) (kx_newa kx_cc kx_cs e.2.1 (kx_pR 9 e.1 e.2.1 (kA r k))))
def kML : List (Nat × Nat × Nat) := [(4, 101, 256), (5, 99, 256), (6, 99, 256), (7, 100, 256), (8, 101, 256), (9, 99, 256), (10, 101, 256), (12, 99, 256), (13, 101, 512), (14, 101, 512), (15, 99, 512), (18, 99, 8192), (19, 100, 8192), (21, 99, 4352), (22, 99, 4352), (23, 101, 4352), (24, 100, 4352), (25, 99, 4352), (27, 99, 16), (28, 101, 16), (29, 100, 16), (31, 99, 256), (32, 99, 256), (33, 99, 256), (35, 99, 256), (36, 99, 256), (37, 101, 256), (39, 99, 512), (40, 100, 512)]
def kTail : kx_F := (kx_la 0 (kx_gR 9 4 101 (kx_c (kx_i 0) (kx_c (kx_i 1) (kx_asB 101 (kx_la 0 (kx_gR 9 9 99 (kx_c (kx_i 0) (kx_c (kx_i (-1)) (kx_asI 99 (kx_la 0 (kx_gR 9 6 99 (kx_c (kx_i 0) (kx_c (kx_i (-1)) (kx_asI 99 kx_rv)))))))))))))))
theorem bk88 (d : Nat) (C : kx_C) (J : Nat → kx_F) : bk_88_0 d C J = kx_la 0 (kx_obj (kA kML kTail)) := Eq.trans rfl rfl
def mh_t (x0 : Option Nat) (w : kx_H) : kx_O := x0.bind fun a1 => (hp_R w a1 4).bind fun a2 => if (0 : Int32) < 0 ∨ hp_N w a2 ≤ (0 : Int32).toNatClampNeg then none else kx_sb (1 : Int32) fun b9 => let w3 := hp_sB w a2 (0 : Int32).toNatClampNeg b9;
  x0.bind fun a4 => (hp_R w3 a4 9).bind fun a5 => if (0 : Int32) < 0 ∨ hp_N w3 a5 ≤ (0 : Int32).toNatClampNeg then none else let w6 := hp_sI w3 a5 (0 : Int32).toNatClampNeg ((-1) : Int32);
  x0.bind fun a7 => (hp_R w6 a7 6).bind fun a8 => if (0 : Int32) < 0 ∨ hp_N w6 a8 ≤ (0 : Int32).toNatClampNeg then none else let w9 := hp_sI w6 a8 (0 : Int32).toNatClampNeg ((-1) : Int32);
  some (.inl none, w9)
theorem mh_te {x0 : Option Nat} {w : kx_H} : kTail [(0, kx_r 9 x0)] [] w = mh_t x0 w := Eq.trans rfl rfl
def mh_l0 (J : Nat → kx_F) (d : Nat) (C : kx_C) (x0 : Option Nat) (w : kx_H) : kx_O := if hp_C w + 1 ≤ kx_cc ∧ hp_U w + 18 ≤ kx_cs then (let w1 := hp_new w 0 0 18;
  (some (hp_X w)).bind fun a4 => kx_bv (C 0 [kx_r 0 (some a4)] w1) fun w2 =>
  if hp_C w2 + 1 ≤ kx_cc ∧ hp_U w2 + 42 ≤ kx_cs then (let w5 := hp_new w2 9 0 42;
  (some (hp_X w2)).bind fun a8 => kx_bv (C 88 [kx_r 9 (some a8)] w5) fun w6 =>
  if (1 : Int32) < 0 ∨ 60000000 < (1 : Int32).toNatClampNeg then none else if hp_C w6 + 1 ≤ kx_cc ∧ hp_U w6 + (1 : Int32).toNatClampNeg ≤ kx_cs then (let w9 := hp_new w6 100 (1 : Int32).toNatClampNeg (1 : Int32).toNatClampNeg;
  J 23 [(0, kx_r 98 x0), (1, kx_r 0 (some (hp_X w))), (2, kx_r 9 (some (hp_X w2))), (3, kx_r 100 (some (hp_X w6))), (4, kx_i (0 : Int32))] [] w9) else none) else none) else none
theorem mhl_0 {f d : Nat} {C : kx_C} {x0 : Option Nat} {w : kx_H} : kx_ex (bl_m d C) (f + 1) 0 [(0, kx_r 98 x0)] [] w = mh_l0 (kx_ex (bl_m d C) f) d C x0 w := Eq.trans rfl rfl
section MDL
variable {w : kx_H} {a d p t n : Nat} {r : List (Nat × Nat × Nat)} {k : kx_F}
theorem mhE_88 {φ d : Nat} (hφ : kx_fuel = φ + 1) : kx_ev kx_M (d + 1) 88 [kx_r 9 (some a)] w = kA kML kTail [(0, kx_r 9 (some a))] [] w := by
  show kx_ex (kx_M 88 d (kx_ev kx_M d)) kx_fuel 0 [(0, kx_r 9 (some a))] [] w = _
  rw [show kx_M 88 d (kx_ev kx_M d) = bm_88 d (kx_ev kx_M d) from rfl, hφ]
  show bk_88_0 d (kx_ev kx_M d) (kx_ex (bm_88 d (kx_ev kx_M d)) φ) [(0, kx_r 9 (some a))] [] w = _
  rw [bk88]
  rfl
theorem kA_step (Z : ZS w) (h : hp_T w a = some 9) (hn : n ≤ 60000000) (r1 : hp_C w + 1 ≤ kx_cc) (r2 : hp_U w + n ≤ kx_cs) : kA ((p, t, n) :: r) k [(0, kx_r 9 (some a))] [] (kz_e w) = kA r k [(0, kx_r 9 (some a))] [] (kz_e (hp_sR (hp_nw w t n n) (2 * (900 + p)) a (some (hp_X w)))) := by
  have hn' : (i32 n).toNatClampNeg = n := i32_nat (by omega)
  show (if i32 n < 0 ∨ 60000000 < (i32 n).toNatClampNeg then none else if hp_C (kz_e w) + 1 ≤ kx_cc ∧ hp_U (kz_e w) + (i32 n).toNatClampNeg ≤ kx_cs then (bif (Nat.beq 9 9 && Nat.beq t t) then (some a).bind (fun a' => kA r k [(0, kx_r 9 (some a))] [] (hp_sR (hp_new (kz_e w) t (i32 n).toNatClampNeg (i32 n).toNatClampNeg) a' p (some (hp_X (kz_e w))))) else none) else none) = _
  have q9 : ¬ (i32 n < 0 ∨ 60000000 < n) := fun h => h.elim (fun h => by rw [i32_neg (by omega)] at h; exact h) (fun h => by omega)
  rw [hn', if_neg q9, if_pos ⟨by rw [eC]; omega, by rw [eU]; omega⟩, Nat.beq_refl, Nat.beq_refl, Bool.and_self, cond_true, ob_s, en_w Z.1, eX, es_R (K := 2 * (900 + p)) (Z.tn h) (by decide) (by omega)]
theorem kA_all : ∀ (l : List (Nat × Nat × Nat)) (w : kx_H), ZS w → hp_T w a = some 9 → (∀ e ∈ l, e.1 < 100 ∧ e.2.2 ≤ 60000000 ∧ (kx_ft 9 e.1).2 = e.2.1) → (l.map (·.1)).Nodup → hp_C w + l.length ≤ kx_cc → hp_U w + (l.map (·.2.2)).sum ≤ kx_cs → ∃ w', kA l k [(0, kx_r 9 (some a))] [] (kz_e w) = k [(0, kx_r 9 (some a))] [] (kz_e w') ∧ ZS w' ∧ hp_X w' = hp_X w + l.length ∧ hp_C w' = hp_C w + l.length ∧ hp_U w' = hp_U w + (l.map (·.2.2)).sum ∧ Un [] (l.map (fun e => 2 * (900 + e.1))) w w' ∧ ∀ j e, l[j]? = some e → hp_R w' (2 * (900 + e.1)) a = some (hp_X w + j) ∧ hp_T w' (hp_X w + j) = some e.2.1 ∧ hp_N w' (hp_X w + j) = e.2.2 := by
  intro l
  induction l with
  | nil =>
    intro w Z h _ _ _ _
    exact ⟨w, rfl, Z, rfl, rfl, rfl, Un.rf, fun j e he => by simp at he⟩
  | cons e r ih =>
    intro w Z h he nd r1 r2
    obtain ⟨p, t, n⟩ := e
    obtain ⟨p1, p2, p3⟩ := he (p, t, n) List.mem_cons_self
    rw [List.length_cons] at r1
    rw [List.map_cons, List.sum_cons] at r2
    rw [List.map_cons, List.nodup_cons] at nd
    have Z1 : ZS (hp_sR (hp_nw w t n n) (2 * (900 + p)) a (some (hp_X w))) := (Z.nw).sR (k := p) (Z.tn h) (by decide) (by omega) p1 (fun b hb => by
      cases hb
      have p4 : (kx_ft 9 p).2 = t := p3
      rw [p4]
      exact tnX w t n n)
    have U1 : Un [] [2 * (900 + p)] w (hp_sR (hp_nw w t n n) (2 * (900 + p)) a (some (hp_X w))) := Un.sR (Un.ne Un.rf) (by simp)
    have R1 : hp_R (hp_sR (hp_nw w t n n) (2 * (900 + p)) a (some (hp_X w))) (2 * (900 + p)) a = some (hp_X w) := by rw [hR_R, if_pos ⟨rfl, rfl⟩]
    have T1 : hp_T (hp_sR (hp_nw w t n n) (2 * (900 + p)) a (some (hp_X w))) (hp_X w) = some t := tnX w t n n
    have N1 : hp_N (hp_sR (hp_nw w t n n) (2 * (900 + p)) a (some (hp_X w))) (hp_X w) = n := by
      show hp_N (hp_nw w t n n) (hp_X w) = n
      rw [hN_n, if_pos rfl]
    have X1 : hp_X (hp_sR (hp_nw w t n n) (2 * (900 + p)) a (some (hp_X w))) = hp_X w + 1 := rfl
    have C1 : hp_C (hp_sR (hp_nw w t n n) (2 * (900 + p)) a (some (hp_X w))) = hp_C w + 1 := rfl
    have B1 : hp_U (hp_sR (hp_nw w t n n) (2 * (900 + p)) a (some (hp_X w))) = hp_U w + n := rfl
    have es := kA_step (p := p) (t := t) (r := r) (k := k) Z h p2 (by omega) (by have : (p, t, n).2.2 = n := rfl; omega)
    generalize hp_sR (hp_nw w t n n) (2 * (900 + p)) a (some (hp_X w)) = v at *
    obtain ⟨w', e', Z', X', C', B', U', F'⟩ := ih v Z1 (U1.tg Z h) (fun e h => he e (List.mem_cons_of_mem _ h)) nd.2 (by omega) (by have : (p, t, n).2.2 = n := rfl; omega)
    refine ⟨w', es.trans e', Z', ?_, ?_, ?_, U1.tr U', fun j e hj => ?_⟩
    · rw [List.length_cons]; omega
    · rw [List.length_cons]; omega
    · rw [List.map_cons, List.sum_cons]; have : (p, t, n).2.2 = n := rfl; omega
    · cases j with
      | zero =>
        simp at hj
        subst hj
        refine ⟨?_, U'.tg Z1 T1, (U'.2.2.2.2.2.1 _ (Z1.1.lt T1)).trans N1⟩
        show hp_R w' (2 * (900 + p)) a = some (hp_X w)
        rw [U'.2.2.1 _ (fun hm => ?_)]
        · exact R1
        · obtain ⟨e2, h2, h3⟩ := List.mem_map.mp hm
          exact nd.1 (List.mem_map.mpr ⟨e2, h2, by show e2.1 = p; omega⟩)
      | succ j =>
        rw [List.getElem?_cons_succ] at hj
        have := F' j e hj
        rw [X1, show hp_X w + 1 + j = hp_X w + (j + 1) by omega] at this
        exact this
theorem c_88 (Z : ZS w) (h : hp_T w 4363 = some 9) (hx : hp_X w = 4364) (r1 : hp_C w + 29 ≤ kx_cc) (r2 : hp_U w + 60000 ≤ kx_cs) : ∃ u, kx_ev kx_M (d + 1) 88 [kx_r 9 (some 4363)] (kz_e w) = some (.inl none, kz_e (hp_sI (hp_sI (hp_sB u 8729 0 true) 8739 0 (-1)) 8733 0 (-1))) ∧ ZS (hp_sI (hp_sI (hp_sB u 8729 0 true) 8739 0 (-1)) 8733 0 (-1)) ∧ hp_X u = 4393 ∧ hp_C u = hp_C w + 29 ∧ hp_U u ≤ hp_U w + 60000 ∧ (∀ k, hp_I u k = hp_I w k) ∧ hp_L u = hp_L w ∧ (∀ k, k < 1800 → hp_R u k = hp_R w k) ∧ hp_B u = hp_B w ∧ (∀ b, b < 4364 → hp_T u b = hp_T w b) ∧ (∀ b, b < 4364 → hp_N u b = hp_N w b) ∧ SH u := by
  have hs : (kML.map (·.2.2)).sum = 44336 := by decide
  have hl : kML.length = 29 := by decide
  obtain ⟨u, e, Z', X', C', B', U', F'⟩ := kA_all (k := kTail) kML w Z h (by decide) (by decide) (by omega) (by omega)
  rw [hx] at F'

  have f0 := F' 0 (4, 101, 256) (by decide)
  have f1 := F' 1 (5, 99, 256) (by decide)
  have f2 := F' 2 (6, 99, 256) (by decide)
  have f3 := F' 3 (7, 100, 256) (by decide)
  have f4 := F' 4 (8, 101, 256) (by decide)
  have f5 := F' 5 (9, 99, 256) (by decide)
  have f6 := F' 6 (10, 101, 256) (by decide)
  have f7 := F' 7 (12, 99, 256) (by decide)
  have f8 := F' 8 (13, 101, 512) (by decide)
  have f9 := F' 9 (14, 101, 512) (by decide)
  have f10 := F' 10 (15, 99, 512) (by decide)
  have f11 := F' 11 (18, 99, 8192) (by decide)
  have f12 := F' 12 (19, 100, 8192) (by decide)
  have f13 := F' 13 (21, 99, 4352) (by decide)
  have f14 := F' 14 (22, 99, 4352) (by decide)
  have f15 := F' 15 (23, 101, 4352) (by decide)
  have f16 := F' 16 (24, 100, 4352) (by decide)
  have f17 := F' 17 (25, 99, 4352) (by decide)
  have f18 := F' 18 (27, 99, 16) (by decide)
  have f19 := F' 19 (28, 101, 16) (by decide)
  have f20 := F' 20 (29, 100, 16) (by decide)
  have f21 := F' 21 (31, 99, 256) (by decide)
  have f22 := F' 22 (32, 99, 256) (by decide)
  have f23 := F' 23 (33, 99, 256) (by decide)
  have f24 := F' 24 (35, 99, 256) (by decide)
  have f25 := F' 25 (36, 99, 256) (by decide)
  have f26 := F' 26 (37, 101, 256) (by decide)
  have f27 := F' 27 (39, 99, 512) (by decide)
  have f28 := F' 28 (40, 100, 512) (by decide)
  have t4 : hp_T u 4364 = some 101 := f0.2.1
  have t9 : hp_T u 4369 = some 99 := f5.2.1
  have t6 : hp_T u 4366 = some 99 := f2.2.1
  have ta := U'.tg Z h
  have Za := Z'.aB (v := true) (i := 0) (K := 8729) t4 (by decide)
  have Zb := Za.aI (v := -1) (i := 0) (K := 8739) t9 (by decide)
  have Zc := Zb.aI (v := -1) (i := 0) (K := 8733) t6 (by decide)
  refine ⟨u, ?_, Zc, by omega, by omega, by omega, fun k => U'.1 k (by simp), U'.2.1, fun k hk => U'.2.2.1 k (fun hm => ?_), U'.2.2.2.1, fun b hb => U'.2.2.2.2.1 b (by omega), fun b hb => U'.2.2.2.2.2.1 b (by omega), ?_⟩
  · obtain ⟨ψ, hψ⟩ := kx_fu
    rw [mhE_88 hψ, e, mh_te]
    unfold mh_t
    have n0 : hp_N u 4364 = 256 := f0.2.2
    have n5 : hp_N u 4369 = 256 := f5.2.2
    have n2 : hp_N u 4366 = 256 := f2.2.2
    have q0 : hp_R u 1808 4363 = some 4364 := f0.1
    have q5 : hp_R u 1818 4363 = some 4369 := f5.1
    have q2 : hp_R u 1812 4363 = some 4366 := f2.1
    rw [ob_s, er_R (K := 1808) ta (by decide) (by decide), q0, ob_s, if_neg (by rw [eN, n0, z32]; decide), kx_sb_1, z32]
    simp only [ob_s]
    rw [ea_B (K := 8729) t4 (by decide) (by decide), er_R (K := 1818) (w := hp_sB u 8729 0 true) ta (by decide) (by decide), hR_B, q5, ob_s, if_neg (by rw [eN, hN_B, n5]; decide), ea_I (K := 8739) (w := hp_sB u 8729 0 true) t9 (by decide) (by decide), er_R (K := 1812) (w := hp_sI (hp_sB u 8729 0 true) 8739 0 (-1)) ta (by decide) (by decide), hR_I, hR_B, q2, ob_s, if_neg (by rw [eN, hN_I, hN_B, n2]; decide), ea_I (K := 8733) (w := hp_sI (hp_sB u 8729 0 true) 8739 0 (-1)) t6 (by decide) (by decide)]
  · obtain ⟨e2, h2, h3⟩ := List.mem_map.mp hm
    omega
  · exact ⟨f0.1, f1.1, f2.1, f3.1, f4.1, f5.1, f6.1, f7.1, f8.1, f9.1, f10.1, f11.1, f12.1, f13.1, f14.1, f15.1, f16.1, f17.1, f18.1, f19.1, f20.1, f21.1, f22.1, f23.1, f24.1, f25.1, f26.1, f27.1, f28.1, f0.2.2, f1.2.2, f2.2.2, f3.2.2, f4.2.2, f5.2.2, f6.2.2, f7.2.2, f8.2.2, f9.2.2, f10.2.2, f11.2.2, f12.2.2, f13.2.2, f14.2.2, f15.2.2, f16.2.2, f17.2.2, f18.2.2, f19.2.2, f20.2.2, f21.2.2, f22.2.2, f23.2.2, f24.2.2, f25.2.2, f26.2.2, f27.2.2, f28.2.2⟩
end MDL
