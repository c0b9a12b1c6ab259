/-! the law's helpers: what is thrown, as a number; the answer into the array -/
theorem bic_n {HS : List kx_HE} {x : Int32} {w : kx_H} {k : Int32 → kx_H → kx_O} : kx_bic HS (some (.inl (some (.inl x)), w)) k = k x w := Eq.trans rfl rfl
theorem bic_e {HS : List kx_HE} {e : Nat} {w : kx_H} {k : Int32 → kx_H → kx_O} : kx_bic HS (some (.inr e, w)) k = (kx_lk HS e).bind fun c => some (.inl (some (.inl c)), w) := Eq.trans rfl rfl
theorem bvc_n {HS : List kx_HE} {w : kx_H} {k : kx_H → kx_O} : kx_bvc HS (some (.inl none, w)) k = k w := Eq.trans rfl rfl
theorem bvc_e {HS : List kx_HE} {e : Nat} {w : kx_H} {k : kx_H → kx_O} : kx_bvc HS (some (.inr e, w)) k = (kx_lk HS e).bind fun c => some (.inl (some (.inl c)), w) := Eq.trans rfl rfl
theorem blc_n {HS : List kx_HE} {x : Int64} {w : kx_H} {k : Int64 → kx_H → kx_O} : kx_blc HS (some (.inl (some (.inr (.inl x))), w)) k = k x w := Eq.trans rfl rfl
theorem blc_e {HS : List kx_HE} {e : Nat} {w : kx_H} {k : Int64 → kx_H → kx_O} : kx_blc HS (some (.inr e, w)) k = (kx_lk HS e).bind fun c => some (.inl (some (.inl c)), w) := Eq.trans rfl rfl
theorem lkb {c : Int32} {w : kx_H} : ((some c).bind fun c => (some (.inl (some (.inl c)), w) : kx_O)) = some (.inl (some (.inl c)), w) := Eq.trans rfl rfl
theorem z32 : (0 : Int32).toNatClampNeg = 0 := by decide
theorem k8787 : 2 * 4393 + 1 = 8787 := by decide
theorem o_ix {w : kx_H} (o : hp_N w 4393 = 1) : ¬ ((0 : Int32) < 0 ∨ hp_N w 4393 ≤ (0 : Int32).toNatClampNeg) := by
  rw [o, z32]
  decide
theorem oL (w : kx_H) (v : Int64) : hp_L (hp_sL w 8787 0 v) 8787 0 = v := by
  rw [hL_L, if_pos ⟨rfl, rfl⟩]
def l01 (b : Bool) : Int64 := bif b then 1 else 0
section HLP
variable {w : kx_H} {S : kS} {n d : Nat} {x y : Int32} {v : Int64} {b : Bool}
theorem lk_152 {x : Int32} (h : T1 x) (h0 : x ≠ 0) : kx_lk kH_152 0 = some x := by
  rcases h with rfl | rfl
  · exact absurd rfl h0
  all_goals decide
theorem H_spawn (H : CR w S n) (I : SI S n) (J : SJ S n) (hn : n < 512) (r : rmOK w) (o : hp_N w 4393 = 1) : ∃ w', kx_ev wx_M (d + 9) 152 [kx_r 0 (some 1), kx_r 100 (some 4393)] w = some (.inl (some (.inl (pSpawn S).1.th)), w') ∧ CR w' (pSpawn S).1 n ∧ ((pSpawn S).1.th = 0 → hp_L w' 8787 0 = (pSpawn S).2.toInt64) ∧ FO w w' := by
  obtain ⟨w1, e1, c1, f1⟩ := K_spawn (d := d) H I J hn r
  obtain ⟨ψ, hψ⟩ := kx_fu
  rw [mE_152 hψ]
  unfold mb_152_0
  rw [ob_s, e1]
  have o1 : hp_N w1 4393 = 1 := by rw [f1.2.2.2.2.2.1]; exact o
  by_cases h0 : (pSpawn S).1.th = 0
  · rw [if_pos h0, bic_n, ob_s, if_neg (o_ix o1), h0]
    exact ⟨hp_sL w1 8787 0 _, rfl, c1.lc (LC.out _ _), fun _ => oL _ _, f1.fo.out _⟩
  · rw [if_neg h0, bic_e, lk_152 th_spawn h0, lkb]
    exact ⟨w1, rfl, c1, fun h => absurd h h0, f1.fo⟩
theorem lk_153 {x : Int32} (h : T1 x) (h0 : x ≠ 0) : kx_lk kH_153 0 = some x := by
  rcases h with rfl | rfl
  · exact absurd rfl h0
  all_goals decide
theorem H_way (H : CR w S n) (I : SI S n) (J : SJ S n) (hn : n < 512) (r : rmOK w) (o : hp_N w 4393 = 1) : ∃ w', kx_ev wx_M (d + 9) 153 [kx_r 0 (some 1), kx_r 100 (some 4393)] w = some (.inl (some (.inl (pWay S).1.th)), w') ∧ CR w' (pWay S).1 n ∧ ((pWay S).1.th = 0 → hp_L w' 8787 0 = (pWay S).2.toInt64) ∧ FO w w' := by
  obtain ⟨w1, e1, c1, f1⟩ := K_way (d := d) H I J hn r
  obtain ⟨ψ, hψ⟩ := kx_fu
  rw [mE_153 hψ]
  unfold mb_153_0
  rw [ob_s, e1]
  have o1 : hp_N w1 4393 = 1 := by rw [f1.2.2.2.2.2.1]; exact o
  by_cases h0 : (pWay S).1.th = 0
  · rw [if_pos h0, bic_n, ob_s, if_neg (o_ix o1), h0]
    exact ⟨hp_sL w1 8787 0 _, rfl, c1.lc (LC.out _ _), fun _ => oL _ _, f1.fo.out _⟩
  · rw [if_neg h0, bic_e, lk_153 th_way h0, lkb]
    exact ⟨w1, rfl, c1, fun h => absurd h h0, f1.fo⟩
theorem lk_154 {x : Int32} (h : T1 x) (h0 : x ≠ 0) : kx_lk kH_154 0 = some x := by
  rcases h with rfl | rfl
  · exact absurd rfl h0
  all_goals decide
theorem H_finish (H : CR w S n) (I : SI S n) (J : SJ S n) (hn : n < 512) (r : rmOK w) (o : hp_N w 4393 = 1) : ∃ w', kx_ev wx_M (d + 9) 154 [kx_r 0 (some 1), kx_r 100 (some 4393)] w = some (.inl (some (.inl (pFinish S).1.th)), w') ∧ CR w' (pFinish S).1 n ∧ ((pFinish S).1.th = 0 → hp_L w' 8787 0 = (pFinish S).2.toInt64) ∧ FO w w' := by
  obtain ⟨w1, e1, c1, f1⟩ := K_finish (d := d) H I J hn r
  obtain ⟨ψ, hψ⟩ := kx_fu
  rw [mE_154 hψ]
  unfold mb_154_0
  rw [ob_s, e1]
  have o1 : hp_N w1 4393 = 1 := by rw [f1.2.2.2.2.2.1]; exact o
  by_cases h0 : (pFinish S).1.th = 0
  · rw [if_pos h0, bic_n, ob_s, if_neg (o_ix o1), h0]
    exact ⟨hp_sL w1 8787 0 _, rfl, c1.lc (LC.out _ _), fun _ => oL _ _, f1.fo.out _⟩
  · rw [if_neg h0, bic_e, lk_154 th_finish h0, lkb]
    exact ⟨w1, rfl, c1, fun h => absurd h h0, f1.fo⟩
theorem lk_155 {x : Int32} (h : T2 x) (h0 : x ≠ 0) : kx_lk kH_155 (e3 x) = some x := by
  rcases h with rfl | rfl | rfl
  · exact absurd rfl h0
  all_goals decide
theorem H_sleep (H : CR w S n) (I : SI S n) (J : SJ S n) (hn : n < 512) (r : rmOK w) (o : hp_N w 4393 = 1) : ∃ w', kx_ev wx_M (d + 9) 155 [kx_r 0 (some 1), kx_l v, kx_r 100 (some 4393)] w = some (.inl (some (.inl (pSleep S v).1.th)), w') ∧ CR w' (pSleep S v).1 n ∧ ((pSleep S v).1.th = 0 → hp_L w' 8787 0 = (pSleep S v).2.toInt64) ∧ FO w w' := by
  obtain ⟨w1, e1, c1, f1⟩ := K_sleep (d := d) (v := v) H I J hn r
  obtain ⟨ψ, hψ⟩ := kx_fu
  rw [mE_155 hψ]
  unfold mb_155_0
  rw [ob_s, e1]
  have o1 : hp_N w1 4393 = 1 := by rw [f1.2.2.2.2.2.1]; exact o
  by_cases h0 : (pSleep S v).1.th = 0
  · rw [if_pos h0, bic_n, ob_s, if_neg (o_ix o1), h0]
    exact ⟨hp_sL w1 8787 0 _, rfl, c1.lc (LC.out _ _), fun _ => oL _ _, f1.fo.out _⟩
  · rw [if_neg h0, bic_e, lk_155 th_sleep h0, lkb]
    exact ⟨w1, rfl, c1, fun h => absurd h h0, f1.fo⟩
theorem lk_156 {x : Int32} (h : T2 x) (h0 : x ≠ 0) : kx_lk kH_156 (e3 x) = some x := by
  rcases h with rfl | rfl | rfl
  · exact absurd rfl h0
  all_goals decide
theorem H_channel (H : CR w S n) (I : SI S n) (J : SJ S n) (hn : n < 512) (r : rmOK w) (o : hp_N w 4393 = 1) : ∃ w', kx_ev wx_M (d + 9) 156 [kx_r 0 (some 1), kx_i x, kx_r 100 (some 4393)] w = some (.inl (some (.inl (pChannel S x).1.th)), w') ∧ CR w' (pChannel S x).1 n ∧ ((pChannel S x).1.th = 0 → hp_L w' 8787 0 = (pChannel S x).2.toInt64) ∧ FO w w' := by
  obtain ⟨w1, e1, c1, f1⟩ := K_channel (d := d) (x := x) H I J hn r
  obtain ⟨ψ, hψ⟩ := kx_fu
  rw [mE_156 hψ]
  unfold mb_156_0
  rw [ob_s, e1]
  have o1 : hp_N w1 4393 = 1 := by rw [f1.2.2.2.2.2.1]; exact o
  by_cases h0 : (pChannel S x).1.th = 0
  · rw [if_pos h0, bic_n, ob_s, if_neg (o_ix o1), h0]
    exact ⟨hp_sL w1 8787 0 _, rfl, c1.lc (LC.out _ _), fun _ => oL _ _, f1.fo.out _⟩
  · rw [if_neg h0, bic_e, lk_156 th_channel h0, lkb]
    exact ⟨w1, rfl, c1, fun h => absurd h h0, f1.fo⟩
theorem lk_157 {x : Int32} (h : T2 x) (h0 : x ≠ 0) : kx_lk kH_157 (e3 x) = some x := by
  rcases h with rfl | rfl | rfl
  · exact absurd rfl h0
  all_goals decide
theorem H_alarm (H : CR w S n) (I : SI S n) (J : SJ S n) (hn : n < 512) (r : rmOK w) (o : hp_N w 4393 = 1) : ∃ w', kx_ev wx_M (d + 9) 157 [kx_r 0 (some 1), kx_i x, kx_l v] w = some (.inl (some (.inl (pAlarm S x v).th)), w') ∧ CR w' (pAlarm S x v) n ∧ FO w w' := by
  obtain ⟨w1, e1, c1, f1⟩ := K_alarm (d := d) (x := x) (v := v) H I J hn r
  obtain ⟨ψ, hψ⟩ := kx_fu
  rw [mE_157 hψ]
  unfold mb_157_0
  rw [ob_s, e1]
  have o1 : hp_N w1 4393 = 1 := by rw [f1.2.2.2.2.2.1]; exact o
  by_cases h0 : (pAlarm S x v).th = 0
  · rw [if_pos h0, bvc_n, h0]
    exact ⟨w1, rfl, c1, f1.fo⟩
  · rw [if_neg h0, bvc_e, lk_157 th_alarm h0, lkb]
    exact ⟨w1, rfl, c1, f1.fo⟩
theorem lk_158 {x : Int32} (h : T3 x) (h0 : x ≠ 0) : kx_lk kH_158 (e3 x) = some x := by
  rcases h with rfl | rfl | rfl | rfl
  · exact absurd rfl h0
  all_goals decide
theorem H_send (H : CR w S n) (I : SI S n) (J : SJ S n) (hn : n < 512) (r : rmOK w) (o : hp_N w 4393 = 1) : ∃ w', kx_ev wx_M (d + 9) 158 [kx_r 0 (some 1), kx_i x, kx_l v, kx_r 100 (some 4393)] w = some (.inl (some (.inl (pSend S x v).1.th)), w') ∧ CR w' (pSend S x v).1 n ∧ ((pSend S x v).1.th = 0 → hp_L w' 8787 0 = l01 (pSend S x v).2) ∧ FO w w' := by
  obtain ⟨w1, e1, c1, f1⟩ := K_send (d := d) (x := x) (v := v) H I J hn r
  obtain ⟨ψ, hψ⟩ := kx_fu
  rw [mE_158 hψ]
  unfold mb_158_0
  rw [ob_s, e1]
  have o1 : hp_N w1 4393 = 1 := by rw [f1.2.2.2.2.2.1]; exact o
  by_cases h0 : (pSend S x v).1.th = 0
  · rw [if_pos h0, bic_n, h0]
    refine ⟨hp_sL w1 8787 0 (l01 (pSend S x v).2), ?_, c1.lc (LC.out _ _), fun _ => oL _ _, f1.fo.out _⟩
    cases hb : (pSend S x v).2 with
    | false =>
      rw [kx_b_f, if_pos rfl, me_158_17]
      unfold mb_158_17
      rw [ob_s, if_neg (o_ix o1)]
      rfl
    | true =>
      rw [kx_b_t, if_neg (by decide), me_158_17]
      unfold mb_158_17
      rw [ob_s, if_neg (o_ix o1)]
      rfl
  · rw [if_neg h0, bic_e, lk_158 th_send h0, lkb]
    exact ⟨w1, rfl, c1, fun h => absurd h h0, f1.fo⟩
theorem lk_159 {x : Int32} (h : T2 x) (h0 : x ≠ 0) : kx_lk kH_159 (e3 x) = some x := by
  rcases h with rfl | rfl | rfl
  · exact absurd rfl h0
  all_goals decide
theorem H_recv (H : CR w S n) (I : SI S n) (J : SJ S n) (hn : n < 512) (r : rmOK w) (o : hp_N w 4393 = 1) : ∃ w', kx_ev wx_M (d + 9) 159 [kx_r 0 (some 1), kx_i x, kx_r 100 (some 4393)] w = some (.inl (some (.inl (pRecv S x).1.th)), w') ∧ CR w' (pRecv S x).1 n ∧ ((pRecv S x).1.th = 0 → hp_L w' 8787 0 = l01 (pRecv S x).2) ∧ FO w w' := by
  obtain ⟨w1, e1, c1, f1⟩ := K_recv (d := d) (x := x) H I J hn r
  obtain ⟨ψ, hψ⟩ := kx_fu
  rw [mE_159 hψ]
  unfold mb_159_0
  rw [ob_s, e1]
  have o1 : hp_N w1 4393 = 1 := by rw [f1.2.2.2.2.2.1]; exact o
  by_cases h0 : (pRecv S x).1.th = 0
  · rw [if_pos h0, bic_n, h0]
    refine ⟨hp_sL w1 8787 0 (l01 (pRecv S x).2), ?_, c1.lc (LC.out _ _), fun _ => oL _ _, f1.fo.out _⟩
    cases hb : (pRecv S x).2 with
    | false =>
      rw [kx_b_f, if_pos rfl, me_159_15]
      unfold mb_159_15
      rw [ob_s, if_neg (o_ix o1)]
      rfl
    | true =>
      rw [kx_b_t, if_neg (by decide), me_159_15]
      unfold mb_159_15
      rw [ob_s, if_neg (o_ix o1)]
      rfl
  · rw [if_neg h0, bic_e, lk_159 th_recv h0, lkb]
    exact ⟨w1, rfl, c1, fun h => absurd h h0, f1.fo⟩
theorem lk_160 {x : Int32} (h : T3 x) (h0 : x ≠ 0) : kx_lk kH_160 (e3 x) = some x := by
  rcases h with rfl | rfl | rfl | rfl
  · exact absurd rfl h0
  all_goals decide
theorem H_close (H : CR w S n) (I : SI S n) (J : SJ S n) (hn : n < 512) (r : rmOK w) (o : hp_N w 4393 = 1) : ∃ w', kx_ev wx_M (d + 9) 160 [kx_r 0 (some 1), kx_i x] w = some (.inl (some (.inl (pClose S x).th)), w') ∧ CR w' (pClose S x) n ∧ FO w w' := by
  obtain ⟨w1, e1, c1, f1⟩ := K_close (d := d) (x := x) H I J hn r
  obtain ⟨ψ, hψ⟩ := kx_fu
  rw [mE_160 hψ]
  unfold mb_160_0
  rw [ob_s, e1]
  have o1 : hp_N w1 4393 = 1 := by rw [f1.2.2.2.2.2.1]; exact o
  by_cases h0 : (pClose S x).th = 0
  · rw [if_pos h0, bvc_n, h0]
    exact ⟨w1, rfl, c1, f1.fo⟩
  · rw [if_neg h0, bvc_e, lk_160 th_close h0, lkb]
    exact ⟨w1, rfl, c1, f1.fo⟩
theorem lk_161 {x : Int32} (h : T2 x) (h0 : x ≠ 0) : kx_lk kH_161 (e3 x) = some x := by
  rcases h with rfl | rfl | rfl
  · exact absurd rfl h0
  all_goals decide
theorem H_offer (H : CR w S n) (I : SI S n) (J : SJ S n) (hn : n < 512) (r : rmOK w) (o : hp_N w 4393 = 1) : ∃ w', kx_ev wx_M (d + 9) 161 [kx_r 0 (some 1), kx_i x, kx_i (kx_b b), kx_l v, kx_r 100 (some 4393)] w = some (.inl (some (.inl (pOffer S x b v).1.th)), w') ∧ CR w' (pOffer S x b v).1 (n + 1) ∧ ((pOffer S x b v).1.th = 0 → hp_L w' 8787 0 = (pOffer S x b v).2.toInt64) ∧ FO w w' := by
  obtain ⟨w1, e1, c1, f1⟩ := K_offer (d := d) (x := x) (b := b) (v := v) H I J hn r
  obtain ⟨ψ, hψ⟩ := kx_fu
  rw [mE_161 hψ]
  unfold mb_161_0
  rw [ob_s, e1]
  have o1 : hp_N w1 4393 = 1 := by rw [f1.2.2.2.2.2.1]; exact o
  by_cases h0 : (pOffer S x b v).1.th = 0
  · rw [if_pos h0, bic_n, ob_s, if_neg (o_ix o1), h0]
    exact ⟨hp_sL w1 8787 0 _, rfl, c1.lc (LC.out _ _), fun _ => oL _ _, f1.fo.out _⟩
  · rw [if_neg h0, bic_e, lk_161 th_offer h0, lkb]
    exact ⟨w1, rfl, c1, fun h => absurd h h0, f1.fo⟩
theorem lk_162 {x : Int32} (h : T3 x) (h0 : x ≠ 0) : kx_lk kH_162 (e3 x) = some x := by
  rcases h with rfl | rfl | rfl | rfl
  · exact absurd rfl h0
  all_goals decide
theorem H_choose (H : CR w S n) (I : SI S n) (J : SJ S n) (hn : n < 512) (r : rmOK w) (o : hp_N w 4393 = 1) : ∃ w', kx_ev wx_M (d + 9) 162 [kx_r 0 (some 1), kx_i x, kx_i (kx_b b), kx_r 100 (some 4393)] w = some (.inl (some (.inl (pChoose S x b).1.th)), w') ∧ CR w' (pChoose S x b).1 n ∧ ((pChoose S x b).1.th = 0 → hp_L w' 8787 0 = l01 (pChoose S x b).2) ∧ FO w w' := by
  obtain ⟨w1, e1, c1, f1⟩ := K_choose (d := d) (x := x) (b := b) H I J hn r
  obtain ⟨ψ, hψ⟩ := kx_fu
  rw [mE_162 hψ]
  unfold mb_162_0
  rw [ob_s, e1]
  have o1 : hp_N w1 4393 = 1 := by rw [f1.2.2.2.2.2.1]; exact o
  by_cases h0 : (pChoose S x b).1.th = 0
  · rw [if_pos h0, bic_n, h0]
    refine ⟨hp_sL w1 8787 0 (l01 (pChoose S x b).2), ?_, c1.lc (LC.out _ _), fun _ => oL _ _, f1.fo.out _⟩
    cases hb : (pChoose S x b).2 with
    | false =>
      rw [kx_b_f, if_pos rfl, me_162_16]
      unfold mb_162_16
      rw [ob_s, if_neg (o_ix o1)]
      rfl
    | true =>
      rw [kx_b_t, if_neg (by decide), me_162_16]
      unfold mb_162_16
      rw [ob_s, if_neg (o_ix o1)]
      rfl
  · rw [if_neg h0, bic_e, lk_162 th_choose h0, lkb]
    exact ⟨w1, rfl, c1, fun h => absurd h h0, f1.fo⟩
theorem lk_163 {x : Int32} (h : T2 x) (h0 : x ≠ 0) : kx_lk kH_163 (e3 x) = some x := by
  rcases h with rfl | rfl | rfl
  · exact absurd rfl h0
  all_goals decide
theorem H_gate (H : CR w S n) (I : SI S n) (J : SJ S n) (hn : n < 512) (r : rmOK w) (o : hp_N w 4393 = 1) : ∃ w', kx_ev wx_M (d + 9) 163 [kx_r 0 (some 1), kx_i x, kx_i y, kx_r 100 (some 4393)] w = some (.inl (some (.inl (pGate S x y).1.th)), w') ∧ CR w' (pGate S x y).1 n ∧ ((pGate S x y).1.th = 0 → hp_L w' 8787 0 = (pGate S x y).2.toInt64) ∧ FO w w' := by
  obtain ⟨w1, e1, c1, f1⟩ := K_gate (d := d) (x := x) (y := y) H I J hn r
  obtain ⟨ψ, hψ⟩ := kx_fu
  rw [mE_163 hψ]
  unfold mb_163_0
  rw [ob_s, e1]
  have o1 : hp_N w1 4393 = 1 := by rw [f1.2.2.2.2.2.1]; exact o
  by_cases h0 : (pGate S x y).1.th = 0
  · rw [if_pos h0, bic_n, ob_s, if_neg (o_ix o1), h0]
    exact ⟨hp_sL w1 8787 0 _, rfl, c1.lc (LC.out _ _), fun _ => oL _ _, f1.fo.out _⟩
  · rw [if_neg h0, bic_e, lk_163 th_gate h0, lkb]
    exact ⟨w1, rfl, c1, fun h => absurd h h0, f1.fo⟩
theorem lk_164 {x : Int32} (h : T3 x) (h0 : x ≠ 0) : kx_lk kH_164 (e3 x) = some x := by
  rcases h with rfl | rfl | rfl | rfl
  · exact absurd rfl h0
  all_goals decide
theorem H_enter (H : CR w S n) (I : SI S n) (J : SJ S n) (hn : n < 512) (r : rmOK w) (o : hp_N w 4393 = 1) : ∃ w', kx_ev wx_M (d + 9) 164 [kx_r 0 (some 1), kx_i x, kx_r 100 (some 4393)] w = some (.inl (some (.inl (pEnter S x).1.th)), w') ∧ CR w' (pEnter S x).1 n ∧ ((pEnter S x).1.th = 0 → hp_L w' 8787 0 = l01 (pEnter S x).2) ∧ FO w w' := by
  obtain ⟨w1, e1, c1, f1⟩ := K_enter (d := d) (x := x) H I J hn r
  obtain ⟨ψ, hψ⟩ := kx_fu
  rw [mE_164 hψ]
  unfold mb_164_0
  rw [ob_s, e1]
  have o1 : hp_N w1 4393 = 1 := by rw [f1.2.2.2.2.2.1]; exact o
  by_cases h0 : (pEnter S x).1.th = 0
  · rw [if_pos h0, bic_n, h0]
    refine ⟨hp_sL w1 8787 0 (l01 (pEnter S x).2), ?_, c1.lc (LC.out _ _), fun _ => oL _ _, f1.fo.out _⟩
    cases hb : (pEnter S x).2 with
    | false =>
      rw [kx_b_f, if_pos rfl, me_164_15]
      unfold mb_164_15
      rw [ob_s, if_neg (o_ix o1)]
      rfl
    | true =>
      rw [kx_b_t, if_neg (by decide), me_164_15]
      unfold mb_164_15
      rw [ob_s, if_neg (o_ix o1)]
      rfl
  · rw [if_neg h0, bic_e, lk_164 th_enter h0, lkb]
    exact ⟨w1, rfl, c1, fun h => absurd h h0, f1.fo⟩
theorem lk_165 {x : Int32} (h : T2 x) (h0 : x ≠ 0) : kx_lk kH_165 (e3 x) = some x := by
  rcases h with rfl | rfl | rfl
  · exact absurd rfl h0
  all_goals decide
theorem H_read (H : CR w S n) (I : SI S n) (J : SJ S n) (hn : n < 512) (r : rmOK w) (o : hp_N w 4393 = 1) : ∃ w', kx_ev wx_M (d + 9) 165 [kx_r 0 (some 1), kx_i x, kx_r 100 (some 4393)] w = some (.inl (some (.inl (pRead S x).1.th)), w') ∧ CR w' (pRead S x).1 n ∧ ((pRead S x).1.th = 0 → hp_L w' 8787 0 = l01 (pRead S x).2) ∧ FO w w' := by
  obtain ⟨w1, e1, c1, f1⟩ := K_read (d := d) (x := x) H I J hn r
  obtain ⟨ψ, hψ⟩ := kx_fu
  rw [mE_165 hψ]
  unfold mb_165_0
  rw [ob_s, e1]
  have o1 : hp_N w1 4393 = 1 := by rw [f1.2.2.2.2.2.1]; exact o
  by_cases h0 : (pRead S x).1.th = 0
  · rw [if_pos h0, bic_n, h0]
    refine ⟨hp_sL w1 8787 0 (l01 (pRead S x).2), ?_, c1.lc (LC.out _ _), fun _ => oL _ _, f1.fo.out _⟩
    cases hb : (pRead S x).2 with
    | false =>
      rw [kx_b_f, if_pos rfl, me_165_15]
      unfold mb_165_15
      rw [ob_s, if_neg (o_ix o1)]
      rfl
    | true =>
      rw [kx_b_t, if_neg (by decide), me_165_15]
      unfold mb_165_15
      rw [ob_s, if_neg (o_ix o1)]
      rfl
  · rw [if_neg h0, bic_e, lk_165 th_read h0, lkb]
    exact ⟨w1, rfl, c1, fun h => absurd h h0, f1.fo⟩
theorem lk_166 {x : Int32} (h : T3 x) (h0 : x ≠ 0) : kx_lk kH_166 (e3 x) = some x := by
  rcases h with rfl | rfl | rfl | rfl
  · exact absurd rfl h0
  all_goals decide
theorem H_leave (H : CR w S n) (I : SI S n) (J : SJ S n) (hn : n < 512) (r : rmOK w) (o : hp_N w 4393 = 1) : ∃ w', kx_ev wx_M (d + 9) 166 [kx_r 0 (some 1), kx_i x] w = some (.inl (some (.inl (pLeave S x).th)), w') ∧ CR w' (pLeave S x) n ∧ FO w w' := by
  obtain ⟨w1, e1, c1, f1⟩ := K_leave (d := d) (x := x) H I J hn r
  obtain ⟨ψ, hψ⟩ := kx_fu
  rw [mE_166 hψ]
  unfold mb_166_0
  rw [ob_s, e1]
  have o1 : hp_N w1 4393 = 1 := by rw [f1.2.2.2.2.2.1]; exact o
  by_cases h0 : (pLeave S x).th = 0
  · rw [if_pos h0, bvc_n, h0]
    exact ⟨w1, rfl, c1, f1.fo⟩
  · rw [if_neg h0, bvc_e, lk_166 th_leave h0, lkb]
    exact ⟨w1, rfl, c1, f1.fo⟩
theorem lk_167 {x : Int32} (h : T3 x) (h0 : x ≠ 0) : kx_lk kH_167 (e3 x) = some x := by
  rcases h with rfl | rfl | rfl | rfl
  · exact absurd rfl h0
  all_goals decide
theorem H_change (H : CR w S n) (I : SI S n) (J : SJ S n) (hn : n < 512) (r : rmOK w) (o : hp_N w 4393 = 1) : ∃ w', kx_ev wx_M (d + 9) 167 [kx_r 0 (some 1), kx_i x, kx_i y] w = some (.inl (some (.inl (pChange S x y).th)), w') ∧ CR w' (pChange S x y) n ∧ FO w w' := by
  obtain ⟨w1, e1, c1, f1⟩ := K_change (d := d) (x := x) (y := y) H I J hn r
  obtain ⟨ψ, hψ⟩ := kx_fu
  rw [mE_167 hψ]
  unfold mb_167_0
  rw [ob_s, e1]
  have o1 : hp_N w1 4393 = 1 := by rw [f1.2.2.2.2.2.1]; exact o
  by_cases h0 : (pChange S x y).th = 0
  · rw [if_pos h0, bvc_n, h0]
    exact ⟨w1, rfl, c1, f1.fo⟩
  · rw [if_neg h0, bvc_e, lk_167 th_change h0, lkb]
    exact ⟨w1, rfl, c1, f1.fo⟩
theorem lk_168 {x : Int32} (h : T1 x) (h0 : x ≠ 0) : kx_lk kH_168 3 = some x := by
  rcases h with rfl | rfl
  · exact absurd rfl h0
  all_goals decide
theorem H_task (H : CR w S n) (I : SI S n) (J : SJ S n) (r : rmOK w) (o : hp_N w 4393 = 1) : ∃ w', kx_ev wx_M (d + 9) 168 [kx_r 0 (some 1), kx_i x, kx_i y, kx_r 100 (some 4393)] w = some (.inl (some (.inl (pTask S x y).1.th)), w') ∧ CR w' (pTask S x y).1 n ∧ ((pTask S x y).1.th = 0 → hp_L w' 8787 0 = (pTask S x y).2.toInt64) ∧ FO w w' := by
  obtain ⟨w1, e1, c1, f1⟩ := K_task (d := d) (x := x) (y := y) H I J r
  obtain ⟨ψ, hψ⟩ := kx_fu
  rw [mE_168 hψ]
  unfold mb_168_0
  rw [ob_s, e1]
  have o1 : hp_N w1 4393 = 1 := by rw [f1.2.2.2.2.2.1]; exact o
  by_cases h0 : (pTask S x y).1.th = 0
  · rw [if_pos h0, bic_n, ob_s, if_neg (o_ix o1), h0]
    exact ⟨hp_sL w1 8787 0 _, rfl, c1.lc (LC.out _ _), fun _ => oL _ _, f1.fo.out _⟩
  · rw [if_neg h0, bic_e, lk_168 th_task h0, lkb]
    exact ⟨w1, rfl, c1, fun h => absurd h h0, f1.fo⟩
theorem lk_169 {x : Int32} (h : T1 x) (h0 : x ≠ 0) : kx_lk kH_169 3 = some x := by
  rcases h with rfl | rfl
  · exact absurd rfl h0
  all_goals decide
theorem H_out (H : CR w S n) (r : rmOK w) (o : hp_N w 4393 = 1) : ∃ w', kx_ev wx_M (d + 9) 169 [kx_r 0 (some 1), kx_i x, kx_r 100 (some 4393)] w = some (.inl (some (.inl (pOut S x).1.th)), w') ∧ CR w' (pOut S x).1 n ∧ ((pOut S x).1.th = 0 → hp_L w' 8787 0 = (pOut S x).2) ∧ FO w w' := by
  obtain ⟨w1, e1, c1, f1⟩ := K_out (d := d) (x := x) H r
  obtain ⟨ψ, hψ⟩ := kx_fu
  rw [mE_169 hψ]
  unfold mb_169_0
  rw [ob_s, e1]
  have o1 : hp_N w1 4393 = 1 := by rw [f1.2.2.2.2.2.1]; exact o
  by_cases h0 : (pOut S x).1.th = 0
  · rw [if_pos h0, blc_n, ob_s, if_neg (o_ix o1), h0]
    exact ⟨hp_sL w1 8787 0 _, rfl, c1.lc (LC.out _ _), fun _ => oL _ _, f1.fo.out _⟩
  · rw [if_neg h0, blc_e, lk_169 th_out h0, lkb]
    exact ⟨w1, rfl, c1, fun h => absurd h h0, f1.fo⟩
theorem lk_170 {x : Int32} (h : T1 x) (h0 : x ≠ 0) : kx_lk kH_170 3 = some x := by
  rcases h with rfl | rfl
  · exact absurd rfl h0
  all_goals decide
theorem H_look (H : CR w S n) (r : rmOK w) (o : hp_N w 4393 = 1) : ∃ w', kx_ev wx_M (d + 9) 170 [kx_r 0 (some 1), kx_i x, kx_i y, kx_r 100 (some 4393)] w = some (.inl (some (.inl (pLook S x y).1.th)), w') ∧ CR w' (pLook S x y).1 n ∧ ((pLook S x y).1.th = 0 → hp_L w' 8787 0 = (pLook S x y).2.toInt64) ∧ FO w w' := by
  obtain ⟨w1, e1, c1, f1⟩ := K_look (d := d) (x := x) (y := y) H r
  obtain ⟨ψ, hψ⟩ := kx_fu
  rw [mE_170 hψ]
  unfold mb_170_0
  rw [ob_s, e1]
  have o1 : hp_N w1 4393 = 1 := by rw [f1.2.2.2.2.2.1]; exact o
  by_cases h0 : (pLook S x y).1.th = 0
  · rw [if_pos h0, bic_n, ob_s, if_neg (o_ix o1), h0]
    exact ⟨hp_sL w1 8787 0 _, rfl, c1.lc (LC.out _ _), fun _ => oL _ _, f1.fo.out _⟩
  · rw [if_neg h0, bic_e, lk_170 th_look h0, lkb]
    exact ⟨w1, rfl, c1, fun h => absurd h h0, f1.fo⟩
theorem lk_171 {x : Int32} (h : T1 x) (h0 : x ≠ 0) : kx_lk kH_171 3 = some x := by
  rcases h with rfl | rfl
  · exact absurd rfl h0
  all_goals decide
theorem H_watch (H : CR w S n) (I : SI S n) (r : rmOK w) (o : hp_N w 4393 = 1) : ∃ w', kx_ev wx_M (d + 9) 171 [kx_r 0 (some 1), kx_i x, kx_i y, kx_r 100 (some 4393)] w = some (.inl (some (.inl (pWatch S x y).1.th)), w') ∧ CR w' (pWatch S x y).1 n ∧ ((pWatch S x y).1.th = 0 → hp_L w' 8787 0 = (pWatch S x y).2.toInt64) ∧ FO w w' := by
  obtain ⟨w1, e1, c1, f1⟩ := K_watch (d := d) (x := x) (y := y) H I r
  obtain ⟨ψ, hψ⟩ := kx_fu
  rw [mE_171 hψ]
  unfold mb_171_0
  rw [ob_s, e1]
  have o1 : hp_N w1 4393 = 1 := by rw [f1.2.2.2.2.2.1]; exact o
  by_cases h0 : (pWatch S x y).1.th = 0
  · rw [if_pos h0, bic_n, ob_s, if_neg (o_ix o1), h0]
    exact ⟨hp_sL w1 8787 0 _, rfl, c1.lc (LC.out _ _), fun _ => oL _ _, f1.fo.out _⟩
  · rw [if_neg h0, bic_e, lk_171 th_watch h0, lkb]
    exact ⟨w1, rfl, c1, fun h => absurd h h0, f1.fo⟩
end HLP
