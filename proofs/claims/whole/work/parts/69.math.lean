/-! mean -/
def zv_w (st : Nat → Nat) (S k : Nat) : Nat := if Nat.testBit S k then st k else 12 - st k
/-- as if the reference still had all in its order -/
def zv_W (c m : zx_M) (n q J : Nat) (g st : Nat → Nat) : Prop := zo_W c (zx_u1 m 0 20 (Int32.ofNat n)) n J g ∧ m.1 0 20 = Int32.ofNat q ∧ q ≤ n ∧ ∀ k < n, st k ≤ 12 ∧ m.1 1 (21 + g k) = Int32.ofNat (st k)
theorem zv_u1 (m : zx_M) (v : Int32) (r : Nat) (h : ¬ r = 0) : (zx_u1 m 0 20 v).1 r = m.1 r := by rw [zm_u11, if_neg h]
theorem zv_u0 (m : zx_M) (v : Int32) (k : Nat) (h : ¬ k = 20) : (zx_u1 m 0 20 v).1 0 k = m.1 0 k := by rw [zm_u11, if_pos rfl, zm_upd, if_neg h]
theorem zv_Rm {c m : zx_M} {n q J : Nat} {g st : Nat → Nat} (W : zv_W c m n q J g st) : zo_Rm m q J g := by
  obtain ⟨W1, W2, W3, -⟩ := W
  obtain ⟨r1, r2, r3, r4⟩ := zo_WRm W1
  exact ⟨by omega, r2, W2, fun k hk => by have := r4 k (by omega); rw [zv_u1 m _ 8 (by omega)] at this; exact this⟩
theorem zv_F {c m m' : zx_M} {n q J : Nat} {g st : Nat → Nat} (W : zv_W c m n q J g st) (h1 : m'.2 = m.2) (h2 : ∀ r, ¬ r = 0 → ¬ r = 9 → ¬ r = 10 → m'.1 r = m.1 r) (h3 : ∀ q, ¬ q = 23 → ¬ q = 24 → m'.1 0 q = m.1 0 q) : zv_W c m' n q J g st := by
  obtain ⟨W1, W2, W3, W4⟩ := W
  refine ⟨zo_WM W1 (by rw [zm_u12, zm_u12]; exact h1) (fun r r0 r9 r10 => by rw [zv_u1 _ _ r r0, zv_u1 _ _ r r0]; exact h2 r r0 r9 r10) (fun q q3 q4 => ?_), by rw [h3 20 (by omega) (by omega)]; exact W2, W3, fun k hk => by rw [h2 1 (by omega) (by omega) (by omega)]; exact W4 k hk⟩
  by_cases e : q = 20
  · subst e
    rw [zm_u11, if_pos rfl, zm_upd, if_pos rfl, zm_u11, if_pos rfl, zm_upd, if_pos rfl]
  · rw [zv_u0 _ _ q e, zv_u0 _ _ q e]; exact h3 q q3 q4
theorem zv_C {c c' m : zx_M} {n q J : Nat} {g st : Nat → Nat} (W : zv_W c m n q J g st) (F : zj_JF22 c c') : zv_W c' m n q J g st := ⟨zo_WC W.1 F, W.2.1, W.2.2.1, W.2.2.2⟩
theorem zv_st {c m : zx_M} {n q J : Nat} {g st : Nat → Nat} (W : zv_W c m n q J g st) {k : Nat} (hk : k < n) : f_C_sticksOf (Int32.ofNat k) c = some (Int32.ofNat (st k)) ∧ f_M_ofJumper (m.1 8 k) 3 m = some (Int32.ofNat (st k)) ∧ 12 - Int32.ofNat (st k) = Int32.ofNat (12 - st k) := by
  obtain ⟨W1, W2, W3, W4⟩ := W
  obtain ⟨s1, s2⟩ := zd_sticks W1 hk
  obtain ⟨q1, q2⟩ := W4 k hk
  rw [zv_u1 m _ 1 (by omega), q2] at s1
  rw [zv_u1 m _ 1 (by omega), q2, zv_u1 m _ 8 (by omega)] at s2
  have e : f_M_ofJumper (m.1 8 k) 3 (zx_u1 m 0 20 (Int32.ofNat n)) = f_M_ofJumper (m.1 8 k) 3 m := by
    unfold f_M_ofJumper
    rw [zv_u1 m _ 1 (by omega)]
  rw [e] at s2
  refine ⟨s1, s2, ?_⟩
  have := zm_g (k := st k) (by omega)
  have := zm_g (k := 12 - st k) (by omega)
  grind
theorem zv_tw {c m : zx_M} {n q J : Nat} {g st : Nat → Nat} (W : zv_W c m n q J g st) {S : Nat} (hS : S < 128) : f_C_twelfths (Int32.ofNat q) (Int32.ofNat S) c = some (Int64.ofNat (zg_P (zv_w st S) q)) := by
  have hq := W.2.2.1
  have n7 := W.1.2.1
  have key : ∀ (j i : Nat), i + j = q → ∀ N, j + 1 ≤ N → zx_lp N (fun s : Int64 × Int32 => b_C_twelfths_l5 (Int32.ofNat q) (Int32.ofNat S) s.1 s.2 c) (Int64.ofNat (zg_P (zv_w st S) i), Int32.ofNat i) = some (Int64.ofNat (zg_P (zv_w st S) q)) := by
    intro j
    induction j with
    | zero =>
      intro i hi N hN
      obtain ⟨N1, rfl⟩ : ∃ N1, N = N1 + 1 := ⟨N - 1, by omega⟩
      have e : i = q := by omega
      subst e
      refine zj_lpE ?_
      show b_C_twelfths_l5 (Int32.ofNat i) (Int32.ofNat S) _ (Int32.ofNat i) c = _
      unfold b_C_twelfths_l5
      rw [if_pos (Int32.le_refl _)]
    | succ j ih =>
      intro i hi N hN
      obtain ⟨N1, rfl⟩ : ∃ N1, N = N1 + 1 := ⟨N - 1, by omega⟩
      have g1 : ¬ Int32.ofNat q ≤ Int32.ofNat i := by grind [zm_g]
      obtain ⟨s1, s2, s3⟩ := zv_st W (show i < n by omega)
      have st12 := (W.2.2.2 i (by omega)).1
      have b0 := zs_bit0 S hS i (by omega)
      have z1 : ¬ ((1 : Int32) = 0) := by decide
      have hb : b_C_twelfths_l5 (Int32.ofNat q) (Int32.ofNat S) (Int64.ofNat (zg_P (zv_w st S) i)) (Int32.ofNat i) c = some (.inl (Int64.ofNat (zg_P (zv_w st S) (i + 1)), Int32.ofNat (i + 1))) := by
        have e1 : Int32.ofNat i + 1 = Int32.ofNat (i + 1) := by simp
        have e2 : zg_P (zv_w st S) (i + 1) = zg_P (zv_w st S) i * zv_w st S i := rfl
        unfold b_C_twelfths_l5 n_C_twelfths_b5_25 n_C_twelfths_b5_53
        rw [if_neg g1, e2]
        cases hbit : Nat.testBit S i
        · have ew : zv_w st S i = 12 - st i := by unfold zv_w; rw [hbit]; rfl
          rw [if_pos (b0.mpr hbit), if_pos rfl, s1, zm_bs, zm_let, zm_let, s3, zg_mulL _ (by omega), e1, ew]
        · have ew : zv_w st S i = st i := by unfold zv_w; rw [hbit]; rfl
          have nb : ¬ ((zx_shr (Int32.ofNat S) (Int32.ofNat i)) &&& 1) = 0 := fun h => by rw [b0.mp h] at hbit; exact absurd hbit (by decide)
          rw [if_neg nb, if_neg z1, s1, zm_bs, zm_let, zm_let, zg_mulL _ (by omega), e1, ew]
      rw [zj_lpS (show (fun s : Int64 × Int32 => b_C_twelfths_l5 (Int32.ofNat q) (Int32.ofNat S) s.1 s.2 c) (_, Int32.ofNat i) = _ from hb)]
      exact ih (i + 1) (by omega) N1 (by omega)
  have k := key q 0 (by omega) zx_N (by have : zx_N = 100000 := rfl; omega)
  have k' : l_C_twelfths_l5 (Int32.ofNat q) (Int32.ofNat S) c (1, 0) = _ := k
  unfold f_C_twelfths
  rw [k', zm_bs, zm_let]
theorem zv_inner {c m : zx_M} {n q J : Nat} {g st : Nat → Nat} (W : zv_W c m n q J g st) {S : Nat} (hS : S < 128) (v2 v3 v4 : Int32) (v5 v7 : Int64) : ∃ m', l_M_mean_lb103_123 v2 v3 v4 v5 v7 (Int32.ofNat S) (1, 0, 0, m) = some (Int64.ofNat (zg_P (zv_w st S) q), m') ∧ m'.2 = m.2 ∧ (∀ r, ¬ r = 9 → m'.1 r = m.1 r) ∧ ∀ k < q, m'.1 9 k = zs_se (zx_rem v2 100) S v3 k := by
  have hq := W.2.2.1
  have n7 := W.1.2.1
  have key : ∀ (j i : Nat), i + j = q → ∀ x : zx_M, x.2 = m.2 → (∀ r, ¬ r = 9 → x.1 r = m.1 r) → (∀ k < i, x.1 9 k = zs_se (zx_rem v2 100) S v3 k) → ∀ N, j + 1 ≤ N → ∃ m', zx_lp N (fun s : Int64 × Int32 × Int32 × zx_M => b_M_mean_lb103_123 v2 v3 v4 v5 v7 (Int32.ofNat S) s.1 s.2.1 s.2.2.1 s.2.2.2) (Int64.ofNat (zg_P (zv_w st S) i), zs_late S v3 i, Int32.ofNat i, x) = some (Int64.ofNat (zg_P (zv_w st S) q), m') ∧ m'.2 = m.2 ∧ (∀ r, ¬ r = 9 → m'.1 r = m.1 r) ∧ ∀ k < q, m'.1 9 k = zs_se (zx_rem v2 100) S v3 k := by
    intro j
    induction j with
    | zero =>
      intro i hi x x2 xr xw N hN
      obtain ⟨N1, rfl⟩ : ∃ N1, N = N1 + 1 := ⟨N - 1, by omega⟩
      have e : i = q := by omega
      subst e
      refine ⟨x, zj_lpE ?_, x2, xr, xw⟩
      show b_M_mean_lb103_123 v2 v3 v4 v5 v7 (Int32.ofNat S) _ (zs_late S v3 i) (Int32.ofNat i) x = _
      unfold b_M_mean_lb103_123
      rw [xr 0 (by omega), W.2.1, if_pos (Int32.le_refl _)]
    | succ j ih =>
      intro i hi x x2 xr xw N hN
      obtain ⟨N1, rfl⟩ : ∃ N1, N = N1 + 1 := ⟨N - 1, by omega⟩
      have g1 : ¬ Int32.ofNat q ≤ Int32.ofNat i := by grind [zm_g]
      have Wx : zv_W c x n q J g st := zv_F W x2 (fun r _ r9 _ => xr r r9) (fun k _ _ => by rw [xr 0 (by omega)])
      obtain ⟨s1, s2, s3⟩ := zv_st Wx (show i < n by omega)
      have st12 := (W.2.2.2 i (by omega)).1
      have z1 : ¬ ((1 : Int32) = 0) := by decide
      have e1 : Int32.ofNat i + 1 = Int32.ofNat (i + 1) := by simp
      have e2 : zg_P (zv_w st S) (i + 1) = zg_P (zv_w st S) i * zv_w st S i := rfl
      have e3 : zs_late S v3 (i + 1) = zs_late S v3 i + (if Nat.testBit S i then v3 else 0) := rfl
      have hb : b_M_mean_lb103_123 v2 v3 v4 v5 v7 (Int32.ofNat S) (Int64.ofNat (zg_P (zv_w st S) i)) (zs_late S v3 i) (Int32.ofNat i) x = some (.inl (Int64.ofNat (zg_P (zv_w st S) (i + 1)), zs_late S v3 (i + 1), Int32.ofNat (i + 1), zx_u1 x 9 i (zx_rem v2 100 * Int32.ofNat i + zs_late S v3 (i + 1)))) := by
        unfold b_M_mean_lb103_123 n_M_mean_b103_b123_170 n_M_mean_b103_b123_190
        rw [Wx.2.1, if_neg g1, zm_ix (by omega) (by omega), zm_bs, s2, zm_bs, zo_isIn hS (show i < 7 by omega), zm_bs, e2, e3]
        cases hbit : Nat.testBit S i
        · have ew : zv_w st S i = 12 - st i := by unfold zv_w; rw [hbit]; rfl
          simp only [Bool.false_eq_true, ↓reduceIte, zm_let, zm_bs, s3, zg_mulL _ (show 12 - st i < 2 ^ 31 by omega), e1, ew]
        · have ew : zv_w st S i = st i := by unfold zv_w; rw [hbit]; rfl
          simp only [↓reduceIte, if_neg z1, zm_let, zm_bs, zg_mulL _ (show st i < 2 ^ 31 by omega), e1, ew]
      obtain ⟨m', y1, y2⟩ := ih (i + 1) (by omega) (zx_u1 x 9 i (zx_rem v2 100 * Int32.ofNat i + zs_late S v3 (i + 1))) (by rw [zm_u12]; exact x2) (fun r r9 => by rw [zm_u11, if_neg r9]; exact xr r r9) (fun k hk => by
        rw [zm_u11, if_pos rfl, zm_upd]
        by_cases f : k = i
        · rw [if_pos f, f]
          unfold zs_se
          congr 1
          grind
        · rw [if_neg f]; exact xw k (by omega)) N1 (by omega)
      refine ⟨m', ?_, y2⟩
      rw [zj_lpS (show (fun s : Int64 × Int32 × Int32 × zx_M => b_M_mean_lb103_123 v2 v3 v4 v5 v7 (Int32.ofNat S) s.1 s.2.1 s.2.2.1 s.2.2.2) (_, _, Int32.ofNat i, x) = _ from hb)]
      exact y1
  exact key q 0 (by omega) m rfl (fun _ _ => rfl) (fun k hk => absurd hk (by omega)) zx_N (by have : zx_N = 100000 := rfl; omega)
theorem zv_line {c m : zx_M} {n q J : Nat} {g st : Nat → Nat} (W : zv_W c m n q J g st) (v2 v3 v4 : Int32) (v5 : Int64) : l_M_mean_l77 v2 v3 v4 v5 m (1, 0) = some (Int64.ofNat (12 ^ q)) := by
  have hq := W.2.2.1
  have n7 := W.1.2.1
  have key : ∀ (j i : Nat), i + j = q → ∀ N, j + 1 ≤ N → zx_lp N (fun s : Int64 × Int32 => b_M_mean_l77 v2 v3 v4 v5 s.1 s.2 m) (Int64.ofNat (12 ^ i), Int32.ofNat i) = some (Int64.ofNat (12 ^ q)) := by
    intro j
    induction j with
    | zero =>
      intro i hi N hN
      obtain ⟨N1, rfl⟩ : ∃ N1, N = N1 + 1 := ⟨N - 1, by omega⟩
      have e : i = q := by omega
      subst e
      refine zj_lpE ?_
      show b_M_mean_l77 v2 v3 v4 v5 _ (Int32.ofNat i) m = _
      unfold b_M_mean_l77
      rw [W.2.1, if_pos (Int32.le_refl _)]
    | succ j ih =>
      intro i hi N hN
      obtain ⟨N1, rfl⟩ : ∃ N1, N = N1 + 1 := ⟨N - 1, by omega⟩
      have g1 : ¬ Int32.ofNat q ≤ Int32.ofNat i := by grind [zm_g]
      have h12 : Int64.ofNat (12 ^ i) * 12 = Int64.ofNat (12 ^ (i + 1)) := by
        rw [Nat.pow_succ, Int64.ofNat_mul]
        rfl
      have hb : b_M_mean_l77 v2 v3 v4 v5 (Int64.ofNat (12 ^ i)) (Int32.ofNat i) m = some (.inl (Int64.ofNat (12 ^ (i + 1)), Int32.ofNat (i + 1))) := by
        unfold b_M_mean_l77
        rw [W.2.1, if_neg g1, zm_let, zm_let, h12, show Int32.ofNat i + 1 = Int32.ofNat (i + 1) by simp]
      rw [zj_lpS (show (fun s : Int64 × Int32 => b_M_mean_l77 v2 v3 v4 v5 s.1 s.2 m) (_, Int32.ofNat i) = _ from hb)]
      exact ih (i + 1) (by omega) N1 (by omega)
  exact key q 0 (by omega) zx_N (by have : zx_N = 100000 := rfl; omega)
theorem t_mean {c m : zx_M} (H : zm_R zq_V c m) (v w x y : Int32) : zm_ok zq_V (f_C_mean v w x y) (f_M_mean v w x y) c m := by
  have z1 : ¬ ((1 : Int32) = 0) := by decide
  have z2 : ¬ ¬ ((0 : Int32) = 0) := fun h => h rfl
  have z3 : ¬ ¬ ((1 : Int32) = 1) := fun h => h rfl
  unfold zm_ok f_C_mean f_M_mean
  obtain ⟨r0, hr0⟩ := zo_bad1 H v
  by_cases hbad : (∀ c m : zx_M, f_C_isSpotAndCount w c = some 1 ∧ f_M_isYc w m = some 1) ∧ (∀ c m : zx_M, f_C_isCount x c = some 1 ∧ f_M_isCount x m = some 1) ∧ (∀ c m : zx_M, f_C_isPart y c = some 1 ∧ f_M_within y.toInt64 0 1 m = some 1) ∧ (y = 0 ∨ y = 1)
  rotate_left
  · have hC : ∀ X, ((f_C_isSpotAndCount w c).bind fun r2 => if r2 = 0 then some ((-9223372036854775808 : Int64), c) else (f_C_isCount x c).bind fun r5 => if r5 = 0 then some (-9223372036854775808, c) else (f_C_isPart y c).bind fun r8 => if r8 = 0 then some (-9223372036854775808, c) else X) = some (-9223372036854775808, c) := by
      intro X
      rcases zo_isYc w with hy | hy
      · rw [(hy c m).1, zm_bs, if_neg z1]
        rcases zo_isCount x with hc | hc
        · rw [(hc c m).1, zm_bs, if_neg z1]
          rcases zo_isPart y with ⟨hp, hx⟩ | hp
          · exact absurd ⟨hy, hc, hp, hx⟩ hbad
          · rw [(hp c m).1, zm_bs, if_pos rfl]
        · rw [(hc c m).1, zm_bs, if_pos rfl]
      · rw [(hy c m).1, zm_bs, if_pos rfl]
    have hM : ∀ X, ((f_M_rowIs v 0 m).bind fun r2 => if ¬ r2 = 1 then some ((-9223372036854775808 : Int64), m) else (f_M_isYc w m).bind fun r5 => if r5 = 0 then some (-9223372036854775808, m) else (f_M_isCount x m).bind fun r8 => if r8 = 0 then some (-9223372036854775808, m) else (f_M_within y.toInt64 0 1 m).bind fun r11 => if ¬ r11 = 0 then X else some (-9223372036854775808, m)) = some (-9223372036854775808, m) := by
      intro X
      rw [hr0, zm_bs]
      by_cases q : r0 = 1
      rotate_left
      · rw [if_pos q]
      have q' : ¬ ¬ r0 = 1 := fun h => h q
      rw [if_neg q']
      rcases zo_isYc w with hy | hy
      · rw [(hy c m).2, zm_bs, if_neg z1]
        rcases zo_isCount x with hc | hc
        · rw [(hc c m).2, zm_bs, if_neg z1]
          rcases zo_isPart y with ⟨hp, hx⟩ | hp
          · exact absurd ⟨hy, hc, hp, hx⟩ hbad
          · rw [(hp c m).2, zm_bs, if_neg z2]
        · rw [(hc c m).2, zm_bs, if_pos rfl]
      · rw [(hy c m).2, zm_bs, if_pos rfl]
    rw [hC, hM]
    exact zm_e3 rfl rfl rfl H
  obtain ⟨hy, hc, hp, hx⟩ := hbad
  simp only [(hy c m).1, (hy c m).2, (hc c m).1, (hc c m).2, (hp c m).1, (hp c m).2, zm_bs, if_neg z1, if_pos z1]
  rcases zo_read H v (zx_rem w 100) with ⟨c1, m1, n, J, g, d, s, e1, e2, e3, e4, e5, W, e7, -⟩ | ⟨r, e1, e2, hr⟩
  rotate_left
  · simp only [e1, e2, zm_bs, if_neg (zo_rNeg hr).1, if_pos (zo_rNeg hr).2.1]
    exact zm_e3 rfl rfl rfl H
  obtain ⟨st, hst⟩ := zg_stick W
  have n7 := W.2.1
  have rc := W.2.2.2.1
  have rm := W.2.2.2.2.1
  -- so many go
  obtain ⟨q, hq, hq5, hC5, hM5⟩ : ∃ q, q ≤ n ∧ q ≤ 5 ∧ zx_min 5 (Int32.ofNat n) = Int32.ofNat q ∧ (if Int32.ofNat n ≤ 5 then n_M_mean_n65 w x y (Int32.ofNat n) m1 else n_M_mean_n65 w x y 5 m1) = n_M_mean_n65 w x y (Int32.ofNat q) m1 := by
    by_cases a : n ≤ 5
    · have a1 : Int32.ofNat n ≤ 5 := by grind [zm_g]
      refine ⟨n, Nat.le_refl n, a, ?_, if_pos a1⟩
      unfold zx_min
      by_cases b : Int32.ofNat n < 5
      · rw [if_pos b]
      · rw [if_neg b]
        grind
    · have a1 : ¬ Int32.ofNat n ≤ 5 := by grind [zm_g]
      refine ⟨5, by omega, Nat.le_refl 5, ?_, if_neg a1⟩
      unfold zx_min
      rw [if_neg (fun h => a1 (Int32.le_of_lt h))]
      rfl
  have W0 : zv_W c1 (zx_u1 m1 0 20 (Int32.ofNat q)) n q J g st := by
    refine ⟨zo_WM W (by rw [zm_u12, zm_u12]) (fun r r0 _ _ => by rw [zv_u1 _ _ r r0, zv_u1 _ _ r r0]) (fun k _ _ => ?_), by rw [zm_u11, if_pos rfl, zm_upd, if_pos rfl], hq, fun k hk => ?_⟩
    · by_cases e : k = 20
      · subst e
        rw [zm_u11, if_pos rfl, zm_upd, if_pos rfl, rm]
      · rw [zv_u0 _ _ k e, zv_u0 _ _ k e]
    · rw [zv_u1 _ _ 1 (by omega)]
      exact ⟨(hst k hk).1, (hst k hk).2.1⟩
  obtain ⟨sh, sh2⟩ := zs_shl q (by omega)
  have p32 : 2 ^ q ≤ 32 := by
    have : 2 ^ q ≤ 2 ^ 5 := Nat.pow_le_pow_right (by omega) hq5
    omega
  have e125 : (12 : Nat) ^ 5 = 248832 := by decide
  have P5 : ∀ S, zg_P (zv_w st S) q ≤ 248832 := by
    intro S
    have h1 := zg_Ple (w := zv_w st S) q (fun i hi => by
      have := (hst i (by omega)).1
      unfold zv_w
      by_cases f : Nat.testBit S i = true
      · rw [if_pos f]; exact this
      · rw [if_neg f]; omega)
    have h2 : 12 ^ q ≤ 12 ^ 5 := Nat.pow_le_pow_right (by omega) hq5
    omega
  have loop : ∃ (t t' : Int64 × zx_M), zx_lp zx_N (fun s : Int64 × Int32 × zx_M => b_C_mean_l53 w x y (Int32.ofNat q) s.1 s.2.1 s.2.2) (0, 0, c1) = some t ∧ zx_lp zx_N (fun s : Int64 × Int32 × zx_M => b_M_mean_l103 w x y s.1 (Int64.ofNat (12 ^ q)) s.2.1 s.2.2) (0, 0, zx_u1 m1 0 20 (Int32.ofNat q)) = some t' ∧ (t.1 = t'.1 ∧ (∃ A, A < 2 ^ 40 ∧ t.1 = Int64.ofNat A) ∧ zv_W t.2 t'.2 n q J g st) := by
    refine zm_lp2 (fun s : Int64 × Int32 × zx_M => zm_up (Int32.ofNat (2 ^ q)) s.2.1) (fun s s' : Int64 × Int32 × zx_M => s.1 = s'.1 ∧ s.2.1 = s'.2.1 ∧ zv_W s.2.2 s'.2.2 n q J g st ∧ ∃ S A, S ≤ 2 ^ q ∧ s.2.1 = Int32.ofNat S ∧ A ≤ S * 1741824 ∧ s.1 = Int64.ofNat A) (fun t t' : Int64 × zx_M => t.1 = t'.1 ∧ (∃ A, A < 2 ^ 40 ∧ t.1 = Int64.ofNat A) ∧ zv_W t.2 t'.2 n q J g st) ?_ zx_N _ _ ⟨rfl, rfl, W0, 0, 0, Nat.zero_le _, rfl, Nat.zero_le _, rfl⟩ (zm_upN (by decide : (-30000 : Int32) ≤ 0) (by
      have := zm_g (k := 2 ^ q) (by omega)
      grind))
    rintro ⟨a, i, ca⟩ ⟨a', i', ma⟩ ⟨h1, h2, Wa, S, A, h4, h5, h6, h7⟩
    dsimp only at h1 h2 Wa h5 h7 ⊢
    subst h1
    subst h2
    subst h5
    subst h7
    unfold b_C_mean_l53 b_M_mean_l103
    rw [Wa.2.1, sh]
    by_cases e : S = 2 ^ q
    · right
      subst e
      simp only [if_pos (Int32.le_refl _)]
      have hA : A < 2 ^ 40 := by
        have : 2 ^ q * 1741824 ≤ 32 * 1741824 := Nat.mul_le_mul_right _ p32
        omega
      exact ⟨_, _, rfl, rfl, rfl, ⟨A, hA, rfl⟩, Wa⟩
    left
    have g1 : ¬ Int32.ofNat (2 ^ q) ≤ Int32.ofNat S := by
      have := zm_g (k := 2 ^ q) (by omega)
      have := zm_g (k := S) (by omega)
      grind
    have a1 : Int32.ofNat S + 1 = Int32.ofNat (S + 1) := by simp
    have hup : zm_up (Int32.ofNat (2 ^ q)) (Int32.ofNat (S + 1)) < zm_up (Int32.ofNat (2 ^ q)) (Int32.ofNat S) := by
      rw [← a1]; exact zm_up1 (Int32.not_le.mp g1)
    obtain ⟨mb, k1, k2, k3, k4⟩ := zv_inner Wa (S := S) (by omega) w x y (Int64.ofNat A) (Int64.ofNat (12 ^ q))
    have Wb := zv_F Wa k2 (fun r _ r9 _ => k3 r r9) (fun k _ _ => by rw [k3 0 (by omega)])
    obtain ⟨mc, u1, u2, u3⟩ := zo_goodFrom (zv_Rm Wb) (w / 100 - 999)
    have Wc := zv_F Wb u2.1 (fun r r0 _ r10 => u2.2.1 r r0 r10) u2.2.2
    have way : ∀ z, zj_JF22 ca z → f_C_way z = some (ma.1 0 21) := by
      intro z F
      have := zs_Way Wa.1 z F
      rw [zv_u0 ma _ 21 (by omega)] at this
      exact this
    obtain ⟨cb, l1, l2⟩ := zs_stopped (zo_WRc Wa.1) (q := q) (S := S) hq (by omega) x w way
    obtain ⟨w1, w2, w3, w4, w5⟩ := zo_Wnum Wa.1
    rw [zv_u1 ma _ 1 (by omega)] at w1 w2 w3 w4
    have eq1 : zj_good q (mb.1 1 28) (mb.1 1 29) (mb.1 1 30) (mb.1 9) (fun k => w / 100 - 999 + zo_yd (mb.1 1 31) (mb.1 0 21) (mb.1 11) g (mb.1 9) k) = zj_good q (ca.1 2 0) (ca.1 2 1) (ca.1 2 2) (zs_se (zx_rem w 100) S x) (fun k => w / 100 - 999 + zo_yd (ca.1 2 3) (ma.1 0 21) (ca.1 21) g (zs_se (zx_rem w 100) S x) k) := by
      rw [k3 1 (by omega), k3 0 (by omega), k3 11 (by omega), w1, w2, w3, w4]
      refine zj_good_congr k4 (fun o ho => ?_)
      congr 1
      unfold zo_yd
      have r7 := Wa.1.2.2.2.2.2.2.2.1
      have r8 := Wa.1.2.2.2.2.2.2.2.2.1
      have r8' := r8 (g o) (r7 o (by omega)).1
      rw [zv_u1 ma _ 11 (by omega)] at r8'
      rw [k4 o ho, r8']
    have gl : zj_good q (ca.1 2 0) (ca.1 2 1) (ca.1 2 2) (zs_se (zx_rem w 100) S x) (fun k => w / 100 - 999 + zo_yd (ca.1 2 3) (ma.1 0 21) (ca.1 21) g (zs_se (zx_rem w 100) S x) k) ≤ q := zj_cnt_le _ q
    rw [eq1] at u1
    have tw := zv_tw Wa (S := S) (by omega)
    simp only [if_neg g1, tw, zm_bs, l1, k1, zm_spotM, u1, zm_let, a1]
    generalize zj_good q (ca.1 2 0) (ca.1 2 1) (ca.1 2 2) (zs_se (zx_rem w 100) S x) (fun k => w / 100 - 999 + zo_yd (ca.1 2 3) (ma.1 0 21) (ca.1 21) g (zs_se (zx_rem w 100) S x) k) = G at gl ⊢
    have PS := P5 S
    obtain ⟨p1, -, -, -⟩ := zg_pos (y := zg_P (zv_w st S) q) (by omega)
    have add : Int64.ofNat A + Int64.ofNat (zg_P (zv_w st S) q) * (Int32.ofNat G).toInt64 = Int64.ofNat (A + zg_P (zv_w st S) q * G) := by
      rw [zg_mulL _ (by omega), ← Int64.ofNat_add]
    have bound : A + zg_P (zv_w st S) q * G ≤ (S + 1) * 1741824 := by
      have : zg_P (zv_w st S) q * G ≤ 248832 * 7 := Nat.mul_le_mul PS (by omega)
      omega
    rw [add]
    unfold n_C_mean_b53_98
    by_cases z : zg_P (zv_w st S) q = 0
    · simp only [if_pos (p1.mpr z), zm_let, a1]
      have b2 : A ≤ (S + 1) * 1741824 := Nat.le_trans h6 (Nat.mul_le_mul_right _ (Nat.le_succ S))
      have b1 : S + 1 ≤ 2 ^ q := by omega
      refine ⟨_, _, rfl, rfl, ⟨?_, rfl, Wc, ⟨S + 1, A, b1, rfl, b2, rfl⟩⟩, hup⟩
      have ez : A + zg_P (zv_w st S) q * G = A := by rw [z, Nat.zero_mul]; exact Nat.add_zero A
      show Int64.ofNat A = Int64.ofNat (A + zg_P (zv_w st S) q * G)
      rw [ez]
    · have z' : ¬ lg_cmp (Int64.ofNat (zg_P (zv_w st S) q)) 0 ≤ 0 := fun h => z (p1.mp h)
      simp only [if_neg z', zm_let, a1]
      exact ⟨_, _, rfl, rfl, ⟨rfl, rfl, zv_C Wc l2, S + 1, _, by omega, rfl, bound, rfl⟩, hup⟩
  obtain ⟨⟨t1, t2⟩, ⟨t1', t2'⟩, f1, f2, q1, ⟨A, hA, q2⟩, q3⟩ := loop
  dsimp only at q1 q2 q3
  subst q1
  subst q2
  have f1' : l_C_mean_l53 w x y (Int32.ofNat q) (0, 0, c1) = some (Int64.ofNat A, t2) := f1
  have f2' : l_M_mean_l103 w x y (Int64.ofNat (12 ^ q)) (0, 0, zx_u1 m1 0 20 (Int32.ofNat q)) = some (Int64.ofNat A, t2') := f2
  have b12 : 12 ^ q ≤ 12 ^ 5 := Nat.pow_le_pow_right (by omega) hq5
  have hpos : 0 < 12 ^ q := Nat.pow_pos (by omega)
  obtain ⟨r, r1, r2⟩ := zg_low hA (B := 12 ^ q) (by omega) hpos hx t2 t2'
  have pw : f_Order_power 12 (Int32.ofNat q) t2 = some (Int32.ofNat (12 ^ q)) := zg_power (b := 12) (by omega) t2
  have R3 : zm_R zq_V t2 t2' := zm_FR q3.1.1 (zm_FC_refl _) ⟨by rw [zm_u12], fun r r0 _ => by rw [zv_u1 _ _ r r0], fun k hk => by rw [zv_u0 _ _ k (by omega)]⟩
  unfold f_Order_size
  simp only [e1, e2, e3, zm_bs, ↓reduceIte, if_neg z3, rc, rm, zm_let, hC5, hM5, f1', pw, zg_cast (show 12 ^ q < 2 ^ 31 by omega), r1]
  unfold n_M_mean_n65
  simp only [zm_let, zv_line W0, zm_bs, f2', r2]
  exact zm_e3 rfl rfl rfl R3
