/-! in lowest terms -/
theorem zg_cast {a : Nat} (h : a < 2 ^ 31) : (Int32.ofNat a).toInt64 = Int64.ofNat a := by
  apply Int64.toInt_inj.mp
  rw [Int32.toInt_toInt64, Int32.toInt_ofNat_of_lt h, zg_lt64 (by omega)]
theorem zg_gL {n : Nat} (h : n < 2 ^ 62) : Lean.Grind.ToInt.toInt (Int64.ofNat n) = (n : Int) := zg_lt64 (by omega)
theorem zg_pos {y : Nat} (h : y < 2 ^ 62) : (lg_cmp (Int64.ofNat y) 0 ≤ 0 ↔ y = 0) ∧ (0 ≤ lg_cmp (Int64.ofNat y) 1 ↔ 1 ≤ y) ∧ (lg_cmp (Int64.ofNat y) 0 = 0 ↔ y = 0) ∧ (Int64.ofNat y = 0 ↔ y = 0) := by
  have g := zg_gL h
  unfold lg_cmp
  refine ⟨?_, ?_, ?_, ?_⟩
  · grind
  · grind
  · grind
  · grind
theorem zg_gcd (x y : Nat) : Nat.gcd x y = Nat.gcd y (x % y) := by
  rw [Nat.gcd_comm x y, Nat.gcd_rec y x, Nat.gcd_comm]
theorem zg_euC {a b : Int64} {p : Int32} {c : zx_M} : ∀ (f x y : Nat), y < x → x < 2 ^ f → f ≤ 41 → ∀ (i N : Nat), i + 2 * f + 1 ≤ 200 → 2 * f + 1 ≤ N → zx_lp N (fun s : Int64 × Int64 × Int32 => b_C_lowest_l9 a b p s.1 s.2.1 s.2.2 c) (Int64.ofNat x, Int64.ofNat y, Int32.ofNat i) = some (Int64.ofNat (Nat.gcd x y)) := by
  intro f
  induction f with
  | zero => intro x y h1 h2; omega
  | succ f ih =>
    intro x y h1 h2 hf i N hi hN
    have big : (2 : Nat) ^ (f + 1) ≤ 2 ^ 41 := Nat.pow_le_pow_right (by omega) hf
    have hx : x < 2 ^ 62 := by omega
    have hy : y < 2 ^ 62 := by omega
    have g200 : ∀ i : Nat, i < 200 → ¬ 200 ≤ Int32.ofNat i := fun i h => by grind [zm_g]
    have stopC : ∀ (x i N : Nat), i < 200 → 1 ≤ N → zx_lp N (fun s : Int64 × Int64 × Int32 => b_C_lowest_l9 a b p s.1 s.2.1 s.2.2 c) (Int64.ofNat x, Int64.ofNat 0, Int32.ofNat i) = some (Int64.ofNat x) := by
      intro x i N hi hN
      obtain ⟨N1, rfl⟩ : ∃ N1, N = N1 + 1 := ⟨N - 1, by omega⟩
      refine zj_lpE ?_
      show b_C_lowest_l9 a b p (Int64.ofNat x) (Int64.ofNat 0) (Int32.ofNat i) c = _
      unfold b_C_lowest_l9
      rw [if_neg (g200 i hi), if_pos ((zg_pos (show 0 < 2 ^ 62 by omega)).1.mpr rfl)]
    have stepC : ∀ (x y i N : Nat), x < 2 ^ 62 → y < 2 ^ 62 → 0 < y → i < 200 → zx_lp (N + 1) (fun s : Int64 × Int64 × Int32 => b_C_lowest_l9 a b p s.1 s.2.1 s.2.2 c) (Int64.ofNat x, Int64.ofNat y, Int32.ofNat i) = zx_lp N (fun s : Int64 × Int64 × Int32 => b_C_lowest_l9 a b p s.1 s.2.1 s.2.2 c) (Int64.ofNat y, Int64.ofNat (x % y), Int32.ofNat (i + 1)) := by
      intro x y i N hx hy h0 hi
      refine zj_lpS ?_
      show b_C_lowest_l9 a b p (Int64.ofNat x) (Int64.ofNat y) (Int32.ofNat i) c = _
      obtain ⟨p1, -, -, p4⟩ := zg_pos hy
      unfold b_C_lowest_l9
      rw [if_neg (g200 i hi), if_neg (fun h => by have := p1.mp h; omega), if_neg (fun h => by have := p4.mp h; omega), zm_let, zm_let, zg_remL hx hy, show Int32.ofNat i + 1 = Int32.ofNat (i + 1) by simp]
    by_cases h0 : y = 0
    · subst h0
      rw [Nat.gcd_zero_right]
      exact stopC x i N (by omega) (by omega)
    · obtain ⟨N1, rfl⟩ : ∃ N1, N = N1 + 1 + 1 := ⟨N - 2, by omega⟩
      rw [stepC x y i (N1 + 1) hx hy (by omega) (by omega), zg_gcd x y]
      have hm : x % y < y := Nat.mod_lt x (by omega)
      by_cases h3 : x % y = 0
      · rw [h3, Nat.gcd_zero_right]
        exact stopC y (i + 1) (N1 + 1) (by omega) (by omega)
      · rw [stepC y (x % y) (i + 1) N1 hy (by omega) (by omega) (by omega), zg_gcd y (x % y)]
        have hm2 : y % (x % y) < x % y := Nat.mod_lt y (by omega)
        have half : x % y < 2 ^ f := by
          have d1 := Nat.mod_add_div x y
          have d2 : y * (x / y) ≥ y := Nat.le_mul_of_pos_right y (Nat.div_pos (by omega) (by omega))
          have : (2 : Nat) ^ (f + 1) = 2 * 2 ^ f := by rw [Nat.pow_succ]; omega
          omega
        exact ih (x % y) (y % (x % y)) hm2 half (by omega) (i + 2) N1 (by omega) (by omega)
theorem zg_euM {m : zx_M} : ∀ (f x y : Nat), y < x → x < 2 ^ f → f ≤ 41 → ∀ (N : Nat), 2 * f + 1 ≤ N → zx_lp N (fun s : Int64 × Int64 => b_M_commonOf_l6 s.1 s.2 m) (Int64.ofNat x, Int64.ofNat y) = some (Int64.ofNat (Nat.gcd x y)) := by
  intro f
  induction f with
  | zero => intro x y h1 h2; omega
  | succ f ih =>
    intro x y h1 h2 hf N hN
    have big : (2 : Nat) ^ (f + 1) ≤ 2 ^ 41 := Nat.pow_le_pow_right (by omega) hf
    have hx : x < 2 ^ 62 := by omega
    have hy : y < 2 ^ 62 := by omega
    have stopC : ∀ (x N : Nat), 1 ≤ N → zx_lp N (fun s : Int64 × Int64 => b_M_commonOf_l6 s.1 s.2 m) (Int64.ofNat x, Int64.ofNat 0) = some (Int64.ofNat x) := by
      intro x N hN
      obtain ⟨N1, rfl⟩ : ∃ N1, N = N1 + 1 := ⟨N - 1, by omega⟩
      refine zj_lpE ?_
      show b_M_commonOf_l6 (Int64.ofNat x) (Int64.ofNat 0) m = _
      unfold b_M_commonOf_l6
      rw [if_pos ((zg_pos (show 0 < 2 ^ 62 by omega)).2.2.1.mpr rfl)]
    have stepC : ∀ (x y N : Nat), x < 2 ^ 62 → y < 2 ^ 62 → 0 < y → zx_lp (N + 1) (fun s : Int64 × Int64 => b_M_commonOf_l6 s.1 s.2 m) (Int64.ofNat x, Int64.ofNat y) = zx_lp N (fun s : Int64 × Int64 => b_M_commonOf_l6 s.1 s.2 m) (Int64.ofNat y, Int64.ofNat (x % y)) := by
      intro x y N hx hy h0
      refine zj_lpS ?_
      show b_M_commonOf_l6 (Int64.ofNat x) (Int64.ofNat y) m = _
      obtain ⟨-, -, p3, p4⟩ := zg_pos hy
      unfold b_M_commonOf_l6
      rw [if_neg (fun h => by have := p3.mp h; omega), if_neg (fun h => by have := p4.mp h; omega), zm_let, zg_remL hx hy]
    by_cases h0 : y = 0
    · subst h0
      rw [Nat.gcd_zero_right]
      exact stopC x N (by omega)
    · obtain ⟨N1, rfl⟩ : ∃ N1, N = N1 + 1 + 1 := ⟨N - 2, by omega⟩
      rw [stepC x y (N1 + 1) hx hy (by omega), zg_gcd x y]
      have hm : x % y < y := Nat.mod_lt x (by omega)
      by_cases h3 : x % y = 0
      · rw [h3, Nat.gcd_zero_right]
        exact stopC y (N1 + 1) (by omega)
      · rw [stepC y (x % y) N1 hy (by omega) (by omega), zg_gcd y (x % y)]
        have hm2 : y % (x % y) < x % y := Nat.mod_lt y (by omega)
        have half : x % y < 2 ^ f := by
          have d1 := Nat.mod_add_div x y
          have d2 : y * (x / y) ≥ y := Nat.le_mul_of_pos_right y (Nat.div_pos (by omega) (by omega))
          have : (2 : Nat) ^ (f + 1) = 2 * 2 ^ f := by rw [Nat.pow_succ]; omega
          omega
        exact ih (x % y) (y % (x % y)) hm2 half (by omega) N1 (by omega)
/-- both in lowest terms -/
theorem zg_low {A B : Nat} (hA : A < 2 ^ 40) (hB : B < 2 ^ 40) (h0 : 0 < B) {p : Int32} (hp : p = 0 ∨ p = 1) (c m : zx_M) : ∃ r, f_C_lowest (Int64.ofNat A) (Int64.ofNat B) p c = some r ∧ f_M_partOf (Int64.ofNat A) (Int64.ofNat B) p m = some r := by
  have hg0 : 0 < Nat.gcd A B := Nat.gcd_pos_of_pos_right A h0
  have hgl : Nat.gcd A B ≤ B := Nat.gcd_le_right A h0
  have zN : zx_N = 100000 := rfl
  have lc : l_C_lowest_l9 (Int64.ofNat A) (Int64.ofNat B) p c (Int64.ofNat A, Int64.ofNat B, 0) = some (Int64.ofNat (Nat.gcd A B)) := by
    unfold l_C_lowest_l9
    obtain ⟨N1, hN⟩ : ∃ N1, zx_N = N1 + 1 := ⟨99999, by omega⟩
    have step : b_C_lowest_l9 (Int64.ofNat A) (Int64.ofNat B) p (Int64.ofNat A) (Int64.ofNat B) 0 c = some (.inl (Int64.ofNat B, Int64.ofNat (A % B), Int32.ofNat 1)) := by
      obtain ⟨p1, -, -, p4⟩ := zg_pos (show B < 2 ^ 62 by omega)
      unfold b_C_lowest_l9
      rw [if_neg (by decide), if_neg (fun h => by have := p1.mp h; omega), if_neg (fun h => by have := p4.mp h; omega), zm_let, zm_let, zg_remL (by omega) (by omega)]
      rfl
    rw [hN, zj_lpS (show (fun s : Int64 × Int64 × Int32 => b_C_lowest_l9 (Int64.ofNat A) (Int64.ofNat B) p s.1 s.2.1 s.2.2 c) (Int64.ofNat A, Int64.ofNat B, 0) = _ from step), zg_gcd A B]
    exact zg_euC 40 B (A % B) (Nat.mod_lt A h0) hB (by omega) 1 N1 (by omega) (by omega)
  obtain ⟨-, q2, -, q4⟩ := zg_pos (show Nat.gcd A B < 2 ^ 62 by omega)
  have ng : ¬ Int64.ofNat (Nat.gcd A B) = 0 := fun h => by have := q4.mp h; omega
  unfold f_C_lowest f_M_partOf n_C_lowest_n45
  rw [lc, zm_bs, zm_let, if_pos (q2.mpr (by omega))]
  obtain ⟨-, -, r3, -⟩ := zg_pos (show A < 2 ^ 62 by omega)
  by_cases e : A = 0
  · subst e
    have a0 : ¬ ¬ lg_cmp (Int64.ofNat 0) 0 = 0 := fun h => h (r3.mpr rfl)
    rw [Nat.gcd_zero_left] at ng ⊢
    rcases hp with rfl | rfl
    · simp only [not_true_eq_false, ↓reduceIte, if_neg ng, if_neg a0]
      refine ⟨_, rfl, ?_⟩
      rw [zg_divL (by omega) (by omega), Nat.zero_div]
      rfl
    · have z1 : ¬ (1 : Int32) = 0 := by decide
      simp only [if_pos z1, if_neg ng, if_neg a0]
      refine ⟨_, rfl, ?_⟩
      rw [zg_divL (by omega) (by omega), Nat.div_self h0]
      rfl
  · have lm : f_M_commonOf (Int64.ofNat B) (Int64.ofNat A) m = some (Int64.ofNat (Nat.gcd A B)) := by
      have key : l_M_commonOf_l6 m (Int64.ofNat B, Int64.ofNat A) = some (Int64.ofNat (Nat.gcd A B)) := by
        unfold l_M_commonOf_l6
        obtain ⟨N1, hN⟩ : ∃ N1, zx_N = N1 + 1 := ⟨99999, by omega⟩
        have step : b_M_commonOf_l6 (Int64.ofNat B) (Int64.ofNat A) m = some (.inl (Int64.ofNat A, Int64.ofNat (B % A))) := by
          obtain ⟨-, -, p3, p4⟩ := zg_pos (show A < 2 ^ 62 by omega)
          unfold b_M_commonOf_l6
          rw [if_neg (fun h => by have := p3.mp h; omega), if_neg (fun h => by have := p4.mp h; omega), zm_let, zg_remL (by omega) (by omega)]
        rw [hN, zj_lpS (show (fun s : Int64 × Int64 => b_M_commonOf_l6 s.1 s.2 m) (Int64.ofNat B, Int64.ofNat A) = _ from step), Nat.gcd_comm A B, zg_gcd B A]
        exact zg_euM 40 A (B % A) (Nat.mod_lt B (by omega)) hA (by omega) N1 (by omega)
      unfold f_M_commonOf
      rw [key, zm_bs, zm_let]
    have a0 : ¬ lg_cmp (Int64.ofNat A) 0 = 0 := fun h => by have := r3.mp h; omega
    by_cases f : p = 0
    · have f' : ¬ ¬ p = 0 := fun h => h f
      simp only [if_pos a0, lm, zm_bs, if_neg ng, if_neg f']
      exact ⟨_, rfl, rfl⟩
    · simp only [if_pos a0, lm, zm_bs, if_neg ng, if_pos f]
      exact ⟨_, rfl, rfl⟩
/-! a power, a product of twelfths -/
theorem zg_power {b t : Nat} (ht : t ≤ 1000) (c : zx_M) : f_Order_power (Int32.ofNat b) (Int32.ofNat t) c = some (Int32.ofNat (b ^ t)) := by
  have key : ∀ (j i : Nat), i + j = t → ∀ N, j + 1 ≤ N → zx_lp N (fun s : Int32 × Int32 => b_Order_power_l4 (Int32.ofNat b) (Int32.ofNat t) s.1 s.2 c) (Int32.ofNat (b ^ i), Int32.ofNat i) = some (Int32.ofNat (b ^ t)) := by
    intro j
    induction j with
    | zero =>
      intro i hi N hN
      obtain ⟨N1, rfl⟩ : ∃ N1, N = N1 + 1 := ⟨N - 1, by omega⟩
      have e : i = t := by omega
      subst e
      refine zj_lpE ?_
      show b_Order_power_l4 (Int32.ofNat b) (Int32.ofNat i) (Int32.ofNat (b ^ i)) (Int32.ofNat i) c = _
      unfold b_Order_power_l4
      rw [if_pos (Int32.le_refl _)]
    | succ j ih =>
      intro i hi N hN
      obtain ⟨N1, rfl⟩ : ∃ N1, N = N1 + 1 := ⟨N - 1, by omega⟩
      have g1 : ¬ Int32.ofNat t ≤ Int32.ofNat i := by grind [zm_g]
      have hb : b_Order_power_l4 (Int32.ofNat b) (Int32.ofNat t) (Int32.ofNat (b ^ i)) (Int32.ofNat i) c = some (.inl (Int32.ofNat (b ^ (i + 1)), Int32.ofNat (i + 1))) := by
        unfold b_Order_power_l4
        rw [if_neg g1, zm_let, zm_let, ← Int32.ofNat_mul, ← Nat.pow_succ, show Int32.ofNat i + 1 = Int32.ofNat (i + 1) by simp]
      rw [zj_lpS (show (fun s : Int32 × Int32 => b_Order_power_l4 (Int32.ofNat b) (Int32.ofNat t) s.1 s.2 c) (Int32.ofNat (b ^ i), Int32.ofNat i) = _ from hb)]
      exact ih (i + 1) (by omega) N1 (by omega)
  have k := key t 0 (by omega) zx_N (by have : zx_N = 100000 := rfl; omega)
  have k' : l_Order_power_l4 (Int32.ofNat b) (Int32.ofNat t) c (1, 0) = some (Int32.ofNat (b ^ t)) := k
  unfold f_Order_power
  rw [k', zm_bs, zm_let]
def zg_P (w : Nat → Nat) : Nat → Nat
  | 0 => 1
  | k + 1 => zg_P w k * w k
theorem zg_Ple {w : Nat → Nat} : ∀ k : Nat, (∀ i < k, w i ≤ 12) → zg_P w k ≤ 12 ^ k := by
  intro k
  induction k with
  | zero => intro _; exact Nat.le_refl _
  | succ k ih =>
    intro h
    show zg_P w k * w k ≤ 12 ^ (k + 1)
    rw [Nat.pow_succ]
    exact Nat.mul_le_mul (ih (fun i hi => h i (by omega))) (h k (by omega))
theorem zg_12 {k : Nat} (h : k ≤ 7) : 12 ^ k ≤ 12 ^ 7 := Nat.pow_le_pow_right (by omega) h
theorem zg_mulL (a : Nat) {b : Nat} (h : b < 2 ^ 31) : Int64.ofNat a * (Int32.ofNat b).toInt64 = Int64.ofNat (a * b) := by
  rw [zg_cast h, ← Int64.ofNat_mul]
/-- who sticks how often, as whole numbers -/
theorem zg_stick {c m : zx_M} {n J : Nat} {g : Nat → Nat} (W : zo_W c m n J g) : ∃ st : Nat → Nat, ∀ k < n, st k ≤ 12 ∧ m.1 1 (21 + g k) = Int32.ofNat (st k) ∧ f_C_sticksOf (Int32.ofNat k) c = some (Int32.ofNat (st k)) ∧ f_M_ofJumper (m.1 8 k) 3 m = some (Int32.ofNat (st k)) ∧ 12 - Int32.ofNat (st k) = Int32.ofNat (12 - st k) := by
  refine ⟨fun k => (m.1 1 (21 + g k)).toNatClampNeg, fun k hk => ?_⟩
  obtain ⟨s1, s2⟩ := zd_sticks W hk
  obtain ⟨⟨⟨-, ⟨r1, -⟩, -, -⟩, -⟩, hn7, hJ7, r3, r4, r5, r6, r7, r8, r9⟩ := id W
  have gk := (r7 k hk).1
  have rr := (r1 (g k) (by omega) (by rw [r6]; grind [zm_g])).2.2.2
  obtain ⟨q, hq, he⟩ := zm_in (v := m.1 1 (21 + g k)) (n := 13) (by omega) (by grind) (by grind)
  have tn : (m.1 1 (21 + g k)).toNatClampNeg = q := by rw [he]; exact Int32.toNatClampNeg_ofNat_of_lt (by omega)
  dsimp only
  rw [tn, s1, s2, he]
  refine ⟨by omega, rfl, rfl, rfl, ?_⟩
  have := zm_g (k := q) (by omega)
  have := zm_g (k := 12 - q) (by omega)
  grind
/-! sure -/
theorem t_sure {c m : zx_M} (H : zm_R zq_V c m) (v w : Int32) : zm_ok zq_V (f_C_sure v w) (f_M_sure v w) c m := by
  have z1 : ¬ ((1 : Int32) = 0) := by decide
  have z2 : ¬ ¬ ((0 : Int32) = 0) := fun h => h rfl
  have z3 : ¬ ¬ ((1 : Int32) = 1) := fun h => h rfl
  unfold zm_ok f_C_sure f_M_sure
  rcases zo_isPart w with ⟨hp, hx⟩ | hp
  rotate_left
  · obtain ⟨r0, hr0⟩ := zo_bad1 H v
    simp only [(hp c m).1, (hp c m).2, zm_bs, ↓reduceIte, hr0, if_neg z2]
    by_cases q : r0 = 1
    · have q' : ¬ ¬ r0 = 1 := fun h => h q
      simp only [if_neg q']
      exact zm_e3 rfl rfl rfl H
    · simp only [if_pos q]
      exact zm_e3 rfl rfl rfl H
  simp only [(hp c m).1, (hp c m).2, zm_bs, if_neg z1, if_pos z1]
  rcases zo_read H v 1 with ⟨c1, m1, n, J, g, d, s, e1, e2, e3, e4, e5, W, e7, -⟩ | ⟨r, e1, e2, hr⟩
  rotate_left
  · simp only [e1, e2, zm_bs, if_neg (zo_rNeg hr).1, if_pos (zo_rNeg hr).2.1]
    exact zm_e3 rfl rfl rfl H
  obtain ⟨st, hst⟩ := zg_stick W
  have n7 := W.2.1
  have rc := W.2.2.2.1
  have rm := W.2.2.2.2.1
  have kC : ∀ (j i : Nat), i + j = n → ∀ N, j + 1 ≤ N → zx_lp N (fun s : Int64 × Int32 => b_C_sure_l24 w s.1 s.2 c1) (Int64.ofNat (zg_P (fun k => 12 - st k) i), Int32.ofNat i) = some (Int64.ofNat (zg_P (fun k => 12 - st k) n)) := by
    intro j
    induction j with
    | zero =>
      intro i hi N hN
      obtain ⟨N1, rfl⟩ : ∃ N1, N = N1 + 1 := ⟨N - 1, by omega⟩
      have e : i = n := by omega
      subst e
      refine zj_lpE ?_
      show b_C_sure_l24 w _ (Int32.ofNat i) c1 = _
      unfold b_C_sure_l24 f_Order_size
      rw [zm_bs, rc, if_pos (Int32.le_refl _)]
    | succ j ih =>
      intro i hi N hN
      obtain ⟨N1, rfl⟩ : ∃ N1, N = N1 + 1 := ⟨N - 1, by omega⟩
      have g1 : ¬ Int32.ofNat n ≤ Int32.ofNat i := by grind [zm_g]
      obtain ⟨q1, q2, q3, q4, q5⟩ := hst i (by omega)
      have hb : b_C_sure_l24 w (Int64.ofNat (zg_P (fun k => 12 - st k) i)) (Int32.ofNat i) c1 = some (.inl (Int64.ofNat (zg_P (fun k => 12 - st k) (i + 1)), Int32.ofNat (i + 1))) := by
        unfold b_C_sure_l24 f_Order_size
        rw [zm_bs, rc, if_neg g1, q3, zm_bs, zm_let, zm_let, q5, zg_mulL _ (by omega), show Int32.ofNat i + 1 = Int32.ofNat (i + 1) by simp]
        rfl
      rw [zj_lpS (show (fun s : Int64 × Int32 => b_C_sure_l24 w s.1 s.2 c1) (_, Int32.ofNat i) = _ from hb)]
      exact ih (i + 1) (by omega) N1 (by omega)
  have kM : ∀ (j i : Nat), i + j = n → ∀ N, j + 1 ≤ N → zx_lp N (fun s : Int64 × Int64 × Int32 => b_M_sure_l38 w s.1 s.2.1 s.2.2 m1) (Int64.ofNat (zg_P (fun k => 12 - st k) i), Int64.ofNat (12 ^ i), Int32.ofNat i) = some (Int64.ofNat (zg_P (fun k => 12 - st k) n), Int64.ofNat (12 ^ n)) := by
    intro j
    induction j with
    | zero =>
      intro i hi N hN
      obtain ⟨N1, rfl⟩ : ∃ N1, N = N1 + 1 := ⟨N - 1, by omega⟩
      have e : i = n := by omega
      subst e
      refine zj_lpE ?_
      show b_M_sure_l38 w _ _ (Int32.ofNat i) m1 = _
      unfold b_M_sure_l38
      rw [rm, if_pos (Int32.le_refl _)]
    | succ j ih =>
      intro i hi N hN
      obtain ⟨N1, rfl⟩ : ∃ N1, N = N1 + 1 := ⟨N - 1, by omega⟩
      have g1 : ¬ Int32.ofNat n ≤ Int32.ofNat i := by grind [zm_g]
      obtain ⟨q1, q2, q3, q4, q5⟩ := hst i (by omega)
      have h12 : Int64.ofNat (12 ^ i) * 12 = Int64.ofNat (12 ^ (i + 1)) := by
        rw [Nat.pow_succ, Int64.ofNat_mul]
        rfl
      have hb : b_M_sure_l38 w (Int64.ofNat (zg_P (fun k => 12 - st k) i)) (Int64.ofNat (12 ^ i)) (Int32.ofNat i) m1 = some (.inl (Int64.ofNat (zg_P (fun k => 12 - st k) (i + 1)), Int64.ofNat (12 ^ (i + 1)), Int32.ofNat (i + 1))) := by
        unfold b_M_sure_l38
        rw [rm, if_neg g1, zm_ix (by omega) (by omega), zm_bs, q4, zm_bs, zm_let, zm_let, zm_let, q5, zg_mulL _ (by omega), h12, show Int32.ofNat i + 1 = Int32.ofNat (i + 1) by simp]
        rfl
      rw [zj_lpS (show (fun s : Int64 × Int64 × Int32 => b_M_sure_l38 w s.1 s.2.1 s.2.2 m1) (_, _, Int32.ofNat i) = _ from hb)]
      exact ih (i + 1) (by omega) N1 (by omega)
  have kC' : l_C_sure_l24 w c1 (1, 0) = _ := kC n 0 (by omega) zx_N (by have : zx_N = 100000 := rfl; omega)
  have kM' : l_M_sure_l38 w m1 (1, 1, 0) = _ := kM n 0 (by omega) zx_N (by have : zx_N = 100000 := rfl; omega)
  have hle := zg_Ple (w := fun k => 12 - st k) n (fun i _ => by show 12 - st i ≤ 12; omega)
  have h7 := zg_12 n7
  have e12 : (12 : Nat) ^ 7 = 35831808 := by decide
  have hpos : 0 < 12 ^ n := Nat.pow_pos (by omega)
  obtain ⟨r, r1, r2⟩ := zg_low (A := zg_P (fun k => 12 - st k) n) (B := 12 ^ n) (by omega) (by omega) hpos hx c1 m1
  have pw : f_Order_power 12 (Int32.ofNat n) c1 = some (Int32.ofNat (12 ^ n)) := zg_power (b := 12) (by omega) c1
  unfold f_Order_size
  simp only [e1, e2, e3, zm_bs, ↓reduceIte, if_neg z3, kC', kM', zm_let, rc, pw, zg_cast (show 12 ^ n < 2 ^ 31 by omega), r1, r2]
  exact zm_e3 rfl rfl rfl W.1
