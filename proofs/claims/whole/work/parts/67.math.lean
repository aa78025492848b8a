/-! whole numbers divided -/
theorem zg_divN {a b : Nat} (ha : a < 2 ^ 31) (hb : b < 2 ^ 31) : Int32.ofNat a / Int32.ofNat b = Int32.ofNat (a / b) := by
  apply Int32.toInt_inj.mp
  have hq : a / b ≤ a := Nat.div_le_self a b
  rw [Int32.toInt_div, Int32.toInt_ofNat_of_lt (by omega), Int32.toInt_ofNat_of_lt (by omega), Int32.toInt_ofNat_of_lt (by omega), Int.tdiv_eq_ediv_of_nonneg (by omega), ← Int.natCast_ediv]
  generalize a / b = q at *
  rw [Int.bmod_def]
  omega
theorem zg_remN {a b : Nat} (ha : a < 2 ^ 31) (hb : b < 2 ^ 31) : zx_rem (Int32.ofNat a) (Int32.ofNat b) = Int32.ofNat (a % b) := by
  unfold zx_rem
  rw [zg_divN ha hb]
  have h1 : Int32.ofNat a = Int32.ofNat (a % b) + Int32.ofNat (a / b) * Int32.ofNat b := by
    rw [← Int32.ofNat_mul, ← Int32.ofNat_add, Nat.mul_comm, Nat.mod_add_div]
  rw [h1]
  grind
theorem zg_lt64 {n : Nat} (h : n < 2 ^ 63) : (Int64.ofNat n).toInt = n := Int64.toInt_ofNat_of_lt h
theorem zg_divL {a b : Nat} (ha : a < 2 ^ 62) (hb : b < 2 ^ 62) : Int64.ofNat a / Int64.ofNat b = Int64.ofNat (a / b) := by
  apply Int64.toInt_inj.mp
  have hq : a / b ≤ a := Nat.div_le_self a b
  rw [Int64.toInt_div, zg_lt64 (by omega), zg_lt64 (by omega), zg_lt64 (by omega), Int.tdiv_eq_ediv_of_nonneg (by omega), ← Int.natCast_ediv]
  generalize a / b = q at *
  rw [Int.bmod_def]
  omega
theorem zg_remL {a b : Nat} (ha : a < 2 ^ 62) (hb : b < 2 ^ 62) : zx_reml (Int64.ofNat a) (Int64.ofNat b) = Int64.ofNat (a % b) := by
  unfold zx_reml
  rw [zg_divL ha hb]
  have h1 : Int64.ofNat a = Int64.ofNat (a % b) + Int64.ofNat (a / b) * Int64.ofNat b := by
    rw [← Int64.ofNat_mul, ← Int64.ofNat_add, Nat.mul_comm, Nat.mod_add_div]
  rw [h1]
  grind
/-! drawn -/
theorem zd_sticks {c m : zx_M} {n J k : Nat} {g : Nat → Nat} (W : zo_W c m n J g) (hk : k < n) : f_C_sticksOf (Int32.ofNat k) c = some (m.1 1 (21 + g k)) ∧ f_M_ofJumper (m.1 8 k) 3 m = some (m.1 1 (21 + g k)) := by
  obtain ⟨⟨⟨-, -, -, h3⟩, -⟩, hn7, hJ7, r3, r4, r5, r6, r7, r8, r9⟩ := W
  obtain ⟨q1, q2, q3, q4⟩ := r7 k hk
  have g7 : g k < 7 := by omega
  constructor
  · have t : f_Numbers_told (Int32.ofNat (g k)) 3 c = _ := zm_told_j (j := g k) (w := 3) g7 (by omega) rfl rfl
    unfold f_C_sticksOf
    rw [zo_at hn7 r3 hk, zm_bs, q2, t, zm_bs, h3 (g k) g7 3 (by omega)]
  · have e : 7 * (3 : Int32) + Int32.ofNat (g k) = Int32.ofNat (21 + g k) := by
      have := zm_g (k := g k) (by omega)
      have := zm_g (k := 21 + g k) (by omega)
      grind
    unfold f_M_ofJumper
    rw [q3, e, zm_ix (by omega) (by omega), zm_bs]
theorem zs_late_congr {S S' : Nat} {sec : Int32} : ∀ i : Nat, (∀ j < i, Nat.testBit S j = Nat.testBit S' j) → zs_late S sec i = zs_late S' sec i := by
  intro i
  induction i with
  | zero => intro _; rfl
  | succ i ih =>
    intro h
    show zs_late S sec i + (if Nat.testBit S i then sec else 0) = zs_late S' sec i + (if Nat.testBit S' i then sec else 0)
    rw [ih (fun j hj => h j (by omega)), h i (by omega)]
theorem zs_se_congr {cnt : Int32} {S S' : Nat} {sec : Int32} {i : Nat} (h : ∀ j ≤ i, Nat.testBit S j = Nat.testBit S' j) : zs_se cnt S sec i = zs_se cnt S' sec i := by
  unfold zs_se
  rw [zs_late_congr (i + 1) (fun j hj => h j (by omega))]
theorem zd_inner {c m : zx_M} {n J : Nat} {g : Nat → Nat} (W : zo_W c m n J g) (v3 v4 v5 v8 v9 v10 w6 w7 w8 z : Int32) : ∃ z' S m', l_C_drawn_lb72_85 v3 v4 v5 v8 v9 v10 c (z, 0, 0) = some (z', Int32.ofNat S) ∧ l_M_drawn_lb86_102 v3 v4 w6 w7 w8 (z, 0, 0, m) = some (z', m') ∧ S < 128 ∧ zo_W c m' n J g ∧ (∀ k < n, m'.1 9 k = zs_se (zx_rem v3 100) S 5 k) ∧ m'.1 0 = m.1 0 ∧ m'.1 1 = m.1 1 ∧ m'.1 11 = m.1 11 := by
  have n7 := W.2.1
  have rc := W.2.2.2.1
  have key : ∀ (j k : Nat), k + j = n → ∀ (z : Int32) (S : Nat) (x : zx_M), S < 128 → (∀ i, k ≤ i → Nat.testBit S i = false) → zo_W c x n J g → (∀ i < k, x.1 9 i = zs_se (zx_rem v3 100) S 5 i) → x.1 0 = m.1 0 → x.1 1 = m.1 1 → x.1 11 = m.1 11 → ∀ N, j + 1 ≤ N → ∃ z' S' m', zx_lp N (fun s : Int32 × Int32 × Int32 => b_C_drawn_lb72_85 v3 v4 v5 s.1 v8 v9 v10 s.2.1 s.2.2 c) (z, Int32.ofNat S, Int32.ofNat k) = some (z', Int32.ofNat S') ∧ zx_lp N (fun s : Int32 × Int32 × Int32 × zx_M => b_M_drawn_lb86_102 v3 v4 s.1 w6 w7 w8 s.2.1 s.2.2.1 s.2.2.2) (z, zs_late S 5 k, Int32.ofNat k, x) = some (z', m') ∧ S' < 128 ∧ zo_W c m' n J g ∧ (∀ i < n, m'.1 9 i = zs_se (zx_rem v3 100) S' 5 i) ∧ m'.1 0 = m.1 0 ∧ m'.1 1 = m.1 1 ∧ m'.1 11 = m.1 11 := by
    intro j
    induction j with
    | zero =>
      intro k hk z S x hS hb Wx hw h0 h1 h11 N hN
      obtain ⟨N1, rfl⟩ : ∃ N1, N = N1 + 1 := ⟨N - 1, by omega⟩
      have e : k = n := by omega
      subst e
      refine ⟨z, S, x, zj_lpE ?_, zj_lpE ?_, hS, Wx, hw, h0, h1, h11⟩
      · show b_C_drawn_lb72_85 v3 v4 v5 z v8 v9 v10 (Int32.ofNat S) (Int32.ofNat k) c = _
        unfold b_C_drawn_lb72_85 f_Order_size
        rw [zm_bs, rc, if_pos (Int32.le_refl _)]
      · show b_M_drawn_lb86_102 v3 v4 z w6 w7 w8 (zs_late S 5 k) (Int32.ofNat k) x = _
        unfold b_M_drawn_lb86_102
        rw [Wx.2.2.2.2.1, if_pos (Int32.le_refl _)]
    | succ j ih =>
      intro k hk z S x hS hb Wx hw h0 h1 h11 N hN
      obtain ⟨N1, rfl⟩ : ∃ N1, N = N1 + 1 := ⟨N - 1, by omega⟩
      have hk7 : k < 7 := by omega
      have g1 : ¬ Int32.ofNat n ≤ Int32.ofNat k := by grind [zm_g]
      have a1 : Int32.ofNat k + 1 = Int32.ofNat (k + 1) := by simp
      obtain ⟨s1, s2⟩ := zd_sticks Wx (show k < n by omega)
      obtain ⟨-, b2, b3⟩ := zo_bit S hS k hk7
      -- what comes after with such bits
      have go : ∀ (z2 : Int32) (S2 : Nat), S2 < 128 → (∀ i, i < k → Nat.testBit S2 i = Nat.testBit S i) → (∀ i, k + 1 ≤ i → Nat.testBit S2 i = false) → b_C_drawn_lb72_85 v3 v4 v5 z v8 v9 v10 (Int32.ofNat S) (Int32.ofNat k) c = some (.inl (z2, Int32.ofNat S2, Int32.ofNat (k + 1))) → b_M_drawn_lb86_102 v3 v4 z w6 w7 w8 (zs_late S 5 k) (Int32.ofNat k) x = some (.inl (z2, zs_late S2 5 (k + 1), Int32.ofNat (k + 1), zx_u1 x 9 k (zx_rem v3 100 * Int32.ofNat k + zs_late S2 5 (k + 1)))) → ∃ z' S' m', zx_lp (N1 + 1) (fun s : Int32 × Int32 × Int32 => b_C_drawn_lb72_85 v3 v4 v5 s.1 v8 v9 v10 s.2.1 s.2.2 c) (z, Int32.ofNat S, Int32.ofNat k) = some (z', Int32.ofNat S') ∧ zx_lp (N1 + 1) (fun s : Int32 × Int32 × Int32 × zx_M => b_M_drawn_lb86_102 v3 v4 s.1 w6 w7 w8 s.2.1 s.2.2.1 s.2.2.2) (z, zs_late S 5 k, Int32.ofNat k, x) = some (z', m') ∧ S' < 128 ∧ zo_W c m' n J g ∧ (∀ i < n, m'.1 9 i = zs_se (zx_rem v3 100) S' 5 i) ∧ m'.1 0 = m.1 0 ∧ m'.1 1 = m.1 1 ∧ m'.1 11 = m.1 11 := by
        intro z2 S2 hS2 hlo hhi hC hM
        obtain ⟨z', S', m', y1, y2, y3⟩ := ih (k + 1) (by omega) z2 S2 (zx_u1 x 9 k (zx_rem v3 100 * Int32.ofNat k + zs_late S2 5 (k + 1))) hS2 hhi (zo_WM Wx (by rw [zm_u12]) (fun r _ r9 _ => by rw [zm_u11, if_neg r9]) (fun q _ _ => by rw [zm_u11, if_neg (by omega)])) (fun i hi => by
          rw [zm_u11, if_pos rfl, zm_upd]
          by_cases f : i = k
          · rw [if_pos f, f]
            unfold zs_se
            congr 1
            grind
          · rw [if_neg f, hw i (by omega)]
            exact zs_se_congr (fun j hj => (hlo j (by omega)).symm)) (by rw [zm_u11, if_neg (by omega)]; exact h0) (by rw [zm_u11, if_neg (by omega)]; exact h1) (by rw [zm_u11, if_neg (by omega)]; exact h11) N1 (by omega)
        refine ⟨z', S', m', ?_, ?_, y3⟩
        · rw [zj_lpS (show (fun s : Int32 × Int32 × Int32 => b_C_drawn_lb72_85 v3 v4 v5 s.1 v8 v9 v10 s.2.1 s.2.2 c) (z, Int32.ofNat S, Int32.ofNat k) = _ from hC)]; exact y1
        · rw [zj_lpS (show (fun s : Int32 × Int32 × Int32 × zx_M => b_M_drawn_lb86_102 v3 v4 s.1 w6 w7 w8 s.2.1 s.2.2.1 s.2.2.2) (z, zs_late S 5 k, Int32.ofNat k, x) = _ from hM)]; exact y2
      by_cases q : x.1 1 (21 + g k) ≤ zx_rem (zx_ushr (z * 1103515245 + 12345) 8) 12
      · refine go (z * 1103515245 + 12345) S hS (fun _ _ => rfl) (fun i hi => hb i (by omega)) ?_ ?_
        · unfold b_C_drawn_lb72_85 n_C_drawn_b72_b85_135 f_Order_size
          simp only [zm_bs, rc, if_neg g1, zm_let, s1, if_pos q, a1]
        · have e : zs_late S 5 (k + 1) = zs_late S 5 k + 0 := by
            show zs_late S 5 k + (if Nat.testBit S k then 5 else 0) = _
            rw [hb k (Nat.le_refl k)]
            rfl
          unfold b_M_drawn_lb86_102 n_M_drawn_b86_b102_153
          simp only [Wx.2.2.2.2.1, if_neg g1, zm_let, zm_ix hk7 (by omega), zm_bs, s2, if_pos q, a1, e]
      · refine go (z * 1103515245 + 12345) (S ||| 2 ^ k) b3 (fun i hi => ?_) (fun i hi => ?_) ?_ ?_
        · rw [Nat.testBit_or, Nat.testBit_two_pow]
          have : ¬ k = i := by omega
          simp [this]
        · rw [Nat.testBit_or, Nat.testBit_two_pow, hb i (by omega)]
          have : ¬ k = i := by omega
          simp [this]
        · unfold b_C_drawn_lb72_85 n_C_drawn_b72_b85_135 f_Order_size
          simp only [zm_bs, rc, if_neg g1, zm_let, s1, if_neg q, a1, b2]
        · have e : zs_late (S ||| 2 ^ k) 5 (k + 1) = zs_late S 5 k + 5 := by
            show zs_late (S ||| 2 ^ k) 5 k + (if Nat.testBit (S ||| 2 ^ k) k then 5 else 0) = _
            rw [zs_late_congr (S' := S) k (fun j hj => by
              rw [Nat.testBit_or, Nat.testBit_two_pow]
              have : ¬ k = j := by omega
              simp [this]), Nat.testBit_or, Nat.testBit_two_pow]
            simp
          unfold b_M_drawn_lb86_102 n_M_drawn_b86_b102_153
          simp only [Wx.2.2.2.2.1, if_neg g1, zm_let, zm_ix hk7 (by omega), zm_bs, s2, if_neg q, a1, e]
  exact key n 0 (by omega) z 0 m (by omega) (fun i _ => Nat.zero_testBit i) W (fun i hi => absurd hi (by omega)) rfl rfl rfl zx_N (by have : zx_N = 100000 := rfl; omega)
theorem t_drawn {c m : zx_M} (H : zm_R zq_V c m) (v w x y : Int32) : zm_ok zq_V (f_C_drawn v w x y) (f_M_drawn v w x y) c m := by
  have z1 : ¬ ((1 : Int32) = 0) := by decide
  have z2 : ¬ ¬ ((0 : Int32) = 0) := fun h => h rfl
  have z4 : ¬ ((1 : Int32) = -1) := by decide
  have z5 : (0 : Int32) ≤ 1 := by decide
  have ewi : ∀ m : zx_M, f_M_within (y / 10).toInt64 1 20 m = some (if 1 ≤ y / 10 ∧ y / 10 ≤ 20 then 1 else 0) := fun m => zm_within (y / 10) 1 20 m
  have hrem : ¬ y < 0 → 0 ≤ zx_rem y 10 := by
    intro h
    obtain ⟨k, hk, rfl⟩ := zm_ex (v := y) (Int32.not_lt.mp h)
    have : zx_rem (Int32.ofNat k) 10 = Int32.ofNat (k % 10) := zg_remN (b := 10) hk (by omega)
    rw [this]
    exact Int32.not_lt.mp (zm_nn (by omega))
  unfold zm_ok f_C_drawn f_M_drawn
  obtain ⟨r0, hr0⟩ := zo_bad1 H v
  by_cases hbad : (∀ c m : zx_M, f_C_isSpotAndCount x c = some 1 ∧ f_M_isYc x m = some 1) ∧ ¬ y < 0 ∧ (1 ≤ y / 10 ∧ y / 10 ≤ 20) ∧ zx_rem y 10 ≤ 1
  rotate_left
  · have hC : ∀ X, ((f_C_isSpotAndCount x c).bind fun r3 => if r3 = 0 then some ((-1 : Int32), c) else if y < 0 then some (-1, c) else if y / 10 < 1 then some (-1, c) else if 20 < y / 10 then some (-1, c) else (f_C_isPart (zx_rem y 10) c).bind fun r9 => if ¬ r9 = 0 then X else some (-1, c)) = some (-1, c) := by
      intro X
      rcases zo_isYc x with hy | hy
      · rw [(hy c m).1, zm_bs, if_neg z1]
        by_cases a : y < 0
        · rw [if_pos a]
        · rw [if_neg a]
          by_cases b : y / 10 < 1
          · rw [if_pos b]
          · rw [if_neg b]
            by_cases e : 20 < y / 10
            · rw [if_pos e]
            · rw [if_neg e, zm_isPartC, zm_bs]
              have : ¬ (0 ≤ zx_rem y 10 ∧ zx_rem y 10 ≤ 1) := fun h => hbad ⟨hy, a, ⟨Int32.not_lt.mp b, Int32.not_lt.mp e⟩, h.2⟩
              rw [if_neg this, if_neg z2]
      · rw [(hy c m).1, zm_bs, if_pos rfl]
    have hM : ∀ X, ((f_M_rowIs v 0 m).bind fun r2 => if r2 = -1 then some ((-1 : Int32), m) else (f_M_isYc x m).bind fun r5 => if r5 = 0 then some (-1, m) else if y < 0 then some (-1, m) else (f_M_within (y / 10).toInt64 1 20 m).bind fun r9 => if r9 = 0 then some (-1, m) else if zx_rem y 10 ≤ 1 then X else some (-1, m)) = some (-1, m) := by
      intro X
      rw [hr0, zm_bs]
      by_cases q : r0 = -1
      · rw [if_pos q]
      rw [if_neg q]
      rcases zo_isYc x with hy | hy
      · rw [(hy c m).2, zm_bs, if_neg z1]
        by_cases a : y < 0
        · rw [if_pos a]
        · rw [if_neg a, ewi, zm_bs]
          by_cases b : 1 ≤ y / 10 ∧ y / 10 ≤ 20
          · rw [if_pos b, if_neg z1]
            have : ¬ zx_rem y 10 ≤ 1 := fun h => hbad ⟨hy, a, b, h⟩
            rw [if_neg this]
          · rw [if_neg b, if_pos rfl]
      · rw [(hy c m).2, zm_bs, if_pos rfl]
    rw [zm_let, hC, hM]
    exact zm_e3 rfl rfl rfl H
  obtain ⟨hy, a, hb, hp⟩ := hbad
  have b1 : ¬ y / 10 < 1 := Int32.not_lt.mpr hb.1
  have b2 : ¬ 20 < y / 10 := Int32.not_lt.mpr hb.2
  have hp' : 0 ≤ zx_rem y 10 ∧ zx_rem y 10 ≤ 1 := ⟨hrem a, hp⟩
  simp only [zm_let, (hy c m).1, (hy c m).2, zm_bs, if_neg z1, if_pos z1, if_neg a, if_neg b1, if_neg b2, zm_isPartC, if_pos hp', ewi, if_pos hb, if_pos hp]
  rcases zo_read H v (zx_rem x 100) with ⟨c1, m1, n, J, g, d, s, e1, e2, e3, e4, e5, W, e7, -⟩ | ⟨r, e1, e2, hr⟩
  rotate_left
  · have rr := zo_rNeg hr
    simp only [e1, e2, zm_bs, if_neg rr.1, if_neg rr.2.2]
    by_cases q : r = -1
    · simp only [if_pos q]
      exact zm_e3 rfl rfl q H
    · simp only [if_neg q]
      exact zm_e3 rfl rfl rfl H
  have loop : ∃ (t t' : Int32 × Int32 × zx_M), zx_lp zx_N (fun s : Int32 × Int32 × Int32 × Int32 × zx_M => b_C_drawn_l72 x y (y / 10) s.1 s.2.1 s.2.2.1 s.2.2.2.1 s.2.2.2.2) (w, 0, 0, 0, c1) = some t ∧ zx_lp zx_N (fun s : Int32 × Int32 × Int32 × Int32 × zx_M => b_M_drawn_l86 x y s.1 s.2.1 s.2.2.1 s.2.2.2.1 s.2.2.2.2) (w, 0, 0, 0, m1) = some t' ∧ (t.1 = t'.1 ∧ t.2.1 = t'.2.1 ∧ zm_R zq_V t.2.2 t'.2.2) := by
    refine zm_lp2 (fun s : Int32 × Int32 × Int32 × Int32 × zx_M => zm_up (y / 10) s.2.2.2.1) (fun s s' : Int32 × Int32 × Int32 × Int32 × zx_M => s.1 = s'.1 ∧ s.2.1 = s'.2.1 ∧ s.2.2.1 = s'.2.2.1 ∧ s.2.2.2.1 = s'.2.2.2.1 ∧ zo_W s.2.2.2.2 s'.2.2.2.2 n J g ∧ 0 ≤ s.2.2.2.1 ∧ s.2.2.2.1 ≤ 20) (fun t t' : Int32 × Int32 × zx_M => t.1 = t'.1 ∧ t.2.1 = t'.2.1 ∧ zm_R zq_V t.2.2 t'.2.2) ?_ zx_N _ _ ⟨rfl, rfl, rfl, rfl, W, (by decide : (0 : Int32) ≤ 0), (by decide : (0 : Int32) ≤ 20)⟩ (zm_upN (by decide : (-30000 : Int32) ≤ 0) (by grind))
    rintro ⟨z, gd, wh, i, ca⟩ ⟨z', gd', wh', i', ma⟩ ⟨h1, h2, h3, h4, Wa, h5, h6⟩
    dsimp only at h1 h2 h3 h4 Wa h5 h6 ⊢
    subst h1
    subst h2
    subst h3
    subst h4
    unfold b_C_drawn_l72 b_M_drawn_l86
    by_cases e : y / 10 ≤ i
    · right
      simp only [if_pos e]
      exact ⟨_, _, rfl, rfl, rfl, rfl, Wa.1⟩
    left
    obtain ⟨z2, S, mb, k1, k2, k3, Wb, k5, k6, k7, k8⟩ := zd_inner Wa x y (y / 10) gd wh i gd wh i z
    obtain ⟨cb, l1, l2⟩ := zs_stopped (zo_WRc Wa) (q := n) (S := S) (Nat.le_refl n) k3 5 x (zs_Way Wa)
    obtain ⟨mc, u1, u2, u3⟩ := zo_goodFrom (zo_WRm Wb) (x / 100 - 999)
    have Wc := zo_WC (zo_WF Wb u2) l2
    obtain ⟨w1, w2, w3, w4, w5⟩ := zo_Wnum Wa
    have eq1 : zj_good n (mb.1 1 28) (mb.1 1 29) (mb.1 1 30) (mb.1 9) (fun k => x / 100 - 999 + zo_yd (mb.1 1 31) (mb.1 0 21) (mb.1 11) g (mb.1 9) k) = zj_good n (ca.1 2 0) (ca.1 2 1) (ca.1 2 2) (zs_se (zx_rem x 100) S 5) (fun k => x / 100 - 999 + zo_yd (ca.1 2 3) (ma.1 0 21) (ca.1 21) g (zs_se (zx_rem x 100) S 5) k) := by
      rw [k6, k7, k8, w1, w2, w3, w4]
      refine zj_good_congr k5 (fun o ho => ?_)
      congr 1
      unfold zo_yd
      have r7 := Wa.2.2.2.2.2.2.2.1
      have r8 := Wa.2.2.2.2.2.2.2.2.1
      rw [k5 o ho, r8 (g o) (r7 o ho).1]
    rw [eq1] at u1
    have mcn : mc.1 0 20 = Int32.ofNat n := by rw [u3, k6]; exact Wa.2.2.2.2.1
    have can : ca.1 19 1 = Int32.ofNat n := Wa.2.2.2.1
    have cbn : cb.1 19 1 = Int32.ofNat n := Wc.2.2.2.1
    unfold f_Order_size
    simp only [if_neg e, k1, k2, zm_bs, can, l1, cbn, zm_spotM, u1, mcn, zm_let]
    generalize Int32.ofNat (zj_good n (ca.1 2 0) (ca.1 2 1) (ca.1 2 2) (zs_se (zx_rem x 100) S 5) (fun k => x / 100 - 999 + zo_yd (ca.1 2 3) (ma.1 0 21) (ca.1 21) g (zs_se (zx_rem x 100) S 5) k)) = G
    have hi : i < y / 10 := Int32.not_le.mp e
    have hup := zm_up1 hi
    have h7 : 0 ≤ i + 1 ∧ i + 1 ≤ 20 := by grind
    unfold n_C_drawn_b72_184 n_M_drawn_b86_212
    by_cases q : G = Int32.ofNat n
    · have q' : ¬ ¬ G = Int32.ofNat n := fun h => h q
      simp only [if_neg q', zm_let]
      exact ⟨_, _, rfl, rfl, ⟨rfl, rfl, rfl, rfl, Wc, h7.1, h7.2⟩, hup⟩
    · simp only [if_pos q, zm_let]
      exact ⟨_, _, rfl, rfl, ⟨rfl, rfl, rfl, rfl, Wc, h7.1, h7.2⟩, hup⟩
  obtain ⟨⟨t1, t2, t3⟩, ⟨t1', t2', t3'⟩, k1, k2, q1, q2, q3⟩ := loop
  dsimp only at q1 q2 q3
  subst q1
  subst q2
  have k1' : l_C_drawn_l72 x y (y / 10) (w, 0, 0, 0, c1) = some (t1, t2, t3) := k1
  have k2' : l_M_drawn_l86 x y (w, 0, 0, 0, m1) = some (t1, t2, t3') := k2
  simp only [e1, e2, e3, zm_bs, ↓reduceIte, if_neg z4, if_pos z5, k1', k2']
  by_cases q : zx_rem y 10 = 0
  · have q' : ¬ ¬ zx_rem y 10 = 0 := fun h => h q
    simp only [if_neg q']
    exact zm_e3 rfl rfl rfl q3
  · simp only [if_pos q]
    exact zm_e3 rfl rfl rfl q3
