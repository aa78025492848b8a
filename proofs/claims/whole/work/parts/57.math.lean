/-! all weighed; an order read by both -/
theorem zo_weigh {J : Nat} (hJ : J ≤ 7) : ∀ (i j : Nat), j + i = J → ∀ c m : zx_M, zm_R zq_V c m → m.1 0 6 = Int32.ofNat J → c.1 1 2 = Int32.ofNat J → (∀ q < j, c.1 21 q = m.1 11 q) → ∀ N, i + 1 ≤ N → ∃ c' m', zx_lp N (fun s : Int32 × zx_M => b_C_weighAll_l2 s.1 s.2) (Int32.ofNat j, c) = some c' ∧ zx_lp N (fun s : Int32 × zx_M => b_M_asksCarried_l2 s.1 s.2) (Int32.ofNat j, m) = some m' ∧ zm_R zq_V c' m' ∧ c'.2 = c.2 ∧ (∀ r, ¬ r = 12 → ¬ r = 14 → ¬ r = 21 → c'.1 r = c.1 r) ∧ c'.1 12 2 = c.1 12 2 ∧ m'.2 = m.2 ∧ (∀ r, ¬ r = 0 → ¬ r = 7 → ¬ r = 11 → m'.1 r = m.1 r) ∧ (∀ k, k < 11 ∨ 15 < k → m'.1 0 k = m.1 0 k) ∧ ∀ q < J, c'.1 21 q = m'.1 11 q := by
  intro i
  induction i with
  | zero =>
    intro j hj c m H h6 h1 hq N hN
    obtain ⟨N1, rfl⟩ : ∃ N1, N = N1 + 1 := ⟨N - 1, by omega⟩
    have e : j = J := by omega
    subst e
    refine ⟨c, m, zj_lpE ?_, zj_lpE ?_, H, rfl, fun _ _ _ _ => rfl, rfl, rfl, fun _ _ _ _ => rfl, fun _ _ => rfl, hq⟩
    · show b_C_weighAll_l2 (Int32.ofNat j) c = _
      unfold b_C_weighAll_l2 f_Numbers_jumpersThere
      by_cases g : 7 ≤ Int32.ofNat j
      · rw [if_pos g]
      · rw [if_neg g, zm_bs, h1, if_pos (Int32.le_refl _)]
    · show b_M_asksCarried_l2 (Int32.ofNat j) m = _
      unfold b_M_asksCarried_l2
      rw [h6, if_pos (Int32.le_refl _)]
  | succ i ih =>
    intro j hj c m H h6 h1 hq N hN
    obtain ⟨N1, rfl⟩ : ∃ N1, N = N1 + 1 := ⟨N - 1, by omega⟩
    have hj7 : j < 7 := by omega
    obtain ⟨y, c1, m1, f1, f2, f3, f4, -⟩ := zm_yards H.1 H.2.2.2.1 h6 hJ (show j < J by omega)
    have g7 : ¬ 7 ≤ Int32.ofNat j := by grind [zm_g]
    have gJ : ¬ Int32.ofNat J ≤ Int32.ofNat j := by grind [zm_g]
    have a1 : Int32.ofNat j + 1 = Int32.ofNat (j + 1) := by simp
    have hc : b_C_weighAll_l2 (Int32.ofNat j) c = some (.inl (Int32.ofNat (j + 1), zx_u1 c1 21 j y)) := by
      unfold b_C_weighAll_l2 f_Numbers_jumpersThere
      simp only [if_neg g7, zm_bs, h1, if_neg gJ, f1, zm_ix hj7 (by omega), zm_let, a1]
    have hm : b_M_asksCarried_l2 (Int32.ofNat j) m = some (.inl (Int32.ofNat (j + 1), zx_u1 m1 11 j y)) := by
      unfold b_M_asksCarried_l2
      simp only [h6, if_neg gJ, f2, zm_bs, zm_ix hj7 (by omega), zm_let, a1]
    obtain ⟨p1, p2, p3⟩ := f3
    obtain ⟨q1, q2, q3⟩ := f4
    have H1 : zm_R zq_V (zx_u1 c1 21 j y) (zx_u1 m1 11 j y) := by
      refine zm_FR H ⟨by rw [zm_u12]; exact p1, fun r r1 r2 r3 r4 r5 => ?_, ?_, ?_⟩ ⟨by rw [zm_u12]; exact q1, fun r r1 r2 => ?_, fun k hk => ?_⟩
      · rw [zm_u11, if_neg (by omega)]; exact p2 r r3 r4
      · rw [zm_u11, if_neg (by omega), p2 9 (by omega) (by omega)]
      · rw [zm_u11, if_neg (by omega)]; exact p3
      · rw [zm_u11, if_neg (by omega)]; exact q2 r r1 (by omega)
      · rw [zm_u11, if_neg (by omega)]; exact q3 k (by omega)
    obtain ⟨c', m', e1, e2, e3, e4, e5, e6, e7, e8, e9, e10⟩ := ih (j + 1) (by omega) _ _ H1 (by rw [zm_u11, if_neg (by omega), q3 6 (by omega)]; exact h6) (by rw [zm_u11, if_neg (by omega), p2 1 (by omega) (by omega)]; exact h1) (fun q hq' => by
      rw [zm_u11, if_pos rfl, zm_u11, if_pos rfl, zm_upd, zm_upd]
      by_cases f : q = j
      · rw [if_pos f, if_pos f]
      · rw [if_neg f, if_neg f, p2 21 (by omega) (by omega), q2 11 (by omega) (by omega)]; exact hq q (by omega)) N1 (by omega)
    refine ⟨c', m', ?_, ?_, e3, ?_, fun r r1 r2 r3 => ?_, ?_, ?_, fun r r1 r2 r3 => ?_, fun k hk => ?_, e10⟩
    · rw [zj_lpS (show (fun s : Int32 × zx_M => b_C_weighAll_l2 s.1 s.2) (Int32.ofNat j, c) = _ from hc)]; exact e1
    · rw [zj_lpS (show (fun s : Int32 × zx_M => b_M_asksCarried_l2 s.1 s.2) (Int32.ofNat j, m) = _ from hm)]; exact e2
    · rw [e4, zm_u12, p1]
    · rw [e5 r r1 r2 r3, zm_u11, if_neg r3, p2 r r1 r2]
    · rw [e6, zm_u11, if_neg (by omega), p3]
    · rw [e7, zm_u12, q1]
    · rw [e8 r r1 r2 r3, zm_u11, if_neg r3, q2 r r1 r2]
    · rw [e9 k hk, zm_u11, if_neg (by omega), q3 k hk]
theorem zo_counts {m : zx_M} {n : Nat} (hn : n ≤ 7) (h : m.1 0 20 = Int32.ofNat n) (v : Int32) : ∃ m', f_M_counts v m = some m' ∧ m'.2 = m.2 ∧ (∀ r, ¬ r = 9 → m'.1 r = m.1 r) ∧ ∀ k < n, m'.1 9 k = v * Int32.ofNat k := by
  have key : ∃ m', l_M_counts_l2 v (0, m) = some m' ∧ m'.2 = m.2 ∧ (∀ r, ¬ r = 9 → m'.1 r = m.1 r) ∧ ∀ k < n, m'.1 9 k = v * Int32.ofNat k := by
    unfold l_M_counts_l2
    refine zm_lp1 (fun s : Int32 × zx_M => zm_up (Int32.ofNat n) s.1) (fun s => ∃ k, k ≤ n ∧ s.1 = Int32.ofNat k ∧ s.2.2 = m.2 ∧ (∀ r, ¬ r = 9 → s.2.1 r = m.1 r) ∧ ∀ i < k, s.2.1 9 i = v * Int32.ofNat i) _ ?_ zx_N _ ⟨0, by omega, rfl, rfl, fun _ _ => rfl, fun i hi => absurd hi (by omega)⟩ (zm_upN (by decide : (-30000 : Int32) ≤ 0) (by grind [zm_g]))
    rintro ⟨i, x⟩ ⟨k, h1, h2, h3, h4, h5⟩
    dsimp only at h2 h3 h4 h5 ⊢
    subst h2
    have hx : x.1 0 20 = Int32.ofNat n := by rw [h4 0 (by omega)]; exact h
    unfold b_M_counts_l2
    rw [hx]
    by_cases g : k = n
    · right
      subst g
      simp only [if_pos (Int32.le_refl _)]
      exact ⟨_, rfl, h3, h4, h5⟩
    · left
      have g1 : ¬ Int32.ofNat n ≤ Int32.ofNat k := by grind [zm_g]
      simp only [if_neg g1, zm_ix (show k < 7 by omega) (by omega), zm_bs, zm_let]
      refine ⟨_, rfl, ⟨k + 1, by omega, by simp, h3, fun r r9 => ?_, fun j hj => ?_⟩, zm_up1 (by grind [zm_g])⟩
      · rw [zm_u11, if_neg r9]; exact h4 r r9
      · rw [zm_u11, if_pos rfl, zm_upd]
        by_cases q : j = k
        · rw [if_pos q, q]
        · rw [if_neg q]; exact h5 j (by omega)
  obtain ⟨m', e1, e2⟩ := key
  refine ⟨m', ?_, e2⟩
  unfold f_M_counts
  rw [e1]
  rfl
/-- both have the order, and how far each is carried -/
def zo_R (c m : zx_M) (n J : Nat) (g : Nat → Nat) : Prop := n ≤ 7 ∧ J ≤ 7 ∧ c.1 19 1 = Int32.ofNat n ∧ m.1 0 20 = Int32.ofNat n ∧ c.1 1 2 = Int32.ofNat J ∧ m.1 0 6 = Int32.ofNat J ∧ (∀ k < n, g k < J ∧ c.1 20 k = Int32.ofNat (g k) ∧ m.1 8 k = Int32.ofNat (g k) ∧ ∀ o < n, g o = g k → o = k) ∧ (∀ j < J, c.1 21 j = m.1 11 j) ∧ m.1 0 21 = m.1 1 35
theorem zo_asks {c m : zx_M} (H : zm_R zq_V c m) {J : Nat} (hJ : J ≤ 7) (h6 : m.1 0 6 = Int32.ofNat J) (h1 : c.1 1 2 = Int32.ofNat J) : ∃ c' m', f_C_weighAll c = some c' ∧ f_M_asksCarried m = some m' ∧ zm_R zq_V c' m' ∧ c'.2 = c.2 ∧ (∀ r, ¬ r = 12 → ¬ r = 14 → ¬ r = 21 → c'.1 r = c.1 r) ∧ c'.1 12 2 = c.1 12 2 ∧ m'.2 = m.2 ∧ (∀ r, ¬ r = 0 → ¬ r = 7 → ¬ r = 11 → m'.1 r = m.1 r) ∧ (∀ k, (k < 11 ∨ 15 < k) → ¬ k = 21 → m'.1 0 k = m.1 0 k) ∧ m'.1 0 21 = m.1 1 35 ∧ ∀ q < J, c'.1 21 q = m'.1 11 q := by
  obtain ⟨c', m', e1, e2, e3, e4, e5, e6, e7, e8, e9, e10⟩ := zo_weigh hJ J 0 (by omega) c m H h6 h1 (fun q hq => absurd hq (by omega)) zx_N (by have : zx_N = 100000 := rfl; omega)
  have e1' : l_C_weighAll_l2 (0, c) = some c' := e1
  have e2' : l_M_asksCarried_l2 (0, m) = some m' := e2
  have i35 : zx_ix 36 35 = some 35 := zm_ix (k := 35) (by omega) (by omega)
  unfold f_C_weighAll f_M_asksCarried
  simp only [e1', e2', zm_bs, zm_let, i35]
  refine ⟨c', _, rfl, rfl, zm_FR e3 (zm_FC_refl _) ⟨rfl, fun r r1 _ => by rw [zm_u11, if_neg r1], fun k hk => by rw [zm_u11, if_pos rfl, zm_upd, if_neg (by omega)]⟩, e4, e5, e6, ?_, fun r r1 r2 r3 => ?_, fun k hk k21 => ?_, ?_, fun q hq => ?_⟩
  · rw [zm_u12]; exact e7
  · rw [zm_u11, if_neg r1]; exact e8 r r1 r2 r3
  · rw [zm_u11, if_pos rfl, zm_upd, if_neg k21]; exact e9 k hk
  · rw [zm_u11, if_pos rfl, zm_upd, if_pos rfl, e8 1 (by omega) (by omega) (by omega)]
  · rw [zm_u11, if_neg (by omega)]; exact e10 q hq
/-- an order read -/
theorem zo_order {c m : zx_M} (H : zm_R zq_V c m) {d : Nat} (hd : d < 6) (h16 : c.1 16 d = 0) (v : Int32) : ∃ c' m' n J g s, f_C_readOrder (Int32.ofNat d) c = some (0, c') ∧ f_M_takesOrder (Int32.ofNat d) v m = some m' ∧ zm_R zq_V c' m' ∧ zm_FC c c' ∧ zm_FM m m' ∧ zo_R c' m' n J g ∧ (∀ k < n, m'.1 9 k = v * Int32.ofNat k) ∧ (∀ k < n, m.2 21 (60 * d + k) = (Int32.ofNat (g k)).toInt64) ∧ s ≤ 60 ∧ n ≤ s ∧ m.1 20 d = Int32.ofNat s := by
  obtain ⟨hN, hK, hT, hL, hS, hD, hP, hB⟩ := id H
  obtain ⟨⟨J, hJ, j1, j2⟩, -⟩ := id hN
  obtain ⟨s, hs, h17, h20, hit⟩ : ∃ s, s ≤ 60 ∧ c.1 17 d = Int32.ofNat s ∧ m.1 20 d = Int32.ofNat s ∧ ∀ q < s, c.2 18 (60 * d + q) = m.2 21 (60 * d + q) ∧ -128 ≤ m.2 21 (60 * d + q) ∧ m.2 21 (60 * d + q) ≤ 127 := by
    rcases hS d hd with ⟨v1, -⟩ | ⟨w, -, -, v1, -⟩ | ⟨t2, n', ht2, hn2, v1, v2, v3, v4, v5⟩
    · rw [h16] at v1; exact absurd v1 (by decide)
    · rw [h16] at v1; exact absurd v1 (by decide)
    · have e2 : t2 = 0 := by rw [v1] at h16; grind [zm_g]
      exact ⟨n', hn2, v2, v4, fun q hq => ⟨(v5 q hq).1, (v5 q hq).2 e2⟩⟩
  obtain ⟨r, hr, hr2⟩ := zo_ref H (Int32.ofNat d) (t := 0) (by omega)
  have hr0 : f_Shelves_refusal (Int32.ofNat d) 0 c = some 0 := by
    have a : 0 ≤ Int32.ofNat d ∧ Int32.ofNat d ≤ 5 := by grind [zm_g]
    have z1 : ¬ ((1 : Int32) = 0) := by decide
    have b1 : ¬ ((0 : Int32) = -1) := by decide
    have b2 : ¬ ¬ ((0 : Int32) = 0) := fun h => h rfl
    unfold f_Shelves_refusal
    rw [zm_isShelfC, if_pos a, zm_bs, if_pos z1, zm_ix hd (by omega), zm_bs, h16, if_pos b1, zm_bs, h16, if_neg b2]
  -- the loops
  have I0 : zo_I (zx_u1 c 19 1 0) (zx_u1 m 0 20 0) (zx_u1 c 19 1 0) (zx_u1 m 0 20 0) d J 0 (fun _ => 0) := ⟨rfl, fun _ _ _ => rfl, rfl, fun _ _ _ => rfl, fun _ _ => rfl, by simp [zm_u11, zm_upd], by simp [zm_u11, zm_upd], by omega, fun i hi => absurd hi (by omega)⟩
  obtain ⟨n, g, c1, m1, t, e1, e2, e3, I, hns⟩ := zo_loop (c0 := zx_u1 c 19 1 0) (m0 := zx_u1 m 0 20 0) (J := J) (s := s) hd hJ hs (by rw [zm_u11, if_neg (by omega)]; exact j1) (by rw [zm_u11, if_pos rfl, zm_upd, if_neg (by omega)]; exact j2) (by rw [zm_u11, if_neg (by omega)]; exact h16) (by rw [zm_u11, if_neg (by omega)]; exact h17) (by rw [zm_u11, if_neg (by omega)]; exact h20) (fun q hq => by rw [zm_u12, zm_u12]; exact hit q hq) (cnt := v) 7 0 rfl _ _ _ 0 I0 (by omega) (by omega) (fun q hq => by
    constructor
    · intro h; rw [Nat.zero_testBit] at h; exact absurd h (by decide)
    · rintro ⟨o, h, -⟩; omega) zx_N zx_N (by decide +kernel) (by decide +kernel)
  have e1' : l_C_readOrder_l25 (Int32.ofNat d) (0, zx_u1 c 19 1 0) = some t := e1
  have e3' : l_M_takesOrder_l10 (Int32.ofNat d) v (0, 1, zx_u1 m 0 20 0) = some m1 := e3
  obtain ⟨i1, i2, i3, i4, i5, i6, i7, i8, i9⟩ := I
  have H1 : zm_R zq_V c1 m1 := by
    refine zm_FR H ⟨by rw [i1, zm_u12], fun r r1 r2 r3 r4 r5 => ?_, ?_, ?_⟩ ⟨by rw [i3, zm_u12], fun r r1 r2 => ?_, fun k hk => ?_⟩
    · rw [i2 r (by omega) (by omega), zm_u11, if_neg (by omega)]
    · rw [i2 9 (by omega) (by omega), zm_u11, if_neg (by omega)]
    · rw [i2 12 (by omega) (by omega), zm_u11, if_neg (by omega)]
    · rw [i4 r r1 (by omega), zm_u11, if_neg r1]
    · rw [i5 k (by omega), zm_u11, if_pos rfl, zm_upd, if_neg (by omega)]
  obtain ⟨m2, c2e, c21, c22, c23⟩ := zo_counts i8 i7 v
  have H2 : zm_R zq_V c1 m2 := zm_FR H1 (zm_FC_refl _) ⟨c21, fun r r1 r2 => c22 r (by omega), fun k hk => by rw [c22 0 (by omega)]⟩
  have j1' : c1.1 1 2 = Int32.ofNat J := by rw [i2 1 (by omega) (by omega), zm_u11, if_neg (by omega)]; exact j1
  have j2' : m2.1 0 6 = Int32.ofNat J := by rw [c22 0 (by omega), i5 6 (by omega), zm_u11, if_pos rfl, zm_upd, if_neg (by omega)]; exact j2
  obtain ⟨c3, m3, w1, w2, w3, w4, w5, w6, w7, w8, w9, w10, w11⟩ := zo_asks H2 hJ j2' j1'
  refine ⟨c3, m3, n, J, g, s, ?_, ?_, w3, ?_, ?_, ?_, ?_, ?_, hs, hns, h20⟩
  · unfold f_C_readOrder f_Order_clear
    simp only [hr0, zm_bs, ↓reduceIte, zm_let, e1']
    unfold n_C_readOrder_n91
    rcases e2 with rfl | rfl
    · simp only [w1, zm_bs]
    · simp only [w1, zm_bs]
  · unfold f_M_takesOrder n_M_takesOrder_n112
    simp only [zm_let, e3', zm_bs, c2e, w2]
  · refine ⟨by rw [w4, i1, zm_u12], fun r r1 r2 r3 r4 r5 => ?_, ?_, ?_⟩
    · rw [w5 r r3 r4 (by omega), i2 r (by omega) (by omega), zm_u11, if_neg (by omega)]
    · rw [w5 9 (by omega) (by omega) (by omega), i2 9 (by omega) (by omega), zm_u11, if_neg (by omega)]
    · rw [w6, i2 12 (by omega) (by omega), zm_u11, if_neg (by omega)]
  · refine ⟨by rw [w7, c21, i3, zm_u12], fun r r1 r2 => ?_, fun k hk => ?_⟩
    · rw [w8 r r1 (by omega) (by omega), c22 r (by omega), i4 r r1 (by omega), zm_u11, if_neg r1]
    · rw [w9 k (by omega) (by omega), c22 0 (by omega), i5 k (by omega), zm_u11, if_pos rfl, zm_upd, if_neg (by omega)]
  · refine ⟨i8, hJ, ?_, ?_, ?_, ?_, fun k hk => ?_, w11, ?_⟩
    · rw [w5 19 (by omega) (by omega) (by omega)]; exact i6
    · rw [w9 20 (by omega) (by omega), c22 0 (by omega)]; exact i7
    · rw [w5 1 (by omega) (by omega) (by omega)]; exact j1'
    · rw [w9 6 (by omega) (by omega)]; exact j2'
    · rw [w5 20 (by omega) (by omega) (by omega), w8 8 (by omega) (by omega) (by omega), c22 8 (by omega)]
      obtain ⟨y1, y2, y3, y4, y5⟩ := i9 k hk
      exact ⟨y1, y2, y3, y5⟩
    · rw [w10, w8 1 (by omega) (by omega) (by omega)]
  · intro k hk
    rw [w8 9 (by omega) (by omega) (by omega)]
    exact c23 k hk
  · intro k hk
    have := (i9 k hk).2.2.2.1
    rw [zm_u12] at this
    exact this
