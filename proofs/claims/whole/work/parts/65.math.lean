/-! sticks -/
theorem zs_div {x : Int32} (h : ¬ x < 0) : ¬ x / 100 < 0 := by
  have h0 : 0 ≤ x.toInt := Int32.le_iff_toInt_le.mp (Int32.not_lt.mp h)
  have l := x.toInt_lt
  have e : (x / 100).toInt = (x.toInt.tdiv (100 : Int32).toInt).bmod (2 ^ 32) := Int32.toInt_div x 100
  rw [show (100 : Int32).toInt = 100 from rfl, Int.tdiv_eq_ediv_of_nonneg h0, Int.bmod_def] at e
  intro q
  have := Int32.lt_iff_toInt_lt.mp q
  have z : (0 : Int32).toInt = 0 := rfl
  omega
theorem zs_lateOne {k : Nat} {sec : Int32} : ∀ i : Nat, zs_late (2 ^ k) sec i = if k < i then sec else 0 := by
  intro i
  induction i with
  | zero => rfl
  | succ i ih =>
    show zs_late (2 ^ k) sec i + (if Nat.testBit (2 ^ k) i then sec else 0) = _
    rw [ih, Nat.testBit_two_pow]
    by_cases e : k = i
    · subst e
      have h1 : ¬ k < k := by omega
      have h2 : k < k + 1 := by omega
      rw [if_neg h1, if_pos h2]
      simp
    · by_cases f : k < i
      · have h2 : k < i + 1 := by omega
        rw [if_pos f, if_pos h2]
        simp [e]
      · have h2 : ¬ k < i + 1 := by omega
        rw [if_neg f, if_neg h2]
        simp [e]
theorem zs_later {m : zx_M} {n k : Nat} {a2 a3 a4 a5 : Int32} (hn : n ≤ 7) (hk : k < n) (h : m.1 0 20 = Int32.ofNat n) : ∃ m', l_M_sticks_l90 a2 a3 a4 a5 (Int32.ofNat k, m) = some m' ∧ m'.2 = m.2 ∧ (∀ r, ¬ r = 9 → m'.1 r = m.1 r) ∧ ∀ i < n, m'.1 9 i = m.1 9 i + (if k < i + 1 then zx_rem a3 100 else 0) := by
  unfold l_M_sticks_l90
  refine zm_lp1 (fun s : Int32 × zx_M => zm_up (Int32.ofNat n) s.1) (fun s => ∃ q, k ≤ q ∧ q ≤ n ∧ s.1 = Int32.ofNat q ∧ s.2.2 = m.2 ∧ (∀ r, ¬ r = 9 → s.2.1 r = m.1 r) ∧ (∀ i < q, s.2.1 9 i = m.1 9 i + (if k < i + 1 then zx_rem a3 100 else 0)) ∧ ∀ i, q ≤ i → s.2.1 9 i = m.1 9 i) _ ?_ zx_N _ ⟨k, Nat.le_refl _, by omega, rfl, rfl, fun _ _ => rfl, fun i hi => by
    rw [if_neg (by omega)]
    show m.1 9 i = m.1 9 i + 0
    grind, fun _ _ => rfl⟩ (zm_upN (by grind [zm_g]) (by grind [zm_g]))
  rintro ⟨q', x⟩ ⟨q, h1, h2, h3, h4, h5, h6, h7⟩
  dsimp only at h3 h4 h5 h6 h7 ⊢
  subst h3
  have xn : x.1 0 20 = Int32.ofNat n := by rw [h5 0 (by omega)]; exact h
  unfold b_M_sticks_l90
  rw [xn]
  by_cases e : q = n
  · right
    subst e
    simp only [if_pos (Int32.le_refl _)]
    exact ⟨_, rfl, h4, h5, h6⟩
  · left
    have g1 : ¬ Int32.ofNat n ≤ Int32.ofNat q := by grind [zm_g]
    have a1 : Int32.ofNat q + 1 = Int32.ofNat (q + 1) := by simp
    simp only [if_neg g1, zm_ix (show q < 7 by omega) (by omega), zm_bs, zm_let, a1]
    refine ⟨_, rfl, ⟨q + 1, by omega, by omega, rfl, h4, fun r r9 => ?_, fun i hi => ?_, fun i hi => ?_⟩, by rw [← a1]; exact zm_up1 (by grind [zm_g])⟩
    · rw [zm_u11, if_neg r9]; exact h5 r r9
    · rw [zm_u11, if_pos rfl, zm_upd]
      by_cases f : i = q
      · rw [if_pos f, f, h7 q (Nat.le_refl _), if_pos (by omega)]
      · rw [if_neg f]; exact h6 i (by omega)
    · rw [zm_u11, if_pos rfl, zm_upd, if_neg (by omega)]; exact h7 i (by omega)
theorem zs_Way {c m : zx_M} {n J : Nat} {g : Nat → Nat} (W : zo_W c m n J g) : ∀ x, zj_JF22 c x → f_C_way x = some (m.1 0 21) := fun x F => zo_Wway (zo_WC W F)
theorem t_sticks {c m : zx_M} (H : zm_R zq_V c m) (v w x y : Int32) : zm_ok zq_V (f_C_sticks v w x y) (f_M_sticks v w x y) c m := by
  have z1 : ¬ ((1 : Int32) = 0) := by decide
  have z2 : ¬ ¬ ((0 : Int32) = 0) := fun h => h rfl
  have z4 : ¬ ((1 : Int32) = -1) := by decide
  have z5 : (0 : Int32) ≤ 1 := by decide
  unfold zm_ok f_C_sticks f_M_sticks
  obtain ⟨r0, hr0⟩ := zo_bad1 H v
  -- what is wrong beside the shelf
  by_cases hbad : (∀ c m : zx_M, f_C_isSpotAndCount w c = some 1 ∧ f_M_isYc w m = some 1) ∧ ¬ x < 0 ∧ (∀ c m : zx_M, f_C_isCount (zx_rem x 100) c = some 1 ∧ f_M_isCount (zx_rem x 100) m = some 1) ∧ (∀ c m : zx_M, f_C_isPart y c = some 1 ∧ f_M_within y.toInt64 0 1 m = some 1)
  rotate_left
  · have hC : ∀ X, ((f_C_isSpotAndCount w c).bind fun r2 => if r2 = 0 then some ((-1 : Int32), c) else if x < 0 then some (-1, c) else (f_C_isCount (zx_rem x 100) c).bind fun r6 => if r6 = 0 then some (-1, c) else (f_C_isPart y c).bind fun r9 => if ¬ r9 = 0 then X else some (-1, c)) = some (-1, c) := by
      intro X
      rcases zo_isYc w with hy | hy
      · rw [(hy c m).1, zm_bs, if_neg z1]
        by_cases a : x < 0
        · rw [if_pos a]
        · rw [if_neg a]
          rcases zo_isCount (zx_rem x 100) with hc | hc
          · rw [(hc c m).1, zm_bs, if_neg z1]
            rcases zo_isPart y with ⟨hp, -⟩ | hp
            · exact absurd ⟨hy, a, hc, hp⟩ hbad
            · rw [(hp c m).1, zm_bs, if_neg z2]
          · rw [(hc c m).1, zm_bs, if_pos rfl]
      · rw [(hy c m).1, zm_bs, if_pos rfl]
    have hM : ∀ X, ((f_M_rowIs v 0 m).bind fun r2 => if r2 = -1 then some ((-1 : Int32), m) else (f_M_isYc w m).bind fun r5 => if r5 = 0 then some (-1, m) else if x < 0 then some (-1, m) else (f_M_isCount (zx_rem x 100) m).bind fun r9 => if r9 = 0 then some (-1, m) else (f_M_within y.toInt64 0 1 m).bind fun r12 => if ¬ r12 = 0 then X else some (-1, m)) = some (-1, m) := by
      intro X
      rw [hr0, zm_bs]
      by_cases q : r0 = -1
      · rw [if_pos q]
      rw [if_neg q]
      rcases zo_isYc w with hy | hy
      · rw [(hy c m).2, zm_bs, if_neg z1]
        by_cases a : x < 0
        · rw [if_pos a]
        · rw [if_neg a]
          rcases zo_isCount (zx_rem x 100) with hc | hc
          · rw [(hc c m).2, zm_bs, if_neg z1]
            rcases zo_isPart y with ⟨hp, -⟩ | hp
            · exact absurd ⟨hy, a, hc, hp⟩ hbad
            · rw [(hp c m).2, zm_bs, if_neg z2]
          · rw [(hc c m).2, zm_bs, if_pos rfl]
      · rw [(hy c m).2, zm_bs, if_pos rfl]
    rw [hC, hM]
    exact zm_e3 rfl rfl rfl H
  obtain ⟨hy, a, hc, hp⟩ := hbad
  simp only [(hy c m).1, (hy c m).2, (hc c m).1, (hc c m).2, (hp c m).1, (hp c m).2, zm_bs, if_neg z1, if_pos z1, if_neg a]
  rcases zo_read H v (zx_rem w 100) with ⟨c1, m1, n, J, g, d, s, e1, e2, e3, e4, e5, W, e7, -⟩ | ⟨r, e1, e2, hr⟩
  rotate_left
  · have rr := zo_rNeg hr
    simp only [e1, e2, zm_bs, if_neg rr.1, if_neg rr.2.2]
    by_cases q : r = -1
    · simp only [if_pos q]
      exact zm_e3 rfl rfl q H
    · simp only [if_neg q]
      exact zm_e3 rfl rfl rfl H
  obtain ⟨H1, hn7, hJ7, r3, r4, r5, r6, r7, r8, r9⟩ := id W
  unfold f_Order_size
  simp only [e1, e2, e3, zm_bs, ↓reduceIte, if_neg z4, if_pos z5, zm_let, r3, r4]
  by_cases b : x / 100 < Int32.ofNat n
  rotate_left
  · simp only [if_neg b]
    exact zm_e3 rfl rfl rfl H1
  have bx : ¬ x / 100 < 0 := zs_div a
  obtain ⟨k, hk, hke⟩ := zm_in (v := x / 100) (n := n) (by omega) bx (Int32.not_le.mpr b)
  rw [hke] at b
  obtain ⟨s1, s2⟩ := zs_shl k (by omega)
  obtain ⟨c2, l1, l2⟩ := zs_stopped (zo_WRc W) (q := n) (S := 2 ^ k) (Nat.le_refl n) s2 (zx_rem x 100) w (zs_Way W)
  obtain ⟨m2, t1, t2, t3, t4⟩ := zs_later (m := m1) (a2 := w) (a3 := x) (a4 := y) (a5 := Int32.ofNat k) hn7 hk r4
  have W2 : zo_W c1 m2 n J g := zo_WM W t2 (fun r _ r9' _ => t3 r r9') (fun q _ _ => by rw [t3 0 (by omega)])
  obtain ⟨m3, u1, u2, u3⟩ := zo_goodFrom (zo_WRm W2) (w / 100 - 999)
  have W3 := zo_WF W2 u2
  have W3c := zo_WC W3 l2
  obtain ⟨w1, w2, w3, w4, w5⟩ := zo_Wnum W
  have se : ∀ i < n, m2.1 9 i = zs_se (zx_rem w 100) (2 ^ k) (zx_rem x 100) i := by
    intro i hi
    rw [t4 i hi, e7 i hi]
    unfold zs_se
    rw [zs_lateOne]
    congr 1
    grind
  have eq1 : zj_good n (m2.1 1 28) (m2.1 1 29) (m2.1 1 30) (m2.1 9) (fun k => w / 100 - 999 + zo_yd (m2.1 1 31) (m2.1 0 21) (m2.1 11) g (m2.1 9) k) = zj_good n (c1.1 2 0) (c1.1 2 1) (c1.1 2 2) (zs_se (zx_rem w 100) (2 ^ k) (zx_rem x 100)) (fun i => w / 100 - 999 + zo_yd (c1.1 2 3) (m1.1 0 21) (c1.1 21) g (zs_se (zx_rem w 100) (2 ^ k) (zx_rem x 100)) i) := by
    rw [t3 1 (by omega), t3 0 (by omega), t3 11 (by omega), w1, w2, w3, w4]
    refine zj_good_congr se (fun i hi => ?_)
    congr 1
    unfold zo_yd
    rw [se i hi, r8 (g i) (r7 i hi).1]
  rw [eq1] at u1
  simp only [hke, if_pos b, s1, l1, zm_bs, t1, zm_spotM, u1]
  generalize Int32.ofNat (zj_good n (c1.1 2 0) (c1.1 2 1) (c1.1 2 2) (zs_se (zx_rem w 100) (2 ^ k) (zx_rem x 100)) (fun i => w / 100 - 999 + zo_yd (c1.1 2 3) (m1.1 0 21) (c1.1 21) g (zs_se (zx_rem w 100) (2 ^ k) (zx_rem x 100)) i)) = A
  by_cases q : y = 0
  · have q' : ¬ ¬ y = 0 := fun h => h q
    simp only [if_neg q']
    exact zm_e3 rfl rfl rfl W3c.1
  -- and without that one
  have W3w := zs_Way W3c
  have run3 : m3.1 0 21 = m1.1 0 21 := by rw [u3, t3 0 (by omega)]
  obtain ⟨c3, k1, k2⟩ := zs_without (zo_WRc W3c) hk w W3w
  obtain ⟨m4, y1, y2, y3, y4, y5, y6⟩ := zo_Wcounts W3c (zx_rem w 100)
  obtain ⟨m5, x1, x2, x3, x4, x5, x6⟩ := zs_leaves hn7 hk y2.2.2.2.2.1
  have R5 : zo_Rm m5 (n - 1) J (fun i => g (zs_o k i)) := by
    refine ⟨by omega, hJ7, x5, fun i hi => ?_⟩
    have ho : zs_o k i < n := by
      unfold zs_o
      by_cases f : i < k
      · rw [if_pos f]; omega
      · rw [if_neg f]; omega
    refine ⟨(r7 _ ho).1, ?_⟩
    rw [(x6 i hi).1]
    exact ((zo_WRm y2).2.2.2 _ ho).2
  obtain ⟨m6, o1, o2, o3⟩ := zo_goodFrom R5 (w / 100 - 999)
  obtain ⟨v1, v2, v3, v4, v5⟩ := zo_Wnum W3c
  have eq2 : zj_good (n - 1) (m5.1 1 28) (m5.1 1 29) (m5.1 1 30) (m5.1 9) (fun i => w / 100 - 999 + zo_yd (m5.1 1 31) (m5.1 0 21) (m5.1 11) (fun i => g (zs_o k i)) (m5.1 9) i) = zj_good (n - 1) (c2.1 2 0) (c2.1 2 1) (c2.1 2 2) (fun i => zx_rem w 100 * Int32.ofNat (zs_o k i)) (fun i => w / 100 - 999 + zo_yd (c2.1 2 3) (m3.1 0 21) (c2.1 21) (fun i => g (zs_o k i)) (fun i => zx_rem w 100 * Int32.ofNat (zs_o k i)) i) := by
    have p1 : m5.1 1 = m3.1 1 := by rw [x3 1 (by omega) (by omega) (by omega), y5]
    have p11 : m5.1 11 = m3.1 11 := by rw [x3 11 (by omega) (by omega) (by omega), y6]
    have p21 : m5.1 0 21 = m3.1 0 21 := by rw [x4 21 (by omega), y4]
    rw [p1, p11, p21, v1, v2, v3, v4]
    have ho : ∀ i < n - 1, zs_o k i < n := by
      intro i hi
      unfold zs_o
      by_cases f : i < k
      · rw [if_pos f]; omega
      · rw [if_neg f]; omega
    have s9 : ∀ i < n - 1, m5.1 9 i = zx_rem w 100 * Int32.ofNat (zs_o k i) := fun i hi => by rw [(x6 i hi).2]; exact y3 _ (ho i hi)
    refine zj_good_congr s9 (fun i hi => ?_)
    congr 1
    unfold zo_yd
    rw [s9 i hi]
    congr 1
    have cr := W3c.2.2.2.2.2.2.2.2.1
    exact (cr _ (r7 _ (ho i hi)).1).symm
  rw [eq2] at o1
  have fin : zm_R zq_V c3 m6 := by
    have Wy := zo_WC y2 k2
    refine zm_FR Wy.1 (zm_FC_refl _) (zm_FM_trans ⟨x2, fun r r0 h => x3 r r0 (by omega) (by omega), fun k hk => x4 k (by omega)⟩ (zo_frFM o2))
  simp only [if_pos q, k1, zm_bs, y1, x1, o1]
  generalize Int32.ofNat (zj_good (n - 1) (c2.1 2 0) (c2.1 2 1) (c2.1 2 2) (fun i => zx_rem w 100 * Int32.ofNat (zs_o k i)) (fun i => w / 100 - 999 + zo_yd (c2.1 2 3) (m3.1 0 21) (c2.1 21) (fun i => g (zs_o k i)) (fun i => zx_rem w 100 * Int32.ofNat (zs_o k i)) i)) = B
  by_cases p : B ≤ A
  · simp only [if_pos p]
    exact zm_e3 rfl rfl rfl fin
  · simp only [if_neg p]
    exact zm_e3 rfl rfl rfl fin
