/-! what was seen -/
theorem zg_cmp0 {x y : Int64} : lg_cmp x y = 0 ↔ x = y := by
  unfold lg_cmp
  grind
theorem zw_pair {V : Nat → (Nat → Int32) → Prop} {c m : zx_M} (H : zm_R V c m) (v : Int32) : (∃ d e, d < 6 ∧ e < 6 ∧ v / 10 = Int32.ofNat d ∧ zx_rem v 10 = Int32.ofNat e ∧ c.1 16 d = 0 ∧ c.1 16 e = 1 ∧ f_C_refusalOfPair v c = some 0 ∧ f_M_soIs v m = some 1) ∨ ∃ r, (r = -1 ∨ r = -11 ∨ r = -12) ∧ f_C_refusalOfPair v c = some r ∧ f_M_soIs v m = some r := by
  obtain ⟨hN, hK, hT, hL, hS, hD, hP, hB⟩ := id H
  have z1 : ¬ ((1 : Int32) = 0) := by decide
  have z2 : ¬ ¬ ((0 : Int32) = 0) := fun h => h rfl
  unfold f_C_refusalOfPair f_M_soIs f_Shelves_holds
  simp only [zm_isShelfC, zm_isShelfM, zm_bs]
  by_cases a : v < 0
  · simp only [if_pos a]
    exact Or.inr ⟨-1, Or.inl rfl, rfl, rfl⟩
  simp only [if_neg a]
  by_cases b : 0 ≤ v / 10 ∧ v / 10 ≤ 5
  rotate_left
  · simp only [if_neg b, ↓reduceIte]
    exact Or.inr ⟨-1, Or.inl rfl, rfl, rfl⟩
  obtain ⟨d, hd, ed⟩ := zm_in (v := v / 10) (n := 6) (by omega) (by grind) (by grind)
  rw [ed] at b ⊢
  simp only [if_pos b, if_neg z1]
  by_cases e : 0 ≤ zx_rem v 10 ∧ zx_rem v 10 ≤ 5
  rotate_left
  · simp only [if_neg e, if_neg z2]
    exact Or.inr ⟨-1, Or.inl rfl, rfl, rfl⟩
  obtain ⟨e', he, ee⟩ := zm_in (v := zx_rem v 10) (n := 6) (by omega) (by grind) (by grind)
  rw [ee] at e ⊢
  simp only [if_pos e, if_neg z1, if_pos z1, zm_ix hd (by omega), zm_ix he (by omega), zm_bs]
  obtain ⟨r1, s1, ⟨rfl, t1, d', hd', ed', q1⟩ | ⟨k1, t1, u1⟩⟩ := zo_ref H (Int32.ofNat d) (t := 0) (by omega)
  · have edd : d' = d := by
      have := zm_g (k := d) (by omega)
      have := zm_g (k := d') (by omega)
      grind
    subst edd
    have q1' : c.1 16 d' = 0 := q1
    have m1 : 0 ≤ m.1 19 d' := by
      rcases hS d' hd with ⟨v1, -⟩ | ⟨w, -, -, v1, -⟩ | ⟨t2, n', ht2, hn2, v1, v2, v3, v4, v5⟩
      · rw [q1'] at v1; exact absurd v1 (by decide)
      · rw [q1'] at v1; exact absurd v1 (by decide)
      · rw [v3]; exact Int32.not_lt.mp (zm_nn (by omega))
    have t1' : f_M_rowIs (Int32.ofNat d') 0 m = some 1 := t1
    have w1 : ¬ (0 : Int32) = -1 := by decide
    have w2 : ¬ m.1 19 d' < 0 := Int32.not_lt.mpr m1
    have w3 : ¬ ¬ (1 : Int32) = 1 := fun h => h rfl
    have w4 : ¬ ¬ (0 : Int32) = 0 := fun h => h rfl
    obtain ⟨r2, s2, ⟨rfl, t2, e2', he2, ee2, q2⟩ | ⟨k2, t2, u2⟩⟩ := zo_ref H (Int32.ofNat e') (t := 1) (by omega)
    · have eee : e2' = e' := by
        have := zm_g (k := e') (by omega)
        have := zm_g (k := e2') (by omega)
        grind
      subst eee
      have q2' : c.1 16 e2' = 1 := q2
      have m2 : 0 ≤ m.1 19 e2' := by
        rcases hS e2' he with ⟨v1, -⟩ | ⟨w, -, -, v1, -⟩ | ⟨t2, n', ht2, hn2, v1, v2, v3, v4, v5⟩
        · rw [q2'] at v1; exact absurd v1 (by decide)
        · rw [q2'] at v1; exact absurd v1 (by decide)
        · rw [v3]; exact Int32.not_lt.mp (zm_nn (by omega))
      have t2' : f_M_rowIs (Int32.ofNat e2') 1 m = some 1 := t2
      have x1 : ¬ (1 : Int32) = -1 := by decide
      refine Or.inl ⟨d', e2', hd, he, rfl, rfl, q1', q2', ?_, ?_⟩
      · simp only [not_true_eq_false, ↓reduceIte, q1', q2', if_neg w1, if_pos x1, if_neg w4, if_neg w3]
      · simp only [not_true_eq_false, ↓reduceIte, if_neg w2, if_pos m2, t1', t2', zm_bs, if_neg w3]
    · -- the second is not so
      have t2' : f_M_rowIs (Int32.ofNat e') 1 m = some r2 := t2
      have nr : ¬ r2 = 1 := (zo_rNeg k2).2.1
      rcases hS e' he with ⟨v1, v2, v3, v4⟩ | ⟨w, hw, hwn, v1, v2, v3, v4⟩ | ⟨t3, n', ht3, hn2, v1, v2, v3, v4, v5⟩
      · have y1 : ¬ ¬ (-1 : Int32) = -1 := fun h => h rfl
        have y2 : ¬ (0 : Int32) ≤ -1 := by decide
        refine Or.inr ⟨-11, Or.inr (Or.inl rfl), ?_, ?_⟩
        · simp only [not_true_eq_false, ↓reduceIte, q1', v1, if_neg w1, if_neg y1]
        · simp only [not_true_eq_false, ↓reduceIte, if_neg w2, v3, if_neg y2]
      · have y1 : ¬ (-2 : Int32) = -1 := by decide
        have y2 : 0 ≤ Int32.ofNat w := Int32.not_lt.mp (zm_nn (by omega))
        have y3 : ¬ (-2 : Int32) = 1 := by decide
        refine Or.inr ⟨-12, Or.inr (Or.inr rfl), ?_, ?_⟩
        · simp only [not_true_eq_false, ↓reduceIte, q1', v1, if_neg w1, if_pos y1, if_neg w4, if_pos y3]
        · simp only [not_true_eq_false, ↓reduceIte, if_neg w2, v3, if_pos y2, t1', zm_bs, if_neg w3, t2', if_pos nr]
      · have y1 : ¬ Int32.ofNat t3 = -1 := by grind [zm_g]
        have y2 : 0 ≤ Int32.ofNat (50 + t3) := Int32.not_lt.mp (zm_nn (by omega))
        have y3 : ¬ Int32.ofNat t3 = 1 := by
          intro h
          have h1 : f_Shelves_refusal (Int32.ofNat e') (Int32.ofNat 1) c = some 0 := by
            have b1 : ¬ ((1 : Int32) = -1) := by decide
            have b2 : ¬ ¬ ((1 : Int32) = Int32.ofNat 1) := fun h => h rfl
            unfold f_Shelves_refusal
            rw [zm_isShelfC, if_pos e, zm_bs, if_pos z1, zm_ix he (by omega), zm_bs, v1, h, if_pos b1, zm_bs, v1, h, if_neg b2]
          rw [h1] at s2
          exact (zo_rNeg k2).1 (Option.some.inj s2).symm
        refine Or.inr ⟨-12, Or.inr (Or.inr rfl), ?_, ?_⟩
        · simp only [not_true_eq_false, ↓reduceIte, q1', v1, if_neg w1, if_pos y1, if_neg w4, if_pos y3]
        · simp only [not_true_eq_false, ↓reduceIte, if_neg w2, v3, if_pos y2, t1', zm_bs, if_neg w3, t2', if_pos nr]
  · -- the first is not so
    have t1' : f_M_rowIs (Int32.ofNat d) 0 m = some r1 := t1
    have nr : ¬ r1 = 1 := (zo_rNeg k1).2.1
    rcases hS d hd with ⟨v1, v2, v3, v4⟩ | ⟨w, hw, hwn, v1, v2, v3, v4⟩ | ⟨t3, n', ht3, hn2, v1, v2, v3, v4, v5⟩
    · have y2 : (-1 : Int32) < 0 := by decide
      refine Or.inr ⟨-11, Or.inr (Or.inl rfl), ?_, ?_⟩
      · simp only [not_true_eq_false, ↓reduceIte, v1, ↓reduceIte]
      · simp only [not_true_eq_false, ↓reduceIte, v3, if_pos y2]
    · -- a body there
      have y1 : ¬ (-2 : Int32) = -1 := by decide
      have y2 : ¬ Int32.ofNat w < 0 := zm_nn (by omega)
      have y3 : ¬ (-2 : Int32) = 0 := by decide
      rcases hS e' he with ⟨w1, w2, w3, w4⟩ | ⟨w', hw', hwn', w1, w2, w3, w4⟩ | ⟨t4, n4, ht4, hn4, w1, w2, w3, w4, w5⟩
      · have x1 : ¬ ¬ (-1 : Int32) = -1 := fun h => h rfl
        have x2 : ¬ (0 : Int32) ≤ -1 := by decide
        refine Or.inr ⟨-11, Or.inr (Or.inl rfl), ?_, ?_⟩
        · simp only [not_true_eq_false, ↓reduceIte, v1, w1, if_neg y1, if_neg x1]
        · simp only [not_true_eq_false, ↓reduceIte, v3, w3, if_neg y2, if_neg x2]
      · have x1 : ¬ (-2 : Int32) = -1 := by decide
        have x2 : 0 ≤ Int32.ofNat w' := Int32.not_lt.mp (zm_nn (by omega))
        refine Or.inr ⟨-12, Or.inr (Or.inr rfl), ?_, ?_⟩
        · simp only [not_true_eq_false, ↓reduceIte, v1, w1, if_neg y1, if_pos x1, if_pos y3]
        · simp only [not_true_eq_false, ↓reduceIte, v3, w3, if_neg y2, if_pos x2, t1', zm_bs, if_pos nr]
      · have x1 : ¬ Int32.ofNat t4 = -1 := by grind [zm_g]
        have x2 : 0 ≤ Int32.ofNat (50 + t4) := Int32.not_lt.mp (zm_nn (by omega))
        refine Or.inr ⟨-12, Or.inr (Or.inr rfl), ?_, ?_⟩
        · simp only [not_true_eq_false, ↓reduceIte, v1, w1, if_neg y1, if_pos x1, if_pos y3]
        · simp only [not_true_eq_false, ↓reduceIte, v3, w3, if_neg y2, if_pos x2, t1', zm_bs, if_pos nr]
    · have y1 : ¬ Int32.ofNat t3 = -1 := by grind [zm_g]
      have y2 : ¬ Int32.ofNat (50 + t3) < 0 := zm_nn (by omega)
      have y3 : ¬ Int32.ofNat t3 = 0 := by
        intro h
        have h1 : f_Shelves_refusal (Int32.ofNat d) (Int32.ofNat 0) c = some 0 := by
          have b1 : ¬ ((0 : Int32) = -1) := by decide
          have b2 : ¬ ¬ ((0 : Int32) = Int32.ofNat 0) := fun h => h rfl
          unfold f_Shelves_refusal
          rw [zm_isShelfC, if_pos b, zm_bs, if_pos z1, zm_ix hd (by omega), zm_bs, v1, h, if_pos b1, zm_bs, v1, h, if_neg b2]
        rw [h1] at s1
        exact (zo_rNeg k1).1 (Option.some.inj s1).symm
      rcases hS e' he with ⟨w1, w2, w3, w4⟩ | ⟨w', hw', hwn', w1, w2, w3, w4⟩ | ⟨t4, n4, ht4, hn4, w1, w2, w3, w4, w5⟩
      · have x1 : ¬ ¬ (-1 : Int32) = -1 := fun h => h rfl
        have x2 : ¬ (0 : Int32) ≤ -1 := by decide
        refine Or.inr ⟨-11, Or.inr (Or.inl rfl), ?_, ?_⟩
        · simp only [not_true_eq_false, ↓reduceIte, v1, w1, if_neg y1, if_neg x1]
        · simp only [not_true_eq_false, ↓reduceIte, v3, w3, if_neg y2, if_neg x2]
      · have x1 : ¬ (-2 : Int32) = -1 := by decide
        have x2 : 0 ≤ Int32.ofNat w' := Int32.not_lt.mp (zm_nn (by omega))
        refine Or.inr ⟨-12, Or.inr (Or.inr rfl), ?_, ?_⟩
        · simp only [not_true_eq_false, ↓reduceIte, v1, w1, if_neg y1, if_pos x1, if_pos y3]
        · simp only [not_true_eq_false, ↓reduceIte, v3, w3, if_neg y2, if_pos x2, t1', zm_bs, if_pos nr]
      · have x1 : ¬ Int32.ofNat t4 = -1 := by grind [zm_g]
        have x2 : 0 ≤ Int32.ofNat (50 + t4) := Int32.not_lt.mp (zm_nn (by omega))
        refine Or.inr ⟨-12, Or.inr (Or.inr rfl), ?_, ?_⟩
        · simp only [not_true_eq_false, ↓reduceIte, v1, w1, if_neg y1, if_pos x1, if_pos y3]
        · simp only [not_true_eq_false, ↓reduceIte, v3, w3, if_neg y2, if_pos x2, t1', zm_bs, if_pos nr]
/-- the seen, on both sides -/
def zw_S (c m : zx_M) (e s : Nat) : Prop := e < 6 ∧ s ≤ 60 ∧ c.1 16 e = 1 ∧ c.1 17 e = Int32.ofNat s ∧ m.1 20 e = Int32.ofNat s ∧ ∀ i < s, c.2 18 (60 * e + i) = m.2 21 (60 * e + i)
theorem zw_seen {V : Nat → (Nat → Int32) → Prop} {c m : zx_M} (H : zm_R V c m) {e : Nat} (he : e < 6) (h : c.1 16 e = 1) : ∃ s, zw_S c m e s := by
  rcases H.2.2.2.2.1 e he with ⟨v1, -⟩ | ⟨w, -, -, v1, -⟩ | ⟨t2, n', ht2, hn2, v1, v2, v3, v4, v5⟩
  · rw [h] at v1; exact absurd v1 (by decide)
  · rw [h] at v1; exact absurd v1 (by decide)
  · exact ⟨n', he, hn2, h, v2, v4, fun q hq => (v5 q hq).1⟩
/-- the first unlike, of so many -/
theorem zw_first {c m : zx_M} {e s n : Nat} {se yd : Nat → Int32} (S : zw_S c m e s) (Q : zj_JC22 c n se yd) (hm : m.1 0 20 = Int32.ofNat n) {spot : Int32} (hd : ∀ k < n, m.1 10 k = spot + yd k) : ∃ r, f_C_firstUnlike (Int32.ofNat e) (Int32.ofNat s) spot c = some r ∧ f_M_firstFalse (Int32.ofNat e) m = some r := by
  obtain ⟨he, hs, s1, s2, s3, s4⟩ := S
  have n7 := Q.1
  have j1 := Q.2.1
  have loop : ∃ (t t' : Int32), zx_lp zx_N (fun i : Int32 => b_C_firstUnlike_l3 (Int32.ofNat e) (Int32.ofNat s) spot i c) 0 = some t ∧ zx_lp zx_N (fun i : Int32 => b_M_firstFalse_l2 (Int32.ofNat e) i m) 0 = some t' ∧ t = t' := by
    refine zm_lp2 (fun i : Int32 => zm_up (Int32.ofNat s) i) (fun i i' : Int32 => i = i' ∧ ∃ k, k ≤ s ∧ k ≤ n ∧ i = Int32.ofNat k) (fun t t' : Int32 => t = t') ?_ zx_N _ _ ⟨rfl, 0, by omega, by omega, rfl⟩ (zm_upN (by decide : (-30000 : Int32) ≤ 0) (by grind [zm_g]))
    rintro i _ ⟨rfl, k, h1, h2, rfl⟩
    unfold b_C_firstUnlike_l3 b_M_firstFalse_l2 f_Jumps_size_22
    rw [j1, hm]
    simp only [zm_ix he (by omega), zm_bs, s3]
    by_cases a : k = s
    · right
      subst a
      simp only [if_pos (Int32.le_refl _)]
      exact ⟨_, _, rfl, rfl, rfl⟩
    have a' : ¬ Int32.ofNat s ≤ Int32.ofNat k := by grind [zm_g]
    by_cases b : k = n
    · right
      subst b
      simp only [if_neg a', if_pos (Int32.le_refl _)]
      exact ⟨_, _, rfl, rfl, rfl⟩
    have b' : ¬ Int32.ofNat n ≤ Int32.ofNat k := by grind [zm_g]
    have cell := zm_cellC (c := c) he (t := 1) (by omega) hs (show k < s by omega) s1 s2
    have e2 : 60 * Int32.ofNat e + Int32.ofNat k = Int32.ofNat (60 * e + k) := by simp
    have it : f_M_itemAt (Int32.ofNat e) (Int32.ofNat k) m = some (m.2 21 (60 * e + k)) := by
      unfold f_M_itemAt
      rw [e2, zm_ix (by omega) (by omega), zm_bs]
    have a1 : Int32.ofNat k + 1 = Int32.ofNat (k + 1) := by simp
    simp only [if_neg a', if_neg b', zj_downOf22 Q (show k < n by omega), cell, it, zm_bs, zm_ix (show k < 7 by omega) (by omega), hd k (by omega), s4 k (by omega), zm_let, a1, zg_cmp0]
    by_cases w : (spot + yd k).toInt64 = m.2 21 (60 * e + k)
    · left
      simp only [if_pos w, if_pos w.symm]
      exact ⟨_, _, rfl, rfl, ⟨rfl, k + 1, by omega, by omega, rfl⟩, by rw [← a1]; exact zm_up1 (by grind [zm_g])⟩
    · right
      simp only [if_neg w, if_neg (fun h => w (Eq.symm h))]
      exact ⟨_, _, rfl, rfl, rfl⟩
  obtain ⟨t, t', l1, l2, rfl⟩ := loop
  have l1' : l_C_firstUnlike_l3 (Int32.ofNat e) (Int32.ofNat s) spot c 0 = some t := l1
  have l2' : l_M_firstFalse_l2 (Int32.ofNat e) m 0 = some t := l2
  refine ⟨t, ?_, ?_⟩
  · unfold f_C_firstUnlike
    rw [l1', zm_bs, zm_let]
  · unfold f_M_firstFalse
    rw [l2', zm_bs, zm_let]
theorem zw_S_mv {c m c' m' : zx_M} {e s : Nat} (S : zw_S c m e s) (hc : zm_FC c c') (hm : zm_FM m m') : zw_S c' m' e s := by
  obtain ⟨he, hs, s1, s2, s3, s4⟩ := S
  refine ⟨he, hs, ?_, ?_, ?_, fun i hi => ?_⟩
  · rw [hc.2.1 16 (by omega) (by omega) (by omega) (by omega) (by omega)]; exact s1
  · rw [hc.2.1 17 (by omega) (by omega) (by omega) (by omega) (by omega)]; exact s2
  · rw [hm.2.1 20 (by omega) (by omega)]; exact s3
  · rw [hc.1, hm.1]; exact s4 i hi
/-! judge -/
theorem t_judge {c m : zx_M} (H : zm_R zq_V c m) (v w : Int32) : zm_ok zq_V (f_C_judge v w) (f_M_judge v w) c m := by
  have z1 : ¬ ((1 : Int32) = 0) := by decide
  have z2 : ¬ ¬ ((0 : Int32) = 0) := fun h => h rfl
  have z4 : ¬ ((1 : Int32) = -1) := by decide
  have z5 : (0 : Int32) ≤ 1 := by decide
  unfold zm_ok f_C_judge f_M_judge
  rcases zw_pair H v with ⟨d, e, hd, he, ed, ee, hd0, he1, p1, p2⟩ | ⟨r, hr, p1, p2⟩
  rotate_left
  · have rr := zo_rNeg hr
    rcases zo_isYc w with hy | hy
    · simp only [(hy c m).1, (hy c m).2, zm_bs, if_pos z1, p1, p2, if_neg rr.1, if_neg rr.2.2]
      by_cases q : r = -1
      · simp only [if_pos q]
        exact zm_e3 rfl rfl q H
      · simp only [if_neg q]
        exact zm_e3 rfl rfl rfl H
    · simp only [(hy c m).1, (hy c m).2, zm_bs, if_neg z2, p2]
      by_cases q : r = -1
      · simp only [if_pos q]
        exact zm_e3 rfl rfl rfl H
      · simp only [if_neg q]
        exact zm_e3 rfl rfl rfl H
  rcases zo_isYc w with hy | hy
  rotate_left
  · simp only [(hy c m).1, (hy c m).2, zm_bs, if_neg z2, p2, if_neg z4]
    exact zm_e3 rfl rfl rfl H
  obtain ⟨c1, m1, n, J, g, s', e1, e3, e6, e4, e5, eR, e7, e8, e9, e10, e11⟩ := zo_order H hd hd0 (zx_rem w 100)
  have W : zo_W c1 m1 n J g := ⟨e6, eR⟩
  obtain ⟨s, S⟩ := zw_seen H he he1
  obtain ⟨c2, l1, l2, l3⟩ := zo_Wline W (zx_rem w 100) (m1.1 0 21)
  obtain ⟨m2, f1, f2, f3, f4⟩ := zo_fills (zo_WRm W) (w / 100 - 999)
  have m2n : m2.1 0 20 = Int32.ofNat n := by rw [f3]; exact W.2.2.2.2.1
  have S2 := zw_S_mv S (zm_FC_trans e4 (zj_JFFC l3)) (zm_FM_trans e5 (zo_frFM f2))
  obtain ⟨r, r1, r2⟩ := zw_first S2 l2 m2n (spot := w / 100 - 999) (fun k hk => by
    rw [f4 k hk]
    congr 1
    exact zo_ydc (e7 k hk))
  simp only [(hy c m).1, (hy c m).2, zm_bs, if_pos z1, p1, p2, ↓reduceIte, if_neg z4, if_pos z5, ed, ee, e1, e3, zm_countOfC, zo_Wway W, l1, zm_sizeC he, S2.2.2.2.1, zm_spotC, zm_spotM, f1, r1, r2]
  exact zm_e3 rfl rfl rfl (zo_WC (zo_WF W f2) l3).1
/-! fromWhere -/
theorem t_fromWhere {c m : zx_M} (H : zm_R zq_V c m) (v w : Int32) : zm_ok zq_V (f_C_fromWhere v w) (f_M_fromWhere v w) c m := by
  have z1 : ¬ ((1 : Int32) = 0) := by decide
  have z2 : ¬ ¬ ((0 : Int32) = 0) := fun h => h rfl
  have z3 : ¬ ¬ ((1 : Int32) = 1) := fun h => h rfl
  unfold zm_ok f_C_fromWhere f_M_fromWhere
  rcases zw_pair H v with ⟨d, e, hd, he, ed, ee, hd0, he1, p1, p2⟩ | ⟨r, hr, p1, p2⟩
  rotate_left
  · have rr := zo_rNeg hr
    rcases zo_isCount w with hy | hy
    · simp only [(hy c m).1, zm_bs, if_neg z1, p1, p2, if_neg rr.1, if_pos rr.2.1]
      exact zm_e3 rfl rfl rfl H
    · simp only [(hy c m).1, zm_bs, ↓reduceIte, p2, if_pos rr.2.1]
      exact zm_e3 rfl rfl rfl H
  rcases zo_isCount w with hy | hy
  rotate_left
  · simp only [(hy c m).1, (hy c m).2, zm_bs, ↓reduceIte, p2, if_neg z3, if_neg z2]
    exact zm_e3 rfl rfl rfl H
  obtain ⟨c1, m1, n, J, g, s', e1, e3, e6, e4, e5, eR, e7, e8, e9, e10, e11⟩ := zo_order H hd hd0 w
  have W : zo_W c1 m1 n J g := ⟨e6, eR⟩
  obtain ⟨s, S⟩ := zw_seen H he he1
  obtain ⟨c2, l1, l2, l3⟩ := zo_Wline W w (m1.1 0 21)
  have W2 := zo_WC W l3
  have S2 := zw_S_mv S (zm_FC_trans e4 (zj_JFFC l3)) e5
  have loop : ∃ (t t' : Int32 × zx_M), zx_lp zx_N (fun i : Int32 => b_C_fromWhere_l40 v i c2) (-999) = some t ∧ zx_lp zx_N (fun s : Int32 × zx_M => b_M_fromWhere_l32 v s.1 s.2) (-999, m1) = some t' ∧ (t.1 = t'.1 ∧ zm_R zq_V t.2 t'.2) := by
    refine zm_lp2 (fun i : Int32 => zm_up 1000 i) (fun (i : Int32) (s' : Int32 × zx_M) => i = s'.1 ∧ -999 ≤ i ∧ i ≤ 1000 ∧ zo_fr m1 s'.2) (fun t t' : Int32 × zx_M => t.1 = t'.1 ∧ zm_R zq_V t.2 t'.2) ?_ zx_N _ _ ⟨rfl, (by decide : (-999 : Int32) ≤ -999), (by decide : (-999 : Int32) ≤ 1000), rfl, fun _ _ _ => rfl, fun _ _ _ => rfl⟩ (zm_upN (by decide : (-30000 : Int32) ≤ -999) (by decide))
    rintro i ⟨i', x⟩ ⟨h1, h2, h3, F⟩
    dsimp only at h1 F ⊢
    subst h1
    have Wx := zo_WF W2 F
    unfold b_C_fromWhere_l40 b_M_fromWhere_l32
    by_cases a : 999 < i
    · right
      simp only [if_pos a]
      exact ⟨_, _, rfl, rfl, rfl, Wx.1⟩
    obtain ⟨m2, f1, f2, f3, f4⟩ := zo_fills (zo_WRm Wx) i
    have m2n : m2.1 0 20 = Int32.ofNat n := by rw [f3]; exact Wx.2.2.2.2.1
    have F2 := zo_fr_trans F f2
    have S3 := zw_S_mv S2 (zm_FC_refl c2) (zo_frFM F2)
    obtain ⟨r, r1, r2⟩ := zw_first S3 l2 m2n (spot := i) (fun k hk => by
      rw [f4 k hk, F.2.1 1 (by omega) (by omega), F.2.1 11 (by omega) (by omega), F.2.1 9 (by omega) (by omega), F.2.2 21 (by omega) (by omega)]
      congr 1
      exact zo_ydc (e7 k hk))
    simp only [if_neg a, ee, zm_sizeC he, S3.2.2.2.1, zm_bs, r1, f1, r2, zm_let]
    by_cases q : r = -2
    · right
      have q' : ¬ ¬ r = -2 := fun h => h q
      simp only [if_neg q']
      exact ⟨_, _, rfl, rfl, rfl, (zo_WF W2 F2).1⟩
    · left
      simp only [if_pos q]
      exact ⟨_, _, rfl, rfl, ⟨rfl, by grind, by grind, F2⟩, zm_up1 (by grind)⟩
  obtain ⟨⟨t1, t2⟩, ⟨t1', t2'⟩, k1, k2, q1, q2⟩ := loop
  dsimp only at q1 q2
  subst q1
  have k1' : l_C_fromWhere_l40 v c2 (-999) = some (t1, t2) := k1
  have k2' : l_M_fromWhere_l32 v (-999, m1) = some (t1, t2') := k2
  simp only [(hy c m).1, (hy c m).2, zm_bs, if_neg z1, if_pos z1, p1, p2, ↓reduceIte, if_neg z3, ed, e1, e3, zo_Wway W, l1, k1', k2', zm_let]
  exact zm_e3 rfl rfl rfl q2
