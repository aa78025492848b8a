/-! last -/
def zl_P (off : Nat → Int32) (S : Nat → Prop) (b l : Int32) : Prop := (b = -2 ∧ ∀ s, ¬ S s) ∨ ∃ j, S j ∧ b = Int32.ofNat j ∧ j < 7 ∧ l = off j ∧ ∀ s, S s → off j ≤ off s ∧ (off s = off j → j ≤ s)
theorem zl_one {off : Nat → Int32} {S : Nat → Prop} {b l b' l' : Int32} (h : zl_P off S b l) (h' : zl_P off S b' l') : b = b' := by
  rcases h with ⟨h1, h2⟩ | ⟨j, j1, j2, j3, j4, j5⟩
  · rcases h' with ⟨k1, k2⟩ | ⟨k, k1, k2, k3, k4, k5⟩
    · rw [h1, k1]
    · exact absurd k1 (h2 k)
  · rcases h' with ⟨k1, k2⟩ | ⟨k, k1, k2, k3, k4, k5⟩
    · exact absurd j1 (k2 j)
    · have a := j5 k k1
      have c := k5 j j1
      have e : off j = off k := Int32.le_antisymm a.1 c.1
      have e2 := a.2 e.symm
      have e3 := c.2 e
      have e4 : j = k := by omega
      rw [j2, k2, e4]
theorem zl_take {off : Nat → Int32} {S S' : Nat → Prop} {b l : Int32} {j : Nat} (h : zl_P off S b l) (hj : j < 7) (hS : ∀ s, S' s ↔ S s ∨ s = j) (t : b = -2 ∨ off j < l ∨ (off j = l ∧ Int32.ofNat j < b)) : zl_P off S' (Int32.ofNat j) (off j) := by
  refine Or.inr ⟨j, (hS j).mpr (Or.inr rfl), rfl, hj, rfl, fun s hs => ?_⟩
  rcases (hS s).mp hs with h1 | h1
  · rcases h with ⟨h2, h3⟩ | ⟨k, k1, k2, k3, k4, k5⟩
    · exact absurd h1 (h3 s)
    · have a := k5 s h1
      have kb : ¬ b = -2 := by rw [k2]; grind [zm_g]
      rcases t with t | t | ⟨t, t2⟩
      · exact absurd t kb
      · rw [k4] at t
        refine ⟨by grind, fun e => ?_⟩
        exfalso
        grind
      · rw [k4] at t
        refine ⟨by grind, fun e => ?_⟩
        have := a.2 (by rw [e, t])
        rw [k2] at t2
        have g1 := zm_g (k := k) (by omega)
        have g2 := zm_g (k := j) (by omega)
        have : j < k := by grind
        omega
  · subst h1
    exact ⟨Int32.le_refl _, fun _ => Nat.le_refl _⟩
theorem zl_keep {off : Nat → Int32} {S S' : Nat → Prop} {b l : Int32} {j : Nat} (h : zl_P off S b l) (hj : j < 7) (hS : ∀ s, S' s ↔ S s ∨ s = j) (hb : ¬ b = -2) (t : l < off j ∨ (off j = l ∧ b ≤ Int32.ofNat j)) : zl_P off S' b l := by
  rcases h with ⟨h2, h3⟩ | ⟨k, k1, k2, k3, k4, k5⟩
  · exact absurd h2 hb
  · refine Or.inr ⟨k, (hS k).mpr (Or.inl k1), k2, k3, k4, fun s hs => ?_⟩
    rcases (hS s).mp hs with h1 | h1
    · exact k5 s h1
    · subst h1
      rw [k4] at t
      rcases t with t | ⟨t, t2⟩
      · refine ⟨by grind, fun e => ?_⟩
        exfalso
        grind
      · refine ⟨by grind, fun _ => ?_⟩
        rw [k2] at t2
        have g1 := zm_g (k := k) (by omega)
        have g2 := zm_g (k := s) (by omega)
        grind
theorem zl_same {off : Nat → Int32} {S S' : Nat → Prop} {b l : Int32} (h : zl_P off S b l) (hS : ∀ s, S' s ↔ S s) : zl_P off S' b l := by
  have : S' = S := funext (fun s => propext (hS s))
  rw [this]
  exact h
/-- the class looks for the last -/
theorem zl_C {c : zx_M} {n J : Nat} {g : Nat → Nat} (R : zo_Rc c n J g) (h1 : c.1 1 2 = Int32.ofNat J) (out : Int32) : ∃ b l, l_C_last_l60 out c (-2, 0, 0) = some (b, c) ∧ zl_P (fun j => zx_abs (out + c.1 21 j - (c.1 2 0 + c.1 2 1) / 2)) (fun s => ∃ k < n, g k = s) b l := by
  obtain ⟨r1, r2, r3, r4⟩ := R
  have t4 : f_Numbers_told 0 4 c = _ := zm_told_f (k := 0) (by omega) rfl
  have t5 : f_Numbers_told 0 5 c = _ := zm_told_f (k := 1) (by omega) rfl
  have key : ∃ t, l_C_last_l60 out c (-2, 0, 0) = some t ∧ (t.2 = c ∧ ∃ l, zl_P (fun j => zx_abs (out + c.1 21 j - (c.1 2 0 + c.1 2 1) / 2)) (fun s => ∃ k < n, g k = s) t.1 l) := by
    unfold l_C_last_l60
    refine zm_lp1 (fun s : Int32 × Int32 × Int32 => zm_up (Int32.ofNat J) s.2.2) (fun s => ∃ q, q ≤ J ∧ s.2.2 = Int32.ofNat q ∧ zl_P (fun j => zx_abs (out + c.1 21 j - (c.1 2 0 + c.1 2 1) / 2)) (fun s => s < q ∧ ∃ k < n, g k = s) s.1 s.2.1) _ ?_ zx_N _ ⟨0, by omega, rfl, Or.inl ⟨rfl, fun s h => absurd h.1 (by omega)⟩⟩ (zm_upN (by decide : (-30000 : Int32) ≤ 0) (by grind [zm_g]))
    rintro ⟨b, l, q'⟩ ⟨q, hq, h2, h3⟩
    dsimp only at h2 h3 ⊢
    subst h2
    unfold b_C_last_l60 f_Numbers_jumpersThere
    rw [h1]
    by_cases e : q = J
    · right
      subst e
      simp only [zm_bs, if_pos (Int32.le_refl _)]
      refine ⟨_, rfl, rfl, l, zl_same h3 (fun s => ?_)⟩
      constructor
      · rintro ⟨k, k1, k2⟩
        exact ⟨by have := (r4 k k1).1; omega, k, k1, k2⟩
      · exact fun h => h.2
    · left
      have g1 : ¬ Int32.ofNat J ≤ Int32.ofNat q := by grind [zm_g]
      have hq7 : q < 7 := by omega
      have b1 : ¬ Int32.ofNat q < 0 := zm_nn (by omega)
      have b2 : ¬ 7 ≤ Int32.ofNat q := by grind [zm_g]
      have a1 : Int32.ofNat q + 1 = Int32.ofNat (q + 1) := by simp
      have hup : zm_up (Int32.ofNat J) (Int32.ofNat (q + 1)) < zm_up (Int32.ofNat J) (Int32.ofNat q) := by
        rw [← a1]; exact zm_up1 (by grind [zm_g])
      have hc : f_C_carriedOf (Int32.ofNat q) c = some (c.1 21 q) := by
        unfold f_C_carriedOf
        rw [if_neg b1, if_neg b2, zm_ix hq7 (by omega), zm_bs]
      have hf : f_Numbers_fromMiddle (out + c.1 21 q) c = some (zx_abs (out + c.1 21 q - (c.1 2 0 + c.1 2 1) / 2)) := by
        unfold f_Numbers_fromMiddle
        rw [t4, zm_bs, t5, zm_bs]
      have hh := zo_has (c := c) (n := n) (j := q) (g := g) r1 r3 hq7 (fun k hk => ⟨by have := (r4 k hk).1; omega, (r4 k hk).2⟩)
      unfold n_C_last_b60_116 n_C_last_b60_124
      simp only [zm_bs, if_neg g1, hc, hf, hh, zm_let, a1]
      cases hany : zj_any n (fun k => decide (g k = q))
      · have nS : ¬ ∃ k < n, g k = q := by
          rintro ⟨k, k1, k2⟩
          have : zj_any n (fun k => decide (g k = q)) = true := zj_any_iff.mpr ⟨k, k1, decide_eq_true k2⟩
          rw [hany] at this
          exact absurd this (by decide)
        simp only [Bool.false_eq_true, ↓reduceIte]
        refine ⟨_, rfl, ⟨q + 1, by omega, rfl, zl_same h3 (fun s => ?_)⟩, hup⟩
        constructor
        · rintro ⟨s1, s2⟩
          refine ⟨?_, s2⟩
          by_cases f : s = q
          · subst f; exact absurd s2 nS
          · omega
        · exact fun h => ⟨by omega, h.2⟩
      · have iS : ∃ k < n, g k = q := by
          obtain ⟨k, k1, k2⟩ := zj_any_iff.mp hany
          exact ⟨k, k1, of_decide_eq_true k2⟩
        have z1 : ¬ ((1 : Int32) = 0) := by decide
        have ext : ∀ s, (s < q + 1 ∧ ∃ k < n, g k = s) ↔ (s < q ∧ ∃ k < n, g k = s) ∨ s = q := by
          intro s
          constructor
          · rintro ⟨s1, s2⟩
            by_cases f : s = q
            · exact Or.inr f
            · exact Or.inl ⟨by omega, s2⟩
          · rintro (h | h)
            · exact ⟨by omega, h.2⟩
            · subst h; exact ⟨by omega, iS⟩
        simp only [↓reduceIte, if_neg z1]
        by_cases w : b = -2
        · simp only [if_pos w]
          exact ⟨_, rfl, ⟨q + 1, by omega, rfl, zl_take h3 hq7 ext (Or.inl w)⟩, hup⟩
        · simp only [if_neg w]
          by_cases y : l ≤ zx_abs (out + c.1 21 q - (c.1 2 0 + c.1 2 1) / 2)
          · simp only [if_pos y]
            refine ⟨_, rfl, ⟨q + 1, by omega, rfl, zl_keep h3 hq7 ext w ?_⟩, hup⟩
            by_cases y2 : zx_abs (out + c.1 21 q - (c.1 2 0 + c.1 2 1) / 2) = l
            · refine Or.inr ⟨y2, ?_⟩
              rcases h3 with ⟨x1, -⟩ | ⟨x, x1, x2, x3, -⟩
              · exact absurd x1 w
              · rw [x2]
                have := x1.1
                grind [zm_g]
            · exact Or.inl (by grind)
          · simp only [if_neg y]
            exact ⟨_, rfl, ⟨q + 1, by omega, rfl, zl_take h3 hq7 ext (Or.inr (Or.inl (Int32.not_le.mp y)))⟩, hup⟩
  obtain ⟨⟨b, c'⟩, e1, e2, l, e3⟩ := key
  dsimp only at e2 e3
  subst e2
  exact ⟨b, l, e1, e3⟩
/-- and the reference -/
theorem zl_M {m : zx_M} {n J : Nat} {g : Nat → Nat} (R : zo_Rm m n J g) (hg : ∀ k < n, ∀ o < n, g o = g k → o = k) (out mid : Int32) : ∃ b l, l_M_last_l124 out mid m (-2, 0, 0) = some (b, m) ∧ zl_P (fun j => zx_abs (out + m.1 11 j - mid)) (fun s => ∃ k < n, g k = s) b l := by
  obtain ⟨r1, r2, r3, r4⟩ := R
  have key : ∃ t, l_M_last_l124 out mid m (-2, 0, 0) = some t ∧ (t.2 = m ∧ ∃ l, zl_P (fun j => zx_abs (out + m.1 11 j - mid)) (fun s => ∃ k < n, g k = s) t.1 l) := by
    unfold l_M_last_l124
    refine zm_lp1 (fun s : Int32 × Int32 × Int32 => zm_up (Int32.ofNat n) s.2.2) (fun s => ∃ q, q ≤ n ∧ s.2.2 = Int32.ofNat q ∧ zl_P (fun j => zx_abs (out + m.1 11 j - mid)) (fun s => ∃ k < q, g k = s) s.1 s.2.1) _ ?_ zx_N _ ⟨0, by omega, rfl, Or.inl ⟨rfl, fun s h => by obtain ⟨k, h1, -⟩ := h; omega⟩⟩ (zm_upN (by decide : (-30000 : Int32) ≤ 0) (by grind [zm_g]))
    rintro ⟨b, l, q'⟩ ⟨q, hq, h2, h3⟩
    dsimp only at h2 h3 ⊢
    subst h2
    unfold b_M_last_l124
    rw [r3]
    by_cases e : q = n
    · right
      subst e
      simp only [if_pos (Int32.le_refl _)]
      exact ⟨_, rfl, rfl, l, h3⟩
    · left
      have hqn : q < n := by omega
      obtain ⟨g1, g2⟩ := r4 q hqn
      have g7 : g q < 7 := by omega
      have gn : ¬ Int32.ofNat n ≤ Int32.ofNat q := by grind [zm_g]
      have a1 : Int32.ofNat q + 1 = Int32.ofNat (q + 1) := by simp
      have hup : zm_up (Int32.ofNat n) (Int32.ofNat (q + 1)) < zm_up (Int32.ofNat n) (Int32.ofNat q) := by
        rw [← a1]; exact zm_up1 (by grind [zm_g])
      have ext : ∀ s, (∃ k < q + 1, g k = s) ↔ (∃ k < q, g k = s) ∨ s = g q := by
        intro s
        constructor
        · rintro ⟨k, k1, k2⟩
          by_cases f : k = q
          · subst f; exact Or.inr k2.symm
          · exact Or.inl ⟨k, by omega, k2⟩
        · rintro (⟨k, k1, k2⟩ | h)
          · exact ⟨k, by omega, k2⟩
          · exact ⟨q, by omega, h.symm⟩
      have z1 : ¬ ((1 : Int32) = 0) := by decide
      unfold n_M_last_b124_187 n_M_last_b124_191 n_M_last_b124_192 n_M_last_b124_211 n_M_last_b124_225
      simp only [if_neg gn, zm_ix (show q < 7 by omega) (by omega), zm_bs, g2, zm_ix g7 (by omega), zm_abs, if_neg z1, zm_let, a1, ↓reduceIte]
      have bn : b = -2 ∨ ¬ b < 0 := by
        rcases h3 with ⟨x1, -⟩ | ⟨x, x1, x2, x3, -⟩
        · exact Or.inl x1
        · rw [x2]; exact Or.inr (zm_nn (by omega))
      rcases bn with w | w
      · have w' : b < 0 := by rw [w]; decide
        simp only [if_pos w']
        exact ⟨_, rfl, ⟨q + 1, by omega, rfl, zl_take h3 g7 ext (Or.inl w)⟩, hup⟩
      · have w2 : ¬ b = -2 := fun h => by rw [h] at w; exact w (by decide)
        simp only [if_neg w]
        by_cases y : zx_abs (out + m.1 11 (g q) - mid) < l
        · simp only [if_pos y]
          exact ⟨_, rfl, ⟨q + 1, by omega, rfl, zl_take h3 g7 ext (Or.inr (Or.inl y))⟩, hup⟩
        · simp only [if_neg y]
          by_cases y2 : zx_abs (out + m.1 11 (g q) - mid) = l
          · have y2' : ¬ ¬ zx_abs (out + m.1 11 (g q) - mid) = l := fun h => h y2
            simp only [if_neg y2']
            by_cases y3 : b ≤ Int32.ofNat (g q)
            · simp only [if_pos y3]
              exact ⟨_, rfl, ⟨q + 1, by omega, rfl, zl_keep h3 g7 ext w2 (Or.inr ⟨y2, y3⟩)⟩, hup⟩
            · simp only [if_neg y3]
              exact ⟨_, rfl, ⟨q + 1, by omega, rfl, zl_take h3 g7 ext (Or.inr (Or.inr ⟨y2, Int32.not_le.mp y3⟩))⟩, hup⟩
          · simp only [if_pos y2]
            exact ⟨_, rfl, ⟨q + 1, by omega, rfl, zl_keep h3 g7 ext w2 (Or.inl (by grind))⟩, hup⟩
  obtain ⟨⟨b, c'⟩, e1, e2, l, e3⟩ := key
  dsimp only at e2 e3
  subst e2
  exact ⟨b, l, e1, e3⟩
theorem t_last {c m : zx_M} (H : zm_R zq_V c m) (v w : Int32) : zm_ok zq_V (f_C_last v w) (f_M_last v w) c m := by
  have z1 : ¬ ((1 : Int32) = 0) := by decide
  have z2 : ¬ ¬ ((0 : Int32) = 0) := fun h => h rfl
  have z4 : ¬ ((1 : Int32) = -1) := by decide
  have z5 : (0 : Int32) ≤ 1 := by decide
  unfold zm_ok f_C_last f_M_last
  rcases zo_isYc w with hy | hy
  rotate_left
  · obtain ⟨r0, hr0⟩ := zo_bad1 H v
    simp only [(hy c m).1, (hy c m).2, zm_bs, if_neg z2, hr0]
    by_cases q : r0 = -1
    · simp only [if_pos q]
      exact zm_e3 rfl rfl rfl H
    · simp only [if_neg q]
      exact zm_e3 rfl rfl rfl H
  simp only [(hy c m).1, (hy c m).2, zm_bs, if_pos z1]
  rcases zo_read H v (zx_rem w 100) with ⟨c1, m1, n, J, g, d, s, e1, e2, e3, e4, e5, W, e7, -⟩ | ⟨r, e1, e2, hr⟩
  rotate_left
  · have rr := zo_rNeg hr
    simp only [e1, e2, zm_bs, if_neg rr.1, if_neg rr.2.2]
    by_cases q : r = -1
    · simp only [if_pos q]
      exact zm_e3 rfl rfl q H
    · simp only [if_neg q]
      exact zm_e3 rfl rfl rfl H
  obtain ⟨H1, hn7, hJ7, r3, r4, r5, r6, r7, r8, r9⟩ := id W
  obtain ⟨w1, w2, w3, w4, w5⟩ := zo_Wnum W
  have i28 : zx_ix 36 28 = some 28 := zm_ix (k := 28) (by omega) (by omega)
  have i29 : zx_ix 36 29 = some 29 := zm_ix (k := 29) (by omega) (by omega)
  have i31 : zx_ix 36 31 = some 31 := zm_ix (k := 31) (by omega) (by omega)
  have t7 : f_Numbers_told 0 7 c1 = _ := zm_told_f (k := 3) (by omega) rfl
  have hah : ∀ sec : Int32, f_C_ahead sec (m1.1 0 21) c1 = some (zo_ah (m1.1 1 31) (m1.1 0 21) sec) := by
    intro sec
    unfold f_C_ahead zo_ah
    rw [t7, zm_bs, zm_let, w4]
    by_cases y : m1.1 0 21 = 0
    · have y' : ¬ ¬ m1.1 0 21 = 0 := fun h => h y
      rw [if_neg y', if_neg y']
    · rw [if_pos y, if_pos y]
  have h92 : ∀ F : Int32, n_M_last_n74 w F m1 = n_M_last_n92 (w / 100 - 999) (if ¬ m1.1 0 21 = 0 then -F else F) m1 := by
    intro F
    unfold n_M_last_n74
    rw [zm_spotM, zm_bs]
    by_cases y : m1.1 0 21 = 0
    · have y' : ¬ ¬ m1.1 0 21 = 0 := fun h => h y
      rw [if_neg y', if_neg y']
    · rw [if_pos y, if_pos y]
  unfold f_Order_size
  simp only [e1, e2, e3, zm_bs, ↓reduceIte, if_neg z4, if_pos z5, zm_spotC, r3, zm_countOfC, zo_Wway W, hah, zm_let, r4, h92]
  obtain ⟨b, l, f1, f2⟩ := zl_C (zo_WRc W) r5 (w / 100 - 999 + zo_ah (m1.1 1 31) (m1.1 0 21) ((Int32.ofNat n - 1) * zx_rem w 100))
  simp only [f1, zm_bs]
  unfold n_M_last_n92
  simp only [i28, i29, i31, zm_bs, zm_let]
  by_cases q : n = 0
  · subst q
    have q' : ¬ ¬ Int32.ofNat 0 = 0 := fun h => h rfl
    obtain ⟨b', l', g1, g2⟩ := zl_M (zo_WRm W) (fun k hk => absurd hk (by omega)) (w / 100 - 999 + (if ¬ m1.1 0 21 = 0 then -0 else 0)) ((m1.1 1 28 + m1.1 1 29) / 2)
    simp only [if_neg q', g1, zm_bs]
    refine zm_e3 rfl rfl ?_ H1
    have emp : ∀ s, ¬ ∃ k < 0, g k = s := fun s h => by obtain ⟨k, h1, -⟩ := h; omega
    rcases f2 with ⟨h1, -⟩ | ⟨j, j1, -⟩
    · rcases g2 with ⟨h2, -⟩ | ⟨j, j1, -⟩
      · rw [h1, h2]
      · exact absurd j1 (emp j)
    · exact absurd j1 (emp j)
  · have q' : ¬ Int32.ofNat n = 0 := by grind [zm_g]
    have en : Int32.ofNat n - 1 = Int32.ofNat (n - 1) := by
      have := zm_g (k := n) (by omega)
      have := zm_g (k := n - 1) (by omega)
      grind
    obtain ⟨b', l', g1, g2⟩ := zl_M (zo_WRm W) (fun k hk => (r7 k hk).2.2.2) (w / 100 - 999 + (if ¬ m1.1 0 21 = 0 then -(m1.1 1 31 * m1.1 9 (n - 1)) else m1.1 1 31 * m1.1 9 (n - 1))) ((m1.1 1 28 + m1.1 1 29) / 2)
    simp only [if_pos q', en, zm_ix (show n - 1 < 7 by omega) (by omega), zm_bs, g1]
    refine zm_e3 rfl rfl ?_ H1
    have eo : zo_ah (m1.1 1 31) (m1.1 0 21) ((Int32.ofNat n - 1) * zx_rem w 100) = (if ¬ m1.1 0 21 = 0 then -(m1.1 1 31 * m1.1 9 (n - 1)) else m1.1 1 31 * m1.1 9 (n - 1)) := by
      unfold zo_ah
      have : (Int32.ofNat n - 1) * zx_rem w 100 = m1.1 9 (n - 1) := by rw [e7 (n - 1) (by omega), en]; grind
      rw [this]
    rw [eo, w1, w2] at f2
    refine zl_one (l := l) (l' := l') ?_ g2
    -- the same distance for those in the order
    rcases f2 with h1 | ⟨j, j1, j2, j3, j4, j5⟩
    · exact Or.inl h1
    · have cr : ∀ s, (∃ k < n, g k = s) → c1.1 21 s = m1.1 11 s := by
        rintro s ⟨k, k1, k2⟩
        exact r8 s (by rw [← k2]; exact (r7 k k1).1)
      refine Or.inr ⟨j, j1, j2, j3, ?_, fun s hs => ?_⟩
      · rw [j4]
        show zx_abs _ = zx_abs _
        rw [cr j j1]
      · have := j5 s hs
        show zx_abs _ ≤ zx_abs _ ∧ (zx_abs _ = zx_abs _ → _)
        rw [← cr j j1, ← cr s hs]
        exact this
