/-! shift -/
theorem zm_shiftM {d e i j n : Nat} (hd : d < 6) (he : e < 6) (hi : i + n ≤ 60) (hj : j + n ≤ 60) (m : zx_M) : ∃ ma m', l_M_shift_l113 (Int32.ofNat d) (Int32.ofNat i) (Int32.ofNat e) (Int32.ofNat j) (Int32.ofNat n) (0, m) = some ma ∧ l_M_shift_l150 (Int32.ofNat e) (Int32.ofNat j) (Int32.ofNat n) (0, ma) = some (Int32.ofNat n, m') ∧ m'.1 = m.1 ∧ ∀ q, m'.2 21 q = if 60 * e + j ≤ q ∧ q < 60 * e + j + n then m.2 21 (60 * d + i + (q - (60 * e + j))) else m.2 21 q := by
  have one : ∃ ma, l_M_shift_l113 (Int32.ofNat d) (Int32.ofNat i) (Int32.ofNat e) (Int32.ofNat j) (Int32.ofNat n) (0, m) = some ma ∧ ma.1 = m.1 ∧ ma.2 21 = m.2 21 ∧ ∀ q < n, ma.2 22 q = m.2 21 (60 * d + i + q) := by
    unfold l_M_shift_l113
    refine zm_lp1 (fun s : Int32 × zx_M => zm_up (Int32.ofNat n) s.1) (fun s => ∃ k, k ≤ n ∧ s.1 = Int32.ofNat k ∧ s.2.1 = m.1 ∧ s.2.2 21 = m.2 21 ∧ ∀ q < k, s.2.2 22 q = m.2 21 (60 * d + i + q)) _ ?_ zx_N _ ⟨0, by omega, rfl, rfl, rfl, fun q hq => absurd hq (by omega)⟩ (zm_upN (by decide : (-30000 : Int32) ≤ 0) (by grind [zm_g]))
    rintro ⟨y, x⟩ ⟨k, h1, h2, h3, h4, h5⟩
    dsimp only at h2 h3 h4 h5 ⊢
    subst h2
    unfold b_M_shift_l113
    by_cases g : k = n
    · right
      subst g
      simp only [if_pos (Int32.le_refl _)]
      exact ⟨_, rfl, h3, h4, h5⟩
    · left
      have g1 : ¬ Int32.ofNat n ≤ Int32.ofNat k := by grind [zm_g]
      have g2 : 60 * Int32.ofNat d + Int32.ofNat i + Int32.ofNat k = Int32.ofNat (60 * d + i + k) := by simp
      simp only [if_neg g1, g2, zm_ix (show 60 * d + i + k < 360 by omega) (by omega), zm_ix (show k < 60 by omega) (by omega), zm_bs, zm_let]
      refine ⟨_, rfl, ⟨k + 1, by omega, by simp, h3, by simp [zm_u22, h4], fun q hq => ?_⟩, zm_up1 (by grind [zm_g])⟩
      simp only [zm_u22, zm_updL, ↓reduceIte]
      by_cases z : q = k
      · rw [if_pos z, h4, z]
      · rw [if_neg z]; exact h5 q (by omega)
  obtain ⟨ma, o1, o2, o3, o4⟩ := one
  have two : ∃ t : Int32 × zx_M, l_M_shift_l150 (Int32.ofNat e) (Int32.ofNat j) (Int32.ofNat n) (0, ma) = some t ∧ t.1 = Int32.ofNat n ∧ t.2.1 = m.1 ∧ ∀ q, t.2.2 21 q = if 60 * e + j ≤ q ∧ q < 60 * e + j + n then m.2 21 (60 * d + i + (q - (60 * e + j))) else m.2 21 q := by
    unfold l_M_shift_l150
    refine zm_lp1 (fun s : Int32 × zx_M => zm_up (Int32.ofNat n) s.1) (fun s => ∃ k, k ≤ n ∧ s.1 = Int32.ofNat k ∧ s.2.1 = m.1 ∧ (∀ q < n, s.2.2 22 q = m.2 21 (60 * d + i + q)) ∧ ∀ q, s.2.2 21 q = if 60 * e + j ≤ q ∧ q < 60 * e + j + k then m.2 21 (60 * d + i + (q - (60 * e + j))) else m.2 21 q) _ ?_ zx_N _ ⟨0, by omega, rfl, o2, o4, fun q => by rw [if_neg (by omega), o3]⟩ (zm_upN (by decide : (-30000 : Int32) ≤ 0) (by grind [zm_g]))
    rintro ⟨y, x⟩ ⟨k, h1, h2, h3, h4, h5⟩
    dsimp only at h2 h3 h4 h5 ⊢
    subst h2
    unfold b_M_shift_l150
    by_cases g : k = n
    · right
      subst g
      simp only [if_pos (Int32.le_refl _)]
      exact ⟨_, rfl, rfl, h3, h5⟩
    · left
      have g1 : ¬ Int32.ofNat n ≤ Int32.ofNat k := by grind [zm_g]
      have g2 : 60 * Int32.ofNat e + Int32.ofNat j + Int32.ofNat k = Int32.ofNat (60 * e + j + k) := by simp
      simp only [if_neg g1, g2, zm_ix (show 60 * e + j + k < 360 by omega) (by omega), zm_ix (show k < 60 by omega) (by omega), zm_bs, zm_let]
      refine ⟨_, rfl, ⟨k + 1, by omega, by simp, h3, fun q hq => by simpa [zm_u22] using h4 q hq, fun q => ?_⟩, zm_up1 (by grind [zm_g])⟩
      simp only [zm_u22, zm_updL, ↓reduceIte]
      by_cases z : q = 60 * e + j + k
      · rw [if_pos z, if_pos (by omega), h4 k (by omega), z, Nat.add_sub_cancel_left]
      · rw [if_neg z, h5]
        by_cases w : 60 * e + j ≤ q ∧ q < 60 * e + j + k
        · rw [if_pos w, if_pos (by omega)]
        · rw [if_neg w, if_neg (by omega)]
  obtain ⟨⟨t, m'⟩, p1, p2, p3, p4⟩ := two
  dsimp only at p2 p3 p4
  subst p2
  exact ⟨ma, m', o1, p1, p3, p4⟩
theorem zm_rs_shift {h s : Nat → Int32} {it : Nat → Int64} {h' s' : Nat → Int32} {it' : Nat → Int64} {nb : Int32} (R : zm_RS h s it h' s' it' nb) {d e i j n t nd : Nat} (hd : d < 6) (ht : t < 5) (q1 : h d = Int32.ofNat t) (q2 : h e = Int32.ofNat t) (hs : s d = Int32.ofNat nd) (hnd : nd ≤ 60) (hi : i + n ≤ nd) (hj : j + n ≤ 60) {g : Nat → Int64} (hg : ∀ q, g q = if 60 * e + j ≤ q ∧ q < 60 * e + j + n then it' (60 * d + i + (q - (60 * e + j))) else it' q) : zm_RS h s (va_cpy it it (60 * d + i) (60 * e + j) n) h' s' g nb := by
  intro a ha
  rcases R a ha with r | r | ⟨t1, n1, ht1, hn, u1, u2, u3, u4, u5⟩
  · exact Or.inl r
  · exact Or.inr (Or.inl r)
  · refine Or.inr (Or.inr ⟨t1, n1, ht1, hn, u1, u2, u3, u4, fun q hq => ?_⟩)
    rw [hg, zm_cpy]
    by_cases z : 60 * e + j ≤ 60 * a + q ∧ 60 * a + q < 60 * e + j + n
    · have ea : a = e := by omega
      subst ea
      have et : t1 = t := by rw [u1] at q2; grind [zm_g]
      subst et
      rw [if_pos z, if_pos z]
      rcases R d hd with ⟨v1, -⟩ | ⟨w, -, -, v1, -⟩ | ⟨t2, n2, ht2, hn2, v1, v2, v3, v4, v5⟩
      · rw [q1] at v1; exact absurd v1 (by grind [zm_g])
      · rw [q1] at v1; exact absurd v1 (by grind [zm_g])
      · have e2 : t2 = t1 := by rw [v1] at q1; grind [zm_g]
        subst e2
        have e3 : n2 = nd := by rw [v2] at hs; grind [zm_g]
        subst e3
        have := v5 (i + (60 * a + q - (60 * a + j))) (by omega)
        rw [← Nat.add_assoc] at this
        exact this
    · rw [if_neg z, if_neg z]
      exact u5 q hq
theorem zm_stretch {i n : Int32} {s : Nat} (hs : s ≤ 60) (c : zx_M) : f_Shelves_isStretch i n (Int32.ofNat s) c = some (if 0 ≤ n ∧ 0 ≤ i ∧ i ≤ Int32.ofNat s - n then 1 else 0) := by
  unfold f_Shelves_isStretch
  have := zm_g (k := s) (by omega)
  by_cases a : 0 ≤ n ∧ 0 ≤ i ∧ i ≤ Int32.ofNat s - n
  · rw [if_pos a, if_neg (by grind), if_neg (by grind), if_neg (by grind), if_neg (by grind), if_neg (by grind)]
  · rw [if_neg a]
    by_cases b1 : i < 0
    · rw [if_pos b1]
    by_cases b2 : n < 0
    · rw [if_neg b1, if_pos b2]
    have b3 : ¬ 60 < Int32.ofNat s := by grind
    by_cases b4 : Int32.ofNat s < i
    · rw [if_neg b1, if_neg b2, if_neg b3, if_pos b4]
    by_cases b5 : Int32.ofNat s - i < n
    · rw [if_neg b1, if_neg b2, if_neg b3, if_neg b4, if_pos b5]
    exfalso
    obtain ⟨x, hx, rfl⟩ := zm_in (v := i) (n := s + 1) (by omega) b1 (by grind [zm_g])
    have e1 : Int32.ofNat s - Int32.ofNat x = Int32.ofNat (s - x) := (Int32.ofNat_sub s x (by omega)).symm
    rw [e1] at b5
    have h60 : Int32.ofNat (s - x) ≤ 60 := by
      have := zm_g (k := s - x) (by omega)
      grind
    obtain ⟨y, hy, rfl⟩ := zm_in (v := n) (n := 61) (by omega) b2 (by grind)
    have e0 : y ≤ s - x := by
      have := zm_g (k := s - x) (by omega)
      have := zm_g (k := y) (by omega)
      grind
    have e2 : Int32.ofNat s - Int32.ofNat y = Int32.ofNat (s - y) := (Int32.ofNat_sub s y (by omega)).symm
    rw [e2] at a
    have := zm_g (k := s - y) (by omega)
    have := zm_g (k := x) (by omega)
    exact a (by grind [zm_g])
