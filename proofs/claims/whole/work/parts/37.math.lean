/-! jumpers out of a row -/
theorem zm_back64 {x : Int64} (h1 : -128 ≤ x) (h2 : x ≤ 127) : x.toInt32.toInt64 = x := by
  apply Int64.toInt_inj.mp
  rw [Int32.toInt_toInt64, Int64.toInt_toInt32]
  have a1 : (-128 : Int64).toInt ≤ x.toInt := Int64.le_iff_toInt_le.mp h1
  have a2 : x.toInt ≤ (127 : Int64).toInt := Int64.le_iff_toInt_le.mp h2
  have e1 : (-128 : Int64).toInt = -128 := rfl
  have e2 : (127 : Int64).toInt = 127 := rfl
  rw [Int.bmod_def]
  omega
/-- a place of a row of bytes, as the class reads it -/
theorem zm_cellC {c : zx_M} {d t s k : Nat} (hd : d < 6) (ht : t < 5) (hs : s ≤ 60) (hk : k < s) (h1 : c.1 16 d = Int32.ofNat t) (h2 : c.1 17 d = Int32.ofNat s) : f_Shelves_cell (Int32.ofNat d) (Int32.ofNat k) c = some (c.2 18 (60 * d + k)) := by
  have a : 0 ≤ Int32.ofNat d ∧ Int32.ofNat d ≤ 5 := by grind [zm_g]
  have z1 : ¬ ((1 : Int32) = 0) := by decide
  have z2 : ¬ ¬ ((0 : Int32) = 0) := fun h => h rfl
  have b1 : ¬ (Int32.ofNat t = -1) := by grind [zm_g]
  have b2 : ¬ (Int32.ofNat t = -2) := by grind [zm_g]
  have b3 : ¬ Int32.ofNat k < 0 := zm_nn (by omega)
  have b4 : ¬ Int32.ofNat s ≤ Int32.ofNat k := by grind [zm_g]
  have b5 : ¬ 60 ≤ Int32.ofNat k := by grind [zm_g]
  unfold f_Shelves_cell f_Shelves_refusalOfPlace
  simp only [zm_isShelfC, zm_bs, if_pos a, if_pos z1, zm_ix hd (by omega), h1, h2, if_pos b1, if_pos b2, if_neg b3, if_neg b4, if_neg z2, if_neg b5, zm_at60' hd (show k < 60 by omega)]
  simp
theorem zm_sizeC {c : zx_M} {d : Nat} (hd : d < 6) : f_Shelves_size (Int32.ofNat d) c = some (c.1 17 d) := by
  have a : 0 ≤ Int32.ofNat d ∧ Int32.ofNat d ≤ 5 := by grind [zm_g]
  have z1 : ¬ ((1 : Int32) = 0) := by decide
  unfold f_Shelves_size
  simp only [zm_isShelfC, zm_bs, if_pos a, if_neg z1, zm_ix hd (by omega)]
/-- one jumper more out of a row of bytes: both come, or neither -/
theorem zm_oneMore {V : Nat → (Nat → Int32) → Prop} {c m : zx_M} (H : zm_R V c m) {d s p : Nat} (hd : d < 6) (hs : s ≤ 60) (hp : p + 3 ≤ s) (h1 : c.1 16 d = 0) (h2 : c.1 17 d = Int32.ofNat s) (h3 : m.1 19 d = 50) (h4 : m.1 20 d = Int32.ofNat s) : (∃ c' m', f_C_comesFromRow (Int32.ofNat d) (Int32.ofNat p) c = some (1, c') ∧ ¬ 7 ≤ m.1 0 6 ∧ f_M_isOne (m.2 21 (60 * d + p)) (m.2 21 (60 * d + p + 1)) (m.2 21 (60 * d + p + 2)) m = some 1 ∧ f_M_adds (m.2 21 (60 * d + p)).toInt32 (m.2 21 (60 * d + p + 1)).toInt32 (m.2 21 (60 * d + p + 2)).toInt32 m = some m' ∧ (∀ r, ¬ r = 1 → ¬ r = 3 → c'.1 r = c.1 r) ∧ (∀ r, ¬ r = 0 → ¬ r = 1 → m'.1 r = m.1 r) ∧ zm_R V c' m') ∨ (f_C_comesFromRow (Int32.ofNat d) (Int32.ofNat p) c = some (0, c) ∧ (7 ≤ m.1 0 6 ∨ f_M_isOne (m.2 21 (60 * d + p)) (m.2 21 (60 * d + p + 1)) (m.2 21 (60 * d + p + 2)) m = some 0)) := by
  obtain ⟨hN, hK, hT, hL, hS, hD, hP, hB⟩ := id H
  obtain ⟨⟨k, hk, n1, n2⟩, -⟩ := id hN
  have items : ∀ q, q < s → c.2 18 (60 * d + q) = m.2 21 (60 * d + q) ∧ -128 ≤ m.2 21 (60 * d + q) ∧ m.2 21 (60 * d + q) ≤ 127 := by
    rcases hS d hd with ⟨v1, -⟩ | ⟨w, -, -, v1, -⟩ | ⟨t2, n', ht2, hn2, v1, v2, v3, v4, v5⟩
    · rw [h1] at v1; exact absurd v1 (by decide)
    · rw [h1] at v1; exact absurd v1 (by decide)
    · have e2 : t2 = 0 := by rw [v1] at h1; grind [zm_g]
      have e3 : n' = s := by rw [v2] at h2; grind [zm_g]
      subst e3
      exact fun q hq => ⟨(v5 q hq).1, (v5 q hq).2 e2⟩
  have i0 := items p (by omega)
  have i1 := items (p + 1) (by omega)
  have i2 := items (p + 2) (by omega)
  rw [← Nat.add_assoc] at i1 i2
  have h1' : c.1 16 d = Int32.ofNat 0 := h1
  have e0 := zm_cellC (c := c) hd (t := 0) (by omega) hs (show p < s by omega) h1' h2
  have e1 := zm_cellC (c := c) hd (t := 0) (by omega) hs (show p + 1 < s by omega) h1' h2
  have e2 := zm_cellC (c := c) hd (t := 0) (by omega) hs (show p + 2 < s by omega) h1' h2
  rw [← Nat.add_assoc] at e1 e2
  have p1 : Int32.ofNat p + 1 = Int32.ofNat (p + 1) := by simp
  have p2 : Int32.ofNat p + 2 = Int32.ofNat (p + 2) := by simp
  have p0 : ¬ Int32.ofNat p < 0 := zm_nn (by omega)
  have p3 : Int32.ofNat p ≤ Int32.ofNat s - 3 := by grind [zm_g]
  have z0 : (0 : Int32) = 0 := rfl
  have z1 : ¬ ((1 : Int32) = 0) := by decide
  have z2 : ¬ ¬ ((0 : Int32) = 0) := fun h => h rfl
  have o : f_M_isOne (m.2 21 (60 * d + p)) (m.2 21 (60 * d + p + 1)) (m.2 21 (60 * d + p + 2)) m = some (if (1 ≤ (m.2 21 (60 * d + p)).toInt32 ∧ (m.2 21 (60 * d + p)).toInt32 ≤ 9) ∧ (0 ≤ (m.2 21 (60 * d + p + 1)).toInt32 ∧ (m.2 21 (60 * d + p + 1)).toInt32 ≤ 9) ∧ (0 ≤ (m.2 21 (60 * d + p + 2)).toInt32 ∧ (m.2 21 (60 * d + p + 2)).toInt32 ≤ 1) then 1 else 0) := by
    have := zm_isOneM (m.2 21 (60 * d + p)).toInt32 (m.2 21 (60 * d + p + 1)).toInt32 (m.2 21 (60 * d + p + 2)).toInt32 m (z := m.2 21 (60 * d + p + 2)) (zm_back64 i2.2.1 i2.2.2).symm
    rw [zm_back64 i0.2.1 i0.2.2, zm_back64 i1.2.1 i1.2.2] at this
    exact this
  rw [o]
  unfold f_C_comesFromRow
  simp only [if_neg p0, zm_sizeC hd, h2, zm_bs, zm_let, if_pos p3, p1, p2, e0, e1, e2, i0.1, i1.1, i2.1, zm_fit0 hN, zm_fit1 hN, zm_fit2 hN]
  generalize (m.2 21 (60 * d + p)).toInt32 = x
  generalize (m.2 21 (60 * d + p + 1)).toInt32 = y
  generalize (m.2 21 (60 * d + p + 2)).toInt32 = z
  by_cases q1 : 1 ≤ x ∧ x ≤ 9
  · by_cases q2 : 0 ≤ y ∧ y ≤ 9
    · by_cases q3 : 0 ≤ z ∧ z ≤ 1
      · simp only [if_pos q1, if_pos q2, if_pos q3, if_neg z1, if_pos z1, if_pos (And.intro q1 (And.intro q2 q3))]
        by_cases g : k = 7
        · right
          have g2 : ¬ c.1 1 2 < 7 := by rw [n1, g]; decide
          unfold f_Numbers_welcome
          simp only [if_neg g2, zm_bs]
          exact ⟨rfl, Or.inl (by rw [n2, g]; decide)⟩
        · left
          obtain ⟨c', m', f1, f2, f3, f4, f5, f6, f7, f8⟩ := zm_welcome H (k := k) (by omega) n2 q1 q2 q3
          have g3 : ¬ Int32.ofNat k = -3 := by grind [zm_g]
          simp only [f1, zm_bs, if_neg g3]
          exact ⟨c', m', rfl, by rw [n2]; grind [zm_g], trivial, f2, f4, f6, f8⟩
      · right
        have n : ¬ ((1 ≤ x ∧ x ≤ 9) ∧ (0 ≤ y ∧ y ≤ 9) ∧ 0 ≤ z ∧ z ≤ 1) := fun h => q3 h.2.2
        simp only [if_pos q1, if_pos q2, if_neg q3, if_neg z1, if_neg z2, if_neg n]
        exact ⟨rfl, Or.inr trivial⟩
    · right
      have n : ¬ ((1 ≤ x ∧ x ≤ 9) ∧ (0 ≤ y ∧ y ≤ 9) ∧ 0 ≤ z ∧ z ≤ 1) := fun h => q2 h.2.1
      simp only [if_pos q1, if_neg q2, if_neg z1, if_pos z0, if_neg n]
      exact ⟨rfl, Or.inr trivial⟩
  · right
    have n : ¬ ((1 ≤ x ∧ x ≤ 9) ∧ (0 ≤ y ∧ y ≤ 9) ∧ 0 ≤ z ∧ z ≤ 1) := fun h => q1 h.1
    simp only [if_neg q1, if_pos z0, if_neg n]
    exact ⟨rfl, Or.inr trivial⟩
