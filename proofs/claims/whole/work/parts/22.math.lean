/-! shelves -/
theorem zm_rs {h s : Nat → Int32} {it : Nat → Int64} {h' s' : Nat → Int32} {it' : Nat → Int64} {nb : Int32} (R : zm_RS h s it h' s' it' nb) {d : Nat} (hd : d < 6) : (h d = -1 ∧ s d = 0 ∧ h' d = -1 ∧ s' d = 0) ∨ (∃ w : Nat, w < 50 ∧ Int32.ofNat w < nb ∧ h d = -2 ∧ s d = Int32.ofNat w ∧ h' d = Int32.ofNat w ∧ s' d = 0) ∨ ∃ t n : Nat, t < 5 ∧ n ≤ 60 ∧ h d = Int32.ofNat t ∧ s d = Int32.ofNat n ∧ h' d = Int32.ofNat (50 + t) ∧ s' d = Int32.ofNat n ∧ ∀ i < n, it (60 * d + i) = it' (60 * d + i) ∧ (t = 0 → -128 ≤ it' (60 * d + i) ∧ it' (60 * d + i) ≤ 127) := R d hd
/-- whether a place of a shelf is there: both sides say the same; where 0, the place and what lies there -/
theorem zm_refP {c m : zx_M} {nb : Int32} (R : zm_RS (c.1 16) (c.1 17) (c.2 18) (m.1 19) (m.1 20) (m.2 21) nb) (v i : Int32) : ∃ r, f_Shelves_refusalOfPlace v i c = some r ∧ f_M_refusal v i m = some r ∧ (r = 0 → ∃ d k t n : Nat, d < 6 ∧ k < n ∧ n ≤ 60 ∧ t < 5 ∧ v = Int32.ofNat d ∧ i = Int32.ofNat k ∧ c.1 16 d = Int32.ofNat t ∧ c.1 17 d = Int32.ofNat n ∧ m.1 19 d = Int32.ofNat (50 + t) ∧ m.1 20 d = Int32.ofNat n ∧ ∀ j < n, c.2 18 (60 * d + j) = m.2 21 (60 * d + j) ∧ (t = 0 → -128 ≤ m.2 21 (60 * d + j) ∧ m.2 21 (60 * d + j) ≤ 127)) := by
  unfold f_Shelves_refusalOfPlace f_M_refusal
  simp only [zm_isShelfC, zm_isShelfM, zm_bs]
  by_cases a : 0 ≤ v ∧ v ≤ 5
  · obtain ⟨d, hd, rfl⟩ := zm_in (v := v) (n := 6) (by omega) (by grind) (by grind)
    have a4 : ¬ ((1 : Int32) = 0) := by decide
    simp only [if_pos a, if_pos a4, zm_ix hd (by omega), zm_bs]
    rcases R d hd with ⟨q1, q2, q3, q4⟩ | ⟨w, hw, -, q1, q2, q3, q4⟩ | ⟨t, n, ht, hn, q1, q2, q3, q4, q5⟩
    · have b1 : ¬ ¬ ((-1 : Int32) = -1) := by decide
      have b2 : ¬ ((0 : Int32) ≤ -1) := by decide
      simp only [q1, q3, if_neg b1, if_neg b2]
      exact ⟨_, rfl, rfl, fun h => absurd h (by decide)⟩
    · have b1 : ¬ ((-2 : Int32) = -1) := by decide
      have b0 : ¬ ¬ ((-2 : Int32) = -2) := by decide
      have b2 : (0 : Int32) ≤ Int32.ofNat w := Int32.zero_le_ofNat_of_lt (by omega)
      have b3 : ¬ 50 ≤ Int32.ofNat w := by grind [zm_g]
      simp only [q1, q3, if_pos b1, if_neg b0, if_pos b2, if_neg b3]
      exact ⟨_, rfl, rfl, fun h => absurd h (by decide)⟩
    · have b1 : ¬ (Int32.ofNat t = -1) := by grind [zm_g]
      have b0 : ¬ (Int32.ofNat t = -2) := by grind [zm_g]
      have b2 : (0 : Int32) ≤ Int32.ofNat (50 + t) := Int32.zero_le_ofNat_of_lt (by omega)
      have b3 : 50 ≤ Int32.ofNat (50 + t) := by grind [zm_g]
      simp only [q1, q3, if_pos b1, if_pos b0, if_pos b2, if_pos b3, q2, q4]
      by_cases e : i < 0
      · simp only [if_pos e]
        exact ⟨_, rfl, rfl, fun h => absurd h (by decide)⟩
      by_cases g : Int32.ofNat n ≤ i
      · simp only [if_neg e, if_pos g]
        exact ⟨_, rfl, rfl, fun h => absurd h (by decide)⟩
      · simp only [if_neg e, if_neg g]
        obtain ⟨k, hk, rfl⟩ := zm_in (v := i) (n := n) (by omega) e g
        exact ⟨_, rfl, rfl, fun _ => ⟨d, k, t, n, hd, hk, hn, ht, rfl, rfl, q1, q2, q3, q4, q5⟩⟩
  · have a4 : ¬ ¬ ((0 : Int32) = 0) := by decide
    simp only [if_neg a, if_neg a4]
    exact ⟨_, rfl, rfl, fun h => absurd h (by decide)⟩
theorem zm_at60 {d k : Nat} (hd : d < 6) (hk : k < 60) : zx_ix 360 (60 * Int32.ofNat d + Int32.ofNat k) = some (60 * d + k) := by
  rw [show 60 * Int32.ofNat d + Int32.ofNat k = Int32.ofNat (60 * d + k) by simp]
  exact zm_ix (by omega) (by omega)
theorem zm_at60' {d k : Nat} (hd : d < 6) (hk : k < 60) : zx_ix 360 (Int32.ofNat d * 60 + Int32.ofNat k) = some (60 * d + k) := by
  rw [show Int32.ofNat d * 60 + Int32.ofNat k = 60 * Int32.ofNat d + Int32.ofNat k by grind]
  exact zm_at60 hd hk
theorem zm_ok0 {V : Nat → (Nat → Int32) → Prop} {α : Type} {fC fM : zx_M → Option α} {c m : zx_M} (h : zm_R V c m) (e : ∃ r, fC c = some r ∧ fM m = some r) : zm_ok V (fun c => (fC c).map (fun r => (r, c))) (fun m => (fM m).map (fun r => (r, m))) c m := by
  obtain ⟨r, h1, h2⟩ := e
  exact ⟨r, c, m, by simp [h1], by simp [h2], h⟩
theorem t_element {c m : zx_M} {nb : Int32} (R : zm_RS (c.1 16) (c.1 17) (c.2 18) (m.1 19) (m.1 20) (m.2 21) nb) (v i : Int32) : ∃ r, f_C_element v i c = some r ∧ f_M_element v i m = some r := by
  obtain ⟨r, h1, h2, h3⟩ := zm_refP R v i
  unfold f_C_element f_M_element f_Shelves_cell
  simp only [h1, h2, zm_bs]
  by_cases a : r = 0
  · obtain ⟨d, k, t, n, hd, hk, hn, ht, rfl, rfl, -, -, -, -, q⟩ := h3 a
    have b : ¬ 60 ≤ Int32.ofNat k := by grind [zm_g]
    have a' : ¬ ¬ r = 0 := fun h => h a
    simp only [if_pos a, if_neg a', if_neg b, zm_at60 hd (Nat.lt_of_lt_of_le hk hn), zm_at60' hd (Nat.lt_of_lt_of_le hk hn), zm_bs, (q k hk).1]
    exact ⟨_, rfl, rfl⟩
  · simp only [if_neg a, if_pos a]
    exact ⟨_, rfl, rfl⟩
theorem zm_low (t : Int32) (v : Int64) (c m : zx_M) : f_Shelves_lowestBits t v c = f_M_asSort t v m := by
  unfold f_Shelves_lowestBits f_M_asSort
  by_cases a0 : t = 0
  · simp [a0]
  by_cases a1 : t = 1
  · simp [a1]
  by_cases a2 : t = 2
  · simp [a2]
  by_cases a3 : t = 3
  · simp [a3]
  by_cases a4 : t = 4
  · simp [a4]
  · simp [a0, a1, a2, a3, a4]
theorem zm_i2b (v : Int32) : -128 ≤ (zx_i2b v).toInt64 ∧ (zx_i2b v).toInt64 ≤ 127 := by
  have h : -128 ≤ zx_i2b v ∧ zx_i2b v ≤ 127 := by
    have h1 := v.toInt8.le_toInt
    have h2 := v.toInt8.toInt_lt
    constructor
    · rw [Int32.le_iff_toInt_le]
      show (-128 : Int32).toInt ≤ (v.toInt8.toInt32).toInt
      rw [Int8.toInt_toInt32]
      exact h1
    · rw [Int32.le_iff_toInt_le]
      show (v.toInt8.toInt32).toInt ≤ (127 : Int32).toInt
      rw [Int8.toInt_toInt32]
      have : (127 : Int32).toInt = 127 := rfl
      omega
  grind [zm_gl]
theorem zm_rs_put {h s : Nat → Int32} {it : Nat → Int64} {h' s' : Nat → Int32} {it' : Nat → Int64} {nb : Int32} (R : zm_RS h s it h' s' it' nb) {d k t : Nat} (hk : k < 60) (ht : t < 5) (q : h d = Int32.ofNat t) {x : Int64} (hx : t = 0 → -128 ≤ x ∧ x ≤ 127) : zm_RS h s (vp_updL it (60 * d + k) x) h' s' (vp_updL it' (60 * d + k) x) nb := by
  intro e he
  rcases R e he with r | r | ⟨t1, n, ht1, hn, q1, q2, q3, q4, q5⟩
  · exact Or.inl r
  · exact Or.inr (Or.inl r)
  · refine Or.inr (Or.inr ⟨t1, n, ht1, hn, q1, q2, q3, q4, fun i hi => ?_⟩)
    simp only [zm_updL]
    by_cases g : 60 * e + i = 60 * d + k
    · have ed : e = d := by omega
      subst ed
      have et : t1 = t := by rw [q1] at q; grind [zm_g]
      subst et
      simp only [if_pos g]
      exact ⟨trivial, hx⟩
    · simp only [if_neg g]
      exact q5 i hi
theorem t_put {V : Nat → (Nat → Int32) → Prop} {c m : zx_M} (H : zm_R V c m) (v i : Int32) (x : Int64) : zm_ok V (f_C_put v i x) (f_M_put v i x) c m := by
  obtain ⟨hN, hK, hT, hL, hS, hD, hP, hB⟩ := id H
  obtain ⟨r, h1, h2, h3⟩ := zm_refP hS v i
  unfold zm_ok f_C_put f_M_put f_Shelves_set n_M_put_n37
  simp only [h1, h2, zm_bs, zm_let]
  by_cases a : r = 0
  · obtain ⟨d, k, t, n, hd, hk, hn, ht, rfl, rfl, q1, q2, q3, q4, q5⟩ := h3 a
    have b : ¬ 60 ≤ Int32.ofNat k := by grind [zm_g]
    have a' : ¬ ¬ r = 0 := fun h => h a
    have e : Int32.ofNat (50 + t) - 50 = Int32.ofNat t := by grind [zm_g]
    have hk6 := Nat.lt_of_lt_of_le hk hn
    obtain ⟨y, hy, hr⟩ : ∃ y, f_M_asSort (Int32.ofNat t) x m = some y ∧ (t = 0 → -128 ≤ y ∧ y ≤ 127) := by
      unfold f_M_asSort
      by_cases z : t = 0
      · subst z
        have : ¬ ¬ (Int32.ofNat 0 = 0) := by decide
        simp only [if_neg this]
        exact ⟨_, rfl, fun _ => zm_i2b _⟩
      · split
        · split
          · split
            · split
              · exact ⟨_, rfl, fun h => absurd h z⟩
              · split
                · exact ⟨_, rfl, fun h => absurd h z⟩
                · exact ⟨_, rfl, fun h => absurd h z⟩
            · exact ⟨_, rfl, fun h => absurd h z⟩
          · exact ⟨_, rfl, fun h => absurd h z⟩
        · exact ⟨_, rfl, fun h => absurd h z⟩
    simp only [if_pos a, if_neg a', if_neg b, zm_ix hd (by omega), zm_at60 hd hk6, zm_at60' hd hk6, zm_bs, zm_let, q1, q3, e, zm_low (Int32.ofNat t) x c m, hy]
    refine zm_e3 rfl rfl rfl ⟨?_, ?_, ?_, ?_, ?_, ?_, ?_, ?_⟩
    · simpa [zm_u21] using hN
    · simpa [zm_u21] using hK
    · simpa [zm_u21] using hT
    · simpa [zm_u21] using hL
    · simpa [zm_u21, zm_u22] using zm_rs_put hS hk6 ht q1 hr
    · simpa [zm_u21] using hD
    · simpa [zm_u21] using hP
    · simpa [zm_u21] using hB
  · simp only [if_neg a, if_pos a]
    exact zm_e3 rfl rfl rfl H
def zm_z : zx_M := (fun _ _ => 0, fun _ _ => 0)
theorem zm_underC (a b : Int32) (c : zx_M) : f_Acts_isUnder a b c = f_Acts_isUnder a b zm_z := rfl
theorem zm_takenM (v a b : Int32) (m : zx_M) : l_M_taken_l58 v b m a = l_M_taken_l58 0 b zm_z a := rfl
theorem zm_under0 : (List.range 8).all (fun a => (List.range 8).all (fun b => match f_Acts_isUnder (Int32.ofNat a) (Int32.ofNat b) zm_z, l_M_taken_l58 0 (Int32.ofNat b) zm_z (Int32.ofNat a) with
  | some u, some w => (decide (u = 1) && decide (w = Int32.ofNat b)) || (decide (u = 0) && !decide (w = Int32.ofNat b))
  | _, _ => false)) = true := by decide +kernel
theorem zm_under {a b : Nat} (ha : a < 8) (hb : b < 8) (v : Int32) (c m : zx_M) : ∃ u w, f_Acts_isUnder (Int32.ofNat a) (Int32.ofNat b) c = some u ∧ l_M_taken_l58 v (Int32.ofNat b) m (Int32.ofNat a) = some w ∧ ((u = 1 ∧ w = Int32.ofNat b) ∨ (u = 0 ∧ ¬ w = Int32.ofNat b)) := by
  have h := List.all_eq_true.mp (List.all_eq_true.mp zm_under0 a (List.mem_range.mpr ha)) b (List.mem_range.mpr hb)
  rw [zm_underC, zm_takenM]
  cases h1 : f_Acts_isUnder (Int32.ofNat a) (Int32.ofNat b) zm_z with
  | none => rw [h1] at h; cases h
  | some u =>
    cases h2 : l_M_taken_l58 0 (Int32.ofNat b) zm_z (Int32.ofNat a) with
    | none => rw [h1, h2] at h; cases h
    | some w =>
      rw [h1, h2] at h
      exact ⟨u, w, rfl, rfl, by simpa using h⟩
theorem t_taken {V : Nat → (Nat → Int32) → Prop} {c m : zx_M} (H : zm_R V c m) (v k : Int32) : zm_O (f_C_taken v k) (f_M_taken v k) c m := by
  obtain ⟨hN, hK, hT, hL, hS, hD, hP, hB⟩ := H
  obtain ⟨nb, hnb, b1, b2, -, -, b5, -⟩ := hB
  unfold zm_O f_C_taken f_M_taken f_Shelves_refusal f_Shelves_size f_Acts_kindOf f_M_kindOf f_Acts_isKind
  simp only [zm_isShelfC, zm_isShelfM, zm_wt, zm_bs]
  by_cases a : 0 ≤ v ∧ v ≤ 5
  · obtain ⟨d, hd, rfl⟩ := zm_in (v := v) (n := 6) (by omega) (by grind) (by grind)
    have a4 : ¬ ((1 : Int32) = 0) := by decide
    simp only [if_pos a, if_neg a4, if_pos a4, zm_ix hd (by omega), zm_bs]
    by_cases g : 0 ≤ k ∧ k ≤ 7
    · have g1 : ¬ k < 0 := by grind
      have g0 : ¬ 8 ≤ k := by grind
      have g2 : 0 ≤ k.toInt64 ∧ k.toInt64 ≤ 7 := by grind [zm_gl]
      simp only [if_neg g1, if_neg g0, if_pos g2, if_pos a4, zm_bs]
      rcases hS d hd with ⟨q1, q2, q3, q4⟩ | ⟨w, hw, hwn, q1, q2, q3, q4⟩ | ⟨t, n, ht, hn, q1, q2, q3, q4, q5⟩
      · have e1 : ¬ ¬ ((-1 : Int32) = -1) := by decide
        have e2 : ¬ ((0 : Int32) ≤ -1) := by decide
        have e3 : ¬ ((-11 : Int32) = 0) := by decide
        simp only [q1, q3, if_neg e1, if_neg e2, zm_bs, if_neg e3]
        exact ⟨_, rfl, rfl⟩
      · have e1 : ¬ ((-2 : Int32) = -1) := by decide
        have e0 : ¬ ¬ ((-2 : Int32) = -2) := by decide
        have e2 : (0 : Int32) ≤ Int32.ofNat w := Int32.zero_le_ofNat_of_lt (by omega)
        have e3 : Int32.ofNat w < 50 := by grind [zm_g]
        have e5 : 0 ≤ Int32.ofNat w ∧ Int32.ofNat w < Int32.ofNat nb := ⟨e2, by rw [b2] at hwn; exact hwn⟩
        have e6 : ¬ 50 ≤ Int32.ofNat w := by grind
        have e7 : w < nb := by grind [zm_g]
        have e8 := b5 w e7
        simp only [q1, q2, q3, q4, if_pos e1, if_neg e0, if_pos e2, if_pos e3, zm_bs, ↓reduceIte, zm_isBodyC _ c b1, if_pos e5, if_neg a4, if_neg e6, zm_ix hw (by omega), e8.1]
        obtain ⟨kd, hkd, ek⟩ := zm_in (v := m.1 17 w) (n := 8) (by omega) (by grind) (by grind)
        obtain ⟨kk, hkk, ekk⟩ := zm_in (v := k) (n := 8) (by omega) g1 (by grind)
        subst ekk
        rw [ek]
        obtain ⟨u, w', f1, f2, f3⟩ := zm_under hkd hkk (Int32.ofNat d) c m
        simp only [f1, f2, zm_bs, zm_let, n_M_taken_n75, zm_ix hd (by omega), q3, f_M_kindOf, zm_ix hw (by omega), ek]
        rcases f3 with ⟨rfl, rfl⟩ | ⟨rfl, n⟩
        · have : ¬ ¬ (Int32.ofNat kk = Int32.ofNat kk) := fun h => h rfl
          simp only [if_neg a4, if_neg this]
          exact ⟨_, rfl, rfl⟩
        · simp only [if_pos n, ↓reduceIte]
          exact ⟨_, rfl, rfl⟩
      · have e1 : ¬ (Int32.ofNat t = -1) := by grind [zm_g]
        have e0 : ¬ (Int32.ofNat t = -2) := by grind [zm_g]
        have e2 : (0 : Int32) ≤ Int32.ofNat (50 + t) := Int32.zero_le_ofNat_of_lt (by omega)
        have e3 : ¬ Int32.ofNat (50 + t) < 50 := by grind [zm_g]
        have e4 : ¬ ((-12 : Int32) = 0) := by decide
        simp only [q1, q3, if_pos e1, if_pos e0, if_pos e2, if_neg e3, zm_bs, if_neg e4]
        exact ⟨_, rfl, rfl⟩
    · have g2 : ¬ (0 ≤ k.toInt64 ∧ k.toInt64 ≤ 7) := by grind [zm_gl]
      have a5 : ¬ ¬ ((0 : Int32) = 0) := by decide
      simp only [if_neg g2, if_neg a5]
      by_cases b : k < 0
      · simp only [if_pos b, zm_bs, if_neg a5]; exact ⟨_, rfl, rfl⟩
      · have g1 : 8 ≤ k := by grind
        simp only [if_neg b, if_pos g1, zm_bs, if_neg a5]; exact ⟨_, rfl, rfl⟩
  · simp only [if_neg a, ↓reduceIte]
    exact ⟨_, rfl, rfl⟩
