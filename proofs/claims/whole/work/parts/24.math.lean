/-! numbers told anew: back, again -/
theorem zm_rng_congr {n : Int32} {f g : Nat → Int32} (h : ∀ q < 36, f q = g q) (R : zm_rng n f) : zm_rng n g := by
  obtain ⟨h1, h2, h3, h4, h5⟩ := R
  refine ⟨fun j hj hn => ?_, fun j hj hn => ?_, ?_, ?_, ?_⟩
  · rw [← h j (by omega), ← h (7 + j) (by omega), ← h (14 + j) (by omega), ← h (21 + j) (by omega)]; exact h1 j hj hn
  · rw [← h (21 + j) (by omega)]; exact h2 j hj hn
  · rw [← h 28 (by omega)]; exact h3
  · rw [← h 28 (by omega), ← h 29 (by omega)]; exact h4
  · rw [← h 29 (by omega)]; exact h5
theorem zm_tell_f (c : zx_M) {p : Nat} (h1 : 28 ≤ p) (h2 : p < 36) (a v : Int32) : f_Numbers_tell a (Int32.ofNat (p - 24)) v c = some (zx_u1 c 2 (p - 28) v) := by
  have e : Int32.ofNat (p - 24) - 4 = Int32.ofNat (p - 28) := by
    obtain ⟨k, rfl⟩ : ∃ k, p = 28 + k := ⟨p - 28, by omega⟩
    have e1 : 28 + k - 24 = 4 + k := by omega
    have e2 : 28 + k - 28 = k := by omega
    rw [e1, e2]
    grind [zm_g]
  have e3 : ¬ 8 ≤ Int32.ofNat (p - 28) := by
    have := zm_g (k := p - 28) (by omega)
    grind
  simp only [f_Numbers_tell, zm_let]
  rw [e, if_neg (zm_nn (by omega)), if_neg e3, zm_ix (by omega) (by omega)]
  rfl
theorem zm_tell_j (c : zx_M) {j w : Nat} (hj : j < 7) (hw : w < 4) (v : Int32) : f_Numbers_tell (Int32.ofNat j) (Int32.ofNat w) v c = some (zx_u1 c 3 (4 * j + w) v) := by
  have e : Int32.ofNat j * 4 + Int32.ofNat w = Int32.ofNat (4 * j + w) := by grind [zm_g]
  have e1 : Int32.ofNat w - 4 < 0 := by grind [zm_g]
  have e2 : ¬ 28 ≤ Int32.ofNat (4 * j + w) := by grind [zm_g]
  simp only [f_Numbers_tell, n_Numbers_tell_n29, zm_let]
  rw [if_pos e1, e, if_neg (zm_nn (by omega)), if_neg e2, zm_ix (by omega) (by omega)]
  rfl
/-- a number told anew on both sides -/
theorem zm_RN_f {n : Int32} {t s : Nat → Int32} {n' : Int32} {f : Nat → Int32} (R : zm_RN n t s n' f) {p : Nat} (h1 : 28 ≤ p) (h2 : p < 36) {v : Int32} (hr : zm_rng n' (upd f p v)) : zm_RN n (upd t (p - 28) v) s n' (upd f p v) := by
  obtain ⟨r1, -, r3, r4⟩ := R
  refine ⟨r1, hr, fun k hk => ?_, fun j hj w hw => ?_⟩
  · simp only [zm_upd]
    by_cases e : k = p - 28
    · rw [if_pos e, if_pos (by omega)]
    · rw [if_neg e, if_neg (by omega)]; exact r3 k hk
  · simp only [zm_upd]
    rw [if_neg (by omega)]; exact r4 j hj w hw
theorem zm_RN_j {n : Int32} {t s : Nat → Int32} {n' : Int32} {f : Nat → Int32} (R : zm_RN n t s n' f) {i u : Nat} (h1 : i < 7) (h2 : u < 4) {v : Int32} (hr : zm_rng n' (upd f (7 * u + i) v)) : zm_RN n t (upd s (4 * i + u) v) n' (upd f (7 * u + i) v) := by
  obtain ⟨r1, -, r3, r4⟩ := R
  refine ⟨r1, hr, fun k hk => ?_, fun j hj w hw => ?_⟩
  · simp only [zm_upd]
    rw [if_neg (by omega)]; exact r3 k hk
  · simp only [zm_upd]
    by_cases e : j = i ∧ w = u
    · rw [if_pos (by omega), if_pos (by omega)]
    · rw [if_neg (by omega), if_neg (by omega)]; exact r4 j hj w hw
/-- what both sides do, one kept change back or forth: the place told anew -/
theorem zm_tell {V : Nat → (Nat → Int32) → Prop} {c m : zx_M} (H : zm_R V c m) {p : Nat} {a b v x' : Int32} (hp : (28 ≤ p ∧ p < 36 ∧ a = 0 ∧ b = Int32.ofNat (p - 24)) ∨ ∃ j w : Nat, j < 7 ∧ w < 4 ∧ Int32.ofNat j < m.1 0 6 ∧ p = 7 * w + j ∧ a = Int32.ofNat j ∧ b = Int32.ofNat w) (hr : zm_rng (m.1 0 6) (upd (m.1 1) p v)) (hK : zm_RK x' (c.1 4 6) (c.1 5) (c.1 6) (c.1 7) (c.1 8) x' (m.1 0 4) (m.1 2) (m.1 3) (m.1 4) (m.1 0 6) (upd (m.1 1) p v)) : ∃ q i : Nat, (q = 2 ∨ q = 3) ∧ (∀ c0, f_Numbers_tell a b v c0 = some (zx_u1 c0 q i v)) ∧ zm_R V (zx_u1 (zx_u1 c 4 5 x') q i v) (zx_u1 (zx_u1 m 0 5 x') 1 p v) ∧ zm_R V (zx_u1 (zx_u1 c q i v) 4 5 x') (zx_u1 (zx_u1 m 1 p v) 0 5 x') := by
  obtain ⟨hN, -, hT, hL, hS, hD, hP, hB⟩ := H
  have fin : ∀ c' m' : zx_M, (∀ r, ¬ r = 2 → ¬ r = 3 → ¬ r = 4 → c'.1 r = c.1 r) → c'.1 4 5 = x' → c'.1 4 6 = c.1 4 6 → c'.2 = c.2 → m'.1 0 5 = x' → (∀ k, ¬ k = 5 → m'.1 0 k = m.1 0 k) → m'.1 1 = upd (m.1 1) p v → (∀ r, ¬ r = 0 → ¬ r = 1 → m'.1 r = m.1 r) → m'.2 = m.2 → zm_RN (c.1 1 2) (c'.1 2) (c'.1 3) (m.1 0 6) (upd (m.1 1) p v) → zm_R V c' m' := by
    intro c' m' g1 g2 g3 g4 g5 g6 g7 g8 g9 g
    refine ⟨?_, ?_, ?_, ?_, ?_, ?_, ?_, ?_⟩
    · simpa [g1, g6, g7] using g
    · simpa [g1, g2, g3, g5, g6, g7, g8] using hK
    · simpa [g1, g6, g8] using hT
    · simpa [g1, g6, g8] using hL
    · simpa [g1, g4, g6, g8, g9] using hS
    · simpa [g1, g6, g8] using hD
    · simpa [g1, g6, g8] using hP
    · simpa [g1, g6, g8] using hB
  have both : ∀ q i : Nat, (q = 2 ∨ q = 3) → zm_RN (c.1 1 2) ((zx_u1 c q i v).1 2) ((zx_u1 c q i v).1 3) (m.1 0 6) (upd (m.1 1) p v) → zm_R V (zx_u1 (zx_u1 c 4 5 x') q i v) (zx_u1 (zx_u1 m 0 5 x') 1 p v) ∧ zm_R V (zx_u1 (zx_u1 c q i v) 4 5 x') (zx_u1 (zx_u1 m 1 p v) 0 5 x') := by
    intro q i hq g
    constructor
    · refine fin _ _ (fun r h2 h3 h4 => ?_) ?_ ?_ rfl ?_ (fun k hk => ?_) ?_ (fun r h0 h1 => ?_) rfl ?_
      · rcases hq with rfl | rfl <;> simp [zm_u11, h2, h3, h4]
      · rcases hq with rfl | rfl <;> simp [zm_u11, zm_upd]
      · rcases hq with rfl | rfl <;> simp [zm_u11, zm_upd]
      · simp [zm_u11, zm_upd]
      · simp [zm_u11, zm_upd, hk]
      · simp [zm_u11]
      · simp [zm_u11, h0, h1]
      · rcases hq with rfl | rfl <;> simpa [zm_u11] using g
    · refine fin _ _ (fun r h2 h3 h4 => ?_) ?_ ?_ rfl ?_ (fun k hk => ?_) ?_ (fun r h0 h1 => ?_) rfl ?_
      · rcases hq with rfl | rfl <;> simp [zm_u11, h2, h3, h4]
      · rcases hq with rfl | rfl <;> simp [zm_u11, zm_upd]
      · rcases hq with rfl | rfl <;> simp [zm_u11, zm_upd]
      · simp [zm_u11, zm_upd]
      · simp [zm_u11, zm_upd, hk]
      · simp [zm_u11]
      · simp [zm_u11, h0, h1]
      · rcases hq with rfl | rfl <;> simpa [zm_u11] using g
  rcases hp with ⟨q1, q2, rfl, rfl⟩ | ⟨j, w, q1, q2, q3, rfl, rfl, rfl⟩
  · exact ⟨2, p - 28, Or.inl rfl, fun c0 => zm_tell_f c0 q1 q2 0 v, both 2 (p - 28) (Or.inl rfl) (by simpa [zm_u11] using zm_RN_f hN q1 q2 hr)⟩
  · exact ⟨3, 4 * j + w, Or.inr rfl, fun c0 => zm_tell_j c0 q1 q2 v, both 3 (4 * j + w) (Or.inr rfl) (by simpa [zm_u11] using zm_RN_j hN q1 q2 hr)⟩
theorem zm_p36 {p : Nat} {a b n : Int32} (hp : (28 ≤ p ∧ p < 36 ∧ a = 0 ∧ b = Int32.ofNat (p - 24)) ∨ ∃ j w : Nat, j < 7 ∧ w < 4 ∧ Int32.ofNat j < n ∧ p = 7 * w + j ∧ a = Int32.ofNat j ∧ b = Int32.ofNat w) : p < 36 := by
  rcases hp with ⟨-, h, -⟩ | ⟨j, w, h1, h2, -, h3, -⟩
  · exact h
  · omega
theorem t_undo {V : Nat → (Nat → Int32) → Prop} {c m : zx_M} (H : zm_R V c m) : zm_ok V f_C_undo f_M_undo c m := by
  obtain ⟨hN, hK, -⟩ := id H
  obtain ⟨x, y, p, F, hx, hy, k1, k2, k3, k4, k5, k6, k7⟩ := hK
  unfold zm_ok f_C_undo f_M_undo f_Changes_takeBack
  rw [k1, k3]
  by_cases a : x = 0
  · subst a
    have a1 : Int32.ofNat 0 < 1 := by decide
    have a2 : ¬ ¬ (Int32.ofNat 0 = 0) := by decide
    simp only [if_pos a1, if_neg a2, zm_bs]
    exact zm_e3 rfl rfl rfl H
  · obtain ⟨i, rfl⟩ : ∃ i, x = i + 1 := ⟨x - 1, by omega⟩
    obtain ⟨w1, w2, w3, w4, w5, w6⟩ := k7 i (by omega)
    have a1 : ¬ Int32.ofNat (i + 1) < 1 := by grind [zm_g]
    have a2 : ¬ Int32.ofNat (i + 1) = 0 := by grind [zm_g]
    have a3 : Int32.ofNat (i + 1) ≤ 40 := by grind [zm_g]
    have e : Int32.ofNat (i + 1) - 1 = Int32.ofNat i := by grind [zm_g]
    have hp := zm_p36 w6
    have hF : ∀ q < 36, F i q = upd (m.1 1) (p i) (m.1 3 i) q := by
      intro q hq
      simp only [zm_upd]
      by_cases g : q = p i
      · rw [if_pos g, g, w5]
      · rw [if_neg g, ← k6 q hq, w4 q hq, if_neg g]
    obtain ⟨q, u, hq, t1, t2, -⟩ := zm_tell H (x' := Int32.ofNat i) w6 (zm_rng_congr hF (k5 i (by omega))) ⟨i, y, p, F, by omega, hy, rfl, k2, rfl, k4, k5, hF, k7⟩
    have e1 : (zx_u1 c 4 5 (Int32.ofNat i)).1 4 5 = Int32.ofNat i := by simp [zm_u11, zm_upd]
    have e5 : (zx_u1 c 4 5 (Int32.ofNat i)).1 5 i = c.1 5 i := by simp [zm_u11]
    have e6 : (zx_u1 c 4 5 (Int32.ofNat i)).1 6 i = c.1 6 i := by simp [zm_u11]
    have e7 : (zx_u1 c 4 5 (Int32.ofNat i)).1 7 i = m.1 3 i := by simp [zm_u11, w1]
    have m1 : (zx_u1 m 0 5 (Int32.ofNat i)).1 0 5 = Int32.ofNat i := by simp [zm_u11, zm_upd]
    have m2 : (zx_u1 m 0 5 (Int32.ofNat i)).1 2 i = Int32.ofNat (p i) := by simp [zm_u11, w3]
    have m3 : (zx_u1 m 0 5 (Int32.ofNat i)).1 3 i = m.1 3 i := by simp [zm_u11]
    simp only [if_neg a1, if_pos a3, if_pos a2, zm_let, zm_bs, e, e1, m1, zm_ix (show i < 40 by omega) (by omega), e5, e6, e7, m2, m3, t1, zm_ix hp (by omega)]
    refine zm_e3 rfl rfl ?_ t2
    rcases hq with rfl | rfl <;> simp [zm_u11, zm_upd]
theorem t_redo {V : Nat → (Nat → Int32) → Prop} {c m : zx_M} (H : zm_R V c m) : zm_ok V f_C_redo f_M_redo c m := by
  obtain ⟨hN, hK, -⟩ := id H
  obtain ⟨i, y, p, F, hx, hy, k1, k2, k3, k4, k5, k6, k7⟩ := hK
  unfold zm_ok f_C_redo f_M_redo f_Changes_makeAgain
  rw [k1, k3, k2, k4]
  have a0 : ¬ Int32.ofNat i < 0 := zm_nn (by omega)
  by_cases a : i = y
  · subst a
    have a1 : Int32.ofNat i ≤ Int32.ofNat i := Int32.le_refl _
    have a2 : ¬ ¬ (Int32.ofNat i = Int32.ofNat i) := fun h => h rfl
    simp only [if_neg a0, if_pos a1, if_neg a2, zm_bs]
    exact zm_e3 rfl rfl rfl H
  · have hi : i < y := by omega
    have h40 : i < 40 := by omega
    have h31 : i < 2 ^ 31 := by omega
    obtain ⟨w1, w2, w3, w4, w5, w6⟩ := k7 i hi
    have a1 : ¬ Int32.ofNat y ≤ Int32.ofNat i := by grind [zm_g]
    have a2 : ¬ Int32.ofNat i = Int32.ofNat y := by grind [zm_g]
    have a3 : Int32.ofNat i < 40 := by grind [zm_g]
    have e : Int32.ofNat i + 1 = Int32.ofNat (i + 1) := by simp
    have hp := zm_p36 w6
    have hp31 : p i < 2 ^ 31 := Nat.lt_of_lt_of_le hp (by decide)
    have hF : ∀ q < 36, F (i + 1) q = upd (m.1 1) (p i) (m.1 4 i) q := by
      intro q hq
      simp only [zm_upd]
      rw [w4 q hq, k6 q hq]
    obtain ⟨q, u, hq, t1, -, t2⟩ := zm_tell H (x' := Int32.ofNat (i + 1)) w6 (zm_rng_congr hF (k5 (i + 1) (by omega))) ⟨i + 1, y, p, F, by omega, hy, rfl, k2, rfl, k4, k5, hF, k7⟩
    have c5 : (zx_u1 c q u (m.1 4 i)).1 4 5 = Int32.ofNat i := by rcases hq with rfl | rfl <;> simp [zm_u11, k1]
    have m5 : (zx_u1 m 1 (p i) (m.1 4 i)).1 0 5 = Int32.ofNat i := by simp [zm_u11, k3]
    simp only [if_neg a0, if_neg a1, if_pos a3, if_pos a2, zm_let, zm_bs, zm_ix h40 h31, w2, w3, t1, zm_ix hp hp31, c5, m5, e]
    refine zm_e3 rfl rfl ?_ t2
    rcases hq with rfl | rfl <;> simp [zm_u11, zm_upd, k2, k4]
