/-! a change kept -/
theorem zm_RK_cut {d k : Int32} {wo wt ws bc : Nat → Int32} {d' k' : Int32} {a w i : Nat → Int32} {n : Int32} {f : Nat → Int32} (R : zm_RK d k wo wt ws bc d' k' a w i n f) : zm_RK d d wo wt ws bc d' d' a w i n f := by
  obtain ⟨x, y, p, F, q1, q2, q3, q4, q5, q6, q7, q8, q9⟩ := R
  exact ⟨x, x, p, F, Nat.le_refl _, by omega, q3, q3, q5, q5, fun j hj => q7 j (by omega), q8, fun j hj => q9 j (by omega)⟩
theorem zm_RK_forget {wo wt ws bc : Nat → Int32} {a w i : Nat → Int32} {n : Int32} {f : Nat → Int32} {d d' : Int32} (h40 : d = Int32.ofNat 40) (R : zm_RK d d wo wt ws bc d' d' a w i n f) {wo2 wt2 ws2 bc2 a2 w2 i2 : Nat → Int32} (h1 : ∀ j < 39, wo2 j = wo (j + 1)) (h2 : ∀ j < 39, wt2 j = wt (j + 1)) (h3 : ∀ j < 39, ws2 j = ws (j + 1)) (h4 : ∀ j < 39, bc2 j = bc (j + 1)) (h5 : ∀ j < 39, a2 j = a (j + 1)) (h6 : ∀ j < 39, w2 j = w (j + 1)) (h7 : ∀ j < 39, i2 j = i (j + 1)) : zm_RK (Int32.ofNat 39) (Int32.ofNat 39) wo2 wt2 ws2 bc2 (Int32.ofNat 39) (Int32.ofNat 39) a2 w2 i2 n f := by
  obtain ⟨x, y, p, F, q1, q2, q3, q4, q5, q6, q7, q8, q9⟩ := R
  have hx : x = 40 := by
    rw [h40] at q3
    have := zm_g (k := x) (by omega)
    grind [zm_g]
  subst hx
  have hy : y = 40 := by omega
  subst hy
  refine ⟨39, 39, fun j => p (j + 1), fun j => F (j + 1), Nat.le_refl _, by omega, rfl, rfl, rfl, rfl, fun j hj => q7 (j + 1) (by omega), q8, fun j hj => ?_⟩
  obtain ⟨w1, w2', w3, w4, w5, w6⟩ := q9 (j + 1) (by omega)
  rw [h1 j hj, h2 j hj, h3 j hj, h4 j hj, h5 j hj, h6 j hj, h7 j hj]
  exact ⟨w1, w2', w3, w4, w5, w6⟩
theorem zm_RK_add {wo wt ws bc : Nat → Int32} {at' w i : Nat → Int32} {n : Int32} {f : Nat → Int32} {x : Nat} (hx : x < 40) (R : zm_RK (Int32.ofNat x) (Int32.ofNat x) wo wt ws bc (Int32.ofNat x) (Int32.ofNat x) at' w i n f) {p : Nat} {a b v : Int32} (hp : (28 ≤ p ∧ p < 36 ∧ a = 0 ∧ b = Int32.ofNat (p - 24)) ∨ ∃ j w : Nat, j < 7 ∧ w < 4 ∧ Int32.ofNat j < n ∧ p = 7 * w + j ∧ a = Int32.ofNat j ∧ b = Int32.ofNat w) (hr : zm_rng n (upd f p v)) : zm_RK (Int32.ofNat (x + 1)) (Int32.ofNat (x + 1)) (upd wo x a) (upd wt x b) (upd ws x (f p)) (upd bc x v) (Int32.ofNat (x + 1)) (Int32.ofNat (x + 1)) (upd at' x (Int32.ofNat p)) (upd w x (f p)) (upd i x v) n (upd f p v) := by
  obtain ⟨x', y, P, F, q1, q2, q3, q4, q5, q6, q7, q8, q9⟩ := R
  have e1 : x' = x := by grind [zm_g]
  subst e1
  have e2 : y = x' := by grind [zm_g]
  subst e2
  have hp36 := zm_p36 hp
  refine ⟨y + 1, y + 1, fun j => if j = y then p else P j, fun j => if j = y + 1 then upd f p v else F j, Nat.le_refl _, by omega, rfl, rfl, rfl, rfl, fun j hj => ?_, fun q hq => ?_, fun j hj => ?_⟩
  · by_cases g : j = y + 1
    · simp only [if_pos g]; exact hr
    · simp only [if_neg g]; exact q7 j (by omega)
  · simp
  · have g0 : ¬ j = y + 1 := by omega
    by_cases g : j = y
    · subst g
      simp only [zm_upd, ↓reduceIte, if_neg g0]
      refine ⟨trivial, trivial, trivial, fun q hq => ?_, q8 p hp36, hp⟩
      by_cases e : q = p
      · rw [if_pos e, if_pos e]
      · rw [if_neg e, if_neg e, q8 q hq]
    · have g1 : ¬ j + 1 = y + 1 := by omega
      simp only [zm_upd, if_neg g, if_neg g0, if_neg g1]
      exact q9 j (by omega)
theorem zm_note {V : Nat → (Nat → Int32) → Prop} {c m c0 m0 : zx_M} (H : zm_R V c m) {x : Nat} (hx : x < 40) (k1 : ∀ r, ¬ r = 4 → ¬ r = 5 → ¬ r = 6 → ¬ r = 7 → ¬ r = 8 → c0.1 r = c.1 r) (k2 : c0.2 = c.2) (k3 : c0.1 4 5 = Int32.ofNat x) (l1 : ∀ r, ¬ r = 0 → ¬ r = 2 → ¬ r = 3 → ¬ r = 4 → m0.1 r = m.1 r) (l2 : m0.2 = m.2) (l3 : ∀ k, ¬ k = 5 → m0.1 0 k = m.1 0 k) (l4 : m0.1 0 5 = Int32.ofNat x) (hK0 : zm_RK (Int32.ofNat x) (Int32.ofNat x) (c0.1 5) (c0.1 6) (c0.1 7) (c0.1 8) (Int32.ofNat x) (Int32.ofNat x) (m0.1 2) (m0.1 3) (m0.1 4) (m.1 0 6) (m.1 1)) {p : Nat} {a b v : Int32} (hp : (28 ≤ p ∧ p < 36 ∧ a = 0 ∧ b = Int32.ofNat (p - 24)) ∨ ∃ j w : Nat, j < 7 ∧ w < 4 ∧ Int32.ofNat j < m.1 0 6 ∧ p = 7 * w + j ∧ a = Int32.ofNat j ∧ b = Int32.ofNat w) (hr : zm_rng (m.1 0 6) (upd (m.1 1) p v)) (ht : ∀ c1 : zx_M, c1.1 2 = c.1 2 → c1.1 3 = c.1 3 → f_Numbers_told a b c1 = some (m.1 1 p)) : ∃ c1 c2 m2, n_Changes_note_n13 a b v c0 = some c1 ∧ f_Numbers_tell a b v c1 = some c2 ∧ n_M_becomes_n97 (Int32.ofNat p) v (m.1 1 p) m0 = some (m.1 1 p, m2) ∧ zm_R V c2 m2 := by
  obtain ⟨hN, -, hT, hL, hS, hD, hP, hB⟩ := H
  have hp36 := zm_p36 hp
  have hp31 : p < 2 ^ 31 := Nat.lt_of_lt_of_le hp36 (by decide)
  have hx31 : x < 2 ^ 31 := Nat.lt_of_lt_of_le hx (by decide)
  have a0 : ¬ Int32.ofNat x < 0 := zm_nn hx31
  have a1 : ¬ 40 ≤ Int32.ofNat x := by grind [zm_g]
  have s1 : Int32.ofNat x + 1 = Int32.ofNat (x + 1) := by simp
  have key := zm_RK_add hx hK0 hp hr
  have tl : ∃ q u : Nat, (q = 2 ∨ q = 3) ∧ (∀ c1, f_Numbers_tell a b v c1 = some (zx_u1 c1 q u v)) ∧ zm_RN (c.1 1 2) ((zx_u1 c q u v).1 2) ((zx_u1 c q u v).1 3) (m.1 0 6) (upd (m.1 1) p v) := by
    rcases hp with ⟨q1, q2, rfl, rfl⟩ | ⟨j, w, q1, q2, q3, rfl, rfl, rfl⟩
    · exact ⟨2, p - 28, Or.inl rfl, fun c0 => zm_tell_f c0 q1 q2 0 v, by simpa [zm_u11] using zm_RN_f hN q1 q2 hr⟩
    · exact ⟨3, 4 * j + w, Or.inr rfl, fun c0 => zm_tell_j c0 q1 q2 v, by simpa [zm_u11] using zm_RN_j hN q1 q2 hr⟩
  obtain ⟨q, u, hq, t1, t2⟩ := tl
  have x5 : (zx_u1 c0 5 x a).1 4 5 = Int32.ofNat x := by simp [zm_u11, k3]
  have x6 : (zx_u1 (zx_u1 c0 5 x a) 6 x b).1 4 5 = Int32.ofNat x := by simp [zm_u11, k3]
  have x7 : (zx_u1 (zx_u1 (zx_u1 c0 5 x a) 6 x b) 7 x (m.1 1 p)).1 4 5 = Int32.ofNat x := by simp [zm_u11, k3]
  have x8 : (zx_u1 (zx_u1 (zx_u1 (zx_u1 c0 5 x a) 6 x b) 7 x (m.1 1 p)) 8 x v).1 4 5 = Int32.ofNat x := by simp [zm_u11, k3]
  have x9 : (zx_u1 (zx_u1 (zx_u1 (zx_u1 (zx_u1 c0 5 x a) 6 x b) 7 x (m.1 1 p)) 8 x v) 4 5 (Int32.ofNat (x + 1))).1 4 5 = Int32.ofNat (x + 1) := by simp [zm_u11, zm_upd]
  have tt := ht (zx_u1 (zx_u1 c0 5 x a) 6 x b) (by simp [zm_u11, k1]) (by simp [zm_u11, k1])
  have y2 : (zx_u1 m0 2 x (Int32.ofNat p)).1 0 5 = Int32.ofNat x := by simp [zm_u11, l4]
  have y3 : (zx_u1 (zx_u1 m0 2 x (Int32.ofNat p)) 3 x (m.1 1 p)).1 0 5 = Int32.ofNat x := by simp [zm_u11, l4]
  have y4 : (zx_u1 (zx_u1 (zx_u1 m0 2 x (Int32.ofNat p)) 3 x (m.1 1 p)) 4 x v).1 0 5 = Int32.ofNat x := by simp [zm_u11, l4]
  have y5 : (zx_u1 (zx_u1 (zx_u1 (zx_u1 m0 2 x (Int32.ofNat p)) 3 x (m.1 1 p)) 4 x v) 0 5 (Int32.ofNat (x + 1))).1 0 5 = Int32.ofNat (x + 1) := by simp [zm_u11, zm_upd]
  refine ⟨zx_u1 (zx_u1 (zx_u1 (zx_u1 (zx_u1 (zx_u1 c0 5 x a) 6 x b) 7 x (m.1 1 p)) 8 x v) 4 5 (Int32.ofNat (x + 1))) 4 6 (Int32.ofNat (x + 1)), _, zx_u1 (zx_u1 (zx_u1 (zx_u1 (zx_u1 (zx_u1 m0 2 x (Int32.ofNat p)) 3 x (m.1 1 p)) 4 x v) 0 5 (Int32.ofNat (x + 1))) 0 4 (Int32.ofNat (x + 1))) 1 p v, ?_, t1 _, ?_, ?_⟩
  · unfold n_Changes_note_n13 n_Changes_note_n87
    simp only [k3, if_neg a0, if_neg a1, zm_ix hx hx31, zm_bs, zm_let, x5, x6, x7, x8, x9, tt, s1]
  · unfold n_M_becomes_n97
    simp only [l4, zm_ix hx hx31, zm_ix hp36 hp31, zm_bs, zm_let, y2, y3, y4, y5, s1]
  · refine ⟨?_, ?_, ?_, ?_, ?_, ?_, ?_, ?_⟩
    · rcases hq with rfl | rfl <;> simpa [zm_u11, zm_upd, k1, l1, l3] using t2
    · rcases hq with rfl | rfl <;> simpa [zm_u11, zm_upd, k1, l1, l3] using key
    · rcases hq with rfl | rfl <;> simpa [zm_u11, zm_upd, k1, l1, l3] using hT
    · rcases hq with rfl | rfl <;> simpa [zm_u11, zm_upd, k1, l1, l3] using hL
    · rcases hq with rfl | rfl <;> simpa [zm_u11, zm_upd, zm_u12, k1, k2, l1, l2, l3] using hS
    · rcases hq with rfl | rfl <;> simpa [zm_u11, zm_upd, k1, l1, l3] using hD
    · rcases hq with rfl | rfl <;> simpa [zm_u11, zm_upd, k1, l1, l3] using hP
    · rcases hq with rfl | rfl <;> simpa [zm_u11, zm_upd, k1, l1, l3] using hB
