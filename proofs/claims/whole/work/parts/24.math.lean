/-! numbers told anew: back, again -/
theorem zm_rng_congr {n : Int32} {f g : Nat → Int32} (h : ∀ q < 36, f q = g q) (R : zm_rng n f) : zm_rng n g := by
  obtain ⟨h1, h2, h3, h4, h5⟩ := R
  refine ⟨fun j hj hn => ?_, fun j hj hn => ?_, ?_, ?_, ?_⟩
  · rw [← h j (by omega), ← h (7 + j) (by omega), ← h (14 + j) (by omega), ← h (21 + j) (by omega)]; exact h1 j hj hn
  · rw [← h (21 + j) (by omega)]; exact h2 j hj hn
  · rw [← h 28 (by omega)]; exact h3
  · rw [← h 28 (by omega), ← h 29 (by omega)]; exact h4
  · rw [← h 29 (by omega)]; exact h5
theorem zm_tell_f (c : zx_M) {p : Nat} (h1 : 28 ≤ p) (h2 : p < 36) (a v : Int32) : f_Numbers_tell a (Int32.ofNat (p - 24)) v c = some (zx_u1 c 2 (p - 28) v) := by
  have e : Int32.ofNat (p - 24) - 4 = Int32.ofNat (p - 28) := by
    obtain ⟨k, rfl⟩ : ∃ k, p = 28 + k := ⟨p - 28, by omega⟩
    have e1 : 28 + k - 24 = 4 + k := by omega
    have e2 : 28 + k - 28 = k := by omega
    rw [e1, e2]
    grind [zm_g]
  have e3 : ¬ 8 ≤ Int32.ofNat (p - 28) := by
    have := zm_g (k := p - 28) (by omega)
    grind
  simp only [f_Numbers_tell, zm_let]
  rw [e, if_neg (zm_nn (by omega)), if_neg e3, zm_ix (by omega) (by omega)]
  rfl
theorem zm_tell_j (c : zx_M) {j w : Nat} (hj : j < 7) (hw : w < 4) (v : Int32) : f_Numbers_tell (Int32.ofNat j) (Int32.ofNat w) v c = some (zx_u1 c 3 (4 * j + w) v) := by
  have e : Int32.ofNat j * 4 + Int32.ofNat w = Int32.ofNat (4 * j + w) := by grind [zm_g]
  have e1 : Int32.ofNat w - 4 < 0 := by grind [zm_g]
  have e2 : ¬ 28 ≤ Int32.ofNat (4 * j + w) := by grind [zm_g]
  simp only [f_Numbers_tell, n_Numbers_tell_n29, zm_let]
  rw [if_pos e1, e, if_neg (zm_nn (by omega)), if_neg e2, zm_ix (by omega) (by omega)]
  rfl
/-- a number told anew on both sides -/
theorem zm_RN_f {n : Int32} {t s : Nat → Int32} {n' : Int32} {f : Nat → Int32} (R : zm_RN n t s n' f) {p : Nat} (h1 : 28 ≤ p) (h2 : p < 36) {v : Int32} (hr : zm_rng n' (upd f p v)) : zm_RN n (upd t (p - 28) v) s n' (upd f p v) := by
  obtain ⟨r1, -, r3, r4⟩ := R
  refine ⟨r1, hr, fun k hk => ?_, fun j hj w hw => ?_⟩
  · simp only [zm_upd]
    by_cases e : k = p - 28
    · rw [if_pos e, if_pos (by omega)]
    · rw [if_neg e, if_neg (by omega)]; exact r3 k hk
  · simp only [zm_upd]
    rw [if_neg (by omega)]; exact r4 j hj w hw
theorem zm_RN_j {n : Int32} {t s : Nat → Int32} {n' : Int32} {f : Nat → Int32} (R : zm_RN n t s n' f) {i u : Nat} (h1 : i < 7) (h2 : u < 4) {v : Int32} (hr : zm_rng n' (upd f (7 * u + i) v)) : zm_RN n t (upd s (4 * i + u) v) n' (upd f (7 * u + i) v) := by
  obtain ⟨r1, -, r3, r4⟩ := R
  refine ⟨r1, hr, fun k hk => ?_, fun j hj w hw => ?_⟩
  · simp only [zm_upd]
    rw [if_neg (by omega)]; exact r3 k hk
  · simp only [zm_upd]
    by_cases e : j = i ∧ w = u
    · rw [if_pos (by omega), if_pos (by omega)]
    · rw [if_neg (by omega), if_neg (by omega)]; exact r4 j hj w hw
/-- what both sides do, one kept change back or forth: the place told anew -/
theorem zm_tell {V : Nat → (Nat → Int32) → Prop} {c m : zx_M} (H : zm_R V c m) {p : Nat} {a b v x' : Int32} (hp : (28 ≤ p ∧ p < 36 ∧ a = 0 ∧ b = Int32.ofNat (p - 24)) ∨ ∃ j w : Nat, j < 7 ∧ w < 4 ∧ Int32.ofNat j < m.1 0 6 ∧ p = 7 * w + j ∧ a = Int32.ofNat j ∧ b = Int32.ofNat w) (hr : zm_rng (m.1 0 6) (upd (m.1 1) p v)) (hK : zm_RK x' (c.1 4 6) (c.1 5) (c.1 6) (c.1 7) (c.1 8) x' (m.1 0 4) (m.1 2) (m.1 3) (m.1 4) (m.1 0 6) (upd (m.1 1) p v)) : ∃ c', f_Numbers_tell a b v c = some c' ∧ (∀ r, ¬ r = 2 → ¬ r = 3 → c'.1 r = c.1 r) ∧ c'.2 = c.2 ∧ zm_R V (zx_u1 c' 4 5 x') (zx_u1 (zx_u1 m 1 p v) 0 5 x') ∧ zm_R V (zx_u1 c' 4 5 x') (zx_u1 (zx_u1 m 0 5 x') 1 p v) := by
  obtain ⟨hN, -, hT, hL, hS, hD, hP, hB⟩ := H
  have fin : ∀ c' : zx_M, (∀ r, ¬ r = 2 → ¬ r = 3 → c'.1 r = c.1 r) → c'.2 = c.2 → zm_RN (c.1 1 2) (c'.1 2) (c'.1 3) (m.1 0 6) (upd (m.1 1) p v) → zm_R V (zx_u1 c' 4 5 x') (zx_u1 (zx_u1 m 1 p v) 0 5 x') ∧ zm_R V (zx_u1 c' 4 5 x') (zx_u1 (zx_u1 m 0 5 x') 1 p v) := by
    intro c' g1 g2 g3
    constructor
    · refine ⟨?_, ?_, ?_, ?_, ?_, ?_, ?_, ?_⟩
      · simpa [zm_u11, zm_upd, g1] using g3
      · simpa [zm_u11, zm_upd, g1] using hK
      · simpa [zm_u11, zm_upd, g1] using hT
      · simpa [zm_u11, zm_upd, g1] using hL
      · simpa [zm_u11, zm_upd, zm_u12, g1, g2] using hS
      · simpa [zm_u11, zm_upd, g1] using hD
      · simpa [zm_u11, zm_upd, g1] using hP
      · simpa [zm_u11, zm_upd, g1] using hB
    · refine ⟨?_, ?_, ?_, ?_, ?_, ?_, ?_, ?_⟩
      · simpa [zm_u11, zm_upd, g1] using g3
      · simpa [zm_u11, zm_upd, g1] using hK
      · simpa [zm_u11, zm_upd, g1] using hT
      · simpa [zm_u11, zm_upd, g1] using hL
      · simpa [zm_u11, zm_upd, zm_u12, g1, g2] using hS
      · simpa [zm_u11, zm_upd, g1] using hD
      · simpa [zm_u11, zm_upd, g1] using hP
      · simpa [zm_u11, zm_upd, g1] using hB
  rcases hp with ⟨q1, q2, rfl, rfl⟩ | ⟨j, w, q1, q2, q3, rfl, rfl, rfl⟩
  · refine ⟨_, zm_tell_f c q1 q2 0 v, fun r hr2 hr3 => by simp [zm_u11, hr2], rfl, fin _ (fun r hr2 hr3 => by simp [zm_u11, hr2]) rfl ?_⟩
    simpa [zm_u11] using zm_RN_f hN q1 q2 hr
  · refine ⟨_, zm_tell_j c q1 q2 v, fun r hr2 hr3 => by simp [zm_u11, hr3], rfl, fin _ (fun r hr2 hr3 => by simp [zm_u11, hr3]) rfl ?_⟩
    simpa [zm_u11] using zm_RN_j hN q1 q2 hr
