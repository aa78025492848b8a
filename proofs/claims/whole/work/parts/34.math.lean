/-! pictures: the other way, and the reference's -/
theorem zm_becomeB {c : zx_M} (h1 : ∀ k < 7, c.1 37 k = 0 ∨ c.1 37 k = 1) (h2 : ∀ k < 7, c.1 33 k = 0 ∨ c.1 33 k = 1) (h3 : c.1 32 3 = 0 ∨ c.1 32 3 = 1) : ∃ c', f_Deed_become_26_32 c = some c' ∧ (∀ r, ¬ r = 26 → ¬ r = 27 → ¬ r = 28 → ¬ r = 29 → ¬ r = 30 → ¬ r = 31 → c'.1 r = c.1 r) ∧ c'.2 = c.2 ∧ (∀ k, 3 ≤ k → k ≤ 10 → c'.1 26 k = c.1 32 k) ∧ c'.1 28 4 = c.1 34 4 ∧ (∀ k < 7, c'.1 27 k = c.1 33 k) ∧ (∀ k < 7, c'.1 29 k = c.1 35 k) ∧ (∀ k < 7, c'.1 30 k = c.1 36 k) ∧ ∀ k < 7, c'.1 31 k = c.1 37 k := by
  have ck : zx_ck 7 7 0 0 7 = some 7 := by decide
  have o0 : (0 : Int32).toNatClampNeg = 0 := rfl
  have j1 : zx_01 (fun i => (zx_w1 (zx_w1 c 29 (va_cpy (c.1 35) (c.1 29) 0 0 7)) 30 (va_cpy ((zx_w1 c 29 (va_cpy (c.1 35) (c.1 29) 0 0 7)).1 36) ((zx_w1 c 29 (va_cpy (c.1 35) (c.1 29) 0 0 7)).1 30) 0 0 7)).1 37 (0 + i)) 7 = true := zm_01 7 (fun k hk => by simpa [zm_w11] using h1 k hk)
  unfold f_Deed_become_26_32 f_Jumps_become_28_34
  simp only [ck, zm_bs, zm_let, o0]
  rw [if_pos j1]
  simp only [zm_bs]
  rw [if_pos (zm_01 7 (fun k hk => by simpa [zm_w11, zm_u11] using h2 k hk)), if_pos (by simpa [zm_w11, zm_u11] using h3)]
  refine ⟨_, rfl, fun r r2 r3 r4 r5 r6 r7 => ?_, rfl, fun k k3 k10 => ?_, ?_, fun k hk => ?_, fun k hk => ?_, fun k hk => ?_, fun k hk => ?_⟩
  · simp [zm_w11, zm_u11, r2, r3, r4, r5, r6, r7]
  · have hc : k = 3 ∨ k = 4 ∨ k = 5 ∨ k = 6 ∨ k = 7 ∨ k = 8 ∨ k = 9 ∨ k = 10 := by omega
    rcases hc with rfl | rfl | rfl | rfl | rfl | rfl | rfl | rfl <;> simp [zm_w11, zm_u11, zm_upd]
  · simp [zm_w11, zm_u11, zm_upd]
  · simp [zm_w11, zm_u11, zm_cpy, hk]
  · simp [zm_w11, zm_u11, zm_cpy, hk]
  · simp [zm_w11, zm_u11, zm_cpy, hk]
  · simp [zm_w11, zm_u11, zm_cpy, hk]
theorem zm_ledK (m : zx_M) {k : Nat} (hk : k < 5) : f_M_led (Int32.ofNat k) m = some (m.1 0 (35 + k)) := by
  have hc : k = 0 ∨ k = 1 ∨ k = 2 ∨ k = 3 ∨ k = 4 := by omega
  rcases hc with rfl | rfl | rfl | rfl | rfl <;> rfl
theorem zm_imgM1 (m : zx_M) : ∃ m', l_M_image_l15 (0, m) = some m' ∧ (∀ r, ¬ r = 16 → m'.1 r = m.1 r) ∧ m'.2 = m.2 ∧ ∀ k < 7, m'.1 16 (3 * k) = m.1 13 k ∧ m'.1 16 (3 * k + 1) = m.1 14 k ∧ m'.1 16 (3 * k + 2) = m.1 15 k := by
  unfold l_M_image_l15
  refine zm_lp1 (fun s : Int32 × zx_M => zm_up 7 s.1) (fun s => ∃ k, k ≤ 7 ∧ s.1 = Int32.ofNat k ∧ (∀ r, ¬ r = 16 → s.2.1 r = m.1 r) ∧ s.2.2 = m.2 ∧ ∀ j < k, s.2.1 16 (3 * j) = m.1 13 j ∧ s.2.1 16 (3 * j + 1) = m.1 14 j ∧ s.2.1 16 (3 * j + 2) = m.1 15 j) _ ?_ zx_N _ ⟨0, by omega, rfl, fun _ _ => rfl, rfl, fun j hj => absurd hj (by omega)⟩ (zm_upN (by decide : (-30000 : Int32) ≤ 0) (by decide))
  rintro ⟨i, x⟩ ⟨k, h1, h2, h3, h4, h5⟩
  dsimp only at h2 h3 h4 h5 ⊢
  subst h2
  unfold b_M_image_l15
  by_cases g : k = 7
  · right
    subst g
    have g1 : (7 : Int32) ≤ Int32.ofNat 7 := by decide
    simp only [if_pos g1]
    exact ⟨_, rfl, h3, h4, h5⟩
  · left
    have g1 : ¬ (7 : Int32) ≤ Int32.ofNat k := by grind [zm_g]
    have e0 : 3 * Int32.ofNat k = Int32.ofNat (3 * k) := by simp
    have e1 : Int32.ofNat (3 * k) + 1 = Int32.ofNat (3 * k + 1) := by simp
    have e2 : Int32.ofNat (3 * k) + 2 = Int32.ofNat (3 * k + 2) := by simp
    simp only [if_neg g1, e0, e1, e2, zm_ix (show k < 7 by omega) (by omega), zm_ix (show 3 * k < 29 by omega) (by omega), zm_ix (show 3 * k + 1 < 29 by omega) (by omega), zm_ix (show 3 * k + 2 < 29 by omega) (by omega), zm_bs, zm_let]
    refine ⟨_, rfl, ⟨k + 1, by omega, by simp, fun r hr => ?_, h4, fun j hj => ?_⟩, zm_up1 (by grind [zm_g])⟩
    · simp only [zm_u11, if_neg hr]; exact h3 r hr
    · by_cases q : j = k
      · subst q
        simp [zm_u11, zm_upd, h3]
      · have n1 : ¬ 3 * j = 3 * k := by omega
        have n2 : ¬ 3 * j = 3 * k + 1 := by omega
        have n3 : ¬ 3 * j = 3 * k + 2 := by omega
        have n4 : ¬ 3 * j + 1 = 3 * k := by omega
        have n5 : ¬ 3 * j + 1 = 3 * k + 2 := by omega
        have n6 : ¬ 3 * j + 2 = 3 * k := by omega
        have n7 : ¬ 3 * j + 2 = 3 * k + 1 := by omega
        have := h5 j (by omega)
        simpa [zm_u11, zm_upd, q, n1, n2, n3, n4, n5, n6, n7] using this
theorem zm_imgM2 (m : zx_M) : ∃ m', l_M_image_l75 (0, m) = some m' ∧ (∀ r, ¬ r = 16 → m'.1 r = m.1 r) ∧ m'.2 = m.2 ∧ (∀ k < 21, m'.1 16 k = m.1 16 k) ∧ ∀ k < 5, m'.1 16 (21 + k) = m.1 0 (35 + k) := by
  unfold l_M_image_l75
  refine zm_lp1 (fun s : Int32 × zx_M => zm_up 5 s.1) (fun s => ∃ k, k ≤ 5 ∧ s.1 = Int32.ofNat k ∧ (∀ r, ¬ r = 16 → s.2.1 r = m.1 r) ∧ s.2.2 = m.2 ∧ (∀ j < 21, s.2.1 16 j = m.1 16 j) ∧ ∀ j < k, s.2.1 16 (21 + j) = m.1 0 (35 + j)) _ ?_ zx_N _ ⟨0, by omega, rfl, fun _ _ => rfl, rfl, fun _ _ => rfl, fun j hj => absurd hj (by omega)⟩ (zm_upN (by decide : (-30000 : Int32) ≤ 0) (by decide))
  rintro ⟨i, x⟩ ⟨k, h1, h2, h3, h4, h5, h6⟩
  dsimp only at h2 h3 h4 h5 h6 ⊢
  subst h2
  unfold b_M_image_l75
  by_cases g : k = 5
  · right
    subst g
    have g1 : (5 : Int32) ≤ Int32.ofNat 5 := by decide
    simp only [if_pos g1]
    exact ⟨_, rfl, h3, h4, h5, h6⟩
  · left
    have g1 : ¬ (5 : Int32) ≤ Int32.ofNat k := by grind [zm_g]
    have e0 : 21 + Int32.ofNat k = Int32.ofNat (21 + k) := by simp
    simp only [if_neg g1, e0, zm_ledK x (show k < 5 by omega), zm_ix (show 21 + k < 29 by omega) (by omega), zm_bs, zm_let]
    refine ⟨_, rfl, ⟨k + 1, by omega, by simp, fun r hr => ?_, h4, fun j hj => ?_, fun j hj => ?_⟩, zm_up1 (by grind [zm_g])⟩
    · simp only [zm_u11, if_neg hr]; exact h3 r hr
    · simp only [zm_u11, zm_upd, ↓reduceIte]
      rw [if_neg (by omega)]; exact h5 j hj
    · simp only [zm_u11, zm_upd, ↓reduceIte]
      by_cases q : j = k
      · rw [if_pos (by omega), h3 0 (by omega), q]
      · rw [if_neg (by omega)]; exact h6 j (by omega)
