/-! a drop in deed begins -/
theorem zm_goneC (v : Int32) (c : zx_M) : ∃ c', l_Deed_start_26_l34 v (0, c) = some (v, c') ∧ (∀ r, ¬ r = 27 → c'.1 r = c.1 r) ∧ c'.2 = c.2 ∧ ∀ j < 7, c'.1 27 j = 0 := by
  have key : ∃ t : Int32 × zx_M, l_Deed_start_26_l34 v (0, c) = some t ∧ t.1 = v ∧ (∀ r, ¬ r = 27 → t.2.1 r = c.1 r) ∧ t.2.2 = c.2 ∧ ∀ j < 7, t.2.1 27 j = 0 := by
    unfold l_Deed_start_26_l34
    refine zm_lp1 (fun s : Int32 × zx_M => zm_up 7 s.1) (fun s => ∃ k, k ≤ 7 ∧ s.1 = Int32.ofNat k ∧ (∀ r, ¬ r = 27 → s.2.1 r = c.1 r) ∧ s.2.2 = c.2 ∧ ∀ j < k, s.2.1 27 j = 0) _ ?_ zx_N _ ⟨0, by omega, rfl, fun _ _ => rfl, rfl, fun j hj => absurd hj (by omega)⟩ (zm_upN (by decide : (-30000 : Int32) ≤ 0) (by decide))
    rintro ⟨i, x⟩ ⟨k, h1, h2, h3, h4, h5⟩
    dsimp only at h2 h3 h4 h5 ⊢
    subst h2
    unfold b_Deed_start_26_l34
    by_cases g : k = 7
    · right
      subst g
      have g1 : (7 : Int32) ≤ Int32.ofNat 7 := by decide
      simp only [if_pos g1]
      exact ⟨_, rfl, rfl, h3, h4, h5⟩
    · left
      have g1 : ¬ (7 : Int32) ≤ Int32.ofNat k := by grind [zm_g]
      simp only [if_neg g1, zm_ix (show k < 7 by omega) (by omega), zm_bs, zm_let]
      refine ⟨_, rfl, ⟨k + 1, by omega, by simp, fun r hr => ?_, h4, fun j hj => ?_⟩, zm_up1 (by grind [zm_g])⟩
      · simp only [zm_u11, if_neg hr]; exact h3 r hr
      · simp only [zm_u11, zm_upd, ↓reduceIte]
        by_cases q : j = k
        · rw [if_pos q]
        · rw [if_neg q]; exact h5 j (by omega)
  obtain ⟨⟨t, c'⟩, k1, k2, k3, k4, k5⟩ := key
  dsimp only at k2 k3 k4 k5
  subst k2
  exact ⟨c', k1, k3, k4, k5⟩
theorem t_begin {V : Nat → (Nat → Int32) → Prop} {c m : zx_M} (H : zm_R V c m) (v : Int32) : zm_ok V (f_C_begin v) (f_M_begin v) c m := by
  obtain ⟨hN, hK, hT, hL, hS, hD, hP, hB⟩ := id H
  obtain ⟨d1, d2, d3, d4, d5, d6, d7, d8, d9, d10, d11, d12, -⟩ := id hD
  unfold zm_ok f_C_begin f_M_begin f_Deed_start_26 f_Jumps_clear_28
  simp only [zm_isYardC, zm_isYardM, zm_bs, zm_let, d1]
  have z0 : (0 : Int32) = 0 := rfl
  have z1 : ¬ ((1 : Int32) = 0) := by decide
  by_cases a : -999 ≤ v ∧ v ≤ 999
  · simp only [if_pos a, if_neg z1]
    by_cases b : m.1 0 28 = 0
    · obtain ⟨c', f1, f2, f3, f4⟩ := zm_goneC v (zx_u1 (zx_u1 (zx_u1 (zx_u1 c 26 3 1) 26 4 v) 26 5 0) 28 4 0)
      simp only [if_pos b, f1, zm_bs]
      refine zm_e3 rfl rfl rfl ⟨?_, ?_, ?_, ?_, ?_, ?_, ?_, ?_⟩
      · simpa [zm_u11, zm_upd, f2] using hN
      · simpa [zm_u11, zm_upd, f2] using hK
      · simpa [zm_u11, zm_upd, f2] using hT
      · simpa [zm_u11, zm_upd, f2] using hL
      · simpa [zm_u11, zm_upd, zm_u12, f2, f3] using hS
      · refine ⟨by simp [zm_u11, zm_upd, f2], Or.inr (by simp [zm_u11, zm_upd, f2]), by simp [zm_u11, zm_upd, f2], by simp [zm_u11, zm_upd, f2], by simpa [zm_u11, zm_upd, f2] using d5, by simpa [zm_u11, zm_upd, f2] using d6, by simpa [zm_u11, zm_upd, f2] using d7, by simpa [zm_u11, zm_upd, f2] using d8, by simpa [zm_u11, zm_upd, f2] using d9, by simpa [zm_u11, zm_upd, f2] using d10, fun j hj => Or.inl (f4 j hj), by simpa [zm_u11, zm_upd, f2] using d12, 0, fun _ => 0, by omega, by simp [zm_u11, zm_upd, f2], by simp [zm_u11, zm_upd, f2], fun k hk => absurd hk (by omega), fun j hj => ?_⟩
        · rw [f4 j hj]
          constructor
          · intro h; exact absurd h (by decide)
          · rintro ⟨k, hk, -⟩; omega
      · simpa [zm_u11, zm_upd, f2] using hP
      · simpa [zm_u11, zm_upd, f2] using hB
    · simp only [if_neg b, zm_bs]
      exact zm_e3 rfl rfl rfl H
  · simp only [if_neg a, if_pos z0]
    exact zm_e3 rfl rfl rfl H
