/-! calls that change little -/
def zm_ok (V : Nat → (Nat → Int32) → Prop) {α : Type} (fC fM : zx_M → Option (α × zx_M)) (c m : zx_M) : Prop := ∃ r c' m', fC c = some (r, c') ∧ fM m = some (r, m') ∧ zm_R V c' m'
theorem zm_e3 {V : Nat → (Nat → Int32) → Prop} {α : Type} {X Y : Option (α × zx_M)} {r r' : α} {c' m' : zx_M} (hC : X = some (r, c')) (hM : Y = some (r', m')) (e : r = r') (hR : zm_R V c' m') : ∃ r c' m', X = some (r, c') ∧ Y = some (r, m') ∧ zm_R V c' m' := ⟨r, c', m', hC, by rw [hM, e], hR⟩
theorem t_feed {V : Nat → (Nat → Int32) → Prop} {c m : zx_M} (h : zm_R V c m) (v : Int32) : zm_ok V (f_C_feed v) (f_M_feed v) c m := by
  obtain ⟨hN, hK, hT, hL, hS, hD, hP, hB⟩ := id h
  obtain ⟨k, hk, h1, h2, h3⟩ := hT
  unfold zm_ok f_C_feed f_M_feed f_Text_append_9
  simp only [zm_wt, zm_bs, zm_let, h1, h2]
  by_cases a : 0 ≤ v ∧ v ≤ 255
  · have a1 : ¬ v < 0 := by grind
    have a2 : 0 ≤ v.toInt64 ∧ v.toInt64 ≤ 255 := by grind [zm_gl]
    have a3 : ¬ Int32.ofNat k < 0 := zm_nn (by omega)
    have a4 : ¬ ((1 : Int32) = 0) := by decide
    simp only [if_neg a1, if_pos a.2, if_pos a2, if_neg a3, if_pos a4]
    by_cases b : k < 120
    · have b1 : Int32.ofNat k < 120 := by grind [zm_g]
      have b2 : ¬ Int32.ofNat k = 120 := by grind [zm_g]
      simp only [if_pos b1, if_pos b2, zm_ix b (by omega), zm_bs]
      refine zm_e3 rfl rfl ?_ ?_
      · simp [zm_u11, zm_upd, h1, h2]
      · have e : Int32.ofNat k + 1 = Int32.ofNat (k + 1) := by simp
        refine ⟨?_, ?_, ?_, ?_, ?_, ?_, ?_, ?_⟩
        · simpa [zm_u11, zm_upd] using hN
        · simpa [zm_u11, zm_upd] using hK
        · refine ⟨k + 1, by omega, by simp [zm_u11, zm_upd, h1], by simp [zm_u11, zm_upd, h2], ?_⟩
          intro i hi
          by_cases q : i = k
          · subst q; simp [zm_u11, zm_upd, a]
          · have := h3 i (by omega)
            simpa [zm_u11, zm_upd, q] using this
        · simpa [zm_u11, zm_upd] using hL
        · simpa [zm_u11, zm_upd, zm_u12] using hS
        · simpa [zm_u11, zm_upd] using hD
        · simpa [zm_u11, zm_upd] using hP
        · simpa [zm_u11, zm_upd] using hB
    · have b0 : k = 120 := by omega
      subst b0
      have b1 : ¬ Int32.ofNat 120 < 120 := by decide
      have b2 : ¬ ¬ Int32.ofNat 120 = 120 := by decide
      simp only [if_neg b1, if_neg b2]
      exact ⟨_, _, _, rfl, rfl, h⟩
  · have a2 : ¬ (0 ≤ v.toInt64 ∧ v.toInt64 ≤ 255) := by grind [zm_gl]
    have a4 : ¬ ¬ ((0 : Int32) = 0) := by decide
    simp only [if_neg a2, if_neg a4]
    by_cases b : v < 0
    · simp only [if_pos b]; exact ⟨_, _, _, rfl, rfl, h⟩
    · have b1 : ¬ v ≤ 255 := by grind
      simp only [if_neg b, if_neg b1]; exact ⟨_, _, _, rfl, rfl, h⟩
theorem t_body {V : Nat → (Nat → Int32) → Prop} {c m : zx_M} (h : zm_R V c m) (v : Int32) : zm_ok V (f_C_body v) (f_M_body v) c m := by
  obtain ⟨hN, hK, hT, hL, hS, hD, hP, hB⟩ := id h
  obtain ⟨k, hk, h1, h2, h3, h4, h5, h6⟩ := hB
  unfold zm_ok f_C_body f_M_body f_Acts_newBody f_Acts_isKind
  simp only [zm_wt, zm_bs, zm_let, h1, h2]
  by_cases a : 0 ≤ v ∧ v ≤ 7
  · have a1 : ¬ v < 0 := by grind
    have a0 : ¬ 8 ≤ v := by grind
    have a2 : 0 ≤ v.toInt64 ∧ v.toInt64 ≤ 7 := by grind [zm_gl]
    have a3 : ¬ Int32.ofNat k < 0 := zm_nn (by omega)
    have a4 : ¬ ((1 : Int32) = 0) := by decide
    simp only [if_neg a1, if_neg a0, if_pos a2, if_neg a3, if_pos a4, zm_bs]
    by_cases b : k < 50
    · have b1 : Int32.ofNat k < 50 := by grind [zm_g]
      have b2 : ¬ Int32.ofNat k = 50 := by grind [zm_g]
      simp only [if_pos b1, if_pos b2, zm_ix b (by omega), zm_bs]
      refine zm_e3 rfl rfl ?_ ?_
      · simp [zm_u11, zm_upd, h1, h2]
      · refine ⟨?_, ?_, ?_, ?_, ?_, ?_, ?_, ?_⟩
        · simpa [zm_u11, zm_upd] using hN
        · simpa [zm_u11, zm_upd] using hK
        · simpa [zm_u11, zm_upd] using hT
        · simpa [zm_u11, zm_upd] using hL
        · have e : Int32.ofNat k < Int32.ofNat k + 1 := by grind [zm_g]
          simp only [zm_u11, zm_u12, zm_upd]
          intro d hd
          rcases hS d hd with q | ⟨w, q1, q2, q3⟩ | q
          · exact Or.inl q
          · rw [h2] at q2
            have e2 : Int32.ofNat w < Int32.ofNat k + 1 := by grind [zm_g]
            refine Or.inr (Or.inl ⟨w, q1, ?_, q3⟩)
            simpa [h2, zm_upd] using e2
          · exact Or.inr (Or.inr q)
        · simpa [zm_u11, zm_upd] using hD
        · simpa [zm_u11, zm_upd] using hP
        · refine ⟨k + 1, by omega, by simp [zm_u11, zm_upd, h1], by simp [zm_u11, zm_upd, h2], by simpa [zm_u11, zm_upd] using h3, by simpa [zm_u11, zm_upd] using h4, ?_, ?_⟩
          · intro i hi
            by_cases q : i = k
            · subst q; simp [zm_u11, zm_upd, a]
            · have := h5 i (by omega)
              simpa [zm_u11, zm_upd, q] using this
          · simpa [zm_u11, zm_upd] using h6
    · have b0 : k = 50 := by omega
      subst b0
      have b1 : ¬ Int32.ofNat 50 < 50 := by decide
      have b2 : ¬ ¬ Int32.ofNat 50 = 50 := by decide
      simp only [if_neg b1, if_neg b2]
      exact ⟨_, _, _, rfl, rfl, h⟩
  · have a2 : ¬ (0 ≤ v.toInt64 ∧ v.toInt64 ≤ 7) := by grind [zm_gl]
    have a4 : ¬ ¬ ((0 : Int32) = 0) := by decide
    simp only [if_neg a2, if_neg a4]
    by_cases b : v < 0
    · simp only [if_pos b, zm_bs, if_neg a4]; exact ⟨_, _, _, rfl, rfl, h⟩
    · have b1 : 8 ≤ v := by grind
      simp only [if_neg b, if_pos b1, zm_bs, if_neg a4]; exact ⟨_, _, _, rfl, rfl, h⟩
