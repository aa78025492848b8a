/-! mend -/
theorem zm_cpy {α : Type} (f g : Nat → α) (sp dp n j : Nat) : va_cpy f g sp dp n j = if dp ≤ j ∧ j < dp + n then f (sp + (j - dp)) else g j := rfl
theorem zm_forgetC (c : zx_M) : ∃ c0, f_Changes_forgetFirst c = some c0 ∧ (∀ r, ¬ r = 4 → ¬ r = 5 → ¬ r = 6 → ¬ r = 7 → ¬ r = 8 → c0.1 r = c.1 r) ∧ c0.2 = c.2 ∧ c0.1 4 5 = Int32.ofNat 39 ∧ (∀ j < 39, c0.1 5 j = c.1 5 (j + 1)) ∧ (∀ j < 39, c0.1 6 j = c.1 6 (j + 1)) ∧ (∀ j < 39, c0.1 7 j = c.1 7 (j + 1)) ∧ ∀ j < 39, c0.1 8 j = c.1 8 (j + 1) := by
  have ck : zx_ck 40 40 1 0 39 = some 39 := by decide
  have o1 : (1 : Int32).toNatClampNeg = 1 := rfl
  have o0 : (0 : Int32).toNatClampNeg = 0 := rfl
  unfold f_Changes_forgetFirst
  have y0 : (zx_u1 c 4 5 39).1 4 5 = 39 := by simp [zm_u11, zm_upd]
  have yw : ∀ (m0 : zx_M) (q : Nat) (f : Nat → Int32), ¬ 4 = q → (zx_w1 m0 q f).1 4 5 = m0.1 4 5 := fun m0 q f h => by rw [zm_w11, if_neg h]
  have n5 : ¬ 4 = 5 := by omega
  have n6 : ¬ 4 = 6 := by omega
  have n7 : ¬ 4 = 7 := by omega
  have n8 : ¬ 4 = 8 := by omega
  simp only [zm_let, y0, ck, zm_bs, yw _ 5 _ n5, yw _ 6 _ n6, yw _ 7 _ n7, o0, o1]
  refine ⟨_, rfl, fun r h4 h5 h6 h7 h8 => ?_, rfl, ?_, fun j hj => ?_, fun j hj => ?_, fun j hj => ?_, fun j hj => ?_⟩
  · simp [zm_w11, zm_u11, h4, h5, h6, h7, h8]
  · simp [zm_w11, zm_u11, zm_upd]
  · simp [zm_w11, zm_u11, zm_cpy, hj, Nat.add_comm]
  · simp [zm_w11, zm_u11, zm_cpy, hj, Nat.add_comm]
  · simp [zm_w11, zm_u11, zm_cpy, hj, Nat.add_comm]
  · simp [zm_w11, zm_u11, zm_cpy, hj, Nat.add_comm]
theorem zm_forgetM (v1 v2 a2 : Int32) (m : zx_M) : ∃ m0, l_M_becomes_l26 v1 v2 a2 (1, m) = some m0 ∧ (∀ r, ¬ r = 2 → ¬ r = 3 → ¬ r = 4 → m0.1 r = m.1 r) ∧ m0.2 = m.2 ∧ (∀ j < 39, m0.1 2 j = m.1 2 (j + 1)) ∧ (∀ j < 39, m0.1 3 j = m.1 3 (j + 1)) ∧ ∀ j < 39, m0.1 4 j = m.1 4 (j + 1) := by
  unfold l_M_becomes_l26
  refine zm_lp1 (fun s : Int32 × zx_M => zm_up 40 s.1) (fun s => ∃ k, 1 ≤ k ∧ k ≤ 40 ∧ s.1 = Int32.ofNat k ∧ (∀ r, ¬ r = 2 → ¬ r = 3 → ¬ r = 4 → s.2.1 r = m.1 r) ∧ s.2.2 = m.2 ∧ (∀ j, s.2.1 2 j = if j + 1 < k then m.1 2 (j + 1) else m.1 2 j) ∧ (∀ j, s.2.1 3 j = if j + 1 < k then m.1 3 (j + 1) else m.1 3 j) ∧ ∀ j, s.2.1 4 j = if j + 1 < k then m.1 4 (j + 1) else m.1 4 j) _ ?_ zx_N _ ⟨1, by omega, by omega, rfl, fun _ _ _ _ => rfl, rfl, fun j => by rw [if_neg (by omega)], fun j => by rw [if_neg (by omega)], fun j => by rw [if_neg (by omega)]⟩ (zm_upN (by decide : (-30000 : Int32) ≤ 1) (by decide))
  rintro ⟨i, x⟩ ⟨k, h1, h2, h3, h4, h5, h6, h7, h8⟩
  dsimp only at h3 h4 h5 h6 h7 h8 ⊢
  subst h3
  unfold b_M_becomes_l26
  by_cases g : k = 40
  · right
    subst g
    have g1 : (40 : Int32) ≤ Int32.ofNat 40 := by decide
    simp only [if_pos g1]
    refine ⟨_, rfl, h4, h5, fun j hj => ?_, fun j hj => ?_, fun j hj => ?_⟩
    · rw [h6, if_pos (by omega)]
    · rw [h7, if_pos (by omega)]
    · rw [h8, if_pos (by omega)]
  · left
    have g1 : ¬ (40 : Int32) ≤ Int32.ofNat k := by grind [zm_g]
    have g2 : Int32.ofNat k - 1 = Int32.ofNat (k - 1) := by
      have := zm_g (k := k) (by omega)
      have := zm_g (k := k - 1) (by omega)
      grind
    have i1 : zx_ix 40 (Int32.ofNat k) = some k := zm_ix (by omega) (by omega)
    have i2 : zx_ix 40 (Int32.ofNat (k - 1)) = some (k - 1) := zm_ix (by omega) (by omega)
    simp only [if_neg g1, g2, i1, i2, zm_bs, zm_let]
    refine ⟨_, rfl, ⟨k + 1, by omega, by omega, by simp, fun r r2 r3 r4 => ?_, h5, fun j => ?_, fun j => ?_, fun j => ?_⟩, zm_up1 (by grind [zm_g])⟩
    · simp only [zm_u11, if_neg r2, if_neg r3, if_neg r4]; exact h4 r r2 r3 r4
    · simp only [zm_u11, zm_upd, ↓reduceIte, Nat.reduceEqDiff]
      by_cases q : j = k - 1
      · rw [if_pos q, if_pos (by omega), h6, if_neg (by omega), q, Nat.sub_add_cancel h1]
      · rw [if_neg q, h6]
        by_cases z : j + 1 < k
        · rw [if_pos z, if_pos (by omega)]
        · rw [if_neg z, if_neg (by omega)]
    · simp only [zm_u11, zm_upd, ↓reduceIte, Nat.reduceEqDiff]
      by_cases q : j = k - 1
      · rw [if_pos q, if_pos (by omega), h7, if_neg (by omega), q, Nat.sub_add_cancel h1]
      · rw [if_neg q, h7]
        by_cases z : j + 1 < k
        · rw [if_pos z, if_pos (by omega)]
        · rw [if_neg z, if_neg (by omega)]
    · simp only [zm_u11, zm_upd, ↓reduceIte, Nat.reduceEqDiff]
      by_cases q : j = k - 1
      · rw [if_pos q, if_pos (by omega), h8, if_neg (by omega), q, Nat.sub_add_cancel h1]
      · rw [if_neg q, h8]
        by_cases z : j + 1 < k
        · rw [if_pos z, if_pos (by omega)]
        · rw [if_neg z, if_neg (by omega)]
theorem zm_rng_fit {n : Int32} {f : Nat → Int32} (R : zm_rng n f) {p w : Nat} {v : Int32} (hw : w < 12) (hp : (28 ≤ p ∧ p = 24 + w) ∨ (w < 4 ∧ ∃ j < 7, Int32.ofNat j < n ∧ p = 7 * w + j)) (hv : zm_fit f w v) : zm_rng n (upd f p v) := by
  obtain ⟨r1, r2, r3, r4, r5⟩ := R
  rcases hp with ⟨q, rfl⟩ | ⟨q1, j, q2, q3, rfl⟩
  · refine ⟨fun i hi hn => ?_, fun i hi hn => ?_, ?_⟩
    · simp only [zm_upd]
      rw [if_neg (by omega), if_neg (by omega), if_neg (by omega), if_neg (by omega)]
      exact r1 i hi hn
    · simp only [zm_upd]
      rw [if_neg (by omega)]
      exact r2 i hi hn
    · by_cases e4 : w = 4
      · subst e4
        simp only [zm_upd, zm_fit] at hv ⊢
        simp only [Nat.reduceAdd, ↓reduceIte, Nat.reduceEqDiff]
        exact ⟨hv.1, hv.2, r5⟩
      · by_cases e5 : w = 5
        · subst e5
          simp only [zm_upd, zm_fit] at hv ⊢
          simp only [Nat.reduceAdd, ↓reduceIte, Nat.reduceEqDiff]
          exact ⟨r3, hv.1, hv.2⟩
        · simp only [zm_upd]
          rw [if_neg (by omega), if_neg (by omega)]
          exact ⟨r3, r4, r5⟩
  · refine ⟨fun i hi hn => ?_, fun i hi hn => ?_, ?_⟩
    · have r := r1 i hi hn
      have hc : w = 0 ∨ w = 1 ∨ w = 2 ∨ w = 3 := by omega
      simp only [zm_upd]
      by_cases g : i = j
      · subst g
        rcases hc with rfl | rfl | rfl | rfl
        · rw [if_pos (by omega), if_neg (by omega), if_neg (by omega), if_neg (by omega)]
          exact ⟨hv, r.2⟩
        · rw [if_neg (by omega), if_pos (by omega), if_neg (by omega), if_neg (by omega)]
          exact ⟨r.1, hv, r.2.2⟩
        · rw [if_neg (by omega), if_neg (by omega), if_pos (by omega), if_neg (by omega)]
          exact ⟨r.1, r.2.1, hv, r.2.2.2⟩
        · rw [if_neg (by omega), if_neg (by omega), if_neg (by omega), if_pos (by omega)]
          exact ⟨r.1, r.2.1, r.2.2.1, hv⟩
      · rw [if_neg (by omega), if_neg (by omega), if_neg (by omega), if_neg (by omega)]
        exact r
    · have g : ¬ i = j := fun e => hn (e ▸ q3)
      simp only [zm_upd]
      rw [if_neg (by omega)]
      exact r2 i hi hn
    · simp only [zm_upd]
      rw [if_neg (by omega), if_neg (by omega)]
      exact ⟨r3, r4, r5⟩
