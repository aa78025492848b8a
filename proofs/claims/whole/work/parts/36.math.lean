/-! back -/
theorem zm_backM (m : zx_M) : ∃ m', l_M_back_l20 (0, m) = some m' ∧ (∀ r, ¬ r = 13 → ¬ r = 14 → ¬ r = 15 → m'.1 r = m.1 r) ∧ m'.2 = m.2 ∧ ∀ k < 7, m'.1 13 k = m.1 16 (3 * k) ∧ m'.1 14 k = m.1 16 (3 * k + 1) ∧ m'.1 15 k = m.1 16 (3 * k + 2) := by
  unfold l_M_back_l20
  refine zm_lp1 (fun s : Int32 × zx_M => zm_up 7 s.1) (fun s => ∃ k, k ≤ 7 ∧ s.1 = Int32.ofNat k ∧ (∀ r, ¬ r = 13 → ¬ r = 14 → ¬ r = 15 → s.2.1 r = m.1 r) ∧ s.2.2 = m.2 ∧ ∀ j < k, s.2.1 13 j = m.1 16 (3 * j) ∧ s.2.1 14 j = m.1 16 (3 * j + 1) ∧ s.2.1 15 j = m.1 16 (3 * j + 2)) _ ?_ zx_N _ ⟨0, by omega, rfl, fun _ _ _ _ => rfl, rfl, fun j hj => absurd hj (by omega)⟩ (zm_upN (by decide : (-30000 : Int32) ≤ 0) (by decide))
  rintro ⟨i, x⟩ ⟨k, h1, h2, h3, h4, h5⟩
  dsimp only at h2 h3 h4 h5 ⊢
  subst h2
  unfold b_M_back_l20
  by_cases g : k = 7
  · right
    subst g
    have g1 : (7 : Int32) ≤ Int32.ofNat 7 := by decide
    simp only [if_pos g1]
    exact ⟨_, rfl, h3, h4, h5⟩
  · left
    have g1 : ¬ (7 : Int32) ≤ Int32.ofNat k := by grind [zm_g]
    have e0 : 3 * Int32.ofNat k = Int32.ofNat (3 * k) := by simp
    have e1 : Int32.ofNat (3 * k) + 1 = Int32.ofNat (3 * k + 1) := by simp
    have e2 : Int32.ofNat (3 * k) + 2 = Int32.ofNat (3 * k + 2) := by simp
    simp only [if_neg g1, e0, e1, e2, zm_ix (show k < 7 by omega) (by omega), zm_ix (show 3 * k < 29 by omega) (by omega), zm_ix (show 3 * k + 1 < 29 by omega) (by omega), zm_ix (show 3 * k + 2 < 29 by omega) (by omega), zm_bs, zm_let]
    refine ⟨_, rfl, ⟨k + 1, by omega, by simp, fun r r3 r4 r5 => ?_, h4, fun j hj => ?_⟩, zm_up1 (by grind [zm_g])⟩
    · simp only [zm_u11, if_neg r3, if_neg r4, if_neg r5]; exact h3 r r3 r4 r5
    · by_cases q : j = k
      · subst q
        simp [zm_u11, zm_upd, h3]
      · have := h5 j (by omega)
        simpa [zm_u11, zm_upd, q] using this
theorem t_back {V : Nat → (Nat → Int32) → Prop} {c m : zx_M} (H : zm_R V c m) : zm_ok V f_C_back f_M_back c m := by
  obtain ⟨hN, hK, hT, hL, hS, hD, hP, hB⟩ := id H
  obtain ⟨p1, p2, p3⟩ := id hP
  unfold zm_ok f_C_back f_M_back f_Deed_drops_26
  rw [p1]
  by_cases a : m.1 0 40 = 0
  · have a' : ¬ ¬ m.1 0 40 = 0 := fun h => h a
    simp only [if_neg a', zm_bs]
    exact zm_e3 rfl rfl rfl H
  have P := p3 (p2.resolve_left a)
  obtain ⟨d1, d2, d3, d4, d5, d6, d7, d8, d9, d10, d11, d12, -⟩ := id P
  obtain ⟨c2, f1, f2, f3, f4, f5, f6, f7, f8, f9⟩ := zm_becomeB (c := c) d12 d11 (by rw [d1]; exact d2)
  obtain ⟨mb, b1, b2, b3, b4⟩ := zm_backM (zx_u1 m 0 28 (m.1 0 41))
  have i21 : zx_ix 29 21 = some 21 := zm_ix (k := 21) (by omega) (by omega)
  have i22 : zx_ix 29 22 = some 22 := zm_ix (k := 22) (by omega) (by omega)
  have i23 : zx_ix 29 23 = some 23 := zm_ix (k := 23) (by omega) (by omega)
  have i24 : zx_ix 29 24 = some 24 := zm_ix (k := 24) (by omega) (by omega)
  have i25 : zx_ix 29 25 = some 25 := zm_ix (k := 25) (by omega) (by omega)
  have i26 : zx_ix 29 26 = some 26 := zm_ix (k := 26) (by omega) (by omega)
  have i27 : zx_ix 29 27 = some 27 := zm_ix (k := 27) (by omega) (by omega)
  have i28 : zx_ix 29 28 = some 28 := zm_ix (k := 28) (by omega) (by omega)
  have r16 : mb.1 16 = m.1 16 := by rw [b2 16 (by omega) (by omega) (by omega)]; simp [zm_u11]
  have r0k : ∀ k, ¬ k = 28 → mb.1 0 k = m.1 0 k := fun k h => by rw [b2 0 (by omega) (by omega) (by omega)]; simp [zm_u11, zm_upd, h]
  have r28 : mb.1 0 28 = m.1 0 41 := by rw [b2 0 (by omega) (by omega) (by omega)]; simp [zm_u11, zm_upd]
  have rr : ∀ r, ¬ r = 0 → ¬ r = 13 → ¬ r = 14 → ¬ r = 15 → mb.1 r = m.1 r := fun r h h3 h4 h5 => by rw [b2 r h3 h4 h5]; simp [zm_u11, h]
  have r2 : mb.2 = m.2 := by rw [b3]; rfl
  simp only [if_pos a, f1, zm_bs, zm_let, if_pos d2, b1, i21, i22, i23, i24, i25, i26, i27, i28]
  refine zm_e3 rfl rfl ?_ ⟨?_, ?_, ?_, ?_, ?_, ?_, ?_, ?_⟩
  · have := f4 6 (by omega) (by omega)
    simp [zm_u11, zm_upd, this, d5, r16]
  · simpa [zm_u11, zm_upd, f2, r0k, rr] using hN
  · simpa [zm_u11, zm_upd, f2, r0k, rr] using hK
  · simpa [zm_u11, zm_upd, f2, r0k, rr] using hT
  · simpa [zm_u11, zm_upd, f2, r0k, rr] using hL
  · simpa [zm_u11, zm_u12, zm_upd, f2, f3, r0k, rr, r2] using hS
  · have k := zm_RD_congr P (o2 := c2.1 26) (gone2 := c2.1 27) (js2 := c2.1 29) (jy2 := c2.1 30) (jm2 := c2.1 31) (ow2 := mb.1 13) (os2 := mb.1 14) (od2 := mb.1 15) f4 f6 f7 f8 f9 (fun k hk => by rw [(b4 k hk).1]; simp [zm_u11]) (fun k hk => by rw [(b4 k hk).2.1]; simp [zm_u11]) (fun k hk => by rw [(b4 k hk).2.2]; simp [zm_u11])
    simpa [zm_u11, zm_upd, f5, r28, r16] using k
  · simpa [zm_u11, zm_upd, f2, r0k, rr] using hP
  · simpa [zm_u11, zm_upd, f2, r0k, rr] using hB
