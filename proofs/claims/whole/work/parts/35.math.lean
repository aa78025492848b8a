/-! image -/
theorem t_image {V : Nat → (Nat → Int32) → Prop} {c m : zx_M} (H : zm_R V c m) : zm_ok V f_C_image f_M_image c m := by
  obtain ⟨hN, hK, hT, hL, hS, hD, hP, hB⟩ := id H
  obtain ⟨d1, d2, d3, d4, d5, d6, d7, d8, d9, d10, d11, d12, -⟩ := id hD
  obtain ⟨c2, f1, f2, f3, f4, f5, f6, f7, f8, f9⟩ := zm_becomeP (c := c) d12 d11 (by rw [d1]; exact d2)
  obtain ⟨ma, a1, a2, a3, a4⟩ := zm_imgM1 (zx_u1 (zx_u1 m 0 40 1) 0 41 (m.1 0 28))
  obtain ⟨mb, b1, b2, b3, b4, b5⟩ := zm_imgM2 ma
  have g1 : (zx_u1 m 0 40 1).1 0 28 = m.1 0 28 := by simp [zm_u11, zm_upd]
  have i26 : zx_ix 29 26 = some 26 := zm_ix (k := 26) (by omega) (by omega)
  have i27 : zx_ix 29 27 = some 27 := zm_ix (k := 27) (by omega) (by omega)
  have i28 : zx_ix 29 28 = some 28 := zm_ix (k := 28) (by omega) (by omega)
  have r0 : mb.1 0 = (zx_u1 (zx_u1 m 0 40 1) 0 41 (m.1 0 28)).1 0 := by rw [b2 0 (by omega), a2 0 (by omega)]
  have r0k : ∀ k, ¬ k = 40 → ¬ k = 41 → mb.1 0 k = m.1 0 k := fun k h h' => by rw [r0]; simp [zm_u11, zm_upd, h, h']
  have r40 : mb.1 0 40 = 1 := by rw [r0]; simp [zm_u11, zm_upd]
  have r41 : mb.1 0 41 = m.1 0 28 := by rw [r0]; simp [zm_u11, zm_upd]
  have rr : ∀ r, ¬ r = 0 → ¬ r = 16 → mb.1 r = m.1 r := fun r h h' => by rw [b2 r h', a2 r h']; simp [zm_u11, h]
  have r2 : mb.2 = m.2 := by rw [b3, a3]; rfl
  unfold zm_ok f_C_image f_M_image f_Deed_drops_32
  simp only [f1, zm_bs, zm_let, g1, if_pos d2, a1, b1, i26, i27, i28]
  refine zm_e3 rfl rfl ?_ ⟨?_, ?_, ?_, ?_, ?_, ?_, ?_, ?_⟩
  · have := f4 6 (by omega) (by omega)
    simp [zm_u11, zm_upd, this, r0k, d5]
  · simpa [zm_u11, zm_upd, f2, r0k, rr] using hN
  · simpa [zm_u11, zm_upd, f2, r0k, rr] using hK
  · simpa [zm_u11, zm_upd, f2, r0k, rr] using hT
  · simpa [zm_u11, zm_upd, f2, r0k, rr] using hL
  · simpa [zm_u11, zm_u12, zm_upd, f2, f3, r0k, rr, r2] using hS
  · simpa [zm_u11, zm_upd, f2, r0k, rr] using hD
  · refine ⟨by simp [zm_u11, zm_upd, r40], by simp [zm_u11, zm_upd, r40], fun _ => ?_⟩
    have q21 := b5 0 (by omega)
    have q22 := b5 1 (by omega)
    have q23 := b5 2 (by omega)
    have q24 := b5 3 (by omega)
    have q25 := b5 4 (by omega)
    simp only [Nat.reduceAdd] at q21 q22 q23 q24 q25
    have ra0 : ma.1 0 = mb.1 0 := by rw [b2 0 (by omega)]
    rw [ra0] at q21 q22 q23 q24 q25
    have k := zm_RD_congr hD (o2 := c2.1 32) (gone2 := c2.1 33) (js2 := c2.1 35) (jy2 := c2.1 36) (jm2 := c2.1 37) (ow2 := fun k => mb.1 16 (3 * k)) (os2 := fun k => mb.1 16 (3 * k + 1)) (od2 := fun k => mb.1 16 (3 * k + 2)) f4 f6 f7 f8 f9 (fun k hk => by simp only [b4 (3 * k) (by omega), (a4 k hk).1]; simp [zm_u11]) (fun k hk => by simp only [b4 (3 * k + 1) (by omega), (a4 k hk).2.1]; simp [zm_u11]) (fun k hk => by simp only [b4 (3 * k + 2) (by omega), (a4 k hk).2.2]; simp [zm_u11])
    have x26 : ∀ k < 7, ¬ 3 * k = 26 ∧ ¬ 3 * k = 27 ∧ ¬ 3 * k = 28 ∧ ¬ 3 * k + 1 = 26 ∧ ¬ 3 * k + 1 = 27 ∧ ¬ 3 * k + 1 = 28 ∧ ¬ 3 * k + 2 = 26 ∧ ¬ 3 * k + 2 = 27 ∧ ¬ 3 * k + 2 = 28 := fun k hk => by omega
    have k2 := zm_RD_congr k (o2 := c2.1 32) (gone2 := c2.1 33) (js2 := c2.1 35) (jy2 := c2.1 36) (jm2 := c2.1 37) (ow2 := fun k => upd (upd (upd (mb.1 16) 26 (m.1 0 29)) 27 (m.1 0 30)) 28 (m.1 0 31) (3 * k)) (os2 := fun k => upd (upd (upd (mb.1 16) 26 (m.1 0 29)) 27 (m.1 0 30)) 28 (m.1 0 31) (3 * k + 1)) (od2 := fun k => upd (upd (upd (mb.1 16) 26 (m.1 0 29)) 27 (m.1 0 30)) 28 (m.1 0 31) (3 * k + 2)) (fun _ _ _ => rfl) (fun _ _ => rfl) (fun _ _ => rfl) (fun _ _ => rfl) (fun _ _ => rfl) (fun k hk => by simp [zm_upd, x26 k hk]) (fun k hk => by simp [zm_upd, x26 k hk]) (fun k hk => by simp [zm_upd, x26 k hk])
    simpa [zm_u11, zm_upd, f5, r41, r0k, q21, q22, q23, q24, q25] using k2
  · simpa [zm_u11, zm_upd, f2, r0k, rr] using hB
