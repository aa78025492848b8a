/-! over -/
theorem zj_ofRD {o gone : Nat → Int32} {jn : Int32} {js jy jm : Nat → Int32} {isOn onM onY onS ld lj lg lf lw : Int32} {ow os od : Nat → Int32} (R : zm_RD o gone jn js jy jm isOn onM onY onS ld lj lg lf lw ow os od) : ∃ (n : Nat) (g : Nat → Nat), n ≤ 7 ∧ jn = Int32.ofNat n ∧ onM = Int32.ofNat n ∧ (∀ k < n, js k = os k ∧ jy k = od k ∧ jm k = (if zj_mB n os od k then 1 else 0) ∧ g k < 7 ∧ ow k = Int32.ofNat (g k) ∧ ∀ o < n, g o = g k → o = k) ∧ ∀ j < 7, gone j = 1 ↔ ∃ k < n, g k = j := by
  obtain ⟨-, -, -, -, -, -, -, -, -, -, -, d12, n, g, n7, n1, n2, r, r2⟩ := R
  refine ⟨n, g, n7, n1, n2, fun k hk => ?_, r2⟩
  obtain ⟨q1, q2, q3, q4⟩ := r k hk
  refine ⟨q1, q2, ?_, q4⟩
  rw [← zj_mB_iff] at q3
  cases h : zj_mB n os od k
  · rcases d12 k (by omega) with e | e
    · rw [e]; rfl
    · rw [h] at q3
      exact absurd (q3.mp e) (by decide)
  · rw [q3.mpr h]; rfl
theorem zm_overM {m : zx_M} {n : Nat} (hn : n ≤ 7) (h : m.1 0 29 = Int32.ofNat n) : ∃ m', l_M_over_l20 (0, m) = some m' ∧ m'.2 = m.2 ∧ (∀ r, ¬ r = 9 → ¬ r = 10 → m'.1 r = m.1 r) ∧ ∀ k < n, m'.1 9 k = m.1 14 k ∧ m'.1 10 k = m.1 15 k := by
  unfold l_M_over_l20
  refine zm_lp1 (fun s : Int32 × zx_M => zm_up (Int32.ofNat n) s.1) (fun s => ∃ k, k ≤ n ∧ s.1 = Int32.ofNat k ∧ s.2.2 = m.2 ∧ (∀ r, ¬ r = 9 → ¬ r = 10 → s.2.1 r = m.1 r) ∧ ∀ i < k, s.2.1 9 i = m.1 14 i ∧ s.2.1 10 i = m.1 15 i) _ ?_ zx_N _ ⟨0, by omega, rfl, rfl, fun _ _ _ => rfl, fun i hi => absurd hi (by omega)⟩ (zm_upN (by decide : (-30000 : Int32) ≤ 0) (by grind [zm_g]))
  rintro ⟨i, x⟩ ⟨k, h1, h2, h3, h4, h5⟩
  dsimp only at h2 h3 h4 h5 ⊢
  subst h2
  have hx : x.1 0 29 = Int32.ofNat n := by rw [h4 0 (by omega) (by omega)]; exact h
  unfold b_M_over_l20
  rw [hx]
  by_cases g : k = n
  · right
    subst g
    simp only [if_pos (Int32.le_refl _)]
    exact ⟨_, rfl, h3, h4, h5⟩
  · left
    have g1 : ¬ Int32.ofNat n ≤ Int32.ofNat k := by grind [zm_g]
    simp only [if_neg g1, zm_ix (show k < 7 by omega) (by omega), zm_bs, zm_let]
    refine ⟨_, rfl, ⟨k + 1, by omega, by simp, h3, fun r r9 r10 => ?_, fun j hj => ?_⟩, zm_up1 (by grind [zm_g])⟩
    · rw [zm_u11, if_neg r10, zm_u11, if_neg r9]; exact h4 r r9 r10
    · by_cases q : j = k
      · subst q
        simp [zm_u11, zm_upd, h4]
      · have := h5 j (by omega)
        simpa [zm_u11, zm_upd, q] using this
theorem t_over {V : Nat → (Nat → Int32) → Prop} {c m : zx_M} (H : zm_R V c m) : zm_ok V f_C_over f_M_over c m := by
  obtain ⟨hN, hK, hT, hL, hS, hD, hP, hB⟩ := id H
  obtain ⟨n, g, n7, n1, n2, r, r2⟩ := zj_ofRD hD
  obtain ⟨d1, d2, d3, d4, d5, d6, d7, d8, d9, d10, d11, d12, dd⟩ := id hD
  obtain ⟨-, -, hf, -⟩ := id hN
  unfold zm_ok f_C_over f_M_over f_Deed_end_26
  rw [d1]
  by_cases a : m.1 0 28 = 0
  · have a' : ¬ ¬ m.1 0 28 = 0 := fun h => h a
    simp only [if_neg a', zm_bs]
    exact zm_e3 rfl rfl rfl H
  have a1 : m.1 0 28 = 1 := d2.resolve_left a
  obtain ⟨m2, e1, e2, e3, e4⟩ := zm_overM (m := zx_u1 m 0 20 (m.1 0 29)) n7 (by simp [zm_u11, zm_upd, n2])
  have m2r : ∀ q, ¬ q = 0 → ¬ q = 9 → ¬ q = 10 → m2.1 q = m.1 q := fun q q0 q9 q10 => by rw [e3 q q9 q10, zm_u11, if_neg q0]
  have m20 : ∀ k, ¬ k = 20 → m2.1 0 k = m.1 0 k := fun k hk => by rw [e3 0 (by omega) (by omega), zm_u11, if_pos rfl, zm_upd, if_neg hk]
  have m2n : m2.1 0 20 = Int32.ofNat n := by rw [e3 0 (by omega) (by omega), zm_u11, if_pos rfl, zm_upd, if_pos rfl, n2]
  have m22 : m2.2 = m.2 := by rw [e2, zm_u12]
  have e4' : ∀ k < n, m2.1 9 k = m.1 14 k ∧ m2.1 10 k = m.1 15 k := fun k hk => by
    have := e4 k hk
    rw [zm_u11, if_neg (by omega), zm_u11, if_neg (by omega)] at this
    exact this
  have gm := zj_goodMany n7 m2n
  generalize hc3 : zx_u1 (zx_u1 c 26 3 0) 26 6 ((zx_u1 c 26 3 0).1 26 6 + 1) = c3
  have c3r : ∀ q, ¬ q = 26 → c3.1 q = c.1 q := fun q hq => by rw [← hc3, zm_u11, if_neg hq, zm_u11, if_neg hq]
  have J : zj_JC28 c3 n (m.1 14) (m.1 15) := by
    refine ⟨n7, by rw [c3r 28 (by omega)]; exact n1, fun k hk => ?_⟩
    rw [c3r 29 (by omega), c3r 30 (by omega), c3r 31 (by omega)]
    exact ⟨(r k hk).1, (r k hk).2.1, (r k hk).2.2.1⟩
  have gc := zj_good28 J 0
  have gg : zj_good n (c3.1 2 0) (c3.1 2 1) (c3.1 2 2) (m.1 14) (fun k => 0 + m.1 15 k) = zj_good n (m2.1 1 28) (m2.1 1 29) (m2.1 1 30) (m2.1 9) (m2.1 10) := by
    rw [c3r 2 (by omega), hf 0 (by omega), hf 1 (by omega), hf 2 (by omega), m2r 1 (by omega) (by omega) (by omega)]
    refine zj_good_congr (fun o ho => (e4' o ho).1.symm) (fun o ho => ?_)
    rw [(e4' o ho).2]
    grind
  rw [gg] at gc
  generalize Int32.ofNat (zj_good n (m2.1 1 28) (m2.1 1 29) (m2.1 1 30) (m2.1 9) (m2.1 10)) = w at gm gc
  simp only [if_pos a, zm_let, hc3, gc, zm_bs, e1, gm]
  have c3k : ∀ k, ¬ k = 3 → ¬ k = 6 → c3.1 26 k = c.1 26 k := fun k k3 k6 => by rw [← hc3]; simp [zm_u11, zm_upd, k3, k6]
  have c33 : c3.1 26 3 = 0 := by rw [← hc3]; simp [zm_u11, zm_upd]
  have c36 : c3.1 26 6 = c.1 26 6 + 1 := by rw [← hc3]; simp [zm_u11, zm_upd]
  have c32 : c3.2 = c.2 := by rw [← hc3]; simp only [zm_u12]
  refine zm_e3 rfl rfl rfl ⟨?_, ?_, ?_, ?_, ?_, ?_, ?_, ?_⟩
  · simpa [zm_u11, zm_upd, c3r, m2r, m20] using hN
  · simpa [zm_u11, zm_upd, c3r, m2r, m20] using hK
  · simpa [zm_u11, zm_upd, c3r, m2r, m20] using hT
  · simpa [zm_u11, zm_upd, c3r, m2r, m20] using hL
  · simpa [zm_u11, zm_upd, zm_u12, c3r, m2r, m20, c32, m22] using hS
  · have hR : ∀ x : zx_M × zx_M, x.1.1 26 3 = 0 → x.1.1 26 4 = c.1 26 4 → x.1.1 26 5 = c.1 26 5 → x.1.1 26 6 = c.1 26 6 + 1 → x.1.1 26 7 = c.1 26 7 → x.1.1 26 8 = c.1 26 8 + w → x.1.1 26 9 = c.1 26 9 → x.1.1 26 10 = c.1 26 10 → zm_RD (x.1.1 26) (c.1 27) (c.1 28 4) (c.1 29) (c.1 30) (c.1 31) 0 (m.1 0 29) (m.1 0 30) (m.1 0 31) (m.1 0 35 + 1) (m.1 0 36) (m.1 0 37 + w) (m.1 0 38) (m.1 0 39) (m.1 13) (m.1 14) (m.1 15) := by
      intro x h3 h4 h5 h6 h7 h8 h9 h10
      exact ⟨h3, Or.inl rfl, by rw [h4, d3], by rw [h5, d4], by rw [h6, d5], by rw [h7, d6], by rw [h8, d7], by rw [h9, d8], by rw [h10, d9], d10, d11, d12, dd⟩
    have := hR (zx_u1 c3 26 8 (c3.1 26 8 + w), m) (by simp [zm_u11, zm_upd, c33]) (by simp [zm_u11, zm_upd, c3k]) (by simp [zm_u11, zm_upd, c3k]) (by simp [zm_u11, zm_upd, c36]) (by simp [zm_u11, zm_upd, c3k]) (by simp [zm_u11, zm_upd, c3k]) (by simp [zm_u11, zm_upd, c3k]) (by simp [zm_u11, zm_upd, c3k])
    simpa [zm_u11, zm_upd, c3r, m2r, m20] using this
  · simpa [zm_u11, zm_upd, c3r, m2r, m20] using hP
  · simpa [zm_u11, zm_upd, c3r, m2r, m20] using hB
