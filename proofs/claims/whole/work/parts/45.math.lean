/-! law -/
/-- what thought about drops leaves as it was -/
def zm_FC (c c' : zx_M) : Prop := c'.2 = c.2 ∧ (∀ r, ¬ r = 9 → ¬ r = 11 → ¬ r = 12 → ¬ r = 14 → ¬ (19 ≤ r ∧ r ≤ 25) → c'.1 r = c.1 r) ∧ c'.1 9 2 = c.1 9 2 ∧ c'.1 12 2 = c.1 12 2
def zm_FM (m m' : zx_M) : Prop := m'.2 = m.2 ∧ (∀ r, ¬ r = 0 → ¬ (7 ≤ r ∧ r ≤ 12) → m'.1 r = m.1 r) ∧ ∀ k, k < 11 ∨ 27 < k → m'.1 0 k = m.1 0 k
theorem zm_FC_refl (c : zx_M) : zm_FC c c := ⟨rfl, fun _ _ _ _ _ _ => rfl, rfl, rfl⟩
theorem zm_FM_refl (m : zx_M) : zm_FM m m := ⟨rfl, fun _ _ _ => rfl, fun _ _ => rfl⟩
theorem zm_FC_trans {a b c : zx_M} (h1 : zm_FC a b) (h2 : zm_FC b c) : zm_FC a c := ⟨h2.1.trans h1.1, fun r q1 q2 q3 q4 q5 => (h2.2.1 r q1 q2 q3 q4 q5).trans (h1.2.1 r q1 q2 q3 q4 q5), h2.2.2.1.trans h1.2.2.1, h2.2.2.2.trans h1.2.2.2⟩
theorem zm_FM_trans {a b c : zx_M} (h1 : zm_FM a b) (h2 : zm_FM b c) : zm_FM a c := ⟨h2.1.trans h1.1, fun r q1 q2 => (h2.2.1 r q1 q2).trans (h1.2.1 r q1 q2), fun k hk => (h2.2.2 k hk).trans (h1.2.2 k hk)⟩
theorem zm_FR {V : Nat → (Nat → Int32) → Prop} {c c' m m' : zx_M} (H : zm_R V c m) (hc : zm_FC c c') (hm : zm_FM m m') : zm_R V c' m' := by
  obtain ⟨a1, a2, a3, a4⟩ := hc
  obtain ⟨b1, b2, b3⟩ := hm
  have k : ∀ r, ¬ r = 9 → ¬ r = 11 → ¬ r = 12 → ¬ r = 14 → ¬ (19 ≤ r ∧ r ≤ 25) → c'.1 r = c.1 r := a2
  unfold zm_R
  rw [a1, b1, a3, a4, k 0 (by omega) (by omega) (by omega) (by omega) (by omega), k 1 (by omega) (by omega) (by omega) (by omega) (by omega), k 2 (by omega) (by omega) (by omega) (by omega) (by omega), k 3 (by omega) (by omega) (by omega) (by omega) (by omega), k 4 (by omega) (by omega) (by omega) (by omega) (by omega), k 5 (by omega) (by omega) (by omega) (by omega) (by omega), k 6 (by omega) (by omega) (by omega) (by omega) (by omega), k 7 (by omega) (by omega) (by omega) (by omega) (by omega), k 8 (by omega) (by omega) (by omega) (by omega) (by omega), k 10 (by omega) (by omega) (by omega) (by omega) (by omega), k 13 (by omega) (by omega) (by omega) (by omega) (by omega), k 16 (by omega) (by omega) (by omega) (by omega) (by omega), k 17 (by omega) (by omega) (by omega) (by omega) (by omega), k 26 (by omega) (by omega) (by omega) (by omega) (by omega), k 27 (by omega) (by omega) (by omega) (by omega) (by omega), k 28 (by omega) (by omega) (by omega) (by omega) (by omega), k 29 (by omega) (by omega) (by omega) (by omega) (by omega), k 30 (by omega) (by omega) (by omega) (by omega) (by omega), k 31 (by omega) (by omega) (by omega) (by omega) (by omega), k 32 (by omega) (by omega) (by omega) (by omega) (by omega), k 33 (by omega) (by omega) (by omega) (by omega) (by omega), k 34 (by omega) (by omega) (by omega) (by omega) (by omega), k 35 (by omega) (by omega) (by omega) (by omega) (by omega), k 36 (by omega) (by omega) (by omega) (by omega) (by omega), k 37 (by omega) (by omega) (by omega) (by omega) (by omega), k 38 (by omega) (by omega) (by omega) (by omega) (by omega), k 39 (by omega) (by omega) (by omega) (by omega) (by omega), k 40 (by omega) (by omega) (by omega) (by omega) (by omega)]
  rw [b2 1 (by omega) (by omega), b2 2 (by omega) (by omega), b2 3 (by omega) (by omega), b2 4 (by omega) (by omega), b2 5 (by omega) (by omega), b2 6 (by omega) (by omega), b2 13 (by omega) (by omega), b2 14 (by omega) (by omega), b2 15 (by omega) (by omega), b2 16 (by omega) (by omega), b2 17 (by omega) (by omega), b2 18 (by omega) (by omega), b2 19 (by omega) (by omega), b2 20 (by omega) (by omega)]
  rw [b3 4 (by omega), b3 5 (by omega), b3 6 (by omega), b3 8 (by omega), b3 10 (by omega), b3 28 (by omega), b3 29 (by omega), b3 30 (by omega), b3 31 (by omega), b3 35 (by omega), b3 36 (by omega), b3 37 (by omega), b3 38 (by omega), b3 39 (by omega), b3 40 (by omega), b3 41 (by omega), b3 43 (by omega), b3 46 (by omega)]
  exact H
/-- an empty text is a fault -/
theorem zq_V0 (b : Nat → Int32) : ¬ zq_V 0 b := by
  have hx : ∀ p st, zq_nx b 0 p st = -1 := by
    intro p st
    unfold zq_nx
    cases st
    · rw [if_neg (by decide), if_neg (by omega)]
    · rfl
  have hS : ∀ p st, (zq_S (zq_nx b 0) 6 p st).2.2 = true := by
    intro p st
    rw [show (6 : Nat) = 5 + 1 by rfl]
    unfold zq_S zq_single
    rw [hx]
    have k1 : ¬ ((48 : Int32) ≤ -1 ∧ (-1 : Int32) ≤ 57) := by decide
    have k2 : ¬ 0 ≤ zx_io (-1) := by decide
    have k3 : ¬ (((-1 : Int32) = 40 ∨ (-1 : Int32) = 33 ∨ (-1 : Int32) = 45) ∧ true = true) := fun h => absurd h.1 (by decide)
    rw [if_neg k1, if_neg k2, if_neg k3]
  have hJ : ∀ f : Nat → Bool → ((Nat → Int32) → Int32) × Nat × Bool, (∀ p st, (f p st).2.2 = true) → ∀ k : Int32, ¬ k = -1 → ∀ p st, (zq_J (zq_nx b 0) k f p st).2.2 = true := by
    intro f hf k hk p st
    unfold zq_J
    rw [show (120 : Nat) = 119 + 1 by rfl]
    unfold zq_join
    have : ¬ zq_rank (zq_nx b 0 (f p st).2.1 (f p st).2.2) = k := by
      rw [hx]
      exact fun h => hk (h.symm.trans (by decide))
    rw [if_neg this]
    exact hf p st
  have hE : ∀ p st, (zq_E (zq_nx b 0) (zq_S (zq_nx b 0) 6) p st).2.2 = true := by
    generalize zq_S (zq_nx b 0) 6 = F at hS ⊢
    unfold zq_E
    have h4 := hJ _ hS 4 (by decide)
    have h3 := hJ _ h4 3 (by decide)
    have h2 := hJ _ h3 2 (by decide)
    have h1 := hJ _ h2 1 (by decide)
    exact hJ _ h1 0 (by decide)
  unfold zq_V
  rw [zq_all3]
  have hL : (zq_L b 0).2.2 = true := by
    unfold zq_L
    rw [show (121 : Nat) = 120 + 1 by rfl]
    unfold zq_lines
    rw [hx]
    have k0 : ¬ (-1 : Int32) = 59 := by decide
    rw [if_neg k0]
    unfold zq_line
    generalize zq_E (zq_nx b 0) (zq_S (zq_nx b 0) 6) = E at hE ⊢
    rw [hx]
    have k1 : ¬ (-1 : Int32) = 63 := by decide
    simp only [if_neg k1]
    exact hE 0 false
  rw [hL]
  intro h
  exact absurd h (by simp)
theorem zq_copyM {m : zx_M} {n : Nat} (hn : n ≤ 120) : ∃ m', l_M_law_l37 (Int32.ofNat n) (0, m) = some m' ∧ m'.2 = m.2 ∧ (∀ r, ¬ r = 6 → m'.1 r = m.1 r) ∧ ∀ i < n, m'.1 6 i = m.1 5 i := by
  unfold l_M_law_l37
  refine zm_lp1 (fun s : Int32 × zx_M => zm_up (Int32.ofNat n) s.1) (fun s => ∃ k, k ≤ n ∧ s.1 = Int32.ofNat k ∧ s.2.2 = m.2 ∧ (∀ r, ¬ r = 6 → s.2.1 r = m.1 r) ∧ ∀ i < k, s.2.1 6 i = m.1 5 i) _ ?_ zx_N _ ⟨0, by omega, rfl, rfl, fun _ _ => rfl, fun i hi => absurd hi (by omega)⟩ (zm_upN (by decide : (-30000 : Int32) ≤ 0) (by grind [zm_g]))
  rintro ⟨i, x⟩ ⟨k, h1, h2, h3, h4, h5⟩
  dsimp only at h2 h3 h4 h5 ⊢
  subst h2
  unfold b_M_law_l37
  by_cases g : k = n
  · right
    subst g
    simp only [if_pos (Int32.le_refl _)]
    exact ⟨_, rfl, h3, h4, h5⟩
  · left
    have g1 : ¬ Int32.ofNat n ≤ Int32.ofNat k := by grind [zm_g]
    simp only [if_neg g1, zm_ix (show k < 120 by omega) (by omega), zm_bs, zm_let]
    refine ⟨_, rfl, ⟨k + 1, by omega, by simp, h3, fun r hr => ?_, fun j hj => ?_⟩, zm_up1 (by grind [zm_g])⟩
    · rw [zm_u11, if_neg hr]; exact h4 r hr
    · by_cases q : j = k
      · subst q
        simp [zm_u11, zm_upd, h4]
      · have := h5 j (by omega)
        simpa [zm_u11, zm_upd, q] using this
theorem t_law {c m : zx_M} (H : zm_R zq_V c m) : zm_ok zq_V f_C_law f_M_law c m := by
  obtain ⟨hN, hK, hT, hL, hS, hD, hP, hB⟩ := id H
  obtain ⟨n, hn, t1, t2, t3⟩ := id hT
  have hby : zq_by (m.1 5) n := ⟨hn, fun i hi => (t3 i hi).2⟩
  have A : zq_AC9 c (m.1 5) n := ⟨hby, fun i hi => (t3 i hi).1⟩
  obtain ⟨c1, e1, P1⟩ := zq_read9 A t1
  obtain ⟨r, m1, f1, f2, f3, f4, f5, f6, f7⟩ := zq_work (m := m) (v := -1) hby (Or.inl ⟨rfl, fun _ _ => rfl⟩)
  obtain ⟨p1, p2, p3, p4, p5, p6⟩ := id P1
  have k8 := f4 8 (by omega)
  have hc1 : zm_FC c c1 := ⟨p2, fun r h9 _ _ _ _ => p3 r h9, by rw [p4, t1], by rw [p3 12 (by omega)]⟩
  have hm1 : zm_FM m m1 := ⟨f2, fun r h0 _ => f3 r h0, fun k hk => f4 k (by omega)⟩
  have H1 := zm_FR H hc1 hm1
  obtain ⟨hN1, hK1, hT1, hL1, hS1, hD1, hP1, hB1⟩ := id H1
  unfold zm_ok f_C_law f_M_law f_Text_fault_9 n_C_law_n25 f_Text_clear_9
  simp only [e1, zm_bs, zm_let, t2, f1, k8]
  cases hs : (zq_all (m.1 5) n).2.2
  · -- no fault
    have g1 : c1.1 9 4 = 0 := by rw [p6, hs]; rfl
    obtain ⟨g2, -⟩ := f6 hs
    have hn0 : 0 < n := by
      rcases Nat.eq_zero_or_pos n with h | h
      · subst h
        exact absurd hs (zq_V0 (m.1 5))
      · exact h
    have ck : zx_ck 120 120 0 0 120 = some 120 := by decide
    have o0 : (0 : Int32).toNatClampNeg = 0 := rfl
    have u14 : (zx_u1 m1 0 8 0).1 0 14 = -1 := by simp [zm_u11, zm_upd, g2]
    have z14 : (-1 : Int32) < 0 := by decide
    obtain ⟨m2, h1, h2, h3, h4⟩ := zq_copyM (m := zx_u1 m1 0 8 0) hn
    unfold f_Text_become_12_9
    simp only [g1, ↓reduceIte, zm_bs, not_true_eq_false, ck, zm_let, o0, u14, if_pos z14, h1]
    have m1k : ∀ k, ¬ k = 8 → ¬ k = 10 → (zx_u1 m2 0 10 (Int32.ofNat n)).1 0 k = m1.1 0 k := by
      intro k k1 k2
      rw [zm_u11, if_pos rfl, zm_upd, if_neg k2, h3 0 (by omega), zm_u11, if_pos rfl, zm_upd, if_neg k1]
    have m1r : ∀ r, ¬ r = 0 → ¬ r = 6 → (zx_u1 m2 0 10 (Int32.ofNat n)).1 r = m1.1 r := by
      intro r r1 r2
      rw [zm_u11, if_neg r1, h3 r r2, zm_u11, if_neg r1]
    have m12 : (zx_u1 m2 0 10 (Int32.ofNat n)).2 = m1.2 := by rw [zm_u12, h2, zm_u12]
    have m8 : (zx_u1 m2 0 10 (Int32.ofNat n)).1 0 8 = 0 := by
      rw [zm_u11, if_pos rfl, zm_upd, if_neg (by omega), h3 0 (by omega), zm_u11, if_pos rfl, zm_upd, if_pos rfl]
    have m10 : (zx_u1 m2 0 10 (Int32.ofNat n)).1 0 10 = Int32.ofNat n := by rw [zm_u11, if_pos rfl, zm_upd, if_pos rfl]
    have m6 : ∀ i < n, (zx_u1 m2 0 10 (Int32.ofNat n)).1 6 i = m.1 5 i := by
      intro i hi
      rw [zm_u11, if_neg (by omega), h4 i hi, zm_u11, if_neg (by omega), f3 5 (by omega)]
    generalize zx_u1 m2 0 10 (Int32.ofNat n) = m3 at *
    refine zm_e3 rfl rfl rfl ⟨?_, ?_, ?_, ?_, ?_, ?_, ?_, ?_⟩
    · simpa [zm_u11, zm_w11, zm_upd, m1k, m1r] using hN1
    · simpa [zm_u11, zm_w11, zm_upd, m1k, m1r] using hK1
    · refine ⟨0, by omega, ?_, ?_, fun i hi => absurd hi (by omega)⟩
      · simp [zm_u11, zm_upd]
      · rw [m8]; rfl
    · refine Or.inr ⟨n, hn0, hn, ?_, m10, zq_V_congr (fun i hi => (m6 i hi).symm) hs, fun i hi => ?_⟩
      · simp [zm_u11, zm_w11, zm_upd, p4]
      · have q1 := t3 i hi
        have q2 : i < 120 := by omega
        rw [m6 i hi]
        simp only [zm_u11, zm_w11, zm_upd, zm_cpy, Nat.reduceEqDiff, ↓reduceIte, p3 10 (by omega)]
        rw [if_pos ⟨by omega, by omega⟩]
        simpa using q1
    · simpa [zm_u11, zm_w11, zm_upd, zm_u12, zm_w12, m1k, m1r, m12] using hS1
    · simpa [zm_u11, zm_w11, zm_upd, m1k, m1r] using hD1
    · simpa [zm_u11, zm_w11, zm_upd, m1k, m1r] using hP1
    · simpa [zm_u11, zm_w11, zm_upd, m1k, m1r] using hB1
  · -- a fault
    have g1 : ¬ c1.1 9 4 = 0 := by rw [p6, hs]; decide
    have g2 := f5 hs
    have g3 : ¬ Int32.ofNat (zq_all (m.1 5) n).2.1 = -2 := by
      have := zm_g (k := (zq_all (m.1 5) n).2.1) (by omega)
      grind
    have u14 : (zx_u1 m1 0 8 0).1 0 14 = Int32.ofNat (zq_all (m.1 5) n).2.1 := by simp [zm_u11, zm_upd, g2]
    have z14 : ¬ Int32.ofNat (zq_all (m.1 5) n).2.1 < 0 := zm_nn (by omega)
    simp only [if_neg g1, zm_bs, p5, if_pos g3, u14, if_neg z14]
    refine zm_e3 rfl rfl rfl ⟨?_, ?_, ?_, ?_, ?_, ?_, ?_, ?_⟩
    · simpa [zm_u11, zm_upd] using hN1
    · simpa [zm_u11, zm_upd] using hK1
    · refine ⟨0, by omega, ?_, ?_, fun i hi => absurd hi (by omega)⟩
      · simp [zm_u11, zm_upd]
      · simp [zm_u11, zm_upd]
    · simpa [zm_u11, zm_upd] using hL1
    · simpa [zm_u11, zm_upd, zm_u12] using hS1
    · simpa [zm_u11, zm_upd] using hD1
    · simpa [zm_u11, zm_upd] using hP1
    · simpa [zm_u11, zm_upd] using hB1
