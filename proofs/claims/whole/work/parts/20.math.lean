/-! answers that change nothing -/
theorem t_trace {c m : zx_M} (h : zm_RB (c.1 38 1) (c.1 38 3) (c.1 39) (c.1 40) (m.1 0 43) (m.1 0 46) (m.1 17) (m.1 18)) (v : Int32) : zm_O (f_C_trace v) (f_M_trace v) c m := t_bodies h v
theorem zm_isThere (v w : Int32) {c : zx_M} {k : Nat} (h : c.1 1 2 = Int32.ofNat k) : f_Numbers_isThere v w c = some (if (0 ≤ w ∧ w < 4 ∧ 0 ≤ v ∧ v < Int32.ofNat k) ∨ (4 ≤ w ∧ w ≤ 11 ∧ v = 0) then 1 else 0) := by
  unfold f_Numbers_isThere
  simp only [zm_isJumperC v c h, zm_bs]
  grind
theorem zm_placeOf (v w : Int32) {m : zx_M} {k : Nat} (hk : k ≤ 7) (h : m.1 0 6 = Int32.ofNat k) : f_M_placeOf v w m = some (if 0 ≤ w ∧ w < 4 ∧ 0 ≤ v ∧ v < Int32.ofNat k then 7 * w + v else if 4 ≤ w ∧ w ≤ 11 ∧ v = 0 then 24 + w else -1) := by
  have e : 28 + w - 4 = 24 + w := by grind
  unfold f_M_placeOf
  simp only [zm_wt, zm_isJumperM v m hk h, zm_bs, e]
  grind [zm_gl]
theorem t_of {c m : zx_M} (h : zm_RN (c.1 1 2) (c.1 2) (c.1 3) (m.1 0 6) (m.1 1)) (v w : Int32) : zm_O (f_C_of v w) (f_M_of v w) c m := by
  obtain ⟨⟨k, hk, h1, h2⟩, -, h3, h4⟩ := h
  unfold zm_O f_C_of f_M_of
  rw [zm_isThere v w h1, zm_placeOf v w hk h2]
  simp only [zm_bs]
  by_cases a : 0 ≤ w ∧ w < 4 ∧ 0 ≤ v ∧ v < Int32.ofNat k
  · obtain ⟨i, hi, rfl⟩ := zm_in (v := w) (n := 4) (by omega) (by grind) (by grind)
    obtain ⟨j, hj, rfl⟩ := zm_in (v := v) (n := k) (by omega) (by grind) (by grind)
    have e : 7 * Int32.ofNat i + Int32.ofNat j = Int32.ofNat (7 * i + j) := by grind [zm_g]
    rw [if_pos (Or.inl a), if_pos a, e, if_neg (zm_nn (by omega)), zm_ix (by omega) (by omega), zm_told_j (by omega) hi rfl rfl]
    exact ⟨_, rfl, by rw [h4 j (by omega) i hi]; rfl⟩
  by_cases b : 4 ≤ w ∧ w ≤ 11 ∧ v = 0
  · obtain ⟨i, hi, e⟩ := zm_in (v := w - 4) (n := 8) (by omega) (by grind) (by grind)
    have e1 : w = Int32.ofNat (4 + i) := by grind [zm_g]
    have e2 : 24 + w = Int32.ofNat (28 + i) := by grind [zm_g]
    rw [if_pos (Or.inr b), if_neg a, if_pos b, e2, if_neg (zm_nn (by omega)), zm_ix (by omega) (by omega), zm_told_f hi e1]
    exact ⟨_, rfl, by rw [h3 i hi]; rfl⟩
  · have n : ¬ ((0 ≤ w ∧ w < 4 ∧ 0 ≤ v ∧ v < Int32.ofNat k) ∨ (4 ≤ w ∧ w ≤ 11 ∧ v = 0)) := fun q => q.elim a b
    rw [if_neg n, if_neg a, if_neg b]
    exact ⟨_, rfl, rfl⟩
theorem t_count {c m : zx_M} (h1 : c.1 1 2 = m.1 0 6) (h2 : c.1 9 2 = m.1 0 8) (h3 : c.1 4 5 = m.1 0 5) (h4 : c.1 38 1 = m.1 0 43) (h5 : c.1 38 3 = m.1 0 46) (v : Int32) : zm_O (f_C_count v) (f_M_count v) c m := by
  unfold zm_O f_C_count f_M_count f_Numbers_jumpersThere f_Text_size_9 f_Changes_undoable f_Acts_bodiesKept f_Acts_bodiesRun
  simp only [zm_bs, h1, h2, h3, h4, h5]
  split
  · exact ⟨_, rfl, rfl⟩
  split
  · exact ⟨_, rfl, rfl⟩
  split
  · exact ⟨_, rfl, rfl⟩
  split
  · exact ⟨_, rfl, rfl⟩
  split
  · exact ⟨_, rfl, rfl⟩
  · exact ⟨_, rfl, rfl⟩
theorem t_led {c m : zx_M} (h3 : c.1 26 3 = m.1 0 28) (h4 : c.1 26 4 = m.1 0 30) (h6 : c.1 26 6 = m.1 0 35) (h7 : c.1 26 7 = m.1 0 36) (h8 : c.1 26 8 = m.1 0 37) (h9 : c.1 26 9 = m.1 0 38) (h10 : c.1 26 10 = m.1 0 39) (v : Int32) : zm_O (f_C_led v) (f_M_led v) c m := by
  unfold zm_O f_C_led f_M_led f_Deed_tally_26
  simp only [h3, h4, h6, h7, h8, h9, h10]
  by_cases a0 : v = 0
  · simp [a0]
  by_cases a1 : v = 1
  · simp [a1]
  by_cases a2 : v = 2
  · simp [a2]
  by_cases a3 : v = 3
  · simp [a3]
  by_cases a4 : v = 4
  · simp [a4]
  by_cases a5 : v = 5
  · by_cases e : m.1 0 28 = 0
    · simp [a5, e]
    · simp [a5, e]
  · simp [a0, a1, a2, a3, a4, a5]
theorem zm_windIn {c m : zx_M} (v w x : Int32) (s : Int32 × Int32 × Int32) (hs : s.1 = -2 ∨ 0 ≤ s.1) (hx : -30 ≤ x ∧ x ≤ 30) (hb : -30 ≤ s.2.2 ∧ s.2.2 ≤ 31) : ∃ t t', l_C_windBy_lb38_49 v w (m.1 1 34) x c s = some t ∧ l_M_windBy_lb26_37 v w x m s = some t' ∧ t = t' ∧ (t.1 = -2 ∨ 0 ≤ t.1) := by
  have i1 : zx_ix 36 34 = some 34 := zm_ix (k := 34) (by omega) (by omega)
  unfold l_C_windBy_lb38_49 l_M_windBy_lb26_37
  refine zm_lp2 (fun s => zm_up 31 s.2.2) (fun s s' => s = s' ∧ (s.1 = -2 ∨ 0 ≤ s.1) ∧ -30 ≤ s.2.2 ∧ s.2.2 ≤ 31) (fun t t' : Int32 × Int32 => t = t' ∧ (t.1 = -2 ∨ 0 ≤ t.1)) ?_ zx_N s s ⟨rfl, hs, hb⟩ (zm_upN (by grind) (by decide))
  rintro ⟨p, q, r⟩ _ ⟨rfl, hp, hr, hr2⟩
  dsimp only at hp hr hr2 ⊢
  unfold b_C_windBy_lb38_49 b_M_windBy_lb26_37
  rw [zm_abs, zm_abs, i1]
  simp only [zm_bs, zm_let, n_C_windBy_b38_b49_116, n_C_windBy_b38_b49_96, n_M_windBy_b26_b37_106, n_M_windBy_b26_b37_87]
  by_cases g : 30 < r
  · right
    simp only [if_pos g]
    exact ⟨_, _, rfl, rfl, rfl, hp⟩
  · left
    simp only [if_neg g]
    have hm := zm_up1 (e := 31) (v := r) (by grind)
    have g1 : -30 ≤ r + 1 ∧ r + 1 ≤ 31 := by grind
    by_cases k1 : ¬ v + m.1 1 34 * (x + r) = w
    · simp only [if_pos k1]
      exact ⟨_, _, rfl, rfl, ⟨rfl, hp, g1⟩, hm⟩
    simp only [if_neg k1]
    have hz : 0 ≤ 100 * (x + 30) + r + 30 := by grind
    by_cases k2 : p = -2
    · have kp : p < 0 := by grind
      simp only [if_pos k2, if_pos kp]
      exact ⟨_, _, rfl, rfl, ⟨rfl, Or.inr hz, g1⟩, hm⟩
    have kn : ¬ p < 0 := by grind
    simp only [if_neg k2, if_neg kn]
    by_cases k3 : q ≤ zx_abs x + zx_abs r
    · simp only [if_pos k3]
      exact ⟨_, _, rfl, rfl, ⟨rfl, hp, g1⟩, hm⟩
    · simp only [if_neg k3]
      exact ⟨_, _, rfl, rfl, ⟨rfl, Or.inr hz, g1⟩, hm⟩
theorem zm_windOut {c m : zx_M} (v w : Int32) : ∃ t, l_C_windBy_l38 v w (m.1 1 34) c (-2, 0, -30) = some t ∧ l_M_windBy_l26 v w m (-2, 0, -30) = some t := by
  have key : ∃ t t', l_C_windBy_l38 v w (m.1 1 34) c (-2, 0, -30) = some t ∧ l_M_windBy_l26 v w m (-2, 0, -30) = some t' ∧ t = t' := by
    unfold l_C_windBy_l38 l_M_windBy_l26
    refine zm_lp2 (fun s => zm_up 31 s.2.2) (fun s s' => s = s' ∧ (s.1 = -2 ∨ 0 ≤ s.1) ∧ -30 ≤ s.2.2 ∧ s.2.2 ≤ 31) (fun t t' => t = t') ?_ zx_N _ _ ⟨rfl, Or.inl rfl, (by decide : (-30 : Int32) ≤ -30), (by decide : (-30 : Int32) ≤ 31)⟩ (zm_upN (by decide : (-30000 : Int32) ≤ -30) (by decide))
    rintro ⟨p, q, r⟩ _ ⟨rfl, hp, hr, hr2⟩
    dsimp only at hp hr hr2 ⊢
    unfold b_C_windBy_l38 b_M_windBy_l26
    by_cases g : 30 < r
    · right
      simp only [if_pos g]
      exact ⟨_, _, rfl, rfl, rfl⟩
    · left
      simp only [if_neg g]
      obtain ⟨⟨u1, u2⟩, _, f1, f2, rfl, hu⟩ := zm_windIn (c := c) (m := m) v w r (p, q, -30) hp ⟨hr, by grind⟩ ⟨(by decide : (-30 : Int32) ≤ -30), (by decide : (-30 : Int32) ≤ 31)⟩
      have g1 : -30 ≤ r + 1 ∧ r + 1 ≤ 31 := by grind
      simp only [f1, f2, zm_bs, zm_let]
      exact ⟨_, _, rfl, rfl, ⟨rfl, hu, g1⟩, zm_up1 (by grind)⟩
  obtain ⟨t, _, e1, e2, rfl⟩ := key
  exact ⟨t, e1, e2⟩
theorem t_windBy {c m : zx_M} (h : zm_RN (c.1 1 2) (c.1 2) (c.1 3) (m.1 0 6) (m.1 1)) (v w : Int32) : zm_O (f_C_windBy v w) (f_M_windBy v w) c m := by
  obtain ⟨-, -, h2, -⟩ := h
  have e1 : f_Numbers_told 0 10 c = _ := zm_told_f (k := 6) (by omega) rfl
  have hh : c.1 2 6 = m.1 1 34 := h2 6 (by omega)
  unfold zm_O f_C_windBy f_M_windBy
  simp only [zm_isYardC, zm_isYardM, e1, hh, zm_bs]
  obtain ⟨t, f1, f2⟩ := zm_windOut (c := c) (m := m) v w
  simp only [f1, f2, zm_let, zm_bs]
  by_cases a : -999 ≤ v ∧ v ≤ 999
  · by_cases b : -999 ≤ w ∧ w ≤ 999
    · simp [a, b]
    · simp [a, b]
  · simp [a]
