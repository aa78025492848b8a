/-! shelves laid anew -/
theorem zm_fillC {d : Nat} (hd : d < 6) (c : zx_M) : ∃ c', f_Arrays_fill_18 (Int32.ofNat d * 60) ((Int32.ofNat d + 1) * 60) 0 c = some c' ∧ c'.1 = c.1 ∧ ∀ j, c'.2 18 j = if 60 * d ≤ j ∧ j < 60 * d + 60 then 0 else c.2 18 j := by
  have e1 : Int32.ofNat d * 60 = Int32.ofNat (60 * d) := by grind [zm_g]
  have e2 : (Int32.ofNat d + 1) * 60 = Int32.ofNat (60 * d + 60) := by grind [zm_g]
  rw [e1, e2]
  have key : ∃ c', l_Arrays_fill_18_l10 (Int32.ofNat (60 * d + 60)) 0 (Int32.ofNat (60 * d), c) = some c' ∧ c'.1 = c.1 ∧ ∀ j, c'.2 18 j = if 60 * d ≤ j ∧ j < 60 * d + 60 then 0 else c.2 18 j := by
    unfold l_Arrays_fill_18_l10
    refine zm_lp1 (fun s : Int32 × zx_M => zm_up (Int32.ofNat (60 * d + 60)) s.1) (fun s => ∃ k, 60 * d ≤ k ∧ k ≤ 60 * d + 60 ∧ s.1 = Int32.ofNat k ∧ s.2.1 = c.1 ∧ ∀ j, s.2.2 18 j = if 60 * d ≤ j ∧ j < k then 0 else c.2 18 j) _ ?_ zx_N _ ⟨60 * d, by omega, by omega, rfl, rfl, fun j => by rw [if_neg (by omega)]⟩ (zm_upN (by grind [zm_g]) (by grind [zm_g]))
    rintro ⟨i, x⟩ ⟨k, h1, h2, h3, h4, h5⟩
    dsimp only at h3 h4 h5 ⊢
    subst h3
    unfold b_Arrays_fill_18_l10
    by_cases g : k = 60 * d + 60
    · right
      have g1 : Int32.ofNat (60 * d + 60) ≤ Int32.ofNat k := by subst g; exact Int32.le_refl _
      simp only [if_pos g1]
      exact ⟨_, rfl, h4, fun j => by rw [h5 j, g]⟩
    · left
      have g1 : ¬ Int32.ofNat (60 * d + 60) ≤ Int32.ofNat k := by grind [zm_g]
      simp only [if_neg g1, zm_ix (show k < 360 by omega) (by omega), zm_bs, zm_let]
      refine ⟨_, rfl, ⟨k + 1, by omega, by omega, by simp, by rw [zm_u21]; exact h4, fun j => ?_⟩, zm_up1 (by grind [zm_g])⟩
      simp only [zm_u22, zm_updL, ↓reduceIte]
      by_cases q : j = k
      · rw [if_pos q, if_pos (by omega)]
      · rw [if_neg q, h5 j]
        by_cases z : 60 * d ≤ j ∧ j < k
        · rw [if_pos z, if_pos (by omega)]
        · rw [if_neg z, if_neg (by omega)]
  obtain ⟨c', k1, k2, k3⟩ := key
  have a1 : Int32.ofNat (60 * d) ≤ Int32.ofNat (60 * d + 60) := by grind [zm_g]
  have a2 : (0 : Int32) ≤ Int32.ofNat (60 * d) := Int32.zero_le_ofNat_of_lt (by omega)
  have a3 : Int32.ofNat (60 * d + 60) ≤ 360 := by grind [zm_g]
  unfold f_Arrays_fill_18 f_Arrays_rangeCheck_
  simp only [if_pos a1, if_pos a2, if_pos a3, zm_bs, k1, zm_let]
  exact ⟨c', rfl, k2, k3⟩
theorem zm_fillM {d : Nat} (hd : d < 6) (m : zx_M) : ∃ m', l_M_row_l57 (Int32.ofNat d) (60 * Int32.ofNat d, m) = some (1, m') ∧ m'.1 = m.1 ∧ ∀ j, m'.2 21 j = if 60 * d ≤ j ∧ j < 60 * d + 60 then 0 else m.2 21 j := by
  have e1 : 60 * Int32.ofNat d = Int32.ofNat (60 * d) := by grind [zm_g]
  have e2 : 60 * Int32.ofNat d + 60 = Int32.ofNat (60 * d + 60) := by grind [zm_g]
  have key : ∃ t : Int32 × zx_M, l_M_row_l57 (Int32.ofNat d) (60 * Int32.ofNat d, m) = some t ∧ t.1 = 1 ∧ t.2.1 = m.1 ∧ ∀ j, t.2.2 21 j = if 60 * d ≤ j ∧ j < 60 * d + 60 then 0 else m.2 21 j := by
    unfold l_M_row_l57
    rw [e1]
    refine zm_lp1 (fun s : Int32 × zx_M => zm_up (Int32.ofNat (60 * d + 60)) s.1) (fun s => ∃ k, 60 * d ≤ k ∧ k ≤ 60 * d + 60 ∧ s.1 = Int32.ofNat k ∧ s.2.1 = m.1 ∧ ∀ j, s.2.2 21 j = if 60 * d ≤ j ∧ j < k then 0 else m.2 21 j) _ ?_ zx_N _ ⟨60 * d, by omega, by omega, rfl, rfl, fun j => by rw [if_neg (by omega)]⟩ (zm_upN (by grind [zm_g]) (by grind [zm_g]))
    rintro ⟨i, x⟩ ⟨k, h1, h2, h3, h4, h5⟩
    dsimp only at h3 h4 h5 ⊢
    subst h3
    unfold b_M_row_l57
    rw [e2]
    by_cases g : k = 60 * d + 60
    · right
      have g1 : Int32.ofNat (60 * d + 60) ≤ Int32.ofNat k := by subst g; exact Int32.le_refl _
      simp only [if_pos g1]
      exact ⟨_, rfl, rfl, h4, fun j => by rw [h5 j, g]⟩
    · left
      have g1 : ¬ Int32.ofNat (60 * d + 60) ≤ Int32.ofNat k := by grind [zm_g]
      simp only [if_neg g1, zm_ix (show k < 360 by omega) (by omega), zm_bs, zm_let]
      refine ⟨_, rfl, ⟨k + 1, by omega, by omega, by simp, by rw [zm_u21]; exact h4, fun j => ?_⟩, zm_up1 (by grind [zm_g])⟩
      simp only [zm_u22, zm_updL, ↓reduceIte]
      by_cases q : j = k
      · rw [if_pos q, if_pos (by omega)]
      · rw [if_neg q, h5 j]
        by_cases z : 60 * d ≤ j ∧ j < k
        · rw [if_pos z, if_pos (by omega)]
        · rw [if_neg z, if_neg (by omega)]
  obtain ⟨⟨t, m'⟩, k1, k2, k3, k4⟩ := key
  dsimp only at k2 k3 k4
  subst k2
  exact ⟨m', k1, k3, k4⟩
/-- another thing laid on a shelf: all else stands -/
theorem zm_rs_lay {h s : Nat → Int32} {it : Nat → Int64} {h' s' : Nat → Int32} {it' : Nat → Int64} {nb : Int32} (R : zm_RS h s it h' s' it' nb) {d : Nat} {a b a' b' : Int32} {f f' : Nat → Int64} (hf : ∀ j, f j = if 60 * d ≤ j ∧ j < 60 * d + 60 then 0 else it j) (hf' : ∀ j, ¬ (60 * d ≤ j ∧ j < 60 * d + 60) → f' j = it' j) (hx : (a = -1 ∧ b = 0 ∧ a' = -1 ∧ b' = 0) ∨ (∃ w : Nat, w < 50 ∧ Int32.ofNat w < nb ∧ a = -2 ∧ b = Int32.ofNat w ∧ a' = Int32.ofNat w ∧ b' = 0) ∨ ∃ t n : Nat, t < 5 ∧ n ≤ 60 ∧ a = Int32.ofNat t ∧ b = Int32.ofNat n ∧ a' = Int32.ofNat (50 + t) ∧ b' = Int32.ofNat n ∧ ∀ j, 60 * d ≤ j ∧ j < 60 * d + 60 → f' j = 0) : zm_RS (upd h d a) (upd s d b) f (upd h' d a') (upd s' d b') f' nb := by
  intro e he
  simp only [zm_upd]
  by_cases g : e = d
  · subst g
    simp only [↓reduceIte]
    rcases hx with q | q | ⟨t, n, q1, q2, q3, q4, q5, q6, q7⟩
    · exact Or.inl q
    · exact Or.inr (Or.inl q)
    · refine Or.inr (Or.inr ⟨t, n, q1, q2, q3, q4, q5, q6, fun i hi => ?_⟩)
      rw [hf, q7 _ (by omega), if_pos (by omega)]
      exact ⟨rfl, fun _ => by decide⟩
  · simp only [if_neg g]
    rcases R e he with q | q | ⟨t, n, q1, q2, q3, q4, q5, q6, q7⟩
    · exact Or.inl q
    · exact Or.inr (Or.inl q)
    · refine Or.inr (Or.inr ⟨t, n, q1, q2, q3, q4, q5, q6, fun i hi => ?_⟩)
      rw [hf, hf' _ (by omega), if_neg (by omega)]
      exact q7 i hi
theorem zm_R_lay {V : Nat → (Nat → Int32) → Prop} {c m c' m' : zx_M} (H : zm_R V c m) {d : Nat} {a b a' b' : Int32} (h1 : c'.1 = (zx_u1 (zx_u1 c 16 d a) 17 d b).1) (h2 : m'.1 = (zx_u1 (zx_u1 m 19 d a') 20 d b').1) (hS : zm_RS (upd (c.1 16) d a) (upd (c.1 17) d b) (c'.2 18) (upd (m.1 19) d a') (upd (m.1 20) d b') (m'.2 21) (m.1 0 43)) : zm_R V c' m' := by
  obtain ⟨hN, hK, hT, hL, -, hD, hP, hB⟩ := H
  unfold zm_R
  rw [h1, h2]
  refine ⟨?_, ?_, ?_, ?_, ?_, ?_, ?_, ?_⟩
  · simpa [zm_u11] using hN
  · simpa [zm_u11] using hK
  · simpa [zm_u11] using hT
  · simpa [zm_u11] using hL
  · simpa [zm_u11] using hS
  · simpa [zm_u11] using hD
  · simpa [zm_u11] using hP
  · simpa [zm_u11] using hB
theorem zm_layC {d : Nat} (hd : d < 6) (c : zx_M) (a b : Int32) : ∃ c', f_Shelves_lay (Int32.ofNat d) a b c = some c' ∧ c'.1 = (zx_u1 (zx_u1 c 16 d a) 17 d (if a = -1 then 0 else b)).1 ∧ ∀ j, c'.2 18 j = if 60 * d ≤ j ∧ j < 60 * d + 60 then 0 else c.2 18 j := by
  have a1 : 0 ≤ Int32.ofNat d ∧ Int32.ofNat d ≤ 5 := by grind [zm_g]
  have a4 : ¬ ((1 : Int32) = 0) := by decide
  unfold f_Shelves_lay n_Shelves_lay_n31
  simp only [zm_isShelfC, zm_bs, if_pos a1, if_pos a4, zm_ix hd (by omega), zm_let]
  by_cases e : a = -1
  · have e' : ¬ ¬ a = -1 := fun h => h e
    obtain ⟨c', f1, f2, f3⟩ := zm_fillC hd (zx_u1 (zx_u1 c 16 d a) 17 d 0)
    simp only [if_neg e', if_pos e, f1, zm_bs]
    exact ⟨c', rfl, f2, fun j => by rw [f3 j, zm_u12, zm_u12]⟩
  · obtain ⟨c', f1, f2, f3⟩ := zm_fillC hd (zx_u1 (zx_u1 c 16 d a) 17 d b)
    simp only [if_pos e, if_neg e, f1, zm_bs]
    exact ⟨c', rfl, f2, fun j => by rw [f3 j, zm_u12, zm_u12]⟩
theorem t_row {V : Nat → (Nat → Int32) → Prop} {c m : zx_M} (H : zm_R V c m) (v t n : Int32) : zm_ok V (f_C_row v t n) (f_M_row v t n) c m := by
  obtain ⟨hN, hK, hT, hL, hS, hD, hP, hB⟩ := id H
  unfold zm_ok f_C_row f_M_row
  simp only [zm_isShelfC, zm_isShelfM, zm_wt, zm_bs]
  have z : (0 : Int32) = 0 := rfl
  by_cases a : 0 ≤ v ∧ v ≤ 5
  · obtain ⟨d, hd, rfl⟩ := zm_in (v := v) (n := 6) (by omega) (by grind) (by grind)
    have a4 : ¬ ((1 : Int32) = 0) := by decide
    simp only [if_pos a, if_neg a4]
    by_cases b : 0 ≤ t ∧ t ≤ 4
    · have b1 : ¬ t < 0 := by grind
      have b2 : ¬ 4 < t := by grind
      have b3 : 0 ≤ t.toInt64 ∧ t.toInt64 ≤ 4 := by grind [zm_gl]
      simp only [if_neg b1, if_neg b2, if_pos b3, if_neg a4]
      by_cases e : n ≤ 60
      · by_cases g : 0 ≤ n
        · obtain ⟨tt, ht, rfl⟩ := zm_in (v := t) (n := 5) (by omega) b1 (by grind)
          obtain ⟨nn, hn, rfl⟩ := zm_in (v := n) (n := 61) (by omega) (by grind) (by grind)
          obtain ⟨c', f1, f2, f3⟩ := zm_layC hd c (Int32.ofNat tt) (Int32.ofNat nn)
          obtain ⟨m', k1, k2, k3⟩ := zm_fillM hd (zx_u1 (zx_u1 m 19 d (50 + Int32.ofNat tt)) 20 d (Int32.ofNat nn))
          have n1 : ¬ Int32.ofNat tt = -1 := by grind [zm_g]
          have n2 : 50 + Int32.ofNat tt = Int32.ofNat (50 + tt) := by simp
          simp only [if_pos e, if_pos g, f1, zm_bs, zm_ix hd (by omega), zm_let, k1]
          rw [if_neg n1] at f2
          refine zm_e3 rfl rfl rfl (zm_R_lay H f2 k2 (zm_rs_lay hS f3 (fun j hj => ?_) (Or.inr (Or.inr ⟨tt, nn, ht, by omega, rfl, rfl, n2, rfl, fun j hj => ?_⟩))))
          · rw [k3 j, if_neg hj, zm_u12, zm_u12]
          · rw [k3 j, if_pos hj]
        · simp only [if_pos e, if_neg g]
          exact zm_e3 rfl rfl rfl H
      · simp only [if_neg e]
        exact zm_e3 rfl rfl rfl H
    · have b3 : ¬ (0 ≤ t.toInt64 ∧ t.toInt64 ≤ 4) := by grind [zm_gl]
      simp only [if_neg b3, if_pos z]
      by_cases e : t < 0
      · simp only [if_pos e]; exact zm_e3 rfl rfl rfl H
      · have e2 : 4 < t := by grind
        simp only [if_neg e, if_pos e2]; exact zm_e3 rfl rfl rfl H
  · simp only [if_neg a, if_pos z]
    exact zm_e3 rfl rfl rfl H
theorem t_keep {V : Nat → (Nat → Int32) → Prop} {c m : zx_M} (H : zm_R V c m) (v w : Int32) : zm_ok V (f_C_keep v w) (f_M_keep v w) c m := by
  obtain ⟨hN, hK, hT, hL, hS, hD, hP, hB⟩ := id H
  obtain ⟨nb, hnb, b1, b2, -, -, b5, -⟩ := hB
  unfold zm_ok f_C_keep f_M_keep n_C_keep_n29 n_M_keep_n22 n_C_keep_n45
  simp only [zm_isShelfC, zm_isShelfM, zm_isBodyC _ c b1, zm_isBodyM _ m hnb b2, zm_bs]
  have z : (0 : Int32) = 0 := rfl
  by_cases a : 0 ≤ v ∧ v ≤ 5
  · obtain ⟨d, hd, rfl⟩ := zm_in (v := v) (n := 6) (by omega) (by grind) (by grind)
    have a4 : ¬ ((1 : Int32) = 0) := by decide
    simp only [if_pos a, if_neg a4, zm_ix hd (by omega), zm_bs, zm_let]
    by_cases e : w = -1
    · subst e
      obtain ⟨c', f1, f2, f3⟩ := zm_layC hd c (-1) (-1)
      have e1 : ¬ ¬ ((-1 : Int32) = -1) := fun h => h rfl
      have e2 : (-1 : Int32) = -1 := rfl
      simp only [if_pos e2, if_neg e1, f1, zm_bs]
      rw [if_pos e2] at f2
      refine zm_e3 rfl rfl rfl (zm_R_lay H f2 rfl (zm_rs_lay hS f3 (fun j _ => by rw [zm_u12, zm_u12]) (Or.inl ⟨rfl, rfl, rfl, rfl⟩)))
    · simp only [if_neg e]
      by_cases g : 0 ≤ w ∧ w < Int32.ofNat nb
      · obtain ⟨k, hk, rfl⟩ := zm_in (v := w) (n := nb) (by omega) (by grind) (by grind)
        obtain ⟨c', f1, f2, f3⟩ := zm_layC hd c (-2) (Int32.ofNat k)
        have e1 : ¬ ((-2 : Int32) = -1) := by decide
        simp only [if_pos g, if_pos a4, if_pos e, f1, zm_bs]
        rw [if_neg e1] at f2
        refine zm_e3 rfl rfl rfl (zm_R_lay H f2 rfl (zm_rs_lay hS f3 (fun j _ => by rw [zm_u12, zm_u12]) (Or.inr (Or.inl ⟨k, by omega, by rw [b2]; exact g.2, rfl, rfl, rfl, rfl⟩))))
      · have z2 : ¬ ¬ ((0 : Int32) = 0) := fun h => h rfl
        simp only [if_neg g, if_neg z2]
        exact zm_e3 rfl rfl rfl H
  · simp only [if_neg a, if_pos z]
    exact zm_e3 rfl rfl rfl H
