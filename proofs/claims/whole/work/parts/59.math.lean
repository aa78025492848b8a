/-! both in the midst of a thought -/
theorem zj_meeting22 {c : zx_M} {n : Nat} {se yd : Nat → Int32} (Q : zj_JC22 c n se yd) : f_Jumps_meeting_22 c = some (Int32.ofNat (zj_meetn n se yd)) := by
  obtain ⟨hn, j1, j2⟩ := Q
  have key : l_Jumps_meeting_22_l4 c (0, 0) = some (Int32.ofNat (zj_meetn n se yd)) := by
    unfold l_Jumps_meeting_22_l4 zj_meetn
    refine zj_cntN hn (fun v => ?_) (fun v i hi => ?_)
    · show b_Jumps_meeting_22_l4 v (Int32.ofNat n) c = _
      unfold b_Jumps_meeting_22_l4
      rw [j1, if_pos (Int32.le_refl _)]
    · show b_Jumps_meeting_22_l4 v (Int32.ofNat i) c = _
      have g1 : ¬ Int32.ofNat n ≤ Int32.ofNat i := by grind [zm_g]
      have g2 : ¬ 7 ≤ Int32.ofNat i := by grind [zm_g]
      have a1 : Int32.ofNat i + 1 = Int32.ofNat (i + 1) := by simp
      unfold b_Jumps_meeting_22_l4 n_Jumps_meeting_22_b4_33
      simp only [j1, if_neg g1, if_neg g2, zm_ix (show i < 7 by omega) (by omega), zm_bs, (j2 i hi).2.2, zm_let, a1]
      cases zj_mB n se yd i <;> simp
  unfold f_Jumps_meeting_22
  rw [key]
  rfl
theorem zj_well22 {c : zx_M} {n : Nat} {se yd : Nat → Int32} (Q : zj_JC22 c n se yd) (v : Int32) : f_Jumps_well_22 v c = some (Int32.ofNat (zj_well n (c.1 2 0) (c.1 2 1) (c.1 2 2) (fun k => v + yd k))) := by
  unfold f_Jumps_well_22
  rw [zj_wellFrom22 Q, zm_bs]
  congr 2
  unfold zj_well
  refine zj_cnt_congr (fun k hk => ?_)
  rw [show decide (¬ (1 : Int32) = 0) = true by decide, Bool.true_or, Bool.and_true]
theorem zj_downOf22 {c : zx_M} {n k : Nat} {se yd : Nat → Int32} (Q : zj_JC22 c n se yd) (hk : k < n) (v : Int32) : f_Jumps_downOf_22 (Int32.ofNat k) v c = some (v + yd k) := by
  obtain ⟨hn, j1, j2⟩ := Q
  have g0 : ¬ Int32.ofNat k < 0 := zm_nn (by omega)
  have g1 : ¬ Int32.ofNat n ≤ Int32.ofNat k := by grind [zm_g]
  have g2 : ¬ 7 ≤ Int32.ofNat k := by grind [zm_g]
  unfold f_Jumps_downOf_22
  rw [j1, if_neg g0, if_neg g1, if_neg g2, zm_ix (by omega) (by omega), zm_bs, (j2 k hk).2.1]
theorem zj_meetn_congr {n : Nat} {se dw se' dw' : Nat → Int32} (h1 : ∀ o < n, se o = se' o) (h2 : ∀ k < n, ∀ o < n, dw o - dw k = dw' o - dw' k) : zj_meetn n se dw = zj_meetn n se' dw' := zj_cnt_congr (fun k hk => zj_mB_congr hk h1 (h2 k hk))
def zo_W (c m : zx_M) (n J : Nat) (g : Nat → Nat) : Prop := zm_R zq_V c m ∧ zo_R c m n J g
theorem zo_WRc {c m : zx_M} {n J : Nat} {g : Nat → Nat} (W : zo_W c m n J g) : zo_Rc c n J g := by
  obtain ⟨-, r1, r2, r3, r4, r5, r6, r7, r8, r9⟩ := W
  exact ⟨r1, r2, r3, fun k hk => ⟨(r7 k hk).1, (r7 k hk).2.1⟩⟩
theorem zo_WRm {c m : zx_M} {n J : Nat} {g : Nat → Nat} (W : zo_W c m n J g) : zo_Rm m n J g := by
  obtain ⟨-, r1, r2, r3, r4, r5, r6, r7, r8, r9⟩ := W
  exact ⟨r1, r2, r4, fun k hk => ⟨(r7 k hk).1, (r7 k hk).2.2.1⟩⟩
theorem zo_Wnum {c m : zx_M} {n J : Nat} {g : Nat → Nat} (W : zo_W c m n J g) : c.1 2 0 = m.1 1 28 ∧ c.1 2 1 = m.1 1 29 ∧ c.1 2 2 = m.1 1 30 ∧ c.1 2 3 = m.1 1 31 ∧ c.1 2 7 = m.1 1 35 := by
  obtain ⟨⟨⟨-, -, h, -⟩, -⟩, -⟩ := W
  exact ⟨h 0 (by omega), h 1 (by omega), h 2 (by omega), h 3 (by omega), h 7 (by omega)⟩
theorem zo_Wway {c m : zx_M} {n J : Nat} {g : Nat → Nat} (W : zo_W c m n J g) : f_C_way c = some (m.1 0 21) := by
  have t11 : f_Numbers_told 0 11 c = _ := zm_told_f (k := 7) (by omega) rfl
  unfold f_C_way
  rw [t11, zm_bs, (zo_Wnum W).2.2.2.2, W.2.2.2.2.2.2.2.2.2]
theorem zo_WC {c c' m : zx_M} {n J : Nat} {g : Nat → Nat} (W : zo_W c m n J g) (F : zj_JF22 c c') : zo_W c' m n J g := by
  obtain ⟨H, r1, r2, r3, r4, r5, r6, r7, r8, r9⟩ := W
  obtain ⟨-, f, -⟩ := id F
  refine ⟨zm_FR H (zj_JFFC F) (zm_FM_refl m), r1, r2, ?_, r4, ?_, r6, ?_, ?_, r9⟩
  · rw [f 19 (by omega) (by omega) (by omega) (by omega)]; exact r3
  · rw [f 1 (by omega) (by omega) (by omega) (by omega)]; exact r5
  · rw [f 20 (by omega) (by omega) (by omega) (by omega)]; exact r7
  · rw [f 21 (by omega) (by omega) (by omega) (by omega)]; exact r8
theorem zo_WM {c m m' : zx_M} {n J : Nat} {g : Nat → Nat} (W : zo_W c m n J g) (h1 : m'.2 = m.2) (h2 : ∀ r, ¬ r = 0 → ¬ r = 9 → ¬ r = 10 → m'.1 r = m.1 r) (h3 : ∀ q, ¬ q = 23 → ¬ q = 24 → m'.1 0 q = m.1 0 q) : zo_W c m' n J g := by
  obtain ⟨H, r1, r2, r3, r4, r5, r6, r7, r8, r9⟩ := W
  refine ⟨zm_FR H (zm_FC_refl c) ⟨h1, fun r r0 h => h2 r r0 (by omega) (by omega), fun k hk => h3 k (by omega) (by omega)⟩, r1, r2, r3, ?_, r5, ?_, ?_, ?_, ?_⟩
  · rw [h3 20 (by omega) (by omega)]; exact r4
  · rw [h3 6 (by omega) (by omega)]; exact r6
  · rw [h2 8 (by omega) (by omega) (by omega)]; exact r7
  · rw [h2 11 (by omega) (by omega) (by omega)]; exact r8
  · rw [h3 21 (by omega) (by omega), h2 1 (by omega) (by omega) (by omega)]; exact r9
theorem zo_WF {c m m' : zx_M} {n J : Nat} {g : Nat → Nat} (W : zo_W c m n J g) (F : zo_fr m m') : zo_W c m' n J g := zo_WM W F.1 (fun r r0 _ r10 => F.2.1 r r0 r10) F.2.2
theorem zo_Wline {c m : zx_M} {n J : Nat} {g : Nat → Nat} (W : zo_W c m n J g) (cnt way : Int32) : ∃ c', f_C_lineUp cnt way c = some c' ∧ zj_JC22 c' n (fun k => cnt * Int32.ofNat k) (zo_yd (m.1 1 31) way (m.1 11) g (fun k => cnt * Int32.ofNat k)) ∧ zj_JF22 c c' := by
  obtain ⟨c', e1, e2, e3⟩ := zo_lineUp (zo_WRc W) cnt way
  refine ⟨c', e1, zj_JC_congr e2 (fun _ _ => rfl) (fun k hk => ?_), e3⟩
  obtain ⟨H, r1, r2, r3, r4, r5, r6, r7, r8, r9⟩ := id W
  unfold zo_yd
  rw [(zo_Wnum W).2.2.2.1, r8 (g k) (r7 k hk).1]
theorem zo_Wcounts {c m : zx_M} {n J : Nat} {g : Nat → Nat} (W : zo_W c m n J g) (v : Int32) : ∃ m', f_M_counts v m = some m' ∧ zo_W c m' n J g ∧ (∀ k < n, m'.1 9 k = v * Int32.ofNat k) ∧ m'.1 0 = m.1 0 ∧ m'.1 1 = m.1 1 ∧ m'.1 11 = m.1 11 := by
  obtain ⟨m', e1, e2, e3, e4⟩ := zo_counts W.2.1 W.2.2.2.2.1 v
  exact ⟨m', e1, zo_WM W e2 (fun r _ r9 _ => e3 r r9) (fun q _ _ => by rw [e3 0 (by omega)]), e4, e3 0 (by omega), e3 1 (by omega), e3 11 (by omega)⟩
theorem zo_ydc {sp wy : Int32} {cr : Nat → Int32} {g : Nat → Nat} {se se' : Nat → Int32} {k : Nat} (h : se k = se' k) : zo_yd sp wy cr g se k = zo_yd sp wy cr g se' k := by
  unfold zo_yd
  rw [h]
theorem zo_refused {c : zx_M} {v r : Int32} (h : f_Shelves_refusal v 0 c = some r) (h0 : ¬ r = 0) : f_C_readOrder v c = some (r, c) := by
  unfold f_C_readOrder
  rw [h, zm_bs, if_neg h0]
/-- the shelf has an order, or both say why not -/
theorem zo_read {c m : zx_M} (H : zm_R zq_V c m) (v cnt : Int32) : (∃ c' m' n J g d s, f_C_readOrder v c = some (0, c') ∧ f_M_rowIs v 0 m = some 1 ∧ f_M_takesOrder v cnt m = some m' ∧ zm_FC c c' ∧ zm_FM m m' ∧ zo_W c' m' n J g ∧ (∀ k < n, m'.1 9 k = cnt * Int32.ofNat k) ∧ d < 6 ∧ v = Int32.ofNat d ∧ (∀ k < n, m.2 21 (60 * d + k) = (Int32.ofNat (g k)).toInt64) ∧ s ≤ 60 ∧ n ≤ s ∧ m.1 20 d = Int32.ofNat s) ∨ ∃ r, f_C_readOrder v c = some (r, c) ∧ f_M_rowIs v 0 m = some r ∧ (r = -1 ∨ r = -11 ∨ r = -12) := by
  obtain ⟨r, h1, ⟨rfl, h3, d, hd, rfl, h16⟩ | ⟨h2, h3, -⟩⟩ := zo_ref H v (t := 0) (by omega)
  · obtain ⟨c', m', n, J, g, s, e1, e2, e3, e4, e5, e6, e7, e8, e9, e10, e11⟩ := zo_order H hd h16 cnt
    exact Or.inl ⟨c', m', n, J, g, d, s, e1, h3, e2, e4, e5, ⟨e3, e6⟩, e7, hd, rfl, e8, e9, e10, e11⟩
  · refine Or.inr ⟨r, zo_refused h1 ?_, h3, h2⟩
    rcases h2 with rfl | rfl | rfl <;> decide
theorem zo_rNeg {r : Int32} (h : r = -1 ∨ r = -11 ∨ r = -12) : ¬ r = 0 ∧ ¬ r = 1 ∧ ¬ 0 ≤ r := by
  rcases h with rfl | rfl | rfl <;> decide
theorem zo_isYc (v : Int32) : (∀ c m : zx_M, f_C_isSpotAndCount v c = some 1 ∧ f_M_isYc v m = some 1) ∨ ∀ c m : zx_M, f_C_isSpotAndCount v c = some 0 ∧ f_M_isYc v m = some 0 := by
  have d : Decidable (zm_yc v) := by unfold zm_yc; infer_instance
  by_cases h : zm_yc v
  · exact Or.inl (fun c m => ⟨by rw [zm_isYcC v c, if_pos h], by rw [zm_isYcM v m, if_pos h]⟩)
  · exact Or.inr (fun c m => ⟨by rw [zm_isYcC v c, if_neg h], by rw [zm_isYcM v m, if_neg h]⟩)
theorem zo_part (v : Int32) : (v = 0 ∨ v = 1) ∨ (¬ v = 0 ∧ ¬ v = 1) := by
  by_cases a : v = 0
  · exact Or.inl (Or.inl a)
  · by_cases b : v = 1
    · exact Or.inl (Or.inr b)
    · exact Or.inr ⟨a, b⟩
theorem zo_isPart (v : Int32) : (∀ c m : zx_M, f_C_isPart v c = some 1 ∧ f_M_within v.toInt64 0 1 m = some 1) ∧ (v = 0 ∨ v = 1) ∨ ∀ c m : zx_M, f_C_isPart v c = some 0 ∧ f_M_within v.toInt64 0 1 m = some 0 := by
  have e : ∀ m : zx_M, f_M_within v.toInt64 0 1 m = some (if 0 ≤ v ∧ v ≤ 1 then 1 else 0) := fun m => zm_within v 0 1 m
  by_cases h : 0 ≤ v ∧ v ≤ 1
  · refine Or.inl ⟨fun c m => ⟨by rw [zm_isPartC v c, if_pos h], by rw [e, if_pos h]⟩, ?_⟩
    grind
  · exact Or.inr (fun c m => ⟨by rw [zm_isPartC v c, if_neg h], by rw [e, if_neg h]⟩)
theorem zo_isCount (v : Int32) : (∀ c m : zx_M, f_C_isCount v c = some 1 ∧ f_M_isCount v m = some 1) ∨ ∀ c m : zx_M, f_C_isCount v c = some 0 ∧ f_M_isCount v m = some 0 := by
  by_cases h : 1 ≤ v ∧ v ≤ 20
  · exact Or.inl (fun c m => ⟨by rw [zm_isCountC v c, if_pos h], by rw [zm_isCountM v m, if_pos h]⟩)
  · exact Or.inr (fun c m => ⟨by rw [zm_isCountC v c, if_neg h], by rw [zm_isCountM v m, if_neg h]⟩)
/-! down -/
theorem t_down {c m : zx_M} (H : zm_R zq_V c m) (v w x : Int32) : zm_ok zq_V (f_C_down v w x) (f_M_down v w x) c m := by
  have z1 : ¬ ((1 : Int32) = 0) := by decide
  have z2 : ¬ ¬ ((0 : Int32) = 0) := fun h => h rfl
  have z3 : ¬ ¬ ((1 : Int32) = 1) := fun h => h rfl
  unfold zm_ok f_C_down f_M_down
  rcases zo_isYc w with hy | hy
  rotate_left
  · simp only [(hy c m).1, zm_bs, ↓reduceIte]
    rcases zo_read H v 1 with ⟨c1, m1, n, J, g, d, s, e1, e2, -⟩ | ⟨r, e1, e2, hr⟩
    · simp only [e2, zm_bs, if_neg z3, (hy c m).2, ↓reduceIte]
      exact zm_e3 rfl rfl rfl H
    · simp only [e2, zm_bs, if_pos (zo_rNeg hr).2.1]
      exact zm_e3 rfl rfl rfl H
  simp only [(hy c m).1, zm_bs, if_neg z1]
  rcases zo_read H v (zx_rem w 100) with ⟨c1, m1, n, J, g, d, s, e1, e2, e3, e4, e5, W, e7, -⟩ | ⟨r, e1, e2, hr⟩
  rotate_left
  · simp only [e1, e2, zm_bs, if_pos (zo_rNeg hr).1, if_pos (zo_rNeg hr).2.1]
    exact zm_e3 rfl rfl rfl H
  simp only [e1, e2, zm_bs, if_neg z2, if_neg z3, (hy c m).2, if_neg z1]
  by_cases a : x < 0
  · have a' : ¬ 0 ≤ x := Int32.not_le.mpr a
    simp only [if_pos a, if_neg a']
    exact zm_e3 rfl rfl rfl (zm_FR H e4 (zm_FM_refl m))
  have a' : 0 ≤ x := Int32.not_lt.mp a
  obtain ⟨m2, f1, f2, f3, f4⟩ := zo_fills (zo_WRm W) (w / 100 - 999)
  have hR := W.2
  have m2n : m2.1 0 20 = Int32.ofNat n := by rw [f3]; exact hR.2.2.2.1
  unfold f_Order_size
  simp only [if_neg a, if_pos a', e3, zm_bs, zm_spotM, f1, m2n, hR.2.2.1]
  by_cases b : Int32.ofNat n ≤ x
  · have b' : ¬ x < Int32.ofNat n := Int32.not_lt.mpr b
    simp only [if_pos b, if_neg b']
    exact zm_e3 rfl rfl rfl (zo_WF W f2).1
  have b' : x < Int32.ofNat n := Int32.not_le.mp b
  have n7 := hR.1
  obtain ⟨k, hk, rfl⟩ := zm_in (v := x) (n := n) (by omega) a b
  obtain ⟨c2, l1, l2, l3⟩ := zo_Wline W (zx_rem w 100) (m1.1 0 21)
  simp only [if_neg b, if_pos b', zm_countOfC, zm_bs, zo_Wway W, l1, zm_spotC, zj_downOf22 l2 hk, zm_ix (show k < 7 by omega) (by omega)]
  refine zm_e3 rfl rfl ?_ (zo_WC (zo_WF W f2) l3).1
  rw [f4 k hk]
  congr 1
  exact zo_ydc (e7 k hk).symm
/-! drop -/
theorem t_drop {c m : zx_M} (H : zm_R zq_V c m) (v w x : Int32) : zm_ok zq_V (f_C_drop v w x) (f_M_drop v w x) c m := by
  have z1 : ¬ ((1 : Int32) = 0) := by decide
  have z2 : ¬ ¬ ((0 : Int32) = 0) := fun h => h rfl
  have z4 : ¬ ((1 : Int32) = -1) := by decide
  have z5 : (0 : Int32) ≤ 1 := by decide
  have ewi : ∀ m : zx_M, f_M_within x.toInt64 0 2 m = some (if 0 ≤ x ∧ x ≤ 2 then 1 else 0) := fun m => zm_within x 0 2 m
  unfold zm_ok f_C_drop f_M_drop
  -- what the reference answers where something else is wrong
  have bad : ∀ X : Option (Int32 × zx_M), (f_M_isYc w m = some 0 ∨ (f_M_isYc w m = some 1 ∧ ¬ (0 ≤ x ∧ x ≤ 2))) → ((f_M_rowIs v 0 m).bind fun r2 => if r2 = -1 then some ((-1 : Int32), m) else (f_M_isYc w m).bind fun r5 => if r5 = 0 then some (-1, m) else (f_M_within x.toInt64 0 2 m).bind fun r8 => if ¬ r8 = 0 then X else some (-1, m)) = some (-1, m) := by
    intro X hbad
    have hrow : ∃ r, f_M_rowIs v 0 m = some r := by
      rcases zo_read H v 1 with ⟨c1, m1, n, J, g, d, s, e1, e2, -⟩ | ⟨r, e1, e2, hr⟩
      · exact ⟨1, e2⟩
      · exact ⟨r, e2⟩
    obtain ⟨r, hr⟩ := hrow
    rw [hr, zm_bs]
    by_cases q : r = -1
    · rw [if_pos q]
    · rw [if_neg q]
      rcases hbad with h | ⟨h, h2⟩
      · rw [h, zm_bs, if_pos rfl]
      · rw [h, zm_bs, if_neg z1, ewi, if_neg h2, zm_bs, if_neg z2]
  rcases zo_isYc w with hy | hy
  rotate_left
  · rw [bad _ (Or.inl (hy c m).2)]
    simp only [(hy c m).1, zm_bs, ↓reduceIte]
    exact zm_e3 rfl rfl rfl H
  by_cases a : 0 ≤ x ∧ x ≤ 2
  rotate_left
  · rw [bad _ (Or.inr ⟨(hy c m).2, a⟩)]
    simp only [(hy c m).1, zm_bs, if_neg z1]
    by_cases b : x < 0
    · simp only [if_pos b]
      exact zm_e3 rfl rfl rfl H
    · have b' : ¬ x ≤ 2 := fun h => a ⟨Int32.not_lt.mp b, h⟩
      simp only [if_neg b, if_neg b']
      exact zm_e3 rfl rfl rfl H
  have a0 : ¬ x < 0 := Int32.not_lt.mpr a.1
  simp only [(hy c m).1, (hy c m).2, zm_bs, if_neg z1, if_neg a0, if_pos a.2, ewi, if_pos a, if_pos z1]
  rcases zo_read H v (zx_rem w 100) with ⟨c1, m1, n, J, g, d, s, e1, e2, e3, e4, e5, W, e7, -⟩ | ⟨r, e1, e2, hr⟩
  rotate_left
  · have r0 := zo_rNeg hr
    simp only [e1, e2, zm_bs, if_neg r0.1, if_neg r0.2.2]
    by_cases q : r = -1
    · simp only [if_pos q]
      exact zm_e3 rfl rfl q H
    · simp only [if_neg q]
      exact zm_e3 rfl rfl rfl H
  obtain ⟨m2, f1, f2, f3, f4⟩ := zo_fills (zo_WRm W) (w / 100 - 999)
  obtain ⟨c2, l1, l2, l3⟩ := zo_Wline W (zx_rem w 100) (m1.1 0 21)
  have n7 := W.2.1
  have m2n : m2.1 0 20 = Int32.ofNat n := by rw [f3]; exact W.2.2.2.2.1
  have W2 := zo_WC (zo_WF W f2) l3
  obtain ⟨w1, w2, w3, -⟩ := zo_Wnum W2
  have s9 : ∀ k < n, m2.1 9 k = zx_rem w 100 * Int32.ofNat k := fun k hk => by rw [f2.2.1 9 (by omega) (by omega)]; exact e7 k hk
  have s10 : ∀ k < n, m2.1 10 k = w / 100 - 999 + zo_yd (m1.1 1 31) (m1.1 0 21) (m1.1 11) g (fun k => zx_rem w 100 * Int32.ofNat k) k := fun k hk => by
    rw [f4 k hk]
    congr 1
    exact zo_ydc (e7 k hk)
  simp only [e1, e2, e3, zm_bs, ↓reduceIte, if_neg z4, if_pos z5, zm_countOfC, zo_Wway W, l1, zm_spotM, zm_spotC, f1, zj_goodMany n7 m2n, zj_meetMany n7 m2n, zj_wellMany n7 m2n, zj_good22 l2, zj_well22 l2, zj_meeting22 l2]
  by_cases b : x = 0
  · have b' : ¬ ¬ x = 0 := fun h => h b
    simp only [if_neg b']
    refine zm_e3 rfl rfl ?_ W2.1
    congr 1
    rw [w1, w2, w3]
    exact zj_cnt_congr (fun k hk => by rw [s10 k hk])
  · simp only [if_pos b]
    by_cases e : x = 1
    · have e' : ¬ ¬ x = 1 := fun h => h e
      simp only [if_neg e']
      refine zm_e3 rfl rfl ?_ W2.1
      congr 1
      exact zj_meetn_congr (fun k hk => (s9 k hk).symm) (fun k hk o ho => by rw [s10 k hk, s10 o ho]; grind)
    · simp only [if_pos e]
      refine zm_e3 rfl rfl ?_ W2.1
      congr 1
      rw [w1, w2, w3]
      exact zj_good_congr (fun k hk => (s9 k hk).symm) (fun k hk => (s10 k hk).symm)
