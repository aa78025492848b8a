theorem zw_all {c : zx_M} {e s L : Nat} {se yd : Nat → Int32} (he : e < 6) (hs : s ≤ 60) (s1 : c.1 16 e = 1) (s2 : c.1 17 e = Int32.ofNat s) (Q : zj_JC22 c L se yd) (hL : L ≤ s) (spot : Int32) : ∃ r, f_C_firstUnlike (Int32.ofNat e) (Int32.ofNat L) spot c = some r ∧ (r = -2 ↔ ∀ i < L, (spot + yd i).toInt64 = c.2 18 (60 * e + i)) := by
  have n7 := Q.1
  have j1 := Q.2.1
  have key : ∃ r, l_C_firstUnlike_l3 (Int32.ofNat e) (Int32.ofNat L) spot c 0 = some r ∧ (r = -2 ↔ ∀ i < L, (spot + yd i).toInt64 = c.2 18 (60 * e + i)) := by
    unfold l_C_firstUnlike_l3
    refine zm_lp1 (fun i : Int32 => zm_up (Int32.ofNat L) i) (fun i : Int32 => ∃ k, k ≤ L ∧ i = Int32.ofNat k ∧ ∀ q < k, (spot + yd q).toInt64 = c.2 18 (60 * e + q)) _ ?_ zx_N _ ⟨0, by omega, rfl, fun q hq => absurd hq (by omega)⟩ (zm_upN (by decide : (-30000 : Int32) ≤ 0) (by grind [zm_g]))
    rintro i ⟨k, h1, rfl, h2⟩
    unfold b_C_firstUnlike_l3 f_Jumps_size_22
    rw [j1]
    by_cases a : k = L
    · right
      subst a
      simp only [if_pos (Int32.le_refl _)]
      exact ⟨_, rfl, fun _ => h2, fun _ => rfl⟩
    have a' : ¬ Int32.ofNat L ≤ Int32.ofNat k := by grind [zm_g]
    have cell := zm_cellC (c := c) he (t := 1) (by omega) hs (show k < s by omega) s1 s2
    have a1 : Int32.ofNat k + 1 = Int32.ofNat (k + 1) := by simp
    simp only [if_neg a', zj_downOf22 Q (show k < L by omega), cell, zm_bs, zm_let, a1, zg_cmp0]
    by_cases w : (spot + yd k).toInt64 = c.2 18 (60 * e + k)
    · left
      simp only [if_pos w]
      refine ⟨_, rfl, ⟨k + 1, by omega, rfl, fun q hq => ?_⟩, by rw [← a1]; exact zm_up1 (by grind [zm_g])⟩
      by_cases f : q = k
      · rw [f]; exact w
      · exact h2 q (by omega)
    · right
      simp only [if_neg w]
      refine ⟨_, rfl, fun h => ?_, fun h => absurd (h k (by omega)) w⟩
      exfalso
      grind [zm_g]
  obtain ⟨r, r1, r2⟩ := key
  refine ⟨r, ?_, r2⟩
  unfold f_C_firstUnlike
  rw [r1, zm_bs, zm_let]
theorem zw_asDig {x : zx_M} {s : List Nat} {L : Nat} (hL : L ≤ 7) (h : x.1 19 1 = Int32.ofNat L) (hg : ∀ k < L, x.1 20 k = Int32.ofNat (s.getD k 0)) : f_Order_asDigits x = some (zw_dig s L) := by
  have key : ∀ (j i : Nat), i + j = L → ∀ N, j + 1 ≤ N → zx_lp N (fun st : Int32 × Int32 => b_Order_asDigits_l4 st.1 st.2 x) (zw_dig s i, Int32.ofNat i) = some (zw_dig s L) := by
    intro j
    induction j with
    | zero =>
      intro i hi N hN
      obtain ⟨N1, rfl⟩ : ∃ N1, N = N1 + 1 := ⟨N - 1, by omega⟩
      have e : i = L := by omega
      subst e
      refine zj_lpE ?_
      show b_Order_asDigits_l4 (zw_dig s i) (Int32.ofNat i) x = _
      unfold b_Order_asDigits_l4
      rw [h, if_pos (Int32.le_refl _)]
    | succ j ih =>
      intro i hi N hN
      obtain ⟨N1, rfl⟩ : ∃ N1, N = N1 + 1 := ⟨N - 1, by omega⟩
      have g1 : ¬ Int32.ofNat L ≤ Int32.ofNat i := by grind [zm_g]
      have hb : b_Order_asDigits_l4 (zw_dig s i) (Int32.ofNat i) x = some (.inl (zw_dig s (i + 1), Int32.ofNat (i + 1))) := by
        unfold b_Order_asDigits_l4
        rw [h, if_neg g1, zo_at hL h (show i < L by omega), zm_bs, zm_let, zm_let, hg i (by omega), show Int32.ofNat i + 1 = Int32.ofNat (i + 1) by simp]
        rfl
      rw [zj_lpS (show (fun st : Int32 × Int32 => b_Order_asDigits_l4 st.1 st.2 x) (zw_dig s i, Int32.ofNat i) = _ from hb)]
      exact ih (i + 1) (by omega) N1 (by omega)
  have k := key L 0 (by omega) zx_N (by have : zx_N = 100000 := rfl; omega)
  have k' : l_Order_asDigits_l4 x (0, 0) = some (zw_dig s L) := k
  unfold f_Order_asDigits
  rw [k', zm_bs, zm_let]
theorem zw_loop {c m : zx_M} (h : ∀ k < 8, c.1 2 k = m.1 1 (28 + k)) {J L e s : Nat} (hJ : J ≤ 7) (hL : L ≤ 4) (S : zw_S c m e s) (hLs : L ≤ s) (hcr : ∀ j < J, c.1 21 j = m.1 11 j) (hrun : m.1 0 21 = m.1 1 35) (yc v3 : Int32) : ∃ x, l_C_which_l81 (Int32.ofNat e) yc v3 (Int32.ofNat J) (Int32.ofNat L) (Int32.ofNat (J ^ L)) (0, -2, 0, c) = some (((zc_T J L []).foldl (zw_step (zw_y m e (zx_rem yc 100) (yc / 100 - 999)) L) (0, -2)).1, ((zc_T J L []).foldl (zw_step (zw_y m e (zx_rem yc 100) (yc / 100 - 999)) L) (0, -2)).2, x) ∧ zk_FC c x := by
  obtain ⟨he, hs, s1, s2, s3, s4⟩ := S
  have hb4 : J ^ L ≤ 7 ^ 4 := by
    rcases Nat.eq_zero_or_pos J with hj | hj
    · subst hj
      rcases Nat.eq_zero_or_pos L with hl | hl
      · subst hl; decide
      · rw [Nat.zero_pow hl]; omega
    · exact Nat.le_trans (Nat.pow_le_pow_left hJ L) (Nat.pow_le_pow_right (by omega) hL)
  have e74 : (7 : Nat) ^ 4 = 2401 := by decide
  rw [← zc_same4 J (by omega) L (by omega)]
  have key : ∃ t : Int32 × Int32 × zx_M, l_C_which_l81 (Int32.ofNat e) yc v3 (Int32.ofNat J) (Int32.ofNat L) (Int32.ofNat (J ^ L)) (0, -2, 0, c) = some t ∧ ((t.1, t.2.1) = (zc_L J L (J ^ L)).foldl (zw_step (zw_y m e (zx_rem yc 100) (yc / 100 - 999)) L) (0, -2) ∧ zk_FC c t.2.2) := by
    unfold l_C_which_l81
    refine zm_lp1 (fun st : Int32 × Int32 × Int32 × zx_M => zm_up (Int32.ofNat (J ^ L)) st.2.2.1) (fun st => ∃ q, q ≤ J ^ L ∧ st.2.2.1 = Int32.ofNat q ∧ (st.1, st.2.1) = (zc_L J L q).foldl (zw_step (zw_y m e (zx_rem yc 100) (yc / 100 - 999)) L) (0, -2) ∧ zk_FC c st.2.2.2) _ ?_ zx_N _ ⟨0, by omega, rfl, rfl, rfl, fun _ _ _ => rfl⟩ (zm_upN (by decide : (-30000 : Int32) ≤ 0) (by
      have := zm_g (k := J ^ L) (by omega)
      grind))
    rintro ⟨o, fi, q', x⟩ ⟨q, hq, h2, h3, F⟩
    dsimp only at h2 h3 F ⊢
    subst h2
    unfold b_C_which_l81
    by_cases ee : q = J ^ L
    · right
      subst ee
      simp only [if_pos (Int32.le_refl _)]
      exact ⟨_, rfl, h3, F⟩
    left
    have gq := zm_g (k := q) (by omega)
    have gJ := zm_g (k := J ^ L) (by omega)
    have g1 : ¬ Int32.ofNat (J ^ L) ≤ Int32.ofNat q := by grind
    have a1 : Int32.ofNat q + 1 = Int32.ofNat (q + 1) := by simp
    have hup : zm_up (Int32.ofNat (J ^ L)) (Int32.ofNat (q + 1)) < zm_up (Int32.ofNat (J ^ L)) (Int32.ofNat q) := by
      rw [← a1]; exact zm_up1 (Int32.not_le.mp g1)
    obtain ⟨x1, r, p1, p2, p3, p4, p5⟩ := zc_spell (x := x) (J := J) (L := L) (c := q) hJ (by omega) (by omega) (by omega)
    unfold n_C_which_b81_149 n_C_which_b81_154
    simp only [if_neg g1, p1, zm_bs, zm_let, a1]
    have F1 : zk_FC c x1 := ⟨by rw [p2, F.1], fun r h19 h22 => by rw [p3 r (by omega) (by omega)]; exact F.2 r h19 h22⟩
    have LS := zc_LS J L q
    cases ok : zc_ok J L q
    · rw [ok] at LS
      have LS' : zc_L J L (q + 1) = zc_L J L q := by rw [LS]; simp
      simp only [if_pos (p4 ok)]
      exact ⟨_, rfl, ⟨q + 1, by omega, rfl, by rw [LS']; exact h3, F1⟩, hup⟩
    · rw [ok] at LS
      have LS' : zc_L J L (q + 1) = zc_L J L q ++ [zc_s J L q] := by rw [LS]; simp
      obtain ⟨rfl, o19, o20⟩ := p5 ok
      have z1 : ¬ ((1 : Int32) = 0) := by decide
      have hdl : ∀ k < L, (zc_s J L q).getD k 0 < J := fun k hk => by
        rw [zc_get hk]
        refine zc_dlt ?_
        rcases Nat.eq_zero_or_pos J with hj | hj
        · subst hj
          rw [Nat.zero_pow (by omega)] at hq ee
          omega
        · exact hj
      have hgo : ∀ k < L, x1.1 20 k = Int32.ofNat ((zc_s J L q).getD k 0) := fun k hk => by rw [zc_get hk]; exact o20 k hk
      have Rc : zo_Rc x1 L J (fun k => (zc_s J L q).getD k 0) := ⟨by omega, hJ, o19, fun k hk => ⟨hdl k hk, hgo k hk⟩⟩
      have way : f_C_way x1 = some (m.1 0 21) := by
        have t11 : f_Numbers_told 0 11 x1 = _ := zm_told_f (k := 7) (by omega) rfl
        unfold f_C_way
        rw [t11, zm_bs, F1.2 2 (by omega) (by omega), h 7 (by omega), hrun]
      obtain ⟨x2, l1, l2, l3⟩ := zo_lineUp Rc (zx_rem yc 100) (m.1 0 21)
      have F2 : zk_FC c x2 := ⟨by rw [l3.1, F1.1], fun r h19 h22 => by rw [l3.2.1 r (by omega) (by omega) (by omega) (by omega)]; exact F1.2 r h19 h22⟩
      obtain ⟨r, r1, r2⟩ := zw_all he hs (by rw [F2.2 16 (by omega) (by omega)]; exact s1) (by rw [F2.2 17 (by omega) (by omega)]; exact s2) l2 hLs (yc / 100 - 999)
      have like : r = -2 ↔ zw_M (zw_y m e (zx_rem yc 100) (yc / 100 - 999)) L (zc_s J L q) = true := by
        rw [r2, zw_ME]
        have each : ∀ k < L, ((yc / 100 - 999 + zo_yd (x1.1 2 3) (m.1 0 21) (x1.1 21) (fun k => (zc_s J L q).getD k 0) (fun k => zx_rem yc 100 * Int32.ofNat k) k).toInt64 = x2.2 18 (60 * e + k) ↔ zw_y m e (zx_rem yc 100) (yc / 100 - 999) k ((zc_s J L q).getD k 0) = true) := by
          intro k hk
          unfold zw_y zo_yd
          rw [decide_eq_true_iff, F1.2 2 (by omega) (by omega), F1.2 21 (by omega) (by omega), h 3 (by omega), hcr _ (hdl k hk), F2.1, s4 k (by omega)]
        exact ⟨fun g k hk => (each k hk).mp (g k hk), fun g k hk => (each k hk).mpr (g k hk)⟩
      have fold : (zc_L J L (q + 1)).foldl (zw_step (zw_y m e (zx_rem yc 100) (yc / 100 - 999)) L) (0, -2) = zw_step (zw_y m e (zx_rem yc 100) (yc / 100 - 999)) L (o, fi) (zc_s J L q) := by
        rw [LS', List.foldl_append, ← h3]
        rfl
      have o19' : x2.1 19 1 = Int32.ofNat L := by rw [l3.2.1 19 (by omega) (by omega) (by omega) (by omega)]; exact o19
      have dg := zw_asDig (x := x2) (s := zc_s J L q) (L := L) (by omega) o19' (fun k hk => by rw [l3.2.1 20 (by omega) (by omega) (by omega) (by omega)]; exact hgo k hk)
      simp only [if_neg z1, zm_countOfC, zm_bs, way, l1, zm_spotC, r1]
      by_cases y : r = -2
      · have y' : ¬ ¬ r = -2 := fun h => h y
        have fold2 : zw_step (zw_y m e (zx_rem yc 100) (yc / 100 - 999)) L (o, fi) (zc_s J L q) = (o + 1, if o = 0 then zw_dig (zc_s J L q) L else fi) := by
          unfold zw_step
          rw [if_pos (like.mp y)]
        rw [fold2] at fold
        by_cases z : o = 0
        · have z' : ¬ ¬ o = 0 := fun h => h z
          rw [if_pos z] at fold
          simp only [if_neg y', if_neg z', dg, zm_bs]
          exact ⟨_, rfl, ⟨q + 1, by omega, rfl, fold.symm, F2⟩, hup⟩
        · rw [if_neg z] at fold
          simp only [if_neg y', if_pos z]
          exact ⟨_, rfl, ⟨q + 1, by omega, rfl, fold.symm, F2⟩, hup⟩
      · have fold2 : zw_step (zw_y m e (zx_rem yc 100) (yc / 100 - 999)) L (o, fi) (zc_s J L q) = (o, fi) := by
          unfold zw_step
          rw [if_neg (fun h => y (like.mpr h))]
        rw [fold2] at fold
        simp only [if_pos y]
        exact ⟨_, rfl, ⟨q + 1, by omega, rfl, fold.symm, F2⟩, hup⟩
  obtain ⟨⟨t1, t2, t3⟩, e1, e2, e3⟩ := key
  dsimp only at e2 e3
  refine ⟨t3, ?_, e3⟩
  rw [e1, ← e2]
theorem t_which {c m : zx_M} (H : zm_R zq_V c m) (v w x : Int32) : zm_ok zq_V (f_C_which v w x) (f_M_which v w x) c m := by
  have z1 : ¬ ((1 : Int32) = 0) := by decide
  have z2 : ¬ ¬ ((0 : Int32) = 0) := fun h => h rfl
  have z4 : ¬ ((1 : Int32) = -1) := by decide
  have z5 : (0 : Int32) ≤ 1 := by decide
  unfold zm_ok f_C_which f_M_which
  obtain ⟨r0, hr0, hcase⟩ := zo_ref H v (t := 1) (by omega)
  have hrow : ∃ r, f_M_rowIs v 1 m = some r := by
    rcases hcase with ⟨-, h, -⟩ | ⟨-, h, -⟩
    · exact ⟨_, h⟩
    · exact ⟨_, h⟩
  obtain ⟨r1, hr1⟩ := hrow
  have bad : ∀ X : Option (Int32 × zx_M), (f_M_isYc w m = some 0 ∨ (f_M_isYc w m = some 1 ∧ f_M_within x.toInt64 0 1 m = some 0)) → ((f_M_rowIs v 1 m).bind fun r2 => if r2 = -1 then some ((-1 : Int32), m) else (f_M_isYc w m).bind fun r5 => if r5 = 0 then some (-1, m) else (f_M_within x.toInt64 0 1 m).bind fun r8 => if ¬ r8 = 0 then X else some (-1, m)) = some (-1, m) := by
    intro X hb
    rw [hr1, zm_bs]
    by_cases q : r1 = -1
    · rw [if_pos q]
    · rw [if_neg q]
      rcases hb with h | ⟨h, h2⟩
      · rw [h, zm_bs, if_pos rfl]
      · rw [h, zm_bs, if_neg z1, h2, zm_bs, if_neg z2]
  rcases zo_isYc w with hy | hy
  rotate_left
  · rw [bad _ (Or.inl (hy c m).2)]
    simp only [(hy c m).1, zm_bs, ↓reduceIte]
    exact zm_e3 rfl rfl rfl H
  rcases zo_isPart x with ⟨hp, hx⟩ | hp
  rotate_left
  · rw [bad _ (Or.inr ⟨(hy c m).2, (hp c m).2⟩)]
    simp only [(hy c m).1, (hp c m).1, zm_bs, if_neg z1, if_neg z2]
    exact zm_e3 rfl rfl rfl H
  have hr0' : f_Shelves_refusal v 1 c = some r0 := hr0
  simp only [(hy c m).1, (hy c m).2, (hp c m).1, (hp c m).2, zm_bs, if_neg z1, if_pos z1, hr0']
  rcases hcase with ⟨rfl, t1, e, he, rfl, h16⟩ | ⟨k1, t1, -⟩
  rotate_left
  · have rr := zo_rNeg k1
    have t1' : f_M_rowIs v 1 m = some r0 := t1
    simp only [t1', zm_bs, if_neg rr.1, if_neg rr.2.2]
    by_cases q : r0 = -1
    · simp only [if_pos q]
      exact zm_e3 rfl rfl q H
    · simp only [if_neg q]
      exact zm_e3 rfl rfl rfl H
  have t1' : f_M_rowIs (Int32.ofNat e) 1 m = some 1 := t1
  obtain ⟨s, S⟩ := zw_seen H he h16
  obtain ⟨⟨J, hJ7, n1, n2⟩, -⟩ := id H.1
  have hs60 := S.2.1
  have s3 := S.2.2.2.2.1
  -- so many places
  obtain ⟨L, hL4, hLs, hC, hM⟩ : ∃ L, L ≤ 4 ∧ L ≤ s ∧ zx_min 4 (Int32.ofNat s) = Int32.ofNat L ∧ (if Int32.ofNat s ≤ 4 then n_M_which_n66 (Int32.ofNat e) w x (Int32.ofNat s) m else n_M_which_n66 (Int32.ofNat e) w x 4 m) = n_M_which_n66 (Int32.ofNat e) w x (Int32.ofNat L) m := by
    by_cases a : s ≤ 4
    · have a1 : Int32.ofNat s ≤ 4 := by grind [zm_g]
      refine ⟨s, a, Nat.le_refl s, ?_, if_pos a1⟩
      unfold zx_min
      by_cases b : Int32.ofNat s < 4
      · rw [if_pos b]
      · rw [if_neg b]
        grind
    · have a1 : ¬ Int32.ofNat s ≤ 4 := by grind [zm_g]
      refine ⟨4, Nat.le_refl 4, by omega, ?_, if_neg a1⟩
      unfold zx_min
      rw [if_neg (fun h => a1 (Int32.le_of_lt h))]
      rfl
  have m20 : (zx_u1 m 0 20 (Int32.ofNat L)).1 0 20 = Int32.ofNat L := by rw [zm_u11, if_pos rfl, zm_upd, if_pos rfl]
  obtain ⟨m1, c1e, c11, c12, c13⟩ := zo_counts (show L ≤ 7 by omega) m20 (zx_rem w 100)
  have F1 : zm_FM m m1 := ⟨by rw [c11, zm_u12], fun r r0 h7 => by rw [c12 r (by omega), zm_u11, if_neg r0], fun k hk => by rw [c12 0 (by omega), zm_u11, if_pos rfl, zm_upd, if_neg (by omega)]⟩
  have H1 : zm_R zq_V c m1 := zm_FR H (zm_FC_refl c) F1
  have m16 : m1.1 0 6 = Int32.ofNat J := by rw [F1.2.2 6 (by omega)]; exact n2
  obtain ⟨ca, ma, w1, w2, w3, w4, w5, w6, w7, w8, w9, w10, w11⟩ := zo_asks H1 hJ7 m16 n1
  have F2 : zm_FM m1 ma := ⟨w7, fun r r0 h7 => w8 r r0 (by omega) (by omega), fun k hk => w9 k (by omega) (by omega)⟩
  have FC : zm_FC c ca := ⟨w4, fun r _ _ h12 h14 h => w5 r h12 h14 (by omega), by rw [w5 9 (by omega) (by omega) (by omega)], w6⟩
  have hfa : ∀ k < 8, ca.1 2 k = ma.1 1 (28 + k) := w3.1.2.2.1
  have runa : ma.1 0 21 = ma.1 1 35 := by rw [w10, w8 1 (by omega) (by omega) (by omega)]
  have Sa := zw_S_mv S FC (zm_FM_trans F1 F2)
  generalize hmb : zx_u1 (zx_u1 ma 0 26 0) 0 27 (-2) = mb
  have b0 : ∀ q, ¬ q = 26 → ¬ q = 27 → mb.1 0 q = ma.1 0 q := fun q q1 q2 => by rw [← hmb, zm_u11, if_pos rfl, zm_upd, if_neg q2, zm_u11, if_pos rfl, zm_upd, if_neg q1]
  have br : ∀ r, ¬ r = 0 → mb.1 r = ma.1 r := fun r hr => by rw [← hmb, zm_u11, if_neg hr, zm_u11, if_neg hr]
  have b2 : mb.2 = ma.2 := by rw [← hmb, zm_u12, zm_u12]
  have b26 : mb.1 0 26 = 0 := by rw [← hmb, zm_u11, if_pos rfl, zm_upd, if_neg (by omega), zm_u11, if_pos rfl, zm_upd, if_pos rfl]
  have b27 : mb.1 0 27 = -2 := by rw [← hmb, zm_u11, if_pos rfl, zm_upd, if_pos rfl]
  obtain ⟨md, d1, d2, d3, d4⟩ := zw_dfs (J := J) (L := L) (e := e) hJ7 hL4 he (cnt := zx_rem w 100) (spot := w / 100 - 999) L 0 12 (by omega) (by omega) [] 0 mb (0, -2) rfl (fun i hi => absurd hi (by omega)) (by omega) (fun q hq => by rw [Nat.zero_testBit]; rfl) (by rw [b0 6 (by omega) (by omega), w9 6 (by omega) (by omega)]; exact m16) (by rw [b0 20 (by omega) (by omega), w9 20 (by omega) (by omega), c12 0 (by omega)]; exact m20) (fun i hi => by rw [br 9 (by omega), w8 9 (by omega) (by omega) (by omega)]; exact c13 i hi) b26 b27
  have ey : zw_y mb e (zx_rem w 100) (w / 100 - 999) = zw_y ma e (zx_rem w 100) (w / 100 - 999) := by
    unfold zw_y
    rw [br 1 (by omega), br 11 (by omega), b0 21 (by omega) (by omega), b2]
  rw [ey] at d3 d4
  have d1' : g_waysOn_m 12 (Int32.ofNat e) 0 0 (w / 100 - 999) 0 mb = some md := d1
  obtain ⟨xx, l1, l2⟩ := zw_loop hfa hJ7 hL4 Sa hLs w11 runa w x
  have pw : f_Order_power (Int32.ofNat J) (Int32.ofNat L) ca = some (Int32.ofNat (J ^ L)) := zg_power (by omega) ca
  have ca1 : ca.1 1 2 = Int32.ofNat J := by rw [w5 1 (by omega) (by omega) (by omega)]; exact n1
  have fin : zm_R zq_V xx md := zm_FR w3 (zk_FCFC l2) ⟨by rw [d2.1, b2], fun r r0 _ => by rw [d2.2.1 r r0, br r r0], fun k hk => by rw [d2.2.2 k (by omega) (by omega), b0 k (by omega) (by omega)]⟩
  unfold f_Numbers_jumpersThere
  simp only [↓reduceIte, w1, zm_bs, ca1, zm_sizeC he, Sa.2.2.2.1, zm_let, hC, pw, l1, t1', if_neg z4, if_pos z5, zm_ix he (by omega), s3, hM]
  unfold n_M_which_n66
  simp only [zm_let, c1e, zm_bs, w2, hmb, zm_spotM, d1', d3, d4]
  by_cases q : x = 0
  · have q' : ¬ ¬ x = 0 := fun h => h q
    simp only [if_neg q']
    exact zm_e3 rfl rfl rfl fin
  · simp only [if_pos q]
    exact zm_e3 rfl rfl rfl fin
