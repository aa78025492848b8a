/-! orderFor -/
theorem zk_Gc {c m : zx_M} (h : ∀ k < 8, c.1 2 k = m.1 1 (28 + k)) {J : Nat} (hcr : ∀ j < J, c.1 21 j = m.1 11 j) {cnt spot : Int32} {s : List Nat} (hs : ∀ k < J, s.getD k 0 < J) {se : Nat → Int32} (hse : ∀ k < J, se k = cnt * Int32.ofNat k) : Int32.ofNat (zj_good J (c.1 2 0) (c.1 2 1) (c.1 2 2) se (fun k => spot + zo_yd (c.1 2 3) (m.1 0 21) (c.1 21) (fun k => s.getD k 0) se k)) = zk_Gm m cnt spot J s := by
  unfold zk_Gm zk_G
  rw [h 0 (by omega), h 1 (by omega), h 2 (by omega), h 3 (by omega)]
  congr 1
  refine zj_good_congr hse (fun k hk => ?_)
  congr 1
  unfold zo_yd
  rw [hse k hk, hcr _ (hs k hk)]
/-- what spelling and lining up leave as it was -/
def zk_FC (c x : zx_M) : Prop := x.2 = c.2 ∧ ∀ r, ¬ (19 ≤ r ∧ r ≤ 20) → ¬ (22 ≤ r ∧ r ≤ 25) → x.1 r = c.1 r
theorem zk_FCFC {c x : zx_M} (F : zk_FC c x) : zm_FC c x := ⟨F.1, fun r _ _ _ _ h => F.2 r (by omega) (by omega), by rw [F.2 9 (by omega) (by omega)], by rw [F.2 12 (by omega) (by omega)]⟩
theorem zk_loop {c m : zx_M} (h : ∀ k < 8, c.1 2 k = m.1 1 (28 + k)) {J : Nat} (hJ : J ≤ 5) (hcr : ∀ j < J, c.1 21 j = m.1 11 j) (hrun : m.1 0 21 = m.1 1 35) (yc v2 : Int32) : ∃ b x, l_C_orderFor_l58 yc v2 (Int32.ofNat J) (Int32.ofNat (J ^ J)) (-1, 0, 0, c) = some (((zc_T J J []).foldl (zk_step (zk_Gm m (zx_rem yc 100) (yc / 100 - 999) J)) (-1, [])).1, Int32.ofNat b, x) ∧ zk_FC c x ∧ b < J ^ J ∧ zc_ok J J b = true ∧ ((zc_T J J []).foldl (zk_step (zk_Gm m (zx_rem yc 100) (yc / 100 - 999) J)) (-1, [])).2 = zc_s J J b := by
  have hb5 : J ^ J ≤ 5 ^ 5 := Nat.le_trans (Nat.pow_le_pow_left hJ J) (Nat.pow_le_pow_right (by omega) hJ)
  have e55 : (5 : Nat) ^ 5 = 3125 := by decide
  have p0 : 0 < J ^ J := by
    rcases Nat.eq_zero_or_pos J with h | h
    · subst h; decide
    · exact Nat.pow_pos h
  have G0 : ∀ s, 0 ≤ zk_Gm m (zx_rem yc 100) (yc / 100 - 999) J s := by
    intro s
    unfold zk_Gm zk_G zj_good
    refine Int32.not_lt.mp (zm_nn ?_)
    have := zj_cnt_le (fun k => zj_wB (m.1 1 28) (m.1 1 29) (m.1 1 30) ((fun k => yc / 100 - 999 + zo_yd (m.1 1 31) (m.1 0 21) (m.1 11) (fun k => s.getD k 0) (fun k => zx_rem yc 100 * Int32.ofNat k) k) k) && !zj_mB J (fun k => zx_rem yc 100 * Int32.ofNat k) (fun k => yc / 100 - 999 + zo_yd (m.1 1 31) (m.1 0 21) (m.1 11) (fun k => s.getD k 0) (fun k => zx_rem yc 100 * Int32.ofNat k) k) k) J
    omega
  have key : ∃ t : Int32 × Int32 × zx_M, l_C_orderFor_l58 yc v2 (Int32.ofNat J) (Int32.ofNat (J ^ J)) (-1, 0, 0, c) = some t ∧ ∃ b, t.1 = ((zc_L J J (J ^ J)).foldl (zk_step (zk_Gm m (zx_rem yc 100) (yc / 100 - 999) J)) (-1, [])).1 ∧ t.2.1 = Int32.ofNat b ∧ zk_FC c t.2.2 ∧ b < J ^ J ∧ (t.1 = -1 ∨ (zc_ok J J b = true ∧ ((zc_L J J (J ^ J)).foldl (zk_step (zk_Gm m (zx_rem yc 100) (yc / 100 - 999) J)) (-1, [])).2 = zc_s J J b)) := by
    unfold l_C_orderFor_l58
    refine zm_lp1 (fun s : Int32 × Int32 × Int32 × zx_M => zm_up (Int32.ofNat (J ^ J)) s.2.2.1) (fun s => ∃ q b, q ≤ J ^ J ∧ s.2.2.1 = Int32.ofNat q ∧ s.1 = ((zc_L J J q).foldl (zk_step (zk_Gm m (zx_rem yc 100) (yc / 100 - 999) J)) (-1, [])).1 ∧ s.2.1 = Int32.ofNat b ∧ zk_FC c s.2.2.2 ∧ b < J ^ J ∧ (s.1 = -1 ∨ (zc_ok J J b = true ∧ ((zc_L J J q).foldl (zk_step (zk_Gm m (zx_rem yc 100) (yc / 100 - 999) J)) (-1, [])).2 = zc_s J J b))) _ ?_ zx_N _ ⟨0, 0, by omega, rfl, rfl, rfl, ⟨rfl, fun _ _ _ => rfl⟩, p0, Or.inl rfl⟩ (zm_upN (by decide : (-30000 : Int32) ≤ 0) (by
      have := zm_g (k := J ^ J) (by omega)
      grind))
    rintro ⟨mo, b', q', x⟩ ⟨q, b, hq, h2, h3, h4, F, hb, h6⟩
    dsimp only at h2 h3 h4 F h6 ⊢
    subst h2
    subst h4
    unfold b_C_orderFor_l58
    by_cases e : q = J ^ J
    · right
      subst e
      simp only [if_pos (Int32.le_refl _)]
      exact ⟨_, rfl, b, h3, rfl, F, hb, h6⟩
    left
    have gq := zm_g (k := q) (by omega)
    have gJ := zm_g (k := J ^ J) (by omega)
    have g1 : ¬ Int32.ofNat (J ^ J) ≤ Int32.ofNat q := by grind
    have a1 : Int32.ofNat q + 1 = Int32.ofNat (q + 1) := by simp
    have hup : zm_up (Int32.ofNat (J ^ J)) (Int32.ofNat (q + 1)) < zm_up (Int32.ofNat (J ^ J)) (Int32.ofNat q) := by
      rw [← a1]; exact zm_up1 (Int32.not_le.mp g1)
    obtain ⟨x1, r, s1, s2, s3, s4, s5⟩ := zc_spell (x := x) (J := J) (L := J) (c := q) (by omega) hJ (by omega) (by omega)
    unfold n_C_orderFor_b58_119
    simp only [if_neg g1, s1, zm_bs, zm_let, a1]
    have F1 : zk_FC c x1 := ⟨by rw [s2, F.1], fun r h19 h22 => by rw [s3 r (by omega) (by omega)]; exact F.2 r h19 h22⟩
    have LS := zc_LS J J q
    cases ok : zc_ok J J q
    · rw [ok] at LS
      have LS' : zc_L J J (q + 1) = zc_L J J q := by rw [LS]; simp
      simp only [if_pos (s4 ok)]
      exact ⟨_, rfl, ⟨q + 1, b, by omega, rfl, by rw [LS']; exact h3, rfl, F1, hb, by rw [LS']; exact h6⟩, hup⟩
    · rw [ok] at LS
      have LS' : zc_L J J (q + 1) = zc_L J J q ++ [zc_s J J q] := by rw [LS]; simp
      obtain ⟨rfl, o19, o20⟩ := s5 ok
      have z1 : ¬ ((1 : Int32) = 0) := by decide
      have hdl : ∀ k < J, (zc_s J J q).getD k 0 < J := fun k hk => by rw [zc_get hk]; exact zc_dlt (by omega)
      have Rc : zo_Rc x1 J J (fun k => (zc_s J J q).getD k 0) := ⟨by omega, by omega, o19, fun k hk => ⟨hdl k hk, by show x1.1 20 k = Int32.ofNat ((zc_s J J q).getD k 0); rw [zc_get hk]; exact o20 k hk⟩⟩
      have way : f_C_way x1 = some (m.1 0 21) := by
        have t11 : f_Numbers_told 0 11 x1 = _ := zm_told_f (k := 7) (by omega) rfl
        unfold f_C_way
        rw [t11, zm_bs, F1.2 2 (by omega) (by omega), h 7 (by omega), hrun]
      obtain ⟨x2, l1, l2, l3⟩ := zo_lineUp Rc (zx_rem yc 100) (m.1 0 21)
      have gc := zj_good22 l2 (yc / 100 - 999)
      have e2 : x2.1 2 = c.1 2 := by rw [l3.2.1 2 (by omega) (by omega) (by omega) (by omega)]; exact F1.2 2 (by omega) (by omega)
      have e21 : x1.1 2 = c.1 2 := F1.2 2 (by omega) (by omega)
      have e22 : x1.1 21 = c.1 21 := F1.2 21 (by omega) (by omega)
      rw [e2, e21, e22, zk_Gc h hcr hdl (fun _ _ => rfl)] at gc
      have F2 : zk_FC c x2 := ⟨by rw [l3.1, F1.1], fun r h19 h22 => by rw [l3.2.1 r (by omega) (by omega) (by omega) (by omega)]; exact F1.2 r h19 h22⟩
      simp only [if_neg z1, zm_countOfC, zm_bs, way, l1, zm_spotC, gc]
      have fold : (zc_L J J (q + 1)).foldl (zk_step (zk_Gm m (zx_rem yc 100) (yc / 100 - 999) J)) (-1, []) = zk_step (zk_Gm m (zx_rem yc 100) (yc / 100 - 999) J) ((zc_L J J q).foldl (zk_step (zk_Gm m (zx_rem yc 100) (yc / 100 - 999) J)) (-1, [])) (zc_s J J q) := by
        rw [LS', List.foldl_append]
        rfl
      generalize (zc_L J J q).foldl (zk_step (zk_Gm m (zx_rem yc 100) (yc / 100 - 999) J)) (-1, []) = σ at *
      by_cases y : zk_Gm m (zx_rem yc 100) (yc / 100 - 999) J (zc_s J J q) ≤ mo
      · have fold2 : zk_step (zk_Gm m (zx_rem yc 100) (yc / 100 - 999) J) σ (zc_s J J q) = σ := by
          unfold zk_step
          rw [if_pos (by rw [← h3]; exact y)]
        rw [fold2] at fold
        simp only [if_pos y]
        exact ⟨_, rfl, ⟨q + 1, b, by omega, rfl, by rw [fold]; exact h3, rfl, F2, hb, by rw [fold]; exact h6⟩, hup⟩
      · have fold2 : zk_step (zk_Gm m (zx_rem yc 100) (yc / 100 - 999) J) σ (zc_s J J q) = (zk_Gm m (zx_rem yc 100) (yc / 100 - 999) J (zc_s J J q), zc_s J J q) := by
          unfold zk_step
          rw [if_neg (by rw [← h3]; exact y)]
        rw [fold2] at fold
        simp only [if_neg y]
        exact ⟨_, rfl, ⟨q + 1, q, by omega, rfl, by rw [fold], rfl, F2, by omega, Or.inr ⟨ok, by rw [fold]⟩⟩, hup⟩
  obtain ⟨⟨t1, t2, t3⟩, e1, b, e2, e3, e4, e5, e6⟩ := key
  dsimp only at e2 e3 e4 e6
  subst e3
  rw [zc_same5 J (by omega)] at e2 e6
  refine ⟨b, t3, by rw [e1, e2], e4, e5, ?_⟩
  have ge := zk_ge G0 (zc_T J J []) (-1, []) (Or.inr ⟨rfl, zk_Tne J (by omega)⟩)
  rcases e6 with h | h
  · rw [← e2, h] at ge
    exact absurd ge (by decide)
  · exact h
theorem t_orderFor {c m : zx_M} (H : zm_R zq_V c m) (v w : Int32) : zm_ok zq_V (f_C_orderFor v w) (f_M_orderFor v w) c m := by
  have z1 : ¬ ((1 : Int32) = 0) := by decide
  unfold zm_ok f_C_orderFor f_M_orderFor
  rcases zo_isYc v with hy | hy
  rotate_left
  · simp only [(hy c m).1, (hy c m).2, zm_bs, ↓reduceIte]
    exact zm_e3 rfl rfl rfl H
  simp only [(hy c m).1, (hy c m).2, zm_bs, if_neg z1]
  by_cases a : -1 ≤ w
  rotate_left
  · simp only [if_neg a]
    exact zm_e3 rfl rfl rfl H
  obtain ⟨⟨J, hJ7, n1, n2⟩, -, hf, -⟩ := id H.1
  unfold f_Numbers_jumpersThere
  simp only [if_pos a, n1, n2, zm_bs]
  by_cases b : Int32.ofNat J ≤ 5
  rotate_left
  · simp only [if_neg b]
    exact zm_e3 rfl rfl rfl H
  have hJ : J ≤ 5 := by grind [zm_g]
  simp only [if_pos b, zm_let]
  -- the reference: the orders
  have m20 : (zx_u1 m 0 20 (Int32.ofNat J)).1 0 20 = Int32.ofNat J := by rw [zm_u11, if_pos rfl, zm_upd, if_pos rfl]
  obtain ⟨m1, c1e, c11, c12, c13⟩ := zo_counts (show J ≤ 7 by omega) m20 (zx_rem v 100)
  have H1 : zm_R zq_V c m1 := zm_FR H (zm_FC_refl c) ⟨by rw [c11, zm_u12], fun r r0 h7 => by rw [c12 r (by omega), zm_u11, if_neg r0], fun k hk => by rw [c12 0 (by omega), zm_u11, if_pos rfl, zm_upd, if_neg (by omega)]⟩
  have m16 : m1.1 0 6 = Int32.ofNat J := by rw [c12 0 (by omega), zm_u11, if_pos rfl, zm_upd, if_neg (by omega)]; exact n2
  obtain ⟨ca, ma, w1, w2, w3, w4, w5, w6, w7, w8, w9, w10, w11⟩ := zo_asks H1 (show J ≤ 7 by omega) m16 n1
  have hfa : ∀ k < 8, ca.1 2 k = ma.1 1 (28 + k) := w3.1.2.2.1
  have runa : ma.1 0 21 = ma.1 1 35 := by rw [w10, w8 1 (by omega) (by omega) (by omega)]
  have u24 : ∀ q, ¬ q = 24 → (zx_u1 ma 0 24 (-1)).1 0 q = ma.1 0 q := fun q hq => by rw [zm_u11, if_pos rfl, zm_upd, if_neg hq]
  have u1 : ∀ r, ¬ r = 0 → (zx_u1 ma 0 24 (-1)).1 r = ma.1 r := fun r hr => by rw [zm_u11, if_neg hr]
  obtain ⟨md, d1, d2, d3, d4⟩ := zk_dfs (J := J) (by omega) (cnt := zx_rem v 100) (spot := v / 100 - 999) J 0 12 (by omega) (by omega) [] 0 (zx_u1 ma 0 24 (-1)) (-1, []) rfl (fun i hi => absurd hi (by omega)) (by omega) (fun q hq => by rw [Nat.zero_testBit]; rfl) (by rw [u24 6 (by omega), w9 6 (by omega) (by omega)]; exact m16) (by rw [u24 20 (by omega), w9 20 (by omega) (by omega), c12 0 (by omega)]; exact m20) (fun i hi => by rw [u1 9 (by omega), w8 9 (by omega) (by omega) (by omega)]; exact c13 i hi) (fun i hi => absurd hi (by omega)) ⟨by rw [zm_u11, if_pos rfl, zm_upd, if_pos rfl], Or.inl rfl⟩
  have eG : zk_Gm (zx_u1 ma 0 24 (-1)) (zx_rem v 100) (v / 100 - 999) J = zk_Gm ma (zx_rem v 100) (v / 100 - 999) J := by
    unfold zk_Gm
    rw [u1 1 (by omega), u1 11 (by omega), u24 21 (by omega)]
  rw [eG] at d4
  have d1' : g_ordersOn_m 12 0 0 (v / 100 - 999) (zx_u1 ma 0 24 (-1)) = some md := d1
  have fin : ∀ x : zx_M, zm_FC ca x → zm_R zq_V x md := fun x F => zm_FR w3 F ⟨by rw [d2.1, zm_u12], fun r r0 h7 => by rw [d2.2.1 r r0 (by omega) (by omega) (by omega)]; exact u1 r r0, fun k hk => by rw [d2.2.2 k (by omega)]; exact u24 k (by omega)⟩
  have md6 : md.1 0 6 = Int32.ofNat J := by rw [d2.2.2 6 (by omega), u24 6 (by omega), w9 6 (by omega) (by omega)]; exact m16
  simp only [c1e, zm_bs, w2, zm_spotM, d1', md6]
  by_cases e : w < Int32.ofNat J
  rotate_left
  · have e2 : 0 ≤ w := by grind [zm_g]
    have e3 : Int32.ofNat J ≤ w := Int32.not_lt.mp e
    simp only [if_neg e, if_pos e2, if_pos e3]
    exact zm_e3 rfl rfl rfl (zm_FR H (zm_FC_refl c) (by
      have F1 : zm_FM m m1 := ⟨by rw [c11, zm_u12], fun r r0 h7 => by rw [c12 r (by omega), zm_u11, if_neg r0], fun k hk => by rw [c12 0 (by omega), zm_u11, if_pos rfl, zm_upd, if_neg (by omega)]⟩
      have F2 : zm_FM m1 ma := ⟨w7, fun r r0 h7 => w8 r r0 (by omega) (by omega), fun k hk => w9 k (by omega) (by omega)⟩
      have F3 : zm_FM ma md := ⟨by rw [d2.1, zm_u12], fun r r0 h7 => by rw [d2.2.1 r r0 (by omega) (by omega) (by omega)]; exact u1 r r0, fun k hk => by rw [d2.2.2 k (by omega)]; exact u24 k (by omega)⟩
      exact zm_FM_trans (zm_FM_trans F1 F2) F3))
  obtain ⟨bc, x, l1, l2, l3, l4, l5⟩ := zk_loop hfa hJ w11 runa v w
  have pw : f_Order_power (Int32.ofNat J) (Int32.ofNat J) ca = some (Int32.ofNat (J ^ J)) := zg_power (by omega) ca
  simp only [if_pos e, w1, zm_bs, pw, l1]
  by_cases f : w = -1
  · have f1 : ¬ ¬ w = -1 := fun h => h f
    have f2 : ¬ 0 ≤ w := by rw [f]; decide
    simp only [if_neg f1, if_neg f2, d4.1]
    exact zm_e3 rfl rfl rfl (fin x (zk_FCFC l2))
  · have f2 : 0 ≤ w := by grind
    have f3 : ¬ Int32.ofNat J ≤ w := Int32.not_le.mpr e
    obtain ⟨k, hk, rfl⟩ := zm_in (v := w) (n := J) (by omega) (Int32.not_lt.mpr f2) f3
    have hb5 : J ^ J ≤ 5 ^ 5 := Nat.le_trans (Nat.pow_le_pow_left hJ J) (Nat.pow_le_pow_right (by omega) hJ)
    have e55 : (5 : Nat) ^ 5 = 3125 := by decide
    obtain ⟨x1, r, s1, s2, s3, s4, s5⟩ := zc_spell (x := x) (J := J) (L := J) (c := bc) (by omega) hJ l3 (by omega)
    obtain ⟨rfl, o19, o20⟩ := s5 l4
    simp only [if_pos f, if_pos f2, if_neg f3, s1, zm_bs, zo_at (show J ≤ 7 by omega) o19 hk, zm_ix (show k < 7 by omega) (by omega)]
    refine zm_e3 rfl rfl ?_ (fin x1 (zm_FC_trans (zk_FCFC l2) ⟨s2, fun r _ _ _ _ h => s3 r (by omega) (by omega), by rw [s3 9 (by omega) (by omega)], by rw [s3 12 (by omega) (by omega)]⟩))
    rw [o20 k hk]
    rcases d4.2 with h | h
    · exfalso
      have G0 : ∀ s, 0 ≤ zk_Gm ma (zx_rem v 100) (v / 100 - 999) J s := by
        intro s
        unfold zk_Gm zk_G zj_good
        refine Int32.not_lt.mp (zm_nn ?_)
        have := zj_cnt_le (fun k => zj_wB (ma.1 1 28) (ma.1 1 29) (ma.1 1 30) ((fun k => v / 100 - 999 + zo_yd (ma.1 1 31) (ma.1 0 21) (ma.1 11) (fun k => s.getD k 0) (fun k => zx_rem v 100 * Int32.ofNat k) k) k) && !zj_mB J (fun k => zx_rem v 100 * Int32.ofNat k) (fun k => v / 100 - 999 + zo_yd (ma.1 1 31) (ma.1 0 21) (ma.1 11) (fun k => s.getD k 0) (fun k => zx_rem v 100 * Int32.ofNat k) k) k) J
        omega
      have ge := zk_ge G0 (zc_T J J []) (-1, []) (Or.inr ⟨rfl, zk_Tne J (by omega)⟩)
      rw [h] at ge
      exact absurd ge (by decide)
    · rw [h k hk, l5, zc_get hk]
