/-! spotFor -/
theorem zo_bad1 {c m : zx_M} (H : zm_R zq_V c m) (v : Int32) : ∃ r, f_M_rowIs v 0 m = some r := by
  rcases zo_read H v 1 with ⟨c1, m1, n, J, g, d, s, e1, e2, -⟩ | ⟨r, e1, e2, hr⟩
  · exact ⟨1, e2⟩
  · exact ⟨r, e2⟩
theorem zo_Wspot {c c' m : zx_M} {n J : Nat} {g : Nat → Nat} (W : zo_W c m n J g) {se : Nat → Int32} (Q : zj_JC22 c' n se (zo_yd (m.1 1 31) (m.1 0 21) (m.1 11) g se)) (F : zj_JF22 c c') (hse : ∀ k < n, m.1 9 k = se k) : ∃ best m' w, f_C_bestSpot c' = some best ∧ f_M_findsSpot m = some m' ∧ zo_fr m m' ∧ m'.1 0 23 = best ∧ m'.1 0 24 = w ∧ f_Jumps_good_22 best c' = some w ∧ f_C_goodByBestSpot c' = some w := by
  have W' := zo_WC W F
  obtain ⟨w1, w2, w3, -⟩ := zo_Wnum W'
  obtain ⟨best, m', e1, e2, e3, e4, e5, e6⟩ := zo_spot (zo_WRm W) Q w1 w2 w3 hse (fun k hk => zo_ydc (hse k hk))
  refine ⟨best, m', _, e1, e2, e3, e4, e5, ?_, e6⟩
  rw [zj_good22 Q, w1, w2, w3]
theorem t_spotFor {c m : zx_M} (H : zm_R zq_V c m) (v w x : Int32) : zm_ok zq_V (f_C_spotFor v w x) (f_M_spotFor v w x) c m := by
  have z1 : ¬ ((1 : Int32) = 0) := by decide
  have z2 : ¬ ¬ ((0 : Int32) = 0) := fun h => h rfl
  have z3 : ¬ ¬ ((1 : Int32) = 1) := fun h => h rfl
  unfold zm_ok f_C_spotFor f_M_spotFor
  obtain ⟨r0, hr0⟩ := zo_bad1 H v
  have bad : ∀ X : Option (Int32 × zx_M), (f_M_isCount w m = some 0 ∨ (f_M_isCount w m = some 1 ∧ f_M_within x.toInt64 0 1 m = some 0)) → ((f_M_rowIs v 0 m).bind fun r2 => if ¬ r2 = 1 then some ((-2000000000 : Int32), m) else (f_M_isCount w m).bind fun r5 => if r5 = 0 then some (-2000000000, m) else (f_M_within x.toInt64 0 1 m).bind fun r8 => if ¬ r8 = 0 then X else some (-2000000000, m)) = some (-2000000000, m) := by
    intro X hb
    rw [hr0, zm_bs]
    by_cases q : r0 = 1
    · rw [if_neg (fun h => h q)]
      rcases hb with h | ⟨h, h2⟩
      · rw [h, zm_bs, if_pos rfl]
      · rw [h, zm_bs, if_neg z1, h2, zm_bs, if_neg z2]
    · rw [if_pos q]
  rcases zo_isCount w with hy | hy
  rotate_left
  · rw [bad _ (Or.inl (hy c m).2)]
    simp only [(hy c m).1, zm_bs, ↓reduceIte]
    exact zm_e3 rfl rfl rfl H
  rcases zo_isPart x with ⟨hp, hx⟩ | hp
  rotate_left
  · rw [bad _ (Or.inr ⟨(hy c m).2, (hp c m).2⟩)]
    simp only [(hy c m).1, (hp c m).1, zm_bs, if_neg z1, ↓reduceIte]
    exact zm_e3 rfl rfl rfl H
  simp only [(hy c m).1, (hy c m).2, (hp c m).1, (hp c m).2, zm_bs, if_neg z1, if_pos z1]
  rcases zo_read H v w with ⟨c1, m1, n, J, g, d, s, e1, e2, e3, e4, e5, W, e7, -⟩ | ⟨r, e1, e2, hr⟩
  rotate_left
  · simp only [e1, e2, zm_bs, if_neg (zo_rNeg hr).1, if_pos (zo_rNeg hr).2.1]
    exact zm_e3 rfl rfl rfl H
  obtain ⟨c2, l1, l2, l3⟩ := zo_Wline W w (m1.1 0 21)
  obtain ⟨best, m2, y, b1, b2, b3, b4, b5, b6, b7⟩ := zo_Wspot W l2 l3 e7
  have R2 := (zo_WC (zo_WF W b3) l3).1
  simp only [e1, e2, e3, zm_bs, ↓reduceIte, if_neg z3, zo_Wway W, l1, b1, b2, b4, b5, b6]
  by_cases q : x = 0
  · have q' : ¬ ¬ x = 0 := fun h => h q
    simp only [if_neg q']
    exact zm_e3 rfl rfl rfl R2
  · simp only [if_pos q]
    exact zm_e3 rfl rfl rfl R2
/-! countFor -/
theorem t_countFor {c m : zx_M} (H : zm_R zq_V c m) (v w x : Int32) : zm_ok zq_V (f_C_countFor v w x) (f_M_countFor v w x) c m := by
  have z1 : ¬ ((1 : Int32) = 0) := by decide
  have z2 : ¬ ¬ ((0 : Int32) = 0) := fun h => h rfl
  have z4 : ¬ ((1 : Int32) = -1) := by decide
  have z5 : (0 : Int32) ≤ 1 := by decide
  unfold zm_ok f_C_countFor f_M_countFor
  obtain ⟨r0, hr0⟩ := zo_bad1 H v
  have bad : ∀ X : Option (Int32 × zx_M), (f_M_isYard w m = some 0 ∨ (f_M_isYard w m = some 1 ∧ f_M_within x.toInt64 0 1 m = some 0)) → ((f_M_rowIs v 0 m).bind fun r2 => if r2 = -1 then some ((-1 : Int32), m) else (f_M_isYard w m).bind fun r5 => if r5 = 0 then some (-1, m) else (f_M_within x.toInt64 0 1 m).bind fun r8 => if ¬ r8 = 0 then X else some (-1, m)) = some (-1, m) := by
    intro X hb
    rw [hr0, zm_bs]
    by_cases q : r0 = -1
    · rw [if_pos q]
    · rw [if_neg q]
      rcases hb with h | ⟨h, h2⟩
      · rw [h, zm_bs, if_pos rfl]
      · rw [h, zm_bs, if_neg z1, h2, zm_bs, if_neg z2]
  by_cases hy : -999 ≤ w ∧ w ≤ 999
  rotate_left
  · rw [bad _ (Or.inl (by rw [zm_isYardM, if_neg hy]))]
    simp only [zm_isYardC, if_neg hy, zm_bs, ↓reduceIte]
    exact zm_e3 rfl rfl rfl H
  rcases zo_isPart x with ⟨hp, hx⟩ | hp
  rotate_left
  · rw [bad _ (Or.inr ⟨by rw [zm_isYardM, if_pos hy], (hp c m).2⟩)]
    simp only [zm_isYardC, if_pos hy, (hp c m).1, zm_bs, if_neg z1, if_neg z2]
    exact zm_e3 rfl rfl rfl H
  simp only [zm_isYardC, zm_isYardM, if_pos hy, (hp c m).1, (hp c m).2, zm_bs, if_neg z1, if_pos z1]
  rcases zo_read H v 1 with ⟨c1, m1, n, J, g, d, s, e1, e2, e3, e4, e5, W, e7, -⟩ | ⟨r, e1, e2, hr⟩
  rotate_left
  · have rr := zo_rNeg hr
    simp only [e1, e2, zm_bs, if_neg rr.1, if_neg rr.2.2]
    by_cases q : r = -1
    · simp only [if_pos q]
      exact zm_e3 rfl rfl q H
    · simp only [if_neg q]
      exact zm_e3 rfl rfl rfl H
  have loop : ∃ (t t' : Int32 × Int32 × zx_M), zx_lp zx_N (fun s : Int32 × Int32 × Int32 × zx_M => b_C_countFor_l40 w x s.1 s.2.1 s.2.2.1 s.2.2.2) (1, -1, 1, c1) = some t ∧ zx_lp zx_N (fun s : Int32 × Int32 × Int32 × zx_M => b_M_countFor_l60 w x s.1 s.2.1 s.2.2.1 s.2.2.2) (0, -1, 1, m1) = some t' ∧ (t.1 = t'.1 ∧ t.2.1 = t'.2.1 ∧ zo_W t.2.2 t'.2.2 n J g) := by
    refine zm_lp2 (fun s : Int32 × Int32 × Int32 × zx_M => zm_up 21 s.2.2.1) (fun (s s' : Int32 × Int32 × Int32 × zx_M) => s.2.2.1 = s'.2.2.1 ∧ s.2.1 = s'.2.1 ∧ zo_W s.2.2.2 s'.2.2.2 n J g ∧ 1 ≤ s.2.2.1 ∧ s.2.2.1 ≤ 21 ∧ (s.1 = s'.1 ∨ (s.2.1 = -1 ∧ s.2.2.1 = 1))) (fun t t' : Int32 × Int32 × zx_M => t.1 = t'.1 ∧ t.2.1 = t'.2.1 ∧ zo_W t.2.2 t'.2.2 n J g) ?_ zx_N _ _ ⟨rfl, rfl, W, (by decide : (1 : Int32) ≤ 1), (by decide : (1 : Int32) ≤ 21), Or.inr ⟨rfl, rfl⟩⟩ (zm_upN (by decide : (-30000 : Int32) ≤ 1) (by decide))
    rintro ⟨b, mo, q, ca⟩ ⟨b', mo', q', ma⟩ ⟨h1, h2, Wa, h3, h4, h5⟩
    dsimp only at h1 h2 Wa h3 h4 h5 ⊢
    subst h1
    subst h2
    unfold b_C_countFor_l40 b_M_countFor_l60
    by_cases g20 : 20 < q
    · right
      simp only [if_pos g20]
      refine ⟨_, _, rfl, rfl, ?_, rfl, Wa⟩
      rcases h5 with h5 | ⟨-, h5⟩
      · exact h5
      · rw [h5] at g20; exact absurd g20 (by decide)
    · left
      obtain ⟨mb, k1, Wb, k3, k4, k5, k6⟩ := zo_Wcounts Wa q
      obtain ⟨cb, l1, l2, l3⟩ := zo_Wline Wa q (ma.1 0 21)
      obtain ⟨mc, p1, p2, p3⟩ := zo_goodFrom (zo_WRm Wb) w
      have Wc := zo_WC (zo_WF Wb p2) l3
      obtain ⟨w1, w2, w3, -⟩ := zo_Wnum (zo_WC Wa l3)
      have e : zj_good n (mb.1 1 28) (mb.1 1 29) (mb.1 1 30) (mb.1 9) (fun k => w + zo_yd (mb.1 1 31) (mb.1 0 21) (mb.1 11) g (mb.1 9) k) = zj_good n (cb.1 2 0) (cb.1 2 1) (cb.1 2 2) (fun k => q * Int32.ofNat k) (fun k => w + zo_yd (ma.1 1 31) (ma.1 0 21) (ma.1 11) g (fun k => q * Int32.ofNat k) k) := by
        rw [w1, w2, w3, k4, k5, k6]
        refine zj_good_congr k3 (fun k hk => ?_)
        congr 1
        exact zo_ydc (k3 k hk)
      rw [e] at p1
      have gc := zj_good22 l2 w
      have g0 : 0 ≤ Int32.ofNat (zj_good n (cb.1 2 0) (cb.1 2 1) (cb.1 2 2) (fun k => q * Int32.ofNat k) (fun k => w + zo_yd (ma.1 1 31) (ma.1 0 21) (ma.1 11) g (fun k => q * Int32.ofNat k) k)) := by
        have h1 := zj_cnt_le (fun k => zj_wB (cb.1 2 0) (cb.1 2 1) (cb.1 2 2) ((fun k => w + zo_yd (ma.1 1 31) (ma.1 0 21) (ma.1 11) g (fun k => q * Int32.ofNat k) k) k) && !zj_mB n (fun k => q * Int32.ofNat k) (fun k => w + zo_yd (ma.1 1 31) (ma.1 0 21) (ma.1 11) g (fun k => q * Int32.ofNat k) k) k) n
        have n7 := W.2.1
        refine Int32.not_lt.mp (zm_nn ?_)
        unfold zj_good
        omega
      generalize Int32.ofNat (zj_good n (cb.1 2 0) (cb.1 2 1) (cb.1 2 2) (fun k => q * Int32.ofNat k) (fun k => w + zo_yd (ma.1 1 31) (ma.1 0 21) (ma.1 11) g (fun k => q * Int32.ofNat k) k)) = G at p1 gc g0
      have hup := zm_up1 (e := 21) (v := q) (by grind)
      have hq : 1 ≤ q + 1 ∧ q + 1 ≤ 21 := by grind
      unfold n_C_countFor_b40_82 n_M_countFor_b60_94 n_M_countFor_b60_110
      simp only [if_neg g20, zo_Wway Wa, zm_bs, l1, gc, k1, p1, zm_let]
      by_cases y : G ≤ mo
      · simp only [if_pos y]
        refine ⟨_, _, rfl, rfl, ⟨rfl, rfl, Wc, hq.1, hq.2, ?_⟩, hup⟩
        rcases h5 with h5 | ⟨h5, -⟩
        · exact Or.inl h5
        · rw [h5] at y
          exfalso
          grind
      · simp only [if_neg y]
        exact ⟨_, _, rfl, rfl, ⟨rfl, rfl, Wc, hq.1, hq.2, Or.inl rfl⟩, hup⟩
  obtain ⟨⟨t1, t2, t3⟩, ⟨t1', t2', t3'⟩, f1, f2, q1, q2, q3⟩ := loop
  dsimp only at q1 q2 q3
  subst q1
  subst q2
  have f1' : l_C_countFor_l40 w x (1, -1, 1, c1) = some (t1, t2, t3) := f1
  have f2' : l_M_countFor_l60 w x (0, -1, 1, m1) = some (t1, t2, t3') := f2
  simp only [e1, e2, e3, zm_bs, ↓reduceIte, if_neg z4, if_pos z5, f1', f2']
  by_cases q : x = 0
  · have q' : ¬ ¬ x = 0 := fun h => h q
    simp only [if_neg q']
    exact zm_e3 rfl rfl rfl q3.1
  · simp only [if_pos q]
    exact zm_e3 rfl rfl rfl q3.1
/-! runIn -/
theorem t_runIn {c m : zx_M} (H : zm_R zq_V c m) (v w : Int32) : zm_ok zq_V (f_C_runIn v w) (f_M_runIn v w) c m := by
  have z1 : ¬ ((1 : Int32) = 0) := by decide
  have z2 : ¬ ¬ ((0 : Int32) = 0) := fun h => h rfl
  have z4 : ¬ ((1 : Int32) = -1) := by decide
  have z5 : (0 : Int32) ≤ 1 := by decide
  unfold zm_ok f_C_runIn f_M_runIn
  rcases zo_isCount w with hy | hy
  rotate_left
  · obtain ⟨r0, hr0⟩ := zo_bad1 H v
    simp only [(hy c m).1, (hy c m).2, zm_bs, if_neg z2, hr0]
    by_cases q : r0 = -1
    · simp only [if_pos q]
      exact zm_e3 rfl rfl rfl H
    · simp only [if_neg q]
      exact zm_e3 rfl rfl rfl H
  simp only [(hy c m).1, (hy c m).2, zm_bs, if_pos z1]
  rcases zo_read H v w with ⟨c1, m1, n, J, g, d, s, e1, e2, e3, e4, e5, W, e7, -⟩ | ⟨r, e1, e2, hr⟩
  rotate_left
  · have rr := zo_rNeg hr
    simp only [e1, e2, zm_bs, if_neg rr.1, if_neg rr.2.2]
    by_cases q : r = -1
    · simp only [if_pos q]
      exact zm_e3 rfl rfl q H
    · simp only [if_neg q]
      exact zm_e3 rfl rfl rfl H
  obtain ⟨H1, hn7, hJ7, r3, r4, r5, r6, r7, r8, r9⟩ := id W
  -- where the run stands at 0, at 1
  have Rc := zo_WRc W
  obtain ⟨c2, l1, l2, l3⟩ := zo_Wline W w 0
  have W2 := zo_WC W l3
  obtain ⟨c3, k1, k2, k3⟩ := zo_Wline W2 w 1
  obtain ⟨w1, w2, w3, -⟩ := zo_Wnum W2
  obtain ⟨x1, x2, x3, -⟩ := zo_Wnum (zo_WC W2 k3)
  have y20 : ∀ (mm : zx_M) (q : Nat) (u : Int32), ¬ q = 20 → zo_Rm mm n J g → zo_Rm (zx_u1 mm 0 q u) n J g := by
    intro mm q u hq R
    obtain ⟨a1, a2, a3, a4⟩ := R
    refine ⟨a1, a2, ?_, fun k hk => ?_⟩
    · rw [zm_u11, if_pos rfl, zm_upd, if_neg (fun e => hq e.symm)]; exact a3
    · rw [zm_u11, if_neg (by omega)]; exact a4 k hk
  have u1 : ∀ (mm : zx_M) (u : Int32) (q : Nat), ¬ q = 0 → (zx_u1 mm 0 21 u).1 q = mm.1 q := fun mm u q hq => by rw [zm_u11, if_neg hq]
  have u21 : ∀ (mm : zx_M) (u : Int32), (zx_u1 mm 0 21 u).1 0 21 = u := fun mm u => by rw [zm_u11, if_pos rfl, zm_upd, if_pos rfl]
  have Rm := zo_WRm W
  obtain ⟨b1, m3, f1, f2, f3, f4, f5, f6⟩ := zo_spot (c := c2) (y20 m1 21 0 (by omega) Rm) l2 (by rw [u1 m1 0 1 (by omega)]; exact w1) (by rw [u1 m1 0 1 (by omega)]; exact w2) (by rw [u1 m1 0 1 (by omega)]; exact w3) (fun k hk => by rw [u1 m1 0 9 (by omega)]; exact e7 k hk) (fun k hk => by
    rw [u1 m1 0 1 (by omega), u1 m1 0 11 (by omega), u1 m1 0 9 (by omega), u21]
    exact zo_ydc (e7 k hk))
  have Rm3 := zo_RmF (y20 m1 21 0 (by omega) Rm) f3
  have o1 : m3.1 1 = m1.1 1 := by rw [f3.2.1 1 (by omega) (by omega), u1 m1 0 1 (by omega)]
  have o9 : m3.1 9 = m1.1 9 := by rw [f3.2.1 9 (by omega) (by omega), u1 m1 0 9 (by omega)]
  have o11 : m3.1 11 = m1.1 11 := by rw [f3.2.1 11 (by omega) (by omega), u1 m1 0 11 (by omega)]
  obtain ⟨b2, m5, g1, g2, g3, g4, g5, g6⟩ := zo_spot (c := c3) (y20 m3 21 1 (by omega) Rm3) k2 (by rw [u1 m3 1 1 (by omega), o1]; exact x1) (by rw [u1 m3 1 1 (by omega), o1]; exact x2) (by rw [u1 m3 1 1 (by omega), o1]; exact x3) (fun k hk => by rw [u1 m3 1 9 (by omega), o9]; exact e7 k hk) (fun k hk => by
    rw [u1 m3 1 1 (by omega), u1 m3 1 11 (by omega), u1 m3 1 9 (by omega), u21, o1, o9, o11]
    exact zo_ydc (e7 k hk))
  have R5 : zm_R zq_V c3 m5 := by
    have F1 : zm_FM m1 (zx_u1 m1 0 21 0) := ⟨by rw [zm_u12], fun r r0 _ => by rw [zm_u11, if_neg r0], fun k hk => by rw [zm_u11, if_pos rfl, zm_upd, if_neg (by omega)]⟩
    have F2 : zm_FM m3 (zx_u1 m3 0 21 1) := ⟨by rw [zm_u12], fun r r0 _ => by rw [zm_u11, if_neg r0], fun k hk => by rw [zm_u11, if_pos rfl, zm_upd, if_neg (by omega)]⟩
    exact zm_FR H1 (zm_FC_trans (zj_JFFC l3) (zj_JFFC k3)) (zm_FM_trans (zm_FM_trans (zm_FM_trans F1 (zo_frFM f3)) F2) (zo_frFM g3))
  simp only [e1, e2, e3, zm_bs, ↓reduceIte, if_neg z4, if_pos z5, l1, f6, k1, g6, zm_let, f2, f5, g2, g5]
  have e8 : Int32.ofNat (zj_good n ((zx_u1 m3 0 21 1).1 1 28) ((zx_u1 m3 0 21 1).1 1 29) ((zx_u1 m3 0 21 1).1 1 30) (fun k => w * Int32.ofNat k) (fun k => b2 + zo_yd (m1.1 1 31) 1 (m1.1 11) g (fun k => w * Int32.ofNat k) k)) ≤ Int32.ofNat (zj_good n ((zx_u1 m1 0 21 0).1 1 28) ((zx_u1 m1 0 21 0).1 1 29) ((zx_u1 m1 0 21 0).1 1 30) (fun k => w * Int32.ofNat k) (fun k => b1 + zo_yd (m1.1 1 31) 0 (m1.1 11) g (fun k => w * Int32.ofNat k) k)) ∨ ¬ Int32.ofNat (zj_good n ((zx_u1 m3 0 21 1).1 1 28) ((zx_u1 m3 0 21 1).1 1 29) ((zx_u1 m3 0 21 1).1 1 30) (fun k => w * Int32.ofNat k) (fun k => b2 + zo_yd (m1.1 1 31) 1 (m1.1 11) g (fun k => w * Int32.ofNat k) k)) ≤ Int32.ofNat (zj_good n ((zx_u1 m1 0 21 0).1 1 28) ((zx_u1 m1 0 21 0).1 1 29) ((zx_u1 m1 0 21 0).1 1 30) (fun k => w * Int32.ofNat k) (fun k => b1 + zo_yd (m1.1 1 31) 0 (m1.1 11) g (fun k => w * Int32.ofNat k) k)) := Decidable.em _
  rcases e8 with q | q
  · simp only [if_pos q]
    exact zm_e3 rfl rfl rfl R5
  · simp only [if_neg q]
    exact zm_e3 rfl rfl rfl R5
/-! room -/
theorem t_room {c m : zx_M} (H : zm_R zq_V c m) (v : Int32) : zm_ok zq_V (f_C_room v) (f_M_room v) c m := by
  have z5 : (0 : Int32) ≤ 1 := by decide
  unfold zm_ok f_C_room f_M_room
  rcases zo_read H v 1 with ⟨c1, m1, n, J, g, d, s, e1, e2, e3, e4, e5, W, e7, -⟩ | ⟨r, e1, e2, hr⟩
  rotate_left
  · have rr := zo_rNeg hr
    simp only [e1, e2, zm_bs, if_neg rr.1, if_neg rr.2.2]
    exact zm_e3 rfl rfl rfl H
  have loop : ∃ (t t' : Int32 × zx_M), zx_lp zx_N (fun s : Int32 × zx_M => b_C_room_l14 s.1 s.2) (1, c1) = some t ∧ zx_lp zx_N (fun s : Int32 × zx_M => b_M_room_l24 s.1 s.2) (1, m1) = some t' ∧ (t.1 = t'.1 ∧ zo_W t.2 t'.2 n J g) := by
    refine zm_lp2 (fun s : Int32 × zx_M => zm_up 21 s.1) (fun (s s' : Int32 × zx_M) => s.1 = s'.1 ∧ zo_W s.2 s'.2 n J g ∧ 1 ≤ s.1 ∧ s.1 ≤ 21) (fun t t' : Int32 × zx_M => t.1 = t'.1 ∧ zo_W t.2 t'.2 n J g) ?_ zx_N _ _ ⟨rfl, W, (by decide : (1 : Int32) ≤ 1), (by decide : (1 : Int32) ≤ 21)⟩ (zm_upN (by decide : (-30000 : Int32) ≤ 1) (by decide))
    rintro ⟨q, ca⟩ ⟨q', ma⟩ ⟨h1, Wa, h3, h4⟩
    dsimp only at h1 Wa h3 h4 ⊢
    subst h1
    unfold b_C_room_l14 b_M_room_l24
    by_cases g20 : 20 < q
    · right
      simp only [if_pos g20]
      exact ⟨_, _, rfl, rfl, rfl, Wa⟩
    · obtain ⟨mb, k1, Wb, k3, k4, k5, k6⟩ := zo_Wcounts Wa q
      obtain ⟨cb, l1, l2, l3⟩ := zo_Wline Wa q (ma.1 0 21)
      obtain ⟨mc, p1, p2, p3, p4⟩ := zo_fills (zo_WRm Wb) 0
      have Wc := zo_WC (zo_WF Wb p2) l3
      have mcn : mc.1 0 20 = Int32.ofNat n := by rw [p3]; exact Wb.2.2.2.2.1
      have e : zj_meetn n (mc.1 9) (mc.1 10) = zj_meetn n (fun k => q * Int32.ofNat k) (zo_yd (ma.1 1 31) (ma.1 0 21) (ma.1 11) g (fun k => q * Int32.ofNat k)) := by
        refine zj_meetn_congr (fun k hk => ?_) (fun k hk o ho => ?_)
        · rw [p2.2.1 9 (by omega) (by omega)]; exact k3 k hk
        · rw [p4 k hk, p4 o ho, k4, k5, k6, zo_ydc (k := k) (se := mb.1 9) (se' := fun k => q * Int32.ofNat k) (k3 k hk), zo_ydc (k := o) (se := mb.1 9) (se' := fun k => q * Int32.ofNat k) (k3 o ho)]
          grind
      have gm := zj_meetMany W.2.1 mcn
      rw [e] at gm
      have gc := zj_meeting22 l2
      simp only [if_neg g20, zo_Wway Wa, zm_bs, l1, gc, k1, p1, gm, zm_let]
      by_cases y : Int32.ofNat (zj_meetn n (fun k => q * Int32.ofNat k) (zo_yd (ma.1 1 31) (ma.1 0 21) (ma.1 11) g (fun k => q * Int32.ofNat k))) = 0
      · right
        have y' : ¬ ¬ Int32.ofNat (zj_meetn n (fun k => q * Int32.ofNat k) (zo_yd (ma.1 1 31) (ma.1 0 21) (ma.1 11) g (fun k => q * Int32.ofNat k))) = 0 := fun h => h y
        simp only [if_neg y']
        exact ⟨_, _, rfl, rfl, rfl, Wc⟩
      · left
        have hup := zm_up1 (e := 21) (v := q) (by grind)
        have hq : 1 ≤ q + 1 ∧ q + 1 ≤ 21 := by grind
        simp only [if_pos y]
        exact ⟨_, _, rfl, rfl, ⟨rfl, Wc, hq.1, hq.2⟩, hup⟩
  obtain ⟨⟨t1, t2⟩, ⟨t1', t2'⟩, f1, f2, q1, q2⟩ := loop
  dsimp only at q1 q2
  subst q1
  have f1' : l_C_room_l14 (1, c1) = some (t1, t2) := f1
  have f2' : l_M_room_l24 (1, m1) = some (t1, t2') := f2
  simp only [e1, e2, e3, zm_bs, ↓reduceIte, if_pos z5, f1', f2', zm_let]
  exact zm_e3 rfl rfl rfl q2.1
