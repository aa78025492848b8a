/-! pass, the reference -/
theorem zp_fillWho {m : zx_M} {d f q n J : Nat} {g : Nat → Nat} {a3 a4 a5 : Int32} (hd : d < 6) (hn : n ≤ 7) (hq : f + q ≤ n) (hit : ∀ k < n, g k < J ∧ m.2 21 (60 * d + k) = (Int32.ofNat (g k)).toInt64) : ∃ m', l_M_passFrom_lb6_23 (Int32.ofNat d) (Int32.ofNat f) a3 a4 a5 (Int32.ofNat q) (0, m) = some m' ∧ m'.2 = m.2 ∧ (∀ r, ¬ r = 8 → m'.1 r = m.1 r) ∧ ∀ k < q, m'.1 8 k = Int32.ofNat (g (f + k)) := by
  unfold l_M_passFrom_lb6_23
  refine zm_lp1 (fun s : Int32 × zx_M => zm_up (Int32.ofNat q) s.1) (fun s => ∃ k, k ≤ q ∧ s.1 = Int32.ofNat k ∧ s.2.2 = m.2 ∧ (∀ r, ¬ r = 8 → s.2.1 r = m.1 r) ∧ ∀ i < k, s.2.1 8 i = Int32.ofNat (g (f + i))) _ ?_ zx_N _ ⟨0, by omega, rfl, rfl, fun _ _ => rfl, fun i hi => absurd hi (by omega)⟩ (zm_upN (by decide : (-30000 : Int32) ≤ 0) (by grind [zm_g]))
  rintro ⟨i, x⟩ ⟨k, h1, h2, h3, h4, h5⟩
  dsimp only at h2 h3 h4 h5 ⊢
  subst h2
  unfold b_M_passFrom_lb6_23
  by_cases e : k = q
  · right
    subst e
    simp only [if_pos (Int32.le_refl _)]
    exact ⟨_, rfl, h3, h4, h5⟩
  · left
    have g1 : ¬ Int32.ofNat q ≤ Int32.ofNat k := by grind [zm_g]
    have e1 : Int32.ofNat f + Int32.ofNat k = Int32.ofNat (f + k) := by simp
    have e2 : 60 * Int32.ofNat d + Int32.ofNat (f + k) = Int32.ofNat (60 * d + (f + k)) := by simp
    have it : f_M_itemAt (Int32.ofNat d) (Int32.ofNat (f + k)) x = some ((Int32.ofNat (g (f + k))).toInt64) := by
      unfold f_M_itemAt
      rw [e2, zm_ix (by omega) (by omega), zm_bs, h3, (hit (f + k) (by omega)).2]
    have tb : ((Int32.ofNat (g (f + k))).toInt64).toInt32 = Int32.ofNat (g (f + k)) := Int32.toInt32_toInt64 _
    simp only [if_neg g1, e1, it, zm_bs, zm_ix (show k < 7 by omega) (by omega), zm_let, tb]
    refine ⟨_, rfl, ⟨k + 1, by omega, by simp, h3, fun r r8 => ?_, fun j hj => ?_⟩, zm_up1 (by grind [zm_g])⟩
    · rw [zm_u11, if_neg r8]; exact h4 r r8
    · rw [zm_u11, if_pos rfl, zm_upd]
      by_cases y : j = k
      · rw [if_pos y, y]
      · rw [if_neg y]; exact h5 j (by omega)
def zp_fr (m m' : zx_M) : Prop := m'.2 = m.2 ∧ (∀ r, ¬ r = 0 → ¬ (8 ≤ r ∧ r ≤ 10) → m'.1 r = m.1 r) ∧ ∀ q, ¬ q = 20 → ¬ q = 23 → ¬ q = 24 → m'.1 0 q = m.1 0 q
theorem zp_fr_trans {a b c : zx_M} (h1 : zp_fr a b) (h2 : zp_fr b c) : zp_fr a c := ⟨h2.1.trans h1.1, fun r q1 q2 => (h2.2.1 r q1 q2).trans (h1.2.1 r q1 q2), fun k k1 k2 k3 => (h2.2.2 k k1 k2 k3).trans (h1.2.2 k k1 k2 k3)⟩
theorem zp_frFM {m m' : zx_M} (h : zp_fr m m') : zm_FM m m' := ⟨h.1, fun r r0 h7 => h.2.1 r r0 (by omega), fun k hk => h.2.2 k (by omega) (by omega) (by omega)⟩
/-- the reference: how many go in one pass -/
theorem zp_M {m : zx_M} {d f n J : Nat} {g : Nat → Nat} (hd : d < 6) (hn : n ≤ 7) (hJ : J ≤ 7) (hf : f ≤ n) (hit : ∀ k < n, g k < J ∧ m.2 21 (60 * d + k) = (Int32.ofNat (g k)).toInt64) (cnt : Int32) : ∃ r m', f_M_passFrom (Int32.ofNat d) (Int32.ofNat f) (Int32.ofNat n) cnt m = some (Int32.ofNat r, m') ∧ zp_fr m m' ∧ f + r ≤ n ∧ (1 ≤ r → zp_A (m.1 1 28) (m.1 1 29) (m.1 1 30) (m.1 1 31) (m.1 0 21) (m.1 11) g cnt f r) ∧ ∀ q, r < q → f + q ≤ n → ¬ zp_A (m.1 1 28) (m.1 1 29) (m.1 1 30) (m.1 1 31) (m.1 0 21) (m.1 11) g cnt f q := by
  have key : ∃ t : Int32 × zx_M, l_M_passFrom_l6 (Int32.ofNat d) (Int32.ofNat f) (Int32.ofNat n) cnt (0, 1, m) = some t ∧ ∃ r, t.1 = Int32.ofNat r ∧ zp_fr m t.2 ∧ f + r ≤ n ∧ (1 ≤ r → zp_A (m.1 1 28) (m.1 1 29) (m.1 1 30) (m.1 1 31) (m.1 0 21) (m.1 11) g cnt f r) ∧ ∀ q, r < q → f + q ≤ n → ¬ zp_A (m.1 1 28) (m.1 1 29) (m.1 1 30) (m.1 1 31) (m.1 0 21) (m.1 11) g cnt f q := by
    unfold l_M_passFrom_l6
    refine zm_lp1 (fun s : Int32 × Int32 × zx_M => zm_up 8 s.2.1) (fun s => ∃ p q, s.1 = Int32.ofNat p ∧ s.2.1 = Int32.ofNat q ∧ p < q ∧ 1 ≤ q ∧ f + q ≤ n + 1 ∧ zp_fr m s.2.2 ∧ (1 ≤ p → zp_A (m.1 1 28) (m.1 1 29) (m.1 1 30) (m.1 1 31) (m.1 0 21) (m.1 11) g cnt f p) ∧ ∀ u, p < u → u < q → ¬ zp_A (m.1 1 28) (m.1 1 29) (m.1 1 30) (m.1 1 31) (m.1 0 21) (m.1 11) g cnt f u) _ ?_ zx_N _ ⟨0, 1, rfl, rfl, by omega, by omega, by omega, ⟨rfl, fun _ _ _ => rfl, fun _ _ _ _ => rfl⟩, fun h => absurd h (by omega), fun u h1 h2 => absurd h1 (by omega)⟩ (zm_upN (by decide : (-30000 : Int32) ≤ 1) (by decide))
    rintro ⟨p', q', x⟩ ⟨p, q, e1, e2, hpq, hq1, hqn, F, hA, hN⟩
    dsimp only at e1 e2 F ⊢
    subst e1
    subst e2
    have e0 : Int32.ofNat f + Int32.ofNat q = Int32.ofNat (f + q) := by simp
    unfold b_M_passFrom_l6
    rw [e0]
    by_cases e : n < f + q
    · right
      have g1 : Int32.ofNat n < Int32.ofNat (f + q) := by
        have := zm_g (k := f + q) (by omega)
        have := zm_g (k := n) (by omega)
        grind
      simp only [if_pos g1]
      exact ⟨_, rfl, p, rfl, F, by omega, hA, fun u u1 u2 => hN u u1 (by omega)⟩
    · left
      have g1 : ¬ Int32.ofNat n < Int32.ofNat (f + q) := by
        have := zm_g (k := f + q) (by omega)
        have := zm_g (k := n) (by omega)
        grind
      obtain ⟨f1, f2, f3⟩ := F
      obtain ⟨m3, w1, w2, w3, w4⟩ := zp_fillWho (m := zx_u1 x 0 20 (Int32.ofNat q)) (a3 := Int32.ofNat n) (a4 := cnt) (a5 := Int32.ofNat p) hd hn (show f + q ≤ n by omega) (fun k hk => by rw [zm_u12, f1]; exact hit k hk)
      have m3n : m3.1 0 20 = Int32.ofNat q := by rw [w3 0 (by omega), zm_u11, if_pos rfl, zm_upd, if_pos rfl]
      obtain ⟨m4, c1, c2, c3, c4⟩ := zo_counts (show q ≤ 7 by omega) m3n cnt
      have R4 : zo_Rm m4 q J (fun k => g (f + k)) := ⟨by omega, hJ, by rw [c3 0 (by omega)]; exact m3n, fun k hk => ⟨(hit (f + k) (by omega)).1, by rw [c3 8 (by omega)]; exact w4 k hk⟩⟩
      obtain ⟨m5, b, s1, s2, s3, s4, s5, s6⟩ := zp_find R4
      have r1 : m4.1 1 = m.1 1 := by rw [c3 1 (by omega), w3 1 (by omega), zm_u11, if_neg (by omega)]; exact f2 1 (by omega) (by omega)
      have r11 : m4.1 11 = m.1 11 := by rw [c3 11 (by omega), w3 11 (by omega), zm_u11, if_neg (by omega)]; exact f2 11 (by omega) (by omega)
      have r21 : m4.1 0 21 = m.1 0 21 := by rw [c3 0 (by omega), w3 0 (by omega), zm_u11, if_pos rfl, zm_upd, if_neg (by omega)]; exact f3 21 (by omega) (by omega) (by omega)
      have same : ∀ t : Int32, zj_good q (m4.1 1 28) (m4.1 1 29) (m4.1 1 30) (m4.1 9) (fun k => t + zo_yd (m4.1 1 31) (m4.1 0 21) (m4.1 11) (fun k => g (f + k)) (m4.1 9) k) = zj_good q (m.1 1 28) (m.1 1 29) (m.1 1 30) (fun k => cnt * Int32.ofNat k) (fun k => t + zo_yd (m.1 1 31) (m.1 0 21) (m.1 11) (fun k => g (f + k)) (fun k => cnt * Int32.ofNat k) k) := by
        intro t
        rw [r1, r11, r21]
        refine zj_good_congr c4 (fun k hk => ?_)
        congr 1
        exact zo_ydc (c4 k hk)
      have F5 : zp_fr m m5 := by
        refine ⟨by rw [s2.1, c2, w2, zm_u12, f1], fun r r0 r8 => ?_, fun u u20 u23 u24 => ?_⟩
        · rw [s2.2.1 r r0 (by omega), c3 r (by omega), w3 r (by omega), zm_u11, if_neg r0]; exact f2 r r0 r8
        · rw [s2.2.2 u u23 u24, c3 0 (by omega), w3 0 (by omega), zm_u11, if_pos rfl, zm_upd, if_neg u20]; exact f3 u u20 u23 u24
      have a1 : Int32.ofNat q + 1 = Int32.ofNat (q + 1) := by simp
      have hup : zm_up 8 (Int32.ofNat (q + 1)) < zm_up 8 (Int32.ofNat q) := by
        rw [← a1]; exact zm_up1 (by grind [zm_g])
      unfold n_M_passFrom_b6_79
      simp only [if_neg g1, zm_let, w1, zm_bs, c1, s1, s3, a1]
      by_cases y : b = q
      · have y' : ¬ ¬ Int32.ofNat b = Int32.ofNat q := fun h => h (by rw [y])
        simp only [if_neg y']
        refine ⟨_, rfl, ⟨q, q + 1, rfl, rfl, by omega, by omega, by omega, F5, fun _ => ?_, fun u u1 u2 => by omega⟩, hup⟩
        obtain ⟨t, t1, t2, t3⟩ := s5
        exact ⟨t, t1, t2, by rw [← same t, t3, y]⟩
      · have y' : ¬ Int32.ofNat b = Int32.ofNat q := by
          have := zm_g (k := b) (by omega)
          have := zm_g (k := q) (by omega)
          grind
        simp only [if_pos y']
        refine ⟨_, rfl, ⟨p, q + 1, rfl, rfl, by omega, by omega, by omega, F5, hA, fun u u1 u2 => ?_⟩, hup⟩
        by_cases z : u = q
        · subst z
          rintro ⟨t, t1, t2, t3⟩
          have := s6 t t1 t2
          rw [same t, t3] at this
          omega
        · exact hN u u1 (by omega)
  obtain ⟨⟨r', m'⟩, e1, r, e2, e3, e4, e5, e6⟩ := key
  dsimp only at e2 e3
  subst e2
  refine ⟨r, m', ?_, e3, e4, e5, e6⟩
  unfold f_M_passFrom
  rw [e1]
  rfl
/-- both in the midst of passes -/
def zp_W (c m : zx_M) (n J d : Nat) (g : Nat → Nat) : Prop := zm_R zq_V c m ∧ zo_Rc c n J g ∧ (∀ j < J, c.1 21 j = m.1 11 j) ∧ m.1 0 21 = m.1 1 35 ∧ ∀ k < n, g k < J ∧ m.2 21 (60 * d + k) = (Int32.ofNat (g k)).toInt64
theorem zp_Acr {fr to wi sp wy : Int32} {cr cr' : Nat → Int32} {g : Nat → Nat} {cnt : Int32} {f q n J : Nat} (hg : ∀ k < n, g k < J) (hc : ∀ j < J, cr j = cr' j) (hq : f + q ≤ n) (h : zp_A fr to wi sp wy cr g cnt f q) : zp_A fr to wi sp wy cr' g cnt f q := by
  obtain ⟨t, t1, t2, t3⟩ := h
  refine ⟨t, t1, t2, ?_⟩
  refine Eq.trans ?_ t3
  refine zj_good_congr (fun _ _ => rfl) (fun k hk => ?_)
  show t + zo_yd _ _ _ _ _ _ = t + zo_yd _ _ _ _ _ _
  congr 1
  unfold zo_yd
  rw [hc (g (f + k)) (hg (f + k) (by omega))]
theorem zp_both {c m : zx_M} {n J d f : Nat} {g : Nat → Nat} (W : zp_W c m n J d g) (hd : d < 6) (hf : f ≤ n) (cnt : Int32) : ∃ r c' m', f_C_inOnePass (Int32.ofNat f) cnt c = some (Int32.ofNat r, c') ∧ f_M_passFrom (Int32.ofNat d) (Int32.ofNat f) (Int32.ofNat n) cnt m = some (Int32.ofNat r, m') ∧ zp_W c' m' n J d g ∧ f + r ≤ n := by
  obtain ⟨H, R, hcr, hrun, hit⟩ := W
  have n7 := R.1
  obtain ⟨⟨-, -, hh, -⟩, -⟩ := id H
  have h0 : c.1 2 0 = m.1 1 28 := hh 0 (by omega)
  have h1 : c.1 2 1 = m.1 1 29 := hh 1 (by omega)
  have h2 : c.1 2 2 = m.1 1 30 := hh 2 (by omega)
  have h3 : c.1 2 3 = m.1 1 31 := hh 3 (by omega)
  have h7 : c.1 2 7 = m.1 1 35 := hh 7 (by omega)
  have hw : ∀ x, zj_JF22 c x → f_C_way x = some (m.1 0 21) := by
    intro x F
    have t11 : f_Numbers_told 0 11 x = _ := zm_told_f (k := 7) (by omega) rfl
    unfold f_C_way
    rw [t11, zm_bs, F.2.1 2 (by omega) (by omega) (by omega) (by omega), h7, hrun]
  obtain ⟨r, c', e1, e2, e3, e4, e5⟩ := zp_C R hf cnt hw
  obtain ⟨r', m', f1, f2, f3, f4, f5⟩ := zp_M hd n7 R.2.1 hf hit cnt
  rw [h0, h1, h2, h3] at e4 e5
  have hg : ∀ k < n, g k < J := fun k hk => (hit k hk).1
  have er : r' = r := by
    rcases Nat.lt_trichotomy r r' with h | h | h
    · exfalso
      have a := f4 (by omega)
      have a2 := zp_anti2 (r' - (r + 1)) (r + 1) (by rw [show r + 1 + (r' - (r + 1)) = r' by omega]; exact a)
      exact e5 (by omega) (zp_Acr hg (fun j hj => (hcr j hj).symm) (by omega) a2)
    · exact h.symm
    · exfalso
      exact f5 r h e3 (zp_Acr hg hcr e3 (e4 (by omega)))
  subst er
  refine ⟨r', c', m', e1, f1, ⟨zm_FR H (zj_JFFC e2) (zp_frFM f2), zo_RcF R e2, fun j hj => ?_, ?_, fun k hk => ?_⟩, e3⟩
  · rw [e2.2.1 21 (by omega) (by omega) (by omega) (by omega), f2.2.1 11 (by omega) (by omega)]; exact hcr j hj
  · rw [f2.2.2 21 (by omega) (by omega) (by omega), f2.2.1 1 (by omega) (by omega)]; exact hrun
  · rw [f2.1]; exact hit k hk
theorem t_pass {c m : zx_M} (H : zm_R zq_V c m) (v w x : Int32) : zm_ok zq_V (f_C_pass v w x) (f_M_pass v w x) c m := by
  have z1 : ¬ ((1 : Int32) = 0) := by decide
  have z2 : ¬ ¬ ((0 : Int32) = 0) := fun h => h rfl
  have z4 : ¬ ((1 : Int32) = -1) := by decide
  have z5 : (0 : Int32) ≤ 1 := by decide
  unfold zm_ok f_C_pass f_M_pass
  obtain ⟨r0, hr0⟩ := zo_bad1 H v
  have bad : ∀ X : Option (Int32 × zx_M), (f_M_isCount w m = some 0 ∨ (f_M_isCount w m = some 1 ∧ f_M_within x.toInt64 0 1 m = some 0)) → ((f_M_rowIs v 0 m).bind fun r2 => if r2 = -1 then some ((-1 : Int32), m) else (f_M_isCount w m).bind fun r5 => if r5 = 0 then some (-1, m) else (f_M_within x.toInt64 0 1 m).bind fun r8 => if ¬ r8 = 0 then X else some (-1, m)) = some (-1, m) := by
    intro X hb
    rw [hr0, zm_bs]
    by_cases q : r0 = -1
    · rw [if_pos q]
    · rw [if_neg q]
      rcases hb with h | ⟨h, h2⟩
      · rw [h, zm_bs, if_pos rfl]
      · rw [h, zm_bs, if_neg z1, h2, zm_bs, if_neg z2]
  rcases zo_isCount w with hy | hy
  rotate_left
  · rw [bad _ (Or.inl (hy c m).2)]
    simp only [(hy c m).1, zm_bs, ↓reduceIte]
    exact zm_e3 rfl rfl rfl H
  rcases zo_isPart x with ⟨hp, hx⟩ | hp
  rotate_left
  · rw [bad _ (Or.inr ⟨(hy c m).2, (hp c m).2⟩)]
    simp only [(hy c m).1, (hp c m).1, zm_bs, if_neg z1, if_neg z2]
    exact zm_e3 rfl rfl rfl H
  simp only [(hy c m).1, (hy c m).2, (hp c m).1, (hp c m).2, zm_bs, if_neg z1, if_pos z1]
  rcases zo_read H v w with ⟨c1, m1, n, J, g, d, s, e1, e2, e3, e4, e5, W, e7, hd, rfl, e10, -⟩ | ⟨r, e1, e2, hr⟩
  rotate_left
  · have rr := zo_rNeg hr
    simp only [e1, e2, zm_bs, if_neg rr.1, if_neg rr.2.2]
    by_cases q : r = -1
    · simp only [if_pos q]
      exact zm_e3 rfl rfl q H
    · simp only [if_neg q]
      exact zm_e3 rfl rfl rfl H
  obtain ⟨H1, hn7, hJ7, r3, r4, r5, r6, r7, r8, r9⟩ := id W
  have P : zp_W c1 m1 n J d g := ⟨H1, zo_WRc W, r8, r9, fun k hk => ⟨(r7 k hk).1, by rw [e5.1]; exact e10 k hk⟩⟩
  simp only [e1, e2, e3, zm_bs, ↓reduceIte, if_neg z4, if_pos z5, zm_let, r4]
  by_cases q : x = 0
  · have q' : ¬ ¬ x = 0 := fun h => h q
    obtain ⟨r, c', m', f1, f2, f3, f4⟩ := zp_both P hd (show 0 ≤ n by omega) w
    have f1' : f_C_inOnePass 0 w c1 = _ := f1
    have f2' : f_M_passFrom (Int32.ofNat d) 0 (Int32.ofNat n) w m1 = _ := f2
    simp only [if_neg q', f1', f2', zm_bs]
    exact zm_e3 rfl rfl rfl f3.1
  · have loop : ∃ (t t' : Int32 × zx_M), zx_lp zx_N (fun s : Int32 × Int32 × zx_M => b_C_passes_l4 w s.1 s.2.1 s.2.2) (0, 0, c1) = some t ∧ zx_lp zx_N (fun s : Int32 × Int32 × zx_M => b_M_pass_l77 (Int32.ofNat d) w (Int32.ofNat n) s.1 s.2.1 s.2.2) (0, 0, m1) = some t' ∧ (t.1 = t'.1 ∧ zm_R zq_V t.2 t'.2) := by
      refine zm_lp2 (fun s : Int32 × Int32 × zx_M => zm_up (Int32.ofNat n) s.1) (fun (s s' : Int32 × Int32 × zx_M) => s.1 = s'.2.1 ∧ s.2.1 = s'.1 ∧ zp_W s.2.2 s'.2.2 n J d g ∧ ∃ f, f ≤ n ∧ s.1 = Int32.ofNat f) (fun t t' : Int32 × zx_M => t.1 = t'.1 ∧ zm_R zq_V t.2 t'.2) ?_ zx_N _ _ ⟨rfl, rfl, P, 0, by omega, rfl⟩ (zm_upN (by decide : (-30000 : Int32) ≤ 0) (by grind [zm_g]))
      rintro ⟨f', p, ca⟩ ⟨p', f'', ma⟩ ⟨h1, h2, Pa, f, hf, h3⟩
      dsimp only at h1 h2 Pa h3 ⊢
      subst h1
      subst h2
      subst h3
      unfold b_C_passes_l4 b_M_pass_l77 f_Order_size
      rw [Pa.2.1.2.2.1]
      by_cases e : f = n
      · right
        subst e
        simp only [zm_bs, if_pos (Int32.le_refl _)]
        exact ⟨_, _, rfl, rfl, rfl, Pa.1⟩
      · have g1 : ¬ Int32.ofNat n ≤ Int32.ofNat f := by grind [zm_g]
        obtain ⟨r, cb, mb, k1, k2, k3, k4⟩ := zp_both Pa hd hf w
        simp only [zm_bs, if_neg g1, k1, k2, zm_let]
        by_cases y : r = 0
        · right
          subst y
          have y1 : ¬ 1 ≤ Int32.ofNat 0 := by decide
          have y2 : ¬ ¬ Int32.ofNat 0 = 0 := fun h => h rfl
          simp only [if_neg y1, if_neg y2]
          exact ⟨_, _, rfl, rfl, rfl, k3.1⟩
        · left
          have y1 : 1 ≤ Int32.ofNat r := by
            have := zm_g (k := r) (by omega)
            grind
          have y2 : ¬ Int32.ofNat r = 0 := by
            have := zm_g (k := r) (by omega)
            grind
          have a1 : Int32.ofNat f + Int32.ofNat r = Int32.ofNat (f + r) := by simp
          simp only [if_pos y1, if_pos y2, a1]
          refine ⟨_, _, rfl, rfl, ⟨rfl, rfl, k3, f + r, k4, rfl⟩, ?_⟩
          have q1 := zm_g (k := f + r) (by omega)
          have q2 := zm_g (k := f) (by omega)
          have q3 := zm_g (k := n) (by omega)
          have i1 : (Int32.ofNat (f + r)).toInt = (f + r : Nat) := q1
          have i2 : (Int32.ofNat f).toInt = (f : Nat) := q2
          have i3 : (Int32.ofNat n).toInt = (n : Nat) := q3
          show zm_up _ _ < zm_up _ _
          unfold zm_up
          rw [i1, i2, i3]
          omega
    obtain ⟨⟨t1, t2⟩, ⟨t1', t2'⟩, f1, f2, q1, q2⟩ := loop
    dsimp only at q1 q2
    subst q1
    have f1' : l_C_passes_l4 w (0, 0, c1) = some (t1, t2) := f1
    have f2' : l_M_pass_l77 (Int32.ofNat d) w (Int32.ofNat n) (0, 0, m1) = some (t1, t2') := f2
    unfold f_C_passes
    simp only [if_pos q, f1', f2', zm_bs, zm_let]
    exact zm_e3 rfl rfl rfl q2
