/-! drops in thought: where each comes down -/
def zo_ah (sp wy se : Int32) : Int32 := if ¬ wy = 0 then -(sp * se) else sp * se
def zo_yd (sp wy : Int32) (cr : Nat → Int32) (g : Nat → Nat) (se : Nat → Int32) (k : Nat) : Int32 := zo_ah sp wy (se k) + cr (g k)
theorem zj_JC_congr {c : zx_M} {n : Nat} {se yd se' yd' : Nat → Int32} (J : zj_JC22 c n se yd) (h1 : ∀ k < n, se k = se' k) (h2 : ∀ k < n, yd k = yd' k) : zj_JC22 c n se' yd' := by
  obtain ⟨j0, j1, j2⟩ := J
  refine ⟨j0, j1, fun k hk => ?_⟩
  obtain ⟨q1, q2, q3⟩ := j2 k hk
  rw [← h1 k hk, ← h2 k hk, ← zj_mB_congr (dw := yd) (dw' := yd') hk h1 (fun o ho => by rw [h2 o ho, h2 k hk])]
  exact ⟨q1, q2, q3⟩
/-- what both orders say, and what jumps leave -/
def zo_Rc (c : zx_M) (n J : Nat) (g : Nat → Nat) : Prop := n ≤ 7 ∧ J ≤ 7 ∧ c.1 19 1 = Int32.ofNat n ∧ ∀ k < n, g k < J ∧ c.1 20 k = Int32.ofNat (g k)
theorem zo_RcF {c c' : zx_M} {n J : Nat} {g : Nat → Nat} (R : zo_Rc c n J g) (F : zj_JF22 c c') : zo_Rc c' n J g := by
  obtain ⟨r1, r2, r3, r4⟩ := R
  obtain ⟨-, f, -⟩ := F
  unfold zo_Rc
  rw [f 19 (by omega) (by omega) (by omega) (by omega), f 20 (by omega) (by omega) (by omega) (by omega)]
  exact ⟨r1, r2, r3, r4⟩
theorem zj_JFFC {c c' : zx_M} (F : zj_JF22 c c') : zm_FC c c' := ⟨F.1, fun r r1 r2 r3 r4 r5 => F.2.1 r (by omega) (by omega) (by omega) (by omega), by rw [F.2.1 9 (by omega) (by omega) (by omega) (by omega)], by rw [F.2.1 12 (by omega) (by omega) (by omega) (by omega)]⟩
theorem zo_send {c : zx_M} {n J : Nat} {g : Nat → Nat} (R : zo_Rc c n J g) {i k : Nat} {se yd : Nat → Int32} (Q : zj_JC22 c i se yd) (hi : i < 7) (hk : k < n) (sec way : Int32) : ∃ c', f_C_sendOut (Int32.ofNat k) sec way c = some c' ∧ zj_JC22 c' (i + 1) (upd se i sec) (upd yd i (zo_ah (c.1 2 3) way sec + c.1 21 (g k))) ∧ zj_JF22 c c' := by
  obtain ⟨r1, r2, r3, r4⟩ := R
  have t7 : f_Numbers_told 0 7 c = _ := zm_told_f (k := 3) (by omega) rfl
  have ha : f_C_ahead sec way c = some (zo_ah (c.1 2 3) way sec) := by
    unfold f_C_ahead zo_ah
    rw [t7, zm_bs, zm_let]
    by_cases w : way = 0
    · have w' : ¬ ¬ way = 0 := fun h => h w
      rw [if_neg w', if_neg w']
    · rw [if_pos w, if_pos w]
  obtain ⟨g1, g2⟩ := r4 k hk
  have gk7 : g k < 7 := by omega
  have hc : f_C_carriedOf (Int32.ofNat (g k)) c = some (c.1 21 (g k)) := by
    have b1 : ¬ Int32.ofNat (g k) < 0 := zm_nn (by omega)
    have b2 : ¬ 7 ≤ Int32.ofNat (g k) := by grind [zm_g]
    unfold f_C_carriedOf
    rw [if_neg b1, if_neg b2, zm_ix gk7 (by omega), zm_bs]
  obtain ⟨c', e1, e2, e3⟩ := zj_join22 Q hi sec (zo_ah (c.1 2 3) way sec + c.1 21 (g k))
  refine ⟨c', ?_, e2, e3⟩
  unfold f_C_sendOut
  rw [ha, zm_bs, zo_at r1 r3 hk, zm_bs, g2, hc, zm_bs, e1, zm_bs]
theorem zo_updS (f : Nat → Int32) (i : Nat) : upd f i (f i) = f := by
  funext k
  rw [zm_upd]
  by_cases h : k = i
  · rw [if_pos h, h]
  · rw [if_neg h]
/-- lined up -/
theorem zo_lineUp {c : zx_M} {n J : Nat} {g : Nat → Nat} (R : zo_Rc c n J g) (cnt way : Int32) : ∃ c', f_C_lineUp cnt way c = some c' ∧ zj_JC22 c' n (fun k => cnt * Int32.ofNat k) (zo_yd (c.1 2 3) way (c.1 21) g (fun k => cnt * Int32.ofNat k)) ∧ zj_JF22 c c' := by
  obtain ⟨c0, f1, f2, f3⟩ := zj_clear22 c
  have key : ∀ (j i : Nat), i + j = n → ∀ x : zx_M, zj_JF22 c x → zj_JC22 x i (fun k => cnt * Int32.ofNat k) (zo_yd (c.1 2 3) way (c.1 21) g (fun k => cnt * Int32.ofNat k)) → ∀ N, j + 1 ≤ N → ∃ c', zx_lp N (fun s : Int32 × zx_M => b_C_lineUp_l9 cnt way s.1 s.2) (Int32.ofNat i, x) = some c' ∧ zj_JC22 c' n (fun k => cnt * Int32.ofNat k) (zo_yd (c.1 2 3) way (c.1 21) g (fun k => cnt * Int32.ofNat k)) ∧ zj_JF22 c c' := by
    intro j
    induction j with
    | zero =>
      intro i hi x F Q N hN
      obtain ⟨N1, rfl⟩ : ∃ N1, N = N1 + 1 := ⟨N - 1, by omega⟩
      have e : i = n := by omega
      subst e
      refine ⟨x, zj_lpE ?_, Q, F⟩
      show b_C_lineUp_l9 cnt way (Int32.ofNat i) x = _
      unfold b_C_lineUp_l9 f_Order_size
      rw [zm_bs, (zo_RcF R F).2.2.1, if_pos (Int32.le_refl _)]
    | succ j ih =>
      intro i hi x F Q N hN
      obtain ⟨N1, rfl⟩ : ∃ N1, N = N1 + 1 := ⟨N - 1, by omega⟩
      have Rx := zo_RcF R F
      have n7 := R.1
      obtain ⟨x2, h1, h2, h3⟩ := zo_send Rx Q (show i < 7 by omega) (show i < n by omega) (Int32.ofNat i * cnt) way
      have e2 : x.1 2 = c.1 2 := F.2.1 2 (by omega) (by omega) (by omega) (by omega)
      have e21 : x.1 21 = c.1 21 := F.2.1 21 (by omega) (by omega) (by omega) (by omega)
      have e3 : Int32.ofNat i * cnt = cnt * Int32.ofNat i := by grind
      rw [e2, e21, e3] at h2
      rw [e3] at h1
      have u1 : upd (fun k => cnt * Int32.ofNat k) i (cnt * Int32.ofNat i) = (fun k => cnt * Int32.ofNat k) := zo_updS (fun k => cnt * Int32.ofNat k) i
      have u2 : upd (zo_yd (c.1 2 3) way (c.1 21) g (fun k => cnt * Int32.ofNat k)) i (zo_ah (c.1 2 3) way (cnt * Int32.ofNat i) + c.1 21 (g i)) = zo_yd (c.1 2 3) way (c.1 21) g (fun k => cnt * Int32.ofNat k) := zo_updS (zo_yd (c.1 2 3) way (c.1 21) g (fun k => cnt * Int32.ofNat k)) i
      rw [u1, u2] at h2
      have g1 : ¬ Int32.ofNat n ≤ Int32.ofNat i := by grind [zm_g]
      have a1 : Int32.ofNat i + 1 = Int32.ofNat (i + 1) := by simp
      have hb : b_C_lineUp_l9 cnt way (Int32.ofNat i) x = some (.inl (Int32.ofNat (i + 1), x2)) := by
        unfold b_C_lineUp_l9 f_Order_size
        rw [zm_bs, Rx.2.2.1, if_neg g1, e3, h1, zm_bs, zm_let, a1]
      obtain ⟨c', y1, y2⟩ := ih (i + 1) (by omega) x2 (zj_JF22_trans F h3) h2 N1 (by omega)
      refine ⟨c', ?_, y2⟩
      rw [zj_lpS (show (fun s : Int32 × zx_M => b_C_lineUp_l9 cnt way s.1 s.2) (Int32.ofNat i, x) = _ from hb)]
      exact y1
  obtain ⟨c', y1, y2⟩ := key n 0 (by omega) c0 f2 (f3 _ _) zx_N (by have : zx_N = 100000 := rfl; have := R.1; omega)
  refine ⟨c', ?_, y2⟩
  have y1' : l_C_lineUp_l9 cnt way (0, c0) = some c' := y1
  unfold f_C_lineUp
  rw [f1, zm_bs, y1', zm_bs, zm_let]
/-- the reference's narrow frame -/
def zo_fr (m m' : zx_M) : Prop := m'.2 = m.2 ∧ (∀ r, ¬ r = 0 → ¬ r = 10 → m'.1 r = m.1 r) ∧ ∀ q, ¬ q = 23 → ¬ q = 24 → m'.1 0 q = m.1 0 q
theorem zo_fr_trans {a b c : zx_M} (h1 : zo_fr a b) (h2 : zo_fr b c) : zo_fr a c := ⟨h2.1.trans h1.1, fun r q1 q2 => (h2.2.1 r q1 q2).trans (h1.2.1 r q1 q2), fun k k1 k2 => (h2.2.2 k k1 k2).trans (h1.2.2 k k1 k2)⟩
theorem zo_frFM {m m' : zx_M} (h : zo_fr m m') : zm_FM m m' := ⟨h.1, fun r r0 h7 => h.2.1 r r0 (by omega), fun k hk => h.2.2 k (by omega) (by omega)⟩
/-- the reference has the order -/
def zo_Rm (m : zx_M) (n J : Nat) (g : Nat → Nat) : Prop := n ≤ 7 ∧ J ≤ 7 ∧ m.1 0 20 = Int32.ofNat n ∧ ∀ k < n, g k < J ∧ m.1 8 k = Int32.ofNat (g k)
theorem zo_RmF {m m' : zx_M} {n J : Nat} {g : Nat → Nat} (R : zo_Rm m n J g) (F : zo_fr m m') : zo_Rm m' n J g := by
  obtain ⟨r1, r2, r3, r4⟩ := R
  obtain ⟨-, f1, f2⟩ := F
  unfold zo_Rm
  rw [f1 8 (by omega) (by omega), f2 20 (by omega) (by omega)]
  exact ⟨r1, r2, r3, r4⟩
theorem zo_fills {m : zx_M} {n J : Nat} {g : Nat → Nat} (R : zo_Rm m n J g) (spot : Int32) : ∃ m', f_M_fills spot m = some m' ∧ zo_fr m m' ∧ m'.1 0 = m.1 0 ∧ ∀ k < n, m'.1 10 k = spot + zo_yd (m.1 1 31) (m.1 0 21) (m.1 11) g (m.1 9) k := by
  obtain ⟨r1, r2, r3, r4⟩ := R
  have i31 : zx_ix 36 31 = some 31 := zm_ix (k := 31) (by omega) (by omega)
  have key : ∃ m', l_M_fills_l2 spot (0, m) = some m' ∧ m'.2 = m.2 ∧ (∀ r, ¬ r = 10 → m'.1 r = m.1 r) ∧ ∀ k < n, m'.1 10 k = spot + zo_yd (m.1 1 31) (m.1 0 21) (m.1 11) g (m.1 9) k := by
    unfold l_M_fills_l2
    refine zm_lp1 (fun s : Int32 × zx_M => zm_up (Int32.ofNat n) s.1) (fun s => ∃ k, k ≤ n ∧ s.1 = Int32.ofNat k ∧ s.2.2 = m.2 ∧ (∀ r, ¬ r = 10 → s.2.1 r = m.1 r) ∧ ∀ i < k, s.2.1 10 i = spot + zo_yd (m.1 1 31) (m.1 0 21) (m.1 11) g (m.1 9) i) _ ?_ zx_N _ ⟨0, by omega, rfl, rfl, fun _ _ => rfl, fun i hi => absurd hi (by omega)⟩ (zm_upN (by decide : (-30000 : Int32) ≤ 0) (by grind [zm_g]))
    rintro ⟨i, x⟩ ⟨k, h1, h2, h3, h4, h5⟩
    dsimp only at h2 h3 h4 h5 ⊢
    subst h2
    have x0 := h4 0 (by omega)
    have x1 := h4 1 (by omega)
    have x8 := h4 8 (by omega)
    have x9 := h4 9 (by omega)
    have x11 := h4 11 (by omega)
    unfold b_M_fills_l2 n_M_fills_b2_44
    rw [x0, x1, x8, x9, x11, r3]
    by_cases q : k = n
    · right
      subst q
      simp only [if_pos (Int32.le_refl _)]
      exact ⟨_, rfl, h3, h4, h5⟩
    · left
      have g1 : ¬ Int32.ofNat n ≤ Int32.ofNat k := by grind [zm_g]
      obtain ⟨u1, u2⟩ := r4 k (by omega)
      have hv : ∀ w : Int32, w = spot + zo_yd (m.1 1 31) (m.1 0 21) (m.1 11) g (m.1 9) k → ∃ t, (some (Sum.inl (Int32.ofNat k + 1, zx_u1 x 10 k w)) : Option ((Int32 × zx_M) ⊕ zx_M)) = some (.inl t) ∧ (∃ k, k ≤ n ∧ t.1 = Int32.ofNat k ∧ t.2.2 = m.2 ∧ (∀ r, ¬ r = 10 → t.2.1 r = m.1 r) ∧ ∀ i < k, t.2.1 10 i = spot + zo_yd (m.1 1 31) (m.1 0 21) (m.1 11) g (m.1 9) i) ∧ zm_up (Int32.ofNat n) t.1 < zm_up (Int32.ofNat n) (Int32.ofNat k) := by
        intro w hw
        refine ⟨_, rfl, ⟨k + 1, by omega, by simp, h3, fun r r10 => ?_, fun j hj => ?_⟩, zm_up1 (by grind [zm_g])⟩
        · rw [zm_u11, if_neg r10]; exact h4 r r10
        · rw [zm_u11, if_pos rfl, zm_upd]
          by_cases f : j = k
          · rw [if_pos f, f]; exact hw
          · rw [if_neg f]; exact h5 j (by omega)
      by_cases w : m.1 0 21 = 0
      · have w' : ¬ ¬ m.1 0 21 = 0 := fun h => h w
        simp only [if_neg g1, i31, zm_ix (show k < 7 by omega) (by omega), zm_bs, zm_let, if_neg w', u2, zm_ix (show g k < 7 by omega) (by omega)]
        exact hv _ (by
          unfold zo_yd zo_ah
          rw [if_neg w']
          grind)
      · simp only [if_neg g1, i31, zm_ix (show k < 7 by omega) (by omega), zm_bs, zm_let, if_pos w, u2, zm_ix (show g k < 7 by omega) (by omega)]
        exact hv _ (by
          unfold zo_yd zo_ah
          rw [if_pos w]
          grind)
  obtain ⟨m', e1, e2, e3, e4⟩ := key
  refine ⟨m', ?_, ⟨e2, fun r _ r10 => e3 r r10, fun q _ _ => by rw [e3 0 (by omega)]⟩, e3 0 (by omega), e4⟩
  unfold f_M_fills
  rw [e1]
  rfl
theorem zo_goodFrom {m : zx_M} {n J : Nat} {g : Nat → Nat} (R : zo_Rm m n J g) (spot : Int32) : ∃ m', f_M_goodFrom spot m = some (Int32.ofNat (zj_good n (m.1 1 28) (m.1 1 29) (m.1 1 30) (m.1 9) (fun k => spot + zo_yd (m.1 1 31) (m.1 0 21) (m.1 11) g (m.1 9) k)), m') ∧ zo_fr m m' ∧ m'.1 0 = m.1 0 := by
  obtain ⟨m', e1, e2, e3, e4⟩ := zo_fills R spot
  refine ⟨m', ?_, e2, e3⟩
  unfold f_M_goodFrom
  rw [e1, zm_bs, zj_goodMany R.1 (by rw [e3]; exact R.2.2.1), zm_bs, e2.2.1 1 (by omega) (by omega)]
  congr 3
  refine zj_good_congr (fun o _ => ?_) e4
  rw [e2.2.1 9 (by omega) (by omega)]
/-- the spot from which most come down good -/
theorem zo_spot {c m : zx_M} {n J : Nat} {g : Nat → Nat} {se yd : Nat → Int32} (R : zo_Rm m n J g) (Q : zj_JC22 c n se yd) (h0 : c.1 2 0 = m.1 1 28) (h1 : c.1 2 1 = m.1 1 29) (h2 : c.1 2 2 = m.1 1 30) (hse : ∀ k < n, m.1 9 k = se k) (hyd : ∀ k < n, zo_yd (m.1 1 31) (m.1 0 21) (m.1 11) g (m.1 9) k = yd k) : ∃ best m', f_C_bestSpot c = some best ∧ f_M_findsSpot m = some m' ∧ zo_fr m m' ∧ m'.1 0 23 = best ∧ m'.1 0 24 = Int32.ofNat (zj_good n (m.1 1 28) (m.1 1 29) (m.1 1 30) se (fun k => best + yd k)) ∧ f_C_goodByBestSpot c = some (Int32.ofNat (zj_good n (m.1 1 28) (m.1 1 29) (m.1 1 30) se (fun k => best + yd k))) := by
  generalize hG : (fun v : Int32 => Int32.ofNat (zj_good n (m.1 1 28) (m.1 1 29) (m.1 1 30) se (fun k => v + yd k))) = G
  have hGv : ∀ v : Int32, Int32.ofNat (zj_good n (m.1 1 28) (m.1 1 29) (m.1 1 30) se (fun k => v + yd k)) = G v := fun v => by rw [← hG]
  have gC : ∀ v, f_Jumps_good_22 v c = some (G v) := fun v => by rw [zj_good22 Q, h0, h1, h2, hGv]
  have gM : ∀ (x : zx_M) (v : Int32), zo_fr m x → ∃ x', f_M_goodFrom v x = some (G v, x') ∧ zo_fr x x' ∧ x'.1 0 = x.1 0 := by
    intro x v F
    obtain ⟨x', e1, e2, e3⟩ := zo_goodFrom (zo_RmF R F) v
    refine ⟨x', ?_, e2, e3⟩
    rw [e1, F.2.1 1 (by omega) (by omega), F.2.1 9 (by omega) (by omega), F.2.1 11 (by omega) (by omega), F.2.2 21 (by omega) (by omega), ← hGv]
    congr 3
    exact zj_good_congr hse (fun o ho => by rw [hyd o ho])
  -- the first
  have frR : ∀ {x : zx_M} (q : Nat) (v : Int32), q = 23 ∨ q = 24 → zo_fr x (zx_u1 x 0 q v) := by
    intro x q v hq
    refine ⟨by rw [zm_u12], fun r r0 _ => by rw [zm_u11, if_neg r0], fun k k1 k2 => ?_⟩
    rw [zm_u11, if_pos rfl, zm_upd, if_neg (by omega)]
  obtain ⟨m4, e4, F4, z4⟩ := gM (zx_u1 m 0 23 0) 0 (frR 23 0 (Or.inl rfl))
  have F5 : zo_fr m (zx_u1 m4 0 24 (G 0)) := zo_fr_trans (zo_fr_trans (frR 23 0 (Or.inl rfl)) F4) (frR 24 _ (Or.inr rfl))
  -- both loops
  have hn := Q.2.1
  have loop : ∃ (t : Int32) (m' : zx_M), zx_lp zx_N (fun s : Int32 × Int32 × Int32 => b_C_bestSpot_l13 s.1 s.2.1 s.2.2 c) (0, G 0, 1) = some t ∧ zx_lp zx_N (fun s : Int32 × zx_M => b_M_findsSpot_l16 s.1 s.2) (1, zx_u1 m4 0 24 (G 0)) = some m' ∧ (zo_fr m m' ∧ m'.1 0 23 = t ∧ m'.1 0 24 = G t) := by
    refine zm_lp2 (fun s : Int32 × Int32 × Int32 => zm_up 1000 s.2.2) (fun (s : Int32 × Int32 × Int32) (s' : Int32 × zx_M) => s'.1 = s.2.2 ∧ 1 ≤ s.2.2 ∧ s.2.2 ≤ 1000 ∧ s.2.1 = G s.1 ∧ zo_fr m s'.2 ∧ s'.2.1 0 23 = s.1 ∧ s'.2.1 0 24 = G s.1) (fun t m' => zo_fr m m' ∧ m'.1 0 23 = t ∧ m'.1 0 24 = G t) ?_ zx_N _ _ ⟨rfl, (by decide : (1 : Int32) ≤ 1), (by decide : (1 : Int32) ≤ 1000), rfl, F5, ?_, ?_⟩ (zm_upN (by decide : (-30000 : Int32) ≤ 1) (by decide))
    · rintro ⟨b, mo, v⟩ ⟨v', x⟩ ⟨hv, hv1, hv2, hmo, F, x23, x24⟩
      dsimp only at hv hv1 hv2 hmo F x23 x24 ⊢
      subst hv
      subst hmo
      have x20 : x.1 0 20 = Int32.ofNat n := by rw [F.2.2 20 (by omega) (by omega)]; exact R.2.2.1
      unfold b_C_bestSpot_l13 b_M_findsSpot_l16 f_Jumps_size_22
      rw [hn, x20, x24]
      by_cases q1 : 999 < v'
      · right
        simp only [if_pos q1]
        exact ⟨_, _, rfl, rfl, F, x23, x24⟩
      by_cases q2 : Int32.ofNat n ≤ G b
      · right
        simp only [if_neg q1, zm_bs, if_pos q2]
        exact ⟨_, _, rfl, rfl, F, x23, x24⟩
      left
      -- below, above: the reference
      obtain ⟨xa, ea, Fa, za⟩ := gM x (-1 * v') F
      have hsA : ∀ (b1 g1 : Int32) (y : zx_M), True → True := fun _ _ _ _ => trivial
      have step : ∀ (w : Int32) (s : Int32) (y : zx_M) (b : Int32), s * v' = w → ¬ 2 ≤ s → zo_fr m y → y.1 0 23 = b → y.1 0 24 = G b → ∃ y', b_M_findsSpot_lb16_36 v' s y = some (.inl (s + 2, y')) ∧ zo_fr m y' ∧ y'.1 0 23 = (if G w ≤ G b then b else w) ∧ y'.1 0 24 = G (if G w ≤ G b then b else w) := by
        intro w s y b hw hs Fy y23 y24
        obtain ⟨ya, ea, Fa, za⟩ := gM y w Fy
        have a23 : ya.1 0 23 = b := by rw [za]; exact y23
        have a24 : ya.1 0 24 = G b := by rw [za]; exact y24
        have c23 : ∀ v, (zx_u1 ya 0 23 v).1 0 24 = G b := fun v => by rw [zm_u11, if_pos rfl, zm_upd, if_neg (by omega)]; exact a24
        unfold b_M_findsSpot_lb16_36 n_M_findsSpot_b16_b36_68 n_M_findsSpot_b16_b36_88
        rw [if_neg hs, hw, ea, zm_bs]
        by_cases p : G w ≤ G b
        · simp only [a24, if_pos p, a23, zm_let, c23]
          refine ⟨_, rfl, zo_fr_trans (zo_fr_trans (zo_fr_trans Fy Fa) (frR 23 _ (Or.inl rfl))) (frR 24 _ (Or.inr rfl)), ?_, ?_⟩
          · simp [zm_u11, zm_upd]
          · simp [zm_u11, zm_upd]
        · simp only [a24, if_neg p, zm_let, c23]
          refine ⟨_, rfl, zo_fr_trans (zo_fr_trans (zo_fr_trans Fy Fa) (frR 23 _ (Or.inl rfl))) (frR 24 _ (Or.inr rfl)), ?_, ?_⟩
          · simp [zm_u11, zm_upd]
          · simp [zm_u11, zm_upd]
      obtain ⟨y1, s1, G1, y1a, y1b⟩ := step (-v') (-1) x b (by grind) (by decide) F x23 x24
      obtain ⟨y2, s2, G2, y2a, y2b⟩ := step v' 1 y1 _ (by grind) (by decide) G1 y1a y1b
      have inner : l_M_findsSpot_lb16_36 v' (-1, x) = some y2 := by
        unfold l_M_findsSpot_lb16_36
        obtain ⟨N3, hN3⟩ : ∃ N3, zx_N = N3 + 1 + 1 + 1 := ⟨99997, by decide +kernel⟩
        rw [hN3, zj_lpS (show (fun s : Int32 × zx_M => b_M_findsSpot_lb16_36 v' s.1 s.2) (-1, x) = _ from s1), show (-1 : Int32) + 2 = 1 by decide, zj_lpS (show (fun s : Int32 × zx_M => b_M_findsSpot_lb16_36 v' s.1 s.2) (1, y1) = _ from s2), show (1 : Int32) + 2 = 3 by decide]
        refine zj_lpE ?_
        show b_M_findsSpot_lb16_36 v' 3 y2 = _
        unfold b_M_findsSpot_lb16_36
        rw [if_pos (by decide)]
      have hup := zm_up1 (e := 1000) (v := v') (by grind)
      have hv3 : 1 ≤ v' + 1 ∧ v' + 1 ≤ 1000 := by grind
      unfold n_C_bestSpot_b13_64 n_C_bestSpot_b13_77 n_C_bestSpot_b13_86
      simp only [if_neg q1, zm_bs, if_neg q2, gC, inner, zm_let]
      have mx : ∀ a b : Int32, zx_max a b = if a < b then b else a := fun _ _ => rfl
      by_cases p1 : G b < G (-v')
      · have p1' : ¬ G (-v') ≤ G b := Int32.not_le.mpr p1
        rw [if_neg p1'] at y2a y2b
        simp only [if_pos p1]
        by_cases p2 : G v' ≤ G (-v')
        · rw [if_pos p2] at y2a y2b
          have p2' : ¬ G (-v') < G v' := Int32.not_lt.mpr p2
          have e : zx_max (G v') (G (-v')) = G (-v') := by rw [mx]; grind
          simp only [if_pos p2, e]
          exact ⟨_, _, rfl, rfl, ⟨rfl, hv3.1, hv3.2, rfl, G2, y2a, y2b⟩, hup⟩
        · rw [if_neg p2] at y2a y2b
          have e : zx_max (G v') (G (-v')) = G v' := by rw [mx]; grind
          simp only [if_neg p2, e]
          exact ⟨_, _, rfl, rfl, ⟨rfl, hv3.1, hv3.2, rfl, G2, y2a, y2b⟩, hup⟩
      · have p1' : G (-v') ≤ G b := Int32.not_lt.mp p1
        rw [if_pos p1'] at y2a y2b
        simp only [if_neg p1]
        by_cases p2 : G v' ≤ G b
        · rw [if_pos p2] at y2a y2b
          simp only [if_pos p2]
          exact ⟨_, _, rfl, rfl, ⟨rfl, hv3.1, hv3.2, rfl, G2, y2a, y2b⟩, hup⟩
        · rw [if_neg p2] at y2a y2b
          have p3 : ¬ G v' ≤ G (-v') := by grind
          have e : zx_max (G v') (G (-v')) = G v' := by rw [mx]; grind
          simp only [if_neg p2, if_neg p3, e]
          exact ⟨_, _, rfl, rfl, ⟨rfl, hv3.1, hv3.2, rfl, G2, y2a, y2b⟩, hup⟩
    · show (zx_u1 m4 0 24 (G 0)).1 0 23 = 0
      rw [zm_u11, if_pos rfl, zm_upd, if_neg (by omega), z4, zm_u11, if_pos rfl, zm_upd, if_pos rfl]
    · show (zx_u1 m4 0 24 (G 0)).1 0 24 = G 0
      rw [zm_u11, if_pos rfl, zm_upd, if_pos rfl]
  obtain ⟨t, m', l1, l2, l3, l4, l5⟩ := loop
  have l1' : l_C_bestSpot_l13 c (0, G 0, 1) = some t := l1
  have l2' : l_M_findsSpot_l16 (1, zx_u1 m4 0 24 (G 0)) = some m' := l2
  have hb : f_C_bestSpot c = some t := by
    unfold f_C_bestSpot
    rw [gC, zm_bs, l1', zm_bs, zm_let]
  refine ⟨t, m', hb, ?_, l3, l4, ?_, ?_⟩
  · unfold f_M_findsSpot
    rw [zm_let, e4, zm_bs]
    show (zx_let _ _) = _
    rw [zm_let, l2', zm_bs, zm_let]
  · rw [l5, hGv]
  · unfold f_C_goodByBestSpot
    rw [hb, zm_bs, gC, zm_bs, hGv]
