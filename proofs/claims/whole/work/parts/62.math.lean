/-! pass -/
theorem zj_cnt_full {p : Nat → Bool} : ∀ {n : Nat}, zj_cnt n p = n ↔ ∀ k < n, p k = true := by
  intro n
  induction n with
  | zero => exact ⟨fun _ k hk => absurd hk (by omega), fun _ => rfl⟩
  | succ n ih =>
    show zj_cnt n p + (if p n then 1 else 0) = n + 1 ↔ _
    have h := zj_cnt_le p n
    constructor
    · intro e k hk
      by_cases q : p n = true
      · rw [if_pos q] at e
        by_cases f : k = n
        · rw [f]; exact q
        · exact ih.mp (by omega) k (by omega)
      · rw [if_neg q] at e; omega
    · intro e
      rw [if_pos (e n (by omega)), ih.mpr (fun k hk => e k (by omega))]
/-- no spot is better than the best -/
theorem zo_bestMax {c : zx_M} {n : Nat} {se yd : Nat → Int32} (Q : zj_JC22 c n se yd) {t : Int32} (h : f_C_bestSpot c = some t) : (-999 ≤ t ∧ t ≤ 999) ∧ ∀ u : Int32, -999 ≤ u → u ≤ 999 → zj_good n (c.1 2 0) (c.1 2 1) (c.1 2 2) se (fun k => u + yd k) ≤ zj_good n (c.1 2 0) (c.1 2 1) (c.1 2 2) se (fun k => t + yd k) := by
  have hn := Q.1
  have h4 := Q.2.1
  have gle : ∀ v : Int32, zj_good n (c.1 2 0) (c.1 2 1) (c.1 2 2) se (fun k => v + yd k) ≤ n := fun v => zj_cnt_le _ n
  have gC := fun v => zj_good22 Q v
  have key : ∃ t, l_C_bestSpot_l13 c (0, Int32.ofNat (zj_good n (c.1 2 0) (c.1 2 1) (c.1 2 2) se (fun k => 0 + yd k)), 1) = some t ∧ ((-999 ≤ t ∧ t ≤ 999) ∧ ∀ u : Int32, -999 ≤ u → u ≤ 999 → zj_good n (c.1 2 0) (c.1 2 1) (c.1 2 2) se (fun k => u + yd k) ≤ zj_good n (c.1 2 0) (c.1 2 1) (c.1 2 2) se (fun k => t + yd k)) := by
    generalize hG : (fun v : Int32 => zj_good n (c.1 2 0) (c.1 2 1) (c.1 2 2) se (fun k => v + yd k)) = G
    have hGv : ∀ v : Int32, zj_good n (c.1 2 0) (c.1 2 1) (c.1 2 2) se (fun k => v + yd k) = G v := fun v => by rw [← hG]
    have gle' : ∀ v, G v ≤ n := fun v => by rw [← hGv]; exact gle v
    have gC' : ∀ v, f_Jumps_good_22 v c = some (Int32.ofNat (G v)) := fun v => by rw [gC, hGv]
    simp only [hGv]
    have lt32 : ∀ a b : Nat, a ≤ 7 → b ≤ 7 → (Int32.ofNat a < Int32.ofNat b ↔ a < b) := fun a b ha hb => by grind [zm_g]
    have le32 : ∀ a b : Nat, a ≤ 7 → b ≤ 7 → (Int32.ofNat a ≤ Int32.ofNat b ↔ a ≤ b) := fun a b ha hb => by grind [zm_g]
    have g7 : ∀ v, G v ≤ 7 := fun v => Nat.le_trans (gle' v) hn
    unfold l_C_bestSpot_l13
    refine zm_lp1 (fun s : Int32 × Int32 × Int32 => zm_up 1000 s.2.2) (fun s => 1 ≤ s.2.2 ∧ s.2.2 ≤ 1000 ∧ s.2.1 = Int32.ofNat (G s.1) ∧ (-999 ≤ s.1 ∧ s.1 ≤ 999) ∧ ∀ u : Int32, -s.2.2 < u → u < s.2.2 → G u ≤ G s.1) _ ?_ zx_N _ ⟨(by decide : (1 : Int32) ≤ 1), (by decide : (1 : Int32) ≤ 1000), rfl, ⟨(by decide : (-999 : Int32) ≤ 0), (by decide : (0 : Int32) ≤ 999)⟩, fun u (h1 : -1 < u) (h2 : u < 1) => by
      have : u = 0 := by grind
      rw [this]
      exact Nat.le_refl _⟩ (zm_upN (by decide : (-30000 : Int32) ≤ 1) (by decide))
    rintro ⟨b, mo, v⟩ ⟨i1, i2, i3, i4, i5⟩
    dsimp only at i1 i2 i3 i4 i5 ⊢
    subst i3
    unfold b_C_bestSpot_l13 f_Jumps_size_22
    rw [h4]
    by_cases q1 : 999 < v
    · right
      simp only [if_pos q1]
      exact ⟨_, rfl, i4, fun u u1 u2 => i5 u (by grind) (by grind)⟩
    by_cases q2 : Int32.ofNat n ≤ Int32.ofNat (G b)
    · right
      simp only [if_neg q1, zm_bs, if_pos q2]
      refine ⟨_, rfl, i4, fun u u1 u2 => ?_⟩
      have := (le32 n (G b) hn (g7 b)).mp q2
      have := gle' u
      omega
    left
    have hup := zm_up1 (e := 1000) (v := v) (by grind)
    have hv3 : 1 ≤ v + 1 ∧ v + 1 ≤ 1000 := by grind
    have mx : ∀ a b : Nat, a ≤ 7 → b ≤ 7 → zx_max (Int32.ofNat a) (Int32.ofNat b) = Int32.ofNat (max a b) := by
      intro a b ha hb
      unfold zx_max
      by_cases e : a < b
      · rw [if_pos ((lt32 a b ha hb).mpr e), Nat.max_eq_right (by omega)]
      · rw [if_neg (fun h => e ((lt32 a b ha hb).mp h)), Nat.max_eq_left (by omega)]
    have span : ∀ b' : Int32, G b ≤ G b' → G v ≤ G b' → G (-v) ≤ G b' → ∀ u : Int32, -(v + 1) < u → u < v + 1 → G u ≤ G b' := by
      intro b' x1 x2 x3 u u1 u2
      by_cases e1 : u = v
      · rw [e1]; exact x2
      · by_cases e2 : u = -v
        · rw [e2]; exact x3
        · exact Nat.le_trans (i5 u (by grind) (by grind)) x1
    unfold n_C_bestSpot_b13_64 n_C_bestSpot_b13_77 n_C_bestSpot_b13_86
    simp only [if_neg q1, zm_bs, if_neg q2, gC', zm_let, mx _ _ (g7 v) (g7 (-v)), lt32 _ _ (g7 b) (g7 (-v)), le32 _ _ (g7 v) (g7 (-v)), le32 _ _ (g7 v) (g7 b)]
    have vr : -999 ≤ v ∧ v ≤ 999 := by grind
    have nr : -999 ≤ -v ∧ -v ≤ 999 := by grind
    by_cases p1 : G b < G (-v)
    · simp only [if_pos p1]
      by_cases p2 : G v ≤ G (-v)
      · simp only [if_pos p2, Nat.max_eq_right p2]
        exact ⟨_, rfl, ⟨hv3.1, hv3.2, rfl, nr, span (-v) (by omega) p2 (Nat.le_refl _)⟩, hup⟩
      · simp only [if_neg p2, Nat.max_eq_left (show G (-v) ≤ G v by omega)]
        exact ⟨_, rfl, ⟨hv3.1, hv3.2, rfl, vr, span v (by omega) (Nat.le_refl _) (by omega)⟩, hup⟩
    · simp only [if_neg p1]
      by_cases p2 : G v ≤ G b
      · simp only [if_pos p2]
        exact ⟨_, rfl, ⟨hv3.1, hv3.2, rfl, i4, span b (Nat.le_refl _) p2 (by omega)⟩, hup⟩
      · have p3 : ¬ G v ≤ G (-v) := by omega
        simp only [if_neg p2, if_neg p3, Nat.max_eq_left (show G (-v) ≤ G v by omega)]
        exact ⟨_, rfl, ⟨hv3.1, hv3.2, rfl, vr, span v (by omega) (Nat.le_refl _) (by omega)⟩, hup⟩
  obtain ⟨t', e1, e2⟩ := key
  unfold f_C_bestSpot at h
  rw [gC, zm_bs, e1, zm_bs, zm_let] at h
  rw [← Option.some.inj h]
  exact e2
/-- the reference's best, alone -/
theorem zp_find {m : zx_M} {n J : Nat} {g : Nat → Nat} (R : zo_Rm m n J g) : ∃ m' w, f_M_findsSpot m = some m' ∧ zo_fr m m' ∧ m'.1 0 24 = Int32.ofNat w ∧ w ≤ n ∧ (∃ t : Int32, -999 ≤ t ∧ t ≤ 999 ∧ zj_good n (m.1 1 28) (m.1 1 29) (m.1 1 30) (m.1 9) (fun k => t + zo_yd (m.1 1 31) (m.1 0 21) (m.1 11) g (m.1 9) k) = w) ∧ ∀ u : Int32, -999 ≤ u → u ≤ 999 → zj_good n (m.1 1 28) (m.1 1 29) (m.1 1 30) (m.1 9) (fun k => u + zo_yd (m.1 1 31) (m.1 0 21) (m.1 11) g (m.1 9) k) ≤ w := by
  have Q : zj_JC22 ((fun r k => if r = 22 then Int32.ofNat n else if r = 23 then m.1 9 k else if r = 24 then zo_yd (m.1 1 31) (m.1 0 21) (m.1 11) g (m.1 9) k else if r = 25 then (if zj_mB n (m.1 9) (zo_yd (m.1 1 31) (m.1 0 21) (m.1 11) g (m.1 9)) k then 1 else 0) else m.1 1 (28 + k), fun _ _ => 0) : zx_M) n (m.1 9) (zo_yd (m.1 1 31) (m.1 0 21) (m.1 11) g (m.1 9)) := ⟨R.1, rfl, fun k hk => ⟨rfl, rfl, rfl⟩⟩
  generalize hc : ((fun r k => if r = 22 then Int32.ofNat n else if r = 23 then m.1 9 k else if r = 24 then zo_yd (m.1 1 31) (m.1 0 21) (m.1 11) g (m.1 9) k else if r = 25 then (if zj_mB n (m.1 9) (zo_yd (m.1 1 31) (m.1 0 21) (m.1 11) g (m.1 9)) k then 1 else 0) else m.1 1 (28 + k), fun _ _ => 0) : zx_M) = c at Q
  have c0 : c.1 2 0 = m.1 1 28 := by rw [← hc]; rfl
  have c1 : c.1 2 1 = m.1 1 29 := by rw [← hc]; rfl
  have c2 : c.1 2 2 = m.1 1 30 := by rw [← hc]; rfl
  obtain ⟨best, m', e1, e2, e3, e4, e5, e6⟩ := zo_spot R Q c0 c1 c2 (fun _ _ => rfl) (fun _ _ => rfl)
  obtain ⟨b1, b2⟩ := zo_bestMax Q e1
  rw [c0, c1, c2] at b2
  exact ⟨m', _, e2, e3, e5, zj_cnt_le _ n, ⟨best, b1.1, b1.2, rfl⟩, b2⟩
/-- so many, from one on, can go in one pass -/
def zp_A (fr to wi sp wy : Int32) (cr : Nat → Int32) (g : Nat → Nat) (cnt : Int32) (f q : Nat) : Prop := ∃ t : Int32, -999 ≤ t ∧ t ≤ 999 ∧ zj_good q fr to wi (fun k => cnt * Int32.ofNat k) (fun k => t + zo_yd sp wy cr (fun k => g (f + k)) (fun k => cnt * Int32.ofNat k) k) = q
theorem zp_anti {fr to wi sp wy : Int32} {cr : Nat → Int32} {g : Nat → Nat} {cnt : Int32} {f q : Nat} (h : zp_A fr to wi sp wy cr g cnt f (q + 1)) : zp_A fr to wi sp wy cr g cnt f q := by
  obtain ⟨t, t1, t2, t3⟩ := h
  refine ⟨t, t1, t2, ?_⟩
  unfold zj_good at t3 ⊢
  rw [zj_cnt_full] at t3 ⊢
  intro k hk
  have hk2 := t3 k (by omega)
  simp only [Bool.and_eq_true, Bool.not_eq_true'] at hk2 ⊢
  refine ⟨hk2.1, ?_⟩
  cases h : zj_mB q (fun k => cnt * Int32.ofNat k) (fun k => t + zo_yd sp wy cr (fun k => g (f + k)) (fun k => cnt * Int32.ofNat k) k) k
  · rfl
  · exfalso
    obtain ⟨o, o1, o2⟩ := zj_any_iff.mp h
    have h2 : zj_mB (q + 1) (fun k => cnt * Int32.ofNat k) (fun k => t + zo_yd sp wy cr (fun k => g (f + k)) (fun k => cnt * Int32.ofNat k) k) k = true := zj_any_iff.mpr ⟨o, by omega, o2⟩
    rw [hk2.2] at h2
    exact absurd h2 (by decide)
theorem zp_anti2 {fr to wi sp wy : Int32} {cr : Nat → Int32} {g : Nat → Nat} {cnt : Int32} {f : Nat} : ∀ (j q : Nat), zp_A fr to wi sp wy cr g cnt f (q + j) → zp_A fr to wi sp wy cr g cnt f q := by
  intro j
  induction j with
  | zero => intro q h; exact h
  | succ j ih => intro q h; exact ih q (zp_anti h)
/-- the class: how many go in one pass -/
theorem zp_C {c : zx_M} {n J : Nat} {g : Nat → Nat} (R : zo_Rc c n J g) {f : Nat} (hf : f ≤ n) (cnt : Int32) {way : Int32} (hw : ∀ x, zj_JF22 c x → f_C_way x = some way) : ∃ r c', f_C_inOnePass (Int32.ofNat f) cnt c = some (Int32.ofNat r, c') ∧ zj_JF22 c c' ∧ f + r ≤ n ∧ (1 ≤ r → zp_A (c.1 2 0) (c.1 2 1) (c.1 2 2) (c.1 2 3) way (c.1 21) g cnt f r) ∧ (f + r < n → ¬ zp_A (c.1 2 0) (c.1 2 1) (c.1 2 2) (c.1 2 3) way (c.1 21) g cnt f (r + 1)) := by
  obtain ⟨c0, k1, k2, k3⟩ := zj_clear22 c
  have n7 := R.1
  have key : ∀ (j i : Nat), f + i + j = n → ∀ x : zx_M, zj_JF22 c x → zj_JC22 x i (fun k => cnt * Int32.ofNat k) (zo_yd (c.1 2 3) way (c.1 21) (fun k => g (f + k)) (fun k => cnt * Int32.ofNat k)) → (1 ≤ i → zp_A (c.1 2 0) (c.1 2 1) (c.1 2 2) (c.1 2 3) way (c.1 21) g cnt f i) → ∀ N, j + 1 ≤ N → ∃ r c' t, zx_lp N (fun s : Int32 × zx_M => b_C_inOnePass_l9 (Int32.ofNat f) cnt s.1 s.2) (Int32.ofNat (f + i), x) = some t ∧ ((t = .inl c' ∧ f + r = n) ∨ t = .inr (Int32.ofNat r, c')) ∧ zj_JF22 c c' ∧ f + r ≤ n ∧ (1 ≤ r → zp_A (c.1 2 0) (c.1 2 1) (c.1 2 2) (c.1 2 3) way (c.1 21) g cnt f r) ∧ (f + r < n → ¬ zp_A (c.1 2 0) (c.1 2 1) (c.1 2 2) (c.1 2 3) way (c.1 21) g cnt f (r + 1)) := by
    intro j
    induction j with
    | zero =>
      intro i hi x F Q hA N hN
      obtain ⟨N1, rfl⟩ : ∃ N1, N = N1 + 1 := ⟨N - 1, by omega⟩
      refine ⟨i, x, .inl x, zj_lpE ?_, Or.inl ⟨rfl, by omega⟩, F, by omega, hA, fun h => by omega⟩
      show b_C_inOnePass_l9 (Int32.ofNat f) cnt (Int32.ofNat (f + i)) x = _
      unfold b_C_inOnePass_l9 f_Order_size
      have : f + i = n := by omega
      rw [zm_bs, (zo_RcF R F).2.2.1, this, if_pos (Int32.le_refl _)]
    | succ j ih =>
      intro i hi x F Q hA N hN
      obtain ⟨N1, rfl⟩ : ∃ N1, N = N1 + 1 := ⟨N - 1, by omega⟩
      have Rx := zo_RcF R F
      have e0 : Int32.ofNat (f + i) - Int32.ofNat f = Int32.ofNat i := by
        have := zm_g (k := f + i) (by omega)
        have := zm_g (k := f) (by omega)
        have := zm_g (k := i) (by omega)
        grind
      have e3 : Int32.ofNat i * cnt = cnt * Int32.ofNat i := by grind
      obtain ⟨x2, h1, h2, h3⟩ := zo_send Rx Q (show i < 7 by omega) (show f + i < n by omega) (cnt * Int32.ofNat i) way
      have e2 : x.1 2 = c.1 2 := F.2.1 2 (by omega) (by omega) (by omega) (by omega)
      have e21 : x.1 21 = c.1 21 := F.2.1 21 (by omega) (by omega) (by omega) (by omega)
      rw [e2, e21] at h2
      have u1 : upd (fun k => cnt * Int32.ofNat k) i (cnt * Int32.ofNat i) = (fun k => cnt * Int32.ofNat k) := zo_updS (fun k => cnt * Int32.ofNat k) i
      have u2 : upd (zo_yd (c.1 2 3) way (c.1 21) (fun k => g (f + k)) (fun k => cnt * Int32.ofNat k)) i (zo_ah (c.1 2 3) way (cnt * Int32.ofNat i) + c.1 21 (g (f + i))) = zo_yd (c.1 2 3) way (c.1 21) (fun k => g (f + k)) (fun k => cnt * Int32.ofNat k) := zo_updS (zo_yd (c.1 2 3) way (c.1 21) (fun k => g (f + k)) (fun k => cnt * Int32.ofNat k)) i
      rw [u1, u2] at h2
      have g1 : ¬ Int32.ofNat n ≤ Int32.ofNat (f + i) := by
        have := zm_g (k := f + i) (by omega)
        have := zm_g (k := n) (by omega)
        grind
      have a1 : Int32.ofNat (f + i) + 1 = Int32.ofNat (f + (i + 1)) := by rw [show f + (i + 1) = f + i + 1 by omega]; simp
      have F2 := zj_JF22_trans F h3
      have x2n : ∀ q, x2.1 2 q = c.1 2 q := fun q => by rw [F2.2.1 2 (by omega) (by omega) (by omega) (by omega)]
      have hb : b_C_inOnePass_l9 (Int32.ofNat f) cnt (Int32.ofNat (f + i)) x = ((f_Jumps_meeting_22 x2).bind fun r11 => if 0 < r11 then some (.inr (.inr (Int32.ofNat i, x2))) else (f_C_goodByBestSpot x2).bind fun r14 => (f_Jumps_size_22 x2).bind fun r16 => if r16 ≤ r14 then some (.inl (Int32.ofNat (f + (i + 1)), x2)) else some (.inr (.inr (Int32.ofNat i, x2)))) := by
        unfold b_C_inOnePass_l9 f_Order_size
        simp only [zm_bs, Rx.2.2.1, if_neg g1, hw x F, e0, e3, h1, zm_let, a1]
      have mt := zj_meeting22 h2
      -- the best of these
      obtain ⟨best, hbest⟩ : ∃ best, f_C_bestSpot x2 = some best ∧ f_C_goodByBestSpot x2 = some (Int32.ofNat (zj_good (i + 1) (c.1 2 0) (c.1 2 1) (c.1 2 2) (fun k => cnt * Int32.ofNat k) (fun k => best + zo_yd (c.1 2 3) way (c.1 21) (fun k => g (f + k)) (fun k => cnt * Int32.ofNat k) k))) := by
        obtain ⟨mm, hmm⟩ : ∃ mm : zx_M, mm = ((fun r k => if r = 0 then (if k = 20 then Int32.ofNat (i + 1) else way) else if r = 1 then (if k = 28 then c.1 2 0 else if k = 29 then c.1 2 1 else if k = 30 then c.1 2 2 else c.1 2 3) else if r = 8 then Int32.ofNat (g (f + k)) else if r = 9 then cnt * Int32.ofNat k else c.1 21 k, fun _ _ => 0) : zx_M) := ⟨_, rfl⟩
        have Rm : zo_Rm mm (i + 1) J (fun k => g (f + k)) := ⟨by omega, R.2.1, by rw [hmm]; rfl, fun k hk => ⟨(R.2.2.2 (f + k) (by omega)).1, by rw [hmm]; rfl⟩⟩
        obtain ⟨best, m', b1, b2, b3, b4, b5, b6⟩ := zo_spot Rm h2 (by rw [x2n, hmm]; rfl) (by rw [x2n, hmm]; rfl) (by rw [x2n, hmm]; rfl) (fun k hk => by rw [hmm]; rfl) (fun k hk => by rw [hmm]; rfl)
        refine ⟨best, b1, ?_⟩
        rw [b6, hmm]
        rfl
      obtain ⟨hb1, hb2⟩ := hbest
      obtain ⟨bm1, bm2⟩ := zo_bestMax h2 hb1
      rw [x2n, x2n, x2n] at bm2
      have sz : f_Jumps_size_22 x2 = some (Int32.ofNat (i + 1)) := by unfold f_Jumps_size_22; rw [h2.2.1]
      have ml : zj_meetn (i + 1) (fun k => cnt * Int32.ofNat k) (zo_yd (c.1 2 3) way (c.1 21) (fun k => g (f + k)) (fun k => cnt * Int32.ofNat k)) ≤ i + 1 := zj_cnt_le _ _
      have gl : zj_good (i + 1) (c.1 2 0) (c.1 2 1) (c.1 2 2) (fun k => cnt * Int32.ofNat k) (fun k => best + zo_yd (c.1 2 3) way (c.1 21) (fun k => g (f + k)) (fun k => cnt * Int32.ofNat k) k) ≤ i + 1 := zj_cnt_le _ _
      rw [mt, zm_bs, hb2] at hb
      by_cases w : zj_good (i + 1) (c.1 2 0) (c.1 2 1) (c.1 2 2) (fun k => cnt * Int32.ofNat k) (fun k => best + zo_yd (c.1 2 3) way (c.1 21) (fun k => g (f + k)) (fun k => cnt * Int32.ofNat k) k) = i + 1
      · -- all are good: no one meets
        have hA1 : zp_A (c.1 2 0) (c.1 2 1) (c.1 2 2) (c.1 2 3) way (c.1 21) g cnt f (i + 1) := ⟨best, bm1.1, bm1.2, w⟩
        have m0 : ¬ 0 < Int32.ofNat (zj_meetn (i + 1) (fun k => cnt * Int32.ofNat k) (zo_yd (c.1 2 3) way (c.1 21) (fun k => g (f + k)) (fun k => cnt * Int32.ofNat k))) := by
          have z : zj_meetn (i + 1) (fun k => cnt * Int32.ofNat k) (zo_yd (c.1 2 3) way (c.1 21) (fun k => g (f + k)) (fun k => cnt * Int32.ofNat k)) = zj_cnt (i + 1) (fun _ => false) := by
            refine zj_cnt_congr (fun k hk => ?_)
            have := zj_cnt_full.mp w k hk
            simp only [Bool.and_eq_true, Bool.not_eq_true'] at this
            rw [zj_mB_congr (dw' := fun k => best + zo_yd (c.1 2 3) way (c.1 21) (fun k => g (f + k)) (fun k => cnt * Int32.ofNat k) k) hk (fun _ _ => rfl) (fun o ho => by grind)]
            exact this.2
          have z2 : ∀ n, zj_cnt n (fun _ => false) = 0 := by
            intro n
            induction n with
            | zero => rfl
            | succ n ih =>
              show zj_cnt n (fun _ => false) + (if false then 1 else 0) = 0
              rw [ih]
              rfl
          rw [z, z2]
          decide
        rw [if_neg m0, zm_bs, sz, zm_bs, w, if_pos (Int32.le_refl _)] at hb
        obtain ⟨r, c', t, y1, y2⟩ := ih (i + 1) (by omega) x2 F2 h2 (fun _ => hA1) N1 (by omega)
        refine ⟨r, c', t, ?_, y2⟩
        rw [zj_lpS (show (fun s : Int32 × zx_M => b_C_inOnePass_l9 (Int32.ofNat f) cnt s.1 s.2) (Int32.ofNat (f + i), x) = _ from hb)]
        exact y1
      · have nA : ¬ zp_A (c.1 2 0) (c.1 2 1) (c.1 2 2) (c.1 2 3) way (c.1 21) g cnt f (i + 1) := by
          rintro ⟨t, t1, t2, t3⟩
          have := bm2 t t1 t2
          rw [t3] at this
          omega
        have hb' : b_C_inOnePass_l9 (Int32.ofNat f) cnt (Int32.ofNat (f + i)) x = some (.inr (.inr (Int32.ofNat i, x2))) := by
          rw [hb]
          by_cases m0 : 0 < Int32.ofNat (zj_meetn (i + 1) (fun k => cnt * Int32.ofNat k) (zo_yd (c.1 2 3) way (c.1 21) (fun k => g (f + k)) (fun k => cnt * Int32.ofNat k)))
          · rw [if_pos m0]
          · have g2 : ¬ Int32.ofNat (i + 1) ≤ Int32.ofNat (zj_good (i + 1) (c.1 2 0) (c.1 2 1) (c.1 2 2) (fun k => cnt * Int32.ofNat k) (fun k => best + zo_yd (c.1 2 3) way (c.1 21) (fun k => g (f + k)) (fun k => cnt * Int32.ofNat k) k)) := by
              have q1 := zm_g (k := i + 1) (by omega)
              have q2 := zm_g (k := zj_good (i + 1) (c.1 2 0) (c.1 2 1) (c.1 2 2) (fun k => cnt * Int32.ofNat k) (fun k => best + zo_yd (c.1 2 3) way (c.1 21) (fun k => g (f + k)) (fun k => cnt * Int32.ofNat k) k)) (by omega)
              grind
            rw [if_neg m0, zm_bs, sz, zm_bs, if_neg g2]
        exact ⟨i, x2, .inr (Int32.ofNat i, x2), zj_lpE (show (fun s : Int32 × zx_M => b_C_inOnePass_l9 (Int32.ofNat f) cnt s.1 s.2) (Int32.ofNat (f + i), x) = _ from hb'), Or.inr rfl, F2, by omega, hA, fun _ => nA⟩
  obtain ⟨r, c', t, y1, y2, y3, y4, y5, y6⟩ := key (n - f) 0 (by omega) c0 k2 (k3 _ _) (fun h => absurd h (by omega)) zx_N (by have : zx_N = 100000 := rfl; omega)
  have y1' : l_C_inOnePass_l9 (Int32.ofNat f) cnt (Int32.ofNat f, c0) = some t := y1
  refine ⟨r, c', ?_, y3, y4, y5, y6⟩
  unfold f_C_inOnePass
  rw [k1, zm_bs, y1', zm_bs]
  rcases y2 with ⟨rfl, e⟩ | rfl
  · have : Int32.ofNat n - Int32.ofNat f = Int32.ofNat r := by
      have := zm_g (k := n) (by omega)
      have := zm_g (k := f) (by omega)
      have := zm_g (k := r) (by omega)
      grind
    unfold f_Order_size
    simp only [zm_bs, (zo_RcF R y3).2.2.1, this]
  · rfl
