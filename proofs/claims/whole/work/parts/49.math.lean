/-! those who went out: cell 28 -/
def zj_JC28 (c : zx_M) (n : Nat) (se yd : Nat → Int32) : Prop := n ≤ 7 ∧ c.1 28 4 = Int32.ofNat n ∧ ∀ k < n, c.1 29 k = se k ∧ c.1 30 k = yd k ∧ c.1 31 k = if zj_mB n se yd k then 1 else 0
def zj_JF28 (c c' : zx_M) : Prop := c'.2 = c.2 ∧ (∀ r, ¬ r = 28 → ¬ r = 29 → ¬ r = 30 → ¬ r = 31 → c'.1 r = c.1 r) ∧ (∀ k, ¬ k = 4 → c'.1 28 k = c.1 28 k) ∧ ∀ k, c'.1 31 k = c.1 31 k ∨ c'.1 31 k = 0 ∨ c'.1 31 k = 1
theorem zj_JF28_refl (c : zx_M) : zj_JF28 c c := ⟨rfl, fun _ _ _ _ _ => rfl, fun _ _ => rfl, fun _ => Or.inl rfl⟩
theorem zj_JF28_trans {a b c : zx_M} (h1 : zj_JF28 a b) (h2 : zj_JF28 b c) : zj_JF28 a c := by
  obtain ⟨p1, p2, p3, p4⟩ := h1
  obtain ⟨q1, q2, q3, q4⟩ := h2
  refine ⟨q1.trans p1, fun r h1 h2 h3 h4 => (q2 r h1 h2 h3 h4).trans (p2 r h1 h2 h3 h4), fun k hk => (q3 k hk).trans (p3 k hk), fun k => ?_⟩
  rcases q4 k with h | h
  · rw [h]; exact p4 k
  · exact Or.inr h
theorem zj_clear28 (c : zx_M) : ∃ c', f_Jumps_clear_28 c = some c' ∧ zj_JF28 c c' ∧ ∀ se yd, zj_JC28 c' 0 se yd := by
  refine ⟨_, rfl, ⟨rfl, fun r h _ _ _ => ?_, fun k hk => ?_, fun k => Or.inl ?_⟩, fun se yd => ⟨by omega, ?_, fun k hk => absurd hk (by omega)⟩⟩
  · rw [zm_u11, if_neg h]
  · rw [zm_u11, if_pos rfl, zm_upd, if_neg hk]
  · rw [zm_u11, if_neg (by omega)]
  · rw [zm_u11, if_pos rfl, zm_upd, if_pos rfl]; rfl
theorem zj_join28 {c : zx_M} {n : Nat} {se yd : Nat → Int32} (J : zj_JC28 c n se yd) (hn : n < 7) (v1 v2 : Int32) : ∃ c', f_Jumps_join_28 v1 v2 c = some c' ∧ zj_JC28 c' (n + 1) (upd se n v1) (upd yd n v2) ∧ zj_JF28 c c' := by
  obtain ⟨-, j1, j2⟩ := J
  have g0 : ¬ Int32.ofNat n < 0 := zm_nn (by omega)
  have g7 : Int32.ofNat n < 7 := by grind [zm_g]
  unfold f_Jumps_join_28
  have k1 : ∀ (q k : Nat) (v : Int32) (x : zx_M), ¬ q = 28 → (zx_u1 x q k v).1 28 = x.1 28 := fun q k v x h => by rw [zm_u11, if_neg (fun e => h e.symm)]
  simp only [j1, if_neg g0, if_pos g7, zm_ix hn (by omega), zm_bs, zm_let, k1 29 _ _ _ (by omega), k1 30 _ _ _ (by omega), k1 31 _ _ _ (by omega)]
  generalize hm8 : zx_u1 (zx_u1 (zx_u1 c 29 n v1) 30 n v2) 31 n 0 = m8
  have r2 : m8.2 = c.2 := by rw [← hm8]; simp only [zm_u12]
  have rr : ∀ r, ¬ r = 29 → ¬ r = 30 → ¬ r = 31 → m8.1 r = c.1 r := by
    intro r h1 h2 h3
    rw [← hm8, zm_u11, if_neg h3, zm_u11, if_neg h2, zm_u11, if_neg h1]
  have rS : ∀ k, m8.1 29 k = if k = n then v1 else c.1 29 k := by
    intro k
    rw [← hm8]
    simp [zm_u11, zm_upd]
  have rY : ∀ k, m8.1 30 k = if k = n then v2 else c.1 30 k := by
    intro k
    rw [← hm8]
    simp [zm_u11, zm_upd]
  have rE : ∀ k, m8.1 31 k = if k = n then 0 else c.1 31 k := by
    intro k
    rw [← hm8]
    simp [zm_u11, zm_upd]
  have rT : m8.1 28 4 = Int32.ofNat n := by rw [rr 28 (by omega) (by omega) (by omega)]; exact j1
  have seN : ∀ o, o < n → upd se n v1 o = se o := fun o ho => by rw [zm_upd, if_neg (by omega)]
  have ydN : ∀ o, o < n → upd yd n v2 o = yd o := fun o ho => by rw [zm_upd, if_neg (by omega)]
  have sen : upd se n v1 n = v1 := by rw [zm_upd, if_pos rfl]
  have ydn : upd yd n v2 n = v2 := by rw [zm_upd, if_pos rfl]
  have near : ∀ o, o < n → zj_near (upd se n v1) (upd yd n v2) o n = (decide (zx_abs (yd o - v2) ≤ 10) && decide (zx_abs (se o - v1) ≤ 4)) := by
    intro o ho
    unfold zj_near
    rw [seN o ho, ydN o ho, sen, ydn]
  obtain ⟨m9, e9, f1, f2, f3, f4⟩ : ∃ m9, l_Jumps_join_28_l49 v1 v2 (0, m8) = some m9 ∧ m9.2 = m8.2 ∧ (∀ r, ¬ r = 31 → m9.1 r = m8.1 r) ∧ (∀ k, k < n → m9.1 31 k = if zj_near (upd se n v1) (upd yd n v2) k n then 1 else m8.1 31 k) ∧ (∀ k, n ≤ k → m9.1 31 k = if k = n ∧ zj_any n (fun o => zj_near (upd se n v1) (upd yd n v2) o n) = true then 1 else m8.1 31 k) := by
    unfold l_Jumps_join_28_l49
    refine zm_lp1 (fun s : Int32 × zx_M => zm_up (Int32.ofNat n) s.1) (fun s => ∃ i, i ≤ n ∧ s.1 = Int32.ofNat i ∧ s.2.2 = m8.2 ∧ (∀ r, ¬ r = 31 → s.2.1 r = m8.1 r) ∧ (∀ k, k < n → s.2.1 31 k = if k < i ∧ zj_near (upd se n v1) (upd yd n v2) k n = true then 1 else m8.1 31 k) ∧ (∀ k, n ≤ k → s.2.1 31 k = if k = n ∧ zj_any i (fun o => zj_near (upd se n v1) (upd yd n v2) o n) = true then 1 else m8.1 31 k)) _ ?_ zx_N _ ⟨0, by omega, rfl, rfl, fun _ _ => rfl, fun k _ => by rw [if_neg (fun h => absurd h.1 (by omega))], fun k _ => by rw [if_neg (fun h => absurd (show false = true from h.2) (by decide))]⟩ (zm_upN (by decide : (-30000 : Int32) ≤ 0) (by grind [zm_g]))
    rintro ⟨i', x⟩ ⟨i, h1, h2, h3, h4, h5, h6⟩
    dsimp only at h2 h3 h4 h5 h6 ⊢
    subst h2
    have xT : x.1 28 4 = Int32.ofNat n := by rw [h4 28 (by omega)]; exact rT
    unfold b_Jumps_join_28_l49 n_Jumps_join_28_b49_78 n_Jumps_join_28_b49_117
    rw [xT]
    by_cases g : i = n
    · right
      subst g
      simp only [if_pos (Int32.le_refl _)]
      refine ⟨_, rfl, h3, h4, fun k hk => ?_, h6⟩
      rw [h5 k hk]
      by_cases w : zj_near (upd se i v1) (upd yd i v2) k i = true
      · rw [if_pos ⟨hk, w⟩, if_pos w]
      · rw [if_neg (fun h => w h.2), if_neg w]
    · left
      have hi : i < n := by omega
      have g1 : ¬ Int32.ofNat n ≤ Int32.ofNat i := by grind [zm_g]
      have a1 : Int32.ofNat i + 1 = Int32.ofNat (i + 1) := by simp
      have hup := zm_up1 (e := Int32.ofNat n) (v := Int32.ofNat i) (by grind [zm_g])
      rw [a1] at hup
      have xY : x.1 30 i = yd i := by rw [h4 30 (by omega), rY, if_neg (by omega)]; exact (j2 i hi).2.1
      have xS : x.1 29 i = se i := by rw [h4 29 (by omega), rS, if_neg (by omega)]; exact (j2 i hi).1
      have hnr := near i hi
      have skip : zj_near (upd se n v1) (upd yd n v2) i n = false → ∃ i2, i2 ≤ n ∧ Int32.ofNat (i + 1) = Int32.ofNat i2 ∧ x.2 = m8.2 ∧ (∀ r, ¬ r = 31 → x.1 r = m8.1 r) ∧ (∀ k, k < n → x.1 31 k = if k < i2 ∧ zj_near (upd se n v1) (upd yd n v2) k n = true then 1 else m8.1 31 k) ∧ (∀ k, n ≤ k → x.1 31 k = if k = n ∧ zj_any i2 (fun o => zj_near (upd se n v1) (upd yd n v2) o n) = true then 1 else m8.1 31 k) := by
        intro hf
        refine ⟨i + 1, by omega, rfl, h3, h4, fun k hk => ?_, fun k hk => ?_⟩
        · rw [h5 k hk]
          by_cases w : zj_near (upd se n v1) (upd yd n v2) k n = true
          · have : ¬ k = i := fun e => by subst e; rw [hf] at w; exact absurd w (by decide)
            by_cases z : k < i
            · rw [if_pos ⟨z, w⟩, if_pos ⟨by omega, w⟩]
            · rw [if_neg (fun h => z h.1), if_neg (fun h => absurd h.1 (by omega))]
          · rw [if_neg (fun h => w h.2), if_neg (fun h => w h.2)]
        · rw [h6 k hk]
          show _ = if k = n ∧ (zj_any i (fun o => zj_near (upd se n v1) (upd yd n v2) o n) || zj_near (upd se n v1) (upd yd n v2) i n) = true then 1 else m8.1 31 k
          rw [hf, Bool.or_false]
      by_cases q1 : 10 < zx_abs (yd i - v2)
      · have hf : zj_near (upd se n v1) (upd yd n v2) i n = false := by
          rw [hnr, decide_eq_false (Int32.not_le.mpr q1)]; rfl
        simp only [if_neg g1, zm_ix (show i < 7 by omega) (by omega), zm_bs, xY, if_pos q1, ↓reduceIte, zm_let, a1]
        exact ⟨_, rfl, skip hf, hup⟩
      · have z1 : ¬ ((1 : Int32) = 0) := by decide
        by_cases q2 : 4 < zx_abs (se i - v1)
        · have hf : zj_near (upd se n v1) (upd yd n v2) i n = false := by
            rw [hnr, decide_eq_false (Int32.not_le.mpr q2), Bool.and_false]
          simp only [if_neg g1, zm_ix (show i < 7 by omega) (by omega), zm_bs, xY, xS, if_neg q1, if_neg z1, if_pos q2, zm_let, a1]
          exact ⟨_, rfl, skip hf, hup⟩
        · have ht : zj_near (upd se n v1) (upd yd n v2) i n = true := by
            rw [hnr, decide_eq_true (Int32.not_lt.mp q1), decide_eq_true (Int32.not_lt.mp q2)]; rfl
          have xT2 : (zx_u1 x 31 i 1).1 28 4 = Int32.ofNat n := by rw [zm_u11, if_neg (by omega)]; exact xT
          simp only [if_neg g1, zm_ix (show i < 7 by omega) (by omega), zm_bs, xY, xS, if_neg q1, if_neg z1, if_neg q2, zm_let, a1, xT2, zm_ix hn (by omega)]
          refine ⟨_, rfl, ⟨i + 1, by omega, rfl, by rw [zm_u12, zm_u12]; exact h3, fun r hr => ?_, fun k hk => ?_, fun k hk => ?_⟩, hup⟩
          · rw [zm_u11, if_neg hr, zm_u11, if_neg hr]; exact h4 r hr
          · simp only [zm_u11, ↓reduceIte, zm_upd]
            rw [if_neg (by omega)]
            by_cases z : k = i
            · subst z
              rw [if_pos rfl, if_pos ⟨by omega, ht⟩]
            · rw [if_neg z, h5 k hk]
              by_cases w : k < i ∧ zj_near (upd se n v1) (upd yd n v2) k n = true
              · rw [if_pos w, if_pos ⟨by omega, w.2⟩]
              · rw [if_neg w, if_neg (fun h => w ⟨by omega, h.2⟩)]
          · simp only [zm_u11, ↓reduceIte, zm_upd]
            have hany : zj_any (i + 1) (fun o => zj_near (upd se n v1) (upd yd n v2) o n) = true := zj_any_iff.mpr ⟨i, by omega, ht⟩
            by_cases z : k = n
            · subst z
              rw [if_pos rfl, if_pos ⟨rfl, hany⟩]
            · rw [if_neg z, if_neg (by omega), h6 k hk, if_neg (fun h => z h.1), if_neg (fun h => z h.1)]
  have t9 : m9.1 28 4 = Int32.ofNat n := by rw [f2 28 (by omega)]; exact rT
  simp only [e9, zm_bs, t9]
  refine ⟨_, rfl, ⟨by omega, ?_, fun k hk => ?_⟩, ?_, fun r h1 h2 h3 h4 => ?_, fun k hk => ?_, fun k => ?_⟩
  · rw [zm_u11, if_pos rfl, zm_upd, if_pos rfl]; simp
  · have uS : ∀ r, ¬ r = 28 → ∀ v, (zx_u1 m9 28 4 v).1 r = m9.1 r := fun r hr v => by rw [zm_u11, if_neg hr]
    rw [uS 29 (by omega), uS 30 (by omega), uS 31 (by omega), f2 29 (by omega), f2 30 (by omega), rS, rY]
    have hmB : zj_mB (n + 1) (upd se n v1) (upd yd n v2) k = (zj_any n (fun o => decide (¬ o = k) && zj_near (upd se n v1) (upd yd n v2) o k) || (decide (¬ n = k) && zj_near (upd se n v1) (upd yd n v2) n k)) := by
      unfold zj_mB
      rfl
    rw [hmB]
    by_cases q : k = n
    · subst q
      rw [if_pos rfl, if_pos rfl, sen, ydn, f4 k (by omega), rE, if_pos rfl]
      refine ⟨rfl, rfl, ?_⟩
      have : zj_any k (fun o => decide (¬ o = k) && zj_near (upd se k v1) (upd yd k v2) o k) = zj_any k (fun o => zj_near (upd se k v1) (upd yd k v2) o k) := zj_any_congr (fun o ho => by
        have : ¬ o = k := by omega
        simp [this])
      rw [this]
      have e2 : decide (¬ k = k) = false := by simp
      rw [e2, Bool.false_and, Bool.or_false]
      cases zj_any k (fun o => zj_near (upd se k v1) (upd yd k v2) o k) <;> simp
    · have hk' : k < n := by omega
      rw [if_neg q, if_neg q, seN k hk', ydN k hk', f3 k hk', rE, if_neg q]
      refine ⟨(j2 k hk').1, (j2 k hk').2.1, ?_⟩
      rw [(j2 k hk').2.2]
      have e1 : zj_any n (fun o => decide (¬ o = k) && zj_near (upd se n v1) (upd yd n v2) o k) = zj_mB n se yd k := by
        unfold zj_mB
        refine zj_any_congr (fun o ho => ?_)
        unfold zj_near
        rw [seN o ho, ydN o ho, seN k hk', ydN k hk']
      have e2 : zj_near (upd se n v1) (upd yd n v2) n k = zj_near (upd se n v1) (upd yd n v2) k n := zj_near_comm _ _ _ _
      have e3 : decide (¬ n = k) = true := decide_eq_true (fun h => q h.symm)
      rw [e1, e2, e3, Bool.true_and]
      cases zj_mB n se yd k <;> cases zj_near (upd se n v1) (upd yd n v2) k n <;> simp
  · rw [zm_u12, f1, r2]
  · rw [zm_u11, if_neg h1, f2 r h4, rr r h2 h3 h4]
  · rw [zm_u11, if_pos rfl, zm_upd, if_neg hk, f2 28 (by omega), rr 28 (by omega) (by omega) (by omega)]
  · rw [zm_u11, if_neg (by omega)]
    rcases Nat.lt_or_ge k n with h | h
    · by_cases w : zj_near (upd se n v1) (upd yd n v2) k n = true
      · rw [f3 k h, if_pos w]; exact Or.inr (Or.inr rfl)
      · rw [f3 k h, if_neg w, rE, if_neg (by omega)]; exact Or.inl rfl
    · by_cases w : k = n ∧ zj_any n (fun o => zj_near (upd se n v1) (upd yd n v2) o n) = true
      · rw [f4 k h, if_pos w]; exact Or.inr (Or.inr rfl)
      · rw [f4 k h, if_neg w, rE]
        by_cases z : k = n
        · rw [if_pos z]; exact Or.inr (Or.inl rfl)
        · rw [if_neg z]; exact Or.inl rfl
theorem zj_wellFrom28 {c : zx_M} {n : Nat} {se yd : Nat → Int32} (J : zj_JC28 c n se yd) (v a : Int32) : f_Jumps_wellFrom_28 v a c = some (Int32.ofNat (zj_cnt n (fun k => zj_wB (c.1 2 0) (c.1 2 1) (c.1 2 2) (v + yd k) && (decide (¬ a = 0) || !zj_mB n se yd k)))) := by
  obtain ⟨hn, j1, j2⟩ := J
  have t4 : f_Numbers_told 0 4 c = _ := zm_told_f (k := 0) (by omega) rfl
  have t5 : f_Numbers_told 0 5 c = _ := zm_told_f (k := 1) (by omega) rfl
  have t6 : f_Numbers_told 0 6 c = _ := zm_told_f (k := 2) (by omega) rfl
  have key : l_Jumps_wellFrom_28_l39 v a (c.1 2 0) (c.1 2 1) (c.1 2 2) c (0, 0) = some (Int32.ofNat (zj_cnt n (fun k => zj_wB (c.1 2 0) (c.1 2 1) (c.1 2 2) (v + yd k) && (decide (¬ a = 0) || !zj_mB n se yd k)))) := by
    unfold l_Jumps_wellFrom_28_l39
    generalize c.1 2 0 = fr
    generalize c.1 2 1 = to
    generalize c.1 2 2 = wi
    refine zj_cntN hn (fun x => ?_) (fun x i hi => ?_)
    · show b_Jumps_wellFrom_28_l39 v a fr to wi x (Int32.ofNat n) c = _
      unfold b_Jumps_wellFrom_28_l39
      rw [j1, if_pos (Int32.le_refl _)]
    · show b_Jumps_wellFrom_28_l39 v a fr to wi x (Int32.ofNat i) c = _
      have g1 : ¬ Int32.ofNat n ≤ Int32.ofNat i := by grind [zm_g]
      have g2 : ¬ 7 ≤ Int32.ofNat i := by grind [zm_g]
      have a1 : Int32.ofNat i + 1 = Int32.ofNat (i + 1) := by simp
      have z1 : ¬ ((1 : Int32) = 0) := by decide
      obtain ⟨q1, q2, q3⟩ := j2 i hi
      unfold b_Jumps_wellFrom_28_l39 n_Jumps_wellFrom_28_b39_85 n_Jumps_wellFrom_28_b39_90 n_Jumps_wellFrom_28_b39_124 n_Jumps_wellFrom_28_b39_127
      simp only [j1, if_neg g1, if_neg g2, zm_ix (show i < 7 by omega) (by omega), zm_bs, zm_let, q2, q3, a1, if_neg z1]
      generalize v + yd i = d
      have x0 : x + 0 = x := by grind
      have hw : zj_wB fr to wi d = (decide (fr ≤ d) && decide (d ≤ to) && (decide (wi = -2000000000) || decide (5 < zx_abs (d - wi)))) := rfl
      have tail : (if d < fr then (some (.inl (x, Int32.ofNat (i + 1))) : Option ((Int32 × Int32) ⊕ Int32)) else if to < d then some (.inl (x, Int32.ofNat (i + 1))) else if ¬ a = 0 then some (.inl (x + 1, Int32.ofNat (i + 1))) else if ¬ (if zj_mB n se yd i = true then (1 : Int32) else 0) = 0 then some (.inl (x, Int32.ofNat (i + 1))) else some (.inl (x + 1, Int32.ofNat (i + 1)))) = some (.inl (x + (if (decide (fr ≤ d) && decide (d ≤ to) && (decide (¬ a = 0) || !zj_mB n se yd i)) = true then 1 else 0), Int32.ofNat (i + 1))) := by
        by_cases u1 : d < fr
        · have u1' : ¬ fr ≤ d := Int32.not_le.mpr u1
          rw [if_pos u1, decide_eq_false u1', Bool.false_and, Bool.false_and]
          simp
        · rw [if_neg u1, decide_eq_true (Int32.not_lt.mp u1), Bool.true_and]
          by_cases u2 : to < d
          · have u2' : ¬ d ≤ to := Int32.not_le.mpr u2
            rw [if_pos u2, decide_eq_false u2', Bool.false_and]
            simp
          · rw [if_neg u2, decide_eq_true (Int32.not_lt.mp u2), Bool.true_and]
            by_cases u3 : a = 0
            · rw [if_neg (fun h => h u3)]
              cases zj_mB n se yd i <;> simp [u3]
            · rw [if_pos u3]
              simp [u3]
      by_cases w1 : wi = -2000000000
      · rw [if_pos w1, tail]
        have : zj_wB fr to wi d = (decide (fr ≤ d) && decide (d ≤ to)) := by rw [hw, decide_eq_true w1, Bool.true_or, Bool.and_true]
        rw [this]
      · rw [if_neg w1]
        by_cases w2 : zx_abs (d - wi) ≤ 5
        · have w2' : ¬ 5 < zx_abs (d - wi) := Int32.not_lt.mpr w2
          have : zj_wB fr to wi d = false := by rw [hw, decide_eq_false w1, decide_eq_false w2', Bool.false_or, Bool.and_false]
          rw [if_pos w2, this]
          simp
        · have w2' : 5 < zx_abs (d - wi) := Int32.not_le.mp w2
          have : zj_wB fr to wi d = (decide (fr ≤ d) && decide (d ≤ to)) := by rw [hw, decide_eq_true w2', Bool.or_true, Bool.and_true]
          rw [if_neg w2, tail, this]
  unfold f_Jumps_wellFrom_28
  simp only [t4, t5, t6, zm_bs, key, zm_let]
theorem zj_good28 {c : zx_M} {n : Nat} {se yd : Nat → Int32} (J : zj_JC28 c n se yd) (v : Int32) : f_Jumps_good_28 v c = some (Int32.ofNat (zj_good n (c.1 2 0) (c.1 2 1) (c.1 2 2) se (fun k => v + yd k))) := by
  unfold f_Jumps_good_28
  rw [zj_wellFrom28 J, zm_bs]
  congr 2
  unfold zj_good
  refine zj_cnt_congr (fun k hk => ?_)
  rw [show decide (¬ (0 : Int32) = 0) = false by decide, Bool.false_or, zj_mB_congr (dw' := fun k => v + yd k) hk (fun _ _ => rfl) (fun o ho => by grind)]
