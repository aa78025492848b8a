/-! go -/
theorem zm_php : ∀ (n : Nat) (g : Nat → Nat), (∀ k, k < n + 1 → g k < n) → ∃ a b, a < b ∧ b < n + 1 ∧ g a = g b := by
  intro n
  induction n with
  | zero => intro g h; exact absurd (h 0 (by omega)) (by omega)
  | succ n ih =>
    intro g h
    by_cases q : ∃ k, k < n + 1 ∧ g k = g (n + 1)
    · obtain ⟨k, h1, h2⟩ := q
      exact ⟨k, n + 1, h1, by omega, h2⟩
    · have q' : ∀ k, k < n + 1 → ¬ g k = g (n + 1) := fun k hk e => q ⟨k, hk, e⟩
      obtain ⟨a, b, h1, h2, h3⟩ := ih (fun k => if g k = n then g (n + 1) else g k) (fun k hk => by
        have k1 := h k (by omega)
        have k2 := h (n + 1) (by omega)
        have k3 := q' k hk
        show (if g k = n then g (n + 1) else g k) < n
        by_cases e : g k = n
        · rw [if_pos e]; omega
        · rw [if_neg e]; omega)
      have k3 := q' a (by omega)
      have k4 := q' b (by omega)
      have h3' : (if g a = n then g (n + 1) else g a) = (if g b = n then g (n + 1) else g b) := h3
      refine ⟨a, b, h1, by omega, ?_⟩
      by_cases e1 : g a = n
      · by_cases e2 : g b = n
        · omega
        · rw [if_pos e1, if_neg e2] at h3'; omega
      · by_cases e2 : g b = n
        · rw [if_neg e1, if_pos e2] at h3'; omega
        · rw [if_neg e1, if_neg e2] at h3'; omega
/-- seven went: all went -/
theorem zm_full {g : Nat → Nat} {n j : Nat} (hn : n ≤ 7) (hj : j < 7) (h1 : ∀ k < n, g k < 7) (h2 : ∀ k < n, ∀ o < n, g o = g k → o = k) (h3 : ∀ k < n, ¬ g k = j) : n < 7 := by
  rcases Nat.lt_or_ge n 7 with h | h
  · exact h
  · exfalso
    have e : n = 7 := by omega
    subst e
    obtain ⟨a, b, q1, q2, q3⟩ := zm_php 7 (fun k => if k = 7 then j else g k) (fun k hk => by
      show (if k = 7 then j else g k) < 7
      by_cases e : k = 7
      · rw [if_pos e]; exact hj
      · rw [if_neg e]; exact h1 k (by omega))
    have q3' : (if a = 7 then j else g a) = (if b = 7 then j else g b) := q3
    rw [if_neg (by omega)] at q3'
    by_cases e : b = 7
    · rw [if_pos e] at q3'; exact h3 a (by omega) q3'
    · rw [if_neg e] at q3'
      have := h2 b (by omega) a (by omega) q3'
      omega
theorem zm_mayGo {c : zx_M} {j : Nat} (hj : j < 7) (hg : c.1 27 j = 0 ∨ c.1 27 j = 1) : f_Deed_mayGo_26 (Int32.ofNat j) c = some (if ¬ c.1 26 3 = 0 ∧ c.1 27 j = 0 then 1 else 0) := by
  have b1 : ¬ Int32.ofNat j < 0 := zm_nn (by omega)
  have b2 : ¬ 7 ≤ Int32.ofNat j := by grind [zm_g]
  unfold f_Deed_mayGo_26
  by_cases a : c.1 26 3 = 0
  · rw [if_pos a, if_neg (fun h => h.1 a)]
  · rw [if_neg a, if_neg b1, if_neg b2, zm_ix hj (by omega), zm_bs]
    by_cases b : c.1 27 j = 0
    · rw [if_neg (fun h => h b), if_pos ⟨a, b⟩]
    · rw [if_pos b, if_neg (fun h => b h.2)]
theorem zm_hasGone {m : zx_M} {n j : Nat} (hn : n ≤ 7) (h : m.1 0 29 = Int32.ofNat n) {g : Nat → Nat} (hj : j < 7) (hg : ∀ k < n, g k < 7 ∧ m.1 13 k = Int32.ofNat (g k)) : f_M_hasGone (Int32.ofNat j) m = some (if zj_any n (fun k => decide (g k = j)) then 1 else 0) := by
  have key : l_M_hasGone_l2 (Int32.ofNat j) m 0 = some (if zj_any n (fun k => decide (g k = j)) then 1 else 0) := by
    unfold l_M_hasGone_l2
    refine zj_anyN hn ?_ ?_ ?_
    · show b_M_hasGone_l2 (Int32.ofNat j) (Int32.ofNat n) m = _
      unfold b_M_hasGone_l2
      rw [h, if_pos (Int32.le_refl _)]
    · intro i hi hp
      show b_M_hasGone_l2 (Int32.ofNat j) (Int32.ofNat i) m = _
      have g1 : ¬ m.1 0 29 ≤ Int32.ofNat i := by rw [h]; grind [zm_g]
      have a1 : Int32.ofNat i + 1 = Int32.ofNat (i + 1) := by simp
      obtain ⟨q1, q2⟩ := hg i hi
      have q3 : ¬ Int32.ofNat (g i) = Int32.ofNat j := by
        have := of_decide_eq_false hp
        grind [zm_g]
      unfold b_M_hasGone_l2
      rw [if_neg g1, zm_ix (by omega) (by omega), zm_bs, q2, if_pos q3, zm_let, a1]
    · intro i hi hp
      show b_M_hasGone_l2 (Int32.ofNat j) (Int32.ofNat i) m = _
      have g1 : ¬ m.1 0 29 ≤ Int32.ofNat i := by rw [h]; grind [zm_g]
      obtain ⟨q1, q2⟩ := hg i hi
      have q3 : ¬ ¬ Int32.ofNat (g i) = Int32.ofNat j := by
        have := of_decide_eq_true hp
        rw [this]
        exact fun h => h rfl
      unfold b_M_hasGone_l2
      rw [if_neg g1, zm_ix (by omega) (by omega), zm_bs, q2, if_neg q3]
  unfold f_M_hasGone
  rw [key]
  rfl
/-- one more who went -/
theorem zm_RD_go {o o2 gone gone2 : Nat → Int32} {jn : Int32} {js jy jm js2 jy2 jm2 : Nat → Int32} {isOn onM onY onS ld lj lg lf lw lf2 lw2 yd sc dn : Int32} {ow os od ow2 os2 od2 : Nat → Int32} (R : zm_RD o gone jn js jy jm isOn onM onY onS ld lj lg lf lw ow os od) {n j : Nat} {g : Nat → Nat} (hj : j < 7) (hn : n < 7) (n2 : onM = Int32.ofNat n) (r : ∀ k < n, g k < 7 ∧ ow k = Int32.ofNat (g k) ∧ ∀ o < n, g o = g k → o = k) (r2 : ∀ j < 7, gone j = 1 ↔ ∃ k < n, g k = j) (hno : ∀ k < n, ¬ g k = j) (h3 : o2 3 = o 3) (h4 : o2 4 = yd) (h5 : o2 5 = sc) (h6 : o2 6 = o 6) (h7 : o2 7 = o 7 + 1) (h8 : o2 8 = o 8) (h9 : o2 9 = lf2) (h10 : o2 10 = lw2) (hlw : lw2 = -2 ∨ 0 ≤ lw2) (hg1 : gone2 j = 1) (hg2 : ∀ q < 7, ¬ q = j → gone2 q = gone q) (hE : ∀ k < 7, jm2 k = 0 ∨ jm2 k = 1) (J : ∀ k < n + 1, js2 k = upd os n sc k ∧ jy2 k = upd od n dn k ∧ jm2 k = if zj_mB (n + 1) (upd os n sc) (upd od n dn) k then 1 else 0) (w : ∀ k, ow2 k = upd ow n (Int32.ofNat j) k) (s : ∀ k, os2 k = upd os n sc k) (d : ∀ k, od2 k = upd od n dn k) : zm_RD o2 gone2 (Int32.ofNat (n + 1)) js2 jy2 jm2 isOn (onM + 1) yd sc ld (lj + 1) lg lf2 lw2 ow2 os2 od2 := by
  obtain ⟨d1, d2, d3, d4, d5, d6, d7, d8, d9, d10, d11, d12, -⟩ := R
  have es : os2 = upd os n sc := funext s
  have ed : od2 = upd od n dn := funext d
  have ew : ow2 = upd ow n (Int32.ofNat j) := funext w
  subst es
  subst ed
  subst ew
  refine ⟨by rw [h3]; exact d1, d2, h4, h5, by rw [h6]; exact d5, by rw [h7, d6], by rw [h8]; exact d7, h9, h10, hlw, fun q hq => ?_, hE, n + 1, fun k => if k = n then j else g k, by omega, rfl, by rw [n2]; simp, fun k hk => ?_, fun q hq => ?_⟩
  · by_cases e : q = j
    · rw [e]; exact Or.inr hg1
    · rw [hg2 q hq e]; exact d11 q hq
  · obtain ⟨j1, j2, j3⟩ := J k hk
    refine ⟨j1, j2, ?_, ?_, ?_, ?_⟩
    · rw [j3, ← zj_mB_iff]
      cases zj_mB (n + 1) (upd os n sc) (upd od n dn) k
      · simp
      · simp
    · show (if k = n then j else g k) < 7
      by_cases e : k = n
      · rw [if_pos e]; exact hj
      · rw [if_neg e]; exact (r k (by omega)).1
    · show upd ow n (Int32.ofNat j) k = Int32.ofNat (if k = n then j else g k)
      rw [zm_upd]
      by_cases e : k = n
      · rw [if_pos e, if_pos e]
      · rw [if_neg e, if_neg e]; exact (r k (by omega)).2.1
    · intro x hx
      show (if x = n then j else g x) = (if k = n then j else g k) → x = k
      by_cases e : k = n
      · by_cases f : x = n
        · intro _; omega
        · rw [if_neg f, if_pos e]
          intro h
          exact absurd h (hno x (by omega))
      · by_cases f : x = n
        · rw [if_pos f, if_neg e]
          intro h
          exact absurd h.symm (hno k (by omega))
        · rw [if_neg f, if_neg e]
          exact (r k (by omega)).2.2 x (by omega)
  · show gone2 q = 1 ↔ ∃ k < n + 1, (if k = n then j else g k) = q
    by_cases e : q = j
    · subst e
      refine ⟨fun _ => ⟨n, by omega, by rw [if_pos rfl]⟩, fun _ => hg1⟩
    · rw [hg2 q hq e, r2 q hq]
      constructor
      · rintro ⟨k, k1, k2⟩
        exact ⟨k, by omega, by rw [if_neg (by omega)]; exact k2⟩
      · rintro ⟨k, k1, k2⟩
        by_cases f : k = n
        · rw [if_pos f] at k2; exact absurd k2.symm e
        · rw [if_neg f] at k2; exact ⟨k, by omega, k2⟩
