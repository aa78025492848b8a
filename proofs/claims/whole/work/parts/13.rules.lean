/-! rules that the decompiled text uses -/
def zx_N : Nat := 100000
def zx_ix (n : Nat) (i : Int32) : Option Nat := if i < 0 ∨ n ≤ i.toNatClampNeg then none else some i.toNatClampNeg
theorem zx_ix_eq {n j : Nat} {i : Int32} (h : zx_ix n i = some j) : ¬ (i < 0 ∨ n ≤ i.toNatClampNeg) ∧ i.toNatClampNeg = j := by
  unfold zx_ix at h
  by_cases hi : i < 0 ∨ n ≤ i.toNatClampNeg
  · rw [if_pos hi] at h; cases h
  · rw [if_neg hi] at h
    exact ⟨hi, Option.some.inj h⟩
theorem st_iald {d o pc q n j : Nat} {b : Bool} {i : Int32} {L : zx_L} {r : List Value} {S : List zx_Sh} {m : zx_M} (hq : Nat.blt q 1000 = true) (hs : zx_nth S q = some (.inr (0, n))) (hj : zx_ix n i = some j) : zx_step d o b pc .iaload L (.int i :: .ref q :: r) (S, m) = some (pc + 1, L, .int (m.1 q j) :: r, (S, m)) := by
  obtain ⟨h1, h2⟩ := zx_ix_eq hj
  simp only [zx_step, zx_ild, hq, hs, cond_true, Nat.beq_refl]
  rw [if_neg h1, h2]
theorem st_zald {d o pc q n j : Nat} {b : Bool} {i : Int32} {L : zx_L} {r : List Value} {S : List zx_Sh} {m : zx_M} (hq : Nat.blt q 1000 = true) (hs : zx_nth S q = some (.inr (2, n))) (hj : zx_ix n i = some j) : zx_step d o b pc .baload L (.int i :: .ref q :: r) (S, m) = some (pc + 1, L, .int (m.1 q j) :: r, (S, m)) := by
  obtain ⟨h1, h2⟩ := zx_ix_eq hj
  simp only [zx_step, zx_ild, hq, hs, cond_true, Nat.beq_refl]
  rw [if_neg h1, h2]
theorem st_sald {d o pc q j : Nat} {b : Bool} {i : Int32} {L : zx_L} {r : List Value} {h : zx_H} {li : List Int32} (hq : Nat.blt q 1000 = false) (hs : zx_nth zx_sa (q - 1000) = some li) (hj : zx_ix li.length i = some j) : zx_step d o b pc .iaload L (.int i :: .ref q :: r) h = some (pc + 1, L, .int (li.getD j 0) :: r, h) := by
  obtain ⟨h1, h2⟩ := zx_ix_eq hj
  simp only [zx_step, zx_ild, hq, hs, cond_false, Nat.beq_refl, cond_true]
  rw [if_neg h1, h2]
theorem st_lald {d o pc q n j : Nat} {b : Bool} {i : Int32} {L : zx_L} {r : List Value} {S : List zx_Sh} {m : zx_M} (hs : zx_nth S q = some (.inr (1, n))) (hj : zx_ix n i = some j) : zx_step d o b pc .laload L (.int i :: .ref q :: r) (S, m) = some (pc + 1, L, .long (m.2 q j) :: r, (S, m)) := by
  obtain ⟨h1, h2⟩ := zx_ix_eq hj
  simp only [zx_step, zx_lld, hs, cond_true, Nat.beq_refl]
  rw [if_neg h1, h2]
theorem st_iast {d o pc q n j : Nat} {b : Bool} {i x : Int32} {L : zx_L} {r : List Value} {S : List zx_Sh} {m : zx_M} (hs : zx_nth S q = some (.inr (0, n))) (hj : zx_ix n i = some j) : zx_step d o b pc .iastore L (.int x :: .int i :: .ref q :: r) (S, m) = some (pc + 1, L, r, (S, zx_u1 m q j x)) := by
  obtain ⟨h1, h2⟩ := zx_ix_eq hj
  simp only [zx_step, zx_ist, hs, cond_true, Nat.beq_refl]
  rw [if_neg h1, h2]
theorem st_zast {d o pc q n j : Nat} {b : Bool} {i x : Int32} {L : zx_L} {r : List Value} {S : List zx_Sh} {m : zx_M} (hs : zx_nth S q = some (.inr (2, n))) (hj : zx_ix n i = some j) (hx : x = 0 ∨ x = 1) : zx_step d o b pc .bastore L (.int x :: .int i :: .ref q :: r) (S, m) = some (pc + 1, L, r, (S, zx_u1 m q j x)) := by
  obtain ⟨h1, h2⟩ := zx_ix_eq hj
  simp only [zx_step, zx_zst, hs, cond_true, Nat.beq_refl]
  rw [if_neg h1, h2, if_pos hx]
theorem st_last {d o pc q n j : Nat} {b : Bool} {i : Int32} {x : Int64} {L : zx_L} {r : List Value} {S : List zx_Sh} {m : zx_M} (hs : zx_nth S q = some (.inr (1, n))) (hj : zx_ix n i = some j) : zx_step d o b pc .lastore L (.long x :: .int i :: .ref q :: r) (S, m) = some (pc + 1, L, r, (S, zx_u2 m q j x)) := by
  obtain ⟨h1, h2⟩ := zx_ix_eq hj
  simp only [zx_step, zx_lst, hs, cond_true, Nat.beq_refl]
  rw [if_neg h1, h2]
theorem st_idiv {d o pc : Nat} {b : Bool} {x y : Int32} {L : zx_L} {r : List Value} {h : zx_H} (hy : ¬ y = 0) : zx_step d o b pc .idiv L (.int y :: .int x :: r) h = some (pc + 1, L, .int (x / y) :: r, h) := by
  simp only [zx_step, zx_di]
  rw [if_neg hy]
theorem st_irem {d o pc : Nat} {b : Bool} {x y : Int32} {L : zx_L} {r : List Value} {h : zx_H} (hy : ¬ y = 0) : zx_step d o b pc .irem L (.int y :: .int x :: r) h = some (pc + 1, L, .int (zx_rem x y) :: r, h) := by
  simp only [zx_step, zx_di]
  rw [if_neg hy]
theorem st_ldiv {d o pc : Nat} {b : Bool} {x y : Int64} {L : zx_L} {r : List Value} {h : zx_H} (hy : ¬ y = 0) : zx_step d o b pc .ldiv L (.long y :: .long x :: r) h = some (pc + 1, L, .long (x / y) :: r, h) := by
  simp only [zx_step, zx_dl]
  rw [if_neg hy]
theorem st_lrem {d o pc : Nat} {b : Bool} {x y : Int64} {L : zx_L} {r : List Value} {h : zx_H} (hy : ¬ y = 0) : zx_step d o b pc .lrem L (.long y :: .long x :: r) h = some (pc + 1, L, .long (zx_reml x y) :: r, h) := by
  simp only [zx_step, zx_dl]
  rw [if_neg hy]
/-- a boolean field set -/
theorem st_pfz {d o pc ix ci k q : Nat} {b : Bool} {x : Int32} {L : zx_L} {r : List Value} {S : List zx_Sh} {m : zx_M} {rs : List (Option (Option Nat))} (hf : zx_find (zx_flt o) ix = some (ci, k)) (hs : zx_nth S q = some (.inl (ci, rs))) (hb : (Nat.beq ci ci && zx_mayf o b ci k) = true) (hr : zx_nth rs k = some none) (ht : zx_ty ci k = .boolean) (hx : x = 0 ∨ x = 1) : zx_step d o b pc (.putfield ix) L (.int x :: .ref q :: r) (S, m) = some (pc + 3, L, r, (S, zx_u1 m q k x)) := by
  simp only [zx_step, zx_pf, hf, hs, hb, hr, ht, cond_true]
  rw [if_pos hx]
/-- rows copied: how many -/
def zx_ck (n0 n1 : Nat) (sp dp n : Int32) : Option Nat := if sp < 0 ∨ dp < 0 ∨ n < 0 ∨ n0 < sp.toNatClampNeg + n.toNatClampNeg ∨ n1 < dp.toNatClampNeg + n.toNatClampNeg then none else some n.toNatClampNeg
theorem zx_ck_eq {n0 n1 j : Nat} {sp dp n : Int32} (h : zx_ck n0 n1 sp dp n = some j) : ¬ sp < 0 ∧ ¬ dp < 0 ∧ ¬ n < 0 ∧ sp.toNatClampNeg + n.toNatClampNeg ≤ n0 ∧ dp.toNatClampNeg + n.toNatClampNeg ≤ n1 ∧ n.toNatClampNeg = j := by
  unfold zx_ck at h
  by_cases hi : sp < 0 ∨ dp < 0 ∨ n < 0 ∨ n0 < sp.toNatClampNeg + n.toNatClampNeg ∨ n1 < dp.toNatClampNeg + n.toNatClampNeg
  · rw [if_pos hi] at h; cases h
  · rw [if_neg hi] at h
    exact ⟨fun z => hi (Or.inl z), fun z => hi (Or.inr (Or.inl z)), fun z => hi (Or.inr (Or.inr (Or.inl z))), Nat.not_lt.mp (fun z => hi (Or.inr (Or.inr (Or.inr (Or.inl z))))), Nat.not_lt.mp (fun z => hi (Or.inr (Or.inr (Or.inr (Or.inr z))))), Option.some.inj h⟩
theorem st_cpi {d o pc ix q0 q1 n0 n1 j k0 : Nat} {b : Bool} {sp dp n : Int32} {L : zx_L} {r : List Value} {S : List zx_Sh} {m : zx_M} (hf : zx_find (zx_mlt o) ix = some (13, k0)) (hc : zx_cat r ≤ 8) (hs0 : zx_nth S q0 = some (.inr (0, n0))) (hs1 : zx_nth S q1 = some (.inr (0, n1))) (hj : zx_ck n0 n1 sp dp n = some j) : zx_step (d + 1) o b pc (.invokestatic ix) L (.int n :: .int dp :: .ref q1 :: .int sp :: .ref q0 :: r) (S, m) = some (pc + 3, L, r, (S, zx_w1 m q1 (va_cpy (m.1 q0) (m.1 q1) sp.toNatClampNeg dp.toNatClampNeg j))) := by
  obtain ⟨h1, h2, h3, h4, h5, rfl⟩ := zx_ck_eq hj
  simp only [zx_step, zx_nat, hf, zx_nS, zx_cp]
  rw [if_neg (by rintro (z | z | z | z); exact h1 z; exact h2 z; exact h3 z; omega)]
  simp only [hs0, zx_cpy, hs1, Nat.beq_refl, Nat.ble_eq.mpr h4, Nat.ble_eq.mpr h5, Bool.and_self, cond_true]
theorem st_cpl {d o pc ix q0 q1 n0 n1 j k0 : Nat} {b : Bool} {sp dp n : Int32} {L : zx_L} {r : List Value} {S : List zx_Sh} {m : zx_M} (hf : zx_find (zx_mlt o) ix = some (13, k0)) (hc : zx_cat r ≤ 8) (hs0 : zx_nth S q0 = some (.inr (1, n0))) (hs1 : zx_nth S q1 = some (.inr (1, n1))) (hj : zx_ck n0 n1 sp dp n = some j) : zx_step (d + 1) o b pc (.invokestatic ix) L (.int n :: .int dp :: .ref q1 :: .int sp :: .ref q0 :: r) (S, m) = some (pc + 3, L, r, (S, zx_w2 m q1 (va_cpy (m.2 q0) (m.2 q1) sp.toNatClampNeg dp.toNatClampNeg j))) := by
  obtain ⟨h1, h2, h3, h4, h5, rfl⟩ := zx_ck_eq hj
  have h10 : Nat.beq 1 0 = false := rfl
  simp only [zx_step, zx_nat, hf, zx_nS, zx_cp]
  rw [if_neg (by rintro (z | z | z | z); exact h1 z; exact h2 z; exact h3 z; omega)]
  simp only [hs0, zx_cpy, hs1, Nat.beq_refl, Nat.ble_eq.mpr h4, Nat.ble_eq.mpr h5, Bool.and_self, cond_true, h10, cond_false]
theorem st_cpz {d o pc ix q0 q1 n0 n1 j k0 : Nat} {b : Bool} {sp dp n : Int32} {L : zx_L} {r : List Value} {S : List zx_Sh} {m : zx_M} (hf : zx_find (zx_mlt o) ix = some (13, k0)) (hc : zx_cat r ≤ 8) (hs0 : zx_nth S q0 = some (.inr (2, n0))) (hs1 : zx_nth S q1 = some (.inr (2, n1))) (hj : zx_ck n0 n1 sp dp n = some j) (h01 : zx_01 (fun i => m.1 q0 (sp.toNatClampNeg + i)) j = true) : zx_step (d + 1) o b pc (.invokestatic ix) L (.int n :: .int dp :: .ref q1 :: .int sp :: .ref q0 :: r) (S, m) = some (pc + 3, L, r, (S, zx_w1 m q1 (va_cpy (m.1 q0) (m.1 q1) sp.toNatClampNeg dp.toNatClampNeg j))) := by
  obtain ⟨h1, h2, h3, h4, h5, rfl⟩ := zx_ck_eq hj
  simp only [zx_step, zx_nat, hf, zx_nS, zx_cp]
  rw [if_neg (by rintro (z | z | z | z); exact h1 z; exact h2 z; exact h3 z; omega)]
  simp only [hs0, zx_cpz, hs1, Nat.beq_refl, Nat.ble_eq.mpr h4, Nat.ble_eq.mpr h5, Bool.and_self, cond_true, h01]
theorem st_io {d o pc ix k0 : Nat} {b : Bool} {x : Int32} {L : zx_L} {r : List Value} {h : zx_H} (hf : zx_find (zx_mlt o) ix = some (14, k0)) (hc : Nat.ble (zx_cat r) 8 = true) : zx_step (d + 9) o b pc (.invokevirtual ix) L (.int x :: .ref 2000 :: r) h = some (pc + 3, L, .int (zx_io x) :: r, h) := by
  have h9 : Nat.ble 9 (d + 8 + 1) = true := Nat.ble_eq.mpr (by omega)
  show zx_step (d + 8 + 1) o b pc (.invokevirtual ix) L (.int x :: .ref 2000 :: r) h = _
  simp only [zx_step, zx_nat, hf, zx_nV, h9, hc, Nat.beq_refl, Bool.and_self, cond_true]
section EV2
variable {d k o pc : Nat} {b : Bool} {rt : Option FieldType} {C : zx_C} {L : zx_L} {st : List Value} {h : zx_H} {out : Option Value × zx_H}
theorem zx_ev_ift (M : zx_mk k o b rt C) {i : Instr} {len t f : Nat} {P : Prop} [hdec : Decidable P] {L1 : zx_L} {st1 : List Value} {h1 : zx_H} (hat : zx_at C pc = some (i, len)) (hs : zx_step d o b pc i L st h = some (if P then t else f, L1, st1, h1)) (hP : P) (E : zx_Ev d k t L1 st1 h1 out) : zx_Ev d k pc L st h out := by
  rw [if_pos hP] at hs
  exact zx_ev_step M hat hs E
theorem zx_ev_ifn (M : zx_mk k o b rt C) {i : Instr} {len t f : Nat} {P : Prop} [hdec : Decidable P] {L1 : zx_L} {st1 : List Value} {h1 : zx_H} (hat : zx_at C pc = some (i, len)) (hs : zx_step d o b pc i L st h = some (if P then t else f, L1, st1, h1)) (hP : ¬ P) (E : zx_Ev d k f L1 st1 h1 out) : zx_Ev d k pc L st h out := by
  rw [if_neg hP] at hs
  exact zx_ev_step M hat hs E
theorem zx_pick_hit {k : Int} {o d : Int} {x : Int32} {t : List (Int × Int)} (h : x = Int32.ofInt k) : zx_pick ((k, o) :: t) d x = o := by rw [zx_pick, if_pos h]
theorem zx_pick_miss {k : Int} {o d r : Int} {x : Int32} {t : List (Int × Int)} (h : ¬ x = Int32.ofInt k) (hr : zx_pick t d x = r) : zx_pick ((k, o) :: t) d x = r := by rw [zx_pick, if_neg h]; exact hr
theorem zx_ev_tsw (M : zx_mk k o b rt C) {dflt lo hi off : Int} {offs : Array Int} {len t : Nat} {x : Int32} {r : List Value} (hat : zx_at C pc = some (.tableswitch dflt lo hi offs, len)) (hc : (decide (lo ≤ hi) && decide ((offs.size : Int) = hi - lo + 1) && zx_keys (zx_rng offs.size lo offs.toList)) = true) (hp : zx_pick (zx_rng offs.size lo offs.toList) dflt x = off) (ht : zx_tg pc off = some t) (E : zx_Ev d k t L r h out) : zx_Ev d k pc L (.int x :: r) h out := by
  rw [Bool.and_eq_true] at hc
  refine zx_ev_step M (pc1 := t) (L1 := L) (st1 := r) (h1 := h) hat ?_ E
  simp only [zx_step, hc.1, cond_true, zx_sw, hc.2, hp, ht]
theorem zx_ev_lsw (M : zx_mk k o b rt C) {dflt off : Int} {ps : Array (Int × Int)} {len t : Nat} {x : Int32} {r : List Value} (hat : zx_at C pc = some (.lookupswitch dflt ps, len)) (hc : ((ps.toList.zip (ps.toList.drop 1)).all (fun q => q.1.1 < q.2.1) && zx_keys ps.toList) = true) (hp : zx_pick ps.toList dflt x = off) (ht : zx_tg pc off = some t) (E : zx_Ev d k t L r h out) : zx_Ev d k pc L (.int x :: r) h out := by
  rw [Bool.and_eq_true] at hc
  refine zx_ev_step M (pc1 := t) (L1 := L) (st1 := r) (h1 := h) hat ?_ E
  simp only [zx_step, hc.1, cond_true, zx_sw, hc.2, hp, ht]
end EV2
