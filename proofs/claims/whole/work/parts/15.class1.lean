def f_Acts_isBody (v1 : Int32) (m : zx_M) : Option Int32 := if v1 < 0 then some 0 else if (m.1 38 1) ≤ v1 then some 0 else some 1
theorem s_Acts_isBody (v1 : Int32) (m : zx_M) {d : Nat} {y : Int32} (hf : f_Acts_isBody v1 m = some y) : zx_Ev (d) 4 0 [some (.ref 38), some (.int v1)] [] (zx_SC, m) (some (.int y), (zx_SC, m)) := by
  unfold f_Acts_isBody at hf
  refine zx_ev_blk zk_4 1 (pc1 := 1) (L1 := [some (.ref 38), some (.int v1)]) (st1 := [.int v1]) (h1 := (zx_SC, m)) rfl ?_
  by_cases c1 : v1 < 0
  · rw [if_pos c1] at hf
    refine zx_ev_ift zk_4 (P := v1 < 0) (t := 16) (f := 4) rfl rfl c1 ?_
    refine zx_ev_blk zk_4 1 (pc1 := 17) (L1 := [some (.ref 38), some (.int v1)]) (st1 := [.int 0]) (h1 := (zx_SC, m)) rfl ?_
    obtain rfl := Option.some.inj hf
    exact zx_ev_ret zk_4 rfl (zx_ret_z (Or.inl rfl))
  · rw [if_neg c1] at hf
    refine zx_ev_ifn zk_4 (P := v1 < 0) (t := 16) (f := 4) rfl rfl c1 ?_
    refine zx_ev_blk zk_4 3 (pc1 := 9) (L1 := [some (.ref 38), some (.int v1)]) (st1 := [.int (m.1 38 1), .int v1]) (h1 := (zx_SC, m)) rfl ?_
    by_cases c2 : (m.1 38 1) ≤ v1
    · rw [if_pos c2] at hf
      refine zx_ev_ift zk_4 (P := (m.1 38 1) ≤ v1) (t := 16) (f := 12) rfl rfl c2 ?_
      refine zx_ev_blk zk_4 1 (pc1 := 17) (L1 := [some (.ref 38), some (.int v1)]) (st1 := [.int 0]) (h1 := (zx_SC, m)) rfl ?_
      obtain rfl := Option.some.inj hf
      exact zx_ev_ret zk_4 rfl (zx_ret_z (Or.inl rfl))
    · rw [if_neg c2] at hf
      refine zx_ev_ifn zk_4 (P := (m.1 38 1) ≤ v1) (t := 16) (f := 12) rfl rfl c2 ?_
      refine zx_ev_blk zk_4 2 (pc1 := 17) (L1 := [some (.ref 38), some (.int v1)]) (st1 := [.int 1]) (h1 := (zx_SC, m)) rfl ?_
      obtain rfl := Option.some.inj hf
      exact zx_ev_ret zk_4 rfl (zx_ret_z (Or.inr rfl))
def f_Acts_kindOf (v1 : Int32) (m : zx_M) : Option Int32 := (f_Acts_isBody v1 m).bind fun r2 => if r2 = 0 then some 0 else if 50 ≤ v1 then some 0 else (zx_ix 50 v1).bind fun j5 => some (m.1 39 j5)
theorem s_Acts_kindOf (v1 : Int32) (m : zx_M) {d : Nat} {y : Int32} (hf : f_Acts_kindOf v1 m = some y) : zx_Ev (d + 1) 6 0 [some (.ref 38), some (.int v1)] [] (zx_SC, m) (some (.int y), (zx_SC, m)) := by
  unfold f_Acts_kindOf at hf
  refine zx_ev_blk zk_6 2 (pc1 := 2) (L1 := [some (.ref 38), some (.int v1)]) (st1 := [.int v1, .ref 38]) (h1 := (zx_SC, m)) rfl ?_
  obtain ⟨r2, hv1, hf⟩ := zx_bind_eq hf
  refine zx_ev_call (d := d + 0) zk_6 (v := some (.int r2)) (h1 := (zx_SC, m)) rfl rfl zt_4 rfl zx_SCn rfl rfl (s_Acts_isBody _ _ (d := d + 0) hv1) ?_
  by_cases c3 : r2 = 0
  · rw [if_pos c3] at hf
    refine zx_ev_ift zk_6 (P := r2 = 0) (t := 23) (f := 8) rfl rfl c3 ?_
    refine zx_ev_blk zk_6 1 (pc1 := 24) (L1 := [some (.ref 38), some (.int v1)]) (st1 := [.int 0]) (h1 := (zx_SC, m)) rfl ?_
    obtain rfl := Option.some.inj hf
    exact zx_ev_ret zk_6 rfl rfl
  · rw [if_neg c3] at hf
    refine zx_ev_ifn zk_6 (P := r2 = 0) (t := 23) (f := 8) rfl rfl c3 ?_
    refine zx_ev_blk zk_6 2 (pc1 := 11) (L1 := [some (.ref 38), some (.int v1)]) (st1 := [.int 50, .int v1]) (h1 := (zx_SC, m)) rfl ?_
    by_cases c4 : 50 ≤ v1
    · rw [if_pos c4] at hf
      refine zx_ev_ift zk_6 (P := 50 ≤ v1) (t := 23) (f := 14) rfl rfl c4 ?_
      refine zx_ev_blk zk_6 1 (pc1 := 24) (L1 := [some (.ref 38), some (.int v1)]) (st1 := [.int 0]) (h1 := (zx_SC, m)) rfl ?_
      obtain rfl := Option.some.inj hf
      exact zx_ev_ret zk_6 rfl rfl
    · rw [if_neg c4] at hf
      refine zx_ev_ifn zk_6 (P := 50 ≤ v1) (t := 23) (f := 14) rfl rfl c4 ?_
      refine zx_ev_blk zk_6 3 (pc1 := 19) (L1 := [some (.ref 38), some (.int v1)]) (st1 := [.int v1, .ref 39]) (h1 := (zx_SC, m)) rfl ?_
      obtain ⟨j5, hj5, hf⟩ := zx_bind_eq hf
      refine zx_ev_step zk_6 rfl (st_iald rfl rfl hj5) ?_
      refine zx_ev_blk zk_6 1 (pc1 := 24) (L1 := [some (.ref 38), some (.int v1)]) (st1 := [.int (m.1 39 j5)]) (h1 := (zx_SC, m)) rfl ?_
      obtain rfl := Option.some.inj hf
      exact zx_ev_ret zk_6 rfl rfl
abbrev GT_from_more_own_plain : Type := (Int32 → Int32 → Int32 → zx_M → Option (Int32 × zx_M)) × (Int32 → Int32 → Int32 → Int32 → zx_M → Option (Int32 × zx_M)) × (Int32 → Int32 → Int32 → zx_M → Option (Int32 × zx_M)) × (Int32 → Int32 → Int32 → Int32 → zx_M → Option (Int32 × zx_M))
def GH_from_more_own_plain (d : Nat) (g : GT_from_more_own_plain) : Prop := (∀ (v1 : Int32) (v2 : Int32) (v3 : Int32) (m : zx_M) (y : (Int32 × zx_M)), g.1 v1 v2 v3 m = some y → zx_Ev d 12 0 [some (.ref 38), some (.int v1), some (.int v2), some (.int v3)] [] (zx_SC, m) (some (.int y.1), (zx_SC, y.2))) ∧ (∀ (v1 : Int32) (v2 : Int32) (v3 : Int32) (v4 : Int32) (m : zx_M) (y : (Int32 × zx_M)), g.2.1 v1 v2 v3 v4 m = some y → zx_Ev d 13 0 [some (.ref 38), some (.int v1), some (.int v2), some (.int v3), some (.int v4), none, none] [] (zx_SC, m) (some (.int y.1), (zx_SC, y.2))) ∧ (∀ (v1 : Int32) (v2 : Int32) (v3 : Int32) (m : zx_M) (y : (Int32 × zx_M)), g.2.2.1 v1 v2 v3 m = some y → zx_Ev d 15 0 [some (.ref 38), some (.int v1), some (.int v2), some (.int v3)] [] (zx_SC, m) (some (.int y.1), (zx_SC, y.2))) ∧ (∀ (v1 : Int32) (v2 : Int32) (v3 : Int32) (v4 : Int32) (m : zx_M) (y : (Int32 × zx_M)), g.2.2.2 v1 v2 v3 v4 m = some y → zx_Ev d 16 0 [some (.ref 38), some (.int v1), some (.int v2), some (.int v3), some (.int v4)] [] (zx_SC, m) (some (.int y.1), (zx_SC, y.2)))
def F_Acts_own (g : GT_from_more_own_plain) (v1 : Int32) (v2 : Int32) (v3 : Int32) (m : zx_M) : Option (Int32 × zx_M) := (g.2.1 (m.1 38 5) v1 v2 v3 m).bind fun (r2, m3) => some (r2, m3)
theorem s_Acts_own (g : GT_from_more_own_plain) (v1 : Int32) (v2 : Int32) (v3 : Int32) (m : zx_M) {d : Nat} (hg : GH_from_more_own_plain (d + 0) g) {y : (Int32 × zx_M)} (hf : F_Acts_own g v1 v2 v3 m = some y) : zx_Ev (d + 1) 12 0 [some (.ref 38), some (.int v1), some (.int v2), some (.int v3)] [] (zx_SC, m) (some (.int y.1), (zx_SC, y.2)) := by
  unfold F_Acts_own at hf
  refine zx_ev_blk zk_12 6 (pc1 := 8) (L1 := [some (.ref 38), some (.int v1), some (.int v2), some (.int v3)]) (st1 := [.int v3, .int v2, .int v1, .int (m.1 38 5), .ref 38]) (h1 := (zx_SC, m)) rfl ?_
  obtain ⟨⟨r2, m3⟩, hv1, hf⟩ := zx_bind_eq hf
  dsimp only at hf
  refine zx_ev_call (d := d + 0) zk_12 (v := some (.int r2)) (h1 := (zx_SC, m3)) rfl rfl zt_13 rfl zx_SCn rfl rfl (hg.2.1 _ _ _ _ _ _ hv1) ?_
  obtain rfl := Option.some.inj hf
  exact zx_ev_ret zk_12 rfl rfl
def f_Acts_isKind (v1 : Int32) (m : zx_M) : Option Int32 := if v1 < 0 then some 0 else if 8 ≤ v1 then some 0 else some 1
theorem s_Acts_isKind (v1 : Int32) (m : zx_M) {d : Nat} {y : Int32} (hf : f_Acts_isKind v1 m = some y) : zx_Ev (d) 3 0 [some (.ref 38), some (.int v1)] [] (zx_SC, m) (some (.int y), (zx_SC, m)) := by
  unfold f_Acts_isKind at hf
  refine zx_ev_blk zk_3 1 (pc1 := 1) (L1 := [some (.ref 38), some (.int v1)]) (st1 := [.int v1]) (h1 := (zx_SC, m)) rfl ?_
  by_cases c1 : v1 < 0
  · rw [if_pos c1] at hf
    refine zx_ev_ift zk_3 (P := v1 < 0) (t := 14) (f := 4) rfl rfl c1 ?_
    refine zx_ev_blk zk_3 1 (pc1 := 15) (L1 := [some (.ref 38), some (.int v1)]) (st1 := [.int 0]) (h1 := (zx_SC, m)) rfl ?_
    obtain rfl := Option.some.inj hf
    exact zx_ev_ret zk_3 rfl (zx_ret_z (Or.inl rfl))
  · rw [if_neg c1] at hf
    refine zx_ev_ifn zk_3 (P := v1 < 0) (t := 14) (f := 4) rfl rfl c1 ?_
    refine zx_ev_blk zk_3 2 (pc1 := 7) (L1 := [some (.ref 38), some (.int v1)]) (st1 := [.int 8, .int v1]) (h1 := (zx_SC, m)) rfl ?_
    by_cases c2 : 8 ≤ v1
    · rw [if_pos c2] at hf
      refine zx_ev_ift zk_3 (P := 8 ≤ v1) (t := 14) (f := 10) rfl rfl c2 ?_
      refine zx_ev_blk zk_3 1 (pc1 := 15) (L1 := [some (.ref 38), some (.int v1)]) (st1 := [.int 0]) (h1 := (zx_SC, m)) rfl ?_
      obtain rfl := Option.some.inj hf
      exact zx_ev_ret zk_3 rfl (zx_ret_z (Or.inl rfl))
    · rw [if_neg c2] at hf
      refine zx_ev_ifn zk_3 (P := 8 ≤ v1) (t := 14) (f := 10) rfl rfl c2 ?_
      refine zx_ev_blk zk_3 2 (pc1 := 15) (L1 := [some (.ref 38), some (.int v1)]) (st1 := [.int 1]) (h1 := (zx_SC, m)) rfl ?_
      obtain rfl := Option.some.inj hf
      exact zx_ev_ret zk_3 rfl (zx_ret_z (Or.inr rfl))
def f_Acts_ownBody (v0 : Int32) (v1 : Int32) (m : zx_M) : Option Int32 := zx_let ((v0 * 4) + v1) fun a1 => if a1 < 0 then some 0 else if 32 ≤ a1 then some 0 else (zx_ix 32 a1).bind fun j4 => some (zx_sA3.getD j4 0)
theorem s_Acts_ownBody (v0 : Int32) (v1 : Int32) (m : zx_M) {d : Nat} {y : Int32} (hf : f_Acts_ownBody v0 v1 m = some y) : zx_Ev (d) 11 0 [some (.int v0), some (.int v1), none] [] (zx_SC, m) (some (.int y), (zx_SC, m)) := by
  unfold f_Acts_ownBody at hf
  obtain ⟨a1, ha1, hf⟩ := zx_let_eq hf
  refine zx_ev_blk zk_11 7 (pc1 := 7) (L1 := [some (.int v0), some (.int v1), some (.int a1)]) (st1 := [.int a1]) (h1 := (zx_SC, m)) (by subst ha1; rfl) ?_
  by_cases c2 : a1 < 0
  · rw [if_pos c2] at hf
    refine zx_ev_ift zk_11 (P := a1 < 0) (t := 26) (f := 10) rfl rfl c2 ?_
    refine zx_ev_blk zk_11 1 (pc1 := 27) (L1 := [some (.int v0), some (.int v1), some (.int a1)]) (st1 := [.int 0]) (h1 := (zx_SC, m)) rfl ?_
    obtain rfl := Option.some.inj hf
    exact zx_ev_ret zk_11 rfl rfl
  · rw [if_neg c2] at hf
    refine zx_ev_ifn zk_11 (P := a1 < 0) (t := 26) (f := 10) rfl rfl c2 ?_
    refine zx_ev_blk zk_11 3 (pc1 := 15) (L1 := [some (.int v0), some (.int v1), some (.int a1)]) (st1 := [.int 32, .int a1]) (h1 := (zx_SC, m)) rfl ?_
    by_cases c3 : 32 ≤ a1
    · rw [if_pos c3] at hf
      refine zx_ev_ift zk_11 (P := 32 ≤ a1) (t := 26) (f := 18) rfl rfl c3 ?_
      refine zx_ev_blk zk_11 1 (pc1 := 27) (L1 := [some (.int v0), some (.int v1), some (.int a1)]) (st1 := [.int 0]) (h1 := (zx_SC, m)) rfl ?_
      obtain rfl := Option.some.inj hf
      exact zx_ev_ret zk_11 rfl rfl
    · rw [if_neg c3] at hf
      refine zx_ev_ifn zk_11 (P := 32 ≤ a1) (t := 26) (f := 18) rfl rfl c3 ?_
      refine zx_ev_blk zk_11 2 (pc1 := 22) (L1 := [some (.int v0), some (.int v1), some (.int a1)]) (st1 := [.int a1, .ref 1003]) (h1 := (zx_SC, m)) rfl ?_
      obtain ⟨j4, hj4, hf⟩ := zx_bind_eq hf
      refine zx_ev_step zk_11 rfl (st_sald (li := zx_sA3) rfl rfl hj4) ?_
      refine zx_ev_blk zk_11 1 (pc1 := 27) (L1 := [some (.int v0), some (.int v1), some (.int a1)]) (st1 := [.int (zx_sA3.getD j4 0)]) (h1 := (zx_SC, m)) rfl ?_
      obtain rfl := Option.some.inj hf
      exact zx_ev_ret zk_11 rfl rfl
def n_Acts_note_n26 (m : zx_M) : Option zx_M := zx_let (zx_u1 m 38 3 ((m.1 38 3) + 1)) fun m2 => some m2
theorem e_Acts_note_n26 (m : zx_M) {d : Nat} {y : zx_M} (hf : n_Acts_note_n26 m = some y) : zx_Ev (d) 10 26 [some (.ref 38), none] [] (zx_SC, m) (none, (zx_SC, y)) := by
  unfold n_Acts_note_n26 at hf
  obtain ⟨m2, hm2, hf⟩ := zx_let_eq hf
  refine zx_ev_blk zk_10 6 (pc1 := 36) (L1 := [some (.ref 38), none]) (st1 := []) (h1 := (zx_SC, m2)) (by subst hm2; rfl) ?_
  obtain rfl := Option.some.inj hf
  exact zx_ev_ret zk_10 rfl rfl
def f_Acts_note (v1 : Int32) (m : zx_M) : Option zx_M := if (m.1 38 3) < 0 then n_Acts_note_n26 m else if 24 ≤ (m.1 38 3) then n_Acts_note_n26 m else (zx_ix 24 (m.1 38 3)).bind fun j4 => zx_let (zx_u1 m 40 j4 v1) fun m5 => n_Acts_note_n26 m5
theorem s_Acts_note (v1 : Int32) (m : zx_M) {d : Nat} {y : zx_M} (hf : f_Acts_note v1 m = some y) : zx_Ev (d) 10 0 [some (.ref 38), some (.int v1)] [] (zx_SC, m) (none, (zx_SC, y)) := by
  unfold f_Acts_note at hf
  refine zx_ev_blk zk_10 2 (pc1 := 4) (L1 := [some (.ref 38), some (.int v1)]) (st1 := [.int (m.1 38 3)]) (h1 := (zx_SC, m)) rfl ?_
  by_cases c1 : (m.1 38 3) < 0
  · rw [if_pos c1] at hf
    refine zx_ev_ift zk_10 (P := (m.1 38 3) < 0) (t := 26) (f := 7) rfl rfl c1 ?_
    exact zx_ev_sub (L := [some (.ref 38), none]) (⟨rfl, ⟨trivial, trivial⟩⟩) (e_Acts_note_n26 m hf)
  · rw [if_neg c1] at hf
    refine zx_ev_ifn zk_10 (P := (m.1 38 3) < 0) (t := 26) (f := 7) rfl rfl c1 ?_
    refine zx_ev_blk zk_10 3 (pc1 := 13) (L1 := [some (.ref 38), some (.int v1)]) (st1 := [.int 24, .int (m.1 38 3)]) (h1 := (zx_SC, m)) rfl ?_
    by_cases c3 : 24 ≤ (m.1 38 3)
    · rw [if_pos c3] at hf
      refine zx_ev_ift zk_10 (P := 24 ≤ (m.1 38 3)) (t := 26) (f := 16) rfl rfl c3 ?_
      exact zx_ev_sub (L := [some (.ref 38), none]) (⟨rfl, ⟨trivial, trivial⟩⟩) (e_Acts_note_n26 m hf)
    · rw [if_neg c3] at hf
      refine zx_ev_ifn zk_10 (P := 24 ≤ (m.1 38 3)) (t := 26) (f := 16) rfl rfl c3 ?_
      refine zx_ev_blk zk_10 5 (pc1 := 25) (L1 := [some (.ref 38), some (.int v1)]) (st1 := [.int v1, .int (m.1 38 3), .ref 40]) (h1 := (zx_SC, m)) rfl ?_
      obtain ⟨j4, hj4, hf⟩ := zx_bind_eq hf
      refine zx_ev_step zk_10 rfl (st_iast rfl hj4) ?_
      obtain ⟨m5, hm5, hf⟩ := zx_let_eq hf
      rw [hm5]
      exact zx_ev_sub (L := [some (.ref 38), none]) (⟨rfl, ⟨trivial, trivial⟩⟩) (e_Acts_note_n26 m5 hf)
def f_Acts_ofDrop (v0 : Int32) (m : zx_M) : Option Int32 := if 20 ≤ v0 then some 0 else some 1
theorem s_Acts_ofDrop (v0 : Int32) (m : zx_M) {d : Nat} {y : Int32} (hf : f_Acts_ofDrop v0 m = some y) : zx_Ev (d) 14 0 [some (.int v0)] [] (zx_SC, m) (some (.int y), (zx_SC, m)) := by
  unfold f_Acts_ofDrop at hf
  refine zx_ev_blk zk_14 2 (pc1 := 3) (L1 := [some (.int v0)]) (st1 := [.int 20, .int v0]) (h1 := (zx_SC, m)) rfl ?_
  by_cases c1 : 20 ≤ v0
  · rw [if_pos c1] at hf
    refine zx_ev_ift zk_14 (P := 20 ≤ v0) (t := 10) (f := 6) rfl rfl c1 ?_
    refine zx_ev_blk zk_14 1 (pc1 := 11) (L1 := [some (.int v0)]) (st1 := [.int 0]) (h1 := (zx_SC, m)) rfl ?_
    obtain rfl := Option.some.inj hf
    exact zx_ev_ret zk_14 rfl (zx_ret_z (Or.inl rfl))
  · rw [if_neg c1] at hf
    refine zx_ev_ifn zk_14 (P := 20 ≤ v0) (t := 10) (f := 6) rfl rfl c1 ?_
    refine zx_ev_blk zk_14 2 (pc1 := 11) (L1 := [some (.int v0)]) (st1 := [.int 1]) (h1 := (zx_SC, m)) rfl ?_
    obtain rfl := Option.some.inj hf
    exact zx_ev_ret zk_14 rfl (zx_ret_z (Or.inr rfl))
def kx_Acts_from_l6 (v2 : Int32) (v3 : Int32) (v4 : Int32) (m : zx_M) (d : Nat) (out : Option Value × zx_H) : Int32 → Prop
  | x5 => zx_Ev (d + 1) 13 45 [some (.ref 38), none, some (.int v2), some (.int v3), some (.int v4), some (.int x5), none] [] (zx_SC, m) out
def kl_Acts_from_l6 (v2 : Int32) (v3 : Int32) (v4 : Int32) (m : zx_M) (d : Nat) (out : Option Value × zx_H) : (Int32 × Int32) ⊕ (Int32) → Prop
  | .inl (v5, v6) => zx_Ev (d + 1) 13 6 [some (.ref 38), none, some (.int v2), some (.int v3), some (.int v4), some (.int v5), some (.int v6)] [] (zx_SC, m) out
  | .inr x => kx_Acts_from_l6 v2 v3 v4 m d out x
def b_Acts_from_l6 (g : GT_from_more_own_plain) (v2 : Int32) (v3 : Int32) (v4 : Int32) (v5 : Int32) (v6 : Int32) (m : zx_M) : Option ((Int32 × Int32) ⊕ (Int32)) := if 8 ≤ v6 then some (.inr v5) else (f_Acts_isKind v5 m).bind fun r3 => if r3 = 0 then some (.inr v5) else (f_Acts_ownBody v5 v2 m).bind fun r6 => if ¬ r6 = 0 then some (.inr v5) else (zx_ix 8 v5).bind fun j8 => zx_let (zx_sA2.getD j8 0) fun a9 => zx_let (v6 + 1) fun a10 => some (.inl (a9, a10))
theorem eb_Acts_from_l6 (g : GT_from_more_own_plain) (v2 : Int32) (v3 : Int32) (v4 : Int32) (v5 : Int32) (v6 : Int32) (m : zx_M) {d : Nat} (hg : GH_from_more_own_plain (d + 0) g) {out : Option Value × zx_H} {y : (Int32 × Int32) ⊕ (Int32)} (hf : b_Acts_from_l6 g v2 v3 v4 v5 v6 m = some y) (hK : kl_Acts_from_l6 v2 v3 v4 m d out y) : zx_Ev (d + 1) 13 6 [some (.ref 38), none, some (.int v2), some (.int v3), some (.int v4), some (.int v5), some (.int v6)] [] (zx_SC, m) out := by
  unfold b_Acts_from_l6 at hf
  refine zx_ev_blk zk_13 2 (pc1 := 10) (L1 := [some (.ref 38), none, some (.int v2), some (.int v3), some (.int v4), some (.int v5), some (.int v6)]) (st1 := [.int 8, .int v6]) (h1 := (zx_SC, m)) rfl ?_
  by_cases c1 : 8 ≤ v6
  · rw [if_pos c1] at hf
    refine zx_ev_ift zk_13 (P := 8 ≤ v6) (t := 45) (f := 13) rfl rfl c1 ?_
    obtain rfl := Option.some.inj hf
    exact zx_ev_sub (L := [some (.ref 38), none, some (.int v2), some (.int v3), some (.int v4), some (.int v5), none]) (⟨rfl, ⟨rfl, ⟨rfl, ⟨rfl, ⟨rfl, ⟨trivial, trivial⟩⟩⟩⟩⟩⟩) hK
  · rw [if_neg c1] at hf
    refine zx_ev_ifn zk_13 (P := 8 ≤ v6) (t := 45) (f := 13) rfl rfl c1 ?_
    refine zx_ev_blk zk_13 2 (pc1 := 16) (L1 := [some (.ref 38), none, some (.int v2), some (.int v3), some (.int v4), some (.int v5), some (.int v6)]) (st1 := [.int v5, .ref 38]) (h1 := (zx_SC, m)) rfl ?_
    obtain ⟨r3, hv2, hf⟩ := zx_bind_eq hf
    refine zx_ev_call (d := d + 0) zk_13 (v := some (.int r3)) (h1 := (zx_SC, m)) rfl rfl zt_3 rfl zx_SCn rfl rfl (s_Acts_isKind _ _ (d := d + 0) hv2) ?_
    by_cases c4 : r3 = 0
    · rw [if_pos c4] at hf
      refine zx_ev_ift zk_13 (P := r3 = 0) (t := 45) (f := 22) rfl rfl c4 ?_
      obtain rfl := Option.some.inj hf
      exact zx_ev_sub (L := [some (.ref 38), none, some (.int v2), some (.int v3), some (.int v4), some (.int v5), none]) (⟨rfl, ⟨rfl, ⟨rfl, ⟨rfl, ⟨rfl, ⟨trivial, trivial⟩⟩⟩⟩⟩⟩) hK
    · rw [if_neg c4] at hf
      refine zx_ev_ifn zk_13 (P := r3 = 0) (t := 45) (f := 22) rfl rfl c4 ?_
      refine zx_ev_blk zk_13 2 (pc1 := 25) (L1 := [some (.ref 38), none, some (.int v2), some (.int v3), some (.int v4), some (.int v5), some (.int v6)]) (st1 := [.int v2, .int v5]) (h1 := (zx_SC, m)) rfl ?_
      obtain ⟨r6, hv5, hf⟩ := zx_bind_eq hf
      refine zx_ev_call (d := d + 0) zk_13 (v := some (.int r6)) (h1 := (zx_SC, m)) rfl rfl zt_11 rfl zx_SCn rfl rfl (s_Acts_ownBody _ _ _ (d := d + 0) hv5) ?_
      by_cases c7 : ¬ r6 = 0
      · rw [if_pos c7] at hf
        refine zx_ev_ift zk_13 (P := ¬ r6 = 0) (t := 45) (f := 31) rfl rfl c7 ?_
        obtain rfl := Option.some.inj hf
        exact zx_ev_sub (L := [some (.ref 38), none, some (.int v2), some (.int v3), some (.int v4), some (.int v5), none]) (⟨rfl, ⟨rfl, ⟨rfl, ⟨rfl, ⟨rfl, ⟨trivial, trivial⟩⟩⟩⟩⟩⟩) hK
      · rw [if_neg c7] at hf
        refine zx_ev_ifn zk_13 (P := ¬ r6 = 0) (t := 45) (f := 31) rfl rfl c7 ?_
        refine zx_ev_blk zk_13 2 (pc1 := 36) (L1 := [some (.ref 38), none, some (.int v2), some (.int v3), some (.int v4), some (.int v5), some (.int v6)]) (st1 := [.int v5, .ref 1002]) (h1 := (zx_SC, m)) rfl ?_
        obtain ⟨j8, hj8, hf⟩ := zx_bind_eq hf
        refine zx_ev_step zk_13 rfl (st_sald (li := zx_sA2) rfl rfl hj8) ?_
        obtain ⟨a9, ha9, hf⟩ := zx_let_eq hf
        obtain ⟨a10, ha10, hf⟩ := zx_let_eq hf
        refine zx_ev_blk zk_13 3 (pc1 := 6) (L1 := [some (.ref 38), none, some (.int v2), some (.int v3), some (.int v4), some (.int a9), some (.int a10)]) (st1 := []) (h1 := (zx_SC, m)) (by subst ha9; subst ha10; rfl) ?_
        obtain rfl := Option.some.inj hf
        exact zx_ev_sub (L := [some (.ref 38), none, some (.int v2), some (.int v3), some (.int v4), some (.int a9), some (.int a10)]) (⟨rfl, ⟨rfl, ⟨rfl, ⟨rfl, ⟨rfl, ⟨rfl, trivial⟩⟩⟩⟩⟩⟩) hK
def l_Acts_from_l6 (g : GT_from_more_own_plain) (v2 : Int32) (v3 : Int32) (v4 : Int32) (m : zx_M) (s0 : Int32 × Int32) : Option (Int32) := zx_lp zx_N (fun s : Int32 × Int32 => b_Acts_from_l6 g v2 v3 v4 s.1 s.2 m) s0
theorem el_Acts_from_l6 (g : GT_from_more_own_plain) (v2 : Int32) (v3 : Int32) (v4 : Int32) (m : zx_M) {d : Nat} (hg : GH_from_more_own_plain (d + 0) g) {out : Option Value × zx_H} : ∀ (n : Nat) (s : Int32 × Int32) (x : Int32), zx_lp n (fun s : Int32 × Int32 => b_Acts_from_l6 g v2 v3 v4 s.1 s.2 m) s = some x → kx_Acts_from_l6 v2 v3 v4 m d out x → zx_Ev (d + 1) 13 6 [some (.ref 38), none, some (.int v2), some (.int v3), some (.int v4), some (.int s.1), some (.int s.2)] [] (zx_SC, m) out := by
  intro n
  induction n with
  | zero => intro s x hl _; simp [zx_lp] at hl
  | succ n ih =>
    intro s x hl hx
    unfold zx_lp at hl
    cases hb : b_Acts_from_l6 g v2 v3 v4 s.1 s.2 m with
    | none => simp only [hb] at hl; cases hl
    | some z =>
      simp only [hb] at hl
      cases z with
      | inl s1 => exact eb_Acts_from_l6 g v2 v3 v4 s.1 s.2 m hg hb (ih s1 x hl hx)
      | inr t =>
        simp only [Option.some.injEq] at hl
        subst hl
        exact eb_Acts_from_l6 g v2 v3 v4 s.1 s.2 m hg hb hx
def n_Acts_from_n45 (g : GT_from_more_own_plain) (v2 : Int32) (v3 : Int32) (v4 : Int32) (v5 : Int32) (m : zx_M) : Option (Int32 × zx_M) := (f_Acts_isKind v5 m).bind fun r14 => if r14 = 0 then some (0, m) else if v4 ≤ 40 then (f_Acts_ownBody v5 v2 m).bind fun r18 => (f_Acts_note r18 m).bind fun m20 => (f_Acts_ofDrop r18 m20).bind fun r22 => if r22 = 0 then (zx_ix 8 v5).bind fun j24 => (g.2.2.2 r18 (zx_sA2.getD j24 0) v3 (v4 + 1) m20).bind fun (r26, m27) => some (r26, m27) else (g.2.2.1 r18 v3 (v4 + 1) m20).bind fun (r29, m30) => some (r29, m30) else some (0, m)
theorem e_Acts_from_n45 (g : GT_from_more_own_plain) (v2 : Int32) (v3 : Int32) (v4 : Int32) (v5 : Int32) (m : zx_M) {d : Nat} (hg : GH_from_more_own_plain (d + 0) g) {y : (Int32 × zx_M)} (hf : n_Acts_from_n45 g v2 v3 v4 v5 m = some y) : zx_Ev (d + 1) 13 45 [some (.ref 38), none, some (.int v2), some (.int v3), some (.int v4), some (.int v5), none] [] (zx_SC, m) (some (.int y.1), (zx_SC, y.2)) := by
  unfold n_Acts_from_n45 at hf
  refine zx_ev_blk zk_13 2 (pc1 := 48) (L1 := [some (.ref 38), none, some (.int v2), some (.int v3), some (.int v4), some (.int v5), none]) (st1 := [.int v5, .ref 38]) (h1 := (zx_SC, m)) rfl ?_
  obtain ⟨r14, hv13, hf⟩ := zx_bind_eq hf
  refine zx_ev_call (d := d + 0) zk_13 (v := some (.int r14)) (h1 := (zx_SC, m)) rfl rfl zt_3 rfl zx_SCn rfl rfl (s_Acts_isKind _ _ (d := d + 0) hv13) ?_
  by_cases c15 : r14 = 0
  · rw [if_pos c15] at hf
    refine zx_ev_ift zk_13 (P := r14 = 0) (t := 61) (f := 54) rfl rfl c15 ?_
    refine zx_ev_blk zk_13 1 (pc1 := 62) (L1 := [some (.ref 38), none, some (.int v2), some (.int v3), some (.int v4), some (.int v5), none]) (st1 := [.int 0]) (h1 := (zx_SC, m)) rfl ?_
    obtain rfl := Option.some.inj hf
    exact zx_ev_ret zk_13 rfl rfl
  · rw [if_neg c15] at hf
    refine zx_ev_ifn zk_13 (P := r14 = 0) (t := 61) (f := 54) rfl rfl c15 ?_
    refine zx_ev_blk zk_13 2 (pc1 := 58) (L1 := [some (.ref 38), none, some (.int v2), some (.int v3), some (.int v4), some (.int v5), none]) (st1 := [.int 40, .int v4]) (h1 := (zx_SC, m)) rfl ?_
    by_cases c16 : v4 ≤ 40
    · rw [if_pos c16] at hf
      refine zx_ev_ift zk_13 (P := v4 ≤ 40) (t := 63) (f := 61) rfl rfl c16 ?_
      refine zx_ev_blk zk_13 2 (pc1 := 66) (L1 := [some (.ref 38), none, some (.int v2), some (.int v3), some (.int v4), some (.int v5), none]) (st1 := [.int v2, .int v5]) (h1 := (zx_SC, m)) rfl ?_
      obtain ⟨r18, hv17, hf⟩ := zx_bind_eq hf
      refine zx_ev_call (d := d + 0) zk_13 (v := some (.int r18)) (h1 := (zx_SC, m)) rfl rfl zt_11 rfl zx_SCn rfl rfl (s_Acts_ownBody _ _ _ (d := d + 0) hv17) ?_
      refine zx_ev_blk zk_13 3 (pc1 := 74) (L1 := [some (.ref 38), none, some (.int v2), some (.int v3), some (.int v4), some (.int v5), some (.int r18)]) (st1 := [.int r18, .ref 38]) (h1 := (zx_SC, m)) rfl ?_
      obtain ⟨m20, hv19, hf⟩ := zx_bind_eq hf
      refine zx_ev_call (d := d + 0) zk_13 (v := none) (h1 := (zx_SC, m20)) rfl rfl zt_10 rfl zx_SCn rfl rfl (s_Acts_note _ _ (d := d + 0) hv19) ?_
      refine zx_ev_blk zk_13 1 (pc1 := 79) (L1 := [some (.ref 38), none, some (.int v2), some (.int v3), some (.int v4), some (.int v5), some (.int r18)]) (st1 := [.int r18]) (h1 := (zx_SC, m20)) rfl ?_
      obtain ⟨r22, hv21, hf⟩ := zx_bind_eq hf
      refine zx_ev_call (d := d + 0) zk_13 (v := some (.int r22)) (h1 := (zx_SC, m20)) rfl rfl zt_14 rfl zx_SCn rfl rfl (s_Acts_ofDrop _ _ (d := d + 0) hv21) ?_
      by_cases c23 : r22 = 0
      · rw [if_pos c23] at hf
        refine zx_ev_ift zk_13 (P := r22 = 0) (t := 99) (f := 85) rfl rfl c23 ?_
        refine zx_ev_blk zk_13 4 (pc1 := 107) (L1 := [some (.ref 38), none, some (.int v2), some (.int v3), some (.int v4), some (.int v5), some (.int r18)]) (st1 := [.int v5, .ref 1002, .int r18, .ref 38]) (h1 := (zx_SC, m20)) rfl ?_
        obtain ⟨j24, hj24, hf⟩ := zx_bind_eq hf
        refine zx_ev_step zk_13 rfl (st_sald (li := zx_sA2) rfl rfl hj24) ?_
        refine zx_ev_blk zk_13 4 (pc1 := 113) (L1 := [some (.ref 38), none, some (.int v2), some (.int v3), some (.int v4), some (.int v5), some (.int r18)]) (st1 := [.int (v4 + 1), .int v3, .int (zx_sA2.getD j24 0), .int r18, .ref 38]) (h1 := (zx_SC, m20)) rfl ?_
        obtain ⟨⟨r26, m27⟩, hv25, hf⟩ := zx_bind_eq hf
        dsimp only at hf
        refine zx_ev_call (d := d + 0) zk_13 (v := some (.int r26)) (h1 := (zx_SC, m27)) rfl rfl zt_16 rfl zx_SCn rfl rfl (hg.2.2.2 _ _ _ _ _ _ hv25) ?_
        obtain rfl := Option.some.inj hf
        exact zx_ev_ret zk_13 rfl rfl
      · rw [if_neg c23] at hf
        refine zx_ev_ifn zk_13 (P := r22 = 0) (t := 99) (f := 85) rfl rfl c23 ?_
        refine zx_ev_blk zk_13 6 (pc1 := 93) (L1 := [some (.ref 38), none, some (.int v2), some (.int v3), some (.int v4), some (.int v5), some (.int r18)]) (st1 := [.int (v4 + 1), .int v3, .int r18, .ref 38]) (h1 := (zx_SC, m20)) rfl ?_
        obtain ⟨⟨r29, m30⟩, hv28, hf⟩ := zx_bind_eq hf
        dsimp only at hf
        refine zx_ev_call (d := d + 0) zk_13 (v := some (.int r29)) (h1 := (zx_SC, m30)) rfl rfl zt_15 rfl zx_SCn rfl rfl (hg.2.2.1 _ _ _ _ _ hv28) ?_
        refine zx_ev_blk zk_13 1 (pc1 := 116) (L1 := [some (.ref 38), none, some (.int v2), some (.int v3), some (.int v4), some (.int v5), some (.int r18)]) (st1 := [.int r29]) (h1 := (zx_SC, m30)) rfl ?_
        obtain rfl := Option.some.inj hf
        exact zx_ev_ret zk_13 rfl rfl
    · rw [if_neg c16] at hf
      refine zx_ev_ifn zk_13 (P := v4 ≤ 40) (t := 63) (f := 61) rfl rfl c16 ?_
      refine zx_ev_blk zk_13 1 (pc1 := 62) (L1 := [some (.ref 38), none, some (.int v2), some (.int v3), some (.int v4), some (.int v5), none]) (st1 := [.int 0]) (h1 := (zx_SC, m)) rfl ?_
      obtain rfl := Option.some.inj hf
      exact zx_ev_ret zk_13 rfl rfl
def F_Acts_from (g : GT_from_more_own_plain) (v1 : Int32) (v2 : Int32) (v3 : Int32) (v4 : Int32) (m : zx_M) : Option (Int32 × zx_M) := (l_Acts_from_l6 g v2 v3 v4 m (v1, 0)).bind fun x11 => zx_let x11 fun w12 => n_Acts_from_n45 g v2 v3 v4 w12 m
theorem s_Acts_from (g : GT_from_more_own_plain) (v1 : Int32) (v2 : Int32) (v3 : Int32) (v4 : Int32) (m : zx_M) {d : Nat} (hg : GH_from_more_own_plain (d + 0) g) {y : (Int32 × zx_M)} (hf : F_Acts_from g v1 v2 v3 v4 m = some y) : zx_Ev (d + 1) 13 0 [some (.ref 38), some (.int v1), some (.int v2), some (.int v3), some (.int v4), none, none] [] (zx_SC, m) (some (.int y.1), (zx_SC, y.2)) := by
  unfold F_Acts_from at hf
  refine zx_ev_blk zk_13 4 (pc1 := 6) (L1 := [some (.ref 38), some (.int v1), some (.int v2), some (.int v3), some (.int v4), some (.int v1), some (.int 0)]) (st1 := []) (h1 := (zx_SC, m)) rfl ?_
  obtain ⟨x11, hx11, hf⟩ := zx_bind_eq hf
  refine zx_ev_sub (L := [some (.ref 38), none, some (.int v2), some (.int v3), some (.int v4), some (.int v1), some (.int 0)]) (⟨rfl, ⟨trivial, ⟨rfl, ⟨rfl, ⟨rfl, ⟨rfl, ⟨rfl, trivial⟩⟩⟩⟩⟩⟩⟩) (el_Acts_from_l6 g v2 v3 v4 m hg zx_N (v1, 0) x11 hx11 ?_)
  obtain ⟨w12, hw12, hf⟩ := zx_let_eq hf
  subst hw12
  show zx_Ev (d + 1) 13 45 [some (.ref 38), none, some (.int v2), some (.int v3), some (.int v4), some (.int x11), none] [] (zx_SC, m) _
  exact zx_ev_sub (L := [some (.ref 38), none, some (.int v2), some (.int v3), some (.int v4), some (.int x11), none]) (⟨rfl, ⟨rfl, ⟨rfl, ⟨rfl, ⟨rfl, trivial⟩⟩⟩⟩⟩) (e_Acts_from_n45 g v2 v3 v4 x11 m hg hf)
def F_Acts_plain (g : GT_from_more_own_plain) (v1 : Int32) (v2 : Int32) (v3 : Int32) (m : zx_M) : Option (Int32 × zx_M) := if v1 = 1 then some (v2 + (m.1 38 4), m) else if v1 = 2 then (g.1 1 v2 v3 m).bind fun (r4, m5) => (g.1 2 1 v3 m5).bind fun (r7, m8) => some (r4 - r7, m8) else if v1 = 10 then (g.1 0 v2 v3 m).bind fun (r11, m12) => some (r11 * 2, m12) else some (v2 ^^^ (m.1 38 4), m)
theorem s_Acts_plain (g : GT_from_more_own_plain) (v1 : Int32) (v2 : Int32) (v3 : Int32) (m : zx_M) {d : Nat} (hg : GH_from_more_own_plain (d + 0) g) {y : (Int32 × zx_M)} (hf : F_Acts_plain g v1 v2 v3 m = some y) : zx_Ev (d + 1) 15 0 [some (.ref 38), some (.int v1), some (.int v2), some (.int v3)] [] (zx_SC, m) (some (.int y.1), (zx_SC, y.2)) := by
  unfold F_Acts_plain at hf
  refine zx_ev_blk zk_15 1 (pc1 := 1) (L1 := [some (.ref 38), some (.int v1), some (.int v2), some (.int v3)]) (st1 := [.int v1]) (h1 := (zx_SC, m)) rfl ?_
  by_cases c1 : v1 = 1
  · rw [if_pos c1] at hf
    refine zx_ev_lsw zk_15 rfl rfl (zx_pick_hit c1) rfl ?_
    refine zx_ev_blk zk_15 4 (pc1 := 42) (L1 := [some (.ref 38), some (.int v1), some (.int v2), some (.int v3)]) (st1 := [.int (v2 + (m.1 38 4))]) (h1 := (zx_SC, m)) rfl ?_
    obtain rfl := Option.some.inj hf
    exact zx_ev_ret zk_15 rfl rfl
  · rw [if_neg c1] at hf
    by_cases c2 : v1 = 2
    · rw [if_pos c2] at hf
      refine zx_ev_lsw zk_15 rfl rfl (zx_pick_miss c1 (zx_pick_hit c2)) rfl ?_
      refine zx_ev_blk zk_15 4 (pc1 := 47) (L1 := [some (.ref 38), some (.int v1), some (.int v2), some (.int v3)]) (st1 := [.int v3, .int v2, .int 1, .ref 38]) (h1 := (zx_SC, m)) rfl ?_
      obtain ⟨⟨r4, m5⟩, hv3, hf⟩ := zx_bind_eq hf
      dsimp only at hf
      refine zx_ev_call (d := d + 0) zk_15 (v := some (.int r4)) (h1 := (zx_SC, m5)) rfl rfl zt_12 rfl zx_SCn rfl rfl (hg.1 _ _ _ _ _ hv3) ?_
      refine zx_ev_blk zk_15 4 (pc1 := 54) (L1 := [some (.ref 38), some (.int v1), some (.int v2), some (.int v3)]) (st1 := [.int v3, .int 1, .int 2, .ref 38, .int r4]) (h1 := (zx_SC, m5)) rfl ?_
      obtain ⟨⟨r7, m8⟩, hv6, hf⟩ := zx_bind_eq hf
      dsimp only at hf
      refine zx_ev_call (d := d + 0) zk_15 (v := some (.int r7)) (h1 := (zx_SC, m8)) rfl rfl zt_12 rfl zx_SCn rfl rfl (hg.1 _ _ _ _ _ hv6) ?_
      refine zx_ev_blk zk_15 1 (pc1 := 58) (L1 := [some (.ref 38), some (.int v1), some (.int v2), some (.int v3)]) (st1 := [.int (r4 - r7)]) (h1 := (zx_SC, m8)) rfl ?_
      obtain rfl := Option.some.inj hf
      exact zx_ev_ret zk_15 rfl rfl
    · rw [if_neg c2] at hf
      by_cases c9 : v1 = 10
      · rw [if_pos c9] at hf
        refine zx_ev_lsw zk_15 rfl rfl (zx_pick_miss c1 (zx_pick_miss c2 (zx_pick_hit c9))) rfl ?_
        refine zx_ev_blk zk_15 4 (pc1 := 63) (L1 := [some (.ref 38), some (.int v1), some (.int v2), some (.int v3)]) (st1 := [.int v3, .int v2, .int 0, .ref 38]) (h1 := (zx_SC, m)) rfl ?_
        obtain ⟨⟨r11, m12⟩, hv10, hf⟩ := zx_bind_eq hf
        dsimp only at hf
        refine zx_ev_call (d := d + 0) zk_15 (v := some (.int r11)) (h1 := (zx_SC, m12)) rfl rfl zt_12 rfl zx_SCn rfl rfl (hg.1 _ _ _ _ _ hv10) ?_
        refine zx_ev_blk zk_15 2 (pc1 := 68) (L1 := [some (.ref 38), some (.int v1), some (.int v2), some (.int v3)]) (st1 := [.int (r11 * 2)]) (h1 := (zx_SC, m12)) rfl ?_
        obtain rfl := Option.some.inj hf
        exact zx_ev_ret zk_15 rfl rfl
      · rw [if_neg c9] at hf
        refine zx_ev_lsw zk_15 rfl rfl (zx_pick_miss c1 (zx_pick_miss c2 (zx_pick_miss c9 rfl))) rfl ?_
        refine zx_ev_blk zk_15 4 (pc1 := 75) (L1 := [some (.ref 38), some (.int v1), some (.int v2), some (.int v3)]) (st1 := [.int (v2 ^^^ (m.1 38 4))]) (h1 := (zx_SC, m)) rfl ?_
        obtain rfl := Option.some.inj hf
        exact zx_ev_ret zk_15 rfl rfl
def F_Acts_more (g : GT_from_more_own_plain) (v1 : Int32) (v2 : Int32) (v3 : Int32) (v4 : Int32) (m : zx_M) : Option (Int32 × zx_M) := if v1 = 20 then (g.2.1 v2 0 v3 v4 m).bind fun (r3, m4) => some (r3 + 3, m4) else if v1 = 30 then (g.2.1 v2 1 v3 v4 m).bind fun (r7, m8) => some (-r7, m8) else if v1 = 40 then (g.2.1 v2 2 v3 v4 m).bind fun (r11, m12) => some (r11 * 3, m12) else if v1 = 41 then (g.2.1 v2 1 (v3 + 1) v4 m).bind fun (r15, m16) => some (r15, m16) else if v1 = 50 then (g.2.1 v2 2 v3 v4 m).bind fun (r19, m20) => (g.1 0 2 v4 m20).bind fun (r22, m23) => some (r19 - r22, m23) else if v1 = 60 then (g.2.1 v2 3 v3 v4 m).bind fun (r26, m27) => some (r26 ^^^ 5, m27) else if v1 = 70 then (g.2.1 v2 0 v3 v4 m).bind fun (r30, m31) => some (r30 * 2, m31) else if v1 = 80 then (g.2.1 v2 1 v3 v4 m).bind fun (r34, m35) => (g.1 2 2 v4 m35).bind fun (r37, m38) => some (r34 + r37, m38) else (g.2.1 v2 3 v3 v4 m).bind fun (r40, m41) => some (r40 - 1, m41)
theorem s_Acts_more (g : GT_from_more_own_plain) (v1 : Int32) (v2 : Int32) (v3 : Int32) (v4 : Int32) (m : zx_M) {d : Nat} (hg : GH_from_more_own_plain (d + 0) g) {y : (Int32 × zx_M)} (hf : F_Acts_more g v1 v2 v3 v4 m = some y) : zx_Ev (d + 1) 16 0 [some (.ref 38), some (.int v1), some (.int v2), some (.int v3), some (.int v4)] [] (zx_SC, m) (some (.int y.1), (zx_SC, y.2)) := by
  unfold F_Acts_more at hf
  refine zx_ev_blk zk_16 1 (pc1 := 1) (L1 := [some (.ref 38), some (.int v1), some (.int v2), some (.int v3), some (.int v4)]) (st1 := [.int v1]) (h1 := (zx_SC, m)) rfl ?_
  by_cases c1 : v1 = 20
  · rw [if_pos c1] at hf
    refine zx_ev_lsw zk_16 rfl rfl (zx_pick_hit c1) rfl ?_
    refine zx_ev_blk zk_16 5 (pc1 := 82) (L1 := [some (.ref 38), some (.int v1), some (.int v2), some (.int v3), some (.int v4)]) (st1 := [.int v4, .int v3, .int 0, .int v2, .ref 38]) (h1 := (zx_SC, m)) rfl ?_
    obtain ⟨⟨r3, m4⟩, hv2, hf⟩ := zx_bind_eq hf
    dsimp only at hf
    refine zx_ev_call (d := d + 0) zk_16 (v := some (.int r3)) (h1 := (zx_SC, m4)) rfl rfl zt_13 rfl zx_SCn rfl rfl (hg.2.1 _ _ _ _ _ _ hv2) ?_
    refine zx_ev_blk zk_16 2 (pc1 := 87) (L1 := [some (.ref 38), some (.int v1), some (.int v2), some (.int v3), some (.int v4)]) (st1 := [.int (r3 + 3)]) (h1 := (zx_SC, m4)) rfl ?_
    obtain rfl := Option.some.inj hf
    exact zx_ev_ret zk_16 rfl rfl
  · rw [if_neg c1] at hf
    by_cases c5 : v1 = 30
    · rw [if_pos c5] at hf
      refine zx_ev_lsw zk_16 rfl rfl (zx_pick_miss c1 (zx_pick_hit c5)) rfl ?_
      refine zx_ev_blk zk_16 5 (pc1 := 94) (L1 := [some (.ref 38), some (.int v1), some (.int v2), some (.int v3), some (.int v4)]) (st1 := [.int v4, .int v3, .int 1, .int v2, .ref 38]) (h1 := (zx_SC, m)) rfl ?_
      obtain ⟨⟨r7, m8⟩, hv6, hf⟩ := zx_bind_eq hf
      dsimp only at hf
      refine zx_ev_call (d := d + 0) zk_16 (v := some (.int r7)) (h1 := (zx_SC, m8)) rfl rfl zt_13 rfl zx_SCn rfl rfl (hg.2.1 _ _ _ _ _ _ hv6) ?_
      refine zx_ev_blk zk_16 1 (pc1 := 98) (L1 := [some (.ref 38), some (.int v1), some (.int v2), some (.int v3), some (.int v4)]) (st1 := [.int (-r7)]) (h1 := (zx_SC, m8)) rfl ?_
      obtain rfl := Option.some.inj hf
      exact zx_ev_ret zk_16 rfl rfl
    · rw [if_neg c5] at hf
      by_cases c9 : v1 = 40
      · rw [if_pos c9] at hf
        refine zx_ev_lsw zk_16 rfl rfl (zx_pick_miss c1 (zx_pick_miss c5 (zx_pick_hit c9))) rfl ?_
        refine zx_ev_blk zk_16 5 (pc1 := 105) (L1 := [some (.ref 38), some (.int v1), some (.int v2), some (.int v3), some (.int v4)]) (st1 := [.int v4, .int v3, .int 2, .int v2, .ref 38]) (h1 := (zx_SC, m)) rfl ?_
        obtain ⟨⟨r11, m12⟩, hv10, hf⟩ := zx_bind_eq hf
        dsimp only at hf
        refine zx_ev_call (d := d + 0) zk_16 (v := some (.int r11)) (h1 := (zx_SC, m12)) rfl rfl zt_13 rfl zx_SCn rfl rfl (hg.2.1 _ _ _ _ _ _ hv10) ?_
        refine zx_ev_blk zk_16 2 (pc1 := 110) (L1 := [some (.ref 38), some (.int v1), some (.int v2), some (.int v3), some (.int v4)]) (st1 := [.int (r11 * 3)]) (h1 := (zx_SC, m12)) rfl ?_
        obtain rfl := Option.some.inj hf
        exact zx_ev_ret zk_16 rfl rfl
      · rw [if_neg c9] at hf
        by_cases c13 : v1 = 41
        · rw [if_pos c13] at hf
          refine zx_ev_lsw zk_16 rfl rfl (zx_pick_miss c1 (zx_pick_miss c5 (zx_pick_miss c9 (zx_pick_hit c13)))) rfl ?_
          refine zx_ev_blk zk_16 7 (pc1 := 119) (L1 := [some (.ref 38), some (.int v1), some (.int v2), some (.int v3), some (.int v4)]) (st1 := [.int v4, .int (v3 + 1), .int 1, .int v2, .ref 38]) (h1 := (zx_SC, m)) rfl ?_
          obtain ⟨⟨r15, m16⟩, hv14, hf⟩ := zx_bind_eq hf
          dsimp only at hf
          refine zx_ev_call (d := d + 0) zk_16 (v := some (.int r15)) (h1 := (zx_SC, m16)) rfl rfl zt_13 rfl zx_SCn rfl rfl (hg.2.1 _ _ _ _ _ _ hv14) ?_
          obtain rfl := Option.some.inj hf
          exact zx_ev_ret zk_16 rfl rfl
        · rw [if_neg c13] at hf
          by_cases c17 : v1 = 50
          · rw [if_pos c17] at hf
            refine zx_ev_lsw zk_16 rfl rfl (zx_pick_miss c1 (zx_pick_miss c5 (zx_pick_miss c9 (zx_pick_miss c13 (zx_pick_hit c17))))) rfl ?_
            refine zx_ev_blk zk_16 5 (pc1 := 129) (L1 := [some (.ref 38), some (.int v1), some (.int v2), some (.int v3), some (.int v4)]) (st1 := [.int v4, .int v3, .int 2, .int v2, .ref 38]) (h1 := (zx_SC, m)) rfl ?_
            obtain ⟨⟨r19, m20⟩, hv18, hf⟩ := zx_bind_eq hf
            dsimp only at hf
            refine zx_ev_call (d := d + 0) zk_16 (v := some (.int r19)) (h1 := (zx_SC, m20)) rfl rfl zt_13 rfl zx_SCn rfl rfl (hg.2.1 _ _ _ _ _ _ hv18) ?_
            refine zx_ev_blk zk_16 4 (pc1 := 137) (L1 := [some (.ref 38), some (.int v1), some (.int v2), some (.int v3), some (.int v4)]) (st1 := [.int v4, .int 2, .int 0, .ref 38, .int r19]) (h1 := (zx_SC, m20)) rfl ?_
            obtain ⟨⟨r22, m23⟩, hv21, hf⟩ := zx_bind_eq hf
            dsimp only at hf
            refine zx_ev_call (d := d + 0) zk_16 (v := some (.int r22)) (h1 := (zx_SC, m23)) rfl rfl zt_12 rfl zx_SCn rfl rfl (hg.1 _ _ _ _ _ hv21) ?_
            refine zx_ev_blk zk_16 1 (pc1 := 141) (L1 := [some (.ref 38), some (.int v1), some (.int v2), some (.int v3), some (.int v4)]) (st1 := [.int (r19 - r22)]) (h1 := (zx_SC, m23)) rfl ?_
            obtain rfl := Option.some.inj hf
            exact zx_ev_ret zk_16 rfl rfl
          · rw [if_neg c17] at hf
            by_cases c24 : v1 = 60
            · rw [if_pos c24] at hf
              refine zx_ev_lsw zk_16 rfl rfl (zx_pick_miss c1 (zx_pick_miss c5 (zx_pick_miss c9 (zx_pick_miss c13 (zx_pick_miss c17 (zx_pick_hit c24)))))) rfl ?_
              refine zx_ev_blk zk_16 5 (pc1 := 148) (L1 := [some (.ref 38), some (.int v1), some (.int v2), some (.int v3), some (.int v4)]) (st1 := [.int v4, .int v3, .int 3, .int v2, .ref 38]) (h1 := (zx_SC, m)) rfl ?_
              obtain ⟨⟨r26, m27⟩, hv25, hf⟩ := zx_bind_eq hf
              dsimp only at hf
              refine zx_ev_call (d := d + 0) zk_16 (v := some (.int r26)) (h1 := (zx_SC, m27)) rfl rfl zt_13 rfl zx_SCn rfl rfl (hg.2.1 _ _ _ _ _ _ hv25) ?_
              refine zx_ev_blk zk_16 2 (pc1 := 153) (L1 := [some (.ref 38), some (.int v1), some (.int v2), some (.int v3), some (.int v4)]) (st1 := [.int (r26 ^^^ 5)]) (h1 := (zx_SC, m27)) rfl ?_
              obtain rfl := Option.some.inj hf
              exact zx_ev_ret zk_16 rfl rfl
            · rw [if_neg c24] at hf
              by_cases c28 : v1 = 70
              · rw [if_pos c28] at hf
                refine zx_ev_lsw zk_16 rfl rfl (zx_pick_miss c1 (zx_pick_miss c5 (zx_pick_miss c9 (zx_pick_miss c13 (zx_pick_miss c17 (zx_pick_miss c24 (zx_pick_hit c28))))))) rfl ?_
                refine zx_ev_blk zk_16 5 (pc1 := 160) (L1 := [some (.ref 38), some (.int v1), some (.int v2), some (.int v3), some (.int v4)]) (st1 := [.int v4, .int v3, .int 0, .int v2, .ref 38]) (h1 := (zx_SC, m)) rfl ?_
                obtain ⟨⟨r30, m31⟩, hv29, hf⟩ := zx_bind_eq hf
                dsimp only at hf
                refine zx_ev_call (d := d + 0) zk_16 (v := some (.int r30)) (h1 := (zx_SC, m31)) rfl rfl zt_13 rfl zx_SCn rfl rfl (hg.2.1 _ _ _ _ _ _ hv29) ?_
                refine zx_ev_blk zk_16 2 (pc1 := 165) (L1 := [some (.ref 38), some (.int v1), some (.int v2), some (.int v3), some (.int v4)]) (st1 := [.int (r30 * 2)]) (h1 := (zx_SC, m31)) rfl ?_
                obtain rfl := Option.some.inj hf
                exact zx_ev_ret zk_16 rfl rfl
              · rw [if_neg c28] at hf
                by_cases c32 : v1 = 80
                · rw [if_pos c32] at hf
                  refine zx_ev_lsw zk_16 rfl rfl (zx_pick_miss c1 (zx_pick_miss c5 (zx_pick_miss c9 (zx_pick_miss c13 (zx_pick_miss c17 (zx_pick_miss c24 (zx_pick_miss c28 (zx_pick_hit c32)))))))) rfl ?_
                  refine zx_ev_blk zk_16 5 (pc1 := 172) (L1 := [some (.ref 38), some (.int v1), some (.int v2), some (.int v3), some (.int v4)]) (st1 := [.int v4, .int v3, .int 1, .int v2, .ref 38]) (h1 := (zx_SC, m)) rfl ?_
                  obtain ⟨⟨r34, m35⟩, hv33, hf⟩ := zx_bind_eq hf
                  dsimp only at hf
                  refine zx_ev_call (d := d + 0) zk_16 (v := some (.int r34)) (h1 := (zx_SC, m35)) rfl rfl zt_13 rfl zx_SCn rfl rfl (hg.2.1 _ _ _ _ _ _ hv33) ?_
                  refine zx_ev_blk zk_16 4 (pc1 := 180) (L1 := [some (.ref 38), some (.int v1), some (.int v2), some (.int v3), some (.int v4)]) (st1 := [.int v4, .int 2, .int 2, .ref 38, .int r34]) (h1 := (zx_SC, m35)) rfl ?_
                  obtain ⟨⟨r37, m38⟩, hv36, hf⟩ := zx_bind_eq hf
                  dsimp only at hf
                  refine zx_ev_call (d := d + 0) zk_16 (v := some (.int r37)) (h1 := (zx_SC, m38)) rfl rfl zt_12 rfl zx_SCn rfl rfl (hg.1 _ _ _ _ _ hv36) ?_
                  refine zx_ev_blk zk_16 1 (pc1 := 184) (L1 := [some (.ref 38), some (.int v1), some (.int v2), some (.int v3), some (.int v4)]) (st1 := [.int (r34 + r37)]) (h1 := (zx_SC, m38)) rfl ?_
                  obtain rfl := Option.some.inj hf
                  exact zx_ev_ret zk_16 rfl rfl
                · rw [if_neg c32] at hf
                  refine zx_ev_lsw zk_16 rfl rfl (zx_pick_miss c1 (zx_pick_miss c5 (zx_pick_miss c9 (zx_pick_miss c13 (zx_pick_miss c17 (zx_pick_miss c24 (zx_pick_miss c28 (zx_pick_miss c32 rfl)))))))) rfl ?_
                  refine zx_ev_blk zk_16 5 (pc1 := 191) (L1 := [some (.ref 38), some (.int v1), some (.int v2), some (.int v3), some (.int v4)]) (st1 := [.int v4, .int v3, .int 3, .int v2, .ref 38]) (h1 := (zx_SC, m)) rfl ?_
                  obtain ⟨⟨r40, m41⟩, hv39, hf⟩ := zx_bind_eq hf
                  dsimp only at hf
                  refine zx_ev_call (d := d + 0) zk_16 (v := some (.int r40)) (h1 := (zx_SC, m41)) rfl rfl zt_13 rfl zx_SCn rfl rfl (hg.2.1 _ _ _ _ _ _ hv39) ?_
                  refine zx_ev_blk zk_16 2 (pc1 := 196) (L1 := [some (.ref 38), some (.int v1), some (.int v2), some (.int v3), some (.int v4)]) (st1 := [.int (r40 - 1)]) (h1 := (zx_SC, m41)) rfl ?_
                  obtain rfl := Option.some.inj hf
                  exact zx_ev_ret zk_16 rfl rfl
def g_from_more_own_plain : Nat → GT_from_more_own_plain
  | 0 => ((fun _ _ _ _ => none), (fun _ _ _ _ _ => none), (fun _ _ _ _ => none), (fun _ _ _ _ _ => none))
  | j + 1 => ((fun x0 x1 x2 m => F_Acts_own (g_from_more_own_plain j) x0 x1 x2 m), (fun x0 x1 x2 x3 m => F_Acts_from (g_from_more_own_plain j) x0 x1 x2 x3 m), (fun x0 x1 x2 m => F_Acts_plain (g_from_more_own_plain j) x0 x1 x2 m), (fun x0 x1 x2 x3 m => F_Acts_more (g_from_more_own_plain j) x0 x1 x2 x3 m))
theorem eg_from_more_own_plain : ∀ (j d : Nat), GH_from_more_own_plain (d + 0 + j) (g_from_more_own_plain j) := by
  intro j
  induction j with
  | zero => intro d; exact ⟨(fun _ _ _ _ _ h => by simp [g_from_more_own_plain] at h), (fun _ _ _ _ _ _ h => by simp [g_from_more_own_plain] at h), (fun _ _ _ _ _ h => by simp [g_from_more_own_plain] at h), (fun _ _ _ _ _ _ h => by simp [g_from_more_own_plain] at h)⟩
  | succ j ih =>
    intro d
    have ih : ∀ d : Nat, GH_from_more_own_plain (d + j + 0) (g_from_more_own_plain j) := fun d => by rw [show d + j + 0 = d + 0 + j by omega]; exact ih d
    show GH_from_more_own_plain (d + 0 + j + 1) (g_from_more_own_plain (j + 1))
    rw [show d + 0 + j + 1 = d + j + 1 by omega]
    exact ⟨(fun _ _ _ _ _ h => s_Acts_own _ _ _ _ _ (d := d + j) (ih d) h), (fun _ _ _ _ _ _ h => s_Acts_from _ _ _ _ _ _ (d := d + j) (ih d) h), (fun _ _ _ _ _ h => s_Acts_plain _ _ _ _ _ (d := d + j) (ih d) h), (fun _ _ _ _ _ _ h => s_Acts_more _ _ _ _ _ _ (d := d + j) (ih d) h)⟩
def f_Acts_play (v1 : Int32) (v2 : Int32) (v3 : Int32) (m : zx_M) : Option (Int32 × zx_M) := zx_let (zx_u1 m 38 3 0) fun m1 => (f_Acts_isBody v1 m1).bind fun r3 => if r3 = 0 then some (0, m1) else if v2 < 0 then some (0, m1) else if v2 ≤ 3 then zx_let (zx_u1 m1 38 4 v1) fun m7 => (f_Acts_kindOf v1 m7).bind fun r9 => zx_let (zx_u1 m7 38 5 r9) fun m10 => ((g_from_more_own_plain 64).2.1 (m10.1 38 5) v2 v3 0 m10).bind fun (r12, m13) => some (r12, m13) else some (0, m1)
theorem s_Acts_play (v1 : Int32) (v2 : Int32) (v3 : Int32) (m : zx_M) {d : Nat} {y : (Int32 × zx_M)} (hf : f_Acts_play v1 v2 v3 m = some y) : zx_Ev (d + 65) 9 0 [some (.ref 38), some (.int v1), some (.int v2), some (.int v3)] [] (zx_SC, m) (some (.int y.1), (zx_SC, y.2)) := by
  unfold f_Acts_play at hf
  obtain ⟨m1, hm1, hf⟩ := zx_let_eq hf
  refine zx_ev_blk zk_9 5 (pc1 := 7) (L1 := [some (.ref 38), some (.int v1), some (.int v2), some (.int v3)]) (st1 := [.int v1, .ref 38]) (h1 := (zx_SC, m1)) (by subst hm1; rfl) ?_
  obtain ⟨r3, hv2, hf⟩ := zx_bind_eq hf
  refine zx_ev_call (d := d + 64) zk_9 (v := some (.int r3)) (h1 := (zx_SC, m1)) rfl rfl zt_4 rfl zx_SCn rfl rfl (s_Acts_isBody _ _ (d := d + 64) hv2) ?_
  by_cases c4 : r3 = 0
  · rw [if_pos c4] at hf
    refine zx_ev_ift zk_9 (P := r3 = 0) (t := 22) (f := 13) rfl rfl c4 ?_
    refine zx_ev_blk zk_9 1 (pc1 := 23) (L1 := [some (.ref 38), some (.int v1), some (.int v2), some (.int v3)]) (st1 := [.int 0]) (h1 := (zx_SC, m1)) rfl ?_
    obtain rfl := Option.some.inj hf
    exact zx_ev_ret zk_9 rfl rfl
  · rw [if_neg c4] at hf
    refine zx_ev_ifn zk_9 (P := r3 = 0) (t := 22) (f := 13) rfl rfl c4 ?_
    refine zx_ev_blk zk_9 1 (pc1 := 14) (L1 := [some (.ref 38), some (.int v1), some (.int v2), some (.int v3)]) (st1 := [.int v2]) (h1 := (zx_SC, m1)) rfl ?_
    by_cases c5 : v2 < 0
    · rw [if_pos c5] at hf
      refine zx_ev_ift zk_9 (P := v2 < 0) (t := 22) (f := 17) rfl rfl c5 ?_
      refine zx_ev_blk zk_9 1 (pc1 := 23) (L1 := [some (.ref 38), some (.int v1), some (.int v2), some (.int v3)]) (st1 := [.int 0]) (h1 := (zx_SC, m1)) rfl ?_
      obtain rfl := Option.some.inj hf
      exact zx_ev_ret zk_9 rfl rfl
    · rw [if_neg c5] at hf
      refine zx_ev_ifn zk_9 (P := v2 < 0) (t := 22) (f := 17) rfl rfl c5 ?_
      refine zx_ev_blk zk_9 2 (pc1 := 19) (L1 := [some (.ref 38), some (.int v1), some (.int v2), some (.int v3)]) (st1 := [.int 3, .int v2]) (h1 := (zx_SC, m1)) rfl ?_
      by_cases c6 : v2 ≤ 3
      · rw [if_pos c6] at hf
        refine zx_ev_ift zk_9 (P := v2 ≤ 3) (t := 24) (f := 22) rfl rfl c6 ?_
        obtain ⟨m7, hm7, hf⟩ := zx_let_eq hf
        refine zx_ev_blk zk_9 6 (pc1 := 32) (L1 := [some (.ref 38), some (.int v1), some (.int v2), some (.int v3)]) (st1 := [.int v1, .ref 38, .ref 38]) (h1 := (zx_SC, m7)) (by subst hm7; rfl) ?_
        obtain ⟨r9, hv8, hf⟩ := zx_bind_eq hf
        refine zx_ev_call (d := d + 64) zk_9 (v := some (.int r9)) (h1 := (zx_SC, m7)) rfl rfl zt_6 rfl zx_SCn rfl rfl (s_Acts_kindOf _ _ (d := d + 63) hv8) ?_
        obtain ⟨m10, hm10, hf⟩ := zx_let_eq hf
        refine zx_ev_blk zk_9 7 (pc1 := 46) (L1 := [some (.ref 38), some (.int v1), some (.int v2), some (.int v3)]) (st1 := [.int 0, .int v3, .int v2, .int (m10.1 38 5), .ref 38]) (h1 := (zx_SC, m10)) (by subst hm10; rfl) ?_
        obtain ⟨⟨r12, m13⟩, hv11, hf⟩ := zx_bind_eq hf
        dsimp only at hf
        refine zx_ev_call (d := d + 64) zk_9 (v := some (.int r12)) (h1 := (zx_SC, m13)) rfl rfl zt_13 rfl zx_SCn rfl rfl ((eg_from_more_own_plain 64 (d + 0)).2.1 _ _ _ _ _ _ hv11) ?_
        obtain rfl := Option.some.inj hf
        exact zx_ev_ret zk_9 rfl rfl
      · rw [if_neg c6] at hf
        refine zx_ev_ifn zk_9 (P := v2 ≤ 3) (t := 24) (f := 22) rfl rfl c6 ?_
        refine zx_ev_blk zk_9 1 (pc1 := 23) (L1 := [some (.ref 38), some (.int v1), some (.int v2), some (.int v3)]) (st1 := [.int 0]) (h1 := (zx_SC, m1)) rfl ?_
        obtain rfl := Option.some.inj hf
        exact zx_ev_ret zk_9 rfl rfl
def f_Jumps_become_28_34 (m : zx_M) : Option zx_M := (zx_ck 7 7 0 0 7).bind fun j1 => zx_let (zx_w1 m 29 (va_cpy (m.1 35) (m.1 29) (0 : Int32).toNatClampNeg (0 : Int32).toNatClampNeg j1)) fun m2 => (zx_ck 7 7 0 0 7).bind fun j3 => zx_let (zx_w1 m2 30 (va_cpy (m2.1 36) (m2.1 30) (0 : Int32).toNatClampNeg (0 : Int32).toNatClampNeg j3)) fun m4 => (zx_ck 7 7 0 0 7).bind fun j5 => if zx_01 (fun i => m4.1 37 ((0 : Int32).toNatClampNeg + i)) j5 = true then zx_let (zx_w1 m4 31 (va_cpy (m4.1 37) (m4.1 31) (0 : Int32).toNatClampNeg (0 : Int32).toNatClampNeg j5)) fun m7 => zx_let (zx_u1 m7 28 4 (m7.1 34 4)) fun m8 => some m8 else none
theorem s_Jumps_become_28_34 (m : zx_M) {d : Nat} {y : zx_M} (hf : f_Jumps_become_28_34 m = some y) : zx_Ev (d + 1) 34 0 [some (.ref 28), some (.ref 34)] [] (zx_SC, m) (none, (zx_SC, y)) := by
  unfold f_Jumps_become_28_34 at hf
  refine zx_ev_blk zk_34 9 (pc1 := 17) (L1 := [some (.ref 28), some (.ref 34)]) (st1 := [.int 7, .int 0, .ref 29, .int 0, .ref 35]) (h1 := (zx_SC, m)) rfl ?_
  obtain ⟨j1, hj1, hf⟩ := zx_bind_eq hf
  refine zx_ev_step zk_34 rfl (st_cpi rfl (Nat.le_of_ble_eq_true rfl) rfl rfl hj1) ?_
  obtain ⟨m2, hm2, hf⟩ := zx_let_eq hf
  rw [hm2]
  refine zx_ev_blk zk_34 7 (pc1 := 32) (L1 := [some (.ref 28), some (.ref 34)]) (st1 := [.int 7, .int 0, .ref 30, .int 0, .ref 36]) (h1 := (zx_SC, m2)) rfl ?_
  obtain ⟨j3, hj3, hf⟩ := zx_bind_eq hf
  refine zx_ev_step zk_34 rfl (st_cpi rfl (Nat.le_of_ble_eq_true rfl) rfl rfl hj3) ?_
  obtain ⟨m4, hm4, hf⟩ := zx_let_eq hf
  rw [hm4]
  refine zx_ev_blk zk_34 7 (pc1 := 47) (L1 := [some (.ref 28), some (.ref 34)]) (st1 := [.int 7, .int 0, .ref 31, .int 0, .ref 37]) (h1 := (zx_SC, m4)) rfl ?_
  obtain ⟨j5, hj5, hf⟩ := zx_bind_eq hf
  by_cases c6 : zx_01 (fun i => m4.1 37 ((0 : Int32).toNatClampNeg + i)) j5 = true
  · rw [if_pos c6] at hf
    refine zx_ev_step zk_34 rfl (st_cpz rfl (Nat.le_of_ble_eq_true rfl) rfl rfl hj5 c6) ?_
    obtain ⟨m7, hm7, hf⟩ := zx_let_eq hf
    rw [hm7]
    obtain ⟨m8, hm8, hf⟩ := zx_let_eq hf
    refine zx_ev_blk zk_34 4 (pc1 := 58) (L1 := [some (.ref 28), some (.ref 34)]) (st1 := []) (h1 := (zx_SC, m8)) (by subst hm8; rfl) ?_
    obtain rfl := Option.some.inj hf
    exact zx_ev_ret zk_34 rfl rfl
  · rw [if_neg c6] at hf; cases hf
def f_Deed_become_26_32 (m : zx_M) : Option zx_M := (f_Jumps_become_28_34 m).bind fun m2 => (zx_ck 7 7 0 0 7).bind fun j3 => if zx_01 (fun i => m2.1 33 ((0 : Int32).toNatClampNeg + i)) j3 = true then zx_let (zx_w1 m2 27 (va_cpy (m2.1 33) (m2.1 27) (0 : Int32).toNatClampNeg (0 : Int32).toNatClampNeg j3)) fun m5 => if (m5.1 32 3) = 0 ∨ (m5.1 32 3) = 1 then zx_let (zx_u1 m5 26 3 (m5.1 32 3)) fun m7 => zx_let (zx_u1 m7 26 4 (m7.1 32 4)) fun m8 => zx_let (zx_u1 m8 26 5 (m8.1 32 5)) fun m9 => zx_let (zx_u1 m9 26 6 (m9.1 32 6)) fun m10 => zx_let (zx_u1 m10 26 7 (m10.1 32 7)) fun m11 => zx_let (zx_u1 m11 26 8 (m11.1 32 8)) fun m12 => zx_let (zx_u1 m12 26 9 (m12.1 32 9)) fun m13 => zx_let (zx_u1 m13 26 10 (m13.1 32 10)) fun m14 => some m14 else none else none
theorem s_Deed_become_26_32 (m : zx_M) {d : Nat} {y : zx_M} (hf : f_Deed_become_26_32 m = some y) : zx_Ev (d + 2) 24 0 [some (.ref 26), some (.ref 32)] [] (zx_SC, m) (none, (zx_SC, y)) := by
  unfold f_Deed_become_26_32 at hf
  refine zx_ev_blk zk_24 6 (pc1 := 13) (L1 := [some (.ref 26), some (.ref 32)]) (st1 := [.ref 34, .ref 28]) (h1 := (zx_SC, m)) rfl ?_
  obtain ⟨m2, hv1, hf⟩ := zx_bind_eq hf
  refine zx_ev_call (d := d + 1) zk_24 (v := none) (h1 := (zx_SC, m2)) rfl rfl zt_34 rfl zx_SCn rfl rfl (s_Jumps_become_28_34 _ (d := d + 0) hv1) ?_
  refine zx_ev_blk zk_24 7 (pc1 := 28) (L1 := [some (.ref 26), some (.ref 32)]) (st1 := [.int 7, .int 0, .ref 27, .int 0, .ref 33]) (h1 := (zx_SC, m2)) rfl ?_
  obtain ⟨j3, hj3, hf⟩ := zx_bind_eq hf
  by_cases c4 : zx_01 (fun i => m2.1 33 ((0 : Int32).toNatClampNeg + i)) j3 = true
  · rw [if_pos c4] at hf
    refine zx_ev_step zk_24 rfl (st_cpz rfl (Nat.le_of_ble_eq_true rfl) rfl rfl hj3 c4) ?_
    obtain ⟨m5, hm5, hf⟩ := zx_let_eq hf
    rw [hm5]
    refine zx_ev_blk zk_24 3 (pc1 := 36) (L1 := [some (.ref 26), some (.ref 32)]) (st1 := [.int (m5.1 32 3), .ref 26]) (h1 := (zx_SC, m5)) rfl ?_
    by_cases c6 : (m5.1 32 3) = 0 ∨ (m5.1 32 3) = 1
    · rw [if_pos c6] at hf
      refine zx_ev_step zk_24 rfl (st_pfz rfl rfl rfl rfl rfl c6) ?_
      obtain ⟨m7, hm7, hf⟩ := zx_let_eq hf
      rw [hm7]
      obtain ⟨m8, hm8, hf⟩ := zx_let_eq hf
      obtain ⟨m9, hm9, hf⟩ := zx_let_eq hf
      obtain ⟨m10, hm10, hf⟩ := zx_let_eq hf
      obtain ⟨m11, hm11, hf⟩ := zx_let_eq hf
      obtain ⟨m12, hm12, hf⟩ := zx_let_eq hf
      obtain ⟨m13, hm13, hf⟩ := zx_let_eq hf
      obtain ⟨m14, hm14, hf⟩ := zx_let_eq hf
      refine zx_ev_blk zk_24 28 (pc1 := 95) (L1 := [some (.ref 26), some (.ref 32)]) (st1 := []) (h1 := (zx_SC, m14)) (by subst hm8; subst hm9; subst hm10; subst hm11; subst hm12; subst hm13; subst hm14; rfl) ?_
      obtain rfl := Option.some.inj hf
      exact zx_ev_ret zk_24 rfl rfl
    · rw [if_neg c6] at hf; cases hf
  · rw [if_neg c4] at hf; cases hf
def f_Deed_drops_26 (m : zx_M) : Option Int32 := some (m.1 26 6)
theorem s_Deed_drops_26 (m : zx_M) {d : Nat} {y : Int32} (hf : f_Deed_drops_26 m = some y) : zx_Ev (d) 25 0 [some (.ref 26)] [] (zx_SC, m) (some (.int y), (zx_SC, m)) := by
  unfold f_Deed_drops_26 at hf
  refine zx_ev_blk zk_25 2 (pc1 := 4) (L1 := [some (.ref 26)]) (st1 := [.int (m.1 26 6)]) (h1 := (zx_SC, m)) rfl ?_
  obtain rfl := Option.some.inj hf
  exact zx_ev_ret zk_25 rfl rfl
def f_Jumps_clear_28 (m : zx_M) : Option zx_M := zx_let (zx_u1 m 28 4 0) fun m1 => some m1
theorem s_Jumps_clear_28 (m : zx_M) {d : Nat} {y : zx_M} (hf : f_Jumps_clear_28 m = some y) : zx_Ev (d) 33 0 [some (.ref 28)] [] (zx_SC, m) (none, (zx_SC, y)) := by
  unfold f_Jumps_clear_28 at hf
  obtain ⟨m1, hm1, hf⟩ := zx_let_eq hf
  refine zx_ev_blk zk_33 3 (pc1 := 5) (L1 := [some (.ref 28)]) (st1 := []) (h1 := (zx_SC, m1)) (by subst hm1; rfl) ?_
  obtain rfl := Option.some.inj hf
  exact zx_ev_ret zk_33 rfl rfl
def kx_Deed_start_26_l34 (v1 : Int32) (d : Nat) (out : Option Value × zx_H) : (Int32 × zx_M) → Prop
  | y => out = (some (.int y.1), (zx_SC, y.2))
def kl_Deed_start_26_l34 (v1 : Int32) (d : Nat) (out : Option Value × zx_H) : (Int32 × zx_M) ⊕ ((Int32 × zx_M)) → Prop
  | .inl (v2, m) => zx_Ev (d + 1) 26 34 [some (.ref 26), some (.int v1), some (.int v2)] [] (zx_SC, m) out
  | .inr x => kx_Deed_start_26_l34 v1 d out x
def b_Deed_start_26_l34 (v1 : Int32) (v2 : Int32) (m : zx_M) : Option ((Int32 × zx_M) ⊕ ((Int32 × zx_M))) := if 7 ≤ v2 then some (.inr (v1, m)) else (zx_ix 7 v2).bind fun j8 => zx_let (zx_u1 m 27 j8 0) fun m9 => zx_let (v2 + 1) fun a10 => some (.inl (a10, m9))
theorem eb_Deed_start_26_l34 (v1 : Int32) (v2 : Int32) (m : zx_M) {d : Nat} {out : Option Value × zx_H} {y : (Int32 × zx_M) ⊕ ((Int32 × zx_M))} (hf : b_Deed_start_26_l34 v1 v2 m = some y) (hK : kl_Deed_start_26_l34 v1 d out y) : zx_Ev (d + 1) 26 34 [some (.ref 26), some (.int v1), some (.int v2)] [] (zx_SC, m) out := by
  unfold b_Deed_start_26_l34 at hf
  refine zx_ev_blk zk_26 4 (pc1 := 40) (L1 := [some (.ref 26), some (.int v1), some (.int v2)]) (st1 := [.int 7, .int v2]) (h1 := (zx_SC, m)) rfl ?_
  by_cases c7 : 7 ≤ v2
  · rw [if_pos c7] at hf
    refine zx_ev_ift zk_26 (P := 7 ≤ v2) (t := 56) (f := 43) rfl rfl c7 ?_
    refine zx_ev_blk zk_26 1 (pc1 := 57) (L1 := [some (.ref 26), some (.int v1), some (.int v2)]) (st1 := [.int v1]) (h1 := (zx_SC, m)) rfl ?_
    obtain rfl := Option.some.inj hf
    rw [show out = _ from hK]
    exact zx_ev_ret zk_26 rfl rfl
  · rw [if_neg c7] at hf
    refine zx_ev_ifn zk_26 (P := 7 ≤ v2) (t := 56) (f := 43) rfl rfl c7 ?_
    refine zx_ev_blk zk_26 4 (pc1 := 49) (L1 := [some (.ref 26), some (.int v1), some (.int v2)]) (st1 := [.int 0, .int v2, .ref 27]) (h1 := (zx_SC, m)) rfl ?_
    obtain ⟨j8, hj8, hf⟩ := zx_bind_eq hf
    refine zx_ev_step zk_26 rfl (st_zast rfl hj8 (Or.inl rfl)) ?_
    obtain ⟨m9, hm9, hf⟩ := zx_let_eq hf
    rw [hm9]
    obtain ⟨a10, ha10, hf⟩ := zx_let_eq hf
    refine zx_ev_blk zk_26 2 (pc1 := 34) (L1 := [some (.ref 26), some (.int v1), some (.int a10)]) (st1 := []) (h1 := (zx_SC, m9)) (by subst ha10; rfl) ?_
    obtain rfl := Option.some.inj hf
    exact zx_ev_sub (L := [some (.ref 26), some (.int v1), some (.int a10)]) (⟨rfl, ⟨rfl, ⟨rfl, trivial⟩⟩⟩) hK
def l_Deed_start_26_l34 (v1 : Int32) (s0 : Int32 × zx_M) : Option ((Int32 × zx_M)) := zx_lp zx_N (fun s : Int32 × zx_M => b_Deed_start_26_l34 v1 s.1 s.2) s0
theorem el_Deed_start_26_l34 (v1 : Int32) {d : Nat} {out : Option Value × zx_H} : ∀ (n : Nat) (s : Int32 × zx_M) (x : (Int32 × zx_M)), zx_lp n (fun s : Int32 × zx_M => b_Deed_start_26_l34 v1 s.1 s.2) s = some x → kx_Deed_start_26_l34 v1 d out x → zx_Ev (d + 1) 26 34 [some (.ref 26), some (.int v1), some (.int s.1)] [] (zx_SC, s.2) out := by
  intro n
  induction n with
  | zero => intro s x hl _; simp [zx_lp] at hl
  | succ n ih =>
    intro s x hl hx
    unfold zx_lp at hl
    cases hb : b_Deed_start_26_l34 v1 s.1 s.2 with
    | none => simp only [hb] at hl; cases hl
    | some z =>
      simp only [hb] at hl
      cases z with
      | inl s1 => exact eb_Deed_start_26_l34 v1 s.1 s.2 hb (ih s1 x hl hx)
      | inr t =>
        simp only [Option.some.injEq] at hl
        subst hl
        exact eb_Deed_start_26_l34 v1 s.1 s.2 hb hx
def f_Deed_start_26 (v1 : Int32) (m : zx_M) : Option (Int32 × zx_M) := if (m.1 26 3) = 0 then zx_let (zx_u1 m 26 3 1) fun m2 => zx_let (zx_u1 m2 26 4 v1) fun m3 => zx_let (zx_u1 m3 26 5 0) fun m4 => (f_Jumps_clear_28 m4).bind fun m6 => (l_Deed_start_26_l34 v1 (0, m6)).bind fun x11 => zx_let x11 fun y12 => some y12 else some ((-2000000000), m)
theorem s_Deed_start_26 (v1 : Int32) (m : zx_M) {d : Nat} {y : (Int32 × zx_M)} (hf : f_Deed_start_26 v1 m = some y) : zx_Ev (d + 1) 26 0 [some (.ref 26), some (.int v1), none] [] (zx_SC, m) (some (.int y.1), (zx_SC, y.2)) := by
  unfold f_Deed_start_26 at hf
  refine zx_ev_blk zk_26 2 (pc1 := 4) (L1 := [some (.ref 26), some (.int v1), none]) (st1 := [.int (m.1 26 3)]) (h1 := (zx_SC, m)) rfl ?_
  by_cases c1 : (m.1 26 3) = 0
  · rw [if_pos c1] at hf
    refine zx_ev_ift zk_26 (P := (m.1 26 3) = 0) (t := 10) (f := 7) rfl rfl c1 ?_
    obtain ⟨m2, hm2, hf⟩ := zx_let_eq hf
    obtain ⟨m3, hm3, hf⟩ := zx_let_eq hf
    obtain ⟨m4, hm4, hf⟩ := zx_let_eq hf
    refine zx_ev_blk zk_26 11 (pc1 := 29) (L1 := [some (.ref 26), some (.int v1), none]) (st1 := [.ref 28]) (h1 := (zx_SC, m4)) (by subst hm2; subst hm3; subst hm4; rfl) ?_
    obtain ⟨m6, hv5, hf⟩ := zx_bind_eq hf
    refine zx_ev_call (d := d + 0) zk_26 (v := none) (h1 := (zx_SC, m6)) rfl rfl zt_33 rfl zx_SCn rfl rfl (s_Jumps_clear_28 _ (d := d + 0) hv5) ?_
    refine zx_ev_blk zk_26 2 (pc1 := 34) (L1 := [some (.ref 26), some (.int v1), some (.int 0)]) (st1 := []) (h1 := (zx_SC, m6)) rfl ?_
    obtain ⟨x11, hx11, hf⟩ := zx_bind_eq hf
    refine zx_ev_sub (L := [some (.ref 26), some (.int v1), some (.int 0)]) (⟨rfl, ⟨rfl, ⟨rfl, trivial⟩⟩⟩) (el_Deed_start_26_l34 v1 zx_N (0, m6) x11 hx11 ?_)
    obtain ⟨y12, hy12, hf⟩ := zx_let_eq hf
    subst hy12
    obtain rfl := Option.some.inj hf
    rfl
  · rw [if_neg c1] at hf
    refine zx_ev_ifn zk_26 (P := (m.1 26 3) = 0) (t := 10) (f := 7) rfl rfl c1 ?_
    refine zx_ev_blk zk_26 1 (pc1 := 9) (L1 := [some (.ref 26), some (.int v1), none]) (st1 := [.int (-2000000000)]) (h1 := (zx_SC, m)) rfl ?_
    obtain rfl := Option.some.inj hf
    exact zx_ev_ret zk_26 rfl rfl
def f_Acts_newBody (v1 : Int32) (m : zx_M) : Option (Int32 × zx_M) := (f_Acts_isKind v1 m).bind fun r2 => if ¬ r2 = 0 then if (m.1 38 1) < 0 then some ((-3), m) else if (m.1 38 1) < 50 then (zx_ix 50 (m.1 38 1)).bind fun j6 => zx_let (zx_u1 m 39 j6 v1) fun m7 => zx_let (zx_u1 m7 38 1 ((m7.1 38 1) + 1)) fun m8 => some ((m8.1 38 1) - 1, m8) else some ((-3), m) else some ((-1), m)
theorem s_Acts_newBody (v1 : Int32) (m : zx_M) {d : Nat} {y : (Int32 × zx_M)} (hf : f_Acts_newBody v1 m = some y) : zx_Ev (d + 1) 5 0 [some (.ref 38), some (.int v1)] [] (zx_SC, m) (some (.int y.1), (zx_SC, y.2)) := by
  unfold f_Acts_newBody at hf
  refine zx_ev_blk zk_5 2 (pc1 := 2) (L1 := [some (.ref 38), some (.int v1)]) (st1 := [.int v1, .ref 38]) (h1 := (zx_SC, m)) rfl ?_
  obtain ⟨r2, hv1, hf⟩ := zx_bind_eq hf
  refine zx_ev_call (d := d + 0) zk_5 (v := some (.int r2)) (h1 := (zx_SC, m)) rfl rfl zt_3 rfl zx_SCn rfl rfl (s_Acts_isKind _ _ (d := d + 0) hv1) ?_
  by_cases c3 : ¬ r2 = 0
  · rw [if_pos c3] at hf
    refine zx_ev_ift zk_5 (P := ¬ r2 = 0) (t := 10) (f := 8) rfl rfl c3 ?_
    refine zx_ev_blk zk_5 2 (pc1 := 14) (L1 := [some (.ref 38), some (.int v1)]) (st1 := [.int (m.1 38 1)]) (h1 := (zx_SC, m)) rfl ?_
    by_cases c4 : (m.1 38 1) < 0
    · rw [if_pos c4] at hf
      refine zx_ev_ift zk_5 (P := (m.1 38 1) < 0) (t := 26) (f := 17) rfl rfl c4 ?_
      refine zx_ev_blk zk_5 1 (pc1 := 28) (L1 := [some (.ref 38), some (.int v1)]) (st1 := [.int (-3)]) (h1 := (zx_SC, m)) rfl ?_
      obtain rfl := Option.some.inj hf
      exact zx_ev_ret zk_5 rfl rfl
    · rw [if_neg c4] at hf
      refine zx_ev_ifn zk_5 (P := (m.1 38 1) < 0) (t := 26) (f := 17) rfl rfl c4 ?_
      refine zx_ev_blk zk_5 3 (pc1 := 23) (L1 := [some (.ref 38), some (.int v1)]) (st1 := [.int 50, .int (m.1 38 1)]) (h1 := (zx_SC, m)) rfl ?_
      by_cases c5 : (m.1 38 1) < 50
      · rw [if_pos c5] at hf
        refine zx_ev_ift zk_5 (P := (m.1 38 1) < 50) (t := 29) (f := 26) rfl rfl c5 ?_
        refine zx_ev_blk zk_5 5 (pc1 := 38) (L1 := [some (.ref 38), some (.int v1)]) (st1 := [.int v1, .int (m.1 38 1), .ref 39]) (h1 := (zx_SC, m)) rfl ?_
        obtain ⟨j6, hj6, hf⟩ := zx_bind_eq hf
        refine zx_ev_step zk_5 rfl (st_iast rfl hj6) ?_
        obtain ⟨m7, hm7, hf⟩ := zx_let_eq hf
        rw [hm7]
        obtain ⟨m8, hm8, hf⟩ := zx_let_eq hf
        refine zx_ev_blk zk_5 10 (pc1 := 55) (L1 := [some (.ref 38), some (.int v1)]) (st1 := [.int ((m8.1 38 1) - 1)]) (h1 := (zx_SC, m8)) (by subst hm8; rfl) ?_
        obtain rfl := Option.some.inj hf
        exact zx_ev_ret zk_5 rfl rfl
      · rw [if_neg c5] at hf
        refine zx_ev_ifn zk_5 (P := (m.1 38 1) < 50) (t := 29) (f := 26) rfl rfl c5 ?_
        refine zx_ev_blk zk_5 1 (pc1 := 28) (L1 := [some (.ref 38), some (.int v1)]) (st1 := [.int (-3)]) (h1 := (zx_SC, m)) rfl ?_
        obtain rfl := Option.some.inj hf
        exact zx_ev_ret zk_5 rfl rfl
  · rw [if_neg c3] at hf
    refine zx_ev_ifn zk_5 (P := ¬ r2 = 0) (t := 10) (f := 8) rfl rfl c3 ?_
    refine zx_ev_blk zk_5 1 (pc1 := 9) (L1 := [some (.ref 38), some (.int v1)]) (st1 := [.int (-1)]) (h1 := (zx_SC, m)) rfl ?_
    obtain rfl := Option.some.inj hf
    exact zx_ev_ret zk_5 rfl rfl
def f_Numbers_isJumper (v1 : Int32) (m : zx_M) : Option Int32 := if v1 < 0 then some 0 else if (m.1 1 2) ≤ v1 then some 0 else some 1
theorem s_Numbers_isJumper (v1 : Int32) (m : zx_M) {d : Nat} {y : Int32} (hf : f_Numbers_isJumper v1 m = some y) : zx_Ev (d) 43 0 [some (.ref 1), some (.int v1)] [] (zx_SC, m) (some (.int y), (zx_SC, m)) := by
  unfold f_Numbers_isJumper at hf
  refine zx_ev_blk zk_43 1 (pc1 := 1) (L1 := [some (.ref 1), some (.int v1)]) (st1 := [.int v1]) (h1 := (zx_SC, m)) rfl ?_
  by_cases c1 : v1 < 0
  · rw [if_pos c1] at hf
    refine zx_ev_ift zk_43 (P := v1 < 0) (t := 16) (f := 4) rfl rfl c1 ?_
    refine zx_ev_blk zk_43 1 (pc1 := 17) (L1 := [some (.ref 1), some (.int v1)]) (st1 := [.int 0]) (h1 := (zx_SC, m)) rfl ?_
    obtain rfl := Option.some.inj hf
    exact zx_ev_ret zk_43 rfl (zx_ret_z (Or.inl rfl))
  · rw [if_neg c1] at hf
    refine zx_ev_ifn zk_43 (P := v1 < 0) (t := 16) (f := 4) rfl rfl c1 ?_
    refine zx_ev_blk zk_43 3 (pc1 := 9) (L1 := [some (.ref 1), some (.int v1)]) (st1 := [.int (m.1 1 2), .int v1]) (h1 := (zx_SC, m)) rfl ?_
    by_cases c2 : (m.1 1 2) ≤ v1
    · rw [if_pos c2] at hf
      refine zx_ev_ift zk_43 (P := (m.1 1 2) ≤ v1) (t := 16) (f := 12) rfl rfl c2 ?_
      refine zx_ev_blk zk_43 1 (pc1 := 17) (L1 := [some (.ref 1), some (.int v1)]) (st1 := [.int 0]) (h1 := (zx_SC, m)) rfl ?_
      obtain rfl := Option.some.inj hf
      exact zx_ev_ret zk_43 rfl (zx_ret_z (Or.inl rfl))
    · rw [if_neg c2] at hf
      refine zx_ev_ifn zk_43 (P := (m.1 1 2) ≤ v1) (t := 16) (f := 12) rfl rfl c2 ?_
      refine zx_ev_blk zk_43 2 (pc1 := 17) (L1 := [some (.ref 1), some (.int v1)]) (st1 := [.int 1]) (h1 := (zx_SC, m)) rfl ?_
      obtain rfl := Option.some.inj hf
      exact zx_ev_ret zk_43 rfl (zx_ret_z (Or.inr rfl))
def n_Numbers_told_n24 (v1 : Int32) (v2 : Int32) (m : zx_M) : Option Int32 := zx_let ((v1 * 4) + v2) fun a3 => if a3 < 0 then some 0 else if 28 ≤ a3 then some 0 else (zx_ix 28 a3).bind fun j6 => some (m.1 3 j6)
theorem e_Numbers_told_n24 (v1 : Int32) (v2 : Int32) (m : zx_M) {d : Nat} {y : Int32} (hf : n_Numbers_told_n24 v1 v2 m = some y) : zx_Ev (d) 46 24 [some (.ref 1), some (.int v1), some (.int v2), none, none] [] (zx_SC, m) (some (.int y), (zx_SC, m)) := by
  unfold n_Numbers_told_n24 at hf
  obtain ⟨a3, ha3, hf⟩ := zx_let_eq hf
  refine zx_ev_blk zk_46 7 (pc1 := 33) (L1 := [some (.ref 1), some (.int v1), some (.int v2), none, some (.int a3)]) (st1 := [.int a3]) (h1 := (zx_SC, m)) (by subst ha3; rfl) ?_
  by_cases c4 : a3 < 0
  · rw [if_pos c4] at hf
    refine zx_ev_ift zk_46 (P := a3 < 0) (t := 56) (f := 36) rfl rfl c4 ?_
    refine zx_ev_blk zk_46 1 (pc1 := 57) (L1 := [some (.ref 1), some (.int v1), some (.int v2), none, some (.int a3)]) (st1 := [.int 0]) (h1 := (zx_SC, m)) rfl ?_
    obtain rfl := Option.some.inj hf
    exact zx_ev_ret zk_46 rfl rfl
  · rw [if_neg c4] at hf
    refine zx_ev_ifn zk_46 (P := a3 < 0) (t := 56) (f := 36) rfl rfl c4 ?_
    refine zx_ev_blk zk_46 4 (pc1 := 43) (L1 := [some (.ref 1), some (.int v1), some (.int v2), none, some (.int a3)]) (st1 := [.int 28, .int a3]) (h1 := (zx_SC, m)) rfl ?_
    by_cases c5 : 28 ≤ a3
    · rw [if_pos c5] at hf
      refine zx_ev_ift zk_46 (P := 28 ≤ a3) (t := 56) (f := 46) rfl rfl c5 ?_
      refine zx_ev_blk zk_46 1 (pc1 := 57) (L1 := [some (.ref 1), some (.int v1), some (.int v2), none, some (.int a3)]) (st1 := [.int 0]) (h1 := (zx_SC, m)) rfl ?_
      obtain rfl := Option.some.inj hf
      exact zx_ev_ret zk_46 rfl rfl
    · rw [if_neg c5] at hf
      refine zx_ev_ifn zk_46 (P := 28 ≤ a3) (t := 56) (f := 46) rfl rfl c5 ?_
      refine zx_ev_blk zk_46 3 (pc1 := 52) (L1 := [some (.ref 1), some (.int v1), some (.int v2), none, some (.int a3)]) (st1 := [.int a3, .ref 3]) (h1 := (zx_SC, m)) rfl ?_
      obtain ⟨j6, hj6, hf⟩ := zx_bind_eq hf
      refine zx_ev_step zk_46 rfl (st_iald rfl rfl hj6) ?_
      refine zx_ev_blk zk_46 1 (pc1 := 57) (L1 := [some (.ref 1), some (.int v1), some (.int v2), none, some (.int a3)]) (st1 := [.int (m.1 3 j6)]) (h1 := (zx_SC, m)) rfl ?_
      obtain rfl := Option.some.inj hf
      exact zx_ev_ret zk_46 rfl rfl
def f_Numbers_told (v1 : Int32) (v2 : Int32) (m : zx_M) : Option Int32 := zx_let (v2 - 4) fun a1 => if a1 < 0 then n_Numbers_told_n24 v1 v2 m else if 8 ≤ a1 then n_Numbers_told_n24 v1 v2 m else (zx_ix 8 a1).bind fun j8 => some (m.1 2 j8)
theorem s_Numbers_told (v1 : Int32) (v2 : Int32) (m : zx_M) {d : Nat} {y : Int32} (hf : f_Numbers_told v1 v2 m = some y) : zx_Ev (d) 46 0 [some (.ref 1), some (.int v1), some (.int v2), none, none] [] (zx_SC, m) (some (.int y), (zx_SC, m)) := by
  unfold f_Numbers_told at hf
  obtain ⟨a1, ha1, hf⟩ := zx_let_eq hf
  refine zx_ev_blk zk_46 5 (pc1 := 5) (L1 := [some (.ref 1), some (.int v1), some (.int v2), some (.int a1), none]) (st1 := [.int a1]) (h1 := (zx_SC, m)) (by subst ha1; rfl) ?_
  by_cases c2 : a1 < 0
  · rw [if_pos c2] at hf
    refine zx_ev_ift zk_46 (P := a1 < 0) (t := 24) (f := 8) rfl rfl c2 ?_
    exact zx_ev_sub (L := [some (.ref 1), some (.int v1), some (.int v2), none, none]) (⟨rfl, ⟨rfl, ⟨rfl, ⟨trivial, trivial⟩⟩⟩⟩) (e_Numbers_told_n24 v1 v2 m hf)
  · rw [if_neg c2] at hf
    refine zx_ev_ifn zk_46 (P := a1 < 0) (t := 24) (f := 8) rfl rfl c2 ?_
    refine zx_ev_blk zk_46 4 (pc1 := 14) (L1 := [some (.ref 1), some (.int v1), some (.int v2), some (.int a1), none]) (st1 := [.int 8, .int a1]) (h1 := (zx_SC, m)) rfl ?_
    by_cases c7 : 8 ≤ a1
    · rw [if_pos c7] at hf
      refine zx_ev_ift zk_46 (P := 8 ≤ a1) (t := 24) (f := 17) rfl rfl c7 ?_
      exact zx_ev_sub (L := [some (.ref 1), some (.int v1), some (.int v2), none, none]) (⟨rfl, ⟨rfl, ⟨rfl, ⟨trivial, trivial⟩⟩⟩⟩) (e_Numbers_told_n24 v1 v2 m hf)
    · rw [if_neg c7] at hf
      refine zx_ev_ifn zk_46 (P := 8 ≤ a1) (t := 24) (f := 17) rfl rfl c7 ?_
      refine zx_ev_blk zk_46 3 (pc1 := 22) (L1 := [some (.ref 1), some (.int v1), some (.int v2), some (.int a1), none]) (st1 := [.int a1, .ref 2]) (h1 := (zx_SC, m)) rfl ?_
      obtain ⟨j8, hj8, hf⟩ := zx_bind_eq hf
      refine zx_ev_step zk_46 rfl (st_iald rfl rfl hj8) ?_
      obtain rfl := Option.some.inj hf
      exact zx_ev_ret zk_46 rfl rfl
def f_Text_size_12 (m : zx_M) : Option Int32 := some (m.1 12 2)
theorem s_Text_size_12 (m : zx_M) {d : Nat} {y : Int32} (hf : f_Text_size_12 m = some y) : zx_Ev (d) 72 0 [some (.ref 12)] [] (zx_SC, m) (some (.int y), (zx_SC, m)) := by
  unfold f_Text_size_12 at hf
  refine zx_ev_blk zk_72 2 (pc1 := 4) (L1 := [some (.ref 12)]) (st1 := [.int (m.1 12 2)]) (h1 := (zx_SC, m)) rfl ?_
  obtain rfl := Option.some.inj hf
  exact zx_ev_ret zk_72 rfl rfl
def f_Text_next_12 (m : zx_M) : Option Int32 := if ¬ (m.1 12 4) = 0 then some (-1) else if (m.1 12 3) < 0 then some (-1) else if (m.1 12 2) ≤ (m.1 12 3) then some (-1) else if (m.1 12 3) < 120 then (zx_ix 120 (m.1 12 3)).bind fun j5 => some (m.1 13 j5) else some (-1)
theorem s_Text_next_12 (m : zx_M) {d : Nat} {y : Int32} (hf : f_Text_next_12 m = some y) : zx_Ev (d) 79 0 [some (.ref 12)] [] (zx_SC, m) (some (.int y), (zx_SC, m)) := by
  unfold f_Text_next_12 at hf
  refine zx_ev_blk zk_79 2 (pc1 := 4) (L1 := [some (.ref 12)]) (st1 := [.int (m.1 12 4)]) (h1 := (zx_SC, m)) rfl ?_
  by_cases c1 : ¬ (m.1 12 4) = 0
  · rw [if_pos c1] at hf
    refine zx_ev_ift zk_79 (P := ¬ (m.1 12 4) = 0) (t := 34) (f := 7) rfl rfl c1 ?_
    refine zx_ev_blk zk_79 2 (pc1 := 47) (L1 := [some (.ref 12)]) (st1 := [.int (-1)]) (h1 := (zx_SC, m)) rfl ?_
    obtain rfl := Option.some.inj hf
    exact zx_ev_ret zk_79 rfl rfl
  · rw [if_neg c1] at hf
    refine zx_ev_ifn zk_79 (P := ¬ (m.1 12 4) = 0) (t := 34) (f := 7) rfl rfl c1 ?_
    refine zx_ev_blk zk_79 2 (pc1 := 11) (L1 := [some (.ref 12)]) (st1 := [.int (m.1 12 3)]) (h1 := (zx_SC, m)) rfl ?_
    by_cases c2 : (m.1 12 3) < 0
    · rw [if_pos c2] at hf
      refine zx_ev_ift zk_79 (P := (m.1 12 3) < 0) (t := 34) (f := 14) rfl rfl c2 ?_
      refine zx_ev_blk zk_79 2 (pc1 := 47) (L1 := [some (.ref 12)]) (st1 := [.int (-1)]) (h1 := (zx_SC, m)) rfl ?_
      obtain rfl := Option.some.inj hf
      exact zx_ev_ret zk_79 rfl rfl
    · rw [if_neg c2] at hf
      refine zx_ev_ifn zk_79 (P := (m.1 12 3) < 0) (t := 34) (f := 14) rfl rfl c2 ?_
      refine zx_ev_blk zk_79 4 (pc1 := 22) (L1 := [some (.ref 12)]) (st1 := [.int (m.1 12 2), .int (m.1 12 3)]) (h1 := (zx_SC, m)) rfl ?_
      by_cases c3 : (m.1 12 2) ≤ (m.1 12 3)
      · rw [if_pos c3] at hf
        refine zx_ev_ift zk_79 (P := (m.1 12 2) ≤ (m.1 12 3)) (t := 34) (f := 25) rfl rfl c3 ?_
        refine zx_ev_blk zk_79 2 (pc1 := 47) (L1 := [some (.ref 12)]) (st1 := [.int (-1)]) (h1 := (zx_SC, m)) rfl ?_
        obtain rfl := Option.some.inj hf
        exact zx_ev_ret zk_79 rfl rfl
      · rw [if_neg c3] at hf
        refine zx_ev_ifn zk_79 (P := (m.1 12 2) ≤ (m.1 12 3)) (t := 34) (f := 25) rfl rfl c3 ?_
        refine zx_ev_blk zk_79 3 (pc1 := 31) (L1 := [some (.ref 12)]) (st1 := [.int 120, .int (m.1 12 3)]) (h1 := (zx_SC, m)) rfl ?_
        by_cases c4 : (m.1 12 3) < 120
        · rw [if_pos c4] at hf
          refine zx_ev_ift zk_79 (P := (m.1 12 3) < 120) (t := 38) (f := 34) rfl rfl c4 ?_
          refine zx_ev_blk zk_79 4 (pc1 := 46) (L1 := [some (.ref 12)]) (st1 := [.int (m.1 12 3), .ref 13]) (h1 := (zx_SC, m)) rfl ?_
          obtain ⟨j5, hj5, hf⟩ := zx_bind_eq hf
          refine zx_ev_step zk_79 rfl (st_iald rfl rfl hj5) ?_
          obtain rfl := Option.some.inj hf
          exact zx_ev_ret zk_79 rfl rfl
        · rw [if_neg c4] at hf
          refine zx_ev_ifn zk_79 (P := (m.1 12 3) < 120) (t := 38) (f := 34) rfl rfl c4 ?_
          refine zx_ev_blk zk_79 2 (pc1 := 47) (L1 := [some (.ref 12)]) (st1 := [.int (-1)]) (h1 := (zx_SC, m)) rfl ?_
          obtain rfl := Option.some.inj hf
          exact zx_ev_ret zk_79 rfl rfl
def f_Text_rankOf (v0 : Int32) (m : zx_M) : Option Int32 := if v0 = 37 then some 4 else if v0 = 38 then some 1 else if v0 = 42 then some 4 else if v0 = 43 then some 3 else if v0 = 45 then some 3 else if v0 = 47 then some 4 else if v0 = 60 then some 2 else if v0 = 61 then some 2 else if v0 = 62 then some 2 else if v0 = 124 then some 0 else some (-1)
theorem s_Text_rankOf (v0 : Int32) (m : zx_M) {d : Nat} {y : Int32} (hf : f_Text_rankOf v0 m = some y) : zx_Ev (d) 81 0 [some (.int v0)] [] (zx_SC, m) (some (.int y), (zx_SC, m)) := by
  unfold f_Text_rankOf at hf
  refine zx_ev_blk zk_81 1 (pc1 := 1) (L1 := [some (.int v0)]) (st1 := [.int v0]) (h1 := (zx_SC, m)) rfl ?_
  by_cases c1 : v0 = 37
  · rw [if_pos c1] at hf
    refine zx_ev_lsw zk_81 rfl rfl (zx_pick_hit c1) rfl ?_
    refine zx_ev_blk zk_81 1 (pc1 := 101) (L1 := [some (.int v0)]) (st1 := [.int 4]) (h1 := (zx_SC, m)) rfl ?_
    obtain rfl := Option.some.inj hf
    exact zx_ev_ret zk_81 rfl rfl
  · rw [if_neg c1] at hf
    by_cases c2 : v0 = 38
    · rw [if_pos c2] at hf
      refine zx_ev_lsw zk_81 rfl rfl (zx_pick_miss c1 (zx_pick_hit c2)) rfl ?_
      refine zx_ev_blk zk_81 1 (pc1 := 95) (L1 := [some (.int v0)]) (st1 := [.int 1]) (h1 := (zx_SC, m)) rfl ?_
      obtain rfl := Option.some.inj hf
      exact zx_ev_ret zk_81 rfl rfl
    · rw [if_neg c2] at hf
      by_cases c3 : v0 = 42
      · rw [if_pos c3] at hf
        refine zx_ev_lsw zk_81 rfl rfl (zx_pick_miss c1 (zx_pick_miss c2 (zx_pick_hit c3))) rfl ?_
        refine zx_ev_blk zk_81 1 (pc1 := 101) (L1 := [some (.int v0)]) (st1 := [.int 4]) (h1 := (zx_SC, m)) rfl ?_
        obtain rfl := Option.some.inj hf
        exact zx_ev_ret zk_81 rfl rfl
      · rw [if_neg c3] at hf
        by_cases c4 : v0 = 43
        · rw [if_pos c4] at hf
          refine zx_ev_lsw zk_81 rfl rfl (zx_pick_miss c1 (zx_pick_miss c2 (zx_pick_miss c3 (zx_pick_hit c4)))) rfl ?_
          refine zx_ev_blk zk_81 1 (pc1 := 99) (L1 := [some (.int v0)]) (st1 := [.int 3]) (h1 := (zx_SC, m)) rfl ?_
          obtain rfl := Option.some.inj hf
          exact zx_ev_ret zk_81 rfl rfl
        · rw [if_neg c4] at hf
          by_cases c5 : v0 = 45
          · rw [if_pos c5] at hf
            refine zx_ev_lsw zk_81 rfl rfl (zx_pick_miss c1 (zx_pick_miss c2 (zx_pick_miss c3 (zx_pick_miss c4 (zx_pick_hit c5))))) rfl ?_
            refine zx_ev_blk zk_81 1 (pc1 := 99) (L1 := [some (.int v0)]) (st1 := [.int 3]) (h1 := (zx_SC, m)) rfl ?_
            obtain rfl := Option.some.inj hf
            exact zx_ev_ret zk_81 rfl rfl
          · rw [if_neg c5] at hf
            by_cases c6 : v0 = 47
            · rw [if_pos c6] at hf
              refine zx_ev_lsw zk_81 rfl rfl (zx_pick_miss c1 (zx_pick_miss c2 (zx_pick_miss c3 (zx_pick_miss c4 (zx_pick_miss c5 (zx_pick_hit c6)))))) rfl ?_
              refine zx_ev_blk zk_81 1 (pc1 := 101) (L1 := [some (.int v0)]) (st1 := [.int 4]) (h1 := (zx_SC, m)) rfl ?_
              obtain rfl := Option.some.inj hf
              exact zx_ev_ret zk_81 rfl rfl
            · rw [if_neg c6] at hf
              by_cases c7 : v0 = 60
              · rw [if_pos c7] at hf
                refine zx_ev_lsw zk_81 rfl rfl (zx_pick_miss c1 (zx_pick_miss c2 (zx_pick_miss c3 (zx_pick_miss c4 (zx_pick_miss c5 (zx_pick_miss c6 (zx_pick_hit c7))))))) rfl ?_
                refine zx_ev_blk zk_81 1 (pc1 := 97) (L1 := [some (.int v0)]) (st1 := [.int 2]) (h1 := (zx_SC, m)) rfl ?_
                obtain rfl := Option.some.inj hf
                exact zx_ev_ret zk_81 rfl rfl
              · rw [if_neg c7] at hf
                by_cases c8 : v0 = 61
                · rw [if_pos c8] at hf
                  refine zx_ev_lsw zk_81 rfl rfl (zx_pick_miss c1 (zx_pick_miss c2 (zx_pick_miss c3 (zx_pick_miss c4 (zx_pick_miss c5 (zx_pick_miss c6 (zx_pick_miss c7 (zx_pick_hit c8)))))))) rfl ?_
                  refine zx_ev_blk zk_81 1 (pc1 := 97) (L1 := [some (.int v0)]) (st1 := [.int 2]) (h1 := (zx_SC, m)) rfl ?_
                  obtain rfl := Option.some.inj hf
                  exact zx_ev_ret zk_81 rfl rfl
                · rw [if_neg c8] at hf
                  by_cases c9 : v0 = 62
                  · rw [if_pos c9] at hf
                    refine zx_ev_lsw zk_81 rfl rfl (zx_pick_miss c1 (zx_pick_miss c2 (zx_pick_miss c3 (zx_pick_miss c4 (zx_pick_miss c5 (zx_pick_miss c6 (zx_pick_miss c7 (zx_pick_miss c8 (zx_pick_hit c9))))))))) rfl ?_
                    refine zx_ev_blk zk_81 1 (pc1 := 97) (L1 := [some (.int v0)]) (st1 := [.int 2]) (h1 := (zx_SC, m)) rfl ?_
                    obtain rfl := Option.some.inj hf
                    exact zx_ev_ret zk_81 rfl rfl
                  · rw [if_neg c9] at hf
                    by_cases c10 : v0 = 124
                    · rw [if_pos c10] at hf
                      refine zx_ev_lsw zk_81 rfl rfl (zx_pick_miss c1 (zx_pick_miss c2 (zx_pick_miss c3 (zx_pick_miss c4 (zx_pick_miss c5 (zx_pick_miss c6 (zx_pick_miss c7 (zx_pick_miss c8 (zx_pick_miss c9 (zx_pick_hit c10)))))))))) rfl ?_
                      refine zx_ev_blk zk_81 1 (pc1 := 93) (L1 := [some (.int v0)]) (st1 := [.int 0]) (h1 := (zx_SC, m)) rfl ?_
                      obtain rfl := Option.some.inj hf
                      exact zx_ev_ret zk_81 rfl rfl
                    · rw [if_neg c10] at hf
                      refine zx_ev_lsw zk_81 rfl rfl (zx_pick_miss c1 (zx_pick_miss c2 (zx_pick_miss c3 (zx_pick_miss c4 (zx_pick_miss c5 (zx_pick_miss c6 (zx_pick_miss c7 (zx_pick_miss c8 (zx_pick_miss c9 (zx_pick_miss c10 rfl)))))))))) rfl ?_
                      refine zx_ev_blk zk_81 1 (pc1 := 103) (L1 := [some (.int v0)]) (st1 := [.int (-1)]) (h1 := (zx_SC, m)) rfl ?_
                      obtain rfl := Option.some.inj hf
                      exact zx_ev_ret zk_81 rfl rfl
def f_Text_reckoned (v0 : Int32) (v1 : Int32) (v2 : Int32) (m : zx_M) : Option Int32 := if v0 = 38 then if v1 = 0 then some 0 else if v2 = 0 then some 0 else some 1 else if v0 = 42 then some (v1 * v2) else if v0 = 43 then some (v1 + v2) else if v0 = 45 then some (v1 - v2) else if v0 = 47 then if ¬ v2 = 0 then if v2 = 0 then none else some (v1 / v2) else some 0 else if v0 = 60 then if v2 ≤ v1 then some 0 else some 1 else if v0 = 61 then if ¬ v1 = v2 then some 0 else some 1 else if v0 = 62 then if v1 ≤ v2 then some 0 else some 1 else if v0 = 124 then if ¬ v1 = 0 then some 1 else if v2 = 0 then some 0 else some 1 else if ¬ v2 = 0 then if v2 = 0 then none else some (zx_rem v1 v2) else some 0
theorem s_Text_reckoned (v0 : Int32) (v1 : Int32) (v2 : Int32) (m : zx_M) {d : Nat} {y : Int32} (hf : f_Text_reckoned v0 v1 v2 m = some y) : zx_Ev (d) 82 0 [some (.int v0), some (.int v1), some (.int v2)] [] (zx_SC, m) (some (.int y), (zx_SC, m)) := by
  unfold f_Text_reckoned at hf
  refine zx_ev_blk zk_82 1 (pc1 := 1) (L1 := [some (.int v0), some (.int v1), some (.int v2)]) (st1 := [.int v0]) (h1 := (zx_SC, m)) rfl ?_
  by_cases c1 : v0 = 38
  · rw [if_pos c1] at hf
    refine zx_ev_lsw zk_82 rfl rfl (zx_pick_hit c1) rfl ?_
    refine zx_ev_blk zk_82 1 (pc1 := 99) (L1 := [some (.int v0), some (.int v1), some (.int v2)]) (st1 := [.int v1]) (h1 := (zx_SC, m)) rfl ?_
    by_cases c2 : v1 = 0
    · rw [if_pos c2] at hf
      refine zx_ev_ift zk_82 (P := v1 = 0) (t := 110) (f := 102) rfl rfl c2 ?_
      refine zx_ev_blk zk_82 1 (pc1 := 111) (L1 := [some (.int v0), some (.int v1), some (.int v2)]) (st1 := [.int 0]) (h1 := (zx_SC, m)) rfl ?_
      obtain rfl := Option.some.inj hf
      exact zx_ev_ret zk_82 rfl rfl
    · rw [if_neg c2] at hf
      refine zx_ev_ifn zk_82 (P := v1 = 0) (t := 110) (f := 102) rfl rfl c2 ?_
      refine zx_ev_blk zk_82 1 (pc1 := 103) (L1 := [some (.int v0), some (.int v1), some (.int v2)]) (st1 := [.int v2]) (h1 := (zx_SC, m)) rfl ?_
      by_cases c3 : v2 = 0
      · rw [if_pos c3] at hf
        refine zx_ev_ift zk_82 (P := v2 = 0) (t := 110) (f := 106) rfl rfl c3 ?_
        refine zx_ev_blk zk_82 1 (pc1 := 111) (L1 := [some (.int v0), some (.int v1), some (.int v2)]) (st1 := [.int 0]) (h1 := (zx_SC, m)) rfl ?_
        obtain rfl := Option.some.inj hf
        exact zx_ev_ret zk_82 rfl rfl
      · rw [if_neg c3] at hf
        refine zx_ev_ifn zk_82 (P := v2 = 0) (t := 110) (f := 106) rfl rfl c3 ?_
        refine zx_ev_blk zk_82 2 (pc1 := 111) (L1 := [some (.int v0), some (.int v1), some (.int v2)]) (st1 := [.int 1]) (h1 := (zx_SC, m)) rfl ?_
        obtain rfl := Option.some.inj hf
        exact zx_ev_ret zk_82 rfl rfl
  · rw [if_neg c1] at hf
    by_cases c4 : v0 = 42
    · rw [if_pos c4] at hf
      refine zx_ev_lsw zk_82 rfl rfl (zx_pick_miss c1 (zx_pick_hit c4)) rfl ?_
      refine zx_ev_blk zk_82 3 (pc1 := 156) (L1 := [some (.int v0), some (.int v1), some (.int v2)]) (st1 := [.int (v1 * v2)]) (h1 := (zx_SC, m)) rfl ?_
      obtain rfl := Option.some.inj hf
      exact zx_ev_ret zk_82 rfl rfl
    · rw [if_neg c4] at hf
      by_cases c5 : v0 = 43
      · rw [if_pos c5] at hf
        refine zx_ev_lsw zk_82 rfl rfl (zx_pick_miss c1 (zx_pick_miss c4 (zx_pick_hit c5))) rfl ?_
        refine zx_ev_blk zk_82 3 (pc1 := 148) (L1 := [some (.int v0), some (.int v1), some (.int v2)]) (st1 := [.int (v1 + v2)]) (h1 := (zx_SC, m)) rfl ?_
        obtain rfl := Option.some.inj hf
        exact zx_ev_ret zk_82 rfl rfl
      · rw [if_neg c5] at hf
        by_cases c6 : v0 = 45
        · rw [if_pos c6] at hf
          refine zx_ev_lsw zk_82 rfl rfl (zx_pick_miss c1 (zx_pick_miss c4 (zx_pick_miss c5 (zx_pick_hit c6)))) rfl ?_
          refine zx_ev_blk zk_82 3 (pc1 := 152) (L1 := [some (.int v0), some (.int v1), some (.int v2)]) (st1 := [.int (v1 - v2)]) (h1 := (zx_SC, m)) rfl ?_
          obtain rfl := Option.some.inj hf
          exact zx_ev_ret zk_82 rfl rfl
        · rw [if_neg c6] at hf
          by_cases c7 : v0 = 47
          · rw [if_pos c7] at hf
            refine zx_ev_lsw zk_82 rfl rfl (zx_pick_miss c1 (zx_pick_miss c4 (zx_pick_miss c5 (zx_pick_miss c6 (zx_pick_hit c7))))) rfl ?_
            refine zx_ev_blk zk_82 1 (pc1 := 158) (L1 := [some (.int v0), some (.int v1), some (.int v2)]) (st1 := [.int v2]) (h1 := (zx_SC, m)) rfl ?_
            by_cases c8 : ¬ v2 = 0
            · rw [if_pos c8] at hf
              refine zx_ev_ift zk_82 (P := ¬ v2 = 0) (t := 165) (f := 161) rfl rfl c8 ?_
              refine zx_ev_blk zk_82 2 (pc1 := 167) (L1 := [some (.int v0), some (.int v1), some (.int v2)]) (st1 := [.int v2, .int v1]) (h1 := (zx_SC, m)) rfl ?_
              by_cases c9 : v2 = 0
              · rw [if_pos c9] at hf; cases hf
              · rw [if_neg c9] at hf
                refine zx_ev_step zk_82 rfl (st_idiv c9) ?_
                obtain rfl := Option.some.inj hf
                exact zx_ev_ret zk_82 rfl rfl
            · rw [if_neg c8] at hf
              refine zx_ev_ifn zk_82 (P := ¬ v2 = 0) (t := 165) (f := 161) rfl rfl c8 ?_
              refine zx_ev_blk zk_82 2 (pc1 := 168) (L1 := [some (.int v0), some (.int v1), some (.int v2)]) (st1 := [.int 0]) (h1 := (zx_SC, m)) rfl ?_
              obtain rfl := Option.some.inj hf
              exact zx_ev_ret zk_82 rfl rfl
          · rw [if_neg c7] at hf
            by_cases c10 : v0 = 60
            · rw [if_pos c10] at hf
              refine zx_ev_lsw zk_82 rfl rfl (zx_pick_miss c1 (zx_pick_miss c4 (zx_pick_miss c5 (zx_pick_miss c6 (zx_pick_miss c7 (zx_pick_hit c10)))))) rfl ?_
              refine zx_ev_blk zk_82 2 (pc1 := 114) (L1 := [some (.int v0), some (.int v1), some (.int v2)]) (st1 := [.int v2, .int v1]) (h1 := (zx_SC, m)) rfl ?_
              by_cases c11 : v2 ≤ v1
              · rw [if_pos c11] at hf
                refine zx_ev_ift zk_82 (P := v2 ≤ v1) (t := 121) (f := 117) rfl rfl c11 ?_
                refine zx_ev_blk zk_82 1 (pc1 := 122) (L1 := [some (.int v0), some (.int v1), some (.int v2)]) (st1 := [.int 0]) (h1 := (zx_SC, m)) rfl ?_
                obtain rfl := Option.some.inj hf
                exact zx_ev_ret zk_82 rfl rfl
              · rw [if_neg c11] at hf
                refine zx_ev_ifn zk_82 (P := v2 ≤ v1) (t := 121) (f := 117) rfl rfl c11 ?_
                refine zx_ev_blk zk_82 2 (pc1 := 122) (L1 := [some (.int v0), some (.int v1), some (.int v2)]) (st1 := [.int 1]) (h1 := (zx_SC, m)) rfl ?_
                obtain rfl := Option.some.inj hf
                exact zx_ev_ret zk_82 rfl rfl
            · rw [if_neg c10] at hf
              by_cases c12 : v0 = 61
              · rw [if_pos c12] at hf
                refine zx_ev_lsw zk_82 rfl rfl (zx_pick_miss c1 (zx_pick_miss c4 (zx_pick_miss c5 (zx_pick_miss c6 (zx_pick_miss c7 (zx_pick_miss c10 (zx_pick_hit c12))))))) rfl ?_
                refine zx_ev_blk zk_82 2 (pc1 := 125) (L1 := [some (.int v0), some (.int v1), some (.int v2)]) (st1 := [.int v2, .int v1]) (h1 := (zx_SC, m)) rfl ?_
                by_cases c13 : ¬ v1 = v2
                · rw [if_pos c13] at hf
                  refine zx_ev_ift zk_82 (P := ¬ v1 = v2) (t := 132) (f := 128) rfl rfl c13 ?_
                  refine zx_ev_blk zk_82 1 (pc1 := 133) (L1 := [some (.int v0), some (.int v1), some (.int v2)]) (st1 := [.int 0]) (h1 := (zx_SC, m)) rfl ?_
                  obtain rfl := Option.some.inj hf
                  exact zx_ev_ret zk_82 rfl rfl
                · rw [if_neg c13] at hf
                  refine zx_ev_ifn zk_82 (P := ¬ v1 = v2) (t := 132) (f := 128) rfl rfl c13 ?_
                  refine zx_ev_blk zk_82 2 (pc1 := 133) (L1 := [some (.int v0), some (.int v1), some (.int v2)]) (st1 := [.int 1]) (h1 := (zx_SC, m)) rfl ?_
                  obtain rfl := Option.some.inj hf
                  exact zx_ev_ret zk_82 rfl rfl
              · rw [if_neg c12] at hf
                by_cases c14 : v0 = 62
                · rw [if_pos c14] at hf
                  refine zx_ev_lsw zk_82 rfl rfl (zx_pick_miss c1 (zx_pick_miss c4 (zx_pick_miss c5 (zx_pick_miss c6 (zx_pick_miss c7 (zx_pick_miss c10 (zx_pick_miss c12 (zx_pick_hit c14)))))))) rfl ?_
                  refine zx_ev_blk zk_82 2 (pc1 := 136) (L1 := [some (.int v0), some (.int v1), some (.int v2)]) (st1 := [.int v2, .int v1]) (h1 := (zx_SC, m)) rfl ?_
                  by_cases c15 : v1 ≤ v2
                  · rw [if_pos c15] at hf
                    refine zx_ev_ift zk_82 (P := v1 ≤ v2) (t := 143) (f := 139) rfl rfl c15 ?_
                    refine zx_ev_blk zk_82 1 (pc1 := 144) (L1 := [some (.int v0), some (.int v1), some (.int v2)]) (st1 := [.int 0]) (h1 := (zx_SC, m)) rfl ?_
                    obtain rfl := Option.some.inj hf
                    exact zx_ev_ret zk_82 rfl rfl
                  · rw [if_neg c15] at hf
                    refine zx_ev_ifn zk_82 (P := v1 ≤ v2) (t := 143) (f := 139) rfl rfl c15 ?_
                    refine zx_ev_blk zk_82 2 (pc1 := 144) (L1 := [some (.int v0), some (.int v1), some (.int v2)]) (st1 := [.int 1]) (h1 := (zx_SC, m)) rfl ?_
                    obtain rfl := Option.some.inj hf
                    exact zx_ev_ret zk_82 rfl rfl
                · rw [if_neg c14] at hf
                  by_cases c16 : v0 = 124
                  · rw [if_pos c16] at hf
                    refine zx_ev_lsw zk_82 rfl rfl (zx_pick_miss c1 (zx_pick_miss c4 (zx_pick_miss c5 (zx_pick_miss c6 (zx_pick_miss c7 (zx_pick_miss c10 (zx_pick_miss c12 (zx_pick_miss c14 (zx_pick_hit c16))))))))) rfl ?_
                    refine zx_ev_blk zk_82 1 (pc1 := 85) (L1 := [some (.int v0), some (.int v1), some (.int v2)]) (st1 := [.int v1]) (h1 := (zx_SC, m)) rfl ?_
                    by_cases c17 : ¬ v1 = 0
                    · rw [if_pos c17] at hf
                      refine zx_ev_ift zk_82 (P := ¬ v1 = 0) (t := 92) (f := 88) rfl rfl c17 ?_
                      refine zx_ev_blk zk_82 2 (pc1 := 97) (L1 := [some (.int v0), some (.int v1), some (.int v2)]) (st1 := [.int 1]) (h1 := (zx_SC, m)) rfl ?_
                      obtain rfl := Option.some.inj hf
                      exact zx_ev_ret zk_82 rfl rfl
                    · rw [if_neg c17] at hf
                      refine zx_ev_ifn zk_82 (P := ¬ v1 = 0) (t := 92) (f := 88) rfl rfl c17 ?_
                      refine zx_ev_blk zk_82 1 (pc1 := 89) (L1 := [some (.int v0), some (.int v1), some (.int v2)]) (st1 := [.int v2]) (h1 := (zx_SC, m)) rfl ?_
                      by_cases c18 : v2 = 0
                      · rw [if_pos c18] at hf
                        refine zx_ev_ift zk_82 (P := v2 = 0) (t := 96) (f := 92) rfl rfl c18 ?_
                        refine zx_ev_blk zk_82 1 (pc1 := 97) (L1 := [some (.int v0), some (.int v1), some (.int v2)]) (st1 := [.int 0]) (h1 := (zx_SC, m)) rfl ?_
                        obtain rfl := Option.some.inj hf
                        exact zx_ev_ret zk_82 rfl rfl
                      · rw [if_neg c18] at hf
                        refine zx_ev_ifn zk_82 (P := v2 = 0) (t := 96) (f := 92) rfl rfl c18 ?_
                        refine zx_ev_blk zk_82 2 (pc1 := 97) (L1 := [some (.int v0), some (.int v1), some (.int v2)]) (st1 := [.int 1]) (h1 := (zx_SC, m)) rfl ?_
                        obtain rfl := Option.some.inj hf
                        exact zx_ev_ret zk_82 rfl rfl
                  · rw [if_neg c16] at hf
                    refine zx_ev_lsw zk_82 rfl rfl (zx_pick_miss c1 (zx_pick_miss c4 (zx_pick_miss c5 (zx_pick_miss c6 (zx_pick_miss c7 (zx_pick_miss c10 (zx_pick_miss c12 (zx_pick_miss c14 (zx_pick_miss c16 rfl))))))))) rfl ?_
                    refine zx_ev_blk zk_82 1 (pc1 := 170) (L1 := [some (.int v0), some (.int v1), some (.int v2)]) (st1 := [.int v2]) (h1 := (zx_SC, m)) rfl ?_
                    by_cases c19 : ¬ v2 = 0
                    · rw [if_pos c19] at hf
                      refine zx_ev_ift zk_82 (P := ¬ v2 = 0) (t := 177) (f := 173) rfl rfl c19 ?_
                      refine zx_ev_blk zk_82 2 (pc1 := 179) (L1 := [some (.int v0), some (.int v1), some (.int v2)]) (st1 := [.int v2, .int v1]) (h1 := (zx_SC, m)) rfl ?_
                      by_cases c20 : v2 = 0
                      · rw [if_pos c20] at hf; cases hf
                      · rw [if_neg c20] at hf
                        refine zx_ev_step zk_82 rfl (st_irem c20) ?_
                        obtain rfl := Option.some.inj hf
                        exact zx_ev_ret zk_82 rfl rfl
                    · rw [if_neg c19] at hf
                      refine zx_ev_ifn zk_82 (P := ¬ v2 = 0) (t := 177) (f := 173) rfl rfl c19 ?_
                      refine zx_ev_blk zk_82 2 (pc1 := 180) (L1 := [some (.int v0), some (.int v1), some (.int v2)]) (st1 := [.int 0]) (h1 := (zx_SC, m)) rfl ?_
                      obtain rfl := Option.some.inj hf
                      exact zx_ev_ret zk_82 rfl rfl
abbrev GT_bracketed_joined_single_12 : Type := (Int32 → Int32 → zx_M → Option (Int32 × zx_M)) × (Int32 → zx_M → Option (Int32 × zx_M)) × (Int32 → zx_M → Option (Int32 × zx_M))
def GH_bracketed_joined_single_12 (d : Nat) (g : GT_bracketed_joined_single_12) : Prop := (∀ (v1 : Int32) (v2 : Int32) (m : zx_M) (y : (Int32 × zx_M)), g.1 v1 v2 m = some y → zx_Ev d 80 0 [some (.ref 12), some (.int v1), some (.int v2), none, none, none] [] (zx_SC, m) (some (.int y.1), (zx_SC, y.2))) ∧ (∀ (v1 : Int32) (m : zx_M) (y : (Int32 × zx_M)), g.2.1 v1 m = some y → zx_Ev d 83 0 [some (.ref 12), some (.int v1), none, none, none, none] [] (zx_SC, m) (some (.int y.1), (zx_SC, y.2))) ∧ (∀ (v1 : Int32) (m : zx_M) (y : (Int32 × zx_M)), g.2.2 v1 m = some y → zx_Ev d 84 0 [some (.ref 12), some (.int v1), none] [] (zx_SC, m) (some (.int y.1), (zx_SC, y.2)))
def kx_Text_joined_12_l23 (v1 : Int32) (v2 : Int32) (d : Nat) (out : Option Value × zx_H) : (Int32 × zx_M) → Prop
  | y => out = (some (.int y.1), (zx_SC, y.2))
def kl_Text_joined_12_l23 (v1 : Int32) (v2 : Int32) (d : Nat) (out : Option Value × zx_H) : (Int32 × Int32 × zx_M) ⊕ ((Int32 × zx_M)) → Prop
  | .inl (v3, v4, m) => zx_Ev (d + 9) 80 23 [some (.ref 12), some (.int v1), some (.int v2), some (.int v3), some (.int v4), none] [] (zx_SC, m) out
  | .inr x => kx_Text_joined_12_l23 v1 v2 d out x
def b_Text_joined_12_l23 (g : GT_bracketed_joined_single_12) (v1 : Int32) (v2 : Int32) (v3 : Int32) (v4 : Int32) (m : zx_M) : Option ((Int32 × Int32 × zx_M) ⊕ ((Int32 × zx_M))) := if 120 ≤ v4 then some (.inr (v3, m)) else (f_Text_next_12 m).bind fun r7 => (f_Text_rankOf r7 m).bind fun r9 => if ¬ r9 = v1 then some (.inr (v3, m)) else (f_Text_next_12 m).bind fun r12 => zx_let (zx_u1 m 12 3 ((m.1 12 3) + 1)) fun m13 => (g.1 (v1 + 1) v2 m13).bind fun (r15, m16) => (f_Text_reckoned r12 v3 r15 m16).bind fun r18 => if ¬ v1 = 2 then zx_let (v4 + 1) fun a20 => some (.inl (r18, a20, m16)) else some (.inr (r18, m16))
theorem eb_Text_joined_12_l23 (g : GT_bracketed_joined_single_12) (v1 : Int32) (v2 : Int32) (v3 : Int32) (v4 : Int32) (m : zx_M) {d : Nat} (hg : GH_bracketed_joined_single_12 (d + 8) g) {out : Option Value × zx_H} {y : (Int32 × Int32 × zx_M) ⊕ ((Int32 × zx_M))} (hf : b_Text_joined_12_l23 g v1 v2 v3 v4 m = some y) (hK : kl_Text_joined_12_l23 v1 v2 d out y) : zx_Ev (d + 9) 80 23 [some (.ref 12), some (.int v1), some (.int v2), some (.int v3), some (.int v4), none] [] (zx_SC, m) out := by
  unfold b_Text_joined_12_l23 at hf
  refine zx_ev_blk zk_80 2 (pc1 := 27) (L1 := [some (.ref 12), some (.int v1), some (.int v2), some (.int v3), some (.int v4), none]) (st1 := [.int 120, .int v4]) (h1 := (zx_SC, m)) rfl ?_
  by_cases c5 : 120 ≤ v4
  · rw [if_pos c5] at hf
    refine zx_ev_ift zk_80 (P := 120 ≤ v4) (t := 86) (f := 30) rfl rfl c5 ?_
    refine zx_ev_blk zk_80 1 (pc1 := 87) (L1 := [some (.ref 12), some (.int v1), some (.int v2), some (.int v3), some (.int v4), none]) (st1 := [.int v3]) (h1 := (zx_SC, m)) rfl ?_
    obtain rfl := Option.some.inj hf
    rw [show out = _ from hK]
    exact zx_ev_ret zk_80 rfl rfl
  · rw [if_neg c5] at hf
    refine zx_ev_ifn zk_80 (P := 120 ≤ v4) (t := 86) (f := 30) rfl rfl c5 ?_
    refine zx_ev_blk zk_80 1 (pc1 := 31) (L1 := [some (.ref 12), some (.int v1), some (.int v2), some (.int v3), some (.int v4), none]) (st1 := [.ref 12]) (h1 := (zx_SC, m)) rfl ?_
    obtain ⟨r7, hv6, hf⟩ := zx_bind_eq hf
    refine zx_ev_call (d := d + 8) zk_80 (v := some (.int r7)) (h1 := (zx_SC, m)) rfl rfl zt_79 rfl zx_SCn rfl rfl (s_Text_next_12 _ (d := d + 8) hv6) ?_
    obtain ⟨r9, hv8, hf⟩ := zx_bind_eq hf
    refine zx_ev_call (d := d + 8) zk_80 (v := some (.int r9)) (h1 := (zx_SC, m)) rfl rfl zt_81 rfl zx_SCn rfl rfl (s_Text_rankOf _ _ (d := d + 8) hv8) ?_
    refine zx_ev_blk zk_80 1 (pc1 := 38) (L1 := [some (.ref 12), some (.int v1), some (.int v2), some (.int v3), some (.int v4), none]) (st1 := [.int v1, .int r9]) (h1 := (zx_SC, m)) rfl ?_
    by_cases c10 : ¬ r9 = v1
    · rw [if_pos c10] at hf
      refine zx_ev_ift zk_80 (P := ¬ r9 = v1) (t := 86) (f := 41) rfl rfl c10 ?_
      refine zx_ev_blk zk_80 1 (pc1 := 87) (L1 := [some (.ref 12), some (.int v1), some (.int v2), some (.int v3), some (.int v4), none]) (st1 := [.int v3]) (h1 := (zx_SC, m)) rfl ?_
      obtain rfl := Option.some.inj hf
      rw [show out = _ from hK]
      exact zx_ev_ret zk_80 rfl rfl
    · rw [if_neg c10] at hf
      refine zx_ev_ifn zk_80 (P := ¬ r9 = v1) (t := 86) (f := 41) rfl rfl c10 ?_
      refine zx_ev_blk zk_80 1 (pc1 := 42) (L1 := [some (.ref 12), some (.int v1), some (.int v2), some (.int v3), some (.int v4), none]) (st1 := [.ref 12]) (h1 := (zx_SC, m)) rfl ?_
      obtain ⟨r12, hv11, hf⟩ := zx_bind_eq hf
      refine zx_ev_call (d := d + 8) zk_80 (v := some (.int r12)) (h1 := (zx_SC, m)) rfl rfl zt_79 rfl zx_SCn rfl rfl (s_Text_next_12 _ (d := d + 8) hv11) ?_
      obtain ⟨m13, hm13, hf⟩ := zx_let_eq hf
      refine zx_ev_blk zk_80 14 (pc1 := 65) (L1 := [some (.ref 12), some (.int v1), some (.int v2), some (.int v3), some (.int v4), some (.int r12)]) (st1 := [.int v2, .int (v1 + 1), .ref 12, .int v3, .int r12]) (h1 := (zx_SC, m13)) (by subst hm13; rfl) ?_
      obtain ⟨⟨r15, m16⟩, hv14, hf⟩ := zx_bind_eq hf
      dsimp only at hf
      refine zx_ev_call (d := d + 8) zk_80 (v := some (.int r15)) (h1 := (zx_SC, m16)) rfl rfl zt_80 rfl zx_SCn rfl rfl (hg.1 _ _ _ _ hv14) ?_
      obtain ⟨r18, hv17, hf⟩ := zx_bind_eq hf
      refine zx_ev_call (d := d + 8) zk_80 (v := some (.int r18)) (h1 := (zx_SC, m16)) rfl rfl zt_82 rfl zx_SCn rfl rfl (s_Text_reckoned _ _ _ _ (d := d + 8) hv17) ?_
      refine zx_ev_blk zk_80 3 (pc1 := 74) (L1 := [some (.ref 12), some (.int v1), some (.int v2), some (.int r18), some (.int v4), some (.int r12)]) (st1 := [.int 2, .int v1]) (h1 := (zx_SC, m16)) rfl ?_
      by_cases c19 : ¬ v1 = 2
      · rw [if_pos c19] at hf
        refine zx_ev_ift zk_80 (P := ¬ v1 = 2) (t := 80) (f := 77) rfl rfl c19 ?_
        obtain ⟨a20, ha20, hf⟩ := zx_let_eq hf
        refine zx_ev_blk zk_80 2 (pc1 := 23) (L1 := [some (.ref 12), some (.int v1), some (.int v2), some (.int r18), some (.int a20), some (.int r12)]) (st1 := []) (h1 := (zx_SC, m16)) (by subst ha20; rfl) ?_
        obtain rfl := Option.some.inj hf
        exact zx_ev_sub (L := [some (.ref 12), some (.int v1), some (.int v2), some (.int r18), some (.int a20), none]) (⟨rfl, ⟨rfl, ⟨rfl, ⟨rfl, ⟨rfl, ⟨trivial, trivial⟩⟩⟩⟩⟩⟩) hK
      · rw [if_neg c19] at hf
        refine zx_ev_ifn zk_80 (P := ¬ v1 = 2) (t := 80) (f := 77) rfl rfl c19 ?_
        refine zx_ev_blk zk_80 2 (pc1 := 87) (L1 := [some (.ref 12), some (.int v1), some (.int v2), some (.int r18), some (.int v4), some (.int r12)]) (st1 := [.int r18]) (h1 := (zx_SC, m16)) rfl ?_
        obtain rfl := Option.some.inj hf
        rw [show out = _ from hK]
        exact zx_ev_ret zk_80 rfl rfl
def l_Text_joined_12_l23 (g : GT_bracketed_joined_single_12) (v1 : Int32) (v2 : Int32) (s0 : Int32 × Int32 × zx_M) : Option ((Int32 × zx_M)) := zx_lp zx_N (fun s : Int32 × Int32 × zx_M => b_Text_joined_12_l23 g v1 v2 s.1 s.2.1 s.2.2) s0
theorem el_Text_joined_12_l23 (g : GT_bracketed_joined_single_12) (v1 : Int32) (v2 : Int32) {d : Nat} (hg : GH_bracketed_joined_single_12 (d + 8) g) {out : Option Value × zx_H} : ∀ (n : Nat) (s : Int32 × Int32 × zx_M) (x : (Int32 × zx_M)), zx_lp n (fun s : Int32 × Int32 × zx_M => b_Text_joined_12_l23 g v1 v2 s.1 s.2.1 s.2.2) s = some x → kx_Text_joined_12_l23 v1 v2 d out x → zx_Ev (d + 9) 80 23 [some (.ref 12), some (.int v1), some (.int v2), some (.int s.1), some (.int s.2.1), none] [] (zx_SC, s.2.2) out := by
  intro n
  induction n with
  | zero => intro s x hl _; simp [zx_lp] at hl
  | succ n ih =>
    intro s x hl hx
    unfold zx_lp at hl
    cases hb : b_Text_joined_12_l23 g v1 v2 s.1 s.2.1 s.2.2 with
    | none => simp only [hb] at hl; cases hl
    | some z =>
      simp only [hb] at hl
      cases z with
      | inl s1 => exact eb_Text_joined_12_l23 g v1 v2 s.1 s.2.1 s.2.2 hg hb (ih s1 x hl hx)
      | inr t =>
        simp only [Option.some.injEq] at hl
        subst hl
        exact eb_Text_joined_12_l23 g v1 v2 s.1 s.2.1 s.2.2 hg hb hx
def F_Text_joined_12 (g : GT_bracketed_joined_single_12) (v1 : Int32) (v2 : Int32) (m : zx_M) : Option (Int32 × zx_M) := if v1 < 5 then (g.1 (v1 + 1) v2 m).bind fun (r3, m4) => (l_Text_joined_12_l23 g v1 v2 (r3, 0, m4)).bind fun x21 => zx_let x21 fun y22 => some y22 else (g.2.1 v2 m).bind fun (r24, m25) => some (r24, m25)
theorem s_Text_joined_12 (g : GT_bracketed_joined_single_12) (v1 : Int32) (v2 : Int32) (m : zx_M) {d : Nat} (hg : GH_bracketed_joined_single_12 (d + 8) g) {y : (Int32 × zx_M)} (hf : F_Text_joined_12 g v1 v2 m = some y) : zx_Ev (d + 9) 80 0 [some (.ref 12), some (.int v1), some (.int v2), none, none, none] [] (zx_SC, m) (some (.int y.1), (zx_SC, y.2)) := by
  unfold F_Text_joined_12 at hf
  refine zx_ev_blk zk_80 2 (pc1 := 2) (L1 := [some (.ref 12), some (.int v1), some (.int v2), none, none, none]) (st1 := [.int 5, .int v1]) (h1 := (zx_SC, m)) rfl ?_
  by_cases c1 : v1 < 5
  · rw [if_pos c1] at hf
    refine zx_ev_ift zk_80 (P := v1 < 5) (t := 11) (f := 5) rfl rfl c1 ?_
    refine zx_ev_blk zk_80 5 (pc1 := 16) (L1 := [some (.ref 12), some (.int v1), some (.int v2), none, none, none]) (st1 := [.int v2, .int (v1 + 1), .ref 12]) (h1 := (zx_SC, m)) rfl ?_
    obtain ⟨⟨r3, m4⟩, hv2, hf⟩ := zx_bind_eq hf
    dsimp only at hf
    refine zx_ev_call (d := d + 8) zk_80 (v := some (.int r3)) (h1 := (zx_SC, m4)) rfl rfl zt_80 rfl zx_SCn rfl rfl (hg.1 _ _ _ _ hv2) ?_
    refine zx_ev_blk zk_80 3 (pc1 := 23) (L1 := [some (.ref 12), some (.int v1), some (.int v2), some (.int r3), some (.int 0), none]) (st1 := []) (h1 := (zx_SC, m4)) rfl ?_
    obtain ⟨x21, hx21, hf⟩ := zx_bind_eq hf
    refine zx_ev_sub (L := [some (.ref 12), some (.int v1), some (.int v2), some (.int r3), some (.int 0), none]) (⟨rfl, ⟨rfl, ⟨rfl, ⟨rfl, ⟨rfl, trivial⟩⟩⟩⟩⟩) (el_Text_joined_12_l23 g v1 v2 hg zx_N (r3, 0, m4) x21 hx21 ?_)
    obtain ⟨y22, hy22, hf⟩ := zx_let_eq hf
    subst hy22
    obtain rfl := Option.some.inj hf
    rfl
  · rw [if_neg c1] at hf
    refine zx_ev_ifn zk_80 (P := v1 < 5) (t := 11) (f := 5) rfl rfl c1 ?_
    refine zx_ev_blk zk_80 2 (pc1 := 7) (L1 := [some (.ref 12), some (.int v1), some (.int v2), none, none, none]) (st1 := [.int v2, .ref 12]) (h1 := (zx_SC, m)) rfl ?_
    obtain ⟨⟨r24, m25⟩, hv23, hf⟩ := zx_bind_eq hf
    dsimp only at hf
    refine zx_ev_call (d := d + 8) zk_80 (v := some (.int r24)) (h1 := (zx_SC, m25)) rfl rfl zt_83 rfl zx_SCn rfl rfl (hg.2.1 _ _ _ hv23) ?_
    obtain rfl := Option.some.inj hf
    exact zx_ev_ret zk_80 rfl rfl
def kx_Text_number_12_l30 (v2 : Int32) (d : Nat) (out : Option Value × zx_H) : (Int32 × zx_M) → Prop
  | y => out = (some (.int y.1), (zx_SC, y.2))
def kl_Text_number_12_l30 (v2 : Int32) (d : Nat) (out : Option Value × zx_H) : (Int32 × Int32 × zx_M) ⊕ ((Int32 × zx_M)) → Prop
  | .inl (v1, v3, m) => zx_Ev (d + 1) 85 30 [some (.ref 12), some (.int v1), some (.int v2), some (.int v3)] [] (zx_SC, m) out
  | .inr x => kx_Text_number_12_l30 v2 d out x
def b_Text_number_12_l30 (v1 : Int32) (v2 : Int32) (v3 : Int32) (m : zx_M) : Option ((Int32 × Int32 × zx_M) ⊕ ((Int32 × zx_M))) := if v2 ≤ v3 then some (.inr (v1, m)) else (zx_ix 120 v3).bind fun j4 => if (m.1 13 j4) < 48 then some (.inr (v1, m)) else (zx_ix 120 v3).bind fun j6 => if 57 < (m.1 13 j6) then some (.inr (v1, m)) else (zx_ix 120 v3).bind fun j8 => zx_let (((v1 * 10) + (m.1 13 j8)) - 48) fun a9 => zx_let (zx_u1 m 12 3 (v3 + 1)) fun m10 => zx_let (v3 + 1) fun a11 => some (.inl (a9, a11, m10))
theorem eb_Text_number_12_l30 (v1 : Int32) (v2 : Int32) (v3 : Int32) (m : zx_M) {d : Nat} {out : Option Value × zx_H} {y : (Int32 × Int32 × zx_M) ⊕ ((Int32 × zx_M))} (hf : b_Text_number_12_l30 v1 v2 v3 m = some y) (hK : kl_Text_number_12_l30 v2 d out y) : zx_Ev (d + 1) 85 30 [some (.ref 12), some (.int v1), some (.int v2), some (.int v3)] [] (zx_SC, m) out := by
  unfold b_Text_number_12_l30 at hf
  refine zx_ev_blk zk_85 2 (pc1 := 32) (L1 := [some (.ref 12), some (.int v1), some (.int v2), some (.int v3)]) (st1 := [.int v2, .int v3]) (h1 := (zx_SC, m)) rfl ?_
  by_cases c3 : v2 ≤ v3
  · rw [if_pos c3] at hf
    refine zx_ev_ift zk_85 (P := v2 ≤ v3) (t := 85) (f := 35) rfl rfl c3 ?_
    refine zx_ev_blk zk_85 1 (pc1 := 86) (L1 := [some (.ref 12), some (.int v1), some (.int v2), some (.int v3)]) (st1 := [.int v1]) (h1 := (zx_SC, m)) rfl ?_
    obtain rfl := Option.some.inj hf
    rw [show out = _ from hK]
    exact zx_ev_ret zk_85 rfl rfl
  · rw [if_neg c3] at hf
    refine zx_ev_ifn zk_85 (P := v2 ≤ v3) (t := 85) (f := 35) rfl rfl c3 ?_
    refine zx_ev_blk zk_85 3 (pc1 := 40) (L1 := [some (.ref 12), some (.int v1), some (.int v2), some (.int v3)]) (st1 := [.int v3, .ref 13]) (h1 := (zx_SC, m)) rfl ?_
    obtain ⟨j4, hj4, hf⟩ := zx_bind_eq hf
    refine zx_ev_step zk_85 rfl (st_iald rfl rfl hj4) ?_
    refine zx_ev_blk zk_85 1 (pc1 := 43) (L1 := [some (.ref 12), some (.int v1), some (.int v2), some (.int v3)]) (st1 := [.int 48, .int (m.1 13 j4)]) (h1 := (zx_SC, m)) rfl ?_
    by_cases c5 : (m.1 13 j4) < 48
    · rw [if_pos c5] at hf
      refine zx_ev_ift zk_85 (P := (m.1 13 j4) < 48) (t := 85) (f := 46) rfl rfl c5 ?_
      refine zx_ev_blk zk_85 1 (pc1 := 86) (L1 := [some (.ref 12), some (.int v1), some (.int v2), some (.int v3)]) (st1 := [.int v1]) (h1 := (zx_SC, m)) rfl ?_
      obtain rfl := Option.some.inj hf
      rw [show out = _ from hK]
      exact zx_ev_ret zk_85 rfl rfl
    · rw [if_neg c5] at hf
      refine zx_ev_ifn zk_85 (P := (m.1 13 j4) < 48) (t := 85) (f := 46) rfl rfl c5 ?_
      refine zx_ev_blk zk_85 3 (pc1 := 51) (L1 := [some (.ref 12), some (.int v1), some (.int v2), some (.int v3)]) (st1 := [.int v3, .ref 13]) (h1 := (zx_SC, m)) rfl ?_
      obtain ⟨j6, hj6, hf⟩ := zx_bind_eq hf
      refine zx_ev_step zk_85 rfl (st_iald rfl rfl hj6) ?_
      refine zx_ev_blk zk_85 1 (pc1 := 54) (L1 := [some (.ref 12), some (.int v1), some (.int v2), some (.int v3)]) (st1 := [.int 57, .int (m.1 13 j6)]) (h1 := (zx_SC, m)) rfl ?_
      by_cases c7 : 57 < (m.1 13 j6)
      · rw [if_pos c7] at hf
        refine zx_ev_ift zk_85 (P := 57 < (m.1 13 j6)) (t := 85) (f := 57) rfl rfl c7 ?_
        refine zx_ev_blk zk_85 1 (pc1 := 86) (L1 := [some (.ref 12), some (.int v1), some (.int v2), some (.int v3)]) (st1 := [.int v1]) (h1 := (zx_SC, m)) rfl ?_
        obtain rfl := Option.some.inj hf
        rw [show out = _ from hK]
        exact zx_ev_ret zk_85 rfl rfl
      · rw [if_neg c7] at hf
        refine zx_ev_ifn zk_85 (P := 57 < (m.1 13 j6)) (t := 85) (f := 57) rfl rfl c7 ?_
        refine zx_ev_blk zk_85 6 (pc1 := 66) (L1 := [some (.ref 12), some (.int v1), some (.int v2), some (.int v3)]) (st1 := [.int v3, .ref 13, .int (v1 * 10)]) (h1 := (zx_SC, m)) rfl ?_
        obtain ⟨j8, hj8, hf⟩ := zx_bind_eq hf
        refine zx_ev_step zk_85 rfl (st_iald rfl rfl hj8) ?_
        obtain ⟨a9, ha9, hf⟩ := zx_let_eq hf
        obtain ⟨m10, hm10, hf⟩ := zx_let_eq hf
        obtain ⟨a11, ha11, hf⟩ := zx_let_eq hf
        refine zx_ev_blk zk_85 11 (pc1 := 30) (L1 := [some (.ref 12), some (.int a9), some (.int v2), some (.int a11)]) (st1 := []) (h1 := (zx_SC, m10)) (by subst ha9; subst hm10; subst ha11; rfl) ?_
        obtain rfl := Option.some.inj hf
        exact zx_ev_sub (L := [some (.ref 12), some (.int a9), some (.int v2), some (.int a11)]) (⟨rfl, ⟨rfl, ⟨rfl, ⟨rfl, trivial⟩⟩⟩⟩) hK
def l_Text_number_12_l30 (v2 : Int32) (s0 : Int32 × Int32 × zx_M) : Option ((Int32 × zx_M)) := zx_lp zx_N (fun s : Int32 × Int32 × zx_M => b_Text_number_12_l30 s.1 v2 s.2.1 s.2.2) s0
theorem el_Text_number_12_l30 (v2 : Int32) {d : Nat} {out : Option Value × zx_H} : ∀ (n : Nat) (s : Int32 × Int32 × zx_M) (x : (Int32 × zx_M)), zx_lp n (fun s : Int32 × Int32 × zx_M => b_Text_number_12_l30 s.1 v2 s.2.1 s.2.2) s = some x → kx_Text_number_12_l30 v2 d out x → zx_Ev (d + 1) 85 30 [some (.ref 12), some (.int s.1), some (.int v2), some (.int s.2.1)] [] (zx_SC, s.2.2) out := by
  intro n
  induction n with
  | zero => intro s x hl _; simp [zx_lp] at hl
  | succ n ih =>
    intro s x hl hx
    unfold zx_lp at hl
    cases hb : b_Text_number_12_l30 s.1 v2 s.2.1 s.2.2 with
    | none => simp only [hb] at hl; cases hl
    | some z =>
      simp only [hb] at hl
      cases z with
      | inl s1 => exact eb_Text_number_12_l30 s.1 v2 s.2.1 s.2.2 hb (ih s1 x hl hx)
      | inr t =>
        simp only [Option.some.injEq] at hl
        subst hl
        exact eb_Text_number_12_l30 s.1 v2 s.2.1 s.2.2 hb hx
def f_Text_number_12 (m : zx_M) : Option (Int32 × zx_M) := zx_let (zx_min (zx_min (m.1 12 2) 120) ((m.1 12 3) + 4)) fun a1 => zx_let (zx_max 0 (m.1 12 3)) fun a2 => (l_Text_number_12_l30 a1 (0, a2, m)).bind fun x12 => zx_let x12 fun y13 => some y13
theorem s_Text_number_12 (m : zx_M) {d : Nat} {y : (Int32 × zx_M)} (hf : f_Text_number_12 m = some y) : zx_Ev (d + 1) 85 0 [some (.ref 12), none, none, none] [] (zx_SC, m) (some (.int y.1), (zx_SC, y.2)) := by
  unfold f_Text_number_12 at hf
  obtain ⟨a1, ha1, hf⟩ := zx_let_eq hf
  obtain ⟨a2, ha2, hf⟩ := zx_let_eq hf
  refine zx_ev_blk zk_85 17 (pc1 := 30) (L1 := [some (.ref 12), some (.int 0), some (.int a1), some (.int a2)]) (st1 := []) (h1 := (zx_SC, m)) (by subst ha1; subst ha2; rfl) ?_
  obtain ⟨x12, hx12, hf⟩ := zx_bind_eq hf
  refine zx_ev_sub (L := [some (.ref 12), some (.int 0), some (.int a1), some (.int a2)]) (⟨rfl, ⟨rfl, ⟨rfl, ⟨rfl, trivial⟩⟩⟩⟩) (el_Text_number_12_l30 a1 zx_N (0, a2, m) x12 hx12 ?_)
  obtain ⟨y13, hy13, hf⟩ := zx_let_eq hf
  subst hy13
  obtain rfl := Option.some.inj hf
  rfl
def n_Text_single_12_n105 (g : GT_bracketed_joined_single_12) (m : zx_M) : Option (Int32 × zx_M) := zx_let (zx_u1 m 12 4 1) fun m8 => some (0, m8)
theorem e_Text_single_12_n105 (g : GT_bracketed_joined_single_12) (m : zx_M) {d : Nat} (hg : GH_bracketed_joined_single_12 (d + 8) g) {y : (Int32 × zx_M)} (hf : n_Text_single_12_n105 g m = some y) : zx_Ev (d + 9) 83 105 [some (.ref 12), none, none, none, none, none] [] (zx_SC, m) (some (.int y.1), (zx_SC, y.2)) := by
  unfold n_Text_single_12_n105 at hf
  obtain ⟨m8, hm8, hf⟩ := zx_let_eq hf
  refine zx_ev_blk zk_83 4 (pc1 := 111) (L1 := [some (.ref 12), none, none, none, none, none]) (st1 := [.int 0]) (h1 := (zx_SC, m8)) (by subst hm8; rfl) ?_
  obtain rfl := Option.some.inj hf
  exact zx_ev_ret zk_83 rfl rfl
def n_Text_single_12_n92 (g : GT_bracketed_joined_single_12) (v1 : Int32) (v2 : Int32) (t0 : Int32) (m : zx_M) : Option (Int32 × zx_M) := if t0 = 0 then n_Text_single_12_n105 g m else if v1 < 6 then zx_let (zx_u1 m 12 3 ((m.1 12 3) + 1)) fun m10 => if ¬ v2 = 40 then (g.2.1 (v1 + 1) m10).bind fun (r13, m14) => if ¬ v2 = 45 then if ¬ r13 = 0 then some (0, m14) else some (1, m14) else some (-r13, m14) else (g.2.2 (v1 + 1) m10).bind fun (r18, m19) => some (r18, m19) else n_Text_single_12_n105 g m
theorem e_Text_single_12_n92 (g : GT_bracketed_joined_single_12) (v1 : Int32) (v2 : Int32) (t0 : Int32) (m : zx_M) {d : Nat} (hg : GH_bracketed_joined_single_12 (d + 8) g) {y : (Int32 × zx_M)} (hf : n_Text_single_12_n92 g v1 v2 t0 m = some y) : zx_Ev (d + 9) 83 92 [some (.ref 12), some (.int v1), some (.int v2), none, none, none] [.int t0] (zx_SC, m) (some (.int y.1), (zx_SC, y.2)) := by
  unfold n_Text_single_12_n92 at hf
  refine zx_ev_blk zk_83 2 (pc1 := 96) (L1 := [some (.ref 12), some (.int v1), some (.int v2), none, some (.int t0), none]) (st1 := [.int t0]) (h1 := (zx_SC, m)) rfl ?_
  by_cases c7 : t0 = 0
  · rw [if_pos c7] at hf
    refine zx_ev_ift zk_83 (P := t0 = 0) (t := 105) (f := 99) rfl rfl c7 ?_
    exact zx_ev_sub (L := [some (.ref 12), none, none, none, none, none]) (⟨rfl, ⟨trivial, ⟨trivial, ⟨trivial, trivial⟩⟩⟩⟩) (e_Text_single_12_n105 g m hg hf)
  · rw [if_neg c7] at hf
    refine zx_ev_ifn zk_83 (P := t0 = 0) (t := 105) (f := 99) rfl rfl c7 ?_
    refine zx_ev_blk zk_83 2 (pc1 := 102) (L1 := [some (.ref 12), some (.int v1), some (.int v2), none, some (.int t0), none]) (st1 := [.int 6, .int v1]) (h1 := (zx_SC, m)) rfl ?_
    by_cases c9 : v1 < 6
    · rw [if_pos c9] at hf
      refine zx_ev_ift zk_83 (P := v1 < 6) (t := 112) (f := 105) rfl rfl c9 ?_
      obtain ⟨m10, hm10, hf⟩ := zx_let_eq hf
      refine zx_ev_blk zk_83 8 (pc1 := 125) (L1 := [some (.ref 12), some (.int v1), some (.int v2), none, some (.int t0), none]) (st1 := [.int 40, .int v2]) (h1 := (zx_SC, m10)) (by subst hm10; rfl) ?_
      by_cases c11 : ¬ v2 = 40
      · rw [if_pos c11] at hf
        refine zx_ev_ift zk_83 (P := ¬ v2 = 40) (t := 136) (f := 128) rfl rfl c11 ?_
        refine zx_ev_blk zk_83 4 (pc1 := 140) (L1 := [some (.ref 12), some (.int v1), some (.int v2), none, some (.int t0), none]) (st1 := [.int (v1 + 1), .ref 12]) (h1 := (zx_SC, m10)) rfl ?_
        obtain ⟨⟨r13, m14⟩, hv12, hf⟩ := zx_bind_eq hf
        dsimp only at hf
        refine zx_ev_call (d := d + 8) zk_83 (v := some (.int r13)) (h1 := (zx_SC, m14)) rfl rfl zt_83 rfl zx_SCn rfl rfl (hg.2.1 _ _ _ hv12) ?_
        refine zx_ev_blk zk_83 3 (pc1 := 148) (L1 := [some (.ref 12), some (.int v1), some (.int v2), none, some (.int t0), some (.int r13)]) (st1 := [.int 45, .int v2]) (h1 := (zx_SC, m14)) rfl ?_
        by_cases c15 : ¬ v2 = 45
        · rw [if_pos c15] at hf
          refine zx_ev_ift zk_83 (P := ¬ v2 = 45) (t := 155) (f := 151) rfl rfl c15 ?_
          refine zx_ev_blk zk_83 1 (pc1 := 157) (L1 := [some (.ref 12), some (.int v1), some (.int v2), none, some (.int t0), some (.int r13)]) (st1 := [.int r13]) (h1 := (zx_SC, m14)) rfl ?_
          by_cases c16 : ¬ r13 = 0
          · rw [if_pos c16] at hf
            refine zx_ev_ift zk_83 (P := ¬ r13 = 0) (t := 164) (f := 160) rfl rfl c16 ?_
            refine zx_ev_blk zk_83 1 (pc1 := 165) (L1 := [some (.ref 12), some (.int v1), some (.int v2), none, some (.int t0), some (.int r13)]) (st1 := [.int 0]) (h1 := (zx_SC, m14)) rfl ?_
            obtain rfl := Option.some.inj hf
            exact zx_ev_ret zk_83 rfl rfl
          · rw [if_neg c16] at hf
            refine zx_ev_ifn zk_83 (P := ¬ r13 = 0) (t := 164) (f := 160) rfl rfl c16 ?_
            refine zx_ev_blk zk_83 2 (pc1 := 165) (L1 := [some (.ref 12), some (.int v1), some (.int v2), none, some (.int t0), some (.int r13)]) (st1 := [.int 1]) (h1 := (zx_SC, m14)) rfl ?_
            obtain rfl := Option.some.inj hf
            exact zx_ev_ret zk_83 rfl rfl
        · rw [if_neg c15] at hf
          refine zx_ev_ifn zk_83 (P := ¬ v2 = 45) (t := 155) (f := 151) rfl rfl c15 ?_
          refine zx_ev_blk zk_83 2 (pc1 := 154) (L1 := [some (.ref 12), some (.int v1), some (.int v2), none, some (.int t0), some (.int r13)]) (st1 := [.int (-r13)]) (h1 := (zx_SC, m14)) rfl ?_
          obtain rfl := Option.some.inj hf
          exact zx_ev_ret zk_83 rfl rfl
      · rw [if_neg c11] at hf
        refine zx_ev_ifn zk_83 (P := ¬ v2 = 40) (t := 136) (f := 128) rfl rfl c11 ?_
        refine zx_ev_blk zk_83 4 (pc1 := 132) (L1 := [some (.ref 12), some (.int v1), some (.int v2), none, some (.int t0), none]) (st1 := [.int (v1 + 1), .ref 12]) (h1 := (zx_SC, m10)) rfl ?_
        obtain ⟨⟨r18, m19⟩, hv17, hf⟩ := zx_bind_eq hf
        dsimp only at hf
        refine zx_ev_call (d := d + 8) zk_83 (v := some (.int r18)) (h1 := (zx_SC, m19)) rfl rfl zt_84 rfl zx_SCn rfl rfl (hg.2.2 _ _ _ hv17) ?_
        obtain rfl := Option.some.inj hf
        exact zx_ev_ret zk_83 rfl rfl
    · rw [if_neg c9] at hf
      refine zx_ev_ifn zk_83 (P := v1 < 6) (t := 112) (f := 105) rfl rfl c9 ?_
      exact zx_ev_sub (L := [some (.ref 12), none, none, none, none, none]) (⟨rfl, ⟨trivial, ⟨trivial, ⟨trivial, trivial⟩⟩⟩⟩) (e_Text_single_12_n105 g m hg hf)
def n_Text_single_12_n87 (g : GT_bracketed_joined_single_12) (v1 : Int32) (v2 : Int32) (m : zx_M) : Option (Int32 × zx_M) := n_Text_single_12_n92 g v1 v2 1 m
theorem e_Text_single_12_n87 (g : GT_bracketed_joined_single_12) (v1 : Int32) (v2 : Int32) (m : zx_M) {d : Nat} (hg : GH_bracketed_joined_single_12 (d + 8) g) {y : (Int32 × zx_M)} (hf : n_Text_single_12_n87 g v1 v2 m = some y) : zx_Ev (d + 9) 83 87 [some (.ref 12), some (.int v1), some (.int v2), none, none, none] [] (zx_SC, m) (some (.int y.1), (zx_SC, y.2)) := by
  unfold n_Text_single_12_n87 at hf
  refine zx_ev_blk zk_83 2 (pc1 := 92) (L1 := [some (.ref 12), some (.int v1), some (.int v2), none, none, none]) (st1 := [.int 1]) (h1 := (zx_SC, m)) rfl ?_
  exact zx_ev_sub (L := [some (.ref 12), some (.int v1), some (.int v2), none, none, none]) (⟨rfl, ⟨rfl, ⟨rfl, trivial⟩⟩⟩) (e_Text_single_12_n92 g v1 v2 1 m hg hf)
def n_Text_single_12_n69 (g : GT_bracketed_joined_single_12) (v1 : Int32) (v2 : Int32) (m : zx_M) : Option (Int32 × zx_M) := if v2 = 40 then n_Text_single_12_n87 g v1 v2 m else if v2 = 33 then n_Text_single_12_n87 g v1 v2 m else if ¬ v2 = 45 then n_Text_single_12_n92 g v1 v2 0 m else n_Text_single_12_n87 g v1 v2 m
theorem e_Text_single_12_n69 (g : GT_bracketed_joined_single_12) (v1 : Int32) (v2 : Int32) (m : zx_M) {d : Nat} (hg : GH_bracketed_joined_single_12 (d + 8) g) {y : (Int32 × zx_M)} (hf : n_Text_single_12_n69 g v1 v2 m = some y) : zx_Ev (d + 9) 83 69 [some (.ref 12), some (.int v1), some (.int v2), none, none, none] [] (zx_SC, m) (some (.int y.1), (zx_SC, y.2)) := by
  unfold n_Text_single_12_n69 at hf
  refine zx_ev_blk zk_83 2 (pc1 := 72) (L1 := [some (.ref 12), some (.int v1), some (.int v2), none, none, none]) (st1 := [.int 40, .int v2]) (h1 := (zx_SC, m)) rfl ?_
  by_cases c6 : v2 = 40
  · rw [if_pos c6] at hf
    refine zx_ev_ift zk_83 (P := v2 = 40) (t := 87) (f := 75) rfl rfl c6 ?_
    exact zx_ev_sub (L := [some (.ref 12), some (.int v1), some (.int v2), none, none, none]) (⟨rfl, ⟨rfl, ⟨rfl, trivial⟩⟩⟩) (e_Text_single_12_n87 g v1 v2 m hg hf)
  · rw [if_neg c6] at hf
    refine zx_ev_ifn zk_83 (P := v2 = 40) (t := 87) (f := 75) rfl rfl c6 ?_
    refine zx_ev_blk zk_83 2 (pc1 := 78) (L1 := [some (.ref 12), some (.int v1), some (.int v2), none, none, none]) (st1 := [.int 33, .int v2]) (h1 := (zx_SC, m)) rfl ?_
    by_cases c20 : v2 = 33
    · rw [if_pos c20] at hf
      refine zx_ev_ift zk_83 (P := v2 = 33) (t := 87) (f := 81) rfl rfl c20 ?_
      exact zx_ev_sub (L := [some (.ref 12), some (.int v1), some (.int v2), none, none, none]) (⟨rfl, ⟨rfl, ⟨rfl, trivial⟩⟩⟩) (e_Text_single_12_n87 g v1 v2 m hg hf)
    · rw [if_neg c20] at hf
      refine zx_ev_ifn zk_83 (P := v2 = 33) (t := 87) (f := 81) rfl rfl c20 ?_
      refine zx_ev_blk zk_83 2 (pc1 := 84) (L1 := [some (.ref 12), some (.int v1), some (.int v2), none, none, none]) (st1 := [.int 45, .int v2]) (h1 := (zx_SC, m)) rfl ?_
      by_cases c21 : ¬ v2 = 45
      · rw [if_pos c21] at hf
        refine zx_ev_ift zk_83 (P := ¬ v2 = 45) (t := 91) (f := 87) rfl rfl c21 ?_
        refine zx_ev_blk zk_83 1 (pc1 := 92) (L1 := [some (.ref 12), some (.int v1), some (.int v2), none, none, none]) (st1 := [.int 0]) (h1 := (zx_SC, m)) rfl ?_
        exact zx_ev_sub (L := [some (.ref 12), some (.int v1), some (.int v2), none, none, none]) (⟨rfl, ⟨rfl, ⟨rfl, trivial⟩⟩⟩) (e_Text_single_12_n92 g v1 v2 0 m hg hf)
      · rw [if_neg c21] at hf
        refine zx_ev_ifn zk_83 (P := ¬ v2 = 45) (t := 91) (f := 87) rfl rfl c21 ?_
        exact zx_ev_sub (L := [some (.ref 12), some (.int v1), some (.int v2), none, none, none]) (⟨rfl, ⟨rfl, ⟨rfl, trivial⟩⟩⟩) (e_Text_single_12_n87 g v1 v2 m hg hf)
def n_Text_single_12_n38 (g : GT_bracketed_joined_single_12) (v1 : Int32) (v2 : Int32) (t0 : Int32) (m : zx_M) : Option (Int32 × zx_M) := if t0 < 0 then n_Text_single_12_n69 g v1 v2 m else if 6 ≤ t0 then n_Text_single_12_n69 g v1 v2 m else zx_let (zx_u1 m 12 3 ((m.1 12 3) + 1)) fun m23 => (zx_ix 6 t0).bind fun j24 => some (m23.1 14 j24, m23)
theorem e_Text_single_12_n38 (g : GT_bracketed_joined_single_12) (v1 : Int32) (v2 : Int32) (t0 : Int32) (m : zx_M) {d : Nat} (hg : GH_bracketed_joined_single_12 (d + 8) g) {y : (Int32 × zx_M)} (hf : n_Text_single_12_n38 g v1 v2 t0 m = some y) : zx_Ev (d + 9) 83 38 [some (.ref 12), some (.int v1), some (.int v2), none, none, none] [.int t0] (zx_SC, m) (some (.int y.1), (zx_SC, y.2)) := by
  unfold n_Text_single_12_n38 at hf
  refine zx_ev_blk zk_83 2 (pc1 := 40) (L1 := [some (.ref 12), some (.int v1), some (.int v2), some (.int t0), none, none]) (st1 := [.int t0]) (h1 := (zx_SC, m)) rfl ?_
  by_cases c5 : t0 < 0
  · rw [if_pos c5] at hf
    refine zx_ev_ift zk_83 (P := t0 < 0) (t := 69) (f := 43) rfl rfl c5 ?_
    exact zx_ev_sub (L := [some (.ref 12), some (.int v1), some (.int v2), none, none, none]) (⟨rfl, ⟨rfl, ⟨rfl, ⟨trivial, trivial⟩⟩⟩⟩) (e_Text_single_12_n69 g v1 v2 m hg hf)
  · rw [if_neg c5] at hf
    refine zx_ev_ifn zk_83 (P := t0 < 0) (t := 69) (f := 43) rfl rfl c5 ?_
    refine zx_ev_blk zk_83 4 (pc1 := 49) (L1 := [some (.ref 12), some (.int v1), some (.int v2), some (.int t0), none, none]) (st1 := [.int 6, .int t0]) (h1 := (zx_SC, m)) rfl ?_
    by_cases c22 : 6 ≤ t0
    · rw [if_pos c22] at hf
      refine zx_ev_ift zk_83 (P := 6 ≤ t0) (t := 69) (f := 52) rfl rfl c22 ?_
      exact zx_ev_sub (L := [some (.ref 12), some (.int v1), some (.int v2), none, none, none]) (⟨rfl, ⟨rfl, ⟨rfl, ⟨trivial, trivial⟩⟩⟩⟩) (e_Text_single_12_n69 g v1 v2 m hg hf)
    · rw [if_neg c22] at hf
      refine zx_ev_ifn zk_83 (P := 6 ≤ t0) (t := 69) (f := 52) rfl rfl c22 ?_
      obtain ⟨m23, hm23, hf⟩ := zx_let_eq hf
      refine zx_ev_blk zk_83 9 (pc1 := 67) (L1 := [some (.ref 12), some (.int v1), some (.int v2), some (.int t0), none, none]) (st1 := [.int t0, .ref 14]) (h1 := (zx_SC, m23)) (by subst hm23; rfl) ?_
      obtain ⟨j24, hj24, hf⟩ := zx_bind_eq hf
      refine zx_ev_step zk_83 rfl (st_iald rfl rfl hj24) ?_
      obtain rfl := Option.some.inj hf
      exact zx_ev_ret zk_83 rfl rfl
def n_Text_single_12_n22 (g : GT_bracketed_joined_single_12) (v1 : Int32) (v2 : Int32) (m : zx_M) : Option (Int32 × zx_M) := if ¬ v2 = (-1) then n_Text_single_12_n38 g v1 v2 (zx_io (zx_i2c v2)) m else n_Text_single_12_n38 g v1 v2 (-1) m
theorem e_Text_single_12_n22 (g : GT_bracketed_joined_single_12) (v1 : Int32) (v2 : Int32) (m : zx_M) {d : Nat} (hg : GH_bracketed_joined_single_12 (d + 8) g) {y : (Int32 × zx_M)} (hf : n_Text_single_12_n22 g v1 v2 m = some y) : zx_Ev (d + 9) 83 22 [some (.ref 12), some (.int v1), some (.int v2), none, none, none] [] (zx_SC, m) (some (.int y.1), (zx_SC, y.2)) := by
  unfold n_Text_single_12_n22 at hf
  refine zx_ev_blk zk_83 2 (pc1 := 24) (L1 := [some (.ref 12), some (.int v1), some (.int v2), none, none, none]) (st1 := [.int (-1), .int v2]) (h1 := (zx_SC, m)) rfl ?_
  by_cases c4 : ¬ v2 = (-1)
  · rw [if_pos c4] at hf
    refine zx_ev_ift zk_83 (P := ¬ v2 = (-1)) (t := 31) (f := 27) rfl rfl c4 ?_
    refine zx_ev_blk zk_83 3 (pc1 := 35) (L1 := [some (.ref 12), some (.int v1), some (.int v2), none, none, none]) (st1 := [.int (zx_i2c v2), .ref 2000]) (h1 := (zx_SC, m)) rfl ?_
    refine zx_ev_step zk_83 rfl (st_io (d := d + 0) rfl rfl) ?_
    exact zx_ev_sub (L := [some (.ref 12), some (.int v1), some (.int v2), none, none, none]) (⟨rfl, ⟨rfl, ⟨rfl, trivial⟩⟩⟩) (e_Text_single_12_n38 g v1 v2 (zx_io (zx_i2c v2)) m hg hf)
  · rw [if_neg c4] at hf
    refine zx_ev_ifn zk_83 (P := ¬ v2 = (-1)) (t := 31) (f := 27) rfl rfl c4 ?_
    refine zx_ev_blk zk_83 2 (pc1 := 38) (L1 := [some (.ref 12), some (.int v1), some (.int v2), none, none, none]) (st1 := [.int (-1)]) (h1 := (zx_SC, m)) rfl ?_
    exact zx_ev_sub (L := [some (.ref 12), some (.int v1), some (.int v2), none, none, none]) (⟨rfl, ⟨rfl, ⟨rfl, trivial⟩⟩⟩) (e_Text_single_12_n38 g v1 v2 (-1) m hg hf)
def F_Text_single_12 (g : GT_bracketed_joined_single_12) (v1 : Int32) (m : zx_M) : Option (Int32 × zx_M) := (f_Text_next_12 m).bind fun r2 => if r2 < 48 then n_Text_single_12_n22 g v1 r2 m else if 57 < r2 then n_Text_single_12_n22 g v1 r2 m else (f_Text_number_12 m).bind fun (r27, m28) => some (r27, m28)
theorem s_Text_single_12 (g : GT_bracketed_joined_single_12) (v1 : Int32) (m : zx_M) {d : Nat} (hg : GH_bracketed_joined_single_12 (d + 8) g) {y : (Int32 × zx_M)} (hf : F_Text_single_12 g v1 m = some y) : zx_Ev (d + 9) 83 0 [some (.ref 12), some (.int v1), none, none, none, none] [] (zx_SC, m) (some (.int y.1), (zx_SC, y.2)) := by
  unfold F_Text_single_12 at hf
  refine zx_ev_blk zk_83 1 (pc1 := 1) (L1 := [some (.ref 12), some (.int v1), none, none, none, none]) (st1 := [.ref 12]) (h1 := (zx_SC, m)) rfl ?_
  obtain ⟨r2, hv1, hf⟩ := zx_bind_eq hf
  refine zx_ev_call (d := d + 8) zk_83 (v := some (.int r2)) (h1 := (zx_SC, m)) rfl rfl zt_79 rfl zx_SCn rfl rfl (s_Text_next_12 _ (d := d + 8) hv1) ?_
  refine zx_ev_blk zk_83 3 (pc1 := 8) (L1 := [some (.ref 12), some (.int v1), some (.int r2), none, none, none]) (st1 := [.int 48, .int r2]) (h1 := (zx_SC, m)) rfl ?_
  by_cases c3 : r2 < 48
  · rw [if_pos c3] at hf
    refine zx_ev_ift zk_83 (P := r2 < 48) (t := 22) (f := 11) rfl rfl c3 ?_
    exact zx_ev_sub (L := [some (.ref 12), some (.int v1), some (.int r2), none, none, none]) (⟨rfl, ⟨rfl, ⟨rfl, trivial⟩⟩⟩) (e_Text_single_12_n22 g v1 r2 m hg hf)
  · rw [if_neg c3] at hf
    refine zx_ev_ifn zk_83 (P := r2 < 48) (t := 22) (f := 11) rfl rfl c3 ?_
    refine zx_ev_blk zk_83 2 (pc1 := 14) (L1 := [some (.ref 12), some (.int v1), some (.int r2), none, none, none]) (st1 := [.int 57, .int r2]) (h1 := (zx_SC, m)) rfl ?_
    by_cases c25 : 57 < r2
    · rw [if_pos c25] at hf
      refine zx_ev_ift zk_83 (P := 57 < r2) (t := 22) (f := 17) rfl rfl c25 ?_
      exact zx_ev_sub (L := [some (.ref 12), some (.int v1), some (.int r2), none, none, none]) (⟨rfl, ⟨rfl, ⟨rfl, trivial⟩⟩⟩) (e_Text_single_12_n22 g v1 r2 m hg hf)
    · rw [if_neg c25] at hf
      refine zx_ev_ifn zk_83 (P := 57 < r2) (t := 22) (f := 17) rfl rfl c25 ?_
      refine zx_ev_blk zk_83 1 (pc1 := 18) (L1 := [some (.ref 12), some (.int v1), some (.int r2), none, none, none]) (st1 := [.ref 12]) (h1 := (zx_SC, m)) rfl ?_
      obtain ⟨⟨r27, m28⟩, hv26, hf⟩ := zx_bind_eq hf
      dsimp only at hf
      refine zx_ev_call (d := d + 8) zk_83 (v := some (.int r27)) (h1 := (zx_SC, m28)) rfl rfl zt_85 rfl zx_SCn rfl rfl (s_Text_number_12 _ (d := d + 7) hv26) ?_
      obtain rfl := Option.some.inj hf
      exact zx_ev_ret zk_83 rfl rfl
def F_Text_bracketed_12 (g : GT_bracketed_joined_single_12) (v1 : Int32) (m : zx_M) : Option (Int32 × zx_M) := (g.1 0 v1 m).bind fun (r2, m3) => (f_Text_next_12 m3).bind fun r5 => if ¬ r5 = 41 then zx_let (zx_u1 m3 12 4 1) fun m7 => some (r2, m7) else zx_let (zx_u1 m3 12 3 ((m3.1 12 3) + 1)) fun m8 => some (r2, m8)
theorem s_Text_bracketed_12 (g : GT_bracketed_joined_single_12) (v1 : Int32) (m : zx_M) {d : Nat} (hg : GH_bracketed_joined_single_12 (d + 8) g) {y : (Int32 × zx_M)} (hf : F_Text_bracketed_12 g v1 m = some y) : zx_Ev (d + 9) 84 0 [some (.ref 12), some (.int v1), none] [] (zx_SC, m) (some (.int y.1), (zx_SC, y.2)) := by
  unfold F_Text_bracketed_12 at hf
  refine zx_ev_blk zk_84 3 (pc1 := 3) (L1 := [some (.ref 12), some (.int v1), none]) (st1 := [.int v1, .int 0, .ref 12]) (h1 := (zx_SC, m)) rfl ?_
  obtain ⟨⟨r2, m3⟩, hv1, hf⟩ := zx_bind_eq hf
  dsimp only at hf
  refine zx_ev_call (d := d + 8) zk_84 (v := some (.int r2)) (h1 := (zx_SC, m3)) rfl rfl zt_80 rfl zx_SCn rfl rfl (hg.1 _ _ _ _ hv1) ?_
  refine zx_ev_blk zk_84 2 (pc1 := 8) (L1 := [some (.ref 12), some (.int v1), some (.int r2)]) (st1 := [.ref 12]) (h1 := (zx_SC, m3)) rfl ?_
  obtain ⟨r5, hv4, hf⟩ := zx_bind_eq hf
  refine zx_ev_call (d := d + 8) zk_84 (v := some (.int r5)) (h1 := (zx_SC, m3)) rfl rfl zt_79 rfl zx_SCn rfl rfl (s_Text_next_12 _ (d := d + 8) hv4) ?_
  refine zx_ev_blk zk_84 1 (pc1 := 13) (L1 := [some (.ref 12), some (.int v1), some (.int r2)]) (st1 := [.int 41, .int r5]) (h1 := (zx_SC, m3)) rfl ?_
  by_cases c6 : ¬ r5 = 41
  · rw [if_pos c6] at hf
    refine zx_ev_ift zk_84 (P := ¬ r5 = 41) (t := 29) (f := 16) rfl rfl c6 ?_
    obtain ⟨m7, hm7, hf⟩ := zx_let_eq hf
    refine zx_ev_blk zk_84 4 (pc1 := 35) (L1 := [some (.ref 12), some (.int v1), some (.int r2)]) (st1 := [.int r2]) (h1 := (zx_SC, m7)) (by subst hm7; rfl) ?_
    obtain rfl := Option.some.inj hf
    exact zx_ev_ret zk_84 rfl rfl
  · rw [if_neg c6] at hf
    refine zx_ev_ifn zk_84 (P := ¬ r5 = 41) (t := 29) (f := 16) rfl rfl c6 ?_
    obtain ⟨m8, hm8, hf⟩ := zx_let_eq hf
    refine zx_ev_blk zk_84 8 (pc1 := 35) (L1 := [some (.ref 12), some (.int v1), some (.int r2)]) (st1 := [.int r2]) (h1 := (zx_SC, m8)) (by subst hm8; rfl) ?_
    obtain rfl := Option.some.inj hf
    exact zx_ev_ret zk_84 rfl rfl
def g_bracketed_joined_single_12 : Nat → GT_bracketed_joined_single_12
  | 0 => ((fun _ _ _ => none), (fun _ _ => none), (fun _ _ => none))
  | j + 1 => ((fun x0 x1 m => F_Text_joined_12 (g_bracketed_joined_single_12 j) x0 x1 m), (fun x0 m => F_Text_single_12 (g_bracketed_joined_single_12 j) x0 m), (fun x0 m => F_Text_bracketed_12 (g_bracketed_joined_single_12 j) x0 m))
theorem eg_bracketed_joined_single_12 : ∀ (j d : Nat), GH_bracketed_joined_single_12 (d + 8 + j) (g_bracketed_joined_single_12 j) := by
  intro j
  induction j with
  | zero => intro d; exact ⟨(fun _ _ _ _ h => by simp [g_bracketed_joined_single_12] at h), (fun _ _ _ h => by simp [g_bracketed_joined_single_12] at h), (fun _ _ _ h => by simp [g_bracketed_joined_single_12] at h)⟩
  | succ j ih =>
    intro d
    have ih : ∀ d : Nat, GH_bracketed_joined_single_12 (d + j + 8) (g_bracketed_joined_single_12 j) := fun d => by rw [show d + j + 8 = d + 8 + j by omega]; exact ih d
    show GH_bracketed_joined_single_12 (d + 8 + j + 1) (g_bracketed_joined_single_12 (j + 1))
    rw [show d + 8 + j + 1 = d + j + 9 by omega]
    exact ⟨(fun _ _ _ _ h => s_Text_joined_12 _ _ _ _ (d := d + j) (ih d) h), (fun _ _ _ h => s_Text_single_12 _ _ _ (d := d + j) (ih d) h), (fun _ _ _ h => s_Text_bracketed_12 _ _ _ (d := d + j) (ih d) h)⟩
def kx_Text_read_12_l16 (d : Nat) (out : Option Value × zx_H) : (Int32 × zx_M) ⊕ (Int32 × zx_M) → Prop
  | .inl (x2, m) => zx_Ev (d + 73) 78 95 [some (.ref 12), none, some (.int x2), none, none, none] [] (zx_SC, m) out
  | .inr (x2, m) => zx_Ev (d + 73) 78 114 [some (.ref 12), none, some (.int x2), none, none, none] [] (zx_SC, m) out
def kl_Text_read_12_l16 (d : Nat) (out : Option Value × zx_H) : (Int32 × Int32 × Int32 × zx_M) ⊕ ((Int32 × zx_M) ⊕ (Int32 × zx_M)) → Prop
  | .inl (v1, v2, v3, m) => zx_Ev (d + 73) 78 16 [some (.ref 12), some (.int v1), some (.int v2), some (.int v3), none, none] [] (zx_SC, m) out
  | .inr x => kx_Text_read_12_l16 d out x
def n_Text_read_12_b16_86 (v1 : Int32) (v2 : Int32) (v3 : Int32) (m : zx_M) : Option ((Int32 × Int32 × Int32 × zx_M) ⊕ ((Int32 × zx_M) ⊕ (Int32 × zx_M))) := (f_Text_next_12 m).bind fun r12 => if r12 = 59 then zx_let (zx_u1 m 12 3 ((m.1 12 3) + 1)) fun m14 => zx_let (v3 + 1) fun a15 => some (.inl (v1, v2, a15, m14)) else some (.inr (.inl (v2, m)))
theorem e_Text_read_12_b16_86 (v1 : Int32) (v2 : Int32) (v3 : Int32) (m : zx_M) {d : Nat} {out : Option Value × zx_H} {y : (Int32 × Int32 × Int32 × zx_M) ⊕ ((Int32 × zx_M) ⊕ (Int32 × zx_M))} (hf : n_Text_read_12_b16_86 v1 v2 v3 m = some y) (hK : kl_Text_read_12_l16 d out y) : zx_Ev (d + 73) 78 86 [some (.ref 12), some (.int v1), some (.int v2), some (.int v3), none, none] [] (zx_SC, m) out := by
  unfold n_Text_read_12_b16_86 at hf
  refine zx_ev_blk zk_78 1 (pc1 := 87) (L1 := [some (.ref 12), some (.int v1), some (.int v2), some (.int v3), none, none]) (st1 := [.ref 12]) (h1 := (zx_SC, m)) rfl ?_
  obtain ⟨r12, hv11, hf⟩ := zx_bind_eq hf
  refine zx_ev_call (d := d + 72) zk_78 (v := some (.int r12)) (h1 := (zx_SC, m)) rfl rfl zt_79 rfl zx_SCn rfl rfl (s_Text_next_12 _ (d := d + 72) hv11) ?_
  refine zx_ev_blk zk_78 1 (pc1 := 92) (L1 := [some (.ref 12), some (.int v1), some (.int v2), some (.int v3), none, none]) (st1 := [.int 59, .int r12]) (h1 := (zx_SC, m)) rfl ?_
  by_cases c13 : r12 = 59
  · rw [if_pos c13] at hf
    refine zx_ev_ift zk_78 (P := r12 = 59) (t := 98) (f := 95) rfl rfl c13 ?_
    obtain ⟨m14, hm14, hf⟩ := zx_let_eq hf
    obtain ⟨a15, ha15, hf⟩ := zx_let_eq hf
    refine zx_ev_blk zk_78 8 (pc1 := 16) (L1 := [some (.ref 12), some (.int v1), some (.int v2), some (.int a15), none, none]) (st1 := []) (h1 := (zx_SC, m14)) (by subst hm14; subst ha15; rfl) ?_
    obtain rfl := Option.some.inj hf
    exact zx_ev_sub (L := [some (.ref 12), some (.int v1), some (.int v2), some (.int a15), none, none]) (⟨rfl, ⟨rfl, ⟨rfl, ⟨rfl, trivial⟩⟩⟩⟩) hK
  · rw [if_neg c13] at hf
    refine zx_ev_ifn zk_78 (P := r12 = 59) (t := 98) (f := 95) rfl rfl c13 ?_
    obtain rfl := Option.some.inj hf
    exact zx_ev_sub (L := [some (.ref 12), none, some (.int v2), none, none, none]) (⟨rfl, ⟨trivial, ⟨rfl, ⟨trivial, trivial⟩⟩⟩⟩) hK
def n_Text_read_12_b16_72 (v1 : Int32) (v2 : Int32) (v3 : Int32) (v4 : Int32) (v5 : Int32) (m : zx_M) : Option ((Int32 × Int32 × Int32 × zx_M) ⊕ ((Int32 × zx_M) ⊕ (Int32 × zx_M))) := if v5 = 0 then n_Text_read_12_b16_86 v1 v2 v3 m else if ¬ v1 = 0 then n_Text_read_12_b16_86 v1 v2 v3 m else n_Text_read_12_b16_86 1 v4 v3 m
theorem e_Text_read_12_b16_72 (v1 : Int32) (v2 : Int32) (v3 : Int32) (v4 : Int32) (v5 : Int32) (m : zx_M) {d : Nat} {out : Option Value × zx_H} {y : (Int32 × Int32 × Int32 × zx_M) ⊕ ((Int32 × zx_M) ⊕ (Int32 × zx_M))} (hf : n_Text_read_12_b16_72 v1 v2 v3 v4 v5 m = some y) (hK : kl_Text_read_12_l16 d out y) : zx_Ev (d + 73) 78 72 [some (.ref 12), some (.int v1), some (.int v2), some (.int v3), some (.int v4), some (.int v5)] [] (zx_SC, m) out := by
  unfold n_Text_read_12_b16_72 at hf
  refine zx_ev_blk zk_78 1 (pc1 := 74) (L1 := [some (.ref 12), some (.int v1), some (.int v2), some (.int v3), some (.int v4), some (.int v5)]) (st1 := [.int v5]) (h1 := (zx_SC, m)) rfl ?_
  by_cases c10 : v5 = 0
  · rw [if_pos c10] at hf
    refine zx_ev_ift zk_78 (P := v5 = 0) (t := 86) (f := 77) rfl rfl c10 ?_
    exact zx_ev_sub (L := [some (.ref 12), some (.int v1), some (.int v2), some (.int v3), none, none]) (⟨rfl, ⟨rfl, ⟨rfl, ⟨rfl, ⟨trivial, ⟨trivial, trivial⟩⟩⟩⟩⟩⟩) (e_Text_read_12_b16_86 v1 v2 v3 m hf hK)
  · rw [if_neg c10] at hf
    refine zx_ev_ifn zk_78 (P := v5 = 0) (t := 86) (f := 77) rfl rfl c10 ?_
    refine zx_ev_blk zk_78 1 (pc1 := 78) (L1 := [some (.ref 12), some (.int v1), some (.int v2), some (.int v3), some (.int v4), some (.int v5)]) (st1 := [.int v1]) (h1 := (zx_SC, m)) rfl ?_
    by_cases c16 : ¬ v1 = 0
    · rw [if_pos c16] at hf
      refine zx_ev_ift zk_78 (P := ¬ v1 = 0) (t := 86) (f := 81) rfl rfl c16 ?_
      exact zx_ev_sub (L := [some (.ref 12), some (.int v1), some (.int v2), some (.int v3), none, none]) (⟨rfl, ⟨rfl, ⟨rfl, ⟨rfl, ⟨trivial, ⟨trivial, trivial⟩⟩⟩⟩⟩⟩) (e_Text_read_12_b16_86 v1 v2 v3 m hf hK)
    · rw [if_neg c16] at hf
      refine zx_ev_ifn zk_78 (P := ¬ v1 = 0) (t := 86) (f := 81) rfl rfl c16 ?_
      refine zx_ev_blk zk_78 4 (pc1 := 86) (L1 := [some (.ref 12), some (.int 1), some (.int v4), some (.int v3), some (.int v4), some (.int v5)]) (st1 := []) (h1 := (zx_SC, m)) rfl ?_
      exact zx_ev_sub (L := [some (.ref 12), some (.int 1), some (.int v4), some (.int v3), none, none]) (⟨rfl, ⟨rfl, ⟨rfl, ⟨rfl, ⟨trivial, ⟨trivial, trivial⟩⟩⟩⟩⟩⟩) (e_Text_read_12_b16_86 1 v4 v3 m hf hK)
def n_Text_read_12_b16_62 (v1 : Int32) (v2 : Int32) (v3 : Int32) (t0 : Int32) (m : zx_M) : Option ((Int32 × Int32 × Int32 × zx_M) ⊕ ((Int32 × zx_M) ⊕ (Int32 × zx_M))) := ((g_bracketed_joined_single_12 64).1 0 0 m).bind fun (r20, m21) => n_Text_read_12_b16_72 v1 v2 v3 r20 t0 m21
theorem e_Text_read_12_b16_62 (v1 : Int32) (v2 : Int32) (v3 : Int32) (t0 : Int32) (m : zx_M) {d : Nat} {out : Option Value × zx_H} {y : (Int32 × Int32 × Int32 × zx_M) ⊕ ((Int32 × zx_M) ⊕ (Int32 × zx_M))} (hf : n_Text_read_12_b16_62 v1 v2 v3 t0 m = some y) (hK : kl_Text_read_12_l16 d out y) : zx_Ev (d + 73) 78 62 [some (.ref 12), some (.int v1), some (.int v2), some (.int v3), none, none] [.int t0] (zx_SC, m) out := by
  unfold n_Text_read_12_b16_62 at hf
  refine zx_ev_blk zk_78 4 (pc1 := 67) (L1 := [some (.ref 12), some (.int v1), some (.int v2), some (.int v3), none, some (.int t0)]) (st1 := [.int 0, .int 0, .ref 12]) (h1 := (zx_SC, m)) rfl ?_
  obtain ⟨⟨r20, m21⟩, hv19, hf⟩ := zx_bind_eq hf
  dsimp only at hf
  refine zx_ev_call (d := d + 72) zk_78 (v := some (.int r20)) (h1 := (zx_SC, m21)) rfl rfl zt_80 rfl zx_SCn rfl rfl ((eg_bracketed_joined_single_12 64 (d + 0)).1 _ _ _ _ hv19) ?_
  refine zx_ev_blk zk_78 1 (pc1 := 72) (L1 := [some (.ref 12), some (.int v1), some (.int v2), some (.int v3), some (.int r20), some (.int t0)]) (st1 := []) (h1 := (zx_SC, m21)) rfl ?_
  exact zx_ev_sub (L := [some (.ref 12), some (.int v1), some (.int v2), some (.int v3), some (.int r20), some (.int t0)]) (⟨rfl, ⟨rfl, ⟨rfl, ⟨rfl, ⟨rfl, ⟨rfl, trivial⟩⟩⟩⟩⟩⟩) (e_Text_read_12_b16_72 v1 v2 v3 r20 t0 m21 hf hK)
def b_Text_read_12_l16 (v1 : Int32) (v2 : Int32) (v3 : Int32) (m : zx_M) : Option ((Int32 × Int32 × Int32 × zx_M) ⊕ ((Int32 × zx_M) ⊕ (Int32 × zx_M))) := if 120 < v3 then some (.inr (.inr (v2, m))) else ((g_bracketed_joined_single_12 64).1 0 0 m).bind fun (r5, m6) => (f_Text_next_12 m6).bind fun r8 => if ¬ r8 = 63 then n_Text_read_12_b16_72 v1 v2 v3 r5 1 m6 else zx_let (zx_u1 m6 12 3 ((m6.1 12 3) + 1)) fun m17 => if r5 = 0 then n_Text_read_12_b16_62 v1 v2 v3 0 m17 else n_Text_read_12_b16_62 v1 v2 v3 1 m17
theorem eb_Text_read_12_l16 (v1 : Int32) (v2 : Int32) (v3 : Int32) (m : zx_M) {d : Nat} {out : Option Value × zx_H} {y : (Int32 × Int32 × Int32 × zx_M) ⊕ ((Int32 × zx_M) ⊕ (Int32 × zx_M))} (hf : b_Text_read_12_l16 v1 v2 v3 m = some y) (hK : kl_Text_read_12_l16 d out y) : zx_Ev (d + 73) 78 16 [some (.ref 12), some (.int v1), some (.int v2), some (.int v3), none, none] [] (zx_SC, m) out := by
  unfold b_Text_read_12_l16 at hf
  refine zx_ev_blk zk_78 2 (pc1 := 19) (L1 := [some (.ref 12), some (.int v1), some (.int v2), some (.int v3), none, none]) (st1 := [.int 120, .int v3]) (h1 := (zx_SC, m)) rfl ?_
  by_cases c3 : 120 < v3
  · rw [if_pos c3] at hf
    refine zx_ev_ift zk_78 (P := 120 < v3) (t := 114) (f := 22) rfl rfl c3 ?_
    obtain rfl := Option.some.inj hf
    exact zx_ev_sub (L := [some (.ref 12), none, some (.int v2), none, none, none]) (⟨rfl, ⟨trivial, ⟨rfl, ⟨trivial, trivial⟩⟩⟩⟩) hK
  · rw [if_neg c3] at hf
    refine zx_ev_ifn zk_78 (P := 120 < v3) (t := 114) (f := 22) rfl rfl c3 ?_
    refine zx_ev_blk zk_78 3 (pc1 := 25) (L1 := [some (.ref 12), some (.int v1), some (.int v2), some (.int v3), none, none]) (st1 := [.int 0, .int 0, .ref 12]) (h1 := (zx_SC, m)) rfl ?_
    obtain ⟨⟨r5, m6⟩, hv4, hf⟩ := zx_bind_eq hf
    dsimp only at hf
    refine zx_ev_call (d := d + 72) zk_78 (v := some (.int r5)) (h1 := (zx_SC, m6)) rfl rfl zt_80 rfl zx_SCn rfl rfl ((eg_bracketed_joined_single_12 64 (d + 0)).1 _ _ _ _ hv4) ?_
    refine zx_ev_blk zk_78 4 (pc1 := 34) (L1 := [some (.ref 12), some (.int v1), some (.int v2), some (.int v3), some (.int r5), some (.int 1)]) (st1 := [.ref 12]) (h1 := (zx_SC, m6)) rfl ?_
    obtain ⟨r8, hv7, hf⟩ := zx_bind_eq hf
    refine zx_ev_call (d := d + 72) zk_78 (v := some (.int r8)) (h1 := (zx_SC, m6)) rfl rfl zt_79 rfl zx_SCn rfl rfl (s_Text_next_12 _ (d := d + 72) hv7) ?_
    refine zx_ev_blk zk_78 1 (pc1 := 39) (L1 := [some (.ref 12), some (.int v1), some (.int v2), some (.int v3), some (.int r5), some (.int 1)]) (st1 := [.int 63, .int r8]) (h1 := (zx_SC, m6)) rfl ?_
    by_cases c9 : ¬ r8 = 63
    · rw [if_pos c9] at hf
      refine zx_ev_ift zk_78 (P := ¬ r8 = 63) (t := 72) (f := 42) rfl rfl c9 ?_
      exact zx_ev_sub (L := [some (.ref 12), some (.int v1), some (.int v2), some (.int v3), some (.int r5), some (.int 1)]) (⟨rfl, ⟨rfl, ⟨rfl, ⟨rfl, ⟨rfl, ⟨rfl, trivial⟩⟩⟩⟩⟩⟩) (e_Text_read_12_b16_72 v1 v2 v3 r5 1 m6 hf hK)
    · rw [if_neg c9] at hf
      refine zx_ev_ifn zk_78 (P := ¬ r8 = 63) (t := 72) (f := 42) rfl rfl c9 ?_
      obtain ⟨m17, hm17, hf⟩ := zx_let_eq hf
      refine zx_ev_blk zk_78 7 (pc1 := 54) (L1 := [some (.ref 12), some (.int v1), some (.int v2), some (.int v3), some (.int r5), some (.int 1)]) (st1 := [.int r5]) (h1 := (zx_SC, m17)) (by subst hm17; rfl) ?_
      by_cases c18 : r5 = 0
      · rw [if_pos c18] at hf
        refine zx_ev_ift zk_78 (P := r5 = 0) (t := 61) (f := 57) rfl rfl c18 ?_
        refine zx_ev_blk zk_78 1 (pc1 := 62) (L1 := [some (.ref 12), some (.int v1), some (.int v2), some (.int v3), some (.int r5), some (.int 1)]) (st1 := [.int 0]) (h1 := (zx_SC, m17)) rfl ?_
        exact zx_ev_sub (L := [some (.ref 12), some (.int v1), some (.int v2), some (.int v3), none, none]) (⟨rfl, ⟨rfl, ⟨rfl, ⟨rfl, ⟨trivial, ⟨trivial, trivial⟩⟩⟩⟩⟩⟩) (e_Text_read_12_b16_62 v1 v2 v3 0 m17 hf hK)
      · rw [if_neg c18] at hf
        refine zx_ev_ifn zk_78 (P := r5 = 0) (t := 61) (f := 57) rfl rfl c18 ?_
        refine zx_ev_blk zk_78 2 (pc1 := 62) (L1 := [some (.ref 12), some (.int v1), some (.int v2), some (.int v3), some (.int r5), some (.int 1)]) (st1 := [.int 1]) (h1 := (zx_SC, m17)) rfl ?_
        exact zx_ev_sub (L := [some (.ref 12), some (.int v1), some (.int v2), some (.int v3), none, none]) (⟨rfl, ⟨rfl, ⟨rfl, ⟨rfl, ⟨trivial, ⟨trivial, trivial⟩⟩⟩⟩⟩⟩) (e_Text_read_12_b16_62 v1 v2 v3 1 m17 hf hK)
def l_Text_read_12_l16 (s0 : Int32 × Int32 × Int32 × zx_M) : Option ((Int32 × zx_M) ⊕ (Int32 × zx_M)) := zx_lp zx_N (fun s : Int32 × Int32 × Int32 × zx_M => b_Text_read_12_l16 s.1 s.2.1 s.2.2.1 s.2.2.2) s0
theorem el_Text_read_12_l16 {d : Nat} {out : Option Value × zx_H} : ∀ (n : Nat) (s : Int32 × Int32 × Int32 × zx_M) (x : (Int32 × zx_M) ⊕ (Int32 × zx_M)), zx_lp n (fun s : Int32 × Int32 × Int32 × zx_M => b_Text_read_12_l16 s.1 s.2.1 s.2.2.1 s.2.2.2) s = some x → kx_Text_read_12_l16 d out x → zx_Ev (d + 73) 78 16 [some (.ref 12), some (.int s.1), some (.int s.2.1), some (.int s.2.2.1), none, none] [] (zx_SC, s.2.2.2) out := by
  intro n
  induction n with
  | zero => intro s x hl _; simp [zx_lp] at hl
  | succ n ih =>
    intro s x hl hx
    unfold zx_lp at hl
    cases hb : b_Text_read_12_l16 s.1 s.2.1 s.2.2.1 s.2.2.2 with
    | none => simp only [hb] at hl; cases hl
    | some z =>
      simp only [hb] at hl
      cases z with
      | inl s1 => exact eb_Text_read_12_l16 s.1 s.2.1 s.2.2.1 s.2.2.2 hb (ih s1 x hl hx)
      | inr t =>
        simp only [Option.some.injEq] at hl
        subst hl
        exact eb_Text_read_12_l16 s.1 s.2.1 s.2.2.1 s.2.2.2 hb hx
def n_Text_read_12_n138 (v2 : Int32) (t1 : Int32) (m : zx_M) : Option (Int32 × zx_M) := if t1 = 0 ∨ t1 = 1 then zx_let (zx_u1 m 12 4 t1) fun m27 => some (v2, m27) else none
theorem e_Text_read_12_n138 (v2 : Int32) (t1 : Int32) (m : zx_M) {d : Nat} {y : (Int32 × zx_M)} (hf : n_Text_read_12_n138 v2 t1 m = some y) : zx_Ev (d + 73) 78 138 [some (.ref 12), none, some (.int v2), none, none, none] [.int t1, .ref 12] (zx_SC, m) (some (.int y.1), (zx_SC, y.2)) := by
  unfold n_Text_read_12_n138 at hf
  by_cases c26 : t1 = 0 ∨ t1 = 1
  · rw [if_pos c26] at hf
    refine zx_ev_step zk_78 rfl (st_pfz rfl rfl rfl rfl rfl c26) ?_
    obtain ⟨m27, hm27, hf⟩ := zx_let_eq hf
    rw [hm27]
    refine zx_ev_blk zk_78 1 (pc1 := 142) (L1 := [some (.ref 12), none, some (.int v2), none, none, none]) (st1 := [.int v2]) (h1 := (zx_SC, m27)) rfl ?_
    obtain rfl := Option.some.inj hf
    exact zx_ev_ret zk_78 rfl rfl
  · rw [if_neg c26] at hf; cases hf
def n_Text_read_12_n133 (v2 : Int32) (m : zx_M) : Option (Int32 × zx_M) := n_Text_read_12_n138 v2 1 m
theorem e_Text_read_12_n133 (v2 : Int32) (m : zx_M) {d : Nat} {y : (Int32 × zx_M)} (hf : n_Text_read_12_n133 v2 m = some y) : zx_Ev (d + 73) 78 133 [some (.ref 12), none, some (.int v2), none, none, none] [.ref 12] (zx_SC, m) (some (.int y.1), (zx_SC, y.2)) := by
  unfold n_Text_read_12_n133 at hf
  refine zx_ev_blk zk_78 2 (pc1 := 138) (L1 := [some (.ref 12), none, some (.int v2), none, none, none]) (st1 := [.int 1, .ref 12]) (h1 := (zx_SC, m)) rfl ?_
  exact zx_ev_sub (L := [some (.ref 12), none, some (.int v2), none, none, none]) (⟨rfl, ⟨rfl, trivial⟩⟩) (e_Text_read_12_n138 v2 1 m hf)
def n_Text_read_12_n114 (v2 : Int32) (m : zx_M) : Option (Int32 × zx_M) := if ¬ (m.1 12 4) = 0 then n_Text_read_12_n133 v2 m else if (m.1 12 2) ≤ (m.1 12 3) then n_Text_read_12_n138 v2 0 m else n_Text_read_12_n133 v2 m
theorem e_Text_read_12_n114 (v2 : Int32) (m : zx_M) {d : Nat} {y : (Int32 × zx_M)} (hf : n_Text_read_12_n114 v2 m = some y) : zx_Ev (d + 73) 78 114 [some (.ref 12), none, some (.int v2), none, none, none] [] (zx_SC, m) (some (.int y.1), (zx_SC, y.2)) := by
  unfold n_Text_read_12_n114 at hf
  refine zx_ev_blk zk_78 3 (pc1 := 119) (L1 := [some (.ref 12), none, some (.int v2), none, none, none]) (st1 := [.int (m.1 12 4), .ref 12]) (h1 := (zx_SC, m)) rfl ?_
  by_cases c25 : ¬ (m.1 12 4) = 0
  · rw [if_pos c25] at hf
    refine zx_ev_ift zk_78 (P := ¬ (m.1 12 4) = 0) (t := 133) (f := 122) rfl rfl c25 ?_
    exact zx_ev_sub (L := [some (.ref 12), none, some (.int v2), none, none, none]) (⟨rfl, ⟨rfl, trivial⟩⟩) (e_Text_read_12_n133 v2 m hf)
  · rw [if_neg c25] at hf
    refine zx_ev_ifn zk_78 (P := ¬ (m.1 12 4) = 0) (t := 133) (f := 122) rfl rfl c25 ?_
    refine zx_ev_blk zk_78 4 (pc1 := 130) (L1 := [some (.ref 12), none, some (.int v2), none, none, none]) (st1 := [.int (m.1 12 2), .int (m.1 12 3), .ref 12]) (h1 := (zx_SC, m)) rfl ?_
    by_cases c28 : (m.1 12 2) ≤ (m.1 12 3)
    · rw [if_pos c28] at hf
      refine zx_ev_ift zk_78 (P := (m.1 12 2) ≤ (m.1 12 3)) (t := 137) (f := 133) rfl rfl c28 ?_
      refine zx_ev_blk zk_78 1 (pc1 := 138) (L1 := [some (.ref 12), none, some (.int v2), none, none, none]) (st1 := [.int 0, .ref 12]) (h1 := (zx_SC, m)) rfl ?_
      exact zx_ev_sub (L := [some (.ref 12), none, some (.int v2), none, none, none]) (⟨rfl, ⟨rfl, trivial⟩⟩) (e_Text_read_12_n138 v2 0 m hf)
    · rw [if_neg c28] at hf
      refine zx_ev_ifn zk_78 (P := (m.1 12 2) ≤ (m.1 12 3)) (t := 137) (f := 133) rfl rfl c28 ?_
      exact zx_ev_sub (L := [some (.ref 12), none, some (.int v2), none, none, none]) (⟨rfl, ⟨rfl, trivial⟩⟩) (e_Text_read_12_n133 v2 m hf)
def f_Text_read_12 (m : zx_M) : Option (Int32 × zx_M) := zx_let (zx_u1 m 12 3 0) fun m1 => zx_let (zx_u1 m1 12 4 0) fun m2 => (l_Text_read_12_l16 (0, 0, 0, m2)).bind fun x22 => match x22 with | .inl (w23, m24) => (n_Text_read_12_n114 w23 m24) | .inr (w29, m30) => (n_Text_read_12_n114 w29 m30)
theorem s_Text_read_12 (m : zx_M) {d : Nat} {y : (Int32 × zx_M)} (hf : f_Text_read_12 m = some y) : zx_Ev (d + 73) 78 0 [some (.ref 12), none, none, none, none, none] [] (zx_SC, m) (some (.int y.1), (zx_SC, y.2)) := by
  unfold f_Text_read_12 at hf
  obtain ⟨m1, hm1, hf⟩ := zx_let_eq hf
  obtain ⟨m2, hm2, hf⟩ := zx_let_eq hf
  refine zx_ev_blk zk_78 12 (pc1 := 16) (L1 := [some (.ref 12), some (.int 0), some (.int 0), some (.int 0), none, none]) (st1 := []) (h1 := (zx_SC, m2)) (by subst hm1; subst hm2; rfl) ?_
  obtain ⟨x22, hx22, hf⟩ := zx_bind_eq hf
  refine zx_ev_sub (L := [some (.ref 12), some (.int 0), some (.int 0), some (.int 0), none, none]) (⟨rfl, ⟨rfl, ⟨rfl, ⟨rfl, trivial⟩⟩⟩⟩) (el_Text_read_12_l16 zx_N (0, 0, 0, m2) x22 hx22 ?_)
  rcases x22 with ⟨w23, m24⟩ | ⟨w29, m30⟩
  · dsimp only at hf
    show zx_Ev (d + 73) 78 95 [some (.ref 12), none, some (.int w23), none, none, none] [] (zx_SC, m24) _
    refine zx_ev_blk zk_78 1 (pc1 := 114) (L1 := [some (.ref 12), none, some (.int w23), none, none, none]) (st1 := []) (h1 := (zx_SC, m24)) rfl ?_
    exact zx_ev_sub (L := [some (.ref 12), none, some (.int w23), none, none, none]) (⟨rfl, ⟨rfl, trivial⟩⟩) (e_Text_read_12_n114 w23 m24 hf)
  · dsimp only at hf
    show zx_Ev (d + 73) 78 114 [some (.ref 12), none, some (.int w29), none, none, none] [] (zx_SC, m30) _
    exact zx_ev_sub (L := [some (.ref 12), none, some (.int w29), none, none, none]) (⟨rfl, ⟨rfl, trivial⟩⟩) (e_Text_read_12_n114 w29 m30 hf)
def f_Text_worth_12 (v1 : Int32) (v2 : Int32) (v3 : Int32) (v4 : Int32) (v5 : Int32) (v6 : Int32) (m : zx_M) : Option (Int32 × zx_M) := (zx_ix 6 0).bind fun j1 => zx_let (zx_u1 m 14 j1 v1) fun m2 => (zx_ix 6 1).bind fun j3 => zx_let (zx_u1 m2 14 j3 v2) fun m4 => (zx_ix 6 2).bind fun j5 => zx_let (zx_u1 m4 14 j5 v3) fun m6 => (zx_ix 6 3).bind fun j7 => zx_let (zx_u1 m6 14 j7 v4) fun m8 => (zx_ix 6 4).bind fun j9 => zx_let (zx_u1 m8 14 j9 v5) fun m10 => (zx_ix 6 5).bind fun j11 => zx_let (zx_u1 m10 14 j11 v6) fun m12 => (f_Text_read_12 m12).bind fun (r14, m15) => some (r14, m15)
theorem s_Text_worth_12 (v1 : Int32) (v2 : Int32) (v3 : Int32) (v4 : Int32) (v5 : Int32) (v6 : Int32) (m : zx_M) {d : Nat} {y : (Int32 × zx_M)} (hf : f_Text_worth_12 v1 v2 v3 v4 v5 v6 m = some y) : zx_Ev (d + 74) 77 0 [some (.ref 12), some (.int v1), some (.int v2), some (.int v3), some (.int v4), some (.int v5), some (.int v6)] [] (zx_SC, m) (some (.int y.1), (zx_SC, y.2)) := by
  unfold f_Text_worth_12 at hf
  refine zx_ev_blk zk_77 4 (pc1 := 6) (L1 := [some (.ref 12), some (.int v1), some (.int v2), some (.int v3), some (.int v4), some (.int v5), some (.int v6)]) (st1 := [.int v1, .int 0, .ref 14]) (h1 := (zx_SC, m)) rfl ?_
  obtain ⟨j1, hj1, hf⟩ := zx_bind_eq hf
  refine zx_ev_step zk_77 rfl (st_iast rfl hj1) ?_
  obtain ⟨m2, hm2, hf⟩ := zx_let_eq hf
  rw [hm2]
  refine zx_ev_blk zk_77 4 (pc1 := 13) (L1 := [some (.ref 12), some (.int v1), some (.int v2), some (.int v3), some (.int v4), some (.int v5), some (.int v6)]) (st1 := [.int v2, .int 1, .ref 14]) (h1 := (zx_SC, m2)) rfl ?_
  obtain ⟨j3, hj3, hf⟩ := zx_bind_eq hf
  refine zx_ev_step zk_77 rfl (st_iast rfl hj3) ?_
  obtain ⟨m4, hm4, hf⟩ := zx_let_eq hf
  rw [hm4]
  refine zx_ev_blk zk_77 4 (pc1 := 20) (L1 := [some (.ref 12), some (.int v1), some (.int v2), some (.int v3), some (.int v4), some (.int v5), some (.int v6)]) (st1 := [.int v3, .int 2, .ref 14]) (h1 := (zx_SC, m4)) rfl ?_
  obtain ⟨j5, hj5, hf⟩ := zx_bind_eq hf
  refine zx_ev_step zk_77 rfl (st_iast rfl hj5) ?_
  obtain ⟨m6, hm6, hf⟩ := zx_let_eq hf
  rw [hm6]
  refine zx_ev_blk zk_77 4 (pc1 := 28) (L1 := [some (.ref 12), some (.int v1), some (.int v2), some (.int v3), some (.int v4), some (.int v5), some (.int v6)]) (st1 := [.int v4, .int 3, .ref 14]) (h1 := (zx_SC, m6)) rfl ?_
  obtain ⟨j7, hj7, hf⟩ := zx_bind_eq hf
  refine zx_ev_step zk_77 rfl (st_iast rfl hj7) ?_
  obtain ⟨m8, hm8, hf⟩ := zx_let_eq hf
  rw [hm8]
  refine zx_ev_blk zk_77 4 (pc1 := 36) (L1 := [some (.ref 12), some (.int v1), some (.int v2), some (.int v3), some (.int v4), some (.int v5), some (.int v6)]) (st1 := [.int v5, .int 4, .ref 14]) (h1 := (zx_SC, m8)) rfl ?_
  obtain ⟨j9, hj9, hf⟩ := zx_bind_eq hf
  refine zx_ev_step zk_77 rfl (st_iast rfl hj9) ?_
  obtain ⟨m10, hm10, hf⟩ := zx_let_eq hf
  rw [hm10]
  refine zx_ev_blk zk_77 4 (pc1 := 44) (L1 := [some (.ref 12), some (.int v1), some (.int v2), some (.int v3), some (.int v4), some (.int v5), some (.int v6)]) (st1 := [.int v6, .int 5, .ref 14]) (h1 := (zx_SC, m10)) rfl ?_
  obtain ⟨j11, hj11, hf⟩ := zx_bind_eq hf
  refine zx_ev_step zk_77 rfl (st_iast rfl hj11) ?_
  obtain ⟨m12, hm12, hf⟩ := zx_let_eq hf
  rw [hm12]
  refine zx_ev_blk zk_77 1 (pc1 := 46) (L1 := [some (.ref 12), some (.int v1), some (.int v2), some (.int v3), some (.int v4), some (.int v5), some (.int v6)]) (st1 := [.ref 12]) (h1 := (zx_SC, m12)) rfl ?_
  obtain ⟨⟨r14, m15⟩, hv13, hf⟩ := zx_bind_eq hf
  dsimp only at hf
  refine zx_ev_call (d := d + 73) zk_77 (v := some (.int r14)) (h1 := (zx_SC, m15)) rfl rfl zt_78 rfl zx_SCn rfl rfl (s_Text_read_12 _ (d := d + 0) hv13) ?_
  obtain rfl := Option.some.inj hf
  exact zx_ev_ret zk_77 rfl rfl
def f_Numbers_jumpersThere (m : zx_M) : Option Int32 := some (m.1 1 2)
theorem s_Numbers_jumpersThere (m : zx_M) {d : Nat} {y : Int32} (hf : f_Numbers_jumpersThere m = some y) : zx_Ev (d) 42 0 [some (.ref 1)] [] (zx_SC, m) (some (.int y), (zx_SC, m)) := by
  unfold f_Numbers_jumpersThere at hf
  refine zx_ev_blk zk_42 2 (pc1 := 4) (L1 := [some (.ref 1)]) (st1 := [.int (m.1 1 2)]) (h1 := (zx_SC, m)) rfl ?_
  obtain rfl := Option.some.inj hf
  exact zx_ev_ret zk_42 rfl rfl
def f_Text_size_9 (m : zx_M) : Option Int32 := some (m.1 9 2)
theorem s_Text_size_9 (m : zx_M) {d : Nat} {y : Int32} (hf : f_Text_size_9 m = some y) : zx_Ev (d) 72 0 [some (.ref 9)] [] (zx_SC, m) (some (.int y), (zx_SC, m)) := by
  unfold f_Text_size_9 at hf
  refine zx_ev_blk zk_72 2 (pc1 := 4) (L1 := [some (.ref 9)]) (st1 := [.int (m.1 9 2)]) (h1 := (zx_SC, m)) rfl ?_
  obtain rfl := Option.some.inj hf
  exact zx_ev_ret zk_72 rfl rfl
def f_Changes_undoable (m : zx_M) : Option Int32 := some (m.1 4 5)
theorem s_Changes_undoable (m : zx_M) {d : Nat} {y : Int32} (hf : f_Changes_undoable m = some y) : zx_Ev (d) 18 0 [some (.ref 4)] [] (zx_SC, m) (some (.int y), (zx_SC, m)) := by
  unfold f_Changes_undoable at hf
  refine zx_ev_blk zk_18 2 (pc1 := 4) (L1 := [some (.ref 4)]) (st1 := [.int (m.1 4 5)]) (h1 := (zx_SC, m)) rfl ?_
  obtain rfl := Option.some.inj hf
  exact zx_ev_ret zk_18 rfl rfl
def f_Acts_bodiesKept (m : zx_M) : Option Int32 := some (m.1 38 1)
theorem s_Acts_bodiesKept (m : zx_M) {d : Nat} {y : Int32} (hf : f_Acts_bodiesKept m = some y) : zx_Ev (d) 1 0 [some (.ref 38)] [] (zx_SC, m) (some (.int y), (zx_SC, m)) := by
  unfold f_Acts_bodiesKept at hf
  refine zx_ev_blk zk_1 2 (pc1 := 4) (L1 := [some (.ref 38)]) (st1 := [.int (m.1 38 1)]) (h1 := (zx_SC, m)) rfl ?_
  obtain rfl := Option.some.inj hf
  exact zx_ev_ret zk_1 rfl rfl
def f_Acts_bodiesRun (m : zx_M) : Option Int32 := some (m.1 38 3)
theorem s_Acts_bodiesRun (m : zx_M) {d : Nat} {y : Int32} (hf : f_Acts_bodiesRun m = some y) : zx_Ev (d) 2 0 [some (.ref 38)] [] (zx_SC, m) (some (.int y), (zx_SC, m)) := by
  unfold f_Acts_bodiesRun at hf
  refine zx_ev_blk zk_2 2 (pc1 := 4) (L1 := [some (.ref 38)]) (st1 := [.int (m.1 38 3)]) (h1 := (zx_SC, m)) rfl ?_
  obtain rfl := Option.some.inj hf
  exact zx_ev_ret zk_2 rfl rfl
def f_Shelves_isThere (v1 : Int32) (m : zx_M) : Option Int32 := if v1 < 0 then some 0 else if 6 ≤ v1 then some 0 else if 6 ≤ v1 then some 0 else some 1
theorem s_Shelves_isThere (v1 : Int32) (m : zx_M) {d : Nat} {y : Int32} (hf : f_Shelves_isThere v1 m = some y) : zx_Ev (d) 60 0 [some (.ref 15), some (.int v1)] [] (zx_SC, m) (some (.int y), (zx_SC, m)) := by
  unfold f_Shelves_isThere at hf
  refine zx_ev_blk zk_60 1 (pc1 := 1) (L1 := [some (.ref 15), some (.int v1)]) (st1 := [.int v1]) (h1 := (zx_SC, m)) rfl ?_
  by_cases c1 : v1 < 0
  · rw [if_pos c1] at hf
    refine zx_ev_ift zk_60 (P := v1 < 0) (t := 23) (f := 4) rfl rfl c1 ?_
    refine zx_ev_blk zk_60 1 (pc1 := 24) (L1 := [some (.ref 15), some (.int v1)]) (st1 := [.int 0]) (h1 := (zx_SC, m)) rfl ?_
    obtain rfl := Option.some.inj hf
    exact zx_ev_ret zk_60 rfl (zx_ret_z (Or.inl rfl))
  · rw [if_neg c1] at hf
    refine zx_ev_ifn zk_60 (P := v1 < 0) (t := 23) (f := 4) rfl rfl c1 ?_
    refine zx_ev_blk zk_60 2 (pc1 := 7) (L1 := [some (.ref 15), some (.int v1)]) (st1 := [.int 6, .int v1]) (h1 := (zx_SC, m)) rfl ?_
    by_cases c2 : 6 ≤ v1
    · rw [if_pos c2] at hf
      refine zx_ev_ift zk_60 (P := 6 ≤ v1) (t := 23) (f := 10) rfl rfl c2 ?_
      refine zx_ev_blk zk_60 1 (pc1 := 24) (L1 := [some (.ref 15), some (.int v1)]) (st1 := [.int 0]) (h1 := (zx_SC, m)) rfl ?_
      obtain rfl := Option.some.inj hf
      exact zx_ev_ret zk_60 rfl (zx_ret_z (Or.inl rfl))
    · rw [if_neg c2] at hf
      refine zx_ev_ifn zk_60 (P := 6 ≤ v1) (t := 23) (f := 10) rfl rfl c2 ?_
      refine zx_ev_blk zk_60 4 (pc1 := 16) (L1 := [some (.ref 15), some (.int v1)]) (st1 := [.int 6, .int v1]) (h1 := (zx_SC, m)) rfl ?_
      by_cases c3 : 6 ≤ v1
      · rw [if_pos c3] at hf
        refine zx_ev_ift zk_60 (P := 6 ≤ v1) (t := 23) (f := 19) rfl rfl c3 ?_
        refine zx_ev_blk zk_60 1 (pc1 := 24) (L1 := [some (.ref 15), some (.int v1)]) (st1 := [.int 0]) (h1 := (zx_SC, m)) rfl ?_
        obtain rfl := Option.some.inj hf
        exact zx_ev_ret zk_60 rfl (zx_ret_z (Or.inl rfl))
      · rw [if_neg c3] at hf
        refine zx_ev_ifn zk_60 (P := 6 ≤ v1) (t := 23) (f := 19) rfl rfl c3 ?_
        refine zx_ev_blk zk_60 2 (pc1 := 24) (L1 := [some (.ref 15), some (.int v1)]) (st1 := [.int 1]) (h1 := (zx_SC, m)) rfl ?_
        obtain rfl := Option.some.inj hf
        exact zx_ev_ret zk_60 rfl (zx_ret_z (Or.inr rfl))
def f_Shelves_refusal (v1 : Int32) (v2 : Int32) (m : zx_M) : Option Int32 := (f_Shelves_isThere v1 m).bind fun r2 => if ¬ r2 = 0 then (zx_ix 6 v1).bind fun j4 => if ¬ (m.1 16 j4) = (-1) then (zx_ix 6 v1).bind fun j6 => if ¬ (m.1 16 j6) = v2 then some (-12) else some 0 else some (-11) else some (-1)
theorem s_Shelves_refusal (v1 : Int32) (v2 : Int32) (m : zx_M) {d : Nat} {y : Int32} (hf : f_Shelves_refusal v1 v2 m = some y) : zx_Ev (d + 1) 63 0 [some (.ref 15), some (.int v1), some (.int v2)] [] (zx_SC, m) (some (.int y), (zx_SC, m)) := by
  unfold f_Shelves_refusal at hf
  refine zx_ev_blk zk_63 2 (pc1 := 2) (L1 := [some (.ref 15), some (.int v1), some (.int v2)]) (st1 := [.int v1, .ref 15]) (h1 := (zx_SC, m)) rfl ?_
  obtain ⟨r2, hv1, hf⟩ := zx_bind_eq hf
  refine zx_ev_call (d := d + 0) zk_63 (v := some (.int r2)) (h1 := (zx_SC, m)) rfl rfl zt_60 rfl zx_SCn rfl rfl (s_Shelves_isThere _ _ (d := d + 0) hv1) ?_
  by_cases c3 : ¬ r2 = 0
  · rw [if_pos c3] at hf
    refine zx_ev_ift zk_63 (P := ¬ r2 = 0) (t := 10) (f := 8) rfl rfl c3 ?_
    refine zx_ev_blk zk_63 3 (pc1 := 15) (L1 := [some (.ref 15), some (.int v1), some (.int v2)]) (st1 := [.int v1, .ref 16]) (h1 := (zx_SC, m)) rfl ?_
    obtain ⟨j4, hj4, hf⟩ := zx_bind_eq hf
    refine zx_ev_step zk_63 rfl (st_iald rfl rfl hj4) ?_
    refine zx_ev_blk zk_63 1 (pc1 := 17) (L1 := [some (.ref 15), some (.int v1), some (.int v2)]) (st1 := [.int (-1), .int (m.1 16 j4)]) (h1 := (zx_SC, m)) rfl ?_
    by_cases c5 : ¬ (m.1 16 j4) = (-1)
    · rw [if_pos c5] at hf
      refine zx_ev_ift zk_63 (P := ¬ (m.1 16 j4) = (-1)) (t := 23) (f := 20) rfl rfl c5 ?_
      refine zx_ev_blk zk_63 3 (pc1 := 28) (L1 := [some (.ref 15), some (.int v1), some (.int v2)]) (st1 := [.int v1, .ref 16]) (h1 := (zx_SC, m)) rfl ?_
      obtain ⟨j6, hj6, hf⟩ := zx_bind_eq hf
      refine zx_ev_step zk_63 rfl (st_iald rfl rfl hj6) ?_
      refine zx_ev_blk zk_63 1 (pc1 := 30) (L1 := [some (.ref 15), some (.int v1), some (.int v2)]) (st1 := [.int v2, .int (m.1 16 j6)]) (h1 := (zx_SC, m)) rfl ?_
      by_cases c7 : ¬ (m.1 16 j6) = v2
      · rw [if_pos c7] at hf
        refine zx_ev_ift zk_63 (P := ¬ (m.1 16 j6) = v2) (t := 37) (f := 33) rfl rfl c7 ?_
        refine zx_ev_blk zk_63 1 (pc1 := 39) (L1 := [some (.ref 15), some (.int v1), some (.int v2)]) (st1 := [.int (-12)]) (h1 := (zx_SC, m)) rfl ?_
        obtain rfl := Option.some.inj hf
        exact zx_ev_ret zk_63 rfl rfl
      · rw [if_neg c7] at hf
        refine zx_ev_ifn zk_63 (P := ¬ (m.1 16 j6) = v2) (t := 37) (f := 33) rfl rfl c7 ?_
        refine zx_ev_blk zk_63 2 (pc1 := 39) (L1 := [some (.ref 15), some (.int v1), some (.int v2)]) (st1 := [.int 0]) (h1 := (zx_SC, m)) rfl ?_
        obtain rfl := Option.some.inj hf
        exact zx_ev_ret zk_63 rfl rfl
    · rw [if_neg c5] at hf
      refine zx_ev_ifn zk_63 (P := ¬ (m.1 16 j4) = (-1)) (t := 23) (f := 20) rfl rfl c5 ?_
      refine zx_ev_blk zk_63 1 (pc1 := 22) (L1 := [some (.ref 15), some (.int v1), some (.int v2)]) (st1 := [.int (-11)]) (h1 := (zx_SC, m)) rfl ?_
      obtain rfl := Option.some.inj hf
      exact zx_ev_ret zk_63 rfl rfl
  · rw [if_neg c3] at hf
    refine zx_ev_ifn zk_63 (P := ¬ r2 = 0) (t := 10) (f := 8) rfl rfl c3 ?_
    refine zx_ev_blk zk_63 1 (pc1 := 9) (L1 := [some (.ref 15), some (.int v1), some (.int v2)]) (st1 := [.int (-1)]) (h1 := (zx_SC, m)) rfl ?_
    obtain rfl := Option.some.inj hf
    exact zx_ev_ret zk_63 rfl rfl
def f_Order_clear (m : zx_M) : Option zx_M := zx_let (zx_u1 m 19 1 0) fun m1 => some m1
theorem s_Order_clear (m : zx_M) {d : Nat} {y : zx_M} (hf : f_Order_clear m = some y) : zx_Ev (d) 52 0 [some (.ref 19)] [] (zx_SC, m) (none, (zx_SC, y)) := by
  unfold f_Order_clear at hf
  obtain ⟨m1, hm1, hf⟩ := zx_let_eq hf
  refine zx_ev_blk zk_52 3 (pc1 := 5) (L1 := [some (.ref 19)]) (st1 := []) (h1 := (zx_SC, m1)) (by subst hm1; rfl) ?_
  obtain rfl := Option.some.inj hf
  exact zx_ev_ret zk_52 rfl rfl
def f_Shelves_size (v1 : Int32) (m : zx_M) : Option Int32 := (f_Shelves_isThere v1 m).bind fun r2 => if r2 = 0 then some 0 else (zx_ix 6 v1).bind fun j4 => some (m.1 17 j4)
theorem s_Shelves_size (v1 : Int32) (m : zx_M) {d : Nat} {y : Int32} (hf : f_Shelves_size v1 m = some y) : zx_Ev (d + 1) 62 0 [some (.ref 15), some (.int v1)] [] (zx_SC, m) (some (.int y), (zx_SC, m)) := by
  unfold f_Shelves_size at hf
  refine zx_ev_blk zk_62 2 (pc1 := 2) (L1 := [some (.ref 15), some (.int v1)]) (st1 := [.int v1, .ref 15]) (h1 := (zx_SC, m)) rfl ?_
  obtain ⟨r2, hv1, hf⟩ := zx_bind_eq hf
  refine zx_ev_call (d := d + 0) zk_62 (v := some (.int r2)) (h1 := (zx_SC, m)) rfl rfl zt_60 rfl zx_SCn rfl rfl (s_Shelves_isThere _ _ (d := d + 0) hv1) ?_
  by_cases c3 : r2 = 0
  · rw [if_pos c3] at hf
    refine zx_ev_ift zk_62 (P := r2 = 0) (t := 17) (f := 8) rfl rfl c3 ?_
    refine zx_ev_blk zk_62 1 (pc1 := 18) (L1 := [some (.ref 15), some (.int v1)]) (st1 := [.int 0]) (h1 := (zx_SC, m)) rfl ?_
    obtain rfl := Option.some.inj hf
    exact zx_ev_ret zk_62 rfl rfl
  · rw [if_neg c3] at hf
    refine zx_ev_ifn zk_62 (P := r2 = 0) (t := 17) (f := 8) rfl rfl c3 ?_
    refine zx_ev_blk zk_62 3 (pc1 := 13) (L1 := [some (.ref 15), some (.int v1)]) (st1 := [.int v1, .ref 17]) (h1 := (zx_SC, m)) rfl ?_
    obtain ⟨j4, hj4, hf⟩ := zx_bind_eq hf
    refine zx_ev_step zk_62 rfl (st_iald rfl rfl hj4) ?_
    refine zx_ev_blk zk_62 1 (pc1 := 18) (L1 := [some (.ref 15), some (.int v1)]) (st1 := [.int (m.1 17 j4)]) (h1 := (zx_SC, m)) rfl ?_
    obtain rfl := Option.some.inj hf
    exact zx_ev_ret zk_62 rfl rfl
def f_Shelves_refusalOfPlace (v1 : Int32) (v2 : Int32) (m : zx_M) : Option Int32 := (f_Shelves_isThere v1 m).bind fun r2 => if ¬ r2 = 0 then (zx_ix 6 v1).bind fun j4 => if ¬ (m.1 16 j4) = (-1) then (zx_ix 6 v1).bind fun j6 => if ¬ (m.1 16 j6) = (-2) then if v2 < 0 then some (-13) else (zx_ix 6 v1).bind fun j9 => if (m.1 17 j9) ≤ v2 then some (-13) else some 0 else some (-12) else some (-11) else some (-1)
theorem s_Shelves_refusalOfPlace (v1 : Int32) (v2 : Int32) (m : zx_M) {d : Nat} {y : Int32} (hf : f_Shelves_refusalOfPlace v1 v2 m = some y) : zx_Ev (d + 1) 64 0 [some (.ref 15), some (.int v1), some (.int v2)] [] (zx_SC, m) (some (.int y), (zx_SC, m)) := by
  unfold f_Shelves_refusalOfPlace at hf
  refine zx_ev_blk zk_64 2 (pc1 := 2) (L1 := [some (.ref 15), some (.int v1), some (.int v2)]) (st1 := [.int v1, .ref 15]) (h1 := (zx_SC, m)) rfl ?_
  obtain ⟨r2, hv1, hf⟩ := zx_bind_eq hf
  refine zx_ev_call (d := d + 0) zk_64 (v := some (.int r2)) (h1 := (zx_SC, m)) rfl rfl zt_60 rfl zx_SCn rfl rfl (s_Shelves_isThere _ _ (d := d + 0) hv1) ?_
  by_cases c3 : ¬ r2 = 0
  · rw [if_pos c3] at hf
    refine zx_ev_ift zk_64 (P := ¬ r2 = 0) (t := 10) (f := 8) rfl rfl c3 ?_
    refine zx_ev_blk zk_64 3 (pc1 := 15) (L1 := [some (.ref 15), some (.int v1), some (.int v2)]) (st1 := [.int v1, .ref 16]) (h1 := (zx_SC, m)) rfl ?_
    obtain ⟨j4, hj4, hf⟩ := zx_bind_eq hf
    refine zx_ev_step zk_64 rfl (st_iald rfl rfl hj4) ?_
    refine zx_ev_blk zk_64 1 (pc1 := 17) (L1 := [some (.ref 15), some (.int v1), some (.int v2)]) (st1 := [.int (-1), .int (m.1 16 j4)]) (h1 := (zx_SC, m)) rfl ?_
    by_cases c5 : ¬ (m.1 16 j4) = (-1)
    · rw [if_pos c5] at hf
      refine zx_ev_ift zk_64 (P := ¬ (m.1 16 j4) = (-1)) (t := 23) (f := 20) rfl rfl c5 ?_
      refine zx_ev_blk zk_64 3 (pc1 := 28) (L1 := [some (.ref 15), some (.int v1), some (.int v2)]) (st1 := [.int v1, .ref 16]) (h1 := (zx_SC, m)) rfl ?_
      obtain ⟨j6, hj6, hf⟩ := zx_bind_eq hf
      refine zx_ev_step zk_64 rfl (st_iald rfl rfl hj6) ?_
      refine zx_ev_blk zk_64 1 (pc1 := 31) (L1 := [some (.ref 15), some (.int v1), some (.int v2)]) (st1 := [.int (-2), .int (m.1 16 j6)]) (h1 := (zx_SC, m)) rfl ?_
      by_cases c7 : ¬ (m.1 16 j6) = (-2)
      · rw [if_pos c7] at hf
        refine zx_ev_ift zk_64 (P := ¬ (m.1 16 j6) = (-2)) (t := 37) (f := 34) rfl rfl c7 ?_
        refine zx_ev_blk zk_64 1 (pc1 := 38) (L1 := [some (.ref 15), some (.int v1), some (.int v2)]) (st1 := [.int v2]) (h1 := (zx_SC, m)) rfl ?_
        by_cases c8 : v2 < 0
        · rw [if_pos c8] at hf
          refine zx_ev_ift zk_64 (P := v2 < 0) (t := 55) (f := 41) rfl rfl c8 ?_
          refine zx_ev_blk zk_64 1 (pc1 := 57) (L1 := [some (.ref 15), some (.int v1), some (.int v2)]) (st1 := [.int (-13)]) (h1 := (zx_SC, m)) rfl ?_
          obtain rfl := Option.some.inj hf
          exact zx_ev_ret zk_64 rfl rfl
        · rw [if_neg c8] at hf
          refine zx_ev_ifn zk_64 (P := v2 < 0) (t := 55) (f := 41) rfl rfl c8 ?_
          refine zx_ev_blk zk_64 4 (pc1 := 47) (L1 := [some (.ref 15), some (.int v1), some (.int v2)]) (st1 := [.int v1, .ref 17, .int v2]) (h1 := (zx_SC, m)) rfl ?_
          obtain ⟨j9, hj9, hf⟩ := zx_bind_eq hf
          refine zx_ev_step zk_64 rfl (st_iald rfl rfl hj9) ?_
          by_cases c10 : (m.1 17 j9) ≤ v2
          · rw [if_pos c10] at hf
            refine zx_ev_ift zk_64 (P := (m.1 17 j9) ≤ v2) (t := 55) (f := 51) rfl rfl c10 ?_
            refine zx_ev_blk zk_64 1 (pc1 := 57) (L1 := [some (.ref 15), some (.int v1), some (.int v2)]) (st1 := [.int (-13)]) (h1 := (zx_SC, m)) rfl ?_
            obtain rfl := Option.some.inj hf
            exact zx_ev_ret zk_64 rfl rfl
          · rw [if_neg c10] at hf
            refine zx_ev_ifn zk_64 (P := (m.1 17 j9) ≤ v2) (t := 55) (f := 51) rfl rfl c10 ?_
            refine zx_ev_blk zk_64 2 (pc1 := 57) (L1 := [some (.ref 15), some (.int v1), some (.int v2)]) (st1 := [.int 0]) (h1 := (zx_SC, m)) rfl ?_
            obtain rfl := Option.some.inj hf
            exact zx_ev_ret zk_64 rfl rfl
      · rw [if_neg c7] at hf
        refine zx_ev_ifn zk_64 (P := ¬ (m.1 16 j6) = (-2)) (t := 37) (f := 34) rfl rfl c7 ?_
        refine zx_ev_blk zk_64 1 (pc1 := 36) (L1 := [some (.ref 15), some (.int v1), some (.int v2)]) (st1 := [.int (-12)]) (h1 := (zx_SC, m)) rfl ?_
        obtain rfl := Option.some.inj hf
        exact zx_ev_ret zk_64 rfl rfl
    · rw [if_neg c5] at hf
      refine zx_ev_ifn zk_64 (P := ¬ (m.1 16 j4) = (-1)) (t := 23) (f := 20) rfl rfl c5 ?_
      refine zx_ev_blk zk_64 1 (pc1 := 22) (L1 := [some (.ref 15), some (.int v1), some (.int v2)]) (st1 := [.int (-11)]) (h1 := (zx_SC, m)) rfl ?_
      obtain rfl := Option.some.inj hf
      exact zx_ev_ret zk_64 rfl rfl
  · rw [if_neg c3] at hf
    refine zx_ev_ifn zk_64 (P := ¬ r2 = 0) (t := 10) (f := 8) rfl rfl c3 ?_
    refine zx_ev_blk zk_64 1 (pc1 := 9) (L1 := [some (.ref 15), some (.int v1), some (.int v2)]) (st1 := [.int (-1)]) (h1 := (zx_SC, m)) rfl ?_
    obtain rfl := Option.some.inj hf
    exact zx_ev_ret zk_64 rfl rfl
def f_Shelves_cell (v1 : Int32) (v2 : Int32) (m : zx_M) : Option Int64 := (f_Shelves_refusalOfPlace v1 v2 m).bind fun r2 => if ¬ r2 = 0 then some 0 else if 60 ≤ v2 then some 0 else (zx_ix 360 ((v1 * 60) + v2)).bind fun j5 => some (m.2 18 j5)
theorem s_Shelves_cell (v1 : Int32) (v2 : Int32) (m : zx_M) {d : Nat} {y : Int64} (hf : f_Shelves_cell v1 v2 m = some y) : zx_Ev (d + 2) 66 0 [some (.ref 15), some (.int v1), some (.int v2)] [] (zx_SC, m) (some (.long y), (zx_SC, m)) := by
  unfold f_Shelves_cell at hf
  refine zx_ev_blk zk_66 3 (pc1 := 3) (L1 := [some (.ref 15), some (.int v1), some (.int v2)]) (st1 := [.int v2, .int v1, .ref 15]) (h1 := (zx_SC, m)) rfl ?_
  obtain ⟨r2, hv1, hf⟩ := zx_bind_eq hf
  refine zx_ev_call (d := d + 1) zk_66 (v := some (.int r2)) (h1 := (zx_SC, m)) rfl rfl zt_64 rfl zx_SCn rfl rfl (s_Shelves_refusalOfPlace _ _ _ (d := d + 0) hv1) ?_
  by_cases c3 : ¬ r2 = 0
  · rw [if_pos c3] at hf
    refine zx_ev_ift zk_66 (P := ¬ r2 = 0) (t := 29) (f := 9) rfl rfl c3 ?_
    refine zx_ev_blk zk_66 1 (pc1 := 30) (L1 := [some (.ref 15), some (.int v1), some (.int v2)]) (st1 := [.long 0]) (h1 := (zx_SC, m)) rfl ?_
    obtain rfl := Option.some.inj hf
    exact zx_ev_ret zk_66 rfl rfl
  · rw [if_neg c3] at hf
    refine zx_ev_ifn zk_66 (P := ¬ r2 = 0) (t := 29) (f := 9) rfl rfl c3 ?_
    refine zx_ev_blk zk_66 2 (pc1 := 12) (L1 := [some (.ref 15), some (.int v1), some (.int v2)]) (st1 := [.int 60, .int v2]) (h1 := (zx_SC, m)) rfl ?_
    by_cases c4 : 60 ≤ v2
    · rw [if_pos c4] at hf
      refine zx_ev_ift zk_66 (P := 60 ≤ v2) (t := 29) (f := 15) rfl rfl c4 ?_
      refine zx_ev_blk zk_66 1 (pc1 := 30) (L1 := [some (.ref 15), some (.int v1), some (.int v2)]) (st1 := [.long 0]) (h1 := (zx_SC, m)) rfl ?_
      obtain rfl := Option.some.inj hf
      exact zx_ev_ret zk_66 rfl rfl
    · rw [if_neg c4] at hf
      refine zx_ev_ifn zk_66 (P := 60 ≤ v2) (t := 29) (f := 15) rfl rfl c4 ?_
      refine zx_ev_blk zk_66 7 (pc1 := 25) (L1 := [some (.ref 15), some (.int v1), some (.int v2)]) (st1 := [.int ((v1 * 60) + v2), .ref 18]) (h1 := (zx_SC, m)) rfl ?_
      obtain ⟨j5, hj5, hf⟩ := zx_bind_eq hf
      refine zx_ev_step zk_66 rfl (st_lald rfl hj5) ?_
      refine zx_ev_blk zk_66 1 (pc1 := 30) (L1 := [some (.ref 15), some (.int v1), some (.int v2)]) (st1 := [.long (m.2 18 j5)]) (h1 := (zx_SC, m)) rfl ?_
      obtain rfl := Option.some.inj hf
      exact zx_ev_ret zk_66 rfl rfl
def f_Order_at (v1 : Int32) (m : zx_M) : Option Int32 := if v1 < 0 then some 0 else if (m.1 19 1) ≤ v1 then some 0 else if 7 ≤ v1 then some 0 else (zx_ix 7 v1).bind fun j4 => some (m.1 20 j4)
theorem s_Order_at (v1 : Int32) (m : zx_M) {d : Nat} {y : Int32} (hf : f_Order_at v1 m = some y) : zx_Ev (d) 53 0 [some (.ref 19), some (.int v1)] [] (zx_SC, m) (some (.int y), (zx_SC, m)) := by
  unfold f_Order_at at hf
  refine zx_ev_blk zk_53 1 (pc1 := 1) (L1 := [some (.ref 19), some (.int v1)]) (st1 := [.int v1]) (h1 := (zx_SC, m)) rfl ?_
  by_cases c1 : v1 < 0
  · rw [if_pos c1] at hf
    refine zx_ev_ift zk_53 (P := v1 < 0) (t := 30) (f := 4) rfl rfl c1 ?_
    refine zx_ev_blk zk_53 1 (pc1 := 31) (L1 := [some (.ref 19), some (.int v1)]) (st1 := [.int 0]) (h1 := (zx_SC, m)) rfl ?_
    obtain rfl := Option.some.inj hf
    exact zx_ev_ret zk_53 rfl rfl
  · rw [if_neg c1] at hf
    refine zx_ev_ifn zk_53 (P := v1 < 0) (t := 30) (f := 4) rfl rfl c1 ?_
    refine zx_ev_blk zk_53 3 (pc1 := 9) (L1 := [some (.ref 19), some (.int v1)]) (st1 := [.int (m.1 19 1), .int v1]) (h1 := (zx_SC, m)) rfl ?_
    by_cases c2 : (m.1 19 1) ≤ v1
    · rw [if_pos c2] at hf
      refine zx_ev_ift zk_53 (P := (m.1 19 1) ≤ v1) (t := 30) (f := 12) rfl rfl c2 ?_
      refine zx_ev_blk zk_53 1 (pc1 := 31) (L1 := [some (.ref 19), some (.int v1)]) (st1 := [.int 0]) (h1 := (zx_SC, m)) rfl ?_
      obtain rfl := Option.some.inj hf
      exact zx_ev_ret zk_53 rfl rfl
    · rw [if_neg c2] at hf
      refine zx_ev_ifn zk_53 (P := (m.1 19 1) ≤ v1) (t := 30) (f := 12) rfl rfl c2 ?_
      refine zx_ev_blk zk_53 4 (pc1 := 18) (L1 := [some (.ref 19), some (.int v1)]) (st1 := [.int 7, .int v1]) (h1 := (zx_SC, m)) rfl ?_
      by_cases c3 : 7 ≤ v1
      · rw [if_pos c3] at hf
        refine zx_ev_ift zk_53 (P := 7 ≤ v1) (t := 30) (f := 21) rfl rfl c3 ?_
        refine zx_ev_blk zk_53 1 (pc1 := 31) (L1 := [some (.ref 19), some (.int v1)]) (st1 := [.int 0]) (h1 := (zx_SC, m)) rfl ?_
        obtain rfl := Option.some.inj hf
        exact zx_ev_ret zk_53 rfl rfl
      · rw [if_neg c3] at hf
        refine zx_ev_ifn zk_53 (P := 7 ≤ v1) (t := 30) (f := 21) rfl rfl c3 ?_
        refine zx_ev_blk zk_53 3 (pc1 := 26) (L1 := [some (.ref 19), some (.int v1)]) (st1 := [.int v1, .ref 20]) (h1 := (zx_SC, m)) rfl ?_
        obtain ⟨j4, hj4, hf⟩ := zx_bind_eq hf
        refine zx_ev_step zk_53 rfl (st_iald rfl rfl hj4) ?_
        refine zx_ev_blk zk_53 1 (pc1 := 31) (L1 := [some (.ref 19), some (.int v1)]) (st1 := [.int (m.1 20 j4)]) (h1 := (zx_SC, m)) rfl ?_
        obtain rfl := Option.some.inj hf
        exact zx_ev_ret zk_53 rfl rfl
def kx_Order_has_l2 (v1 : Int32) (m : zx_M) (d : Nat) (out : Option Value × zx_H) : Int32 → Prop
  | y => out = (some (.int y), (zx_SC, m))
def kl_Order_has_l2 (v1 : Int32) (m : zx_M) (d : Nat) (out : Option Value × zx_H) : (Int32) ⊕ (Int32) → Prop
  | .inl v2 => zx_Ev (d + 1) 54 2 [some (.ref 19), some (.int v1), some (.int v2)] [] (zx_SC, m) out
  | .inr x => kx_Order_has_l2 v1 m d out x
def b_Order_has_l2 (v1 : Int32) (v2 : Int32) (m : zx_M) : Option ((Int32) ⊕ (Int32)) := if (m.1 19 1) ≤ v2 then some (.inr 0) else (f_Order_at v2 m).bind fun r3 => if ¬ r3 = v1 then zx_let (v2 + 1) fun a5 => some (.inl a5) else some (.inr 1)
theorem eb_Order_has_l2 (v1 : Int32) (v2 : Int32) (m : zx_M) {d : Nat} {out : Option Value × zx_H} {y : (Int32) ⊕ (Int32)} (hf : b_Order_has_l2 v1 v2 m = some y) (hK : kl_Order_has_l2 v1 m d out y) : zx_Ev (d + 1) 54 2 [some (.ref 19), some (.int v1), some (.int v2)] [] (zx_SC, m) out := by
  unfold b_Order_has_l2 at hf
  refine zx_ev_blk zk_54 3 (pc1 := 7) (L1 := [some (.ref 19), some (.int v1), some (.int v2)]) (st1 := [.int (m.1 19 1), .int v2]) (h1 := (zx_SC, m)) rfl ?_
  by_cases c1 : (m.1 19 1) ≤ v2
  · rw [if_pos c1] at hf
    refine zx_ev_ift zk_54 (P := (m.1 19 1) ≤ v2) (t := 27) (f := 10) rfl rfl c1 ?_
    refine zx_ev_blk zk_54 1 (pc1 := 28) (L1 := [some (.ref 19), some (.int v1), some (.int v2)]) (st1 := [.int 0]) (h1 := (zx_SC, m)) rfl ?_
    obtain rfl := Option.some.inj hf
    rw [show out = _ from hK]
    exact zx_ev_ret zk_54 rfl (zx_ret_z (Or.inl rfl))
  · rw [if_neg c1] at hf
    refine zx_ev_ifn zk_54 (P := (m.1 19 1) ≤ v2) (t := 27) (f := 10) rfl rfl c1 ?_
    refine zx_ev_blk zk_54 2 (pc1 := 12) (L1 := [some (.ref 19), some (.int v1), some (.int v2)]) (st1 := [.int v2, .ref 19]) (h1 := (zx_SC, m)) rfl ?_
    obtain ⟨r3, hv2, hf⟩ := zx_bind_eq hf
    refine zx_ev_call (d := d + 0) zk_54 (v := some (.int r3)) (h1 := (zx_SC, m)) rfl rfl zt_53 rfl zx_SCn rfl rfl (s_Order_at _ _ (d := d + 0) hv2) ?_
    refine zx_ev_blk zk_54 1 (pc1 := 16) (L1 := [some (.ref 19), some (.int v1), some (.int v2)]) (st1 := [.int v1, .int r3]) (h1 := (zx_SC, m)) rfl ?_
    by_cases c4 : ¬ r3 = v1
    · rw [if_pos c4] at hf
      refine zx_ev_ift zk_54 (P := ¬ r3 = v1) (t := 21) (f := 19) rfl rfl c4 ?_
      obtain ⟨a5, ha5, hf⟩ := zx_let_eq hf
      refine zx_ev_blk zk_54 2 (pc1 := 2) (L1 := [some (.ref 19), some (.int v1), some (.int a5)]) (st1 := []) (h1 := (zx_SC, m)) (by subst ha5; rfl) ?_
      obtain rfl := Option.some.inj hf
      exact zx_ev_sub (L := [some (.ref 19), some (.int v1), some (.int a5)]) (⟨rfl, ⟨rfl, ⟨rfl, trivial⟩⟩⟩) hK
    · rw [if_neg c4] at hf
      refine zx_ev_ifn zk_54 (P := ¬ r3 = v1) (t := 21) (f := 19) rfl rfl c4 ?_
      refine zx_ev_blk zk_54 1 (pc1 := 20) (L1 := [some (.ref 19), some (.int v1), some (.int v2)]) (st1 := [.int 1]) (h1 := (zx_SC, m)) rfl ?_
      obtain rfl := Option.some.inj hf
      rw [show out = _ from hK]
      exact zx_ev_ret zk_54 rfl (zx_ret_z (Or.inr rfl))
def l_Order_has_l2 (v1 : Int32) (m : zx_M) (s0 : Int32) : Option (Int32) := zx_lp zx_N (fun s : Int32 => b_Order_has_l2 v1 s m) s0
theorem el_Order_has_l2 (v1 : Int32) (m : zx_M) {d : Nat} {out : Option Value × zx_H} : ∀ (n : Nat) (s : Int32) (x : Int32), zx_lp n (fun s : Int32 => b_Order_has_l2 v1 s m) s = some x → kx_Order_has_l2 v1 m d out x → zx_Ev (d + 1) 54 2 [some (.ref 19), some (.int v1), some (.int s)] [] (zx_SC, m) out := by
  intro n
  induction n with
  | zero => intro s x hl _; simp [zx_lp] at hl
  | succ n ih =>
    intro s x hl hx
    unfold zx_lp at hl
    cases hb : b_Order_has_l2 v1 s m with
    | none => simp only [hb] at hl; cases hl
    | some z =>
      simp only [hb] at hl
      cases z with
      | inl s1 => exact eb_Order_has_l2 v1 s m hb (ih s1 x hl hx)
      | inr t =>
        simp only [Option.some.injEq] at hl
        subst hl
        exact eb_Order_has_l2 v1 s m hb hx
def f_Order_has (v1 : Int32) (m : zx_M) : Option Int32 := (l_Order_has_l2 v1 m 0).bind fun x6 => zx_let x6 fun y7 => some y7
theorem s_Order_has (v1 : Int32) (m : zx_M) {d : Nat} {y : Int32} (hf : f_Order_has v1 m = some y) : zx_Ev (d + 1) 54 0 [some (.ref 19), some (.int v1), none] [] (zx_SC, m) (some (.int y), (zx_SC, m)) := by
  unfold f_Order_has at hf
  refine zx_ev_blk zk_54 2 (pc1 := 2) (L1 := [some (.ref 19), some (.int v1), some (.int 0)]) (st1 := []) (h1 := (zx_SC, m)) rfl ?_
  obtain ⟨x6, hx6, hf⟩ := zx_bind_eq hf
  refine zx_ev_sub (L := [some (.ref 19), some (.int v1), some (.int 0)]) (⟨rfl, ⟨rfl, ⟨rfl, trivial⟩⟩⟩) (el_Order_has_l2 v1 m zx_N 0 x6 hx6 ?_)
  obtain ⟨y7, hy7, hf⟩ := zx_let_eq hf
  subst hy7
  obtain rfl := Option.some.inj hf
  rfl
def f_Order_append (v1 : Int32) (m : zx_M) : Option zx_M := if (m.1 19 1) < 0 then some m else if 7 ≤ (m.1 19 1) then some m else (zx_ix 7 (m.1 19 1)).bind fun j3 => zx_let (zx_u1 m 20 j3 v1) fun m4 => zx_let (zx_u1 m4 19 1 ((m4.1 19 1) + 1)) fun m5 => some m5
theorem s_Order_append (v1 : Int32) (m : zx_M) {d : Nat} {y : zx_M} (hf : f_Order_append v1 m = some y) : zx_Ev (d) 55 0 [some (.ref 19), some (.int v1)] [] (zx_SC, m) (none, (zx_SC, y)) := by
  unfold f_Order_append at hf
  refine zx_ev_blk zk_55 2 (pc1 := 4) (L1 := [some (.ref 19), some (.int v1)]) (st1 := [.int (m.1 19 1)]) (h1 := (zx_SC, m)) rfl ?_
  by_cases c1 : (m.1 19 1) < 0
  · rw [if_pos c1] at hf
    refine zx_ev_ift zk_55 (P := (m.1 19 1) < 0) (t := 39) (f := 7) rfl rfl c1 ?_
    obtain rfl := Option.some.inj hf
    exact zx_ev_ret zk_55 rfl rfl
  · rw [if_neg c1] at hf
    refine zx_ev_ifn zk_55 (P := (m.1 19 1) < 0) (t := 39) (f := 7) rfl rfl c1 ?_
    refine zx_ev_blk zk_55 5 (pc1 := 16) (L1 := [some (.ref 19), some (.int v1)]) (st1 := [.int 7, .int (m.1 19 1)]) (h1 := (zx_SC, m)) rfl ?_
    by_cases c2 : 7 ≤ (m.1 19 1)
    · rw [if_pos c2] at hf
      refine zx_ev_ift zk_55 (P := 7 ≤ (m.1 19 1)) (t := 39) (f := 19) rfl rfl c2 ?_
      obtain rfl := Option.some.inj hf
      exact zx_ev_ret zk_55 rfl rfl
    · rw [if_neg c2] at hf
      refine zx_ev_ifn zk_55 (P := 7 ≤ (m.1 19 1)) (t := 39) (f := 19) rfl rfl c2 ?_
      refine zx_ev_blk zk_55 5 (pc1 := 28) (L1 := [some (.ref 19), some (.int v1)]) (st1 := [.int v1, .int (m.1 19 1), .ref 20]) (h1 := (zx_SC, m)) rfl ?_
      obtain ⟨j3, hj3, hf⟩ := zx_bind_eq hf
      refine zx_ev_step zk_55 rfl (st_iast rfl hj3) ?_
      obtain ⟨m4, hm4, hf⟩ := zx_let_eq hf
      rw [hm4]
      obtain ⟨m5, hm5, hf⟩ := zx_let_eq hf
      refine zx_ev_blk zk_55 6 (pc1 := 39) (L1 := [some (.ref 19), some (.int v1)]) (st1 := []) (h1 := (zx_SC, m5)) (by subst hm5; rfl) ?_
      obtain rfl := Option.some.inj hf
      exact zx_ev_ret zk_55 rfl rfl
def f_Jumps_clear_22 (m : zx_M) : Option zx_M := zx_let (zx_u1 m 22 4 0) fun m1 => some m1
theorem s_Jumps_clear_22 (m : zx_M) {d : Nat} {y : zx_M} (hf : f_Jumps_clear_22 m = some y) : zx_Ev (d) 33 0 [some (.ref 22)] [] (zx_SC, m) (none, (zx_SC, y)) := by
  unfold f_Jumps_clear_22 at hf
  obtain ⟨m1, hm1, hf⟩ := zx_let_eq hf
  refine zx_ev_blk zk_33 3 (pc1 := 5) (L1 := [some (.ref 22)]) (st1 := []) (h1 := (zx_SC, m1)) (by subst hm1; rfl) ?_
  obtain rfl := Option.some.inj hf
  exact zx_ev_ret zk_33 rfl rfl
def f_Order_size (m : zx_M) : Option Int32 := some (m.1 19 1)
theorem s_Order_size (m : zx_M) {d : Nat} {y : Int32} (hf : f_Order_size m = some y) : zx_Ev (d) 51 0 [some (.ref 19)] [] (zx_SC, m) (some (.int y), (zx_SC, m)) := by
  unfold f_Order_size at hf
  refine zx_ev_blk zk_51 2 (pc1 := 4) (L1 := [some (.ref 19)]) (st1 := [.int (m.1 19 1)]) (h1 := (zx_SC, m)) rfl ?_
  obtain rfl := Option.some.inj hf
  exact zx_ev_ret zk_51 rfl rfl
def kx_Jumps_join_22_l49 (v1 : Int32) (v2 : Int32) (d : Nat) (out : Option Value × zx_H) : zx_M → Prop
  | m => zx_Ev (d + 1) 35 123 [some (.ref 22), none, none, none, none] [] (zx_SC, m) out
def kl_Jumps_join_22_l49 (v1 : Int32) (v2 : Int32) (d : Nat) (out : Option Value × zx_H) : (Int32 × zx_M) ⊕ (zx_M) → Prop
  | .inl (v3, m) => zx_Ev (d + 1) 35 49 [some (.ref 22), some (.int v1), some (.int v2), some (.int v3), none] [] (zx_SC, m) out
  | .inr x => kx_Jumps_join_22_l49 v1 v2 d out x
def n_Jumps_join_22_b49_117 (v1 : Int32) (v2 : Int32) (v3 : Int32) (m : zx_M) : Option ((Int32 × zx_M) ⊕ (zx_M)) := zx_let (v3 + 1) fun a13 => some (.inl (a13, m))
theorem e_Jumps_join_22_b49_117 (v1 : Int32) (v2 : Int32) (v3 : Int32) (m : zx_M) {d : Nat} {out : Option Value × zx_H} {y : (Int32 × zx_M) ⊕ (zx_M)} (hf : n_Jumps_join_22_b49_117 v1 v2 v3 m = some y) (hK : kl_Jumps_join_22_l49 v1 v2 d out y) : zx_Ev (d + 1) 35 117 [some (.ref 22), some (.int v1), some (.int v2), some (.int v3), none] [] (zx_SC, m) out := by
  unfold n_Jumps_join_22_b49_117 at hf
  obtain ⟨a13, ha13, hf⟩ := zx_let_eq hf
  refine zx_ev_blk zk_35 2 (pc1 := 49) (L1 := [some (.ref 22), some (.int v1), some (.int v2), some (.int a13), none]) (st1 := []) (h1 := (zx_SC, m)) (by subst ha13; rfl) ?_
  obtain rfl := Option.some.inj hf
  exact zx_ev_sub (L := [some (.ref 22), some (.int v1), some (.int v2), some (.int a13), none]) (⟨rfl, ⟨rfl, ⟨rfl, ⟨rfl, trivial⟩⟩⟩⟩) hK
def n_Jumps_join_22_b49_78 (v1 : Int32) (v2 : Int32) (v3 : Int32) (t0 : Int32) (m : zx_M) : Option ((Int32 × zx_M) ⊕ (zx_M)) := if t0 = 0 then n_Jumps_join_22_b49_117 v1 v2 v3 m else (zx_ix 7 v3).bind fun j14 => if 4 < (zx_abs ((m.1 23 j14) - v1)) then n_Jumps_join_22_b49_117 v1 v2 v3 m else (zx_ix 7 v3).bind fun j16 => zx_let (zx_u1 m 25 j16 1) fun m17 => (zx_ix 7 (m17.1 22 4)).bind fun j18 => zx_let (zx_u1 m17 25 j18 1) fun m19 => n_Jumps_join_22_b49_117 v1 v2 v3 m19
theorem e_Jumps_join_22_b49_78 (v1 : Int32) (v2 : Int32) (v3 : Int32) (t0 : Int32) (m : zx_M) {d : Nat} {out : Option Value × zx_H} {y : (Int32 × zx_M) ⊕ (zx_M)} (hf : n_Jumps_join_22_b49_78 v1 v2 v3 t0 m = some y) (hK : kl_Jumps_join_22_l49 v1 v2 d out y) : zx_Ev (d + 1) 35 78 [some (.ref 22), some (.int v1), some (.int v2), some (.int v3), none] [.int t0] (zx_SC, m) out := by
  unfold n_Jumps_join_22_b49_78 at hf
  refine zx_ev_blk zk_35 2 (pc1 := 82) (L1 := [some (.ref 22), some (.int v1), some (.int v2), some (.int v3), some (.int t0)]) (st1 := [.int t0]) (h1 := (zx_SC, m)) rfl ?_
  by_cases c12 : t0 = 0
  · rw [if_pos c12] at hf
    refine zx_ev_ift zk_35 (P := t0 = 0) (t := 117) (f := 85) rfl rfl c12 ?_
    exact zx_ev_sub (L := [some (.ref 22), some (.int v1), some (.int v2), some (.int v3), none]) (⟨rfl, ⟨rfl, ⟨rfl, ⟨rfl, ⟨trivial, trivial⟩⟩⟩⟩⟩) (e_Jumps_join_22_b49_117 v1 v2 v3 m hf hK)
  · rw [if_neg c12] at hf
    refine zx_ev_ifn zk_35 (P := t0 = 0) (t := 117) (f := 85) rfl rfl c12 ?_
    refine zx_ev_blk zk_35 3 (pc1 := 90) (L1 := [some (.ref 22), some (.int v1), some (.int v2), some (.int v3), some (.int t0)]) (st1 := [.int v3, .ref 23]) (h1 := (zx_SC, m)) rfl ?_
    obtain ⟨j14, hj14, hf⟩ := zx_bind_eq hf
    refine zx_ev_step zk_35 rfl (st_iald rfl rfl hj14) ?_
    refine zx_ev_blk zk_35 4 (pc1 := 97) (L1 := [some (.ref 22), some (.int v1), some (.int v2), some (.int v3), some (.int t0)]) (st1 := [.int 4, .int (zx_abs ((m.1 23 j14) - v1))]) (h1 := (zx_SC, m)) rfl ?_
    by_cases c15 : 4 < (zx_abs ((m.1 23 j14) - v1))
    · rw [if_pos c15] at hf
      refine zx_ev_ift zk_35 (P := 4 < (zx_abs ((m.1 23 j14) - v1))) (t := 117) (f := 100) rfl rfl c15 ?_
      exact zx_ev_sub (L := [some (.ref 22), some (.int v1), some (.int v2), some (.int v3), none]) (⟨rfl, ⟨rfl, ⟨rfl, ⟨rfl, ⟨trivial, trivial⟩⟩⟩⟩⟩) (e_Jumps_join_22_b49_117 v1 v2 v3 m hf hK)
    · rw [if_neg c15] at hf
      refine zx_ev_ifn zk_35 (P := 4 < (zx_abs ((m.1 23 j14) - v1))) (t := 117) (f := 100) rfl rfl c15 ?_
      refine zx_ev_blk zk_35 4 (pc1 := 106) (L1 := [some (.ref 22), some (.int v1), some (.int v2), some (.int v3), some (.int t0)]) (st1 := [.int 1, .int v3, .ref 25]) (h1 := (zx_SC, m)) rfl ?_
      obtain ⟨j16, hj16, hf⟩ := zx_bind_eq hf
      refine zx_ev_step zk_35 rfl (st_zast rfl hj16 (Or.inr rfl)) ?_
      obtain ⟨m17, hm17, hf⟩ := zx_let_eq hf
      rw [hm17]
      refine zx_ev_blk zk_35 5 (pc1 := 116) (L1 := [some (.ref 22), some (.int v1), some (.int v2), some (.int v3), some (.int t0)]) (st1 := [.int 1, .int (m17.1 22 4), .ref 25]) (h1 := (zx_SC, m17)) rfl ?_
      obtain ⟨j18, hj18, hf⟩ := zx_bind_eq hf
      refine zx_ev_step zk_35 rfl (st_zast rfl hj18 (Or.inr rfl)) ?_
      obtain ⟨m19, hm19, hf⟩ := zx_let_eq hf
      rw [hm19]
      exact zx_ev_sub (L := [some (.ref 22), some (.int v1), some (.int v2), some (.int v3), none]) (⟨rfl, ⟨rfl, ⟨rfl, ⟨rfl, ⟨trivial, trivial⟩⟩⟩⟩⟩) (e_Jumps_join_22_b49_117 v1 v2 v3 m19 hf hK)
def b_Jumps_join_22_l49 (v1 : Int32) (v2 : Int32) (v3 : Int32) (m : zx_M) : Option ((Int32 × zx_M) ⊕ (zx_M)) := if (m.1 22 4) ≤ v3 then some (.inr m) else (zx_ix 7 v3).bind fun j10 => if 10 < (zx_abs ((m.1 24 j10) - v2)) then n_Jumps_join_22_b49_78 v1 v2 v3 0 m else n_Jumps_join_22_b49_78 v1 v2 v3 1 m
theorem eb_Jumps_join_22_l49 (v1 : Int32) (v2 : Int32) (v3 : Int32) (m : zx_M) {d : Nat} {out : Option Value × zx_H} {y : (Int32 × zx_M) ⊕ (zx_M)} (hf : b_Jumps_join_22_l49 v1 v2 v3 m = some y) (hK : kl_Jumps_join_22_l49 v1 v2 d out y) : zx_Ev (d + 1) 35 49 [some (.ref 22), some (.int v1), some (.int v2), some (.int v3), none] [] (zx_SC, m) out := by
  unfold b_Jumps_join_22_l49 at hf
  refine zx_ev_blk zk_35 3 (pc1 := 54) (L1 := [some (.ref 22), some (.int v1), some (.int v2), some (.int v3), none]) (st1 := [.int (m.1 22 4), .int v3]) (h1 := (zx_SC, m)) rfl ?_
  by_cases c9 : (m.1 22 4) ≤ v3
  · rw [if_pos c9] at hf
    refine zx_ev_ift zk_35 (P := (m.1 22 4) ≤ v3) (t := 123) (f := 57) rfl rfl c9 ?_
    obtain rfl := Option.some.inj hf
    exact zx_ev_sub (L := [some (.ref 22), none, none, none, none]) (⟨rfl, ⟨trivial, ⟨trivial, ⟨trivial, trivial⟩⟩⟩⟩) hK
  · rw [if_neg c9] at hf
    refine zx_ev_ifn zk_35 (P := (m.1 22 4) ≤ v3) (t := 123) (f := 57) rfl rfl c9 ?_
    refine zx_ev_blk zk_35 3 (pc1 := 62) (L1 := [some (.ref 22), some (.int v1), some (.int v2), some (.int v3), none]) (st1 := [.int v3, .ref 24]) (h1 := (zx_SC, m)) rfl ?_
    obtain ⟨j10, hj10, hf⟩ := zx_bind_eq hf
    refine zx_ev_step zk_35 rfl (st_iald rfl rfl hj10) ?_
    refine zx_ev_blk zk_35 4 (pc1 := 70) (L1 := [some (.ref 22), some (.int v1), some (.int v2), some (.int v3), none]) (st1 := [.int 10, .int (zx_abs ((m.1 24 j10) - v2))]) (h1 := (zx_SC, m)) rfl ?_
    by_cases c11 : 10 < (zx_abs ((m.1 24 j10) - v2))
    · rw [if_pos c11] at hf
      refine zx_ev_ift zk_35 (P := 10 < (zx_abs ((m.1 24 j10) - v2))) (t := 77) (f := 73) rfl rfl c11 ?_
      refine zx_ev_blk zk_35 1 (pc1 := 78) (L1 := [some (.ref 22), some (.int v1), some (.int v2), some (.int v3), none]) (st1 := [.int 0]) (h1 := (zx_SC, m)) rfl ?_
      exact zx_ev_sub (L := [some (.ref 22), some (.int v1), some (.int v2), some (.int v3), none]) (⟨rfl, ⟨rfl, ⟨rfl, ⟨rfl, trivial⟩⟩⟩⟩) (e_Jumps_join_22_b49_78 v1 v2 v3 0 m hf hK)
    · rw [if_neg c11] at hf
      refine zx_ev_ifn zk_35 (P := 10 < (zx_abs ((m.1 24 j10) - v2))) (t := 77) (f := 73) rfl rfl c11 ?_
      refine zx_ev_blk zk_35 2 (pc1 := 78) (L1 := [some (.ref 22), some (.int v1), some (.int v2), some (.int v3), none]) (st1 := [.int 1]) (h1 := (zx_SC, m)) rfl ?_
      exact zx_ev_sub (L := [some (.ref 22), some (.int v1), some (.int v2), some (.int v3), none]) (⟨rfl, ⟨rfl, ⟨rfl, ⟨rfl, trivial⟩⟩⟩⟩) (e_Jumps_join_22_b49_78 v1 v2 v3 1 m hf hK)
def l_Jumps_join_22_l49 (v1 : Int32) (v2 : Int32) (s0 : Int32 × zx_M) : Option (zx_M) := zx_lp zx_N (fun s : Int32 × zx_M => b_Jumps_join_22_l49 v1 v2 s.1 s.2) s0
theorem el_Jumps_join_22_l49 (v1 : Int32) (v2 : Int32) {d : Nat} {out : Option Value × zx_H} : ∀ (n : Nat) (s : Int32 × zx_M) (x : zx_M), zx_lp n (fun s : Int32 × zx_M => b_Jumps_join_22_l49 v1 v2 s.1 s.2) s = some x → kx_Jumps_join_22_l49 v1 v2 d out x → zx_Ev (d + 1) 35 49 [some (.ref 22), some (.int v1), some (.int v2), some (.int s.1), none] [] (zx_SC, s.2) out := by
  intro n
  induction n with
  | zero => intro s x hl _; simp [zx_lp] at hl
  | succ n ih =>
    intro s x hl hx
    unfold zx_lp at hl
    cases hb : b_Jumps_join_22_l49 v1 v2 s.1 s.2 with
    | none => simp only [hb] at hl; cases hl
    | some z =>
      simp only [hb] at hl
      cases z with
      | inl s1 => exact eb_Jumps_join_22_l49 v1 v2 s.1 s.2 hb (ih s1 x hl hx)
      | inr t =>
        simp only [Option.some.injEq] at hl
        subst hl
        exact eb_Jumps_join_22_l49 v1 v2 s.1 s.2 hb hx
def f_Jumps_join_22 (v1 : Int32) (v2 : Int32) (m : zx_M) : Option zx_M := if (m.1 22 4) < 0 then some m else if (m.1 22 4) < 7 then (zx_ix 7 (m.1 22 4)).bind fun j3 => zx_let (zx_u1 m 23 j3 v1) fun m4 => (zx_ix 7 (m4.1 22 4)).bind fun j5 => zx_let (zx_u1 m4 24 j5 v2) fun m6 => (zx_ix 7 (m6.1 22 4)).bind fun j7 => zx_let (zx_u1 m6 25 j7 0) fun m8 => (l_Jumps_join_22_l49 v1 v2 (0, m8)).bind fun x20 => zx_let x20 fun m21 => zx_let (zx_u1 m21 22 4 ((m21.1 22 4) + 1)) fun m22 => some m22 else some m
theorem s_Jumps_join_22 (v1 : Int32) (v2 : Int32) (m : zx_M) {d : Nat} {y : zx_M} (hf : f_Jumps_join_22 v1 v2 m = some y) : zx_Ev (d + 1) 35 0 [some (.ref 22), some (.int v1), some (.int v2), none, none] [] (zx_SC, m) (none, (zx_SC, y)) := by
  unfold f_Jumps_join_22 at hf
  refine zx_ev_blk zk_35 2 (pc1 := 4) (L1 := [some (.ref 22), some (.int v1), some (.int v2), none, none]) (st1 := [.int (m.1 22 4)]) (h1 := (zx_SC, m)) rfl ?_
  by_cases c1 : (m.1 22 4) < 0
  · rw [if_pos c1] at hf
    refine zx_ev_ift zk_35 (P := (m.1 22 4) < 0) (t := 16) (f := 7) rfl rfl c1 ?_
    obtain rfl := Option.some.inj hf
    exact zx_ev_ret zk_35 rfl rfl
  · rw [if_neg c1] at hf
    refine zx_ev_ifn zk_35 (P := (m.1 22 4) < 0) (t := 16) (f := 7) rfl rfl c1 ?_
    refine zx_ev_blk zk_35 3 (pc1 := 13) (L1 := [some (.ref 22), some (.int v1), some (.int v2), none, none]) (st1 := [.int 7, .int (m.1 22 4)]) (h1 := (zx_SC, m)) rfl ?_
    by_cases c2 : (m.1 22 4) < 7
    · rw [if_pos c2] at hf
      refine zx_ev_ift zk_35 (P := (m.1 22 4) < 7) (t := 17) (f := 16) rfl rfl c2 ?_
      refine zx_ev_blk zk_35 5 (pc1 := 26) (L1 := [some (.ref 22), some (.int v1), some (.int v2), none, none]) (st1 := [.int v1, .int (m.1 22 4), .ref 23]) (h1 := (zx_SC, m)) rfl ?_
      obtain ⟨j3, hj3, hf⟩ := zx_bind_eq hf
      refine zx_ev_step zk_35 rfl (st_iast rfl hj3) ?_
      obtain ⟨m4, hm4, hf⟩ := zx_let_eq hf
      rw [hm4]
      refine zx_ev_blk zk_35 5 (pc1 := 36) (L1 := [some (.ref 22), some (.int v1), some (.int v2), none, none]) (st1 := [.int v2, .int (m4.1 22 4), .ref 24]) (h1 := (zx_SC, m4)) rfl ?_
      obtain ⟨j5, hj5, hf⟩ := zx_bind_eq hf
      refine zx_ev_step zk_35 rfl (st_iast rfl hj5) ?_
      obtain ⟨m6, hm6, hf⟩ := zx_let_eq hf
      rw [hm6]
      refine zx_ev_blk zk_35 5 (pc1 := 46) (L1 := [some (.ref 22), some (.int v1), some (.int v2), none, none]) (st1 := [.int 0, .int (m6.1 22 4), .ref 25]) (h1 := (zx_SC, m6)) rfl ?_
      obtain ⟨j7, hj7, hf⟩ := zx_bind_eq hf
      refine zx_ev_step zk_35 rfl (st_zast rfl hj7 (Or.inl rfl)) ?_
      obtain ⟨m8, hm8, hf⟩ := zx_let_eq hf
      rw [hm8]
      refine zx_ev_blk zk_35 2 (pc1 := 49) (L1 := [some (.ref 22), some (.int v1), some (.int v2), some (.int 0), none]) (st1 := []) (h1 := (zx_SC, m8)) rfl ?_
      obtain ⟨x20, hx20, hf⟩ := zx_bind_eq hf
      refine zx_ev_sub (L := [some (.ref 22), some (.int v1), some (.int v2), some (.int 0), none]) (⟨rfl, ⟨rfl, ⟨rfl, ⟨rfl, trivial⟩⟩⟩⟩) (el_Jumps_join_22_l49 v1 v2 zx_N (0, m8) x20 hx20 ?_)
      obtain ⟨m21, hm21, hf⟩ := zx_let_eq hf
      subst hm21
      show zx_Ev (d + 1) 35 123 [some (.ref 22), none, none, none, none] [] (zx_SC, x20) _
      obtain ⟨m22, hm22, hf⟩ := zx_let_eq hf
      refine zx_ev_blk zk_35 6 (pc1 := 133) (L1 := [some (.ref 22), none, none, none, none]) (st1 := []) (h1 := (zx_SC, m22)) (by subst hm22; rfl) ?_
      obtain rfl := Option.some.inj hf
      exact zx_ev_ret zk_35 rfl rfl
    · rw [if_neg c2] at hf
      refine zx_ev_ifn zk_35 (P := (m.1 22 4) < 7) (t := 17) (f := 16) rfl rfl c2 ?_
      obtain rfl := Option.some.inj hf
      exact zx_ev_ret zk_35 rfl rfl
def kx_Jumps_wellFrom_22_l39 (v1 : Int32) (v2 : Int32) (v3 : Int32) (v4 : Int32) (v5 : Int32) (m : zx_M) (d : Nat) (out : Option Value × zx_H) : Int32 → Prop
  | y => out = (some (.int y), (zx_SC, m))
def kl_Jumps_wellFrom_22_l39 (v1 : Int32) (v2 : Int32) (v3 : Int32) (v4 : Int32) (v5 : Int32) (m : zx_M) (d : Nat) (out : Option Value × zx_H) : (Int32 × Int32) ⊕ (Int32) → Prop
  | .inl (v6, v7) => zx_Ev (d + 1) 40 39 [some (.ref 22), some (.int v1), some (.int v2), some (.int v3), some (.int v4), some (.int v5), some (.int v6), some (.int v7), none, none] [] (zx_SC, m) out
  | .inr x => kx_Jumps_wellFrom_22_l39 v1 v2 v3 v4 v5 m d out x
def n_Jumps_wellFrom_22_b39_127 (v1 : Int32) (v2 : Int32) (v3 : Int32) (v4 : Int32) (v5 : Int32) (v6 : Int32) (v7 : Int32) (m : zx_M) : Option ((Int32 × Int32) ⊕ (Int32)) := zx_let (v7 + 1) fun a13 => some (.inl (v6, a13))
theorem e_Jumps_wellFrom_22_b39_127 (v1 : Int32) (v2 : Int32) (v3 : Int32) (v4 : Int32) (v5 : Int32) (v6 : Int32) (v7 : Int32) (m : zx_M) {d : Nat} {out : Option Value × zx_H} {y : (Int32 × Int32) ⊕ (Int32)} (hf : n_Jumps_wellFrom_22_b39_127 v1 v2 v3 v4 v5 v6 v7 m = some y) (hK : kl_Jumps_wellFrom_22_l39 v1 v2 v3 v4 v5 m d out y) : zx_Ev (d + 1) 40 127 [some (.ref 22), some (.int v1), some (.int v2), some (.int v3), some (.int v4), some (.int v5), some (.int v6), some (.int v7), none, none] [] (zx_SC, m) out := by
  unfold n_Jumps_wellFrom_22_b39_127 at hf
  obtain ⟨a13, ha13, hf⟩ := zx_let_eq hf
  refine zx_ev_blk zk_40 2 (pc1 := 39) (L1 := [some (.ref 22), some (.int v1), some (.int v2), some (.int v3), some (.int v4), some (.int v5), some (.int v6), some (.int a13), none, none]) (st1 := []) (h1 := (zx_SC, m)) (by subst ha13; rfl) ?_
  obtain rfl := Option.some.inj hf
  exact zx_ev_sub (L := [some (.ref 22), some (.int v1), some (.int v2), some (.int v3), some (.int v4), some (.int v5), some (.int v6), some (.int a13), none, none]) (⟨rfl, ⟨rfl, ⟨rfl, ⟨rfl, ⟨rfl, ⟨rfl, ⟨rfl, ⟨rfl, trivial⟩⟩⟩⟩⟩⟩⟩⟩) hK
def n_Jumps_wellFrom_22_b39_124 (v1 : Int32) (v2 : Int32) (v3 : Int32) (v4 : Int32) (v5 : Int32) (v6 : Int32) (v7 : Int32) (m : zx_M) : Option ((Int32 × Int32) ⊕ (Int32)) := zx_let (v6 + 1) fun a17 => n_Jumps_wellFrom_22_b39_127 v1 v2 v3 v4 v5 a17 v7 m
theorem e_Jumps_wellFrom_22_b39_124 (v1 : Int32) (v2 : Int32) (v3 : Int32) (v4 : Int32) (v5 : Int32) (v6 : Int32) (v7 : Int32) (m : zx_M) {d : Nat} {out : Option Value × zx_H} {y : (Int32 × Int32) ⊕ (Int32)} (hf : n_Jumps_wellFrom_22_b39_124 v1 v2 v3 v4 v5 v6 v7 m = some y) (hK : kl_Jumps_wellFrom_22_l39 v1 v2 v3 v4 v5 m d out y) : zx_Ev (d + 1) 40 124 [some (.ref 22), some (.int v1), some (.int v2), some (.int v3), some (.int v4), some (.int v5), some (.int v6), some (.int v7), none, none] [] (zx_SC, m) out := by
  unfold n_Jumps_wellFrom_22_b39_124 at hf
  obtain ⟨a17, ha17, hf⟩ := zx_let_eq hf
  refine zx_ev_blk zk_40 1 (pc1 := 127) (L1 := [some (.ref 22), some (.int v1), some (.int v2), some (.int v3), some (.int v4), some (.int v5), some (.int a17), some (.int v7), none, none]) (st1 := []) (h1 := (zx_SC, m)) (by subst ha17; rfl) ?_
  exact zx_ev_sub (L := [some (.ref 22), some (.int v1), some (.int v2), some (.int v3), some (.int v4), some (.int v5), some (.int a17), some (.int v7), none, none]) (⟨rfl, ⟨rfl, ⟨rfl, ⟨rfl, ⟨rfl, ⟨rfl, ⟨rfl, ⟨rfl, trivial⟩⟩⟩⟩⟩⟩⟩⟩) (e_Jumps_wellFrom_22_b39_127 v1 v2 v3 v4 v5 a17 v7 m hf hK)
def n_Jumps_wellFrom_22_b39_90 (v1 : Int32) (v2 : Int32) (v3 : Int32) (v4 : Int32) (v5 : Int32) (v6 : Int32) (v7 : Int32) (v8 : Int32) (t0 : Int32) (m : zx_M) : Option ((Int32 × Int32) ⊕ (Int32)) := if t0 = 0 then n_Jumps_wellFrom_22_b39_127 v1 v2 v3 v4 v5 v6 v7 m else if v8 < v3 then n_Jumps_wellFrom_22_b39_127 v1 v2 v3 v4 v5 v6 v7 m else if v4 < v8 then n_Jumps_wellFrom_22_b39_127 v1 v2 v3 v4 v5 v6 v7 m else if ¬ v2 = 0 then n_Jumps_wellFrom_22_b39_124 v1 v2 v3 v4 v5 v6 v7 m else (zx_ix 7 v7).bind fun j18 => if ¬ (m.1 25 j18) = 0 then n_Jumps_wellFrom_22_b39_127 v1 v2 v3 v4 v5 v6 v7 m else n_Jumps_wellFrom_22_b39_124 v1 v2 v3 v4 v5 v6 v7 m
theorem e_Jumps_wellFrom_22_b39_90 (v1 : Int32) (v2 : Int32) (v3 : Int32) (v4 : Int32) (v5 : Int32) (v6 : Int32) (v7 : Int32) (v8 : Int32) (t0 : Int32) (m : zx_M) {d : Nat} {out : Option Value × zx_H} {y : (Int32 × Int32) ⊕ (Int32)} (hf : n_Jumps_wellFrom_22_b39_90 v1 v2 v3 v4 v5 v6 v7 v8 t0 m = some y) (hK : kl_Jumps_wellFrom_22_l39 v1 v2 v3 v4 v5 m d out y) : zx_Ev (d + 1) 40 90 [some (.ref 22), some (.int v1), some (.int v2), some (.int v3), some (.int v4), some (.int v5), some (.int v6), some (.int v7), some (.int v8), none] [.int t0] (zx_SC, m) out := by
  unfold n_Jumps_wellFrom_22_b39_90 at hf
  refine zx_ev_blk zk_40 2 (pc1 := 94) (L1 := [some (.ref 22), some (.int v1), some (.int v2), some (.int v3), some (.int v4), some (.int v5), some (.int v6), some (.int v7), some (.int v8), some (.int t0)]) (st1 := [.int t0]) (h1 := (zx_SC, m)) rfl ?_
  by_cases c12 : t0 = 0
  · rw [if_pos c12] at hf
    refine zx_ev_ift zk_40 (P := t0 = 0) (t := 127) (f := 97) rfl rfl c12 ?_
    exact zx_ev_sub (L := [some (.ref 22), some (.int v1), some (.int v2), some (.int v3), some (.int v4), some (.int v5), some (.int v6), some (.int v7), none, none]) (⟨rfl, ⟨rfl, ⟨rfl, ⟨rfl, ⟨rfl, ⟨rfl, ⟨rfl, ⟨rfl, ⟨trivial, ⟨trivial, trivial⟩⟩⟩⟩⟩⟩⟩⟩⟩⟩) (e_Jumps_wellFrom_22_b39_127 v1 v2 v3 v4 v5 v6 v7 m hf hK)
  · rw [if_neg c12] at hf
    refine zx_ev_ifn zk_40 (P := t0 = 0) (t := 127) (f := 97) rfl rfl c12 ?_
    refine zx_ev_blk zk_40 2 (pc1 := 100) (L1 := [some (.ref 22), some (.int v1), some (.int v2), some (.int v3), some (.int v4), some (.int v5), some (.int v6), some (.int v7), some (.int v8), some (.int t0)]) (st1 := [.int v3, .int v8]) (h1 := (zx_SC, m)) rfl ?_
    by_cases c14 : v8 < v3
    · rw [if_pos c14] at hf
      refine zx_ev_ift zk_40 (P := v8 < v3) (t := 127) (f := 103) rfl rfl c14 ?_
      exact zx_ev_sub (L := [some (.ref 22), some (.int v1), some (.int v2), some (.int v3), some (.int v4), some (.int v5), some (.int v6), some (.int v7), none, none]) (⟨rfl, ⟨rfl, ⟨rfl, ⟨rfl, ⟨rfl, ⟨rfl, ⟨rfl, ⟨rfl, ⟨trivial, ⟨trivial, trivial⟩⟩⟩⟩⟩⟩⟩⟩⟩⟩) (e_Jumps_wellFrom_22_b39_127 v1 v2 v3 v4 v5 v6 v7 m hf hK)
    · rw [if_neg c14] at hf
      refine zx_ev_ifn zk_40 (P := v8 < v3) (t := 127) (f := 103) rfl rfl c14 ?_
      refine zx_ev_blk zk_40 2 (pc1 := 107) (L1 := [some (.ref 22), some (.int v1), some (.int v2), some (.int v3), some (.int v4), some (.int v5), some (.int v6), some (.int v7), some (.int v8), some (.int t0)]) (st1 := [.int v4, .int v8]) (h1 := (zx_SC, m)) rfl ?_
      by_cases c15 : v4 < v8
      · rw [if_pos c15] at hf
        refine zx_ev_ift zk_40 (P := v4 < v8) (t := 127) (f := 110) rfl rfl c15 ?_
        exact zx_ev_sub (L := [some (.ref 22), some (.int v1), some (.int v2), some (.int v3), some (.int v4), some (.int v5), some (.int v6), some (.int v7), none, none]) (⟨rfl, ⟨rfl, ⟨rfl, ⟨rfl, ⟨rfl, ⟨rfl, ⟨rfl, ⟨rfl, ⟨trivial, ⟨trivial, trivial⟩⟩⟩⟩⟩⟩⟩⟩⟩⟩) (e_Jumps_wellFrom_22_b39_127 v1 v2 v3 v4 v5 v6 v7 m hf hK)
      · rw [if_neg c15] at hf
        refine zx_ev_ifn zk_40 (P := v4 < v8) (t := 127) (f := 110) rfl rfl c15 ?_
        refine zx_ev_blk zk_40 1 (pc1 := 111) (L1 := [some (.ref 22), some (.int v1), some (.int v2), some (.int v3), some (.int v4), some (.int v5), some (.int v6), some (.int v7), some (.int v8), some (.int t0)]) (st1 := [.int v2]) (h1 := (zx_SC, m)) rfl ?_
        by_cases c16 : ¬ v2 = 0
        · rw [if_pos c16] at hf
          refine zx_ev_ift zk_40 (P := ¬ v2 = 0) (t := 124) (f := 114) rfl rfl c16 ?_
          exact zx_ev_sub (L := [some (.ref 22), some (.int v1), some (.int v2), some (.int v3), some (.int v4), some (.int v5), some (.int v6), some (.int v7), none, none]) (⟨rfl, ⟨rfl, ⟨rfl, ⟨rfl, ⟨rfl, ⟨rfl, ⟨rfl, ⟨rfl, ⟨trivial, ⟨trivial, trivial⟩⟩⟩⟩⟩⟩⟩⟩⟩⟩) (e_Jumps_wellFrom_22_b39_124 v1 v2 v3 v4 v5 v6 v7 m hf hK)
        · rw [if_neg c16] at hf
          refine zx_ev_ifn zk_40 (P := ¬ v2 = 0) (t := 124) (f := 114) rfl rfl c16 ?_
          refine zx_ev_blk zk_40 3 (pc1 := 120) (L1 := [some (.ref 22), some (.int v1), some (.int v2), some (.int v3), some (.int v4), some (.int v5), some (.int v6), some (.int v7), some (.int v8), some (.int t0)]) (st1 := [.int v7, .ref 25]) (h1 := (zx_SC, m)) rfl ?_
          obtain ⟨j18, hj18, hf⟩ := zx_bind_eq hf
          refine zx_ev_step zk_40 rfl (st_zald rfl rfl hj18) ?_
          by_cases c19 : ¬ (m.1 25 j18) = 0
          · rw [if_pos c19] at hf
            refine zx_ev_ift zk_40 (P := ¬ (m.1 25 j18) = 0) (t := 127) (f := 124) rfl rfl c19 ?_
            exact zx_ev_sub (L := [some (.ref 22), some (.int v1), some (.int v2), some (.int v3), some (.int v4), some (.int v5), some (.int v6), some (.int v7), none, none]) (⟨rfl, ⟨rfl, ⟨rfl, ⟨rfl, ⟨rfl, ⟨rfl, ⟨rfl, ⟨rfl, ⟨trivial, ⟨trivial, trivial⟩⟩⟩⟩⟩⟩⟩⟩⟩⟩) (e_Jumps_wellFrom_22_b39_127 v1 v2 v3 v4 v5 v6 v7 m hf hK)
          · rw [if_neg c19] at hf
            refine zx_ev_ifn zk_40 (P := ¬ (m.1 25 j18) = 0) (t := 127) (f := 124) rfl rfl c19 ?_
            exact zx_ev_sub (L := [some (.ref 22), some (.int v1), some (.int v2), some (.int v3), some (.int v4), some (.int v5), some (.int v6), some (.int v7), none, none]) (⟨rfl, ⟨rfl, ⟨rfl, ⟨rfl, ⟨rfl, ⟨rfl, ⟨rfl, ⟨rfl, ⟨trivial, ⟨trivial, trivial⟩⟩⟩⟩⟩⟩⟩⟩⟩⟩) (e_Jumps_wellFrom_22_b39_124 v1 v2 v3 v4 v5 v6 v7 m hf hK)
def n_Jumps_wellFrom_22_b39_85 (v1 : Int32) (v2 : Int32) (v3 : Int32) (v4 : Int32) (v5 : Int32) (v6 : Int32) (v7 : Int32) (v8 : Int32) (m : zx_M) : Option ((Int32 × Int32) ⊕ (Int32)) := n_Jumps_wellFrom_22_b39_90 v1 v2 v3 v4 v5 v6 v7 v8 1 m
theorem e_Jumps_wellFrom_22_b39_85 (v1 : Int32) (v2 : Int32) (v3 : Int32) (v4 : Int32) (v5 : Int32) (v6 : Int32) (v7 : Int32) (v8 : Int32) (m : zx_M) {d : Nat} {out : Option Value × zx_H} {y : (Int32 × Int32) ⊕ (Int32)} (hf : n_Jumps_wellFrom_22_b39_85 v1 v2 v3 v4 v5 v6 v7 v8 m = some y) (hK : kl_Jumps_wellFrom_22_l39 v1 v2 v3 v4 v5 m d out y) : zx_Ev (d + 1) 40 85 [some (.ref 22), some (.int v1), some (.int v2), some (.int v3), some (.int v4), some (.int v5), some (.int v6), some (.int v7), some (.int v8), none] [] (zx_SC, m) out := by
  unfold n_Jumps_wellFrom_22_b39_85 at hf
  refine zx_ev_blk zk_40 2 (pc1 := 90) (L1 := [some (.ref 22), some (.int v1), some (.int v2), some (.int v3), some (.int v4), some (.int v5), some (.int v6), some (.int v7), some (.int v8), none]) (st1 := [.int 1]) (h1 := (zx_SC, m)) rfl ?_
  exact zx_ev_sub (L := [some (.ref 22), some (.int v1), some (.int v2), some (.int v3), some (.int v4), some (.int v5), some (.int v6), some (.int v7), some (.int v8), none]) (⟨rfl, ⟨rfl, ⟨rfl, ⟨rfl, ⟨rfl, ⟨rfl, ⟨rfl, ⟨rfl, ⟨rfl, trivial⟩⟩⟩⟩⟩⟩⟩⟩⟩) (e_Jumps_wellFrom_22_b39_90 v1 v2 v3 v4 v5 v6 v7 v8 1 m hf hK)
def b_Jumps_wellFrom_22_l39 (v1 : Int32) (v2 : Int32) (v3 : Int32) (v4 : Int32) (v5 : Int32) (v6 : Int32) (v7 : Int32) (m : zx_M) : Option ((Int32 × Int32) ⊕ (Int32)) := if (m.1 22 4) ≤ v7 then some (.inr v6) else if 7 ≤ v7 then some (.inr v6) else (zx_ix 7 v7).bind fun j9 => zx_let (v1 + (m.1 24 j9)) fun a10 => if v5 = (-2000000000) then n_Jumps_wellFrom_22_b39_85 v1 v2 v3 v4 v5 v6 v7 a10 m else if (zx_abs (a10 - v5)) ≤ 5 then n_Jumps_wellFrom_22_b39_90 v1 v2 v3 v4 v5 v6 v7 a10 0 m else n_Jumps_wellFrom_22_b39_85 v1 v2 v3 v4 v5 v6 v7 a10 m
theorem eb_Jumps_wellFrom_22_l39 (v1 : Int32) (v2 : Int32) (v3 : Int32) (v4 : Int32) (v5 : Int32) (v6 : Int32) (v7 : Int32) (m : zx_M) {d : Nat} {out : Option Value × zx_H} {y : (Int32 × Int32) ⊕ (Int32)} (hf : b_Jumps_wellFrom_22_l39 v1 v2 v3 v4 v5 v6 v7 m = some y) (hK : kl_Jumps_wellFrom_22_l39 v1 v2 v3 v4 v5 m d out y) : zx_Ev (d + 1) 40 39 [some (.ref 22), some (.int v1), some (.int v2), some (.int v3), some (.int v4), some (.int v5), some (.int v6), some (.int v7), none, none] [] (zx_SC, m) out := by
  unfold b_Jumps_wellFrom_22_l39 at hf
  refine zx_ev_blk zk_40 3 (pc1 := 45) (L1 := [some (.ref 22), some (.int v1), some (.int v2), some (.int v3), some (.int v4), some (.int v5), some (.int v6), some (.int v7), none, none]) (st1 := [.int (m.1 22 4), .int v7]) (h1 := (zx_SC, m)) rfl ?_
  by_cases c7 : (m.1 22 4) ≤ v7
  · rw [if_pos c7] at hf
    refine zx_ev_ift zk_40 (P := (m.1 22 4) ≤ v7) (t := 133) (f := 48) rfl rfl c7 ?_
    refine zx_ev_blk zk_40 1 (pc1 := 135) (L1 := [some (.ref 22), some (.int v1), some (.int v2), some (.int v3), some (.int v4), some (.int v5), some (.int v6), some (.int v7), none, none]) (st1 := [.int v6]) (h1 := (zx_SC, m)) rfl ?_
    obtain rfl := Option.some.inj hf
    rw [show out = _ from hK]
    exact zx_ev_ret zk_40 rfl rfl
  · rw [if_neg c7] at hf
    refine zx_ev_ifn zk_40 (P := (m.1 22 4) ≤ v7) (t := 133) (f := 48) rfl rfl c7 ?_
    refine zx_ev_blk zk_40 2 (pc1 := 52) (L1 := [some (.ref 22), some (.int v1), some (.int v2), some (.int v3), some (.int v4), some (.int v5), some (.int v6), some (.int v7), none, none]) (st1 := [.int 7, .int v7]) (h1 := (zx_SC, m)) rfl ?_
    by_cases c8 : 7 ≤ v7
    · rw [if_pos c8] at hf
      refine zx_ev_ift zk_40 (P := 7 ≤ v7) (t := 133) (f := 55) rfl rfl c8 ?_
      refine zx_ev_blk zk_40 1 (pc1 := 135) (L1 := [some (.ref 22), some (.int v1), some (.int v2), some (.int v3), some (.int v4), some (.int v5), some (.int v6), some (.int v7), none, none]) (st1 := [.int v6]) (h1 := (zx_SC, m)) rfl ?_
      obtain rfl := Option.some.inj hf
      rw [show out = _ from hK]
      exact zx_ev_ret zk_40 rfl rfl
    · rw [if_neg c8] at hf
      refine zx_ev_ifn zk_40 (P := 7 ≤ v7) (t := 133) (f := 55) rfl rfl c8 ?_
      refine zx_ev_blk zk_40 4 (pc1 := 62) (L1 := [some (.ref 22), some (.int v1), some (.int v2), some (.int v3), some (.int v4), some (.int v5), some (.int v6), some (.int v7), none, none]) (st1 := [.int v7, .ref 24, .int v1]) (h1 := (zx_SC, m)) rfl ?_
      obtain ⟨j9, hj9, hf⟩ := zx_bind_eq hf
      refine zx_ev_step zk_40 rfl (st_iald rfl rfl hj9) ?_
      obtain ⟨a10, ha10, hf⟩ := zx_let_eq hf
      refine zx_ev_blk zk_40 4 (pc1 := 70) (L1 := [some (.ref 22), some (.int v1), some (.int v2), some (.int v3), some (.int v4), some (.int v5), some (.int v6), some (.int v7), some (.int a10), none]) (st1 := [.int (-2000000000), .int v5]) (h1 := (zx_SC, m)) (by subst ha10; rfl) ?_
      by_cases c11 : v5 = (-2000000000)
      · rw [if_pos c11] at hf
        refine zx_ev_ift zk_40 (P := v5 = (-2000000000)) (t := 85) (f := 73) rfl rfl c11 ?_
        exact zx_ev_sub (L := [some (.ref 22), some (.int v1), some (.int v2), some (.int v3), some (.int v4), some (.int v5), some (.int v6), some (.int v7), some (.int a10), none]) (⟨rfl, ⟨rfl, ⟨rfl, ⟨rfl, ⟨rfl, ⟨rfl, ⟨rfl, ⟨rfl, ⟨rfl, trivial⟩⟩⟩⟩⟩⟩⟩⟩⟩) (e_Jumps_wellFrom_22_b39_85 v1 v2 v3 v4 v5 v6 v7 a10 m hf hK)
      · rw [if_neg c11] at hf
        refine zx_ev_ifn zk_40 (P := v5 = (-2000000000)) (t := 85) (f := 73) rfl rfl c11 ?_
        refine zx_ev_blk zk_40 5 (pc1 := 82) (L1 := [some (.ref 22), some (.int v1), some (.int v2), some (.int v3), some (.int v4), some (.int v5), some (.int v6), some (.int v7), some (.int a10), none]) (st1 := [.int 5, .int (zx_abs (a10 - v5))]) (h1 := (zx_SC, m)) rfl ?_
        by_cases c20 : (zx_abs (a10 - v5)) ≤ 5
        · rw [if_pos c20] at hf
          refine zx_ev_ift zk_40 (P := (zx_abs (a10 - v5)) ≤ 5) (t := 89) (f := 85) rfl rfl c20 ?_
          refine zx_ev_blk zk_40 1 (pc1 := 90) (L1 := [some (.ref 22), some (.int v1), some (.int v2), some (.int v3), some (.int v4), some (.int v5), some (.int v6), some (.int v7), some (.int a10), none]) (st1 := [.int 0]) (h1 := (zx_SC, m)) rfl ?_
          exact zx_ev_sub (L := [some (.ref 22), some (.int v1), some (.int v2), some (.int v3), some (.int v4), some (.int v5), some (.int v6), some (.int v7), some (.int a10), none]) (⟨rfl, ⟨rfl, ⟨rfl, ⟨rfl, ⟨rfl, ⟨rfl, ⟨rfl, ⟨rfl, ⟨rfl, trivial⟩⟩⟩⟩⟩⟩⟩⟩⟩) (e_Jumps_wellFrom_22_b39_90 v1 v2 v3 v4 v5 v6 v7 a10 0 m hf hK)
        · rw [if_neg c20] at hf
          refine zx_ev_ifn zk_40 (P := (zx_abs (a10 - v5)) ≤ 5) (t := 89) (f := 85) rfl rfl c20 ?_
          exact zx_ev_sub (L := [some (.ref 22), some (.int v1), some (.int v2), some (.int v3), some (.int v4), some (.int v5), some (.int v6), some (.int v7), some (.int a10), none]) (⟨rfl, ⟨rfl, ⟨rfl, ⟨rfl, ⟨rfl, ⟨rfl, ⟨rfl, ⟨rfl, ⟨rfl, trivial⟩⟩⟩⟩⟩⟩⟩⟩⟩) (e_Jumps_wellFrom_22_b39_85 v1 v2 v3 v4 v5 v6 v7 a10 m hf hK)
def l_Jumps_wellFrom_22_l39 (v1 : Int32) (v2 : Int32) (v3 : Int32) (v4 : Int32) (v5 : Int32) (m : zx_M) (s0 : Int32 × Int32) : Option (Int32) := zx_lp zx_N (fun s : Int32 × Int32 => b_Jumps_wellFrom_22_l39 v1 v2 v3 v4 v5 s.1 s.2 m) s0
theorem el_Jumps_wellFrom_22_l39 (v1 : Int32) (v2 : Int32) (v3 : Int32) (v4 : Int32) (v5 : Int32) (m : zx_M) {d : Nat} {out : Option Value × zx_H} : ∀ (n : Nat) (s : Int32 × Int32) (x : Int32), zx_lp n (fun s : Int32 × Int32 => b_Jumps_wellFrom_22_l39 v1 v2 v3 v4 v5 s.1 s.2 m) s = some x → kx_Jumps_wellFrom_22_l39 v1 v2 v3 v4 v5 m d out x → zx_Ev (d + 1) 40 39 [some (.ref 22), some (.int v1), some (.int v2), some (.int v3), some (.int v4), some (.int v5), some (.int s.1), some (.int s.2), none, none] [] (zx_SC, m) out := by
  intro n
  induction n with
  | zero => intro s x hl _; simp [zx_lp] at hl
  | succ n ih =>
    intro s x hl hx
    unfold zx_lp at hl
    cases hb : b_Jumps_wellFrom_22_l39 v1 v2 v3 v4 v5 s.1 s.2 m with
    | none => simp only [hb] at hl; cases hl
    | some z =>
      simp only [hb] at hl
      cases z with
      | inl s1 => exact eb_Jumps_wellFrom_22_l39 v1 v2 v3 v4 v5 s.1 s.2 m hb (ih s1 x hl hx)
      | inr t =>
        simp only [Option.some.injEq] at hl
        subst hl
        exact eb_Jumps_wellFrom_22_l39 v1 v2 v3 v4 v5 s.1 s.2 m hb hx
def f_Jumps_wellFrom_22 (v1 : Int32) (v2 : Int32) (m : zx_M) : Option Int32 := (f_Numbers_told 0 4 m).bind fun r2 => (f_Numbers_told 0 5 m).bind fun r4 => (f_Numbers_told 0 6 m).bind fun r6 => (l_Jumps_wellFrom_22_l39 v1 v2 r2 r4 r6 m (0, 0)).bind fun x21 => zx_let x21 fun y22 => some y22
theorem s_Jumps_wellFrom_22 (v1 : Int32) (v2 : Int32) (m : zx_M) {d : Nat} {y : Int32} (hf : f_Jumps_wellFrom_22 v1 v2 m = some y) : zx_Ev (d + 1) 40 0 [some (.ref 22), some (.int v1), some (.int v2), none, none, none, none, none, none, none] [] (zx_SC, m) (some (.int y), (zx_SC, m)) := by
  unfold f_Jumps_wellFrom_22 at hf
  refine zx_ev_blk zk_40 4 (pc1 := 6) (L1 := [some (.ref 22), some (.int v1), some (.int v2), none, none, none, none, none, none, none]) (st1 := [.int 4, .int 0, .ref 1]) (h1 := (zx_SC, m)) rfl ?_
  obtain ⟨r2, hv1, hf⟩ := zx_bind_eq hf
  refine zx_ev_call (d := d + 0) zk_40 (v := some (.int r2)) (h1 := (zx_SC, m)) rfl rfl zt_46 rfl zx_SCn rfl rfl (s_Numbers_told _ _ _ (d := d + 0) hv1) ?_
  refine zx_ev_blk zk_40 5 (pc1 := 16) (L1 := [some (.ref 22), some (.int v1), some (.int v2), some (.int r2), none, none, none, none, none, none]) (st1 := [.int 5, .int 0, .ref 1]) (h1 := (zx_SC, m)) rfl ?_
  obtain ⟨r4, hv3, hf⟩ := zx_bind_eq hf
  refine zx_ev_call (d := d + 0) zk_40 (v := some (.int r4)) (h1 := (zx_SC, m)) rfl rfl zt_46 rfl zx_SCn rfl rfl (s_Numbers_told _ _ _ (d := d + 0) hv3) ?_
  refine zx_ev_blk zk_40 5 (pc1 := 28) (L1 := [some (.ref 22), some (.int v1), some (.int v2), some (.int r2), some (.int r4), none, none, none, none, none]) (st1 := [.int 6, .int 0, .ref 1]) (h1 := (zx_SC, m)) rfl ?_
  obtain ⟨r6, hv5, hf⟩ := zx_bind_eq hf
  refine zx_ev_call (d := d + 0) zk_40 (v := some (.int r6)) (h1 := (zx_SC, m)) rfl rfl zt_46 rfl zx_SCn rfl rfl (s_Numbers_told _ _ _ (d := d + 0) hv5) ?_
  refine zx_ev_blk zk_40 5 (pc1 := 39) (L1 := [some (.ref 22), some (.int v1), some (.int v2), some (.int r2), some (.int r4), some (.int r6), some (.int 0), some (.int 0), none, none]) (st1 := []) (h1 := (zx_SC, m)) rfl ?_
  obtain ⟨x21, hx21, hf⟩ := zx_bind_eq hf
  refine zx_ev_sub (L := [some (.ref 22), some (.int v1), some (.int v2), some (.int r2), some (.int r4), some (.int r6), some (.int 0), some (.int 0), none, none]) (⟨rfl, ⟨rfl, ⟨rfl, ⟨rfl, ⟨rfl, ⟨rfl, ⟨rfl, ⟨rfl, trivial⟩⟩⟩⟩⟩⟩⟩⟩) (el_Jumps_wellFrom_22_l39 v1 v2 r2 r4 r6 m zx_N (0, 0) x21 hx21 ?_)
  obtain ⟨y22, hy22, hf⟩ := zx_let_eq hf
  subst hy22
  obtain rfl := Option.some.inj hf
  rfl
def f_Jumps_good_22 (v1 : Int32) (m : zx_M) : Option Int32 := (f_Jumps_wellFrom_22 v1 0 m).bind fun r2 => some r2
theorem s_Jumps_good_22 (v1 : Int32) (m : zx_M) {d : Nat} {y : Int32} (hf : f_Jumps_good_22 v1 m = some y) : zx_Ev (d + 2) 39 0 [some (.ref 22), some (.int v1)] [] (zx_SC, m) (some (.int y), (zx_SC, m)) := by
  unfold f_Jumps_good_22 at hf
  refine zx_ev_blk zk_39 3 (pc1 := 3) (L1 := [some (.ref 22), some (.int v1)]) (st1 := [.int 0, .int v1, .ref 22]) (h1 := (zx_SC, m)) rfl ?_
  obtain ⟨r2, hv1, hf⟩ := zx_bind_eq hf
  refine zx_ev_call (d := d + 1) zk_39 (v := some (.int r2)) (h1 := (zx_SC, m)) rfl rfl zt_40 rfl zx_SCn rfl rfl (s_Jumps_wellFrom_22 _ _ _ (d := d + 0) hv1) ?_
  obtain rfl := Option.some.inj hf
  exact zx_ev_ret zk_39 rfl rfl
def f_Jumps_downOf_22 (v1 : Int32) (v2 : Int32) (m : zx_M) : Option Int32 := if v1 < 0 then some (-2000000000) else if (m.1 22 4) ≤ v1 then some (-2000000000) else if 7 ≤ v1 then some (-2000000000) else (zx_ix 7 v1).bind fun j4 => some (v2 + (m.1 24 j4))
theorem s_Jumps_downOf_22 (v1 : Int32) (v2 : Int32) (m : zx_M) {d : Nat} {y : Int32} (hf : f_Jumps_downOf_22 v1 v2 m = some y) : zx_Ev (d) 36 0 [some (.ref 22), some (.int v1), some (.int v2)] [] (zx_SC, m) (some (.int y), (zx_SC, m)) := by
  unfold f_Jumps_downOf_22 at hf
  refine zx_ev_blk zk_36 1 (pc1 := 1) (L1 := [some (.ref 22), some (.int v1), some (.int v2)]) (st1 := [.int v1]) (h1 := (zx_SC, m)) rfl ?_
  by_cases c1 : v1 < 0
  · rw [if_pos c1] at hf
    refine zx_ev_ift zk_36 (P := v1 < 0) (t := 29) (f := 4) rfl rfl c1 ?_
    refine zx_ev_blk zk_36 1 (pc1 := 31) (L1 := [some (.ref 22), some (.int v1), some (.int v2)]) (st1 := [.int (-2000000000)]) (h1 := (zx_SC, m)) rfl ?_
    obtain rfl := Option.some.inj hf
    exact zx_ev_ret zk_36 rfl rfl
  · rw [if_neg c1] at hf
    refine zx_ev_ifn zk_36 (P := v1 < 0) (t := 29) (f := 4) rfl rfl c1 ?_
    refine zx_ev_blk zk_36 3 (pc1 := 9) (L1 := [some (.ref 22), some (.int v1), some (.int v2)]) (st1 := [.int (m.1 22 4), .int v1]) (h1 := (zx_SC, m)) rfl ?_
    by_cases c2 : (m.1 22 4) ≤ v1
    · rw [if_pos c2] at hf
      refine zx_ev_ift zk_36 (P := (m.1 22 4) ≤ v1) (t := 29) (f := 12) rfl rfl c2 ?_
      refine zx_ev_blk zk_36 1 (pc1 := 31) (L1 := [some (.ref 22), some (.int v1), some (.int v2)]) (st1 := [.int (-2000000000)]) (h1 := (zx_SC, m)) rfl ?_
      obtain rfl := Option.some.inj hf
      exact zx_ev_ret zk_36 rfl rfl
    · rw [if_neg c2] at hf
      refine zx_ev_ifn zk_36 (P := (m.1 22 4) ≤ v1) (t := 29) (f := 12) rfl rfl c2 ?_
      refine zx_ev_blk zk_36 2 (pc1 := 15) (L1 := [some (.ref 22), some (.int v1), some (.int v2)]) (st1 := [.int 7, .int v1]) (h1 := (zx_SC, m)) rfl ?_
      by_cases c3 : 7 ≤ v1
      · rw [if_pos c3] at hf
        refine zx_ev_ift zk_36 (P := 7 ≤ v1) (t := 29) (f := 18) rfl rfl c3 ?_
        refine zx_ev_blk zk_36 1 (pc1 := 31) (L1 := [some (.ref 22), some (.int v1), some (.int v2)]) (st1 := [.int (-2000000000)]) (h1 := (zx_SC, m)) rfl ?_
        obtain rfl := Option.some.inj hf
        exact zx_ev_ret zk_36 rfl rfl
      · rw [if_neg c3] at hf
        refine zx_ev_ifn zk_36 (P := 7 ≤ v1) (t := 29) (f := 18) rfl rfl c3 ?_
        refine zx_ev_blk zk_36 4 (pc1 := 24) (L1 := [some (.ref 22), some (.int v1), some (.int v2)]) (st1 := [.int v1, .ref 24, .int v2]) (h1 := (zx_SC, m)) rfl ?_
        obtain ⟨j4, hj4, hf⟩ := zx_bind_eq hf
        refine zx_ev_step zk_36 rfl (st_iald rfl rfl hj4) ?_
        refine zx_ev_blk zk_36 2 (pc1 := 31) (L1 := [some (.ref 22), some (.int v1), some (.int v2)]) (st1 := [.int (v2 + (m.1 24 j4))]) (h1 := (zx_SC, m)) rfl ?_
        obtain rfl := Option.some.inj hf
        exact zx_ev_ret zk_36 rfl rfl
def kx_Jumps_meeting_22_l4 (m : zx_M) (d : Nat) (out : Option Value × zx_H) : Int32 → Prop
  | y => out = (some (.int y), (zx_SC, m))
def kl_Jumps_meeting_22_l4 (m : zx_M) (d : Nat) (out : Option Value × zx_H) : (Int32 × Int32) ⊕ (Int32) → Prop
  | .inl (v1, v2) => zx_Ev (d) 37 4 [some (.ref 22), some (.int v1), some (.int v2)] [] (zx_SC, m) out
  | .inr x => kx_Jumps_meeting_22_l4 m d out x
def n_Jumps_meeting_22_b4_33 (v2 : Int32) (t0 : Int32) (t1 : Int32) (m : zx_M) : Option ((Int32 × Int32) ⊕ (Int32)) := zx_let (t0 + t1) fun a5 => zx_let (v2 + 1) fun a6 => some (.inl (a5, a6))
theorem e_Jumps_meeting_22_b4_33 (v2 : Int32) (t0 : Int32) (t1 : Int32) (m : zx_M) {d : Nat} {out : Option Value × zx_H} {y : (Int32 × Int32) ⊕ (Int32)} (hf : n_Jumps_meeting_22_b4_33 v2 t0 t1 m = some y) (hK : kl_Jumps_meeting_22_l4 m d out y) : zx_Ev (d) 37 33 [some (.ref 22), none, some (.int v2)] [.int t1, .int t0] (zx_SC, m) out := by
  unfold n_Jumps_meeting_22_b4_33 at hf
  obtain ⟨a5, ha5, hf⟩ := zx_let_eq hf
  obtain ⟨a6, ha6, hf⟩ := zx_let_eq hf
  refine zx_ev_blk zk_37 4 (pc1 := 4) (L1 := [some (.ref 22), some (.int a5), some (.int a6)]) (st1 := []) (h1 := (zx_SC, m)) (by subst ha5; subst ha6; rfl) ?_
  obtain rfl := Option.some.inj hf
  exact zx_ev_sub (L := [some (.ref 22), some (.int a5), some (.int a6)]) (⟨rfl, ⟨rfl, ⟨rfl, trivial⟩⟩⟩) hK
def b_Jumps_meeting_22_l4 (v1 : Int32) (v2 : Int32) (m : zx_M) : Option ((Int32 × Int32) ⊕ (Int32)) := if (m.1 22 4) ≤ v2 then some (.inr v1) else if 7 ≤ v2 then some (.inr v1) else (zx_ix 7 v2).bind fun j3 => if (m.1 25 j3) = 0 then n_Jumps_meeting_22_b4_33 v2 v1 0 m else n_Jumps_meeting_22_b4_33 v2 v1 1 m
theorem eb_Jumps_meeting_22_l4 (v1 : Int32) (v2 : Int32) (m : zx_M) {d : Nat} {out : Option Value × zx_H} {y : (Int32 × Int32) ⊕ (Int32)} (hf : b_Jumps_meeting_22_l4 v1 v2 m = some y) (hK : kl_Jumps_meeting_22_l4 m d out y) : zx_Ev (d) 37 4 [some (.ref 22), some (.int v1), some (.int v2)] [] (zx_SC, m) out := by
  unfold b_Jumps_meeting_22_l4 at hf
  refine zx_ev_blk zk_37 3 (pc1 := 9) (L1 := [some (.ref 22), some (.int v1), some (.int v2)]) (st1 := [.int (m.1 22 4), .int v2]) (h1 := (zx_SC, m)) rfl ?_
  by_cases c1 : (m.1 22 4) ≤ v2
  · rw [if_pos c1] at hf
    refine zx_ev_ift zk_37 (P := (m.1 22 4) ≤ v2) (t := 41) (f := 12) rfl rfl c1 ?_
    refine zx_ev_blk zk_37 1 (pc1 := 42) (L1 := [some (.ref 22), some (.int v1), some (.int v2)]) (st1 := [.int v1]) (h1 := (zx_SC, m)) rfl ?_
    obtain rfl := Option.some.inj hf
    rw [show out = _ from hK]
    exact zx_ev_ret zk_37 rfl rfl
  · rw [if_neg c1] at hf
    refine zx_ev_ifn zk_37 (P := (m.1 22 4) ≤ v2) (t := 41) (f := 12) rfl rfl c1 ?_
    refine zx_ev_blk zk_37 2 (pc1 := 15) (L1 := [some (.ref 22), some (.int v1), some (.int v2)]) (st1 := [.int 7, .int v2]) (h1 := (zx_SC, m)) rfl ?_
    by_cases c2 : 7 ≤ v2
    · rw [if_pos c2] at hf
      refine zx_ev_ift zk_37 (P := 7 ≤ v2) (t := 41) (f := 18) rfl rfl c2 ?_
      refine zx_ev_blk zk_37 1 (pc1 := 42) (L1 := [some (.ref 22), some (.int v1), some (.int v2)]) (st1 := [.int v1]) (h1 := (zx_SC, m)) rfl ?_
      obtain rfl := Option.some.inj hf
      rw [show out = _ from hK]
      exact zx_ev_ret zk_37 rfl rfl
    · rw [if_neg c2] at hf
      refine zx_ev_ifn zk_37 (P := 7 ≤ v2) (t := 41) (f := 18) rfl rfl c2 ?_
      refine zx_ev_blk zk_37 4 (pc1 := 24) (L1 := [some (.ref 22), some (.int v1), some (.int v2)]) (st1 := [.int v2, .ref 25, .int v1]) (h1 := (zx_SC, m)) rfl ?_
      obtain ⟨j3, hj3, hf⟩ := zx_bind_eq hf
      refine zx_ev_step zk_37 rfl (st_zald rfl rfl hj3) ?_
      by_cases c4 : (m.1 25 j3) = 0
      · rw [if_pos c4] at hf
        refine zx_ev_ift zk_37 (P := (m.1 25 j3) = 0) (t := 32) (f := 28) rfl rfl c4 ?_
        refine zx_ev_blk zk_37 1 (pc1 := 33) (L1 := [some (.ref 22), some (.int v1), some (.int v2)]) (st1 := [.int 0, .int v1]) (h1 := (zx_SC, m)) rfl ?_
        exact zx_ev_sub (L := [some (.ref 22), none, some (.int v2)]) (⟨rfl, ⟨trivial, ⟨rfl, trivial⟩⟩⟩) (e_Jumps_meeting_22_b4_33 v2 v1 0 m hf hK)
      · rw [if_neg c4] at hf
        refine zx_ev_ifn zk_37 (P := (m.1 25 j3) = 0) (t := 32) (f := 28) rfl rfl c4 ?_
        refine zx_ev_blk zk_37 2 (pc1 := 33) (L1 := [some (.ref 22), some (.int v1), some (.int v2)]) (st1 := [.int 1, .int v1]) (h1 := (zx_SC, m)) rfl ?_
        exact zx_ev_sub (L := [some (.ref 22), none, some (.int v2)]) (⟨rfl, ⟨trivial, ⟨rfl, trivial⟩⟩⟩) (e_Jumps_meeting_22_b4_33 v2 v1 1 m hf hK)
def l_Jumps_meeting_22_l4 (m : zx_M) (s0 : Int32 × Int32) : Option (Int32) := zx_lp zx_N (fun s : Int32 × Int32 => b_Jumps_meeting_22_l4 s.1 s.2 m) s0
theorem el_Jumps_meeting_22_l4 (m : zx_M) {d : Nat} {out : Option Value × zx_H} : ∀ (n : Nat) (s : Int32 × Int32) (x : Int32), zx_lp n (fun s : Int32 × Int32 => b_Jumps_meeting_22_l4 s.1 s.2 m) s = some x → kx_Jumps_meeting_22_l4 m d out x → zx_Ev (d) 37 4 [some (.ref 22), some (.int s.1), some (.int s.2)] [] (zx_SC, m) out := by
  intro n
  induction n with
  | zero => intro s x hl _; simp [zx_lp] at hl
  | succ n ih =>
    intro s x hl hx
    unfold zx_lp at hl
    cases hb : b_Jumps_meeting_22_l4 s.1 s.2 m with
    | none => simp only [hb] at hl; cases hl
    | some z =>
      simp only [hb] at hl
      cases z with
      | inl s1 => exact eb_Jumps_meeting_22_l4 s.1 s.2 m hb (ih s1 x hl hx)
      | inr t =>
        simp only [Option.some.injEq] at hl
        subst hl
        exact eb_Jumps_meeting_22_l4 s.1 s.2 m hb hx
def f_Jumps_meeting_22 (m : zx_M) : Option Int32 := (l_Jumps_meeting_22_l4 m (0, 0)).bind fun x7 => zx_let x7 fun y8 => some y8
theorem s_Jumps_meeting_22 (m : zx_M) {d : Nat} {y : Int32} (hf : f_Jumps_meeting_22 m = some y) : zx_Ev (d) 37 0 [some (.ref 22), none, none] [] (zx_SC, m) (some (.int y), (zx_SC, m)) := by
  unfold f_Jumps_meeting_22 at hf
  refine zx_ev_blk zk_37 4 (pc1 := 4) (L1 := [some (.ref 22), some (.int 0), some (.int 0)]) (st1 := []) (h1 := (zx_SC, m)) rfl ?_
  obtain ⟨x7, hx7, hf⟩ := zx_bind_eq hf
  refine zx_ev_sub (L := [some (.ref 22), some (.int 0), some (.int 0)]) (⟨rfl, ⟨rfl, ⟨rfl, trivial⟩⟩⟩) (el_Jumps_meeting_22_l4 m zx_N (0, 0) x7 hx7 ?_)
  obtain ⟨y8, hy8, hf⟩ := zx_let_eq hf
  subst hy8
  obtain rfl := Option.some.inj hf
  rfl
def f_Jumps_well_22 (v1 : Int32) (m : zx_M) : Option Int32 := (f_Jumps_wellFrom_22 v1 1 m).bind fun r2 => some r2
theorem s_Jumps_well_22 (v1 : Int32) (m : zx_M) {d : Nat} {y : Int32} (hf : f_Jumps_well_22 v1 m = some y) : zx_Ev (d + 2) 38 0 [some (.ref 22), some (.int v1)] [] (zx_SC, m) (some (.int y), (zx_SC, m)) := by
  unfold f_Jumps_well_22 at hf
  refine zx_ev_blk zk_38 3 (pc1 := 3) (L1 := [some (.ref 22), some (.int v1)]) (st1 := [.int 1, .int v1, .ref 22]) (h1 := (zx_SC, m)) rfl ?_
  obtain ⟨r2, hv1, hf⟩ := zx_bind_eq hf
  refine zx_ev_call (d := d + 1) zk_38 (v := some (.int r2)) (h1 := (zx_SC, m)) rfl rfl zt_40 rfl zx_SCn rfl rfl (s_Jumps_wellFrom_22 _ _ _ (d := d + 0) hv1) ?_
  obtain rfl := Option.some.inj hf
  exact zx_ev_ret zk_38 rfl rfl
def f_Text_append_9 (v1 : Int32) (m : zx_M) : Option (Int32 × zx_M) := if (m.1 9 2) < 0 then some ((-3), m) else if (m.1 9 2) < 120 then (zx_ix 120 (m.1 9 2)).bind fun j3 => zx_let (zx_u1 m 10 j3 v1) fun m4 => zx_let (zx_u1 m4 9 2 ((m4.1 9 2) + 1)) fun m5 => some (m5.1 9 2, m5) else some ((-3), m)
theorem s_Text_append_9 (v1 : Int32) (m : zx_M) {d : Nat} {y : (Int32 × zx_M)} (hf : f_Text_append_9 v1 m = some y) : zx_Ev (d) 74 0 [some (.ref 9), some (.int v1)] [] (zx_SC, m) (some (.int y.1), (zx_SC, y.2)) := by
  unfold f_Text_append_9 at hf
  refine zx_ev_blk zk_74 2 (pc1 := 4) (L1 := [some (.ref 9), some (.int v1)]) (st1 := [.int (m.1 9 2)]) (h1 := (zx_SC, m)) rfl ?_
  by_cases c1 : (m.1 9 2) < 0
  · rw [if_pos c1] at hf
    refine zx_ev_ift zk_74 (P := (m.1 9 2) < 0) (t := 16) (f := 7) rfl rfl c1 ?_
    refine zx_ev_blk zk_74 1 (pc1 := 18) (L1 := [some (.ref 9), some (.int v1)]) (st1 := [.int (-3)]) (h1 := (zx_SC, m)) rfl ?_
    obtain rfl := Option.some.inj hf
    exact zx_ev_ret zk_74 rfl rfl
  · rw [if_neg c1] at hf
    refine zx_ev_ifn zk_74 (P := (m.1 9 2) < 0) (t := 16) (f := 7) rfl rfl c1 ?_
    refine zx_ev_blk zk_74 3 (pc1 := 13) (L1 := [some (.ref 9), some (.int v1)]) (st1 := [.int 120, .int (m.1 9 2)]) (h1 := (zx_SC, m)) rfl ?_
    by_cases c2 : (m.1 9 2) < 120
    · rw [if_pos c2] at hf
      refine zx_ev_ift zk_74 (P := (m.1 9 2) < 120) (t := 19) (f := 16) rfl rfl c2 ?_
      refine zx_ev_blk zk_74 5 (pc1 := 28) (L1 := [some (.ref 9), some (.int v1)]) (st1 := [.int v1, .int (m.1 9 2), .ref 10]) (h1 := (zx_SC, m)) rfl ?_
      obtain ⟨j3, hj3, hf⟩ := zx_bind_eq hf
      refine zx_ev_step zk_74 rfl (st_iast rfl hj3) ?_
      obtain ⟨m4, hm4, hf⟩ := zx_let_eq hf
      rw [hm4]
      obtain ⟨m5, hm5, hf⟩ := zx_let_eq hf
      refine zx_ev_blk zk_74 8 (pc1 := 43) (L1 := [some (.ref 9), some (.int v1)]) (st1 := [.int (m5.1 9 2)]) (h1 := (zx_SC, m5)) (by subst hm5; rfl) ?_
      obtain rfl := Option.some.inj hf
      exact zx_ev_ret zk_74 rfl rfl
    · rw [if_neg c2] at hf
      refine zx_ev_ifn zk_74 (P := (m.1 9 2) < 120) (t := 19) (f := 16) rfl rfl c2 ?_
      refine zx_ev_blk zk_74 1 (pc1 := 18) (L1 := [some (.ref 9), some (.int v1)]) (st1 := [.int (-3)]) (h1 := (zx_SC, m)) rfl ?_
      obtain rfl := Option.some.inj hf
      exact zx_ev_ret zk_74 rfl rfl
def f_Shelves_holds (v1 : Int32) (m : zx_M) : Option Int32 := (f_Shelves_isThere v1 m).bind fun r2 => if r2 = 0 then some (-1) else (zx_ix 6 v1).bind fun j4 => some (m.1 16 j4)
theorem s_Shelves_holds (v1 : Int32) (m : zx_M) {d : Nat} {y : Int32} (hf : f_Shelves_holds v1 m = some y) : zx_Ev (d + 1) 61 0 [some (.ref 15), some (.int v1)] [] (zx_SC, m) (some (.int y), (zx_SC, m)) := by
  unfold f_Shelves_holds at hf
  refine zx_ev_blk zk_61 2 (pc1 := 2) (L1 := [some (.ref 15), some (.int v1)]) (st1 := [.int v1, .ref 15]) (h1 := (zx_SC, m)) rfl ?_
  obtain ⟨r2, hv1, hf⟩ := zx_bind_eq hf
  refine zx_ev_call (d := d + 0) zk_61 (v := some (.int r2)) (h1 := (zx_SC, m)) rfl rfl zt_60 rfl zx_SCn rfl rfl (s_Shelves_isThere _ _ (d := d + 0) hv1) ?_
  by_cases c3 : r2 = 0
  · rw [if_pos c3] at hf
    refine zx_ev_ift zk_61 (P := r2 = 0) (t := 17) (f := 8) rfl rfl c3 ?_
    refine zx_ev_blk zk_61 1 (pc1 := 18) (L1 := [some (.ref 15), some (.int v1)]) (st1 := [.int (-1)]) (h1 := (zx_SC, m)) rfl ?_
    obtain rfl := Option.some.inj hf
    exact zx_ev_ret zk_61 rfl rfl
  · rw [if_neg c3] at hf
    refine zx_ev_ifn zk_61 (P := r2 = 0) (t := 17) (f := 8) rfl rfl c3 ?_
    refine zx_ev_blk zk_61 3 (pc1 := 13) (L1 := [some (.ref 15), some (.int v1)]) (st1 := [.int v1, .ref 16]) (h1 := (zx_SC, m)) rfl ?_
    obtain ⟨j4, hj4, hf⟩ := zx_bind_eq hf
    refine zx_ev_step zk_61 rfl (st_iald rfl rfl hj4) ?_
    refine zx_ev_blk zk_61 1 (pc1 := 18) (L1 := [some (.ref 15), some (.int v1)]) (st1 := [.int (m.1 16 j4)]) (h1 := (zx_SC, m)) rfl ?_
    obtain rfl := Option.some.inj hf
    exact zx_ev_ret zk_61 rfl rfl
def f_Jumps_size_22 (m : zx_M) : Option Int32 := some (m.1 22 4)
theorem s_Jumps_size_22 (m : zx_M) {d : Nat} {y : Int32} (hf : f_Jumps_size_22 m = some y) : zx_Ev (d) 32 0 [some (.ref 22)] [] (zx_SC, m) (some (.int y), (zx_SC, m)) := by
  unfold f_Jumps_size_22 at hf
  refine zx_ev_blk zk_32 2 (pc1 := 4) (L1 := [some (.ref 22)]) (st1 := [.int (m.1 22 4)]) (h1 := (zx_SC, m)) rfl ?_
  obtain rfl := Option.some.inj hf
  exact zx_ev_ret zk_32 rfl rfl
def f_Deed_mayGo_26 (v1 : Int32) (m : zx_M) : Option Int32 := if (m.1 26 3) = 0 then some 0 else if v1 < 0 then some 0 else if 7 ≤ v1 then some 0 else (zx_ix 7 v1).bind fun j4 => if ¬ (m.1 27 j4) = 0 then some 0 else some 1
theorem s_Deed_mayGo_26 (v1 : Int32) (m : zx_M) {d : Nat} {y : Int32} (hf : f_Deed_mayGo_26 v1 m = some y) : zx_Ev (d) 27 0 [some (.ref 26), some (.int v1)] [] (zx_SC, m) (some (.int y), (zx_SC, m)) := by
  unfold f_Deed_mayGo_26 at hf
  refine zx_ev_blk zk_27 2 (pc1 := 4) (L1 := [some (.ref 26), some (.int v1)]) (st1 := [.int (m.1 26 3)]) (h1 := (zx_SC, m)) rfl ?_
  by_cases c1 : (m.1 26 3) = 0
  · rw [if_pos c1] at hf
    refine zx_ev_ift zk_27 (P := (m.1 26 3) = 0) (t := 33) (f := 7) rfl rfl c1 ?_
    refine zx_ev_blk zk_27 1 (pc1 := 34) (L1 := [some (.ref 26), some (.int v1)]) (st1 := [.int 0]) (h1 := (zx_SC, m)) rfl ?_
    obtain rfl := Option.some.inj hf
    exact zx_ev_ret zk_27 rfl (zx_ret_z (Or.inl rfl))
  · rw [if_neg c1] at hf
    refine zx_ev_ifn zk_27 (P := (m.1 26 3) = 0) (t := 33) (f := 7) rfl rfl c1 ?_
    refine zx_ev_blk zk_27 1 (pc1 := 8) (L1 := [some (.ref 26), some (.int v1)]) (st1 := [.int v1]) (h1 := (zx_SC, m)) rfl ?_
    by_cases c2 : v1 < 0
    · rw [if_pos c2] at hf
      refine zx_ev_ift zk_27 (P := v1 < 0) (t := 33) (f := 11) rfl rfl c2 ?_
      refine zx_ev_blk zk_27 1 (pc1 := 34) (L1 := [some (.ref 26), some (.int v1)]) (st1 := [.int 0]) (h1 := (zx_SC, m)) rfl ?_
      obtain rfl := Option.some.inj hf
      exact zx_ev_ret zk_27 rfl (zx_ret_z (Or.inl rfl))
    · rw [if_neg c2] at hf
      refine zx_ev_ifn zk_27 (P := v1 < 0) (t := 33) (f := 11) rfl rfl c2 ?_
      refine zx_ev_blk zk_27 4 (pc1 := 17) (L1 := [some (.ref 26), some (.int v1)]) (st1 := [.int 7, .int v1]) (h1 := (zx_SC, m)) rfl ?_
      by_cases c3 : 7 ≤ v1
      · rw [if_pos c3] at hf
        refine zx_ev_ift zk_27 (P := 7 ≤ v1) (t := 33) (f := 20) rfl rfl c3 ?_
        refine zx_ev_blk zk_27 1 (pc1 := 34) (L1 := [some (.ref 26), some (.int v1)]) (st1 := [.int 0]) (h1 := (zx_SC, m)) rfl ?_
        obtain rfl := Option.some.inj hf
        exact zx_ev_ret zk_27 rfl (zx_ret_z (Or.inl rfl))
      · rw [if_neg c3] at hf
        refine zx_ev_ifn zk_27 (P := 7 ≤ v1) (t := 33) (f := 20) rfl rfl c3 ?_
        refine zx_ev_blk zk_27 3 (pc1 := 25) (L1 := [some (.ref 26), some (.int v1)]) (st1 := [.int v1, .ref 27]) (h1 := (zx_SC, m)) rfl ?_
        obtain ⟨j4, hj4, hf⟩ := zx_bind_eq hf
        refine zx_ev_step zk_27 rfl (st_zald rfl rfl hj4) ?_
        by_cases c5 : ¬ (m.1 27 j4) = 0
        · rw [if_pos c5] at hf
          refine zx_ev_ift zk_27 (P := ¬ (m.1 27 j4) = 0) (t := 33) (f := 29) rfl rfl c5 ?_
          refine zx_ev_blk zk_27 1 (pc1 := 34) (L1 := [some (.ref 26), some (.int v1)]) (st1 := [.int 0]) (h1 := (zx_SC, m)) rfl ?_
          obtain rfl := Option.some.inj hf
          exact zx_ev_ret zk_27 rfl (zx_ret_z (Or.inl rfl))
        · rw [if_neg c5] at hf
          refine zx_ev_ifn zk_27 (P := ¬ (m.1 27 j4) = 0) (t := 33) (f := 29) rfl rfl c5 ?_
          refine zx_ev_blk zk_27 2 (pc1 := 34) (L1 := [some (.ref 26), some (.int v1)]) (st1 := [.int 1]) (h1 := (zx_SC, m)) rfl ?_
          obtain rfl := Option.some.inj hf
          exact zx_ev_ret zk_27 rfl (zx_ret_z (Or.inr rfl))
def kx_Jumps_join_28_l49 (v1 : Int32) (v2 : Int32) (d : Nat) (out : Option Value × zx_H) : zx_M → Prop
  | m => zx_Ev (d + 1) 35 123 [some (.ref 28), none, none, none, none] [] (zx_SC, m) out
def kl_Jumps_join_28_l49 (v1 : Int32) (v2 : Int32) (d : Nat) (out : Option Value × zx_H) : (Int32 × zx_M) ⊕ (zx_M) → Prop
  | .inl (v3, m) => zx_Ev (d + 1) 35 49 [some (.ref 28), some (.int v1), some (.int v2), some (.int v3), none] [] (zx_SC, m) out
  | .inr x => kx_Jumps_join_28_l49 v1 v2 d out x
def n_Jumps_join_28_b49_117 (v1 : Int32) (v2 : Int32) (v3 : Int32) (m : zx_M) : Option ((Int32 × zx_M) ⊕ (zx_M)) := zx_let (v3 + 1) fun a13 => some (.inl (a13, m))
theorem e_Jumps_join_28_b49_117 (v1 : Int32) (v2 : Int32) (v3 : Int32) (m : zx_M) {d : Nat} {out : Option Value × zx_H} {y : (Int32 × zx_M) ⊕ (zx_M)} (hf : n_Jumps_join_28_b49_117 v1 v2 v3 m = some y) (hK : kl_Jumps_join_28_l49 v1 v2 d out y) : zx_Ev (d + 1) 35 117 [some (.ref 28), some (.int v1), some (.int v2), some (.int v3), none] [] (zx_SC, m) out := by
  unfold n_Jumps_join_28_b49_117 at hf
  obtain ⟨a13, ha13, hf⟩ := zx_let_eq hf
  refine zx_ev_blk zk_35 2 (pc1 := 49) (L1 := [some (.ref 28), some (.int v1), some (.int v2), some (.int a13), none]) (st1 := []) (h1 := (zx_SC, m)) (by subst ha13; rfl) ?_
  obtain rfl := Option.some.inj hf
  exact zx_ev_sub (L := [some (.ref 28), some (.int v1), some (.int v2), some (.int a13), none]) (⟨rfl, ⟨rfl, ⟨rfl, ⟨rfl, trivial⟩⟩⟩⟩) hK
def n_Jumps_join_28_b49_78 (v1 : Int32) (v2 : Int32) (v3 : Int32) (t0 : Int32) (m : zx_M) : Option ((Int32 × zx_M) ⊕ (zx_M)) := if t0 = 0 then n_Jumps_join_28_b49_117 v1 v2 v3 m else (zx_ix 7 v3).bind fun j14 => if 4 < (zx_abs ((m.1 29 j14) - v1)) then n_Jumps_join_28_b49_117 v1 v2 v3 m else (zx_ix 7 v3).bind fun j16 => zx_let (zx_u1 m 31 j16 1) fun m17 => (zx_ix 7 (m17.1 28 4)).bind fun j18 => zx_let (zx_u1 m17 31 j18 1) fun m19 => n_Jumps_join_28_b49_117 v1 v2 v3 m19
theorem e_Jumps_join_28_b49_78 (v1 : Int32) (v2 : Int32) (v3 : Int32) (t0 : Int32) (m : zx_M) {d : Nat} {out : Option Value × zx_H} {y : (Int32 × zx_M) ⊕ (zx_M)} (hf : n_Jumps_join_28_b49_78 v1 v2 v3 t0 m = some y) (hK : kl_Jumps_join_28_l49 v1 v2 d out y) : zx_Ev (d + 1) 35 78 [some (.ref 28), some (.int v1), some (.int v2), some (.int v3), none] [.int t0] (zx_SC, m) out := by
  unfold n_Jumps_join_28_b49_78 at hf
  refine zx_ev_blk zk_35 2 (pc1 := 82) (L1 := [some (.ref 28), some (.int v1), some (.int v2), some (.int v3), some (.int t0)]) (st1 := [.int t0]) (h1 := (zx_SC, m)) rfl ?_
  by_cases c12 : t0 = 0
  · rw [if_pos c12] at hf
    refine zx_ev_ift zk_35 (P := t0 = 0) (t := 117) (f := 85) rfl rfl c12 ?_
    exact zx_ev_sub (L := [some (.ref 28), some (.int v1), some (.int v2), some (.int v3), none]) (⟨rfl, ⟨rfl, ⟨rfl, ⟨rfl, ⟨trivial, trivial⟩⟩⟩⟩⟩) (e_Jumps_join_28_b49_117 v1 v2 v3 m hf hK)
  · rw [if_neg c12] at hf
    refine zx_ev_ifn zk_35 (P := t0 = 0) (t := 117) (f := 85) rfl rfl c12 ?_
    refine zx_ev_blk zk_35 3 (pc1 := 90) (L1 := [some (.ref 28), some (.int v1), some (.int v2), some (.int v3), some (.int t0)]) (st1 := [.int v3, .ref 29]) (h1 := (zx_SC, m)) rfl ?_
    obtain ⟨j14, hj14, hf⟩ := zx_bind_eq hf
    refine zx_ev_step zk_35 rfl (st_iald rfl rfl hj14) ?_
    refine zx_ev_blk zk_35 4 (pc1 := 97) (L1 := [some (.ref 28), some (.int v1), some (.int v2), some (.int v3), some (.int t0)]) (st1 := [.int 4, .int (zx_abs ((m.1 29 j14) - v1))]) (h1 := (zx_SC, m)) rfl ?_
    by_cases c15 : 4 < (zx_abs ((m.1 29 j14) - v1))
    · rw [if_pos c15] at hf
      refine zx_ev_ift zk_35 (P := 4 < (zx_abs ((m.1 29 j14) - v1))) (t := 117) (f := 100) rfl rfl c15 ?_
      exact zx_ev_sub (L := [some (.ref 28), some (.int v1), some (.int v2), some (.int v3), none]) (⟨rfl, ⟨rfl, ⟨rfl, ⟨rfl, ⟨trivial, trivial⟩⟩⟩⟩⟩) (e_Jumps_join_28_b49_117 v1 v2 v3 m hf hK)
    · rw [if_neg c15] at hf
      refine zx_ev_ifn zk_35 (P := 4 < (zx_abs ((m.1 29 j14) - v1))) (t := 117) (f := 100) rfl rfl c15 ?_
      refine zx_ev_blk zk_35 4 (pc1 := 106) (L1 := [some (.ref 28), some (.int v1), some (.int v2), some (.int v3), some (.int t0)]) (st1 := [.int 1, .int v3, .ref 31]) (h1 := (zx_SC, m)) rfl ?_
      obtain ⟨j16, hj16, hf⟩ := zx_bind_eq hf
      refine zx_ev_step zk_35 rfl (st_zast rfl hj16 (Or.inr rfl)) ?_
      obtain ⟨m17, hm17, hf⟩ := zx_let_eq hf
      rw [hm17]
      refine zx_ev_blk zk_35 5 (pc1 := 116) (L1 := [some (.ref 28), some (.int v1), some (.int v2), some (.int v3), some (.int t0)]) (st1 := [.int 1, .int (m17.1 28 4), .ref 31]) (h1 := (zx_SC, m17)) rfl ?_
      obtain ⟨j18, hj18, hf⟩ := zx_bind_eq hf
      refine zx_ev_step zk_35 rfl (st_zast rfl hj18 (Or.inr rfl)) ?_
      obtain ⟨m19, hm19, hf⟩ := zx_let_eq hf
      rw [hm19]
      exact zx_ev_sub (L := [some (.ref 28), some (.int v1), some (.int v2), some (.int v3), none]) (⟨rfl, ⟨rfl, ⟨rfl, ⟨rfl, ⟨trivial, trivial⟩⟩⟩⟩⟩) (e_Jumps_join_28_b49_117 v1 v2 v3 m19 hf hK)
def b_Jumps_join_28_l49 (v1 : Int32) (v2 : Int32) (v3 : Int32) (m : zx_M) : Option ((Int32 × zx_M) ⊕ (zx_M)) := if (m.1 28 4) ≤ v3 then some (.inr m) else (zx_ix 7 v3).bind fun j10 => if 10 < (zx_abs ((m.1 30 j10) - v2)) then n_Jumps_join_28_b49_78 v1 v2 v3 0 m else n_Jumps_join_28_b49_78 v1 v2 v3 1 m
theorem eb_Jumps_join_28_l49 (v1 : Int32) (v2 : Int32) (v3 : Int32) (m : zx_M) {d : Nat} {out : Option Value × zx_H} {y : (Int32 × zx_M) ⊕ (zx_M)} (hf : b_Jumps_join_28_l49 v1 v2 v3 m = some y) (hK : kl_Jumps_join_28_l49 v1 v2 d out y) : zx_Ev (d + 1) 35 49 [some (.ref 28), some (.int v1), some (.int v2), some (.int v3), none] [] (zx_SC, m) out := by
  unfold b_Jumps_join_28_l49 at hf
  refine zx_ev_blk zk_35 3 (pc1 := 54) (L1 := [some (.ref 28), some (.int v1), some (.int v2), some (.int v3), none]) (st1 := [.int (m.1 28 4), .int v3]) (h1 := (zx_SC, m)) rfl ?_
  by_cases c9 : (m.1 28 4) ≤ v3
  · rw [if_pos c9] at hf
    refine zx_ev_ift zk_35 (P := (m.1 28 4) ≤ v3) (t := 123) (f := 57) rfl rfl c9 ?_
    obtain rfl := Option.some.inj hf
    exact zx_ev_sub (L := [some (.ref 28), none, none, none, none]) (⟨rfl, ⟨trivial, ⟨trivial, ⟨trivial, trivial⟩⟩⟩⟩) hK
  · rw [if_neg c9] at hf
    refine zx_ev_ifn zk_35 (P := (m.1 28 4) ≤ v3) (t := 123) (f := 57) rfl rfl c9 ?_
    refine zx_ev_blk zk_35 3 (pc1 := 62) (L1 := [some (.ref 28), some (.int v1), some (.int v2), some (.int v3), none]) (st1 := [.int v3, .ref 30]) (h1 := (zx_SC, m)) rfl ?_
    obtain ⟨j10, hj10, hf⟩ := zx_bind_eq hf
    refine zx_ev_step zk_35 rfl (st_iald rfl rfl hj10) ?_
    refine zx_ev_blk zk_35 4 (pc1 := 70) (L1 := [some (.ref 28), some (.int v1), some (.int v2), some (.int v3), none]) (st1 := [.int 10, .int (zx_abs ((m.1 30 j10) - v2))]) (h1 := (zx_SC, m)) rfl ?_
    by_cases c11 : 10 < (zx_abs ((m.1 30 j10) - v2))
    · rw [if_pos c11] at hf
      refine zx_ev_ift zk_35 (P := 10 < (zx_abs ((m.1 30 j10) - v2))) (t := 77) (f := 73) rfl rfl c11 ?_
      refine zx_ev_blk zk_35 1 (pc1 := 78) (L1 := [some (.ref 28), some (.int v1), some (.int v2), some (.int v3), none]) (st1 := [.int 0]) (h1 := (zx_SC, m)) rfl ?_
      exact zx_ev_sub (L := [some (.ref 28), some (.int v1), some (.int v2), some (.int v3), none]) (⟨rfl, ⟨rfl, ⟨rfl, ⟨rfl, trivial⟩⟩⟩⟩) (e_Jumps_join_28_b49_78 v1 v2 v3 0 m hf hK)
    · rw [if_neg c11] at hf
      refine zx_ev_ifn zk_35 (P := 10 < (zx_abs ((m.1 30 j10) - v2))) (t := 77) (f := 73) rfl rfl c11 ?_
      refine zx_ev_blk zk_35 2 (pc1 := 78) (L1 := [some (.ref 28), some (.int v1), some (.int v2), some (.int v3), none]) (st1 := [.int 1]) (h1 := (zx_SC, m)) rfl ?_
      exact zx_ev_sub (L := [some (.ref 28), some (.int v1), some (.int v2), some (.int v3), none]) (⟨rfl, ⟨rfl, ⟨rfl, ⟨rfl, trivial⟩⟩⟩⟩) (e_Jumps_join_28_b49_78 v1 v2 v3 1 m hf hK)
def l_Jumps_join_28_l49 (v1 : Int32) (v2 : Int32) (s0 : Int32 × zx_M) : Option (zx_M) := zx_lp zx_N (fun s : Int32 × zx_M => b_Jumps_join_28_l49 v1 v2 s.1 s.2) s0
theorem el_Jumps_join_28_l49 (v1 : Int32) (v2 : Int32) {d : Nat} {out : Option Value × zx_H} : ∀ (n : Nat) (s : Int32 × zx_M) (x : zx_M), zx_lp n (fun s : Int32 × zx_M => b_Jumps_join_28_l49 v1 v2 s.1 s.2) s = some x → kx_Jumps_join_28_l49 v1 v2 d out x → zx_Ev (d + 1) 35 49 [some (.ref 28), some (.int v1), some (.int v2), some (.int s.1), none] [] (zx_SC, s.2) out := by
  intro n
  induction n with
  | zero => intro s x hl _; simp [zx_lp] at hl
  | succ n ih =>
    intro s x hl hx
    unfold zx_lp at hl
    cases hb : b_Jumps_join_28_l49 v1 v2 s.1 s.2 with
    | none => simp only [hb] at hl; cases hl
    | some z =>
      simp only [hb] at hl
      cases z with
      | inl s1 => exact eb_Jumps_join_28_l49 v1 v2 s.1 s.2 hb (ih s1 x hl hx)
      | inr t =>
        simp only [Option.some.injEq] at hl
        subst hl
        exact eb_Jumps_join_28_l49 v1 v2 s.1 s.2 hb hx
def f_Jumps_join_28 (v1 : Int32) (v2 : Int32) (m : zx_M) : Option zx_M := if (m.1 28 4) < 0 then some m else if (m.1 28 4) < 7 then (zx_ix 7 (m.1 28 4)).bind fun j3 => zx_let (zx_u1 m 29 j3 v1) fun m4 => (zx_ix 7 (m4.1 28 4)).bind fun j5 => zx_let (zx_u1 m4 30 j5 v2) fun m6 => (zx_ix 7 (m6.1 28 4)).bind fun j7 => zx_let (zx_u1 m6 31 j7 0) fun m8 => (l_Jumps_join_28_l49 v1 v2 (0, m8)).bind fun x20 => zx_let x20 fun m21 => zx_let (zx_u1 m21 28 4 ((m21.1 28 4) + 1)) fun m22 => some m22 else some m
theorem s_Jumps_join_28 (v1 : Int32) (v2 : Int32) (m : zx_M) {d : Nat} {y : zx_M} (hf : f_Jumps_join_28 v1 v2 m = some y) : zx_Ev (d + 1) 35 0 [some (.ref 28), some (.int v1), some (.int v2), none, none] [] (zx_SC, m) (none, (zx_SC, y)) := by
  unfold f_Jumps_join_28 at hf
  refine zx_ev_blk zk_35 2 (pc1 := 4) (L1 := [some (.ref 28), some (.int v1), some (.int v2), none, none]) (st1 := [.int (m.1 28 4)]) (h1 := (zx_SC, m)) rfl ?_
  by_cases c1 : (m.1 28 4) < 0
  · rw [if_pos c1] at hf
    refine zx_ev_ift zk_35 (P := (m.1 28 4) < 0) (t := 16) (f := 7) rfl rfl c1 ?_
    obtain rfl := Option.some.inj hf
    exact zx_ev_ret zk_35 rfl rfl
  · rw [if_neg c1] at hf
    refine zx_ev_ifn zk_35 (P := (m.1 28 4) < 0) (t := 16) (f := 7) rfl rfl c1 ?_
    refine zx_ev_blk zk_35 3 (pc1 := 13) (L1 := [some (.ref 28), some (.int v1), some (.int v2), none, none]) (st1 := [.int 7, .int (m.1 28 4)]) (h1 := (zx_SC, m)) rfl ?_
    by_cases c2 : (m.1 28 4) < 7
    · rw [if_pos c2] at hf
      refine zx_ev_ift zk_35 (P := (m.1 28 4) < 7) (t := 17) (f := 16) rfl rfl c2 ?_
      refine zx_ev_blk zk_35 5 (pc1 := 26) (L1 := [some (.ref 28), some (.int v1), some (.int v2), none, none]) (st1 := [.int v1, .int (m.1 28 4), .ref 29]) (h1 := (zx_SC, m)) rfl ?_
      obtain ⟨j3, hj3, hf⟩ := zx_bind_eq hf
      refine zx_ev_step zk_35 rfl (st_iast rfl hj3) ?_
      obtain ⟨m4, hm4, hf⟩ := zx_let_eq hf
      rw [hm4]
      refine zx_ev_blk zk_35 5 (pc1 := 36) (L1 := [some (.ref 28), some (.int v1), some (.int v2), none, none]) (st1 := [.int v2, .int (m4.1 28 4), .ref 30]) (h1 := (zx_SC, m4)) rfl ?_
      obtain ⟨j5, hj5, hf⟩ := zx_bind_eq hf
      refine zx_ev_step zk_35 rfl (st_iast rfl hj5) ?_
      obtain ⟨m6, hm6, hf⟩ := zx_let_eq hf
      rw [hm6]
      refine zx_ev_blk zk_35 5 (pc1 := 46) (L1 := [some (.ref 28), some (.int v1), some (.int v2), none, none]) (st1 := [.int 0, .int (m6.1 28 4), .ref 31]) (h1 := (zx_SC, m6)) rfl ?_
      obtain ⟨j7, hj7, hf⟩ := zx_bind_eq hf
      refine zx_ev_step zk_35 rfl (st_zast rfl hj7 (Or.inl rfl)) ?_
      obtain ⟨m8, hm8, hf⟩ := zx_let_eq hf
      rw [hm8]
      refine zx_ev_blk zk_35 2 (pc1 := 49) (L1 := [some (.ref 28), some (.int v1), some (.int v2), some (.int 0), none]) (st1 := []) (h1 := (zx_SC, m8)) rfl ?_
      obtain ⟨x20, hx20, hf⟩ := zx_bind_eq hf
      refine zx_ev_sub (L := [some (.ref 28), some (.int v1), some (.int v2), some (.int 0), none]) (⟨rfl, ⟨rfl, ⟨rfl, ⟨rfl, trivial⟩⟩⟩⟩) (el_Jumps_join_28_l49 v1 v2 zx_N (0, m8) x20 hx20 ?_)
      obtain ⟨m21, hm21, hf⟩ := zx_let_eq hf
      subst hm21
      show zx_Ev (d + 1) 35 123 [some (.ref 28), none, none, none, none] [] (zx_SC, x20) _
      obtain ⟨m22, hm22, hf⟩ := zx_let_eq hf
      refine zx_ev_blk zk_35 6 (pc1 := 133) (L1 := [some (.ref 28), none, none, none, none]) (st1 := []) (h1 := (zx_SC, m22)) (by subst hm22; rfl) ?_
      obtain rfl := Option.some.inj hf
      exact zx_ev_ret zk_35 rfl rfl
    · rw [if_neg c2] at hf
      refine zx_ev_ifn zk_35 (P := (m.1 28 4) < 7) (t := 17) (f := 16) rfl rfl c2 ?_
      obtain rfl := Option.some.inj hf
      exact zx_ev_ret zk_35 rfl rfl
def f_Numbers_fromMiddle (v1 : Int32) (m : zx_M) : Option Int32 := (f_Numbers_told 0 4 m).bind fun r2 => (f_Numbers_told 0 5 m).bind fun r4 => some (zx_abs (v1 - ((r2 + r4) / 2)))
theorem s_Numbers_fromMiddle (v1 : Int32) (m : zx_M) {d : Nat} {y : Int32} (hf : f_Numbers_fromMiddle v1 m = some y) : zx_Ev (d + 1) 49 0 [some (.ref 1), some (.int v1)] [] (zx_SC, m) (some (.int y), (zx_SC, m)) := by
  unfold f_Numbers_fromMiddle at hf
  refine zx_ev_blk zk_49 4 (pc1 := 4) (L1 := [some (.ref 1), some (.int v1)]) (st1 := [.int 4, .int 0, .ref 1, .int v1]) (h1 := (zx_SC, m)) rfl ?_
  obtain ⟨r2, hv1, hf⟩ := zx_bind_eq hf
  refine zx_ev_call (d := d + 0) zk_49 (v := some (.int r2)) (h1 := (zx_SC, m)) rfl rfl zt_46 rfl zx_SCn rfl rfl (s_Numbers_told _ _ _ (d := d + 0) hv1) ?_
  refine zx_ev_blk zk_49 3 (pc1 := 10) (L1 := [some (.ref 1), some (.int v1)]) (st1 := [.int 5, .int 0, .ref 1, .int r2, .int v1]) (h1 := (zx_SC, m)) rfl ?_
  obtain ⟨r4, hv3, hf⟩ := zx_bind_eq hf
  refine zx_ev_call (d := d + 0) zk_49 (v := some (.int r4)) (h1 := (zx_SC, m)) rfl rfl zt_46 rfl zx_SCn rfl rfl (s_Numbers_told _ _ _ (d := d + 0) hv3) ?_
  refine zx_ev_blk zk_49 2 (pc1 := 15) (L1 := [some (.ref 1), some (.int v1)]) (st1 := [.int 2, .int (r2 + r4), .int v1]) (h1 := (zx_SC, m)) rfl ?_
  refine zx_ev_step zk_49 rfl (st_idiv (by decide)) ?_
  refine zx_ev_blk zk_49 2 (pc1 := 20) (L1 := [some (.ref 1), some (.int v1)]) (st1 := [.int (zx_abs (v1 - ((r2 + r4) / 2)))]) (h1 := (zx_SC, m)) rfl ?_
  obtain rfl := Option.some.inj hf
  exact zx_ev_ret zk_49 rfl rfl
def n_Deed_sendOut_26_n99 (v1 : Int32) (v5 : Int32) (v6 : Int32) (m : zx_M) : Option (Int32 × zx_M) := zx_let (zx_u1 m 26 9 v6) fun m15 => zx_let (zx_u1 m15 26 10 v1) fun m16 => some (v5, m16)
theorem e_Deed_sendOut_26_n99 (v1 : Int32) (v5 : Int32) (v6 : Int32) (m : zx_M) {d : Nat} {y : (Int32 × zx_M)} (hf : n_Deed_sendOut_26_n99 v1 v5 v6 m = some y) : zx_Ev (d + 2) 28 99 [some (.ref 26), some (.int v1), none, none, none, some (.int v5), some (.int v6)] [] (zx_SC, m) (some (.int y.1), (zx_SC, y.2)) := by
  unfold n_Deed_sendOut_26_n99 at hf
  obtain ⟨m15, hm15, hf⟩ := zx_let_eq hf
  obtain ⟨m16, hm16, hf⟩ := zx_let_eq hf
  refine zx_ev_blk zk_28 7 (pc1 := 112) (L1 := [some (.ref 26), some (.int v1), none, none, none, some (.int v5), some (.int v6)]) (st1 := [.int v5]) (h1 := (zx_SC, m16)) (by subst hm15; subst hm16; rfl) ?_
  obtain rfl := Option.some.inj hf
  exact zx_ev_ret zk_28 rfl rfl
def f_Deed_sendOut_26 (v1 : Int32) (v2 : Int32) (v3 : Int32) (v4 : Int32) (m : zx_M) : Option (Int32 × zx_M) := (f_Deed_mayGo_26 v1 m).bind fun r2 => if ¬ r2 = 0 then zx_let (zx_u1 m 26 4 ((m.1 26 4) + v3)) fun m4 => zx_let (zx_u1 m4 26 5 ((m4.1 26 5) + v2)) fun m5 => (zx_ix 7 v1).bind fun j6 => zx_let (zx_u1 m5 27 j6 1) fun m7 => zx_let (zx_u1 m7 26 7 ((m7.1 26 7) + 1)) fun m8 => zx_let ((m8.1 26 4) + v4) fun a9 => (f_Jumps_join_28 (m8.1 26 5) a9 m8).bind fun m11 => (f_Numbers_fromMiddle a9 m11).bind fun r13 => if (m11.1 26 10) = (-2) then n_Deed_sendOut_26_n99 v1 a9 r13 m11 else if r13 ≤ (m11.1 26 9) then some (a9, m11) else n_Deed_sendOut_26_n99 v1 a9 r13 m11 else some ((-2000000000), m)
theorem s_Deed_sendOut_26 (v1 : Int32) (v2 : Int32) (v3 : Int32) (v4 : Int32) (m : zx_M) {d : Nat} {y : (Int32 × zx_M)} (hf : f_Deed_sendOut_26 v1 v2 v3 v4 m = some y) : zx_Ev (d + 2) 28 0 [some (.ref 26), some (.int v1), some (.int v2), some (.int v3), some (.int v4), none, none] [] (zx_SC, m) (some (.int y.1), (zx_SC, y.2)) := by
  unfold f_Deed_sendOut_26 at hf
  refine zx_ev_blk zk_28 2 (pc1 := 2) (L1 := [some (.ref 26), some (.int v1), some (.int v2), some (.int v3), some (.int v4), none, none]) (st1 := [.int v1, .ref 26]) (h1 := (zx_SC, m)) rfl ?_
  obtain ⟨r2, hv1, hf⟩ := zx_bind_eq hf
  refine zx_ev_call (d := d + 1) zk_28 (v := some (.int r2)) (h1 := (zx_SC, m)) rfl rfl zt_27 rfl zx_SCn rfl rfl (s_Deed_mayGo_26 _ _ (d := d + 1) hv1) ?_
  by_cases c3 : ¬ r2 = 0
  · rw [if_pos c3] at hf
    refine zx_ev_ift zk_28 (P := ¬ r2 = 0) (t := 11) (f := 8) rfl rfl c3 ?_
    obtain ⟨m4, hm4, hf⟩ := zx_let_eq hf
    obtain ⟨m5, hm5, hf⟩ := zx_let_eq hf
    refine zx_ev_blk zk_28 16 (pc1 := 37) (L1 := [some (.ref 26), some (.int v1), some (.int v2), some (.int v3), some (.int v4), none, none]) (st1 := [.int 1, .int v1, .ref 27]) (h1 := (zx_SC, m5)) (by subst hm4; subst hm5; rfl) ?_
    obtain ⟨j6, hj6, hf⟩ := zx_bind_eq hf
    refine zx_ev_step zk_28 rfl (st_zast rfl hj6 (Or.inr rfl)) ?_
    obtain ⟨m7, hm7, hf⟩ := zx_let_eq hf
    rw [hm7]
    obtain ⟨m8, hm8, hf⟩ := zx_let_eq hf
    obtain ⟨a9, ha9, hf⟩ := zx_let_eq hf
    refine zx_ev_blk zk_28 16 (pc1 := 67) (L1 := [some (.ref 26), some (.int v1), some (.int v2), some (.int v3), some (.int v4), some (.int a9), none]) (st1 := [.int a9, .int (m8.1 26 5), .ref 28]) (h1 := (zx_SC, m8)) (by subst hm8; subst ha9; rfl) ?_
    obtain ⟨m11, hv10, hf⟩ := zx_bind_eq hf
    refine zx_ev_call (d := d + 1) zk_28 (v := none) (h1 := (zx_SC, m11)) rfl rfl zt_35 rfl zx_SCn rfl rfl (s_Jumps_join_28 _ _ _ (d := d + 0) hv10) ?_
    refine zx_ev_blk zk_28 3 (pc1 := 76) (L1 := [some (.ref 26), some (.int v1), some (.int v2), some (.int v3), some (.int v4), some (.int a9), none]) (st1 := [.int a9, .ref 1]) (h1 := (zx_SC, m11)) rfl ?_
    obtain ⟨r13, hv12, hf⟩ := zx_bind_eq hf
    refine zx_ev_call (d := d + 1) zk_28 (v := some (.int r13)) (h1 := (zx_SC, m11)) rfl rfl zt_49 rfl zx_SCn rfl rfl (s_Numbers_fromMiddle _ _ (d := d + 0) hv12) ?_
    refine zx_ev_blk zk_28 4 (pc1 := 87) (L1 := [some (.ref 26), some (.int v1), some (.int v2), some (.int v3), some (.int v4), some (.int a9), some (.int r13)]) (st1 := [.int (-2), .int (m11.1 26 10)]) (h1 := (zx_SC, m11)) rfl ?_
    by_cases c14 : (m11.1 26 10) = (-2)
    · rw [if_pos c14] at hf
      refine zx_ev_ift zk_28 (P := (m11.1 26 10) = (-2)) (t := 99) (f := 90) rfl rfl c14 ?_
      exact zx_ev_sub (L := [some (.ref 26), some (.int v1), none, none, none, some (.int a9), some (.int r13)]) (⟨rfl, ⟨rfl, ⟨trivial, ⟨trivial, ⟨trivial, ⟨rfl, ⟨rfl, trivial⟩⟩⟩⟩⟩⟩⟩) (e_Deed_sendOut_26_n99 v1 a9 r13 m11 hf)
    · rw [if_neg c14] at hf
      refine zx_ev_ifn zk_28 (P := (m11.1 26 10) = (-2)) (t := 99) (f := 90) rfl rfl c14 ?_
      refine zx_ev_blk zk_28 3 (pc1 := 96) (L1 := [some (.ref 26), some (.int v1), some (.int v2), some (.int v3), some (.int v4), some (.int a9), some (.int r13)]) (st1 := [.int (m11.1 26 9), .int r13]) (h1 := (zx_SC, m11)) rfl ?_
      by_cases c17 : r13 ≤ (m11.1 26 9)
      · rw [if_pos c17] at hf
        refine zx_ev_ift zk_28 (P := r13 ≤ (m11.1 26 9)) (t := 110) (f := 99) rfl rfl c17 ?_
        refine zx_ev_blk zk_28 1 (pc1 := 112) (L1 := [some (.ref 26), some (.int v1), some (.int v2), some (.int v3), some (.int v4), some (.int a9), some (.int r13)]) (st1 := [.int a9]) (h1 := (zx_SC, m11)) rfl ?_
        obtain rfl := Option.some.inj hf
        exact zx_ev_ret zk_28 rfl rfl
      · rw [if_neg c17] at hf
        refine zx_ev_ifn zk_28 (P := r13 ≤ (m11.1 26 9)) (t := 110) (f := 99) rfl rfl c17 ?_
        exact zx_ev_sub (L := [some (.ref 26), some (.int v1), none, none, none, some (.int a9), some (.int r13)]) (⟨rfl, ⟨rfl, ⟨trivial, ⟨trivial, ⟨trivial, ⟨rfl, ⟨rfl, trivial⟩⟩⟩⟩⟩⟩⟩) (e_Deed_sendOut_26_n99 v1 a9 r13 m11 hf)
  · rw [if_neg c3] at hf
    refine zx_ev_ifn zk_28 (P := ¬ r2 = 0) (t := 11) (f := 8) rfl rfl c3 ?_
    refine zx_ev_blk zk_28 1 (pc1 := 10) (L1 := [some (.ref 26), some (.int v1), some (.int v2), some (.int v3), some (.int v4), none, none]) (st1 := [.int (-2000000000)]) (h1 := (zx_SC, m)) rfl ?_
    obtain rfl := Option.some.inj hf
    exact zx_ev_ret zk_28 rfl rfl
def f_Jumps_become_34_28 (m : zx_M) : Option zx_M := (zx_ck 7 7 0 0 7).bind fun j1 => zx_let (zx_w1 m 35 (va_cpy (m.1 29) (m.1 35) (0 : Int32).toNatClampNeg (0 : Int32).toNatClampNeg j1)) fun m2 => (zx_ck 7 7 0 0 7).bind fun j3 => zx_let (zx_w1 m2 36 (va_cpy (m2.1 30) (m2.1 36) (0 : Int32).toNatClampNeg (0 : Int32).toNatClampNeg j3)) fun m4 => (zx_ck 7 7 0 0 7).bind fun j5 => if zx_01 (fun i => m4.1 31 ((0 : Int32).toNatClampNeg + i)) j5 = true then zx_let (zx_w1 m4 37 (va_cpy (m4.1 31) (m4.1 37) (0 : Int32).toNatClampNeg (0 : Int32).toNatClampNeg j5)) fun m7 => zx_let (zx_u1 m7 34 4 (m7.1 28 4)) fun m8 => some m8 else none
theorem s_Jumps_become_34_28 (m : zx_M) {d : Nat} {y : zx_M} (hf : f_Jumps_become_34_28 m = some y) : zx_Ev (d + 1) 34 0 [some (.ref 34), some (.ref 28)] [] (zx_SC, m) (none, (zx_SC, y)) := by
  unfold f_Jumps_become_34_28 at hf
  refine zx_ev_blk zk_34 9 (pc1 := 17) (L1 := [some (.ref 34), some (.ref 28)]) (st1 := [.int 7, .int 0, .ref 35, .int 0, .ref 29]) (h1 := (zx_SC, m)) rfl ?_
  obtain ⟨j1, hj1, hf⟩ := zx_bind_eq hf
  refine zx_ev_step zk_34 rfl (st_cpi rfl (Nat.le_of_ble_eq_true rfl) rfl rfl hj1) ?_
  obtain ⟨m2, hm2, hf⟩ := zx_let_eq hf
  rw [hm2]
  refine zx_ev_blk zk_34 7 (pc1 := 32) (L1 := [some (.ref 34), some (.ref 28)]) (st1 := [.int 7, .int 0, .ref 36, .int 0, .ref 30]) (h1 := (zx_SC, m2)) rfl ?_
  obtain ⟨j3, hj3, hf⟩ := zx_bind_eq hf
  refine zx_ev_step zk_34 rfl (st_cpi rfl (Nat.le_of_ble_eq_true rfl) rfl rfl hj3) ?_
  obtain ⟨m4, hm4, hf⟩ := zx_let_eq hf
  rw [hm4]
  refine zx_ev_blk zk_34 7 (pc1 := 47) (L1 := [some (.ref 34), some (.ref 28)]) (st1 := [.int 7, .int 0, .ref 37, .int 0, .ref 31]) (h1 := (zx_SC, m4)) rfl ?_
  obtain ⟨j5, hj5, hf⟩ := zx_bind_eq hf
  by_cases c6 : zx_01 (fun i => m4.1 31 ((0 : Int32).toNatClampNeg + i)) j5 = true
  · rw [if_pos c6] at hf
    refine zx_ev_step zk_34 rfl (st_cpz rfl (Nat.le_of_ble_eq_true rfl) rfl rfl hj5 c6) ?_
    obtain ⟨m7, hm7, hf⟩ := zx_let_eq hf
    rw [hm7]
    obtain ⟨m8, hm8, hf⟩ := zx_let_eq hf
    refine zx_ev_blk zk_34 4 (pc1 := 58) (L1 := [some (.ref 34), some (.ref 28)]) (st1 := []) (h1 := (zx_SC, m8)) (by subst hm8; rfl) ?_
    obtain rfl := Option.some.inj hf
    exact zx_ev_ret zk_34 rfl rfl
  · rw [if_neg c6] at hf; cases hf
def f_Deed_become_32_26 (m : zx_M) : Option zx_M := (f_Jumps_become_34_28 m).bind fun m2 => (zx_ck 7 7 0 0 7).bind fun j3 => if zx_01 (fun i => m2.1 27 ((0 : Int32).toNatClampNeg + i)) j3 = true then zx_let (zx_w1 m2 33 (va_cpy (m2.1 27) (m2.1 33) (0 : Int32).toNatClampNeg (0 : Int32).toNatClampNeg j3)) fun m5 => if (m5.1 26 3) = 0 ∨ (m5.1 26 3) = 1 then zx_let (zx_u1 m5 32 3 (m5.1 26 3)) fun m7 => zx_let (zx_u1 m7 32 4 (m7.1 26 4)) fun m8 => zx_let (zx_u1 m8 32 5 (m8.1 26 5)) fun m9 => zx_let (zx_u1 m9 32 6 (m9.1 26 6)) fun m10 => zx_let (zx_u1 m10 32 7 (m10.1 26 7)) fun m11 => zx_let (zx_u1 m11 32 8 (m11.1 26 8)) fun m12 => zx_let (zx_u1 m12 32 9 (m12.1 26 9)) fun m13 => zx_let (zx_u1 m13 32 10 (m13.1 26 10)) fun m14 => some m14 else none else none
theorem s_Deed_become_32_26 (m : zx_M) {d : Nat} {y : zx_M} (hf : f_Deed_become_32_26 m = some y) : zx_Ev (d + 2) 24 0 [some (.ref 32), some (.ref 26)] [] (zx_SC, m) (none, (zx_SC, y)) := by
  unfold f_Deed_become_32_26 at hf
  refine zx_ev_blk zk_24 6 (pc1 := 13) (L1 := [some (.ref 32), some (.ref 26)]) (st1 := [.ref 28, .ref 34]) (h1 := (zx_SC, m)) rfl ?_
  obtain ⟨m2, hv1, hf⟩ := zx_bind_eq hf
  refine zx_ev_call (d := d + 1) zk_24 (v := none) (h1 := (zx_SC, m2)) rfl rfl zt_34 rfl zx_SCn rfl rfl (s_Jumps_become_34_28 _ (d := d + 0) hv1) ?_
  refine zx_ev_blk zk_24 7 (pc1 := 28) (L1 := [some (.ref 32), some (.ref 26)]) (st1 := [.int 7, .int 0, .ref 33, .int 0, .ref 27]) (h1 := (zx_SC, m2)) rfl ?_
  obtain ⟨j3, hj3, hf⟩ := zx_bind_eq hf
  by_cases c4 : zx_01 (fun i => m2.1 27 ((0 : Int32).toNatClampNeg + i)) j3 = true
  · rw [if_pos c4] at hf
    refine zx_ev_step zk_24 rfl (st_cpz rfl (Nat.le_of_ble_eq_true rfl) rfl rfl hj3 c4) ?_
    obtain ⟨m5, hm5, hf⟩ := zx_let_eq hf
    rw [hm5]
    refine zx_ev_blk zk_24 3 (pc1 := 36) (L1 := [some (.ref 32), some (.ref 26)]) (st1 := [.int (m5.1 26 3), .ref 32]) (h1 := (zx_SC, m5)) rfl ?_
    by_cases c6 : (m5.1 26 3) = 0 ∨ (m5.1 26 3) = 1
    · rw [if_pos c6] at hf
      refine zx_ev_step zk_24 rfl (st_pfz rfl rfl rfl rfl rfl c6) ?_
      obtain ⟨m7, hm7, hf⟩ := zx_let_eq hf
      rw [hm7]
      obtain ⟨m8, hm8, hf⟩ := zx_let_eq hf
      obtain ⟨m9, hm9, hf⟩ := zx_let_eq hf
      obtain ⟨m10, hm10, hf⟩ := zx_let_eq hf
      obtain ⟨m11, hm11, hf⟩ := zx_let_eq hf
      obtain ⟨m12, hm12, hf⟩ := zx_let_eq hf
      obtain ⟨m13, hm13, hf⟩ := zx_let_eq hf
      obtain ⟨m14, hm14, hf⟩ := zx_let_eq hf
      refine zx_ev_blk zk_24 28 (pc1 := 95) (L1 := [some (.ref 32), some (.ref 26)]) (st1 := []) (h1 := (zx_SC, m14)) (by subst hm8; subst hm9; subst hm10; subst hm11; subst hm12; subst hm13; subst hm14; rfl) ?_
      obtain rfl := Option.some.inj hf
      exact zx_ev_ret zk_24 rfl rfl
    · rw [if_neg c6] at hf; cases hf
  · rw [if_neg c4] at hf; cases hf
def f_Deed_drops_32 (m : zx_M) : Option Int32 := some (m.1 32 6)
theorem s_Deed_drops_32 (m : zx_M) {d : Nat} {y : Int32} (hf : f_Deed_drops_32 m = some y) : zx_Ev (d) 25 0 [some (.ref 32)] [] (zx_SC, m) (some (.int y), (zx_SC, m)) := by
  unfold f_Deed_drops_32 at hf
  refine zx_ev_blk zk_25 2 (pc1 := 4) (L1 := [some (.ref 32)]) (st1 := [.int (m.1 32 6)]) (h1 := (zx_SC, m)) rfl ?_
  obtain rfl := Option.some.inj hf
  exact zx_ev_ret zk_25 rfl rfl
def n_Numbers_fits_n71 (v1 : Int32) (v2 : Int32) (m : zx_M) : Option Int32 := if ¬ v1 = 5 then some 1 else (f_Numbers_told 0 4 m).bind fun r12 => if v2 < r12 then some 0 else some 1
theorem e_Numbers_fits_n71 (v1 : Int32) (v2 : Int32) (m : zx_M) {d : Nat} {y : Int32} (hf : n_Numbers_fits_n71 v1 v2 m = some y) : zx_Ev (d + 1) 45 71 [some (.ref 1), some (.int v1), some (.int v2)] [] (zx_SC, m) (some (.int y), (zx_SC, m)) := by
  unfold n_Numbers_fits_n71 at hf
  refine zx_ev_blk zk_45 2 (pc1 := 73) (L1 := [some (.ref 1), some (.int v1), some (.int v2)]) (st1 := [.int 5, .int v1]) (h1 := (zx_SC, m)) rfl ?_
  by_cases c10 : ¬ v1 = 5
  · rw [if_pos c10] at hf
    refine zx_ev_ift zk_45 (P := ¬ v1 = 5) (t := 86) (f := 76) rfl rfl c10 ?_
    refine zx_ev_blk zk_45 2 (pc1 := 91) (L1 := [some (.ref 1), some (.int v1), some (.int v2)]) (st1 := [.int 1]) (h1 := (zx_SC, m)) rfl ?_
    obtain rfl := Option.some.inj hf
    exact zx_ev_ret zk_45 rfl (zx_ret_z (Or.inr rfl))
  · rw [if_neg c10] at hf
    refine zx_ev_ifn zk_45 (P := ¬ v1 = 5) (t := 86) (f := 76) rfl rfl c10 ?_
    refine zx_ev_blk zk_45 4 (pc1 := 80) (L1 := [some (.ref 1), some (.int v1), some (.int v2)]) (st1 := [.int 4, .int 0, .ref 1, .int v2]) (h1 := (zx_SC, m)) rfl ?_
    obtain ⟨r12, hv11, hf⟩ := zx_bind_eq hf
    refine zx_ev_call (d := d + 0) zk_45 (v := some (.int r12)) (h1 := (zx_SC, m)) rfl rfl zt_46 rfl zx_SCn rfl rfl (s_Numbers_told _ _ _ (d := d + 0) hv11) ?_
    by_cases c13 : v2 < r12
    · rw [if_pos c13] at hf
      refine zx_ev_ift zk_45 (P := v2 < r12) (t := 90) (f := 86) rfl rfl c13 ?_
      refine zx_ev_blk zk_45 1 (pc1 := 91) (L1 := [some (.ref 1), some (.int v1), some (.int v2)]) (st1 := [.int 0]) (h1 := (zx_SC, m)) rfl ?_
      obtain rfl := Option.some.inj hf
      exact zx_ev_ret zk_45 rfl (zx_ret_z (Or.inl rfl))
    · rw [if_neg c13] at hf
      refine zx_ev_ifn zk_45 (P := v2 < r12) (t := 90) (f := 86) rfl rfl c13 ?_
      refine zx_ev_blk zk_45 2 (pc1 := 91) (L1 := [some (.ref 1), some (.int v1), some (.int v2)]) (st1 := [.int 1]) (h1 := (zx_SC, m)) rfl ?_
      obtain rfl := Option.some.inj hf
      exact zx_ev_ret zk_45 rfl (zx_ret_z (Or.inr rfl))
def n_Numbers_fits_n36 (v1 : Int32) (v2 : Int32) (m : zx_M) : Option Int32 := (zx_ix 12 v1).bind fun j5 => if v2 < (zx_sA0.getD j5 0) then some 0 else (zx_ix 12 v1).bind fun j7 => if v2 ≤ (zx_sA1.getD j7 0) then if ¬ v1 = 4 then n_Numbers_fits_n71 v1 v2 m else (f_Numbers_told 0 5 m).bind fun r15 => if r15 < v2 then some 0 else n_Numbers_fits_n71 v1 v2 m else some 0
theorem e_Numbers_fits_n36 (v1 : Int32) (v2 : Int32) (m : zx_M) {d : Nat} {y : Int32} (hf : n_Numbers_fits_n36 v1 v2 m = some y) : zx_Ev (d + 1) 45 36 [some (.ref 1), some (.int v1), some (.int v2)] [] (zx_SC, m) (some (.int y), (zx_SC, m)) := by
  unfold n_Numbers_fits_n36 at hf
  refine zx_ev_blk zk_45 3 (pc1 := 41) (L1 := [some (.ref 1), some (.int v1), some (.int v2)]) (st1 := [.int v1, .ref 1000, .int v2]) (h1 := (zx_SC, m)) rfl ?_
  obtain ⟨j5, hj5, hf⟩ := zx_bind_eq hf
  refine zx_ev_step zk_45 rfl (st_sald (li := zx_sA0) rfl rfl hj5) ?_
  by_cases c6 : v2 < (zx_sA0.getD j5 0)
  · rw [if_pos c6] at hf
    refine zx_ev_ift zk_45 (P := v2 < (zx_sA0.getD j5 0)) (t := 54) (f := 45) rfl rfl c6 ?_
    refine zx_ev_blk zk_45 1 (pc1 := 55) (L1 := [some (.ref 1), some (.int v1), some (.int v2)]) (st1 := [.int 0]) (h1 := (zx_SC, m)) rfl ?_
    obtain rfl := Option.some.inj hf
    exact zx_ev_ret zk_45 rfl (zx_ret_z (Or.inl rfl))
  · rw [if_neg c6] at hf
    refine zx_ev_ifn zk_45 (P := v2 < (zx_sA0.getD j5 0)) (t := 54) (f := 45) rfl rfl c6 ?_
    refine zx_ev_blk zk_45 3 (pc1 := 50) (L1 := [some (.ref 1), some (.int v1), some (.int v2)]) (st1 := [.int v1, .ref 1001, .int v2]) (h1 := (zx_SC, m)) rfl ?_
    obtain ⟨j7, hj7, hf⟩ := zx_bind_eq hf
    refine zx_ev_step zk_45 rfl (st_sald (li := zx_sA1) rfl rfl hj7) ?_
    by_cases c8 : v2 ≤ (zx_sA1.getD j7 0)
    · rw [if_pos c8] at hf
      refine zx_ev_ift zk_45 (P := v2 ≤ (zx_sA1.getD j7 0)) (t := 56) (f := 54) rfl rfl c8 ?_
      refine zx_ev_blk zk_45 2 (pc1 := 58) (L1 := [some (.ref 1), some (.int v1), some (.int v2)]) (st1 := [.int 4, .int v1]) (h1 := (zx_SC, m)) rfl ?_
      by_cases c9 : ¬ v1 = 4
      · rw [if_pos c9] at hf
        refine zx_ev_ift zk_45 (P := ¬ v1 = 4) (t := 71) (f := 61) rfl rfl c9 ?_
        exact zx_ev_sub (L := [some (.ref 1), some (.int v1), some (.int v2)]) (⟨rfl, ⟨rfl, ⟨rfl, trivial⟩⟩⟩) (e_Numbers_fits_n71 v1 v2 m hf)
      · rw [if_neg c9] at hf
        refine zx_ev_ifn zk_45 (P := ¬ v1 = 4) (t := 71) (f := 61) rfl rfl c9 ?_
        refine zx_ev_blk zk_45 4 (pc1 := 65) (L1 := [some (.ref 1), some (.int v1), some (.int v2)]) (st1 := [.int 5, .int 0, .ref 1, .int v2]) (h1 := (zx_SC, m)) rfl ?_
        obtain ⟨r15, hv14, hf⟩ := zx_bind_eq hf
        refine zx_ev_call (d := d + 0) zk_45 (v := some (.int r15)) (h1 := (zx_SC, m)) rfl rfl zt_46 rfl zx_SCn rfl rfl (s_Numbers_told _ _ _ (d := d + 0) hv14) ?_
        by_cases c16 : r15 < v2
        · rw [if_pos c16] at hf
          refine zx_ev_ift zk_45 (P := r15 < v2) (t := 90) (f := 71) rfl rfl c16 ?_
          refine zx_ev_blk zk_45 1 (pc1 := 91) (L1 := [some (.ref 1), some (.int v1), some (.int v2)]) (st1 := [.int 0]) (h1 := (zx_SC, m)) rfl ?_
          obtain rfl := Option.some.inj hf
          exact zx_ev_ret zk_45 rfl (zx_ret_z (Or.inl rfl))
        · rw [if_neg c16] at hf
          refine zx_ev_ifn zk_45 (P := r15 < v2) (t := 90) (f := 71) rfl rfl c16 ?_
          exact zx_ev_sub (L := [some (.ref 1), some (.int v1), some (.int v2)]) (⟨rfl, ⟨rfl, ⟨rfl, trivial⟩⟩⟩) (e_Numbers_fits_n71 v1 v2 m hf)
    · rw [if_neg c8] at hf
      refine zx_ev_ifn zk_45 (P := v2 ≤ (zx_sA1.getD j7 0)) (t := 56) (f := 54) rfl rfl c8 ?_
      refine zx_ev_blk zk_45 1 (pc1 := 55) (L1 := [some (.ref 1), some (.int v1), some (.int v2)]) (st1 := [.int 0]) (h1 := (zx_SC, m)) rfl ?_
      obtain rfl := Option.some.inj hf
      exact zx_ev_ret zk_45 rfl (zx_ret_z (Or.inl rfl))
def f_Numbers_fits (v1 : Int32) (v2 : Int32) (m : zx_M) : Option Int32 := if v1 < 0 then some 0 else if 12 ≤ v1 then some 0 else if v1 < 12 then if ¬ v1 = 6 then n_Numbers_fits_n36 v1 v2 m else if ¬ v2 = (-2000000000) then n_Numbers_fits_n36 v1 v2 m else some 1 else some 0
theorem s_Numbers_fits (v1 : Int32) (v2 : Int32) (m : zx_M) {d : Nat} {y : Int32} (hf : f_Numbers_fits v1 v2 m = some y) : zx_Ev (d + 1) 45 0 [some (.ref 1), some (.int v1), some (.int v2)] [] (zx_SC, m) (some (.int y), (zx_SC, m)) := by
  unfold f_Numbers_fits at hf
  refine zx_ev_blk zk_45 1 (pc1 := 1) (L1 := [some (.ref 1), some (.int v1), some (.int v2)]) (st1 := [.int v1]) (h1 := (zx_SC, m)) rfl ?_
  by_cases c1 : v1 < 0
  · rw [if_pos c1] at hf
    refine zx_ev_ift zk_45 (P := v1 < 0) (t := 20) (f := 4) rfl rfl c1 ?_
    refine zx_ev_blk zk_45 1 (pc1 := 21) (L1 := [some (.ref 1), some (.int v1), some (.int v2)]) (st1 := [.int 0]) (h1 := (zx_SC, m)) rfl ?_
    obtain rfl := Option.some.inj hf
    exact zx_ev_ret zk_45 rfl (zx_ret_z (Or.inl rfl))
  · rw [if_neg c1] at hf
    refine zx_ev_ifn zk_45 (P := v1 < 0) (t := 20) (f := 4) rfl rfl c1 ?_
    refine zx_ev_blk zk_45 3 (pc1 := 9) (L1 := [some (.ref 1), some (.int v1), some (.int v2)]) (st1 := [.int 12, .int v1]) (h1 := (zx_SC, m)) rfl ?_
    by_cases c2 : 12 ≤ v1
    · rw [if_pos c2] at hf
      refine zx_ev_ift zk_45 (P := 12 ≤ v1) (t := 20) (f := 12) rfl rfl c2 ?_
      refine zx_ev_blk zk_45 1 (pc1 := 21) (L1 := [some (.ref 1), some (.int v1), some (.int v2)]) (st1 := [.int 0]) (h1 := (zx_SC, m)) rfl ?_
      obtain rfl := Option.some.inj hf
      exact zx_ev_ret zk_45 rfl (zx_ret_z (Or.inl rfl))
    · rw [if_neg c2] at hf
      refine zx_ev_ifn zk_45 (P := 12 ≤ v1) (t := 20) (f := 12) rfl rfl c2 ?_
      refine zx_ev_blk zk_45 3 (pc1 := 17) (L1 := [some (.ref 1), some (.int v1), some (.int v2)]) (st1 := [.int 12, .int v1]) (h1 := (zx_SC, m)) rfl ?_
      by_cases c3 : v1 < 12
      · rw [if_pos c3] at hf
        refine zx_ev_ift zk_45 (P := v1 < 12) (t := 22) (f := 20) rfl rfl c3 ?_
        refine zx_ev_blk zk_45 2 (pc1 := 25) (L1 := [some (.ref 1), some (.int v1), some (.int v2)]) (st1 := [.int 6, .int v1]) (h1 := (zx_SC, m)) rfl ?_
        by_cases c4 : ¬ v1 = 6
        · rw [if_pos c4] at hf
          refine zx_ev_ift zk_45 (P := ¬ v1 = 6) (t := 36) (f := 28) rfl rfl c4 ?_
          exact zx_ev_sub (L := [some (.ref 1), some (.int v1), some (.int v2)]) (⟨rfl, ⟨rfl, ⟨rfl, trivial⟩⟩⟩) (e_Numbers_fits_n36 v1 v2 m hf)
        · rw [if_neg c4] at hf
          refine zx_ev_ifn zk_45 (P := ¬ v1 = 6) (t := 36) (f := 28) rfl rfl c4 ?_
          refine zx_ev_blk zk_45 2 (pc1 := 31) (L1 := [some (.ref 1), some (.int v1), some (.int v2)]) (st1 := [.int (-2000000000), .int v2]) (h1 := (zx_SC, m)) rfl ?_
          by_cases c17 : ¬ v2 = (-2000000000)
          · rw [if_pos c17] at hf
            refine zx_ev_ift zk_45 (P := ¬ v2 = (-2000000000)) (t := 36) (f := 34) rfl rfl c17 ?_
            exact zx_ev_sub (L := [some (.ref 1), some (.int v1), some (.int v2)]) (⟨rfl, ⟨rfl, ⟨rfl, trivial⟩⟩⟩) (e_Numbers_fits_n36 v1 v2 m hf)
          · rw [if_neg c17] at hf
            refine zx_ev_ifn zk_45 (P := ¬ v2 = (-2000000000)) (t := 36) (f := 34) rfl rfl c17 ?_
            refine zx_ev_blk zk_45 1 (pc1 := 35) (L1 := [some (.ref 1), some (.int v1), some (.int v2)]) (st1 := [.int 1]) (h1 := (zx_SC, m)) rfl ?_
            obtain rfl := Option.some.inj hf
            exact zx_ev_ret zk_45 rfl (zx_ret_z (Or.inr rfl))
      · rw [if_neg c3] at hf
        refine zx_ev_ifn zk_45 (P := v1 < 12) (t := 22) (f := 20) rfl rfl c3 ?_
        refine zx_ev_blk zk_45 1 (pc1 := 21) (L1 := [some (.ref 1), some (.int v1), some (.int v2)]) (st1 := [.int 0]) (h1 := (zx_SC, m)) rfl ?_
        obtain rfl := Option.some.inj hf
        exact zx_ev_ret zk_45 rfl (zx_ret_z (Or.inl rfl))
def n_Numbers_tell_n29 (v1 : Int32) (v2 : Int32) (v3 : Int32) (m : zx_M) : Option zx_M := zx_let ((v1 * 4) + v2) fun a3 => if a3 < 0 then some m else if 28 ≤ a3 then some m else (zx_ix 28 a3).bind fun j6 => zx_let (zx_u1 m 3 j6 v3) fun m7 => some m7
theorem e_Numbers_tell_n29 (v1 : Int32) (v2 : Int32) (v3 : Int32) (m : zx_M) {d : Nat} {y : zx_M} (hf : n_Numbers_tell_n29 v1 v2 v3 m = some y) : zx_Ev (d) 47 29 [some (.ref 1), some (.int v1), some (.int v2), some (.int v3), none, none] [] (zx_SC, m) (none, (zx_SC, y)) := by
  unfold n_Numbers_tell_n29 at hf
  obtain ⟨a3, ha3, hf⟩ := zx_let_eq hf
  refine zx_ev_blk zk_47 7 (pc1 := 38) (L1 := [some (.ref 1), some (.int v1), some (.int v2), some (.int v3), none, some (.int a3)]) (st1 := [.int a3]) (h1 := (zx_SC, m)) (by subst ha3; rfl) ?_
  by_cases c4 : a3 < 0
  · rw [if_pos c4] at hf
    refine zx_ev_ift zk_47 (P := a3 < 0) (t := 59) (f := 41) rfl rfl c4 ?_
    obtain rfl := Option.some.inj hf
    exact zx_ev_ret zk_47 rfl rfl
  · rw [if_neg c4] at hf
    refine zx_ev_ifn zk_47 (P := a3 < 0) (t := 59) (f := 41) rfl rfl c4 ?_
    refine zx_ev_blk zk_47 4 (pc1 := 48) (L1 := [some (.ref 1), some (.int v1), some (.int v2), some (.int v3), none, some (.int a3)]) (st1 := [.int 28, .int a3]) (h1 := (zx_SC, m)) rfl ?_
    by_cases c5 : 28 ≤ a3
    · rw [if_pos c5] at hf
      refine zx_ev_ift zk_47 (P := 28 ≤ a3) (t := 59) (f := 51) rfl rfl c5 ?_
      obtain rfl := Option.some.inj hf
      exact zx_ev_ret zk_47 rfl rfl
    · rw [if_neg c5] at hf
      refine zx_ev_ifn zk_47 (P := 28 ≤ a3) (t := 59) (f := 51) rfl rfl c5 ?_
      refine zx_ev_blk zk_47 4 (pc1 := 58) (L1 := [some (.ref 1), some (.int v1), some (.int v2), some (.int v3), none, some (.int a3)]) (st1 := [.int v3, .int a3, .ref 3]) (h1 := (zx_SC, m)) rfl ?_
      obtain ⟨j6, hj6, hf⟩ := zx_bind_eq hf
      refine zx_ev_step zk_47 rfl (st_iast rfl hj6) ?_
      obtain ⟨m7, hm7, hf⟩ := zx_let_eq hf
      rw [hm7]
      obtain rfl := Option.some.inj hf
      exact zx_ev_ret zk_47 rfl rfl
def f_Numbers_tell (v1 : Int32) (v2 : Int32) (v3 : Int32) (m : zx_M) : Option zx_M := zx_let (v2 - 4) fun a1 => if a1 < 0 then n_Numbers_tell_n29 v1 v2 v3 m else if 8 ≤ a1 then n_Numbers_tell_n29 v1 v2 v3 m else (zx_ix 8 a1).bind fun j9 => zx_let (zx_u1 m 2 j9 v3) fun m10 => some m10
theorem s_Numbers_tell (v1 : Int32) (v2 : Int32) (v3 : Int32) (m : zx_M) {d : Nat} {y : zx_M} (hf : f_Numbers_tell v1 v2 v3 m = some y) : zx_Ev (d) 47 0 [some (.ref 1), some (.int v1), some (.int v2), some (.int v3), none, none] [] (zx_SC, m) (none, (zx_SC, y)) := by
  unfold f_Numbers_tell at hf
  obtain ⟨a1, ha1, hf⟩ := zx_let_eq hf
  refine zx_ev_blk zk_47 5 (pc1 := 7) (L1 := [some (.ref 1), some (.int v1), some (.int v2), some (.int v3), some (.int a1), none]) (st1 := [.int a1]) (h1 := (zx_SC, m)) (by subst ha1; rfl) ?_
  by_cases c2 : a1 < 0
  · rw [if_pos c2] at hf
    refine zx_ev_ift zk_47 (P := a1 < 0) (t := 29) (f := 10) rfl rfl c2 ?_
    exact zx_ev_sub (L := [some (.ref 1), some (.int v1), some (.int v2), some (.int v3), none, none]) (⟨rfl, ⟨rfl, ⟨rfl, ⟨rfl, ⟨trivial, trivial⟩⟩⟩⟩⟩) (e_Numbers_tell_n29 v1 v2 v3 m hf)
  · rw [if_neg c2] at hf
    refine zx_ev_ifn zk_47 (P := a1 < 0) (t := 29) (f := 10) rfl rfl c2 ?_
    refine zx_ev_blk zk_47 4 (pc1 := 17) (L1 := [some (.ref 1), some (.int v1), some (.int v2), some (.int v3), some (.int a1), none]) (st1 := [.int 8, .int a1]) (h1 := (zx_SC, m)) rfl ?_
    by_cases c8 : 8 ≤ a1
    · rw [if_pos c8] at hf
      refine zx_ev_ift zk_47 (P := 8 ≤ a1) (t := 29) (f := 20) rfl rfl c8 ?_
      exact zx_ev_sub (L := [some (.ref 1), some (.int v1), some (.int v2), some (.int v3), none, none]) (⟨rfl, ⟨rfl, ⟨rfl, ⟨rfl, ⟨trivial, trivial⟩⟩⟩⟩⟩) (e_Numbers_tell_n29 v1 v2 v3 m hf)
    · rw [if_neg c8] at hf
      refine zx_ev_ifn zk_47 (P := 8 ≤ a1) (t := 29) (f := 20) rfl rfl c8 ?_
      refine zx_ev_blk zk_47 4 (pc1 := 27) (L1 := [some (.ref 1), some (.int v1), some (.int v2), some (.int v3), some (.int a1), none]) (st1 := [.int v3, .int a1, .ref 2]) (h1 := (zx_SC, m)) rfl ?_
      obtain ⟨j9, hj9, hf⟩ := zx_bind_eq hf
      refine zx_ev_step zk_47 rfl (st_iast rfl hj9) ?_
      obtain ⟨m10, hm10, hf⟩ := zx_let_eq hf
      rw [hm10]
      obtain rfl := Option.some.inj hf
      exact zx_ev_ret zk_47 rfl rfl
def f_Numbers_welcome (v1 : Int32) (v2 : Int32) (v3 : Int32) (m : zx_M) : Option (Int32 × zx_M) := if (m.1 1 2) < 7 then zx_let (m.1 1 2) fun a2 => zx_let (zx_u1 m 1 2 ((m.1 1 2) + 1)) fun m3 => (f_Numbers_tell a2 0 v1 m3).bind fun m5 => (f_Numbers_tell a2 1 v2 m5).bind fun m7 => (f_Numbers_tell a2 2 v3 m7).bind fun m9 => some (a2, m9) else some ((-3), m)
theorem s_Numbers_welcome (v1 : Int32) (v2 : Int32) (v3 : Int32) (m : zx_M) {d : Nat} {y : (Int32 × zx_M)} (hf : f_Numbers_welcome v1 v2 v3 m = some y) : zx_Ev (d + 1) 48 0 [some (.ref 1), some (.int v1), some (.int v2), some (.int v3), none] [] (zx_SC, m) (some (.int y.1), (zx_SC, y.2)) := by
  unfold f_Numbers_welcome at hf
  refine zx_ev_blk zk_48 3 (pc1 := 6) (L1 := [some (.ref 1), some (.int v1), some (.int v2), some (.int v3), none]) (st1 := [.int 7, .int (m.1 1 2)]) (h1 := (zx_SC, m)) rfl ?_
  by_cases c1 : (m.1 1 2) < 7
  · rw [if_pos c1] at hf
    refine zx_ev_ift zk_48 (P := (m.1 1 2) < 7) (t := 12) (f := 9) rfl rfl c1 ?_
    obtain ⟨a2, ha2, hf⟩ := zx_let_eq hf
    obtain ⟨m3, hm3, hf⟩ := zx_let_eq hf
    refine zx_ev_blk zk_48 13 (pc1 := 33) (L1 := [some (.ref 1), some (.int v1), some (.int v2), some (.int v3), some (.int a2)]) (st1 := [.int v1, .int 0, .int a2, .ref 1]) (h1 := (zx_SC, m3)) (by subst ha2; subst hm3; rfl) ?_
    obtain ⟨m5, hv4, hf⟩ := zx_bind_eq hf
    refine zx_ev_call (d := d + 0) zk_48 (v := none) (h1 := (zx_SC, m5)) rfl rfl zt_47 rfl zx_SCn rfl rfl (s_Numbers_tell _ _ _ _ (d := d + 0) hv4) ?_
    refine zx_ev_blk zk_48 4 (pc1 := 41) (L1 := [some (.ref 1), some (.int v1), some (.int v2), some (.int v3), some (.int a2)]) (st1 := [.int v2, .int 1, .int a2, .ref 1]) (h1 := (zx_SC, m5)) rfl ?_
    obtain ⟨m7, hv6, hf⟩ := zx_bind_eq hf
    refine zx_ev_call (d := d + 0) zk_48 (v := none) (h1 := (zx_SC, m7)) rfl rfl zt_47 rfl zx_SCn rfl rfl (s_Numbers_tell _ _ _ _ (d := d + 0) hv6) ?_
    refine zx_ev_blk zk_48 4 (pc1 := 49) (L1 := [some (.ref 1), some (.int v1), some (.int v2), some (.int v3), some (.int a2)]) (st1 := [.int v3, .int 2, .int a2, .ref 1]) (h1 := (zx_SC, m7)) rfl ?_
    obtain ⟨m9, hv8, hf⟩ := zx_bind_eq hf
    refine zx_ev_call (d := d + 0) zk_48 (v := none) (h1 := (zx_SC, m9)) rfl rfl zt_47 rfl zx_SCn rfl rfl (s_Numbers_tell _ _ _ _ (d := d + 0) hv8) ?_
    refine zx_ev_blk zk_48 1 (pc1 := 54) (L1 := [some (.ref 1), some (.int v1), some (.int v2), some (.int v3), some (.int a2)]) (st1 := [.int a2]) (h1 := (zx_SC, m9)) rfl ?_
    obtain rfl := Option.some.inj hf
    exact zx_ev_ret zk_48 rfl rfl
  · rw [if_neg c1] at hf
    refine zx_ev_ifn zk_48 (P := (m.1 1 2) < 7) (t := 12) (f := 9) rfl rfl c1 ?_
    refine zx_ev_blk zk_48 1 (pc1 := 11) (L1 := [some (.ref 1), some (.int v1), some (.int v2), some (.int v3), none]) (st1 := [.int (-3)]) (h1 := (zx_SC, m)) rfl ?_
    obtain rfl := Option.some.inj hf
    exact zx_ev_ret zk_48 rfl rfl
def f_Arrays_rangeCheck_ (v0 : Int32) (v1 : Int32) (v2 : Int32) (m : zx_M) : Option Unit := if v1 ≤ v2 then if 0 ≤ v1 then if v2 ≤ v0 then some () else none else none else none
theorem s_Arrays_rangeCheck_ (v0 : Int32) (v1 : Int32) (v2 : Int32) (m : zx_M) {d : Nat} {y : Unit} (hf : f_Arrays_rangeCheck_ v0 v1 v2 m = some y) : zx_Ev (d) 260 0 [some (.int v0), some (.int v1), some (.int v2)] [] (zx_SC, m) (none, (zx_SC, m)) := by
  unfold f_Arrays_rangeCheck_ at hf
  refine zx_ev_blk zk_260 2 (pc1 := 2) (L1 := [some (.int v0), some (.int v1), some (.int v2)]) (st1 := [.int v2, .int v1]) (h1 := (zx_SC, m)) rfl ?_
  by_cases c1 : v1 ≤ v2
  · rw [if_pos c1] at hf
    refine zx_ev_ift zk_260 (P := v1 ≤ v2) (t := 46) (f := 5) rfl rfl c1 ?_
    refine zx_ev_blk zk_260 1 (pc1 := 47) (L1 := [some (.int v0), some (.int v1), some (.int v2)]) (st1 := [.int v1]) (h1 := (zx_SC, m)) rfl ?_
    by_cases c2 : 0 ≤ v1
    · rw [if_pos c2] at hf
      refine zx_ev_ift zk_260 (P := 0 ≤ v1) (t := 59) (f := 50) rfl rfl c2 ?_
      refine zx_ev_blk zk_260 2 (pc1 := 61) (L1 := [some (.int v0), some (.int v1), some (.int v2)]) (st1 := [.int v0, .int v2]) (h1 := (zx_SC, m)) rfl ?_
      by_cases c3 : v2 ≤ v0
      · rw [if_pos c3] at hf
        refine zx_ev_ift zk_260 (P := v2 ≤ v0) (t := 73) (f := 64) rfl rfl c3 ?_
        obtain rfl := Option.some.inj hf
        exact zx_ev_ret zk_260 rfl rfl
      · rw [if_neg c3] at hf
        refine zx_ev_ifn zk_260 (P := v2 ≤ v0) (t := 73) (f := 64) rfl rfl c3 ?_
        cases hf
    · rw [if_neg c2] at hf
      refine zx_ev_ifn zk_260 (P := 0 ≤ v1) (t := 59) (f := 50) rfl rfl c2 ?_
      cases hf
  · rw [if_neg c1] at hf
    refine zx_ev_ifn zk_260 (P := v1 ≤ v2) (t := 46) (f := 5) rfl rfl c1 ?_
    cases hf
def kx_Arrays_fill_18_l10 (v2 : Int32) (v3 : Int64) (d : Nat) (out : Option Value × zx_H) : zx_M → Prop
  | y => out = (none, (zx_SC, y))
def kl_Arrays_fill_18_l10 (v2 : Int32) (v3 : Int64) (d : Nat) (out : Option Value × zx_H) : (Int32 × zx_M) ⊕ (zx_M) → Prop
  | .inl (v5, m) => zx_Ev (d + 1) 261 10 [some (.ref 18), none, some (.int v2), some (.long v3), none, some (.int v5)] [] (zx_SC, m) out
  | .inr x => kx_Arrays_fill_18_l10 v2 v3 d out x
def b_Arrays_fill_18_l10 (v2 : Int32) (v3 : Int64) (v5 : Int32) (m : zx_M) : Option ((Int32 × zx_M) ⊕ (zx_M)) := if v2 ≤ v5 then some (.inr m) else (zx_ix 360 v5).bind fun j4 => zx_let (zx_u2 m 18 j4 v3) fun m5 => zx_let (v5 + 1) fun a6 => some (.inl (a6, m5))
theorem eb_Arrays_fill_18_l10 (v2 : Int32) (v3 : Int64) (v5 : Int32) (m : zx_M) {d : Nat} {out : Option Value × zx_H} {y : (Int32 × zx_M) ⊕ (zx_M)} (hf : b_Arrays_fill_18_l10 v2 v3 v5 m = some y) (hK : kl_Arrays_fill_18_l10 v2 v3 d out y) : zx_Ev (d + 1) 261 10 [some (.ref 18), none, some (.int v2), some (.long v3), none, some (.int v5)] [] (zx_SC, m) out := by
  unfold b_Arrays_fill_18_l10 at hf
  refine zx_ev_blk zk_261 2 (pc1 := 13) (L1 := [some (.ref 18), none, some (.int v2), some (.long v3), none, some (.int v5)]) (st1 := [.int v2, .int v5]) (h1 := (zx_SC, m)) rfl ?_
  by_cases c3 : v2 ≤ v5
  · rw [if_pos c3] at hf
    refine zx_ev_ift zk_261 (P := v2 ≤ v5) (t := 27) (f := 16) rfl rfl c3 ?_
    obtain rfl := Option.some.inj hf
    rw [show out = _ from hK]
    exact zx_ev_ret zk_261 rfl rfl
  · rw [if_neg c3] at hf
    refine zx_ev_ifn zk_261 (P := v2 ≤ v5) (t := 27) (f := 16) rfl rfl c3 ?_
    refine zx_ev_blk zk_261 3 (pc1 := 20) (L1 := [some (.ref 18), none, some (.int v2), some (.long v3), none, some (.int v5)]) (st1 := [.long v3, .int v5, .ref 18]) (h1 := (zx_SC, m)) rfl ?_
    obtain ⟨j4, hj4, hf⟩ := zx_bind_eq hf
    refine zx_ev_step zk_261 rfl (st_last rfl hj4) ?_
    obtain ⟨m5, hm5, hf⟩ := zx_let_eq hf
    rw [hm5]
    obtain ⟨a6, ha6, hf⟩ := zx_let_eq hf
    refine zx_ev_blk zk_261 2 (pc1 := 10) (L1 := [some (.ref 18), none, some (.int v2), some (.long v3), none, some (.int a6)]) (st1 := []) (h1 := (zx_SC, m5)) (by subst ha6; rfl) ?_
    obtain rfl := Option.some.inj hf
    exact zx_ev_sub (L := [some (.ref 18), none, some (.int v2), some (.long v3), none, some (.int a6)]) (⟨rfl, ⟨rfl, ⟨rfl, ⟨rfl, trivial⟩⟩⟩⟩) hK
def l_Arrays_fill_18_l10 (v2 : Int32) (v3 : Int64) (s0 : Int32 × zx_M) : Option (zx_M) := zx_lp zx_N (fun s : Int32 × zx_M => b_Arrays_fill_18_l10 v2 v3 s.1 s.2) s0
theorem el_Arrays_fill_18_l10 (v2 : Int32) (v3 : Int64) {d : Nat} {out : Option Value × zx_H} : ∀ (n : Nat) (s : Int32 × zx_M) (x : zx_M), zx_lp n (fun s : Int32 × zx_M => b_Arrays_fill_18_l10 v2 v3 s.1 s.2) s = some x → kx_Arrays_fill_18_l10 v2 v3 d out x → zx_Ev (d + 1) 261 10 [some (.ref 18), none, some (.int v2), some (.long v3), none, some (.int s.1)] [] (zx_SC, s.2) out := by
  intro n
  induction n with
  | zero => intro s x hl _; simp [zx_lp] at hl
  | succ n ih =>
    intro s x hl hx
    unfold zx_lp at hl
    cases hb : b_Arrays_fill_18_l10 v2 v3 s.1 s.2 with
    | none => simp only [hb] at hl; cases hl
    | some z =>
      simp only [hb] at hl
      cases z with
      | inl s1 => exact eb_Arrays_fill_18_l10 v2 v3 s.1 s.2 hb (ih s1 x hl hx)
      | inr t =>
        simp only [Option.some.injEq] at hl
        subst hl
        exact eb_Arrays_fill_18_l10 v2 v3 s.1 s.2 hb hx
def f_Arrays_fill_18 (v1 : Int32) (v2 : Int32) (v3 : Int64) (m : zx_M) : Option zx_M := (f_Arrays_rangeCheck_ 360 v1 v2 m).bind fun u2 => (l_Arrays_fill_18_l10 v2 v3 (v1, m)).bind fun x7 => zx_let x7 fun y8 => some y8
theorem s_Arrays_fill_18 (v1 : Int32) (v2 : Int32) (v3 : Int64) (m : zx_M) {d : Nat} {y : zx_M} (hf : f_Arrays_fill_18 v1 v2 v3 m = some y) : zx_Ev (d + 1) 261 0 [some (.ref 18), some (.int v1), some (.int v2), some (.long v3), none, none] [] (zx_SC, m) (none, (zx_SC, y)) := by
  unfold f_Arrays_fill_18 at hf
  refine zx_ev_blk zk_261 4 (pc1 := 4) (L1 := [some (.ref 18), some (.int v1), some (.int v2), some (.long v3), none, none]) (st1 := [.int v2, .int v1, .int 360]) (h1 := (zx_SC, m)) rfl ?_
  obtain ⟨u2, hv1, hf⟩ := zx_bind_eq hf
  refine zx_ev_call (d := d + 0) zk_261 (v := none) (h1 := (zx_SC, m)) rfl rfl zt_260 rfl zx_SCn rfl rfl (s_Arrays_rangeCheck_ _ _ _ _ (d := d + 0) hv1) ?_
  refine zx_ev_blk zk_261 2 (pc1 := 10) (L1 := [some (.ref 18), some (.int v1), some (.int v2), some (.long v3), none, some (.int v1)]) (st1 := []) (h1 := (zx_SC, m)) rfl ?_
  obtain ⟨x7, hx7, hf⟩ := zx_bind_eq hf
  refine zx_ev_sub (L := [some (.ref 18), none, some (.int v2), some (.long v3), none, some (.int v1)]) (⟨rfl, ⟨trivial, ⟨rfl, ⟨rfl, ⟨rfl, trivial⟩⟩⟩⟩⟩) (el_Arrays_fill_18_l10 v2 v3 zx_N (v1, m) x7 hx7 ?_)
  obtain ⟨y8, hy8, hf⟩ := zx_let_eq hf
  subst hy8
  obtain rfl := Option.some.inj hf
  rfl
def n_Shelves_lay_n31 (v1 : Int32) (t1 : Int32) (t2 : Int32) (m : zx_M) : Option zx_M := (zx_ix 6 t1).bind fun j7 => zx_let (zx_u1 m 17 j7 t2) fun m8 => (f_Arrays_fill_18 (v1 * 60) ((v1 + 1) * 60) 0 m8).bind fun m10 => some m10
theorem e_Shelves_lay_n31 (v1 : Int32) (t1 : Int32) (t2 : Int32) (m : zx_M) {d : Nat} {y : zx_M} (hf : n_Shelves_lay_n31 v1 t1 t2 m = some y) : zx_Ev (d + 2) 65 31 [some (.ref 15), some (.int v1), none, none] [.int t2, .int t1, .ref 17] (zx_SC, m) (none, (zx_SC, y)) := by
  unfold n_Shelves_lay_n31 at hf
  obtain ⟨j7, hj7, hf⟩ := zx_bind_eq hf
  refine zx_ev_step zk_65 rfl (st_iast rfl hj7) ?_
  obtain ⟨m8, hm8, hf⟩ := zx_let_eq hf
  rw [hm8]
  refine zx_ev_blk zk_65 11 (pc1 := 47) (L1 := [some (.ref 15), some (.int v1), none, none]) (st1 := [.long 0, .int ((v1 + 1) * 60), .int (v1 * 60), .ref 18]) (h1 := (zx_SC, m8)) rfl ?_
  obtain ⟨m10, hv9, hf⟩ := zx_bind_eq hf
  refine zx_ev_call (d := d + 1) zk_65 (v := none) (h1 := (zx_SC, m10)) rfl rfl zt_261 rfl zx_SCn rfl rfl (s_Arrays_fill_18 _ _ _ _ (d := d + 0) hv9) ?_
  obtain rfl := Option.some.inj hf
  exact zx_ev_ret zk_65 rfl rfl
def f_Shelves_lay (v1 : Int32) (v2 : Int32) (v3 : Int32) (m : zx_M) : Option zx_M := (f_Shelves_isThere v1 m).bind fun r2 => if ¬ r2 = 0 then (zx_ix 6 v1).bind fun j4 => zx_let (zx_u1 m 16 j4 v2) fun m5 => if ¬ v2 = (-1) then n_Shelves_lay_n31 v1 v1 v3 m5 else n_Shelves_lay_n31 v1 v1 0 m5 else some m
theorem s_Shelves_lay (v1 : Int32) (v2 : Int32) (v3 : Int32) (m : zx_M) {d : Nat} {y : zx_M} (hf : f_Shelves_lay v1 v2 v3 m = some y) : zx_Ev (d + 2) 65 0 [some (.ref 15), some (.int v1), some (.int v2), some (.int v3)] [] (zx_SC, m) (none, (zx_SC, y)) := by
  unfold f_Shelves_lay at hf
  refine zx_ev_blk zk_65 2 (pc1 := 2) (L1 := [some (.ref 15), some (.int v1), some (.int v2), some (.int v3)]) (st1 := [.int v1, .ref 15]) (h1 := (zx_SC, m)) rfl ?_
  obtain ⟨r2, hv1, hf⟩ := zx_bind_eq hf
  refine zx_ev_call (d := d + 1) zk_65 (v := some (.int r2)) (h1 := (zx_SC, m)) rfl rfl zt_60 rfl zx_SCn rfl rfl (s_Shelves_isThere _ _ (d := d + 1) hv1) ?_
  by_cases c3 : ¬ r2 = 0
  · rw [if_pos c3] at hf
    refine zx_ev_ift zk_65 (P := ¬ r2 = 0) (t := 9) (f := 8) rfl rfl c3 ?_
    refine zx_ev_blk zk_65 4 (pc1 := 15) (L1 := [some (.ref 15), some (.int v1), some (.int v2), some (.int v3)]) (st1 := [.int v2, .int v1, .ref 16]) (h1 := (zx_SC, m)) rfl ?_
    obtain ⟨j4, hj4, hf⟩ := zx_bind_eq hf
    refine zx_ev_step zk_65 rfl (st_iast rfl hj4) ?_
    obtain ⟨m5, hm5, hf⟩ := zx_let_eq hf
    rw [hm5]
    refine zx_ev_blk zk_65 5 (pc1 := 23) (L1 := [some (.ref 15), some (.int v1), some (.int v2), some (.int v3)]) (st1 := [.int (-1), .int v2, .int v1, .ref 17]) (h1 := (zx_SC, m5)) rfl ?_
    by_cases c6 : ¬ v2 = (-1)
    · rw [if_pos c6] at hf
      refine zx_ev_ift zk_65 (P := ¬ v2 = (-1)) (t := 30) (f := 26) rfl rfl c6 ?_
      refine zx_ev_blk zk_65 1 (pc1 := 31) (L1 := [some (.ref 15), some (.int v1), some (.int v2), some (.int v3)]) (st1 := [.int v3, .int v1, .ref 17]) (h1 := (zx_SC, m5)) rfl ?_
      exact zx_ev_sub (L := [some (.ref 15), some (.int v1), none, none]) (⟨rfl, ⟨rfl, ⟨trivial, ⟨trivial, trivial⟩⟩⟩⟩) (e_Shelves_lay_n31 v1 v1 v3 m5 hf)
    · rw [if_neg c6] at hf
      refine zx_ev_ifn zk_65 (P := ¬ v2 = (-1)) (t := 30) (f := 26) rfl rfl c6 ?_
      refine zx_ev_blk zk_65 2 (pc1 := 31) (L1 := [some (.ref 15), some (.int v1), some (.int v2), some (.int v3)]) (st1 := [.int 0, .int v1, .ref 17]) (h1 := (zx_SC, m5)) rfl ?_
      exact zx_ev_sub (L := [some (.ref 15), some (.int v1), none, none]) (⟨rfl, ⟨rfl, ⟨trivial, ⟨trivial, trivial⟩⟩⟩⟩) (e_Shelves_lay_n31 v1 v1 0 m5 hf)
  · rw [if_neg c3] at hf
    refine zx_ev_ifn zk_65 (P := ¬ r2 = 0) (t := 9) (f := 8) rfl rfl c3 ?_
    obtain rfl := Option.some.inj hf
    exact zx_ev_ret zk_65 rfl rfl
def f_Text_next_9 (m : zx_M) : Option Int32 := if ¬ (m.1 9 4) = 0 then some (-1) else if (m.1 9 3) < 0 then some (-1) else if (m.1 9 2) ≤ (m.1 9 3) then some (-1) else if (m.1 9 3) < 120 then (zx_ix 120 (m.1 9 3)).bind fun j5 => some (m.1 10 j5) else some (-1)
theorem s_Text_next_9 (m : zx_M) {d : Nat} {y : Int32} (hf : f_Text_next_9 m = some y) : zx_Ev (d) 79 0 [some (.ref 9)] [] (zx_SC, m) (some (.int y), (zx_SC, m)) := by
  unfold f_Text_next_9 at hf
  refine zx_ev_blk zk_79 2 (pc1 := 4) (L1 := [some (.ref 9)]) (st1 := [.int (m.1 9 4)]) (h1 := (zx_SC, m)) rfl ?_
  by_cases c1 : ¬ (m.1 9 4) = 0
  · rw [if_pos c1] at hf
    refine zx_ev_ift zk_79 (P := ¬ (m.1 9 4) = 0) (t := 34) (f := 7) rfl rfl c1 ?_
    refine zx_ev_blk zk_79 2 (pc1 := 47) (L1 := [some (.ref 9)]) (st1 := [.int (-1)]) (h1 := (zx_SC, m)) rfl ?_
    obtain rfl := Option.some.inj hf
    exact zx_ev_ret zk_79 rfl rfl
  · rw [if_neg c1] at hf
    refine zx_ev_ifn zk_79 (P := ¬ (m.1 9 4) = 0) (t := 34) (f := 7) rfl rfl c1 ?_
    refine zx_ev_blk zk_79 2 (pc1 := 11) (L1 := [some (.ref 9)]) (st1 := [.int (m.1 9 3)]) (h1 := (zx_SC, m)) rfl ?_
    by_cases c2 : (m.1 9 3) < 0
    · rw [if_pos c2] at hf
      refine zx_ev_ift zk_79 (P := (m.1 9 3) < 0) (t := 34) (f := 14) rfl rfl c2 ?_
      refine zx_ev_blk zk_79 2 (pc1 := 47) (L1 := [some (.ref 9)]) (st1 := [.int (-1)]) (h1 := (zx_SC, m)) rfl ?_
      obtain rfl := Option.some.inj hf
      exact zx_ev_ret zk_79 rfl rfl
    · rw [if_neg c2] at hf
      refine zx_ev_ifn zk_79 (P := (m.1 9 3) < 0) (t := 34) (f := 14) rfl rfl c2 ?_
      refine zx_ev_blk zk_79 4 (pc1 := 22) (L1 := [some (.ref 9)]) (st1 := [.int (m.1 9 2), .int (m.1 9 3)]) (h1 := (zx_SC, m)) rfl ?_
      by_cases c3 : (m.1 9 2) ≤ (m.1 9 3)
      · rw [if_pos c3] at hf
        refine zx_ev_ift zk_79 (P := (m.1 9 2) ≤ (m.1 9 3)) (t := 34) (f := 25) rfl rfl c3 ?_
        refine zx_ev_blk zk_79 2 (pc1 := 47) (L1 := [some (.ref 9)]) (st1 := [.int (-1)]) (h1 := (zx_SC, m)) rfl ?_
        obtain rfl := Option.some.inj hf
        exact zx_ev_ret zk_79 rfl rfl
      · rw [if_neg c3] at hf
        refine zx_ev_ifn zk_79 (P := (m.1 9 2) ≤ (m.1 9 3)) (t := 34) (f := 25) rfl rfl c3 ?_
        refine zx_ev_blk zk_79 3 (pc1 := 31) (L1 := [some (.ref 9)]) (st1 := [.int 120, .int (m.1 9 3)]) (h1 := (zx_SC, m)) rfl ?_
        by_cases c4 : (m.1 9 3) < 120
        · rw [if_pos c4] at hf
          refine zx_ev_ift zk_79 (P := (m.1 9 3) < 120) (t := 38) (f := 34) rfl rfl c4 ?_
          refine zx_ev_blk zk_79 4 (pc1 := 46) (L1 := [some (.ref 9)]) (st1 := [.int (m.1 9 3), .ref 10]) (h1 := (zx_SC, m)) rfl ?_
          obtain ⟨j5, hj5, hf⟩ := zx_bind_eq hf
          refine zx_ev_step zk_79 rfl (st_iald rfl rfl hj5) ?_
          obtain rfl := Option.some.inj hf
          exact zx_ev_ret zk_79 rfl rfl
        · rw [if_neg c4] at hf
          refine zx_ev_ifn zk_79 (P := (m.1 9 3) < 120) (t := 38) (f := 34) rfl rfl c4 ?_
          refine zx_ev_blk zk_79 2 (pc1 := 47) (L1 := [some (.ref 9)]) (st1 := [.int (-1)]) (h1 := (zx_SC, m)) rfl ?_
          obtain rfl := Option.some.inj hf
          exact zx_ev_ret zk_79 rfl rfl
abbrev GT_bracketed_joined_single_9 : Type := (Int32 → Int32 → zx_M → Option (Int32 × zx_M)) × (Int32 → zx_M → Option (Int32 × zx_M)) × (Int32 → zx_M → Option (Int32 × zx_M))
def GH_bracketed_joined_single_9 (d : Nat) (g : GT_bracketed_joined_single_9) : Prop := (∀ (v1 : Int32) (v2 : Int32) (m : zx_M) (y : (Int32 × zx_M)), g.1 v1 v2 m = some y → zx_Ev d 80 0 [some (.ref 9), some (.int v1), some (.int v2), none, none, none] [] (zx_SC, m) (some (.int y.1), (zx_SC, y.2))) ∧ (∀ (v1 : Int32) (m : zx_M) (y : (Int32 × zx_M)), g.2.1 v1 m = some y → zx_Ev d 83 0 [some (.ref 9), some (.int v1), none, none, none, none] [] (zx_SC, m) (some (.int y.1), (zx_SC, y.2))) ∧ (∀ (v1 : Int32) (m : zx_M) (y : (Int32 × zx_M)), g.2.2 v1 m = some y → zx_Ev d 84 0 [some (.ref 9), some (.int v1), none] [] (zx_SC, m) (some (.int y.1), (zx_SC, y.2)))
def kx_Text_joined_9_l23 (v1 : Int32) (v2 : Int32) (d : Nat) (out : Option Value × zx_H) : (Int32 × zx_M) → Prop
  | y => out = (some (.int y.1), (zx_SC, y.2))
def kl_Text_joined_9_l23 (v1 : Int32) (v2 : Int32) (d : Nat) (out : Option Value × zx_H) : (Int32 × Int32 × zx_M) ⊕ ((Int32 × zx_M)) → Prop
  | .inl (v3, v4, m) => zx_Ev (d + 9) 80 23 [some (.ref 9), some (.int v1), some (.int v2), some (.int v3), some (.int v4), none] [] (zx_SC, m) out
  | .inr x => kx_Text_joined_9_l23 v1 v2 d out x
def b_Text_joined_9_l23 (g : GT_bracketed_joined_single_9) (v1 : Int32) (v2 : Int32) (v3 : Int32) (v4 : Int32) (m : zx_M) : Option ((Int32 × Int32 × zx_M) ⊕ ((Int32 × zx_M))) := if 120 ≤ v4 then some (.inr (v3, m)) else (f_Text_next_9 m).bind fun r7 => (f_Text_rankOf r7 m).bind fun r9 => if ¬ r9 = v1 then some (.inr (v3, m)) else (f_Text_next_9 m).bind fun r12 => zx_let (zx_u1 m 9 3 ((m.1 9 3) + 1)) fun m13 => (g.1 (v1 + 1) v2 m13).bind fun (r15, m16) => (f_Text_reckoned r12 v3 r15 m16).bind fun r18 => if ¬ v1 = 2 then zx_let (v4 + 1) fun a20 => some (.inl (r18, a20, m16)) else some (.inr (r18, m16))
theorem eb_Text_joined_9_l23 (g : GT_bracketed_joined_single_9) (v1 : Int32) (v2 : Int32) (v3 : Int32) (v4 : Int32) (m : zx_M) {d : Nat} (hg : GH_bracketed_joined_single_9 (d + 8) g) {out : Option Value × zx_H} {y : (Int32 × Int32 × zx_M) ⊕ ((Int32 × zx_M))} (hf : b_Text_joined_9_l23 g v1 v2 v3 v4 m = some y) (hK : kl_Text_joined_9_l23 v1 v2 d out y) : zx_Ev (d + 9) 80 23 [some (.ref 9), some (.int v1), some (.int v2), some (.int v3), some (.int v4), none] [] (zx_SC, m) out := by
  unfold b_Text_joined_9_l23 at hf
  refine zx_ev_blk zk_80 2 (pc1 := 27) (L1 := [some (.ref 9), some (.int v1), some (.int v2), some (.int v3), some (.int v4), none]) (st1 := [.int 120, .int v4]) (h1 := (zx_SC, m)) rfl ?_
  by_cases c5 : 120 ≤ v4
  · rw [if_pos c5] at hf
    refine zx_ev_ift zk_80 (P := 120 ≤ v4) (t := 86) (f := 30) rfl rfl c5 ?_
    refine zx_ev_blk zk_80 1 (pc1 := 87) (L1 := [some (.ref 9), some (.int v1), some (.int v2), some (.int v3), some (.int v4), none]) (st1 := [.int v3]) (h1 := (zx_SC, m)) rfl ?_
    obtain rfl := Option.some.inj hf
    rw [show out = _ from hK]
    exact zx_ev_ret zk_80 rfl rfl
  · rw [if_neg c5] at hf
    refine zx_ev_ifn zk_80 (P := 120 ≤ v4) (t := 86) (f := 30) rfl rfl c5 ?_
    refine zx_ev_blk zk_80 1 (pc1 := 31) (L1 := [some (.ref 9), some (.int v1), some (.int v2), some (.int v3), some (.int v4), none]) (st1 := [.ref 9]) (h1 := (zx_SC, m)) rfl ?_
    obtain ⟨r7, hv6, hf⟩ := zx_bind_eq hf
    refine zx_ev_call (d := d + 8) zk_80 (v := some (.int r7)) (h1 := (zx_SC, m)) rfl rfl zt_79 rfl zx_SCn rfl rfl (s_Text_next_9 _ (d := d + 8) hv6) ?_
    obtain ⟨r9, hv8, hf⟩ := zx_bind_eq hf
    refine zx_ev_call (d := d + 8) zk_80 (v := some (.int r9)) (h1 := (zx_SC, m)) rfl rfl zt_81 rfl zx_SCn rfl rfl (s_Text_rankOf _ _ (d := d + 8) hv8) ?_
    refine zx_ev_blk zk_80 1 (pc1 := 38) (L1 := [some (.ref 9), some (.int v1), some (.int v2), some (.int v3), some (.int v4), none]) (st1 := [.int v1, .int r9]) (h1 := (zx_SC, m)) rfl ?_
    by_cases c10 : ¬ r9 = v1
    · rw [if_pos c10] at hf
      refine zx_ev_ift zk_80 (P := ¬ r9 = v1) (t := 86) (f := 41) rfl rfl c10 ?_
      refine zx_ev_blk zk_80 1 (pc1 := 87) (L1 := [some (.ref 9), some (.int v1), some (.int v2), some (.int v3), some (.int v4), none]) (st1 := [.int v3]) (h1 := (zx_SC, m)) rfl ?_
      obtain rfl := Option.some.inj hf
      rw [show out = _ from hK]
      exact zx_ev_ret zk_80 rfl rfl
    · rw [if_neg c10] at hf
      refine zx_ev_ifn zk_80 (P := ¬ r9 = v1) (t := 86) (f := 41) rfl rfl c10 ?_
      refine zx_ev_blk zk_80 1 (pc1 := 42) (L1 := [some (.ref 9), some (.int v1), some (.int v2), some (.int v3), some (.int v4), none]) (st1 := [.ref 9]) (h1 := (zx_SC, m)) rfl ?_
      obtain ⟨r12, hv11, hf⟩ := zx_bind_eq hf
      refine zx_ev_call (d := d + 8) zk_80 (v := some (.int r12)) (h1 := (zx_SC, m)) rfl rfl zt_79 rfl zx_SCn rfl rfl (s_Text_next_9 _ (d := d + 8) hv11) ?_
      obtain ⟨m13, hm13, hf⟩ := zx_let_eq hf
      refine zx_ev_blk zk_80 14 (pc1 := 65) (L1 := [some (.ref 9), some (.int v1), some (.int v2), some (.int v3), some (.int v4), some (.int r12)]) (st1 := [.int v2, .int (v1 + 1), .ref 9, .int v3, .int r12]) (h1 := (zx_SC, m13)) (by subst hm13; rfl) ?_
      obtain ⟨⟨r15, m16⟩, hv14, hf⟩ := zx_bind_eq hf
      dsimp only at hf
      refine zx_ev_call (d := d + 8) zk_80 (v := some (.int r15)) (h1 := (zx_SC, m16)) rfl rfl zt_80 rfl zx_SCn rfl rfl (hg.1 _ _ _ _ hv14) ?_
      obtain ⟨r18, hv17, hf⟩ := zx_bind_eq hf
      refine zx_ev_call (d := d + 8) zk_80 (v := some (.int r18)) (h1 := (zx_SC, m16)) rfl rfl zt_82 rfl zx_SCn rfl rfl (s_Text_reckoned _ _ _ _ (d := d + 8) hv17) ?_
      refine zx_ev_blk zk_80 3 (pc1 := 74) (L1 := [some (.ref 9), some (.int v1), some (.int v2), some (.int r18), some (.int v4), some (.int r12)]) (st1 := [.int 2, .int v1]) (h1 := (zx_SC, m16)) rfl ?_
      by_cases c19 : ¬ v1 = 2
      · rw [if_pos c19] at hf
        refine zx_ev_ift zk_80 (P := ¬ v1 = 2) (t := 80) (f := 77) rfl rfl c19 ?_
        obtain ⟨a20, ha20, hf⟩ := zx_let_eq hf
        refine zx_ev_blk zk_80 2 (pc1 := 23) (L1 := [some (.ref 9), some (.int v1), some (.int v2), some (.int r18), some (.int a20), some (.int r12)]) (st1 := []) (h1 := (zx_SC, m16)) (by subst ha20; rfl) ?_
        obtain rfl := Option.some.inj hf
        exact zx_ev_sub (L := [some (.ref 9), some (.int v1), some (.int v2), some (.int r18), some (.int a20), none]) (⟨rfl, ⟨rfl, ⟨rfl, ⟨rfl, ⟨rfl, ⟨trivial, trivial⟩⟩⟩⟩⟩⟩) hK
      · rw [if_neg c19] at hf
        refine zx_ev_ifn zk_80 (P := ¬ v1 = 2) (t := 80) (f := 77) rfl rfl c19 ?_
        refine zx_ev_blk zk_80 2 (pc1 := 87) (L1 := [some (.ref 9), some (.int v1), some (.int v2), some (.int r18), some (.int v4), some (.int r12)]) (st1 := [.int r18]) (h1 := (zx_SC, m16)) rfl ?_
        obtain rfl := Option.some.inj hf
        rw [show out = _ from hK]
        exact zx_ev_ret zk_80 rfl rfl
def l_Text_joined_9_l23 (g : GT_bracketed_joined_single_9) (v1 : Int32) (v2 : Int32) (s0 : Int32 × Int32 × zx_M) : Option ((Int32 × zx_M)) := zx_lp zx_N (fun s : Int32 × Int32 × zx_M => b_Text_joined_9_l23 g v1 v2 s.1 s.2.1 s.2.2) s0
theorem el_Text_joined_9_l23 (g : GT_bracketed_joined_single_9) (v1 : Int32) (v2 : Int32) {d : Nat} (hg : GH_bracketed_joined_single_9 (d + 8) g) {out : Option Value × zx_H} : ∀ (n : Nat) (s : Int32 × Int32 × zx_M) (x : (Int32 × zx_M)), zx_lp n (fun s : Int32 × Int32 × zx_M => b_Text_joined_9_l23 g v1 v2 s.1 s.2.1 s.2.2) s = some x → kx_Text_joined_9_l23 v1 v2 d out x → zx_Ev (d + 9) 80 23 [some (.ref 9), some (.int v1), some (.int v2), some (.int s.1), some (.int s.2.1), none] [] (zx_SC, s.2.2) out := by
  intro n
  induction n with
  | zero => intro s x hl _; simp [zx_lp] at hl
  | succ n ih =>
    intro s x hl hx
    unfold zx_lp at hl
    cases hb : b_Text_joined_9_l23 g v1 v2 s.1 s.2.1 s.2.2 with
    | none => simp only [hb] at hl; cases hl
    | some z =>
      simp only [hb] at hl
      cases z with
      | inl s1 => exact eb_Text_joined_9_l23 g v1 v2 s.1 s.2.1 s.2.2 hg hb (ih s1 x hl hx)
      | inr t =>
        simp only [Option.some.injEq] at hl
        subst hl
        exact eb_Text_joined_9_l23 g v1 v2 s.1 s.2.1 s.2.2 hg hb hx
def F_Text_joined_9 (g : GT_bracketed_joined_single_9) (v1 : Int32) (v2 : Int32) (m : zx_M) : Option (Int32 × zx_M) := if v1 < 5 then (g.1 (v1 + 1) v2 m).bind fun (r3, m4) => (l_Text_joined_9_l23 g v1 v2 (r3, 0, m4)).bind fun x21 => zx_let x21 fun y22 => some y22 else (g.2.1 v2 m).bind fun (r24, m25) => some (r24, m25)
theorem s_Text_joined_9 (g : GT_bracketed_joined_single_9) (v1 : Int32) (v2 : Int32) (m : zx_M) {d : Nat} (hg : GH_bracketed_joined_single_9 (d + 8) g) {y : (Int32 × zx_M)} (hf : F_Text_joined_9 g v1 v2 m = some y) : zx_Ev (d + 9) 80 0 [some (.ref 9), some (.int v1), some (.int v2), none, none, none] [] (zx_SC, m) (some (.int y.1), (zx_SC, y.2)) := by
  unfold F_Text_joined_9 at hf
  refine zx_ev_blk zk_80 2 (pc1 := 2) (L1 := [some (.ref 9), some (.int v1), some (.int v2), none, none, none]) (st1 := [.int 5, .int v1]) (h1 := (zx_SC, m)) rfl ?_
  by_cases c1 : v1 < 5
  · rw [if_pos c1] at hf
    refine zx_ev_ift zk_80 (P := v1 < 5) (t := 11) (f := 5) rfl rfl c1 ?_
    refine zx_ev_blk zk_80 5 (pc1 := 16) (L1 := [some (.ref 9), some (.int v1), some (.int v2), none, none, none]) (st1 := [.int v2, .int (v1 + 1), .ref 9]) (h1 := (zx_SC, m)) rfl ?_
    obtain ⟨⟨r3, m4⟩, hv2, hf⟩ := zx_bind_eq hf
    dsimp only at hf
    refine zx_ev_call (d := d + 8) zk_80 (v := some (.int r3)) (h1 := (zx_SC, m4)) rfl rfl zt_80 rfl zx_SCn rfl rfl (hg.1 _ _ _ _ hv2) ?_
    refine zx_ev_blk zk_80 3 (pc1 := 23) (L1 := [some (.ref 9), some (.int v1), some (.int v2), some (.int r3), some (.int 0), none]) (st1 := []) (h1 := (zx_SC, m4)) rfl ?_
    obtain ⟨x21, hx21, hf⟩ := zx_bind_eq hf
    refine zx_ev_sub (L := [some (.ref 9), some (.int v1), some (.int v2), some (.int r3), some (.int 0), none]) (⟨rfl, ⟨rfl, ⟨rfl, ⟨rfl, ⟨rfl, trivial⟩⟩⟩⟩⟩) (el_Text_joined_9_l23 g v1 v2 hg zx_N (r3, 0, m4) x21 hx21 ?_)
    obtain ⟨y22, hy22, hf⟩ := zx_let_eq hf
    subst hy22
    obtain rfl := Option.some.inj hf
    rfl
  · rw [if_neg c1] at hf
    refine zx_ev_ifn zk_80 (P := v1 < 5) (t := 11) (f := 5) rfl rfl c1 ?_
    refine zx_ev_blk zk_80 2 (pc1 := 7) (L1 := [some (.ref 9), some (.int v1), some (.int v2), none, none, none]) (st1 := [.int v2, .ref 9]) (h1 := (zx_SC, m)) rfl ?_
    obtain ⟨⟨r24, m25⟩, hv23, hf⟩ := zx_bind_eq hf
    dsimp only at hf
    refine zx_ev_call (d := d + 8) zk_80 (v := some (.int r24)) (h1 := (zx_SC, m25)) rfl rfl zt_83 rfl zx_SCn rfl rfl (hg.2.1 _ _ _ hv23) ?_
    obtain rfl := Option.some.inj hf
    exact zx_ev_ret zk_80 rfl rfl
def kx_Text_number_9_l30 (v2 : Int32) (d : Nat) (out : Option Value × zx_H) : (Int32 × zx_M) → Prop
  | y => out = (some (.int y.1), (zx_SC, y.2))
def kl_Text_number_9_l30 (v2 : Int32) (d : Nat) (out : Option Value × zx_H) : (Int32 × Int32 × zx_M) ⊕ ((Int32 × zx_M)) → Prop
  | .inl (v1, v3, m) => zx_Ev (d + 1) 85 30 [some (.ref 9), some (.int v1), some (.int v2), some (.int v3)] [] (zx_SC, m) out
  | .inr x => kx_Text_number_9_l30 v2 d out x
def b_Text_number_9_l30 (v1 : Int32) (v2 : Int32) (v3 : Int32) (m : zx_M) : Option ((Int32 × Int32 × zx_M) ⊕ ((Int32 × zx_M))) := if v2 ≤ v3 then some (.inr (v1, m)) else (zx_ix 120 v3).bind fun j4 => if (m.1 10 j4) < 48 then some (.inr (v1, m)) else (zx_ix 120 v3).bind fun j6 => if 57 < (m.1 10 j6) then some (.inr (v1, m)) else (zx_ix 120 v3).bind fun j8 => zx_let (((v1 * 10) + (m.1 10 j8)) - 48) fun a9 => zx_let (zx_u1 m 9 3 (v3 + 1)) fun m10 => zx_let (v3 + 1) fun a11 => some (.inl (a9, a11, m10))
theorem eb_Text_number_9_l30 (v1 : Int32) (v2 : Int32) (v3 : Int32) (m : zx_M) {d : Nat} {out : Option Value × zx_H} {y : (Int32 × Int32 × zx_M) ⊕ ((Int32 × zx_M))} (hf : b_Text_number_9_l30 v1 v2 v3 m = some y) (hK : kl_Text_number_9_l30 v2 d out y) : zx_Ev (d + 1) 85 30 [some (.ref 9), some (.int v1), some (.int v2), some (.int v3)] [] (zx_SC, m) out := by
  unfold b_Text_number_9_l30 at hf
  refine zx_ev_blk zk_85 2 (pc1 := 32) (L1 := [some (.ref 9), some (.int v1), some (.int v2), some (.int v3)]) (st1 := [.int v2, .int v3]) (h1 := (zx_SC, m)) rfl ?_
  by_cases c3 : v2 ≤ v3
  · rw [if_pos c3] at hf
    refine zx_ev_ift zk_85 (P := v2 ≤ v3) (t := 85) (f := 35) rfl rfl c3 ?_
    refine zx_ev_blk zk_85 1 (pc1 := 86) (L1 := [some (.ref 9), some (.int v1), some (.int v2), some (.int v3)]) (st1 := [.int v1]) (h1 := (zx_SC, m)) rfl ?_
    obtain rfl := Option.some.inj hf
    rw [show out = _ from hK]
    exact zx_ev_ret zk_85 rfl rfl
  · rw [if_neg c3] at hf
    refine zx_ev_ifn zk_85 (P := v2 ≤ v3) (t := 85) (f := 35) rfl rfl c3 ?_
    refine zx_ev_blk zk_85 3 (pc1 := 40) (L1 := [some (.ref 9), some (.int v1), some (.int v2), some (.int v3)]) (st1 := [.int v3, .ref 10]) (h1 := (zx_SC, m)) rfl ?_
    obtain ⟨j4, hj4, hf⟩ := zx_bind_eq hf
    refine zx_ev_step zk_85 rfl (st_iald rfl rfl hj4) ?_
    refine zx_ev_blk zk_85 1 (pc1 := 43) (L1 := [some (.ref 9), some (.int v1), some (.int v2), some (.int v3)]) (st1 := [.int 48, .int (m.1 10 j4)]) (h1 := (zx_SC, m)) rfl ?_
    by_cases c5 : (m.1 10 j4) < 48
    · rw [if_pos c5] at hf
      refine zx_ev_ift zk_85 (P := (m.1 10 j4) < 48) (t := 85) (f := 46) rfl rfl c5 ?_
      refine zx_ev_blk zk_85 1 (pc1 := 86) (L1 := [some (.ref 9), some (.int v1), some (.int v2), some (.int v3)]) (st1 := [.int v1]) (h1 := (zx_SC, m)) rfl ?_
      obtain rfl := Option.some.inj hf
      rw [show out = _ from hK]
      exact zx_ev_ret zk_85 rfl rfl
    · rw [if_neg c5] at hf
      refine zx_ev_ifn zk_85 (P := (m.1 10 j4) < 48) (t := 85) (f := 46) rfl rfl c5 ?_
      refine zx_ev_blk zk_85 3 (pc1 := 51) (L1 := [some (.ref 9), some (.int v1), some (.int v2), some (.int v3)]) (st1 := [.int v3, .ref 10]) (h1 := (zx_SC, m)) rfl ?_
      obtain ⟨j6, hj6, hf⟩ := zx_bind_eq hf
      refine zx_ev_step zk_85 rfl (st_iald rfl rfl hj6) ?_
      refine zx_ev_blk zk_85 1 (pc1 := 54) (L1 := [some (.ref 9), some (.int v1), some (.int v2), some (.int v3)]) (st1 := [.int 57, .int (m.1 10 j6)]) (h1 := (zx_SC, m)) rfl ?_
      by_cases c7 : 57 < (m.1 10 j6)
      · rw [if_pos c7] at hf
        refine zx_ev_ift zk_85 (P := 57 < (m.1 10 j6)) (t := 85) (f := 57) rfl rfl c7 ?_
        refine zx_ev_blk zk_85 1 (pc1 := 86) (L1 := [some (.ref 9), some (.int v1), some (.int v2), some (.int v3)]) (st1 := [.int v1]) (h1 := (zx_SC, m)) rfl ?_
        obtain rfl := Option.some.inj hf
        rw [show out = _ from hK]
        exact zx_ev_ret zk_85 rfl rfl
      · rw [if_neg c7] at hf
        refine zx_ev_ifn zk_85 (P := 57 < (m.1 10 j6)) (t := 85) (f := 57) rfl rfl c7 ?_
        refine zx_ev_blk zk_85 6 (pc1 := 66) (L1 := [some (.ref 9), some (.int v1), some (.int v2), some (.int v3)]) (st1 := [.int v3, .ref 10, .int (v1 * 10)]) (h1 := (zx_SC, m)) rfl ?_
        obtain ⟨j8, hj8, hf⟩ := zx_bind_eq hf
        refine zx_ev_step zk_85 rfl (st_iald rfl rfl hj8) ?_
        obtain ⟨a9, ha9, hf⟩ := zx_let_eq hf
        obtain ⟨m10, hm10, hf⟩ := zx_let_eq hf
        obtain ⟨a11, ha11, hf⟩ := zx_let_eq hf
        refine zx_ev_blk zk_85 11 (pc1 := 30) (L1 := [some (.ref 9), some (.int a9), some (.int v2), some (.int a11)]) (st1 := []) (h1 := (zx_SC, m10)) (by subst ha9; subst hm10; subst ha11; rfl) ?_
        obtain rfl := Option.some.inj hf
        exact zx_ev_sub (L := [some (.ref 9), some (.int a9), some (.int v2), some (.int a11)]) (⟨rfl, ⟨rfl, ⟨rfl, ⟨rfl, trivial⟩⟩⟩⟩) hK
def l_Text_number_9_l30 (v2 : Int32) (s0 : Int32 × Int32 × zx_M) : Option ((Int32 × zx_M)) := zx_lp zx_N (fun s : Int32 × Int32 × zx_M => b_Text_number_9_l30 s.1 v2 s.2.1 s.2.2) s0
theorem el_Text_number_9_l30 (v2 : Int32) {d : Nat} {out : Option Value × zx_H} : ∀ (n : Nat) (s : Int32 × Int32 × zx_M) (x : (Int32 × zx_M)), zx_lp n (fun s : Int32 × Int32 × zx_M => b_Text_number_9_l30 s.1 v2 s.2.1 s.2.2) s = some x → kx_Text_number_9_l30 v2 d out x → zx_Ev (d + 1) 85 30 [some (.ref 9), some (.int s.1), some (.int v2), some (.int s.2.1)] [] (zx_SC, s.2.2) out := by
  intro n
  induction n with
  | zero => intro s x hl _; simp [zx_lp] at hl
  | succ n ih =>
    intro s x hl hx
    unfold zx_lp at hl
    cases hb : b_Text_number_9_l30 s.1 v2 s.2.1 s.2.2 with
    | none => simp only [hb] at hl; cases hl
    | some z =>
      simp only [hb] at hl
      cases z with
      | inl s1 => exact eb_Text_number_9_l30 s.1 v2 s.2.1 s.2.2 hb (ih s1 x hl hx)
      | inr t =>
        simp only [Option.some.injEq] at hl
        subst hl
        exact eb_Text_number_9_l30 s.1 v2 s.2.1 s.2.2 hb hx
def f_Text_number_9 (m : zx_M) : Option (Int32 × zx_M) := zx_let (zx_min (zx_min (m.1 9 2) 120) ((m.1 9 3) + 4)) fun a1 => zx_let (zx_max 0 (m.1 9 3)) fun a2 => (l_Text_number_9_l30 a1 (0, a2, m)).bind fun x12 => zx_let x12 fun y13 => some y13
theorem s_Text_number_9 (m : zx_M) {d : Nat} {y : (Int32 × zx_M)} (hf : f_Text_number_9 m = some y) : zx_Ev (d + 1) 85 0 [some (.ref 9), none, none, none] [] (zx_SC, m) (some (.int y.1), (zx_SC, y.2)) := by
  unfold f_Text_number_9 at hf
  obtain ⟨a1, ha1, hf⟩ := zx_let_eq hf
  obtain ⟨a2, ha2, hf⟩ := zx_let_eq hf
  refine zx_ev_blk zk_85 17 (pc1 := 30) (L1 := [some (.ref 9), some (.int 0), some (.int a1), some (.int a2)]) (st1 := []) (h1 := (zx_SC, m)) (by subst ha1; subst ha2; rfl) ?_
  obtain ⟨x12, hx12, hf⟩ := zx_bind_eq hf
  refine zx_ev_sub (L := [some (.ref 9), some (.int 0), some (.int a1), some (.int a2)]) (⟨rfl, ⟨rfl, ⟨rfl, ⟨rfl, trivial⟩⟩⟩⟩) (el_Text_number_9_l30 a1 zx_N (0, a2, m) x12 hx12 ?_)
  obtain ⟨y13, hy13, hf⟩ := zx_let_eq hf
  subst hy13
  obtain rfl := Option.some.inj hf
  rfl
def n_Text_single_9_n105 (g : GT_bracketed_joined_single_9) (m : zx_M) : Option (Int32 × zx_M) := zx_let (zx_u1 m 9 4 1) fun m8 => some (0, m8)
theorem e_Text_single_9_n105 (g : GT_bracketed_joined_single_9) (m : zx_M) {d : Nat} (hg : GH_bracketed_joined_single_9 (d + 8) g) {y : (Int32 × zx_M)} (hf : n_Text_single_9_n105 g m = some y) : zx_Ev (d + 9) 83 105 [some (.ref 9), none, none, none, none, none] [] (zx_SC, m) (some (.int y.1), (zx_SC, y.2)) := by
  unfold n_Text_single_9_n105 at hf
  obtain ⟨m8, hm8, hf⟩ := zx_let_eq hf
  refine zx_ev_blk zk_83 4 (pc1 := 111) (L1 := [some (.ref 9), none, none, none, none, none]) (st1 := [.int 0]) (h1 := (zx_SC, m8)) (by subst hm8; rfl) ?_
  obtain rfl := Option.some.inj hf
  exact zx_ev_ret zk_83 rfl rfl
def n_Text_single_9_n92 (g : GT_bracketed_joined_single_9) (v1 : Int32) (v2 : Int32) (t0 : Int32) (m : zx_M) : Option (Int32 × zx_M) := if t0 = 0 then n_Text_single_9_n105 g m else if v1 < 6 then zx_let (zx_u1 m 9 3 ((m.1 9 3) + 1)) fun m10 => if ¬ v2 = 40 then (g.2.1 (v1 + 1) m10).bind fun (r13, m14) => if ¬ v2 = 45 then if ¬ r13 = 0 then some (0, m14) else some (1, m14) else some (-r13, m14) else (g.2.2 (v1 + 1) m10).bind fun (r18, m19) => some (r18, m19) else n_Text_single_9_n105 g m
theorem e_Text_single_9_n92 (g : GT_bracketed_joined_single_9) (v1 : Int32) (v2 : Int32) (t0 : Int32) (m : zx_M) {d : Nat} (hg : GH_bracketed_joined_single_9 (d + 8) g) {y : (Int32 × zx_M)} (hf : n_Text_single_9_n92 g v1 v2 t0 m = some y) : zx_Ev (d + 9) 83 92 [some (.ref 9), some (.int v1), some (.int v2), none, none, none] [.int t0] (zx_SC, m) (some (.int y.1), (zx_SC, y.2)) := by
  unfold n_Text_single_9_n92 at hf
  refine zx_ev_blk zk_83 2 (pc1 := 96) (L1 := [some (.ref 9), some (.int v1), some (.int v2), none, some (.int t0), none]) (st1 := [.int t0]) (h1 := (zx_SC, m)) rfl ?_
  by_cases c7 : t0 = 0
  · rw [if_pos c7] at hf
    refine zx_ev_ift zk_83 (P := t0 = 0) (t := 105) (f := 99) rfl rfl c7 ?_
    exact zx_ev_sub (L := [some (.ref 9), none, none, none, none, none]) (⟨rfl, ⟨trivial, ⟨trivial, ⟨trivial, trivial⟩⟩⟩⟩) (e_Text_single_9_n105 g m hg hf)
  · rw [if_neg c7] at hf
    refine zx_ev_ifn zk_83 (P := t0 = 0) (t := 105) (f := 99) rfl rfl c7 ?_
    refine zx_ev_blk zk_83 2 (pc1 := 102) (L1 := [some (.ref 9), some (.int v1), some (.int v2), none, some (.int t0), none]) (st1 := [.int 6, .int v1]) (h1 := (zx_SC, m)) rfl ?_
    by_cases c9 : v1 < 6
    · rw [if_pos c9] at hf
      refine zx_ev_ift zk_83 (P := v1 < 6) (t := 112) (f := 105) rfl rfl c9 ?_
      obtain ⟨m10, hm10, hf⟩ := zx_let_eq hf
      refine zx_ev_blk zk_83 8 (pc1 := 125) (L1 := [some (.ref 9), some (.int v1), some (.int v2), none, some (.int t0), none]) (st1 := [.int 40, .int v2]) (h1 := (zx_SC, m10)) (by subst hm10; rfl) ?_
      by_cases c11 : ¬ v2 = 40
      · rw [if_pos c11] at hf
        refine zx_ev_ift zk_83 (P := ¬ v2 = 40) (t := 136) (f := 128) rfl rfl c11 ?_
        refine zx_ev_blk zk_83 4 (pc1 := 140) (L1 := [some (.ref 9), some (.int v1), some (.int v2), none, some (.int t0), none]) (st1 := [.int (v1 + 1), .ref 9]) (h1 := (zx_SC, m10)) rfl ?_
        obtain ⟨⟨r13, m14⟩, hv12, hf⟩ := zx_bind_eq hf
        dsimp only at hf
        refine zx_ev_call (d := d + 8) zk_83 (v := some (.int r13)) (h1 := (zx_SC, m14)) rfl rfl zt_83 rfl zx_SCn rfl rfl (hg.2.1 _ _ _ hv12) ?_
        refine zx_ev_blk zk_83 3 (pc1 := 148) (L1 := [some (.ref 9), some (.int v1), some (.int v2), none, some (.int t0), some (.int r13)]) (st1 := [.int 45, .int v2]) (h1 := (zx_SC, m14)) rfl ?_
        by_cases c15 : ¬ v2 = 45
        · rw [if_pos c15] at hf
          refine zx_ev_ift zk_83 (P := ¬ v2 = 45) (t := 155) (f := 151) rfl rfl c15 ?_
          refine zx_ev_blk zk_83 1 (pc1 := 157) (L1 := [some (.ref 9), some (.int v1), some (.int v2), none, some (.int t0), some (.int r13)]) (st1 := [.int r13]) (h1 := (zx_SC, m14)) rfl ?_
          by_cases c16 : ¬ r13 = 0
          · rw [if_pos c16] at hf
            refine zx_ev_ift zk_83 (P := ¬ r13 = 0) (t := 164) (f := 160) rfl rfl c16 ?_
            refine zx_ev_blk zk_83 1 (pc1 := 165) (L1 := [some (.ref 9), some (.int v1), some (.int v2), none, some (.int t0), some (.int r13)]) (st1 := [.int 0]) (h1 := (zx_SC, m14)) rfl ?_
            obtain rfl := Option.some.inj hf
            exact zx_ev_ret zk_83 rfl rfl
          · rw [if_neg c16] at hf
            refine zx_ev_ifn zk_83 (P := ¬ r13 = 0) (t := 164) (f := 160) rfl rfl c16 ?_
            refine zx_ev_blk zk_83 2 (pc1 := 165) (L1 := [some (.ref 9), some (.int v1), some (.int v2), none, some (.int t0), some (.int r13)]) (st1 := [.int 1]) (h1 := (zx_SC, m14)) rfl ?_
            obtain rfl := Option.some.inj hf
            exact zx_ev_ret zk_83 rfl rfl
        · rw [if_neg c15] at hf
          refine zx_ev_ifn zk_83 (P := ¬ v2 = 45) (t := 155) (f := 151) rfl rfl c15 ?_
          refine zx_ev_blk zk_83 2 (pc1 := 154) (L1 := [some (.ref 9), some (.int v1), some (.int v2), none, some (.int t0), some (.int r13)]) (st1 := [.int (-r13)]) (h1 := (zx_SC, m14)) rfl ?_
          obtain rfl := Option.some.inj hf
          exact zx_ev_ret zk_83 rfl rfl
      · rw [if_neg c11] at hf
        refine zx_ev_ifn zk_83 (P := ¬ v2 = 40) (t := 136) (f := 128) rfl rfl c11 ?_
        refine zx_ev_blk zk_83 4 (pc1 := 132) (L1 := [some (.ref 9), some (.int v1), some (.int v2), none, some (.int t0), none]) (st1 := [.int (v1 + 1), .ref 9]) (h1 := (zx_SC, m10)) rfl ?_
        obtain ⟨⟨r18, m19⟩, hv17, hf⟩ := zx_bind_eq hf
        dsimp only at hf
        refine zx_ev_call (d := d + 8) zk_83 (v := some (.int r18)) (h1 := (zx_SC, m19)) rfl rfl zt_84 rfl zx_SCn rfl rfl (hg.2.2 _ _ _ hv17) ?_
        obtain rfl := Option.some.inj hf
        exact zx_ev_ret zk_83 rfl rfl
    · rw [if_neg c9] at hf
      refine zx_ev_ifn zk_83 (P := v1 < 6) (t := 112) (f := 105) rfl rfl c9 ?_
      exact zx_ev_sub (L := [some (.ref 9), none, none, none, none, none]) (⟨rfl, ⟨trivial, ⟨trivial, ⟨trivial, trivial⟩⟩⟩⟩) (e_Text_single_9_n105 g m hg hf)
def n_Text_single_9_n87 (g : GT_bracketed_joined_single_9) (v1 : Int32) (v2 : Int32) (m : zx_M) : Option (Int32 × zx_M) := n_Text_single_9_n92 g v1 v2 1 m
theorem e_Text_single_9_n87 (g : GT_bracketed_joined_single_9) (v1 : Int32) (v2 : Int32) (m : zx_M) {d : Nat} (hg : GH_bracketed_joined_single_9 (d + 8) g) {y : (Int32 × zx_M)} (hf : n_Text_single_9_n87 g v1 v2 m = some y) : zx_Ev (d + 9) 83 87 [some (.ref 9), some (.int v1), some (.int v2), none, none, none] [] (zx_SC, m) (some (.int y.1), (zx_SC, y.2)) := by
  unfold n_Text_single_9_n87 at hf
  refine zx_ev_blk zk_83 2 (pc1 := 92) (L1 := [some (.ref 9), some (.int v1), some (.int v2), none, none, none]) (st1 := [.int 1]) (h1 := (zx_SC, m)) rfl ?_
  exact zx_ev_sub (L := [some (.ref 9), some (.int v1), some (.int v2), none, none, none]) (⟨rfl, ⟨rfl, ⟨rfl, trivial⟩⟩⟩) (e_Text_single_9_n92 g v1 v2 1 m hg hf)
def n_Text_single_9_n69 (g : GT_bracketed_joined_single_9) (v1 : Int32) (v2 : Int32) (m : zx_M) : Option (Int32 × zx_M) := if v2 = 40 then n_Text_single_9_n87 g v1 v2 m else if v2 = 33 then n_Text_single_9_n87 g v1 v2 m else if ¬ v2 = 45 then n_Text_single_9_n92 g v1 v2 0 m else n_Text_single_9_n87 g v1 v2 m
theorem e_Text_single_9_n69 (g : GT_bracketed_joined_single_9) (v1 : Int32) (v2 : Int32) (m : zx_M) {d : Nat} (hg : GH_bracketed_joined_single_9 (d + 8) g) {y : (Int32 × zx_M)} (hf : n_Text_single_9_n69 g v1 v2 m = some y) : zx_Ev (d + 9) 83 69 [some (.ref 9), some (.int v1), some (.int v2), none, none, none] [] (zx_SC, m) (some (.int y.1), (zx_SC, y.2)) := by
  unfold n_Text_single_9_n69 at hf
  refine zx_ev_blk zk_83 2 (pc1 := 72) (L1 := [some (.ref 9), some (.int v1), some (.int v2), none, none, none]) (st1 := [.int 40, .int v2]) (h1 := (zx_SC, m)) rfl ?_
  by_cases c6 : v2 = 40
  · rw [if_pos c6] at hf
    refine zx_ev_ift zk_83 (P := v2 = 40) (t := 87) (f := 75) rfl rfl c6 ?_
    exact zx_ev_sub (L := [some (.ref 9), some (.int v1), some (.int v2), none, none, none]) (⟨rfl, ⟨rfl, ⟨rfl, trivial⟩⟩⟩) (e_Text_single_9_n87 g v1 v2 m hg hf)
  · rw [if_neg c6] at hf
    refine zx_ev_ifn zk_83 (P := v2 = 40) (t := 87) (f := 75) rfl rfl c6 ?_
    refine zx_ev_blk zk_83 2 (pc1 := 78) (L1 := [some (.ref 9), some (.int v1), some (.int v2), none, none, none]) (st1 := [.int 33, .int v2]) (h1 := (zx_SC, m)) rfl ?_
    by_cases c20 : v2 = 33
    · rw [if_pos c20] at hf
      refine zx_ev_ift zk_83 (P := v2 = 33) (t := 87) (f := 81) rfl rfl c20 ?_
      exact zx_ev_sub (L := [some (.ref 9), some (.int v1), some (.int v2), none, none, none]) (⟨rfl, ⟨rfl, ⟨rfl, trivial⟩⟩⟩) (e_Text_single_9_n87 g v1 v2 m hg hf)
    · rw [if_neg c20] at hf
      refine zx_ev_ifn zk_83 (P := v2 = 33) (t := 87) (f := 81) rfl rfl c20 ?_
      refine zx_ev_blk zk_83 2 (pc1 := 84) (L1 := [some (.ref 9), some (.int v1), some (.int v2), none, none, none]) (st1 := [.int 45, .int v2]) (h1 := (zx_SC, m)) rfl ?_
      by_cases c21 : ¬ v2 = 45
      · rw [if_pos c21] at hf
        refine zx_ev_ift zk_83 (P := ¬ v2 = 45) (t := 91) (f := 87) rfl rfl c21 ?_
        refine zx_ev_blk zk_83 1 (pc1 := 92) (L1 := [some (.ref 9), some (.int v1), some (.int v2), none, none, none]) (st1 := [.int 0]) (h1 := (zx_SC, m)) rfl ?_
        exact zx_ev_sub (L := [some (.ref 9), some (.int v1), some (.int v2), none, none, none]) (⟨rfl, ⟨rfl, ⟨rfl, trivial⟩⟩⟩) (e_Text_single_9_n92 g v1 v2 0 m hg hf)
      · rw [if_neg c21] at hf
        refine zx_ev_ifn zk_83 (P := ¬ v2 = 45) (t := 91) (f := 87) rfl rfl c21 ?_
        exact zx_ev_sub (L := [some (.ref 9), some (.int v1), some (.int v2), none, none, none]) (⟨rfl, ⟨rfl, ⟨rfl, trivial⟩⟩⟩) (e_Text_single_9_n87 g v1 v2 m hg hf)
def n_Text_single_9_n38 (g : GT_bracketed_joined_single_9) (v1 : Int32) (v2 : Int32) (t0 : Int32) (m : zx_M) : Option (Int32 × zx_M) := if t0 < 0 then n_Text_single_9_n69 g v1 v2 m else if 6 ≤ t0 then n_Text_single_9_n69 g v1 v2 m else zx_let (zx_u1 m 9 3 ((m.1 9 3) + 1)) fun m23 => (zx_ix 6 t0).bind fun j24 => some (m23.1 11 j24, m23)
theorem e_Text_single_9_n38 (g : GT_bracketed_joined_single_9) (v1 : Int32) (v2 : Int32) (t0 : Int32) (m : zx_M) {d : Nat} (hg : GH_bracketed_joined_single_9 (d + 8) g) {y : (Int32 × zx_M)} (hf : n_Text_single_9_n38 g v1 v2 t0 m = some y) : zx_Ev (d + 9) 83 38 [some (.ref 9), some (.int v1), some (.int v2), none, none, none] [.int t0] (zx_SC, m) (some (.int y.1), (zx_SC, y.2)) := by
  unfold n_Text_single_9_n38 at hf
  refine zx_ev_blk zk_83 2 (pc1 := 40) (L1 := [some (.ref 9), some (.int v1), some (.int v2), some (.int t0), none, none]) (st1 := [.int t0]) (h1 := (zx_SC, m)) rfl ?_
  by_cases c5 : t0 < 0
  · rw [if_pos c5] at hf
    refine zx_ev_ift zk_83 (P := t0 < 0) (t := 69) (f := 43) rfl rfl c5 ?_
    exact zx_ev_sub (L := [some (.ref 9), some (.int v1), some (.int v2), none, none, none]) (⟨rfl, ⟨rfl, ⟨rfl, ⟨trivial, trivial⟩⟩⟩⟩) (e_Text_single_9_n69 g v1 v2 m hg hf)
  · rw [if_neg c5] at hf
    refine zx_ev_ifn zk_83 (P := t0 < 0) (t := 69) (f := 43) rfl rfl c5 ?_
    refine zx_ev_blk zk_83 4 (pc1 := 49) (L1 := [some (.ref 9), some (.int v1), some (.int v2), some (.int t0), none, none]) (st1 := [.int 6, .int t0]) (h1 := (zx_SC, m)) rfl ?_
    by_cases c22 : 6 ≤ t0
    · rw [if_pos c22] at hf
      refine zx_ev_ift zk_83 (P := 6 ≤ t0) (t := 69) (f := 52) rfl rfl c22 ?_
      exact zx_ev_sub (L := [some (.ref 9), some (.int v1), some (.int v2), none, none, none]) (⟨rfl, ⟨rfl, ⟨rfl, ⟨trivial, trivial⟩⟩⟩⟩) (e_Text_single_9_n69 g v1 v2 m hg hf)
    · rw [if_neg c22] at hf
      refine zx_ev_ifn zk_83 (P := 6 ≤ t0) (t := 69) (f := 52) rfl rfl c22 ?_
      obtain ⟨m23, hm23, hf⟩ := zx_let_eq hf
      refine zx_ev_blk zk_83 9 (pc1 := 67) (L1 := [some (.ref 9), some (.int v1), some (.int v2), some (.int t0), none, none]) (st1 := [.int t0, .ref 11]) (h1 := (zx_SC, m23)) (by subst hm23; rfl) ?_
      obtain ⟨j24, hj24, hf⟩ := zx_bind_eq hf
      refine zx_ev_step zk_83 rfl (st_iald rfl rfl hj24) ?_
      obtain rfl := Option.some.inj hf
      exact zx_ev_ret zk_83 rfl rfl
def n_Text_single_9_n22 (g : GT_bracketed_joined_single_9) (v1 : Int32) (v2 : Int32) (m : zx_M) : Option (Int32 × zx_M) := if ¬ v2 = (-1) then n_Text_single_9_n38 g v1 v2 (zx_io (zx_i2c v2)) m else n_Text_single_9_n38 g v1 v2 (-1) m
theorem e_Text_single_9_n22 (g : GT_bracketed_joined_single_9) (v1 : Int32) (v2 : Int32) (m : zx_M) {d : Nat} (hg : GH_bracketed_joined_single_9 (d + 8) g) {y : (Int32 × zx_M)} (hf : n_Text_single_9_n22 g v1 v2 m = some y) : zx_Ev (d + 9) 83 22 [some (.ref 9), some (.int v1), some (.int v2), none, none, none] [] (zx_SC, m) (some (.int y.1), (zx_SC, y.2)) := by
  unfold n_Text_single_9_n22 at hf
  refine zx_ev_blk zk_83 2 (pc1 := 24) (L1 := [some (.ref 9), some (.int v1), some (.int v2), none, none, none]) (st1 := [.int (-1), .int v2]) (h1 := (zx_SC, m)) rfl ?_
  by_cases c4 : ¬ v2 = (-1)
  · rw [if_pos c4] at hf
    refine zx_ev_ift zk_83 (P := ¬ v2 = (-1)) (t := 31) (f := 27) rfl rfl c4 ?_
    refine zx_ev_blk zk_83 3 (pc1 := 35) (L1 := [some (.ref 9), some (.int v1), some (.int v2), none, none, none]) (st1 := [.int (zx_i2c v2), .ref 2000]) (h1 := (zx_SC, m)) rfl ?_
    refine zx_ev_step zk_83 rfl (st_io (d := d + 0) rfl rfl) ?_
    exact zx_ev_sub (L := [some (.ref 9), some (.int v1), some (.int v2), none, none, none]) (⟨rfl, ⟨rfl, ⟨rfl, trivial⟩⟩⟩) (e_Text_single_9_n38 g v1 v2 (zx_io (zx_i2c v2)) m hg hf)
  · rw [if_neg c4] at hf
    refine zx_ev_ifn zk_83 (P := ¬ v2 = (-1)) (t := 31) (f := 27) rfl rfl c4 ?_
    refine zx_ev_blk zk_83 2 (pc1 := 38) (L1 := [some (.ref 9), some (.int v1), some (.int v2), none, none, none]) (st1 := [.int (-1)]) (h1 := (zx_SC, m)) rfl ?_
    exact zx_ev_sub (L := [some (.ref 9), some (.int v1), some (.int v2), none, none, none]) (⟨rfl, ⟨rfl, ⟨rfl, trivial⟩⟩⟩) (e_Text_single_9_n38 g v1 v2 (-1) m hg hf)
def F_Text_single_9 (g : GT_bracketed_joined_single_9) (v1 : Int32) (m : zx_M) : Option (Int32 × zx_M) := (f_Text_next_9 m).bind fun r2 => if r2 < 48 then n_Text_single_9_n22 g v1 r2 m else if 57 < r2 then n_Text_single_9_n22 g v1 r2 m else (f_Text_number_9 m).bind fun (r27, m28) => some (r27, m28)
theorem s_Text_single_9 (g : GT_bracketed_joined_single_9) (v1 : Int32) (m : zx_M) {d : Nat} (hg : GH_bracketed_joined_single_9 (d + 8) g) {y : (Int32 × zx_M)} (hf : F_Text_single_9 g v1 m = some y) : zx_Ev (d + 9) 83 0 [some (.ref 9), some (.int v1), none, none, none, none] [] (zx_SC, m) (some (.int y.1), (zx_SC, y.2)) := by
  unfold F_Text_single_9 at hf
  refine zx_ev_blk zk_83 1 (pc1 := 1) (L1 := [some (.ref 9), some (.int v1), none, none, none, none]) (st1 := [.ref 9]) (h1 := (zx_SC, m)) rfl ?_
  obtain ⟨r2, hv1, hf⟩ := zx_bind_eq hf
  refine zx_ev_call (d := d + 8) zk_83 (v := some (.int r2)) (h1 := (zx_SC, m)) rfl rfl zt_79 rfl zx_SCn rfl rfl (s_Text_next_9 _ (d := d + 8) hv1) ?_
  refine zx_ev_blk zk_83 3 (pc1 := 8) (L1 := [some (.ref 9), some (.int v1), some (.int r2), none, none, none]) (st1 := [.int 48, .int r2]) (h1 := (zx_SC, m)) rfl ?_
  by_cases c3 : r2 < 48
  · rw [if_pos c3] at hf
    refine zx_ev_ift zk_83 (P := r2 < 48) (t := 22) (f := 11) rfl rfl c3 ?_
    exact zx_ev_sub (L := [some (.ref 9), some (.int v1), some (.int r2), none, none, none]) (⟨rfl, ⟨rfl, ⟨rfl, trivial⟩⟩⟩) (e_Text_single_9_n22 g v1 r2 m hg hf)
  · rw [if_neg c3] at hf
    refine zx_ev_ifn zk_83 (P := r2 < 48) (t := 22) (f := 11) rfl rfl c3 ?_
    refine zx_ev_blk zk_83 2 (pc1 := 14) (L1 := [some (.ref 9), some (.int v1), some (.int r2), none, none, none]) (st1 := [.int 57, .int r2]) (h1 := (zx_SC, m)) rfl ?_
    by_cases c25 : 57 < r2
    · rw [if_pos c25] at hf
      refine zx_ev_ift zk_83 (P := 57 < r2) (t := 22) (f := 17) rfl rfl c25 ?_
      exact zx_ev_sub (L := [some (.ref 9), some (.int v1), some (.int r2), none, none, none]) (⟨rfl, ⟨rfl, ⟨rfl, trivial⟩⟩⟩) (e_Text_single_9_n22 g v1 r2 m hg hf)
    · rw [if_neg c25] at hf
      refine zx_ev_ifn zk_83 (P := 57 < r2) (t := 22) (f := 17) rfl rfl c25 ?_
      refine zx_ev_blk zk_83 1 (pc1 := 18) (L1 := [some (.ref 9), some (.int v1), some (.int r2), none, none, none]) (st1 := [.ref 9]) (h1 := (zx_SC, m)) rfl ?_
      obtain ⟨⟨r27, m28⟩, hv26, hf⟩ := zx_bind_eq hf
      dsimp only at hf
      refine zx_ev_call (d := d + 8) zk_83 (v := some (.int r27)) (h1 := (zx_SC, m28)) rfl rfl zt_85 rfl zx_SCn rfl rfl (s_Text_number_9 _ (d := d + 7) hv26) ?_
      obtain rfl := Option.some.inj hf
      exact zx_ev_ret zk_83 rfl rfl
def F_Text_bracketed_9 (g : GT_bracketed_joined_single_9) (v1 : Int32) (m : zx_M) : Option (Int32 × zx_M) := (g.1 0 v1 m).bind fun (r2, m3) => (f_Text_next_9 m3).bind fun r5 => if ¬ r5 = 41 then zx_let (zx_u1 m3 9 4 1) fun m7 => some (r2, m7) else zx_let (zx_u1 m3 9 3 ((m3.1 9 3) + 1)) fun m8 => some (r2, m8)
theorem s_Text_bracketed_9 (g : GT_bracketed_joined_single_9) (v1 : Int32) (m : zx_M) {d : Nat} (hg : GH_bracketed_joined_single_9 (d + 8) g) {y : (Int32 × zx_M)} (hf : F_Text_bracketed_9 g v1 m = some y) : zx_Ev (d + 9) 84 0 [some (.ref 9), some (.int v1), none] [] (zx_SC, m) (some (.int y.1), (zx_SC, y.2)) := by
  unfold F_Text_bracketed_9 at hf
  refine zx_ev_blk zk_84 3 (pc1 := 3) (L1 := [some (.ref 9), some (.int v1), none]) (st1 := [.int v1, .int 0, .ref 9]) (h1 := (zx_SC, m)) rfl ?_
  obtain ⟨⟨r2, m3⟩, hv1, hf⟩ := zx_bind_eq hf
  dsimp only at hf
  refine zx_ev_call (d := d + 8) zk_84 (v := some (.int r2)) (h1 := (zx_SC, m3)) rfl rfl zt_80 rfl zx_SCn rfl rfl (hg.1 _ _ _ _ hv1) ?_
  refine zx_ev_blk zk_84 2 (pc1 := 8) (L1 := [some (.ref 9), some (.int v1), some (.int r2)]) (st1 := [.ref 9]) (h1 := (zx_SC, m3)) rfl ?_
  obtain ⟨r5, hv4, hf⟩ := zx_bind_eq hf
  refine zx_ev_call (d := d + 8) zk_84 (v := some (.int r5)) (h1 := (zx_SC, m3)) rfl rfl zt_79 rfl zx_SCn rfl rfl (s_Text_next_9 _ (d := d + 8) hv4) ?_
  refine zx_ev_blk zk_84 1 (pc1 := 13) (L1 := [some (.ref 9), some (.int v1), some (.int r2)]) (st1 := [.int 41, .int r5]) (h1 := (zx_SC, m3)) rfl ?_
  by_cases c6 : ¬ r5 = 41
  · rw [if_pos c6] at hf
    refine zx_ev_ift zk_84 (P := ¬ r5 = 41) (t := 29) (f := 16) rfl rfl c6 ?_
    obtain ⟨m7, hm7, hf⟩ := zx_let_eq hf
    refine zx_ev_blk zk_84 4 (pc1 := 35) (L1 := [some (.ref 9), some (.int v1), some (.int r2)]) (st1 := [.int r2]) (h1 := (zx_SC, m7)) (by subst hm7; rfl) ?_
    obtain rfl := Option.some.inj hf
    exact zx_ev_ret zk_84 rfl rfl
  · rw [if_neg c6] at hf
    refine zx_ev_ifn zk_84 (P := ¬ r5 = 41) (t := 29) (f := 16) rfl rfl c6 ?_
    obtain ⟨m8, hm8, hf⟩ := zx_let_eq hf
    refine zx_ev_blk zk_84 8 (pc1 := 35) (L1 := [some (.ref 9), some (.int v1), some (.int r2)]) (st1 := [.int r2]) (h1 := (zx_SC, m8)) (by subst hm8; rfl) ?_
    obtain rfl := Option.some.inj hf
    exact zx_ev_ret zk_84 rfl rfl
def g_bracketed_joined_single_9 : Nat → GT_bracketed_joined_single_9
  | 0 => ((fun _ _ _ => none), (fun _ _ => none), (fun _ _ => none))
  | j + 1 => ((fun x0 x1 m => F_Text_joined_9 (g_bracketed_joined_single_9 j) x0 x1 m), (fun x0 m => F_Text_single_9 (g_bracketed_joined_single_9 j) x0 m), (fun x0 m => F_Text_bracketed_9 (g_bracketed_joined_single_9 j) x0 m))
theorem eg_bracketed_joined_single_9 : ∀ (j d : Nat), GH_bracketed_joined_single_9 (d + 8 + j) (g_bracketed_joined_single_9 j) := by
  intro j
  induction j with
  | zero => intro d; exact ⟨(fun _ _ _ _ h => by simp [g_bracketed_joined_single_9] at h), (fun _ _ _ h => by simp [g_bracketed_joined_single_9] at h), (fun _ _ _ h => by simp [g_bracketed_joined_single_9] at h)⟩
  | succ j ih =>
    intro d
    have ih : ∀ d : Nat, GH_bracketed_joined_single_9 (d + j + 8) (g_bracketed_joined_single_9 j) := fun d => by rw [show d + j + 8 = d + 8 + j by omega]; exact ih d
    show GH_bracketed_joined_single_9 (d + 8 + j + 1) (g_bracketed_joined_single_9 (j + 1))
    rw [show d + 8 + j + 1 = d + j + 9 by omega]
    exact ⟨(fun _ _ _ _ h => s_Text_joined_9 _ _ _ _ (d := d + j) (ih d) h), (fun _ _ _ h => s_Text_single_9 _ _ _ (d := d + j) (ih d) h), (fun _ _ _ h => s_Text_bracketed_9 _ _ _ (d := d + j) (ih d) h)⟩
def kx_Text_read_9_l16 (d : Nat) (out : Option Value × zx_H) : (Int32 × zx_M) ⊕ (Int32 × zx_M) → Prop
  | .inl (x2, m) => zx_Ev (d + 73) 78 95 [some (.ref 9), none, some (.int x2), none, none, none] [] (zx_SC, m) out
  | .inr (x2, m) => zx_Ev (d + 73) 78 114 [some (.ref 9), none, some (.int x2), none, none, none] [] (zx_SC, m) out
def kl_Text_read_9_l16 (d : Nat) (out : Option Value × zx_H) : (Int32 × Int32 × Int32 × zx_M) ⊕ ((Int32 × zx_M) ⊕ (Int32 × zx_M)) → Prop
  | .inl (v1, v2, v3, m) => zx_Ev (d + 73) 78 16 [some (.ref 9), some (.int v1), some (.int v2), some (.int v3), none, none] [] (zx_SC, m) out
  | .inr x => kx_Text_read_9_l16 d out x
def n_Text_read_9_b16_86 (v1 : Int32) (v2 : Int32) (v3 : Int32) (m : zx_M) : Option ((Int32 × Int32 × Int32 × zx_M) ⊕ ((Int32 × zx_M) ⊕ (Int32 × zx_M))) := (f_Text_next_9 m).bind fun r12 => if r12 = 59 then zx_let (zx_u1 m 9 3 ((m.1 9 3) + 1)) fun m14 => zx_let (v3 + 1) fun a15 => some (.inl (v1, v2, a15, m14)) else some (.inr (.inl (v2, m)))
theorem e_Text_read_9_b16_86 (v1 : Int32) (v2 : Int32) (v3 : Int32) (m : zx_M) {d : Nat} {out : Option Value × zx_H} {y : (Int32 × Int32 × Int32 × zx_M) ⊕ ((Int32 × zx_M) ⊕ (Int32 × zx_M))} (hf : n_Text_read_9_b16_86 v1 v2 v3 m = some y) (hK : kl_Text_read_9_l16 d out y) : zx_Ev (d + 73) 78 86 [some (.ref 9), some (.int v1), some (.int v2), some (.int v3), none, none] [] (zx_SC, m) out := by
  unfold n_Text_read_9_b16_86 at hf
  refine zx_ev_blk zk_78 1 (pc1 := 87) (L1 := [some (.ref 9), some (.int v1), some (.int v2), some (.int v3), none, none]) (st1 := [.ref 9]) (h1 := (zx_SC, m)) rfl ?_
  obtain ⟨r12, hv11, hf⟩ := zx_bind_eq hf
  refine zx_ev_call (d := d + 72) zk_78 (v := some (.int r12)) (h1 := (zx_SC, m)) rfl rfl zt_79 rfl zx_SCn rfl rfl (s_Text_next_9 _ (d := d + 72) hv11) ?_
  refine zx_ev_blk zk_78 1 (pc1 := 92) (L1 := [some (.ref 9), some (.int v1), some (.int v2), some (.int v3), none, none]) (st1 := [.int 59, .int r12]) (h1 := (zx_SC, m)) rfl ?_
  by_cases c13 : r12 = 59
  · rw [if_pos c13] at hf
    refine zx_ev_ift zk_78 (P := r12 = 59) (t := 98) (f := 95) rfl rfl c13 ?_
    obtain ⟨m14, hm14, hf⟩ := zx_let_eq hf
    obtain ⟨a15, ha15, hf⟩ := zx_let_eq hf
    refine zx_ev_blk zk_78 8 (pc1 := 16) (L1 := [some (.ref 9), some (.int v1), some (.int v2), some (.int a15), none, none]) (st1 := []) (h1 := (zx_SC, m14)) (by subst hm14; subst ha15; rfl) ?_
    obtain rfl := Option.some.inj hf
    exact zx_ev_sub (L := [some (.ref 9), some (.int v1), some (.int v2), some (.int a15), none, none]) (⟨rfl, ⟨rfl, ⟨rfl, ⟨rfl, trivial⟩⟩⟩⟩) hK
  · rw [if_neg c13] at hf
    refine zx_ev_ifn zk_78 (P := r12 = 59) (t := 98) (f := 95) rfl rfl c13 ?_
    obtain rfl := Option.some.inj hf
    exact zx_ev_sub (L := [some (.ref 9), none, some (.int v2), none, none, none]) (⟨rfl, ⟨trivial, ⟨rfl, ⟨trivial, trivial⟩⟩⟩⟩) hK
def n_Text_read_9_b16_72 (v1 : Int32) (v2 : Int32) (v3 : Int32) (v4 : Int32) (v5 : Int32) (m : zx_M) : Option ((Int32 × Int32 × Int32 × zx_M) ⊕ ((Int32 × zx_M) ⊕ (Int32 × zx_M))) := if v5 = 0 then n_Text_read_9_b16_86 v1 v2 v3 m else if ¬ v1 = 0 then n_Text_read_9_b16_86 v1 v2 v3 m else n_Text_read_9_b16_86 1 v4 v3 m
theorem e_Text_read_9_b16_72 (v1 : Int32) (v2 : Int32) (v3 : Int32) (v4 : Int32) (v5 : Int32) (m : zx_M) {d : Nat} {out : Option Value × zx_H} {y : (Int32 × Int32 × Int32 × zx_M) ⊕ ((Int32 × zx_M) ⊕ (Int32 × zx_M))} (hf : n_Text_read_9_b16_72 v1 v2 v3 v4 v5 m = some y) (hK : kl_Text_read_9_l16 d out y) : zx_Ev (d + 73) 78 72 [some (.ref 9), some (.int v1), some (.int v2), some (.int v3), some (.int v4), some (.int v5)] [] (zx_SC, m) out := by
  unfold n_Text_read_9_b16_72 at hf
  refine zx_ev_blk zk_78 1 (pc1 := 74) (L1 := [some (.ref 9), some (.int v1), some (.int v2), some (.int v3), some (.int v4), some (.int v5)]) (st1 := [.int v5]) (h1 := (zx_SC, m)) rfl ?_
  by_cases c10 : v5 = 0
  · rw [if_pos c10] at hf
    refine zx_ev_ift zk_78 (P := v5 = 0) (t := 86) (f := 77) rfl rfl c10 ?_
    exact zx_ev_sub (L := [some (.ref 9), some (.int v1), some (.int v2), some (.int v3), none, none]) (⟨rfl, ⟨rfl, ⟨rfl, ⟨rfl, ⟨trivial, ⟨trivial, trivial⟩⟩⟩⟩⟩⟩) (e_Text_read_9_b16_86 v1 v2 v3 m hf hK)
  · rw [if_neg c10] at hf
    refine zx_ev_ifn zk_78 (P := v5 = 0) (t := 86) (f := 77) rfl rfl c10 ?_
    refine zx_ev_blk zk_78 1 (pc1 := 78) (L1 := [some (.ref 9), some (.int v1), some (.int v2), some (.int v3), some (.int v4), some (.int v5)]) (st1 := [.int v1]) (h1 := (zx_SC, m)) rfl ?_
    by_cases c16 : ¬ v1 = 0
    · rw [if_pos c16] at hf
      refine zx_ev_ift zk_78 (P := ¬ v1 = 0) (t := 86) (f := 81) rfl rfl c16 ?_
      exact zx_ev_sub (L := [some (.ref 9), some (.int v1), some (.int v2), some (.int v3), none, none]) (⟨rfl, ⟨rfl, ⟨rfl, ⟨rfl, ⟨trivial, ⟨trivial, trivial⟩⟩⟩⟩⟩⟩) (e_Text_read_9_b16_86 v1 v2 v3 m hf hK)
    · rw [if_neg c16] at hf
      refine zx_ev_ifn zk_78 (P := ¬ v1 = 0) (t := 86) (f := 81) rfl rfl c16 ?_
      refine zx_ev_blk zk_78 4 (pc1 := 86) (L1 := [some (.ref 9), some (.int 1), some (.int v4), some (.int v3), some (.int v4), some (.int v5)]) (st1 := []) (h1 := (zx_SC, m)) rfl ?_
      exact zx_ev_sub (L := [some (.ref 9), some (.int 1), some (.int v4), some (.int v3), none, none]) (⟨rfl, ⟨rfl, ⟨rfl, ⟨rfl, ⟨trivial, ⟨trivial, trivial⟩⟩⟩⟩⟩⟩) (e_Text_read_9_b16_86 1 v4 v3 m hf hK)
def n_Text_read_9_b16_62 (v1 : Int32) (v2 : Int32) (v3 : Int32) (t0 : Int32) (m : zx_M) : Option ((Int32 × Int32 × Int32 × zx_M) ⊕ ((Int32 × zx_M) ⊕ (Int32 × zx_M))) := ((g_bracketed_joined_single_9 64).1 0 0 m).bind fun (r20, m21) => n_Text_read_9_b16_72 v1 v2 v3 r20 t0 m21
theorem e_Text_read_9_b16_62 (v1 : Int32) (v2 : Int32) (v3 : Int32) (t0 : Int32) (m : zx_M) {d : Nat} {out : Option Value × zx_H} {y : (Int32 × Int32 × Int32 × zx_M) ⊕ ((Int32 × zx_M) ⊕ (Int32 × zx_M))} (hf : n_Text_read_9_b16_62 v1 v2 v3 t0 m = some y) (hK : kl_Text_read_9_l16 d out y) : zx_Ev (d + 73) 78 62 [some (.ref 9), some (.int v1), some (.int v2), some (.int v3), none, none] [.int t0] (zx_SC, m) out := by
  unfold n_Text_read_9_b16_62 at hf
  refine zx_ev_blk zk_78 4 (pc1 := 67) (L1 := [some (.ref 9), some (.int v1), some (.int v2), some (.int v3), none, some (.int t0)]) (st1 := [.int 0, .int 0, .ref 9]) (h1 := (zx_SC, m)) rfl ?_
  obtain ⟨⟨r20, m21⟩, hv19, hf⟩ := zx_bind_eq hf
  dsimp only at hf
  refine zx_ev_call (d := d + 72) zk_78 (v := some (.int r20)) (h1 := (zx_SC, m21)) rfl rfl zt_80 rfl zx_SCn rfl rfl ((eg_bracketed_joined_single_9 64 (d + 0)).1 _ _ _ _ hv19) ?_
  refine zx_ev_blk zk_78 1 (pc1 := 72) (L1 := [some (.ref 9), some (.int v1), some (.int v2), some (.int v3), some (.int r20), some (.int t0)]) (st1 := []) (h1 := (zx_SC, m21)) rfl ?_
  exact zx_ev_sub (L := [some (.ref 9), some (.int v1), some (.int v2), some (.int v3), some (.int r20), some (.int t0)]) (⟨rfl, ⟨rfl, ⟨rfl, ⟨rfl, ⟨rfl, ⟨rfl, trivial⟩⟩⟩⟩⟩⟩) (e_Text_read_9_b16_72 v1 v2 v3 r20 t0 m21 hf hK)
def b_Text_read_9_l16 (v1 : Int32) (v2 : Int32) (v3 : Int32) (m : zx_M) : Option ((Int32 × Int32 × Int32 × zx_M) ⊕ ((Int32 × zx_M) ⊕ (Int32 × zx_M))) := if 120 < v3 then some (.inr (.inr (v2, m))) else ((g_bracketed_joined_single_9 64).1 0 0 m).bind fun (r5, m6) => (f_Text_next_9 m6).bind fun r8 => if ¬ r8 = 63 then n_Text_read_9_b16_72 v1 v2 v3 r5 1 m6 else zx_let (zx_u1 m6 9 3 ((m6.1 9 3) + 1)) fun m17 => if r5 = 0 then n_Text_read_9_b16_62 v1 v2 v3 0 m17 else n_Text_read_9_b16_62 v1 v2 v3 1 m17
theorem eb_Text_read_9_l16 (v1 : Int32) (v2 : Int32) (v3 : Int32) (m : zx_M) {d : Nat} {out : Option Value × zx_H} {y : (Int32 × Int32 × Int32 × zx_M) ⊕ ((Int32 × zx_M) ⊕ (Int32 × zx_M))} (hf : b_Text_read_9_l16 v1 v2 v3 m = some y) (hK : kl_Text_read_9_l16 d out y) : zx_Ev (d + 73) 78 16 [some (.ref 9), some (.int v1), some (.int v2), some (.int v3), none, none] [] (zx_SC, m) out := by
  unfold b_Text_read_9_l16 at hf
  refine zx_ev_blk zk_78 2 (pc1 := 19) (L1 := [some (.ref 9), some (.int v1), some (.int v2), some (.int v3), none, none]) (st1 := [.int 120, .int v3]) (h1 := (zx_SC, m)) rfl ?_
  by_cases c3 : 120 < v3
  · rw [if_pos c3] at hf
    refine zx_ev_ift zk_78 (P := 120 < v3) (t := 114) (f := 22) rfl rfl c3 ?_
    obtain rfl := Option.some.inj hf
    exact zx_ev_sub (L := [some (.ref 9), none, some (.int v2), none, none, none]) (⟨rfl, ⟨trivial, ⟨rfl, ⟨trivial, trivial⟩⟩⟩⟩) hK
  · rw [if_neg c3] at hf
    refine zx_ev_ifn zk_78 (P := 120 < v3) (t := 114) (f := 22) rfl rfl c3 ?_
    refine zx_ev_blk zk_78 3 (pc1 := 25) (L1 := [some (.ref 9), some (.int v1), some (.int v2), some (.int v3), none, none]) (st1 := [.int 0, .int 0, .ref 9]) (h1 := (zx_SC, m)) rfl ?_
    obtain ⟨⟨r5, m6⟩, hv4, hf⟩ := zx_bind_eq hf
    dsimp only at hf
    refine zx_ev_call (d := d + 72) zk_78 (v := some (.int r5)) (h1 := (zx_SC, m6)) rfl rfl zt_80 rfl zx_SCn rfl rfl ((eg_bracketed_joined_single_9 64 (d + 0)).1 _ _ _ _ hv4) ?_
    refine zx_ev_blk zk_78 4 (pc1 := 34) (L1 := [some (.ref 9), some (.int v1), some (.int v2), some (.int v3), some (.int r5), some (.int 1)]) (st1 := [.ref 9]) (h1 := (zx_SC, m6)) rfl ?_
    obtain ⟨r8, hv7, hf⟩ := zx_bind_eq hf
    refine zx_ev_call (d := d + 72) zk_78 (v := some (.int r8)) (h1 := (zx_SC, m6)) rfl rfl zt_79 rfl zx_SCn rfl rfl (s_Text_next_9 _ (d := d + 72) hv7) ?_
    refine zx_ev_blk zk_78 1 (pc1 := 39) (L1 := [some (.ref 9), some (.int v1), some (.int v2), some (.int v3), some (.int r5), some (.int 1)]) (st1 := [.int 63, .int r8]) (h1 := (zx_SC, m6)) rfl ?_
    by_cases c9 : ¬ r8 = 63
    · rw [if_pos c9] at hf
      refine zx_ev_ift zk_78 (P := ¬ r8 = 63) (t := 72) (f := 42) rfl rfl c9 ?_
      exact zx_ev_sub (L := [some (.ref 9), some (.int v1), some (.int v2), some (.int v3), some (.int r5), some (.int 1)]) (⟨rfl, ⟨rfl, ⟨rfl, ⟨rfl, ⟨rfl, ⟨rfl, trivial⟩⟩⟩⟩⟩⟩) (e_Text_read_9_b16_72 v1 v2 v3 r5 1 m6 hf hK)
    · rw [if_neg c9] at hf
      refine zx_ev_ifn zk_78 (P := ¬ r8 = 63) (t := 72) (f := 42) rfl rfl c9 ?_
      obtain ⟨m17, hm17, hf⟩ := zx_let_eq hf
      refine zx_ev_blk zk_78 7 (pc1 := 54) (L1 := [some (.ref 9), some (.int v1), some (.int v2), some (.int v3), some (.int r5), some (.int 1)]) (st1 := [.int r5]) (h1 := (zx_SC, m17)) (by subst hm17; rfl) ?_
      by_cases c18 : r5 = 0
      · rw [if_pos c18] at hf
        refine zx_ev_ift zk_78 (P := r5 = 0) (t := 61) (f := 57) rfl rfl c18 ?_
        refine zx_ev_blk zk_78 1 (pc1 := 62) (L1 := [some (.ref 9), some (.int v1), some (.int v2), some (.int v3), some (.int r5), some (.int 1)]) (st1 := [.int 0]) (h1 := (zx_SC, m17)) rfl ?_
        exact zx_ev_sub (L := [some (.ref 9), some (.int v1), some (.int v2), some (.int v3), none, none]) (⟨rfl, ⟨rfl, ⟨rfl, ⟨rfl, ⟨trivial, ⟨trivial, trivial⟩⟩⟩⟩⟩⟩) (e_Text_read_9_b16_62 v1 v2 v3 0 m17 hf hK)
      · rw [if_neg c18] at hf
        refine zx_ev_ifn zk_78 (P := r5 = 0) (t := 61) (f := 57) rfl rfl c18 ?_
        refine zx_ev_blk zk_78 2 (pc1 := 62) (L1 := [some (.ref 9), some (.int v1), some (.int v2), some (.int v3), some (.int r5), some (.int 1)]) (st1 := [.int 1]) (h1 := (zx_SC, m17)) rfl ?_
        exact zx_ev_sub (L := [some (.ref 9), some (.int v1), some (.int v2), some (.int v3), none, none]) (⟨rfl, ⟨rfl, ⟨rfl, ⟨rfl, ⟨trivial, ⟨trivial, trivial⟩⟩⟩⟩⟩⟩) (e_Text_read_9_b16_62 v1 v2 v3 1 m17 hf hK)
def l_Text_read_9_l16 (s0 : Int32 × Int32 × Int32 × zx_M) : Option ((Int32 × zx_M) ⊕ (Int32 × zx_M)) := zx_lp zx_N (fun s : Int32 × Int32 × Int32 × zx_M => b_Text_read_9_l16 s.1 s.2.1 s.2.2.1 s.2.2.2) s0
theorem el_Text_read_9_l16 {d : Nat} {out : Option Value × zx_H} : ∀ (n : Nat) (s : Int32 × Int32 × Int32 × zx_M) (x : (Int32 × zx_M) ⊕ (Int32 × zx_M)), zx_lp n (fun s : Int32 × Int32 × Int32 × zx_M => b_Text_read_9_l16 s.1 s.2.1 s.2.2.1 s.2.2.2) s = some x → kx_Text_read_9_l16 d out x → zx_Ev (d + 73) 78 16 [some (.ref 9), some (.int s.1), some (.int s.2.1), some (.int s.2.2.1), none, none] [] (zx_SC, s.2.2.2) out := by
  intro n
  induction n with
  | zero => intro s x hl _; simp [zx_lp] at hl
  | succ n ih =>
    intro s x hl hx
    unfold zx_lp at hl
    cases hb : b_Text_read_9_l16 s.1 s.2.1 s.2.2.1 s.2.2.2 with
    | none => simp only [hb] at hl; cases hl
    | some z =>
      simp only [hb] at hl
      cases z with
      | inl s1 => exact eb_Text_read_9_l16 s.1 s.2.1 s.2.2.1 s.2.2.2 hb (ih s1 x hl hx)
      | inr t =>
        simp only [Option.some.injEq] at hl
        subst hl
        exact eb_Text_read_9_l16 s.1 s.2.1 s.2.2.1 s.2.2.2 hb hx
def n_Text_read_9_n138 (v2 : Int32) (t1 : Int32) (m : zx_M) : Option (Int32 × zx_M) := if t1 = 0 ∨ t1 = 1 then zx_let (zx_u1 m 9 4 t1) fun m27 => some (v2, m27) else none
theorem e_Text_read_9_n138 (v2 : Int32) (t1 : Int32) (m : zx_M) {d : Nat} {y : (Int32 × zx_M)} (hf : n_Text_read_9_n138 v2 t1 m = some y) : zx_Ev (d + 73) 78 138 [some (.ref 9), none, some (.int v2), none, none, none] [.int t1, .ref 9] (zx_SC, m) (some (.int y.1), (zx_SC, y.2)) := by
  unfold n_Text_read_9_n138 at hf
  by_cases c26 : t1 = 0 ∨ t1 = 1
  · rw [if_pos c26] at hf
    refine zx_ev_step zk_78 rfl (st_pfz rfl rfl rfl rfl rfl c26) ?_
    obtain ⟨m27, hm27, hf⟩ := zx_let_eq hf
    rw [hm27]
    refine zx_ev_blk zk_78 1 (pc1 := 142) (L1 := [some (.ref 9), none, some (.int v2), none, none, none]) (st1 := [.int v2]) (h1 := (zx_SC, m27)) rfl ?_
    obtain rfl := Option.some.inj hf
    exact zx_ev_ret zk_78 rfl rfl
  · rw [if_neg c26] at hf; cases hf
def n_Text_read_9_n133 (v2 : Int32) (m : zx_M) : Option (Int32 × zx_M) := n_Text_read_9_n138 v2 1 m
theorem e_Text_read_9_n133 (v2 : Int32) (m : zx_M) {d : Nat} {y : (Int32 × zx_M)} (hf : n_Text_read_9_n133 v2 m = some y) : zx_Ev (d + 73) 78 133 [some (.ref 9), none, some (.int v2), none, none, none] [.ref 9] (zx_SC, m) (some (.int y.1), (zx_SC, y.2)) := by
  unfold n_Text_read_9_n133 at hf
  refine zx_ev_blk zk_78 2 (pc1 := 138) (L1 := [some (.ref 9), none, some (.int v2), none, none, none]) (st1 := [.int 1, .ref 9]) (h1 := (zx_SC, m)) rfl ?_
  exact zx_ev_sub (L := [some (.ref 9), none, some (.int v2), none, none, none]) (⟨rfl, ⟨rfl, trivial⟩⟩) (e_Text_read_9_n138 v2 1 m hf)
def n_Text_read_9_n114 (v2 : Int32) (m : zx_M) : Option (Int32 × zx_M) := if ¬ (m.1 9 4) = 0 then n_Text_read_9_n133 v2 m else if (m.1 9 2) ≤ (m.1 9 3) then n_Text_read_9_n138 v2 0 m else n_Text_read_9_n133 v2 m
theorem e_Text_read_9_n114 (v2 : Int32) (m : zx_M) {d : Nat} {y : (Int32 × zx_M)} (hf : n_Text_read_9_n114 v2 m = some y) : zx_Ev (d + 73) 78 114 [some (.ref 9), none, some (.int v2), none, none, none] [] (zx_SC, m) (some (.int y.1), (zx_SC, y.2)) := by
  unfold n_Text_read_9_n114 at hf
  refine zx_ev_blk zk_78 3 (pc1 := 119) (L1 := [some (.ref 9), none, some (.int v2), none, none, none]) (st1 := [.int (m.1 9 4), .ref 9]) (h1 := (zx_SC, m)) rfl ?_
  by_cases c25 : ¬ (m.1 9 4) = 0
  · rw [if_pos c25] at hf
    refine zx_ev_ift zk_78 (P := ¬ (m.1 9 4) = 0) (t := 133) (f := 122) rfl rfl c25 ?_
    exact zx_ev_sub (L := [some (.ref 9), none, some (.int v2), none, none, none]) (⟨rfl, ⟨rfl, trivial⟩⟩) (e_Text_read_9_n133 v2 m hf)
  · rw [if_neg c25] at hf
    refine zx_ev_ifn zk_78 (P := ¬ (m.1 9 4) = 0) (t := 133) (f := 122) rfl rfl c25 ?_
    refine zx_ev_blk zk_78 4 (pc1 := 130) (L1 := [some (.ref 9), none, some (.int v2), none, none, none]) (st1 := [.int (m.1 9 2), .int (m.1 9 3), .ref 9]) (h1 := (zx_SC, m)) rfl ?_
    by_cases c28 : (m.1 9 2) ≤ (m.1 9 3)
    · rw [if_pos c28] at hf
      refine zx_ev_ift zk_78 (P := (m.1 9 2) ≤ (m.1 9 3)) (t := 137) (f := 133) rfl rfl c28 ?_
      refine zx_ev_blk zk_78 1 (pc1 := 138) (L1 := [some (.ref 9), none, some (.int v2), none, none, none]) (st1 := [.int 0, .ref 9]) (h1 := (zx_SC, m)) rfl ?_
      exact zx_ev_sub (L := [some (.ref 9), none, some (.int v2), none, none, none]) (⟨rfl, ⟨rfl, trivial⟩⟩) (e_Text_read_9_n138 v2 0 m hf)
    · rw [if_neg c28] at hf
      refine zx_ev_ifn zk_78 (P := (m.1 9 2) ≤ (m.1 9 3)) (t := 137) (f := 133) rfl rfl c28 ?_
      exact zx_ev_sub (L := [some (.ref 9), none, some (.int v2), none, none, none]) (⟨rfl, ⟨rfl, trivial⟩⟩) (e_Text_read_9_n133 v2 m hf)
def f_Text_read_9 (m : zx_M) : Option (Int32 × zx_M) := zx_let (zx_u1 m 9 3 0) fun m1 => zx_let (zx_u1 m1 9 4 0) fun m2 => (l_Text_read_9_l16 (0, 0, 0, m2)).bind fun x22 => match x22 with | .inl (w23, m24) => (n_Text_read_9_n114 w23 m24) | .inr (w29, m30) => (n_Text_read_9_n114 w29 m30)
theorem s_Text_read_9 (m : zx_M) {d : Nat} {y : (Int32 × zx_M)} (hf : f_Text_read_9 m = some y) : zx_Ev (d + 73) 78 0 [some (.ref 9), none, none, none, none, none] [] (zx_SC, m) (some (.int y.1), (zx_SC, y.2)) := by
  unfold f_Text_read_9 at hf
  obtain ⟨m1, hm1, hf⟩ := zx_let_eq hf
  obtain ⟨m2, hm2, hf⟩ := zx_let_eq hf
  refine zx_ev_blk zk_78 12 (pc1 := 16) (L1 := [some (.ref 9), some (.int 0), some (.int 0), some (.int 0), none, none]) (st1 := []) (h1 := (zx_SC, m2)) (by subst hm1; subst hm2; rfl) ?_
  obtain ⟨x22, hx22, hf⟩ := zx_bind_eq hf
  refine zx_ev_sub (L := [some (.ref 9), some (.int 0), some (.int 0), some (.int 0), none, none]) (⟨rfl, ⟨rfl, ⟨rfl, ⟨rfl, trivial⟩⟩⟩⟩) (el_Text_read_9_l16 zx_N (0, 0, 0, m2) x22 hx22 ?_)
  rcases x22 with ⟨w23, m24⟩ | ⟨w29, m30⟩
  · dsimp only at hf
    show zx_Ev (d + 73) 78 95 [some (.ref 9), none, some (.int w23), none, none, none] [] (zx_SC, m24) _
    refine zx_ev_blk zk_78 1 (pc1 := 114) (L1 := [some (.ref 9), none, some (.int w23), none, none, none]) (st1 := []) (h1 := (zx_SC, m24)) rfl ?_
    exact zx_ev_sub (L := [some (.ref 9), none, some (.int w23), none, none, none]) (⟨rfl, ⟨rfl, trivial⟩⟩) (e_Text_read_9_n114 w23 m24 hf)
  · dsimp only at hf
    show zx_Ev (d + 73) 78 114 [some (.ref 9), none, some (.int w29), none, none, none] [] (zx_SC, m30) _
    exact zx_ev_sub (L := [some (.ref 9), none, some (.int w29), none, none, none]) (⟨rfl, ⟨rfl, trivial⟩⟩) (e_Text_read_9_n114 w29 m30 hf)
def f_Text_fault_9 (m : zx_M) : Option (Int32 × zx_M) := (f_Text_read_9 m).bind fun (r2, m3) => if (m3.1 9 4) = 0 then some ((-2), m3) else some (m3.1 9 3, m3)
theorem s_Text_fault_9 (m : zx_M) {d : Nat} {y : (Int32 × zx_M)} (hf : f_Text_fault_9 m = some y) : zx_Ev (d + 74) 76 0 [some (.ref 9)] [] (zx_SC, m) (some (.int y.1), (zx_SC, y.2)) := by
  unfold f_Text_fault_9 at hf
  refine zx_ev_blk zk_76 1 (pc1 := 1) (L1 := [some (.ref 9)]) (st1 := [.ref 9]) (h1 := (zx_SC, m)) rfl ?_
  obtain ⟨⟨r2, m3⟩, hv1, hf⟩ := zx_bind_eq hf
  dsimp only at hf
  refine zx_ev_call (d := d + 73) zk_76 (v := some (.int r2)) (h1 := (zx_SC, m3)) rfl rfl zt_78 rfl zx_SCn rfl rfl (s_Text_read_9 _ (d := d + 0) hv1) ?_
  refine zx_ev_blk zk_76 3 (pc1 := 9) (L1 := [some (.ref 9)]) (st1 := [.int (m3.1 9 4)]) (h1 := (zx_SC, m3)) rfl ?_
  by_cases c4 : (m3.1 9 4) = 0
  · rw [if_pos c4] at hf
    refine zx_ev_ift zk_76 (P := (m3.1 9 4) = 0) (t := 19) (f := 12) rfl rfl c4 ?_
    refine zx_ev_blk zk_76 1 (pc1 := 21) (L1 := [some (.ref 9)]) (st1 := [.int (-2)]) (h1 := (zx_SC, m3)) rfl ?_
    obtain rfl := Option.some.inj hf
    exact zx_ev_ret zk_76 rfl rfl
  · rw [if_neg c4] at hf
    refine zx_ev_ifn zk_76 (P := (m3.1 9 4) = 0) (t := 19) (f := 12) rfl rfl c4 ?_
    refine zx_ev_blk zk_76 3 (pc1 := 21) (L1 := [some (.ref 9)]) (st1 := [.int (m3.1 9 3)]) (h1 := (zx_SC, m3)) rfl ?_
    obtain rfl := Option.some.inj hf
    exact zx_ev_ret zk_76 rfl rfl
def f_Text_clear_9 (m : zx_M) : Option zx_M := zx_let (zx_u1 m 9 2 0) fun m1 => some m1
theorem s_Text_clear_9 (m : zx_M) {d : Nat} {y : zx_M} (hf : f_Text_clear_9 m = some y) : zx_Ev (d) 73 0 [some (.ref 9)] [] (zx_SC, m) (none, (zx_SC, y)) := by
  unfold f_Text_clear_9 at hf
  obtain ⟨m1, hm1, hf⟩ := zx_let_eq hf
  refine zx_ev_blk zk_73 3 (pc1 := 5) (L1 := [some (.ref 9)]) (st1 := []) (h1 := (zx_SC, m1)) (by subst hm1; rfl) ?_
  obtain rfl := Option.some.inj hf
  exact zx_ev_ret zk_73 rfl rfl
def f_Text_become_12_9 (m : zx_M) : Option zx_M := (zx_ck 120 120 0 0 120).bind fun j1 => zx_let (zx_w1 m 13 (va_cpy (m.1 10) (m.1 13) (0 : Int32).toNatClampNeg (0 : Int32).toNatClampNeg j1)) fun m2 => zx_let (zx_u1 m2 12 2 (m2.1 9 2)) fun m3 => some m3
theorem s_Text_become_12_9 (m : zx_M) {d : Nat} {y : zx_M} (hf : f_Text_become_12_9 m = some y) : zx_Ev (d + 1) 75 0 [some (.ref 12), some (.ref 9)] [] (zx_SC, m) (none, (zx_SC, y)) := by
  unfold f_Text_become_12_9 at hf
  refine zx_ev_blk zk_75 9 (pc1 := 17) (L1 := [some (.ref 12), some (.ref 9)]) (st1 := [.int 120, .int 0, .ref 13, .int 0, .ref 10]) (h1 := (zx_SC, m)) rfl ?_
  obtain ⟨j1, hj1, hf⟩ := zx_bind_eq hf
  refine zx_ev_step zk_75 rfl (st_cpi rfl (Nat.le_of_ble_eq_true rfl) rfl rfl hj1) ?_
  obtain ⟨m2, hm2, hf⟩ := zx_let_eq hf
  rw [hm2]
  obtain ⟨m3, hm3, hf⟩ := zx_let_eq hf
  refine zx_ev_blk zk_75 4 (pc1 := 28) (L1 := [some (.ref 12), some (.ref 9)]) (st1 := []) (h1 := (zx_SC, m3)) (by subst hm3; rfl) ?_
  obtain rfl := Option.some.inj hf
  exact zx_ev_ret zk_75 rfl rfl
def f_Deed_tally_26 (v1 : Int32) (m : zx_M) : Option Int32 := if v1 = 0 then some (m.1 26 6) else if v1 = 1 then some (m.1 26 7) else if v1 = 2 then some (m.1 26 8) else if v1 = 3 then some (m.1 26 9) else if v1 = 4 then some (m.1 26 10) else if v1 = 5 then if (m.1 26 3) = 0 then some (-2000000000) else some (m.1 26 4) else some (-2000000000)
theorem s_Deed_tally_26 (v1 : Int32) (m : zx_M) {d : Nat} {y : Int32} (hf : f_Deed_tally_26 v1 m = some y) : zx_Ev (d) 30 0 [some (.ref 26), some (.int v1)] [] (zx_SC, m) (some (.int y), (zx_SC, m)) := by
  unfold f_Deed_tally_26 at hf
  refine zx_ev_blk zk_30 1 (pc1 := 1) (L1 := [some (.ref 26), some (.int v1)]) (st1 := [.int v1]) (h1 := (zx_SC, m)) rfl ?_
  by_cases c1 : v1 = 0
  · rw [if_pos c1] at hf
    refine zx_ev_tsw zk_30 rfl rfl (zx_pick_hit c1) rfl ?_
    refine zx_ev_blk zk_30 2 (pc1 := 44) (L1 := [some (.ref 26), some (.int v1)]) (st1 := [.int (m.1 26 6)]) (h1 := (zx_SC, m)) rfl ?_
    obtain rfl := Option.some.inj hf
    exact zx_ev_ret zk_30 rfl rfl
  · rw [if_neg c1] at hf
    by_cases c2 : v1 = 1
    · rw [if_pos c2] at hf
      refine zx_ev_tsw zk_30 rfl rfl (zx_pick_miss c1 (zx_pick_hit c2)) rfl ?_
      refine zx_ev_blk zk_30 2 (pc1 := 49) (L1 := [some (.ref 26), some (.int v1)]) (st1 := [.int (m.1 26 7)]) (h1 := (zx_SC, m)) rfl ?_
      obtain rfl := Option.some.inj hf
      exact zx_ev_ret zk_30 rfl rfl
    · rw [if_neg c2] at hf
      by_cases c3 : v1 = 2
      · rw [if_pos c3] at hf
        refine zx_ev_tsw zk_30 rfl rfl (zx_pick_miss c1 (zx_pick_miss c2 (zx_pick_hit c3))) rfl ?_
        refine zx_ev_blk zk_30 2 (pc1 := 54) (L1 := [some (.ref 26), some (.int v1)]) (st1 := [.int (m.1 26 8)]) (h1 := (zx_SC, m)) rfl ?_
        obtain rfl := Option.some.inj hf
        exact zx_ev_ret zk_30 rfl rfl
      · rw [if_neg c3] at hf
        by_cases c4 : v1 = 3
        · rw [if_pos c4] at hf
          refine zx_ev_tsw zk_30 rfl rfl (zx_pick_miss c1 (zx_pick_miss c2 (zx_pick_miss c3 (zx_pick_hit c4)))) rfl ?_
          refine zx_ev_blk zk_30 2 (pc1 := 59) (L1 := [some (.ref 26), some (.int v1)]) (st1 := [.int (m.1 26 9)]) (h1 := (zx_SC, m)) rfl ?_
          obtain rfl := Option.some.inj hf
          exact zx_ev_ret zk_30 rfl rfl
        · rw [if_neg c4] at hf
          by_cases c5 : v1 = 4
          · rw [if_pos c5] at hf
            refine zx_ev_tsw zk_30 rfl rfl (zx_pick_miss c1 (zx_pick_miss c2 (zx_pick_miss c3 (zx_pick_miss c4 (zx_pick_hit c5))))) rfl ?_
            refine zx_ev_blk zk_30 2 (pc1 := 64) (L1 := [some (.ref 26), some (.int v1)]) (st1 := [.int (m.1 26 10)]) (h1 := (zx_SC, m)) rfl ?_
            obtain rfl := Option.some.inj hf
            exact zx_ev_ret zk_30 rfl rfl
          · rw [if_neg c5] at hf
            by_cases c6 : v1 = 5
            · rw [if_pos c6] at hf
              refine zx_ev_tsw zk_30 rfl rfl (zx_pick_miss c1 (zx_pick_miss c2 (zx_pick_miss c3 (zx_pick_miss c4 (zx_pick_miss c5 (zx_pick_hit c6)))))) rfl ?_
              refine zx_ev_blk zk_30 2 (pc1 := 69) (L1 := [some (.ref 26), some (.int v1)]) (st1 := [.int (m.1 26 3)]) (h1 := (zx_SC, m)) rfl ?_
              by_cases c7 : (m.1 26 3) = 0
              · rw [if_pos c7] at hf
                refine zx_ev_ift zk_30 (P := (m.1 26 3) = 0) (t := 79) (f := 72) rfl rfl c7 ?_
                refine zx_ev_blk zk_30 1 (pc1 := 81) (L1 := [some (.ref 26), some (.int v1)]) (st1 := [.int (-2000000000)]) (h1 := (zx_SC, m)) rfl ?_
                obtain rfl := Option.some.inj hf
                exact zx_ev_ret zk_30 rfl rfl
              · rw [if_neg c7] at hf
                refine zx_ev_ifn zk_30 (P := (m.1 26 3) = 0) (t := 79) (f := 72) rfl rfl c7 ?_
                refine zx_ev_blk zk_30 3 (pc1 := 81) (L1 := [some (.ref 26), some (.int v1)]) (st1 := [.int (m.1 26 4)]) (h1 := (zx_SC, m)) rfl ?_
                obtain rfl := Option.some.inj hf
                exact zx_ev_ret zk_30 rfl rfl
            · rw [if_neg c6] at hf
              refine zx_ev_tsw zk_30 rfl rfl (zx_pick_miss c1 (zx_pick_miss c2 (zx_pick_miss c3 (zx_pick_miss c4 (zx_pick_miss c5 (zx_pick_miss c6 rfl)))))) rfl ?_
              refine zx_ev_blk zk_30 1 (pc1 := 84) (L1 := [some (.ref 26), some (.int v1)]) (st1 := [.int (-2000000000)]) (h1 := (zx_SC, m)) rfl ?_
              obtain rfl := Option.some.inj hf
              exact zx_ev_ret zk_30 rfl rfl
def kx_Order_power_l4 (v0 : Int32) (v1 : Int32) (m : zx_M) (d : Nat) (out : Option Value × zx_H) : Int32 → Prop
  | y => out = (some (.int y), (zx_SC, m))
def kl_Order_power_l4 (v0 : Int32) (v1 : Int32) (m : zx_M) (d : Nat) (out : Option Value × zx_H) : (Int32 × Int32) ⊕ (Int32) → Prop
  | .inl (v2, v3) => zx_Ev (d) 57 4 [some (.int v0), some (.int v1), some (.int v2), some (.int v3)] [] (zx_SC, m) out
  | .inr x => kx_Order_power_l4 v0 v1 m d out x
def b_Order_power_l4 (v0 : Int32) (v1 : Int32) (v2 : Int32) (v3 : Int32) (m : zx_M) : Option ((Int32 × Int32) ⊕ (Int32)) := if v1 ≤ v3 then some (.inr v2) else zx_let (v2 * v0) fun a2 => zx_let (v3 + 1) fun a3 => some (.inl (a2, a3))
theorem eb_Order_power_l4 (v0 : Int32) (v1 : Int32) (v2 : Int32) (v3 : Int32) (m : zx_M) {d : Nat} {out : Option Value × zx_H} {y : (Int32 × Int32) ⊕ (Int32)} (hf : b_Order_power_l4 v0 v1 v2 v3 m = some y) (hK : kl_Order_power_l4 v0 v1 m d out y) : zx_Ev (d) 57 4 [some (.int v0), some (.int v1), some (.int v2), some (.int v3)] [] (zx_SC, m) out := by
  unfold b_Order_power_l4 at hf
  refine zx_ev_blk zk_57 2 (pc1 := 6) (L1 := [some (.int v0), some (.int v1), some (.int v2), some (.int v3)]) (st1 := [.int v1, .int v3]) (h1 := (zx_SC, m)) rfl ?_
  by_cases c1 : v1 ≤ v3
  · rw [if_pos c1] at hf
    refine zx_ev_ift zk_57 (P := v1 ≤ v3) (t := 19) (f := 9) rfl rfl c1 ?_
    refine zx_ev_blk zk_57 1 (pc1 := 20) (L1 := [some (.int v0), some (.int v1), some (.int v2), some (.int v3)]) (st1 := [.int v2]) (h1 := (zx_SC, m)) rfl ?_
    obtain rfl := Option.some.inj hf
    rw [show out = _ from hK]
    exact zx_ev_ret zk_57 rfl rfl
  · rw [if_neg c1] at hf
    refine zx_ev_ifn zk_57 (P := v1 ≤ v3) (t := 19) (f := 9) rfl rfl c1 ?_
    obtain ⟨a2, ha2, hf⟩ := zx_let_eq hf
    obtain ⟨a3, ha3, hf⟩ := zx_let_eq hf
    refine zx_ev_blk zk_57 6 (pc1 := 4) (L1 := [some (.int v0), some (.int v1), some (.int a2), some (.int a3)]) (st1 := []) (h1 := (zx_SC, m)) (by subst ha2; subst ha3; rfl) ?_
    obtain rfl := Option.some.inj hf
    exact zx_ev_sub (L := [some (.int v0), some (.int v1), some (.int a2), some (.int a3)]) (⟨rfl, ⟨rfl, ⟨rfl, ⟨rfl, trivial⟩⟩⟩⟩) hK
def l_Order_power_l4 (v0 : Int32) (v1 : Int32) (m : zx_M) (s0 : Int32 × Int32) : Option (Int32) := zx_lp zx_N (fun s : Int32 × Int32 => b_Order_power_l4 v0 v1 s.1 s.2 m) s0
theorem el_Order_power_l4 (v0 : Int32) (v1 : Int32) (m : zx_M) {d : Nat} {out : Option Value × zx_H} : ∀ (n : Nat) (s : Int32 × Int32) (x : Int32), zx_lp n (fun s : Int32 × Int32 => b_Order_power_l4 v0 v1 s.1 s.2 m) s = some x → kx_Order_power_l4 v0 v1 m d out x → zx_Ev (d) 57 4 [some (.int v0), some (.int v1), some (.int s.1), some (.int s.2)] [] (zx_SC, m) out := by
  intro n
  induction n with
  | zero => intro s x hl _; simp [zx_lp] at hl
  | succ n ih =>
    intro s x hl hx
    unfold zx_lp at hl
    cases hb : b_Order_power_l4 v0 v1 s.1 s.2 m with
    | none => simp only [hb] at hl; cases hl
    | some z =>
      simp only [hb] at hl
      cases z with
      | inl s1 => exact eb_Order_power_l4 v0 v1 s.1 s.2 m hb (ih s1 x hl hx)
      | inr t =>
        simp only [Option.some.injEq] at hl
        subst hl
        exact eb_Order_power_l4 v0 v1 s.1 s.2 m hb hx
def f_Order_power (v0 : Int32) (v1 : Int32) (m : zx_M) : Option Int32 := (l_Order_power_l4 v0 v1 m (1, 0)).bind fun x4 => zx_let x4 fun y5 => some y5
theorem s_Order_power (v0 : Int32) (v1 : Int32) (m : zx_M) {d : Nat} {y : Int32} (hf : f_Order_power v0 v1 m = some y) : zx_Ev (d) 57 0 [some (.int v0), some (.int v1), none, none] [] (zx_SC, m) (some (.int y), (zx_SC, m)) := by
  unfold f_Order_power at hf
  refine zx_ev_blk zk_57 4 (pc1 := 4) (L1 := [some (.int v0), some (.int v1), some (.int 1), some (.int 0)]) (st1 := []) (h1 := (zx_SC, m)) rfl ?_
  obtain ⟨x4, hx4, hf⟩ := zx_bind_eq hf
  refine zx_ev_sub (L := [some (.int v0), some (.int v1), some (.int 1), some (.int 0)]) (⟨rfl, ⟨rfl, ⟨rfl, ⟨rfl, trivial⟩⟩⟩⟩) (el_Order_power_l4 v0 v1 m zx_N (1, 0) x4 hx4 ?_)
  obtain ⟨y5, hy5, hf⟩ := zx_let_eq hf
  subst hy5
  obtain rfl := Option.some.inj hf
  rfl
def f_Numbers_isThere (v1 : Int32) (v2 : Int32) (m : zx_M) : Option Int32 := if v2 < 0 then some 0 else if v2 ≤ 11 then if 4 ≤ v2 then if ¬ v1 = 0 then some 0 else some 1 else (f_Numbers_isJumper v1 m).bind fun r6 => if r6 = 0 ∨ r6 = 1 then some r6 else none else some 0
theorem s_Numbers_isThere (v1 : Int32) (v2 : Int32) (m : zx_M) {d : Nat} {y : Int32} (hf : f_Numbers_isThere v1 v2 m = some y) : zx_Ev (d + 1) 44 0 [some (.ref 1), some (.int v1), some (.int v2)] [] (zx_SC, m) (some (.int y), (zx_SC, m)) := by
  unfold f_Numbers_isThere at hf
  refine zx_ev_blk zk_44 1 (pc1 := 1) (L1 := [some (.ref 1), some (.int v1), some (.int v2)]) (st1 := [.int v2]) (h1 := (zx_SC, m)) rfl ?_
  by_cases c1 : v2 < 0
  · rw [if_pos c1] at hf
    refine zx_ev_ift zk_44 (P := v2 < 0) (t := 10) (f := 4) rfl rfl c1 ?_
    refine zx_ev_blk zk_44 1 (pc1 := 11) (L1 := [some (.ref 1), some (.int v1), some (.int v2)]) (st1 := [.int 0]) (h1 := (zx_SC, m)) rfl ?_
    obtain rfl := Option.some.inj hf
    exact zx_ev_ret zk_44 rfl (zx_ret_z (Or.inl rfl))
  · rw [if_neg c1] at hf
    refine zx_ev_ifn zk_44 (P := v2 < 0) (t := 10) (f := 4) rfl rfl c1 ?_
    refine zx_ev_blk zk_44 2 (pc1 := 7) (L1 := [some (.ref 1), some (.int v1), some (.int v2)]) (st1 := [.int 11, .int v2]) (h1 := (zx_SC, m)) rfl ?_
    by_cases c2 : v2 ≤ 11
    · rw [if_pos c2] at hf
      refine zx_ev_ift zk_44 (P := v2 ≤ 11) (t := 12) (f := 10) rfl rfl c2 ?_
      refine zx_ev_blk zk_44 2 (pc1 := 14) (L1 := [some (.ref 1), some (.int v1), some (.int v2)]) (st1 := [.int 4, .int v2]) (h1 := (zx_SC, m)) rfl ?_
      by_cases c3 : 4 ≤ v2
      · rw [if_pos c3] at hf
        refine zx_ev_ift zk_44 (P := 4 ≤ v2) (t := 25) (f := 17) rfl rfl c3 ?_
        refine zx_ev_blk zk_44 1 (pc1 := 26) (L1 := [some (.ref 1), some (.int v1), some (.int v2)]) (st1 := [.int v1]) (h1 := (zx_SC, m)) rfl ?_
        by_cases c4 : ¬ v1 = 0
        · rw [if_pos c4] at hf
          refine zx_ev_ift zk_44 (P := ¬ v1 = 0) (t := 33) (f := 29) rfl rfl c4 ?_
          refine zx_ev_blk zk_44 1 (pc1 := 34) (L1 := [some (.ref 1), some (.int v1), some (.int v2)]) (st1 := [.int 0]) (h1 := (zx_SC, m)) rfl ?_
          obtain rfl := Option.some.inj hf
          exact zx_ev_ret zk_44 rfl (zx_ret_z (Or.inl rfl))
        · rw [if_neg c4] at hf
          refine zx_ev_ifn zk_44 (P := ¬ v1 = 0) (t := 33) (f := 29) rfl rfl c4 ?_
          refine zx_ev_blk zk_44 2 (pc1 := 34) (L1 := [some (.ref 1), some (.int v1), some (.int v2)]) (st1 := [.int 1]) (h1 := (zx_SC, m)) rfl ?_
          obtain rfl := Option.some.inj hf
          exact zx_ev_ret zk_44 rfl (zx_ret_z (Or.inr rfl))
      · rw [if_neg c3] at hf
        refine zx_ev_ifn zk_44 (P := 4 ≤ v2) (t := 25) (f := 17) rfl rfl c3 ?_
        refine zx_ev_blk zk_44 2 (pc1 := 19) (L1 := [some (.ref 1), some (.int v1), some (.int v2)]) (st1 := [.int v1, .ref 1]) (h1 := (zx_SC, m)) rfl ?_
        obtain ⟨r6, hv5, hf⟩ := zx_bind_eq hf
        refine zx_ev_call (d := d + 0) zk_44 (v := some (.int r6)) (h1 := (zx_SC, m)) rfl rfl zt_43 rfl zx_SCn rfl rfl (s_Numbers_isJumper _ _ (d := d + 0) hv5) ?_
        refine zx_ev_blk zk_44 1 (pc1 := 34) (L1 := [some (.ref 1), some (.int v1), some (.int v2)]) (st1 := [.int r6]) (h1 := (zx_SC, m)) rfl ?_
        by_cases c7 : r6 = 0 ∨ r6 = 1
        · rw [if_pos c7] at hf
          obtain rfl := Option.some.inj hf
          exact zx_ev_ret zk_44 rfl (zx_ret_z c7)
        · rw [if_neg c7] at hf; cases hf
    · rw [if_neg c2] at hf
      refine zx_ev_ifn zk_44 (P := v2 ≤ 11) (t := 12) (f := 10) rfl rfl c2 ?_
      refine zx_ev_blk zk_44 1 (pc1 := 11) (L1 := [some (.ref 1), some (.int v1), some (.int v2)]) (st1 := [.int 0]) (h1 := (zx_SC, m)) rfl ?_
      obtain rfl := Option.some.inj hf
      exact zx_ev_ret zk_44 rfl (zx_ret_z (Or.inl rfl))
def f_Changes_forgetFirst (m : zx_M) : Option zx_M := zx_let (zx_u1 m 4 5 39) fun m1 => (zx_ck 40 40 1 0 (m1.1 4 5)).bind fun j2 => zx_let (zx_w1 m1 5 (va_cpy (m1.1 5) (m1.1 5) (1 : Int32).toNatClampNeg (0 : Int32).toNatClampNeg j2)) fun m3 => (zx_ck 40 40 1 0 (m3.1 4 5)).bind fun j4 => zx_let (zx_w1 m3 6 (va_cpy (m3.1 6) (m3.1 6) (1 : Int32).toNatClampNeg (0 : Int32).toNatClampNeg j4)) fun m5 => (zx_ck 40 40 1 0 (m5.1 4 5)).bind fun j6 => zx_let (zx_w1 m5 7 (va_cpy (m5.1 7) (m5.1 7) (1 : Int32).toNatClampNeg (0 : Int32).toNatClampNeg j6)) fun m7 => (zx_ck 40 40 1 0 (m7.1 4 5)).bind fun j8 => zx_let (zx_w1 m7 8 (va_cpy (m7.1 8) (m7.1 8) (1 : Int32).toNatClampNeg (0 : Int32).toNatClampNeg j8)) fun m9 => some m9
theorem s_Changes_forgetFirst (m : zx_M) {d : Nat} {y : zx_M} (hf : f_Changes_forgetFirst m = some y) : zx_Ev (d + 1) 20 0 [some (.ref 4)] [] (zx_SC, m) (none, (zx_SC, y)) := by
  unfold f_Changes_forgetFirst at hf
  obtain ⟨m1, hm1, hf⟩ := zx_let_eq hf
  refine zx_ev_blk zk_20 11 (pc1 := 20) (L1 := [some (.ref 4)]) (st1 := [.int (m1.1 4 5), .int 0, .ref 5, .int 1, .ref 5]) (h1 := (zx_SC, m1)) (by subst hm1; rfl) ?_
  obtain ⟨j2, hj2, hf⟩ := zx_bind_eq hf
  refine zx_ev_step zk_20 rfl (st_cpi rfl (Nat.le_of_ble_eq_true rfl) rfl rfl hj2) ?_
  obtain ⟨m3, hm3, hf⟩ := zx_let_eq hf
  rw [hm3]
  refine zx_ev_blk zk_20 8 (pc1 := 37) (L1 := [some (.ref 4)]) (st1 := [.int (m3.1 4 5), .int 0, .ref 6, .int 1, .ref 6]) (h1 := (zx_SC, m3)) rfl ?_
  obtain ⟨j4, hj4, hf⟩ := zx_bind_eq hf
  refine zx_ev_step zk_20 rfl (st_cpi rfl (Nat.le_of_ble_eq_true rfl) rfl rfl hj4) ?_
  obtain ⟨m5, hm5, hf⟩ := zx_let_eq hf
  rw [hm5]
  refine zx_ev_blk zk_20 8 (pc1 := 54) (L1 := [some (.ref 4)]) (st1 := [.int (m5.1 4 5), .int 0, .ref 7, .int 1, .ref 7]) (h1 := (zx_SC, m5)) rfl ?_
  obtain ⟨j6, hj6, hf⟩ := zx_bind_eq hf
  refine zx_ev_step zk_20 rfl (st_cpi rfl (Nat.le_of_ble_eq_true rfl) rfl rfl hj6) ?_
  obtain ⟨m7, hm7, hf⟩ := zx_let_eq hf
  rw [hm7]
  refine zx_ev_blk zk_20 8 (pc1 := 71) (L1 := [some (.ref 4)]) (st1 := [.int (m7.1 4 5), .int 0, .ref 8, .int 1, .ref 8]) (h1 := (zx_SC, m7)) rfl ?_
  obtain ⟨j8, hj8, hf⟩ := zx_bind_eq hf
  refine zx_ev_step zk_20 rfl (st_cpi rfl (Nat.le_of_ble_eq_true rfl) rfl rfl hj8) ?_
  obtain ⟨m9, hm9, hf⟩ := zx_let_eq hf
  rw [hm9]
  obtain rfl := Option.some.inj hf
  exact zx_ev_ret zk_20 rfl rfl
def n_Changes_note_n87 (m : zx_M) : Option zx_M := zx_let (zx_u1 m 4 6 (m.1 4 5)) fun m3 => some m3
theorem e_Changes_note_n87 (m : zx_M) {d : Nat} {y : zx_M} (hf : n_Changes_note_n87 m = some y) : zx_Ev (d + 2) 19 87 [some (.ref 4), none, none, none] [] (zx_SC, m) (none, (zx_SC, y)) := by
  unfold n_Changes_note_n87 at hf
  obtain ⟨m3, hm3, hf⟩ := zx_let_eq hf
  refine zx_ev_blk zk_19 4 (pc1 := 95) (L1 := [some (.ref 4), none, none, none]) (st1 := []) (h1 := (zx_SC, m3)) (by subst hm3; rfl) ?_
  obtain rfl := Option.some.inj hf
  exact zx_ev_ret zk_19 rfl rfl
def n_Changes_note_n13 (v1 : Int32) (v2 : Int32) (v3 : Int32) (m : zx_M) : Option zx_M := if (m.1 4 5) < 0 then n_Changes_note_n87 m else if 40 ≤ (m.1 4 5) then n_Changes_note_n87 m else (zx_ix 40 (m.1 4 5)).bind fun j5 => zx_let (zx_u1 m 5 j5 v1) fun m6 => (zx_ix 40 (m6.1 4 5)).bind fun j7 => zx_let (zx_u1 m6 6 j7 v2) fun m8 => (f_Numbers_told v1 v2 m8).bind fun r10 => (zx_ix 40 (m8.1 4 5)).bind fun j11 => zx_let (zx_u1 m8 7 j11 r10) fun m12 => (zx_ix 40 (m12.1 4 5)).bind fun j13 => zx_let (zx_u1 m12 8 j13 v3) fun m14 => zx_let (zx_u1 m14 4 5 ((m14.1 4 5) + 1)) fun m15 => n_Changes_note_n87 m15
theorem e_Changes_note_n13 (v1 : Int32) (v2 : Int32) (v3 : Int32) (m : zx_M) {d : Nat} {y : zx_M} (hf : n_Changes_note_n13 v1 v2 v3 m = some y) : zx_Ev (d + 2) 19 13 [some (.ref 4), some (.int v1), some (.int v2), some (.int v3)] [] (zx_SC, m) (none, (zx_SC, y)) := by
  unfold n_Changes_note_n13 at hf
  refine zx_ev_blk zk_19 2 (pc1 := 17) (L1 := [some (.ref 4), some (.int v1), some (.int v2), some (.int v3)]) (st1 := [.int (m.1 4 5)]) (h1 := (zx_SC, m)) rfl ?_
  by_cases c2 : (m.1 4 5) < 0
  · rw [if_pos c2] at hf
    refine zx_ev_ift zk_19 (P := (m.1 4 5) < 0) (t := 87) (f := 20) rfl rfl c2 ?_
    exact zx_ev_sub (L := [some (.ref 4), none, none, none]) (⟨rfl, ⟨trivial, ⟨trivial, ⟨trivial, trivial⟩⟩⟩⟩) (e_Changes_note_n87 m hf)
  · rw [if_neg c2] at hf
    refine zx_ev_ifn zk_19 (P := (m.1 4 5) < 0) (t := 87) (f := 20) rfl rfl c2 ?_
    refine zx_ev_blk zk_19 3 (pc1 := 26) (L1 := [some (.ref 4), some (.int v1), some (.int v2), some (.int v3)]) (st1 := [.int 40, .int (m.1 4 5)]) (h1 := (zx_SC, m)) rfl ?_
    by_cases c4 : 40 ≤ (m.1 4 5)
    · rw [if_pos c4] at hf
      refine zx_ev_ift zk_19 (P := 40 ≤ (m.1 4 5)) (t := 87) (f := 29) rfl rfl c4 ?_
      exact zx_ev_sub (L := [some (.ref 4), none, none, none]) (⟨rfl, ⟨trivial, ⟨trivial, ⟨trivial, trivial⟩⟩⟩⟩) (e_Changes_note_n87 m hf)
    · rw [if_neg c4] at hf
      refine zx_ev_ifn zk_19 (P := 40 ≤ (m.1 4 5)) (t := 87) (f := 29) rfl rfl c4 ?_
      refine zx_ev_blk zk_19 5 (pc1 := 38) (L1 := [some (.ref 4), some (.int v1), some (.int v2), some (.int v3)]) (st1 := [.int v1, .int (m.1 4 5), .ref 5]) (h1 := (zx_SC, m)) rfl ?_
      obtain ⟨j5, hj5, hf⟩ := zx_bind_eq hf
      refine zx_ev_step zk_19 rfl (st_iast rfl hj5) ?_
      obtain ⟨m6, hm6, hf⟩ := zx_let_eq hf
      rw [hm6]
      refine zx_ev_blk zk_19 5 (pc1 := 48) (L1 := [some (.ref 4), some (.int v1), some (.int v2), some (.int v3)]) (st1 := [.int v2, .int (m6.1 4 5), .ref 6]) (h1 := (zx_SC, m6)) rfl ?_
      obtain ⟨j7, hj7, hf⟩ := zx_bind_eq hf
      refine zx_ev_step zk_19 rfl (st_iast rfl hj7) ?_
      obtain ⟨m8, hm8, hf⟩ := zx_let_eq hf
      rw [hm8]
      refine zx_ev_blk zk_19 8 (pc1 := 63) (L1 := [some (.ref 4), some (.int v1), some (.int v2), some (.int v3)]) (st1 := [.int v2, .int v1, .ref 1, .int (m8.1 4 5), .ref 7]) (h1 := (zx_SC, m8)) rfl ?_
      obtain ⟨r10, hv9, hf⟩ := zx_bind_eq hf
      refine zx_ev_call (d := d + 1) zk_19 (v := some (.int r10)) (h1 := (zx_SC, m8)) rfl rfl zt_46 rfl zx_SCn rfl rfl (s_Numbers_told _ _ _ (d := d + 1) hv9) ?_
      obtain ⟨j11, hj11, hf⟩ := zx_bind_eq hf
      refine zx_ev_step zk_19 rfl (st_iast rfl hj11) ?_
      obtain ⟨m12, hm12, hf⟩ := zx_let_eq hf
      rw [hm12]
      refine zx_ev_blk zk_19 5 (pc1 := 76) (L1 := [some (.ref 4), some (.int v1), some (.int v2), some (.int v3)]) (st1 := [.int v3, .int (m12.1 4 5), .ref 8]) (h1 := (zx_SC, m12)) rfl ?_
      obtain ⟨j13, hj13, hf⟩ := zx_bind_eq hf
      refine zx_ev_step zk_19 rfl (st_iast rfl hj13) ?_
      obtain ⟨m14, hm14, hf⟩ := zx_let_eq hf
      rw [hm14]
      obtain ⟨m15, hm15, hf⟩ := zx_let_eq hf
      refine zx_ev_blk zk_19 6 (pc1 := 87) (L1 := [some (.ref 4), some (.int v1), some (.int v2), some (.int v3)]) (st1 := []) (h1 := (zx_SC, m15)) (by subst hm15; rfl) ?_
      exact zx_ev_sub (L := [some (.ref 4), none, none, none]) (⟨rfl, ⟨trivial, ⟨trivial, ⟨trivial, trivial⟩⟩⟩⟩) (e_Changes_note_n87 m15 hf)
def f_Changes_note (v1 : Int32) (v2 : Int32) (v3 : Int32) (m : zx_M) : Option zx_M := if (m.1 4 5) < 40 then n_Changes_note_n13 v1 v2 v3 m else (f_Changes_forgetFirst m).bind fun m17 => n_Changes_note_n13 v1 v2 v3 m17
theorem s_Changes_note (v1 : Int32) (v2 : Int32) (v3 : Int32) (m : zx_M) {d : Nat} {y : zx_M} (hf : f_Changes_note v1 v2 v3 m = some y) : zx_Ev (d + 2) 19 0 [some (.ref 4), some (.int v1), some (.int v2), some (.int v3)] [] (zx_SC, m) (none, (zx_SC, y)) := by
  unfold f_Changes_note at hf
  refine zx_ev_blk zk_19 3 (pc1 := 6) (L1 := [some (.ref 4), some (.int v1), some (.int v2), some (.int v3)]) (st1 := [.int 40, .int (m.1 4 5)]) (h1 := (zx_SC, m)) rfl ?_
  by_cases c1 : (m.1 4 5) < 40
  · rw [if_pos c1] at hf
    refine zx_ev_ift zk_19 (P := (m.1 4 5) < 40) (t := 13) (f := 9) rfl rfl c1 ?_
    exact zx_ev_sub (L := [some (.ref 4), some (.int v1), some (.int v2), some (.int v3)]) (⟨rfl, ⟨rfl, ⟨rfl, ⟨rfl, trivial⟩⟩⟩⟩) (e_Changes_note_n13 v1 v2 v3 m hf)
  · rw [if_neg c1] at hf
    refine zx_ev_ifn zk_19 (P := (m.1 4 5) < 40) (t := 13) (f := 9) rfl rfl c1 ?_
    refine zx_ev_blk zk_19 1 (pc1 := 10) (L1 := [some (.ref 4), some (.int v1), some (.int v2), some (.int v3)]) (st1 := [.ref 4]) (h1 := (zx_SC, m)) rfl ?_
    obtain ⟨m17, hv16, hf⟩ := zx_bind_eq hf
    refine zx_ev_call (d := d + 1) zk_19 (v := none) (h1 := (zx_SC, m17)) rfl rfl zt_20 rfl zx_SCn rfl rfl (s_Changes_forgetFirst _ (d := d + 0) hv16) ?_
    exact zx_ev_sub (L := [some (.ref 4), some (.int v1), some (.int v2), some (.int v3)]) (⟨rfl, ⟨rfl, ⟨rfl, ⟨rfl, trivial⟩⟩⟩⟩) (e_Changes_note_n13 v1 v2 v3 m17 hf)
def kx_Order_spell_l16 (v1 : Int32) (v2 : Int32) (v3 : Int32) (d : Nat) (out : Option Value × zx_H) : (Int32 × zx_M) → Prop
  | y => out = (some (.int y.1), (zx_SC, y.2))
def kl_Order_spell_l16 (v1 : Int32) (v2 : Int32) (v3 : Int32) (d : Nat) (out : Option Value × zx_H) : (Int32 × Int32 × zx_M) ⊕ ((Int32 × zx_M)) → Prop
  | .inl (v4, v5, m) => zx_Ev (d + 2) 56 16 [some (.ref 19), some (.int v1), some (.int v2), some (.int v3), some (.int v4), some (.int v5), none] [] (zx_SC, m) out
  | .inr x => kx_Order_spell_l16 v1 v2 v3 d out x
def b_Order_spell_l16 (v1 : Int32) (v2 : Int32) (v3 : Int32) (v4 : Int32) (v5 : Int32) (m : zx_M) : Option ((Int32 × Int32 × zx_M) ⊕ ((Int32 × zx_M))) := if v2 ≤ v5 then some (.inr (1, m)) else if v4 ≤ 0 then some (.inr (1, m)) else if v3 ≤ 0 then some (.inr (1, m)) else if v4 = 0 then none else if v3 = 0 then none else zx_let (zx_rem (v1 / v4) v3) fun a10 => (f_Order_has a10 m).bind fun r12 => if r12 = 0 then (f_Order_append a10 m).bind fun m15 => if v3 = 0 then none else zx_let (v4 / v3) fun a17 => zx_let (v5 + 1) fun a18 => some (.inl (a17, a18, m15)) else some (.inr (0, m))
theorem eb_Order_spell_l16 (v1 : Int32) (v2 : Int32) (v3 : Int32) (v4 : Int32) (v5 : Int32) (m : zx_M) {d : Nat} {out : Option Value × zx_H} {y : (Int32 × Int32 × zx_M) ⊕ ((Int32 × zx_M))} (hf : b_Order_spell_l16 v1 v2 v3 v4 v5 m = some y) (hK : kl_Order_spell_l16 v1 v2 v3 d out y) : zx_Ev (d + 2) 56 16 [some (.ref 19), some (.int v1), some (.int v2), some (.int v3), some (.int v4), some (.int v5), none] [] (zx_SC, m) out := by
  unfold b_Order_spell_l16 at hf
  refine zx_ev_blk zk_56 2 (pc1 := 19) (L1 := [some (.ref 19), some (.int v1), some (.int v2), some (.int v3), some (.int v4), some (.int v5), none]) (st1 := [.int v2, .int v5]) (h1 := (zx_SC, m)) rfl ?_
  by_cases c5 : v2 ≤ v5
  · rw [if_pos c5] at hf
    refine zx_ev_ift zk_56 (P := v2 ≤ v5) (t := 68) (f := 22) rfl rfl c5 ?_
    refine zx_ev_blk zk_56 1 (pc1 := 69) (L1 := [some (.ref 19), some (.int v1), some (.int v2), some (.int v3), some (.int v4), some (.int v5), none]) (st1 := [.int 1]) (h1 := (zx_SC, m)) rfl ?_
    obtain rfl := Option.some.inj hf
    rw [show out = _ from hK]
    exact zx_ev_ret zk_56 rfl (zx_ret_z (Or.inr rfl))
  · rw [if_neg c5] at hf
    refine zx_ev_ifn zk_56 (P := v2 ≤ v5) (t := 68) (f := 22) rfl rfl c5 ?_
    refine zx_ev_blk zk_56 1 (pc1 := 24) (L1 := [some (.ref 19), some (.int v1), some (.int v2), some (.int v3), some (.int v4), some (.int v5), none]) (st1 := [.int v4]) (h1 := (zx_SC, m)) rfl ?_
    by_cases c6 : v4 ≤ 0
    · rw [if_pos c6] at hf
      refine zx_ev_ift zk_56 (P := v4 ≤ 0) (t := 68) (f := 27) rfl rfl c6 ?_
      refine zx_ev_blk zk_56 1 (pc1 := 69) (L1 := [some (.ref 19), some (.int v1), some (.int v2), some (.int v3), some (.int v4), some (.int v5), none]) (st1 := [.int 1]) (h1 := (zx_SC, m)) rfl ?_
      obtain rfl := Option.some.inj hf
      rw [show out = _ from hK]
      exact zx_ev_ret zk_56 rfl (zx_ret_z (Or.inr rfl))
    · rw [if_neg c6] at hf
      refine zx_ev_ifn zk_56 (P := v4 ≤ 0) (t := 68) (f := 27) rfl rfl c6 ?_
      refine zx_ev_blk zk_56 1 (pc1 := 28) (L1 := [some (.ref 19), some (.int v1), some (.int v2), some (.int v3), some (.int v4), some (.int v5), none]) (st1 := [.int v3]) (h1 := (zx_SC, m)) rfl ?_
      by_cases c7 : v3 ≤ 0
      · rw [if_pos c7] at hf
        refine zx_ev_ift zk_56 (P := v3 ≤ 0) (t := 68) (f := 31) rfl rfl c7 ?_
        refine zx_ev_blk zk_56 1 (pc1 := 69) (L1 := [some (.ref 19), some (.int v1), some (.int v2), some (.int v3), some (.int v4), some (.int v5), none]) (st1 := [.int 1]) (h1 := (zx_SC, m)) rfl ?_
        obtain rfl := Option.some.inj hf
        rw [show out = _ from hK]
        exact zx_ev_ret zk_56 rfl (zx_ret_z (Or.inr rfl))
      · rw [if_neg c7] at hf
        refine zx_ev_ifn zk_56 (P := v3 ≤ 0) (t := 68) (f := 31) rfl rfl c7 ?_
        refine zx_ev_blk zk_56 2 (pc1 := 34) (L1 := [some (.ref 19), some (.int v1), some (.int v2), some (.int v3), some (.int v4), some (.int v5), none]) (st1 := [.int v4, .int v1]) (h1 := (zx_SC, m)) rfl ?_
        by_cases c8 : v4 = 0
        · rw [if_pos c8] at hf; cases hf
        · rw [if_neg c8] at hf
          refine zx_ev_step zk_56 rfl (st_idiv c8) ?_
          refine zx_ev_blk zk_56 1 (pc1 := 36) (L1 := [some (.ref 19), some (.int v1), some (.int v2), some (.int v3), some (.int v4), some (.int v5), none]) (st1 := [.int v3, .int (v1 / v4)]) (h1 := (zx_SC, m)) rfl ?_
          by_cases c9 : v3 = 0
          · rw [if_pos c9] at hf; cases hf
          · rw [if_neg c9] at hf
            refine zx_ev_step zk_56 rfl (st_irem c9) ?_
            obtain ⟨a10, ha10, hf⟩ := zx_let_eq hf
            refine zx_ev_blk zk_56 3 (pc1 := 42) (L1 := [some (.ref 19), some (.int v1), some (.int v2), some (.int v3), some (.int v4), some (.int v5), some (.int a10)]) (st1 := [.int a10, .ref 19]) (h1 := (zx_SC, m)) (by subst ha10; rfl) ?_
            obtain ⟨r12, hv11, hf⟩ := zx_bind_eq hf
            refine zx_ev_call (d := d + 1) zk_56 (v := some (.int r12)) (h1 := (zx_SC, m)) rfl rfl zt_54 rfl zx_SCn rfl rfl (s_Order_has _ _ (d := d + 0) hv11) ?_
            by_cases c13 : r12 = 0
            · rw [if_pos c13] at hf
              refine zx_ev_ift zk_56 (P := r12 = 0) (t := 50) (f := 48) rfl rfl c13 ?_
              refine zx_ev_blk zk_56 2 (pc1 := 53) (L1 := [some (.ref 19), some (.int v1), some (.int v2), some (.int v3), some (.int v4), some (.int v5), some (.int a10)]) (st1 := [.int a10, .ref 19]) (h1 := (zx_SC, m)) rfl ?_
              obtain ⟨m15, hv14, hf⟩ := zx_bind_eq hf
              refine zx_ev_call (d := d + 1) zk_56 (v := none) (h1 := (zx_SC, m15)) rfl rfl zt_55 rfl zx_SCn rfl rfl (s_Order_append _ _ (d := d + 1) hv14) ?_
              refine zx_ev_blk zk_56 2 (pc1 := 59) (L1 := [some (.ref 19), some (.int v1), some (.int v2), some (.int v3), some (.int v4), some (.int v5), some (.int a10)]) (st1 := [.int v3, .int v4]) (h1 := (zx_SC, m15)) rfl ?_
              by_cases c16 : v3 = 0
              · rw [if_pos c16] at hf; cases hf
              · rw [if_neg c16] at hf
                refine zx_ev_step zk_56 rfl (st_idiv c16) ?_
                obtain ⟨a17, ha17, hf⟩ := zx_let_eq hf
                obtain ⟨a18, ha18, hf⟩ := zx_let_eq hf
                refine zx_ev_blk zk_56 3 (pc1 := 16) (L1 := [some (.ref 19), some (.int v1), some (.int v2), some (.int v3), some (.int a17), some (.int a18), some (.int a10)]) (st1 := []) (h1 := (zx_SC, m15)) (by subst ha17; subst ha18; rfl) ?_
                obtain rfl := Option.some.inj hf
                exact zx_ev_sub (L := [some (.ref 19), some (.int v1), some (.int v2), some (.int v3), some (.int a17), some (.int a18), none]) (⟨rfl, ⟨rfl, ⟨rfl, ⟨rfl, ⟨rfl, ⟨rfl, ⟨trivial, trivial⟩⟩⟩⟩⟩⟩⟩) hK
            · rw [if_neg c13] at hf
              refine zx_ev_ifn zk_56 (P := r12 = 0) (t := 50) (f := 48) rfl rfl c13 ?_
              refine zx_ev_blk zk_56 1 (pc1 := 49) (L1 := [some (.ref 19), some (.int v1), some (.int v2), some (.int v3), some (.int v4), some (.int v5), some (.int a10)]) (st1 := [.int 0]) (h1 := (zx_SC, m)) rfl ?_
              obtain rfl := Option.some.inj hf
              rw [show out = _ from hK]
              exact zx_ev_ret zk_56 rfl (zx_ret_z (Or.inl rfl))
def l_Order_spell_l16 (v1 : Int32) (v2 : Int32) (v3 : Int32) (s0 : Int32 × Int32 × zx_M) : Option ((Int32 × zx_M)) := zx_lp zx_N (fun s : Int32 × Int32 × zx_M => b_Order_spell_l16 v1 v2 v3 s.1 s.2.1 s.2.2) s0
theorem el_Order_spell_l16 (v1 : Int32) (v2 : Int32) (v3 : Int32) {d : Nat} {out : Option Value × zx_H} : ∀ (n : Nat) (s : Int32 × Int32 × zx_M) (x : (Int32 × zx_M)), zx_lp n (fun s : Int32 × Int32 × zx_M => b_Order_spell_l16 v1 v2 v3 s.1 s.2.1 s.2.2) s = some x → kx_Order_spell_l16 v1 v2 v3 d out x → zx_Ev (d + 2) 56 16 [some (.ref 19), some (.int v1), some (.int v2), some (.int v3), some (.int s.1), some (.int s.2.1), none] [] (zx_SC, s.2.2) out := by
  intro n
  induction n with
  | zero => intro s x hl _; simp [zx_lp] at hl
  | succ n ih =>
    intro s x hl hx
    unfold zx_lp at hl
    cases hb : b_Order_spell_l16 v1 v2 v3 s.1 s.2.1 s.2.2 with
    | none => simp only [hb] at hl; cases hl
    | some z =>
      simp only [hb] at hl
      cases z with
      | inl s1 => exact eb_Order_spell_l16 v1 v2 v3 s.1 s.2.1 s.2.2 hb (ih s1 x hl hx)
      | inr t =>
        simp only [Option.some.injEq] at hl
        subst hl
        exact eb_Order_spell_l16 v1 v2 v3 s.1 s.2.1 s.2.2 hb hx
def f_Order_spell (v1 : Int32) (v2 : Int32) (v3 : Int32) (m : zx_M) : Option (Int32 × zx_M) := (f_Order_clear m).bind fun m2 => (f_Order_power v3 (v2 - 1) m2).bind fun r4 => (l_Order_spell_l16 v1 v2 v3 (r4, 0, m2)).bind fun x19 => zx_let x19 fun y20 => some y20
theorem s_Order_spell (v1 : Int32) (v2 : Int32) (v3 : Int32) (m : zx_M) {d : Nat} {y : (Int32 × zx_M)} (hf : f_Order_spell v1 v2 v3 m = some y) : zx_Ev (d + 2) 56 0 [some (.ref 19), some (.int v1), some (.int v2), some (.int v3), none, none, none] [] (zx_SC, m) (some (.int y.1), (zx_SC, y.2)) := by
  unfold f_Order_spell at hf
  refine zx_ev_blk zk_56 1 (pc1 := 1) (L1 := [some (.ref 19), some (.int v1), some (.int v2), some (.int v3), none, none, none]) (st1 := [.ref 19]) (h1 := (zx_SC, m)) rfl ?_
  obtain ⟨m2, hv1, hf⟩ := zx_bind_eq hf
  refine zx_ev_call (d := d + 1) zk_56 (v := none) (h1 := (zx_SC, m2)) rfl rfl zt_52 rfl zx_SCn rfl rfl (s_Order_clear _ (d := d + 1) hv1) ?_
  refine zx_ev_blk zk_56 4 (pc1 := 8) (L1 := [some (.ref 19), some (.int v1), some (.int v2), some (.int v3), none, none, none]) (st1 := [.int (v2 - 1), .int v3]) (h1 := (zx_SC, m2)) rfl ?_
  obtain ⟨r4, hv3, hf⟩ := zx_bind_eq hf
  refine zx_ev_call (d := d + 1) zk_56 (v := some (.int r4)) (h1 := (zx_SC, m2)) rfl rfl zt_57 rfl zx_SCn rfl rfl (s_Order_power _ _ _ (d := d + 1) hv3) ?_
  refine zx_ev_blk zk_56 3 (pc1 := 16) (L1 := [some (.ref 19), some (.int v1), some (.int v2), some (.int v3), some (.int r4), some (.int 0), none]) (st1 := []) (h1 := (zx_SC, m2)) rfl ?_
  obtain ⟨x19, hx19, hf⟩ := zx_bind_eq hf
  refine zx_ev_sub (L := [some (.ref 19), some (.int v1), some (.int v2), some (.int v3), some (.int r4), some (.int 0), none]) (⟨rfl, ⟨rfl, ⟨rfl, ⟨rfl, ⟨rfl, ⟨rfl, trivial⟩⟩⟩⟩⟩⟩) (el_Order_spell_l16 v1 v2 v3 zx_N (r4, 0, m2) x19 hx19 ?_)
  obtain ⟨y20, hy20, hf⟩ := zx_let_eq hf
  subst hy20
  obtain rfl := Option.some.inj hf
  rfl
def kx_Jumps_wellFrom_28_l39 (v1 : Int32) (v2 : Int32) (v3 : Int32) (v4 : Int32) (v5 : Int32) (m : zx_M) (d : Nat) (out : Option Value × zx_H) : Int32 → Prop
  | y => out = (some (.int y), (zx_SC, m))
def kl_Jumps_wellFrom_28_l39 (v1 : Int32) (v2 : Int32) (v3 : Int32) (v4 : Int32) (v5 : Int32) (m : zx_M) (d : Nat) (out : Option Value × zx_H) : (Int32 × Int32) ⊕ (Int32) → Prop
  | .inl (v6, v7) => zx_Ev (d + 1) 40 39 [some (.ref 28), some (.int v1), some (.int v2), some (.int v3), some (.int v4), some (.int v5), some (.int v6), some (.int v7), none, none] [] (zx_SC, m) out
  | .inr x => kx_Jumps_wellFrom_28_l39 v1 v2 v3 v4 v5 m d out x
def n_Jumps_wellFrom_28_b39_127 (v1 : Int32) (v2 : Int32) (v3 : Int32) (v4 : Int32) (v5 : Int32) (v6 : Int32) (v7 : Int32) (m : zx_M) : Option ((Int32 × Int32) ⊕ (Int32)) := zx_let (v7 + 1) fun a13 => some (.inl (v6, a13))
theorem e_Jumps_wellFrom_28_b39_127 (v1 : Int32) (v2 : Int32) (v3 : Int32) (v4 : Int32) (v5 : Int32) (v6 : Int32) (v7 : Int32) (m : zx_M) {d : Nat} {out : Option Value × zx_H} {y : (Int32 × Int32) ⊕ (Int32)} (hf : n_Jumps_wellFrom_28_b39_127 v1 v2 v3 v4 v5 v6 v7 m = some y) (hK : kl_Jumps_wellFrom_28_l39 v1 v2 v3 v4 v5 m d out y) : zx_Ev (d + 1) 40 127 [some (.ref 28), some (.int v1), some (.int v2), some (.int v3), some (.int v4), some (.int v5), some (.int v6), some (.int v7), none, none] [] (zx_SC, m) out := by
  unfold n_Jumps_wellFrom_28_b39_127 at hf
  obtain ⟨a13, ha13, hf⟩ := zx_let_eq hf
  refine zx_ev_blk zk_40 2 (pc1 := 39) (L1 := [some (.ref 28), some (.int v1), some (.int v2), some (.int v3), some (.int v4), some (.int v5), some (.int v6), some (.int a13), none, none]) (st1 := []) (h1 := (zx_SC, m)) (by subst ha13; rfl) ?_
  obtain rfl := Option.some.inj hf
  exact zx_ev_sub (L := [some (.ref 28), some (.int v1), some (.int v2), some (.int v3), some (.int v4), some (.int v5), some (.int v6), some (.int a13), none, none]) (⟨rfl, ⟨rfl, ⟨rfl, ⟨rfl, ⟨rfl, ⟨rfl, ⟨rfl, ⟨rfl, trivial⟩⟩⟩⟩⟩⟩⟩⟩) hK
def n_Jumps_wellFrom_28_b39_124 (v1 : Int32) (v2 : Int32) (v3 : Int32) (v4 : Int32) (v5 : Int32) (v6 : Int32) (v7 : Int32) (m : zx_M) : Option ((Int32 × Int32) ⊕ (Int32)) := zx_let (v6 + 1) fun a17 => n_Jumps_wellFrom_28_b39_127 v1 v2 v3 v4 v5 a17 v7 m
theorem e_Jumps_wellFrom_28_b39_124 (v1 : Int32) (v2 : Int32) (v3 : Int32) (v4 : Int32) (v5 : Int32) (v6 : Int32) (v7 : Int32) (m : zx_M) {d : Nat} {out : Option Value × zx_H} {y : (Int32 × Int32) ⊕ (Int32)} (hf : n_Jumps_wellFrom_28_b39_124 v1 v2 v3 v4 v5 v6 v7 m = some y) (hK : kl_Jumps_wellFrom_28_l39 v1 v2 v3 v4 v5 m d out y) : zx_Ev (d + 1) 40 124 [some (.ref 28), some (.int v1), some (.int v2), some (.int v3), some (.int v4), some (.int v5), some (.int v6), some (.int v7), none, none] [] (zx_SC, m) out := by
  unfold n_Jumps_wellFrom_28_b39_124 at hf
  obtain ⟨a17, ha17, hf⟩ := zx_let_eq hf
  refine zx_ev_blk zk_40 1 (pc1 := 127) (L1 := [some (.ref 28), some (.int v1), some (.int v2), some (.int v3), some (.int v4), some (.int v5), some (.int a17), some (.int v7), none, none]) (st1 := []) (h1 := (zx_SC, m)) (by subst ha17; rfl) ?_
  exact zx_ev_sub (L := [some (.ref 28), some (.int v1), some (.int v2), some (.int v3), some (.int v4), some (.int v5), some (.int a17), some (.int v7), none, none]) (⟨rfl, ⟨rfl, ⟨rfl, ⟨rfl, ⟨rfl, ⟨rfl, ⟨rfl, ⟨rfl, trivial⟩⟩⟩⟩⟩⟩⟩⟩) (e_Jumps_wellFrom_28_b39_127 v1 v2 v3 v4 v5 a17 v7 m hf hK)
def n_Jumps_wellFrom_28_b39_90 (v1 : Int32) (v2 : Int32) (v3 : Int32) (v4 : Int32) (v5 : Int32) (v6 : Int32) (v7 : Int32) (v8 : Int32) (t0 : Int32) (m : zx_M) : Option ((Int32 × Int32) ⊕ (Int32)) := if t0 = 0 then n_Jumps_wellFrom_28_b39_127 v1 v2 v3 v4 v5 v6 v7 m else if v8 < v3 then n_Jumps_wellFrom_28_b39_127 v1 v2 v3 v4 v5 v6 v7 m else if v4 < v8 then n_Jumps_wellFrom_28_b39_127 v1 v2 v3 v4 v5 v6 v7 m else if ¬ v2 = 0 then n_Jumps_wellFrom_28_b39_124 v1 v2 v3 v4 v5 v6 v7 m else (zx_ix 7 v7).bind fun j18 => if ¬ (m.1 31 j18) = 0 then n_Jumps_wellFrom_28_b39_127 v1 v2 v3 v4 v5 v6 v7 m else n_Jumps_wellFrom_28_b39_124 v1 v2 v3 v4 v5 v6 v7 m
theorem e_Jumps_wellFrom_28_b39_90 (v1 : Int32) (v2 : Int32) (v3 : Int32) (v4 : Int32) (v5 : Int32) (v6 : Int32) (v7 : Int32) (v8 : Int32) (t0 : Int32) (m : zx_M) {d : Nat} {out : Option Value × zx_H} {y : (Int32 × Int32) ⊕ (Int32)} (hf : n_Jumps_wellFrom_28_b39_90 v1 v2 v3 v4 v5 v6 v7 v8 t0 m = some y) (hK : kl_Jumps_wellFrom_28_l39 v1 v2 v3 v4 v5 m d out y) : zx_Ev (d + 1) 40 90 [some (.ref 28), some (.int v1), some (.int v2), some (.int v3), some (.int v4), some (.int v5), some (.int v6), some (.int v7), some (.int v8), none] [.int t0] (zx_SC, m) out := by
  unfold n_Jumps_wellFrom_28_b39_90 at hf
  refine zx_ev_blk zk_40 2 (pc1 := 94) (L1 := [some (.ref 28), some (.int v1), some (.int v2), some (.int v3), some (.int v4), some (.int v5), some (.int v6), some (.int v7), some (.int v8), some (.int t0)]) (st1 := [.int t0]) (h1 := (zx_SC, m)) rfl ?_
  by_cases c12 : t0 = 0
  · rw [if_pos c12] at hf
    refine zx_ev_ift zk_40 (P := t0 = 0) (t := 127) (f := 97) rfl rfl c12 ?_
    exact zx_ev_sub (L := [some (.ref 28), some (.int v1), some (.int v2), some (.int v3), some (.int v4), some (.int v5), some (.int v6), some (.int v7), none, none]) (⟨rfl, ⟨rfl, ⟨rfl, ⟨rfl, ⟨rfl, ⟨rfl, ⟨rfl, ⟨rfl, ⟨trivial, ⟨trivial, trivial⟩⟩⟩⟩⟩⟩⟩⟩⟩⟩) (e_Jumps_wellFrom_28_b39_127 v1 v2 v3 v4 v5 v6 v7 m hf hK)
  · rw [if_neg c12] at hf
    refine zx_ev_ifn zk_40 (P := t0 = 0) (t := 127) (f := 97) rfl rfl c12 ?_
    refine zx_ev_blk zk_40 2 (pc1 := 100) (L1 := [some (.ref 28), some (.int v1), some (.int v2), some (.int v3), some (.int v4), some (.int v5), some (.int v6), some (.int v7), some (.int v8), some (.int t0)]) (st1 := [.int v3, .int v8]) (h1 := (zx_SC, m)) rfl ?_
    by_cases c14 : v8 < v3
    · rw [if_pos c14] at hf
      refine zx_ev_ift zk_40 (P := v8 < v3) (t := 127) (f := 103) rfl rfl c14 ?_
      exact zx_ev_sub (L := [some (.ref 28), some (.int v1), some (.int v2), some (.int v3), some (.int v4), some (.int v5), some (.int v6), some (.int v7), none, none]) (⟨rfl, ⟨rfl, ⟨rfl, ⟨rfl, ⟨rfl, ⟨rfl, ⟨rfl, ⟨rfl, ⟨trivial, ⟨trivial, trivial⟩⟩⟩⟩⟩⟩⟩⟩⟩⟩) (e_Jumps_wellFrom_28_b39_127 v1 v2 v3 v4 v5 v6 v7 m hf hK)
    · rw [if_neg c14] at hf
      refine zx_ev_ifn zk_40 (P := v8 < v3) (t := 127) (f := 103) rfl rfl c14 ?_
      refine zx_ev_blk zk_40 2 (pc1 := 107) (L1 := [some (.ref 28), some (.int v1), some (.int v2), some (.int v3), some (.int v4), some (.int v5), some (.int v6), some (.int v7), some (.int v8), some (.int t0)]) (st1 := [.int v4, .int v8]) (h1 := (zx_SC, m)) rfl ?_
      by_cases c15 : v4 < v8
      · rw [if_pos c15] at hf
        refine zx_ev_ift zk_40 (P := v4 < v8) (t := 127) (f := 110) rfl rfl c15 ?_
        exact zx_ev_sub (L := [some (.ref 28), some (.int v1), some (.int v2), some (.int v3), some (.int v4), some (.int v5), some (.int v6), some (.int v7), none, none]) (⟨rfl, ⟨rfl, ⟨rfl, ⟨rfl, ⟨rfl, ⟨rfl, ⟨rfl, ⟨rfl, ⟨trivial, ⟨trivial, trivial⟩⟩⟩⟩⟩⟩⟩⟩⟩⟩) (e_Jumps_wellFrom_28_b39_127 v1 v2 v3 v4 v5 v6 v7 m hf hK)
      · rw [if_neg c15] at hf
        refine zx_ev_ifn zk_40 (P := v4 < v8) (t := 127) (f := 110) rfl rfl c15 ?_
        refine zx_ev_blk zk_40 1 (pc1 := 111) (L1 := [some (.ref 28), some (.int v1), some (.int v2), some (.int v3), some (.int v4), some (.int v5), some (.int v6), some (.int v7), some (.int v8), some (.int t0)]) (st1 := [.int v2]) (h1 := (zx_SC, m)) rfl ?_
        by_cases c16 : ¬ v2 = 0
        · rw [if_pos c16] at hf
          refine zx_ev_ift zk_40 (P := ¬ v2 = 0) (t := 124) (f := 114) rfl rfl c16 ?_
          exact zx_ev_sub (L := [some (.ref 28), some (.int v1), some (.int v2), some (.int v3), some (.int v4), some (.int v5), some (.int v6), some (.int v7), none, none]) (⟨rfl, ⟨rfl, ⟨rfl, ⟨rfl, ⟨rfl, ⟨rfl, ⟨rfl, ⟨rfl, ⟨trivial, ⟨trivial, trivial⟩⟩⟩⟩⟩⟩⟩⟩⟩⟩) (e_Jumps_wellFrom_28_b39_124 v1 v2 v3 v4 v5 v6 v7 m hf hK)
        · rw [if_neg c16] at hf
          refine zx_ev_ifn zk_40 (P := ¬ v2 = 0) (t := 124) (f := 114) rfl rfl c16 ?_
          refine zx_ev_blk zk_40 3 (pc1 := 120) (L1 := [some (.ref 28), some (.int v1), some (.int v2), some (.int v3), some (.int v4), some (.int v5), some (.int v6), some (.int v7), some (.int v8), some (.int t0)]) (st1 := [.int v7, .ref 31]) (h1 := (zx_SC, m)) rfl ?_
          obtain ⟨j18, hj18, hf⟩ := zx_bind_eq hf
          refine zx_ev_step zk_40 rfl (st_zald rfl rfl hj18) ?_
          by_cases c19 : ¬ (m.1 31 j18) = 0
          · rw [if_pos c19] at hf
            refine zx_ev_ift zk_40 (P := ¬ (m.1 31 j18) = 0) (t := 127) (f := 124) rfl rfl c19 ?_
            exact zx_ev_sub (L := [some (.ref 28), some (.int v1), some (.int v2), some (.int v3), some (.int v4), some (.int v5), some (.int v6), some (.int v7), none, none]) (⟨rfl, ⟨rfl, ⟨rfl, ⟨rfl, ⟨rfl, ⟨rfl, ⟨rfl, ⟨rfl, ⟨trivial, ⟨trivial, trivial⟩⟩⟩⟩⟩⟩⟩⟩⟩⟩) (e_Jumps_wellFrom_28_b39_127 v1 v2 v3 v4 v5 v6 v7 m hf hK)
          · rw [if_neg c19] at hf
            refine zx_ev_ifn zk_40 (P := ¬ (m.1 31 j18) = 0) (t := 127) (f := 124) rfl rfl c19 ?_
            exact zx_ev_sub (L := [some (.ref 28), some (.int v1), some (.int v2), some (.int v3), some (.int v4), some (.int v5), some (.int v6), some (.int v7), none, none]) (⟨rfl, ⟨rfl, ⟨rfl, ⟨rfl, ⟨rfl, ⟨rfl, ⟨rfl, ⟨rfl, ⟨trivial, ⟨trivial, trivial⟩⟩⟩⟩⟩⟩⟩⟩⟩⟩) (e_Jumps_wellFrom_28_b39_124 v1 v2 v3 v4 v5 v6 v7 m hf hK)
def n_Jumps_wellFrom_28_b39_85 (v1 : Int32) (v2 : Int32) (v3 : Int32) (v4 : Int32) (v5 : Int32) (v6 : Int32) (v7 : Int32) (v8 : Int32) (m : zx_M) : Option ((Int32 × Int32) ⊕ (Int32)) := n_Jumps_wellFrom_28_b39_90 v1 v2 v3 v4 v5 v6 v7 v8 1 m
theorem e_Jumps_wellFrom_28_b39_85 (v1 : Int32) (v2 : Int32) (v3 : Int32) (v4 : Int32) (v5 : Int32) (v6 : Int32) (v7 : Int32) (v8 : Int32) (m : zx_M) {d : Nat} {out : Option Value × zx_H} {y : (Int32 × Int32) ⊕ (Int32)} (hf : n_Jumps_wellFrom_28_b39_85 v1 v2 v3 v4 v5 v6 v7 v8 m = some y) (hK : kl_Jumps_wellFrom_28_l39 v1 v2 v3 v4 v5 m d out y) : zx_Ev (d + 1) 40 85 [some (.ref 28), some (.int v1), some (.int v2), some (.int v3), some (.int v4), some (.int v5), some (.int v6), some (.int v7), some (.int v8), none] [] (zx_SC, m) out := by
  unfold n_Jumps_wellFrom_28_b39_85 at hf
  refine zx_ev_blk zk_40 2 (pc1 := 90) (L1 := [some (.ref 28), some (.int v1), some (.int v2), some (.int v3), some (.int v4), some (.int v5), some (.int v6), some (.int v7), some (.int v8), none]) (st1 := [.int 1]) (h1 := (zx_SC, m)) rfl ?_
  exact zx_ev_sub (L := [some (.ref 28), some (.int v1), some (.int v2), some (.int v3), some (.int v4), some (.int v5), some (.int v6), some (.int v7), some (.int v8), none]) (⟨rfl, ⟨rfl, ⟨rfl, ⟨rfl, ⟨rfl, ⟨rfl, ⟨rfl, ⟨rfl, ⟨rfl, trivial⟩⟩⟩⟩⟩⟩⟩⟩⟩) (e_Jumps_wellFrom_28_b39_90 v1 v2 v3 v4 v5 v6 v7 v8 1 m hf hK)
def b_Jumps_wellFrom_28_l39 (v1 : Int32) (v2 : Int32) (v3 : Int32) (v4 : Int32) (v5 : Int32) (v6 : Int32) (v7 : Int32) (m : zx_M) : Option ((Int32 × Int32) ⊕ (Int32)) := if (m.1 28 4) ≤ v7 then some (.inr v6) else if 7 ≤ v7 then some (.inr v6) else (zx_ix 7 v7).bind fun j9 => zx_let (v1 + (m.1 30 j9)) fun a10 => if v5 = (-2000000000) then n_Jumps_wellFrom_28_b39_85 v1 v2 v3 v4 v5 v6 v7 a10 m else if (zx_abs (a10 - v5)) ≤ 5 then n_Jumps_wellFrom_28_b39_90 v1 v2 v3 v4 v5 v6 v7 a10 0 m else n_Jumps_wellFrom_28_b39_85 v1 v2 v3 v4 v5 v6 v7 a10 m
theorem eb_Jumps_wellFrom_28_l39 (v1 : Int32) (v2 : Int32) (v3 : Int32) (v4 : Int32) (v5 : Int32) (v6 : Int32) (v7 : Int32) (m : zx_M) {d : Nat} {out : Option Value × zx_H} {y : (Int32 × Int32) ⊕ (Int32)} (hf : b_Jumps_wellFrom_28_l39 v1 v2 v3 v4 v5 v6 v7 m = some y) (hK : kl_Jumps_wellFrom_28_l39 v1 v2 v3 v4 v5 m d out y) : zx_Ev (d + 1) 40 39 [some (.ref 28), some (.int v1), some (.int v2), some (.int v3), some (.int v4), some (.int v5), some (.int v6), some (.int v7), none, none] [] (zx_SC, m) out := by
  unfold b_Jumps_wellFrom_28_l39 at hf
  refine zx_ev_blk zk_40 3 (pc1 := 45) (L1 := [some (.ref 28), some (.int v1), some (.int v2), some (.int v3), some (.int v4), some (.int v5), some (.int v6), some (.int v7), none, none]) (st1 := [.int (m.1 28 4), .int v7]) (h1 := (zx_SC, m)) rfl ?_
  by_cases c7 : (m.1 28 4) ≤ v7
  · rw [if_pos c7] at hf
    refine zx_ev_ift zk_40 (P := (m.1 28 4) ≤ v7) (t := 133) (f := 48) rfl rfl c7 ?_
    refine zx_ev_blk zk_40 1 (pc1 := 135) (L1 := [some (.ref 28), some (.int v1), some (.int v2), some (.int v3), some (.int v4), some (.int v5), some (.int v6), some (.int v7), none, none]) (st1 := [.int v6]) (h1 := (zx_SC, m)) rfl ?_
    obtain rfl := Option.some.inj hf
    rw [show out = _ from hK]
    exact zx_ev_ret zk_40 rfl rfl
  · rw [if_neg c7] at hf
    refine zx_ev_ifn zk_40 (P := (m.1 28 4) ≤ v7) (t := 133) (f := 48) rfl rfl c7 ?_
    refine zx_ev_blk zk_40 2 (pc1 := 52) (L1 := [some (.ref 28), some (.int v1), some (.int v2), some (.int v3), some (.int v4), some (.int v5), some (.int v6), some (.int v7), none, none]) (st1 := [.int 7, .int v7]) (h1 := (zx_SC, m)) rfl ?_
    by_cases c8 : 7 ≤ v7
    · rw [if_pos c8] at hf
      refine zx_ev_ift zk_40 (P := 7 ≤ v7) (t := 133) (f := 55) rfl rfl c8 ?_
      refine zx_ev_blk zk_40 1 (pc1 := 135) (L1 := [some (.ref 28), some (.int v1), some (.int v2), some (.int v3), some (.int v4), some (.int v5), some (.int v6), some (.int v7), none, none]) (st1 := [.int v6]) (h1 := (zx_SC, m)) rfl ?_
      obtain rfl := Option.some.inj hf
      rw [show out = _ from hK]
      exact zx_ev_ret zk_40 rfl rfl
    · rw [if_neg c8] at hf
      refine zx_ev_ifn zk_40 (P := 7 ≤ v7) (t := 133) (f := 55) rfl rfl c8 ?_
      refine zx_ev_blk zk_40 4 (pc1 := 62) (L1 := [some (.ref 28), some (.int v1), some (.int v2), some (.int v3), some (.int v4), some (.int v5), some (.int v6), some (.int v7), none, none]) (st1 := [.int v7, .ref 30, .int v1]) (h1 := (zx_SC, m)) rfl ?_
      obtain ⟨j9, hj9, hf⟩ := zx_bind_eq hf
      refine zx_ev_step zk_40 rfl (st_iald rfl rfl hj9) ?_
      obtain ⟨a10, ha10, hf⟩ := zx_let_eq hf
      refine zx_ev_blk zk_40 4 (pc1 := 70) (L1 := [some (.ref 28), some (.int v1), some (.int v2), some (.int v3), some (.int v4), some (.int v5), some (.int v6), some (.int v7), some (.int a10), none]) (st1 := [.int (-2000000000), .int v5]) (h1 := (zx_SC, m)) (by subst ha10; rfl) ?_
      by_cases c11 : v5 = (-2000000000)
      · rw [if_pos c11] at hf
        refine zx_ev_ift zk_40 (P := v5 = (-2000000000)) (t := 85) (f := 73) rfl rfl c11 ?_
        exact zx_ev_sub (L := [some (.ref 28), some (.int v1), some (.int v2), some (.int v3), some (.int v4), some (.int v5), some (.int v6), some (.int v7), some (.int a10), none]) (⟨rfl, ⟨rfl, ⟨rfl, ⟨rfl, ⟨rfl, ⟨rfl, ⟨rfl, ⟨rfl, ⟨rfl, trivial⟩⟩⟩⟩⟩⟩⟩⟩⟩) (e_Jumps_wellFrom_28_b39_85 v1 v2 v3 v4 v5 v6 v7 a10 m hf hK)
      · rw [if_neg c11] at hf
        refine zx_ev_ifn zk_40 (P := v5 = (-2000000000)) (t := 85) (f := 73) rfl rfl c11 ?_
        refine zx_ev_blk zk_40 5 (pc1 := 82) (L1 := [some (.ref 28), some (.int v1), some (.int v2), some (.int v3), some (.int v4), some (.int v5), some (.int v6), some (.int v7), some (.int a10), none]) (st1 := [.int 5, .int (zx_abs (a10 - v5))]) (h1 := (zx_SC, m)) rfl ?_
        by_cases c20 : (zx_abs (a10 - v5)) ≤ 5
        · rw [if_pos c20] at hf
          refine zx_ev_ift zk_40 (P := (zx_abs (a10 - v5)) ≤ 5) (t := 89) (f := 85) rfl rfl c20 ?_
          refine zx_ev_blk zk_40 1 (pc1 := 90) (L1 := [some (.ref 28), some (.int v1), some (.int v2), some (.int v3), some (.int v4), some (.int v5), some (.int v6), some (.int v7), some (.int a10), none]) (st1 := [.int 0]) (h1 := (zx_SC, m)) rfl ?_
          exact zx_ev_sub (L := [some (.ref 28), some (.int v1), some (.int v2), some (.int v3), some (.int v4), some (.int v5), some (.int v6), some (.int v7), some (.int a10), none]) (⟨rfl, ⟨rfl, ⟨rfl, ⟨rfl, ⟨rfl, ⟨rfl, ⟨rfl, ⟨rfl, ⟨rfl, trivial⟩⟩⟩⟩⟩⟩⟩⟩⟩) (e_Jumps_wellFrom_28_b39_90 v1 v2 v3 v4 v5 v6 v7 a10 0 m hf hK)
        · rw [if_neg c20] at hf
          refine zx_ev_ifn zk_40 (P := (zx_abs (a10 - v5)) ≤ 5) (t := 89) (f := 85) rfl rfl c20 ?_
          exact zx_ev_sub (L := [some (.ref 28), some (.int v1), some (.int v2), some (.int v3), some (.int v4), some (.int v5), some (.int v6), some (.int v7), some (.int a10), none]) (⟨rfl, ⟨rfl, ⟨rfl, ⟨rfl, ⟨rfl, ⟨rfl, ⟨rfl, ⟨rfl, ⟨rfl, trivial⟩⟩⟩⟩⟩⟩⟩⟩⟩) (e_Jumps_wellFrom_28_b39_85 v1 v2 v3 v4 v5 v6 v7 a10 m hf hK)
def l_Jumps_wellFrom_28_l39 (v1 : Int32) (v2 : Int32) (v3 : Int32) (v4 : Int32) (v5 : Int32) (m : zx_M) (s0 : Int32 × Int32) : Option (Int32) := zx_lp zx_N (fun s : Int32 × Int32 => b_Jumps_wellFrom_28_l39 v1 v2 v3 v4 v5 s.1 s.2 m) s0
theorem el_Jumps_wellFrom_28_l39 (v1 : Int32) (v2 : Int32) (v3 : Int32) (v4 : Int32) (v5 : Int32) (m : zx_M) {d : Nat} {out : Option Value × zx_H} : ∀ (n : Nat) (s : Int32 × Int32) (x : Int32), zx_lp n (fun s : Int32 × Int32 => b_Jumps_wellFrom_28_l39 v1 v2 v3 v4 v5 s.1 s.2 m) s = some x → kx_Jumps_wellFrom_28_l39 v1 v2 v3 v4 v5 m d out x → zx_Ev (d + 1) 40 39 [some (.ref 28), some (.int v1), some (.int v2), some (.int v3), some (.int v4), some (.int v5), some (.int s.1), some (.int s.2), none, none] [] (zx_SC, m) out := by
  intro n
  induction n with
  | zero => intro s x hl _; simp [zx_lp] at hl
  | succ n ih =>
    intro s x hl hx
    unfold zx_lp at hl
    cases hb : b_Jumps_wellFrom_28_l39 v1 v2 v3 v4 v5 s.1 s.2 m with
    | none => simp only [hb] at hl; cases hl
    | some z =>
      simp only [hb] at hl
      cases z with
      | inl s1 => exact eb_Jumps_wellFrom_28_l39 v1 v2 v3 v4 v5 s.1 s.2 m hb (ih s1 x hl hx)
      | inr t =>
        simp only [Option.some.injEq] at hl
        subst hl
        exact eb_Jumps_wellFrom_28_l39 v1 v2 v3 v4 v5 s.1 s.2 m hb hx
def f_Jumps_wellFrom_28 (v1 : Int32) (v2 : Int32) (m : zx_M) : Option Int32 := (f_Numbers_told 0 4 m).bind fun r2 => (f_Numbers_told 0 5 m).bind fun r4 => (f_Numbers_told 0 6 m).bind fun r6 => (l_Jumps_wellFrom_28_l39 v1 v2 r2 r4 r6 m (0, 0)).bind fun x21 => zx_let x21 fun y22 => some y22
theorem s_Jumps_wellFrom_28 (v1 : Int32) (v2 : Int32) (m : zx_M) {d : Nat} {y : Int32} (hf : f_Jumps_wellFrom_28 v1 v2 m = some y) : zx_Ev (d + 1) 40 0 [some (.ref 28), some (.int v1), some (.int v2), none, none, none, none, none, none, none] [] (zx_SC, m) (some (.int y), (zx_SC, m)) := by
  unfold f_Jumps_wellFrom_28 at hf
  refine zx_ev_blk zk_40 4 (pc1 := 6) (L1 := [some (.ref 28), some (.int v1), some (.int v2), none, none, none, none, none, none, none]) (st1 := [.int 4, .int 0, .ref 1]) (h1 := (zx_SC, m)) rfl ?_
  obtain ⟨r2, hv1, hf⟩ := zx_bind_eq hf
  refine zx_ev_call (d := d + 0) zk_40 (v := some (.int r2)) (h1 := (zx_SC, m)) rfl rfl zt_46 rfl zx_SCn rfl rfl (s_Numbers_told _ _ _ (d := d + 0) hv1) ?_
  refine zx_ev_blk zk_40 5 (pc1 := 16) (L1 := [some (.ref 28), some (.int v1), some (.int v2), some (.int r2), none, none, none, none, none, none]) (st1 := [.int 5, .int 0, .ref 1]) (h1 := (zx_SC, m)) rfl ?_
  obtain ⟨r4, hv3, hf⟩ := zx_bind_eq hf
  refine zx_ev_call (d := d + 0) zk_40 (v := some (.int r4)) (h1 := (zx_SC, m)) rfl rfl zt_46 rfl zx_SCn rfl rfl (s_Numbers_told _ _ _ (d := d + 0) hv3) ?_
  refine zx_ev_blk zk_40 5 (pc1 := 28) (L1 := [some (.ref 28), some (.int v1), some (.int v2), some (.int r2), some (.int r4), none, none, none, none, none]) (st1 := [.int 6, .int 0, .ref 1]) (h1 := (zx_SC, m)) rfl ?_
  obtain ⟨r6, hv5, hf⟩ := zx_bind_eq hf
  refine zx_ev_call (d := d + 0) zk_40 (v := some (.int r6)) (h1 := (zx_SC, m)) rfl rfl zt_46 rfl zx_SCn rfl rfl (s_Numbers_told _ _ _ (d := d + 0) hv5) ?_
  refine zx_ev_blk zk_40 5 (pc1 := 39) (L1 := [some (.ref 28), some (.int v1), some (.int v2), some (.int r2), some (.int r4), some (.int r6), some (.int 0), some (.int 0), none, none]) (st1 := []) (h1 := (zx_SC, m)) rfl ?_
  obtain ⟨x21, hx21, hf⟩ := zx_bind_eq hf
  refine zx_ev_sub (L := [some (.ref 28), some (.int v1), some (.int v2), some (.int r2), some (.int r4), some (.int r6), some (.int 0), some (.int 0), none, none]) (⟨rfl, ⟨rfl, ⟨rfl, ⟨rfl, ⟨rfl, ⟨rfl, ⟨rfl, ⟨rfl, trivial⟩⟩⟩⟩⟩⟩⟩⟩) (el_Jumps_wellFrom_28_l39 v1 v2 r2 r4 r6 m zx_N (0, 0) x21 hx21 ?_)
  obtain ⟨y22, hy22, hf⟩ := zx_let_eq hf
  subst hy22
  obtain rfl := Option.some.inj hf
  rfl
def f_Jumps_good_28 (v1 : Int32) (m : zx_M) : Option Int32 := (f_Jumps_wellFrom_28 v1 0 m).bind fun r2 => some r2
theorem s_Jumps_good_28 (v1 : Int32) (m : zx_M) {d : Nat} {y : Int32} (hf : f_Jumps_good_28 v1 m = some y) : zx_Ev (d + 2) 39 0 [some (.ref 28), some (.int v1)] [] (zx_SC, m) (some (.int y), (zx_SC, m)) := by
  unfold f_Jumps_good_28 at hf
  refine zx_ev_blk zk_39 3 (pc1 := 3) (L1 := [some (.ref 28), some (.int v1)]) (st1 := [.int 0, .int v1, .ref 28]) (h1 := (zx_SC, m)) rfl ?_
  obtain ⟨r2, hv1, hf⟩ := zx_bind_eq hf
  refine zx_ev_call (d := d + 1) zk_39 (v := some (.int r2)) (h1 := (zx_SC, m)) rfl rfl zt_40 rfl zx_SCn rfl rfl (s_Jumps_wellFrom_28 _ _ _ (d := d + 0) hv1) ?_
  obtain rfl := Option.some.inj hf
  exact zx_ev_ret zk_39 rfl rfl
def f_Deed_end_26 (m : zx_M) : Option (Int32 × zx_M) := if ¬ (m.1 26 3) = 0 then zx_let (zx_u1 m 26 3 0) fun m2 => zx_let (zx_u1 m2 26 6 ((m2.1 26 6) + 1)) fun m3 => (f_Jumps_good_28 0 m3).bind fun r5 => zx_let (zx_u1 m3 26 8 ((m3.1 26 8) + r5)) fun m6 => some (r5, m6) else some ((-5), m)
theorem s_Deed_end_26 (m : zx_M) {d : Nat} {y : (Int32 × zx_M)} (hf : f_Deed_end_26 m = some y) : zx_Ev (d + 3) 29 0 [some (.ref 26), none] [] (zx_SC, m) (some (.int y.1), (zx_SC, y.2)) := by
  unfold f_Deed_end_26 at hf
  refine zx_ev_blk zk_29 2 (pc1 := 4) (L1 := [some (.ref 26), none]) (st1 := [.int (m.1 26 3)]) (h1 := (zx_SC, m)) rfl ?_
  by_cases c1 : ¬ (m.1 26 3) = 0
  · rw [if_pos c1] at hf
    refine zx_ev_ift zk_29 (P := ¬ (m.1 26 3) = 0) (t := 10) (f := 7) rfl rfl c1 ?_
    obtain ⟨m2, hm2, hf⟩ := zx_let_eq hf
    obtain ⟨m3, hm3, hf⟩ := zx_let_eq hf
    refine zx_ev_blk zk_29 12 (pc1 := 30) (L1 := [some (.ref 26), none]) (st1 := [.int 0, .ref 28]) (h1 := (zx_SC, m3)) (by subst hm2; subst hm3; rfl) ?_
    obtain ⟨r5, hv4, hf⟩ := zx_bind_eq hf
    refine zx_ev_call (d := d + 2) zk_29 (v := some (.int r5)) (h1 := (zx_SC, m3)) rfl rfl zt_39 rfl zx_SCn rfl rfl (s_Jumps_good_28 _ _ (d := d + 0) hv4) ?_
    obtain ⟨m6, hm6, hf⟩ := zx_let_eq hf
    refine zx_ev_blk zk_29 8 (pc1 := 45) (L1 := [some (.ref 26), some (.int r5)]) (st1 := [.int r5]) (h1 := (zx_SC, m6)) (by subst hm6; rfl) ?_
    obtain rfl := Option.some.inj hf
    exact zx_ev_ret zk_29 rfl rfl
  · rw [if_neg c1] at hf
    refine zx_ev_ifn zk_29 (P := ¬ (m.1 26 3) = 0) (t := 10) (f := 7) rfl rfl c1 ?_
    refine zx_ev_blk zk_29 1 (pc1 := 9) (L1 := [some (.ref 26), none]) (st1 := [.int (-5)]) (h1 := (zx_SC, m)) rfl ?_
    obtain rfl := Option.some.inj hf
    exact zx_ev_ret zk_29 rfl rfl
def f_Shelves_lowestBits (v0 : Int32) (v1 : Int64) (m : zx_M) : Option Int64 := if v0 = 0 then some (Int32.toInt64 (zx_i2b (Int64.toInt32 v1))) else if v0 = 1 then some (Int32.toInt64 (zx_i2s (Int64.toInt32 v1))) else if v0 = 2 then some (Int32.toInt64 (Int64.toInt32 v1)) else if v0 = 3 then some v1 else if v0 = 4 then if (lg_cmp v1 0) = 0 then some 0 else some 1 else some v1
theorem s_Shelves_lowestBits (v0 : Int32) (v1 : Int64) (m : zx_M) {d : Nat} {y : Int64} (hf : f_Shelves_lowestBits v0 v1 m = some y) : zx_Ev (d) 68 0 [some (.int v0), some (.long v1), none] [] (zx_SC, m) (some (.long y), (zx_SC, m)) := by
  unfold f_Shelves_lowestBits at hf
  refine zx_ev_blk zk_68 1 (pc1 := 1) (L1 := [some (.int v0), some (.long v1), none]) (st1 := [.int v0]) (h1 := (zx_SC, m)) rfl ?_
  by_cases c1 : v0 = 0
  · rw [if_pos c1] at hf
    refine zx_ev_tsw zk_68 rfl rfl (zx_pick_hit c1) rfl ?_
    refine zx_ev_blk zk_68 4 (pc1 := 40) (L1 := [some (.int v0), some (.long v1), none]) (st1 := [.long (Int32.toInt64 (zx_i2b (Int64.toInt32 v1)))]) (h1 := (zx_SC, m)) rfl ?_
    obtain rfl := Option.some.inj hf
    exact zx_ev_ret zk_68 rfl rfl
  · rw [if_neg c1] at hf
    by_cases c2 : v0 = 1
    · rw [if_pos c2] at hf
      refine zx_ev_tsw zk_68 rfl rfl (zx_pick_miss c1 (zx_pick_hit c2)) rfl ?_
      refine zx_ev_blk zk_68 4 (pc1 := 45) (L1 := [some (.int v0), some (.long v1), none]) (st1 := [.long (Int32.toInt64 (zx_i2s (Int64.toInt32 v1)))]) (h1 := (zx_SC, m)) rfl ?_
      obtain rfl := Option.some.inj hf
      exact zx_ev_ret zk_68 rfl rfl
    · rw [if_neg c2] at hf
      by_cases c3 : v0 = 2
      · rw [if_pos c3] at hf
        refine zx_ev_tsw zk_68 rfl rfl (zx_pick_miss c1 (zx_pick_miss c2 (zx_pick_hit c3))) rfl ?_
        refine zx_ev_blk zk_68 3 (pc1 := 49) (L1 := [some (.int v0), some (.long v1), none]) (st1 := [.long (Int32.toInt64 (Int64.toInt32 v1))]) (h1 := (zx_SC, m)) rfl ?_
        obtain rfl := Option.some.inj hf
        exact zx_ev_ret zk_68 rfl rfl
      · rw [if_neg c3] at hf
        by_cases c4 : v0 = 3
        · rw [if_pos c4] at hf
          refine zx_ev_tsw zk_68 rfl rfl (zx_pick_miss c1 (zx_pick_miss c2 (zx_pick_miss c3 (zx_pick_hit c4)))) rfl ?_
          refine zx_ev_blk zk_68 1 (pc1 := 63) (L1 := [some (.int v0), some (.long v1), none]) (st1 := [.long v1]) (h1 := (zx_SC, m)) rfl ?_
          obtain rfl := Option.some.inj hf
          exact zx_ev_ret zk_68 rfl rfl
        · rw [if_neg c4] at hf
          by_cases c5 : v0 = 4
          · rw [if_pos c5] at hf
            refine zx_ev_tsw zk_68 rfl rfl (zx_pick_miss c1 (zx_pick_miss c2 (zx_pick_miss c3 (zx_pick_miss c4 (zx_pick_hit c5))))) rfl ?_
            refine zx_ev_blk zk_68 3 (pc1 := 53) (L1 := [some (.int v0), some (.long v1), none]) (st1 := [.int (lg_cmp v1 0)]) (h1 := (zx_SC, m)) rfl ?_
            by_cases c6 : (lg_cmp v1 0) = 0
            · rw [if_pos c6] at hf
              refine zx_ev_ift zk_68 (P := (lg_cmp v1 0) = 0) (t := 60) (f := 56) rfl rfl c6 ?_
              refine zx_ev_blk zk_68 1 (pc1 := 61) (L1 := [some (.int v0), some (.long v1), none]) (st1 := [.long 0]) (h1 := (zx_SC, m)) rfl ?_
              obtain rfl := Option.some.inj hf
              exact zx_ev_ret zk_68 rfl rfl
            · rw [if_neg c6] at hf
              refine zx_ev_ifn zk_68 (P := (lg_cmp v1 0) = 0) (t := 60) (f := 56) rfl rfl c6 ?_
              refine zx_ev_blk zk_68 2 (pc1 := 61) (L1 := [some (.int v0), some (.long v1), none]) (st1 := [.long 1]) (h1 := (zx_SC, m)) rfl ?_
              obtain rfl := Option.some.inj hf
              exact zx_ev_ret zk_68 rfl rfl
          · rw [if_neg c5] at hf
            refine zx_ev_tsw zk_68 rfl rfl (zx_pick_miss c1 (zx_pick_miss c2 (zx_pick_miss c3 (zx_pick_miss c4 (zx_pick_miss c5 rfl))))) rfl ?_
            refine zx_ev_blk zk_68 1 (pc1 := 63) (L1 := [some (.int v0), some (.long v1), none]) (st1 := [.long v1]) (h1 := (zx_SC, m)) rfl ?_
            obtain rfl := Option.some.inj hf
            exact zx_ev_ret zk_68 rfl rfl
def f_Shelves_set (v1 : Int32) (v2 : Int32) (v3 : Int64) (m : zx_M) : Option zx_M := (f_Shelves_refusalOfPlace v1 v2 m).bind fun r2 => if ¬ r2 = 0 then some m else if 60 ≤ v2 then some m else (zx_ix 6 v1).bind fun j5 => (f_Shelves_lowestBits (m.1 16 j5) v3 m).bind fun r7 => (zx_ix 360 ((v1 * 60) + v2)).bind fun j8 => zx_let (zx_u2 m 18 j8 r7) fun m9 => some m9
theorem s_Shelves_set (v1 : Int32) (v2 : Int32) (v3 : Int64) (m : zx_M) {d : Nat} {y : zx_M} (hf : f_Shelves_set v1 v2 v3 m = some y) : zx_Ev (d + 2) 67 0 [some (.ref 15), some (.int v1), some (.int v2), some (.long v3), none] [] (zx_SC, m) (none, (zx_SC, y)) := by
  unfold f_Shelves_set at hf
  refine zx_ev_blk zk_67 3 (pc1 := 3) (L1 := [some (.ref 15), some (.int v1), some (.int v2), some (.long v3), none]) (st1 := [.int v2, .int v1, .ref 15]) (h1 := (zx_SC, m)) rfl ?_
  obtain ⟨r2, hv1, hf⟩ := zx_bind_eq hf
  refine zx_ev_call (d := d + 1) zk_67 (v := some (.int r2)) (h1 := (zx_SC, m)) rfl rfl zt_64 rfl zx_SCn rfl rfl (s_Shelves_refusalOfPlace _ _ _ (d := d + 0) hv1) ?_
  by_cases c3 : ¬ r2 = 0
  · rw [if_pos c3] at hf
    refine zx_ev_ift zk_67 (P := ¬ r2 = 0) (t := 36) (f := 9) rfl rfl c3 ?_
    obtain rfl := Option.some.inj hf
    exact zx_ev_ret zk_67 rfl rfl
  · rw [if_neg c3] at hf
    refine zx_ev_ifn zk_67 (P := ¬ r2 = 0) (t := 36) (f := 9) rfl rfl c3 ?_
    refine zx_ev_blk zk_67 2 (pc1 := 12) (L1 := [some (.ref 15), some (.int v1), some (.int v2), some (.long v3), none]) (st1 := [.int 60, .int v2]) (h1 := (zx_SC, m)) rfl ?_
    by_cases c4 : 60 ≤ v2
    · rw [if_pos c4] at hf
      refine zx_ev_ift zk_67 (P := 60 ≤ v2) (t := 36) (f := 15) rfl rfl c4 ?_
      obtain rfl := Option.some.inj hf
      exact zx_ev_ret zk_67 rfl rfl
    · rw [if_neg c4] at hf
      refine zx_ev_ifn zk_67 (P := 60 ≤ v2) (t := 36) (f := 15) rfl rfl c4 ?_
      refine zx_ev_blk zk_67 10 (pc1 := 30) (L1 := [some (.ref 15), some (.int v1), some (.int v2), some (.long v3), none]) (st1 := [.int v1, .ref 16, .int ((v1 * 60) + v2), .ref 18]) (h1 := (zx_SC, m)) rfl ?_
      obtain ⟨j5, hj5, hf⟩ := zx_bind_eq hf
      refine zx_ev_step zk_67 rfl (st_iald rfl rfl hj5) ?_
      refine zx_ev_blk zk_67 1 (pc1 := 32) (L1 := [some (.ref 15), some (.int v1), some (.int v2), some (.long v3), none]) (st1 := [.long v3, .int (m.1 16 j5), .int ((v1 * 60) + v2), .ref 18]) (h1 := (zx_SC, m)) rfl ?_
      obtain ⟨r7, hv6, hf⟩ := zx_bind_eq hf
      refine zx_ev_call (d := d + 1) zk_67 (v := some (.long r7)) (h1 := (zx_SC, m)) rfl rfl zt_68 rfl zx_SCn rfl rfl (s_Shelves_lowestBits _ _ _ (d := d + 1) hv6) ?_
      obtain ⟨j8, hj8, hf⟩ := zx_bind_eq hf
      refine zx_ev_step zk_67 rfl (st_last rfl hj8) ?_
      obtain ⟨m9, hm9, hf⟩ := zx_let_eq hf
      rw [hm9]
      obtain rfl := Option.some.inj hf
      exact zx_ev_ret zk_67 rfl rfl
def f_Changes_makeAgain (m : zx_M) : Option (Int32 × zx_M) := if (m.1 4 5) < 0 then some ((-5), m) else if (m.1 4 6) ≤ (m.1 4 5) then some ((-5), m) else if (m.1 4 5) < 40 then (zx_ix 40 (m.1 4 5)).bind fun j4 => (zx_ix 40 (m.1 4 5)).bind fun j5 => (zx_ix 40 (m.1 4 5)).bind fun j6 => (f_Numbers_tell (m.1 5 j4) (m.1 6 j5) (m.1 8 j6) m).bind fun m8 => zx_let (zx_u1 m8 4 5 ((m8.1 4 5) + 1)) fun m9 => some ((m9.1 4 6) - (m9.1 4 5), m9) else some ((-5), m)
theorem s_Changes_makeAgain (m : zx_M) {d : Nat} {y : (Int32 × zx_M)} (hf : f_Changes_makeAgain m = some y) : zx_Ev (d + 1) 22 0 [some (.ref 4)] [] (zx_SC, m) (some (.int y.1), (zx_SC, y.2)) := by
  unfold f_Changes_makeAgain at hf
  refine zx_ev_blk zk_22 2 (pc1 := 4) (L1 := [some (.ref 4)]) (st1 := [.int (m.1 4 5)]) (h1 := (zx_SC, m)) rfl ?_
  by_cases c1 : (m.1 4 5) < 0
  · rw [if_pos c1] at hf
    refine zx_ev_ift zk_22 (P := (m.1 4 5) < 0) (t := 27) (f := 7) rfl rfl c1 ?_
    refine zx_ev_blk zk_22 1 (pc1 := 29) (L1 := [some (.ref 4)]) (st1 := [.int (-5)]) (h1 := (zx_SC, m)) rfl ?_
    obtain rfl := Option.some.inj hf
    exact zx_ev_ret zk_22 rfl rfl
  · rw [if_neg c1] at hf
    refine zx_ev_ifn zk_22 (P := (m.1 4 5) < 0) (t := 27) (f := 7) rfl rfl c1 ?_
    refine zx_ev_blk zk_22 4 (pc1 := 15) (L1 := [some (.ref 4)]) (st1 := [.int (m.1 4 6), .int (m.1 4 5)]) (h1 := (zx_SC, m)) rfl ?_
    by_cases c2 : (m.1 4 6) ≤ (m.1 4 5)
    · rw [if_pos c2] at hf
      refine zx_ev_ift zk_22 (P := (m.1 4 6) ≤ (m.1 4 5)) (t := 27) (f := 18) rfl rfl c2 ?_
      refine zx_ev_blk zk_22 1 (pc1 := 29) (L1 := [some (.ref 4)]) (st1 := [.int (-5)]) (h1 := (zx_SC, m)) rfl ?_
      obtain rfl := Option.some.inj hf
      exact zx_ev_ret zk_22 rfl rfl
    · rw [if_neg c2] at hf
      refine zx_ev_ifn zk_22 (P := (m.1 4 6) ≤ (m.1 4 5)) (t := 27) (f := 18) rfl rfl c2 ?_
      refine zx_ev_blk zk_22 3 (pc1 := 24) (L1 := [some (.ref 4)]) (st1 := [.int 40, .int (m.1 4 5)]) (h1 := (zx_SC, m)) rfl ?_
      by_cases c3 : (m.1 4 5) < 40
      · rw [if_pos c3] at hf
        refine zx_ev_ift zk_22 (P := (m.1 4 5) < 40) (t := 30) (f := 27) rfl rfl c3 ?_
        refine zx_ev_blk zk_22 6 (pc1 := 42) (L1 := [some (.ref 4)]) (st1 := [.int (m.1 4 5), .ref 5, .ref 1]) (h1 := (zx_SC, m)) rfl ?_
        obtain ⟨j4, hj4, hf⟩ := zx_bind_eq hf
        refine zx_ev_step zk_22 rfl (st_iald rfl rfl hj4) ?_
        refine zx_ev_blk zk_22 4 (pc1 := 51) (L1 := [some (.ref 4)]) (st1 := [.int (m.1 4 5), .ref 6, .int (m.1 5 j4), .ref 1]) (h1 := (zx_SC, m)) rfl ?_
        obtain ⟨j5, hj5, hf⟩ := zx_bind_eq hf
        refine zx_ev_step zk_22 rfl (st_iald rfl rfl hj5) ?_
        refine zx_ev_blk zk_22 4 (pc1 := 60) (L1 := [some (.ref 4)]) (st1 := [.int (m.1 4 5), .ref 8, .int (m.1 6 j5), .int (m.1 5 j4), .ref 1]) (h1 := (zx_SC, m)) rfl ?_
        obtain ⟨j6, hj6, hf⟩ := zx_bind_eq hf
        refine zx_ev_step zk_22 rfl (st_iald rfl rfl hj6) ?_
        obtain ⟨m8, hv7, hf⟩ := zx_bind_eq hf
        refine zx_ev_call (d := d + 0) zk_22 (v := none) (h1 := (zx_SC, m8)) rfl rfl zt_47 rfl zx_SCn rfl rfl (s_Numbers_tell _ _ _ _ (d := d + 0) hv7) ?_
        obtain ⟨m9, hm9, hf⟩ := zx_let_eq hf
        refine zx_ev_blk zk_22 11 (pc1 := 83) (L1 := [some (.ref 4)]) (st1 := [.int ((m9.1 4 6) - (m9.1 4 5))]) (h1 := (zx_SC, m9)) (by subst hm9; rfl) ?_
        obtain rfl := Option.some.inj hf
        exact zx_ev_ret zk_22 rfl rfl
      · rw [if_neg c3] at hf
        refine zx_ev_ifn zk_22 (P := (m.1 4 5) < 40) (t := 30) (f := 27) rfl rfl c3 ?_
        refine zx_ev_blk zk_22 1 (pc1 := 29) (L1 := [some (.ref 4)]) (st1 := [.int (-5)]) (h1 := (zx_SC, m)) rfl ?_
        obtain rfl := Option.some.inj hf
        exact zx_ev_ret zk_22 rfl rfl
def f_Shelves_isStretch (v0 : Int32) (v1 : Int32) (v2 : Int32) (m : zx_M) : Option Int32 := if v0 < 0 then some 0 else if v1 < 0 then some 0 else if 60 < v2 then some 0 else if v2 < v0 then some 0 else if (v2 - v0) < v1 then some 0 else some 1
theorem s_Shelves_isStretch (v0 : Int32) (v1 : Int32) (v2 : Int32) (m : zx_M) {d : Nat} {y : Int32} (hf : f_Shelves_isStretch v0 v1 v2 m = some y) : zx_Ev (d) 70 0 [some (.int v0), some (.int v1), some (.int v2)] [] (zx_SC, m) (some (.int y), (zx_SC, m)) := by
  unfold f_Shelves_isStretch at hf
  refine zx_ev_blk zk_70 1 (pc1 := 1) (L1 := [some (.int v0), some (.int v1), some (.int v2)]) (st1 := [.int v0]) (h1 := (zx_SC, m)) rfl ?_
  by_cases c1 : v0 < 0
  · rw [if_pos c1] at hf
    refine zx_ev_ift zk_70 (P := v0 < 0) (t := 30) (f := 4) rfl rfl c1 ?_
    refine zx_ev_blk zk_70 1 (pc1 := 31) (L1 := [some (.int v0), some (.int v1), some (.int v2)]) (st1 := [.int 0]) (h1 := (zx_SC, m)) rfl ?_
    obtain rfl := Option.some.inj hf
    exact zx_ev_ret zk_70 rfl (zx_ret_z (Or.inl rfl))
  · rw [if_neg c1] at hf
    refine zx_ev_ifn zk_70 (P := v0 < 0) (t := 30) (f := 4) rfl rfl c1 ?_
    refine zx_ev_blk zk_70 1 (pc1 := 5) (L1 := [some (.int v0), some (.int v1), some (.int v2)]) (st1 := [.int v1]) (h1 := (zx_SC, m)) rfl ?_
    by_cases c2 : v1 < 0
    · rw [if_pos c2] at hf
      refine zx_ev_ift zk_70 (P := v1 < 0) (t := 30) (f := 8) rfl rfl c2 ?_
      refine zx_ev_blk zk_70 1 (pc1 := 31) (L1 := [some (.int v0), some (.int v1), some (.int v2)]) (st1 := [.int 0]) (h1 := (zx_SC, m)) rfl ?_
      obtain rfl := Option.some.inj hf
      exact zx_ev_ret zk_70 rfl (zx_ret_z (Or.inl rfl))
    · rw [if_neg c2] at hf
      refine zx_ev_ifn zk_70 (P := v1 < 0) (t := 30) (f := 8) rfl rfl c2 ?_
      refine zx_ev_blk zk_70 2 (pc1 := 11) (L1 := [some (.int v0), some (.int v1), some (.int v2)]) (st1 := [.int 60, .int v2]) (h1 := (zx_SC, m)) rfl ?_
      by_cases c3 : 60 < v2
      · rw [if_pos c3] at hf
        refine zx_ev_ift zk_70 (P := 60 < v2) (t := 30) (f := 14) rfl rfl c3 ?_
        refine zx_ev_blk zk_70 1 (pc1 := 31) (L1 := [some (.int v0), some (.int v1), some (.int v2)]) (st1 := [.int 0]) (h1 := (zx_SC, m)) rfl ?_
        obtain rfl := Option.some.inj hf
        exact zx_ev_ret zk_70 rfl (zx_ret_z (Or.inl rfl))
      · rw [if_neg c3] at hf
        refine zx_ev_ifn zk_70 (P := 60 < v2) (t := 30) (f := 14) rfl rfl c3 ?_
        refine zx_ev_blk zk_70 2 (pc1 := 16) (L1 := [some (.int v0), some (.int v1), some (.int v2)]) (st1 := [.int v2, .int v0]) (h1 := (zx_SC, m)) rfl ?_
        by_cases c4 : v2 < v0
        · rw [if_pos c4] at hf
          refine zx_ev_ift zk_70 (P := v2 < v0) (t := 30) (f := 19) rfl rfl c4 ?_
          refine zx_ev_blk zk_70 1 (pc1 := 31) (L1 := [some (.int v0), some (.int v1), some (.int v2)]) (st1 := [.int 0]) (h1 := (zx_SC, m)) rfl ?_
          obtain rfl := Option.some.inj hf
          exact zx_ev_ret zk_70 rfl (zx_ret_z (Or.inl rfl))
        · rw [if_neg c4] at hf
          refine zx_ev_ifn zk_70 (P := v2 < v0) (t := 30) (f := 19) rfl rfl c4 ?_
          refine zx_ev_blk zk_70 4 (pc1 := 23) (L1 := [some (.int v0), some (.int v1), some (.int v2)]) (st1 := [.int (v2 - v0), .int v1]) (h1 := (zx_SC, m)) rfl ?_
          by_cases c5 : (v2 - v0) < v1
          · rw [if_pos c5] at hf
            refine zx_ev_ift zk_70 (P := (v2 - v0) < v1) (t := 30) (f := 26) rfl rfl c5 ?_
            refine zx_ev_blk zk_70 1 (pc1 := 31) (L1 := [some (.int v0), some (.int v1), some (.int v2)]) (st1 := [.int 0]) (h1 := (zx_SC, m)) rfl ?_
            obtain rfl := Option.some.inj hf
            exact zx_ev_ret zk_70 rfl (zx_ret_z (Or.inl rfl))
          · rw [if_neg c5] at hf
            refine zx_ev_ifn zk_70 (P := (v2 - v0) < v1) (t := 30) (f := 26) rfl rfl c5 ?_
            refine zx_ev_blk zk_70 2 (pc1 := 31) (L1 := [some (.int v0), some (.int v1), some (.int v2)]) (st1 := [.int 1]) (h1 := (zx_SC, m)) rfl ?_
            obtain rfl := Option.some.inj hf
            exact zx_ev_ret zk_70 rfl (zx_ret_z (Or.inr rfl))
def f_Shelves_copy (v1 : Int32) (v2 : Int32) (v3 : Int32) (v4 : Int32) (v5 : Int32) (m : zx_M) : Option (Int32 × zx_M) := (f_Shelves_isThere v1 m).bind fun r2 => if r2 = 0 then some ((-1), m) else (f_Shelves_isThere v3 m).bind fun r5 => if ¬ r5 = 0 then (zx_ix 6 v1).bind fun j7 => (f_Shelves_isStretch v2 v5 (m.1 17 j7) m).bind fun r9 => if r9 = 0 then some ((-13), m) else (zx_ix 6 v3).bind fun j11 => (f_Shelves_isStretch v4 v5 (m.1 17 j11) m).bind fun r13 => if ¬ r13 = 0 then (zx_ck 360 360 ((v1 * 60) + v2) ((v3 * 60) + v4) v5).bind fun j15 => zx_let (zx_w2 m 18 (va_cpy (m.2 18) (m.2 18) ((v1 * 60) + v2 : Int32).toNatClampNeg ((v3 * 60) + v4 : Int32).toNatClampNeg j15)) fun m16 => some (v5, m16) else some ((-13), m) else some ((-1), m)
theorem s_Shelves_copy (v1 : Int32) (v2 : Int32) (v3 : Int32) (v4 : Int32) (v5 : Int32) (m : zx_M) {d : Nat} {y : (Int32 × zx_M)} (hf : f_Shelves_copy v1 v2 v3 v4 v5 m = some y) : zx_Ev (d + 1) 69 0 [some (.ref 15), some (.int v1), some (.int v2), some (.int v3), some (.int v4), some (.int v5)] [] (zx_SC, m) (some (.int y.1), (zx_SC, y.2)) := by
  unfold f_Shelves_copy at hf
  refine zx_ev_blk zk_69 2 (pc1 := 2) (L1 := [some (.ref 15), some (.int v1), some (.int v2), some (.int v3), some (.int v4), some (.int v5)]) (st1 := [.int v1, .ref 15]) (h1 := (zx_SC, m)) rfl ?_
  obtain ⟨r2, hv1, hf⟩ := zx_bind_eq hf
  refine zx_ev_call (d := d + 0) zk_69 (v := some (.int r2)) (h1 := (zx_SC, m)) rfl rfl zt_60 rfl zx_SCn rfl rfl (s_Shelves_isThere _ _ (d := d + 0) hv1) ?_
  by_cases c3 : r2 = 0
  · rw [if_pos c3] at hf
    refine zx_ev_ift zk_69 (P := r2 = 0) (t := 16) (f := 8) rfl rfl c3 ?_
    refine zx_ev_blk zk_69 1 (pc1 := 17) (L1 := [some (.ref 15), some (.int v1), some (.int v2), some (.int v3), some (.int v4), some (.int v5)]) (st1 := [.int (-1)]) (h1 := (zx_SC, m)) rfl ?_
    obtain rfl := Option.some.inj hf
    exact zx_ev_ret zk_69 rfl rfl
  · rw [if_neg c3] at hf
    refine zx_ev_ifn zk_69 (P := r2 = 0) (t := 16) (f := 8) rfl rfl c3 ?_
    refine zx_ev_blk zk_69 2 (pc1 := 10) (L1 := [some (.ref 15), some (.int v1), some (.int v2), some (.int v3), some (.int v4), some (.int v5)]) (st1 := [.int v3, .ref 15]) (h1 := (zx_SC, m)) rfl ?_
    obtain ⟨r5, hv4, hf⟩ := zx_bind_eq hf
    refine zx_ev_call (d := d + 0) zk_69 (v := some (.int r5)) (h1 := (zx_SC, m)) rfl rfl zt_60 rfl zx_SCn rfl rfl (s_Shelves_isThere _ _ (d := d + 0) hv4) ?_
    by_cases c6 : ¬ r5 = 0
    · rw [if_pos c6] at hf
      refine zx_ev_ift zk_69 (P := ¬ r5 = 0) (t := 18) (f := 16) rfl rfl c6 ?_
      refine zx_ev_blk zk_69 5 (pc1 := 26) (L1 := [some (.ref 15), some (.int v1), some (.int v2), some (.int v3), some (.int v4), some (.int v5)]) (st1 := [.int v1, .ref 17, .int v5, .int v2]) (h1 := (zx_SC, m)) rfl ?_
      obtain ⟨j7, hj7, hf⟩ := zx_bind_eq hf
      refine zx_ev_step zk_69 rfl (st_iald rfl rfl hj7) ?_
      obtain ⟨r9, hv8, hf⟩ := zx_bind_eq hf
      refine zx_ev_call (d := d + 0) zk_69 (v := some (.int r9)) (h1 := (zx_SC, m)) rfl rfl zt_70 rfl zx_SCn rfl rfl (s_Shelves_isStretch _ _ _ _ (d := d + 0) hv8) ?_
      by_cases c10 : r9 = 0
      · rw [if_pos c10] at hf
        refine zx_ev_ift zk_69 (P := r9 = 0) (t := 49) (f := 33) rfl rfl c10 ?_
        refine zx_ev_blk zk_69 1 (pc1 := 51) (L1 := [some (.ref 15), some (.int v1), some (.int v2), some (.int v3), some (.int v4), some (.int v5)]) (st1 := [.int (-13)]) (h1 := (zx_SC, m)) rfl ?_
        obtain rfl := Option.some.inj hf
        exact zx_ev_ret zk_69 rfl rfl
      · rw [if_neg c10] at hf
        refine zx_ev_ifn zk_69 (P := r9 = 0) (t := 49) (f := 33) rfl rfl c10 ?_
        refine zx_ev_blk zk_69 5 (pc1 := 42) (L1 := [some (.ref 15), some (.int v1), some (.int v2), some (.int v3), some (.int v4), some (.int v5)]) (st1 := [.int v3, .ref 17, .int v5, .int v4]) (h1 := (zx_SC, m)) rfl ?_
        obtain ⟨j11, hj11, hf⟩ := zx_bind_eq hf
        refine zx_ev_step zk_69 rfl (st_iald rfl rfl hj11) ?_
        obtain ⟨r13, hv12, hf⟩ := zx_bind_eq hf
        refine zx_ev_call (d := d + 0) zk_69 (v := some (.int r13)) (h1 := (zx_SC, m)) rfl rfl zt_70 rfl zx_SCn rfl rfl (s_Shelves_isStretch _ _ _ _ (d := d + 0) hv12) ?_
        by_cases c14 : ¬ r13 = 0
        · rw [if_pos c14] at hf
          refine zx_ev_ift zk_69 (P := ¬ r13 = 0) (t := 52) (f := 49) rfl rfl c14 ?_
          refine zx_ev_blk zk_69 15 (pc1 := 75) (L1 := [some (.ref 15), some (.int v1), some (.int v2), some (.int v3), some (.int v4), some (.int v5)]) (st1 := [.int v5, .int ((v3 * 60) + v4), .ref 18, .int ((v1 * 60) + v2), .ref 18]) (h1 := (zx_SC, m)) rfl ?_
          obtain ⟨j15, hj15, hf⟩ := zx_bind_eq hf
          refine zx_ev_step zk_69 rfl (st_cpl rfl (Nat.le_of_ble_eq_true rfl) rfl rfl hj15) ?_
          obtain ⟨m16, hm16, hf⟩ := zx_let_eq hf
          rw [hm16]
          refine zx_ev_blk zk_69 1 (pc1 := 80) (L1 := [some (.ref 15), some (.int v1), some (.int v2), some (.int v3), some (.int v4), some (.int v5)]) (st1 := [.int v5]) (h1 := (zx_SC, m16)) rfl ?_
          obtain rfl := Option.some.inj hf
          exact zx_ev_ret zk_69 rfl rfl
        · rw [if_neg c14] at hf
          refine zx_ev_ifn zk_69 (P := ¬ r13 = 0) (t := 52) (f := 49) rfl rfl c14 ?_
          refine zx_ev_blk zk_69 1 (pc1 := 51) (L1 := [some (.ref 15), some (.int v1), some (.int v2), some (.int v3), some (.int v4), some (.int v5)]) (st1 := [.int (-13)]) (h1 := (zx_SC, m)) rfl ?_
          obtain rfl := Option.some.inj hf
          exact zx_ev_ret zk_69 rfl rfl
    · rw [if_neg c6] at hf
      refine zx_ev_ifn zk_69 (P := ¬ r5 = 0) (t := 18) (f := 16) rfl rfl c6 ?_
      refine zx_ev_blk zk_69 1 (pc1 := 17) (L1 := [some (.ref 15), some (.int v1), some (.int v2), some (.int v3), some (.int v4), some (.int v5)]) (st1 := [.int (-1)]) (h1 := (zx_SC, m)) rfl ?_
      obtain rfl := Option.some.inj hf
      exact zx_ev_ret zk_69 rfl rfl
def kx_Acts_isUnder_l5 (v2 : Int32) (m : zx_M) (d : Nat) (out : Option Value × zx_H) : Int32 → Prop
  | y => out = (some (.int y), (zx_SC, m))
def kl_Acts_isUnder_l5 (v2 : Int32) (m : zx_M) (d : Nat) (out : Option Value × zx_H) : (Int32 × Int32) ⊕ (Int32) → Prop
  | .inl (v3, v4) => zx_Ev (d + 1) 7 5 [some (.ref 38), none, some (.int v2), some (.int v3), some (.int v4)] [] (zx_SC, m) out
  | .inr x => kx_Acts_isUnder_l5 v2 m d out x
def b_Acts_isUnder_l5 (v2 : Int32) (v3 : Int32) (v4 : Int32) (m : zx_M) : Option ((Int32 × Int32) ⊕ (Int32)) := if 8 ≤ v4 then some (.inr 0) else (f_Acts_isKind v3 m).bind fun r3 => if r3 = 0 then some (.inr 0) else if ¬ v3 = v2 then (zx_ix 8 v3).bind fun j6 => zx_let (zx_sA2.getD j6 0) fun a7 => zx_let (v4 + 1) fun a8 => some (.inl (a7, a8)) else some (.inr 1)
theorem eb_Acts_isUnder_l5 (v2 : Int32) (v3 : Int32) (v4 : Int32) (m : zx_M) {d : Nat} {out : Option Value × zx_H} {y : (Int32 × Int32) ⊕ (Int32)} (hf : b_Acts_isUnder_l5 v2 v3 v4 m = some y) (hK : kl_Acts_isUnder_l5 v2 m d out y) : zx_Ev (d + 1) 7 5 [some (.ref 38), none, some (.int v2), some (.int v3), some (.int v4)] [] (zx_SC, m) out := by
  unfold b_Acts_isUnder_l5 at hf
  refine zx_ev_blk zk_7 2 (pc1 := 9) (L1 := [some (.ref 38), none, some (.int v2), some (.int v3), some (.int v4)]) (st1 := [.int 8, .int v4]) (h1 := (zx_SC, m)) rfl ?_
  by_cases c1 : 8 ≤ v4
  · rw [if_pos c1] at hf
    refine zx_ev_ift zk_7 (P := 8 ≤ v4) (t := 39) (f := 12) rfl rfl c1 ?_
    refine zx_ev_blk zk_7 1 (pc1 := 40) (L1 := [some (.ref 38), none, some (.int v2), some (.int v3), some (.int v4)]) (st1 := [.int 0]) (h1 := (zx_SC, m)) rfl ?_
    obtain rfl := Option.some.inj hf
    rw [show out = _ from hK]
    exact zx_ev_ret zk_7 rfl (zx_ret_z (Or.inl rfl))
  · rw [if_neg c1] at hf
    refine zx_ev_ifn zk_7 (P := 8 ≤ v4) (t := 39) (f := 12) rfl rfl c1 ?_
    refine zx_ev_blk zk_7 2 (pc1 := 14) (L1 := [some (.ref 38), none, some (.int v2), some (.int v3), some (.int v4)]) (st1 := [.int v3, .ref 38]) (h1 := (zx_SC, m)) rfl ?_
    obtain ⟨r3, hv2, hf⟩ := zx_bind_eq hf
    refine zx_ev_call (d := d + 0) zk_7 (v := some (.int r3)) (h1 := (zx_SC, m)) rfl rfl zt_3 rfl zx_SCn rfl rfl (s_Acts_isKind _ _ (d := d + 0) hv2) ?_
    by_cases c4 : r3 = 0
    · rw [if_pos c4] at hf
      refine zx_ev_ift zk_7 (P := r3 = 0) (t := 39) (f := 20) rfl rfl c4 ?_
      refine zx_ev_blk zk_7 1 (pc1 := 40) (L1 := [some (.ref 38), none, some (.int v2), some (.int v3), some (.int v4)]) (st1 := [.int 0]) (h1 := (zx_SC, m)) rfl ?_
      obtain rfl := Option.some.inj hf
      rw [show out = _ from hK]
      exact zx_ev_ret zk_7 rfl (zx_ret_z (Or.inl rfl))
    · rw [if_neg c4] at hf
      refine zx_ev_ifn zk_7 (P := r3 = 0) (t := 39) (f := 20) rfl rfl c4 ?_
      refine zx_ev_blk zk_7 2 (pc1 := 22) (L1 := [some (.ref 38), none, some (.int v2), some (.int v3), some (.int v4)]) (st1 := [.int v2, .int v3]) (h1 := (zx_SC, m)) rfl ?_
      by_cases c5 : ¬ v3 = v2
      · rw [if_pos c5] at hf
        refine zx_ev_ift zk_7 (P := ¬ v3 = v2) (t := 27) (f := 25) rfl rfl c5 ?_
        refine zx_ev_blk zk_7 2 (pc1 := 31) (L1 := [some (.ref 38), none, some (.int v2), some (.int v3), some (.int v4)]) (st1 := [.int v3, .ref 1002]) (h1 := (zx_SC, m)) rfl ?_
        obtain ⟨j6, hj6, hf⟩ := zx_bind_eq hf
        refine zx_ev_step zk_7 rfl (st_sald (li := zx_sA2) rfl rfl hj6) ?_
        obtain ⟨a7, ha7, hf⟩ := zx_let_eq hf
        obtain ⟨a8, ha8, hf⟩ := zx_let_eq hf
        refine zx_ev_blk zk_7 3 (pc1 := 5) (L1 := [some (.ref 38), none, some (.int v2), some (.int a7), some (.int a8)]) (st1 := []) (h1 := (zx_SC, m)) (by subst ha7; subst ha8; rfl) ?_
        obtain rfl := Option.some.inj hf
        exact zx_ev_sub (L := [some (.ref 38), none, some (.int v2), some (.int a7), some (.int a8)]) (⟨rfl, ⟨rfl, ⟨rfl, ⟨rfl, trivial⟩⟩⟩⟩) hK
      · rw [if_neg c5] at hf
        refine zx_ev_ifn zk_7 (P := ¬ v3 = v2) (t := 27) (f := 25) rfl rfl c5 ?_
        refine zx_ev_blk zk_7 1 (pc1 := 26) (L1 := [some (.ref 38), none, some (.int v2), some (.int v3), some (.int v4)]) (st1 := [.int 1]) (h1 := (zx_SC, m)) rfl ?_
        obtain rfl := Option.some.inj hf
        rw [show out = _ from hK]
        exact zx_ev_ret zk_7 rfl (zx_ret_z (Or.inr rfl))
def l_Acts_isUnder_l5 (v2 : Int32) (m : zx_M) (s0 : Int32 × Int32) : Option (Int32) := zx_lp zx_N (fun s : Int32 × Int32 => b_Acts_isUnder_l5 v2 s.1 s.2 m) s0
theorem el_Acts_isUnder_l5 (v2 : Int32) (m : zx_M) {d : Nat} {out : Option Value × zx_H} : ∀ (n : Nat) (s : Int32 × Int32) (x : Int32), zx_lp n (fun s : Int32 × Int32 => b_Acts_isUnder_l5 v2 s.1 s.2 m) s = some x → kx_Acts_isUnder_l5 v2 m d out x → zx_Ev (d + 1) 7 5 [some (.ref 38), none, some (.int v2), some (.int s.1), some (.int s.2)] [] (zx_SC, m) out := by
  intro n
  induction n with
  | zero => intro s x hl _; simp [zx_lp] at hl
  | succ n ih =>
    intro s x hl hx
    unfold zx_lp at hl
    cases hb : b_Acts_isUnder_l5 v2 s.1 s.2 m with
    | none => simp only [hb] at hl; cases hl
    | some z =>
      simp only [hb] at hl
      cases z with
      | inl s1 => exact eb_Acts_isUnder_l5 v2 s.1 s.2 m hb (ih s1 x hl hx)
      | inr t =>
        simp only [Option.some.injEq] at hl
        subst hl
        exact eb_Acts_isUnder_l5 v2 s.1 s.2 m hb hx
def f_Acts_isUnder (v1 : Int32) (v2 : Int32) (m : zx_M) : Option Int32 := (l_Acts_isUnder_l5 v2 m (v1, 0)).bind fun x9 => zx_let x9 fun y10 => some y10
theorem s_Acts_isUnder (v1 : Int32) (v2 : Int32) (m : zx_M) {d : Nat} {y : Int32} (hf : f_Acts_isUnder v1 v2 m = some y) : zx_Ev (d + 1) 7 0 [some (.ref 38), some (.int v1), some (.int v2), none, none] [] (zx_SC, m) (some (.int y), (zx_SC, m)) := by
  unfold f_Acts_isUnder at hf
  refine zx_ev_blk zk_7 4 (pc1 := 5) (L1 := [some (.ref 38), some (.int v1), some (.int v2), some (.int v1), some (.int 0)]) (st1 := []) (h1 := (zx_SC, m)) rfl ?_
  obtain ⟨x9, hx9, hf⟩ := zx_bind_eq hf
  refine zx_ev_sub (L := [some (.ref 38), none, some (.int v2), some (.int v1), some (.int 0)]) (⟨rfl, ⟨trivial, ⟨rfl, ⟨rfl, ⟨rfl, trivial⟩⟩⟩⟩⟩) (el_Acts_isUnder_l5 v2 m zx_N (v1, 0) x9 hx9 ?_)
  obtain ⟨y10, hy10, hf⟩ := zx_let_eq hf
  subst hy10
  obtain rfl := Option.some.inj hf
  rfl
def f_Acts_tracedAt (v1 : Int32) (m : zx_M) : Option Int32 := if v1 < 0 then some (-1) else if (m.1 38 3) ≤ v1 then some (-1) else if 24 ≤ v1 then some (-1) else (zx_ix 24 v1).bind fun j4 => some (m.1 40 j4)
theorem s_Acts_tracedAt (v1 : Int32) (m : zx_M) {d : Nat} {y : Int32} (hf : f_Acts_tracedAt v1 m = some y) : zx_Ev (d) 8 0 [some (.ref 38), some (.int v1)] [] (zx_SC, m) (some (.int y), (zx_SC, m)) := by
  unfold f_Acts_tracedAt at hf
  refine zx_ev_blk zk_8 1 (pc1 := 1) (L1 := [some (.ref 38), some (.int v1)]) (st1 := [.int v1]) (h1 := (zx_SC, m)) rfl ?_
  by_cases c1 : v1 < 0
  · rw [if_pos c1] at hf
    refine zx_ev_ift zk_8 (P := v1 < 0) (t := 27) (f := 4) rfl rfl c1 ?_
    refine zx_ev_blk zk_8 1 (pc1 := 28) (L1 := [some (.ref 38), some (.int v1)]) (st1 := [.int (-1)]) (h1 := (zx_SC, m)) rfl ?_
    obtain rfl := Option.some.inj hf
    exact zx_ev_ret zk_8 rfl rfl
  · rw [if_neg c1] at hf
    refine zx_ev_ifn zk_8 (P := v1 < 0) (t := 27) (f := 4) rfl rfl c1 ?_
    refine zx_ev_blk zk_8 3 (pc1 := 9) (L1 := [some (.ref 38), some (.int v1)]) (st1 := [.int (m.1 38 3), .int v1]) (h1 := (zx_SC, m)) rfl ?_
    by_cases c2 : (m.1 38 3) ≤ v1
    · rw [if_pos c2] at hf
      refine zx_ev_ift zk_8 (P := (m.1 38 3) ≤ v1) (t := 27) (f := 12) rfl rfl c2 ?_
      refine zx_ev_blk zk_8 1 (pc1 := 28) (L1 := [some (.ref 38), some (.int v1)]) (st1 := [.int (-1)]) (h1 := (zx_SC, m)) rfl ?_
      obtain rfl := Option.some.inj hf
      exact zx_ev_ret zk_8 rfl rfl
    · rw [if_neg c2] at hf
      refine zx_ev_ifn zk_8 (P := (m.1 38 3) ≤ v1) (t := 27) (f := 12) rfl rfl c2 ?_
      refine zx_ev_blk zk_8 2 (pc1 := 15) (L1 := [some (.ref 38), some (.int v1)]) (st1 := [.int 24, .int v1]) (h1 := (zx_SC, m)) rfl ?_
      by_cases c3 : 24 ≤ v1
      · rw [if_pos c3] at hf
        refine zx_ev_ift zk_8 (P := 24 ≤ v1) (t := 27) (f := 18) rfl rfl c3 ?_
        refine zx_ev_blk zk_8 1 (pc1 := 28) (L1 := [some (.ref 38), some (.int v1)]) (st1 := [.int (-1)]) (h1 := (zx_SC, m)) rfl ?_
        obtain rfl := Option.some.inj hf
        exact zx_ev_ret zk_8 rfl rfl
      · rw [if_neg c3] at hf
        refine zx_ev_ifn zk_8 (P := 24 ≤ v1) (t := 27) (f := 18) rfl rfl c3 ?_
        refine zx_ev_blk zk_8 3 (pc1 := 23) (L1 := [some (.ref 38), some (.int v1)]) (st1 := [.int v1, .ref 40]) (h1 := (zx_SC, m)) rfl ?_
        obtain ⟨j4, hj4, hf⟩ := zx_bind_eq hf
        refine zx_ev_step zk_8 rfl (st_iald rfl rfl hj4) ?_
        refine zx_ev_blk zk_8 1 (pc1 := 28) (L1 := [some (.ref 38), some (.int v1)]) (st1 := [.int (m.1 40 j4)]) (h1 := (zx_SC, m)) rfl ?_
        obtain rfl := Option.some.inj hf
        exact zx_ev_ret zk_8 rfl rfl
def f_Changes_takeBack (m : zx_M) : Option (Int32 × zx_M) := if (m.1 4 5) < 1 then some ((-5), m) else if (m.1 4 5) ≤ 40 then zx_let (zx_u1 m 4 5 ((m.1 4 5) - 1)) fun m3 => (zx_ix 40 (m3.1 4 5)).bind fun j4 => (zx_ix 40 (m3.1 4 5)).bind fun j5 => (zx_ix 40 (m3.1 4 5)).bind fun j6 => (f_Numbers_tell (m3.1 5 j4) (m3.1 6 j5) (m3.1 7 j6) m3).bind fun m8 => some (m8.1 4 5, m8) else some ((-5), m)
theorem s_Changes_takeBack (m : zx_M) {d : Nat} {y : (Int32 × zx_M)} (hf : f_Changes_takeBack m = some y) : zx_Ev (d + 1) 21 0 [some (.ref 4)] [] (zx_SC, m) (some (.int y.1), (zx_SC, y.2)) := by
  unfold f_Changes_takeBack at hf
  refine zx_ev_blk zk_21 3 (pc1 := 5) (L1 := [some (.ref 4)]) (st1 := [.int 1, .int (m.1 4 5)]) (h1 := (zx_SC, m)) rfl ?_
  by_cases c1 : (m.1 4 5) < 1
  · rw [if_pos c1] at hf
    refine zx_ev_ift zk_21 (P := (m.1 4 5) < 1) (t := 17) (f := 8) rfl rfl c1 ?_
    refine zx_ev_blk zk_21 1 (pc1 := 19) (L1 := [some (.ref 4)]) (st1 := [.int (-5)]) (h1 := (zx_SC, m)) rfl ?_
    obtain rfl := Option.some.inj hf
    exact zx_ev_ret zk_21 rfl rfl
  · rw [if_neg c1] at hf
    refine zx_ev_ifn zk_21 (P := (m.1 4 5) < 1) (t := 17) (f := 8) rfl rfl c1 ?_
    refine zx_ev_blk zk_21 3 (pc1 := 14) (L1 := [some (.ref 4)]) (st1 := [.int 40, .int (m.1 4 5)]) (h1 := (zx_SC, m)) rfl ?_
    by_cases c2 : (m.1 4 5) ≤ 40
    · rw [if_pos c2] at hf
      refine zx_ev_ift zk_21 (P := (m.1 4 5) ≤ 40) (t := 20) (f := 17) rfl rfl c2 ?_
      obtain ⟨m3, hm3, hf⟩ := zx_let_eq hf
      refine zx_ev_blk zk_21 12 (pc1 := 42) (L1 := [some (.ref 4)]) (st1 := [.int (m3.1 4 5), .ref 5, .ref 1]) (h1 := (zx_SC, m3)) (by subst hm3; rfl) ?_
      obtain ⟨j4, hj4, hf⟩ := zx_bind_eq hf
      refine zx_ev_step zk_21 rfl (st_iald rfl rfl hj4) ?_
      refine zx_ev_blk zk_21 4 (pc1 := 51) (L1 := [some (.ref 4)]) (st1 := [.int (m3.1 4 5), .ref 6, .int (m3.1 5 j4), .ref 1]) (h1 := (zx_SC, m3)) rfl ?_
      obtain ⟨j5, hj5, hf⟩ := zx_bind_eq hf
      refine zx_ev_step zk_21 rfl (st_iald rfl rfl hj5) ?_
      refine zx_ev_blk zk_21 4 (pc1 := 60) (L1 := [some (.ref 4)]) (st1 := [.int (m3.1 4 5), .ref 7, .int (m3.1 6 j5), .int (m3.1 5 j4), .ref 1]) (h1 := (zx_SC, m3)) rfl ?_
      obtain ⟨j6, hj6, hf⟩ := zx_bind_eq hf
      refine zx_ev_step zk_21 rfl (st_iald rfl rfl hj6) ?_
      obtain ⟨m8, hv7, hf⟩ := zx_bind_eq hf
      refine zx_ev_call (d := d + 0) zk_21 (v := none) (h1 := (zx_SC, m8)) rfl rfl zt_47 rfl zx_SCn rfl rfl (s_Numbers_tell _ _ _ _ (d := d + 0) hv7) ?_
      refine zx_ev_blk zk_21 2 (pc1 := 68) (L1 := [some (.ref 4)]) (st1 := [.int (m8.1 4 5)]) (h1 := (zx_SC, m8)) rfl ?_
      obtain rfl := Option.some.inj hf
      exact zx_ev_ret zk_21 rfl rfl
    · rw [if_neg c2] at hf
      refine zx_ev_ifn zk_21 (P := (m.1 4 5) ≤ 40) (t := 20) (f := 17) rfl rfl c2 ?_
      refine zx_ev_blk zk_21 1 (pc1 := 19) (L1 := [some (.ref 4)]) (st1 := [.int (-5)]) (h1 := (zx_SC, m)) rfl ?_
      obtain rfl := Option.some.inj hf
      exact zx_ev_ret zk_21 rfl rfl
def kx_Order_asDigits_l4 (m : zx_M) (d : Nat) (out : Option Value × zx_H) : Int32 → Prop
  | y => out = (some (.int y), (zx_SC, m))
def kl_Order_asDigits_l4 (m : zx_M) (d : Nat) (out : Option Value × zx_H) : (Int32 × Int32) ⊕ (Int32) → Prop
  | .inl (v1, v2) => zx_Ev (d + 1) 58 4 [some (.ref 19), some (.int v1), some (.int v2)] [] (zx_SC, m) out
  | .inr x => kx_Order_asDigits_l4 m d out x
def b_Order_asDigits_l4 (v1 : Int32) (v2 : Int32) (m : zx_M) : Option ((Int32 × Int32) ⊕ (Int32)) := if (m.1 19 1) ≤ v2 then some (.inr v1) else (f_Order_at v2 m).bind fun r3 => zx_let ((v1 * 10) + r3) fun a4 => zx_let (v2 + 1) fun a5 => some (.inl (a4, a5))
theorem eb_Order_asDigits_l4 (v1 : Int32) (v2 : Int32) (m : zx_M) {d : Nat} {out : Option Value × zx_H} {y : (Int32 × Int32) ⊕ (Int32)} (hf : b_Order_asDigits_l4 v1 v2 m = some y) (hK : kl_Order_asDigits_l4 m d out y) : zx_Ev (d + 1) 58 4 [some (.ref 19), some (.int v1), some (.int v2)] [] (zx_SC, m) out := by
  unfold b_Order_asDigits_l4 at hf
  refine zx_ev_blk zk_58 3 (pc1 := 9) (L1 := [some (.ref 19), some (.int v1), some (.int v2)]) (st1 := [.int (m.1 19 1), .int v2]) (h1 := (zx_SC, m)) rfl ?_
  by_cases c1 : (m.1 19 1) ≤ v2
  · rw [if_pos c1] at hf
    refine zx_ev_ift zk_58 (P := (m.1 19 1) ≤ v2) (t := 29) (f := 12) rfl rfl c1 ?_
    refine zx_ev_blk zk_58 1 (pc1 := 30) (L1 := [some (.ref 19), some (.int v1), some (.int v2)]) (st1 := [.int v1]) (h1 := (zx_SC, m)) rfl ?_
    obtain rfl := Option.some.inj hf
    rw [show out = _ from hK]
    exact zx_ev_ret zk_58 rfl rfl
  · rw [if_neg c1] at hf
    refine zx_ev_ifn zk_58 (P := (m.1 19 1) ≤ v2) (t := 29) (f := 12) rfl rfl c1 ?_
    refine zx_ev_blk zk_58 5 (pc1 := 18) (L1 := [some (.ref 19), some (.int v1), some (.int v2)]) (st1 := [.int v2, .ref 19, .int (v1 * 10)]) (h1 := (zx_SC, m)) rfl ?_
    obtain ⟨r3, hv2, hf⟩ := zx_bind_eq hf
    refine zx_ev_call (d := d + 0) zk_58 (v := some (.int r3)) (h1 := (zx_SC, m)) rfl rfl zt_53 rfl zx_SCn rfl rfl (s_Order_at _ _ (d := d + 0) hv2) ?_
    obtain ⟨a4, ha4, hf⟩ := zx_let_eq hf
    obtain ⟨a5, ha5, hf⟩ := zx_let_eq hf
    refine zx_ev_blk zk_58 4 (pc1 := 4) (L1 := [some (.ref 19), some (.int a4), some (.int a5)]) (st1 := []) (h1 := (zx_SC, m)) (by subst ha4; subst ha5; rfl) ?_
    obtain rfl := Option.some.inj hf
    exact zx_ev_sub (L := [some (.ref 19), some (.int a4), some (.int a5)]) (⟨rfl, ⟨rfl, ⟨rfl, trivial⟩⟩⟩) hK
def l_Order_asDigits_l4 (m : zx_M) (s0 : Int32 × Int32) : Option (Int32) := zx_lp zx_N (fun s : Int32 × Int32 => b_Order_asDigits_l4 s.1 s.2 m) s0
theorem el_Order_asDigits_l4 (m : zx_M) {d : Nat} {out : Option Value × zx_H} : ∀ (n : Nat) (s : Int32 × Int32) (x : Int32), zx_lp n (fun s : Int32 × Int32 => b_Order_asDigits_l4 s.1 s.2 m) s = some x → kx_Order_asDigits_l4 m d out x → zx_Ev (d + 1) 58 4 [some (.ref 19), some (.int s.1), some (.int s.2)] [] (zx_SC, m) out := by
  intro n
  induction n with
  | zero => intro s x hl _; simp [zx_lp] at hl
  | succ n ih =>
    intro s x hl hx
    unfold zx_lp at hl
    cases hb : b_Order_asDigits_l4 s.1 s.2 m with
    | none => simp only [hb] at hl; cases hl
    | some z =>
      simp only [hb] at hl
      cases z with
      | inl s1 => exact eb_Order_asDigits_l4 s.1 s.2 m hb (ih s1 x hl hx)
      | inr t =>
        simp only [Option.some.injEq] at hl
        subst hl
        exact eb_Order_asDigits_l4 s.1 s.2 m hb hx
def f_Order_asDigits (m : zx_M) : Option Int32 := (l_Order_asDigits_l4 m (0, 0)).bind fun x6 => zx_let x6 fun y7 => some y7
theorem s_Order_asDigits (m : zx_M) {d : Nat} {y : Int32} (hf : f_Order_asDigits m = some y) : zx_Ev (d + 1) 58 0 [some (.ref 19), none, none] [] (zx_SC, m) (some (.int y), (zx_SC, m)) := by
  unfold f_Order_asDigits at hf
  refine zx_ev_blk zk_58 4 (pc1 := 4) (L1 := [some (.ref 19), some (.int 0), some (.int 0)]) (st1 := []) (h1 := (zx_SC, m)) rfl ?_
  obtain ⟨x6, hx6, hf⟩ := zx_bind_eq hf
  refine zx_ev_sub (L := [some (.ref 19), some (.int 0), some (.int 0)]) (⟨rfl, ⟨rfl, ⟨rfl, trivial⟩⟩⟩) (el_Order_asDigits_l4 m zx_N (0, 0) x6 hx6 ?_)
  obtain ⟨y7, hy7, hf⟩ := zx_let_eq hf
  subst hy7
  obtain rfl := Option.some.inj hf
  rfl
