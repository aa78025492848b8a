def f_M_within (v0 : Int64) (v2 : Int64) (v4 : Int64) (m : zx_M) : Option Int32 := if (lg_cmp v0 v2) < 0 then some 0 else if 0 < (lg_cmp v0 v4) then some 0 else some 1
theorem s_M_within (v0 : Int64) (v2 : Int64) (v4 : Int64) (m : zx_M) {d : Nat} {y : Int32} (hf : f_M_within v0 v2 v4 m = some y) : zx_Ev (d) 157 0 [some (.long v0), none, some (.long v2), none, some (.long v4), none] [] (zx_SM, m) (some (.int y), (zx_SM, m)) := by
  unfold f_M_within at hf
  refine zx_ev_blk zk_157 3 (pc1 := 3) (L1 := [some (.long v0), none, some (.long v2), none, some (.long v4), none]) (st1 := [.int (lg_cmp v0 v2)]) (h1 := (zx_SM, m)) rfl ?_
  by_cases c1 : (lg_cmp v0 v2) < 0
  · rw [if_pos c1] at hf
    refine zx_ev_ift zk_157 (P := (lg_cmp v0 v2) < 0) (t := 17) (f := 6) rfl rfl c1 ?_
    refine zx_ev_blk zk_157 1 (pc1 := 18) (L1 := [some (.long v0), none, some (.long v2), none, some (.long v4), none]) (st1 := [.int 0]) (h1 := (zx_SM, m)) rfl ?_
    obtain rfl := Option.some.inj hf
    exact zx_ev_ret zk_157 rfl (zx_ret_z (Or.inl rfl))
  · rw [if_neg c1] at hf
    refine zx_ev_ifn zk_157 (P := (lg_cmp v0 v2) < 0) (t := 17) (f := 6) rfl rfl c1 ?_
    refine zx_ev_blk zk_157 3 (pc1 := 10) (L1 := [some (.long v0), none, some (.long v2), none, some (.long v4), none]) (st1 := [.int (lg_cmp v0 v4)]) (h1 := (zx_SM, m)) rfl ?_
    by_cases c2 : 0 < (lg_cmp v0 v4)
    · rw [if_pos c2] at hf
      refine zx_ev_ift zk_157 (P := 0 < (lg_cmp v0 v4)) (t := 17) (f := 13) rfl rfl c2 ?_
      refine zx_ev_blk zk_157 1 (pc1 := 18) (L1 := [some (.long v0), none, some (.long v2), none, some (.long v4), none]) (st1 := [.int 0]) (h1 := (zx_SM, m)) rfl ?_
      obtain rfl := Option.some.inj hf
      exact zx_ev_ret zk_157 rfl (zx_ret_z (Or.inl rfl))
    · rw [if_neg c2] at hf
      refine zx_ev_ifn zk_157 (P := 0 < (lg_cmp v0 v4)) (t := 17) (f := 13) rfl rfl c2 ?_
      refine zx_ev_blk zk_157 2 (pc1 := 18) (L1 := [some (.long v0), none, some (.long v2), none, some (.long v4), none]) (st1 := [.int 1]) (h1 := (zx_SM, m)) rfl ?_
      obtain rfl := Option.some.inj hf
      exact zx_ev_ret zk_157 rfl (zx_ret_z (Or.inr rfl))
def f_M_isBody (v1 : Int32) (m : zx_M) : Option Int32 := (f_M_within (Int32.toInt64 v1) 0 (Int32.toInt64 ((m.1 0 43) - 1)) m).bind fun r2 => if r2 = 0 ∨ r2 = 1 then some r2 else none
theorem s_M_isBody (v1 : Int32) (m : zx_M) {d : Nat} {y : Int32} (hf : f_M_isBody v1 m = some y) : zx_Ev (d + 1) 239 0 [some (.ref 0), some (.int v1)] [] (zx_SM, m) (some (.int y), (zx_SM, m)) := by
  unfold f_M_isBody at hf
  refine zx_ev_blk zk_239 8 (pc1 := 10) (L1 := [some (.ref 0), some (.int v1)]) (st1 := [.long (Int32.toInt64 ((m.1 0 43) - 1)), .long 0, .long (Int32.toInt64 v1)]) (h1 := (zx_SM, m)) rfl ?_
  obtain ⟨r2, hv1, hf⟩ := zx_bind_eq hf
  refine zx_ev_call (d := d + 0) zk_239 (v := some (.int r2)) (h1 := (zx_SM, m)) rfl rfl zt_157 rfl zx_SMn rfl rfl (s_M_within _ _ _ _ (d := d + 0) hv1) ?_
  by_cases c3 : r2 = 0 ∨ r2 = 1
  · rw [if_pos c3] at hf
    obtain rfl := Option.some.inj hf
    exact zx_ev_ret zk_239 rfl (zx_ret_z c3)
  · rw [if_neg c3] at hf; cases hf
def n_M_begins_n19 (m : zx_M) : Option zx_M := zx_let (zx_u1 m 0 46 ((m.1 0 46) + 1)) fun m2 => some m2
theorem e_M_begins_n19 (m : zx_M) {d : Nat} {y : zx_M} (hf : n_M_begins_n19 m = some y) : zx_Ev (d) 243 19 [some (.ref 0), none] [] (zx_SM, m) (none, (zx_SM, y)) := by
  unfold n_M_begins_n19 at hf
  obtain ⟨m2, hm2, hf⟩ := zx_let_eq hf
  refine zx_ev_blk zk_243 6 (pc1 := 29) (L1 := [some (.ref 0), none]) (st1 := []) (h1 := (zx_SM, m2)) (by subst hm2; rfl) ?_
  obtain rfl := Option.some.inj hf
  exact zx_ev_ret zk_243 rfl rfl
def f_M_begins (v1 : Int32) (m : zx_M) : Option zx_M := if 24 ≤ (m.1 0 46) then n_M_begins_n19 m else (zx_ix 24 (m.1 0 46)).bind fun j3 => zx_let (zx_u1 m 18 j3 v1) fun m4 => n_M_begins_n19 m4
theorem s_M_begins (v1 : Int32) (m : zx_M) {d : Nat} {y : zx_M} (hf : f_M_begins v1 m = some y) : zx_Ev (d) 243 0 [some (.ref 0), some (.int v1)] [] (zx_SM, m) (none, (zx_SM, y)) := by
  unfold f_M_begins at hf
  refine zx_ev_blk zk_243 3 (pc1 := 6) (L1 := [some (.ref 0), some (.int v1)]) (st1 := [.int 24, .int (m.1 0 46)]) (h1 := (zx_SM, m)) rfl ?_
  by_cases c1 : 24 ≤ (m.1 0 46)
  · rw [if_pos c1] at hf
    refine zx_ev_ift zk_243 (P := 24 ≤ (m.1 0 46)) (t := 19) (f := 9) rfl rfl c1 ?_
    exact zx_ev_sub (L := [some (.ref 0), none]) (⟨rfl, ⟨trivial, trivial⟩⟩) (e_M_begins_n19 m hf)
  · rw [if_neg c1] at hf
    refine zx_ev_ifn zk_243 (P := 24 ≤ (m.1 0 46)) (t := 19) (f := 9) rfl rfl c1 ?_
    refine zx_ev_blk zk_243 5 (pc1 := 18) (L1 := [some (.ref 0), some (.int v1)]) (st1 := [.int v1, .int (m.1 0 46), .ref 18]) (h1 := (zx_SM, m)) rfl ?_
    obtain ⟨j3, hj3, hf⟩ := zx_bind_eq hf
    refine zx_ev_step zk_243 rfl (st_iast rfl hj3) ?_
    obtain ⟨m4, hm4, hf⟩ := zx_let_eq hf
    rw [hm4]
    exact zx_ev_sub (L := [some (.ref 0), none]) (⟨rfl, ⟨trivial, trivial⟩⟩) (e_M_begins_n19 m4 hf)
abbrev GT_goesAs_m : Type := (Int32 → Int32 → zx_M → Option (Int32 × zx_M))
def GH_goesAs_m (d : Nat) (g : GT_goesAs_m) : Prop := (∀ (v1 : Int32) (v2 : Int32) (m : zx_M) (y : (Int32 × zx_M)), g v1 v2 m = some y → zx_Ev d 244 0 [some (.ref 0), some (.int v1), some (.int v2)] [] (zx_SM, m) (some (.int y.1), (zx_SM, y.2)))
def n_M_goesAs_n16 (g : GT_goesAs_m) (v2 : Int32) (m : zx_M) : Option (Int32 × zx_M) := (f_M_begins 20 m).bind fun m3 => (g 0 v2 m3).bind fun (r5, m6) => some (r5 + 3, m6)
theorem e_M_goesAs_n16 (g : GT_goesAs_m) (v2 : Int32) (m : zx_M) {d : Nat} (hg : GH_goesAs_m (d + 0) g) {y : (Int32 × zx_M)} (hf : n_M_goesAs_n16 g v2 m = some y) : zx_Ev (d + 1) 244 16 [some (.ref 0), none, some (.int v2)] [] (zx_SM, m) (some (.int y.1), (zx_SM, y.2)) := by
  unfold n_M_goesAs_n16 at hf
  refine zx_ev_blk zk_244 2 (pc1 := 19) (L1 := [some (.ref 0), none, some (.int v2)]) (st1 := [.int 20, .ref 0]) (h1 := (zx_SM, m)) rfl ?_
  obtain ⟨m3, hv2, hf⟩ := zx_bind_eq hf
  refine zx_ev_call (d := d + 0) zk_244 (v := none) (h1 := (zx_SM, m3)) rfl rfl zt_243 rfl zx_SMn rfl rfl (s_M_begins _ _ (d := d + 0) hv2) ?_
  refine zx_ev_blk zk_244 3 (pc1 := 25) (L1 := [some (.ref 0), none, some (.int v2)]) (st1 := [.int v2, .int 0, .ref 0]) (h1 := (zx_SM, m3)) rfl ?_
  obtain ⟨⟨r5, m6⟩, hv4, hf⟩ := zx_bind_eq hf
  dsimp only at hf
  refine zx_ev_call (d := d + 0) zk_244 (v := some (.int r5)) (h1 := (zx_SM, m6)) rfl rfl zt_244 rfl zx_SMn rfl rfl (hg _ _ _ _ hv4) ?_
  refine zx_ev_blk zk_244 2 (pc1 := 30) (L1 := [some (.ref 0), none, some (.int v2)]) (st1 := [.int (r5 + 3)]) (h1 := (zx_SM, m6)) rfl ?_
  obtain rfl := Option.some.inj hf
  exact zx_ev_ret zk_244 rfl rfl
def F_M_goesAs (g : GT_goesAs_m) (v1 : Int32) (v2 : Int32) (m : zx_M) : Option (Int32 × zx_M) := if v1 = 1 then n_M_goesAs_n16 g v2 m else if v1 = 4 then n_M_goesAs_n16 g v2 m else if ¬ v1 = 7 then if ¬ v1 = 6 then (f_M_begins 1 m).bind fun m11 => some (v2 + (m11.1 0 48), m11) else (f_M_begins 70 m).bind fun m13 => (g 0 v2 m13).bind fun (r15, m16) => some (r15 * 2, m16) else n_M_goesAs_n16 g v2 m
theorem s_M_goesAs (g : GT_goesAs_m) (v1 : Int32) (v2 : Int32) (m : zx_M) {d : Nat} (hg : GH_goesAs_m (d + 0) g) {y : (Int32 × zx_M)} (hf : F_M_goesAs g v1 v2 m = some y) : zx_Ev (d + 1) 244 0 [some (.ref 0), some (.int v1), some (.int v2)] [] (zx_SM, m) (some (.int y.1), (zx_SM, y.2)) := by
  unfold F_M_goesAs at hf
  refine zx_ev_blk zk_244 2 (pc1 := 2) (L1 := [some (.ref 0), some (.int v1), some (.int v2)]) (st1 := [.int 1, .int v1]) (h1 := (zx_SM, m)) rfl ?_
  by_cases c1 : v1 = 1
  · rw [if_pos c1] at hf
    refine zx_ev_ift zk_244 (P := v1 = 1) (t := 16) (f := 5) rfl rfl c1 ?_
    exact zx_ev_sub (L := [some (.ref 0), none, some (.int v2)]) (⟨rfl, ⟨trivial, ⟨rfl, trivial⟩⟩⟩) (e_M_goesAs_n16 g v2 m hg hf)
  · rw [if_neg c1] at hf
    refine zx_ev_ifn zk_244 (P := v1 = 1) (t := 16) (f := 5) rfl rfl c1 ?_
    refine zx_ev_blk zk_244 2 (pc1 := 7) (L1 := [some (.ref 0), some (.int v1), some (.int v2)]) (st1 := [.int 4, .int v1]) (h1 := (zx_SM, m)) rfl ?_
    by_cases c7 : v1 = 4
    · rw [if_pos c7] at hf
      refine zx_ev_ift zk_244 (P := v1 = 4) (t := 16) (f := 10) rfl rfl c7 ?_
      exact zx_ev_sub (L := [some (.ref 0), none, some (.int v2)]) (⟨rfl, ⟨trivial, ⟨rfl, trivial⟩⟩⟩) (e_M_goesAs_n16 g v2 m hg hf)
    · rw [if_neg c7] at hf
      refine zx_ev_ifn zk_244 (P := v1 = 4) (t := 16) (f := 10) rfl rfl c7 ?_
      refine zx_ev_blk zk_244 2 (pc1 := 13) (L1 := [some (.ref 0), some (.int v1), some (.int v2)]) (st1 := [.int 7, .int v1]) (h1 := (zx_SM, m)) rfl ?_
      by_cases c8 : ¬ v1 = 7
      · rw [if_pos c8] at hf
        refine zx_ev_ift zk_244 (P := ¬ v1 = 7) (t := 31) (f := 16) rfl rfl c8 ?_
        refine zx_ev_blk zk_244 2 (pc1 := 34) (L1 := [some (.ref 0), some (.int v1), some (.int v2)]) (st1 := [.int 6, .int v1]) (h1 := (zx_SM, m)) rfl ?_
        by_cases c9 : ¬ v1 = 6
        · rw [if_pos c9] at hf
          refine zx_ev_ift zk_244 (P := ¬ v1 = 6) (t := 52) (f := 37) rfl rfl c9 ?_
          refine zx_ev_blk zk_244 2 (pc1 := 54) (L1 := [some (.ref 0), some (.int v1), some (.int v2)]) (st1 := [.int 1, .ref 0]) (h1 := (zx_SM, m)) rfl ?_
          obtain ⟨m11, hv10, hf⟩ := zx_bind_eq hf
          refine zx_ev_call (d := d + 0) zk_244 (v := none) (h1 := (zx_SM, m11)) rfl rfl zt_243 rfl zx_SMn rfl rfl (s_M_begins _ _ (d := d + 0) hv10) ?_
          refine zx_ev_blk zk_244 4 (pc1 := 63) (L1 := [some (.ref 0), some (.int v1), some (.int v2)]) (st1 := [.int (v2 + (m11.1 0 48))]) (h1 := (zx_SM, m11)) rfl ?_
          obtain rfl := Option.some.inj hf
          exact zx_ev_ret zk_244 rfl rfl
        · rw [if_neg c9] at hf
          refine zx_ev_ifn zk_244 (P := ¬ v1 = 6) (t := 52) (f := 37) rfl rfl c9 ?_
          refine zx_ev_blk zk_244 2 (pc1 := 40) (L1 := [some (.ref 0), some (.int v1), some (.int v2)]) (st1 := [.int 70, .ref 0]) (h1 := (zx_SM, m)) rfl ?_
          obtain ⟨m13, hv12, hf⟩ := zx_bind_eq hf
          refine zx_ev_call (d := d + 0) zk_244 (v := none) (h1 := (zx_SM, m13)) rfl rfl zt_243 rfl zx_SMn rfl rfl (s_M_begins _ _ (d := d + 0) hv12) ?_
          refine zx_ev_blk zk_244 3 (pc1 := 46) (L1 := [some (.ref 0), some (.int v1), some (.int v2)]) (st1 := [.int v2, .int 0, .ref 0]) (h1 := (zx_SM, m13)) rfl ?_
          obtain ⟨⟨r15, m16⟩, hv14, hf⟩ := zx_bind_eq hf
          dsimp only at hf
          refine zx_ev_call (d := d + 0) zk_244 (v := some (.int r15)) (h1 := (zx_SM, m16)) rfl rfl zt_244 rfl zx_SMn rfl rfl (hg _ _ _ _ hv14) ?_
          refine zx_ev_blk zk_244 2 (pc1 := 51) (L1 := [some (.ref 0), some (.int v1), some (.int v2)]) (st1 := [.int (r15 * 2)]) (h1 := (zx_SM, m16)) rfl ?_
          obtain rfl := Option.some.inj hf
          exact zx_ev_ret zk_244 rfl rfl
      · rw [if_neg c8] at hf
        refine zx_ev_ifn zk_244 (P := ¬ v1 = 7) (t := 31) (f := 16) rfl rfl c8 ?_
        exact zx_ev_sub (L := [some (.ref 0), none, some (.int v2)]) (⟨rfl, ⟨trivial, ⟨rfl, trivial⟩⟩⟩) (e_M_goesAs_n16 g v2 m hg hf)
def g_goesAs_m : Nat → GT_goesAs_m
  | 0 => (fun _ _ _ => none)
  | j + 1 => (fun x0 x1 m => F_M_goesAs (g_goesAs_m j) x0 x1 m)
theorem eg_goesAs_m : ∀ (j d : Nat), GH_goesAs_m (d + 0 + j) (g_goesAs_m j) := by
  intro j
  induction j with
  | zero => intro d; exact (fun _ _ _ _ h => by simp [g_goesAs_m] at h)
  | succ j ih =>
    intro d
    have ih : ∀ d : Nat, GH_goesAs_m (d + j + 0) (g_goesAs_m j) := fun d => by rw [show d + j + 0 = d + 0 + j by omega]; exact ih d
    show GH_goesAs_m (d + 0 + j + 1) (g_goesAs_m (j + 1))
    rw [show d + 0 + j + 1 = d + j + 1 by omega]
    exact (fun _ _ _ _ h => s_M_goesAs _ _ _ _ (d := d + j) (ih d) h)
abbrev GT_steersAs_m : Type := (Int32 → Int32 → zx_M → Option (Int32 × zx_M))
def GH_steersAs_m (d : Nat) (g : GT_steersAs_m) : Prop := (∀ (v1 : Int32) (v2 : Int32) (m : zx_M) (y : (Int32 × zx_M)), g v1 v2 m = some y → zx_Ev d 246 0 [some (.ref 0), some (.int v1), some (.int v2), none] [] (zx_SM, m) (some (.int y.1), (zx_SM, y.2)))
def n_M_steersAs_n10 (g : GT_steersAs_m) (v2 : Int32) (m : zx_M) : Option (Int32 × zx_M) := (f_M_begins 40 m).bind fun m3 => (g 2 v2 m3).bind fun (r5, m6) => some (r5 * 3, m6)
theorem e_M_steersAs_n10 (g : GT_steersAs_m) (v2 : Int32) (m : zx_M) {d : Nat} (hg : GH_steersAs_m (d + 12) g) {y : (Int32 × zx_M)} (hf : n_M_steersAs_n10 g v2 m = some y) : zx_Ev (d + 13) 246 10 [some (.ref 0), none, some (.int v2), none] [] (zx_SM, m) (some (.int y.1), (zx_SM, y.2)) := by
  unfold n_M_steersAs_n10 at hf
  refine zx_ev_blk zk_246 2 (pc1 := 13) (L1 := [some (.ref 0), none, some (.int v2), none]) (st1 := [.int 40, .ref 0]) (h1 := (zx_SM, m)) rfl ?_
  obtain ⟨m3, hv2, hf⟩ := zx_bind_eq hf
  refine zx_ev_call (d := d + 12) zk_246 (v := none) (h1 := (zx_SM, m3)) rfl rfl zt_243 rfl zx_SMn rfl rfl (s_M_begins _ _ (d := d + 12) hv2) ?_
  refine zx_ev_blk zk_246 3 (pc1 := 19) (L1 := [some (.ref 0), none, some (.int v2), none]) (st1 := [.int v2, .int 2, .ref 0]) (h1 := (zx_SM, m3)) rfl ?_
  obtain ⟨⟨r5, m6⟩, hv4, hf⟩ := zx_bind_eq hf
  dsimp only at hf
  refine zx_ev_call (d := d + 12) zk_246 (v := some (.int r5)) (h1 := (zx_SM, m6)) rfl rfl zt_246 rfl zx_SMn rfl rfl (hg _ _ _ _ hv4) ?_
  refine zx_ev_blk zk_246 2 (pc1 := 24) (L1 := [some (.ref 0), none, some (.int v2), none]) (st1 := [.int (r5 * 3)]) (h1 := (zx_SM, m6)) rfl ?_
  obtain rfl := Option.some.inj hf
  exact zx_ev_ret zk_246 rfl rfl
def n_M_steersAs_n36 (g : GT_steersAs_m) (v2 : Int32) (m : zx_M) : Option (Int32 × zx_M) := (f_M_begins 50 m).bind fun m10 => (g 1 v2 m10).bind fun (r12, m13) => ((g_goesAs_m 12) (m13.1 0 47) 2 m13).bind fun (r15, m16) => some (r12 - r15, m16)
theorem e_M_steersAs_n36 (g : GT_steersAs_m) (v2 : Int32) (m : zx_M) {d : Nat} (hg : GH_steersAs_m (d + 12) g) {y : (Int32 × zx_M)} (hf : n_M_steersAs_n36 g v2 m = some y) : zx_Ev (d + 13) 246 36 [some (.ref 0), none, some (.int v2), none] [] (zx_SM, m) (some (.int y.1), (zx_SM, y.2)) := by
  unfold n_M_steersAs_n36 at hf
  refine zx_ev_blk zk_246 2 (pc1 := 39) (L1 := [some (.ref 0), none, some (.int v2), none]) (st1 := [.int 50, .ref 0]) (h1 := (zx_SM, m)) rfl ?_
  obtain ⟨m10, hv9, hf⟩ := zx_bind_eq hf
  refine zx_ev_call (d := d + 12) zk_246 (v := none) (h1 := (zx_SM, m10)) rfl rfl zt_243 rfl zx_SMn rfl rfl (s_M_begins _ _ (d := d + 12) hv9) ?_
  refine zx_ev_blk zk_246 3 (pc1 := 45) (L1 := [some (.ref 0), none, some (.int v2), none]) (st1 := [.int v2, .int 1, .ref 0]) (h1 := (zx_SM, m10)) rfl ?_
  obtain ⟨⟨r12, m13⟩, hv11, hf⟩ := zx_bind_eq hf
  dsimp only at hf
  refine zx_ev_call (d := d + 12) zk_246 (v := some (.int r12)) (h1 := (zx_SM, m13)) rfl rfl zt_246 rfl zx_SMn rfl rfl (hg _ _ _ _ hv11) ?_
  refine zx_ev_blk zk_246 6 (pc1 := 56) (L1 := [some (.ref 0), none, some (.int v2), some (.int r12)]) (st1 := [.int 2, .int (m13.1 0 47), .ref 0, .int r12]) (h1 := (zx_SM, m13)) rfl ?_
  obtain ⟨⟨r15, m16⟩, hv14, hf⟩ := zx_bind_eq hf
  dsimp only at hf
  refine zx_ev_call (d := d + 12) zk_246 (v := some (.int r15)) (h1 := (zx_SM, m16)) rfl rfl zt_244 rfl zx_SMn rfl rfl ((eg_goesAs_m 12 (d + 0)) _ _ _ _ hv14) ?_
  refine zx_ev_blk zk_246 1 (pc1 := 60) (L1 := [some (.ref 0), none, some (.int v2), some (.int r12)]) (st1 := [.int (r12 - r15)]) (h1 := (zx_SM, m16)) rfl ?_
  obtain rfl := Option.some.inj hf
  exact zx_ev_ret zk_246 rfl rfl
def F_M_steersAs (g : GT_steersAs_m) (v1 : Int32) (v2 : Int32) (m : zx_M) : Option (Int32 × zx_M) := if v1 = 3 then n_M_steersAs_n10 g v2 m else if ¬ v1 = 5 then if v1 = 4 then n_M_steersAs_n36 g v2 m else if ¬ v1 = 7 then (f_M_begins 11 m).bind fun m19 => some (v2 ^^^ (m19.1 0 48), m19) else n_M_steersAs_n36 g v2 m else n_M_steersAs_n10 g v2 m
theorem s_M_steersAs (g : GT_steersAs_m) (v1 : Int32) (v2 : Int32) (m : zx_M) {d : Nat} (hg : GH_steersAs_m (d + 12) g) {y : (Int32 × zx_M)} (hf : F_M_steersAs g v1 v2 m = some y) : zx_Ev (d + 13) 246 0 [some (.ref 0), some (.int v1), some (.int v2), none] [] (zx_SM, m) (some (.int y.1), (zx_SM, y.2)) := by
  unfold F_M_steersAs at hf
  refine zx_ev_blk zk_246 2 (pc1 := 2) (L1 := [some (.ref 0), some (.int v1), some (.int v2), none]) (st1 := [.int 3, .int v1]) (h1 := (zx_SM, m)) rfl ?_
  by_cases c1 : v1 = 3
  · rw [if_pos c1] at hf
    refine zx_ev_ift zk_246 (P := v1 = 3) (t := 10) (f := 5) rfl rfl c1 ?_
    exact zx_ev_sub (L := [some (.ref 0), none, some (.int v2), none]) (⟨rfl, ⟨trivial, ⟨rfl, trivial⟩⟩⟩) (e_M_steersAs_n10 g v2 m hg hf)
  · rw [if_neg c1] at hf
    refine zx_ev_ifn zk_246 (P := v1 = 3) (t := 10) (f := 5) rfl rfl c1 ?_
    refine zx_ev_blk zk_246 2 (pc1 := 7) (L1 := [some (.ref 0), some (.int v1), some (.int v2), none]) (st1 := [.int 5, .int v1]) (h1 := (zx_SM, m)) rfl ?_
    by_cases c7 : ¬ v1 = 5
    · rw [if_pos c7] at hf
      refine zx_ev_ift zk_246 (P := ¬ v1 = 5) (t := 25) (f := 10) rfl rfl c7 ?_
      refine zx_ev_blk zk_246 2 (pc1 := 27) (L1 := [some (.ref 0), some (.int v1), some (.int v2), none]) (st1 := [.int 4, .int v1]) (h1 := (zx_SM, m)) rfl ?_
      by_cases c8 : v1 = 4
      · rw [if_pos c8] at hf
        refine zx_ev_ift zk_246 (P := v1 = 4) (t := 36) (f := 30) rfl rfl c8 ?_
        exact zx_ev_sub (L := [some (.ref 0), none, some (.int v2), none]) (⟨rfl, ⟨trivial, ⟨rfl, trivial⟩⟩⟩) (e_M_steersAs_n36 g v2 m hg hf)
      · rw [if_neg c8] at hf
        refine zx_ev_ifn zk_246 (P := v1 = 4) (t := 36) (f := 30) rfl rfl c8 ?_
        refine zx_ev_blk zk_246 2 (pc1 := 33) (L1 := [some (.ref 0), some (.int v1), some (.int v2), none]) (st1 := [.int 7, .int v1]) (h1 := (zx_SM, m)) rfl ?_
        by_cases c17 : ¬ v1 = 7
        · rw [if_pos c17] at hf
          refine zx_ev_ift zk_246 (P := ¬ v1 = 7) (t := 61) (f := 36) rfl rfl c17 ?_
          refine zx_ev_blk zk_246 2 (pc1 := 64) (L1 := [some (.ref 0), some (.int v1), some (.int v2), none]) (st1 := [.int 11, .ref 0]) (h1 := (zx_SM, m)) rfl ?_
          obtain ⟨m19, hv18, hf⟩ := zx_bind_eq hf
          refine zx_ev_call (d := d + 12) zk_246 (v := none) (h1 := (zx_SM, m19)) rfl rfl zt_243 rfl zx_SMn rfl rfl (s_M_begins _ _ (d := d + 12) hv18) ?_
          refine zx_ev_blk zk_246 4 (pc1 := 73) (L1 := [some (.ref 0), some (.int v1), some (.int v2), none]) (st1 := [.int (v2 ^^^ (m19.1 0 48))]) (h1 := (zx_SM, m19)) rfl ?_
          obtain rfl := Option.some.inj hf
          exact zx_ev_ret zk_246 rfl rfl
        · rw [if_neg c17] at hf
          refine zx_ev_ifn zk_246 (P := ¬ v1 = 7) (t := 61) (f := 36) rfl rfl c17 ?_
          exact zx_ev_sub (L := [some (.ref 0), none, some (.int v2), none]) (⟨rfl, ⟨trivial, ⟨rfl, trivial⟩⟩⟩) (e_M_steersAs_n36 g v2 m hg hf)
    · rw [if_neg c7] at hf
      refine zx_ev_ifn zk_246 (P := ¬ v1 = 5) (t := 25) (f := 10) rfl rfl c7 ?_
      exact zx_ev_sub (L := [some (.ref 0), none, some (.int v2), none]) (⟨rfl, ⟨trivial, ⟨rfl, trivial⟩⟩⟩) (e_M_steersAs_n10 g v2 m hg hf)
def g_steersAs_m : Nat → GT_steersAs_m
  | 0 => (fun _ _ _ => none)
  | j + 1 => (fun x0 x1 m => F_M_steersAs (g_steersAs_m j) x0 x1 m)
theorem eg_steersAs_m : ∀ (j d : Nat), GH_steersAs_m (d + 12 + j) (g_steersAs_m j) := by
  intro j
  induction j with
  | zero => intro d; exact (fun _ _ _ _ h => by simp [g_steersAs_m] at h)
  | succ j ih =>
    intro d
    have ih : ∀ d : Nat, GH_steersAs_m (d + j + 12) (g_steersAs_m j) := fun d => by rw [show d + j + 12 = d + 12 + j by omega]; exact ih d
    show GH_steersAs_m (d + 12 + j + 1) (g_steersAs_m (j + 1))
    rw [show d + 12 + j + 1 = d + j + 13 by omega]
    exact (fun _ _ _ _ h => s_M_steersAs _ _ _ _ (d := d + j) (ih d) h)
abbrev GT_fallsAs_m : Type := (Int32 → Int32 → zx_M → Option (Int32 × zx_M))
def GH_fallsAs_m (d : Nat) (g : GT_fallsAs_m) : Prop := (∀ (v1 : Int32) (v2 : Int32) (m : zx_M) (y : (Int32 × zx_M)), g v1 v2 m = some y → zx_Ev d 245 0 [some (.ref 0), some (.int v1), some (.int v2), none] [] (zx_SM, m) (some (.int y.1), (zx_SM, y.2)))
def n_M_fallsAs_n10 (g : GT_fallsAs_m) (v2 : Int32) (m : zx_M) : Option (Int32 × zx_M) := (f_M_begins 41 m).bind fun m3 => (g 2 (v2 + 1) m3).bind fun (r5, m6) => some (r5, m6)
theorem e_M_fallsAs_n10 (g : GT_fallsAs_m) (v2 : Int32) (m : zx_M) {d : Nat} (hg : GH_fallsAs_m (d + 24) g) {y : (Int32 × zx_M)} (hf : n_M_fallsAs_n10 g v2 m = some y) : zx_Ev (d + 25) 245 10 [some (.ref 0), none, some (.int v2), none] [] (zx_SM, m) (some (.int y.1), (zx_SM, y.2)) := by
  unfold n_M_fallsAs_n10 at hf
  refine zx_ev_blk zk_245 2 (pc1 := 13) (L1 := [some (.ref 0), none, some (.int v2), none]) (st1 := [.int 41, .ref 0]) (h1 := (zx_SM, m)) rfl ?_
  obtain ⟨m3, hv2, hf⟩ := zx_bind_eq hf
  refine zx_ev_call (d := d + 24) zk_245 (v := none) (h1 := (zx_SM, m3)) rfl rfl zt_243 rfl zx_SMn rfl rfl (s_M_begins _ _ (d := d + 24) hv2) ?_
  refine zx_ev_blk zk_245 5 (pc1 := 21) (L1 := [some (.ref 0), none, some (.int v2), none]) (st1 := [.int (v2 + 1), .int 2, .ref 0]) (h1 := (zx_SM, m3)) rfl ?_
  obtain ⟨⟨r5, m6⟩, hv4, hf⟩ := zx_bind_eq hf
  dsimp only at hf
  refine zx_ev_call (d := d + 24) zk_245 (v := some (.int r5)) (h1 := (zx_SM, m6)) rfl rfl zt_245 rfl zx_SMn rfl rfl (hg _ _ _ _ hv4) ?_
  obtain rfl := Option.some.inj hf
  exact zx_ev_ret zk_245 rfl rfl
def F_M_fallsAs (g : GT_fallsAs_m) (v1 : Int32) (v2 : Int32) (m : zx_M) : Option (Int32 × zx_M) := if v1 = 3 then n_M_fallsAs_n10 g v2 m else if ¬ v1 = 5 then if ¬ v1 = 2 then if ¬ v1 = 7 then (f_M_begins 10 m).bind fun m11 => ((g_goesAs_m 12) (m11.1 0 47) v2 m11).bind fun (r13, m14) => some (r13 * 2, m14) else (f_M_begins 80 m).bind fun m16 => (g 4 v2 m16).bind fun (r18, m19) => ((g_steersAs_m 12) (m19.1 0 47) 2 m19).bind fun (r21, m22) => some (r18 + r21, m22) else (f_M_begins 30 m).bind fun m24 => (g 0 v2 m24).bind fun (r26, m27) => some (-r26, m27) else n_M_fallsAs_n10 g v2 m
theorem s_M_fallsAs (g : GT_fallsAs_m) (v1 : Int32) (v2 : Int32) (m : zx_M) {d : Nat} (hg : GH_fallsAs_m (d + 24) g) {y : (Int32 × zx_M)} (hf : F_M_fallsAs g v1 v2 m = some y) : zx_Ev (d + 25) 245 0 [some (.ref 0), some (.int v1), some (.int v2), none] [] (zx_SM, m) (some (.int y.1), (zx_SM, y.2)) := by
  unfold F_M_fallsAs at hf
  refine zx_ev_blk zk_245 2 (pc1 := 2) (L1 := [some (.ref 0), some (.int v1), some (.int v2), none]) (st1 := [.int 3, .int v1]) (h1 := (zx_SM, m)) rfl ?_
  by_cases c1 : v1 = 3
  · rw [if_pos c1] at hf
    refine zx_ev_ift zk_245 (P := v1 = 3) (t := 10) (f := 5) rfl rfl c1 ?_
    exact zx_ev_sub (L := [some (.ref 0), none, some (.int v2), none]) (⟨rfl, ⟨trivial, ⟨rfl, trivial⟩⟩⟩) (e_M_fallsAs_n10 g v2 m hg hf)
  · rw [if_neg c1] at hf
    refine zx_ev_ifn zk_245 (P := v1 = 3) (t := 10) (f := 5) rfl rfl c1 ?_
    refine zx_ev_blk zk_245 2 (pc1 := 7) (L1 := [some (.ref 0), some (.int v1), some (.int v2), none]) (st1 := [.int 5, .int v1]) (h1 := (zx_SM, m)) rfl ?_
    by_cases c7 : ¬ v1 = 5
    · rw [if_pos c7] at hf
      refine zx_ev_ift zk_245 (P := ¬ v1 = 5) (t := 25) (f := 10) rfl rfl c7 ?_
      refine zx_ev_blk zk_245 2 (pc1 := 27) (L1 := [some (.ref 0), some (.int v1), some (.int v2), none]) (st1 := [.int 2, .int v1]) (h1 := (zx_SM, m)) rfl ?_
      by_cases c8 : ¬ v1 = 2
      · rw [if_pos c8] at hf
        refine zx_ev_ift zk_245 (P := ¬ v1 = 2) (t := 44) (f := 30) rfl rfl c8 ?_
        refine zx_ev_blk zk_245 2 (pc1 := 47) (L1 := [some (.ref 0), some (.int v1), some (.int v2), none]) (st1 := [.int 7, .int v1]) (h1 := (zx_SM, m)) rfl ?_
        by_cases c9 : ¬ v1 = 7
        · rw [if_pos c9] at hf
          refine zx_ev_ift zk_245 (P := ¬ v1 = 7) (t := 75) (f := 50) rfl rfl c9 ?_
          refine zx_ev_blk zk_245 2 (pc1 := 78) (L1 := [some (.ref 0), some (.int v1), some (.int v2), none]) (st1 := [.int 10, .ref 0]) (h1 := (zx_SM, m)) rfl ?_
          obtain ⟨m11, hv10, hf⟩ := zx_bind_eq hf
          refine zx_ev_call (d := d + 24) zk_245 (v := none) (h1 := (zx_SM, m11)) rfl rfl zt_243 rfl zx_SMn rfl rfl (s_M_begins _ _ (d := d + 24) hv10) ?_
          refine zx_ev_blk zk_245 4 (pc1 := 87) (L1 := [some (.ref 0), some (.int v1), some (.int v2), none]) (st1 := [.int v2, .int (m11.1 0 47), .ref 0]) (h1 := (zx_SM, m11)) rfl ?_
          obtain ⟨⟨r13, m14⟩, hv12, hf⟩ := zx_bind_eq hf
          dsimp only at hf
          refine zx_ev_call (d := d + 24) zk_245 (v := some (.int r13)) (h1 := (zx_SM, m14)) rfl rfl zt_244 rfl zx_SMn rfl rfl ((eg_goesAs_m 12 (d + 12)) _ _ _ _ hv12) ?_
          refine zx_ev_blk zk_245 2 (pc1 := 92) (L1 := [some (.ref 0), some (.int v1), some (.int v2), none]) (st1 := [.int (r13 * 2)]) (h1 := (zx_SM, m14)) rfl ?_
          obtain rfl := Option.some.inj hf
          exact zx_ev_ret zk_245 rfl rfl
        · rw [if_neg c9] at hf
          refine zx_ev_ifn zk_245 (P := ¬ v1 = 7) (t := 75) (f := 50) rfl rfl c9 ?_
          refine zx_ev_blk zk_245 2 (pc1 := 53) (L1 := [some (.ref 0), some (.int v1), some (.int v2), none]) (st1 := [.int 80, .ref 0]) (h1 := (zx_SM, m)) rfl ?_
          obtain ⟨m16, hv15, hf⟩ := zx_bind_eq hf
          refine zx_ev_call (d := d + 24) zk_245 (v := none) (h1 := (zx_SM, m16)) rfl rfl zt_243 rfl zx_SMn rfl rfl (s_M_begins _ _ (d := d + 24) hv15) ?_
          refine zx_ev_blk zk_245 3 (pc1 := 59) (L1 := [some (.ref 0), some (.int v1), some (.int v2), none]) (st1 := [.int v2, .int 4, .ref 0]) (h1 := (zx_SM, m16)) rfl ?_
          obtain ⟨⟨r18, m19⟩, hv17, hf⟩ := zx_bind_eq hf
          dsimp only at hf
          refine zx_ev_call (d := d + 24) zk_245 (v := some (.int r18)) (h1 := (zx_SM, m19)) rfl rfl zt_245 rfl zx_SMn rfl rfl (hg _ _ _ _ hv17) ?_
          refine zx_ev_blk zk_245 6 (pc1 := 70) (L1 := [some (.ref 0), some (.int v1), some (.int v2), some (.int r18)]) (st1 := [.int 2, .int (m19.1 0 47), .ref 0, .int r18]) (h1 := (zx_SM, m19)) rfl ?_
          obtain ⟨⟨r21, m22⟩, hv20, hf⟩ := zx_bind_eq hf
          dsimp only at hf
          refine zx_ev_call (d := d + 24) zk_245 (v := some (.int r21)) (h1 := (zx_SM, m22)) rfl rfl zt_246 rfl zx_SMn rfl rfl ((eg_steersAs_m 12 (d + 0)) _ _ _ _ hv20) ?_
          refine zx_ev_blk zk_245 1 (pc1 := 74) (L1 := [some (.ref 0), some (.int v1), some (.int v2), some (.int r18)]) (st1 := [.int (r18 + r21)]) (h1 := (zx_SM, m22)) rfl ?_
          obtain rfl := Option.some.inj hf
          exact zx_ev_ret zk_245 rfl rfl
      · rw [if_neg c8] at hf
        refine zx_ev_ifn zk_245 (P := ¬ v1 = 2) (t := 44) (f := 30) rfl rfl c8 ?_
        refine zx_ev_blk zk_245 2 (pc1 := 33) (L1 := [some (.ref 0), some (.int v1), some (.int v2), none]) (st1 := [.int 30, .ref 0]) (h1 := (zx_SM, m)) rfl ?_
        obtain ⟨m24, hv23, hf⟩ := zx_bind_eq hf
        refine zx_ev_call (d := d + 24) zk_245 (v := none) (h1 := (zx_SM, m24)) rfl rfl zt_243 rfl zx_SMn rfl rfl (s_M_begins _ _ (d := d + 24) hv23) ?_
        refine zx_ev_blk zk_245 3 (pc1 := 39) (L1 := [some (.ref 0), some (.int v1), some (.int v2), none]) (st1 := [.int v2, .int 0, .ref 0]) (h1 := (zx_SM, m24)) rfl ?_
        obtain ⟨⟨r26, m27⟩, hv25, hf⟩ := zx_bind_eq hf
        dsimp only at hf
        refine zx_ev_call (d := d + 24) zk_245 (v := some (.int r26)) (h1 := (zx_SM, m27)) rfl rfl zt_245 rfl zx_SMn rfl rfl (hg _ _ _ _ hv25) ?_
        refine zx_ev_blk zk_245 1 (pc1 := 43) (L1 := [some (.ref 0), some (.int v1), some (.int v2), none]) (st1 := [.int (-r26)]) (h1 := (zx_SM, m27)) rfl ?_
        obtain rfl := Option.some.inj hf
        exact zx_ev_ret zk_245 rfl rfl
    · rw [if_neg c7] at hf
      refine zx_ev_ifn zk_245 (P := ¬ v1 = 5) (t := 25) (f := 10) rfl rfl c7 ?_
      exact zx_ev_sub (L := [some (.ref 0), none, some (.int v2), none]) (⟨rfl, ⟨trivial, ⟨rfl, trivial⟩⟩⟩) (e_M_fallsAs_n10 g v2 m hg hf)
def g_fallsAs_m : Nat → GT_fallsAs_m
  | 0 => (fun _ _ _ => none)
  | j + 1 => (fun x0 x1 m => F_M_fallsAs (g_fallsAs_m j) x0 x1 m)
theorem eg_fallsAs_m : ∀ (j d : Nat), GH_fallsAs_m (d + 24 + j) (g_fallsAs_m j) := by
  intro j
  induction j with
  | zero => intro d; exact (fun _ _ _ _ h => by simp [g_fallsAs_m] at h)
  | succ j ih =>
    intro d
    have ih : ∀ d : Nat, GH_fallsAs_m (d + j + 24) (g_fallsAs_m j) := fun d => by rw [show d + j + 24 = d + 24 + j by omega]; exact ih d
    show GH_fallsAs_m (d + 24 + j + 1) (g_fallsAs_m (j + 1))
    rw [show d + 24 + j + 1 = d + j + 25 by omega]
    exact (fun _ _ _ _ h => s_M_fallsAs _ _ _ _ (d := d + j) (ih d) h)
abbrev GT_tellsAs_m : Type := (Int32 → Int32 → zx_M → Option (Int32 × zx_M))
def GH_tellsAs_m (d : Nat) (g : GT_tellsAs_m) : Prop := (∀ (v1 : Int32) (v2 : Int32) (m : zx_M) (y : (Int32 × zx_M)), g v1 v2 m = some y → zx_Ev d 247 0 [some (.ref 0), some (.int v1), some (.int v2), none] [] (zx_SM, m) (some (.int y.1), (zx_SM, y.2)))
def F_M_tellsAs (g : GT_tellsAs_m) (v1 : Int32) (v2 : Int32) (m : zx_M) : Option (Int32 × zx_M) := if ¬ v1 = 5 then if ¬ v1 = 7 then (f_M_begins 2 m).bind fun m4 => ((g_fallsAs_m 12) (m4.1 0 47) v2 m4).bind fun (r6, m7) => ((g_steersAs_m 12) (m7.1 0 47) 1 m7).bind fun (r9, m10) => some (r6 - r9, m10) else (f_M_begins 81 m).bind fun m12 => (g 4 v2 m12).bind fun (r14, m15) => some (r14 - 1, m15) else (f_M_begins 60 m).bind fun m17 => (g 3 v2 m17).bind fun (r19, m20) => some (r19 ^^^ 5, m20)
theorem s_M_tellsAs (g : GT_tellsAs_m) (v1 : Int32) (v2 : Int32) (m : zx_M) {d : Nat} (hg : GH_tellsAs_m (d + 36) g) {y : (Int32 × zx_M)} (hf : F_M_tellsAs g v1 v2 m = some y) : zx_Ev (d + 37) 247 0 [some (.ref 0), some (.int v1), some (.int v2), none] [] (zx_SM, m) (some (.int y.1), (zx_SM, y.2)) := by
  unfold F_M_tellsAs at hf
  refine zx_ev_blk zk_247 2 (pc1 := 2) (L1 := [some (.ref 0), some (.int v1), some (.int v2), none]) (st1 := [.int 5, .int v1]) (h1 := (zx_SM, m)) rfl ?_
  by_cases c1 : ¬ v1 = 5
  · rw [if_pos c1] at hf
    refine zx_ev_ift zk_247 (P := ¬ v1 = 5) (t := 20) (f := 5) rfl rfl c1 ?_
    refine zx_ev_blk zk_247 2 (pc1 := 23) (L1 := [some (.ref 0), some (.int v1), some (.int v2), none]) (st1 := [.int 7, .int v1]) (h1 := (zx_SM, m)) rfl ?_
    by_cases c2 : ¬ v1 = 7
    · rw [if_pos c2] at hf
      refine zx_ev_ift zk_247 (P := ¬ v1 = 7) (t := 41) (f := 26) rfl rfl c2 ?_
      refine zx_ev_blk zk_247 2 (pc1 := 43) (L1 := [some (.ref 0), some (.int v1), some (.int v2), none]) (st1 := [.int 2, .ref 0]) (h1 := (zx_SM, m)) rfl ?_
      obtain ⟨m4, hv3, hf⟩ := zx_bind_eq hf
      refine zx_ev_call (d := d + 36) zk_247 (v := none) (h1 := (zx_SM, m4)) rfl rfl zt_243 rfl zx_SMn rfl rfl (s_M_begins _ _ (d := d + 36) hv3) ?_
      refine zx_ev_blk zk_247 4 (pc1 := 52) (L1 := [some (.ref 0), some (.int v1), some (.int v2), none]) (st1 := [.int v2, .int (m4.1 0 47), .ref 0]) (h1 := (zx_SM, m4)) rfl ?_
      obtain ⟨⟨r6, m7⟩, hv5, hf⟩ := zx_bind_eq hf
      dsimp only at hf
      refine zx_ev_call (d := d + 36) zk_247 (v := some (.int r6)) (h1 := (zx_SM, m7)) rfl rfl zt_245 rfl zx_SMn rfl rfl ((eg_fallsAs_m 12 (d + 0)) _ _ _ _ hv5) ?_
      refine zx_ev_blk zk_247 6 (pc1 := 63) (L1 := [some (.ref 0), some (.int v1), some (.int v2), some (.int r6)]) (st1 := [.int 1, .int (m7.1 0 47), .ref 0, .int r6]) (h1 := (zx_SM, m7)) rfl ?_
      obtain ⟨⟨r9, m10⟩, hv8, hf⟩ := zx_bind_eq hf
      dsimp only at hf
      refine zx_ev_call (d := d + 36) zk_247 (v := some (.int r9)) (h1 := (zx_SM, m10)) rfl rfl zt_246 rfl zx_SMn rfl rfl ((eg_steersAs_m 12 (d + 12)) _ _ _ _ hv8) ?_
      refine zx_ev_blk zk_247 1 (pc1 := 67) (L1 := [some (.ref 0), some (.int v1), some (.int v2), some (.int r6)]) (st1 := [.int (r6 - r9)]) (h1 := (zx_SM, m10)) rfl ?_
      obtain rfl := Option.some.inj hf
      exact zx_ev_ret zk_247 rfl rfl
    · rw [if_neg c2] at hf
      refine zx_ev_ifn zk_247 (P := ¬ v1 = 7) (t := 41) (f := 26) rfl rfl c2 ?_
      refine zx_ev_blk zk_247 2 (pc1 := 29) (L1 := [some (.ref 0), some (.int v1), some (.int v2), none]) (st1 := [.int 81, .ref 0]) (h1 := (zx_SM, m)) rfl ?_
      obtain ⟨m12, hv11, hf⟩ := zx_bind_eq hf
      refine zx_ev_call (d := d + 36) zk_247 (v := none) (h1 := (zx_SM, m12)) rfl rfl zt_243 rfl zx_SMn rfl rfl (s_M_begins _ _ (d := d + 36) hv11) ?_
      refine zx_ev_blk zk_247 3 (pc1 := 35) (L1 := [some (.ref 0), some (.int v1), some (.int v2), none]) (st1 := [.int v2, .int 4, .ref 0]) (h1 := (zx_SM, m12)) rfl ?_
      obtain ⟨⟨r14, m15⟩, hv13, hf⟩ := zx_bind_eq hf
      dsimp only at hf
      refine zx_ev_call (d := d + 36) zk_247 (v := some (.int r14)) (h1 := (zx_SM, m15)) rfl rfl zt_247 rfl zx_SMn rfl rfl (hg _ _ _ _ hv13) ?_
      refine zx_ev_blk zk_247 2 (pc1 := 40) (L1 := [some (.ref 0), some (.int v1), some (.int v2), none]) (st1 := [.int (r14 - 1)]) (h1 := (zx_SM, m15)) rfl ?_
      obtain rfl := Option.some.inj hf
      exact zx_ev_ret zk_247 rfl rfl
  · rw [if_neg c1] at hf
    refine zx_ev_ifn zk_247 (P := ¬ v1 = 5) (t := 20) (f := 5) rfl rfl c1 ?_
    refine zx_ev_blk zk_247 2 (pc1 := 8) (L1 := [some (.ref 0), some (.int v1), some (.int v2), none]) (st1 := [.int 60, .ref 0]) (h1 := (zx_SM, m)) rfl ?_
    obtain ⟨m17, hv16, hf⟩ := zx_bind_eq hf
    refine zx_ev_call (d := d + 36) zk_247 (v := none) (h1 := (zx_SM, m17)) rfl rfl zt_243 rfl zx_SMn rfl rfl (s_M_begins _ _ (d := d + 36) hv16) ?_
    refine zx_ev_blk zk_247 3 (pc1 := 14) (L1 := [some (.ref 0), some (.int v1), some (.int v2), none]) (st1 := [.int v2, .int 3, .ref 0]) (h1 := (zx_SM, m17)) rfl ?_
    obtain ⟨⟨r19, m20⟩, hv18, hf⟩ := zx_bind_eq hf
    dsimp only at hf
    refine zx_ev_call (d := d + 36) zk_247 (v := some (.int r19)) (h1 := (zx_SM, m20)) rfl rfl zt_247 rfl zx_SMn rfl rfl (hg _ _ _ _ hv18) ?_
    refine zx_ev_blk zk_247 2 (pc1 := 19) (L1 := [some (.ref 0), some (.int v1), some (.int v2), none]) (st1 := [.int (r19 ^^^ 5)]) (h1 := (zx_SM, m20)) rfl ?_
    obtain rfl := Option.some.inj hf
    exact zx_ev_ret zk_247 rfl rfl
def g_tellsAs_m : Nat → GT_tellsAs_m
  | 0 => (fun _ _ _ => none)
  | j + 1 => (fun x0 x1 m => F_M_tellsAs (g_tellsAs_m j) x0 x1 m)
theorem eg_tellsAs_m : ∀ (j d : Nat), GH_tellsAs_m (d + 36 + j) (g_tellsAs_m j) := by
  intro j
  induction j with
  | zero => intro d; exact (fun _ _ _ _ h => by simp [g_tellsAs_m] at h)
  | succ j ih =>
    intro d
    have ih : ∀ d : Nat, GH_tellsAs_m (d + j + 36) (g_tellsAs_m j) := fun d => by rw [show d + j + 36 = d + 36 + j by omega]; exact ih d
    show GH_tellsAs_m (d + 36 + j + 1) (g_tellsAs_m (j + 1))
    rw [show d + 36 + j + 1 = d + j + 37 by omega]
    exact (fun _ _ _ _ h => s_M_tellsAs _ _ _ _ (d := d + j) (ih d) h)
def f_M_act (v1 : Int32) (v2 : Int32) (v3 : Int32) (m : zx_M) : Option (Int32 × zx_M) := zx_let (zx_u1 m 0 46 0) fun m1 => (f_M_isBody v1 m1).bind fun r3 => if ¬ r3 = 0 then (zx_ix 50 v1).bind fun j5 => zx_let (zx_u1 m1 0 47 (m1.1 17 j5)) fun m6 => zx_let (zx_u1 m6 0 48 v1) fun m7 => if v2 = 0 then ((g_goesAs_m 12) (m7.1 0 47) v3 m7).bind fun (r10, m11) => some (r10, m11) else if v2 = 1 then ((g_fallsAs_m 12) (m7.1 0 47) v3 m7).bind fun (r14, m15) => some (r14, m15) else if v2 = 2 then ((g_steersAs_m 12) (m7.1 0 47) v3 m7).bind fun (r18, m19) => some (r18, m19) else if v2 = 3 then ((g_tellsAs_m 12) (m7.1 0 47) v3 m7).bind fun (r22, m23) => some (r22, m23) else some (0, m7) else some (0, m1)
theorem s_M_act (v1 : Int32) (v2 : Int32) (v3 : Int32) (m : zx_M) {d : Nat} {y : (Int32 × zx_M)} (hf : f_M_act v1 v2 v3 m = some y) : zx_Ev (d + 49) 248 0 [some (.ref 0), some (.int v1), some (.int v2), some (.int v3)] [] (zx_SM, m) (some (.int y.1), (zx_SM, y.2)) := by
  unfold f_M_act at hf
  obtain ⟨m1, hm1, hf⟩ := zx_let_eq hf
  refine zx_ev_blk zk_248 5 (pc1 := 7) (L1 := [some (.ref 0), some (.int v1), some (.int v2), some (.int v3)]) (st1 := [.int v1, .ref 0]) (h1 := (zx_SM, m1)) (by subst hm1; rfl) ?_
  obtain ⟨r3, hv2, hf⟩ := zx_bind_eq hf
  refine zx_ev_call (d := d + 48) zk_248 (v := some (.int r3)) (h1 := (zx_SM, m1)) rfl rfl zt_239 rfl zx_SMn rfl rfl (s_M_isBody _ _ (d := d + 47) hv2) ?_
  by_cases c4 : ¬ r3 = 0
  · rw [if_pos c4] at hf
    refine zx_ev_ift zk_248 (P := ¬ r3 = 0) (t := 15) (f := 13) rfl rfl c4 ?_
    refine zx_ev_blk zk_248 4 (pc1 := 21) (L1 := [some (.ref 0), some (.int v1), some (.int v2), some (.int v3)]) (st1 := [.int v1, .ref 17, .ref 0]) (h1 := (zx_SM, m1)) rfl ?_
    obtain ⟨j5, hj5, hf⟩ := zx_bind_eq hf
    refine zx_ev_step zk_248 rfl (st_iald rfl rfl hj5) ?_
    obtain ⟨m6, hm6, hf⟩ := zx_let_eq hf
    obtain ⟨m7, hm7, hf⟩ := zx_let_eq hf
    refine zx_ev_blk zk_248 5 (pc1 := 31) (L1 := [some (.ref 0), some (.int v1), some (.int v2), some (.int v3)]) (st1 := [.int v2]) (h1 := (zx_SM, m7)) (by subst hm6; subst hm7; rfl) ?_
    by_cases c8 : v2 = 0
    · rw [if_pos c8] at hf
      refine zx_ev_tsw zk_248 rfl rfl (zx_pick_hit c8) rfl ?_
      refine zx_ev_blk zk_248 4 (pc1 := 66) (L1 := [some (.ref 0), some (.int v1), some (.int v2), some (.int v3)]) (st1 := [.int v3, .int (m7.1 0 47), .ref 0]) (h1 := (zx_SM, m7)) rfl ?_
      obtain ⟨⟨r10, m11⟩, hv9, hf⟩ := zx_bind_eq hf
      dsimp only at hf
      refine zx_ev_call (d := d + 48) zk_248 (v := some (.int r10)) (h1 := (zx_SM, m11)) rfl rfl zt_244 rfl zx_SMn rfl rfl ((eg_goesAs_m 12 (d + 36)) _ _ _ _ hv9) ?_
      obtain rfl := Option.some.inj hf
      exact zx_ev_ret zk_248 rfl rfl
    · rw [if_neg c8] at hf
      by_cases c12 : v2 = 1
      · rw [if_pos c12] at hf
        refine zx_ev_tsw zk_248 rfl rfl (zx_pick_miss c8 (zx_pick_hit c12)) rfl ?_
        refine zx_ev_blk zk_248 4 (pc1 := 76) (L1 := [some (.ref 0), some (.int v1), some (.int v2), some (.int v3)]) (st1 := [.int v3, .int (m7.1 0 47), .ref 0]) (h1 := (zx_SM, m7)) rfl ?_
        obtain ⟨⟨r14, m15⟩, hv13, hf⟩ := zx_bind_eq hf
        dsimp only at hf
        refine zx_ev_call (d := d + 48) zk_248 (v := some (.int r14)) (h1 := (zx_SM, m15)) rfl rfl zt_245 rfl zx_SMn rfl rfl ((eg_fallsAs_m 12 (d + 12)) _ _ _ _ hv13) ?_
        obtain rfl := Option.some.inj hf
        exact zx_ev_ret zk_248 rfl rfl
      · rw [if_neg c12] at hf
        by_cases c16 : v2 = 2
        · rw [if_pos c16] at hf
          refine zx_ev_tsw zk_248 rfl rfl (zx_pick_miss c8 (zx_pick_miss c12 (zx_pick_hit c16))) rfl ?_
          refine zx_ev_blk zk_248 4 (pc1 := 86) (L1 := [some (.ref 0), some (.int v1), some (.int v2), some (.int v3)]) (st1 := [.int v3, .int (m7.1 0 47), .ref 0]) (h1 := (zx_SM, m7)) rfl ?_
          obtain ⟨⟨r18, m19⟩, hv17, hf⟩ := zx_bind_eq hf
          dsimp only at hf
          refine zx_ev_call (d := d + 48) zk_248 (v := some (.int r18)) (h1 := (zx_SM, m19)) rfl rfl zt_246 rfl zx_SMn rfl rfl ((eg_steersAs_m 12 (d + 24)) _ _ _ _ hv17) ?_
          obtain rfl := Option.some.inj hf
          exact zx_ev_ret zk_248 rfl rfl
        · rw [if_neg c16] at hf
          by_cases c20 : v2 = 3
          · rw [if_pos c20] at hf
            refine zx_ev_tsw zk_248 rfl rfl (zx_pick_miss c8 (zx_pick_miss c12 (zx_pick_miss c16 (zx_pick_hit c20)))) rfl ?_
            refine zx_ev_blk zk_248 4 (pc1 := 96) (L1 := [some (.ref 0), some (.int v1), some (.int v2), some (.int v3)]) (st1 := [.int v3, .int (m7.1 0 47), .ref 0]) (h1 := (zx_SM, m7)) rfl ?_
            obtain ⟨⟨r22, m23⟩, hv21, hf⟩ := zx_bind_eq hf
            dsimp only at hf
            refine zx_ev_call (d := d + 48) zk_248 (v := some (.int r22)) (h1 := (zx_SM, m23)) rfl rfl zt_247 rfl zx_SMn rfl rfl ((eg_tellsAs_m 12 (d + 0)) _ _ _ _ hv21) ?_
            obtain rfl := Option.some.inj hf
            exact zx_ev_ret zk_248 rfl rfl
          · rw [if_neg c20] at hf
            refine zx_ev_tsw zk_248 rfl rfl (zx_pick_miss c8 (zx_pick_miss c12 (zx_pick_miss c16 (zx_pick_miss c20 rfl)))) rfl ?_
            refine zx_ev_blk zk_248 1 (pc1 := 101) (L1 := [some (.ref 0), some (.int v1), some (.int v2), some (.int v3)]) (st1 := [.int 0]) (h1 := (zx_SM, m7)) rfl ?_
            obtain rfl := Option.some.inj hf
            exact zx_ev_ret zk_248 rfl rfl
  · rw [if_neg c4] at hf
    refine zx_ev_ifn zk_248 (P := ¬ r3 = 0) (t := 15) (f := 13) rfl rfl c4 ?_
    refine zx_ev_blk zk_248 1 (pc1 := 14) (L1 := [some (.ref 0), some (.int v1), some (.int v2), some (.int v3)]) (st1 := [.int 0]) (h1 := (zx_SM, m1)) rfl ?_
    obtain rfl := Option.some.inj hf
    exact zx_ev_ret zk_248 rfl rfl
def kx_M_back_l20 (d : Nat) (out : Option Value × zx_H) : zx_M → Prop
  | m => zx_Ev (d) 238 78 [some (.ref 0), none] [] (zx_SM, m) out
def kl_M_back_l20 (d : Nat) (out : Option Value × zx_H) : (Int32 × zx_M) ⊕ (zx_M) → Prop
  | .inl (v1, m) => zx_Ev (d) 238 20 [some (.ref 0), some (.int v1)] [] (zx_SM, m) out
  | .inr x => kx_M_back_l20 d out x
def b_M_back_l20 (v1 : Int32) (m : zx_M) : Option ((Int32 × zx_M) ⊕ (zx_M)) := if 7 ≤ v1 then some (.inr m) else (zx_ix 29 (3 * v1)).bind fun j5 => (zx_ix 7 v1).bind fun j6 => zx_let (zx_u1 m 13 j6 (m.1 16 j5)) fun m7 => (zx_ix 29 ((3 * v1) + 1)).bind fun j8 => (zx_ix 7 v1).bind fun j9 => zx_let (zx_u1 m7 14 j9 (m7.1 16 j8)) fun m10 => (zx_ix 29 ((3 * v1) + 2)).bind fun j11 => (zx_ix 7 v1).bind fun j12 => zx_let (zx_u1 m10 15 j12 (m10.1 16 j11)) fun m13 => zx_let (v1 + 1) fun a14 => some (.inl (a14, m13))
theorem eb_M_back_l20 (v1 : Int32) (m : zx_M) {d : Nat} {out : Option Value × zx_H} {y : (Int32 × zx_M) ⊕ (zx_M)} (hf : b_M_back_l20 v1 m = some y) (hK : kl_M_back_l20 d out y) : zx_Ev (d) 238 20 [some (.ref 0), some (.int v1)] [] (zx_SM, m) out := by
  unfold b_M_back_l20 at hf
  refine zx_ev_blk zk_238 2 (pc1 := 23) (L1 := [some (.ref 0), some (.int v1)]) (st1 := [.int 7, .int v1]) (h1 := (zx_SM, m)) rfl ?_
  by_cases c4 : 7 ≤ v1
  · rw [if_pos c4] at hf
    refine zx_ev_ift zk_238 (P := 7 ≤ v1) (t := 78) (f := 26) rfl rfl c4 ?_
    obtain rfl := Option.some.inj hf
    exact zx_ev_sub (L := [some (.ref 0), none]) (⟨rfl, ⟨trivial, trivial⟩⟩) hK
  · rw [if_neg c4] at hf
    refine zx_ev_ifn zk_238 (P := 7 ≤ v1) (t := 78) (f := 26) rfl rfl c4 ?_
    refine zx_ev_blk zk_238 8 (pc1 := 38) (L1 := [some (.ref 0), some (.int v1)]) (st1 := [.int (3 * v1), .ref 16, .int v1, .ref 13]) (h1 := (zx_SM, m)) rfl ?_
    obtain ⟨j5, hj5, hf⟩ := zx_bind_eq hf
    refine zx_ev_step zk_238 rfl (st_iald rfl rfl hj5) ?_
    obtain ⟨j6, hj6, hf⟩ := zx_bind_eq hf
    refine zx_ev_step zk_238 rfl (st_iast rfl hj6) ?_
    obtain ⟨m7, hm7, hf⟩ := zx_let_eq hf
    rw [hm7]
    refine zx_ev_blk zk_238 10 (pc1 := 54) (L1 := [some (.ref 0), some (.int v1)]) (st1 := [.int ((3 * v1) + 1), .ref 16, .int v1, .ref 14]) (h1 := (zx_SM, m7)) rfl ?_
    obtain ⟨j8, hj8, hf⟩ := zx_bind_eq hf
    refine zx_ev_step zk_238 rfl (st_iald rfl rfl hj8) ?_
    obtain ⟨j9, hj9, hf⟩ := zx_bind_eq hf
    refine zx_ev_step zk_238 rfl (st_iast rfl hj9) ?_
    obtain ⟨m10, hm10, hf⟩ := zx_let_eq hf
    rw [hm10]
    refine zx_ev_blk zk_238 10 (pc1 := 70) (L1 := [some (.ref 0), some (.int v1)]) (st1 := [.int ((3 * v1) + 2), .ref 16, .int v1, .ref 15]) (h1 := (zx_SM, m10)) rfl ?_
    obtain ⟨j11, hj11, hf⟩ := zx_bind_eq hf
    refine zx_ev_step zk_238 rfl (st_iald rfl rfl hj11) ?_
    obtain ⟨j12, hj12, hf⟩ := zx_bind_eq hf
    refine zx_ev_step zk_238 rfl (st_iast rfl hj12) ?_
    obtain ⟨m13, hm13, hf⟩ := zx_let_eq hf
    rw [hm13]
    obtain ⟨a14, ha14, hf⟩ := zx_let_eq hf
    refine zx_ev_blk zk_238 2 (pc1 := 20) (L1 := [some (.ref 0), some (.int a14)]) (st1 := []) (h1 := (zx_SM, m13)) (by subst ha14; rfl) ?_
    obtain rfl := Option.some.inj hf
    exact zx_ev_sub (L := [some (.ref 0), some (.int a14)]) (⟨rfl, ⟨rfl, trivial⟩⟩) hK
def l_M_back_l20 (s0 : Int32 × zx_M) : Option (zx_M) := zx_lp zx_N (fun s : Int32 × zx_M => b_M_back_l20 s.1 s.2) s0
theorem el_M_back_l20 {d : Nat} {out : Option Value × zx_H} : ∀ (n : Nat) (s : Int32 × zx_M) (x : zx_M), zx_lp n (fun s : Int32 × zx_M => b_M_back_l20 s.1 s.2) s = some x → kx_M_back_l20 d out x → zx_Ev (d) 238 20 [some (.ref 0), some (.int s.1)] [] (zx_SM, s.2) out := by
  intro n
  induction n with
  | zero => intro s x hl _; simp [zx_lp] at hl
  | succ n ih =>
    intro s x hl hx
    unfold zx_lp at hl
    cases hb : b_M_back_l20 s.1 s.2 with
    | none => simp only [hb] at hl; cases hl
    | some z =>
      simp only [hb] at hl
      cases z with
      | inl s1 => exact eb_M_back_l20 s.1 s.2 hb (ih s1 x hl hx)
      | inr t =>
        simp only [Option.some.injEq] at hl
        subst hl
        exact eb_M_back_l20 s.1 s.2 hb hx
def f_M_back (m : zx_M) : Option (Int32 × zx_M) := if ¬ (m.1 0 40) = 0 then if (m.1 0 41) = 0 ∨ (m.1 0 41) = 1 then zx_let (zx_u1 m 0 28 (m.1 0 41)) fun m3 => (l_M_back_l20 (0, m3)).bind fun x15 => zx_let x15 fun m16 => (zx_ix 29 21).bind fun j17 => zx_let (zx_u1 m16 0 35 (m16.1 16 j17)) fun m18 => (zx_ix 29 22).bind fun j19 => zx_let (zx_u1 m18 0 36 (m18.1 16 j19)) fun m20 => (zx_ix 29 23).bind fun j21 => zx_let (zx_u1 m20 0 37 (m20.1 16 j21)) fun m22 => (zx_ix 29 24).bind fun j23 => zx_let (zx_u1 m22 0 38 (m22.1 16 j23)) fun m24 => (zx_ix 29 25).bind fun j25 => zx_let (zx_u1 m24 0 39 (m24.1 16 j25)) fun m26 => (zx_ix 29 26).bind fun j27 => zx_let (zx_u1 m26 0 29 (m26.1 16 j27)) fun m28 => (zx_ix 29 27).bind fun j29 => zx_let (zx_u1 m28 0 30 (m28.1 16 j29)) fun m30 => (zx_ix 29 28).bind fun j31 => zx_let (zx_u1 m30 0 31 (m30.1 16 j31)) fun m32 => some (m32.1 0 35, m32) else none else some ((-5), m)
theorem s_M_back (m : zx_M) {d : Nat} {y : (Int32 × zx_M)} (hf : f_M_back m = some y) : zx_Ev (d) 238 0 [some (.ref 0), none] [] (zx_SM, m) (some (.int y.1), (zx_SM, y.2)) := by
  unfold f_M_back at hf
  refine zx_ev_blk zk_238 2 (pc1 := 4) (L1 := [some (.ref 0), none]) (st1 := [.int (m.1 0 40)]) (h1 := (zx_SM, m)) rfl ?_
  by_cases c1 : ¬ (m.1 0 40) = 0
  · rw [if_pos c1] at hf
    refine zx_ev_ift zk_238 (P := ¬ (m.1 0 40) = 0) (t := 10) (f := 7) rfl rfl c1 ?_
    refine zx_ev_blk zk_238 3 (pc1 := 15) (L1 := [some (.ref 0), none]) (st1 := [.int (m.1 0 41), .ref 0]) (h1 := (zx_SM, m)) rfl ?_
    by_cases c2 : (m.1 0 41) = 0 ∨ (m.1 0 41) = 1
    · rw [if_pos c2] at hf
      refine zx_ev_step zk_238 rfl (st_pfz rfl rfl rfl rfl rfl c2) ?_
      obtain ⟨m3, hm3, hf⟩ := zx_let_eq hf
      rw [hm3]
      refine zx_ev_blk zk_238 2 (pc1 := 20) (L1 := [some (.ref 0), some (.int 0)]) (st1 := []) (h1 := (zx_SM, m3)) rfl ?_
      obtain ⟨x15, hx15, hf⟩ := zx_bind_eq hf
      refine zx_ev_sub (L := [some (.ref 0), some (.int 0)]) (⟨rfl, ⟨rfl, trivial⟩⟩) (el_M_back_l20 zx_N (0, m3) x15 hx15 ?_)
      obtain ⟨m16, hm16, hf⟩ := zx_let_eq hf
      subst hm16
      show zx_Ev (d) 238 78 [some (.ref 0), none] [] (zx_SM, x15) _
      refine zx_ev_blk zk_238 4 (pc1 := 85) (L1 := [some (.ref 0), none]) (st1 := [.int 21, .ref 16, .ref 0]) (h1 := (zx_SM, x15)) rfl ?_
      obtain ⟨j17, hj17, hf⟩ := zx_bind_eq hf
      refine zx_ev_step zk_238 rfl (st_iald rfl rfl hj17) ?_
      obtain ⟨m18, hm18, hf⟩ := zx_let_eq hf
      refine zx_ev_blk zk_238 5 (pc1 := 96) (L1 := [some (.ref 0), none]) (st1 := [.int 22, .ref 16, .ref 0]) (h1 := (zx_SM, m18)) (by subst hm18; rfl) ?_
      obtain ⟨j19, hj19, hf⟩ := zx_bind_eq hf
      refine zx_ev_step zk_238 rfl (st_iald rfl rfl hj19) ?_
      obtain ⟨m20, hm20, hf⟩ := zx_let_eq hf
      refine zx_ev_blk zk_238 5 (pc1 := 107) (L1 := [some (.ref 0), none]) (st1 := [.int 23, .ref 16, .ref 0]) (h1 := (zx_SM, m20)) (by subst hm20; rfl) ?_
      obtain ⟨j21, hj21, hf⟩ := zx_bind_eq hf
      refine zx_ev_step zk_238 rfl (st_iald rfl rfl hj21) ?_
      obtain ⟨m22, hm22, hf⟩ := zx_let_eq hf
      refine zx_ev_blk zk_238 5 (pc1 := 118) (L1 := [some (.ref 0), none]) (st1 := [.int 24, .ref 16, .ref 0]) (h1 := (zx_SM, m22)) (by subst hm22; rfl) ?_
      obtain ⟨j23, hj23, hf⟩ := zx_bind_eq hf
      refine zx_ev_step zk_238 rfl (st_iald rfl rfl hj23) ?_
      obtain ⟨m24, hm24, hf⟩ := zx_let_eq hf
      refine zx_ev_blk zk_238 5 (pc1 := 129) (L1 := [some (.ref 0), none]) (st1 := [.int 25, .ref 16, .ref 0]) (h1 := (zx_SM, m24)) (by subst hm24; rfl) ?_
      obtain ⟨j25, hj25, hf⟩ := zx_bind_eq hf
      refine zx_ev_step zk_238 rfl (st_iald rfl rfl hj25) ?_
      obtain ⟨m26, hm26, hf⟩ := zx_let_eq hf
      refine zx_ev_blk zk_238 5 (pc1 := 140) (L1 := [some (.ref 0), none]) (st1 := [.int 26, .ref 16, .ref 0]) (h1 := (zx_SM, m26)) (by subst hm26; rfl) ?_
      obtain ⟨j27, hj27, hf⟩ := zx_bind_eq hf
      refine zx_ev_step zk_238 rfl (st_iald rfl rfl hj27) ?_
      obtain ⟨m28, hm28, hf⟩ := zx_let_eq hf
      refine zx_ev_blk zk_238 5 (pc1 := 151) (L1 := [some (.ref 0), none]) (st1 := [.int 27, .ref 16, .ref 0]) (h1 := (zx_SM, m28)) (by subst hm28; rfl) ?_
      obtain ⟨j29, hj29, hf⟩ := zx_bind_eq hf
      refine zx_ev_step zk_238 rfl (st_iald rfl rfl hj29) ?_
      obtain ⟨m30, hm30, hf⟩ := zx_let_eq hf
      refine zx_ev_blk zk_238 5 (pc1 := 162) (L1 := [some (.ref 0), none]) (st1 := [.int 28, .ref 16, .ref 0]) (h1 := (zx_SM, m30)) (by subst hm30; rfl) ?_
      obtain ⟨j31, hj31, hf⟩ := zx_bind_eq hf
      refine zx_ev_step zk_238 rfl (st_iald rfl rfl hj31) ?_
      obtain ⟨m32, hm32, hf⟩ := zx_let_eq hf
      refine zx_ev_blk zk_238 3 (pc1 := 170) (L1 := [some (.ref 0), none]) (st1 := [.int (m32.1 0 35)]) (h1 := (zx_SM, m32)) (by subst hm32; rfl) ?_
      obtain rfl := Option.some.inj hf
      exact zx_ev_ret zk_238 rfl rfl
    · rw [if_neg c2] at hf; cases hf
  · rw [if_neg c1] at hf
    refine zx_ev_ifn zk_238 (P := ¬ (m.1 0 40) = 0) (t := 10) (f := 7) rfl rfl c1 ?_
    refine zx_ev_blk zk_238 1 (pc1 := 9) (L1 := [some (.ref 0), none]) (st1 := [.int (-5)]) (h1 := (zx_SM, m)) rfl ?_
    obtain rfl := Option.some.inj hf
    exact zx_ev_ret zk_238 rfl rfl
def f_M_isYard (v0 : Int32) (m : zx_M) : Option Int32 := (f_M_within (Int32.toInt64 v0) (-999) 999 m).bind fun r2 => if r2 = 0 ∨ r2 = 1 then some r2 else none
theorem s_M_isYard (v0 : Int32) (m : zx_M) {d : Nat} {y : Int32} (hf : f_M_isYard v0 m = some y) : zx_Ev (d + 1) 166 0 [some (.int v0)] [] (zx_SM, m) (some (.int y), (zx_SM, m)) := by
  unfold f_M_isYard at hf
  refine zx_ev_blk zk_166 4 (pc1 := 8) (L1 := [some (.int v0)]) (st1 := [.long 999, .long (-999), .long (Int32.toInt64 v0)]) (h1 := (zx_SM, m)) rfl ?_
  obtain ⟨r2, hv1, hf⟩ := zx_bind_eq hf
  refine zx_ev_call (d := d + 0) zk_166 (v := some (.int r2)) (h1 := (zx_SM, m)) rfl rfl zt_157 rfl zx_SMn rfl rfl (s_M_within _ _ _ _ (d := d + 0) hv1) ?_
  by_cases c3 : r2 = 0 ∨ r2 = 1
  · rw [if_pos c3] at hf
    obtain rfl := Option.some.inj hf
    exact zx_ev_ret zk_166 rfl (zx_ret_z c3)
  · rw [if_neg c3] at hf; cases hf
def f_M_begin (v1 : Int32) (m : zx_M) : Option (Int32 × zx_M) := (f_M_isYard v1 m).bind fun r2 => if r2 = 0 then some ((-2000000000), m) else if (m.1 0 28) = 0 then zx_let (zx_u1 m 0 28 1) fun m5 => zx_let (zx_u1 m5 0 29 0) fun m6 => zx_let (zx_u1 m6 0 30 v1) fun m7 => zx_let (zx_u1 m7 0 31 0) fun m8 => some (v1, m8) else some ((-2000000000), m)
theorem s_M_begin (v1 : Int32) (m : zx_M) {d : Nat} {y : (Int32 × zx_M)} (hf : f_M_begin v1 m = some y) : zx_Ev (d + 2) 232 0 [some (.ref 0), some (.int v1)] [] (zx_SM, m) (some (.int y.1), (zx_SM, y.2)) := by
  unfold f_M_begin at hf
  refine zx_ev_blk zk_232 1 (pc1 := 1) (L1 := [some (.ref 0), some (.int v1)]) (st1 := [.int v1]) (h1 := (zx_SM, m)) rfl ?_
  obtain ⟨r2, hv1, hf⟩ := zx_bind_eq hf
  refine zx_ev_call (d := d + 1) zk_232 (v := some (.int r2)) (h1 := (zx_SM, m)) rfl rfl zt_166 rfl zx_SMn rfl rfl (s_M_isYard _ _ (d := d + 0) hv1) ?_
  by_cases c3 : r2 = 0
  · rw [if_pos c3] at hf
    refine zx_ev_ift zk_232 (P := r2 = 0) (t := 14) (f := 7) rfl rfl c3 ?_
    refine zx_ev_blk zk_232 1 (pc1 := 16) (L1 := [some (.ref 0), some (.int v1)]) (st1 := [.int (-2000000000)]) (h1 := (zx_SM, m)) rfl ?_
    obtain rfl := Option.some.inj hf
    exact zx_ev_ret zk_232 rfl rfl
  · rw [if_neg c3] at hf
    refine zx_ev_ifn zk_232 (P := r2 = 0) (t := 14) (f := 7) rfl rfl c3 ?_
    refine zx_ev_blk zk_232 2 (pc1 := 11) (L1 := [some (.ref 0), some (.int v1)]) (st1 := [.int (m.1 0 28)]) (h1 := (zx_SM, m)) rfl ?_
    by_cases c4 : (m.1 0 28) = 0
    · rw [if_pos c4] at hf
      refine zx_ev_ift zk_232 (P := (m.1 0 28) = 0) (t := 17) (f := 14) rfl rfl c4 ?_
      obtain ⟨m5, hm5, hf⟩ := zx_let_eq hf
      obtain ⟨m6, hm6, hf⟩ := zx_let_eq hf
      obtain ⟨m7, hm7, hf⟩ := zx_let_eq hf
      obtain ⟨m8, hm8, hf⟩ := zx_let_eq hf
      refine zx_ev_blk zk_232 13 (pc1 := 38) (L1 := [some (.ref 0), some (.int v1)]) (st1 := [.int v1]) (h1 := (zx_SM, m8)) (by subst hm5; subst hm6; subst hm7; subst hm8; rfl) ?_
      obtain rfl := Option.some.inj hf
      exact zx_ev_ret zk_232 rfl rfl
    · rw [if_neg c4] at hf
      refine zx_ev_ifn zk_232 (P := (m.1 0 28) = 0) (t := 17) (f := 14) rfl rfl c4 ?_
      refine zx_ev_blk zk_232 1 (pc1 := 16) (L1 := [some (.ref 0), some (.int v1)]) (st1 := [.int (-2000000000)]) (h1 := (zx_SM, m)) rfl ?_
      obtain rfl := Option.some.inj hf
      exact zx_ev_ret zk_232 rfl rfl
def f_M_body (v1 : Int32) (m : zx_M) : Option (Int32 × zx_M) := (f_M_within (Int32.toInt64 v1) 0 7 m).bind fun r2 => if ¬ r2 = 0 then if ¬ (m.1 0 43) = 50 then (zx_ix 50 (m.1 0 43)).bind fun j5 => zx_let (zx_u1 m 17 j5 v1) fun m6 => zx_let (zx_u1 m6 0 43 ((m6.1 0 43) + 1)) fun m7 => some ((m7.1 0 43) - 1, m7) else some ((-3), m) else some ((-1), m)
theorem s_M_body (v1 : Int32) (m : zx_M) {d : Nat} {y : (Int32 × zx_M)} (hf : f_M_body v1 m = some y) : zx_Ev (d + 1) 241 0 [some (.ref 0), some (.int v1)] [] (zx_SM, m) (some (.int y.1), (zx_SM, y.2)) := by
  unfold f_M_body at hf
  refine zx_ev_blk zk_241 4 (pc1 := 6) (L1 := [some (.ref 0), some (.int v1)]) (st1 := [.long 7, .long 0, .long (Int32.toInt64 v1)]) (h1 := (zx_SM, m)) rfl ?_
  obtain ⟨r2, hv1, hf⟩ := zx_bind_eq hf
  refine zx_ev_call (d := d + 0) zk_241 (v := some (.int r2)) (h1 := (zx_SM, m)) rfl rfl zt_157 rfl zx_SMn rfl rfl (s_M_within _ _ _ _ (d := d + 0) hv1) ?_
  by_cases c3 : ¬ r2 = 0
  · rw [if_pos c3] at hf
    refine zx_ev_ift zk_241 (P := ¬ r2 = 0) (t := 14) (f := 12) rfl rfl c3 ?_
    refine zx_ev_blk zk_241 3 (pc1 := 20) (L1 := [some (.ref 0), some (.int v1)]) (st1 := [.int 50, .int (m.1 0 43)]) (h1 := (zx_SM, m)) rfl ?_
    by_cases c4 : ¬ (m.1 0 43) = 50
    · rw [if_pos c4] at hf
      refine zx_ev_ift zk_241 (P := ¬ (m.1 0 43) = 50) (t := 26) (f := 23) rfl rfl c4 ?_
      refine zx_ev_blk zk_241 5 (pc1 := 35) (L1 := [some (.ref 0), some (.int v1)]) (st1 := [.int v1, .int (m.1 0 43), .ref 17]) (h1 := (zx_SM, m)) rfl ?_
      obtain ⟨j5, hj5, hf⟩ := zx_bind_eq hf
      refine zx_ev_step zk_241 rfl (st_iast rfl hj5) ?_
      obtain ⟨m6, hm6, hf⟩ := zx_let_eq hf
      rw [hm6]
      obtain ⟨m7, hm7, hf⟩ := zx_let_eq hf
      refine zx_ev_blk zk_241 10 (pc1 := 52) (L1 := [some (.ref 0), some (.int v1)]) (st1 := [.int ((m7.1 0 43) - 1)]) (h1 := (zx_SM, m7)) (by subst hm7; rfl) ?_
      obtain rfl := Option.some.inj hf
      exact zx_ev_ret zk_241 rfl rfl
    · rw [if_neg c4] at hf
      refine zx_ev_ifn zk_241 (P := ¬ (m.1 0 43) = 50) (t := 26) (f := 23) rfl rfl c4 ?_
      refine zx_ev_blk zk_241 1 (pc1 := 25) (L1 := [some (.ref 0), some (.int v1)]) (st1 := [.int (-3)]) (h1 := (zx_SM, m)) rfl ?_
      obtain rfl := Option.some.inj hf
      exact zx_ev_ret zk_241 rfl rfl
  · rw [if_neg c3] at hf
    refine zx_ev_ifn zk_241 (P := ¬ r2 = 0) (t := 14) (f := 12) rfl rfl c3 ?_
    refine zx_ev_blk zk_241 1 (pc1 := 13) (L1 := [some (.ref 0), some (.int v1)]) (st1 := [.int (-1)]) (h1 := (zx_SM, m)) rfl ?_
    obtain rfl := Option.some.inj hf
    exact zx_ev_ret zk_241 rfl rfl
def f_M_isJumper (v1 : Int64) (m : zx_M) : Option Int32 := (f_M_within v1 0 (Int32.toInt64 ((m.1 0 6) - 1)) m).bind fun r2 => if r2 = 0 ∨ r2 = 1 then some r2 else none
theorem s_M_isJumper (v1 : Int64) (m : zx_M) {d : Nat} {y : Int32} (hf : f_M_isJumper v1 m = some y) : zx_Ev (d + 1) 164 0 [some (.ref 0), some (.long v1), none] [] (zx_SM, m) (some (.int y), (zx_SM, m)) := by
  unfold f_M_isJumper at hf
  refine zx_ev_blk zk_164 7 (pc1 := 9) (L1 := [some (.ref 0), some (.long v1), none]) (st1 := [.long (Int32.toInt64 ((m.1 0 6) - 1)), .long 0, .long v1]) (h1 := (zx_SM, m)) rfl ?_
  obtain ⟨r2, hv1, hf⟩ := zx_bind_eq hf
  refine zx_ev_call (d := d + 0) zk_164 (v := some (.int r2)) (h1 := (zx_SM, m)) rfl rfl zt_157 rfl zx_SMn rfl rfl (s_M_within _ _ _ _ (d := d + 0) hv1) ?_
  by_cases c3 : r2 = 0 ∨ r2 = 1
  · rw [if_pos c3] at hf
    obtain rfl := Option.some.inj hf
    exact zx_ev_ret zk_164 rfl (zx_ret_z c3)
  · rw [if_neg c3] at hf; cases hf
def f_M_ofJumper (v1 : Int32) (v2 : Int32) (m : zx_M) : Option Int32 := (zx_ix 36 ((7 * v2) + v1)).bind fun j1 => some (m.1 1 j1)
theorem s_M_ofJumper (v1 : Int32) (v2 : Int32) (m : zx_M) {d : Nat} {y : Int32} (hf : f_M_ofJumper v1 v2 m = some y) : zx_Ev (d) 165 0 [some (.ref 0), some (.int v1), some (.int v2)] [] (zx_SM, m) (some (.int y), (zx_SM, m)) := by
  unfold f_M_ofJumper at hf
  refine zx_ev_blk zk_165 7 (pc1 := 10) (L1 := [some (.ref 0), some (.int v1), some (.int v2)]) (st1 := [.int ((7 * v2) + v1), .ref 1]) (h1 := (zx_SM, m)) rfl ?_
  obtain ⟨j1, hj1, hf⟩ := zx_bind_eq hf
  refine zx_ev_step zk_165 rfl (st_iald rfl rfl hj1) ?_
  obtain rfl := Option.some.inj hf
  exact zx_ev_ret zk_165 rfl rfl
def f_M_byteAt (m : zx_M) : Option Int32 := if (m.1 0 13) ≤ (m.1 0 12) then some 0 else if 0 ≤ (m.1 0 11) then (zx_ix 120 ((m.1 0 11) + (m.1 0 12))).bind fun j3 => some (m.1 6 j3) else (zx_ix 120 (m.1 0 12)).bind fun j4 => some (m.1 5 j4)
theorem s_M_byteAt (m : zx_M) {d : Nat} {y : Int32} (hf : f_M_byteAt m = some y) : zx_Ev (d) 176 0 [some (.ref 0)] [] (zx_SM, m) (some (.int y), (zx_SM, m)) := by
  unfold f_M_byteAt at hf
  refine zx_ev_blk zk_176 4 (pc1 := 8) (L1 := [some (.ref 0)]) (st1 := [.int (m.1 0 13), .int (m.1 0 12)]) (h1 := (zx_SM, m)) rfl ?_
  by_cases c1 : (m.1 0 13) ≤ (m.1 0 12)
  · rw [if_pos c1] at hf
    refine zx_ev_ift zk_176 (P := (m.1 0 13) ≤ (m.1 0 12)) (t := 47) (f := 11) rfl rfl c1 ?_
    refine zx_ev_blk zk_176 1 (pc1 := 48) (L1 := [some (.ref 0)]) (st1 := [.int 0]) (h1 := (zx_SM, m)) rfl ?_
    obtain rfl := Option.some.inj hf
    exact zx_ev_ret zk_176 rfl rfl
  · rw [if_neg c1] at hf
    refine zx_ev_ifn zk_176 (P := (m.1 0 13) ≤ (m.1 0 12)) (t := 47) (f := 11) rfl rfl c1 ?_
    refine zx_ev_blk zk_176 2 (pc1 := 15) (L1 := [some (.ref 0)]) (st1 := [.int (m.1 0 11)]) (h1 := (zx_SM, m)) rfl ?_
    by_cases c2 : 0 ≤ (m.1 0 11)
    · rw [if_pos c2] at hf
      refine zx_ev_ift zk_176 (P := 0 ≤ (m.1 0 11)) (t := 30) (f := 18) rfl rfl c2 ?_
      refine zx_ev_blk zk_176 7 (pc1 := 43) (L1 := [some (.ref 0)]) (st1 := [.int ((m.1 0 11) + (m.1 0 12)), .ref 6]) (h1 := (zx_SM, m)) rfl ?_
      obtain ⟨j3, hj3, hf⟩ := zx_bind_eq hf
      refine zx_ev_step zk_176 rfl (st_iald rfl rfl hj3) ?_
      refine zx_ev_blk zk_176 1 (pc1 := 48) (L1 := [some (.ref 0)]) (st1 := [.int (m.1 6 j3)]) (h1 := (zx_SM, m)) rfl ?_
      obtain rfl := Option.some.inj hf
      exact zx_ev_ret zk_176 rfl rfl
    · rw [if_neg c2] at hf
      refine zx_ev_ifn zk_176 (P := 0 ≤ (m.1 0 11)) (t := 30) (f := 18) rfl rfl c2 ?_
      refine zx_ev_blk zk_176 4 (pc1 := 26) (L1 := [some (.ref 0)]) (st1 := [.int (m.1 0 12), .ref 5]) (h1 := (zx_SM, m)) rfl ?_
      obtain ⟨j4, hj4, hf⟩ := zx_bind_eq hf
      refine zx_ev_step zk_176 rfl (st_iald rfl rfl hj4) ?_
      refine zx_ev_blk zk_176 1 (pc1 := 48) (L1 := [some (.ref 0)]) (st1 := [.int (m.1 5 j4)]) (h1 := (zx_SM, m)) rfl ?_
      obtain rfl := Option.some.inj hf
      exact zx_ev_ret zk_176 rfl rfl
def f_M_takes (v1 : Int32) (m : zx_M) : Option (Int32 × zx_M) := if 0 ≤ (m.1 0 14) then some (0, m) else (f_M_byteAt m).bind fun r3 => if r3 = v1 then zx_let (zx_u1 m 0 12 ((m.1 0 12) + 1)) fun m5 => some (1, m5) else some (0, m)
theorem s_M_takes (v1 : Int32) (m : zx_M) {d : Nat} {y : (Int32 × zx_M)} (hf : f_M_takes v1 m = some y) : zx_Ev (d + 1) 178 0 [some (.ref 0), some (.int v1)] [] (zx_SM, m) (some (.int y.1), (zx_SM, y.2)) := by
  unfold f_M_takes at hf
  refine zx_ev_blk zk_178 2 (pc1 := 4) (L1 := [some (.ref 0), some (.int v1)]) (st1 := [.int (m.1 0 14)]) (h1 := (zx_SM, m)) rfl ?_
  by_cases c1 : 0 ≤ (m.1 0 14)
  · rw [if_pos c1] at hf
    refine zx_ev_ift zk_178 (P := 0 ≤ (m.1 0 14)) (t := 15) (f := 7) rfl rfl c1 ?_
    refine zx_ev_blk zk_178 1 (pc1 := 16) (L1 := [some (.ref 0), some (.int v1)]) (st1 := [.int 0]) (h1 := (zx_SM, m)) rfl ?_
    obtain rfl := Option.some.inj hf
    exact zx_ev_ret zk_178 rfl (zx_ret_z (Or.inl rfl))
  · rw [if_neg c1] at hf
    refine zx_ev_ifn zk_178 (P := 0 ≤ (m.1 0 14)) (t := 15) (f := 7) rfl rfl c1 ?_
    refine zx_ev_blk zk_178 1 (pc1 := 8) (L1 := [some (.ref 0), some (.int v1)]) (st1 := [.ref 0]) (h1 := (zx_SM, m)) rfl ?_
    obtain ⟨r3, hv2, hf⟩ := zx_bind_eq hf
    refine zx_ev_call (d := d + 0) zk_178 (v := some (.int r3)) (h1 := (zx_SM, m)) rfl rfl zt_176 rfl zx_SMn rfl rfl (s_M_byteAt _ (d := d + 0) hv2) ?_
    refine zx_ev_blk zk_178 1 (pc1 := 12) (L1 := [some (.ref 0), some (.int v1)]) (st1 := [.int v1, .int r3]) (h1 := (zx_SM, m)) rfl ?_
    by_cases c4 : r3 = v1
    · rw [if_pos c4] at hf
      refine zx_ev_ift zk_178 (P := r3 = v1) (t := 17) (f := 15) rfl rfl c4 ?_
      obtain ⟨m5, hm5, hf⟩ := zx_let_eq hf
      refine zx_ev_blk zk_178 7 (pc1 := 28) (L1 := [some (.ref 0), some (.int v1)]) (st1 := [.int 1]) (h1 := (zx_SM, m5)) (by subst hm5; rfl) ?_
      obtain rfl := Option.some.inj hf
      exact zx_ev_ret zk_178 rfl (zx_ret_z (Or.inr rfl))
    · rw [if_neg c4] at hf
      refine zx_ev_ifn zk_178 (P := r3 = v1) (t := 17) (f := 15) rfl rfl c4 ?_
      refine zx_ev_blk zk_178 1 (pc1 := 16) (L1 := [some (.ref 0), some (.int v1)]) (st1 := [.int 0]) (h1 := (zx_SM, m)) rfl ?_
      obtain rfl := Option.some.inj hf
      exact zx_ev_ret zk_178 rfl (zx_ret_z (Or.inl rfl))
abbrev GT_both_compared_either_one_produ_m : Type := (zx_M → Option (Int32 × zx_M)) × (zx_M → Option (Int32 × zx_M)) × (zx_M → Option (Int32 × zx_M)) × (zx_M → Option (Int32 × zx_M)) × (zx_M → Option (Int32 × zx_M)) × (zx_M → Option (Int32 × zx_M))
def GH_both_compared_either_one_produ_m (d : Nat) (g : GT_both_compared_either_one_produ_m) : Prop := (∀ (m : zx_M) (y : (Int32 × zx_M)), g.1 m = some y → zx_Ev d 179 0 [some (.ref 0), none, none] [] (zx_SM, m) (some (.int y.1), (zx_SM, y.2))) ∧ (∀ (m : zx_M) (y : (Int32 × zx_M)), g.2.1 m = some y → zx_Ev d 180 0 [some (.ref 0), none, none] [] (zx_SM, m) (some (.int y.1), (zx_SM, y.2))) ∧ (∀ (m : zx_M) (y : (Int32 × zx_M)), g.2.2.1 m = some y → zx_Ev d 181 0 [some (.ref 0), none, none, none] [] (zx_SM, m) (some (.int y.1), (zx_SM, y.2))) ∧ (∀ (m : zx_M) (y : (Int32 × zx_M)), g.2.2.2.1 m = some y → zx_Ev d 182 0 [some (.ref 0), none, none, none] [] (zx_SM, m) (some (.int y.1), (zx_SM, y.2))) ∧ (∀ (m : zx_M) (y : (Int32 × zx_M)), g.2.2.2.2.1 m = some y → zx_Ev d 183 0 [some (.ref 0), none, none, none] [] (zx_SM, m) (some (.int y.1), (zx_SM, y.2))) ∧ (∀ (m : zx_M) (y : (Int32 × zx_M)), g.2.2.2.2.2 m = some y → zx_Ev d 185 0 [some (.ref 0), none, none, none, none] [] (zx_SM, m) (some (.int y.1), (zx_SM, y.2)))
def kx_M_either_l5 (d : Nat) (out : Option Value × zx_H) : (Int32 × zx_M) → Prop
  | y => out = (some (.int y.1), (zx_SM, y.2))
def kl_M_either_l5 (d : Nat) (out : Option Value × zx_H) : (Int32 × zx_M) ⊕ ((Int32 × zx_M)) → Prop
  | .inl (v1, m) => zx_Ev (d + 2) 179 5 [some (.ref 0), some (.int v1), none] [] (zx_SM, m) out
  | .inr x => kx_M_either_l5 d out x
def n_M_either_b5_32 (g : GT_both_compared_either_one_produ_m) (t0 : Int32) (m : zx_M) : Option ((Int32 × zx_M) ⊕ ((Int32 × zx_M))) := some (.inl (t0, m))
theorem e_M_either_b5_32 (g : GT_both_compared_either_one_produ_m) (t0 : Int32) (m : zx_M) {d : Nat} (hg : GH_both_compared_either_one_produ_m (d + 1) g) {out : Option Value × zx_H} {y : (Int32 × zx_M) ⊕ ((Int32 × zx_M))} (hf : n_M_either_b5_32 g t0 m = some y) (hK : kl_M_either_l5 d out y) : zx_Ev (d + 2) 179 32 [some (.ref 0), none, none] [.int t0] (zx_SM, m) out := by
  unfold n_M_either_b5_32 at hf
  refine zx_ev_blk zk_179 2 (pc1 := 5) (L1 := [some (.ref 0), some (.int t0), none]) (st1 := []) (h1 := (zx_SM, m)) rfl ?_
  obtain rfl := Option.some.inj hf
  exact zx_ev_sub (L := [some (.ref 0), some (.int t0), none]) (⟨rfl, ⟨rfl, trivial⟩⟩) hK
def n_M_either_b5_27 (g : GT_both_compared_either_one_produ_m) (m : zx_M) : Option ((Int32 × zx_M) ⊕ ((Int32 × zx_M))) := n_M_either_b5_32 g 1 m
theorem e_M_either_b5_27 (g : GT_both_compared_either_one_produ_m) (m : zx_M) {d : Nat} (hg : GH_both_compared_either_one_produ_m (d + 1) g) {out : Option Value × zx_H} {y : (Int32 × zx_M) ⊕ ((Int32 × zx_M))} (hf : n_M_either_b5_27 g m = some y) (hK : kl_M_either_l5 d out y) : zx_Ev (d + 2) 179 27 [some (.ref 0), none, none] [] (zx_SM, m) out := by
  unfold n_M_either_b5_27 at hf
  refine zx_ev_blk zk_179 2 (pc1 := 32) (L1 := [some (.ref 0), none, none]) (st1 := [.int 1]) (h1 := (zx_SM, m)) rfl ?_
  exact zx_ev_sub (L := [some (.ref 0), none, none]) (⟨rfl, trivial⟩) (e_M_either_b5_32 g 1 m hg hf hK)
def b_M_either_l5 (g : GT_both_compared_either_one_produ_m) (v1 : Int32) (m : zx_M) : Option ((Int32 × zx_M) ⊕ ((Int32 × zx_M))) := (f_M_takes 124 m).bind fun (r5, m6) => if r5 = 0 then some (.inr (v1, m6)) else (g.2.1 m6).bind fun (r9, m10) => if ¬ v1 = 0 then n_M_either_b5_27 g m10 else if r9 = 0 then n_M_either_b5_32 g 0 m10 else n_M_either_b5_27 g m10
theorem eb_M_either_l5 (g : GT_both_compared_either_one_produ_m) (v1 : Int32) (m : zx_M) {d : Nat} (hg : GH_both_compared_either_one_produ_m (d + 1) g) {out : Option Value × zx_H} {y : (Int32 × zx_M) ⊕ ((Int32 × zx_M))} (hf : b_M_either_l5 g v1 m = some y) (hK : kl_M_either_l5 d out y) : zx_Ev (d + 2) 179 5 [some (.ref 0), some (.int v1), none] [] (zx_SM, m) out := by
  unfold b_M_either_l5 at hf
  refine zx_ev_blk zk_179 2 (pc1 := 8) (L1 := [some (.ref 0), some (.int v1), none]) (st1 := [.int 124, .ref 0]) (h1 := (zx_SM, m)) rfl ?_
  obtain ⟨⟨r5, m6⟩, hv4, hf⟩ := zx_bind_eq hf
  dsimp only at hf
  refine zx_ev_call (d := d + 1) zk_179 (v := some (.int r5)) (h1 := (zx_SM, m6)) rfl rfl zt_178 rfl zx_SMn rfl rfl (s_M_takes _ _ (d := d + 0) hv4) ?_
  by_cases c7 : r5 = 0
  · rw [if_pos c7] at hf
    refine zx_ev_ift zk_179 (P := r5 = 0) (t := 36) (f := 14) rfl rfl c7 ?_
    refine zx_ev_blk zk_179 1 (pc1 := 37) (L1 := [some (.ref 0), some (.int v1), none]) (st1 := [.int v1]) (h1 := (zx_SM, m6)) rfl ?_
    obtain rfl := Option.some.inj hf
    rw [show out = _ from hK]
    exact zx_ev_ret zk_179 rfl rfl
  · rw [if_neg c7] at hf
    refine zx_ev_ifn zk_179 (P := r5 = 0) (t := 36) (f := 14) rfl rfl c7 ?_
    refine zx_ev_blk zk_179 1 (pc1 := 15) (L1 := [some (.ref 0), some (.int v1), none]) (st1 := [.ref 0]) (h1 := (zx_SM, m6)) rfl ?_
    obtain ⟨⟨r9, m10⟩, hv8, hf⟩ := zx_bind_eq hf
    dsimp only at hf
    refine zx_ev_call (d := d + 1) zk_179 (v := some (.int r9)) (h1 := (zx_SM, m10)) rfl rfl zt_180 rfl zx_SMn rfl rfl (hg.2.1 _ _ hv8) ?_
    refine zx_ev_blk zk_179 2 (pc1 := 20) (L1 := [some (.ref 0), some (.int v1), some (.int r9)]) (st1 := [.int v1]) (h1 := (zx_SM, m10)) rfl ?_
    by_cases c11 : ¬ v1 = 0
    · rw [if_pos c11] at hf
      refine zx_ev_ift zk_179 (P := ¬ v1 = 0) (t := 27) (f := 23) rfl rfl c11 ?_
      exact zx_ev_sub (L := [some (.ref 0), none, none]) (⟨rfl, ⟨trivial, ⟨trivial, trivial⟩⟩⟩) (e_M_either_b5_27 g m10 hg hf hK)
    · rw [if_neg c11] at hf
      refine zx_ev_ifn zk_179 (P := ¬ v1 = 0) (t := 27) (f := 23) rfl rfl c11 ?_
      refine zx_ev_blk zk_179 1 (pc1 := 24) (L1 := [some (.ref 0), some (.int v1), some (.int r9)]) (st1 := [.int r9]) (h1 := (zx_SM, m10)) rfl ?_
      by_cases c12 : r9 = 0
      · rw [if_pos c12] at hf
        refine zx_ev_ift zk_179 (P := r9 = 0) (t := 31) (f := 27) rfl rfl c12 ?_
        refine zx_ev_blk zk_179 1 (pc1 := 32) (L1 := [some (.ref 0), some (.int v1), some (.int r9)]) (st1 := [.int 0]) (h1 := (zx_SM, m10)) rfl ?_
        exact zx_ev_sub (L := [some (.ref 0), none, none]) (⟨rfl, ⟨trivial, ⟨trivial, trivial⟩⟩⟩) (e_M_either_b5_32 g 0 m10 hg hf hK)
      · rw [if_neg c12] at hf
        refine zx_ev_ifn zk_179 (P := r9 = 0) (t := 31) (f := 27) rfl rfl c12 ?_
        exact zx_ev_sub (L := [some (.ref 0), none, none]) (⟨rfl, ⟨trivial, ⟨trivial, trivial⟩⟩⟩) (e_M_either_b5_27 g m10 hg hf hK)
def l_M_either_l5 (g : GT_both_compared_either_one_produ_m) (s0 : Int32 × zx_M) : Option ((Int32 × zx_M)) := zx_lp zx_N (fun s : Int32 × zx_M => b_M_either_l5 g s.1 s.2) s0
theorem el_M_either_l5 (g : GT_both_compared_either_one_produ_m) {d : Nat} (hg : GH_both_compared_either_one_produ_m (d + 1) g) {out : Option Value × zx_H} : ∀ (n : Nat) (s : Int32 × zx_M) (x : (Int32 × zx_M)), zx_lp n (fun s : Int32 × zx_M => b_M_either_l5 g s.1 s.2) s = some x → kx_M_either_l5 d out x → zx_Ev (d + 2) 179 5 [some (.ref 0), some (.int s.1), none] [] (zx_SM, s.2) out := by
  intro n
  induction n with
  | zero => intro s x hl _; simp [zx_lp] at hl
  | succ n ih =>
    intro s x hl hx
    unfold zx_lp at hl
    cases hb : b_M_either_l5 g s.1 s.2 with
    | none => simp only [hb] at hl; cases hl
    | some z =>
      simp only [hb] at hl
      cases z with
      | inl s1 => exact eb_M_either_l5 g s.1 s.2 hg hb (ih s1 x hl hx)
      | inr t =>
        simp only [Option.some.injEq] at hl
        subst hl
        exact eb_M_either_l5 g s.1 s.2 hg hb hx
def F_M_either (g : GT_both_compared_either_one_produ_m) (m : zx_M) : Option (Int32 × zx_M) := (g.2.1 m).bind fun (r2, m3) => (l_M_either_l5 g (r2, m3)).bind fun x13 => zx_let x13 fun y14 => some y14
theorem s_M_either (g : GT_both_compared_either_one_produ_m) (m : zx_M) {d : Nat} (hg : GH_both_compared_either_one_produ_m (d + 1) g) {y : (Int32 × zx_M)} (hf : F_M_either g m = some y) : zx_Ev (d + 2) 179 0 [some (.ref 0), none, none] [] (zx_SM, m) (some (.int y.1), (zx_SM, y.2)) := by
  unfold F_M_either at hf
  refine zx_ev_blk zk_179 1 (pc1 := 1) (L1 := [some (.ref 0), none, none]) (st1 := [.ref 0]) (h1 := (zx_SM, m)) rfl ?_
  obtain ⟨⟨r2, m3⟩, hv1, hf⟩ := zx_bind_eq hf
  dsimp only at hf
  refine zx_ev_call (d := d + 1) zk_179 (v := some (.int r2)) (h1 := (zx_SM, m3)) rfl rfl zt_180 rfl zx_SMn rfl rfl (hg.2.1 _ _ hv1) ?_
  refine zx_ev_blk zk_179 1 (pc1 := 5) (L1 := [some (.ref 0), some (.int r2), none]) (st1 := []) (h1 := (zx_SM, m3)) rfl ?_
  obtain ⟨x13, hx13, hf⟩ := zx_bind_eq hf
  refine zx_ev_sub (L := [some (.ref 0), some (.int r2), none]) (⟨rfl, ⟨rfl, trivial⟩⟩) (el_M_either_l5 g hg zx_N (r2, m3) x13 hx13 ?_)
  obtain ⟨y14, hy14, hf⟩ := zx_let_eq hf
  subst hy14
  obtain rfl := Option.some.inj hf
  rfl
def kx_M_both_l5 (d : Nat) (out : Option Value × zx_H) : (Int32 × zx_M) → Prop
  | y => out = (some (.int y.1), (zx_SM, y.2))
def kl_M_both_l5 (d : Nat) (out : Option Value × zx_H) : (Int32 × zx_M) ⊕ ((Int32 × zx_M)) → Prop
  | .inl (v1, m) => zx_Ev (d + 2) 180 5 [some (.ref 0), some (.int v1), none] [] (zx_SM, m) out
  | .inr x => kx_M_both_l5 d out x
def n_M_both_b5_32 (g : GT_both_compared_either_one_produ_m) (t0 : Int32) (m : zx_M) : Option ((Int32 × zx_M) ⊕ ((Int32 × zx_M))) := some (.inl (t0, m))
theorem e_M_both_b5_32 (g : GT_both_compared_either_one_produ_m) (t0 : Int32) (m : zx_M) {d : Nat} (hg : GH_both_compared_either_one_produ_m (d + 1) g) {out : Option Value × zx_H} {y : (Int32 × zx_M) ⊕ ((Int32 × zx_M))} (hf : n_M_both_b5_32 g t0 m = some y) (hK : kl_M_both_l5 d out y) : zx_Ev (d + 2) 180 32 [some (.ref 0), none, none] [.int t0] (zx_SM, m) out := by
  unfold n_M_both_b5_32 at hf
  refine zx_ev_blk zk_180 2 (pc1 := 5) (L1 := [some (.ref 0), some (.int t0), none]) (st1 := []) (h1 := (zx_SM, m)) rfl ?_
  obtain rfl := Option.some.inj hf
  exact zx_ev_sub (L := [some (.ref 0), some (.int t0), none]) (⟨rfl, ⟨rfl, trivial⟩⟩) hK
def n_M_both_b5_31 (g : GT_both_compared_either_one_produ_m) (m : zx_M) : Option ((Int32 × zx_M) ⊕ ((Int32 × zx_M))) := n_M_both_b5_32 g 0 m
theorem e_M_both_b5_31 (g : GT_both_compared_either_one_produ_m) (m : zx_M) {d : Nat} (hg : GH_both_compared_either_one_produ_m (d + 1) g) {out : Option Value × zx_H} {y : (Int32 × zx_M) ⊕ ((Int32 × zx_M))} (hf : n_M_both_b5_31 g m = some y) (hK : kl_M_both_l5 d out y) : zx_Ev (d + 2) 180 31 [some (.ref 0), none, none] [] (zx_SM, m) out := by
  unfold n_M_both_b5_31 at hf
  refine zx_ev_blk zk_180 1 (pc1 := 32) (L1 := [some (.ref 0), none, none]) (st1 := [.int 0]) (h1 := (zx_SM, m)) rfl ?_
  exact zx_ev_sub (L := [some (.ref 0), none, none]) (⟨rfl, trivial⟩) (e_M_both_b5_32 g 0 m hg hf hK)
def b_M_both_l5 (g : GT_both_compared_either_one_produ_m) (v1 : Int32) (m : zx_M) : Option ((Int32 × zx_M) ⊕ ((Int32 × zx_M))) := (f_M_takes 38 m).bind fun (r5, m6) => if r5 = 0 then some (.inr (v1, m6)) else (g.2.2.1 m6).bind fun (r9, m10) => if v1 = 0 then n_M_both_b5_31 g m10 else if r9 = 0 then n_M_both_b5_31 g m10 else n_M_both_b5_32 g 1 m10
theorem eb_M_both_l5 (g : GT_both_compared_either_one_produ_m) (v1 : Int32) (m : zx_M) {d : Nat} (hg : GH_both_compared_either_one_produ_m (d + 1) g) {out : Option Value × zx_H} {y : (Int32 × zx_M) ⊕ ((Int32 × zx_M))} (hf : b_M_both_l5 g v1 m = some y) (hK : kl_M_both_l5 d out y) : zx_Ev (d + 2) 180 5 [some (.ref 0), some (.int v1), none] [] (zx_SM, m) out := by
  unfold b_M_both_l5 at hf
  refine zx_ev_blk zk_180 2 (pc1 := 8) (L1 := [some (.ref 0), some (.int v1), none]) (st1 := [.int 38, .ref 0]) (h1 := (zx_SM, m)) rfl ?_
  obtain ⟨⟨r5, m6⟩, hv4, hf⟩ := zx_bind_eq hf
  dsimp only at hf
  refine zx_ev_call (d := d + 1) zk_180 (v := some (.int r5)) (h1 := (zx_SM, m6)) rfl rfl zt_178 rfl zx_SMn rfl rfl (s_M_takes _ _ (d := d + 0) hv4) ?_
  by_cases c7 : r5 = 0
  · rw [if_pos c7] at hf
    refine zx_ev_ift zk_180 (P := r5 = 0) (t := 36) (f := 14) rfl rfl c7 ?_
    refine zx_ev_blk zk_180 1 (pc1 := 37) (L1 := [some (.ref 0), some (.int v1), none]) (st1 := [.int v1]) (h1 := (zx_SM, m6)) rfl ?_
    obtain rfl := Option.some.inj hf
    rw [show out = _ from hK]
    exact zx_ev_ret zk_180 rfl rfl
  · rw [if_neg c7] at hf
    refine zx_ev_ifn zk_180 (P := r5 = 0) (t := 36) (f := 14) rfl rfl c7 ?_
    refine zx_ev_blk zk_180 1 (pc1 := 15) (L1 := [some (.ref 0), some (.int v1), none]) (st1 := [.ref 0]) (h1 := (zx_SM, m6)) rfl ?_
    obtain ⟨⟨r9, m10⟩, hv8, hf⟩ := zx_bind_eq hf
    dsimp only at hf
    refine zx_ev_call (d := d + 1) zk_180 (v := some (.int r9)) (h1 := (zx_SM, m10)) rfl rfl zt_181 rfl zx_SMn rfl rfl (hg.2.2.1 _ _ hv8) ?_
    refine zx_ev_blk zk_180 2 (pc1 := 20) (L1 := [some (.ref 0), some (.int v1), some (.int r9)]) (st1 := [.int v1]) (h1 := (zx_SM, m10)) rfl ?_
    by_cases c11 : v1 = 0
    · rw [if_pos c11] at hf
      refine zx_ev_ift zk_180 (P := v1 = 0) (t := 31) (f := 23) rfl rfl c11 ?_
      exact zx_ev_sub (L := [some (.ref 0), none, none]) (⟨rfl, ⟨trivial, ⟨trivial, trivial⟩⟩⟩) (e_M_both_b5_31 g m10 hg hf hK)
    · rw [if_neg c11] at hf
      refine zx_ev_ifn zk_180 (P := v1 = 0) (t := 31) (f := 23) rfl rfl c11 ?_
      refine zx_ev_blk zk_180 1 (pc1 := 24) (L1 := [some (.ref 0), some (.int v1), some (.int r9)]) (st1 := [.int r9]) (h1 := (zx_SM, m10)) rfl ?_
      by_cases c12 : r9 = 0
      · rw [if_pos c12] at hf
        refine zx_ev_ift zk_180 (P := r9 = 0) (t := 31) (f := 27) rfl rfl c12 ?_
        exact zx_ev_sub (L := [some (.ref 0), none, none]) (⟨rfl, ⟨trivial, ⟨trivial, trivial⟩⟩⟩) (e_M_both_b5_31 g m10 hg hf hK)
      · rw [if_neg c12] at hf
        refine zx_ev_ifn zk_180 (P := r9 = 0) (t := 31) (f := 27) rfl rfl c12 ?_
        refine zx_ev_blk zk_180 2 (pc1 := 32) (L1 := [some (.ref 0), some (.int v1), some (.int r9)]) (st1 := [.int 1]) (h1 := (zx_SM, m10)) rfl ?_
        exact zx_ev_sub (L := [some (.ref 0), none, none]) (⟨rfl, ⟨trivial, ⟨trivial, trivial⟩⟩⟩) (e_M_both_b5_32 g 1 m10 hg hf hK)
def l_M_both_l5 (g : GT_both_compared_either_one_produ_m) (s0 : Int32 × zx_M) : Option ((Int32 × zx_M)) := zx_lp zx_N (fun s : Int32 × zx_M => b_M_both_l5 g s.1 s.2) s0
theorem el_M_both_l5 (g : GT_both_compared_either_one_produ_m) {d : Nat} (hg : GH_both_compared_either_one_produ_m (d + 1) g) {out : Option Value × zx_H} : ∀ (n : Nat) (s : Int32 × zx_M) (x : (Int32 × zx_M)), zx_lp n (fun s : Int32 × zx_M => b_M_both_l5 g s.1 s.2) s = some x → kx_M_both_l5 d out x → zx_Ev (d + 2) 180 5 [some (.ref 0), some (.int s.1), none] [] (zx_SM, s.2) out := by
  intro n
  induction n with
  | zero => intro s x hl _; simp [zx_lp] at hl
  | succ n ih =>
    intro s x hl hx
    unfold zx_lp at hl
    cases hb : b_M_both_l5 g s.1 s.2 with
    | none => simp only [hb] at hl; cases hl
    | some z =>
      simp only [hb] at hl
      cases z with
      | inl s1 => exact eb_M_both_l5 g s.1 s.2 hg hb (ih s1 x hl hx)
      | inr t =>
        simp only [Option.some.injEq] at hl
        subst hl
        exact eb_M_both_l5 g s.1 s.2 hg hb hx
def F_M_both (g : GT_both_compared_either_one_produ_m) (m : zx_M) : Option (Int32 × zx_M) := (g.2.2.1 m).bind fun (r2, m3) => (l_M_both_l5 g (r2, m3)).bind fun x13 => zx_let x13 fun y14 => some y14
theorem s_M_both (g : GT_both_compared_either_one_produ_m) (m : zx_M) {d : Nat} (hg : GH_both_compared_either_one_produ_m (d + 1) g) {y : (Int32 × zx_M)} (hf : F_M_both g m = some y) : zx_Ev (d + 2) 180 0 [some (.ref 0), none, none] [] (zx_SM, m) (some (.int y.1), (zx_SM, y.2)) := by
  unfold F_M_both at hf
  refine zx_ev_blk zk_180 1 (pc1 := 1) (L1 := [some (.ref 0), none, none]) (st1 := [.ref 0]) (h1 := (zx_SM, m)) rfl ?_
  obtain ⟨⟨r2, m3⟩, hv1, hf⟩ := zx_bind_eq hf
  dsimp only at hf
  refine zx_ev_call (d := d + 1) zk_180 (v := some (.int r2)) (h1 := (zx_SM, m3)) rfl rfl zt_181 rfl zx_SMn rfl rfl (hg.2.2.1 _ _ hv1) ?_
  refine zx_ev_blk zk_180 1 (pc1 := 5) (L1 := [some (.ref 0), some (.int r2), none]) (st1 := []) (h1 := (zx_SM, m3)) rfl ?_
  obtain ⟨x13, hx13, hf⟩ := zx_bind_eq hf
  refine zx_ev_sub (L := [some (.ref 0), some (.int r2), none]) (⟨rfl, ⟨rfl, trivial⟩⟩) (el_M_both_l5 g hg zx_N (r2, m3) x13 hx13 ?_)
  obtain ⟨y14, hy14, hf⟩ := zx_let_eq hf
  subst hy14
  obtain rfl := Option.some.inj hf
  rfl
def n_M_compared_n37 (g : GT_both_compared_either_one_produ_m) (v1 : Int32) (v2 : Int32) (m : zx_M) : Option (Int32 × zx_M) := zx_let (zx_u1 m 0 12 ((m.1 0 12) + 1)) fun m8 => (g.2.2.2.1 m8).bind fun (r10, m11) => if ¬ v2 = 60 then if ¬ v2 = 61 then if v1 ≤ r10 then some (0, m11) else some (1, m11) else if ¬ v1 = r10 then some (0, m11) else some (1, m11) else if r10 ≤ v1 then some (0, m11) else some (1, m11)
theorem e_M_compared_n37 (g : GT_both_compared_either_one_produ_m) (v1 : Int32) (v2 : Int32) (m : zx_M) {d : Nat} (hg : GH_both_compared_either_one_produ_m (d + 1) g) {y : (Int32 × zx_M)} (hf : n_M_compared_n37 g v1 v2 m = some y) : zx_Ev (d + 2) 181 37 [some (.ref 0), some (.int v1), some (.int v2), none] [] (zx_SM, m) (some (.int y.1), (zx_SM, y.2)) := by
  unfold n_M_compared_n37 at hf
  obtain ⟨m8, hm8, hf⟩ := zx_let_eq hf
  refine zx_ev_blk zk_181 7 (pc1 := 48) (L1 := [some (.ref 0), some (.int v1), some (.int v2), none]) (st1 := [.ref 0]) (h1 := (zx_SM, m8)) (by subst hm8; rfl) ?_
  obtain ⟨⟨r10, m11⟩, hv9, hf⟩ := zx_bind_eq hf
  dsimp only at hf
  refine zx_ev_call (d := d + 1) zk_181 (v := some (.int r10)) (h1 := (zx_SM, m11)) rfl rfl zt_182 rfl zx_SMn rfl rfl (hg.2.2.2.1 _ _ hv9) ?_
  refine zx_ev_blk zk_181 3 (pc1 := 55) (L1 := [some (.ref 0), some (.int v1), some (.int v2), some (.int r10)]) (st1 := [.int 60, .int v2]) (h1 := (zx_SM, m11)) rfl ?_
  by_cases c12 : ¬ v2 = 60
  · rw [if_pos c12] at hf
    refine zx_ev_ift zk_181 (P := ¬ v2 = 60) (t := 66) (f := 58) rfl rfl c12 ?_
    refine zx_ev_blk zk_181 2 (pc1 := 69) (L1 := [some (.ref 0), some (.int v1), some (.int v2), some (.int r10)]) (st1 := [.int 61, .int v2]) (h1 := (zx_SM, m11)) rfl ?_
    by_cases c13 : ¬ v2 = 61
    · rw [if_pos c13] at hf
      refine zx_ev_ift zk_181 (P := ¬ v2 = 61) (t := 80) (f := 72) rfl rfl c13 ?_
      refine zx_ev_blk zk_181 2 (pc1 := 82) (L1 := [some (.ref 0), some (.int v1), some (.int v2), some (.int r10)]) (st1 := [.int r10, .int v1]) (h1 := (zx_SM, m11)) rfl ?_
      by_cases c14 : v1 ≤ r10
      · rw [if_pos c14] at hf
        refine zx_ev_ift zk_181 (P := v1 ≤ r10) (t := 89) (f := 85) rfl rfl c14 ?_
        refine zx_ev_blk zk_181 1 (pc1 := 90) (L1 := [some (.ref 0), some (.int v1), some (.int v2), some (.int r10)]) (st1 := [.int 0]) (h1 := (zx_SM, m11)) rfl ?_
        obtain rfl := Option.some.inj hf
        exact zx_ev_ret zk_181 rfl rfl
      · rw [if_neg c14] at hf
        refine zx_ev_ifn zk_181 (P := v1 ≤ r10) (t := 89) (f := 85) rfl rfl c14 ?_
        refine zx_ev_blk zk_181 2 (pc1 := 90) (L1 := [some (.ref 0), some (.int v1), some (.int v2), some (.int r10)]) (st1 := [.int 1]) (h1 := (zx_SM, m11)) rfl ?_
        obtain rfl := Option.some.inj hf
        exact zx_ev_ret zk_181 rfl rfl
    · rw [if_neg c13] at hf
      refine zx_ev_ifn zk_181 (P := ¬ v2 = 61) (t := 80) (f := 72) rfl rfl c13 ?_
      refine zx_ev_blk zk_181 2 (pc1 := 74) (L1 := [some (.ref 0), some (.int v1), some (.int v2), some (.int r10)]) (st1 := [.int r10, .int v1]) (h1 := (zx_SM, m11)) rfl ?_
      by_cases c15 : ¬ v1 = r10
      · rw [if_pos c15] at hf
        refine zx_ev_ift zk_181 (P := ¬ v1 = r10) (t := 89) (f := 77) rfl rfl c15 ?_
        refine zx_ev_blk zk_181 1 (pc1 := 90) (L1 := [some (.ref 0), some (.int v1), some (.int v2), some (.int r10)]) (st1 := [.int 0]) (h1 := (zx_SM, m11)) rfl ?_
        obtain rfl := Option.some.inj hf
        exact zx_ev_ret zk_181 rfl rfl
      · rw [if_neg c15] at hf
        refine zx_ev_ifn zk_181 (P := ¬ v1 = r10) (t := 89) (f := 77) rfl rfl c15 ?_
        refine zx_ev_blk zk_181 3 (pc1 := 90) (L1 := [some (.ref 0), some (.int v1), some (.int v2), some (.int r10)]) (st1 := [.int 1]) (h1 := (zx_SM, m11)) rfl ?_
        obtain rfl := Option.some.inj hf
        exact zx_ev_ret zk_181 rfl rfl
  · rw [if_neg c12] at hf
    refine zx_ev_ifn zk_181 (P := ¬ v2 = 60) (t := 66) (f := 58) rfl rfl c12 ?_
    refine zx_ev_blk zk_181 2 (pc1 := 60) (L1 := [some (.ref 0), some (.int v1), some (.int v2), some (.int r10)]) (st1 := [.int r10, .int v1]) (h1 := (zx_SM, m11)) rfl ?_
    by_cases c16 : r10 ≤ v1
    · rw [if_pos c16] at hf
      refine zx_ev_ift zk_181 (P := r10 ≤ v1) (t := 89) (f := 63) rfl rfl c16 ?_
      refine zx_ev_blk zk_181 1 (pc1 := 90) (L1 := [some (.ref 0), some (.int v1), some (.int v2), some (.int r10)]) (st1 := [.int 0]) (h1 := (zx_SM, m11)) rfl ?_
      obtain rfl := Option.some.inj hf
      exact zx_ev_ret zk_181 rfl rfl
    · rw [if_neg c16] at hf
      refine zx_ev_ifn zk_181 (P := r10 ≤ v1) (t := 89) (f := 63) rfl rfl c16 ?_
      refine zx_ev_blk zk_181 3 (pc1 := 90) (L1 := [some (.ref 0), some (.int v1), some (.int v2), some (.int r10)]) (st1 := [.int 1]) (h1 := (zx_SM, m11)) rfl ?_
      obtain rfl := Option.some.inj hf
      exact zx_ev_ret zk_181 rfl rfl
def F_M_compared (g : GT_both_compared_either_one_produ_m) (m : zx_M) : Option (Int32 × zx_M) := (g.2.2.2.1 m).bind fun (r2, m3) => (f_M_byteAt m3).bind fun r5 => if 0 ≤ (m3.1 0 14) then some (r2, m3) else if r5 = 60 then n_M_compared_n37 g r2 r5 m3 else if r5 = 61 then n_M_compared_n37 g r2 r5 m3 else if r5 = 62 then n_M_compared_n37 g r2 r5 m3 else some (r2, m3)
theorem s_M_compared (g : GT_both_compared_either_one_produ_m) (m : zx_M) {d : Nat} (hg : GH_both_compared_either_one_produ_m (d + 1) g) {y : (Int32 × zx_M)} (hf : F_M_compared g m = some y) : zx_Ev (d + 2) 181 0 [some (.ref 0), none, none, none] [] (zx_SM, m) (some (.int y.1), (zx_SM, y.2)) := by
  unfold F_M_compared at hf
  refine zx_ev_blk zk_181 1 (pc1 := 1) (L1 := [some (.ref 0), none, none, none]) (st1 := [.ref 0]) (h1 := (zx_SM, m)) rfl ?_
  obtain ⟨⟨r2, m3⟩, hv1, hf⟩ := zx_bind_eq hf
  dsimp only at hf
  refine zx_ev_call (d := d + 1) zk_181 (v := some (.int r2)) (h1 := (zx_SM, m3)) rfl rfl zt_182 rfl zx_SMn rfl rfl (hg.2.2.2.1 _ _ hv1) ?_
  refine zx_ev_blk zk_181 2 (pc1 := 6) (L1 := [some (.ref 0), some (.int r2), none, none]) (st1 := [.ref 0]) (h1 := (zx_SM, m3)) rfl ?_
  obtain ⟨r5, hv4, hf⟩ := zx_bind_eq hf
  refine zx_ev_call (d := d + 1) zk_181 (v := some (.int r5)) (h1 := (zx_SM, m3)) rfl rfl zt_176 rfl zx_SMn rfl rfl (s_M_byteAt _ (d := d + 1) hv4) ?_
  refine zx_ev_blk zk_181 3 (pc1 := 14) (L1 := [some (.ref 0), some (.int r2), some (.int r5), none]) (st1 := [.int (m3.1 0 14)]) (h1 := (zx_SM, m3)) rfl ?_
  by_cases c6 : 0 ≤ (m3.1 0 14)
  · rw [if_pos c6] at hf
    refine zx_ev_ift zk_181 (P := 0 ≤ (m3.1 0 14)) (t := 35) (f := 17) rfl rfl c6 ?_
    refine zx_ev_blk zk_181 1 (pc1 := 36) (L1 := [some (.ref 0), some (.int r2), some (.int r5), none]) (st1 := [.int r2]) (h1 := (zx_SM, m3)) rfl ?_
    obtain rfl := Option.some.inj hf
    exact zx_ev_ret zk_181 rfl rfl
  · rw [if_neg c6] at hf
    refine zx_ev_ifn zk_181 (P := 0 ≤ (m3.1 0 14)) (t := 35) (f := 17) rfl rfl c6 ?_
    refine zx_ev_blk zk_181 2 (pc1 := 20) (L1 := [some (.ref 0), some (.int r2), some (.int r5), none]) (st1 := [.int 60, .int r5]) (h1 := (zx_SM, m3)) rfl ?_
    by_cases c7 : r5 = 60
    · rw [if_pos c7] at hf
      refine zx_ev_ift zk_181 (P := r5 = 60) (t := 37) (f := 23) rfl rfl c7 ?_
      exact zx_ev_sub (L := [some (.ref 0), some (.int r2), some (.int r5), none]) (⟨rfl, ⟨rfl, ⟨rfl, trivial⟩⟩⟩) (e_M_compared_n37 g r2 r5 m3 hg hf)
    · rw [if_neg c7] at hf
      refine zx_ev_ifn zk_181 (P := r5 = 60) (t := 37) (f := 23) rfl rfl c7 ?_
      refine zx_ev_blk zk_181 2 (pc1 := 26) (L1 := [some (.ref 0), some (.int r2), some (.int r5), none]) (st1 := [.int 61, .int r5]) (h1 := (zx_SM, m3)) rfl ?_
      by_cases c17 : r5 = 61
      · rw [if_pos c17] at hf
        refine zx_ev_ift zk_181 (P := r5 = 61) (t := 37) (f := 29) rfl rfl c17 ?_
        exact zx_ev_sub (L := [some (.ref 0), some (.int r2), some (.int r5), none]) (⟨rfl, ⟨rfl, ⟨rfl, trivial⟩⟩⟩) (e_M_compared_n37 g r2 r5 m3 hg hf)
      · rw [if_neg c17] at hf
        refine zx_ev_ifn zk_181 (P := r5 = 61) (t := 37) (f := 29) rfl rfl c17 ?_
        refine zx_ev_blk zk_181 2 (pc1 := 32) (L1 := [some (.ref 0), some (.int r2), some (.int r5), none]) (st1 := [.int 62, .int r5]) (h1 := (zx_SM, m3)) rfl ?_
        by_cases c18 : r5 = 62
        · rw [if_pos c18] at hf
          refine zx_ev_ift zk_181 (P := r5 = 62) (t := 37) (f := 35) rfl rfl c18 ?_
          exact zx_ev_sub (L := [some (.ref 0), some (.int r2), some (.int r5), none]) (⟨rfl, ⟨rfl, ⟨rfl, trivial⟩⟩⟩) (e_M_compared_n37 g r2 r5 m3 hg hf)
        · rw [if_neg c18] at hf
          refine zx_ev_ifn zk_181 (P := r5 = 62) (t := 37) (f := 35) rfl rfl c18 ?_
          refine zx_ev_blk zk_181 1 (pc1 := 36) (L1 := [some (.ref 0), some (.int r2), some (.int r5), none]) (st1 := [.int r2]) (h1 := (zx_SM, m3)) rfl ?_
          obtain rfl := Option.some.inj hf
          exact zx_ev_ret zk_181 rfl rfl
def kx_M_sums_l5 (d : Nat) (out : Option Value × zx_H) : (Int32 × zx_M) → Prop
  | y => out = (some (.int y.1), (zx_SM, y.2))
def kl_M_sums_l5 (d : Nat) (out : Option Value × zx_H) : (Int32 × zx_M) ⊕ ((Int32 × zx_M)) → Prop
  | .inl (v1, m) => zx_Ev (d + 2) 182 5 [some (.ref 0), some (.int v1), none, none] [] (zx_SM, m) out
  | .inr x => kx_M_sums_l5 d out x
def n_M_sums_b5_73 (g : GT_both_compared_either_one_produ_m) (t0 : Int32) (m : zx_M) : Option ((Int32 × zx_M) ⊕ ((Int32 × zx_M))) := some (.inl (t0, m))
theorem e_M_sums_b5_73 (g : GT_both_compared_either_one_produ_m) (t0 : Int32) (m : zx_M) {d : Nat} (hg : GH_both_compared_either_one_produ_m (d + 1) g) {out : Option Value × zx_H} {y : (Int32 × zx_M) ⊕ ((Int32 × zx_M))} (hf : n_M_sums_b5_73 g t0 m = some y) (hK : kl_M_sums_l5 d out y) : zx_Ev (d + 2) 182 73 [some (.ref 0), none, none, none] [.int t0] (zx_SM, m) out := by
  unfold n_M_sums_b5_73 at hf
  refine zx_ev_blk zk_182 2 (pc1 := 5) (L1 := [some (.ref 0), some (.int t0), none, none]) (st1 := []) (h1 := (zx_SM, m)) rfl ?_
  obtain rfl := Option.some.inj hf
  exact zx_ev_sub (L := [some (.ref 0), some (.int t0), none, none]) (⟨rfl, ⟨rfl, trivial⟩⟩) hK
def n_M_sums_b5_44 (g : GT_both_compared_either_one_produ_m) (v1 : Int32) (t0 : Int32) (m : zx_M) : Option ((Int32 × zx_M) ⊕ ((Int32 × zx_M))) := zx_let (zx_u1 m 0 12 ((m.1 0 12) + 1)) fun m11 => (g.2.2.2.2.1 m11).bind fun (r13, m14) => if t0 = 0 then n_M_sums_b5_73 g (v1 - r13) m14 else n_M_sums_b5_73 g (v1 + r13) m14
theorem e_M_sums_b5_44 (g : GT_both_compared_either_one_produ_m) (v1 : Int32) (t0 : Int32) (m : zx_M) {d : Nat} (hg : GH_both_compared_either_one_produ_m (d + 1) g) {out : Option Value × zx_H} {y : (Int32 × zx_M) ⊕ ((Int32 × zx_M))} (hf : n_M_sums_b5_44 g v1 t0 m = some y) (hK : kl_M_sums_l5 d out y) : zx_Ev (d + 2) 182 44 [some (.ref 0), some (.int v1), none, none] [.int t0] (zx_SM, m) out := by
  unfold n_M_sums_b5_44 at hf
  obtain ⟨m11, hm11, hf⟩ := zx_let_eq hf
  refine zx_ev_blk zk_182 8 (pc1 := 56) (L1 := [some (.ref 0), some (.int v1), some (.int t0), none]) (st1 := [.ref 0]) (h1 := (zx_SM, m11)) (by subst hm11; rfl) ?_
  obtain ⟨⟨r13, m14⟩, hv12, hf⟩ := zx_bind_eq hf
  dsimp only at hf
  refine zx_ev_call (d := d + 1) zk_182 (v := some (.int r13)) (h1 := (zx_SM, m14)) rfl rfl zt_183 rfl zx_SMn rfl rfl (hg.2.2.2.2.1 _ _ hv12) ?_
  refine zx_ev_blk zk_182 2 (pc1 := 61) (L1 := [some (.ref 0), some (.int v1), some (.int t0), some (.int r13)]) (st1 := [.int t0]) (h1 := (zx_SM, m14)) rfl ?_
  by_cases c15 : t0 = 0
  · rw [if_pos c15] at hf
    refine zx_ev_ift zk_182 (P := t0 = 0) (t := 70) (f := 64) rfl rfl c15 ?_
    refine zx_ev_blk zk_182 3 (pc1 := 73) (L1 := [some (.ref 0), some (.int v1), some (.int t0), some (.int r13)]) (st1 := [.int (v1 - r13)]) (h1 := (zx_SM, m14)) rfl ?_
    exact zx_ev_sub (L := [some (.ref 0), none, none, none]) (⟨rfl, ⟨trivial, ⟨trivial, ⟨trivial, trivial⟩⟩⟩⟩) (e_M_sums_b5_73 g (v1 - r13) m14 hg hf hK)
  · rw [if_neg c15] at hf
    refine zx_ev_ifn zk_182 (P := t0 = 0) (t := 70) (f := 64) rfl rfl c15 ?_
    refine zx_ev_blk zk_182 4 (pc1 := 73) (L1 := [some (.ref 0), some (.int v1), some (.int t0), some (.int r13)]) (st1 := [.int (v1 + r13)]) (h1 := (zx_SM, m14)) rfl ?_
    exact zx_ev_sub (L := [some (.ref 0), none, none, none]) (⟨rfl, ⟨trivial, ⟨trivial, ⟨trivial, trivial⟩⟩⟩⟩) (e_M_sums_b5_73 g (v1 + r13) m14 hg hf hK)
def n_M_sums_b5_30 (g : GT_both_compared_either_one_produ_m) (v1 : Int32) (m : zx_M) : Option ((Int32 × zx_M) ⊕ ((Int32 × zx_M))) := (f_M_byteAt m).bind fun r9 => if ¬ r9 = 43 then n_M_sums_b5_44 g v1 0 m else n_M_sums_b5_44 g v1 1 m
theorem e_M_sums_b5_30 (g : GT_both_compared_either_one_produ_m) (v1 : Int32) (m : zx_M) {d : Nat} (hg : GH_both_compared_either_one_produ_m (d + 1) g) {out : Option Value × zx_H} {y : (Int32 × zx_M) ⊕ ((Int32 × zx_M))} (hf : n_M_sums_b5_30 g v1 m = some y) (hK : kl_M_sums_l5 d out y) : zx_Ev (d + 2) 182 30 [some (.ref 0), some (.int v1), none, none] [] (zx_SM, m) out := by
  unfold n_M_sums_b5_30 at hf
  refine zx_ev_blk zk_182 1 (pc1 := 31) (L1 := [some (.ref 0), some (.int v1), none, none]) (st1 := [.ref 0]) (h1 := (zx_SM, m)) rfl ?_
  obtain ⟨r9, hv8, hf⟩ := zx_bind_eq hf
  refine zx_ev_call (d := d + 1) zk_182 (v := some (.int r9)) (h1 := (zx_SM, m)) rfl rfl zt_176 rfl zx_SMn rfl rfl (s_M_byteAt _ (d := d + 1) hv8) ?_
  refine zx_ev_blk zk_182 1 (pc1 := 36) (L1 := [some (.ref 0), some (.int v1), none, none]) (st1 := [.int 43, .int r9]) (h1 := (zx_SM, m)) rfl ?_
  by_cases c10 : ¬ r9 = 43
  · rw [if_pos c10] at hf
    refine zx_ev_ift zk_182 (P := ¬ r9 = 43) (t := 43) (f := 39) rfl rfl c10 ?_
    refine zx_ev_blk zk_182 1 (pc1 := 44) (L1 := [some (.ref 0), some (.int v1), none, none]) (st1 := [.int 0]) (h1 := (zx_SM, m)) rfl ?_
    exact zx_ev_sub (L := [some (.ref 0), some (.int v1), none, none]) (⟨rfl, ⟨rfl, trivial⟩⟩) (e_M_sums_b5_44 g v1 0 m hg hf hK)
  · rw [if_neg c10] at hf
    refine zx_ev_ifn zk_182 (P := ¬ r9 = 43) (t := 43) (f := 39) rfl rfl c10 ?_
    refine zx_ev_blk zk_182 2 (pc1 := 44) (L1 := [some (.ref 0), some (.int v1), none, none]) (st1 := [.int 1]) (h1 := (zx_SM, m)) rfl ?_
    exact zx_ev_sub (L := [some (.ref 0), some (.int v1), none, none]) (⟨rfl, ⟨rfl, trivial⟩⟩) (e_M_sums_b5_44 g v1 1 m hg hf hK)
def b_M_sums_l5 (g : GT_both_compared_either_one_produ_m) (v1 : Int32) (m : zx_M) : Option ((Int32 × zx_M) ⊕ ((Int32 × zx_M))) := if 0 ≤ (m.1 0 14) then some (.inr (v1, m)) else (f_M_byteAt m).bind fun r6 => if r6 = 43 then n_M_sums_b5_30 g v1 m else (f_M_byteAt m).bind fun r17 => if ¬ r17 = 45 then some (.inr (v1, m)) else n_M_sums_b5_30 g v1 m
theorem eb_M_sums_l5 (g : GT_both_compared_either_one_produ_m) (v1 : Int32) (m : zx_M) {d : Nat} (hg : GH_both_compared_either_one_produ_m (d + 1) g) {out : Option Value × zx_H} {y : (Int32 × zx_M) ⊕ ((Int32 × zx_M))} (hf : b_M_sums_l5 g v1 m = some y) (hK : kl_M_sums_l5 d out y) : zx_Ev (d + 2) 182 5 [some (.ref 0), some (.int v1), none, none] [] (zx_SM, m) out := by
  unfold b_M_sums_l5 at hf
  refine zx_ev_blk zk_182 2 (pc1 := 9) (L1 := [some (.ref 0), some (.int v1), none, none]) (st1 := [.int (m.1 0 14)]) (h1 := (zx_SM, m)) rfl ?_
  by_cases c4 : 0 ≤ (m.1 0 14)
  · rw [if_pos c4] at hf
    refine zx_ev_ift zk_182 (P := 0 ≤ (m.1 0 14)) (t := 77) (f := 12) rfl rfl c4 ?_
    refine zx_ev_blk zk_182 1 (pc1 := 78) (L1 := [some (.ref 0), some (.int v1), none, none]) (st1 := [.int v1]) (h1 := (zx_SM, m)) rfl ?_
    obtain rfl := Option.some.inj hf
    rw [show out = _ from hK]
    exact zx_ev_ret zk_182 rfl rfl
  · rw [if_neg c4] at hf
    refine zx_ev_ifn zk_182 (P := 0 ≤ (m.1 0 14)) (t := 77) (f := 12) rfl rfl c4 ?_
    refine zx_ev_blk zk_182 1 (pc1 := 13) (L1 := [some (.ref 0), some (.int v1), none, none]) (st1 := [.ref 0]) (h1 := (zx_SM, m)) rfl ?_
    obtain ⟨r6, hv5, hf⟩ := zx_bind_eq hf
    refine zx_ev_call (d := d + 1) zk_182 (v := some (.int r6)) (h1 := (zx_SM, m)) rfl rfl zt_176 rfl zx_SMn rfl rfl (s_M_byteAt _ (d := d + 1) hv5) ?_
    refine zx_ev_blk zk_182 1 (pc1 := 18) (L1 := [some (.ref 0), some (.int v1), none, none]) (st1 := [.int 43, .int r6]) (h1 := (zx_SM, m)) rfl ?_
    by_cases c7 : r6 = 43
    · rw [if_pos c7] at hf
      refine zx_ev_ift zk_182 (P := r6 = 43) (t := 30) (f := 21) rfl rfl c7 ?_
      exact zx_ev_sub (L := [some (.ref 0), some (.int v1), none, none]) (⟨rfl, ⟨rfl, trivial⟩⟩) (e_M_sums_b5_30 g v1 m hg hf hK)
    · rw [if_neg c7] at hf
      refine zx_ev_ifn zk_182 (P := r6 = 43) (t := 30) (f := 21) rfl rfl c7 ?_
      refine zx_ev_blk zk_182 1 (pc1 := 22) (L1 := [some (.ref 0), some (.int v1), none, none]) (st1 := [.ref 0]) (h1 := (zx_SM, m)) rfl ?_
      obtain ⟨r17, hv16, hf⟩ := zx_bind_eq hf
      refine zx_ev_call (d := d + 1) zk_182 (v := some (.int r17)) (h1 := (zx_SM, m)) rfl rfl zt_176 rfl zx_SMn rfl rfl (s_M_byteAt _ (d := d + 1) hv16) ?_
      refine zx_ev_blk zk_182 1 (pc1 := 27) (L1 := [some (.ref 0), some (.int v1), none, none]) (st1 := [.int 45, .int r17]) (h1 := (zx_SM, m)) rfl ?_
      by_cases c18 : ¬ r17 = 45
      · rw [if_pos c18] at hf
        refine zx_ev_ift zk_182 (P := ¬ r17 = 45) (t := 77) (f := 30) rfl rfl c18 ?_
        refine zx_ev_blk zk_182 1 (pc1 := 78) (L1 := [some (.ref 0), some (.int v1), none, none]) (st1 := [.int v1]) (h1 := (zx_SM, m)) rfl ?_
        obtain rfl := Option.some.inj hf
        rw [show out = _ from hK]
        exact zx_ev_ret zk_182 rfl rfl
      · rw [if_neg c18] at hf
        refine zx_ev_ifn zk_182 (P := ¬ r17 = 45) (t := 77) (f := 30) rfl rfl c18 ?_
        exact zx_ev_sub (L := [some (.ref 0), some (.int v1), none, none]) (⟨rfl, ⟨rfl, trivial⟩⟩) (e_M_sums_b5_30 g v1 m hg hf hK)
def l_M_sums_l5 (g : GT_both_compared_either_one_produ_m) (s0 : Int32 × zx_M) : Option ((Int32 × zx_M)) := zx_lp zx_N (fun s : Int32 × zx_M => b_M_sums_l5 g s.1 s.2) s0
theorem el_M_sums_l5 (g : GT_both_compared_either_one_produ_m) {d : Nat} (hg : GH_both_compared_either_one_produ_m (d + 1) g) {out : Option Value × zx_H} : ∀ (n : Nat) (s : Int32 × zx_M) (x : (Int32 × zx_M)), zx_lp n (fun s : Int32 × zx_M => b_M_sums_l5 g s.1 s.2) s = some x → kx_M_sums_l5 d out x → zx_Ev (d + 2) 182 5 [some (.ref 0), some (.int s.1), none, none] [] (zx_SM, s.2) out := by
  intro n
  induction n with
  | zero => intro s x hl _; simp [zx_lp] at hl
  | succ n ih =>
    intro s x hl hx
    unfold zx_lp at hl
    cases hb : b_M_sums_l5 g s.1 s.2 with
    | none => simp only [hb] at hl; cases hl
    | some z =>
      simp only [hb] at hl
      cases z with
      | inl s1 => exact eb_M_sums_l5 g s.1 s.2 hg hb (ih s1 x hl hx)
      | inr t =>
        simp only [Option.some.injEq] at hl
        subst hl
        exact eb_M_sums_l5 g s.1 s.2 hg hb hx
def F_M_sums (g : GT_both_compared_either_one_produ_m) (m : zx_M) : Option (Int32 × zx_M) := (g.2.2.2.2.1 m).bind fun (r2, m3) => (l_M_sums_l5 g (r2, m3)).bind fun x19 => zx_let x19 fun y20 => some y20
theorem s_M_sums (g : GT_both_compared_either_one_produ_m) (m : zx_M) {d : Nat} (hg : GH_both_compared_either_one_produ_m (d + 1) g) {y : (Int32 × zx_M)} (hf : F_M_sums g m = some y) : zx_Ev (d + 2) 182 0 [some (.ref 0), none, none, none] [] (zx_SM, m) (some (.int y.1), (zx_SM, y.2)) := by
  unfold F_M_sums at hf
  refine zx_ev_blk zk_182 1 (pc1 := 1) (L1 := [some (.ref 0), none, none, none]) (st1 := [.ref 0]) (h1 := (zx_SM, m)) rfl ?_
  obtain ⟨⟨r2, m3⟩, hv1, hf⟩ := zx_bind_eq hf
  dsimp only at hf
  refine zx_ev_call (d := d + 1) zk_182 (v := some (.int r2)) (h1 := (zx_SM, m3)) rfl rfl zt_183 rfl zx_SMn rfl rfl (hg.2.2.2.2.1 _ _ hv1) ?_
  refine zx_ev_blk zk_182 1 (pc1 := 5) (L1 := [some (.ref 0), some (.int r2), none, none]) (st1 := []) (h1 := (zx_SM, m3)) rfl ?_
  obtain ⟨x19, hx19, hf⟩ := zx_bind_eq hf
  refine zx_ev_sub (L := [some (.ref 0), some (.int r2), none, none]) (⟨rfl, ⟨rfl, trivial⟩⟩) (el_M_sums_l5 g hg zx_N (r2, m3) x19 hx19 ?_)
  obtain ⟨y20, hy20, hf⟩ := zx_let_eq hf
  subst hy20
  obtain rfl := Option.some.inj hf
  rfl
def kx_M_product_l10 (d : Nat) (out : Option Value × zx_H) : (Int32 × zx_M) → Prop
  | y => out = (some (.int y.1), (zx_SM, y.2))
def kl_M_product_l10 (d : Nat) (out : Option Value × zx_H) : (Int32 × Int32 × zx_M) ⊕ ((Int32 × zx_M)) → Prop
  | .inl (v1, v2, m) => zx_Ev (d + 2) 183 10 [some (.ref 0), some (.int v1), some (.int v2), none] [] (zx_SM, m) out
  | .inr x => kx_M_product_l10 d out x
def n_M_product_b10_85 (g : GT_both_compared_either_one_produ_m) (t0 : Int32) (m : zx_M) : Option ((Int32 × Int32 × zx_M) ⊕ ((Int32 × zx_M))) := (f_M_byteAt m).bind fun r17 => some (.inl (t0, r17, m))
theorem e_M_product_b10_85 (g : GT_both_compared_either_one_produ_m) (t0 : Int32) (m : zx_M) {d : Nat} (hg : GH_both_compared_either_one_produ_m (d + 1) g) {out : Option Value × zx_H} {y : (Int32 × Int32 × zx_M) ⊕ ((Int32 × zx_M))} (hf : n_M_product_b10_85 g t0 m = some y) (hK : kl_M_product_l10 d out y) : zx_Ev (d + 2) 183 85 [some (.ref 0), none, none, none] [.int t0] (zx_SM, m) out := by
  unfold n_M_product_b10_85 at hf
  refine zx_ev_blk zk_183 2 (pc1 := 87) (L1 := [some (.ref 0), some (.int t0), none, none]) (st1 := [.ref 0]) (h1 := (zx_SM, m)) rfl ?_
  obtain ⟨r17, hv16, hf⟩ := zx_bind_eq hf
  refine zx_ev_call (d := d + 1) zk_183 (v := some (.int r17)) (h1 := (zx_SM, m)) rfl rfl zt_176 rfl zx_SMn rfl rfl (s_M_byteAt _ (d := d + 1) hv16) ?_
  refine zx_ev_blk zk_183 2 (pc1 := 10) (L1 := [some (.ref 0), some (.int t0), some (.int r17), none]) (st1 := []) (h1 := (zx_SM, m)) rfl ?_
  obtain rfl := Option.some.inj hf
  exact zx_ev_sub (L := [some (.ref 0), some (.int t0), some (.int r17), none]) (⟨rfl, ⟨rfl, ⟨rfl, trivial⟩⟩⟩) hK
def n_M_product_b10_35 (g : GT_both_compared_either_one_produ_m) (v1 : Int32) (v2 : Int32) (m : zx_M) : Option ((Int32 × Int32 × zx_M) ⊕ ((Int32 × zx_M))) := zx_let (zx_u1 m 0 12 ((m.1 0 12) + 1)) fun m8 => (g.2.2.2.2.2 m8).bind fun (r10, m11) => if ¬ v2 = 42 then if ¬ r10 = 0 then if ¬ v2 = 47 then if r10 = 0 then none else n_M_product_b10_85 g (zx_rem v1 r10) m11 else if r10 = 0 then none else n_M_product_b10_85 g (v1 / r10) m11 else n_M_product_b10_85 g 0 m11 else n_M_product_b10_85 g (v1 * r10) m11
theorem e_M_product_b10_35 (g : GT_both_compared_either_one_produ_m) (v1 : Int32) (v2 : Int32) (m : zx_M) {d : Nat} (hg : GH_both_compared_either_one_produ_m (d + 1) g) {out : Option Value × zx_H} {y : (Int32 × Int32 × zx_M) ⊕ ((Int32 × zx_M))} (hf : n_M_product_b10_35 g v1 v2 m = some y) (hK : kl_M_product_l10 d out y) : zx_Ev (d + 2) 183 35 [some (.ref 0), some (.int v1), some (.int v2), none] [] (zx_SM, m) out := by
  unfold n_M_product_b10_35 at hf
  obtain ⟨m8, hm8, hf⟩ := zx_let_eq hf
  refine zx_ev_blk zk_183 7 (pc1 := 46) (L1 := [some (.ref 0), some (.int v1), some (.int v2), none]) (st1 := [.ref 0]) (h1 := (zx_SM, m8)) (by subst hm8; rfl) ?_
  obtain ⟨⟨r10, m11⟩, hv9, hf⟩ := zx_bind_eq hf
  dsimp only at hf
  refine zx_ev_call (d := d + 1) zk_183 (v := some (.int r10)) (h1 := (zx_SM, m11)) rfl rfl zt_185 rfl zx_SMn rfl rfl (hg.2.2.2.2.2 _ _ hv9) ?_
  refine zx_ev_blk zk_183 3 (pc1 := 53) (L1 := [some (.ref 0), some (.int v1), some (.int v2), some (.int r10)]) (st1 := [.int 42, .int v2]) (h1 := (zx_SM, m11)) rfl ?_
  by_cases c12 : ¬ v2 = 42
  · rw [if_pos c12] at hf
    refine zx_ev_ift zk_183 (P := ¬ v2 = 42) (t := 62) (f := 56) rfl rfl c12 ?_
    refine zx_ev_blk zk_183 1 (pc1 := 63) (L1 := [some (.ref 0), some (.int v1), some (.int v2), some (.int r10)]) (st1 := [.int r10]) (h1 := (zx_SM, m11)) rfl ?_
    by_cases c13 : ¬ r10 = 0
    · rw [if_pos c13] at hf
      refine zx_ev_ift zk_183 (P := ¬ r10 = 0) (t := 70) (f := 66) rfl rfl c13 ?_
      refine zx_ev_blk zk_183 2 (pc1 := 73) (L1 := [some (.ref 0), some (.int v1), some (.int v2), some (.int r10)]) (st1 := [.int 47, .int v2]) (h1 := (zx_SM, m11)) rfl ?_
      by_cases c14 : ¬ v2 = 47
      · rw [if_pos c14] at hf
        refine zx_ev_ift zk_183 (P := ¬ v2 = 47) (t := 82) (f := 76) rfl rfl c14 ?_
        refine zx_ev_blk zk_183 2 (pc1 := 84) (L1 := [some (.ref 0), some (.int v1), some (.int v2), some (.int r10)]) (st1 := [.int r10, .int v1]) (h1 := (zx_SM, m11)) rfl ?_
        by_cases c15 : r10 = 0
        · rw [if_pos c15] at hf; cases hf
        · rw [if_neg c15] at hf
          refine zx_ev_step zk_183 rfl (st_irem c15) ?_
          exact zx_ev_sub (L := [some (.ref 0), none, none, none]) (⟨rfl, ⟨trivial, ⟨trivial, ⟨trivial, trivial⟩⟩⟩⟩) (e_M_product_b10_85 g (zx_rem v1 r10) m11 hg hf hK)
      · rw [if_neg c14] at hf
        refine zx_ev_ifn zk_183 (P := ¬ v2 = 47) (t := 82) (f := 76) rfl rfl c14 ?_
        refine zx_ev_blk zk_183 2 (pc1 := 78) (L1 := [some (.ref 0), some (.int v1), some (.int v2), some (.int r10)]) (st1 := [.int r10, .int v1]) (h1 := (zx_SM, m11)) rfl ?_
        by_cases c18 : r10 = 0
        · rw [if_pos c18] at hf; cases hf
        · rw [if_neg c18] at hf
          refine zx_ev_step zk_183 rfl (st_idiv c18) ?_
          refine zx_ev_blk zk_183 1 (pc1 := 85) (L1 := [some (.ref 0), some (.int v1), some (.int v2), some (.int r10)]) (st1 := [.int (v1 / r10)]) (h1 := (zx_SM, m11)) rfl ?_
          exact zx_ev_sub (L := [some (.ref 0), none, none, none]) (⟨rfl, ⟨trivial, ⟨trivial, ⟨trivial, trivial⟩⟩⟩⟩) (e_M_product_b10_85 g (v1 / r10) m11 hg hf hK)
    · rw [if_neg c13] at hf
      refine zx_ev_ifn zk_183 (P := ¬ r10 = 0) (t := 70) (f := 66) rfl rfl c13 ?_
      refine zx_ev_blk zk_183 2 (pc1 := 85) (L1 := [some (.ref 0), some (.int v1), some (.int v2), some (.int r10)]) (st1 := [.int 0]) (h1 := (zx_SM, m11)) rfl ?_
      exact zx_ev_sub (L := [some (.ref 0), none, none, none]) (⟨rfl, ⟨trivial, ⟨trivial, ⟨trivial, trivial⟩⟩⟩⟩) (e_M_product_b10_85 g 0 m11 hg hf hK)
  · rw [if_neg c12] at hf
    refine zx_ev_ifn zk_183 (P := ¬ v2 = 42) (t := 62) (f := 56) rfl rfl c12 ?_
    refine zx_ev_blk zk_183 4 (pc1 := 85) (L1 := [some (.ref 0), some (.int v1), some (.int v2), some (.int r10)]) (st1 := [.int (v1 * r10)]) (h1 := (zx_SM, m11)) rfl ?_
    exact zx_ev_sub (L := [some (.ref 0), none, none, none]) (⟨rfl, ⟨trivial, ⟨trivial, ⟨trivial, trivial⟩⟩⟩⟩) (e_M_product_b10_85 g (v1 * r10) m11 hg hf hK)
def b_M_product_l10 (g : GT_both_compared_either_one_produ_m) (v1 : Int32) (v2 : Int32) (m : zx_M) : Option ((Int32 × Int32 × zx_M) ⊕ ((Int32 × zx_M))) := if 0 ≤ (m.1 0 14) then some (.inr (v1, m)) else if v2 = 42 then n_M_product_b10_35 g v1 v2 m else if v2 = 47 then n_M_product_b10_35 g v1 v2 m else if ¬ v2 = 37 then some (.inr (v1, m)) else n_M_product_b10_35 g v1 v2 m
theorem eb_M_product_l10 (g : GT_both_compared_either_one_produ_m) (v1 : Int32) (v2 : Int32) (m : zx_M) {d : Nat} (hg : GH_both_compared_either_one_produ_m (d + 1) g) {out : Option Value × zx_H} {y : (Int32 × Int32 × zx_M) ⊕ ((Int32 × zx_M))} (hf : b_M_product_l10 g v1 v2 m = some y) (hK : kl_M_product_l10 d out y) : zx_Ev (d + 2) 183 10 [some (.ref 0), some (.int v1), some (.int v2), none] [] (zx_SM, m) out := by
  unfold b_M_product_l10 at hf
  refine zx_ev_blk zk_183 2 (pc1 := 14) (L1 := [some (.ref 0), some (.int v1), some (.int v2), none]) (st1 := [.int (m.1 0 14)]) (h1 := (zx_SM, m)) rfl ?_
  by_cases c6 : 0 ≤ (m.1 0 14)
  · rw [if_pos c6] at hf
    refine zx_ev_ift zk_183 (P := 0 ≤ (m.1 0 14)) (t := 94) (f := 17) rfl rfl c6 ?_
    refine zx_ev_blk zk_183 1 (pc1 := 95) (L1 := [some (.ref 0), some (.int v1), some (.int v2), none]) (st1 := [.int v1]) (h1 := (zx_SM, m)) rfl ?_
    obtain rfl := Option.some.inj hf
    rw [show out = _ from hK]
    exact zx_ev_ret zk_183 rfl rfl
  · rw [if_neg c6] at hf
    refine zx_ev_ifn zk_183 (P := 0 ≤ (m.1 0 14)) (t := 94) (f := 17) rfl rfl c6 ?_
    refine zx_ev_blk zk_183 2 (pc1 := 20) (L1 := [some (.ref 0), some (.int v1), some (.int v2), none]) (st1 := [.int 42, .int v2]) (h1 := (zx_SM, m)) rfl ?_
    by_cases c7 : v2 = 42
    · rw [if_pos c7] at hf
      refine zx_ev_ift zk_183 (P := v2 = 42) (t := 35) (f := 23) rfl rfl c7 ?_
      exact zx_ev_sub (L := [some (.ref 0), some (.int v1), some (.int v2), none]) (⟨rfl, ⟨rfl, ⟨rfl, trivial⟩⟩⟩) (e_M_product_b10_35 g v1 v2 m hg hf hK)
    · rw [if_neg c7] at hf
      refine zx_ev_ifn zk_183 (P := v2 = 42) (t := 35) (f := 23) rfl rfl c7 ?_
      refine zx_ev_blk zk_183 2 (pc1 := 26) (L1 := [some (.ref 0), some (.int v1), some (.int v2), none]) (st1 := [.int 47, .int v2]) (h1 := (zx_SM, m)) rfl ?_
      by_cases c19 : v2 = 47
      · rw [if_pos c19] at hf
        refine zx_ev_ift zk_183 (P := v2 = 47) (t := 35) (f := 29) rfl rfl c19 ?_
        exact zx_ev_sub (L := [some (.ref 0), some (.int v1), some (.int v2), none]) (⟨rfl, ⟨rfl, ⟨rfl, trivial⟩⟩⟩) (e_M_product_b10_35 g v1 v2 m hg hf hK)
      · rw [if_neg c19] at hf
        refine zx_ev_ifn zk_183 (P := v2 = 47) (t := 35) (f := 29) rfl rfl c19 ?_
        refine zx_ev_blk zk_183 2 (pc1 := 32) (L1 := [some (.ref 0), some (.int v1), some (.int v2), none]) (st1 := [.int 37, .int v2]) (h1 := (zx_SM, m)) rfl ?_
        by_cases c20 : ¬ v2 = 37
        · rw [if_pos c20] at hf
          refine zx_ev_ift zk_183 (P := ¬ v2 = 37) (t := 94) (f := 35) rfl rfl c20 ?_
          refine zx_ev_blk zk_183 1 (pc1 := 95) (L1 := [some (.ref 0), some (.int v1), some (.int v2), none]) (st1 := [.int v1]) (h1 := (zx_SM, m)) rfl ?_
          obtain rfl := Option.some.inj hf
          rw [show out = _ from hK]
          exact zx_ev_ret zk_183 rfl rfl
        · rw [if_neg c20] at hf
          refine zx_ev_ifn zk_183 (P := ¬ v2 = 37) (t := 94) (f := 35) rfl rfl c20 ?_
          exact zx_ev_sub (L := [some (.ref 0), some (.int v1), some (.int v2), none]) (⟨rfl, ⟨rfl, ⟨rfl, trivial⟩⟩⟩) (e_M_product_b10_35 g v1 v2 m hg hf hK)
def l_M_product_l10 (g : GT_both_compared_either_one_produ_m) (s0 : Int32 × Int32 × zx_M) : Option ((Int32 × zx_M)) := zx_lp zx_N (fun s : Int32 × Int32 × zx_M => b_M_product_l10 g s.1 s.2.1 s.2.2) s0
theorem el_M_product_l10 (g : GT_both_compared_either_one_produ_m) {d : Nat} (hg : GH_both_compared_either_one_produ_m (d + 1) g) {out : Option Value × zx_H} : ∀ (n : Nat) (s : Int32 × Int32 × zx_M) (x : (Int32 × zx_M)), zx_lp n (fun s : Int32 × Int32 × zx_M => b_M_product_l10 g s.1 s.2.1 s.2.2) s = some x → kx_M_product_l10 d out x → zx_Ev (d + 2) 183 10 [some (.ref 0), some (.int s.1), some (.int s.2.1), none] [] (zx_SM, s.2.2) out := by
  intro n
  induction n with
  | zero => intro s x hl _; simp [zx_lp] at hl
  | succ n ih =>
    intro s x hl hx
    unfold zx_lp at hl
    cases hb : b_M_product_l10 g s.1 s.2.1 s.2.2 with
    | none => simp only [hb] at hl; cases hl
    | some z =>
      simp only [hb] at hl
      cases z with
      | inl s1 => exact eb_M_product_l10 g s.1 s.2.1 s.2.2 hg hb (ih s1 x hl hx)
      | inr t =>
        simp only [Option.some.injEq] at hl
        subst hl
        exact eb_M_product_l10 g s.1 s.2.1 s.2.2 hg hb hx
def F_M_product (g : GT_both_compared_either_one_produ_m) (m : zx_M) : Option (Int32 × zx_M) := (g.2.2.2.2.2 m).bind fun (r2, m3) => (f_M_byteAt m3).bind fun r5 => (l_M_product_l10 g (r2, r5, m3)).bind fun x21 => zx_let x21 fun y22 => some y22
theorem s_M_product (g : GT_both_compared_either_one_produ_m) (m : zx_M) {d : Nat} (hg : GH_both_compared_either_one_produ_m (d + 1) g) {y : (Int32 × zx_M)} (hf : F_M_product g m = some y) : zx_Ev (d + 2) 183 0 [some (.ref 0), none, none, none] [] (zx_SM, m) (some (.int y.1), (zx_SM, y.2)) := by
  unfold F_M_product at hf
  refine zx_ev_blk zk_183 1 (pc1 := 1) (L1 := [some (.ref 0), none, none, none]) (st1 := [.ref 0]) (h1 := (zx_SM, m)) rfl ?_
  obtain ⟨⟨r2, m3⟩, hv1, hf⟩ := zx_bind_eq hf
  dsimp only at hf
  refine zx_ev_call (d := d + 1) zk_183 (v := some (.int r2)) (h1 := (zx_SM, m3)) rfl rfl zt_185 rfl zx_SMn rfl rfl (hg.2.2.2.2.2 _ _ hv1) ?_
  refine zx_ev_blk zk_183 2 (pc1 := 6) (L1 := [some (.ref 0), some (.int r2), none, none]) (st1 := [.ref 0]) (h1 := (zx_SM, m3)) rfl ?_
  obtain ⟨r5, hv4, hf⟩ := zx_bind_eq hf
  refine zx_ev_call (d := d + 1) zk_183 (v := some (.int r5)) (h1 := (zx_SM, m3)) rfl rfl zt_176 rfl zx_SMn rfl rfl (s_M_byteAt _ (d := d + 1) hv4) ?_
  refine zx_ev_blk zk_183 1 (pc1 := 10) (L1 := [some (.ref 0), some (.int r2), some (.int r5), none]) (st1 := []) (h1 := (zx_SM, m3)) rfl ?_
  obtain ⟨x21, hx21, hf⟩ := zx_bind_eq hf
  refine zx_ev_sub (L := [some (.ref 0), some (.int r2), some (.int r5), none]) (⟨rfl, ⟨rfl, ⟨rfl, trivial⟩⟩⟩) (el_M_product_l10 g hg zx_N (r2, r5, m3) x21 hx21 ?_)
  obtain ⟨y22, hy22, hf⟩ := zx_let_eq hf
  subst hy22
  obtain rfl := Option.some.inj hf
  rfl
def n_M_wrong_n19 (t1 : Int32) (m : zx_M) : Option (Int32 × zx_M) := zx_let (zx_u1 m 0 14 t1) fun m2 => some (0, m2)
theorem e_M_wrong_n19 (t1 : Int32) (m : zx_M) {d : Nat} {y : (Int32 × zx_M)} (hf : n_M_wrong_n19 t1 m = some y) : zx_Ev (d) 177 19 [some (.ref 0)] [.int t1, .ref 0] (zx_SM, m) (some (.int y.1), (zx_SM, y.2)) := by
  unfold n_M_wrong_n19 at hf
  obtain ⟨m2, hm2, hf⟩ := zx_let_eq hf
  refine zx_ev_blk zk_177 2 (pc1 := 23) (L1 := [some (.ref 0)]) (st1 := [.int 0]) (h1 := (zx_SM, m2)) (by subst hm2; rfl) ?_
  obtain rfl := Option.some.inj hf
  exact zx_ev_ret zk_177 rfl rfl
def f_M_wrong (m : zx_M) : Option (Int32 × zx_M) := if 0 ≤ (m.1 0 14) then n_M_wrong_n19 (m.1 0 14) m else n_M_wrong_n19 (m.1 0 12) m
theorem s_M_wrong (m : zx_M) {d : Nat} {y : (Int32 × zx_M)} (hf : f_M_wrong m = some y) : zx_Ev (d) 177 0 [some (.ref 0)] [] (zx_SM, m) (some (.int y.1), (zx_SM, y.2)) := by
  unfold f_M_wrong at hf
  refine zx_ev_blk zk_177 3 (pc1 := 5) (L1 := [some (.ref 0)]) (st1 := [.int (m.1 0 14), .ref 0]) (h1 := (zx_SM, m)) rfl ?_
  by_cases c1 : 0 ≤ (m.1 0 14)
  · rw [if_pos c1] at hf
    refine zx_ev_ift zk_177 (P := 0 ≤ (m.1 0 14)) (t := 15) (f := 8) rfl rfl c1 ?_
    refine zx_ev_blk zk_177 2 (pc1 := 19) (L1 := [some (.ref 0)]) (st1 := [.int (m.1 0 14), .ref 0]) (h1 := (zx_SM, m)) rfl ?_
    exact zx_ev_sub (L := [some (.ref 0)]) (⟨rfl, trivial⟩) (e_M_wrong_n19 (m.1 0 14) m hf)
  · rw [if_neg c1] at hf
    refine zx_ev_ifn zk_177 (P := 0 ≤ (m.1 0 14)) (t := 15) (f := 8) rfl rfl c1 ?_
    refine zx_ev_blk zk_177 3 (pc1 := 19) (L1 := [some (.ref 0)]) (st1 := [.int (m.1 0 12), .ref 0]) (h1 := (zx_SM, m)) rfl ?_
    exact zx_ev_sub (L := [some (.ref 0)]) (⟨rfl, trivial⟩) (e_M_wrong_n19 (m.1 0 12) m hf)
def f_M_nameOf (v0 : Int32) (m : zx_M) : Option Int32 := if v0 = 97 then some 3 else if v0 = 98 then some 4 else if v0 = 104 then some 5 else if v0 = 113 then some 2 else if v0 = 115 then some 1 else if v0 = 119 then some 0 else some (-1)
theorem s_M_nameOf (v0 : Int32) (m : zx_M) {d : Nat} {y : Int32} (hf : f_M_nameOf v0 m = some y) : zx_Ev (d) 184 0 [some (.int v0)] [] (zx_SM, m) (some (.int y), (zx_SM, m)) := by
  unfold f_M_nameOf at hf
  refine zx_ev_blk zk_184 1 (pc1 := 1) (L1 := [some (.int v0)]) (st1 := [.int v0]) (h1 := (zx_SM, m)) rfl ?_
  by_cases c1 : v0 = 97
  · rw [if_pos c1] at hf
    refine zx_ev_lsw zk_184 rfl rfl (zx_pick_hit c1) rfl ?_
    refine zx_ev_blk zk_184 1 (pc1 := 67) (L1 := [some (.int v0)]) (st1 := [.int 3]) (h1 := (zx_SM, m)) rfl ?_
    obtain rfl := Option.some.inj hf
    exact zx_ev_ret zk_184 rfl rfl
  · rw [if_neg c1] at hf
    by_cases c2 : v0 = 98
    · rw [if_pos c2] at hf
      refine zx_ev_lsw zk_184 rfl rfl (zx_pick_miss c1 (zx_pick_hit c2)) rfl ?_
      refine zx_ev_blk zk_184 1 (pc1 := 69) (L1 := [some (.int v0)]) (st1 := [.int 4]) (h1 := (zx_SM, m)) rfl ?_
      obtain rfl := Option.some.inj hf
      exact zx_ev_ret zk_184 rfl rfl
    · rw [if_neg c2] at hf
      by_cases c3 : v0 = 104
      · rw [if_pos c3] at hf
        refine zx_ev_lsw zk_184 rfl rfl (zx_pick_miss c1 (zx_pick_miss c2 (zx_pick_hit c3))) rfl ?_
        refine zx_ev_blk zk_184 1 (pc1 := 71) (L1 := [some (.int v0)]) (st1 := [.int 5]) (h1 := (zx_SM, m)) rfl ?_
        obtain rfl := Option.some.inj hf
        exact zx_ev_ret zk_184 rfl rfl
      · rw [if_neg c3] at hf
        by_cases c4 : v0 = 113
        · rw [if_pos c4] at hf
          refine zx_ev_lsw zk_184 rfl rfl (zx_pick_miss c1 (zx_pick_miss c2 (zx_pick_miss c3 (zx_pick_hit c4)))) rfl ?_
          refine zx_ev_blk zk_184 1 (pc1 := 65) (L1 := [some (.int v0)]) (st1 := [.int 2]) (h1 := (zx_SM, m)) rfl ?_
          obtain rfl := Option.some.inj hf
          exact zx_ev_ret zk_184 rfl rfl
        · rw [if_neg c4] at hf
          by_cases c5 : v0 = 115
          · rw [if_pos c5] at hf
            refine zx_ev_lsw zk_184 rfl rfl (zx_pick_miss c1 (zx_pick_miss c2 (zx_pick_miss c3 (zx_pick_miss c4 (zx_pick_hit c5))))) rfl ?_
            refine zx_ev_blk zk_184 1 (pc1 := 63) (L1 := [some (.int v0)]) (st1 := [.int 1]) (h1 := (zx_SM, m)) rfl ?_
            obtain rfl := Option.some.inj hf
            exact zx_ev_ret zk_184 rfl rfl
          · rw [if_neg c5] at hf
            by_cases c6 : v0 = 119
            · rw [if_pos c6] at hf
              refine zx_ev_lsw zk_184 rfl rfl (zx_pick_miss c1 (zx_pick_miss c2 (zx_pick_miss c3 (zx_pick_miss c4 (zx_pick_miss c5 (zx_pick_hit c6)))))) rfl ?_
              refine zx_ev_blk zk_184 1 (pc1 := 61) (L1 := [some (.int v0)]) (st1 := [.int 0]) (h1 := (zx_SM, m)) rfl ?_
              obtain rfl := Option.some.inj hf
              exact zx_ev_ret zk_184 rfl rfl
            · rw [if_neg c6] at hf
              refine zx_ev_lsw zk_184 rfl rfl (zx_pick_miss c1 (zx_pick_miss c2 (zx_pick_miss c3 (zx_pick_miss c4 (zx_pick_miss c5 (zx_pick_miss c6 rfl)))))) rfl ?_
              refine zx_ev_blk zk_184 1 (pc1 := 73) (L1 := [some (.int v0)]) (st1 := [.int (-1)]) (h1 := (zx_SM, m)) rfl ?_
              obtain rfl := Option.some.inj hf
              exact zx_ev_ret zk_184 rfl rfl
def n_M_one_n104 (g : GT_both_compared_either_one_produ_m) (v1 : Int32) (v2 : Int32) (m : zx_M) : Option (Int32 × zx_M) := zx_let (zx_u1 m 0 15 ((m.1 0 15) - 1)) fun m13 => if ¬ v1 = 40 then if ¬ v1 = 45 then if ¬ v2 = 0 then some (0, m13) else some (1, m13) else some (-v2, m13) else some (v2, m13)
theorem e_M_one_n104 (g : GT_both_compared_either_one_produ_m) (v1 : Int32) (v2 : Int32) (m : zx_M) {d : Nat} (hg : GH_both_compared_either_one_produ_m (d + 1) g) {y : (Int32 × zx_M)} (hf : n_M_one_n104 g v1 v2 m = some y) : zx_Ev (d + 2) 185 104 [some (.ref 0), some (.int v1), some (.int v2), none, none] [] (zx_SM, m) (some (.int y.1), (zx_SM, y.2)) := by
  unfold n_M_one_n104 at hf
  obtain ⟨m13, hm13, hf⟩ := zx_let_eq hf
  refine zx_ev_blk zk_185 8 (pc1 := 117) (L1 := [some (.ref 0), some (.int v1), some (.int v2), none, none]) (st1 := [.int 40, .int v1]) (h1 := (zx_SM, m13)) (by subst hm13; rfl) ?_
  by_cases c14 : ¬ v1 = 40
  · rw [if_pos c14] at hf
    refine zx_ev_ift zk_185 (P := ¬ v1 = 40) (t := 124) (f := 120) rfl rfl c14 ?_
    refine zx_ev_blk zk_185 2 (pc1 := 127) (L1 := [some (.ref 0), some (.int v1), some (.int v2), none, none]) (st1 := [.int 45, .int v1]) (h1 := (zx_SM, m13)) rfl ?_
    by_cases c15 : ¬ v1 = 45
    · rw [if_pos c15] at hf
      refine zx_ev_ift zk_185 (P := ¬ v1 = 45) (t := 135) (f := 130) rfl rfl c15 ?_
      refine zx_ev_blk zk_185 1 (pc1 := 136) (L1 := [some (.ref 0), some (.int v1), some (.int v2), none, none]) (st1 := [.int v2]) (h1 := (zx_SM, m13)) rfl ?_
      by_cases c16 : ¬ v2 = 0
      · rw [if_pos c16] at hf
        refine zx_ev_ift zk_185 (P := ¬ v2 = 0) (t := 143) (f := 139) rfl rfl c16 ?_
        refine zx_ev_blk zk_185 1 (pc1 := 144) (L1 := [some (.ref 0), some (.int v1), some (.int v2), none, none]) (st1 := [.int 0]) (h1 := (zx_SM, m13)) rfl ?_
        obtain rfl := Option.some.inj hf
        exact zx_ev_ret zk_185 rfl rfl
      · rw [if_neg c16] at hf
        refine zx_ev_ifn zk_185 (P := ¬ v2 = 0) (t := 143) (f := 139) rfl rfl c16 ?_
        refine zx_ev_blk zk_185 2 (pc1 := 144) (L1 := [some (.ref 0), some (.int v1), some (.int v2), none, none]) (st1 := [.int 1]) (h1 := (zx_SM, m13)) rfl ?_
        obtain rfl := Option.some.inj hf
        exact zx_ev_ret zk_185 rfl rfl
    · rw [if_neg c15] at hf
      refine zx_ev_ifn zk_185 (P := ¬ v1 = 45) (t := 135) (f := 130) rfl rfl c15 ?_
      refine zx_ev_blk zk_185 3 (pc1 := 144) (L1 := [some (.ref 0), some (.int v1), some (.int v2), none, none]) (st1 := [.int (-v2)]) (h1 := (zx_SM, m13)) rfl ?_
      obtain rfl := Option.some.inj hf
      exact zx_ev_ret zk_185 rfl rfl
  · rw [if_neg c14] at hf
    refine zx_ev_ifn zk_185 (P := ¬ v1 = 40) (t := 124) (f := 120) rfl rfl c14 ?_
    refine zx_ev_blk zk_185 2 (pc1 := 144) (L1 := [some (.ref 0), some (.int v1), some (.int v2), none, none]) (st1 := [.int v2]) (h1 := (zx_SM, m13)) rfl ?_
    obtain rfl := Option.some.inj hf
    exact zx_ev_ret zk_185 rfl rfl
def n_M_one_n83 (g : GT_both_compared_either_one_produ_m) (v1 : Int32) (t0 : Int32) (m : zx_M) : Option (Int32 × zx_M) := if ¬ v1 = 40 then n_M_one_n104 g v1 t0 m else (f_M_takes 41 m).bind fun (r18, m19) => if ¬ r18 = 0 then n_M_one_n104 g v1 t0 m19 else (f_M_wrong m19).bind fun (r22, m23) => some (r22, m23)
theorem e_M_one_n83 (g : GT_both_compared_either_one_produ_m) (v1 : Int32) (t0 : Int32) (m : zx_M) {d : Nat} (hg : GH_both_compared_either_one_produ_m (d + 1) g) {y : (Int32 × zx_M)} (hf : n_M_one_n83 g v1 t0 m = some y) : zx_Ev (d + 2) 185 83 [some (.ref 0), some (.int v1), none, none, none] [.int t0] (zx_SM, m) (some (.int y.1), (zx_SM, y.2)) := by
  unfold n_M_one_n83 at hf
  refine zx_ev_blk zk_185 3 (pc1 := 87) (L1 := [some (.ref 0), some (.int v1), some (.int t0), none, none]) (st1 := [.int 40, .int v1]) (h1 := (zx_SM, m)) rfl ?_
  by_cases c12 : ¬ v1 = 40
  · rw [if_pos c12] at hf
    refine zx_ev_ift zk_185 (P := ¬ v1 = 40) (t := 104) (f := 90) rfl rfl c12 ?_
    exact zx_ev_sub (L := [some (.ref 0), some (.int v1), some (.int t0), none, none]) (⟨rfl, ⟨rfl, ⟨rfl, trivial⟩⟩⟩) (e_M_one_n104 g v1 t0 m hg hf)
  · rw [if_neg c12] at hf
    refine zx_ev_ifn zk_185 (P := ¬ v1 = 40) (t := 104) (f := 90) rfl rfl c12 ?_
    refine zx_ev_blk zk_185 2 (pc1 := 93) (L1 := [some (.ref 0), some (.int v1), some (.int t0), none, none]) (st1 := [.int 41, .ref 0]) (h1 := (zx_SM, m)) rfl ?_
    obtain ⟨⟨r18, m19⟩, hv17, hf⟩ := zx_bind_eq hf
    dsimp only at hf
    refine zx_ev_call (d := d + 1) zk_185 (v := some (.int r18)) (h1 := (zx_SM, m19)) rfl rfl zt_178 rfl zx_SMn rfl rfl (s_M_takes _ _ (d := d + 0) hv17) ?_
    by_cases c20 : ¬ r18 = 0
    · rw [if_pos c20] at hf
      refine zx_ev_ift zk_185 (P := ¬ r18 = 0) (t := 104) (f := 99) rfl rfl c20 ?_
      exact zx_ev_sub (L := [some (.ref 0), some (.int v1), some (.int t0), none, none]) (⟨rfl, ⟨rfl, ⟨rfl, trivial⟩⟩⟩) (e_M_one_n104 g v1 t0 m19 hg hf)
    · rw [if_neg c20] at hf
      refine zx_ev_ifn zk_185 (P := ¬ r18 = 0) (t := 104) (f := 99) rfl rfl c20 ?_
      refine zx_ev_blk zk_185 1 (pc1 := 100) (L1 := [some (.ref 0), some (.int v1), some (.int t0), none, none]) (st1 := [.ref 0]) (h1 := (zx_SM, m19)) rfl ?_
      obtain ⟨⟨r22, m23⟩, hv21, hf⟩ := zx_bind_eq hf
      dsimp only at hf
      refine zx_ev_call (d := d + 1) zk_185 (v := some (.int r22)) (h1 := (zx_SM, m23)) rfl rfl zt_177 rfl zx_SMn rfl rfl (s_M_wrong _ (d := d + 1) hv21) ?_
      obtain rfl := Option.some.inj hf
      exact zx_ev_ret zk_185 rfl rfl
def n_M_one_n32 (g : GT_both_compared_either_one_produ_m) (v1 : Int32) (m : zx_M) : Option (Int32 × zx_M) := if ¬ (m.1 0 15) = 6 then zx_let (zx_u1 m 0 15 ((m.1 0 15) + 1)) fun m6 => zx_let (zx_u1 m6 0 12 ((m6.1 0 12) + 1)) fun m7 => if ¬ v1 = 40 then (g.2.2.2.2.2 m7).bind fun (r10, m11) => n_M_one_n83 g v1 r10 m11 else (g.1 m7).bind fun (r25, m26) => n_M_one_n83 g v1 r25 m26 else (f_M_wrong m).bind fun (r28, m29) => some (r28, m29)
theorem e_M_one_n32 (g : GT_both_compared_either_one_produ_m) (v1 : Int32) (m : zx_M) {d : Nat} (hg : GH_both_compared_either_one_produ_m (d + 1) g) {y : (Int32 × zx_M)} (hf : n_M_one_n32 g v1 m = some y) : zx_Ev (d + 2) 185 32 [some (.ref 0), some (.int v1), none, none, none] [] (zx_SM, m) (some (.int y.1), (zx_SM, y.2)) := by
  unfold n_M_one_n32 at hf
  refine zx_ev_blk zk_185 3 (pc1 := 38) (L1 := [some (.ref 0), some (.int v1), none, none, none]) (st1 := [.int 6, .int (m.1 0 15)]) (h1 := (zx_SM, m)) rfl ?_
  by_cases c5 : ¬ (m.1 0 15) = 6
  · rw [if_pos c5] at hf
    refine zx_ev_ift zk_185 (P := ¬ (m.1 0 15) = 6) (t := 46) (f := 41) rfl rfl c5 ?_
    obtain ⟨m6, hm6, hf⟩ := zx_let_eq hf
    obtain ⟨m7, hm7, hf⟩ := zx_let_eq hf
    refine zx_ev_blk zk_185 14 (pc1 := 69) (L1 := [some (.ref 0), some (.int v1), none, none, none]) (st1 := [.int 40, .int v1]) (h1 := (zx_SM, m7)) (by subst hm6; subst hm7; rfl) ?_
    by_cases c8 : ¬ v1 = 40
    · rw [if_pos c8] at hf
      refine zx_ev_ift zk_185 (P := ¬ v1 = 40) (t := 79) (f := 72) rfl rfl c8 ?_
      refine zx_ev_blk zk_185 1 (pc1 := 80) (L1 := [some (.ref 0), some (.int v1), none, none, none]) (st1 := [.ref 0]) (h1 := (zx_SM, m7)) rfl ?_
      obtain ⟨⟨r10, m11⟩, hv9, hf⟩ := zx_bind_eq hf
      dsimp only at hf
      refine zx_ev_call (d := d + 1) zk_185 (v := some (.int r10)) (h1 := (zx_SM, m11)) rfl rfl zt_185 rfl zx_SMn rfl rfl (hg.2.2.2.2.2 _ _ hv9) ?_
      exact zx_ev_sub (L := [some (.ref 0), some (.int v1), none, none, none]) (⟨rfl, ⟨rfl, trivial⟩⟩) (e_M_one_n83 g v1 r10 m11 hg hf)
    · rw [if_neg c8] at hf
      refine zx_ev_ifn zk_185 (P := ¬ v1 = 40) (t := 79) (f := 72) rfl rfl c8 ?_
      refine zx_ev_blk zk_185 1 (pc1 := 73) (L1 := [some (.ref 0), some (.int v1), none, none, none]) (st1 := [.ref 0]) (h1 := (zx_SM, m7)) rfl ?_
      obtain ⟨⟨r25, m26⟩, hv24, hf⟩ := zx_bind_eq hf
      dsimp only at hf
      refine zx_ev_call (d := d + 1) zk_185 (v := some (.int r25)) (h1 := (zx_SM, m26)) rfl rfl zt_179 rfl zx_SMn rfl rfl (hg.1 _ _ hv24) ?_
      refine zx_ev_blk zk_185 1 (pc1 := 83) (L1 := [some (.ref 0), some (.int v1), none, none, none]) (st1 := [.int r25]) (h1 := (zx_SM, m26)) rfl ?_
      exact zx_ev_sub (L := [some (.ref 0), some (.int v1), none, none, none]) (⟨rfl, ⟨rfl, trivial⟩⟩) (e_M_one_n83 g v1 r25 m26 hg hf)
  · rw [if_neg c5] at hf
    refine zx_ev_ifn zk_185 (P := ¬ (m.1 0 15) = 6) (t := 46) (f := 41) rfl rfl c5 ?_
    refine zx_ev_blk zk_185 1 (pc1 := 42) (L1 := [some (.ref 0), some (.int v1), none, none, none]) (st1 := [.ref 0]) (h1 := (zx_SM, m)) rfl ?_
    obtain ⟨⟨r28, m29⟩, hv27, hf⟩ := zx_bind_eq hf
    dsimp only at hf
    refine zx_ev_call (d := d + 1) zk_185 (v := some (.int r28)) (h1 := (zx_SM, m29)) rfl rfl zt_177 rfl zx_SMn rfl rfl (s_M_wrong _ (d := d + 1) hv27) ?_
    obtain rfl := Option.some.inj hf
    exact zx_ev_ret zk_185 rfl rfl
def kx_M_one_l176 (d : Nat) (out : Option Value × zx_H) : Int32 × Int32 × zx_M → Prop
  | (x3, x4, m) => zx_Ev (d + 2) 185 229 [some (.ref 0), none, none, some (.int x3), some (.int x4)] [] (zx_SM, m) out
def kl_M_one_l176 (d : Nat) (out : Option Value × zx_H) : (Int32 × Int32 × zx_M) ⊕ (Int32 × Int32 × zx_M) → Prop
  | .inl (v3, v4, m) => zx_Ev (d + 2) 185 176 [some (.ref 0), none, none, some (.int v3), some (.int v4)] [] (zx_SM, m) out
  | .inr x => kx_M_one_l176 d out x
def b_M_one_l176 (g : GT_both_compared_either_one_produ_m) (v3 : Int32) (v4 : Int32) (m : zx_M) : Option ((Int32 × Int32 × zx_M) ⊕ (Int32 × Int32 × zx_M)) := if 4 ≤ v4 then some (.inr (v3, v4, m)) else (f_M_byteAt m).bind fun r37 => if r37 < 48 then some (.inr (v3, v4, m)) else (f_M_byteAt m).bind fun r40 => if 57 < r40 then some (.inr (v3, v4, m)) else (f_M_byteAt m).bind fun r43 => zx_let (((10 * v3) + r43) - 48) fun a44 => zx_let (v4 + 1) fun a45 => zx_let (zx_u1 m 0 12 ((m.1 0 12) + 1)) fun m46 => some (.inl (a44, a45, m46))
theorem eb_M_one_l176 (g : GT_both_compared_either_one_produ_m) (v3 : Int32) (v4 : Int32) (m : zx_M) {d : Nat} (hg : GH_both_compared_either_one_produ_m (d + 1) g) {out : Option Value × zx_H} {y : (Int32 × Int32 × zx_M) ⊕ (Int32 × Int32 × zx_M)} (hf : b_M_one_l176 g v3 v4 m = some y) (hK : kl_M_one_l176 d out y) : zx_Ev (d + 2) 185 176 [some (.ref 0), none, none, some (.int v3), some (.int v4)] [] (zx_SM, m) out := by
  unfold b_M_one_l176 at hf
  refine zx_ev_blk zk_185 2 (pc1 := 179) (L1 := [some (.ref 0), none, none, some (.int v3), some (.int v4)]) (st1 := [.int 4, .int v4]) (h1 := (zx_SM, m)) rfl ?_
  by_cases c35 : 4 ≤ v4
  · rw [if_pos c35] at hf
    refine zx_ev_ift zk_185 (P := 4 ≤ v4) (t := 229) (f := 182) rfl rfl c35 ?_
    obtain rfl := Option.some.inj hf
    exact zx_ev_sub (L := [some (.ref 0), none, none, some (.int v3), some (.int v4)]) (⟨rfl, ⟨rfl, ⟨rfl, trivial⟩⟩⟩) hK
  · rw [if_neg c35] at hf
    refine zx_ev_ifn zk_185 (P := 4 ≤ v4) (t := 229) (f := 182) rfl rfl c35 ?_
    refine zx_ev_blk zk_185 1 (pc1 := 183) (L1 := [some (.ref 0), none, none, some (.int v3), some (.int v4)]) (st1 := [.ref 0]) (h1 := (zx_SM, m)) rfl ?_
    obtain ⟨r37, hv36, hf⟩ := zx_bind_eq hf
    refine zx_ev_call (d := d + 1) zk_185 (v := some (.int r37)) (h1 := (zx_SM, m)) rfl rfl zt_176 rfl zx_SMn rfl rfl (s_M_byteAt _ (d := d + 1) hv36) ?_
    refine zx_ev_blk zk_185 1 (pc1 := 188) (L1 := [some (.ref 0), none, none, some (.int v3), some (.int v4)]) (st1 := [.int 48, .int r37]) (h1 := (zx_SM, m)) rfl ?_
    by_cases c38 : r37 < 48
    · rw [if_pos c38] at hf
      refine zx_ev_ift zk_185 (P := r37 < 48) (t := 229) (f := 191) rfl rfl c38 ?_
      obtain rfl := Option.some.inj hf
      exact zx_ev_sub (L := [some (.ref 0), none, none, some (.int v3), some (.int v4)]) (⟨rfl, ⟨rfl, ⟨rfl, trivial⟩⟩⟩) hK
    · rw [if_neg c38] at hf
      refine zx_ev_ifn zk_185 (P := r37 < 48) (t := 229) (f := 191) rfl rfl c38 ?_
      refine zx_ev_blk zk_185 1 (pc1 := 192) (L1 := [some (.ref 0), none, none, some (.int v3), some (.int v4)]) (st1 := [.ref 0]) (h1 := (zx_SM, m)) rfl ?_
      obtain ⟨r40, hv39, hf⟩ := zx_bind_eq hf
      refine zx_ev_call (d := d + 1) zk_185 (v := some (.int r40)) (h1 := (zx_SM, m)) rfl rfl zt_176 rfl zx_SMn rfl rfl (s_M_byteAt _ (d := d + 1) hv39) ?_
      refine zx_ev_blk zk_185 1 (pc1 := 197) (L1 := [some (.ref 0), none, none, some (.int v3), some (.int v4)]) (st1 := [.int 57, .int r40]) (h1 := (zx_SM, m)) rfl ?_
      by_cases c41 : 57 < r40
      · rw [if_pos c41] at hf
        refine zx_ev_ift zk_185 (P := 57 < r40) (t := 229) (f := 200) rfl rfl c41 ?_
        obtain rfl := Option.some.inj hf
        exact zx_ev_sub (L := [some (.ref 0), none, none, some (.int v3), some (.int v4)]) (⟨rfl, ⟨rfl, ⟨rfl, trivial⟩⟩⟩) hK
      · rw [if_neg c41] at hf
        refine zx_ev_ifn zk_185 (P := 57 < r40) (t := 229) (f := 200) rfl rfl c41 ?_
        refine zx_ev_blk zk_185 4 (pc1 := 205) (L1 := [some (.ref 0), none, none, some (.int v3), some (.int v4)]) (st1 := [.ref 0, .int (10 * v3)]) (h1 := (zx_SM, m)) rfl ?_
        obtain ⟨r43, hv42, hf⟩ := zx_bind_eq hf
        refine zx_ev_call (d := d + 1) zk_185 (v := some (.int r43)) (h1 := (zx_SM, m)) rfl rfl zt_176 rfl zx_SMn rfl rfl (s_M_byteAt _ (d := d + 1) hv42) ?_
        obtain ⟨a44, ha44, hf⟩ := zx_let_eq hf
        obtain ⟨a45, ha45, hf⟩ := zx_let_eq hf
        obtain ⟨m46, hm46, hf⟩ := zx_let_eq hf
        refine zx_ev_blk zk_185 12 (pc1 := 176) (L1 := [some (.ref 0), none, none, some (.int a44), some (.int a45)]) (st1 := []) (h1 := (zx_SM, m46)) (by subst ha44; subst ha45; subst hm46; rfl) ?_
        obtain rfl := Option.some.inj hf
        exact zx_ev_sub (L := [some (.ref 0), none, none, some (.int a44), some (.int a45)]) (⟨rfl, ⟨rfl, ⟨rfl, trivial⟩⟩⟩) hK
def l_M_one_l176 (g : GT_both_compared_either_one_produ_m) (s0 : Int32 × Int32 × zx_M) : Option (Int32 × Int32 × zx_M) := zx_lp zx_N (fun s : Int32 × Int32 × zx_M => b_M_one_l176 g s.1 s.2.1 s.2.2) s0
theorem el_M_one_l176 (g : GT_both_compared_either_one_produ_m) {d : Nat} (hg : GH_both_compared_either_one_produ_m (d + 1) g) {out : Option Value × zx_H} : ∀ (n : Nat) (s : Int32 × Int32 × zx_M) (x : Int32 × Int32 × zx_M), zx_lp n (fun s : Int32 × Int32 × zx_M => b_M_one_l176 g s.1 s.2.1 s.2.2) s = some x → kx_M_one_l176 d out x → zx_Ev (d + 2) 185 176 [some (.ref 0), none, none, some (.int s.1), some (.int s.2.1)] [] (zx_SM, s.2.2) out := by
  intro n
  induction n with
  | zero => intro s x hl _; simp [zx_lp] at hl
  | succ n ih =>
    intro s x hl hx
    unfold zx_lp at hl
    cases hb : b_M_one_l176 g s.1 s.2.1 s.2.2 with
    | none => simp only [hb] at hl; cases hl
    | some z =>
      simp only [hb] at hl
      cases z with
      | inl s1 => exact eb_M_one_l176 g s.1 s.2.1 s.2.2 hg hb (ih s1 x hl hx)
      | inr t =>
        simp only [Option.some.injEq] at hl
        subst hl
        exact eb_M_one_l176 g s.1 s.2.1 s.2.2 hg hb hx
def n_M_one_n229 (g : GT_both_compared_either_one_produ_m) (v3 : Int32) (v4 : Int32) (m : zx_M) : Option (Int32 × zx_M) := if ¬ v4 = 0 then some (v3, m) else (f_M_wrong m).bind fun (r53, m54) => some (r53, m54)
theorem e_M_one_n229 (g : GT_both_compared_either_one_produ_m) (v3 : Int32) (v4 : Int32) (m : zx_M) {d : Nat} (hg : GH_both_compared_either_one_produ_m (d + 1) g) {y : (Int32 × zx_M)} (hf : n_M_one_n229 g v3 v4 m = some y) : zx_Ev (d + 2) 185 229 [some (.ref 0), none, none, some (.int v3), some (.int v4)] [] (zx_SM, m) (some (.int y.1), (zx_SM, y.2)) := by
  unfold n_M_one_n229 at hf
  refine zx_ev_blk zk_185 1 (pc1 := 231) (L1 := [some (.ref 0), none, none, some (.int v3), some (.int v4)]) (st1 := [.int v4]) (h1 := (zx_SM, m)) rfl ?_
  by_cases c51 : ¬ v4 = 0
  · rw [if_pos c51] at hf
    refine zx_ev_ift zk_185 (P := ¬ v4 = 0) (t := 241) (f := 234) rfl rfl c51 ?_
    refine zx_ev_blk zk_185 1 (pc1 := 242) (L1 := [some (.ref 0), none, none, some (.int v3), some (.int v4)]) (st1 := [.int v3]) (h1 := (zx_SM, m)) rfl ?_
    obtain rfl := Option.some.inj hf
    exact zx_ev_ret zk_185 rfl rfl
  · rw [if_neg c51] at hf
    refine zx_ev_ifn zk_185 (P := ¬ v4 = 0) (t := 241) (f := 234) rfl rfl c51 ?_
    refine zx_ev_blk zk_185 1 (pc1 := 235) (L1 := [some (.ref 0), none, none, some (.int v3), some (.int v4)]) (st1 := [.ref 0]) (h1 := (zx_SM, m)) rfl ?_
    obtain ⟨⟨r53, m54⟩, hv52, hf⟩ := zx_bind_eq hf
    dsimp only at hf
    refine zx_ev_call (d := d + 1) zk_185 (v := some (.int r53)) (h1 := (zx_SM, m54)) rfl rfl zt_177 rfl zx_SMn rfl rfl (s_M_wrong _ (d := d + 1) hv52) ?_
    refine zx_ev_blk zk_185 1 (pc1 := 242) (L1 := [some (.ref 0), none, none, some (.int v3), some (.int v4)]) (st1 := [.int r53]) (h1 := (zx_SM, m54)) rfl ?_
    obtain rfl := Option.some.inj hf
    exact zx_ev_ret zk_185 rfl rfl
def F_M_one (g : GT_both_compared_either_one_produ_m) (m : zx_M) : Option (Int32 × zx_M) := if (m.1 0 14) < 0 then (f_M_byteAt m).bind fun r3 => if r3 = 33 then n_M_one_n32 g r3 m else if r3 = 45 then n_M_one_n32 g r3 m else if ¬ r3 = 40 then (f_M_nameOf r3 m).bind fun r33 => if r33 < 0 then (l_M_one_l176 g (0, 0, m)).bind fun x47 => match x47 with | (w48, w49, m50) => n_M_one_n229 g w48 w49 m50 else zx_let (zx_u1 m 0 12 ((m.1 0 12) + 1)) fun m55 => (zx_ix 6 r33).bind fun j56 => some (m55.1 7 j56, m55) else n_M_one_n32 g r3 m else some (0, m)
theorem s_M_one (g : GT_both_compared_either_one_produ_m) (m : zx_M) {d : Nat} (hg : GH_both_compared_either_one_produ_m (d + 1) g) {y : (Int32 × zx_M)} (hf : F_M_one g m = some y) : zx_Ev (d + 2) 185 0 [some (.ref 0), none, none, none, none] [] (zx_SM, m) (some (.int y.1), (zx_SM, y.2)) := by
  unfold F_M_one at hf
  refine zx_ev_blk zk_185 2 (pc1 := 4) (L1 := [some (.ref 0), none, none, none, none]) (st1 := [.int (m.1 0 14)]) (h1 := (zx_SM, m)) rfl ?_
  by_cases c1 : (m.1 0 14) < 0
  · rw [if_pos c1] at hf
    refine zx_ev_ift zk_185 (P := (m.1 0 14) < 0) (t := 9) (f := 7) rfl rfl c1 ?_
    refine zx_ev_blk zk_185 1 (pc1 := 10) (L1 := [some (.ref 0), none, none, none, none]) (st1 := [.ref 0]) (h1 := (zx_SM, m)) rfl ?_
    obtain ⟨r3, hv2, hf⟩ := zx_bind_eq hf
    refine zx_ev_call (d := d + 1) zk_185 (v := some (.int r3)) (h1 := (zx_SM, m)) rfl rfl zt_176 rfl zx_SMn rfl rfl (s_M_byteAt _ (d := d + 1) hv2) ?_
    refine zx_ev_blk zk_185 3 (pc1 := 17) (L1 := [some (.ref 0), some (.int r3), none, none, none]) (st1 := [.int 33, .int r3]) (h1 := (zx_SM, m)) rfl ?_
    by_cases c4 : r3 = 33
    · rw [if_pos c4] at hf
      refine zx_ev_ift zk_185 (P := r3 = 33) (t := 32) (f := 20) rfl rfl c4 ?_
      exact zx_ev_sub (L := [some (.ref 0), some (.int r3), none, none, none]) (⟨rfl, ⟨rfl, trivial⟩⟩) (e_M_one_n32 g r3 m hg hf)
    · rw [if_neg c4] at hf
      refine zx_ev_ifn zk_185 (P := r3 = 33) (t := 32) (f := 20) rfl rfl c4 ?_
      refine zx_ev_blk zk_185 2 (pc1 := 23) (L1 := [some (.ref 0), some (.int r3), none, none, none]) (st1 := [.int 45, .int r3]) (h1 := (zx_SM, m)) rfl ?_
      by_cases c30 : r3 = 45
      · rw [if_pos c30] at hf
        refine zx_ev_ift zk_185 (P := r3 = 45) (t := 32) (f := 26) rfl rfl c30 ?_
        exact zx_ev_sub (L := [some (.ref 0), some (.int r3), none, none, none]) (⟨rfl, ⟨rfl, trivial⟩⟩) (e_M_one_n32 g r3 m hg hf)
      · rw [if_neg c30] at hf
        refine zx_ev_ifn zk_185 (P := r3 = 45) (t := 32) (f := 26) rfl rfl c30 ?_
        refine zx_ev_blk zk_185 2 (pc1 := 29) (L1 := [some (.ref 0), some (.int r3), none, none, none]) (st1 := [.int 40, .int r3]) (h1 := (zx_SM, m)) rfl ?_
        by_cases c31 : ¬ r3 = 40
        · rw [if_pos c31] at hf
          refine zx_ev_ift zk_185 (P := ¬ r3 = 40) (t := 145) (f := 32) rfl rfl c31 ?_
          refine zx_ev_blk zk_185 1 (pc1 := 146) (L1 := [some (.ref 0), some (.int r3), none, none, none]) (st1 := [.int r3]) (h1 := (zx_SM, m)) rfl ?_
          obtain ⟨r33, hv32, hf⟩ := zx_bind_eq hf
          refine zx_ev_call (d := d + 1) zk_185 (v := some (.int r33)) (h1 := (zx_SM, m)) rfl rfl zt_184 rfl zx_SMn rfl rfl (s_M_nameOf _ _ (d := d + 1) hv32) ?_
          refine zx_ev_blk zk_185 2 (pc1 := 151) (L1 := [some (.ref 0), some (.int r3), some (.int r33), none, none]) (st1 := [.int r33]) (h1 := (zx_SM, m)) rfl ?_
          by_cases c34 : r33 < 0
          · rw [if_pos c34] at hf
            refine zx_ev_ift zk_185 (P := r33 < 0) (t := 171) (f := 154) rfl rfl c34 ?_
            refine zx_ev_blk zk_185 4 (pc1 := 176) (L1 := [some (.ref 0), some (.int r3), some (.int r33), some (.int 0), some (.int 0)]) (st1 := []) (h1 := (zx_SM, m)) rfl ?_
            obtain ⟨x47, hx47, hf⟩ := zx_bind_eq hf
            refine zx_ev_sub (L := [some (.ref 0), none, none, some (.int 0), some (.int 0)]) (⟨rfl, ⟨trivial, ⟨trivial, ⟨rfl, ⟨rfl, trivial⟩⟩⟩⟩⟩) (el_M_one_l176 g hg zx_N (0, 0, m) x47 hx47 ?_)
            obtain ⟨w48, w49, m50⟩ := x47
            dsimp only at hf
            show zx_Ev (d + 2) 185 229 [some (.ref 0), none, none, some (.int w48), some (.int w49)] [] (zx_SM, m50) _
            exact zx_ev_sub (L := [some (.ref 0), none, none, some (.int w48), some (.int w49)]) (⟨rfl, ⟨rfl, ⟨rfl, trivial⟩⟩⟩) (e_M_one_n229 g w48 w49 m50 hg hf)
          · rw [if_neg c34] at hf
            refine zx_ev_ifn zk_185 (P := r33 < 0) (t := 171) (f := 154) rfl rfl c34 ?_
            obtain ⟨m55, hm55, hf⟩ := zx_let_eq hf
            refine zx_ev_blk zk_185 9 (pc1 := 169) (L1 := [some (.ref 0), some (.int r3), some (.int r33), none, none]) (st1 := [.int r33, .ref 7]) (h1 := (zx_SM, m55)) (by subst hm55; rfl) ?_
            obtain ⟨j56, hj56, hf⟩ := zx_bind_eq hf
            refine zx_ev_step zk_185 rfl (st_iald rfl rfl hj56) ?_
            obtain rfl := Option.some.inj hf
            exact zx_ev_ret zk_185 rfl rfl
        · rw [if_neg c31] at hf
          refine zx_ev_ifn zk_185 (P := ¬ r3 = 40) (t := 145) (f := 32) rfl rfl c31 ?_
          exact zx_ev_sub (L := [some (.ref 0), some (.int r3), none, none, none]) (⟨rfl, ⟨rfl, trivial⟩⟩) (e_M_one_n32 g r3 m hg hf)
  · rw [if_neg c1] at hf
    refine zx_ev_ifn zk_185 (P := (m.1 0 14) < 0) (t := 9) (f := 7) rfl rfl c1 ?_
    refine zx_ev_blk zk_185 1 (pc1 := 8) (L1 := [some (.ref 0), none, none, none, none]) (st1 := [.int 0]) (h1 := (zx_SM, m)) rfl ?_
    obtain rfl := Option.some.inj hf
    exact zx_ev_ret zk_185 rfl rfl
def g_both_compared_either_one_produ_m : Nat → GT_both_compared_either_one_produ_m
  | 0 => ((fun _ => none), (fun _ => none), (fun _ => none), (fun _ => none), (fun _ => none), (fun _ => none))
  | j + 1 => ((fun m => F_M_either (g_both_compared_either_one_produ_m j) m), (fun m => F_M_both (g_both_compared_either_one_produ_m j) m), (fun m => F_M_compared (g_both_compared_either_one_produ_m j) m), (fun m => F_M_sums (g_both_compared_either_one_produ_m j) m), (fun m => F_M_product (g_both_compared_either_one_produ_m j) m), (fun m => F_M_one (g_both_compared_either_one_produ_m j) m))
theorem eg_both_compared_either_one_produ_m : ∀ (j d : Nat), GH_both_compared_either_one_produ_m (d + 1 + j) (g_both_compared_either_one_produ_m j) := by
  intro j
  induction j with
  | zero => intro d; exact ⟨(fun  _ _ h => by simp [g_both_compared_either_one_produ_m] at h), (fun  _ _ h => by simp [g_both_compared_either_one_produ_m] at h), (fun  _ _ h => by simp [g_both_compared_either_one_produ_m] at h), (fun  _ _ h => by simp [g_both_compared_either_one_produ_m] at h), (fun  _ _ h => by simp [g_both_compared_either_one_produ_m] at h), (fun  _ _ h => by simp [g_both_compared_either_one_produ_m] at h)⟩
  | succ j ih =>
    intro d
    have ih : ∀ d : Nat, GH_both_compared_either_one_produ_m (d + j + 1) (g_both_compared_either_one_produ_m j) := fun d => by rw [show d + j + 1 = d + 1 + j by omega]; exact ih d
    show GH_both_compared_either_one_produ_m (d + 1 + j + 1) (g_both_compared_either_one_produ_m (j + 1))
    rw [show d + 1 + j + 1 = d + j + 2 by omega]
    exact ⟨(fun  _ _ h => s_M_either _  _ (d := d + j) (ih d) h), (fun  _ _ h => s_M_both _  _ (d := d + j) (ih d) h), (fun  _ _ h => s_M_compared _  _ (d := d + j) (ih d) h), (fun  _ _ h => s_M_sums _  _ (d := d + j) (ih d) h), (fun  _ _ h => s_M_product _  _ (d := d + j) (ih d) h), (fun  _ _ h => s_M_one _  _ (d := d + j) (ih d) h)⟩
def kx_M_workOut_l33 (d : Nat) (out : Option Value × zx_H) : Int32 × zx_M → Prop
  | (x4, m) => zx_Ev (d + 66) 186 107 [some (.ref 0), none, none, none, some (.int x4), none, none, none] [] (zx_SM, m) out
def kl_M_workOut_l33 (d : Nat) (out : Option Value × zx_H) : (Int32 × Int32 × Int32 × zx_M) ⊕ (Int32 × zx_M) → Prop
  | .inl (v3, v4, v5, m) => zx_Ev (d + 66) 186 33 [some (.ref 0), none, none, some (.int v3), some (.int v4), some (.int v5), none, none] [] (zx_SM, m) out
  | .inr x => kx_M_workOut_l33 d out x
def n_M_workOut_b33_96 (v3 : Int32) (v4 : Int32) (m : zx_M) : Option ((Int32 × Int32 × Int32 × zx_M) ⊕ (Int32 × zx_M)) := (f_M_takes 59 m).bind fun (r16, m17) => some (.inl (v3, v4, r16, m17))
theorem e_M_workOut_b33_96 (v3 : Int32) (v4 : Int32) (m : zx_M) {d : Nat} {out : Option Value × zx_H} {y : (Int32 × Int32 × Int32 × zx_M) ⊕ (Int32 × zx_M)} (hf : n_M_workOut_b33_96 v3 v4 m = some y) (hK : kl_M_workOut_l33 d out y) : zx_Ev (d + 66) 186 96 [some (.ref 0), none, none, some (.int v3), some (.int v4), none, none, none] [] (zx_SM, m) out := by
  unfold n_M_workOut_b33_96 at hf
  refine zx_ev_blk zk_186 2 (pc1 := 99) (L1 := [some (.ref 0), none, none, some (.int v3), some (.int v4), none, none, none]) (st1 := [.int 59, .ref 0]) (h1 := (zx_SM, m)) rfl ?_
  obtain ⟨⟨r16, m17⟩, hv15, hf⟩ := zx_bind_eq hf
  dsimp only at hf
  refine zx_ev_call (d := d + 65) zk_186 (v := some (.int r16)) (h1 := (zx_SM, m17)) rfl rfl zt_178 rfl zx_SMn rfl rfl (s_M_takes _ _ (d := d + 64) hv15) ?_
  refine zx_ev_blk zk_186 2 (pc1 := 33) (L1 := [some (.ref 0), none, none, some (.int v3), some (.int v4), some (.int r16), none, none]) (st1 := []) (h1 := (zx_SM, m17)) rfl ?_
  obtain rfl := Option.some.inj hf
  exact zx_ev_sub (L := [some (.ref 0), none, none, some (.int v3), some (.int v4), some (.int r16), none, none]) (⟨rfl, ⟨rfl, ⟨rfl, ⟨rfl, trivial⟩⟩⟩⟩) hK
def n_M_workOut_b33_74 (v3 : Int32) (v4 : Int32) (v6 : Int32) (v7 : Int32) (m : zx_M) : Option ((Int32 × Int32 × Int32 × zx_M) ⊕ (Int32 × zx_M)) := if 0 ≤ (m.1 0 14) then n_M_workOut_b33_96 v3 v4 m else if v7 = 0 then n_M_workOut_b33_96 v3 v4 m else if ¬ v3 = 0 then n_M_workOut_b33_96 v3 v4 m else n_M_workOut_b33_96 1 v6 m
theorem e_M_workOut_b33_74 (v3 : Int32) (v4 : Int32) (v6 : Int32) (v7 : Int32) (m : zx_M) {d : Nat} {out : Option Value × zx_H} {y : (Int32 × Int32 × Int32 × zx_M) ⊕ (Int32 × zx_M)} (hf : n_M_workOut_b33_74 v3 v4 v6 v7 m = some y) (hK : kl_M_workOut_l33 d out y) : zx_Ev (d + 66) 186 74 [some (.ref 0), none, none, some (.int v3), some (.int v4), none, some (.int v6), some (.int v7)] [] (zx_SM, m) out := by
  unfold n_M_workOut_b33_74 at hf
  refine zx_ev_blk zk_186 2 (pc1 := 78) (L1 := [some (.ref 0), none, none, some (.int v3), some (.int v4), none, some (.int v6), some (.int v7)]) (st1 := [.int (m.1 0 14)]) (h1 := (zx_SM, m)) rfl ?_
  by_cases c14 : 0 ≤ (m.1 0 14)
  · rw [if_pos c14] at hf
    refine zx_ev_ift zk_186 (P := 0 ≤ (m.1 0 14)) (t := 96) (f := 81) rfl rfl c14 ?_
    exact zx_ev_sub (L := [some (.ref 0), none, none, some (.int v3), some (.int v4), none, none, none]) (⟨rfl, ⟨rfl, ⟨rfl, ⟨trivial, ⟨trivial, trivial⟩⟩⟩⟩⟩) (e_M_workOut_b33_96 v3 v4 m hf hK)
  · rw [if_neg c14] at hf
    refine zx_ev_ifn zk_186 (P := 0 ≤ (m.1 0 14)) (t := 96) (f := 81) rfl rfl c14 ?_
    refine zx_ev_blk zk_186 1 (pc1 := 83) (L1 := [some (.ref 0), none, none, some (.int v3), some (.int v4), none, some (.int v6), some (.int v7)]) (st1 := [.int v7]) (h1 := (zx_SM, m)) rfl ?_
    by_cases c18 : v7 = 0
    · rw [if_pos c18] at hf
      refine zx_ev_ift zk_186 (P := v7 = 0) (t := 96) (f := 86) rfl rfl c18 ?_
      exact zx_ev_sub (L := [some (.ref 0), none, none, some (.int v3), some (.int v4), none, none, none]) (⟨rfl, ⟨rfl, ⟨rfl, ⟨trivial, ⟨trivial, trivial⟩⟩⟩⟩⟩) (e_M_workOut_b33_96 v3 v4 m hf hK)
    · rw [if_neg c18] at hf
      refine zx_ev_ifn zk_186 (P := v7 = 0) (t := 96) (f := 86) rfl rfl c18 ?_
      refine zx_ev_blk zk_186 1 (pc1 := 87) (L1 := [some (.ref 0), none, none, some (.int v3), some (.int v4), none, some (.int v6), some (.int v7)]) (st1 := [.int v3]) (h1 := (zx_SM, m)) rfl ?_
      by_cases c19 : ¬ v3 = 0
      · rw [if_pos c19] at hf
        refine zx_ev_ift zk_186 (P := ¬ v3 = 0) (t := 96) (f := 90) rfl rfl c19 ?_
        exact zx_ev_sub (L := [some (.ref 0), none, none, some (.int v3), some (.int v4), none, none, none]) (⟨rfl, ⟨rfl, ⟨rfl, ⟨trivial, ⟨trivial, trivial⟩⟩⟩⟩⟩) (e_M_workOut_b33_96 v3 v4 m hf hK)
      · rw [if_neg c19] at hf
        refine zx_ev_ifn zk_186 (P := ¬ v3 = 0) (t := 96) (f := 90) rfl rfl c19 ?_
        refine zx_ev_blk zk_186 4 (pc1 := 96) (L1 := [some (.ref 0), none, none, some (.int 1), some (.int v6), none, some (.int v6), some (.int v7)]) (st1 := []) (h1 := (zx_SM, m)) rfl ?_
        exact zx_ev_sub (L := [some (.ref 0), none, none, some (.int 1), some (.int v6), none, none, none]) (⟨rfl, ⟨rfl, ⟨rfl, ⟨trivial, ⟨trivial, trivial⟩⟩⟩⟩⟩) (e_M_workOut_b33_96 1 v6 m hf hK)
def n_M_workOut_b33_66 (v3 : Int32) (v4 : Int32) (t0 : Int32) (m : zx_M) : Option ((Int32 × Int32 × Int32 × zx_M) ⊕ (Int32 × zx_M)) := ((g_both_compared_either_one_produ_m 64).1 m).bind fun (r22, m23) => n_M_workOut_b33_74 v3 v4 r22 t0 m23
theorem e_M_workOut_b33_66 (v3 : Int32) (v4 : Int32) (t0 : Int32) (m : zx_M) {d : Nat} {out : Option Value × zx_H} {y : (Int32 × Int32 × Int32 × zx_M) ⊕ (Int32 × zx_M)} (hf : n_M_workOut_b33_66 v3 v4 t0 m = some y) (hK : kl_M_workOut_l33 d out y) : zx_Ev (d + 66) 186 66 [some (.ref 0), none, none, some (.int v3), some (.int v4), none, none, none] [.int t0] (zx_SM, m) out := by
  unfold n_M_workOut_b33_66 at hf
  refine zx_ev_blk zk_186 2 (pc1 := 69) (L1 := [some (.ref 0), none, none, some (.int v3), some (.int v4), none, none, some (.int t0)]) (st1 := [.ref 0]) (h1 := (zx_SM, m)) rfl ?_
  obtain ⟨⟨r22, m23⟩, hv21, hf⟩ := zx_bind_eq hf
  dsimp only at hf
  refine zx_ev_call (d := d + 65) zk_186 (v := some (.int r22)) (h1 := (zx_SM, m23)) rfl rfl zt_179 rfl zx_SMn rfl rfl ((eg_both_compared_either_one_produ_m 64 (d + 0)).1 _ _ hv21) ?_
  refine zx_ev_blk zk_186 1 (pc1 := 74) (L1 := [some (.ref 0), none, none, some (.int v3), some (.int v4), none, some (.int r22), some (.int t0)]) (st1 := []) (h1 := (zx_SM, m23)) rfl ?_
  exact zx_ev_sub (L := [some (.ref 0), none, none, some (.int v3), some (.int v4), none, some (.int r22), some (.int t0)]) (⟨rfl, ⟨rfl, ⟨rfl, ⟨rfl, ⟨rfl, trivial⟩⟩⟩⟩⟩) (e_M_workOut_b33_74 v3 v4 r22 t0 m23 hf hK)
def b_M_workOut_l33 (v3 : Int32) (v4 : Int32) (v5 : Int32) (m : zx_M) : Option ((Int32 × Int32 × Int32 × zx_M) ⊕ (Int32 × zx_M)) := if v5 = 0 then some (.inr (v4, m)) else ((g_both_compared_either_one_produ_m 64).1 m).bind fun (r8, m9) => (f_M_takes 63 m9).bind fun (r11, m12) => if r11 = 0 then n_M_workOut_b33_74 v3 v4 r8 1 m12 else if r8 = 0 then n_M_workOut_b33_66 v3 v4 0 m12 else n_M_workOut_b33_66 v3 v4 1 m12
theorem eb_M_workOut_l33 (v3 : Int32) (v4 : Int32) (v5 : Int32) (m : zx_M) {d : Nat} {out : Option Value × zx_H} {y : (Int32 × Int32 × Int32 × zx_M) ⊕ (Int32 × zx_M)} (hf : b_M_workOut_l33 v3 v4 v5 m = some y) (hK : kl_M_workOut_l33 d out y) : zx_Ev (d + 66) 186 33 [some (.ref 0), none, none, some (.int v3), some (.int v4), some (.int v5), none, none] [] (zx_SM, m) out := by
  unfold b_M_workOut_l33 at hf
  refine zx_ev_blk zk_186 1 (pc1 := 35) (L1 := [some (.ref 0), none, none, some (.int v3), some (.int v4), some (.int v5), none, none]) (st1 := [.int v5]) (h1 := (zx_SM, m)) rfl ?_
  by_cases c6 : v5 = 0
  · rw [if_pos c6] at hf
    refine zx_ev_ift zk_186 (P := v5 = 0) (t := 107) (f := 38) rfl rfl c6 ?_
    obtain rfl := Option.some.inj hf
    exact zx_ev_sub (L := [some (.ref 0), none, none, none, some (.int v4), none, none, none]) (⟨rfl, ⟨trivial, ⟨rfl, ⟨trivial, trivial⟩⟩⟩⟩) hK
  · rw [if_neg c6] at hf
    refine zx_ev_ifn zk_186 (P := v5 = 0) (t := 107) (f := 38) rfl rfl c6 ?_
    refine zx_ev_blk zk_186 1 (pc1 := 39) (L1 := [some (.ref 0), none, none, some (.int v3), some (.int v4), some (.int v5), none, none]) (st1 := [.ref 0]) (h1 := (zx_SM, m)) rfl ?_
    obtain ⟨⟨r8, m9⟩, hv7, hf⟩ := zx_bind_eq hf
    dsimp only at hf
    refine zx_ev_call (d := d + 65) zk_186 (v := some (.int r8)) (h1 := (zx_SM, m9)) rfl rfl zt_179 rfl zx_SMn rfl rfl ((eg_both_compared_either_one_produ_m 64 (d + 0)).1 _ _ hv7) ?_
    refine zx_ev_blk zk_186 5 (pc1 := 50) (L1 := [some (.ref 0), none, none, some (.int v3), some (.int v4), some (.int v5), some (.int r8), some (.int 1)]) (st1 := [.int 63, .ref 0]) (h1 := (zx_SM, m9)) rfl ?_
    obtain ⟨⟨r11, m12⟩, hv10, hf⟩ := zx_bind_eq hf
    dsimp only at hf
    refine zx_ev_call (d := d + 65) zk_186 (v := some (.int r11)) (h1 := (zx_SM, m12)) rfl rfl zt_178 rfl zx_SMn rfl rfl (s_M_takes _ _ (d := d + 64) hv10) ?_
    by_cases c13 : r11 = 0
    · rw [if_pos c13] at hf
      refine zx_ev_ift zk_186 (P := r11 = 0) (t := 74) (f := 56) rfl rfl c13 ?_
      exact zx_ev_sub (L := [some (.ref 0), none, none, some (.int v3), some (.int v4), none, some (.int r8), some (.int 1)]) (⟨rfl, ⟨rfl, ⟨rfl, ⟨trivial, ⟨rfl, ⟨rfl, trivial⟩⟩⟩⟩⟩⟩) (e_M_workOut_b33_74 v3 v4 r8 1 m12 hf hK)
    · rw [if_neg c13] at hf
      refine zx_ev_ifn zk_186 (P := r11 = 0) (t := 74) (f := 56) rfl rfl c13 ?_
      refine zx_ev_blk zk_186 1 (pc1 := 58) (L1 := [some (.ref 0), none, none, some (.int v3), some (.int v4), some (.int v5), some (.int r8), some (.int 1)]) (st1 := [.int r8]) (h1 := (zx_SM, m12)) rfl ?_
      by_cases c20 : r8 = 0
      · rw [if_pos c20] at hf
        refine zx_ev_ift zk_186 (P := r8 = 0) (t := 65) (f := 61) rfl rfl c20 ?_
        refine zx_ev_blk zk_186 1 (pc1 := 66) (L1 := [some (.ref 0), none, none, some (.int v3), some (.int v4), some (.int v5), some (.int r8), some (.int 1)]) (st1 := [.int 0]) (h1 := (zx_SM, m12)) rfl ?_
        exact zx_ev_sub (L := [some (.ref 0), none, none, some (.int v3), some (.int v4), none, none, none]) (⟨rfl, ⟨rfl, ⟨rfl, ⟨trivial, ⟨trivial, ⟨trivial, trivial⟩⟩⟩⟩⟩⟩) (e_M_workOut_b33_66 v3 v4 0 m12 hf hK)
      · rw [if_neg c20] at hf
        refine zx_ev_ifn zk_186 (P := r8 = 0) (t := 65) (f := 61) rfl rfl c20 ?_
        refine zx_ev_blk zk_186 2 (pc1 := 66) (L1 := [some (.ref 0), none, none, some (.int v3), some (.int v4), some (.int v5), some (.int r8), some (.int 1)]) (st1 := [.int 1]) (h1 := (zx_SM, m12)) rfl ?_
        exact zx_ev_sub (L := [some (.ref 0), none, none, some (.int v3), some (.int v4), none, none, none]) (⟨rfl, ⟨rfl, ⟨rfl, ⟨trivial, ⟨trivial, ⟨trivial, trivial⟩⟩⟩⟩⟩⟩) (e_M_workOut_b33_66 v3 v4 1 m12 hf hK)
def l_M_workOut_l33 (s0 : Int32 × Int32 × Int32 × zx_M) : Option (Int32 × zx_M) := zx_lp zx_N (fun s : Int32 × Int32 × Int32 × zx_M => b_M_workOut_l33 s.1 s.2.1 s.2.2.1 s.2.2.2) s0
theorem el_M_workOut_l33 {d : Nat} {out : Option Value × zx_H} : ∀ (n : Nat) (s : Int32 × Int32 × Int32 × zx_M) (x : Int32 × zx_M), zx_lp n (fun s : Int32 × Int32 × Int32 × zx_M => b_M_workOut_l33 s.1 s.2.1 s.2.2.1 s.2.2.2) s = some x → kx_M_workOut_l33 d out x → zx_Ev (d + 66) 186 33 [some (.ref 0), none, none, some (.int s.1), some (.int s.2.1), some (.int s.2.2.1), none, none] [] (zx_SM, s.2.2.2) out := by
  intro n
  induction n with
  | zero => intro s x hl _; simp [zx_lp] at hl
  | succ n ih =>
    intro s x hl hx
    unfold zx_lp at hl
    cases hb : b_M_workOut_l33 s.1 s.2.1 s.2.2.1 s.2.2.2 with
    | none => simp only [hb] at hl; cases hl
    | some z =>
      simp only [hb] at hl
      cases z with
      | inl s1 => exact eb_M_workOut_l33 s.1 s.2.1 s.2.2.1 s.2.2.2 hb (ih s1 x hl hx)
      | inr t =>
        simp only [Option.some.injEq] at hl
        subst hl
        exact eb_M_workOut_l33 s.1 s.2.1 s.2.2.1 s.2.2.2 hb hx
def f_M_workOut (v1 : Int32) (v2 : Int32) (m : zx_M) : Option (Int32 × zx_M) := zx_let (zx_u1 m 0 11 v1) fun m1 => zx_let (zx_u1 m1 0 12 0) fun m2 => zx_let (zx_u1 m2 0 13 v2) fun m3 => zx_let (zx_u1 m3 0 14 (-1)) fun m4 => zx_let (zx_u1 m4 0 15 0) fun m5 => (l_M_workOut_l33 (0, 0, 1, m5)).bind fun x24 => match x24 with | (w25, m26) => if 0 ≤ (m26.1 0 14) then some (w25, m26) else if (m26.1 0 13) ≤ (m26.1 0 12) then some (w25, m26) else (f_M_wrong m26).bind fun (r30, m31) => some (r30, m31)
theorem s_M_workOut (v1 : Int32) (v2 : Int32) (m : zx_M) {d : Nat} {y : (Int32 × zx_M)} (hf : f_M_workOut v1 v2 m = some y) : zx_Ev (d + 66) 186 0 [some (.ref 0), some (.int v1), some (.int v2), none, none, none, none, none] [] (zx_SM, m) (some (.int y.1), (zx_SM, y.2)) := by
  unfold f_M_workOut at hf
  obtain ⟨m1, hm1, hf⟩ := zx_let_eq hf
  obtain ⟨m2, hm2, hf⟩ := zx_let_eq hf
  obtain ⟨m3, hm3, hf⟩ := zx_let_eq hf
  obtain ⟨m4, hm4, hf⟩ := zx_let_eq hf
  obtain ⟨m5, hm5, hf⟩ := zx_let_eq hf
  refine zx_ev_blk zk_186 21 (pc1 := 33) (L1 := [some (.ref 0), some (.int v1), some (.int v2), some (.int 0), some (.int 0), some (.int 1), none, none]) (st1 := []) (h1 := (zx_SM, m5)) (by subst hm1; subst hm2; subst hm3; subst hm4; subst hm5; rfl) ?_
  obtain ⟨x24, hx24, hf⟩ := zx_bind_eq hf
  refine zx_ev_sub (L := [some (.ref 0), none, none, some (.int 0), some (.int 0), some (.int 1), none, none]) (⟨rfl, ⟨trivial, ⟨trivial, ⟨rfl, ⟨rfl, ⟨rfl, trivial⟩⟩⟩⟩⟩⟩) (el_M_workOut_l33 zx_N (0, 0, 1, m5) x24 hx24 ?_)
  obtain ⟨w25, m26⟩ := x24
  dsimp only at hf
  show zx_Ev (d + 66) 186 107 [some (.ref 0), none, none, none, some (.int w25), none, none, none] [] (zx_SM, m26) _
  refine zx_ev_blk zk_186 2 (pc1 := 111) (L1 := [some (.ref 0), none, none, none, some (.int w25), none, none, none]) (st1 := [.int (m26.1 0 14)]) (h1 := (zx_SM, m26)) rfl ?_
  by_cases c27 : 0 ≤ (m26.1 0 14)
  · rw [if_pos c27] at hf
    refine zx_ev_ift zk_186 (P := 0 ≤ (m26.1 0 14)) (t := 130) (f := 114) rfl rfl c27 ?_
    refine zx_ev_blk zk_186 1 (pc1 := 132) (L1 := [some (.ref 0), none, none, none, some (.int w25), none, none, none]) (st1 := [.int w25]) (h1 := (zx_SM, m26)) rfl ?_
    obtain rfl := Option.some.inj hf
    exact zx_ev_ret zk_186 rfl rfl
  · rw [if_neg c27] at hf
    refine zx_ev_ifn zk_186 (P := 0 ≤ (m26.1 0 14)) (t := 130) (f := 114) rfl rfl c27 ?_
    refine zx_ev_blk zk_186 4 (pc1 := 122) (L1 := [some (.ref 0), none, none, none, some (.int w25), none, none, none]) (st1 := [.int (m26.1 0 13), .int (m26.1 0 12)]) (h1 := (zx_SM, m26)) rfl ?_
    by_cases c28 : (m26.1 0 13) ≤ (m26.1 0 12)
    · rw [if_pos c28] at hf
      refine zx_ev_ift zk_186 (P := (m26.1 0 13) ≤ (m26.1 0 12)) (t := 130) (f := 125) rfl rfl c28 ?_
      refine zx_ev_blk zk_186 1 (pc1 := 132) (L1 := [some (.ref 0), none, none, none, some (.int w25), none, none, none]) (st1 := [.int w25]) (h1 := (zx_SM, m26)) rfl ?_
      obtain rfl := Option.some.inj hf
      exact zx_ev_ret zk_186 rfl rfl
    · rw [if_neg c28] at hf
      refine zx_ev_ifn zk_186 (P := (m26.1 0 13) ≤ (m26.1 0 12)) (t := 130) (f := 125) rfl rfl c28 ?_
      refine zx_ev_blk zk_186 1 (pc1 := 126) (L1 := [some (.ref 0), none, none, none, some (.int w25), none, none, none]) (st1 := [.ref 0]) (h1 := (zx_SM, m26)) rfl ?_
      obtain ⟨⟨r30, m31⟩, hv29, hf⟩ := zx_bind_eq hf
      dsimp only at hf
      refine zx_ev_call (d := d + 65) zk_186 (v := some (.int r30)) (h1 := (zx_SM, m31)) rfl rfl zt_177 rfl zx_SMn rfl rfl (s_M_wrong _ (d := d + 65) hv29) ?_
      obtain rfl := Option.some.inj hf
      exact zx_ev_ret zk_186 rfl rfl
def n_M_carriedBy_n159 (v5 : Int32) (m : zx_M) : Option (Int32 × zx_M) := if (-500) ≤ v5 then if v5 ≤ 500 then some (v5, m) else some (500, m) else some ((-500), m)
theorem e_M_carriedBy_n159 (v5 : Int32) (m : zx_M) {d : Nat} {y : (Int32 × zx_M)} (hf : n_M_carriedBy_n159 v5 m = some y) : zx_Ev (d + 67) 188 159 [some (.ref 0), none, none, none, none, some (.int v5)] [] (zx_SM, m) (some (.int y.1), (zx_SM, y.2)) := by
  unfold n_M_carriedBy_n159 at hf
  refine zx_ev_blk zk_188 2 (pc1 := 164) (L1 := [some (.ref 0), none, none, none, none, some (.int v5)]) (st1 := [.int (-500), .int v5]) (h1 := (zx_SM, m)) rfl ?_
  by_cases c14 : (-500) ≤ v5
  · rw [if_pos c14] at hf
    refine zx_ev_ift zk_188 (P := (-500) ≤ v5) (t := 173) (f := 167) rfl rfl c14 ?_
    refine zx_ev_blk zk_188 2 (pc1 := 178) (L1 := [some (.ref 0), none, none, none, none, some (.int v5)]) (st1 := [.int 500, .int v5]) (h1 := (zx_SM, m)) rfl ?_
    by_cases c15 : v5 ≤ 500
    · rw [if_pos c15] at hf
      refine zx_ev_ift zk_188 (P := v5 ≤ 500) (t := 187) (f := 181) rfl rfl c15 ?_
      refine zx_ev_blk zk_188 1 (pc1 := 189) (L1 := [some (.ref 0), none, none, none, none, some (.int v5)]) (st1 := [.int v5]) (h1 := (zx_SM, m)) rfl ?_
      obtain rfl := Option.some.inj hf
      exact zx_ev_ret zk_188 rfl rfl
    · rw [if_neg c15] at hf
      refine zx_ev_ifn zk_188 (P := v5 ≤ 500) (t := 187) (f := 181) rfl rfl c15 ?_
      refine zx_ev_blk zk_188 2 (pc1 := 189) (L1 := [some (.ref 0), none, none, none, none, some (.int v5)]) (st1 := [.int 500]) (h1 := (zx_SM, m)) rfl ?_
      obtain rfl := Option.some.inj hf
      exact zx_ev_ret zk_188 rfl rfl
  · rw [if_neg c14] at hf
    refine zx_ev_ifn zk_188 (P := (-500) ≤ v5) (t := 173) (f := 167) rfl rfl c14 ?_
    refine zx_ev_blk zk_188 2 (pc1 := 189) (L1 := [some (.ref 0), none, none, none, none, some (.int v5)]) (st1 := [.int (-500)]) (h1 := (zx_SM, m)) rfl ?_
    obtain rfl := Option.some.inj hf
    exact zx_ev_ret zk_188 rfl rfl
def n_M_carriedBy_n75 (v1 : Int32) (v2 : Int32) (v3 : Int32) (t0 : Int32) (t1 : Int32) (m : zx_M) : Option (Int32 × zx_M) := zx_let (t0 + t1) fun a12 => if (m.1 0 10) < 0 then n_M_carriedBy_n159 a12 m else (f_M_ofJumper v1 0 m).bind fun r17 => (zx_ix 6 0).bind fun j18 => zx_let (zx_u1 m 7 j18 r17) fun m19 => (f_M_ofJumper v1 1 m19).bind fun r21 => (zx_ix 6 1).bind fun j22 => zx_let (zx_u1 m19 7 j22 r21) fun m23 => (f_M_ofJumper v1 2 m23).bind fun r25 => (zx_ix 6 2).bind fun j26 => zx_let (zx_u1 m23 7 j26 r25) fun m27 => (zx_ix 36 32).bind fun j28 => (zx_ix 6 3).bind fun j29 => zx_let (zx_u1 m27 7 j29 (m27.1 1 j28)) fun m30 => (zx_ix 6 4).bind fun j31 => zx_let (zx_u1 m30 7 j31 v2) fun m32 => (zx_ix 6 5).bind fun j33 => zx_let (zx_u1 m32 7 j33 v3) fun m34 => (f_M_workOut 0 (m34.1 0 10) m34).bind fun (r36, m37) => n_M_carriedBy_n159 r36 m37
theorem e_M_carriedBy_n75 (v1 : Int32) (v2 : Int32) (v3 : Int32) (t0 : Int32) (t1 : Int32) (m : zx_M) {d : Nat} {y : (Int32 × zx_M)} (hf : n_M_carriedBy_n75 v1 v2 v3 t0 t1 m = some y) : zx_Ev (d + 67) 188 75 [some (.ref 0), some (.int v1), some (.int v2), some (.int v3), none, none] [.int t1, .int t0] (zx_SM, m) (some (.int y.1), (zx_SM, y.2)) := by
  unfold n_M_carriedBy_n75 at hf
  obtain ⟨a12, ha12, hf⟩ := zx_let_eq hf
  refine zx_ev_blk zk_188 4 (pc1 := 82) (L1 := [some (.ref 0), some (.int v1), some (.int v2), some (.int v3), none, some (.int a12)]) (st1 := [.int (m.1 0 10)]) (h1 := (zx_SM, m)) (by subst ha12; rfl) ?_
  by_cases c13 : (m.1 0 10) < 0
  · rw [if_pos c13] at hf
    refine zx_ev_ift zk_188 (P := (m.1 0 10) < 0) (t := 159) (f := 85) rfl rfl c13 ?_
    exact zx_ev_sub (L := [some (.ref 0), none, none, none, none, some (.int a12)]) (⟨rfl, ⟨trivial, ⟨trivial, ⟨trivial, ⟨rfl, trivial⟩⟩⟩⟩⟩) (e_M_carriedBy_n159 a12 m hf)
  · rw [if_neg c13] at hf
    refine zx_ev_ifn zk_188 (P := (m.1 0 10) < 0) (t := 159) (f := 85) rfl rfl c13 ?_
    refine zx_ev_blk zk_188 6 (pc1 := 93) (L1 := [some (.ref 0), some (.int v1), some (.int v2), some (.int v3), none, some (.int a12)]) (st1 := [.int 0, .int v1, .ref 0, .int 0, .ref 7]) (h1 := (zx_SM, m)) rfl ?_
    obtain ⟨r17, hv16, hf⟩ := zx_bind_eq hf
    refine zx_ev_call (d := d + 66) zk_188 (v := some (.int r17)) (h1 := (zx_SM, m)) rfl rfl zt_165 rfl zx_SMn rfl rfl (s_M_ofJumper _ _ _ (d := d + 66) hv16) ?_
    obtain ⟨j18, hj18, hf⟩ := zx_bind_eq hf
    refine zx_ev_step zk_188 rfl (st_iast rfl hj18) ?_
    obtain ⟨m19, hm19, hf⟩ := zx_let_eq hf
    rw [hm19]
    refine zx_ev_blk zk_188 6 (pc1 := 105) (L1 := [some (.ref 0), some (.int v1), some (.int v2), some (.int v3), none, some (.int a12)]) (st1 := [.int 1, .int v1, .ref 0, .int 1, .ref 7]) (h1 := (zx_SM, m19)) rfl ?_
    obtain ⟨r21, hv20, hf⟩ := zx_bind_eq hf
    refine zx_ev_call (d := d + 66) zk_188 (v := some (.int r21)) (h1 := (zx_SM, m19)) rfl rfl zt_165 rfl zx_SMn rfl rfl (s_M_ofJumper _ _ _ (d := d + 66) hv20) ?_
    obtain ⟨j22, hj22, hf⟩ := zx_bind_eq hf
    refine zx_ev_step zk_188 rfl (st_iast rfl hj22) ?_
    obtain ⟨m23, hm23, hf⟩ := zx_let_eq hf
    rw [hm23]
    refine zx_ev_blk zk_188 6 (pc1 := 117) (L1 := [some (.ref 0), some (.int v1), some (.int v2), some (.int v3), none, some (.int a12)]) (st1 := [.int 2, .int v1, .ref 0, .int 2, .ref 7]) (h1 := (zx_SM, m23)) rfl ?_
    obtain ⟨r25, hv24, hf⟩ := zx_bind_eq hf
    refine zx_ev_call (d := d + 66) zk_188 (v := some (.int r25)) (h1 := (zx_SM, m23)) rfl rfl zt_165 rfl zx_SMn rfl rfl (s_M_ofJumper _ _ _ (d := d + 66) hv24) ?_
    obtain ⟨j26, hj26, hf⟩ := zx_bind_eq hf
    refine zx_ev_step zk_188 rfl (st_iast rfl hj26) ?_
    obtain ⟨m27, hm27, hf⟩ := zx_let_eq hf
    rw [hm27]
    refine zx_ev_blk zk_188 6 (pc1 := 132) (L1 := [some (.ref 0), some (.int v1), some (.int v2), some (.int v3), none, some (.int a12)]) (st1 := [.int 32, .ref 1, .int 3, .ref 7]) (h1 := (zx_SM, m27)) rfl ?_
    obtain ⟨j28, hj28, hf⟩ := zx_bind_eq hf
    refine zx_ev_step zk_188 rfl (st_iald rfl rfl hj28) ?_
    obtain ⟨j29, hj29, hf⟩ := zx_bind_eq hf
    refine zx_ev_step zk_188 rfl (st_iast rfl hj29) ?_
    obtain ⟨m30, hm30, hf⟩ := zx_let_eq hf
    rw [hm30]
    refine zx_ev_blk zk_188 4 (pc1 := 140) (L1 := [some (.ref 0), some (.int v1), some (.int v2), some (.int v3), none, some (.int a12)]) (st1 := [.int v2, .int 4, .ref 7]) (h1 := (zx_SM, m30)) rfl ?_
    obtain ⟨j31, hj31, hf⟩ := zx_bind_eq hf
    refine zx_ev_step zk_188 rfl (st_iast rfl hj31) ?_
    obtain ⟨m32, hm32, hf⟩ := zx_let_eq hf
    rw [hm32]
    refine zx_ev_blk zk_188 4 (pc1 := 147) (L1 := [some (.ref 0), some (.int v1), some (.int v2), some (.int v3), none, some (.int a12)]) (st1 := [.int v3, .int 5, .ref 7]) (h1 := (zx_SM, m32)) rfl ?_
    obtain ⟨j33, hj33, hf⟩ := zx_bind_eq hf
    refine zx_ev_step zk_188 rfl (st_iast rfl hj33) ?_
    obtain ⟨m34, hm34, hf⟩ := zx_let_eq hf
    rw [hm34]
    refine zx_ev_blk zk_188 4 (pc1 := 154) (L1 := [some (.ref 0), some (.int v1), some (.int v2), some (.int v3), none, some (.int a12)]) (st1 := [.int (m34.1 0 10), .int 0, .ref 0]) (h1 := (zx_SM, m34)) rfl ?_
    obtain ⟨⟨r36, m37⟩, hv35, hf⟩ := zx_bind_eq hf
    dsimp only at hf
    refine zx_ev_call (d := d + 66) zk_188 (v := some (.int r36)) (h1 := (zx_SM, m37)) rfl rfl zt_186 rfl zx_SMn rfl rfl (s_M_workOut _ _ _ (d := d + 0) hv35) ?_
    refine zx_ev_blk zk_188 1 (pc1 := 159) (L1 := [some (.ref 0), some (.int v1), some (.int v2), some (.int v3), none, some (.int r36)]) (st1 := []) (h1 := (zx_SM, m37)) rfl ?_
    exact zx_ev_sub (L := [some (.ref 0), none, none, none, none, some (.int r36)]) (⟨rfl, ⟨trivial, ⟨trivial, ⟨trivial, ⟨rfl, trivial⟩⟩⟩⟩⟩) (e_M_carriedBy_n159 r36 m37 hf)
def n_M_carriedBy_n41 (v1 : Int32) (v2 : Int32) (v3 : Int32) (t0 : Int32) (m : zx_M) : Option (Int32 × zx_M) := (zx_ix 36 32).bind fun j8 => (f_M_ofJumper v1 0 m).bind fun r10 => if v2 ≤ 0 then n_M_carriedBy_n75 v1 v2 v3 ((v3 * ((m.1 1 j8) + v2)) - (v3 * r10)) t0 m else n_M_carriedBy_n75 v1 v2 v3 ((v3 * ((m.1 1 j8) + v2)) - (v3 * r10)) (-t0) m
theorem e_M_carriedBy_n41 (v1 : Int32) (v2 : Int32) (v3 : Int32) (t0 : Int32) (m : zx_M) {d : Nat} {y : (Int32 × zx_M)} (hf : n_M_carriedBy_n41 v1 v2 v3 t0 m = some y) : zx_Ev (d + 67) 188 41 [some (.ref 0), some (.int v1), some (.int v2), some (.int v3), none, none] [.int t0] (zx_SM, m) (some (.int y.1), (zx_SM, y.2)) := by
  unfold n_M_carriedBy_n41 at hf
  refine zx_ev_blk zk_188 5 (pc1 := 50) (L1 := [some (.ref 0), some (.int v1), some (.int v2), some (.int v3), some (.int t0), none]) (st1 := [.int 32, .ref 1, .int v3]) (h1 := (zx_SM, m)) rfl ?_
  obtain ⟨j8, hj8, hf⟩ := zx_bind_eq hf
  refine zx_ev_step zk_188 rfl (st_iald rfl rfl hj8) ?_
  refine zx_ev_blk zk_188 7 (pc1 := 58) (L1 := [some (.ref 0), some (.int v1), some (.int v2), some (.int v3), some (.int t0), none]) (st1 := [.int 0, .int v1, .ref 0, .int v3, .int (v3 * ((m.1 1 j8) + v2))]) (h1 := (zx_SM, m)) rfl ?_
  obtain ⟨r10, hv9, hf⟩ := zx_bind_eq hf
  refine zx_ev_call (d := d + 66) zk_188 (v := some (.int r10)) (h1 := (zx_SM, m)) rfl rfl zt_165 rfl zx_SMn rfl rfl (s_M_ofJumper _ _ _ (d := d + 66) hv9) ?_
  refine zx_ev_blk zk_188 3 (pc1 := 64) (L1 := [some (.ref 0), some (.int v1), some (.int v2), some (.int v3), some (.int t0), none]) (st1 := [.int v2, .int ((v3 * ((m.1 1 j8) + v2)) - (v3 * r10))]) (h1 := (zx_SM, m)) rfl ?_
  by_cases c11 : v2 ≤ 0
  · rw [if_pos c11] at hf
    refine zx_ev_ift zk_188 (P := v2 ≤ 0) (t := 73) (f := 67) rfl rfl c11 ?_
    refine zx_ev_blk zk_188 1 (pc1 := 75) (L1 := [some (.ref 0), some (.int v1), some (.int v2), some (.int v3), some (.int t0), none]) (st1 := [.int t0, .int ((v3 * ((m.1 1 j8) + v2)) - (v3 * r10))]) (h1 := (zx_SM, m)) rfl ?_
    exact zx_ev_sub (L := [some (.ref 0), some (.int v1), some (.int v2), some (.int v3), none, none]) (⟨rfl, ⟨rfl, ⟨rfl, ⟨rfl, ⟨trivial, trivial⟩⟩⟩⟩⟩) (e_M_carriedBy_n75 v1 v2 v3 ((v3 * ((m.1 1 j8) + v2)) - (v3 * r10)) t0 m hf)
  · rw [if_neg c11] at hf
    refine zx_ev_ifn zk_188 (P := v2 ≤ 0) (t := 73) (f := 67) rfl rfl c11 ?_
    refine zx_ev_blk zk_188 3 (pc1 := 75) (L1 := [some (.ref 0), some (.int v1), some (.int v2), some (.int v3), some (.int t0), none]) (st1 := [.int (-t0), .int ((v3 * ((m.1 1 j8) + v2)) - (v3 * r10))]) (h1 := (zx_SM, m)) rfl ?_
    exact zx_ev_sub (L := [some (.ref 0), some (.int v1), some (.int v2), some (.int v3), none, none]) (⟨rfl, ⟨rfl, ⟨rfl, ⟨rfl, ⟨trivial, trivial⟩⟩⟩⟩⟩) (e_M_carriedBy_n75 v1 v2 v3 ((v3 * ((m.1 1 j8) + v2)) - (v3 * r10)) (-t0) m hf)
def n_M_carriedBy_n29 (v1 : Int32) (v2 : Int32) (v3 : Int32) (m : zx_M) : Option (Int32 × zx_M) := n_M_carriedBy_n41 v1 v2 v3 0 m
theorem e_M_carriedBy_n29 (v1 : Int32) (v2 : Int32) (v3 : Int32) (m : zx_M) {d : Nat} {y : (Int32 × zx_M)} (hf : n_M_carriedBy_n29 v1 v2 v3 m = some y) : zx_Ev (d + 67) 188 29 [some (.ref 0), some (.int v1), some (.int v2), some (.int v3), none, none] [] (zx_SM, m) (some (.int y.1), (zx_SM, y.2)) := by
  unfold n_M_carriedBy_n29 at hf
  refine zx_ev_blk zk_188 2 (pc1 := 41) (L1 := [some (.ref 0), some (.int v1), some (.int v2), some (.int v3), none, none]) (st1 := [.int 0]) (h1 := (zx_SM, m)) rfl ?_
  exact zx_ev_sub (L := [some (.ref 0), some (.int v1), some (.int v2), some (.int v3), none, none]) (⟨rfl, ⟨rfl, ⟨rfl, ⟨rfl, trivial⟩⟩⟩⟩) (e_M_carriedBy_n41 v1 v2 v3 0 m hf)
def f_M_carriedBy (v1 : Int32) (m : zx_M) : Option (Int32 × zx_M) := (zx_ix 36 33).bind fun j1 => zx_let (m.1 1 j1) fun a2 => (zx_ix 36 34).bind fun j3 => zx_let (m.1 1 j3) fun a4 => (f_M_ofJumper v1 2 m).bind fun r6 => if r6 = 0 then n_M_carriedBy_n29 v1 a2 a4 m else if ¬ a2 = 0 then (f_M_ofJumper v1 1 m).bind fun r40 => n_M_carriedBy_n41 v1 a2 a4 (5 * r40) m else n_M_carriedBy_n29 v1 a2 a4 m
theorem s_M_carriedBy (v1 : Int32) (m : zx_M) {d : Nat} {y : (Int32 × zx_M)} (hf : f_M_carriedBy v1 m = some y) : zx_Ev (d + 67) 188 0 [some (.ref 0), some (.int v1), none, none, none, none] [] (zx_SM, m) (some (.int y.1), (zx_SM, y.2)) := by
  unfold f_M_carriedBy at hf
  refine zx_ev_blk zk_188 3 (pc1 := 6) (L1 := [some (.ref 0), some (.int v1), none, none, none, none]) (st1 := [.int 33, .ref 1]) (h1 := (zx_SM, m)) rfl ?_
  obtain ⟨j1, hj1, hf⟩ := zx_bind_eq hf
  refine zx_ev_step zk_188 rfl (st_iald rfl rfl hj1) ?_
  obtain ⟨a2, ha2, hf⟩ := zx_let_eq hf
  refine zx_ev_blk zk_188 4 (pc1 := 14) (L1 := [some (.ref 0), some (.int v1), some (.int a2), none, none, none]) (st1 := [.int 34, .ref 1]) (h1 := (zx_SM, m)) (by subst ha2; rfl) ?_
  obtain ⟨j3, hj3, hf⟩ := zx_bind_eq hf
  refine zx_ev_step zk_188 rfl (st_iald rfl rfl hj3) ?_
  obtain ⟨a4, ha4, hf⟩ := zx_let_eq hf
  refine zx_ev_blk zk_188 4 (pc1 := 19) (L1 := [some (.ref 0), some (.int v1), some (.int a2), some (.int a4), none, none]) (st1 := [.int 2, .int v1, .ref 0]) (h1 := (zx_SM, m)) (by subst ha4; rfl) ?_
  obtain ⟨r6, hv5, hf⟩ := zx_bind_eq hf
  refine zx_ev_call (d := d + 66) zk_188 (v := some (.int r6)) (h1 := (zx_SM, m)) rfl rfl zt_165 rfl zx_SMn rfl rfl (s_M_ofJumper _ _ _ (d := d + 66) hv5) ?_
  by_cases c7 : r6 = 0
  · rw [if_pos c7] at hf
    refine zx_ev_ift zk_188 (P := r6 = 0) (t := 29) (f := 25) rfl rfl c7 ?_
    exact zx_ev_sub (L := [some (.ref 0), some (.int v1), some (.int a2), some (.int a4), none, none]) (⟨rfl, ⟨rfl, ⟨rfl, ⟨rfl, trivial⟩⟩⟩⟩) (e_M_carriedBy_n29 v1 a2 a4 m hf)
  · rw [if_neg c7] at hf
    refine zx_ev_ifn zk_188 (P := r6 = 0) (t := 29) (f := 25) rfl rfl c7 ?_
    refine zx_ev_blk zk_188 1 (pc1 := 26) (L1 := [some (.ref 0), some (.int v1), some (.int a2), some (.int a4), none, none]) (st1 := [.int a2]) (h1 := (zx_SM, m)) rfl ?_
    by_cases c38 : ¬ a2 = 0
    · rw [if_pos c38] at hf
      refine zx_ev_ift zk_188 (P := ¬ a2 = 0) (t := 33) (f := 29) rfl rfl c38 ?_
      refine zx_ev_blk zk_188 4 (pc1 := 37) (L1 := [some (.ref 0), some (.int v1), some (.int a2), some (.int a4), none, none]) (st1 := [.int 1, .int v1, .ref 0, .int 5]) (h1 := (zx_SM, m)) rfl ?_
      obtain ⟨r40, hv39, hf⟩ := zx_bind_eq hf
      refine zx_ev_call (d := d + 66) zk_188 (v := some (.int r40)) (h1 := (zx_SM, m)) rfl rfl zt_165 rfl zx_SMn rfl rfl (s_M_ofJumper _ _ _ (d := d + 66) hv39) ?_
      refine zx_ev_blk zk_188 1 (pc1 := 41) (L1 := [some (.ref 0), some (.int v1), some (.int a2), some (.int a4), none, none]) (st1 := [.int (5 * r40)]) (h1 := (zx_SM, m)) rfl ?_
      exact zx_ev_sub (L := [some (.ref 0), some (.int v1), some (.int a2), some (.int a4), none, none]) (⟨rfl, ⟨rfl, ⟨rfl, ⟨rfl, trivial⟩⟩⟩⟩) (e_M_carriedBy_n41 v1 a2 a4 (5 * r40) m hf)
    · rw [if_neg c38] at hf
      refine zx_ev_ifn zk_188 (P := ¬ a2 = 0) (t := 33) (f := 29) rfl rfl c38 ?_
      exact zx_ev_sub (L := [some (.ref 0), some (.int v1), some (.int a2), some (.int a4), none, none]) (⟨rfl, ⟨rfl, ⟨rfl, ⟨rfl, trivial⟩⟩⟩⟩) (e_M_carriedBy_n29 v1 a2 a4 m hf)
def f_M_carried (v1 : Int32) (m : zx_M) : Option (Int32 × zx_M) := (f_M_isJumper (Int32.toInt64 v1) m).bind fun r2 => if r2 = 0 then some ((-2000000000), m) else (f_M_carriedBy v1 m).bind fun (r5, m6) => some (r5, m6)
theorem s_M_carried (v1 : Int32) (m : zx_M) {d : Nat} {y : (Int32 × zx_M)} (hf : f_M_carried v1 m = some y) : zx_Ev (d + 68) 189 0 [some (.ref 0), some (.int v1)] [] (zx_SM, m) (some (.int y.1), (zx_SM, y.2)) := by
  unfold f_M_carried at hf
  refine zx_ev_blk zk_189 3 (pc1 := 3) (L1 := [some (.ref 0), some (.int v1)]) (st1 := [.long (Int32.toInt64 v1), .ref 0]) (h1 := (zx_SM, m)) rfl ?_
  obtain ⟨r2, hv1, hf⟩ := zx_bind_eq hf
  refine zx_ev_call (d := d + 67) zk_189 (v := some (.int r2)) (h1 := (zx_SM, m)) rfl rfl zt_164 rfl zx_SMn rfl rfl (s_M_isJumper _ _ (d := d + 66) hv1) ?_
  by_cases c3 : r2 = 0
  · rw [if_pos c3] at hf
    refine zx_ev_ift zk_189 (P := r2 = 0) (t := 17) (f := 9) rfl rfl c3 ?_
    refine zx_ev_blk zk_189 1 (pc1 := 19) (L1 := [some (.ref 0), some (.int v1)]) (st1 := [.int (-2000000000)]) (h1 := (zx_SM, m)) rfl ?_
    obtain rfl := Option.some.inj hf
    exact zx_ev_ret zk_189 rfl rfl
  · rw [if_neg c3] at hf
    refine zx_ev_ifn zk_189 (P := r2 = 0) (t := 17) (f := 9) rfl rfl c3 ?_
    refine zx_ev_blk zk_189 2 (pc1 := 11) (L1 := [some (.ref 0), some (.int v1)]) (st1 := [.int v1, .ref 0]) (h1 := (zx_SM, m)) rfl ?_
    obtain ⟨⟨r5, m6⟩, hv4, hf⟩ := zx_bind_eq hf
    dsimp only at hf
    refine zx_ev_call (d := d + 67) zk_189 (v := some (.int r5)) (h1 := (zx_SM, m6)) rfl rfl zt_188 rfl zx_SMn rfl rfl (s_M_carriedBy _ _ (d := d + 0) hv4) ?_
    refine zx_ev_blk zk_189 1 (pc1 := 19) (L1 := [some (.ref 0), some (.int v1)]) (st1 := [.int r5]) (h1 := (zx_SM, m6)) rfl ?_
    obtain rfl := Option.some.inj hf
    exact zx_ev_ret zk_189 rfl rfl
def f_M_count (v1 : Int32) (m : zx_M) : Option Int32 := if v1 = 0 then some (m.1 0 6) else if v1 = 1 then some (m.1 0 8) else if v1 = 2 then some (m.1 0 5) else if v1 = 3 then some (m.1 0 43) else if v1 = 4 then some (m.1 0 46) else some (-1)
theorem s_M_count (v1 : Int32) (m : zx_M) {d : Nat} {y : Int32} (hf : f_M_count v1 m = some y) : zx_Ev (d) 259 0 [some (.ref 0), some (.int v1)] [] (zx_SM, m) (some (.int y), (zx_SM, m)) := by
  unfold f_M_count at hf
  refine zx_ev_blk zk_259 1 (pc1 := 1) (L1 := [some (.ref 0), some (.int v1)]) (st1 := [.int v1]) (h1 := (zx_SM, m)) rfl ?_
  by_cases c1 : v1 = 0
  · rw [if_pos c1] at hf
    refine zx_ev_tsw zk_259 rfl rfl (zx_pick_hit c1) rfl ?_
    refine zx_ev_blk zk_259 2 (pc1 := 40) (L1 := [some (.ref 0), some (.int v1)]) (st1 := [.int (m.1 0 6)]) (h1 := (zx_SM, m)) rfl ?_
    obtain rfl := Option.some.inj hf
    exact zx_ev_ret zk_259 rfl rfl
  · rw [if_neg c1] at hf
    by_cases c2 : v1 = 1
    · rw [if_pos c2] at hf
      refine zx_ev_tsw zk_259 rfl rfl (zx_pick_miss c1 (zx_pick_hit c2)) rfl ?_
      refine zx_ev_blk zk_259 2 (pc1 := 45) (L1 := [some (.ref 0), some (.int v1)]) (st1 := [.int (m.1 0 8)]) (h1 := (zx_SM, m)) rfl ?_
      obtain rfl := Option.some.inj hf
      exact zx_ev_ret zk_259 rfl rfl
    · rw [if_neg c2] at hf
      by_cases c3 : v1 = 2
      · rw [if_pos c3] at hf
        refine zx_ev_tsw zk_259 rfl rfl (zx_pick_miss c1 (zx_pick_miss c2 (zx_pick_hit c3))) rfl ?_
        refine zx_ev_blk zk_259 2 (pc1 := 50) (L1 := [some (.ref 0), some (.int v1)]) (st1 := [.int (m.1 0 5)]) (h1 := (zx_SM, m)) rfl ?_
        obtain rfl := Option.some.inj hf
        exact zx_ev_ret zk_259 rfl rfl
      · rw [if_neg c3] at hf
        by_cases c4 : v1 = 3
        · rw [if_pos c4] at hf
          refine zx_ev_tsw zk_259 rfl rfl (zx_pick_miss c1 (zx_pick_miss c2 (zx_pick_miss c3 (zx_pick_hit c4)))) rfl ?_
          refine zx_ev_blk zk_259 2 (pc1 := 55) (L1 := [some (.ref 0), some (.int v1)]) (st1 := [.int (m.1 0 43)]) (h1 := (zx_SM, m)) rfl ?_
          obtain rfl := Option.some.inj hf
          exact zx_ev_ret zk_259 rfl rfl
        · rw [if_neg c4] at hf
          by_cases c5 : v1 = 4
          · rw [if_pos c5] at hf
            refine zx_ev_tsw zk_259 rfl rfl (zx_pick_miss c1 (zx_pick_miss c2 (zx_pick_miss c3 (zx_pick_miss c4 (zx_pick_hit c5))))) rfl ?_
            refine zx_ev_blk zk_259 2 (pc1 := 60) (L1 := [some (.ref 0), some (.int v1)]) (st1 := [.int (m.1 0 46)]) (h1 := (zx_SM, m)) rfl ?_
            obtain rfl := Option.some.inj hf
            exact zx_ev_ret zk_259 rfl rfl
          · rw [if_neg c5] at hf
            refine zx_ev_tsw zk_259 rfl rfl (zx_pick_miss c1 (zx_pick_miss c2 (zx_pick_miss c3 (zx_pick_miss c4 (zx_pick_miss c5 rfl))))) rfl ?_
            refine zx_ev_blk zk_259 1 (pc1 := 62) (L1 := [some (.ref 0), some (.int v1)]) (st1 := [.int (-1)]) (h1 := (zx_SM, m)) rfl ?_
            obtain rfl := Option.some.inj hf
            exact zx_ev_ret zk_259 rfl rfl
def f_M_isShelf (v0 : Int32) (m : zx_M) : Option Int32 := (f_M_within (Int32.toInt64 v0) 0 5 m).bind fun r2 => if r2 = 0 ∨ r2 = 1 then some r2 else none
theorem s_M_isShelf (v0 : Int32) (m : zx_M) {d : Nat} {y : Int32} (hf : f_M_isShelf v0 m = some y) : zx_Ev (d + 1) 250 0 [some (.int v0)] [] (zx_SM, m) (some (.int y), (zx_SM, m)) := by
  unfold f_M_isShelf at hf
  refine zx_ev_blk zk_250 4 (pc1 := 6) (L1 := [some (.int v0)]) (st1 := [.long 5, .long 0, .long (Int32.toInt64 v0)]) (h1 := (zx_SM, m)) rfl ?_
  obtain ⟨r2, hv1, hf⟩ := zx_bind_eq hf
  refine zx_ev_call (d := d + 0) zk_250 (v := some (.int r2)) (h1 := (zx_SM, m)) rfl rfl zt_157 rfl zx_SMn rfl rfl (s_M_within _ _ _ _ (d := d + 0) hv1) ?_
  by_cases c3 : r2 = 0 ∨ r2 = 1
  · rw [if_pos c3] at hf
    obtain rfl := Option.some.inj hf
    exact zx_ev_ret zk_250 rfl (zx_ret_z c3)
  · rw [if_neg c3] at hf; cases hf
def f_M_rowIs (v1 : Int32) (v2 : Int32) (m : zx_M) : Option Int32 := (f_M_isShelf v1 m).bind fun r2 => if ¬ r2 = 0 then (zx_ix 6 v1).bind fun j4 => if 0 ≤ (m.1 19 j4) then (zx_ix 6 v1).bind fun j6 => if ¬ (m.1 19 j6) = (50 + v2) then some (-12) else some 1 else some (-11) else some (-1)
theorem s_M_rowIs (v1 : Int32) (v2 : Int32) (m : zx_M) {d : Nat} {y : Int32} (hf : f_M_rowIs v1 v2 m = some y) : zx_Ev (d + 2) 198 0 [some (.ref 0), some (.int v1), some (.int v2)] [] (zx_SM, m) (some (.int y), (zx_SM, m)) := by
  unfold f_M_rowIs at hf
  refine zx_ev_blk zk_198 1 (pc1 := 1) (L1 := [some (.ref 0), some (.int v1), some (.int v2)]) (st1 := [.int v1]) (h1 := (zx_SM, m)) rfl ?_
  obtain ⟨r2, hv1, hf⟩ := zx_bind_eq hf
  refine zx_ev_call (d := d + 1) zk_198 (v := some (.int r2)) (h1 := (zx_SM, m)) rfl rfl zt_250 rfl zx_SMn rfl rfl (s_M_isShelf _ _ (d := d + 0) hv1) ?_
  by_cases c3 : ¬ r2 = 0
  · rw [if_pos c3] at hf
    refine zx_ev_ift zk_198 (P := ¬ r2 = 0) (t := 11) (f := 7) rfl rfl c3 ?_
    refine zx_ev_blk zk_198 3 (pc1 := 16) (L1 := [some (.ref 0), some (.int v1), some (.int v2)]) (st1 := [.int v1, .ref 19]) (h1 := (zx_SM, m)) rfl ?_
    obtain ⟨j4, hj4, hf⟩ := zx_bind_eq hf
    refine zx_ev_step zk_198 rfl (st_iald rfl rfl hj4) ?_
    by_cases c5 : 0 ≤ (m.1 19 j4)
    · rw [if_pos c5] at hf
      refine zx_ev_ift zk_198 (P := 0 ≤ (m.1 19 j4)) (t := 25) (f := 20) rfl rfl c5 ?_
      refine zx_ev_blk zk_198 3 (pc1 := 30) (L1 := [some (.ref 0), some (.int v1), some (.int v2)]) (st1 := [.int v1, .ref 19]) (h1 := (zx_SM, m)) rfl ?_
      obtain ⟨j6, hj6, hf⟩ := zx_bind_eq hf
      refine zx_ev_step zk_198 rfl (st_iald rfl rfl hj6) ?_
      refine zx_ev_blk zk_198 3 (pc1 := 35) (L1 := [some (.ref 0), some (.int v1), some (.int v2)]) (st1 := [.int (50 + v2), .int (m.1 19 j6)]) (h1 := (zx_SM, m)) rfl ?_
      by_cases c7 : ¬ (m.1 19 j6) = (50 + v2)
      · rw [if_pos c7] at hf
        refine zx_ev_ift zk_198 (P := ¬ (m.1 19 j6) = (50 + v2)) (t := 42) (f := 38) rfl rfl c7 ?_
        refine zx_ev_blk zk_198 1 (pc1 := 44) (L1 := [some (.ref 0), some (.int v1), some (.int v2)]) (st1 := [.int (-12)]) (h1 := (zx_SM, m)) rfl ?_
        obtain rfl := Option.some.inj hf
        exact zx_ev_ret zk_198 rfl rfl
      · rw [if_neg c7] at hf
        refine zx_ev_ifn zk_198 (P := ¬ (m.1 19 j6) = (50 + v2)) (t := 42) (f := 38) rfl rfl c7 ?_
        refine zx_ev_blk zk_198 2 (pc1 := 44) (L1 := [some (.ref 0), some (.int v1), some (.int v2)]) (st1 := [.int 1]) (h1 := (zx_SM, m)) rfl ?_
        obtain rfl := Option.some.inj hf
        exact zx_ev_ret zk_198 rfl rfl
    · rw [if_neg c5] at hf
      refine zx_ev_ifn zk_198 (P := 0 ≤ (m.1 19 j4)) (t := 25) (f := 20) rfl rfl c5 ?_
      refine zx_ev_blk zk_198 2 (pc1 := 44) (L1 := [some (.ref 0), some (.int v1), some (.int v2)]) (st1 := [.int (-11)]) (h1 := (zx_SM, m)) rfl ?_
      obtain rfl := Option.some.inj hf
      exact zx_ev_ret zk_198 rfl rfl
  · rw [if_neg c3] at hf
    refine zx_ev_ifn zk_198 (P := ¬ r2 = 0) (t := 11) (f := 7) rfl rfl c3 ?_
    refine zx_ev_blk zk_198 2 (pc1 := 44) (L1 := [some (.ref 0), some (.int v1), some (.int v2)]) (st1 := [.int (-1)]) (h1 := (zx_SM, m)) rfl ?_
    obtain rfl := Option.some.inj hf
    exact zx_ev_ret zk_198 rfl rfl
def f_M_itemAt (v1 : Int32) (v2 : Int32) (m : zx_M) : Option Int64 := (zx_ix 360 ((60 * v1) + v2)).bind fun j1 => some (m.2 21 j1)
theorem s_M_itemAt (v1 : Int32) (v2 : Int32) (m : zx_M) {d : Nat} {y : Int64} (hf : f_M_itemAt v1 v2 m = some y) : zx_Ev (d) 199 0 [some (.ref 0), some (.int v1), some (.int v2)] [] (zx_SM, m) (some (.long y), (zx_SM, m)) := by
  unfold f_M_itemAt at hf
  refine zx_ev_blk zk_199 7 (pc1 := 10) (L1 := [some (.ref 0), some (.int v1), some (.int v2)]) (st1 := [.int ((60 * v1) + v2), .ref 21]) (h1 := (zx_SM, m)) rfl ?_
  obtain ⟨j1, hj1, hf⟩ := zx_bind_eq hf
  refine zx_ev_step zk_199 rfl (st_lald rfl hj1) ?_
  obtain rfl := Option.some.inj hf
  exact zx_ev_ret zk_199 rfl rfl
def f_M_isIn (v0 : Int32) (v1 : Int32) (m : zx_M) : Option Int32 := if ¬ ((zx_shr v0 v1) &&& 1) = 1 then some 0 else some 1
theorem s_M_isIn (v0 : Int32) (v1 : Int32) (m : zx_M) {d : Nat} {y : Int32} (hf : f_M_isIn v0 v1 m = some y) : zx_Ev (d) 159 0 [some (.int v0), some (.int v1)] [] (zx_SM, m) (some (.int y), (zx_SM, m)) := by
  unfold f_M_isIn at hf
  refine zx_ev_blk zk_159 6 (pc1 := 6) (L1 := [some (.int v0), some (.int v1)]) (st1 := [.int 1, .int ((zx_shr v0 v1) &&& 1)]) (h1 := (zx_SM, m)) rfl ?_
  by_cases c1 : ¬ ((zx_shr v0 v1) &&& 1) = 1
  · rw [if_pos c1] at hf
    refine zx_ev_ift zk_159 (P := ¬ ((zx_shr v0 v1) &&& 1) = 1) (t := 13) (f := 9) rfl rfl c1 ?_
    refine zx_ev_blk zk_159 1 (pc1 := 14) (L1 := [some (.int v0), some (.int v1)]) (st1 := [.int 0]) (h1 := (zx_SM, m)) rfl ?_
    obtain rfl := Option.some.inj hf
    exact zx_ev_ret zk_159 rfl (zx_ret_z (Or.inl rfl))
  · rw [if_neg c1] at hf
    refine zx_ev_ifn zk_159 (P := ¬ ((zx_shr v0 v1) &&& 1) = 1) (t := 13) (f := 9) rfl rfl c1 ?_
    refine zx_ev_blk zk_159 2 (pc1 := 14) (L1 := [some (.int v0), some (.int v1)]) (st1 := [.int 1]) (h1 := (zx_SM, m)) rfl ?_
    obtain rfl := Option.some.inj hf
    exact zx_ev_ret zk_159 rfl (zx_ret_z (Or.inr rfl))
def kx_M_counts_l2 (v1 : Int32) (d : Nat) (out : Option Value × zx_H) : zx_M → Prop
  | y => out = (none, (zx_SM, y))
def kl_M_counts_l2 (v1 : Int32) (d : Nat) (out : Option Value × zx_H) : (Int32 × zx_M) ⊕ (zx_M) → Prop
  | .inl (v2, m) => zx_Ev (d) 201 2 [some (.ref 0), some (.int v1), some (.int v2)] [] (zx_SM, m) out
  | .inr x => kx_M_counts_l2 v1 d out x
def b_M_counts_l2 (v1 : Int32) (v2 : Int32) (m : zx_M) : Option ((Int32 × zx_M) ⊕ (zx_M)) := if (m.1 0 20) ≤ v2 then some (.inr m) else (zx_ix 7 v2).bind fun j2 => zx_let (zx_u1 m 9 j2 (v1 * v2)) fun m3 => zx_let (v2 + 1) fun a4 => some (.inl (a4, m3))
theorem eb_M_counts_l2 (v1 : Int32) (v2 : Int32) (m : zx_M) {d : Nat} {out : Option Value × zx_H} {y : (Int32 × zx_M) ⊕ (zx_M)} (hf : b_M_counts_l2 v1 v2 m = some y) (hK : kl_M_counts_l2 v1 d out y) : zx_Ev (d) 201 2 [some (.ref 0), some (.int v1), some (.int v2)] [] (zx_SM, m) out := by
  unfold b_M_counts_l2 at hf
  refine zx_ev_blk zk_201 3 (pc1 := 7) (L1 := [some (.ref 0), some (.int v1), some (.int v2)]) (st1 := [.int (m.1 0 20), .int v2]) (h1 := (zx_SM, m)) rfl ?_
  by_cases c1 : (m.1 0 20) ≤ v2
  · rw [if_pos c1] at hf
    refine zx_ev_ift zk_201 (P := (m.1 0 20) ≤ v2) (t := 25) (f := 10) rfl rfl c1 ?_
    obtain rfl := Option.some.inj hf
    rw [show out = _ from hK]
    exact zx_ev_ret zk_201 rfl rfl
  · rw [if_neg c1] at hf
    refine zx_ev_ifn zk_201 (P := (m.1 0 20) ≤ v2) (t := 25) (f := 10) rfl rfl c1 ?_
    refine zx_ev_blk zk_201 6 (pc1 := 18) (L1 := [some (.ref 0), some (.int v1), some (.int v2)]) (st1 := [.int (v1 * v2), .int v2, .ref 9]) (h1 := (zx_SM, m)) rfl ?_
    obtain ⟨j2, hj2, hf⟩ := zx_bind_eq hf
    refine zx_ev_step zk_201 rfl (st_iast rfl hj2) ?_
    obtain ⟨m3, hm3, hf⟩ := zx_let_eq hf
    rw [hm3]
    obtain ⟨a4, ha4, hf⟩ := zx_let_eq hf
    refine zx_ev_blk zk_201 2 (pc1 := 2) (L1 := [some (.ref 0), some (.int v1), some (.int a4)]) (st1 := []) (h1 := (zx_SM, m3)) (by subst ha4; rfl) ?_
    obtain rfl := Option.some.inj hf
    exact zx_ev_sub (L := [some (.ref 0), some (.int v1), some (.int a4)]) (⟨rfl, ⟨rfl, ⟨rfl, trivial⟩⟩⟩) hK
def l_M_counts_l2 (v1 : Int32) (s0 : Int32 × zx_M) : Option (zx_M) := zx_lp zx_N (fun s : Int32 × zx_M => b_M_counts_l2 v1 s.1 s.2) s0
theorem el_M_counts_l2 (v1 : Int32) {d : Nat} {out : Option Value × zx_H} : ∀ (n : Nat) (s : Int32 × zx_M) (x : zx_M), zx_lp n (fun s : Int32 × zx_M => b_M_counts_l2 v1 s.1 s.2) s = some x → kx_M_counts_l2 v1 d out x → zx_Ev (d) 201 2 [some (.ref 0), some (.int v1), some (.int s.1)] [] (zx_SM, s.2) out := by
  intro n
  induction n with
  | zero => intro s x hl _; simp [zx_lp] at hl
  | succ n ih =>
    intro s x hl hx
    unfold zx_lp at hl
    cases hb : b_M_counts_l2 v1 s.1 s.2 with
    | none => simp only [hb] at hl; cases hl
    | some z =>
      simp only [hb] at hl
      cases z with
      | inl s1 => exact eb_M_counts_l2 v1 s.1 s.2 hb (ih s1 x hl hx)
      | inr t =>
        simp only [Option.some.injEq] at hl
        subst hl
        exact eb_M_counts_l2 v1 s.1 s.2 hb hx
def f_M_counts (v1 : Int32) (m : zx_M) : Option zx_M := (l_M_counts_l2 v1 (0, m)).bind fun x5 => zx_let x5 fun y6 => some y6
theorem s_M_counts (v1 : Int32) (m : zx_M) {d : Nat} {y : zx_M} (hf : f_M_counts v1 m = some y) : zx_Ev (d) 201 0 [some (.ref 0), some (.int v1), none] [] (zx_SM, m) (none, (zx_SM, y)) := by
  unfold f_M_counts at hf
  refine zx_ev_blk zk_201 2 (pc1 := 2) (L1 := [some (.ref 0), some (.int v1), some (.int 0)]) (st1 := []) (h1 := (zx_SM, m)) rfl ?_
  obtain ⟨x5, hx5, hf⟩ := zx_bind_eq hf
  refine zx_ev_sub (L := [some (.ref 0), some (.int v1), some (.int 0)]) (⟨rfl, ⟨rfl, ⟨rfl, trivial⟩⟩⟩) (el_M_counts_l2 v1 zx_N (0, m) x5 hx5 ?_)
  obtain ⟨y6, hy6, hf⟩ := zx_let_eq hf
  subst hy6
  obtain rfl := Option.some.inj hf
  rfl
def kx_M_asksCarried_l2 (d : Nat) (out : Option Value × zx_H) : zx_M → Prop
  | m => zx_Ev (d + 68) 190 27 [some (.ref 0), none] [] (zx_SM, m) out
def kl_M_asksCarried_l2 (d : Nat) (out : Option Value × zx_H) : (Int32 × zx_M) ⊕ (zx_M) → Prop
  | .inl (v1, m) => zx_Ev (d + 68) 190 2 [some (.ref 0), some (.int v1)] [] (zx_SM, m) out
  | .inr x => kx_M_asksCarried_l2 d out x
def b_M_asksCarried_l2 (v1 : Int32) (m : zx_M) : Option ((Int32 × zx_M) ⊕ (zx_M)) := if (m.1 0 6) ≤ v1 then some (.inr m) else (f_M_carriedBy v1 m).bind fun (r3, m4) => (zx_ix 7 v1).bind fun j5 => zx_let (zx_u1 m4 11 j5 r3) fun m6 => zx_let (v1 + 1) fun a7 => some (.inl (a7, m6))
theorem eb_M_asksCarried_l2 (v1 : Int32) (m : zx_M) {d : Nat} {out : Option Value × zx_H} {y : (Int32 × zx_M) ⊕ (zx_M)} (hf : b_M_asksCarried_l2 v1 m = some y) (hK : kl_M_asksCarried_l2 d out y) : zx_Ev (d + 68) 190 2 [some (.ref 0), some (.int v1)] [] (zx_SM, m) out := by
  unfold b_M_asksCarried_l2 at hf
  refine zx_ev_blk zk_190 3 (pc1 := 7) (L1 := [some (.ref 0), some (.int v1)]) (st1 := [.int (m.1 0 6), .int v1]) (h1 := (zx_SM, m)) rfl ?_
  by_cases c1 : (m.1 0 6) ≤ v1
  · rw [if_pos c1] at hf
    refine zx_ev_ift zk_190 (P := (m.1 0 6) ≤ v1) (t := 27) (f := 10) rfl rfl c1 ?_
    obtain rfl := Option.some.inj hf
    exact zx_ev_sub (L := [some (.ref 0), none]) (⟨rfl, ⟨trivial, trivial⟩⟩) hK
  · rw [if_neg c1] at hf
    refine zx_ev_ifn zk_190 (P := (m.1 0 6) ≤ v1) (t := 27) (f := 10) rfl rfl c1 ?_
    refine zx_ev_blk zk_190 5 (pc1 := 17) (L1 := [some (.ref 0), some (.int v1)]) (st1 := [.int v1, .ref 0, .int v1, .ref 11]) (h1 := (zx_SM, m)) rfl ?_
    obtain ⟨⟨r3, m4⟩, hv2, hf⟩ := zx_bind_eq hf
    dsimp only at hf
    refine zx_ev_call (d := d + 67) zk_190 (v := some (.int r3)) (h1 := (zx_SM, m4)) rfl rfl zt_188 rfl zx_SMn rfl rfl (s_M_carriedBy _ _ (d := d + 0) hv2) ?_
    obtain ⟨j5, hj5, hf⟩ := zx_bind_eq hf
    refine zx_ev_step zk_190 rfl (st_iast rfl hj5) ?_
    obtain ⟨m6, hm6, hf⟩ := zx_let_eq hf
    rw [hm6]
    obtain ⟨a7, ha7, hf⟩ := zx_let_eq hf
    refine zx_ev_blk zk_190 2 (pc1 := 2) (L1 := [some (.ref 0), some (.int a7)]) (st1 := []) (h1 := (zx_SM, m6)) (by subst ha7; rfl) ?_
    obtain rfl := Option.some.inj hf
    exact zx_ev_sub (L := [some (.ref 0), some (.int a7)]) (⟨rfl, ⟨rfl, trivial⟩⟩) hK
def l_M_asksCarried_l2 (s0 : Int32 × zx_M) : Option (zx_M) := zx_lp zx_N (fun s : Int32 × zx_M => b_M_asksCarried_l2 s.1 s.2) s0
theorem el_M_asksCarried_l2 {d : Nat} {out : Option Value × zx_H} : ∀ (n : Nat) (s : Int32 × zx_M) (x : zx_M), zx_lp n (fun s : Int32 × zx_M => b_M_asksCarried_l2 s.1 s.2) s = some x → kx_M_asksCarried_l2 d out x → zx_Ev (d + 68) 190 2 [some (.ref 0), some (.int s.1)] [] (zx_SM, s.2) out := by
  intro n
  induction n with
  | zero => intro s x hl _; simp [zx_lp] at hl
  | succ n ih =>
    intro s x hl hx
    unfold zx_lp at hl
    cases hb : b_M_asksCarried_l2 s.1 s.2 with
    | none => simp only [hb] at hl; cases hl
    | some z =>
      simp only [hb] at hl
      cases z with
      | inl s1 => exact eb_M_asksCarried_l2 s.1 s.2 hb (ih s1 x hl hx)
      | inr t =>
        simp only [Option.some.injEq] at hl
        subst hl
        exact eb_M_asksCarried_l2 s.1 s.2 hb hx
def f_M_asksCarried (m : zx_M) : Option zx_M := (l_M_asksCarried_l2 (0, m)).bind fun x8 => zx_let x8 fun m9 => (zx_ix 36 35).bind fun j10 => zx_let (zx_u1 m9 0 21 (m9.1 1 j10)) fun m11 => some m11
theorem s_M_asksCarried (m : zx_M) {d : Nat} {y : zx_M} (hf : f_M_asksCarried m = some y) : zx_Ev (d + 68) 190 0 [some (.ref 0), none] [] (zx_SM, m) (none, (zx_SM, y)) := by
  unfold f_M_asksCarried at hf
  refine zx_ev_blk zk_190 2 (pc1 := 2) (L1 := [some (.ref 0), some (.int 0)]) (st1 := []) (h1 := (zx_SM, m)) rfl ?_
  obtain ⟨x8, hx8, hf⟩ := zx_bind_eq hf
  refine zx_ev_sub (L := [some (.ref 0), some (.int 0)]) (⟨rfl, ⟨rfl, trivial⟩⟩) (el_M_asksCarried_l2 zx_N (0, m) x8 hx8 ?_)
  obtain ⟨m9, hm9, hf⟩ := zx_let_eq hf
  subst hm9
  show zx_Ev (d + 68) 190 27 [some (.ref 0), none] [] (zx_SM, x8) _
  refine zx_ev_blk zk_190 4 (pc1 := 34) (L1 := [some (.ref 0), none]) (st1 := [.int 35, .ref 1, .ref 0]) (h1 := (zx_SM, x8)) rfl ?_
  obtain ⟨j10, hj10, hf⟩ := zx_bind_eq hf
  refine zx_ev_step zk_190 rfl (st_iald rfl rfl hj10) ?_
  obtain ⟨m11, hm11, hf⟩ := zx_let_eq hf
  refine zx_ev_blk zk_190 1 (pc1 := 38) (L1 := [some (.ref 0), none]) (st1 := []) (h1 := (zx_SM, m11)) (by subst hm11; rfl) ?_
  obtain rfl := Option.some.inj hf
  exact zx_ev_ret zk_190 rfl rfl
def kx_M_takesOrder_l10 (v1 : Int32) (v2 : Int32) (d : Nat) (out : Option Value × zx_H) : zx_M → Prop
  | m => zx_Ev (d + 69) 200 112 [some (.ref 0), none, some (.int v2), none, none, none, none] [] (zx_SM, m) out
def kl_M_takesOrder_l10 (v1 : Int32) (v2 : Int32) (d : Nat) (out : Option Value × zx_H) : (Int32 × Int32 × zx_M) ⊕ (zx_M) → Prop
  | .inl (v3, v4, m) => zx_Ev (d + 69) 200 10 [some (.ref 0), some (.int v1), some (.int v2), some (.int v3), some (.int v4), none, none] [] (zx_SM, m) out
  | .inr x => kx_M_takesOrder_l10 v1 v2 d out x
def n_M_takesOrder_b10_109 (v1 : Int32) (v2 : Int32) (v3 : Int32) (v4 : Int32) (m : zx_M) : Option ((Int32 × Int32 × zx_M) ⊕ (zx_M)) := some (.inl (v3, v4, m))
theorem e_M_takesOrder_b10_109 (v1 : Int32) (v2 : Int32) (v3 : Int32) (v4 : Int32) (m : zx_M) {d : Nat} {out : Option Value × zx_H} {y : (Int32 × Int32 × zx_M) ⊕ (zx_M)} (hf : n_M_takesOrder_b10_109 v1 v2 v3 v4 m = some y) (hK : kl_M_takesOrder_l10 v1 v2 d out y) : zx_Ev (d + 69) 200 109 [some (.ref 0), some (.int v1), some (.int v2), some (.int v3), some (.int v4), none, none] [] (zx_SM, m) out := by
  unfold n_M_takesOrder_b10_109 at hf
  refine zx_ev_blk zk_200 1 (pc1 := 10) (L1 := [some (.ref 0), some (.int v1), some (.int v2), some (.int v3), some (.int v4), none, none]) (st1 := []) (h1 := (zx_SM, m)) rfl ?_
  obtain rfl := Option.some.inj hf
  exact zx_ev_sub (L := [some (.ref 0), some (.int v1), some (.int v2), some (.int v3), some (.int v4), none, none]) (⟨rfl, ⟨rfl, ⟨rfl, ⟨rfl, ⟨rfl, trivial⟩⟩⟩⟩⟩) hK
def n_M_takesOrder_b10_72 (v1 : Int32) (v2 : Int32) (v3 : Int32) (v5 : Int64) (t0 : Int32) (m : zx_M) : Option ((Int32 × Int32 × zx_M) ⊕ (zx_M)) := if t0 = 0 then n_M_takesOrder_b10_109 v1 v2 v3 t0 m else zx_let (v3 ||| (zx_shl 1 (Int64.toInt32 v5))) fun a12 => (zx_ix 7 (m.1 0 20)).bind fun j13 => zx_let (zx_u1 m 8 j13 (Int64.toInt32 v5)) fun m14 => zx_let (zx_u1 m14 0 20 ((m14.1 0 20) + 1)) fun m15 => n_M_takesOrder_b10_109 v1 v2 a12 t0 m15
theorem e_M_takesOrder_b10_72 (v1 : Int32) (v2 : Int32) (v3 : Int32) (v5 : Int64) (t0 : Int32) (m : zx_M) {d : Nat} {out : Option Value × zx_H} {y : (Int32 × Int32 × zx_M) ⊕ (zx_M)} (hf : n_M_takesOrder_b10_72 v1 v2 v3 v5 t0 m = some y) (hK : kl_M_takesOrder_l10 v1 v2 d out y) : zx_Ev (d + 69) 200 72 [some (.ref 0), some (.int v1), some (.int v2), some (.int v3), none, some (.long v5), none] [.int t0] (zx_SM, m) out := by
  unfold n_M_takesOrder_b10_72 at hf
  refine zx_ev_blk zk_200 2 (pc1 := 76) (L1 := [some (.ref 0), some (.int v1), some (.int v2), some (.int v3), some (.int t0), some (.long v5), none]) (st1 := [.int t0]) (h1 := (zx_SM, m)) rfl ?_
  by_cases c11 : t0 = 0
  · rw [if_pos c11] at hf
    refine zx_ev_ift zk_200 (P := t0 = 0) (t := 109) (f := 79) rfl rfl c11 ?_
    exact zx_ev_sub (L := [some (.ref 0), some (.int v1), some (.int v2), some (.int v3), some (.int t0), none, none]) (⟨rfl, ⟨rfl, ⟨rfl, ⟨rfl, ⟨rfl, ⟨trivial, trivial⟩⟩⟩⟩⟩⟩) (e_M_takesOrder_b10_109 v1 v2 v3 t0 m hf hK)
  · rw [if_neg c11] at hf
    refine zx_ev_ifn zk_200 (P := t0 = 0) (t := 109) (f := 79) rfl rfl c11 ?_
    obtain ⟨a12, ha12, hf⟩ := zx_let_eq hf
    refine zx_ev_blk zk_200 13 (pc1 := 98) (L1 := [some (.ref 0), some (.int v1), some (.int v2), some (.int a12), some (.int t0), some (.long v5), none]) (st1 := [.int (Int64.toInt32 v5), .int (m.1 0 20), .ref 8]) (h1 := (zx_SM, m)) (by subst ha12; rfl) ?_
    obtain ⟨j13, hj13, hf⟩ := zx_bind_eq hf
    refine zx_ev_step zk_200 rfl (st_iast rfl hj13) ?_
    obtain ⟨m14, hm14, hf⟩ := zx_let_eq hf
    rw [hm14]
    obtain ⟨m15, hm15, hf⟩ := zx_let_eq hf
    refine zx_ev_blk zk_200 6 (pc1 := 109) (L1 := [some (.ref 0), some (.int v1), some (.int v2), some (.int a12), some (.int t0), some (.long v5), none]) (st1 := []) (h1 := (zx_SM, m15)) (by subst hm15; rfl) ?_
    exact zx_ev_sub (L := [some (.ref 0), some (.int v1), some (.int v2), some (.int a12), some (.int t0), none, none]) (⟨rfl, ⟨rfl, ⟨rfl, ⟨rfl, ⟨rfl, ⟨trivial, trivial⟩⟩⟩⟩⟩⟩) (e_M_takesOrder_b10_109 v1 v2 a12 t0 m15 hf hK)
def n_M_takesOrder_b10_71 (v1 : Int32) (v2 : Int32) (v3 : Int32) (v5 : Int64) (m : zx_M) : Option ((Int32 × Int32 × zx_M) ⊕ (zx_M)) := n_M_takesOrder_b10_72 v1 v2 v3 v5 0 m
theorem e_M_takesOrder_b10_71 (v1 : Int32) (v2 : Int32) (v3 : Int32) (v5 : Int64) (m : zx_M) {d : Nat} {out : Option Value × zx_H} {y : (Int32 × Int32 × zx_M) ⊕ (zx_M)} (hf : n_M_takesOrder_b10_71 v1 v2 v3 v5 m = some y) (hK : kl_M_takesOrder_l10 v1 v2 d out y) : zx_Ev (d + 69) 200 71 [some (.ref 0), some (.int v1), some (.int v2), some (.int v3), none, some (.long v5), none] [] (zx_SM, m) out := by
  unfold n_M_takesOrder_b10_71 at hf
  refine zx_ev_blk zk_200 1 (pc1 := 72) (L1 := [some (.ref 0), some (.int v1), some (.int v2), some (.int v3), none, some (.long v5), none]) (st1 := [.int 0]) (h1 := (zx_SM, m)) rfl ?_
  exact zx_ev_sub (L := [some (.ref 0), some (.int v1), some (.int v2), some (.int v3), none, some (.long v5), none]) (⟨rfl, ⟨rfl, ⟨rfl, ⟨rfl, ⟨rfl, trivial⟩⟩⟩⟩⟩) (e_M_takesOrder_b10_72 v1 v2 v3 v5 0 m hf hK)
def b_M_takesOrder_l10 (v1 : Int32) (v2 : Int32) (v3 : Int32) (v4 : Int32) (m : zx_M) : Option ((Int32 × Int32 × zx_M) ⊕ (zx_M)) := if v4 = 0 then some (.inr m) else if 7 ≤ (m.1 0 20) then some (.inr m) else (zx_ix 6 v1).bind fun j4 => if (m.1 20 j4) ≤ (m.1 0 20) then some (.inr m) else (f_M_itemAt v1 (m.1 0 20) m).bind fun r7 => (f_M_isJumper r7 m).bind fun r9 => if r9 = 0 then n_M_takesOrder_b10_71 v1 v2 v3 r7 m else (f_M_isIn v3 (Int64.toInt32 r7) m).bind fun r17 => if ¬ r17 = 0 then n_M_takesOrder_b10_71 v1 v2 v3 r7 m else n_M_takesOrder_b10_72 v1 v2 v3 r7 1 m
theorem eb_M_takesOrder_l10 (v1 : Int32) (v2 : Int32) (v3 : Int32) (v4 : Int32) (m : zx_M) {d : Nat} {out : Option Value × zx_H} {y : (Int32 × Int32 × zx_M) ⊕ (zx_M)} (hf : b_M_takesOrder_l10 v1 v2 v3 v4 m = some y) (hK : kl_M_takesOrder_l10 v1 v2 d out y) : zx_Ev (d + 69) 200 10 [some (.ref 0), some (.int v1), some (.int v2), some (.int v3), some (.int v4), none, none] [] (zx_SM, m) out := by
  unfold b_M_takesOrder_l10 at hf
  refine zx_ev_blk zk_200 1 (pc1 := 12) (L1 := [some (.ref 0), some (.int v1), some (.int v2), some (.int v3), some (.int v4), none, none]) (st1 := [.int v4]) (h1 := (zx_SM, m)) rfl ?_
  by_cases c2 : v4 = 0
  · rw [if_pos c2] at hf
    refine zx_ev_ift zk_200 (P := v4 = 0) (t := 112) (f := 15) rfl rfl c2 ?_
    obtain rfl := Option.some.inj hf
    exact zx_ev_sub (L := [some (.ref 0), none, some (.int v2), none, none, none, none]) (⟨rfl, ⟨trivial, ⟨rfl, ⟨trivial, ⟨trivial, trivial⟩⟩⟩⟩⟩) hK
  · rw [if_neg c2] at hf
    refine zx_ev_ifn zk_200 (P := v4 = 0) (t := 112) (f := 15) rfl rfl c2 ?_
    refine zx_ev_blk zk_200 3 (pc1 := 21) (L1 := [some (.ref 0), some (.int v1), some (.int v2), some (.int v3), some (.int v4), none, none]) (st1 := [.int 7, .int (m.1 0 20)]) (h1 := (zx_SM, m)) rfl ?_
    by_cases c3 : 7 ≤ (m.1 0 20)
    · rw [if_pos c3] at hf
      refine zx_ev_ift zk_200 (P := 7 ≤ (m.1 0 20)) (t := 112) (f := 24) rfl rfl c3 ?_
      obtain rfl := Option.some.inj hf
      exact zx_ev_sub (L := [some (.ref 0), none, some (.int v2), none, none, none, none]) (⟨rfl, ⟨trivial, ⟨rfl, ⟨trivial, ⟨trivial, trivial⟩⟩⟩⟩⟩) hK
    · rw [if_neg c3] at hf
      refine zx_ev_ifn zk_200 (P := 7 ≤ (m.1 0 20)) (t := 112) (f := 24) rfl rfl c3 ?_
      refine zx_ev_blk zk_200 5 (pc1 := 33) (L1 := [some (.ref 0), some (.int v1), some (.int v2), some (.int v3), some (.int v4), none, none]) (st1 := [.int v1, .ref 20, .int (m.1 0 20)]) (h1 := (zx_SM, m)) rfl ?_
      obtain ⟨j4, hj4, hf⟩ := zx_bind_eq hf
      refine zx_ev_step zk_200 rfl (st_iald rfl rfl hj4) ?_
      by_cases c5 : (m.1 20 j4) ≤ (m.1 0 20)
      · rw [if_pos c5] at hf
        refine zx_ev_ift zk_200 (P := (m.1 20 j4) ≤ (m.1 0 20)) (t := 112) (f := 37) rfl rfl c5 ?_
        obtain rfl := Option.some.inj hf
        exact zx_ev_sub (L := [some (.ref 0), none, some (.int v2), none, none, none, none]) (⟨rfl, ⟨trivial, ⟨rfl, ⟨trivial, ⟨trivial, trivial⟩⟩⟩⟩⟩) hK
      · rw [if_neg c5] at hf
        refine zx_ev_ifn zk_200 (P := (m.1 20 j4) ≤ (m.1 0 20)) (t := 112) (f := 37) rfl rfl c5 ?_
        refine zx_ev_blk zk_200 4 (pc1 := 43) (L1 := [some (.ref 0), some (.int v1), some (.int v2), some (.int v3), some (.int v4), none, none]) (st1 := [.int (m.1 0 20), .int v1, .ref 0]) (h1 := (zx_SM, m)) rfl ?_
        obtain ⟨r7, hv6, hf⟩ := zx_bind_eq hf
        refine zx_ev_call (d := d + 68) zk_200 (v := some (.long r7)) (h1 := (zx_SM, m)) rfl rfl zt_199 rfl zx_SMn rfl rfl (s_M_itemAt _ _ _ (d := d + 68) hv6) ?_
        refine zx_ev_blk zk_200 3 (pc1 := 51) (L1 := [some (.ref 0), some (.int v1), some (.int v2), some (.int v3), some (.int v4), some (.long r7), none]) (st1 := [.long r7, .ref 0]) (h1 := (zx_SM, m)) rfl ?_
        obtain ⟨r9, hv8, hf⟩ := zx_bind_eq hf
        refine zx_ev_call (d := d + 68) zk_200 (v := some (.int r9)) (h1 := (zx_SM, m)) rfl rfl zt_164 rfl zx_SMn rfl rfl (s_M_isJumper _ _ (d := d + 67) hv8) ?_
        by_cases c10 : r9 = 0
        · rw [if_pos c10] at hf
          refine zx_ev_ift zk_200 (P := r9 = 0) (t := 71) (f := 57) rfl rfl c10 ?_
          exact zx_ev_sub (L := [some (.ref 0), some (.int v1), some (.int v2), some (.int v3), none, some (.long r7), none]) (⟨rfl, ⟨rfl, ⟨rfl, ⟨rfl, ⟨trivial, ⟨rfl, trivial⟩⟩⟩⟩⟩⟩) (e_M_takesOrder_b10_71 v1 v2 v3 r7 m hf hK)
        · rw [if_neg c10] at hf
          refine zx_ev_ifn zk_200 (P := r9 = 0) (t := 71) (f := 57) rfl rfl c10 ?_
          refine zx_ev_blk zk_200 3 (pc1 := 61) (L1 := [some (.ref 0), some (.int v1), some (.int v2), some (.int v3), some (.int v4), some (.long r7), none]) (st1 := [.int (Int64.toInt32 r7), .int v3]) (h1 := (zx_SM, m)) rfl ?_
          obtain ⟨r17, hv16, hf⟩ := zx_bind_eq hf
          refine zx_ev_call (d := d + 68) zk_200 (v := some (.int r17)) (h1 := (zx_SM, m)) rfl rfl zt_159 rfl zx_SMn rfl rfl (s_M_isIn _ _ _ (d := d + 68) hv16) ?_
          by_cases c18 : ¬ r17 = 0
          · rw [if_pos c18] at hf
            refine zx_ev_ift zk_200 (P := ¬ r17 = 0) (t := 71) (f := 67) rfl rfl c18 ?_
            exact zx_ev_sub (L := [some (.ref 0), some (.int v1), some (.int v2), some (.int v3), none, some (.long r7), none]) (⟨rfl, ⟨rfl, ⟨rfl, ⟨rfl, ⟨trivial, ⟨rfl, trivial⟩⟩⟩⟩⟩⟩) (e_M_takesOrder_b10_71 v1 v2 v3 r7 m hf hK)
          · rw [if_neg c18] at hf
            refine zx_ev_ifn zk_200 (P := ¬ r17 = 0) (t := 71) (f := 67) rfl rfl c18 ?_
            refine zx_ev_blk zk_200 2 (pc1 := 72) (L1 := [some (.ref 0), some (.int v1), some (.int v2), some (.int v3), some (.int v4), some (.long r7), none]) (st1 := [.int 1]) (h1 := (zx_SM, m)) rfl ?_
            exact zx_ev_sub (L := [some (.ref 0), some (.int v1), some (.int v2), some (.int v3), none, some (.long r7), none]) (⟨rfl, ⟨rfl, ⟨rfl, ⟨rfl, ⟨trivial, ⟨rfl, trivial⟩⟩⟩⟩⟩⟩) (e_M_takesOrder_b10_72 v1 v2 v3 r7 1 m hf hK)
def l_M_takesOrder_l10 (v1 : Int32) (v2 : Int32) (s0 : Int32 × Int32 × zx_M) : Option (zx_M) := zx_lp zx_N (fun s : Int32 × Int32 × zx_M => b_M_takesOrder_l10 v1 v2 s.1 s.2.1 s.2.2) s0
theorem el_M_takesOrder_l10 (v1 : Int32) (v2 : Int32) {d : Nat} {out : Option Value × zx_H} : ∀ (n : Nat) (s : Int32 × Int32 × zx_M) (x : zx_M), zx_lp n (fun s : Int32 × Int32 × zx_M => b_M_takesOrder_l10 v1 v2 s.1 s.2.1 s.2.2) s = some x → kx_M_takesOrder_l10 v1 v2 d out x → zx_Ev (d + 69) 200 10 [some (.ref 0), some (.int v1), some (.int v2), some (.int s.1), some (.int s.2.1), none, none] [] (zx_SM, s.2.2) out := by
  intro n
  induction n with
  | zero => intro s x hl _; simp [zx_lp] at hl
  | succ n ih =>
    intro s x hl hx
    unfold zx_lp at hl
    cases hb : b_M_takesOrder_l10 v1 v2 s.1 s.2.1 s.2.2 with
    | none => simp only [hb] at hl; cases hl
    | some z =>
      simp only [hb] at hl
      cases z with
      | inl s1 => exact eb_M_takesOrder_l10 v1 v2 s.1 s.2.1 s.2.2 hb (ih s1 x hl hx)
      | inr t =>
        simp only [Option.some.injEq] at hl
        subst hl
        exact eb_M_takesOrder_l10 v1 v2 s.1 s.2.1 s.2.2 hb hx
def n_M_takesOrder_n112 (v2 : Int32) (m : zx_M) : Option zx_M := (f_M_counts v2 m).bind fun m22 => (f_M_asksCarried m22).bind fun m24 => some m24
theorem e_M_takesOrder_n112 (v2 : Int32) (m : zx_M) {d : Nat} {y : zx_M} (hf : n_M_takesOrder_n112 v2 m = some y) : zx_Ev (d + 69) 200 112 [some (.ref 0), none, some (.int v2), none, none, none, none] [] (zx_SM, m) (none, (zx_SM, y)) := by
  unfold n_M_takesOrder_n112 at hf
  refine zx_ev_blk zk_200 2 (pc1 := 114) (L1 := [some (.ref 0), none, some (.int v2), none, none, none, none]) (st1 := [.int v2, .ref 0]) (h1 := (zx_SM, m)) rfl ?_
  obtain ⟨m22, hv21, hf⟩ := zx_bind_eq hf
  refine zx_ev_call (d := d + 68) zk_200 (v := none) (h1 := (zx_SM, m22)) rfl rfl zt_201 rfl zx_SMn rfl rfl (s_M_counts _ _ (d := d + 68) hv21) ?_
  refine zx_ev_blk zk_200 1 (pc1 := 118) (L1 := [some (.ref 0), none, some (.int v2), none, none, none, none]) (st1 := [.ref 0]) (h1 := (zx_SM, m22)) rfl ?_
  obtain ⟨m24, hv23, hf⟩ := zx_bind_eq hf
  refine zx_ev_call (d := d + 68) zk_200 (v := none) (h1 := (zx_SM, m24)) rfl rfl zt_190 rfl zx_SMn rfl rfl (s_M_asksCarried _ (d := d + 0) hv23) ?_
  obtain rfl := Option.some.inj hf
  exact zx_ev_ret zk_200 rfl rfl
def f_M_takesOrder (v1 : Int32) (v2 : Int32) (m : zx_M) : Option zx_M := zx_let (zx_u1 m 0 20 0) fun m1 => (l_M_takesOrder_l10 v1 v2 (0, 1, m1)).bind fun x19 => zx_let x19 fun m20 => n_M_takesOrder_n112 v2 m20
theorem s_M_takesOrder (v1 : Int32) (v2 : Int32) (m : zx_M) {d : Nat} {y : zx_M} (hf : f_M_takesOrder v1 v2 m = some y) : zx_Ev (d + 69) 200 0 [some (.ref 0), some (.int v1), some (.int v2), none, none, none, none] [] (zx_SM, m) (none, (zx_SM, y)) := by
  unfold f_M_takesOrder at hf
  obtain ⟨m1, hm1, hf⟩ := zx_let_eq hf
  refine zx_ev_blk zk_200 7 (pc1 := 10) (L1 := [some (.ref 0), some (.int v1), some (.int v2), some (.int 0), some (.int 1), none, none]) (st1 := []) (h1 := (zx_SM, m1)) (by subst hm1; rfl) ?_
  obtain ⟨x19, hx19, hf⟩ := zx_bind_eq hf
  refine zx_ev_sub (L := [some (.ref 0), some (.int v1), some (.int v2), some (.int 0), some (.int 1), none, none]) (⟨rfl, ⟨rfl, ⟨rfl, ⟨rfl, ⟨rfl, trivial⟩⟩⟩⟩⟩) (el_M_takesOrder_l10 v1 v2 zx_N (0, 1, m1) x19 hx19 ?_)
  obtain ⟨m20, hm20, hf⟩ := zx_let_eq hf
  subst hm20
  show zx_Ev (d + 69) 200 112 [some (.ref 0), none, some (.int v2), none, none, none, none] [] (zx_SM, x19) _
  exact zx_ev_sub (L := [some (.ref 0), none, some (.int v2), none, none, none, none]) (⟨rfl, ⟨rfl, trivial⟩⟩) (e_M_takesOrder_n112 v2 x19 hf)
def kx_M_fills_l2 (v1 : Int32) (d : Nat) (out : Option Value × zx_H) : zx_M → Prop
  | y => out = (none, (zx_SM, y))
def kl_M_fills_l2 (v1 : Int32) (d : Nat) (out : Option Value × zx_H) : (Int32 × zx_M) ⊕ (zx_M) → Prop
  | .inl (v2, m) => zx_Ev (d) 191 2 [some (.ref 0), some (.int v1), some (.int v2), none] [] (zx_SM, m) out
  | .inr x => kx_M_fills_l2 v1 d out x
def n_M_fills_b2_44 (v1 : Int32) (v2 : Int32) (t1 : Int32) (t2 : Int32) (t3 : Int32) (m : zx_M) : Option ((Int32 × zx_M) ⊕ (zx_M)) := (zx_ix 7 v2).bind fun j6 => (zx_ix 7 (m.1 8 j6)).bind fun j7 => (zx_ix 7 t1).bind fun j8 => zx_let (zx_u1 m 10 j8 ((t2 + t3) + (m.1 11 j7))) fun m9 => zx_let (v2 + 1) fun a10 => some (.inl (a10, m9))
theorem e_M_fills_b2_44 (v1 : Int32) (v2 : Int32) (t1 : Int32) (t2 : Int32) (t3 : Int32) (m : zx_M) {d : Nat} {out : Option Value × zx_H} {y : (Int32 × zx_M) ⊕ (zx_M)} (hf : n_M_fills_b2_44 v1 v2 t1 t2 t3 m = some y) (hK : kl_M_fills_l2 v1 d out y) : zx_Ev (d) 191 44 [some (.ref 0), some (.int v1), some (.int v2), none] [.int t3, .int t2, .int t1, .ref 10] (zx_SM, m) out := by
  unfold n_M_fills_b2_44 at hf
  refine zx_ev_blk zk_191 6 (pc1 := 54) (L1 := [some (.ref 0), some (.int v1), some (.int v2), none]) (st1 := [.int v2, .ref 8, .ref 11, .int (t2 + t3), .int t1, .ref 10]) (h1 := (zx_SM, m)) rfl ?_
  obtain ⟨j6, hj6, hf⟩ := zx_bind_eq hf
  refine zx_ev_step zk_191 rfl (st_iald rfl rfl hj6) ?_
  obtain ⟨j7, hj7, hf⟩ := zx_bind_eq hf
  refine zx_ev_step zk_191 rfl (st_iald rfl rfl hj7) ?_
  refine zx_ev_blk zk_191 1 (pc1 := 57) (L1 := [some (.ref 0), some (.int v1), some (.int v2), none]) (st1 := [.int ((t2 + t3) + (m.1 11 j7)), .int t1, .ref 10]) (h1 := (zx_SM, m)) rfl ?_
  obtain ⟨j8, hj8, hf⟩ := zx_bind_eq hf
  refine zx_ev_step zk_191 rfl (st_iast rfl hj8) ?_
  obtain ⟨m9, hm9, hf⟩ := zx_let_eq hf
  rw [hm9]
  obtain ⟨a10, ha10, hf⟩ := zx_let_eq hf
  refine zx_ev_blk zk_191 2 (pc1 := 2) (L1 := [some (.ref 0), some (.int v1), some (.int a10), none]) (st1 := []) (h1 := (zx_SM, m9)) (by subst ha10; rfl) ?_
  obtain rfl := Option.some.inj hf
  exact zx_ev_sub (L := [some (.ref 0), some (.int v1), some (.int a10), none]) (⟨rfl, ⟨rfl, ⟨rfl, trivial⟩⟩⟩) hK
def b_M_fills_l2 (v1 : Int32) (v2 : Int32) (m : zx_M) : Option ((Int32 × zx_M) ⊕ (zx_M)) := if (m.1 0 20) ≤ v2 then some (.inr m) else (zx_ix 36 31).bind fun j2 => (zx_ix 7 v2).bind fun j3 => zx_let ((m.1 1 j2) * (m.1 9 j3)) fun a4 => if ¬ (m.1 0 21) = 0 then n_M_fills_b2_44 v1 v2 v2 v1 (-a4) m else n_M_fills_b2_44 v1 v2 v2 v1 a4 m
theorem eb_M_fills_l2 (v1 : Int32) (v2 : Int32) (m : zx_M) {d : Nat} {out : Option Value × zx_H} {y : (Int32 × zx_M) ⊕ (zx_M)} (hf : b_M_fills_l2 v1 v2 m = some y) (hK : kl_M_fills_l2 v1 d out y) : zx_Ev (d) 191 2 [some (.ref 0), some (.int v1), some (.int v2), none] [] (zx_SM, m) out := by
  unfold b_M_fills_l2 at hf
  refine zx_ev_blk zk_191 3 (pc1 := 7) (L1 := [some (.ref 0), some (.int v1), some (.int v2), none]) (st1 := [.int (m.1 0 20), .int v2]) (h1 := (zx_SM, m)) rfl ?_
  by_cases c1 : (m.1 0 20) ≤ v2
  · rw [if_pos c1] at hf
    refine zx_ev_ift zk_191 (P := (m.1 0 20) ≤ v2) (t := 64) (f := 10) rfl rfl c1 ?_
    obtain rfl := Option.some.inj hf
    rw [show out = _ from hK]
    exact zx_ev_ret zk_191 rfl rfl
  · rw [if_neg c1] at hf
    refine zx_ev_ifn zk_191 (P := (m.1 0 20) ≤ v2) (t := 64) (f := 10) rfl rfl c1 ?_
    refine zx_ev_blk zk_191 3 (pc1 := 16) (L1 := [some (.ref 0), some (.int v1), some (.int v2), none]) (st1 := [.int 31, .ref 1]) (h1 := (zx_SM, m)) rfl ?_
    obtain ⟨j2, hj2, hf⟩ := zx_bind_eq hf
    refine zx_ev_step zk_191 rfl (st_iald rfl rfl hj2) ?_
    refine zx_ev_blk zk_191 3 (pc1 := 22) (L1 := [some (.ref 0), some (.int v1), some (.int v2), none]) (st1 := [.int v2, .ref 9, .int (m.1 1 j2)]) (h1 := (zx_SM, m)) rfl ?_
    obtain ⟨j3, hj3, hf⟩ := zx_bind_eq hf
    refine zx_ev_step zk_191 rfl (st_iald rfl rfl hj3) ?_
    obtain ⟨a4, ha4, hf⟩ := zx_let_eq hf
    refine zx_ev_blk zk_191 8 (pc1 := 35) (L1 := [some (.ref 0), some (.int v1), some (.int v2), some (.int a4)]) (st1 := [.int (m.1 0 21), .int v1, .int v2, .ref 10]) (h1 := (zx_SM, m)) (by subst ha4; rfl) ?_
    by_cases c5 : ¬ (m.1 0 21) = 0
    · rw [if_pos c5] at hf
      refine zx_ev_ift zk_191 (P := ¬ (m.1 0 21) = 0) (t := 42) (f := 38) rfl rfl c5 ?_
      refine zx_ev_blk zk_191 2 (pc1 := 44) (L1 := [some (.ref 0), some (.int v1), some (.int v2), some (.int a4)]) (st1 := [.int (-a4), .int v1, .int v2, .ref 10]) (h1 := (zx_SM, m)) rfl ?_
      exact zx_ev_sub (L := [some (.ref 0), some (.int v1), some (.int v2), none]) (⟨rfl, ⟨rfl, ⟨rfl, ⟨trivial, trivial⟩⟩⟩⟩) (e_M_fills_b2_44 v1 v2 v2 v1 (-a4) m hf hK)
    · rw [if_neg c5] at hf
      refine zx_ev_ifn zk_191 (P := ¬ (m.1 0 21) = 0) (t := 42) (f := 38) rfl rfl c5 ?_
      refine zx_ev_blk zk_191 2 (pc1 := 44) (L1 := [some (.ref 0), some (.int v1), some (.int v2), some (.int a4)]) (st1 := [.int a4, .int v1, .int v2, .ref 10]) (h1 := (zx_SM, m)) rfl ?_
      exact zx_ev_sub (L := [some (.ref 0), some (.int v1), some (.int v2), none]) (⟨rfl, ⟨rfl, ⟨rfl, ⟨trivial, trivial⟩⟩⟩⟩) (e_M_fills_b2_44 v1 v2 v2 v1 a4 m hf hK)
def l_M_fills_l2 (v1 : Int32) (s0 : Int32 × zx_M) : Option (zx_M) := zx_lp zx_N (fun s : Int32 × zx_M => b_M_fills_l2 v1 s.1 s.2) s0
theorem el_M_fills_l2 (v1 : Int32) {d : Nat} {out : Option Value × zx_H} : ∀ (n : Nat) (s : Int32 × zx_M) (x : zx_M), zx_lp n (fun s : Int32 × zx_M => b_M_fills_l2 v1 s.1 s.2) s = some x → kx_M_fills_l2 v1 d out x → zx_Ev (d) 191 2 [some (.ref 0), some (.int v1), some (.int s.1), none] [] (zx_SM, s.2) out := by
  intro n
  induction n with
  | zero => intro s x hl _; simp [zx_lp] at hl
  | succ n ih =>
    intro s x hl hx
    unfold zx_lp at hl
    cases hb : b_M_fills_l2 v1 s.1 s.2 with
    | none => simp only [hb] at hl; cases hl
    | some z =>
      simp only [hb] at hl
      cases z with
      | inl s1 => exact eb_M_fills_l2 v1 s.1 s.2 hb (ih s1 x hl hx)
      | inr t =>
        simp only [Option.some.injEq] at hl
        subst hl
        exact eb_M_fills_l2 v1 s.1 s.2 hb hx
def f_M_fills (v1 : Int32) (m : zx_M) : Option zx_M := (l_M_fills_l2 v1 (0, m)).bind fun x11 => zx_let x11 fun y12 => some y12
theorem s_M_fills (v1 : Int32) (m : zx_M) {d : Nat} {y : zx_M} (hf : f_M_fills v1 m = some y) : zx_Ev (d) 191 0 [some (.ref 0), some (.int v1), none, none] [] (zx_SM, m) (none, (zx_SM, y)) := by
  unfold f_M_fills at hf
  refine zx_ev_blk zk_191 2 (pc1 := 2) (L1 := [some (.ref 0), some (.int v1), some (.int 0), none]) (st1 := []) (h1 := (zx_SM, m)) rfl ?_
  obtain ⟨x11, hx11, hf⟩ := zx_bind_eq hf
  refine zx_ev_sub (L := [some (.ref 0), some (.int v1), some (.int 0), none]) (⟨rfl, ⟨rfl, ⟨rfl, trivial⟩⟩⟩) (el_M_fills_l2 v1 zx_N (0, m) x11 hx11 ?_)
  obtain ⟨y12, hy12, hf⟩ := zx_let_eq hf
  subst hy12
  obtain rfl := Option.some.inj hf
  rfl
def f_M_sizeOf (v0 : Int32) (m : zx_M) : Option Int32 := if 0 ≤ v0 then some v0 else some (-v0)
theorem s_M_sizeOf (v0 : Int32) (m : zx_M) {d : Nat} {y : Int32} (hf : f_M_sizeOf v0 m = some y) : zx_Ev (d) 158 0 [some (.int v0)] [] (zx_SM, m) (some (.int y), (zx_SM, m)) := by
  unfold f_M_sizeOf at hf
  refine zx_ev_blk zk_158 1 (pc1 := 1) (L1 := [some (.int v0)]) (st1 := [.int v0]) (h1 := (zx_SM, m)) rfl ?_
  by_cases c1 : 0 ≤ v0
  · rw [if_pos c1] at hf
    refine zx_ev_ift zk_158 (P := 0 ≤ v0) (t := 9) (f := 4) rfl rfl c1 ?_
    refine zx_ev_blk zk_158 1 (pc1 := 10) (L1 := [some (.int v0)]) (st1 := [.int v0]) (h1 := (zx_SM, m)) rfl ?_
    obtain rfl := Option.some.inj hf
    exact zx_ev_ret zk_158 rfl rfl
  · rw [if_neg c1] at hf
    refine zx_ev_ifn zk_158 (P := 0 ≤ v0) (t := 9) (f := 4) rfl rfl c1 ?_
    refine zx_ev_blk zk_158 3 (pc1 := 10) (L1 := [some (.int v0)]) (st1 := [.int (-v0)]) (h1 := (zx_SM, m)) rfl ?_
    obtain rfl := Option.some.inj hf
    exact zx_ev_ret zk_158 rfl rfl
def f_M_isWell (v1 : Int32) (m : zx_M) : Option Int32 := (zx_ix 36 28).bind fun j1 => (zx_ix 36 29).bind fun j2 => (f_M_within (Int32.toInt64 v1) (Int32.toInt64 (m.1 1 j1)) (Int32.toInt64 (m.1 1 j2)) m).bind fun r4 => if r4 = 0 then some 0 else (zx_ix 36 30).bind fun j6 => if (m.1 1 j6) = (-2000000000) then some 1 else (zx_ix 36 30).bind fun j8 => (f_M_sizeOf (v1 - (m.1 1 j8)) m).bind fun r10 => if r10 ≤ 5 then some 0 else some 1
theorem s_M_isWell (v1 : Int32) (m : zx_M) {d : Nat} {y : Int32} (hf : f_M_isWell v1 m = some y) : zx_Ev (d + 1) 192 0 [some (.ref 0), some (.int v1)] [] (zx_SM, m) (some (.int y), (zx_SM, m)) := by
  unfold f_M_isWell at hf
  refine zx_ev_blk zk_192 5 (pc1 := 8) (L1 := [some (.ref 0), some (.int v1)]) (st1 := [.int 28, .ref 1, .long (Int32.toInt64 v1)]) (h1 := (zx_SM, m)) rfl ?_
  obtain ⟨j1, hj1, hf⟩ := zx_bind_eq hf
  refine zx_ev_step zk_192 rfl (st_iald rfl rfl hj1) ?_
  refine zx_ev_blk zk_192 4 (pc1 := 16) (L1 := [some (.ref 0), some (.int v1)]) (st1 := [.int 29, .ref 1, .long (Int32.toInt64 (m.1 1 j1)), .long (Int32.toInt64 v1)]) (h1 := (zx_SM, m)) rfl ?_
  obtain ⟨j2, hj2, hf⟩ := zx_bind_eq hf
  refine zx_ev_step zk_192 rfl (st_iald rfl rfl hj2) ?_
  refine zx_ev_blk zk_192 1 (pc1 := 18) (L1 := [some (.ref 0), some (.int v1)]) (st1 := [.long (Int32.toInt64 (m.1 1 j2)), .long (Int32.toInt64 (m.1 1 j1)), .long (Int32.toInt64 v1)]) (h1 := (zx_SM, m)) rfl ?_
  obtain ⟨r4, hv3, hf⟩ := zx_bind_eq hf
  refine zx_ev_call (d := d + 0) zk_192 (v := some (.int r4)) (h1 := (zx_SM, m)) rfl rfl zt_157 rfl zx_SMn rfl rfl (s_M_within _ _ _ _ (d := d + 0) hv3) ?_
  by_cases c5 : r4 = 0
  · rw [if_pos c5] at hf
    refine zx_ev_ift zk_192 (P := r4 = 0) (t := 56) (f := 24) rfl rfl c5 ?_
    refine zx_ev_blk zk_192 1 (pc1 := 57) (L1 := [some (.ref 0), some (.int v1)]) (st1 := [.int 0]) (h1 := (zx_SM, m)) rfl ?_
    obtain rfl := Option.some.inj hf
    exact zx_ev_ret zk_192 rfl (zx_ret_z (Or.inl rfl))
  · rw [if_neg c5] at hf
    refine zx_ev_ifn zk_192 (P := r4 = 0) (t := 56) (f := 24) rfl rfl c5 ?_
    refine zx_ev_blk zk_192 3 (pc1 := 30) (L1 := [some (.ref 0), some (.int v1)]) (st1 := [.int 30, .ref 1]) (h1 := (zx_SM, m)) rfl ?_
    obtain ⟨j6, hj6, hf⟩ := zx_bind_eq hf
    refine zx_ev_step zk_192 rfl (st_iald rfl rfl hj6) ?_
    refine zx_ev_blk zk_192 1 (pc1 := 33) (L1 := [some (.ref 0), some (.int v1)]) (st1 := [.int (-2000000000), .int (m.1 1 j6)]) (h1 := (zx_SM, m)) rfl ?_
    by_cases c7 : (m.1 1 j6) = (-2000000000)
    · rw [if_pos c7] at hf
      refine zx_ev_ift zk_192 (P := (m.1 1 j6) = (-2000000000)) (t := 52) (f := 36) rfl rfl c7 ?_
      refine zx_ev_blk zk_192 2 (pc1 := 57) (L1 := [some (.ref 0), some (.int v1)]) (st1 := [.int 1]) (h1 := (zx_SM, m)) rfl ?_
      obtain rfl := Option.some.inj hf
      exact zx_ev_ret zk_192 rfl (zx_ret_z (Or.inr rfl))
    · rw [if_neg c7] at hf
      refine zx_ev_ifn zk_192 (P := (m.1 1 j6) = (-2000000000)) (t := 52) (f := 36) rfl rfl c7 ?_
      refine zx_ev_blk zk_192 4 (pc1 := 43) (L1 := [some (.ref 0), some (.int v1)]) (st1 := [.int 30, .ref 1, .int v1]) (h1 := (zx_SM, m)) rfl ?_
      obtain ⟨j8, hj8, hf⟩ := zx_bind_eq hf
      refine zx_ev_step zk_192 rfl (st_iald rfl rfl hj8) ?_
      refine zx_ev_blk zk_192 1 (pc1 := 45) (L1 := [some (.ref 0), some (.int v1)]) (st1 := [.int (v1 - (m.1 1 j8))]) (h1 := (zx_SM, m)) rfl ?_
      obtain ⟨r10, hv9, hf⟩ := zx_bind_eq hf
      refine zx_ev_call (d := d + 0) zk_192 (v := some (.int r10)) (h1 := (zx_SM, m)) rfl rfl zt_158 rfl zx_SMn rfl rfl (s_M_sizeOf _ _ (d := d + 0) hv9) ?_
      refine zx_ev_blk zk_192 1 (pc1 := 49) (L1 := [some (.ref 0), some (.int v1)]) (st1 := [.int 5, .int r10]) (h1 := (zx_SM, m)) rfl ?_
      by_cases c11 : r10 ≤ 5
      · rw [if_pos c11] at hf
        refine zx_ev_ift zk_192 (P := r10 ≤ 5) (t := 56) (f := 52) rfl rfl c11 ?_
        refine zx_ev_blk zk_192 1 (pc1 := 57) (L1 := [some (.ref 0), some (.int v1)]) (st1 := [.int 0]) (h1 := (zx_SM, m)) rfl ?_
        obtain rfl := Option.some.inj hf
        exact zx_ev_ret zk_192 rfl (zx_ret_z (Or.inl rfl))
      · rw [if_neg c11] at hf
        refine zx_ev_ifn zk_192 (P := r10 ≤ 5) (t := 56) (f := 52) rfl rfl c11 ?_
        refine zx_ev_blk zk_192 2 (pc1 := 57) (L1 := [some (.ref 0), some (.int v1)]) (st1 := [.int 1]) (h1 := (zx_SM, m)) rfl ?_
        obtain rfl := Option.some.inj hf
        exact zx_ev_ret zk_192 rfl (zx_ret_z (Or.inr rfl))
def kx_M_meets_l2 (v1 : Int32) (m : zx_M) (d : Nat) (out : Option Value × zx_H) : Int32 → Prop
  | y => out = (some (.int y), (zx_SM, m))
def kl_M_meets_l2 (v1 : Int32) (m : zx_M) (d : Nat) (out : Option Value × zx_H) : (Int32) ⊕ (Int32) → Prop
  | .inl v2 => zx_Ev (d + 1) 193 2 [some (.ref 0), some (.int v1), some (.int v2)] [] (zx_SM, m) out
  | .inr x => kx_M_meets_l2 v1 m d out x
def n_M_meets_b2_58 (v1 : Int32) (v2 : Int32) (m : zx_M) : Option ((Int32) ⊕ (Int32)) := zx_let (v2 + 1) fun a3 => some (.inl a3)
theorem e_M_meets_b2_58 (v1 : Int32) (v2 : Int32) (m : zx_M) {d : Nat} {out : Option Value × zx_H} {y : (Int32) ⊕ (Int32)} (hf : n_M_meets_b2_58 v1 v2 m = some y) (hK : kl_M_meets_l2 v1 m d out y) : zx_Ev (d + 1) 193 58 [some (.ref 0), some (.int v1), some (.int v2)] [] (zx_SM, m) out := by
  unfold n_M_meets_b2_58 at hf
  obtain ⟨a3, ha3, hf⟩ := zx_let_eq hf
  refine zx_ev_blk zk_193 2 (pc1 := 2) (L1 := [some (.ref 0), some (.int v1), some (.int a3)]) (st1 := []) (h1 := (zx_SM, m)) (by subst ha3; rfl) ?_
  obtain rfl := Option.some.inj hf
  exact zx_ev_sub (L := [some (.ref 0), some (.int v1), some (.int a3)]) (⟨rfl, ⟨rfl, ⟨rfl, trivial⟩⟩⟩) hK
def b_M_meets_l2 (v1 : Int32) (v2 : Int32) (m : zx_M) : Option ((Int32) ⊕ (Int32)) := if (m.1 0 20) ≤ v2 then some (.inr 0) else if v2 = v1 then n_M_meets_b2_58 v1 v2 m else (zx_ix 7 v2).bind fun j4 => (zx_ix 7 v1).bind fun j5 => (f_M_sizeOf ((m.1 10 j4) - (m.1 10 j5)) m).bind fun r7 => if 10 < r7 then n_M_meets_b2_58 v1 v2 m else (zx_ix 7 v2).bind fun j9 => (zx_ix 7 v1).bind fun j10 => (f_M_sizeOf ((m.1 9 j9) - (m.1 9 j10)) m).bind fun r12 => if 4 < r12 then n_M_meets_b2_58 v1 v2 m else some (.inr 1)
theorem eb_M_meets_l2 (v1 : Int32) (v2 : Int32) (m : zx_M) {d : Nat} {out : Option Value × zx_H} {y : (Int32) ⊕ (Int32)} (hf : b_M_meets_l2 v1 v2 m = some y) (hK : kl_M_meets_l2 v1 m d out y) : zx_Ev (d + 1) 193 2 [some (.ref 0), some (.int v1), some (.int v2)] [] (zx_SM, m) out := by
  unfold b_M_meets_l2 at hf
  refine zx_ev_blk zk_193 3 (pc1 := 7) (L1 := [some (.ref 0), some (.int v1), some (.int v2)]) (st1 := [.int (m.1 0 20), .int v2]) (h1 := (zx_SM, m)) rfl ?_
  by_cases c1 : (m.1 0 20) ≤ v2
  · rw [if_pos c1] at hf
    refine zx_ev_ift zk_193 (P := (m.1 0 20) ≤ v2) (t := 64) (f := 10) rfl rfl c1 ?_
    refine zx_ev_blk zk_193 1 (pc1 := 65) (L1 := [some (.ref 0), some (.int v1), some (.int v2)]) (st1 := [.int 0]) (h1 := (zx_SM, m)) rfl ?_
    obtain rfl := Option.some.inj hf
    rw [show out = _ from hK]
    exact zx_ev_ret zk_193 rfl (zx_ret_z (Or.inl rfl))
  · rw [if_neg c1] at hf
    refine zx_ev_ifn zk_193 (P := (m.1 0 20) ≤ v2) (t := 64) (f := 10) rfl rfl c1 ?_
    refine zx_ev_blk zk_193 2 (pc1 := 12) (L1 := [some (.ref 0), some (.int v1), some (.int v2)]) (st1 := [.int v1, .int v2]) (h1 := (zx_SM, m)) rfl ?_
    by_cases c2 : v2 = v1
    · rw [if_pos c2] at hf
      refine zx_ev_ift zk_193 (P := v2 = v1) (t := 58) (f := 15) rfl rfl c2 ?_
      exact zx_ev_sub (L := [some (.ref 0), some (.int v1), some (.int v2)]) (⟨rfl, ⟨rfl, ⟨rfl, trivial⟩⟩⟩) (e_M_meets_b2_58 v1 v2 m hf hK)
    · rw [if_neg c2] at hf
      refine zx_ev_ifn zk_193 (P := v2 = v1) (t := 58) (f := 15) rfl rfl c2 ?_
      refine zx_ev_blk zk_193 3 (pc1 := 20) (L1 := [some (.ref 0), some (.int v1), some (.int v2)]) (st1 := [.int v2, .ref 10]) (h1 := (zx_SM, m)) rfl ?_
      obtain ⟨j4, hj4, hf⟩ := zx_bind_eq hf
      refine zx_ev_step zk_193 rfl (st_iald rfl rfl hj4) ?_
      refine zx_ev_blk zk_193 3 (pc1 := 26) (L1 := [some (.ref 0), some (.int v1), some (.int v2)]) (st1 := [.int v1, .ref 10, .int (m.1 10 j4)]) (h1 := (zx_SM, m)) rfl ?_
      obtain ⟨j5, hj5, hf⟩ := zx_bind_eq hf
      refine zx_ev_step zk_193 rfl (st_iald rfl rfl hj5) ?_
      refine zx_ev_blk zk_193 1 (pc1 := 28) (L1 := [some (.ref 0), some (.int v1), some (.int v2)]) (st1 := [.int ((m.1 10 j4) - (m.1 10 j5))]) (h1 := (zx_SM, m)) rfl ?_
      obtain ⟨r7, hv6, hf⟩ := zx_bind_eq hf
      refine zx_ev_call (d := d + 0) zk_193 (v := some (.int r7)) (h1 := (zx_SM, m)) rfl rfl zt_158 rfl zx_SMn rfl rfl (s_M_sizeOf _ _ (d := d + 0) hv6) ?_
      refine zx_ev_blk zk_193 1 (pc1 := 33) (L1 := [some (.ref 0), some (.int v1), some (.int v2)]) (st1 := [.int 10, .int r7]) (h1 := (zx_SM, m)) rfl ?_
      by_cases c8 : 10 < r7
      · rw [if_pos c8] at hf
        refine zx_ev_ift zk_193 (P := 10 < r7) (t := 58) (f := 36) rfl rfl c8 ?_
        exact zx_ev_sub (L := [some (.ref 0), some (.int v1), some (.int v2)]) (⟨rfl, ⟨rfl, ⟨rfl, trivial⟩⟩⟩) (e_M_meets_b2_58 v1 v2 m hf hK)
      · rw [if_neg c8] at hf
        refine zx_ev_ifn zk_193 (P := 10 < r7) (t := 58) (f := 36) rfl rfl c8 ?_
        refine zx_ev_blk zk_193 3 (pc1 := 41) (L1 := [some (.ref 0), some (.int v1), some (.int v2)]) (st1 := [.int v2, .ref 9]) (h1 := (zx_SM, m)) rfl ?_
        obtain ⟨j9, hj9, hf⟩ := zx_bind_eq hf
        refine zx_ev_step zk_193 rfl (st_iald rfl rfl hj9) ?_
        refine zx_ev_blk zk_193 3 (pc1 := 47) (L1 := [some (.ref 0), some (.int v1), some (.int v2)]) (st1 := [.int v1, .ref 9, .int (m.1 9 j9)]) (h1 := (zx_SM, m)) rfl ?_
        obtain ⟨j10, hj10, hf⟩ := zx_bind_eq hf
        refine zx_ev_step zk_193 rfl (st_iald rfl rfl hj10) ?_
        refine zx_ev_blk zk_193 1 (pc1 := 49) (L1 := [some (.ref 0), some (.int v1), some (.int v2)]) (st1 := [.int ((m.1 9 j9) - (m.1 9 j10))]) (h1 := (zx_SM, m)) rfl ?_
        obtain ⟨r12, hv11, hf⟩ := zx_bind_eq hf
        refine zx_ev_call (d := d + 0) zk_193 (v := some (.int r12)) (h1 := (zx_SM, m)) rfl rfl zt_158 rfl zx_SMn rfl rfl (s_M_sizeOf _ _ (d := d + 0) hv11) ?_
        refine zx_ev_blk zk_193 1 (pc1 := 53) (L1 := [some (.ref 0), some (.int v1), some (.int v2)]) (st1 := [.int 4, .int r12]) (h1 := (zx_SM, m)) rfl ?_
        by_cases c13 : 4 < r12
        · rw [if_pos c13] at hf
          refine zx_ev_ift zk_193 (P := 4 < r12) (t := 58) (f := 56) rfl rfl c13 ?_
          exact zx_ev_sub (L := [some (.ref 0), some (.int v1), some (.int v2)]) (⟨rfl, ⟨rfl, ⟨rfl, trivial⟩⟩⟩) (e_M_meets_b2_58 v1 v2 m hf hK)
        · rw [if_neg c13] at hf
          refine zx_ev_ifn zk_193 (P := 4 < r12) (t := 58) (f := 56) rfl rfl c13 ?_
          refine zx_ev_blk zk_193 1 (pc1 := 57) (L1 := [some (.ref 0), some (.int v1), some (.int v2)]) (st1 := [.int 1]) (h1 := (zx_SM, m)) rfl ?_
          obtain rfl := Option.some.inj hf
          rw [show out = _ from hK]
          exact zx_ev_ret zk_193 rfl (zx_ret_z (Or.inr rfl))
def l_M_meets_l2 (v1 : Int32) (m : zx_M) (s0 : Int32) : Option (Int32) := zx_lp zx_N (fun s : Int32 => b_M_meets_l2 v1 s m) s0
theorem el_M_meets_l2 (v1 : Int32) (m : zx_M) {d : Nat} {out : Option Value × zx_H} : ∀ (n : Nat) (s : Int32) (x : Int32), zx_lp n (fun s : Int32 => b_M_meets_l2 v1 s m) s = some x → kx_M_meets_l2 v1 m d out x → zx_Ev (d + 1) 193 2 [some (.ref 0), some (.int v1), some (.int s)] [] (zx_SM, m) out := by
  intro n
  induction n with
  | zero => intro s x hl _; simp [zx_lp] at hl
  | succ n ih =>
    intro s x hl hx
    unfold zx_lp at hl
    cases hb : b_M_meets_l2 v1 s m with
    | none => simp only [hb] at hl; cases hl
    | some z =>
      simp only [hb] at hl
      cases z with
      | inl s1 => exact eb_M_meets_l2 v1 s m hb (ih s1 x hl hx)
      | inr t =>
        simp only [Option.some.injEq] at hl
        subst hl
        exact eb_M_meets_l2 v1 s m hb hx
def f_M_meets (v1 : Int32) (m : zx_M) : Option Int32 := (l_M_meets_l2 v1 m 0).bind fun x14 => zx_let x14 fun y15 => some y15
theorem s_M_meets (v1 : Int32) (m : zx_M) {d : Nat} {y : Int32} (hf : f_M_meets v1 m = some y) : zx_Ev (d + 1) 193 0 [some (.ref 0), some (.int v1), none] [] (zx_SM, m) (some (.int y), (zx_SM, m)) := by
  unfold f_M_meets at hf
  refine zx_ev_blk zk_193 2 (pc1 := 2) (L1 := [some (.ref 0), some (.int v1), some (.int 0)]) (st1 := []) (h1 := (zx_SM, m)) rfl ?_
  obtain ⟨x14, hx14, hf⟩ := zx_bind_eq hf
  refine zx_ev_sub (L := [some (.ref 0), some (.int v1), some (.int 0)]) (⟨rfl, ⟨rfl, ⟨rfl, trivial⟩⟩⟩) (el_M_meets_l2 v1 m zx_N 0 x14 hx14 ?_)
  obtain ⟨y15, hy15, hf⟩ := zx_let_eq hf
  subst hy15
  obtain rfl := Option.some.inj hf
  rfl
def kx_M_goodMany_l4 (m : zx_M) (d : Nat) (out : Option Value × zx_H) : Int32 → Prop
  | y => out = (some (.int y), (zx_SM, m))
def kl_M_goodMany_l4 (m : zx_M) (d : Nat) (out : Option Value × zx_H) : (Int32 × Int32) ⊕ (Int32) → Prop
  | .inl (v1, v2) => zx_Ev (d + 2) 196 4 [some (.ref 0), some (.int v1), some (.int v2)] [] (zx_SM, m) out
  | .inr x => kx_M_goodMany_l4 m d out x
def n_M_goodMany_b4_39 (v2 : Int32) (t0 : Int32) (t1 : Int32) (m : zx_M) : Option ((Int32 × Int32) ⊕ (Int32)) := zx_let (t0 + t1) fun a6 => zx_let (v2 + 1) fun a7 => some (.inl (a6, a7))
theorem e_M_goodMany_b4_39 (v2 : Int32) (t0 : Int32) (t1 : Int32) (m : zx_M) {d : Nat} {out : Option Value × zx_H} {y : (Int32 × Int32) ⊕ (Int32)} (hf : n_M_goodMany_b4_39 v2 t0 t1 m = some y) (hK : kl_M_goodMany_l4 m d out y) : zx_Ev (d + 2) 196 39 [some (.ref 0), none, some (.int v2)] [.int t1, .int t0] (zx_SM, m) out := by
  unfold n_M_goodMany_b4_39 at hf
  obtain ⟨a6, ha6, hf⟩ := zx_let_eq hf
  obtain ⟨a7, ha7, hf⟩ := zx_let_eq hf
  refine zx_ev_blk zk_196 4 (pc1 := 4) (L1 := [some (.ref 0), some (.int a6), some (.int a7)]) (st1 := []) (h1 := (zx_SM, m)) (by subst ha6; subst ha7; rfl) ?_
  obtain rfl := Option.some.inj hf
  exact zx_ev_sub (L := [some (.ref 0), some (.int a6), some (.int a7)]) (⟨rfl, ⟨rfl, ⟨rfl, trivial⟩⟩⟩) hK
def n_M_goodMany_b4_38 (v2 : Int32) (t0 : Int32) (m : zx_M) : Option ((Int32 × Int32) ⊕ (Int32)) := n_M_goodMany_b4_39 v2 t0 0 m
theorem e_M_goodMany_b4_38 (v2 : Int32) (t0 : Int32) (m : zx_M) {d : Nat} {out : Option Value × zx_H} {y : (Int32 × Int32) ⊕ (Int32)} (hf : n_M_goodMany_b4_38 v2 t0 m = some y) (hK : kl_M_goodMany_l4 m d out y) : zx_Ev (d + 2) 196 38 [some (.ref 0), none, some (.int v2)] [.int t0] (zx_SM, m) out := by
  unfold n_M_goodMany_b4_38 at hf
  refine zx_ev_blk zk_196 1 (pc1 := 39) (L1 := [some (.ref 0), none, some (.int v2)]) (st1 := [.int 0, .int t0]) (h1 := (zx_SM, m)) rfl ?_
  exact zx_ev_sub (L := [some (.ref 0), none, some (.int v2)]) (⟨rfl, ⟨rfl, trivial⟩⟩) (e_M_goodMany_b4_39 v2 t0 0 m hf hK)
def b_M_goodMany_l4 (v1 : Int32) (v2 : Int32) (m : zx_M) : Option ((Int32 × Int32) ⊕ (Int32)) := if (m.1 0 20) ≤ v2 then some (.inr v1) else (zx_ix 7 v2).bind fun j2 => (f_M_isWell (m.1 10 j2) m).bind fun r4 => if r4 = 0 then n_M_goodMany_b4_38 v2 v1 m else (f_M_meets v2 m).bind fun r9 => if ¬ r9 = 0 then n_M_goodMany_b4_38 v2 v1 m else n_M_goodMany_b4_39 v2 v1 1 m
theorem eb_M_goodMany_l4 (v1 : Int32) (v2 : Int32) (m : zx_M) {d : Nat} {out : Option Value × zx_H} {y : (Int32 × Int32) ⊕ (Int32)} (hf : b_M_goodMany_l4 v1 v2 m = some y) (hK : kl_M_goodMany_l4 m d out y) : zx_Ev (d + 2) 196 4 [some (.ref 0), some (.int v1), some (.int v2)] [] (zx_SM, m) out := by
  unfold b_M_goodMany_l4 at hf
  refine zx_ev_blk zk_196 3 (pc1 := 9) (L1 := [some (.ref 0), some (.int v1), some (.int v2)]) (st1 := [.int (m.1 0 20), .int v2]) (h1 := (zx_SM, m)) rfl ?_
  by_cases c1 : (m.1 0 20) ≤ v2
  · rw [if_pos c1] at hf
    refine zx_ev_ift zk_196 (P := (m.1 0 20) ≤ v2) (t := 47) (f := 12) rfl rfl c1 ?_
    refine zx_ev_blk zk_196 1 (pc1 := 48) (L1 := [some (.ref 0), some (.int v1), some (.int v2)]) (st1 := [.int v1]) (h1 := (zx_SM, m)) rfl ?_
    obtain rfl := Option.some.inj hf
    rw [show out = _ from hK]
    exact zx_ev_ret zk_196 rfl rfl
  · rw [if_neg c1] at hf
    refine zx_ev_ifn zk_196 (P := (m.1 0 20) ≤ v2) (t := 47) (f := 12) rfl rfl c1 ?_
    refine zx_ev_blk zk_196 5 (pc1 := 19) (L1 := [some (.ref 0), some (.int v1), some (.int v2)]) (st1 := [.int v2, .ref 10, .ref 0, .int v1]) (h1 := (zx_SM, m)) rfl ?_
    obtain ⟨j2, hj2, hf⟩ := zx_bind_eq hf
    refine zx_ev_step zk_196 rfl (st_iald rfl rfl hj2) ?_
    obtain ⟨r4, hv3, hf⟩ := zx_bind_eq hf
    refine zx_ev_call (d := d + 1) zk_196 (v := some (.int r4)) (h1 := (zx_SM, m)) rfl rfl zt_192 rfl zx_SMn rfl rfl (s_M_isWell _ _ (d := d + 0) hv3) ?_
    by_cases c5 : r4 = 0
    · rw [if_pos c5] at hf
      refine zx_ev_ift zk_196 (P := r4 = 0) (t := 38) (f := 26) rfl rfl c5 ?_
      exact zx_ev_sub (L := [some (.ref 0), none, some (.int v2)]) (⟨rfl, ⟨trivial, ⟨rfl, trivial⟩⟩⟩) (e_M_goodMany_b4_38 v2 v1 m hf hK)
    · rw [if_neg c5] at hf
      refine zx_ev_ifn zk_196 (P := r4 = 0) (t := 38) (f := 26) rfl rfl c5 ?_
      refine zx_ev_blk zk_196 2 (pc1 := 28) (L1 := [some (.ref 0), some (.int v1), some (.int v2)]) (st1 := [.int v2, .ref 0, .int v1]) (h1 := (zx_SM, m)) rfl ?_
      obtain ⟨r9, hv8, hf⟩ := zx_bind_eq hf
      refine zx_ev_call (d := d + 1) zk_196 (v := some (.int r9)) (h1 := (zx_SM, m)) rfl rfl zt_193 rfl zx_SMn rfl rfl (s_M_meets _ _ (d := d + 0) hv8) ?_
      by_cases c10 : ¬ r9 = 0
      · rw [if_pos c10] at hf
        refine zx_ev_ift zk_196 (P := ¬ r9 = 0) (t := 38) (f := 34) rfl rfl c10 ?_
        exact zx_ev_sub (L := [some (.ref 0), none, some (.int v2)]) (⟨rfl, ⟨trivial, ⟨rfl, trivial⟩⟩⟩) (e_M_goodMany_b4_38 v2 v1 m hf hK)
      · rw [if_neg c10] at hf
        refine zx_ev_ifn zk_196 (P := ¬ r9 = 0) (t := 38) (f := 34) rfl rfl c10 ?_
        refine zx_ev_blk zk_196 2 (pc1 := 39) (L1 := [some (.ref 0), some (.int v1), some (.int v2)]) (st1 := [.int 1, .int v1]) (h1 := (zx_SM, m)) rfl ?_
        exact zx_ev_sub (L := [some (.ref 0), none, some (.int v2)]) (⟨rfl, ⟨trivial, ⟨rfl, trivial⟩⟩⟩) (e_M_goodMany_b4_39 v2 v1 1 m hf hK)
def l_M_goodMany_l4 (m : zx_M) (s0 : Int32 × Int32) : Option (Int32) := zx_lp zx_N (fun s : Int32 × Int32 => b_M_goodMany_l4 s.1 s.2 m) s0
theorem el_M_goodMany_l4 (m : zx_M) {d : Nat} {out : Option Value × zx_H} : ∀ (n : Nat) (s : Int32 × Int32) (x : Int32), zx_lp n (fun s : Int32 × Int32 => b_M_goodMany_l4 s.1 s.2 m) s = some x → kx_M_goodMany_l4 m d out x → zx_Ev (d + 2) 196 4 [some (.ref 0), some (.int s.1), some (.int s.2)] [] (zx_SM, m) out := by
  intro n
  induction n with
  | zero => intro s x hl _; simp [zx_lp] at hl
  | succ n ih =>
    intro s x hl hx
    unfold zx_lp at hl
    cases hb : b_M_goodMany_l4 s.1 s.2 m with
    | none => simp only [hb] at hl; cases hl
    | some z =>
      simp only [hb] at hl
      cases z with
      | inl s1 => exact eb_M_goodMany_l4 s.1 s.2 m hb (ih s1 x hl hx)
      | inr t =>
        simp only [Option.some.injEq] at hl
        subst hl
        exact eb_M_goodMany_l4 s.1 s.2 m hb hx
def f_M_goodMany (m : zx_M) : Option Int32 := (l_M_goodMany_l4 m (0, 0)).bind fun x11 => zx_let x11 fun y12 => some y12
theorem s_M_goodMany (m : zx_M) {d : Nat} {y : Int32} (hf : f_M_goodMany m = some y) : zx_Ev (d + 2) 196 0 [some (.ref 0), none, none] [] (zx_SM, m) (some (.int y), (zx_SM, m)) := by
  unfold f_M_goodMany at hf
  refine zx_ev_blk zk_196 4 (pc1 := 4) (L1 := [some (.ref 0), some (.int 0), some (.int 0)]) (st1 := []) (h1 := (zx_SM, m)) rfl ?_
  obtain ⟨x11, hx11, hf⟩ := zx_bind_eq hf
  refine zx_ev_sub (L := [some (.ref 0), some (.int 0), some (.int 0)]) (⟨rfl, ⟨rfl, ⟨rfl, trivial⟩⟩⟩) (el_M_goodMany_l4 m zx_N (0, 0) x11 hx11 ?_)
  obtain ⟨y12, hy12, hf⟩ := zx_let_eq hf
  subst hy12
  obtain rfl := Option.some.inj hf
  rfl
def f_M_goodFrom (v1 : Int32) (m : zx_M) : Option (Int32 × zx_M) := (f_M_fills v1 m).bind fun m2 => (f_M_goodMany m2).bind fun r4 => some (r4, m2)
theorem s_M_goodFrom (v1 : Int32) (m : zx_M) {d : Nat} {y : (Int32 × zx_M)} (hf : f_M_goodFrom v1 m = some y) : zx_Ev (d + 3) 197 0 [some (.ref 0), some (.int v1)] [] (zx_SM, m) (some (.int y.1), (zx_SM, y.2)) := by
  unfold f_M_goodFrom at hf
  refine zx_ev_blk zk_197 2 (pc1 := 2) (L1 := [some (.ref 0), some (.int v1)]) (st1 := [.int v1, .ref 0]) (h1 := (zx_SM, m)) rfl ?_
  obtain ⟨m2, hv1, hf⟩ := zx_bind_eq hf
  refine zx_ev_call (d := d + 2) zk_197 (v := none) (h1 := (zx_SM, m2)) rfl rfl zt_191 rfl zx_SMn rfl rfl (s_M_fills _ _ (d := d + 2) hv1) ?_
  refine zx_ev_blk zk_197 1 (pc1 := 6) (L1 := [some (.ref 0), some (.int v1)]) (st1 := [.ref 0]) (h1 := (zx_SM, m2)) rfl ?_
  obtain ⟨r4, hv3, hf⟩ := zx_bind_eq hf
  refine zx_ev_call (d := d + 2) zk_197 (v := some (.int r4)) (h1 := (zx_SM, m2)) rfl rfl zt_196 rfl zx_SMn rfl rfl (s_M_goodMany _ (d := d + 0) hv3) ?_
  obtain rfl := Option.some.inj hf
  exact zx_ev_ret zk_197 rfl rfl
def kx_M_countFor_l60 (v2 : Int32) (v3 : Int32) (d : Nat) (out : Option Value × zx_H) : Int32 × Int32 × zx_M → Prop
  | (x4, x5, m) => zx_Ev (d + 70) 209 118 [some (.ref 0), none, none, some (.int v3), some (.int x4), some (.int x5), none, none] [] (zx_SM, m) out
def kl_M_countFor_l60 (v2 : Int32) (v3 : Int32) (d : Nat) (out : Option Value × zx_H) : (Int32 × Int32 × Int32 × zx_M) ⊕ (Int32 × Int32 × zx_M) → Prop
  | .inl (v4, v5, v6, m) => zx_Ev (d + 70) 209 60 [some (.ref 0), none, some (.int v2), some (.int v3), some (.int v4), some (.int v5), some (.int v6), none] [] (zx_SM, m) out
  | .inr x => kx_M_countFor_l60 v2 v3 d out x
def n_M_countFor_b60_110 (v2 : Int32) (v3 : Int32) (v4 : Int32) (v6 : Int32) (t0 : Int32) (m : zx_M) : Option ((Int32 × Int32 × Int32 × zx_M) ⊕ (Int32 × Int32 × zx_M)) := zx_let (v6 + 1) fun a23 => some (.inl (v4, t0, a23, m))
theorem e_M_countFor_b60_110 (v2 : Int32) (v3 : Int32) (v4 : Int32) (v6 : Int32) (t0 : Int32) (m : zx_M) {d : Nat} {out : Option Value × zx_H} {y : (Int32 × Int32 × Int32 × zx_M) ⊕ (Int32 × Int32 × zx_M)} (hf : n_M_countFor_b60_110 v2 v3 v4 v6 t0 m = some y) (hK : kl_M_countFor_l60 v2 v3 d out y) : zx_Ev (d + 70) 209 110 [some (.ref 0), none, some (.int v2), some (.int v3), some (.int v4), none, some (.int v6), none] [.int t0] (zx_SM, m) out := by
  unfold n_M_countFor_b60_110 at hf
  obtain ⟨a23, ha23, hf⟩ := zx_let_eq hf
  refine zx_ev_blk zk_209 3 (pc1 := 60) (L1 := [some (.ref 0), none, some (.int v2), some (.int v3), some (.int v4), some (.int t0), some (.int a23), none]) (st1 := []) (h1 := (zx_SM, m)) (by subst ha23; rfl) ?_
  obtain rfl := Option.some.inj hf
  exact zx_ev_sub (L := [some (.ref 0), none, some (.int v2), some (.int v3), some (.int v4), some (.int t0), some (.int a23), none]) (⟨rfl, ⟨rfl, ⟨rfl, ⟨rfl, ⟨rfl, ⟨rfl, trivial⟩⟩⟩⟩⟩⟩) hK
def n_M_countFor_b60_94 (v2 : Int32) (v3 : Int32) (v5 : Int32) (v6 : Int32) (v7 : Int32) (t0 : Int32) (m : zx_M) : Option ((Int32 × Int32 × Int32 × zx_M) ⊕ (Int32 × Int32 × zx_M)) := if v7 ≤ v5 then n_M_countFor_b60_110 v2 v3 t0 v6 v5 m else n_M_countFor_b60_110 v2 v3 t0 v6 v7 m
theorem e_M_countFor_b60_94 (v2 : Int32) (v3 : Int32) (v5 : Int32) (v6 : Int32) (v7 : Int32) (t0 : Int32) (m : zx_M) {d : Nat} {out : Option Value × zx_H} {y : (Int32 × Int32 × Int32 × zx_M) ⊕ (Int32 × Int32 × zx_M)} (hf : n_M_countFor_b60_94 v2 v3 v5 v6 v7 t0 m = some y) (hK : kl_M_countFor_l60 v2 v3 d out y) : zx_Ev (d + 70) 209 94 [some (.ref 0), none, some (.int v2), some (.int v3), none, some (.int v5), some (.int v6), some (.int v7)] [.int t0] (zx_SM, m) out := by
  unfold n_M_countFor_b60_94 at hf
  refine zx_ev_blk zk_209 3 (pc1 := 100) (L1 := [some (.ref 0), none, some (.int v2), some (.int v3), some (.int t0), some (.int v5), some (.int v6), some (.int v7)]) (st1 := [.int v5, .int v7]) (h1 := (zx_SM, m)) rfl ?_
  by_cases c22 : v7 ≤ v5
  · rw [if_pos c22] at hf
    refine zx_ev_ift zk_209 (P := v7 ≤ v5) (t := 108) (f := 103) rfl rfl c22 ?_
    refine zx_ev_blk zk_209 1 (pc1 := 110) (L1 := [some (.ref 0), none, some (.int v2), some (.int v3), some (.int t0), some (.int v5), some (.int v6), some (.int v7)]) (st1 := [.int v5]) (h1 := (zx_SM, m)) rfl ?_
    exact zx_ev_sub (L := [some (.ref 0), none, some (.int v2), some (.int v3), some (.int t0), none, some (.int v6), none]) (⟨rfl, ⟨rfl, ⟨rfl, ⟨rfl, ⟨trivial, ⟨rfl, ⟨trivial, trivial⟩⟩⟩⟩⟩⟩⟩) (e_M_countFor_b60_110 v2 v3 t0 v6 v5 m hf hK)
  · rw [if_neg c22] at hf
    refine zx_ev_ifn zk_209 (P := v7 ≤ v5) (t := 108) (f := 103) rfl rfl c22 ?_
    refine zx_ev_blk zk_209 2 (pc1 := 110) (L1 := [some (.ref 0), none, some (.int v2), some (.int v3), some (.int t0), some (.int v5), some (.int v6), some (.int v7)]) (st1 := [.int v7]) (h1 := (zx_SM, m)) rfl ?_
    exact zx_ev_sub (L := [some (.ref 0), none, some (.int v2), some (.int v3), some (.int t0), none, some (.int v6), none]) (⟨rfl, ⟨rfl, ⟨rfl, ⟨rfl, ⟨trivial, ⟨rfl, ⟨trivial, trivial⟩⟩⟩⟩⟩⟩⟩) (e_M_countFor_b60_110 v2 v3 t0 v6 v7 m hf hK)
def b_M_countFor_l60 (v2 : Int32) (v3 : Int32) (v4 : Int32) (v5 : Int32) (v6 : Int32) (m : zx_M) : Option ((Int32 × Int32 × Int32 × zx_M) ⊕ (Int32 × Int32 × zx_M)) := if 20 < v6 then some (.inr (v4, v5, m)) else (f_M_counts v6 m).bind fun m17 => (f_M_goodFrom v2 m17).bind fun (r19, m20) => if r19 ≤ v5 then n_M_countFor_b60_94 v2 v3 v5 v6 r19 v4 m20 else n_M_countFor_b60_94 v2 v3 v5 v6 r19 v6 m20
theorem eb_M_countFor_l60 (v2 : Int32) (v3 : Int32) (v4 : Int32) (v5 : Int32) (v6 : Int32) (m : zx_M) {d : Nat} {out : Option Value × zx_H} {y : (Int32 × Int32 × Int32 × zx_M) ⊕ (Int32 × Int32 × zx_M)} (hf : b_M_countFor_l60 v2 v3 v4 v5 v6 m = some y) (hK : kl_M_countFor_l60 v2 v3 d out y) : zx_Ev (d + 70) 209 60 [some (.ref 0), none, some (.int v2), some (.int v3), some (.int v4), some (.int v5), some (.int v6), none] [] (zx_SM, m) out := by
  unfold b_M_countFor_l60 at hf
  refine zx_ev_blk zk_209 2 (pc1 := 64) (L1 := [some (.ref 0), none, some (.int v2), some (.int v3), some (.int v4), some (.int v5), some (.int v6), none]) (st1 := [.int 20, .int v6]) (h1 := (zx_SM, m)) rfl ?_
  by_cases c15 : 20 < v6
  · rw [if_pos c15] at hf
    refine zx_ev_ift zk_209 (P := 20 < v6) (t := 118) (f := 67) rfl rfl c15 ?_
    obtain rfl := Option.some.inj hf
    exact zx_ev_sub (L := [some (.ref 0), none, none, some (.int v3), some (.int v4), some (.int v5), none, none]) (⟨rfl, ⟨trivial, ⟨rfl, ⟨rfl, ⟨rfl, ⟨trivial, trivial⟩⟩⟩⟩⟩⟩) hK
  · rw [if_neg c15] at hf
    refine zx_ev_ifn zk_209 (P := 20 < v6) (t := 118) (f := 67) rfl rfl c15 ?_
    refine zx_ev_blk zk_209 2 (pc1 := 70) (L1 := [some (.ref 0), none, some (.int v2), some (.int v3), some (.int v4), some (.int v5), some (.int v6), none]) (st1 := [.int v6, .ref 0]) (h1 := (zx_SM, m)) rfl ?_
    obtain ⟨m17, hv16, hf⟩ := zx_bind_eq hf
    refine zx_ev_call (d := d + 69) zk_209 (v := none) (h1 := (zx_SM, m17)) rfl rfl zt_201 rfl zx_SMn rfl rfl (s_M_counts _ _ (d := d + 69) hv16) ?_
    refine zx_ev_blk zk_209 2 (pc1 := 75) (L1 := [some (.ref 0), none, some (.int v2), some (.int v3), some (.int v4), some (.int v5), some (.int v6), none]) (st1 := [.int v2, .ref 0]) (h1 := (zx_SM, m17)) rfl ?_
    obtain ⟨⟨r19, m20⟩, hv18, hf⟩ := zx_bind_eq hf
    dsimp only at hf
    refine zx_ev_call (d := d + 69) zk_209 (v := some (.int r19)) (h1 := (zx_SM, m20)) rfl rfl zt_197 rfl zx_SMn rfl rfl (s_M_goodFrom _ _ (d := d + 66) hv18) ?_
    refine zx_ev_blk zk_209 3 (pc1 := 84) (L1 := [some (.ref 0), none, some (.int v2), some (.int v3), some (.int v4), some (.int v5), some (.int v6), some (.int r19)]) (st1 := [.int v5, .int r19]) (h1 := (zx_SM, m20)) rfl ?_
    by_cases c21 : r19 ≤ v5
    · rw [if_pos c21] at hf
      refine zx_ev_ift zk_209 (P := r19 ≤ v5) (t := 92) (f := 87) rfl rfl c21 ?_
      refine zx_ev_blk zk_209 1 (pc1 := 94) (L1 := [some (.ref 0), none, some (.int v2), some (.int v3), some (.int v4), some (.int v5), some (.int v6), some (.int r19)]) (st1 := [.int v4]) (h1 := (zx_SM, m20)) rfl ?_
      exact zx_ev_sub (L := [some (.ref 0), none, some (.int v2), some (.int v3), none, some (.int v5), some (.int v6), some (.int r19)]) (⟨rfl, ⟨rfl, ⟨rfl, ⟨trivial, ⟨rfl, ⟨rfl, ⟨rfl, trivial⟩⟩⟩⟩⟩⟩⟩) (e_M_countFor_b60_94 v2 v3 v5 v6 r19 v4 m20 hf hK)
    · rw [if_neg c21] at hf
      refine zx_ev_ifn zk_209 (P := r19 ≤ v5) (t := 92) (f := 87) rfl rfl c21 ?_
      refine zx_ev_blk zk_209 2 (pc1 := 94) (L1 := [some (.ref 0), none, some (.int v2), some (.int v3), some (.int v4), some (.int v5), some (.int v6), some (.int r19)]) (st1 := [.int v6]) (h1 := (zx_SM, m20)) rfl ?_
      exact zx_ev_sub (L := [some (.ref 0), none, some (.int v2), some (.int v3), none, some (.int v5), some (.int v6), some (.int r19)]) (⟨rfl, ⟨rfl, ⟨rfl, ⟨trivial, ⟨rfl, ⟨rfl, ⟨rfl, trivial⟩⟩⟩⟩⟩⟩⟩) (e_M_countFor_b60_94 v2 v3 v5 v6 r19 v6 m20 hf hK)
def l_M_countFor_l60 (v2 : Int32) (v3 : Int32) (s0 : Int32 × Int32 × Int32 × zx_M) : Option (Int32 × Int32 × zx_M) := zx_lp zx_N (fun s : Int32 × Int32 × Int32 × zx_M => b_M_countFor_l60 v2 v3 s.1 s.2.1 s.2.2.1 s.2.2.2) s0
theorem el_M_countFor_l60 (v2 : Int32) (v3 : Int32) {d : Nat} {out : Option Value × zx_H} : ∀ (n : Nat) (s : Int32 × Int32 × Int32 × zx_M) (x : Int32 × Int32 × zx_M), zx_lp n (fun s : Int32 × Int32 × Int32 × zx_M => b_M_countFor_l60 v2 v3 s.1 s.2.1 s.2.2.1 s.2.2.2) s = some x → kx_M_countFor_l60 v2 v3 d out x → zx_Ev (d + 70) 209 60 [some (.ref 0), none, some (.int v2), some (.int v3), some (.int s.1), some (.int s.2.1), some (.int s.2.2.1), none] [] (zx_SM, s.2.2.2) out := by
  intro n
  induction n with
  | zero => intro s x hl _; simp [zx_lp] at hl
  | succ n ih =>
    intro s x hl hx
    unfold zx_lp at hl
    cases hb : b_M_countFor_l60 v2 v3 s.1 s.2.1 s.2.2.1 s.2.2.2 with
    | none => simp only [hb] at hl; cases hl
    | some z =>
      simp only [hb] at hl
      cases z with
      | inl s1 => exact eb_M_countFor_l60 v2 v3 s.1 s.2.1 s.2.2.1 s.2.2.2 hb (ih s1 x hl hx)
      | inr t =>
        simp only [Option.some.injEq] at hl
        subst hl
        exact eb_M_countFor_l60 v2 v3 s.1 s.2.1 s.2.2.1 s.2.2.2 hb hx
def f_M_countFor (v1 : Int32) (v2 : Int32) (v3 : Int32) (m : zx_M) : Option (Int32 × zx_M) := (f_M_rowIs v1 0 m).bind fun r2 => if r2 = (-1) then some ((-1), m) else (f_M_isYard v2 m).bind fun r5 => if r5 = 0 then some ((-1), m) else (f_M_within (Int32.toInt64 v3) 0 1 m).bind fun r8 => if ¬ r8 = 0 then (f_M_rowIs v1 0 m).bind fun r11 => if 0 ≤ r11 then (f_M_takesOrder v1 1 m).bind fun m14 => (l_M_countFor_l60 v2 v3 (0, (-1), 1, m14)).bind fun x24 => match x24 with | (w25, w26, m27) => if ¬ v3 = 0 then some (w26, m27) else some (w25, m27) else (f_M_rowIs v1 0 m).bind fun r30 => some (r30, m) else some ((-1), m)
theorem s_M_countFor (v1 : Int32) (v2 : Int32) (v3 : Int32) (m : zx_M) {d : Nat} {y : (Int32 × zx_M)} (hf : f_M_countFor v1 v2 v3 m = some y) : zx_Ev (d + 70) 209 0 [some (.ref 0), some (.int v1), some (.int v2), some (.int v3), none, none, none, none] [] (zx_SM, m) (some (.int y.1), (zx_SM, y.2)) := by
  unfold f_M_countFor at hf
  refine zx_ev_blk zk_209 3 (pc1 := 3) (L1 := [some (.ref 0), some (.int v1), some (.int v2), some (.int v3), none, none, none, none]) (st1 := [.int 0, .int v1, .ref 0]) (h1 := (zx_SM, m)) rfl ?_
  obtain ⟨r2, hv1, hf⟩ := zx_bind_eq hf
  refine zx_ev_call (d := d + 69) zk_209 (v := some (.int r2)) (h1 := (zx_SM, m)) rfl rfl zt_198 rfl zx_SMn rfl rfl (s_M_rowIs _ _ _ (d := d + 67) hv1) ?_
  refine zx_ev_blk zk_209 1 (pc1 := 7) (L1 := [some (.ref 0), some (.int v1), some (.int v2), some (.int v3), none, none, none, none]) (st1 := [.int (-1), .int r2]) (h1 := (zx_SM, m)) rfl ?_
  by_cases c3 : r2 = (-1)
  · rw [if_pos c3] at hf
    refine zx_ev_ift zk_209 (P := r2 = (-1)) (t := 27) (f := 10) rfl rfl c3 ?_
    refine zx_ev_blk zk_209 1 (pc1 := 28) (L1 := [some (.ref 0), some (.int v1), some (.int v2), some (.int v3), none, none, none, none]) (st1 := [.int (-1)]) (h1 := (zx_SM, m)) rfl ?_
    obtain rfl := Option.some.inj hf
    exact zx_ev_ret zk_209 rfl rfl
  · rw [if_neg c3] at hf
    refine zx_ev_ifn zk_209 (P := r2 = (-1)) (t := 27) (f := 10) rfl rfl c3 ?_
    refine zx_ev_blk zk_209 1 (pc1 := 11) (L1 := [some (.ref 0), some (.int v1), some (.int v2), some (.int v3), none, none, none, none]) (st1 := [.int v2]) (h1 := (zx_SM, m)) rfl ?_
    obtain ⟨r5, hv4, hf⟩ := zx_bind_eq hf
    refine zx_ev_call (d := d + 69) zk_209 (v := some (.int r5)) (h1 := (zx_SM, m)) rfl rfl zt_166 rfl zx_SMn rfl rfl (s_M_isYard _ _ (d := d + 68) hv4) ?_
    by_cases c6 : r5 = 0
    · rw [if_pos c6] at hf
      refine zx_ev_ift zk_209 (P := r5 = 0) (t := 27) (f := 17) rfl rfl c6 ?_
      refine zx_ev_blk zk_209 1 (pc1 := 28) (L1 := [some (.ref 0), some (.int v1), some (.int v2), some (.int v3), none, none, none, none]) (st1 := [.int (-1)]) (h1 := (zx_SM, m)) rfl ?_
      obtain rfl := Option.some.inj hf
      exact zx_ev_ret zk_209 rfl rfl
    · rw [if_neg c6] at hf
      refine zx_ev_ifn zk_209 (P := r5 = 0) (t := 27) (f := 17) rfl rfl c6 ?_
      refine zx_ev_blk zk_209 4 (pc1 := 21) (L1 := [some (.ref 0), some (.int v1), some (.int v2), some (.int v3), none, none, none, none]) (st1 := [.long 1, .long 0, .long (Int32.toInt64 v3)]) (h1 := (zx_SM, m)) rfl ?_
      obtain ⟨r8, hv7, hf⟩ := zx_bind_eq hf
      refine zx_ev_call (d := d + 69) zk_209 (v := some (.int r8)) (h1 := (zx_SM, m)) rfl rfl zt_157 rfl zx_SMn rfl rfl (s_M_within _ _ _ _ (d := d + 69) hv7) ?_
      by_cases c9 : ¬ r8 = 0
      · rw [if_pos c9] at hf
        refine zx_ev_ift zk_209 (P := ¬ r8 = 0) (t := 29) (f := 27) rfl rfl c9 ?_
        refine zx_ev_blk zk_209 3 (pc1 := 32) (L1 := [some (.ref 0), some (.int v1), some (.int v2), some (.int v3), none, none, none, none]) (st1 := [.int 0, .int v1, .ref 0]) (h1 := (zx_SM, m)) rfl ?_
        obtain ⟨r11, hv10, hf⟩ := zx_bind_eq hf
        refine zx_ev_call (d := d + 69) zk_209 (v := some (.int r11)) (h1 := (zx_SM, m)) rfl rfl zt_198 rfl zx_SMn rfl rfl (s_M_rowIs _ _ _ (d := d + 67) hv10) ?_
        by_cases c12 : 0 ≤ r11
        · rw [if_pos c12] at hf
          refine zx_ev_ift zk_209 (P := 0 ≤ r11) (t := 45) (f := 38) rfl rfl c12 ?_
          refine zx_ev_blk zk_209 3 (pc1 := 48) (L1 := [some (.ref 0), some (.int v1), some (.int v2), some (.int v3), none, none, none, none]) (st1 := [.int 1, .int v1, .ref 0]) (h1 := (zx_SM, m)) rfl ?_
          obtain ⟨m14, hv13, hf⟩ := zx_bind_eq hf
          refine zx_ev_call (d := d + 69) zk_209 (v := none) (h1 := (zx_SM, m14)) rfl rfl zt_200 rfl zx_SMn rfl rfl (s_M_takesOrder _ _ _ (d := d + 0) hv13) ?_
          refine zx_ev_blk zk_209 6 (pc1 := 60) (L1 := [some (.ref 0), some (.int v1), some (.int v2), some (.int v3), some (.int 0), some (.int (-1)), some (.int 1), none]) (st1 := []) (h1 := (zx_SM, m14)) rfl ?_
          obtain ⟨x24, hx24, hf⟩ := zx_bind_eq hf
          refine zx_ev_sub (L := [some (.ref 0), none, some (.int v2), some (.int v3), some (.int 0), some (.int (-1)), some (.int 1), none]) (⟨rfl, ⟨trivial, ⟨rfl, ⟨rfl, ⟨rfl, ⟨rfl, ⟨rfl, trivial⟩⟩⟩⟩⟩⟩⟩) (el_M_countFor_l60 v2 v3 zx_N (0, (-1), 1, m14) x24 hx24 ?_)
          obtain ⟨w25, w26, m27⟩ := x24
          dsimp only at hf
          show zx_Ev (d + 70) 209 118 [some (.ref 0), none, none, some (.int v3), some (.int w25), some (.int w26), none, none] [] (zx_SM, m27) _
          refine zx_ev_blk zk_209 1 (pc1 := 119) (L1 := [some (.ref 0), none, none, some (.int v3), some (.int w25), some (.int w26), none, none]) (st1 := [.int v3]) (h1 := (zx_SM, m27)) rfl ?_
          by_cases c28 : ¬ v3 = 0
          · rw [if_pos c28] at hf
            refine zx_ev_ift zk_209 (P := ¬ v3 = 0) (t := 127) (f := 122) rfl rfl c28 ?_
            refine zx_ev_blk zk_209 1 (pc1 := 129) (L1 := [some (.ref 0), none, none, some (.int v3), some (.int w25), some (.int w26), none, none]) (st1 := [.int w26]) (h1 := (zx_SM, m27)) rfl ?_
            obtain rfl := Option.some.inj hf
            exact zx_ev_ret zk_209 rfl rfl
          · rw [if_neg c28] at hf
            refine zx_ev_ifn zk_209 (P := ¬ v3 = 0) (t := 127) (f := 122) rfl rfl c28 ?_
            refine zx_ev_blk zk_209 2 (pc1 := 129) (L1 := [some (.ref 0), none, none, some (.int v3), some (.int w25), some (.int w26), none, none]) (st1 := [.int w25]) (h1 := (zx_SM, m27)) rfl ?_
            obtain rfl := Option.some.inj hf
            exact zx_ev_ret zk_209 rfl rfl
        · rw [if_neg c12] at hf
          refine zx_ev_ifn zk_209 (P := 0 ≤ r11) (t := 45) (f := 38) rfl rfl c12 ?_
          refine zx_ev_blk zk_209 3 (pc1 := 41) (L1 := [some (.ref 0), some (.int v1), some (.int v2), some (.int v3), none, none, none, none]) (st1 := [.int 0, .int v1, .ref 0]) (h1 := (zx_SM, m)) rfl ?_
          obtain ⟨r30, hv29, hf⟩ := zx_bind_eq hf
          refine zx_ev_call (d := d + 69) zk_209 (v := some (.int r30)) (h1 := (zx_SM, m)) rfl rfl zt_198 rfl zx_SMn rfl rfl (s_M_rowIs _ _ _ (d := d + 67) hv29) ?_
          obtain rfl := Option.some.inj hf
          exact zx_ev_ret zk_209 rfl rfl
      · rw [if_neg c9] at hf
        refine zx_ev_ifn zk_209 (P := ¬ r8 = 0) (t := 29) (f := 27) rfl rfl c9 ?_
        refine zx_ev_blk zk_209 1 (pc1 := 28) (L1 := [some (.ref 0), some (.int v1), some (.int v2), some (.int v3), none, none, none, none]) (st1 := [.int (-1)]) (h1 := (zx_SM, m)) rfl ?_
        obtain rfl := Option.some.inj hf
        exact zx_ev_ret zk_209 rfl rfl
def f_M_isCount (v0 : Int32) (m : zx_M) : Option Int32 := (f_M_within (Int32.toInt64 v0) 1 20 m).bind fun r2 => if r2 = 0 ∨ r2 = 1 then some r2 else none
theorem s_M_isCount (v0 : Int32) (m : zx_M) {d : Nat} {y : Int32} (hf : f_M_isCount v0 m = some y) : zx_Ev (d + 1) 202 0 [some (.int v0)] [] (zx_SM, m) (some (.int y), (zx_SM, m)) := by
  unfold f_M_isCount at hf
  refine zx_ev_blk zk_202 4 (pc1 := 6) (L1 := [some (.int v0)]) (st1 := [.long 20, .long 1, .long (Int32.toInt64 v0)]) (h1 := (zx_SM, m)) rfl ?_
  obtain ⟨r2, hv1, hf⟩ := zx_bind_eq hf
  refine zx_ev_call (d := d + 0) zk_202 (v := some (.int r2)) (h1 := (zx_SM, m)) rfl rfl zt_157 rfl zx_SMn rfl rfl (s_M_within _ _ _ _ (d := d + 0) hv1) ?_
  by_cases c3 : r2 = 0 ∨ r2 = 1
  · rw [if_pos c3] at hf
    obtain rfl := Option.some.inj hf
    exact zx_ev_ret zk_202 rfl (zx_ret_z c3)
  · rw [if_neg c3] at hf; cases hf
def f_M_isYc (v0 : Int32) (m : zx_M) : Option Int32 := if v0 < 0 then some 0 else if 1998 < (v0 / 100) then some 0 else (f_M_isCount (zx_rem v0 100) m).bind fun r4 => if r4 = 0 then some 0 else some 1
theorem s_M_isYc (v0 : Int32) (m : zx_M) {d : Nat} {y : Int32} (hf : f_M_isYc v0 m = some y) : zx_Ev (d + 2) 203 0 [some (.int v0)] [] (zx_SM, m) (some (.int y), (zx_SM, m)) := by
  unfold f_M_isYc at hf
  refine zx_ev_blk zk_203 1 (pc1 := 1) (L1 := [some (.int v0)]) (st1 := [.int v0]) (h1 := (zx_SM, m)) rfl ?_
  by_cases c1 : v0 < 0
  · rw [if_pos c1] at hf
    refine zx_ev_ift zk_203 (P := v0 < 0) (t := 28) (f := 4) rfl rfl c1 ?_
    refine zx_ev_blk zk_203 1 (pc1 := 29) (L1 := [some (.int v0)]) (st1 := [.int 0]) (h1 := (zx_SM, m)) rfl ?_
    obtain rfl := Option.some.inj hf
    exact zx_ev_ret zk_203 rfl (zx_ret_z (Or.inl rfl))
  · rw [if_neg c1] at hf
    refine zx_ev_ifn zk_203 (P := v0 < 0) (t := 28) (f := 4) rfl rfl c1 ?_
    refine zx_ev_blk zk_203 2 (pc1 := 7) (L1 := [some (.int v0)]) (st1 := [.int 100, .int v0]) (h1 := (zx_SM, m)) rfl ?_
    refine zx_ev_step zk_203 rfl (st_idiv (by decide)) ?_
    refine zx_ev_blk zk_203 1 (pc1 := 11) (L1 := [some (.int v0)]) (st1 := [.int 1998, .int (v0 / 100)]) (h1 := (zx_SM, m)) rfl ?_
    by_cases c2 : 1998 < (v0 / 100)
    · rw [if_pos c2] at hf
      refine zx_ev_ift zk_203 (P := 1998 < (v0 / 100)) (t := 28) (f := 14) rfl rfl c2 ?_
      refine zx_ev_blk zk_203 1 (pc1 := 29) (L1 := [some (.int v0)]) (st1 := [.int 0]) (h1 := (zx_SM, m)) rfl ?_
      obtain rfl := Option.some.inj hf
      exact zx_ev_ret zk_203 rfl (zx_ret_z (Or.inl rfl))
    · rw [if_neg c2] at hf
      refine zx_ev_ifn zk_203 (P := 1998 < (v0 / 100)) (t := 28) (f := 14) rfl rfl c2 ?_
      refine zx_ev_blk zk_203 2 (pc1 := 17) (L1 := [some (.int v0)]) (st1 := [.int 100, .int v0]) (h1 := (zx_SM, m)) rfl ?_
      refine zx_ev_step zk_203 rfl (st_irem (by decide)) ?_
      obtain ⟨r4, hv3, hf⟩ := zx_bind_eq hf
      refine zx_ev_call (d := d + 1) zk_203 (v := some (.int r4)) (h1 := (zx_SM, m)) rfl rfl zt_202 rfl zx_SMn rfl rfl (s_M_isCount _ _ (d := d + 0) hv3) ?_
      by_cases c5 : r4 = 0
      · rw [if_pos c5] at hf
        refine zx_ev_ift zk_203 (P := r4 = 0) (t := 28) (f := 24) rfl rfl c5 ?_
        refine zx_ev_blk zk_203 1 (pc1 := 29) (L1 := [some (.int v0)]) (st1 := [.int 0]) (h1 := (zx_SM, m)) rfl ?_
        obtain rfl := Option.some.inj hf
        exact zx_ev_ret zk_203 rfl (zx_ret_z (Or.inl rfl))
      · rw [if_neg c5] at hf
        refine zx_ev_ifn zk_203 (P := r4 = 0) (t := 28) (f := 24) rfl rfl c5 ?_
        refine zx_ev_blk zk_203 2 (pc1 := 29) (L1 := [some (.int v0)]) (st1 := [.int 1]) (h1 := (zx_SM, m)) rfl ?_
        obtain rfl := Option.some.inj hf
        exact zx_ev_ret zk_203 rfl (zx_ret_z (Or.inr rfl))
def f_M_spotOf (v0 : Int32) (m : zx_M) : Option Int32 := some ((v0 / 100) - 999)
theorem s_M_spotOf (v0 : Int32) (m : zx_M) {d : Nat} {y : Int32} (hf : f_M_spotOf v0 m = some y) : zx_Ev (d) 204 0 [some (.int v0)] [] (zx_SM, m) (some (.int y), (zx_SM, m)) := by
  unfold f_M_spotOf at hf
  refine zx_ev_blk zk_204 2 (pc1 := 3) (L1 := [some (.int v0)]) (st1 := [.int 100, .int v0]) (h1 := (zx_SM, m)) rfl ?_
  refine zx_ev_step zk_204 rfl (st_idiv (by decide)) ?_
  refine zx_ev_blk zk_204 2 (pc1 := 8) (L1 := [some (.int v0)]) (st1 := [.int ((v0 / 100) - 999)]) (h1 := (zx_SM, m)) rfl ?_
  obtain rfl := Option.some.inj hf
  exact zx_ev_ret zk_204 rfl rfl
def f_M_down (v1 : Int32) (v2 : Int32) (v3 : Int32) (m : zx_M) : Option (Int32 × zx_M) := (f_M_rowIs v1 0 m).bind fun r2 => if ¬ r2 = 1 then some ((-2000000000), m) else (f_M_isYc v2 m).bind fun r5 => if r5 = 0 then some ((-2000000000), m) else if 0 ≤ v3 then (f_M_takesOrder v1 (zx_rem v2 100) m).bind fun m9 => (f_M_spotOf v2 m9).bind fun r11 => (f_M_fills r11 m9).bind fun m13 => if (m13.1 0 20) ≤ v3 then some ((-2000000000), m13) else (zx_ix 7 v3).bind fun j15 => some (m13.1 10 j15, m13) else some ((-2000000000), m)
theorem s_M_down (v1 : Int32) (v2 : Int32) (v3 : Int32) (m : zx_M) {d : Nat} {y : (Int32 × zx_M)} (hf : f_M_down v1 v2 v3 m = some y) : zx_Ev (d + 70) 205 0 [some (.ref 0), some (.int v1), some (.int v2), some (.int v3)] [] (zx_SM, m) (some (.int y.1), (zx_SM, y.2)) := by
  unfold f_M_down at hf
  refine zx_ev_blk zk_205 3 (pc1 := 3) (L1 := [some (.ref 0), some (.int v1), some (.int v2), some (.int v3)]) (st1 := [.int 0, .int v1, .ref 0]) (h1 := (zx_SM, m)) rfl ?_
  obtain ⟨r2, hv1, hf⟩ := zx_bind_eq hf
  refine zx_ev_call (d := d + 69) zk_205 (v := some (.int r2)) (h1 := (zx_SM, m)) rfl rfl zt_198 rfl zx_SMn rfl rfl (s_M_rowIs _ _ _ (d := d + 67) hv1) ?_
  refine zx_ev_blk zk_205 1 (pc1 := 7) (L1 := [some (.ref 0), some (.int v1), some (.int v2), some (.int v3)]) (st1 := [.int 1, .int r2]) (h1 := (zx_SM, m)) rfl ?_
  by_cases c3 : ¬ r2 = 1
  · rw [if_pos c3] at hf
    refine zx_ev_ift zk_205 (P := ¬ r2 = 1) (t := 21) (f := 10) rfl rfl c3 ?_
    refine zx_ev_blk zk_205 1 (pc1 := 23) (L1 := [some (.ref 0), some (.int v1), some (.int v2), some (.int v3)]) (st1 := [.int (-2000000000)]) (h1 := (zx_SM, m)) rfl ?_
    obtain rfl := Option.some.inj hf
    exact zx_ev_ret zk_205 rfl rfl
  · rw [if_neg c3] at hf
    refine zx_ev_ifn zk_205 (P := ¬ r2 = 1) (t := 21) (f := 10) rfl rfl c3 ?_
    refine zx_ev_blk zk_205 1 (pc1 := 11) (L1 := [some (.ref 0), some (.int v1), some (.int v2), some (.int v3)]) (st1 := [.int v2]) (h1 := (zx_SM, m)) rfl ?_
    obtain ⟨r5, hv4, hf⟩ := zx_bind_eq hf
    refine zx_ev_call (d := d + 69) zk_205 (v := some (.int r5)) (h1 := (zx_SM, m)) rfl rfl zt_203 rfl zx_SMn rfl rfl (s_M_isYc _ _ (d := d + 67) hv4) ?_
    by_cases c6 : r5 = 0
    · rw [if_pos c6] at hf
      refine zx_ev_ift zk_205 (P := r5 = 0) (t := 21) (f := 17) rfl rfl c6 ?_
      refine zx_ev_blk zk_205 1 (pc1 := 23) (L1 := [some (.ref 0), some (.int v1), some (.int v2), some (.int v3)]) (st1 := [.int (-2000000000)]) (h1 := (zx_SM, m)) rfl ?_
      obtain rfl := Option.some.inj hf
      exact zx_ev_ret zk_205 rfl rfl
    · rw [if_neg c6] at hf
      refine zx_ev_ifn zk_205 (P := r5 = 0) (t := 21) (f := 17) rfl rfl c6 ?_
      refine zx_ev_blk zk_205 1 (pc1 := 18) (L1 := [some (.ref 0), some (.int v1), some (.int v2), some (.int v3)]) (st1 := [.int v3]) (h1 := (zx_SM, m)) rfl ?_
      by_cases c7 : 0 ≤ v3
      · rw [if_pos c7] at hf
        refine zx_ev_ift zk_205 (P := 0 ≤ v3) (t := 24) (f := 21) rfl rfl c7 ?_
        refine zx_ev_blk zk_205 4 (pc1 := 29) (L1 := [some (.ref 0), some (.int v1), some (.int v2), some (.int v3)]) (st1 := [.int 100, .int v2, .int v1, .ref 0]) (h1 := (zx_SM, m)) rfl ?_
        refine zx_ev_step zk_205 rfl (st_irem (by decide)) ?_
        obtain ⟨m9, hv8, hf⟩ := zx_bind_eq hf
        refine zx_ev_call (d := d + 69) zk_205 (v := none) (h1 := (zx_SM, m9)) rfl rfl zt_200 rfl zx_SMn rfl rfl (s_M_takesOrder _ _ _ (d := d + 0) hv8) ?_
        refine zx_ev_blk zk_205 2 (pc1 := 35) (L1 := [some (.ref 0), some (.int v1), some (.int v2), some (.int v3)]) (st1 := [.int v2, .ref 0]) (h1 := (zx_SM, m9)) rfl ?_
        obtain ⟨r11, hv10, hf⟩ := zx_bind_eq hf
        refine zx_ev_call (d := d + 69) zk_205 (v := some (.int r11)) (h1 := (zx_SM, m9)) rfl rfl zt_204 rfl zx_SMn rfl rfl (s_M_spotOf _ _ (d := d + 69) hv10) ?_
        obtain ⟨m13, hv12, hf⟩ := zx_bind_eq hf
        refine zx_ev_call (d := d + 69) zk_205 (v := none) (h1 := (zx_SM, m13)) rfl rfl zt_191 rfl zx_SMn rfl rfl (s_M_fills _ _ (d := d + 69) hv12) ?_
        refine zx_ev_blk zk_205 3 (pc1 := 46) (L1 := [some (.ref 0), some (.int v1), some (.int v2), some (.int v3)]) (st1 := [.int (m13.1 0 20), .int v3]) (h1 := (zx_SM, m13)) rfl ?_
        by_cases c14 : (m13.1 0 20) ≤ v3
        · rw [if_pos c14] at hf
          refine zx_ev_ift zk_205 (P := (m13.1 0 20) ≤ v3) (t := 58) (f := 49) rfl rfl c14 ?_
          refine zx_ev_blk zk_205 1 (pc1 := 60) (L1 := [some (.ref 0), some (.int v1), some (.int v2), some (.int v3)]) (st1 := [.int (-2000000000)]) (h1 := (zx_SM, m13)) rfl ?_
          obtain rfl := Option.some.inj hf
          exact zx_ev_ret zk_205 rfl rfl
        · rw [if_neg c14] at hf
          refine zx_ev_ifn zk_205 (P := (m13.1 0 20) ≤ v3) (t := 58) (f := 49) rfl rfl c14 ?_
          refine zx_ev_blk zk_205 3 (pc1 := 54) (L1 := [some (.ref 0), some (.int v1), some (.int v2), some (.int v3)]) (st1 := [.int v3, .ref 10]) (h1 := (zx_SM, m13)) rfl ?_
          obtain ⟨j15, hj15, hf⟩ := zx_bind_eq hf
          refine zx_ev_step zk_205 rfl (st_iald rfl rfl hj15) ?_
          refine zx_ev_blk zk_205 1 (pc1 := 60) (L1 := [some (.ref 0), some (.int v1), some (.int v2), some (.int v3)]) (st1 := [.int (m13.1 10 j15)]) (h1 := (zx_SM, m13)) rfl ?_
          obtain rfl := Option.some.inj hf
          exact zx_ev_ret zk_205 rfl rfl
      · rw [if_neg c7] at hf
        refine zx_ev_ifn zk_205 (P := 0 ≤ v3) (t := 24) (f := 21) rfl rfl c7 ?_
        refine zx_ev_blk zk_205 1 (pc1 := 23) (L1 := [some (.ref 0), some (.int v1), some (.int v2), some (.int v3)]) (st1 := [.int (-2000000000)]) (h1 := (zx_SM, m)) rfl ?_
        obtain rfl := Option.some.inj hf
        exact zx_ev_ret zk_205 rfl rfl
def kx_M_drawn_l86 (v3 : Int32) (v4 : Int32) (d : Nat) (out : Option Value × zx_H) : Int32 × Int32 × zx_M → Prop
  | (x6, x7, m) => zx_Ev (d + 70) 231 221 [some (.ref 0), none, none, none, some (.int v4), none, some (.int x6), some (.int x7), none, none, none] [] (zx_SM, m) out
def kl_M_drawn_l86 (v3 : Int32) (v4 : Int32) (d : Nat) (out : Option Value × zx_H) : (Int32 × Int32 × Int32 × Int32 × zx_M) ⊕ (Int32 × Int32 × zx_M) → Prop
  | .inl (v5, v6, v7, v8, m) => zx_Ev (d + 70) 231 86 [some (.ref 0), none, none, some (.int v3), some (.int v4), some (.int v5), some (.int v6), some (.int v7), some (.int v8), none, none] [] (zx_SM, m) out
  | .inr x => kx_M_drawn_l86 v3 v4 d out x
def kx_M_drawn_lb86_102 (v3 : Int32) (v4 : Int32) (v6 : Int32) (v7 : Int32) (v8 : Int32) (d : Nat) (out : Option Value × zx_H) : Int32 × zx_M → Prop
  | (x5, m) => zx_Ev (d + 70) 231 179 [some (.ref 0), none, none, some (.int v3), some (.int v4), some (.int x5), some (.int v6), some (.int v7), some (.int v8), none, none] [] (zx_SM, m) out
def kl_M_drawn_lb86_102 (v3 : Int32) (v4 : Int32) (v6 : Int32) (v7 : Int32) (v8 : Int32) (d : Nat) (out : Option Value × zx_H) : (Int32 × Int32 × Int32 × zx_M) ⊕ (Int32 × zx_M) → Prop
  | .inl (v5, v9, v10, m) => zx_Ev (d + 70) 231 102 [some (.ref 0), none, none, some (.int v3), some (.int v4), some (.int v5), some (.int v6), some (.int v7), some (.int v8), some (.int v9), some (.int v10)] [] (zx_SM, m) out
  | .inr x => kx_M_drawn_lb86_102 v3 v4 v6 v7 v8 d out x
def n_M_drawn_b86_b102_153 (v3 : Int32) (v4 : Int32) (v5 : Int32) (v6 : Int32) (v7 : Int32) (v8 : Int32) (v10 : Int32) (t0 : Int32) (t1 : Int32) (m : zx_M) : Option ((Int32 × Int32 × Int32 × zx_M) ⊕ (Int32 × zx_M)) := zx_let (t0 + t1) fun a24 => (zx_ix 7 v10).bind fun j25 => zx_let (zx_u1 m 9 j25 (((zx_rem v3 100) * v10) + a24)) fun m26 => zx_let (v10 + 1) fun a27 => some (.inl (v5, a24, a27, m26))
theorem e_M_drawn_b86_b102_153 (v3 : Int32) (v4 : Int32) (v5 : Int32) (v6 : Int32) (v7 : Int32) (v8 : Int32) (v10 : Int32) (t0 : Int32) (t1 : Int32) (m : zx_M) {d : Nat} {out : Option Value × zx_H} {y : (Int32 × Int32 × Int32 × zx_M) ⊕ (Int32 × zx_M)} (hf : n_M_drawn_b86_b102_153 v3 v4 v5 v6 v7 v8 v10 t0 t1 m = some y) (hK : kl_M_drawn_lb86_102 v3 v4 v6 v7 v8 d out y) : zx_Ev (d + 70) 231 153 [some (.ref 0), none, none, some (.int v3), some (.int v4), some (.int v5), some (.int v6), some (.int v7), some (.int v8), none, some (.int v10)] [.int t1, .int t0] (zx_SM, m) out := by
  unfold n_M_drawn_b86_b102_153 at hf
  obtain ⟨a24, ha24, hf⟩ := zx_let_eq hf
  refine zx_ev_blk zk_231 7 (pc1 := 165) (L1 := [some (.ref 0), none, none, some (.int v3), some (.int v4), some (.int v5), some (.int v6), some (.int v7), some (.int v8), some (.int a24), some (.int v10)]) (st1 := [.int 100, .int v3, .int v10, .ref 9]) (h1 := (zx_SM, m)) (by subst ha24; rfl) ?_
  refine zx_ev_step zk_231 rfl (st_irem (by decide)) ?_
  refine zx_ev_blk zk_231 4 (pc1 := 172) (L1 := [some (.ref 0), none, none, some (.int v3), some (.int v4), some (.int v5), some (.int v6), some (.int v7), some (.int v8), some (.int a24), some (.int v10)]) (st1 := [.int (((zx_rem v3 100) * v10) + a24), .int v10, .ref 9]) (h1 := (zx_SM, m)) rfl ?_
  obtain ⟨j25, hj25, hf⟩ := zx_bind_eq hf
  refine zx_ev_step zk_231 rfl (st_iast rfl hj25) ?_
  obtain ⟨m26, hm26, hf⟩ := zx_let_eq hf
  rw [hm26]
  obtain ⟨a27, ha27, hf⟩ := zx_let_eq hf
  refine zx_ev_blk zk_231 2 (pc1 := 102) (L1 := [some (.ref 0), none, none, some (.int v3), some (.int v4), some (.int v5), some (.int v6), some (.int v7), some (.int v8), some (.int a24), some (.int a27)]) (st1 := []) (h1 := (zx_SM, m26)) (by subst ha27; rfl) ?_
  obtain rfl := Option.some.inj hf
  exact zx_ev_sub (L := [some (.ref 0), none, none, some (.int v3), some (.int v4), some (.int v5), some (.int v6), some (.int v7), some (.int v8), some (.int a24), some (.int a27)]) (⟨rfl, ⟨rfl, ⟨rfl, ⟨rfl, ⟨rfl, ⟨rfl, ⟨rfl, ⟨rfl, ⟨rfl, trivial⟩⟩⟩⟩⟩⟩⟩⟩⟩) hK
def b_M_drawn_lb86_102 (v3 : Int32) (v4 : Int32) (v5 : Int32) (v6 : Int32) (v7 : Int32) (v8 : Int32) (v9 : Int32) (v10 : Int32) (m : zx_M) : Option ((Int32 × Int32 × Int32 × zx_M) ⊕ (Int32 × zx_M)) := if (m.1 0 20) ≤ v10 then some (.inr (v5, m)) else zx_let ((v5 * 1103515245) + 12345) fun a19 => (zx_ix 7 v10).bind fun j20 => (f_M_ofJumper (m.1 8 j20) 3 m).bind fun r22 => if r22 ≤ (zx_rem (zx_ushr a19 8) 12) then n_M_drawn_b86_b102_153 v3 v4 a19 v6 v7 v8 v10 v9 0 m else n_M_drawn_b86_b102_153 v3 v4 a19 v6 v7 v8 v10 v9 5 m
theorem eb_M_drawn_lb86_102 (v3 : Int32) (v4 : Int32) (v5 : Int32) (v6 : Int32) (v7 : Int32) (v8 : Int32) (v9 : Int32) (v10 : Int32) (m : zx_M) {d : Nat} {out : Option Value × zx_H} {y : (Int32 × Int32 × Int32 × zx_M) ⊕ (Int32 × zx_M)} (hf : b_M_drawn_lb86_102 v3 v4 v5 v6 v7 v8 v9 v10 m = some y) (hK : kl_M_drawn_lb86_102 v3 v4 v6 v7 v8 d out y) : zx_Ev (d + 70) 231 102 [some (.ref 0), none, none, some (.int v3), some (.int v4), some (.int v5), some (.int v6), some (.int v7), some (.int v8), some (.int v9), some (.int v10)] [] (zx_SM, m) out := by
  unfold b_M_drawn_lb86_102 at hf
  refine zx_ev_blk zk_231 3 (pc1 := 108) (L1 := [some (.ref 0), none, none, some (.int v3), some (.int v4), some (.int v5), some (.int v6), some (.int v7), some (.int v8), some (.int v9), some (.int v10)]) (st1 := [.int (m.1 0 20), .int v10]) (h1 := (zx_SM, m)) rfl ?_
  by_cases c18 : (m.1 0 20) ≤ v10
  · rw [if_pos c18] at hf
    refine zx_ev_ift zk_231 (P := (m.1 0 20) ≤ v10) (t := 179) (f := 111) rfl rfl c18 ?_
    obtain rfl := Option.some.inj hf
    exact zx_ev_sub (L := [some (.ref 0), none, none, some (.int v3), some (.int v4), some (.int v5), some (.int v6), some (.int v7), some (.int v8), none, none]) (⟨rfl, ⟨rfl, ⟨rfl, ⟨rfl, ⟨rfl, ⟨rfl, ⟨rfl, ⟨trivial, ⟨trivial, trivial⟩⟩⟩⟩⟩⟩⟩⟩⟩) hK
  · rw [if_neg c18] at hf
    refine zx_ev_ifn zk_231 (P := (m.1 0 20) ≤ v10) (t := 179) (f := 111) rfl rfl c18 ?_
    obtain ⟨a19, ha19, hf⟩ := zx_let_eq hf
    refine zx_ev_blk zk_231 11 (pc1 := 132) (L1 := [some (.ref 0), none, none, some (.int v3), some (.int v4), some (.int a19), some (.int v6), some (.int v7), some (.int v8), some (.int v9), some (.int v10)]) (st1 := [.int 12, .int (zx_ushr a19 8), .int v9]) (h1 := (zx_SM, m)) (by subst ha19; rfl) ?_
    refine zx_ev_step zk_231 rfl (st_irem (by decide)) ?_
    refine zx_ev_blk zk_231 4 (pc1 := 140) (L1 := [some (.ref 0), none, none, some (.int v3), some (.int v4), some (.int a19), some (.int v6), some (.int v7), some (.int v8), some (.int v9), some (.int v10)]) (st1 := [.int v10, .ref 8, .ref 0, .int (zx_rem (zx_ushr a19 8) 12), .int v9]) (h1 := (zx_SM, m)) rfl ?_
    obtain ⟨j20, hj20, hf⟩ := zx_bind_eq hf
    refine zx_ev_step zk_231 rfl (st_iald rfl rfl hj20) ?_
    refine zx_ev_blk zk_231 1 (pc1 := 142) (L1 := [some (.ref 0), none, none, some (.int v3), some (.int v4), some (.int a19), some (.int v6), some (.int v7), some (.int v8), some (.int v9), some (.int v10)]) (st1 := [.int 3, .int (m.1 8 j20), .ref 0, .int (zx_rem (zx_ushr a19 8) 12), .int v9]) (h1 := (zx_SM, m)) rfl ?_
    obtain ⟨r22, hv21, hf⟩ := zx_bind_eq hf
    refine zx_ev_call (d := d + 69) zk_231 (v := some (.int r22)) (h1 := (zx_SM, m)) rfl rfl zt_165 rfl zx_SMn rfl rfl (s_M_ofJumper _ _ _ (d := d + 69) hv21) ?_
    by_cases c23 : r22 ≤ (zx_rem (zx_ushr a19 8) 12)
    · rw [if_pos c23] at hf
      refine zx_ev_ift zk_231 (P := r22 ≤ (zx_rem (zx_ushr a19 8) 12)) (t := 152) (f := 148) rfl rfl c23 ?_
      refine zx_ev_blk zk_231 1 (pc1 := 153) (L1 := [some (.ref 0), none, none, some (.int v3), some (.int v4), some (.int a19), some (.int v6), some (.int v7), some (.int v8), some (.int v9), some (.int v10)]) (st1 := [.int 0, .int v9]) (h1 := (zx_SM, m)) rfl ?_
      exact zx_ev_sub (L := [some (.ref 0), none, none, some (.int v3), some (.int v4), some (.int a19), some (.int v6), some (.int v7), some (.int v8), none, some (.int v10)]) (⟨rfl, ⟨rfl, ⟨rfl, ⟨rfl, ⟨rfl, ⟨rfl, ⟨rfl, ⟨trivial, ⟨rfl, trivial⟩⟩⟩⟩⟩⟩⟩⟩⟩) (e_M_drawn_b86_b102_153 v3 v4 a19 v6 v7 v8 v10 v9 0 m hf hK)
    · rw [if_neg c23] at hf
      refine zx_ev_ifn zk_231 (P := r22 ≤ (zx_rem (zx_ushr a19 8) 12)) (t := 152) (f := 148) rfl rfl c23 ?_
      refine zx_ev_blk zk_231 2 (pc1 := 153) (L1 := [some (.ref 0), none, none, some (.int v3), some (.int v4), some (.int a19), some (.int v6), some (.int v7), some (.int v8), some (.int v9), some (.int v10)]) (st1 := [.int 5, .int v9]) (h1 := (zx_SM, m)) rfl ?_
      exact zx_ev_sub (L := [some (.ref 0), none, none, some (.int v3), some (.int v4), some (.int a19), some (.int v6), some (.int v7), some (.int v8), none, some (.int v10)]) (⟨rfl, ⟨rfl, ⟨rfl, ⟨rfl, ⟨rfl, ⟨rfl, ⟨rfl, ⟨trivial, ⟨rfl, trivial⟩⟩⟩⟩⟩⟩⟩⟩⟩) (e_M_drawn_b86_b102_153 v3 v4 a19 v6 v7 v8 v10 v9 5 m hf hK)
def l_M_drawn_lb86_102 (v3 : Int32) (v4 : Int32) (v6 : Int32) (v7 : Int32) (v8 : Int32) (s0 : Int32 × Int32 × Int32 × zx_M) : Option (Int32 × zx_M) := zx_lp zx_N (fun s : Int32 × Int32 × Int32 × zx_M => b_M_drawn_lb86_102 v3 v4 s.1 v6 v7 v8 s.2.1 s.2.2.1 s.2.2.2) s0
theorem el_M_drawn_lb86_102 (v3 : Int32) (v4 : Int32) (v6 : Int32) (v7 : Int32) (v8 : Int32) {d : Nat} {out : Option Value × zx_H} : ∀ (n : Nat) (s : Int32 × Int32 × Int32 × zx_M) (x : Int32 × zx_M), zx_lp n (fun s : Int32 × Int32 × Int32 × zx_M => b_M_drawn_lb86_102 v3 v4 s.1 v6 v7 v8 s.2.1 s.2.2.1 s.2.2.2) s = some x → kx_M_drawn_lb86_102 v3 v4 v6 v7 v8 d out x → zx_Ev (d + 70) 231 102 [some (.ref 0), none, none, some (.int v3), some (.int v4), some (.int s.1), some (.int v6), some (.int v7), some (.int v8), some (.int s.2.1), some (.int s.2.2.1)] [] (zx_SM, s.2.2.2) out := by
  intro n
  induction n with
  | zero => intro s x hl _; simp [zx_lp] at hl
  | succ n ih =>
    intro s x hl hx
    unfold zx_lp at hl
    cases hb : b_M_drawn_lb86_102 v3 v4 s.1 v6 v7 v8 s.2.1 s.2.2.1 s.2.2.2 with
    | none => simp only [hb] at hl; cases hl
    | some z =>
      simp only [hb] at hl
      cases z with
      | inl s1 => exact eb_M_drawn_lb86_102 v3 v4 s.1 v6 v7 v8 s.2.1 s.2.2.1 s.2.2.2 hb (ih s1 x hl hx)
      | inr t =>
        simp only [Option.some.injEq] at hl
        subst hl
        exact eb_M_drawn_lb86_102 v3 v4 s.1 v6 v7 v8 s.2.1 s.2.2.1 s.2.2.2 hb hx
def n_M_drawn_b86_212 (v3 : Int32) (v4 : Int32) (v5 : Int32) (v6 : Int32) (v8 : Int32) (t0 : Int32) (t1 : Int32) (m : zx_M) : Option ((Int32 × Int32 × Int32 × Int32 × zx_M) ⊕ (Int32 × Int32 × zx_M)) := zx_let (t0 + t1) fun a38 => zx_let (v8 + 1) fun a39 => some (.inl (v5, v6, a38, a39, m))
theorem e_M_drawn_b86_212 (v3 : Int32) (v4 : Int32) (v5 : Int32) (v6 : Int32) (v8 : Int32) (t0 : Int32) (t1 : Int32) (m : zx_M) {d : Nat} {out : Option Value × zx_H} {y : (Int32 × Int32 × Int32 × Int32 × zx_M) ⊕ (Int32 × Int32 × zx_M)} (hf : n_M_drawn_b86_212 v3 v4 v5 v6 v8 t0 t1 m = some y) (hK : kl_M_drawn_l86 v3 v4 d out y) : zx_Ev (d + 70) 231 212 [some (.ref 0), none, none, some (.int v3), some (.int v4), some (.int v5), some (.int v6), none, some (.int v8), none, none] [.int t1, .int t0] (zx_SM, m) out := by
  unfold n_M_drawn_b86_212 at hf
  obtain ⟨a38, ha38, hf⟩ := zx_let_eq hf
  obtain ⟨a39, ha39, hf⟩ := zx_let_eq hf
  refine zx_ev_blk zk_231 4 (pc1 := 86) (L1 := [some (.ref 0), none, none, some (.int v3), some (.int v4), some (.int v5), some (.int v6), some (.int a38), some (.int a39), none, none]) (st1 := []) (h1 := (zx_SM, m)) (by subst ha38; subst ha39; rfl) ?_
  obtain rfl := Option.some.inj hf
  exact zx_ev_sub (L := [some (.ref 0), none, none, some (.int v3), some (.int v4), some (.int v5), some (.int v6), some (.int a38), some (.int a39), none, none]) (⟨rfl, ⟨rfl, ⟨rfl, ⟨rfl, ⟨rfl, ⟨rfl, ⟨rfl, trivial⟩⟩⟩⟩⟩⟩⟩) hK
def b_M_drawn_l86 (v3 : Int32) (v4 : Int32) (v5 : Int32) (v6 : Int32) (v7 : Int32) (v8 : Int32) (m : zx_M) : Option ((Int32 × Int32 × Int32 × Int32 × zx_M) ⊕ (Int32 × Int32 × zx_M)) := if (v4 / 10) ≤ v8 then some (.inr (v6, v7, m)) else (l_M_drawn_lb86_102 v3 v4 v6 v7 v8 (v5, 0, 0, m)).bind fun x28 => match x28 with | (w29, m30) => (f_M_spotOf v3 m30).bind fun r32 => (f_M_goodFrom r32 m30).bind fun (r34, m35) => zx_let (v6 + r34) fun a36 => if ¬ r34 = (m35.1 0 20) then n_M_drawn_b86_212 v3 v4 w29 a36 v8 v7 0 m35 else n_M_drawn_b86_212 v3 v4 w29 a36 v8 v7 1 m35
theorem eb_M_drawn_l86 (v3 : Int32) (v4 : Int32) (v5 : Int32) (v6 : Int32) (v7 : Int32) (v8 : Int32) (m : zx_M) {d : Nat} {out : Option Value × zx_H} {y : (Int32 × Int32 × Int32 × Int32 × zx_M) ⊕ (Int32 × Int32 × zx_M)} (hf : b_M_drawn_l86 v3 v4 v5 v6 v7 v8 m = some y) (hK : kl_M_drawn_l86 v3 v4 d out y) : zx_Ev (d + 70) 231 86 [some (.ref 0), none, none, some (.int v3), some (.int v4), some (.int v5), some (.int v6), some (.int v7), some (.int v8), none, none] [] (zx_SM, m) out := by
  unfold b_M_drawn_l86 at hf
  refine zx_ev_blk zk_231 3 (pc1 := 92) (L1 := [some (.ref 0), none, none, some (.int v3), some (.int v4), some (.int v5), some (.int v6), some (.int v7), some (.int v8), none, none]) (st1 := [.int 10, .int v4, .int v8]) (h1 := (zx_SM, m)) rfl ?_
  refine zx_ev_step zk_231 rfl (st_idiv (by decide)) ?_
  by_cases c17 : (v4 / 10) ≤ v8
  · rw [if_pos c17] at hf
    refine zx_ev_ift zk_231 (P := (v4 / 10) ≤ v8) (t := 221) (f := 96) rfl rfl c17 ?_
    obtain rfl := Option.some.inj hf
    exact zx_ev_sub (L := [some (.ref 0), none, none, none, some (.int v4), none, some (.int v6), some (.int v7), none, none, none]) (⟨rfl, ⟨trivial, ⟨rfl, ⟨trivial, ⟨rfl, ⟨rfl, ⟨trivial, trivial⟩⟩⟩⟩⟩⟩⟩) hK
  · rw [if_neg c17] at hf
    refine zx_ev_ifn zk_231 (P := (v4 / 10) ≤ v8) (t := 221) (f := 96) rfl rfl c17 ?_
    refine zx_ev_blk zk_231 4 (pc1 := 102) (L1 := [some (.ref 0), none, none, some (.int v3), some (.int v4), some (.int v5), some (.int v6), some (.int v7), some (.int v8), some (.int 0), some (.int 0)]) (st1 := []) (h1 := (zx_SM, m)) rfl ?_
    obtain ⟨x28, hx28, hf⟩ := zx_bind_eq hf
    refine zx_ev_sub (L := [some (.ref 0), none, none, some (.int v3), some (.int v4), some (.int v5), some (.int v6), some (.int v7), some (.int v8), some (.int 0), some (.int 0)]) (⟨rfl, ⟨rfl, ⟨rfl, ⟨rfl, ⟨rfl, ⟨rfl, ⟨rfl, ⟨rfl, ⟨rfl, trivial⟩⟩⟩⟩⟩⟩⟩⟩⟩) (el_M_drawn_lb86_102 v3 v4 v6 v7 v8 zx_N (v5, 0, 0, m) x28 hx28 ?_)
    obtain ⟨w29, m30⟩ := x28
    dsimp only at hf
    show zx_Ev (d + 70) 231 179 [some (.ref 0), none, none, some (.int v3), some (.int v4), some (.int w29), some (.int v6), some (.int v7), some (.int v8), none, none] [] (zx_SM, m30) out
    refine zx_ev_blk zk_231 2 (pc1 := 181) (L1 := [some (.ref 0), none, none, some (.int v3), some (.int v4), some (.int w29), some (.int v6), some (.int v7), some (.int v8), none, none]) (st1 := [.int v3, .ref 0]) (h1 := (zx_SM, m30)) rfl ?_
    obtain ⟨r32, hv31, hf⟩ := zx_bind_eq hf
    refine zx_ev_call (d := d + 69) zk_231 (v := some (.int r32)) (h1 := (zx_SM, m30)) rfl rfl zt_204 rfl zx_SMn rfl rfl (s_M_spotOf _ _ (d := d + 69) hv31) ?_
    obtain ⟨⟨r34, m35⟩, hv33, hf⟩ := zx_bind_eq hf
    dsimp only at hf
    refine zx_ev_call (d := d + 69) zk_231 (v := some (.int r34)) (h1 := (zx_SM, m35)) rfl rfl zt_197 rfl zx_SMn rfl rfl (s_M_goodFrom _ _ (d := d + 66) hv33) ?_
    obtain ⟨a36, ha36, hf⟩ := zx_let_eq hf
    refine zx_ev_blk zk_231 9 (pc1 := 204) (L1 := [some (.ref 0), none, none, some (.int v3), some (.int v4), some (.int w29), some (.int a36), some (.int v7), some (.int v8), none, some (.int r34)]) (st1 := [.int (m35.1 0 20), .int r34, .int v7]) (h1 := (zx_SM, m35)) (by subst ha36; rfl) ?_
    by_cases c37 : ¬ r34 = (m35.1 0 20)
    · rw [if_pos c37] at hf
      refine zx_ev_ift zk_231 (P := ¬ r34 = (m35.1 0 20)) (t := 211) (f := 207) rfl rfl c37 ?_
      refine zx_ev_blk zk_231 1 (pc1 := 212) (L1 := [some (.ref 0), none, none, some (.int v3), some (.int v4), some (.int w29), some (.int a36), some (.int v7), some (.int v8), none, some (.int r34)]) (st1 := [.int 0, .int v7]) (h1 := (zx_SM, m35)) rfl ?_
      exact zx_ev_sub (L := [some (.ref 0), none, none, some (.int v3), some (.int v4), some (.int w29), some (.int a36), none, some (.int v8), none, none]) (⟨rfl, ⟨rfl, ⟨rfl, ⟨rfl, ⟨rfl, ⟨trivial, ⟨rfl, ⟨trivial, trivial⟩⟩⟩⟩⟩⟩⟩⟩) (e_M_drawn_b86_212 v3 v4 w29 a36 v8 v7 0 m35 hf hK)
    · rw [if_neg c37] at hf
      refine zx_ev_ifn zk_231 (P := ¬ r34 = (m35.1 0 20)) (t := 211) (f := 207) rfl rfl c37 ?_
      refine zx_ev_blk zk_231 2 (pc1 := 212) (L1 := [some (.ref 0), none, none, some (.int v3), some (.int v4), some (.int w29), some (.int a36), some (.int v7), some (.int v8), none, some (.int r34)]) (st1 := [.int 1, .int v7]) (h1 := (zx_SM, m35)) rfl ?_
      exact zx_ev_sub (L := [some (.ref 0), none, none, some (.int v3), some (.int v4), some (.int w29), some (.int a36), none, some (.int v8), none, none]) (⟨rfl, ⟨rfl, ⟨rfl, ⟨rfl, ⟨rfl, ⟨trivial, ⟨rfl, ⟨trivial, trivial⟩⟩⟩⟩⟩⟩⟩⟩) (e_M_drawn_b86_212 v3 v4 w29 a36 v8 v7 1 m35 hf hK)
def l_M_drawn_l86 (v3 : Int32) (v4 : Int32) (s0 : Int32 × Int32 × Int32 × Int32 × zx_M) : Option (Int32 × Int32 × zx_M) := zx_lp zx_N (fun s : Int32 × Int32 × Int32 × Int32 × zx_M => b_M_drawn_l86 v3 v4 s.1 s.2.1 s.2.2.1 s.2.2.2.1 s.2.2.2.2) s0
theorem el_M_drawn_l86 (v3 : Int32) (v4 : Int32) {d : Nat} {out : Option Value × zx_H} : ∀ (n : Nat) (s : Int32 × Int32 × Int32 × Int32 × zx_M) (x : Int32 × Int32 × zx_M), zx_lp n (fun s : Int32 × Int32 × Int32 × Int32 × zx_M => b_M_drawn_l86 v3 v4 s.1 s.2.1 s.2.2.1 s.2.2.2.1 s.2.2.2.2) s = some x → kx_M_drawn_l86 v3 v4 d out x → zx_Ev (d + 70) 231 86 [some (.ref 0), none, none, some (.int v3), some (.int v4), some (.int s.1), some (.int s.2.1), some (.int s.2.2.1), some (.int s.2.2.2.1), none, none] [] (zx_SM, s.2.2.2.2) out := by
  intro n
  induction n with
  | zero => intro s x hl _; simp [zx_lp] at hl
  | succ n ih =>
    intro s x hl hx
    unfold zx_lp at hl
    cases hb : b_M_drawn_l86 v3 v4 s.1 s.2.1 s.2.2.1 s.2.2.2.1 s.2.2.2.2 with
    | none => simp only [hb] at hl; cases hl
    | some z =>
      simp only [hb] at hl
      cases z with
      | inl s1 => exact eb_M_drawn_l86 v3 v4 s.1 s.2.1 s.2.2.1 s.2.2.2.1 s.2.2.2.2 hb (ih s1 x hl hx)
      | inr t =>
        simp only [Option.some.injEq] at hl
        subst hl
        exact eb_M_drawn_l86 v3 v4 s.1 s.2.1 s.2.2.1 s.2.2.2.1 s.2.2.2.2 hb hx
def f_M_drawn (v1 : Int32) (v2 : Int32) (v3 : Int32) (v4 : Int32) (m : zx_M) : Option (Int32 × zx_M) := (f_M_rowIs v1 0 m).bind fun r2 => if r2 = (-1) then some ((-1), m) else (f_M_isYc v3 m).bind fun r5 => if r5 = 0 then some ((-1), m) else if v4 < 0 then some ((-1), m) else (f_M_within (Int32.toInt64 (v4 / 10)) 1 20 m).bind fun r9 => if r9 = 0 then some ((-1), m) else if (zx_rem v4 10) ≤ 1 then (f_M_rowIs v1 0 m).bind fun r13 => if 0 ≤ r13 then (f_M_takesOrder v1 (zx_rem v3 100) m).bind fun m16 => (l_M_drawn_l86 v3 v4 (v2, 0, 0, 0, m16)).bind fun x40 => match x40 with | (w41, w42, m43) => if ¬ (zx_rem v4 10) = 0 then some (w42, m43) else some (w41, m43) else (f_M_rowIs v1 0 m).bind fun r46 => some (r46, m) else some ((-1), m)
theorem s_M_drawn (v1 : Int32) (v2 : Int32) (v3 : Int32) (v4 : Int32) (m : zx_M) {d : Nat} {y : (Int32 × zx_M)} (hf : f_M_drawn v1 v2 v3 v4 m = some y) : zx_Ev (d + 70) 231 0 [some (.ref 0), some (.int v1), some (.int v2), some (.int v3), some (.int v4), none, none, none, none, none, none] [] (zx_SM, m) (some (.int y.1), (zx_SM, y.2)) := by
  unfold f_M_drawn at hf
  refine zx_ev_blk zk_231 3 (pc1 := 3) (L1 := [some (.ref 0), some (.int v1), some (.int v2), some (.int v3), some (.int v4), none, none, none, none, none, none]) (st1 := [.int 0, .int v1, .ref 0]) (h1 := (zx_SM, m)) rfl ?_
  obtain ⟨r2, hv1, hf⟩ := zx_bind_eq hf
  refine zx_ev_call (d := d + 69) zk_231 (v := some (.int r2)) (h1 := (zx_SM, m)) rfl rfl zt_198 rfl zx_SMn rfl rfl (s_M_rowIs _ _ _ (d := d + 67) hv1) ?_
  refine zx_ev_blk zk_231 1 (pc1 := 7) (L1 := [some (.ref 0), some (.int v1), some (.int v2), some (.int v3), some (.int v4), none, none, none, none, none, none]) (st1 := [.int (-1), .int r2]) (h1 := (zx_SM, m)) rfl ?_
  by_cases c3 : r2 = (-1)
  · rw [if_pos c3] at hf
    refine zx_ev_ift zk_231 (P := r2 = (-1)) (t := 47) (f := 10) rfl rfl c3 ?_
    refine zx_ev_blk zk_231 1 (pc1 := 48) (L1 := [some (.ref 0), some (.int v1), some (.int v2), some (.int v3), some (.int v4), none, none, none, none, none, none]) (st1 := [.int (-1)]) (h1 := (zx_SM, m)) rfl ?_
    obtain rfl := Option.some.inj hf
    exact zx_ev_ret zk_231 rfl rfl
  · rw [if_neg c3] at hf
    refine zx_ev_ifn zk_231 (P := r2 = (-1)) (t := 47) (f := 10) rfl rfl c3 ?_
    refine zx_ev_blk zk_231 1 (pc1 := 11) (L1 := [some (.ref 0), some (.int v1), some (.int v2), some (.int v3), some (.int v4), none, none, none, none, none, none]) (st1 := [.int v3]) (h1 := (zx_SM, m)) rfl ?_
    obtain ⟨r5, hv4, hf⟩ := zx_bind_eq hf
    refine zx_ev_call (d := d + 69) zk_231 (v := some (.int r5)) (h1 := (zx_SM, m)) rfl rfl zt_203 rfl zx_SMn rfl rfl (s_M_isYc _ _ (d := d + 67) hv4) ?_
    by_cases c6 : r5 = 0
    · rw [if_pos c6] at hf
      refine zx_ev_ift zk_231 (P := r5 = 0) (t := 47) (f := 17) rfl rfl c6 ?_
      refine zx_ev_blk zk_231 1 (pc1 := 48) (L1 := [some (.ref 0), some (.int v1), some (.int v2), some (.int v3), some (.int v4), none, none, none, none, none, none]) (st1 := [.int (-1)]) (h1 := (zx_SM, m)) rfl ?_
      obtain rfl := Option.some.inj hf
      exact zx_ev_ret zk_231 rfl rfl
    · rw [if_neg c6] at hf
      refine zx_ev_ifn zk_231 (P := r5 = 0) (t := 47) (f := 17) rfl rfl c6 ?_
      refine zx_ev_blk zk_231 1 (pc1 := 19) (L1 := [some (.ref 0), some (.int v1), some (.int v2), some (.int v3), some (.int v4), none, none, none, none, none, none]) (st1 := [.int v4]) (h1 := (zx_SM, m)) rfl ?_
      by_cases c7 : v4 < 0
      · rw [if_pos c7] at hf
        refine zx_ev_ift zk_231 (P := v4 < 0) (t := 47) (f := 22) rfl rfl c7 ?_
        refine zx_ev_blk zk_231 1 (pc1 := 48) (L1 := [some (.ref 0), some (.int v1), some (.int v2), some (.int v3), some (.int v4), none, none, none, none, none, none]) (st1 := [.int (-1)]) (h1 := (zx_SM, m)) rfl ?_
        obtain rfl := Option.some.inj hf
        exact zx_ev_ret zk_231 rfl rfl
      · rw [if_neg c7] at hf
        refine zx_ev_ifn zk_231 (P := v4 < 0) (t := 47) (f := 22) rfl rfl c7 ?_
        refine zx_ev_blk zk_231 2 (pc1 := 26) (L1 := [some (.ref 0), some (.int v1), some (.int v2), some (.int v3), some (.int v4), none, none, none, none, none, none]) (st1 := [.int 10, .int v4]) (h1 := (zx_SM, m)) rfl ?_
        refine zx_ev_step zk_231 rfl (st_idiv (by decide)) ?_
        refine zx_ev_blk zk_231 3 (pc1 := 32) (L1 := [some (.ref 0), some (.int v1), some (.int v2), some (.int v3), some (.int v4), none, none, none, none, none, none]) (st1 := [.long 20, .long 1, .long (Int32.toInt64 (v4 / 10))]) (h1 := (zx_SM, m)) rfl ?_
        obtain ⟨r9, hv8, hf⟩ := zx_bind_eq hf
        refine zx_ev_call (d := d + 69) zk_231 (v := some (.int r9)) (h1 := (zx_SM, m)) rfl rfl zt_157 rfl zx_SMn rfl rfl (s_M_within _ _ _ _ (d := d + 69) hv8) ?_
        by_cases c10 : r9 = 0
        · rw [if_pos c10] at hf
          refine zx_ev_ift zk_231 (P := r9 = 0) (t := 47) (f := 38) rfl rfl c10 ?_
          refine zx_ev_blk zk_231 1 (pc1 := 48) (L1 := [some (.ref 0), some (.int v1), some (.int v2), some (.int v3), some (.int v4), none, none, none, none, none, none]) (st1 := [.int (-1)]) (h1 := (zx_SM, m)) rfl ?_
          obtain rfl := Option.some.inj hf
          exact zx_ev_ret zk_231 rfl rfl
        · rw [if_neg c10] at hf
          refine zx_ev_ifn zk_231 (P := r9 = 0) (t := 47) (f := 38) rfl rfl c10 ?_
          refine zx_ev_blk zk_231 2 (pc1 := 42) (L1 := [some (.ref 0), some (.int v1), some (.int v2), some (.int v3), some (.int v4), none, none, none, none, none, none]) (st1 := [.int 10, .int v4]) (h1 := (zx_SM, m)) rfl ?_
          refine zx_ev_step zk_231 rfl (st_irem (by decide)) ?_
          refine zx_ev_blk zk_231 1 (pc1 := 44) (L1 := [some (.ref 0), some (.int v1), some (.int v2), some (.int v3), some (.int v4), none, none, none, none, none, none]) (st1 := [.int 1, .int (zx_rem v4 10)]) (h1 := (zx_SM, m)) rfl ?_
          by_cases c11 : (zx_rem v4 10) ≤ 1
          · rw [if_pos c11] at hf
            refine zx_ev_ift zk_231 (P := (zx_rem v4 10) ≤ 1) (t := 49) (f := 47) rfl rfl c11 ?_
            refine zx_ev_blk zk_231 3 (pc1 := 52) (L1 := [some (.ref 0), some (.int v1), some (.int v2), some (.int v3), some (.int v4), none, none, none, none, none, none]) (st1 := [.int 0, .int v1, .ref 0]) (h1 := (zx_SM, m)) rfl ?_
            obtain ⟨r13, hv12, hf⟩ := zx_bind_eq hf
            refine zx_ev_call (d := d + 69) zk_231 (v := some (.int r13)) (h1 := (zx_SM, m)) rfl rfl zt_198 rfl zx_SMn rfl rfl (s_M_rowIs _ _ _ (d := d + 67) hv12) ?_
            by_cases c14 : 0 ≤ r13
            · rw [if_pos c14] at hf
              refine zx_ev_ift zk_231 (P := 0 ≤ r13) (t := 65) (f := 58) rfl rfl c14 ?_
              refine zx_ev_blk zk_231 4 (pc1 := 70) (L1 := [some (.ref 0), some (.int v1), some (.int v2), some (.int v3), some (.int v4), none, none, none, none, none, none]) (st1 := [.int 100, .int v3, .int v1, .ref 0]) (h1 := (zx_SM, m)) rfl ?_
              refine zx_ev_step zk_231 rfl (st_irem (by decide)) ?_
              obtain ⟨m16, hv15, hf⟩ := zx_bind_eq hf
              refine zx_ev_call (d := d + 69) zk_231 (v := none) (h1 := (zx_SM, m16)) rfl rfl zt_200 rfl zx_SMn rfl rfl (s_M_takesOrder _ _ _ (d := d + 0) hv15) ?_
              refine zx_ev_blk zk_231 8 (pc1 := 86) (L1 := [some (.ref 0), some (.int v1), some (.int v2), some (.int v3), some (.int v4), some (.int v2), some (.int 0), some (.int 0), some (.int 0), none, none]) (st1 := []) (h1 := (zx_SM, m16)) rfl ?_
              obtain ⟨x40, hx40, hf⟩ := zx_bind_eq hf
              refine zx_ev_sub (L := [some (.ref 0), none, none, some (.int v3), some (.int v4), some (.int v2), some (.int 0), some (.int 0), some (.int 0), none, none]) (⟨rfl, ⟨trivial, ⟨trivial, ⟨rfl, ⟨rfl, ⟨rfl, ⟨rfl, ⟨rfl, ⟨rfl, trivial⟩⟩⟩⟩⟩⟩⟩⟩⟩) (el_M_drawn_l86 v3 v4 zx_N (v2, 0, 0, 0, m16) x40 hx40 ?_)
              obtain ⟨w41, w42, m43⟩ := x40
              dsimp only at hf
              show zx_Ev (d + 70) 231 221 [some (.ref 0), none, none, none, some (.int v4), none, some (.int w41), some (.int w42), none, none, none] [] (zx_SM, m43) _
              refine zx_ev_blk zk_231 2 (pc1 := 225) (L1 := [some (.ref 0), none, none, none, some (.int v4), none, some (.int w41), some (.int w42), none, none, none]) (st1 := [.int 10, .int v4]) (h1 := (zx_SM, m43)) rfl ?_
              refine zx_ev_step zk_231 rfl (st_irem (by decide)) ?_
              by_cases c44 : ¬ (zx_rem v4 10) = 0
              · rw [if_pos c44] at hf
                refine zx_ev_ift zk_231 (P := ¬ (zx_rem v4 10) = 0) (t := 234) (f := 229) rfl rfl c44 ?_
                refine zx_ev_blk zk_231 1 (pc1 := 236) (L1 := [some (.ref 0), none, none, none, some (.int v4), none, some (.int w41), some (.int w42), none, none, none]) (st1 := [.int w42]) (h1 := (zx_SM, m43)) rfl ?_
                obtain rfl := Option.some.inj hf
                exact zx_ev_ret zk_231 rfl rfl
              · rw [if_neg c44] at hf
                refine zx_ev_ifn zk_231 (P := ¬ (zx_rem v4 10) = 0) (t := 234) (f := 229) rfl rfl c44 ?_
                refine zx_ev_blk zk_231 2 (pc1 := 236) (L1 := [some (.ref 0), none, none, none, some (.int v4), none, some (.int w41), some (.int w42), none, none, none]) (st1 := [.int w41]) (h1 := (zx_SM, m43)) rfl ?_
                obtain rfl := Option.some.inj hf
                exact zx_ev_ret zk_231 rfl rfl
            · rw [if_neg c14] at hf
              refine zx_ev_ifn zk_231 (P := 0 ≤ r13) (t := 65) (f := 58) rfl rfl c14 ?_
              refine zx_ev_blk zk_231 3 (pc1 := 61) (L1 := [some (.ref 0), some (.int v1), some (.int v2), some (.int v3), some (.int v4), none, none, none, none, none, none]) (st1 := [.int 0, .int v1, .ref 0]) (h1 := (zx_SM, m)) rfl ?_
              obtain ⟨r46, hv45, hf⟩ := zx_bind_eq hf
              refine zx_ev_call (d := d + 69) zk_231 (v := some (.int r46)) (h1 := (zx_SM, m)) rfl rfl zt_198 rfl zx_SMn rfl rfl (s_M_rowIs _ _ _ (d := d + 67) hv45) ?_
              obtain rfl := Option.some.inj hf
              exact zx_ev_ret zk_231 rfl rfl
          · rw [if_neg c11] at hf
            refine zx_ev_ifn zk_231 (P := (zx_rem v4 10) ≤ 1) (t := 49) (f := 47) rfl rfl c11 ?_
            refine zx_ev_blk zk_231 1 (pc1 := 48) (L1 := [some (.ref 0), some (.int v1), some (.int v2), some (.int v3), some (.int v4), none, none, none, none, none, none]) (st1 := [.int (-1)]) (h1 := (zx_SM, m)) rfl ?_
            obtain rfl := Option.some.inj hf
            exact zx_ev_ret zk_231 rfl rfl
def kx_M_meetMany_l4 (m : zx_M) (d : Nat) (out : Option Value × zx_H) : Int32 → Prop
  | y => out = (some (.int y), (zx_SM, m))
def kl_M_meetMany_l4 (m : zx_M) (d : Nat) (out : Option Value × zx_H) : (Int32 × Int32) ⊕ (Int32) → Prop
  | .inl (v1, v2) => zx_Ev (d + 2) 195 4 [some (.ref 0), some (.int v1), some (.int v2)] [] (zx_SM, m) out
  | .inr x => kx_M_meetMany_l4 m d out x
def n_M_meetMany_b4_26 (v2 : Int32) (t0 : Int32) (t1 : Int32) (m : zx_M) : Option ((Int32 × Int32) ⊕ (Int32)) := zx_let (t0 + t1) fun a5 => zx_let (v2 + 1) fun a6 => some (.inl (a5, a6))
theorem e_M_meetMany_b4_26 (v2 : Int32) (t0 : Int32) (t1 : Int32) (m : zx_M) {d : Nat} {out : Option Value × zx_H} {y : (Int32 × Int32) ⊕ (Int32)} (hf : n_M_meetMany_b4_26 v2 t0 t1 m = some y) (hK : kl_M_meetMany_l4 m d out y) : zx_Ev (d + 2) 195 26 [some (.ref 0), none, some (.int v2)] [.int t1, .int t0] (zx_SM, m) out := by
  unfold n_M_meetMany_b4_26 at hf
  obtain ⟨a5, ha5, hf⟩ := zx_let_eq hf
  obtain ⟨a6, ha6, hf⟩ := zx_let_eq hf
  refine zx_ev_blk zk_195 4 (pc1 := 4) (L1 := [some (.ref 0), some (.int a5), some (.int a6)]) (st1 := []) (h1 := (zx_SM, m)) (by subst ha5; subst ha6; rfl) ?_
  obtain rfl := Option.some.inj hf
  exact zx_ev_sub (L := [some (.ref 0), some (.int a5), some (.int a6)]) (⟨rfl, ⟨rfl, ⟨rfl, trivial⟩⟩⟩) hK
def b_M_meetMany_l4 (v1 : Int32) (v2 : Int32) (m : zx_M) : Option ((Int32 × Int32) ⊕ (Int32)) := if (m.1 0 20) ≤ v2 then some (.inr v1) else (f_M_meets v2 m).bind fun r3 => if r3 = 0 then n_M_meetMany_b4_26 v2 v1 0 m else n_M_meetMany_b4_26 v2 v1 1 m
theorem eb_M_meetMany_l4 (v1 : Int32) (v2 : Int32) (m : zx_M) {d : Nat} {out : Option Value × zx_H} {y : (Int32 × Int32) ⊕ (Int32)} (hf : b_M_meetMany_l4 v1 v2 m = some y) (hK : kl_M_meetMany_l4 m d out y) : zx_Ev (d + 2) 195 4 [some (.ref 0), some (.int v1), some (.int v2)] [] (zx_SM, m) out := by
  unfold b_M_meetMany_l4 at hf
  refine zx_ev_blk zk_195 3 (pc1 := 9) (L1 := [some (.ref 0), some (.int v1), some (.int v2)]) (st1 := [.int (m.1 0 20), .int v2]) (h1 := (zx_SM, m)) rfl ?_
  by_cases c1 : (m.1 0 20) ≤ v2
  · rw [if_pos c1] at hf
    refine zx_ev_ift zk_195 (P := (m.1 0 20) ≤ v2) (t := 34) (f := 12) rfl rfl c1 ?_
    refine zx_ev_blk zk_195 1 (pc1 := 35) (L1 := [some (.ref 0), some (.int v1), some (.int v2)]) (st1 := [.int v1]) (h1 := (zx_SM, m)) rfl ?_
    obtain rfl := Option.some.inj hf
    rw [show out = _ from hK]
    exact zx_ev_ret zk_195 rfl rfl
  · rw [if_neg c1] at hf
    refine zx_ev_ifn zk_195 (P := (m.1 0 20) ≤ v2) (t := 34) (f := 12) rfl rfl c1 ?_
    refine zx_ev_blk zk_195 3 (pc1 := 15) (L1 := [some (.ref 0), some (.int v1), some (.int v2)]) (st1 := [.int v2, .ref 0, .int v1]) (h1 := (zx_SM, m)) rfl ?_
    obtain ⟨r3, hv2, hf⟩ := zx_bind_eq hf
    refine zx_ev_call (d := d + 1) zk_195 (v := some (.int r3)) (h1 := (zx_SM, m)) rfl rfl zt_193 rfl zx_SMn rfl rfl (s_M_meets _ _ (d := d + 0) hv2) ?_
    by_cases c4 : r3 = 0
    · rw [if_pos c4] at hf
      refine zx_ev_ift zk_195 (P := r3 = 0) (t := 25) (f := 21) rfl rfl c4 ?_
      refine zx_ev_blk zk_195 1 (pc1 := 26) (L1 := [some (.ref 0), some (.int v1), some (.int v2)]) (st1 := [.int 0, .int v1]) (h1 := (zx_SM, m)) rfl ?_
      exact zx_ev_sub (L := [some (.ref 0), none, some (.int v2)]) (⟨rfl, ⟨trivial, ⟨rfl, trivial⟩⟩⟩) (e_M_meetMany_b4_26 v2 v1 0 m hf hK)
    · rw [if_neg c4] at hf
      refine zx_ev_ifn zk_195 (P := r3 = 0) (t := 25) (f := 21) rfl rfl c4 ?_
      refine zx_ev_blk zk_195 2 (pc1 := 26) (L1 := [some (.ref 0), some (.int v1), some (.int v2)]) (st1 := [.int 1, .int v1]) (h1 := (zx_SM, m)) rfl ?_
      exact zx_ev_sub (L := [some (.ref 0), none, some (.int v2)]) (⟨rfl, ⟨trivial, ⟨rfl, trivial⟩⟩⟩) (e_M_meetMany_b4_26 v2 v1 1 m hf hK)
def l_M_meetMany_l4 (m : zx_M) (s0 : Int32 × Int32) : Option (Int32) := zx_lp zx_N (fun s : Int32 × Int32 => b_M_meetMany_l4 s.1 s.2 m) s0
theorem el_M_meetMany_l4 (m : zx_M) {d : Nat} {out : Option Value × zx_H} : ∀ (n : Nat) (s : Int32 × Int32) (x : Int32), zx_lp n (fun s : Int32 × Int32 => b_M_meetMany_l4 s.1 s.2 m) s = some x → kx_M_meetMany_l4 m d out x → zx_Ev (d + 2) 195 4 [some (.ref 0), some (.int s.1), some (.int s.2)] [] (zx_SM, m) out := by
  intro n
  induction n with
  | zero => intro s x hl _; simp [zx_lp] at hl
  | succ n ih =>
    intro s x hl hx
    unfold zx_lp at hl
    cases hb : b_M_meetMany_l4 s.1 s.2 m with
    | none => simp only [hb] at hl; cases hl
    | some z =>
      simp only [hb] at hl
      cases z with
      | inl s1 => exact eb_M_meetMany_l4 s.1 s.2 m hb (ih s1 x hl hx)
      | inr t =>
        simp only [Option.some.injEq] at hl
        subst hl
        exact eb_M_meetMany_l4 s.1 s.2 m hb hx
def f_M_meetMany (m : zx_M) : Option Int32 := (l_M_meetMany_l4 m (0, 0)).bind fun x7 => zx_let x7 fun y8 => some y8
theorem s_M_meetMany (m : zx_M) {d : Nat} {y : Int32} (hf : f_M_meetMany m = some y) : zx_Ev (d + 2) 195 0 [some (.ref 0), none, none] [] (zx_SM, m) (some (.int y), (zx_SM, m)) := by
  unfold f_M_meetMany at hf
  refine zx_ev_blk zk_195 4 (pc1 := 4) (L1 := [some (.ref 0), some (.int 0), some (.int 0)]) (st1 := []) (h1 := (zx_SM, m)) rfl ?_
  obtain ⟨x7, hx7, hf⟩ := zx_bind_eq hf
  refine zx_ev_sub (L := [some (.ref 0), some (.int 0), some (.int 0)]) (⟨rfl, ⟨rfl, ⟨rfl, trivial⟩⟩⟩) (el_M_meetMany_l4 m zx_N (0, 0) x7 hx7 ?_)
  obtain ⟨y8, hy8, hf⟩ := zx_let_eq hf
  subst hy8
  obtain rfl := Option.some.inj hf
  rfl
def kx_M_wellMany_l4 (m : zx_M) (d : Nat) (out : Option Value × zx_H) : Int32 → Prop
  | y => out = (some (.int y), (zx_SM, m))
def kl_M_wellMany_l4 (m : zx_M) (d : Nat) (out : Option Value × zx_H) : (Int32 × Int32) ⊕ (Int32) → Prop
  | .inl (v1, v2) => zx_Ev (d + 2) 194 4 [some (.ref 0), some (.int v1), some (.int v2)] [] (zx_SM, m) out
  | .inr x => kx_M_wellMany_l4 m d out x
def n_M_wellMany_b4_31 (v2 : Int32) (t0 : Int32) (t1 : Int32) (m : zx_M) : Option ((Int32 × Int32) ⊕ (Int32)) := zx_let (t0 + t1) fun a6 => zx_let (v2 + 1) fun a7 => some (.inl (a6, a7))
theorem e_M_wellMany_b4_31 (v2 : Int32) (t0 : Int32) (t1 : Int32) (m : zx_M) {d : Nat} {out : Option Value × zx_H} {y : (Int32 × Int32) ⊕ (Int32)} (hf : n_M_wellMany_b4_31 v2 t0 t1 m = some y) (hK : kl_M_wellMany_l4 m d out y) : zx_Ev (d + 2) 194 31 [some (.ref 0), none, some (.int v2)] [.int t1, .int t0] (zx_SM, m) out := by
  unfold n_M_wellMany_b4_31 at hf
  obtain ⟨a6, ha6, hf⟩ := zx_let_eq hf
  obtain ⟨a7, ha7, hf⟩ := zx_let_eq hf
  refine zx_ev_blk zk_194 4 (pc1 := 4) (L1 := [some (.ref 0), some (.int a6), some (.int a7)]) (st1 := []) (h1 := (zx_SM, m)) (by subst ha6; subst ha7; rfl) ?_
  obtain rfl := Option.some.inj hf
  exact zx_ev_sub (L := [some (.ref 0), some (.int a6), some (.int a7)]) (⟨rfl, ⟨rfl, ⟨rfl, trivial⟩⟩⟩) hK
def b_M_wellMany_l4 (v1 : Int32) (v2 : Int32) (m : zx_M) : Option ((Int32 × Int32) ⊕ (Int32)) := if (m.1 0 20) ≤ v2 then some (.inr v1) else (zx_ix 7 v2).bind fun j2 => (f_M_isWell (m.1 10 j2) m).bind fun r4 => if r4 = 0 then n_M_wellMany_b4_31 v2 v1 0 m else n_M_wellMany_b4_31 v2 v1 1 m
theorem eb_M_wellMany_l4 (v1 : Int32) (v2 : Int32) (m : zx_M) {d : Nat} {out : Option Value × zx_H} {y : (Int32 × Int32) ⊕ (Int32)} (hf : b_M_wellMany_l4 v1 v2 m = some y) (hK : kl_M_wellMany_l4 m d out y) : zx_Ev (d + 2) 194 4 [some (.ref 0), some (.int v1), some (.int v2)] [] (zx_SM, m) out := by
  unfold b_M_wellMany_l4 at hf
  refine zx_ev_blk zk_194 3 (pc1 := 9) (L1 := [some (.ref 0), some (.int v1), some (.int v2)]) (st1 := [.int (m.1 0 20), .int v2]) (h1 := (zx_SM, m)) rfl ?_
  by_cases c1 : (m.1 0 20) ≤ v2
  · rw [if_pos c1] at hf
    refine zx_ev_ift zk_194 (P := (m.1 0 20) ≤ v2) (t := 39) (f := 12) rfl rfl c1 ?_
    refine zx_ev_blk zk_194 1 (pc1 := 40) (L1 := [some (.ref 0), some (.int v1), some (.int v2)]) (st1 := [.int v1]) (h1 := (zx_SM, m)) rfl ?_
    obtain rfl := Option.some.inj hf
    rw [show out = _ from hK]
    exact zx_ev_ret zk_194 rfl rfl
  · rw [if_neg c1] at hf
    refine zx_ev_ifn zk_194 (P := (m.1 0 20) ≤ v2) (t := 39) (f := 12) rfl rfl c1 ?_
    refine zx_ev_blk zk_194 5 (pc1 := 19) (L1 := [some (.ref 0), some (.int v1), some (.int v2)]) (st1 := [.int v2, .ref 10, .ref 0, .int v1]) (h1 := (zx_SM, m)) rfl ?_
    obtain ⟨j2, hj2, hf⟩ := zx_bind_eq hf
    refine zx_ev_step zk_194 rfl (st_iald rfl rfl hj2) ?_
    obtain ⟨r4, hv3, hf⟩ := zx_bind_eq hf
    refine zx_ev_call (d := d + 1) zk_194 (v := some (.int r4)) (h1 := (zx_SM, m)) rfl rfl zt_192 rfl zx_SMn rfl rfl (s_M_isWell _ _ (d := d + 0) hv3) ?_
    by_cases c5 : r4 = 0
    · rw [if_pos c5] at hf
      refine zx_ev_ift zk_194 (P := r4 = 0) (t := 30) (f := 26) rfl rfl c5 ?_
      refine zx_ev_blk zk_194 1 (pc1 := 31) (L1 := [some (.ref 0), some (.int v1), some (.int v2)]) (st1 := [.int 0, .int v1]) (h1 := (zx_SM, m)) rfl ?_
      exact zx_ev_sub (L := [some (.ref 0), none, some (.int v2)]) (⟨rfl, ⟨trivial, ⟨rfl, trivial⟩⟩⟩) (e_M_wellMany_b4_31 v2 v1 0 m hf hK)
    · rw [if_neg c5] at hf
      refine zx_ev_ifn zk_194 (P := r4 = 0) (t := 30) (f := 26) rfl rfl c5 ?_
      refine zx_ev_blk zk_194 2 (pc1 := 31) (L1 := [some (.ref 0), some (.int v1), some (.int v2)]) (st1 := [.int 1, .int v1]) (h1 := (zx_SM, m)) rfl ?_
      exact zx_ev_sub (L := [some (.ref 0), none, some (.int v2)]) (⟨rfl, ⟨trivial, ⟨rfl, trivial⟩⟩⟩) (e_M_wellMany_b4_31 v2 v1 1 m hf hK)
def l_M_wellMany_l4 (m : zx_M) (s0 : Int32 × Int32) : Option (Int32) := zx_lp zx_N (fun s : Int32 × Int32 => b_M_wellMany_l4 s.1 s.2 m) s0
theorem el_M_wellMany_l4 (m : zx_M) {d : Nat} {out : Option Value × zx_H} : ∀ (n : Nat) (s : Int32 × Int32) (x : Int32), zx_lp n (fun s : Int32 × Int32 => b_M_wellMany_l4 s.1 s.2 m) s = some x → kx_M_wellMany_l4 m d out x → zx_Ev (d + 2) 194 4 [some (.ref 0), some (.int s.1), some (.int s.2)] [] (zx_SM, m) out := by
  intro n
  induction n with
  | zero => intro s x hl _; simp [zx_lp] at hl
  | succ n ih =>
    intro s x hl hx
    unfold zx_lp at hl
    cases hb : b_M_wellMany_l4 s.1 s.2 m with
    | none => simp only [hb] at hl; cases hl
    | some z =>
      simp only [hb] at hl
      cases z with
      | inl s1 => exact eb_M_wellMany_l4 s.1 s.2 m hb (ih s1 x hl hx)
      | inr t =>
        simp only [Option.some.injEq] at hl
        subst hl
        exact eb_M_wellMany_l4 s.1 s.2 m hb hx
def f_M_wellMany (m : zx_M) : Option Int32 := (l_M_wellMany_l4 m (0, 0)).bind fun x8 => zx_let x8 fun y9 => some y9
theorem s_M_wellMany (m : zx_M) {d : Nat} {y : Int32} (hf : f_M_wellMany m = some y) : zx_Ev (d + 2) 194 0 [some (.ref 0), none, none] [] (zx_SM, m) (some (.int y), (zx_SM, m)) := by
  unfold f_M_wellMany at hf
  refine zx_ev_blk zk_194 4 (pc1 := 4) (L1 := [some (.ref 0), some (.int 0), some (.int 0)]) (st1 := []) (h1 := (zx_SM, m)) rfl ?_
  obtain ⟨x8, hx8, hf⟩ := zx_bind_eq hf
  refine zx_ev_sub (L := [some (.ref 0), some (.int 0), some (.int 0)]) (⟨rfl, ⟨rfl, ⟨rfl, trivial⟩⟩⟩) (el_M_wellMany_l4 m zx_N (0, 0) x8 hx8 ?_)
  obtain ⟨y9, hy9, hf⟩ := zx_let_eq hf
  subst hy9
  obtain rfl := Option.some.inj hf
  rfl
def f_M_drop (v1 : Int32) (v2 : Int32) (v3 : Int32) (m : zx_M) : Option (Int32 × zx_M) := (f_M_rowIs v1 0 m).bind fun r2 => if r2 = (-1) then some ((-1), m) else (f_M_isYc v2 m).bind fun r5 => if r5 = 0 then some ((-1), m) else (f_M_within (Int32.toInt64 v3) 0 2 m).bind fun r8 => if ¬ r8 = 0 then (f_M_rowIs v1 0 m).bind fun r11 => if 0 ≤ r11 then (f_M_takesOrder v1 (zx_rem v2 100) m).bind fun m14 => (f_M_spotOf v2 m14).bind fun r16 => (f_M_fills r16 m14).bind fun m18 => if ¬ v3 = 0 then if ¬ v3 = 1 then (f_M_goodMany m18).bind fun r22 => some (r22, m18) else (f_M_meetMany m18).bind fun r24 => some (r24, m18) else (f_M_wellMany m18).bind fun r26 => some (r26, m18) else (f_M_rowIs v1 0 m).bind fun r28 => some (r28, m) else some ((-1), m)
theorem s_M_drop (v1 : Int32) (v2 : Int32) (v3 : Int32) (m : zx_M) {d : Nat} {y : (Int32 × zx_M)} (hf : f_M_drop v1 v2 v3 m = some y) : zx_Ev (d + 70) 206 0 [some (.ref 0), some (.int v1), some (.int v2), some (.int v3)] [] (zx_SM, m) (some (.int y.1), (zx_SM, y.2)) := by
  unfold f_M_drop at hf
  refine zx_ev_blk zk_206 3 (pc1 := 3) (L1 := [some (.ref 0), some (.int v1), some (.int v2), some (.int v3)]) (st1 := [.int 0, .int v1, .ref 0]) (h1 := (zx_SM, m)) rfl ?_
  obtain ⟨r2, hv1, hf⟩ := zx_bind_eq hf
  refine zx_ev_call (d := d + 69) zk_206 (v := some (.int r2)) (h1 := (zx_SM, m)) rfl rfl zt_198 rfl zx_SMn rfl rfl (s_M_rowIs _ _ _ (d := d + 67) hv1) ?_
  refine zx_ev_blk zk_206 1 (pc1 := 7) (L1 := [some (.ref 0), some (.int v1), some (.int v2), some (.int v3)]) (st1 := [.int (-1), .int r2]) (h1 := (zx_SM, m)) rfl ?_
  by_cases c3 : r2 = (-1)
  · rw [if_pos c3] at hf
    refine zx_ev_ift zk_206 (P := r2 = (-1)) (t := 29) (f := 10) rfl rfl c3 ?_
    refine zx_ev_blk zk_206 1 (pc1 := 30) (L1 := [some (.ref 0), some (.int v1), some (.int v2), some (.int v3)]) (st1 := [.int (-1)]) (h1 := (zx_SM, m)) rfl ?_
    obtain rfl := Option.some.inj hf
    exact zx_ev_ret zk_206 rfl rfl
  · rw [if_neg c3] at hf
    refine zx_ev_ifn zk_206 (P := r2 = (-1)) (t := 29) (f := 10) rfl rfl c3 ?_
    refine zx_ev_blk zk_206 1 (pc1 := 11) (L1 := [some (.ref 0), some (.int v1), some (.int v2), some (.int v3)]) (st1 := [.int v2]) (h1 := (zx_SM, m)) rfl ?_
    obtain ⟨r5, hv4, hf⟩ := zx_bind_eq hf
    refine zx_ev_call (d := d + 69) zk_206 (v := some (.int r5)) (h1 := (zx_SM, m)) rfl rfl zt_203 rfl zx_SMn rfl rfl (s_M_isYc _ _ (d := d + 67) hv4) ?_
    by_cases c6 : r5 = 0
    · rw [if_pos c6] at hf
      refine zx_ev_ift zk_206 (P := r5 = 0) (t := 29) (f := 17) rfl rfl c6 ?_
      refine zx_ev_blk zk_206 1 (pc1 := 30) (L1 := [some (.ref 0), some (.int v1), some (.int v2), some (.int v3)]) (st1 := [.int (-1)]) (h1 := (zx_SM, m)) rfl ?_
      obtain rfl := Option.some.inj hf
      exact zx_ev_ret zk_206 rfl rfl
    · rw [if_neg c6] at hf
      refine zx_ev_ifn zk_206 (P := r5 = 0) (t := 29) (f := 17) rfl rfl c6 ?_
      refine zx_ev_blk zk_206 4 (pc1 := 23) (L1 := [some (.ref 0), some (.int v1), some (.int v2), some (.int v3)]) (st1 := [.long 2, .long 0, .long (Int32.toInt64 v3)]) (h1 := (zx_SM, m)) rfl ?_
      obtain ⟨r8, hv7, hf⟩ := zx_bind_eq hf
      refine zx_ev_call (d := d + 69) zk_206 (v := some (.int r8)) (h1 := (zx_SM, m)) rfl rfl zt_157 rfl zx_SMn rfl rfl (s_M_within _ _ _ _ (d := d + 69) hv7) ?_
      by_cases c9 : ¬ r8 = 0
      · rw [if_pos c9] at hf
        refine zx_ev_ift zk_206 (P := ¬ r8 = 0) (t := 31) (f := 29) rfl rfl c9 ?_
        refine zx_ev_blk zk_206 3 (pc1 := 34) (L1 := [some (.ref 0), some (.int v1), some (.int v2), some (.int v3)]) (st1 := [.int 0, .int v1, .ref 0]) (h1 := (zx_SM, m)) rfl ?_
        obtain ⟨r11, hv10, hf⟩ := zx_bind_eq hf
        refine zx_ev_call (d := d + 69) zk_206 (v := some (.int r11)) (h1 := (zx_SM, m)) rfl rfl zt_198 rfl zx_SMn rfl rfl (s_M_rowIs _ _ _ (d := d + 67) hv10) ?_
        by_cases c12 : 0 ≤ r11
        · rw [if_pos c12] at hf
          refine zx_ev_ift zk_206 (P := 0 ≤ r11) (t := 47) (f := 40) rfl rfl c12 ?_
          refine zx_ev_blk zk_206 4 (pc1 := 52) (L1 := [some (.ref 0), some (.int v1), some (.int v2), some (.int v3)]) (st1 := [.int 100, .int v2, .int v1, .ref 0]) (h1 := (zx_SM, m)) rfl ?_
          refine zx_ev_step zk_206 rfl (st_irem (by decide)) ?_
          obtain ⟨m14, hv13, hf⟩ := zx_bind_eq hf
          refine zx_ev_call (d := d + 69) zk_206 (v := none) (h1 := (zx_SM, m14)) rfl rfl zt_200 rfl zx_SMn rfl rfl (s_M_takesOrder _ _ _ (d := d + 0) hv13) ?_
          refine zx_ev_blk zk_206 2 (pc1 := 58) (L1 := [some (.ref 0), some (.int v1), some (.int v2), some (.int v3)]) (st1 := [.int v2, .ref 0]) (h1 := (zx_SM, m14)) rfl ?_
          obtain ⟨r16, hv15, hf⟩ := zx_bind_eq hf
          refine zx_ev_call (d := d + 69) zk_206 (v := some (.int r16)) (h1 := (zx_SM, m14)) rfl rfl zt_204 rfl zx_SMn rfl rfl (s_M_spotOf _ _ (d := d + 69) hv15) ?_
          obtain ⟨m18, hv17, hf⟩ := zx_bind_eq hf
          refine zx_ev_call (d := d + 69) zk_206 (v := none) (h1 := (zx_SM, m18)) rfl rfl zt_191 rfl zx_SMn rfl rfl (s_M_fills _ _ (d := d + 69) hv17) ?_
          refine zx_ev_blk zk_206 1 (pc1 := 65) (L1 := [some (.ref 0), some (.int v1), some (.int v2), some (.int v3)]) (st1 := [.int v3]) (h1 := (zx_SM, m18)) rfl ?_
          by_cases c19 : ¬ v3 = 0
          · rw [if_pos c19] at hf
            refine zx_ev_ift zk_206 (P := ¬ v3 = 0) (t := 75) (f := 68) rfl rfl c19 ?_
            refine zx_ev_blk zk_206 2 (pc1 := 77) (L1 := [some (.ref 0), some (.int v1), some (.int v2), some (.int v3)]) (st1 := [.int 1, .int v3]) (h1 := (zx_SM, m18)) rfl ?_
            by_cases c20 : ¬ v3 = 1
            · rw [if_pos c20] at hf
              refine zx_ev_ift zk_206 (P := ¬ v3 = 1) (t := 87) (f := 80) rfl rfl c20 ?_
              refine zx_ev_blk zk_206 1 (pc1 := 88) (L1 := [some (.ref 0), some (.int v1), some (.int v2), some (.int v3)]) (st1 := [.ref 0]) (h1 := (zx_SM, m18)) rfl ?_
              obtain ⟨r22, hv21, hf⟩ := zx_bind_eq hf
              refine zx_ev_call (d := d + 69) zk_206 (v := some (.int r22)) (h1 := (zx_SM, m18)) rfl rfl zt_196 rfl zx_SMn rfl rfl (s_M_goodMany _ (d := d + 67) hv21) ?_
              obtain rfl := Option.some.inj hf
              exact zx_ev_ret zk_206 rfl rfl
            · rw [if_neg c20] at hf
              refine zx_ev_ifn zk_206 (P := ¬ v3 = 1) (t := 87) (f := 80) rfl rfl c20 ?_
              refine zx_ev_blk zk_206 1 (pc1 := 81) (L1 := [some (.ref 0), some (.int v1), some (.int v2), some (.int v3)]) (st1 := [.ref 0]) (h1 := (zx_SM, m18)) rfl ?_
              obtain ⟨r24, hv23, hf⟩ := zx_bind_eq hf
              refine zx_ev_call (d := d + 69) zk_206 (v := some (.int r24)) (h1 := (zx_SM, m18)) rfl rfl zt_195 rfl zx_SMn rfl rfl (s_M_meetMany _ (d := d + 67) hv23) ?_
              refine zx_ev_blk zk_206 1 (pc1 := 91) (L1 := [some (.ref 0), some (.int v1), some (.int v2), some (.int v3)]) (st1 := [.int r24]) (h1 := (zx_SM, m18)) rfl ?_
              obtain rfl := Option.some.inj hf
              exact zx_ev_ret zk_206 rfl rfl
          · rw [if_neg c19] at hf
            refine zx_ev_ifn zk_206 (P := ¬ v3 = 0) (t := 75) (f := 68) rfl rfl c19 ?_
            refine zx_ev_blk zk_206 1 (pc1 := 69) (L1 := [some (.ref 0), some (.int v1), some (.int v2), some (.int v3)]) (st1 := [.ref 0]) (h1 := (zx_SM, m18)) rfl ?_
            obtain ⟨r26, hv25, hf⟩ := zx_bind_eq hf
            refine zx_ev_call (d := d + 69) zk_206 (v := some (.int r26)) (h1 := (zx_SM, m18)) rfl rfl zt_194 rfl zx_SMn rfl rfl (s_M_wellMany _ (d := d + 67) hv25) ?_
            refine zx_ev_blk zk_206 1 (pc1 := 91) (L1 := [some (.ref 0), some (.int v1), some (.int v2), some (.int v3)]) (st1 := [.int r26]) (h1 := (zx_SM, m18)) rfl ?_
            obtain rfl := Option.some.inj hf
            exact zx_ev_ret zk_206 rfl rfl
        · rw [if_neg c12] at hf
          refine zx_ev_ifn zk_206 (P := 0 ≤ r11) (t := 47) (f := 40) rfl rfl c12 ?_
          refine zx_ev_blk zk_206 3 (pc1 := 43) (L1 := [some (.ref 0), some (.int v1), some (.int v2), some (.int v3)]) (st1 := [.int 0, .int v1, .ref 0]) (h1 := (zx_SM, m)) rfl ?_
          obtain ⟨r28, hv27, hf⟩ := zx_bind_eq hf
          refine zx_ev_call (d := d + 69) zk_206 (v := some (.int r28)) (h1 := (zx_SM, m)) rfl rfl zt_198 rfl zx_SMn rfl rfl (s_M_rowIs _ _ _ (d := d + 67) hv27) ?_
          obtain rfl := Option.some.inj hf
          exact zx_ev_ret zk_206 rfl rfl
      · rw [if_neg c9] at hf
        refine zx_ev_ifn zk_206 (P := ¬ r8 = 0) (t := 31) (f := 29) rfl rfl c9 ?_
        refine zx_ev_blk zk_206 1 (pc1 := 30) (L1 := [some (.ref 0), some (.int v1), some (.int v2), some (.int v3)]) (st1 := [.int (-1)]) (h1 := (zx_SM, m)) rfl ?_
        obtain rfl := Option.some.inj hf
        exact zx_ev_ret zk_206 rfl rfl
def f_M_refusal (v1 : Int32) (v2 : Int32) (m : zx_M) : Option Int32 := (f_M_isShelf v1 m).bind fun r2 => if ¬ r2 = 0 then (zx_ix 6 v1).bind fun j4 => if 0 ≤ (m.1 19 j4) then (zx_ix 6 v1).bind fun j6 => if 50 ≤ (m.1 19 j6) then if v2 < 0 then some (-13) else (zx_ix 6 v1).bind fun j9 => if (m.1 20 j9) ≤ v2 then some (-13) else some 0 else some (-12) else some (-11) else some (-1)
theorem s_M_refusal (v1 : Int32) (v2 : Int32) (m : zx_M) {d : Nat} {y : Int32} (hf : f_M_refusal v1 v2 m = some y) : zx_Ev (d + 2) 253 0 [some (.ref 0), some (.int v1), some (.int v2)] [] (zx_SM, m) (some (.int y), (zx_SM, m)) := by
  unfold f_M_refusal at hf
  refine zx_ev_blk zk_253 1 (pc1 := 1) (L1 := [some (.ref 0), some (.int v1), some (.int v2)]) (st1 := [.int v1]) (h1 := (zx_SM, m)) rfl ?_
  obtain ⟨r2, hv1, hf⟩ := zx_bind_eq hf
  refine zx_ev_call (d := d + 1) zk_253 (v := some (.int r2)) (h1 := (zx_SM, m)) rfl rfl zt_250 rfl zx_SMn rfl rfl (s_M_isShelf _ _ (d := d + 0) hv1) ?_
  by_cases c3 : ¬ r2 = 0
  · rw [if_pos c3] at hf
    refine zx_ev_ift zk_253 (P := ¬ r2 = 0) (t := 9) (f := 7) rfl rfl c3 ?_
    refine zx_ev_blk zk_253 3 (pc1 := 14) (L1 := [some (.ref 0), some (.int v1), some (.int v2)]) (st1 := [.int v1, .ref 19]) (h1 := (zx_SM, m)) rfl ?_
    obtain ⟨j4, hj4, hf⟩ := zx_bind_eq hf
    refine zx_ev_step zk_253 rfl (st_iald rfl rfl hj4) ?_
    by_cases c5 : 0 ≤ (m.1 19 j4)
    · rw [if_pos c5] at hf
      refine zx_ev_ift zk_253 (P := 0 ≤ (m.1 19 j4)) (t := 21) (f := 18) rfl rfl c5 ?_
      refine zx_ev_blk zk_253 3 (pc1 := 26) (L1 := [some (.ref 0), some (.int v1), some (.int v2)]) (st1 := [.int v1, .ref 19]) (h1 := (zx_SM, m)) rfl ?_
      obtain ⟨j6, hj6, hf⟩ := zx_bind_eq hf
      refine zx_ev_step zk_253 rfl (st_iald rfl rfl hj6) ?_
      refine zx_ev_blk zk_253 1 (pc1 := 29) (L1 := [some (.ref 0), some (.int v1), some (.int v2)]) (st1 := [.int 50, .int (m.1 19 j6)]) (h1 := (zx_SM, m)) rfl ?_
      by_cases c7 : 50 ≤ (m.1 19 j6)
      · rw [if_pos c7] at hf
        refine zx_ev_ift zk_253 (P := 50 ≤ (m.1 19 j6)) (t := 35) (f := 32) rfl rfl c7 ?_
        refine zx_ev_blk zk_253 1 (pc1 := 36) (L1 := [some (.ref 0), some (.int v1), some (.int v2)]) (st1 := [.int v2]) (h1 := (zx_SM, m)) rfl ?_
        by_cases c8 : v2 < 0
        · rw [if_pos c8] at hf
          refine zx_ev_ift zk_253 (P := v2 < 0) (t := 53) (f := 39) rfl rfl c8 ?_
          refine zx_ev_blk zk_253 1 (pc1 := 55) (L1 := [some (.ref 0), some (.int v1), some (.int v2)]) (st1 := [.int (-13)]) (h1 := (zx_SM, m)) rfl ?_
          obtain rfl := Option.some.inj hf
          exact zx_ev_ret zk_253 rfl rfl
        · rw [if_neg c8] at hf
          refine zx_ev_ifn zk_253 (P := v2 < 0) (t := 53) (f := 39) rfl rfl c8 ?_
          refine zx_ev_blk zk_253 4 (pc1 := 45) (L1 := [some (.ref 0), some (.int v1), some (.int v2)]) (st1 := [.int v1, .ref 20, .int v2]) (h1 := (zx_SM, m)) rfl ?_
          obtain ⟨j9, hj9, hf⟩ := zx_bind_eq hf
          refine zx_ev_step zk_253 rfl (st_iald rfl rfl hj9) ?_
          by_cases c10 : (m.1 20 j9) ≤ v2
          · rw [if_pos c10] at hf
            refine zx_ev_ift zk_253 (P := (m.1 20 j9) ≤ v2) (t := 53) (f := 49) rfl rfl c10 ?_
            refine zx_ev_blk zk_253 1 (pc1 := 55) (L1 := [some (.ref 0), some (.int v1), some (.int v2)]) (st1 := [.int (-13)]) (h1 := (zx_SM, m)) rfl ?_
            obtain rfl := Option.some.inj hf
            exact zx_ev_ret zk_253 rfl rfl
          · rw [if_neg c10] at hf
            refine zx_ev_ifn zk_253 (P := (m.1 20 j9) ≤ v2) (t := 53) (f := 49) rfl rfl c10 ?_
            refine zx_ev_blk zk_253 2 (pc1 := 55) (L1 := [some (.ref 0), some (.int v1), some (.int v2)]) (st1 := [.int 0]) (h1 := (zx_SM, m)) rfl ?_
            obtain rfl := Option.some.inj hf
            exact zx_ev_ret zk_253 rfl rfl
      · rw [if_neg c7] at hf
        refine zx_ev_ifn zk_253 (P := 50 ≤ (m.1 19 j6)) (t := 35) (f := 32) rfl rfl c7 ?_
        refine zx_ev_blk zk_253 1 (pc1 := 34) (L1 := [some (.ref 0), some (.int v1), some (.int v2)]) (st1 := [.int (-12)]) (h1 := (zx_SM, m)) rfl ?_
        obtain rfl := Option.some.inj hf
        exact zx_ev_ret zk_253 rfl rfl
    · rw [if_neg c5] at hf
      refine zx_ev_ifn zk_253 (P := 0 ≤ (m.1 19 j4)) (t := 21) (f := 18) rfl rfl c5 ?_
      refine zx_ev_blk zk_253 1 (pc1 := 20) (L1 := [some (.ref 0), some (.int v1), some (.int v2)]) (st1 := [.int (-11)]) (h1 := (zx_SM, m)) rfl ?_
      obtain rfl := Option.some.inj hf
      exact zx_ev_ret zk_253 rfl rfl
  · rw [if_neg c3] at hf
    refine zx_ev_ifn zk_253 (P := ¬ r2 = 0) (t := 9) (f := 7) rfl rfl c3 ?_
    refine zx_ev_blk zk_253 1 (pc1 := 8) (L1 := [some (.ref 0), some (.int v1), some (.int v2)]) (st1 := [.int (-1)]) (h1 := (zx_SM, m)) rfl ?_
    obtain rfl := Option.some.inj hf
    exact zx_ev_ret zk_253 rfl rfl
def f_M_element (v1 : Int32) (v2 : Int32) (m : zx_M) : Option Int64 := (f_M_refusal v1 v2 m).bind fun r2 => if r2 = 0 then (zx_ix 360 ((60 * v1) + v2)).bind fun j4 => some (m.2 21 j4) else some (-9223372036854775808)
theorem s_M_element (v1 : Int32) (v2 : Int32) (m : zx_M) {d : Nat} {y : Int64} (hf : f_M_element v1 v2 m = some y) : zx_Ev (d + 3) 256 0 [some (.ref 0), some (.int v1), some (.int v2)] [] (zx_SM, m) (some (.long y), (zx_SM, m)) := by
  unfold f_M_element at hf
  refine zx_ev_blk zk_256 3 (pc1 := 3) (L1 := [some (.ref 0), some (.int v1), some (.int v2)]) (st1 := [.int v2, .int v1, .ref 0]) (h1 := (zx_SM, m)) rfl ?_
  obtain ⟨r2, hv1, hf⟩ := zx_bind_eq hf
  refine zx_ev_call (d := d + 2) zk_256 (v := some (.int r2)) (h1 := (zx_SM, m)) rfl rfl zt_253 rfl zx_SMn rfl rfl (s_M_refusal _ _ _ (d := d + 0) hv1) ?_
  by_cases c3 : r2 = 0
  · rw [if_pos c3] at hf
    refine zx_ev_ift zk_256 (P := r2 = 0) (t := 15) (f := 9) rfl rfl c3 ?_
    refine zx_ev_blk zk_256 7 (pc1 := 25) (L1 := [some (.ref 0), some (.int v1), some (.int v2)]) (st1 := [.int ((60 * v1) + v2), .ref 21]) (h1 := (zx_SM, m)) rfl ?_
    obtain ⟨j4, hj4, hf⟩ := zx_bind_eq hf
    refine zx_ev_step zk_256 rfl (st_lald rfl hj4) ?_
    obtain rfl := Option.some.inj hf
    exact zx_ev_ret zk_256 rfl rfl
  · rw [if_neg c3] at hf
    refine zx_ev_ifn zk_256 (P := r2 = 0) (t := 15) (f := 9) rfl rfl c3 ?_
    refine zx_ev_blk zk_256 2 (pc1 := 26) (L1 := [some (.ref 0), some (.int v1), some (.int v2)]) (st1 := [.long (-9223372036854775808)]) (h1 := (zx_SM, m)) rfl ?_
    obtain rfl := Option.some.inj hf
    exact zx_ev_ret zk_256 rfl rfl
def f_M_feed (v1 : Int32) (m : zx_M) : Option (Int32 × zx_M) := (f_M_within (Int32.toInt64 v1) 0 255 m).bind fun r2 => if ¬ r2 = 0 then if ¬ (m.1 0 8) = 120 then (zx_ix 120 (m.1 0 8)).bind fun j5 => zx_let (zx_u1 m 5 j5 v1) fun m6 => zx_let (zx_u1 m6 0 8 ((m6.1 0 8) + 1)) fun m7 => some (m7.1 0 8, m7) else some ((-3), m) else some ((-1), m)
theorem s_M_feed (v1 : Int32) (m : zx_M) {d : Nat} {y : (Int32 × zx_M)} (hf : f_M_feed v1 m = some y) : zx_Ev (d + 1) 175 0 [some (.ref 0), some (.int v1)] [] (zx_SM, m) (some (.int y.1), (zx_SM, y.2)) := by
  unfold f_M_feed at hf
  refine zx_ev_blk zk_175 4 (pc1 := 6) (L1 := [some (.ref 0), some (.int v1)]) (st1 := [.long 255, .long 0, .long (Int32.toInt64 v1)]) (h1 := (zx_SM, m)) rfl ?_
  obtain ⟨r2, hv1, hf⟩ := zx_bind_eq hf
  refine zx_ev_call (d := d + 0) zk_175 (v := some (.int r2)) (h1 := (zx_SM, m)) rfl rfl zt_157 rfl zx_SMn rfl rfl (s_M_within _ _ _ _ (d := d + 0) hv1) ?_
  by_cases c3 : ¬ r2 = 0
  · rw [if_pos c3] at hf
    refine zx_ev_ift zk_175 (P := ¬ r2 = 0) (t := 14) (f := 12) rfl rfl c3 ?_
    refine zx_ev_blk zk_175 3 (pc1 := 20) (L1 := [some (.ref 0), some (.int v1)]) (st1 := [.int 120, .int (m.1 0 8)]) (h1 := (zx_SM, m)) rfl ?_
    by_cases c4 : ¬ (m.1 0 8) = 120
    · rw [if_pos c4] at hf
      refine zx_ev_ift zk_175 (P := ¬ (m.1 0 8) = 120) (t := 26) (f := 23) rfl rfl c4 ?_
      refine zx_ev_blk zk_175 5 (pc1 := 35) (L1 := [some (.ref 0), some (.int v1)]) (st1 := [.int v1, .int (m.1 0 8), .ref 5]) (h1 := (zx_SM, m)) rfl ?_
      obtain ⟨j5, hj5, hf⟩ := zx_bind_eq hf
      refine zx_ev_step zk_175 rfl (st_iast rfl hj5) ?_
      obtain ⟨m6, hm6, hf⟩ := zx_let_eq hf
      rw [hm6]
      obtain ⟨m7, hm7, hf⟩ := zx_let_eq hf
      refine zx_ev_blk zk_175 8 (pc1 := 50) (L1 := [some (.ref 0), some (.int v1)]) (st1 := [.int (m7.1 0 8)]) (h1 := (zx_SM, m7)) (by subst hm7; rfl) ?_
      obtain rfl := Option.some.inj hf
      exact zx_ev_ret zk_175 rfl rfl
    · rw [if_neg c4] at hf
      refine zx_ev_ifn zk_175 (P := ¬ (m.1 0 8) = 120) (t := 26) (f := 23) rfl rfl c4 ?_
      refine zx_ev_blk zk_175 1 (pc1 := 25) (L1 := [some (.ref 0), some (.int v1)]) (st1 := [.int (-3)]) (h1 := (zx_SM, m)) rfl ?_
      obtain rfl := Option.some.inj hf
      exact zx_ev_ret zk_175 rfl rfl
  · rw [if_neg c3] at hf
    refine zx_ev_ifn zk_175 (P := ¬ r2 = 0) (t := 14) (f := 12) rfl rfl c3 ?_
    refine zx_ev_blk zk_175 1 (pc1 := 13) (L1 := [some (.ref 0), some (.int v1)]) (st1 := [.int (-1)]) (h1 := (zx_SM, m)) rfl ?_
    obtain rfl := Option.some.inj hf
    exact zx_ev_ret zk_175 rfl rfl
def f_M_soIs (v1 : Int32) (m : zx_M) : Option Int32 := if v1 < 0 then some (-1) else (f_M_isShelf (v1 / 10) m).bind fun r3 => if r3 = 0 then some (-1) else (f_M_isShelf (zx_rem v1 10) m).bind fun r6 => if ¬ r6 = 0 then (zx_ix 6 (v1 / 10)).bind fun j8 => if (m.1 19 j8) < 0 then some (-11) else (zx_ix 6 (zx_rem v1 10)).bind fun j10 => if 0 ≤ (m.1 19 j10) then (f_M_rowIs (v1 / 10) 0 m).bind fun r13 => if ¬ r13 = 1 then some (-12) else (f_M_rowIs (zx_rem v1 10) 1 m).bind fun r16 => if ¬ r16 = 1 then some (-12) else some 1 else some (-11) else some (-1)
theorem s_M_soIs (v1 : Int32) (m : zx_M) {d : Nat} {y : Int32} (hf : f_M_soIs v1 m = some y) : zx_Ev (d + 3) 226 0 [some (.ref 0), some (.int v1)] [] (zx_SM, m) (some (.int y), (zx_SM, m)) := by
  unfold f_M_soIs at hf
  refine zx_ev_blk zk_226 1 (pc1 := 1) (L1 := [some (.ref 0), some (.int v1)]) (st1 := [.int v1]) (h1 := (zx_SM, m)) rfl ?_
  by_cases c1 : v1 < 0
  · rw [if_pos c1] at hf
    refine zx_ev_ift zk_226 (P := v1 < 0) (t := 24) (f := 4) rfl rfl c1 ?_
    refine zx_ev_blk zk_226 1 (pc1 := 25) (L1 := [some (.ref 0), some (.int v1)]) (st1 := [.int (-1)]) (h1 := (zx_SM, m)) rfl ?_
    obtain rfl := Option.some.inj hf
    exact zx_ev_ret zk_226 rfl rfl
  · rw [if_neg c1] at hf
    refine zx_ev_ifn zk_226 (P := v1 < 0) (t := 24) (f := 4) rfl rfl c1 ?_
    refine zx_ev_blk zk_226 2 (pc1 := 7) (L1 := [some (.ref 0), some (.int v1)]) (st1 := [.int 10, .int v1]) (h1 := (zx_SM, m)) rfl ?_
    refine zx_ev_step zk_226 rfl (st_idiv (by decide)) ?_
    obtain ⟨r3, hv2, hf⟩ := zx_bind_eq hf
    refine zx_ev_call (d := d + 2) zk_226 (v := some (.int r3)) (h1 := (zx_SM, m)) rfl rfl zt_250 rfl zx_SMn rfl rfl (s_M_isShelf _ _ (d := d + 1) hv2) ?_
    by_cases c4 : r3 = 0
    · rw [if_pos c4] at hf
      refine zx_ev_ift zk_226 (P := r3 = 0) (t := 24) (f := 14) rfl rfl c4 ?_
      refine zx_ev_blk zk_226 1 (pc1 := 25) (L1 := [some (.ref 0), some (.int v1)]) (st1 := [.int (-1)]) (h1 := (zx_SM, m)) rfl ?_
      obtain rfl := Option.some.inj hf
      exact zx_ev_ret zk_226 rfl rfl
    · rw [if_neg c4] at hf
      refine zx_ev_ifn zk_226 (P := r3 = 0) (t := 24) (f := 14) rfl rfl c4 ?_
      refine zx_ev_blk zk_226 2 (pc1 := 17) (L1 := [some (.ref 0), some (.int v1)]) (st1 := [.int 10, .int v1]) (h1 := (zx_SM, m)) rfl ?_
      refine zx_ev_step zk_226 rfl (st_irem (by decide)) ?_
      obtain ⟨r6, hv5, hf⟩ := zx_bind_eq hf
      refine zx_ev_call (d := d + 2) zk_226 (v := some (.int r6)) (h1 := (zx_SM, m)) rfl rfl zt_250 rfl zx_SMn rfl rfl (s_M_isShelf _ _ (d := d + 1) hv5) ?_
      by_cases c7 : ¬ r6 = 0
      · rw [if_pos c7] at hf
        refine zx_ev_ift zk_226 (P := ¬ r6 = 0) (t := 26) (f := 24) rfl rfl c7 ?_
        refine zx_ev_blk zk_226 4 (pc1 := 33) (L1 := [some (.ref 0), some (.int v1)]) (st1 := [.int 10, .int v1, .ref 19]) (h1 := (zx_SM, m)) rfl ?_
        refine zx_ev_step zk_226 rfl (st_idiv (by decide)) ?_
        obtain ⟨j8, hj8, hf⟩ := zx_bind_eq hf
        refine zx_ev_step zk_226 rfl (st_iald rfl rfl hj8) ?_
        by_cases c9 : (m.1 19 j8) < 0
        · rw [if_pos c9] at hf
          refine zx_ev_ift zk_226 (P := (m.1 19 j8) < 0) (t := 50) (f := 38) rfl rfl c9 ?_
          refine zx_ev_blk zk_226 1 (pc1 := 52) (L1 := [some (.ref 0), some (.int v1)]) (st1 := [.int (-11)]) (h1 := (zx_SM, m)) rfl ?_
          obtain rfl := Option.some.inj hf
          exact zx_ev_ret zk_226 rfl rfl
        · rw [if_neg c9] at hf
          refine zx_ev_ifn zk_226 (P := (m.1 19 j8) < 0) (t := 50) (f := 38) rfl rfl c9 ?_
          refine zx_ev_blk zk_226 4 (pc1 := 45) (L1 := [some (.ref 0), some (.int v1)]) (st1 := [.int 10, .int v1, .ref 19]) (h1 := (zx_SM, m)) rfl ?_
          refine zx_ev_step zk_226 rfl (st_irem (by decide)) ?_
          obtain ⟨j10, hj10, hf⟩ := zx_bind_eq hf
          refine zx_ev_step zk_226 rfl (st_iald rfl rfl hj10) ?_
          by_cases c11 : 0 ≤ (m.1 19 j10)
          · rw [if_pos c11] at hf
            refine zx_ev_ift zk_226 (P := 0 ≤ (m.1 19 j10)) (t := 53) (f := 50) rfl rfl c11 ?_
            refine zx_ev_blk zk_226 3 (pc1 := 57) (L1 := [some (.ref 0), some (.int v1)]) (st1 := [.int 10, .int v1, .ref 0]) (h1 := (zx_SM, m)) rfl ?_
            refine zx_ev_step zk_226 rfl (st_idiv (by decide)) ?_
            refine zx_ev_blk zk_226 1 (pc1 := 59) (L1 := [some (.ref 0), some (.int v1)]) (st1 := [.int 0, .int (v1 / 10), .ref 0]) (h1 := (zx_SM, m)) rfl ?_
            obtain ⟨r13, hv12, hf⟩ := zx_bind_eq hf
            refine zx_ev_call (d := d + 2) zk_226 (v := some (.int r13)) (h1 := (zx_SM, m)) rfl rfl zt_198 rfl zx_SMn rfl rfl (s_M_rowIs _ _ _ (d := d + 0) hv12) ?_
            refine zx_ev_blk zk_226 1 (pc1 := 63) (L1 := [some (.ref 0), some (.int v1)]) (st1 := [.int 1, .int r13]) (h1 := (zx_SM, m)) rfl ?_
            by_cases c14 : ¬ r13 = 1
            · rw [if_pos c14] at hf
              refine zx_ev_ift zk_226 (P := ¬ r13 = 1) (t := 83) (f := 66) rfl rfl c14 ?_
              refine zx_ev_blk zk_226 1 (pc1 := 85) (L1 := [some (.ref 0), some (.int v1)]) (st1 := [.int (-12)]) (h1 := (zx_SM, m)) rfl ?_
              obtain rfl := Option.some.inj hf
              exact zx_ev_ret zk_226 rfl rfl
            · rw [if_neg c14] at hf
              refine zx_ev_ifn zk_226 (P := ¬ r13 = 1) (t := 83) (f := 66) rfl rfl c14 ?_
              refine zx_ev_blk zk_226 3 (pc1 := 70) (L1 := [some (.ref 0), some (.int v1)]) (st1 := [.int 10, .int v1, .ref 0]) (h1 := (zx_SM, m)) rfl ?_
              refine zx_ev_step zk_226 rfl (st_irem (by decide)) ?_
              refine zx_ev_blk zk_226 1 (pc1 := 72) (L1 := [some (.ref 0), some (.int v1)]) (st1 := [.int 1, .int (zx_rem v1 10), .ref 0]) (h1 := (zx_SM, m)) rfl ?_
              obtain ⟨r16, hv15, hf⟩ := zx_bind_eq hf
              refine zx_ev_call (d := d + 2) zk_226 (v := some (.int r16)) (h1 := (zx_SM, m)) rfl rfl zt_198 rfl zx_SMn rfl rfl (s_M_rowIs _ _ _ (d := d + 0) hv15) ?_
              refine zx_ev_blk zk_226 1 (pc1 := 76) (L1 := [some (.ref 0), some (.int v1)]) (st1 := [.int 1, .int r16]) (h1 := (zx_SM, m)) rfl ?_
              by_cases c17 : ¬ r16 = 1
              · rw [if_pos c17] at hf
                refine zx_ev_ift zk_226 (P := ¬ r16 = 1) (t := 83) (f := 79) rfl rfl c17 ?_
                refine zx_ev_blk zk_226 1 (pc1 := 85) (L1 := [some (.ref 0), some (.int v1)]) (st1 := [.int (-12)]) (h1 := (zx_SM, m)) rfl ?_
                obtain rfl := Option.some.inj hf
                exact zx_ev_ret zk_226 rfl rfl
              · rw [if_neg c17] at hf
                refine zx_ev_ifn zk_226 (P := ¬ r16 = 1) (t := 83) (f := 79) rfl rfl c17 ?_
                refine zx_ev_blk zk_226 2 (pc1 := 85) (L1 := [some (.ref 0), some (.int v1)]) (st1 := [.int 1]) (h1 := (zx_SM, m)) rfl ?_
                obtain rfl := Option.some.inj hf
                exact zx_ev_ret zk_226 rfl rfl
          · rw [if_neg c11] at hf
            refine zx_ev_ifn zk_226 (P := 0 ≤ (m.1 19 j10)) (t := 53) (f := 50) rfl rfl c11 ?_
            refine zx_ev_blk zk_226 1 (pc1 := 52) (L1 := [some (.ref 0), some (.int v1)]) (st1 := [.int (-11)]) (h1 := (zx_SM, m)) rfl ?_
            obtain rfl := Option.some.inj hf
            exact zx_ev_ret zk_226 rfl rfl
      · rw [if_neg c7] at hf
        refine zx_ev_ifn zk_226 (P := ¬ r6 = 0) (t := 26) (f := 24) rfl rfl c7 ?_
        refine zx_ev_blk zk_226 1 (pc1 := 25) (L1 := [some (.ref 0), some (.int v1)]) (st1 := [.int (-1)]) (h1 := (zx_SM, m)) rfl ?_
        obtain rfl := Option.some.inj hf
        exact zx_ev_ret zk_226 rfl rfl
def kx_M_firstFalse_l2 (v1 : Int32) (m : zx_M) (d : Nat) (out : Option Value × zx_H) : Int32 → Prop
  | y => out = (some (.int y), (zx_SM, m))
def kl_M_firstFalse_l2 (v1 : Int32) (m : zx_M) (d : Nat) (out : Option Value × zx_H) : (Int32) ⊕ (Int32) → Prop
  | .inl v2 => zx_Ev (d + 1) 225 2 [some (.ref 0), some (.int v1), some (.int v2)] [] (zx_SM, m) out
  | .inr x => kx_M_firstFalse_l2 v1 m d out x
def b_M_firstFalse_l2 (v1 : Int32) (v2 : Int32) (m : zx_M) : Option ((Int32) ⊕ (Int32)) := (zx_ix 6 v1).bind fun j1 => if (m.1 20 j1) ≤ v2 then some (.inr (-2)) else if (m.1 0 20) ≤ v2 then some (.inr v2) else (f_M_itemAt v1 v2 m).bind fun r5 => (zx_ix 7 v2).bind fun j6 => if (lg_cmp r5 (Int32.toInt64 (m.1 10 j6))) = 0 then zx_let (v2 + 1) fun a8 => some (.inl a8) else some (.inr v2)
theorem eb_M_firstFalse_l2 (v1 : Int32) (v2 : Int32) (m : zx_M) {d : Nat} {out : Option Value × zx_H} {y : (Int32) ⊕ (Int32)} (hf : b_M_firstFalse_l2 v1 v2 m = some y) (hK : kl_M_firstFalse_l2 v1 m d out y) : zx_Ev (d + 1) 225 2 [some (.ref 0), some (.int v1), some (.int v2)] [] (zx_SM, m) out := by
  unfold b_M_firstFalse_l2 at hf
  refine zx_ev_blk zk_225 4 (pc1 := 8) (L1 := [some (.ref 0), some (.int v1), some (.int v2)]) (st1 := [.int v1, .ref 20, .int v2]) (h1 := (zx_SM, m)) rfl ?_
  obtain ⟨j1, hj1, hf⟩ := zx_bind_eq hf
  refine zx_ev_step zk_225 rfl (st_iald rfl rfl hj1) ?_
  by_cases c2 : (m.1 20 j1) ≤ v2
  · rw [if_pos c2] at hf
    refine zx_ev_ift zk_225 (P := (m.1 20 j1) ≤ v2) (t := 45) (f := 12) rfl rfl c2 ?_
    refine zx_ev_blk zk_225 1 (pc1 := 47) (L1 := [some (.ref 0), some (.int v1), some (.int v2)]) (st1 := [.int (-2)]) (h1 := (zx_SM, m)) rfl ?_
    obtain rfl := Option.some.inj hf
    rw [show out = _ from hK]
    exact zx_ev_ret zk_225 rfl rfl
  · rw [if_neg c2] at hf
    refine zx_ev_ifn zk_225 (P := (m.1 20 j1) ≤ v2) (t := 45) (f := 12) rfl rfl c2 ?_
    refine zx_ev_blk zk_225 3 (pc1 := 17) (L1 := [some (.ref 0), some (.int v1), some (.int v2)]) (st1 := [.int (m.1 0 20), .int v2]) (h1 := (zx_SM, m)) rfl ?_
    by_cases c3 : (m.1 0 20) ≤ v2
    · rw [if_pos c3] at hf
      refine zx_ev_ift zk_225 (P := (m.1 0 20) ≤ v2) (t := 37) (f := 20) rfl rfl c3 ?_
      refine zx_ev_blk zk_225 1 (pc1 := 38) (L1 := [some (.ref 0), some (.int v1), some (.int v2)]) (st1 := [.int v2]) (h1 := (zx_SM, m)) rfl ?_
      obtain rfl := Option.some.inj hf
      rw [show out = _ from hK]
      exact zx_ev_ret zk_225 rfl rfl
    · rw [if_neg c3] at hf
      refine zx_ev_ifn zk_225 (P := (m.1 0 20) ≤ v2) (t := 37) (f := 20) rfl rfl c3 ?_
      refine zx_ev_blk zk_225 3 (pc1 := 23) (L1 := [some (.ref 0), some (.int v1), some (.int v2)]) (st1 := [.int v2, .int v1, .ref 0]) (h1 := (zx_SM, m)) rfl ?_
      obtain ⟨r5, hv4, hf⟩ := zx_bind_eq hf
      refine zx_ev_call (d := d + 0) zk_225 (v := some (.long r5)) (h1 := (zx_SM, m)) rfl rfl zt_199 rfl zx_SMn rfl rfl (s_M_itemAt _ _ _ (d := d + 0) hv4) ?_
      refine zx_ev_blk zk_225 3 (pc1 := 31) (L1 := [some (.ref 0), some (.int v1), some (.int v2)]) (st1 := [.int v2, .ref 10, .long r5]) (h1 := (zx_SM, m)) rfl ?_
      obtain ⟨j6, hj6, hf⟩ := zx_bind_eq hf
      refine zx_ev_step zk_225 rfl (st_iald rfl rfl hj6) ?_
      refine zx_ev_blk zk_225 2 (pc1 := 34) (L1 := [some (.ref 0), some (.int v1), some (.int v2)]) (st1 := [.int (lg_cmp r5 (Int32.toInt64 (m.1 10 j6)))]) (h1 := (zx_SM, m)) rfl ?_
      by_cases c7 : (lg_cmp r5 (Int32.toInt64 (m.1 10 j6))) = 0
      · rw [if_pos c7] at hf
        refine zx_ev_ift zk_225 (P := (lg_cmp r5 (Int32.toInt64 (m.1 10 j6))) = 0) (t := 39) (f := 37) rfl rfl c7 ?_
        obtain ⟨a8, ha8, hf⟩ := zx_let_eq hf
        refine zx_ev_blk zk_225 2 (pc1 := 2) (L1 := [some (.ref 0), some (.int v1), some (.int a8)]) (st1 := []) (h1 := (zx_SM, m)) (by subst ha8; rfl) ?_
        obtain rfl := Option.some.inj hf
        exact zx_ev_sub (L := [some (.ref 0), some (.int v1), some (.int a8)]) (⟨rfl, ⟨rfl, ⟨rfl, trivial⟩⟩⟩) hK
      · rw [if_neg c7] at hf
        refine zx_ev_ifn zk_225 (P := (lg_cmp r5 (Int32.toInt64 (m.1 10 j6))) = 0) (t := 39) (f := 37) rfl rfl c7 ?_
        refine zx_ev_blk zk_225 1 (pc1 := 38) (L1 := [some (.ref 0), some (.int v1), some (.int v2)]) (st1 := [.int v2]) (h1 := (zx_SM, m)) rfl ?_
        obtain rfl := Option.some.inj hf
        rw [show out = _ from hK]
        exact zx_ev_ret zk_225 rfl rfl
def l_M_firstFalse_l2 (v1 : Int32) (m : zx_M) (s0 : Int32) : Option (Int32) := zx_lp zx_N (fun s : Int32 => b_M_firstFalse_l2 v1 s m) s0
theorem el_M_firstFalse_l2 (v1 : Int32) (m : zx_M) {d : Nat} {out : Option Value × zx_H} : ∀ (n : Nat) (s : Int32) (x : Int32), zx_lp n (fun s : Int32 => b_M_firstFalse_l2 v1 s m) s = some x → kx_M_firstFalse_l2 v1 m d out x → zx_Ev (d + 1) 225 2 [some (.ref 0), some (.int v1), some (.int s)] [] (zx_SM, m) out := by
  intro n
  induction n with
  | zero => intro s x hl _; simp [zx_lp] at hl
  | succ n ih =>
    intro s x hl hx
    unfold zx_lp at hl
    cases hb : b_M_firstFalse_l2 v1 s m with
    | none => simp only [hb] at hl; cases hl
    | some z =>
      simp only [hb] at hl
      cases z with
      | inl s1 => exact eb_M_firstFalse_l2 v1 s m hb (ih s1 x hl hx)
      | inr t =>
        simp only [Option.some.injEq] at hl
        subst hl
        exact eb_M_firstFalse_l2 v1 s m hb hx
def f_M_firstFalse (v1 : Int32) (m : zx_M) : Option Int32 := (l_M_firstFalse_l2 v1 m 0).bind fun x9 => zx_let x9 fun y10 => some y10
theorem s_M_firstFalse (v1 : Int32) (m : zx_M) {d : Nat} {y : Int32} (hf : f_M_firstFalse v1 m = some y) : zx_Ev (d + 1) 225 0 [some (.ref 0), some (.int v1), none] [] (zx_SM, m) (some (.int y), (zx_SM, m)) := by
  unfold f_M_firstFalse at hf
  refine zx_ev_blk zk_225 2 (pc1 := 2) (L1 := [some (.ref 0), some (.int v1), some (.int 0)]) (st1 := []) (h1 := (zx_SM, m)) rfl ?_
  obtain ⟨x9, hx9, hf⟩ := zx_bind_eq hf
  refine zx_ev_sub (L := [some (.ref 0), some (.int v1), some (.int 0)]) (⟨rfl, ⟨rfl, ⟨rfl, trivial⟩⟩⟩) (el_M_firstFalse_l2 v1 m zx_N 0 x9 hx9 ?_)
  obtain ⟨y10, hy10, hf⟩ := zx_let_eq hf
  subst hy10
  obtain rfl := Option.some.inj hf
  rfl
def kx_M_fromWhere_l32 (v1 : Int32) (d : Nat) (out : Option Value × zx_H) : (Int32 × zx_M) → Prop
  | y => out = (some (.int y.1), (zx_SM, y.2))
def kl_M_fromWhere_l32 (v1 : Int32) (d : Nat) (out : Option Value × zx_H) : (Int32 × zx_M) ⊕ ((Int32 × zx_M)) → Prop
  | .inl (v3, m) => zx_Ev (d + 70) 228 32 [some (.ref 0), some (.int v1), none, some (.int v3)] [] (zx_SM, m) out
  | .inr x => kx_M_fromWhere_l32 v1 d out x
def b_M_fromWhere_l32 (v1 : Int32) (v3 : Int32) (m : zx_M) : Option ((Int32 × zx_M) ⊕ ((Int32 × zx_M))) := if 999 < v3 then some (.inr ((-2000000000), m)) else (f_M_fills v3 m).bind fun m11 => (f_M_firstFalse (zx_rem v1 10) m11).bind fun r13 => if ¬ r13 = (-2) then zx_let (v3 + 1) fun a15 => some (.inl (a15, m11)) else some (.inr (v3, m11))
theorem eb_M_fromWhere_l32 (v1 : Int32) (v3 : Int32) (m : zx_M) {d : Nat} {out : Option Value × zx_H} {y : (Int32 × zx_M) ⊕ ((Int32 × zx_M))} (hf : b_M_fromWhere_l32 v1 v3 m = some y) (hK : kl_M_fromWhere_l32 v1 d out y) : zx_Ev (d + 70) 228 32 [some (.ref 0), some (.int v1), none, some (.int v3)] [] (zx_SM, m) out := by
  unfold b_M_fromWhere_l32 at hf
  refine zx_ev_blk zk_228 2 (pc1 := 36) (L1 := [some (.ref 0), some (.int v1), none, some (.int v3)]) (st1 := [.int 999, .int v3]) (h1 := (zx_SM, m)) rfl ?_
  by_cases c9 : 999 < v3
  · rw [if_pos c9] at hf
    refine zx_ev_ift zk_228 (P := 999 < v3) (t := 65) (f := 39) rfl rfl c9 ?_
    refine zx_ev_blk zk_228 1 (pc1 := 67) (L1 := [some (.ref 0), some (.int v1), none, some (.int v3)]) (st1 := [.int (-2000000000)]) (h1 := (zx_SM, m)) rfl ?_
    obtain rfl := Option.some.inj hf
    rw [show out = _ from hK]
    exact zx_ev_ret zk_228 rfl rfl
  · rw [if_neg c9] at hf
    refine zx_ev_ifn zk_228 (P := 999 < v3) (t := 65) (f := 39) rfl rfl c9 ?_
    refine zx_ev_blk zk_228 2 (pc1 := 41) (L1 := [some (.ref 0), some (.int v1), none, some (.int v3)]) (st1 := [.int v3, .ref 0]) (h1 := (zx_SM, m)) rfl ?_
    obtain ⟨m11, hv10, hf⟩ := zx_bind_eq hf
    refine zx_ev_call (d := d + 69) zk_228 (v := none) (h1 := (zx_SM, m11)) rfl rfl zt_191 rfl zx_SMn rfl rfl (s_M_fills _ _ (d := d + 69) hv10) ?_
    refine zx_ev_blk zk_228 3 (pc1 := 48) (L1 := [some (.ref 0), some (.int v1), none, some (.int v3)]) (st1 := [.int 10, .int v1, .ref 0]) (h1 := (zx_SM, m11)) rfl ?_
    refine zx_ev_step zk_228 rfl (st_irem (by decide)) ?_
    obtain ⟨r13, hv12, hf⟩ := zx_bind_eq hf
    refine zx_ev_call (d := d + 69) zk_228 (v := some (.int r13)) (h1 := (zx_SM, m11)) rfl rfl zt_225 rfl zx_SMn rfl rfl (s_M_firstFalse _ _ (d := d + 68) hv12) ?_
    refine zx_ev_blk zk_228 1 (pc1 := 54) (L1 := [some (.ref 0), some (.int v1), none, some (.int v3)]) (st1 := [.int (-2), .int r13]) (h1 := (zx_SM, m11)) rfl ?_
    by_cases c14 : ¬ r13 = (-2)
    · rw [if_pos c14] at hf
      refine zx_ev_ift zk_228 (P := ¬ r13 = (-2)) (t := 59) (f := 57) rfl rfl c14 ?_
      obtain ⟨a15, ha15, hf⟩ := zx_let_eq hf
      refine zx_ev_blk zk_228 2 (pc1 := 32) (L1 := [some (.ref 0), some (.int v1), none, some (.int a15)]) (st1 := []) (h1 := (zx_SM, m11)) (by subst ha15; rfl) ?_
      obtain rfl := Option.some.inj hf
      exact zx_ev_sub (L := [some (.ref 0), some (.int v1), none, some (.int a15)]) (⟨rfl, ⟨rfl, ⟨rfl, trivial⟩⟩⟩) hK
    · rw [if_neg c14] at hf
      refine zx_ev_ifn zk_228 (P := ¬ r13 = (-2)) (t := 59) (f := 57) rfl rfl c14 ?_
      refine zx_ev_blk zk_228 1 (pc1 := 58) (L1 := [some (.ref 0), some (.int v1), none, some (.int v3)]) (st1 := [.int v3]) (h1 := (zx_SM, m11)) rfl ?_
      obtain rfl := Option.some.inj hf
      rw [show out = _ from hK]
      exact zx_ev_ret zk_228 rfl rfl
def l_M_fromWhere_l32 (v1 : Int32) (s0 : Int32 × zx_M) : Option ((Int32 × zx_M)) := zx_lp zx_N (fun s : Int32 × zx_M => b_M_fromWhere_l32 v1 s.1 s.2) s0
theorem el_M_fromWhere_l32 (v1 : Int32) {d : Nat} {out : Option Value × zx_H} : ∀ (n : Nat) (s : Int32 × zx_M) (x : (Int32 × zx_M)), zx_lp n (fun s : Int32 × zx_M => b_M_fromWhere_l32 v1 s.1 s.2) s = some x → kx_M_fromWhere_l32 v1 d out x → zx_Ev (d + 70) 228 32 [some (.ref 0), some (.int v1), none, some (.int s.1)] [] (zx_SM, s.2) out := by
  intro n
  induction n with
  | zero => intro s x hl _; simp [zx_lp] at hl
  | succ n ih =>
    intro s x hl hx
    unfold zx_lp at hl
    cases hb : b_M_fromWhere_l32 v1 s.1 s.2 with
    | none => simp only [hb] at hl; cases hl
    | some z =>
      simp only [hb] at hl
      cases z with
      | inl s1 => exact eb_M_fromWhere_l32 v1 s.1 s.2 hb (ih s1 x hl hx)
      | inr t =>
        simp only [Option.some.injEq] at hl
        subst hl
        exact eb_M_fromWhere_l32 v1 s.1 s.2 hb hx
def f_M_fromWhere (v1 : Int32) (v2 : Int32) (m : zx_M) : Option (Int32 × zx_M) := (f_M_soIs v1 m).bind fun r2 => if ¬ r2 = 1 then some ((-2000000000), m) else (f_M_isCount v2 m).bind fun r5 => if ¬ r5 = 0 then (f_M_takesOrder (v1 / 10) v2 m).bind fun m8 => (l_M_fromWhere_l32 v1 ((-999), m8)).bind fun x16 => zx_let x16 fun y17 => some y17 else some ((-2000000000), m)
theorem s_M_fromWhere (v1 : Int32) (v2 : Int32) (m : zx_M) {d : Nat} {y : (Int32 × zx_M)} (hf : f_M_fromWhere v1 v2 m = some y) : zx_Ev (d + 70) 228 0 [some (.ref 0), some (.int v1), some (.int v2), none] [] (zx_SM, m) (some (.int y.1), (zx_SM, y.2)) := by
  unfold f_M_fromWhere at hf
  refine zx_ev_blk zk_228 2 (pc1 := 2) (L1 := [some (.ref 0), some (.int v1), some (.int v2), none]) (st1 := [.int v1, .ref 0]) (h1 := (zx_SM, m)) rfl ?_
  obtain ⟨r2, hv1, hf⟩ := zx_bind_eq hf
  refine zx_ev_call (d := d + 69) zk_228 (v := some (.int r2)) (h1 := (zx_SM, m)) rfl rfl zt_226 rfl zx_SMn rfl rfl (s_M_soIs _ _ (d := d + 66) hv1) ?_
  refine zx_ev_blk zk_228 1 (pc1 := 6) (L1 := [some (.ref 0), some (.int v1), some (.int v2), none]) (st1 := [.int 1, .int r2]) (h1 := (zx_SM, m)) rfl ?_
  by_cases c3 : ¬ r2 = 1
  · rw [if_pos c3] at hf
    refine zx_ev_ift zk_228 (P := ¬ r2 = 1) (t := 16) (f := 9) rfl rfl c3 ?_
    refine zx_ev_blk zk_228 1 (pc1 := 18) (L1 := [some (.ref 0), some (.int v1), some (.int v2), none]) (st1 := [.int (-2000000000)]) (h1 := (zx_SM, m)) rfl ?_
    obtain rfl := Option.some.inj hf
    exact zx_ev_ret zk_228 rfl rfl
  · rw [if_neg c3] at hf
    refine zx_ev_ifn zk_228 (P := ¬ r2 = 1) (t := 16) (f := 9) rfl rfl c3 ?_
    refine zx_ev_blk zk_228 1 (pc1 := 10) (L1 := [some (.ref 0), some (.int v1), some (.int v2), none]) (st1 := [.int v2]) (h1 := (zx_SM, m)) rfl ?_
    obtain ⟨r5, hv4, hf⟩ := zx_bind_eq hf
    refine zx_ev_call (d := d + 69) zk_228 (v := some (.int r5)) (h1 := (zx_SM, m)) rfl rfl zt_202 rfl zx_SMn rfl rfl (s_M_isCount _ _ (d := d + 68) hv4) ?_
    by_cases c6 : ¬ r5 = 0
    · rw [if_pos c6] at hf
      refine zx_ev_ift zk_228 (P := ¬ r5 = 0) (t := 19) (f := 16) rfl rfl c6 ?_
      refine zx_ev_blk zk_228 3 (pc1 := 23) (L1 := [some (.ref 0), some (.int v1), some (.int v2), none]) (st1 := [.int 10, .int v1, .ref 0]) (h1 := (zx_SM, m)) rfl ?_
      refine zx_ev_step zk_228 rfl (st_idiv (by decide)) ?_
      refine zx_ev_blk zk_228 1 (pc1 := 25) (L1 := [some (.ref 0), some (.int v1), some (.int v2), none]) (st1 := [.int v2, .int (v1 / 10), .ref 0]) (h1 := (zx_SM, m)) rfl ?_
      obtain ⟨m8, hv7, hf⟩ := zx_bind_eq hf
      refine zx_ev_call (d := d + 69) zk_228 (v := none) (h1 := (zx_SM, m8)) rfl rfl zt_200 rfl zx_SMn rfl rfl (s_M_takesOrder _ _ _ (d := d + 0) hv7) ?_
      refine zx_ev_blk zk_228 2 (pc1 := 32) (L1 := [some (.ref 0), some (.int v1), some (.int v2), some (.int (-999))]) (st1 := []) (h1 := (zx_SM, m8)) rfl ?_
      obtain ⟨x16, hx16, hf⟩ := zx_bind_eq hf
      refine zx_ev_sub (L := [some (.ref 0), some (.int v1), none, some (.int (-999))]) (⟨rfl, ⟨rfl, ⟨trivial, ⟨rfl, trivial⟩⟩⟩⟩) (el_M_fromWhere_l32 v1 zx_N ((-999), m8) x16 hx16 ?_)
      obtain ⟨y17, hy17, hf⟩ := zx_let_eq hf
      subst hy17
      obtain rfl := Option.some.inj hf
      rfl
    · rw [if_neg c6] at hf
      refine zx_ev_ifn zk_228 (P := ¬ r5 = 0) (t := 19) (f := 16) rfl rfl c6 ?_
      refine zx_ev_blk zk_228 1 (pc1 := 18) (L1 := [some (.ref 0), some (.int v1), some (.int v2), none]) (st1 := [.int (-2000000000)]) (h1 := (zx_SM, m)) rfl ?_
      obtain rfl := Option.some.inj hf
      exact zx_ev_ret zk_228 rfl rfl
def kx_M_hasGone_l2 (v1 : Int32) (m : zx_M) (d : Nat) (out : Option Value × zx_H) : Int32 → Prop
  | y => out = (some (.int y), (zx_SM, m))
def kl_M_hasGone_l2 (v1 : Int32) (m : zx_M) (d : Nat) (out : Option Value × zx_H) : (Int32) ⊕ (Int32) → Prop
  | .inl v2 => zx_Ev (d) 233 2 [some (.ref 0), some (.int v1), some (.int v2)] [] (zx_SM, m) out
  | .inr x => kx_M_hasGone_l2 v1 m d out x
def b_M_hasGone_l2 (v1 : Int32) (v2 : Int32) (m : zx_M) : Option ((Int32) ⊕ (Int32)) := if (m.1 0 29) ≤ v2 then some (.inr 0) else (zx_ix 7 v2).bind fun j2 => if ¬ (m.1 13 j2) = v1 then zx_let (v2 + 1) fun a4 => some (.inl a4) else some (.inr 1)
theorem eb_M_hasGone_l2 (v1 : Int32) (v2 : Int32) (m : zx_M) {d : Nat} {out : Option Value × zx_H} {y : (Int32) ⊕ (Int32)} (hf : b_M_hasGone_l2 v1 v2 m = some y) (hK : kl_M_hasGone_l2 v1 m d out y) : zx_Ev (d) 233 2 [some (.ref 0), some (.int v1), some (.int v2)] [] (zx_SM, m) out := by
  unfold b_M_hasGone_l2 at hf
  refine zx_ev_blk zk_233 3 (pc1 := 7) (L1 := [some (.ref 0), some (.int v1), some (.int v2)]) (st1 := [.int (m.1 0 29), .int v2]) (h1 := (zx_SM, m)) rfl ?_
  by_cases c1 : (m.1 0 29) ≤ v2
  · rw [if_pos c1] at hf
    refine zx_ev_ift zk_233 (P := (m.1 0 29) ≤ v2) (t := 28) (f := 10) rfl rfl c1 ?_
    refine zx_ev_blk zk_233 1 (pc1 := 29) (L1 := [some (.ref 0), some (.int v1), some (.int v2)]) (st1 := [.int 0]) (h1 := (zx_SM, m)) rfl ?_
    obtain rfl := Option.some.inj hf
    rw [show out = _ from hK]
    exact zx_ev_ret zk_233 rfl (zx_ret_z (Or.inl rfl))
  · rw [if_neg c1] at hf
    refine zx_ev_ifn zk_233 (P := (m.1 0 29) ≤ v2) (t := 28) (f := 10) rfl rfl c1 ?_
    refine zx_ev_blk zk_233 3 (pc1 := 15) (L1 := [some (.ref 0), some (.int v1), some (.int v2)]) (st1 := [.int v2, .ref 13]) (h1 := (zx_SM, m)) rfl ?_
    obtain ⟨j2, hj2, hf⟩ := zx_bind_eq hf
    refine zx_ev_step zk_233 rfl (st_iald rfl rfl hj2) ?_
    refine zx_ev_blk zk_233 1 (pc1 := 17) (L1 := [some (.ref 0), some (.int v1), some (.int v2)]) (st1 := [.int v1, .int (m.1 13 j2)]) (h1 := (zx_SM, m)) rfl ?_
    by_cases c3 : ¬ (m.1 13 j2) = v1
    · rw [if_pos c3] at hf
      refine zx_ev_ift zk_233 (P := ¬ (m.1 13 j2) = v1) (t := 22) (f := 20) rfl rfl c3 ?_
      obtain ⟨a4, ha4, hf⟩ := zx_let_eq hf
      refine zx_ev_blk zk_233 2 (pc1 := 2) (L1 := [some (.ref 0), some (.int v1), some (.int a4)]) (st1 := []) (h1 := (zx_SM, m)) (by subst ha4; rfl) ?_
      obtain rfl := Option.some.inj hf
      exact zx_ev_sub (L := [some (.ref 0), some (.int v1), some (.int a4)]) (⟨rfl, ⟨rfl, ⟨rfl, trivial⟩⟩⟩) hK
    · rw [if_neg c3] at hf
      refine zx_ev_ifn zk_233 (P := ¬ (m.1 13 j2) = v1) (t := 22) (f := 20) rfl rfl c3 ?_
      refine zx_ev_blk zk_233 1 (pc1 := 21) (L1 := [some (.ref 0), some (.int v1), some (.int v2)]) (st1 := [.int 1]) (h1 := (zx_SM, m)) rfl ?_
      obtain rfl := Option.some.inj hf
      rw [show out = _ from hK]
      exact zx_ev_ret zk_233 rfl (zx_ret_z (Or.inr rfl))
def l_M_hasGone_l2 (v1 : Int32) (m : zx_M) (s0 : Int32) : Option (Int32) := zx_lp zx_N (fun s : Int32 => b_M_hasGone_l2 v1 s m) s0
theorem el_M_hasGone_l2 (v1 : Int32) (m : zx_M) {d : Nat} {out : Option Value × zx_H} : ∀ (n : Nat) (s : Int32) (x : Int32), zx_lp n (fun s : Int32 => b_M_hasGone_l2 v1 s m) s = some x → kx_M_hasGone_l2 v1 m d out x → zx_Ev (d) 233 2 [some (.ref 0), some (.int v1), some (.int s)] [] (zx_SM, m) out := by
  intro n
  induction n with
  | zero => intro s x hl _; simp [zx_lp] at hl
  | succ n ih =>
    intro s x hl hx
    unfold zx_lp at hl
    cases hb : b_M_hasGone_l2 v1 s m with
    | none => simp only [hb] at hl; cases hl
    | some z =>
      simp only [hb] at hl
      cases z with
      | inl s1 => exact eb_M_hasGone_l2 v1 s m hb (ih s1 x hl hx)
      | inr t =>
        simp only [Option.some.injEq] at hl
        subst hl
        exact eb_M_hasGone_l2 v1 s m hb hx
def f_M_hasGone (v1 : Int32) (m : zx_M) : Option Int32 := (l_M_hasGone_l2 v1 m 0).bind fun x5 => zx_let x5 fun y6 => some y6
theorem s_M_hasGone (v1 : Int32) (m : zx_M) {d : Nat} {y : Int32} (hf : f_M_hasGone v1 m = some y) : zx_Ev (d) 233 0 [some (.ref 0), some (.int v1), none] [] (zx_SM, m) (some (.int y), (zx_SM, m)) := by
  unfold f_M_hasGone at hf
  refine zx_ev_blk zk_233 2 (pc1 := 2) (L1 := [some (.ref 0), some (.int v1), some (.int 0)]) (st1 := []) (h1 := (zx_SM, m)) rfl ?_
  obtain ⟨x5, hx5, hf⟩ := zx_bind_eq hf
  refine zx_ev_sub (L := [some (.ref 0), some (.int v1), some (.int 0)]) (⟨rfl, ⟨rfl, ⟨rfl, trivial⟩⟩⟩) (el_M_hasGone_l2 v1 m zx_N 0 x5 hx5 ?_)
  obtain ⟨y6, hy6, hf⟩ := zx_let_eq hf
  subst hy6
  obtain rfl := Option.some.inj hf
  rfl
def n_M_go_n186 (v1 : Int32) (v3 : Int32) (v4 : Int32) (m : zx_M) : Option (Int32 × zx_M) := zx_let (zx_u1 m 0 38 v4) fun m33 => zx_let (zx_u1 m33 0 39 v1) fun m34 => some (v3, m34)
theorem e_M_go_n186 (v1 : Int32) (v3 : Int32) (v4 : Int32) (m : zx_M) {d : Nat} {y : (Int32 × zx_M)} (hf : n_M_go_n186 v1 v3 v4 m = some y) : zx_Ev (d + 68) 234 186 [some (.ref 0), some (.int v1), none, some (.int v3), some (.int v4)] [] (zx_SM, m) (some (.int y.1), (zx_SM, y.2)) := by
  unfold n_M_go_n186 at hf
  obtain ⟨m33, hm33, hf⟩ := zx_let_eq hf
  obtain ⟨m34, hm34, hf⟩ := zx_let_eq hf
  refine zx_ev_blk zk_234 7 (pc1 := 198) (L1 := [some (.ref 0), some (.int v1), none, some (.int v3), some (.int v4)]) (st1 := [.int v3]) (h1 := (zx_SM, m34)) (by subst hm33; subst hm34; rfl) ?_
  obtain rfl := Option.some.inj hf
  exact zx_ev_ret zk_234 rfl rfl
def n_M_go_n70 (v1 : Int32) (t1 : Int32) (t2 : Int32) (m : zx_M) : Option (Int32 × zx_M) := (zx_ix 36 31).bind fun j14 => zx_let (zx_u1 m 0 30 (t1 + (t2 * (m.1 1 j14)))) fun m15 => (f_M_carriedBy v1 m15).bind fun (r17, m18) => zx_let ((m15.1 0 30) + r17) fun a19 => (zx_ix 7 (m18.1 0 29)).bind fun j20 => zx_let (zx_u1 m18 13 j20 v1) fun m21 => (zx_ix 7 (m21.1 0 29)).bind fun j22 => zx_let (zx_u1 m21 14 j22 (m21.1 0 31)) fun m23 => (zx_ix 7 (m23.1 0 29)).bind fun j24 => zx_let (zx_u1 m23 15 j24 a19) fun m25 => zx_let (zx_u1 m25 0 29 ((m25.1 0 29) + 1)) fun m26 => zx_let (zx_u1 m26 0 36 ((m26.1 0 36) + 1)) fun m27 => (zx_ix 36 28).bind fun j28 => (zx_ix 36 29).bind fun j29 => (f_M_sizeOf (a19 - (((m27.1 1 j28) + (m27.1 1 j29)) / 2)) m27).bind fun r31 => if (m27.1 0 38) < r31 then n_M_go_n186 v1 a19 r31 m27 else if 0 ≤ (m27.1 0 39) then some (a19, m27) else n_M_go_n186 v1 a19 r31 m27
theorem e_M_go_n70 (v1 : Int32) (t1 : Int32) (t2 : Int32) (m : zx_M) {d : Nat} {y : (Int32 × zx_M)} (hf : n_M_go_n70 v1 t1 t2 m = some y) : zx_Ev (d + 68) 234 70 [some (.ref 0), some (.int v1), none, none, none] [.int t2, .int t1, .ref 0] (zx_SM, m) (some (.int y.1), (zx_SM, y.2)) := by
  unfold n_M_go_n70 at hf
  refine zx_ev_blk zk_234 3 (pc1 := 76) (L1 := [some (.ref 0), some (.int v1), none, none, none]) (st1 := [.int 31, .ref 1, .int t2, .int t1, .ref 0]) (h1 := (zx_SM, m)) rfl ?_
  obtain ⟨j14, hj14, hf⟩ := zx_bind_eq hf
  refine zx_ev_step zk_234 rfl (st_iald rfl rfl hj14) ?_
  obtain ⟨m15, hm15, hf⟩ := zx_let_eq hf
  refine zx_ev_blk zk_234 7 (pc1 := 88) (L1 := [some (.ref 0), some (.int v1), none, none, none]) (st1 := [.int v1, .ref 0, .int (m15.1 0 30)]) (h1 := (zx_SM, m15)) (by subst hm15; rfl) ?_
  obtain ⟨⟨r17, m18⟩, hv16, hf⟩ := zx_bind_eq hf
  dsimp only at hf
  refine zx_ev_call (d := d + 67) zk_234 (v := some (.int r17)) (h1 := (zx_SM, m18)) rfl rfl zt_188 rfl zx_SMn rfl rfl (s_M_carriedBy _ _ (d := d + 0) hv16) ?_
  obtain ⟨a19, ha19, hf⟩ := zx_let_eq hf
  refine zx_ev_blk zk_234 7 (pc1 := 102) (L1 := [some (.ref 0), some (.int v1), none, some (.int a19), none]) (st1 := [.int v1, .int (m18.1 0 29), .ref 13]) (h1 := (zx_SM, m18)) (by subst ha19; rfl) ?_
  obtain ⟨j20, hj20, hf⟩ := zx_bind_eq hf
  refine zx_ev_step zk_234 rfl (st_iast rfl hj20) ?_
  obtain ⟨m21, hm21, hf⟩ := zx_let_eq hf
  rw [hm21]
  refine zx_ev_blk zk_234 6 (pc1 := 115) (L1 := [some (.ref 0), some (.int v1), none, some (.int a19), none]) (st1 := [.int (m21.1 0 31), .int (m21.1 0 29), .ref 14]) (h1 := (zx_SM, m21)) rfl ?_
  obtain ⟨j22, hj22, hf⟩ := zx_bind_eq hf
  refine zx_ev_step zk_234 rfl (st_iast rfl hj22) ?_
  obtain ⟨m23, hm23, hf⟩ := zx_let_eq hf
  rw [hm23]
  refine zx_ev_blk zk_234 5 (pc1 := 125) (L1 := [some (.ref 0), some (.int v1), none, some (.int a19), none]) (st1 := [.int a19, .int (m23.1 0 29), .ref 15]) (h1 := (zx_SM, m23)) rfl ?_
  obtain ⟨j24, hj24, hf⟩ := zx_bind_eq hf
  refine zx_ev_step zk_234 rfl (st_iast rfl hj24) ?_
  obtain ⟨m25, hm25, hf⟩ := zx_let_eq hf
  rw [hm25]
  obtain ⟨m26, hm26, hf⟩ := zx_let_eq hf
  obtain ⟨m27, hm27, hf⟩ := zx_let_eq hf
  refine zx_ev_blk zk_234 16 (pc1 := 153) (L1 := [some (.ref 0), some (.int v1), none, some (.int a19), none]) (st1 := [.int 28, .ref 1, .int a19]) (h1 := (zx_SM, m27)) (by subst hm26; subst hm27; rfl) ?_
  obtain ⟨j28, hj28, hf⟩ := zx_bind_eq hf
  refine zx_ev_step zk_234 rfl (st_iald rfl rfl hj28) ?_
  refine zx_ev_blk zk_234 3 (pc1 := 160) (L1 := [some (.ref 0), some (.int v1), none, some (.int a19), none]) (st1 := [.int 29, .ref 1, .int (m27.1 1 j28), .int a19]) (h1 := (zx_SM, m27)) rfl ?_
  obtain ⟨j29, hj29, hf⟩ := zx_bind_eq hf
  refine zx_ev_step zk_234 rfl (st_iald rfl rfl hj29) ?_
  refine zx_ev_blk zk_234 2 (pc1 := 163) (L1 := [some (.ref 0), some (.int v1), none, some (.int a19), none]) (st1 := [.int 2, .int ((m27.1 1 j28) + (m27.1 1 j29)), .int a19]) (h1 := (zx_SM, m27)) rfl ?_
  refine zx_ev_step zk_234 rfl (st_idiv (by decide)) ?_
  refine zx_ev_blk zk_234 1 (pc1 := 165) (L1 := [some (.ref 0), some (.int v1), none, some (.int a19), none]) (st1 := [.int (a19 - (((m27.1 1 j28) + (m27.1 1 j29)) / 2))]) (h1 := (zx_SM, m27)) rfl ?_
  obtain ⟨r31, hv30, hf⟩ := zx_bind_eq hf
  refine zx_ev_call (d := d + 67) zk_234 (v := some (.int r31)) (h1 := (zx_SM, m27)) rfl rfl zt_158 rfl zx_SMn rfl rfl (s_M_sizeOf _ _ (d := d + 67) hv30) ?_
  refine zx_ev_blk zk_234 4 (pc1 := 176) (L1 := [some (.ref 0), some (.int v1), none, some (.int a19), some (.int r31)]) (st1 := [.int (m27.1 0 38), .int r31]) (h1 := (zx_SM, m27)) rfl ?_
  by_cases c32 : (m27.1 0 38) < r31
  · rw [if_pos c32] at hf
    refine zx_ev_ift zk_234 (P := (m27.1 0 38) < r31) (t := 186) (f := 179) rfl rfl c32 ?_
    exact zx_ev_sub (L := [some (.ref 0), some (.int v1), none, some (.int a19), some (.int r31)]) (⟨rfl, ⟨rfl, ⟨rfl, ⟨rfl, trivial⟩⟩⟩⟩) (e_M_go_n186 v1 a19 r31 m27 hf)
  · rw [if_neg c32] at hf
    refine zx_ev_ifn zk_234 (P := (m27.1 0 38) < r31) (t := 186) (f := 179) rfl rfl c32 ?_
    refine zx_ev_blk zk_234 2 (pc1 := 183) (L1 := [some (.ref 0), some (.int v1), none, some (.int a19), some (.int r31)]) (st1 := [.int (m27.1 0 39)]) (h1 := (zx_SM, m27)) rfl ?_
    by_cases c35 : 0 ≤ (m27.1 0 39)
    · rw [if_pos c35] at hf
      refine zx_ev_ift zk_234 (P := 0 ≤ (m27.1 0 39)) (t := 197) (f := 186) rfl rfl c35 ?_
      refine zx_ev_blk zk_234 1 (pc1 := 198) (L1 := [some (.ref 0), some (.int v1), none, some (.int a19), some (.int r31)]) (st1 := [.int a19]) (h1 := (zx_SM, m27)) rfl ?_
      obtain rfl := Option.some.inj hf
      exact zx_ev_ret zk_234 rfl rfl
    · rw [if_neg c35] at hf
      refine zx_ev_ifn zk_234 (P := 0 ≤ (m27.1 0 39)) (t := 197) (f := 186) rfl rfl c35 ?_
      exact zx_ev_sub (L := [some (.ref 0), some (.int v1), none, some (.int a19), some (.int r31)]) (⟨rfl, ⟨rfl, ⟨rfl, ⟨rfl, trivial⟩⟩⟩⟩) (e_M_go_n186 v1 a19 r31 m27 hf)
def f_M_go (v1 : Int32) (v2 : Int32) (m : zx_M) : Option (Int32 × zx_M) := (f_M_isJumper (Int32.toInt64 v1) m).bind fun r2 => if r2 = 0 then some ((-2000000000), m) else (f_M_within (Int32.toInt64 v2) 0 20 m).bind fun r5 => if r5 = 0 then some ((-2000000000), m) else if (m.1 0 28) = 0 then some ((-2000000000), m) else (f_M_hasGone v1 m).bind fun r9 => if r9 = 0 then zx_let (zx_u1 m 0 31 ((m.1 0 31) + v2)) fun m11 => (zx_ix 36 35).bind fun j12 => if ¬ (m11.1 1 j12) = 0 then n_M_go_n70 v1 (m11.1 0 30) (-v2) m11 else n_M_go_n70 v1 (m11.1 0 30) v2 m11 else some ((-2000000000), m)
theorem s_M_go (v1 : Int32) (v2 : Int32) (m : zx_M) {d : Nat} {y : (Int32 × zx_M)} (hf : f_M_go v1 v2 m = some y) : zx_Ev (d + 68) 234 0 [some (.ref 0), some (.int v1), some (.int v2), none, none] [] (zx_SM, m) (some (.int y.1), (zx_SM, y.2)) := by
  unfold f_M_go at hf
  refine zx_ev_blk zk_234 3 (pc1 := 3) (L1 := [some (.ref 0), some (.int v1), some (.int v2), none, none]) (st1 := [.long (Int32.toInt64 v1), .ref 0]) (h1 := (zx_SM, m)) rfl ?_
  obtain ⟨r2, hv1, hf⟩ := zx_bind_eq hf
  refine zx_ev_call (d := d + 67) zk_234 (v := some (.int r2)) (h1 := (zx_SM, m)) rfl rfl zt_164 rfl zx_SMn rfl rfl (s_M_isJumper _ _ (d := d + 66) hv1) ?_
  by_cases c3 : r2 = 0
  · rw [if_pos c3] at hf
    refine zx_ev_ift zk_234 (P := r2 = 0) (t := 36) (f := 9) rfl rfl c3 ?_
    refine zx_ev_blk zk_234 1 (pc1 := 38) (L1 := [some (.ref 0), some (.int v1), some (.int v2), none, none]) (st1 := [.int (-2000000000)]) (h1 := (zx_SM, m)) rfl ?_
    obtain rfl := Option.some.inj hf
    exact zx_ev_ret zk_234 rfl rfl
  · rw [if_neg c3] at hf
    refine zx_ev_ifn zk_234 (P := r2 = 0) (t := 36) (f := 9) rfl rfl c3 ?_
    refine zx_ev_blk zk_234 4 (pc1 := 15) (L1 := [some (.ref 0), some (.int v1), some (.int v2), none, none]) (st1 := [.long 20, .long 0, .long (Int32.toInt64 v2)]) (h1 := (zx_SM, m)) rfl ?_
    obtain ⟨r5, hv4, hf⟩ := zx_bind_eq hf
    refine zx_ev_call (d := d + 67) zk_234 (v := some (.int r5)) (h1 := (zx_SM, m)) rfl rfl zt_157 rfl zx_SMn rfl rfl (s_M_within _ _ _ _ (d := d + 67) hv4) ?_
    by_cases c6 : r5 = 0
    · rw [if_pos c6] at hf
      refine zx_ev_ift zk_234 (P := r5 = 0) (t := 36) (f := 21) rfl rfl c6 ?_
      refine zx_ev_blk zk_234 1 (pc1 := 38) (L1 := [some (.ref 0), some (.int v1), some (.int v2), none, none]) (st1 := [.int (-2000000000)]) (h1 := (zx_SM, m)) rfl ?_
      obtain rfl := Option.some.inj hf
      exact zx_ev_ret zk_234 rfl rfl
    · rw [if_neg c6] at hf
      refine zx_ev_ifn zk_234 (P := r5 = 0) (t := 36) (f := 21) rfl rfl c6 ?_
      refine zx_ev_blk zk_234 2 (pc1 := 25) (L1 := [some (.ref 0), some (.int v1), some (.int v2), none, none]) (st1 := [.int (m.1 0 28)]) (h1 := (zx_SM, m)) rfl ?_
      by_cases c7 : (m.1 0 28) = 0
      · rw [if_pos c7] at hf
        refine zx_ev_ift zk_234 (P := (m.1 0 28) = 0) (t := 36) (f := 28) rfl rfl c7 ?_
        refine zx_ev_blk zk_234 1 (pc1 := 38) (L1 := [some (.ref 0), some (.int v1), some (.int v2), none, none]) (st1 := [.int (-2000000000)]) (h1 := (zx_SM, m)) rfl ?_
        obtain rfl := Option.some.inj hf
        exact zx_ev_ret zk_234 rfl rfl
      · rw [if_neg c7] at hf
        refine zx_ev_ifn zk_234 (P := (m.1 0 28) = 0) (t := 36) (f := 28) rfl rfl c7 ?_
        refine zx_ev_blk zk_234 2 (pc1 := 30) (L1 := [some (.ref 0), some (.int v1), some (.int v2), none, none]) (st1 := [.int v1, .ref 0]) (h1 := (zx_SM, m)) rfl ?_
        obtain ⟨r9, hv8, hf⟩ := zx_bind_eq hf
        refine zx_ev_call (d := d + 67) zk_234 (v := some (.int r9)) (h1 := (zx_SM, m)) rfl rfl zt_233 rfl zx_SMn rfl rfl (s_M_hasGone _ _ (d := d + 67) hv8) ?_
        by_cases c10 : r9 = 0
        · rw [if_pos c10] at hf
          refine zx_ev_ift zk_234 (P := r9 = 0) (t := 39) (f := 36) rfl rfl c10 ?_
          obtain ⟨m11, hm11, hf⟩ := zx_let_eq hf
          refine zx_ev_blk zk_234 12 (pc1 := 60) (L1 := [some (.ref 0), some (.int v1), some (.int v2), none, none]) (st1 := [.int 35, .ref 1, .int (m11.1 0 30), .ref 0]) (h1 := (zx_SM, m11)) (by subst hm11; rfl) ?_
          obtain ⟨j12, hj12, hf⟩ := zx_bind_eq hf
          refine zx_ev_step zk_234 rfl (st_iald rfl rfl hj12) ?_
          by_cases c13 : ¬ (m11.1 1 j12) = 0
          · rw [if_pos c13] at hf
            refine zx_ev_ift zk_234 (P := ¬ (m11.1 1 j12) = 0) (t := 68) (f := 64) rfl rfl c13 ?_
            refine zx_ev_blk zk_234 2 (pc1 := 70) (L1 := [some (.ref 0), some (.int v1), some (.int v2), none, none]) (st1 := [.int (-v2), .int (m11.1 0 30), .ref 0]) (h1 := (zx_SM, m11)) rfl ?_
            exact zx_ev_sub (L := [some (.ref 0), some (.int v1), none, none, none]) (⟨rfl, ⟨rfl, ⟨trivial, trivial⟩⟩⟩) (e_M_go_n70 v1 (m11.1 0 30) (-v2) m11 hf)
          · rw [if_neg c13] at hf
            refine zx_ev_ifn zk_234 (P := ¬ (m11.1 1 j12) = 0) (t := 68) (f := 64) rfl rfl c13 ?_
            refine zx_ev_blk zk_234 2 (pc1 := 70) (L1 := [some (.ref 0), some (.int v1), some (.int v2), none, none]) (st1 := [.int v2, .int (m11.1 0 30), .ref 0]) (h1 := (zx_SM, m11)) rfl ?_
            exact zx_ev_sub (L := [some (.ref 0), some (.int v1), none, none, none]) (⟨rfl, ⟨rfl, ⟨trivial, trivial⟩⟩⟩) (e_M_go_n70 v1 (m11.1 0 30) v2 m11 hf)
        · rw [if_neg c10] at hf
          refine zx_ev_ifn zk_234 (P := r9 = 0) (t := 39) (f := 36) rfl rfl c10 ?_
          refine zx_ev_blk zk_234 1 (pc1 := 38) (L1 := [some (.ref 0), some (.int v1), some (.int v2), none, none]) (st1 := [.int (-2000000000)]) (h1 := (zx_SM, m)) rfl ?_
          obtain rfl := Option.some.inj hf
          exact zx_ev_ret zk_234 rfl rfl
def f_M_led (v1 : Int32) (m : zx_M) : Option Int32 := if v1 = 0 then some (m.1 0 35) else if v1 = 1 then some (m.1 0 36) else if v1 = 2 then some (m.1 0 37) else if v1 = 3 then some (m.1 0 38) else if v1 = 4 then some (m.1 0 39) else if v1 = 5 then if (m.1 0 28) = 0 then some (-2000000000) else some (m.1 0 30) else some (-2000000000)
theorem s_M_led (v1 : Int32) (m : zx_M) {d : Nat} {y : Int32} (hf : f_M_led v1 m = some y) : zx_Ev (d) 236 0 [some (.ref 0), some (.int v1)] [] (zx_SM, m) (some (.int y), (zx_SM, m)) := by
  unfold f_M_led at hf
  refine zx_ev_blk zk_236 1 (pc1 := 1) (L1 := [some (.ref 0), some (.int v1)]) (st1 := [.int v1]) (h1 := (zx_SM, m)) rfl ?_
  by_cases c1 : v1 = 0
  · rw [if_pos c1] at hf
    refine zx_ev_tsw zk_236 rfl rfl (zx_pick_hit c1) rfl ?_
    refine zx_ev_blk zk_236 2 (pc1 := 44) (L1 := [some (.ref 0), some (.int v1)]) (st1 := [.int (m.1 0 35)]) (h1 := (zx_SM, m)) rfl ?_
    obtain rfl := Option.some.inj hf
    exact zx_ev_ret zk_236 rfl rfl
  · rw [if_neg c1] at hf
    by_cases c2 : v1 = 1
    · rw [if_pos c2] at hf
      refine zx_ev_tsw zk_236 rfl rfl (zx_pick_miss c1 (zx_pick_hit c2)) rfl ?_
      refine zx_ev_blk zk_236 2 (pc1 := 49) (L1 := [some (.ref 0), some (.int v1)]) (st1 := [.int (m.1 0 36)]) (h1 := (zx_SM, m)) rfl ?_
      obtain rfl := Option.some.inj hf
      exact zx_ev_ret zk_236 rfl rfl
    · rw [if_neg c2] at hf
      by_cases c3 : v1 = 2
      · rw [if_pos c3] at hf
        refine zx_ev_tsw zk_236 rfl rfl (zx_pick_miss c1 (zx_pick_miss c2 (zx_pick_hit c3))) rfl ?_
        refine zx_ev_blk zk_236 2 (pc1 := 54) (L1 := [some (.ref 0), some (.int v1)]) (st1 := [.int (m.1 0 37)]) (h1 := (zx_SM, m)) rfl ?_
        obtain rfl := Option.some.inj hf
        exact zx_ev_ret zk_236 rfl rfl
      · rw [if_neg c3] at hf
        by_cases c4 : v1 = 3
        · rw [if_pos c4] at hf
          refine zx_ev_tsw zk_236 rfl rfl (zx_pick_miss c1 (zx_pick_miss c2 (zx_pick_miss c3 (zx_pick_hit c4)))) rfl ?_
          refine zx_ev_blk zk_236 2 (pc1 := 59) (L1 := [some (.ref 0), some (.int v1)]) (st1 := [.int (m.1 0 38)]) (h1 := (zx_SM, m)) rfl ?_
          obtain rfl := Option.some.inj hf
          exact zx_ev_ret zk_236 rfl rfl
        · rw [if_neg c4] at hf
          by_cases c5 : v1 = 4
          · rw [if_pos c5] at hf
            refine zx_ev_tsw zk_236 rfl rfl (zx_pick_miss c1 (zx_pick_miss c2 (zx_pick_miss c3 (zx_pick_miss c4 (zx_pick_hit c5))))) rfl ?_
            refine zx_ev_blk zk_236 2 (pc1 := 64) (L1 := [some (.ref 0), some (.int v1)]) (st1 := [.int (m.1 0 39)]) (h1 := (zx_SM, m)) rfl ?_
            obtain rfl := Option.some.inj hf
            exact zx_ev_ret zk_236 rfl rfl
          · rw [if_neg c5] at hf
            by_cases c6 : v1 = 5
            · rw [if_pos c6] at hf
              refine zx_ev_tsw zk_236 rfl rfl (zx_pick_miss c1 (zx_pick_miss c2 (zx_pick_miss c3 (zx_pick_miss c4 (zx_pick_miss c5 (zx_pick_hit c6)))))) rfl ?_
              refine zx_ev_blk zk_236 2 (pc1 := 69) (L1 := [some (.ref 0), some (.int v1)]) (st1 := [.int (m.1 0 28)]) (h1 := (zx_SM, m)) rfl ?_
              by_cases c7 : (m.1 0 28) = 0
              · rw [if_pos c7] at hf
                refine zx_ev_ift zk_236 (P := (m.1 0 28) = 0) (t := 79) (f := 72) rfl rfl c7 ?_
                refine zx_ev_blk zk_236 1 (pc1 := 81) (L1 := [some (.ref 0), some (.int v1)]) (st1 := [.int (-2000000000)]) (h1 := (zx_SM, m)) rfl ?_
                obtain rfl := Option.some.inj hf
                exact zx_ev_ret zk_236 rfl rfl
              · rw [if_neg c7] at hf
                refine zx_ev_ifn zk_236 (P := (m.1 0 28) = 0) (t := 79) (f := 72) rfl rfl c7 ?_
                refine zx_ev_blk zk_236 3 (pc1 := 81) (L1 := [some (.ref 0), some (.int v1)]) (st1 := [.int (m.1 0 30)]) (h1 := (zx_SM, m)) rfl ?_
                obtain rfl := Option.some.inj hf
                exact zx_ev_ret zk_236 rfl rfl
            · rw [if_neg c6] at hf
              refine zx_ev_tsw zk_236 rfl rfl (zx_pick_miss c1 (zx_pick_miss c2 (zx_pick_miss c3 (zx_pick_miss c4 (zx_pick_miss c5 (zx_pick_miss c6 rfl)))))) rfl ?_
              refine zx_ev_blk zk_236 1 (pc1 := 84) (L1 := [some (.ref 0), some (.int v1)]) (st1 := [.int (-2000000000)]) (h1 := (zx_SM, m)) rfl ?_
              obtain rfl := Option.some.inj hf
              exact zx_ev_ret zk_236 rfl rfl
def kx_M_image_l15 (d : Nat) (out : Option Value × zx_H) : zx_M → Prop
  | m => zx_Ev (d + 1) 237 73 [some (.ref 0), none] [] (zx_SM, m) out
def kl_M_image_l15 (d : Nat) (out : Option Value × zx_H) : (Int32 × zx_M) ⊕ (zx_M) → Prop
  | .inl (v1, m) => zx_Ev (d + 1) 237 15 [some (.ref 0), some (.int v1)] [] (zx_SM, m) out
  | .inr x => kx_M_image_l15 d out x
def b_M_image_l15 (v1 : Int32) (m : zx_M) : Option ((Int32 × zx_M) ⊕ (zx_M)) := if 7 ≤ v1 then some (.inr m) else (zx_ix 7 v1).bind fun j5 => (zx_ix 29 (3 * v1)).bind fun j6 => zx_let (zx_u1 m 16 j6 (m.1 13 j5)) fun m7 => (zx_ix 7 v1).bind fun j8 => (zx_ix 29 ((3 * v1) + 1)).bind fun j9 => zx_let (zx_u1 m7 16 j9 (m7.1 14 j8)) fun m10 => (zx_ix 7 v1).bind fun j11 => (zx_ix 29 ((3 * v1) + 2)).bind fun j12 => zx_let (zx_u1 m10 16 j12 (m10.1 15 j11)) fun m13 => zx_let (v1 + 1) fun a14 => some (.inl (a14, m13))
theorem eb_M_image_l15 (v1 : Int32) (m : zx_M) {d : Nat} {out : Option Value × zx_H} {y : (Int32 × zx_M) ⊕ (zx_M)} (hf : b_M_image_l15 v1 m = some y) (hK : kl_M_image_l15 d out y) : zx_Ev (d + 1) 237 15 [some (.ref 0), some (.int v1)] [] (zx_SM, m) out := by
  unfold b_M_image_l15 at hf
  refine zx_ev_blk zk_237 2 (pc1 := 18) (L1 := [some (.ref 0), some (.int v1)]) (st1 := [.int 7, .int v1]) (h1 := (zx_SM, m)) rfl ?_
  by_cases c4 : 7 ≤ v1
  · rw [if_pos c4] at hf
    refine zx_ev_ift zk_237 (P := 7 ≤ v1) (t := 73) (f := 21) rfl rfl c4 ?_
    obtain rfl := Option.some.inj hf
    exact zx_ev_sub (L := [some (.ref 0), none]) (⟨rfl, ⟨trivial, trivial⟩⟩) hK
  · rw [if_neg c4] at hf
    refine zx_ev_ifn zk_237 (P := 7 ≤ v1) (t := 73) (f := 21) rfl rfl c4 ?_
    refine zx_ev_blk zk_237 8 (pc1 := 33) (L1 := [some (.ref 0), some (.int v1)]) (st1 := [.int v1, .ref 13, .int (3 * v1), .ref 16]) (h1 := (zx_SM, m)) rfl ?_
    obtain ⟨j5, hj5, hf⟩ := zx_bind_eq hf
    refine zx_ev_step zk_237 rfl (st_iald rfl rfl hj5) ?_
    obtain ⟨j6, hj6, hf⟩ := zx_bind_eq hf
    refine zx_ev_step zk_237 rfl (st_iast rfl hj6) ?_
    obtain ⟨m7, hm7, hf⟩ := zx_let_eq hf
    rw [hm7]
    refine zx_ev_blk zk_237 10 (pc1 := 49) (L1 := [some (.ref 0), some (.int v1)]) (st1 := [.int v1, .ref 14, .int ((3 * v1) + 1), .ref 16]) (h1 := (zx_SM, m7)) rfl ?_
    obtain ⟨j8, hj8, hf⟩ := zx_bind_eq hf
    refine zx_ev_step zk_237 rfl (st_iald rfl rfl hj8) ?_
    obtain ⟨j9, hj9, hf⟩ := zx_bind_eq hf
    refine zx_ev_step zk_237 rfl (st_iast rfl hj9) ?_
    obtain ⟨m10, hm10, hf⟩ := zx_let_eq hf
    rw [hm10]
    refine zx_ev_blk zk_237 10 (pc1 := 65) (L1 := [some (.ref 0), some (.int v1)]) (st1 := [.int v1, .ref 15, .int ((3 * v1) + 2), .ref 16]) (h1 := (zx_SM, m10)) rfl ?_
    obtain ⟨j11, hj11, hf⟩ := zx_bind_eq hf
    refine zx_ev_step zk_237 rfl (st_iald rfl rfl hj11) ?_
    obtain ⟨j12, hj12, hf⟩ := zx_bind_eq hf
    refine zx_ev_step zk_237 rfl (st_iast rfl hj12) ?_
    obtain ⟨m13, hm13, hf⟩ := zx_let_eq hf
    rw [hm13]
    obtain ⟨a14, ha14, hf⟩ := zx_let_eq hf
    refine zx_ev_blk zk_237 2 (pc1 := 15) (L1 := [some (.ref 0), some (.int a14)]) (st1 := []) (h1 := (zx_SM, m13)) (by subst ha14; rfl) ?_
    obtain rfl := Option.some.inj hf
    exact zx_ev_sub (L := [some (.ref 0), some (.int a14)]) (⟨rfl, ⟨rfl, trivial⟩⟩) hK
def l_M_image_l15 (s0 : Int32 × zx_M) : Option (zx_M) := zx_lp zx_N (fun s : Int32 × zx_M => b_M_image_l15 s.1 s.2) s0
theorem el_M_image_l15 {d : Nat} {out : Option Value × zx_H} : ∀ (n : Nat) (s : Int32 × zx_M) (x : zx_M), zx_lp n (fun s : Int32 × zx_M => b_M_image_l15 s.1 s.2) s = some x → kx_M_image_l15 d out x → zx_Ev (d + 1) 237 15 [some (.ref 0), some (.int s.1)] [] (zx_SM, s.2) out := by
  intro n
  induction n with
  | zero => intro s x hl _; simp [zx_lp] at hl
  | succ n ih =>
    intro s x hl hx
    unfold zx_lp at hl
    cases hb : b_M_image_l15 s.1 s.2 with
    | none => simp only [hb] at hl; cases hl
    | some z =>
      simp only [hb] at hl
      cases z with
      | inl s1 => exact eb_M_image_l15 s.1 s.2 hb (ih s1 x hl hx)
      | inr t =>
        simp only [Option.some.injEq] at hl
        subst hl
        exact eb_M_image_l15 s.1 s.2 hb hx
def kx_M_image_l75 (d : Nat) (out : Option Value × zx_H) : zx_M → Prop
  | m => zx_Ev (d + 1) 237 100 [some (.ref 0), none] [] (zx_SM, m) out
def kl_M_image_l75 (d : Nat) (out : Option Value × zx_H) : (Int32 × zx_M) ⊕ (zx_M) → Prop
  | .inl (v1, m) => zx_Ev (d + 1) 237 75 [some (.ref 0), some (.int v1)] [] (zx_SM, m) out
  | .inr x => kx_M_image_l75 d out x
def b_M_image_l75 (v1 : Int32) (m : zx_M) : Option ((Int32 × zx_M) ⊕ (zx_M)) := if 5 ≤ v1 then some (.inr m) else (f_M_led v1 m).bind fun r19 => (zx_ix 29 (21 + v1)).bind fun j20 => zx_let (zx_u1 m 16 j20 r19) fun m21 => zx_let (v1 + 1) fun a22 => some (.inl (a22, m21))
theorem eb_M_image_l75 (v1 : Int32) (m : zx_M) {d : Nat} {out : Option Value × zx_H} {y : (Int32 × zx_M) ⊕ (zx_M)} (hf : b_M_image_l75 v1 m = some y) (hK : kl_M_image_l75 d out y) : zx_Ev (d + 1) 237 75 [some (.ref 0), some (.int v1)] [] (zx_SM, m) out := by
  unfold b_M_image_l75 at hf
  refine zx_ev_blk zk_237 2 (pc1 := 77) (L1 := [some (.ref 0), some (.int v1)]) (st1 := [.int 5, .int v1]) (h1 := (zx_SM, m)) rfl ?_
  by_cases c17 : 5 ≤ v1
  · rw [if_pos c17] at hf
    refine zx_ev_ift zk_237 (P := 5 ≤ v1) (t := 100) (f := 80) rfl rfl c17 ?_
    obtain rfl := Option.some.inj hf
    exact zx_ev_sub (L := [some (.ref 0), none]) (⟨rfl, ⟨trivial, trivial⟩⟩) hK
  · rw [if_neg c17] at hf
    refine zx_ev_ifn zk_237 (P := 5 ≤ v1) (t := 100) (f := 80) rfl rfl c17 ?_
    refine zx_ev_blk zk_237 7 (pc1 := 90) (L1 := [some (.ref 0), some (.int v1)]) (st1 := [.int v1, .ref 0, .int (21 + v1), .ref 16]) (h1 := (zx_SM, m)) rfl ?_
    obtain ⟨r19, hv18, hf⟩ := zx_bind_eq hf
    refine zx_ev_call (d := d + 0) zk_237 (v := some (.int r19)) (h1 := (zx_SM, m)) rfl rfl zt_236 rfl zx_SMn rfl rfl (s_M_led _ _ (d := d + 0) hv18) ?_
    obtain ⟨j20, hj20, hf⟩ := zx_bind_eq hf
    refine zx_ev_step zk_237 rfl (st_iast rfl hj20) ?_
    obtain ⟨m21, hm21, hf⟩ := zx_let_eq hf
    rw [hm21]
    obtain ⟨a22, ha22, hf⟩ := zx_let_eq hf
    refine zx_ev_blk zk_237 2 (pc1 := 75) (L1 := [some (.ref 0), some (.int a22)]) (st1 := []) (h1 := (zx_SM, m21)) (by subst ha22; rfl) ?_
    obtain rfl := Option.some.inj hf
    exact zx_ev_sub (L := [some (.ref 0), some (.int a22)]) (⟨rfl, ⟨rfl, trivial⟩⟩) hK
def l_M_image_l75 (s0 : Int32 × zx_M) : Option (zx_M) := zx_lp zx_N (fun s : Int32 × zx_M => b_M_image_l75 s.1 s.2) s0
theorem el_M_image_l75 {d : Nat} {out : Option Value × zx_H} : ∀ (n : Nat) (s : Int32 × zx_M) (x : zx_M), zx_lp n (fun s : Int32 × zx_M => b_M_image_l75 s.1 s.2) s = some x → kx_M_image_l75 d out x → zx_Ev (d + 1) 237 75 [some (.ref 0), some (.int s.1)] [] (zx_SM, s.2) out := by
  intro n
  induction n with
  | zero => intro s x hl _; simp [zx_lp] at hl
  | succ n ih =>
    intro s x hl hx
    unfold zx_lp at hl
    cases hb : b_M_image_l75 s.1 s.2 with
    | none => simp only [hb] at hl; cases hl
    | some z =>
      simp only [hb] at hl
      cases z with
      | inl s1 => exact eb_M_image_l75 s.1 s.2 hb (ih s1 x hl hx)
      | inr t =>
        simp only [Option.some.injEq] at hl
        subst hl
        exact eb_M_image_l75 s.1 s.2 hb hx
def f_M_image (m : zx_M) : Option (Int32 × zx_M) := zx_let (zx_u1 m 0 40 1) fun m1 => if (m1.1 0 28) = 0 ∨ (m1.1 0 28) = 1 then zx_let (zx_u1 m1 0 41 (m1.1 0 28)) fun m3 => (l_M_image_l15 (0, m3)).bind fun x15 => zx_let x15 fun m16 => (l_M_image_l75 (0, m16)).bind fun x23 => zx_let x23 fun m24 => (zx_ix 29 26).bind fun j25 => zx_let (zx_u1 m24 16 j25 (m24.1 0 29)) fun m26 => (zx_ix 29 27).bind fun j27 => zx_let (zx_u1 m26 16 j27 (m26.1 0 30)) fun m28 => (zx_ix 29 28).bind fun j29 => zx_let (zx_u1 m28 16 j29 (m28.1 0 31)) fun m30 => some (m30.1 0 35, m30) else none
theorem s_M_image (m : zx_M) {d : Nat} {y : (Int32 × zx_M)} (hf : f_M_image m = some y) : zx_Ev (d + 1) 237 0 [some (.ref 0), none] [] (zx_SM, m) (some (.int y.1), (zx_SM, y.2)) := by
  unfold f_M_image at hf
  obtain ⟨m1, hm1, hf⟩ := zx_let_eq hf
  refine zx_ev_blk zk_237 6 (pc1 := 10) (L1 := [some (.ref 0), none]) (st1 := [.int (m1.1 0 28), .ref 0]) (h1 := (zx_SM, m1)) (by subst hm1; rfl) ?_
  by_cases c2 : (m1.1 0 28) = 0 ∨ (m1.1 0 28) = 1
  · rw [if_pos c2] at hf
    refine zx_ev_step zk_237 rfl (st_pfz rfl rfl rfl rfl rfl c2) ?_
    obtain ⟨m3, hm3, hf⟩ := zx_let_eq hf
    rw [hm3]
    refine zx_ev_blk zk_237 2 (pc1 := 15) (L1 := [some (.ref 0), some (.int 0)]) (st1 := []) (h1 := (zx_SM, m3)) rfl ?_
    obtain ⟨x15, hx15, hf⟩ := zx_bind_eq hf
    refine zx_ev_sub (L := [some (.ref 0), some (.int 0)]) (⟨rfl, ⟨rfl, trivial⟩⟩) (el_M_image_l15 zx_N (0, m3) x15 hx15 ?_)
    obtain ⟨m16, hm16, hf⟩ := zx_let_eq hf
    subst hm16
    show zx_Ev (d + 1) 237 73 [some (.ref 0), none] [] (zx_SM, x15) _
    refine zx_ev_blk zk_237 2 (pc1 := 75) (L1 := [some (.ref 0), some (.int 0)]) (st1 := []) (h1 := (zx_SM, x15)) rfl ?_
    obtain ⟨x23, hx23, hf⟩ := zx_bind_eq hf
    refine zx_ev_sub (L := [some (.ref 0), some (.int 0)]) (⟨rfl, ⟨rfl, trivial⟩⟩) (el_M_image_l75 zx_N (0, x15) x23 hx23 ?_)
    obtain ⟨m24, hm24, hf⟩ := zx_let_eq hf
    subst hm24
    show zx_Ev (d + 1) 237 100 [some (.ref 0), none] [] (zx_SM, x23) _
    refine zx_ev_blk zk_237 5 (pc1 := 110) (L1 := [some (.ref 0), none]) (st1 := [.int (x23.1 0 29), .int 26, .ref 16]) (h1 := (zx_SM, x23)) rfl ?_
    obtain ⟨j25, hj25, hf⟩ := zx_bind_eq hf
    refine zx_ev_step zk_237 rfl (st_iast rfl hj25) ?_
    obtain ⟨m26, hm26, hf⟩ := zx_let_eq hf
    rw [hm26]
    refine zx_ev_blk zk_237 5 (pc1 := 121) (L1 := [some (.ref 0), none]) (st1 := [.int (m26.1 0 30), .int 27, .ref 16]) (h1 := (zx_SM, m26)) rfl ?_
    obtain ⟨j27, hj27, hf⟩ := zx_bind_eq hf
    refine zx_ev_step zk_237 rfl (st_iast rfl hj27) ?_
    obtain ⟨m28, hm28, hf⟩ := zx_let_eq hf
    rw [hm28]
    refine zx_ev_blk zk_237 5 (pc1 := 132) (L1 := [some (.ref 0), none]) (st1 := [.int (m28.1 0 31), .int 28, .ref 16]) (h1 := (zx_SM, m28)) rfl ?_
    obtain ⟨j29, hj29, hf⟩ := zx_bind_eq hf
    refine zx_ev_step zk_237 rfl (st_iast rfl hj29) ?_
    obtain ⟨m30, hm30, hf⟩ := zx_let_eq hf
    rw [hm30]
    refine zx_ev_blk zk_237 2 (pc1 := 137) (L1 := [some (.ref 0), none]) (st1 := [.int (m30.1 0 35)]) (h1 := (zx_SM, m30)) rfl ?_
    obtain rfl := Option.some.inj hf
    exact zx_ev_ret zk_237 rfl rfl
  · rw [if_neg c2] at hf; cases hf
def f_M_judge (v1 : Int32) (v2 : Int32) (m : zx_M) : Option (Int32 × zx_M) := (f_M_soIs v1 m).bind fun r2 => if r2 = (-1) then some ((-1), m) else (f_M_isYc v2 m).bind fun r5 => if ¬ r5 = 0 then (f_M_soIs v1 m).bind fun r8 => if 0 ≤ r8 then (f_M_takesOrder (v1 / 10) (zx_rem v2 100) m).bind fun m11 => (f_M_spotOf v2 m11).bind fun r13 => (f_M_fills r13 m11).bind fun m15 => (f_M_firstFalse (zx_rem v1 10) m15).bind fun r17 => some (r17, m15) else (f_M_soIs v1 m).bind fun r19 => some (r19, m) else some ((-1), m)
theorem s_M_judge (v1 : Int32) (v2 : Int32) (m : zx_M) {d : Nat} {y : (Int32 × zx_M)} (hf : f_M_judge v1 v2 m = some y) : zx_Ev (d + 70) 227 0 [some (.ref 0), some (.int v1), some (.int v2)] [] (zx_SM, m) (some (.int y.1), (zx_SM, y.2)) := by
  unfold f_M_judge at hf
  refine zx_ev_blk zk_227 2 (pc1 := 2) (L1 := [some (.ref 0), some (.int v1), some (.int v2)]) (st1 := [.int v1, .ref 0]) (h1 := (zx_SM, m)) rfl ?_
  obtain ⟨r2, hv1, hf⟩ := zx_bind_eq hf
  refine zx_ev_call (d := d + 69) zk_227 (v := some (.int r2)) (h1 := (zx_SM, m)) rfl rfl zt_226 rfl zx_SMn rfl rfl (s_M_soIs _ _ (d := d + 66) hv1) ?_
  refine zx_ev_blk zk_227 1 (pc1 := 6) (L1 := [some (.ref 0), some (.int v1), some (.int v2)]) (st1 := [.int (-1), .int r2]) (h1 := (zx_SM, m)) rfl ?_
  by_cases c3 : r2 = (-1)
  · rw [if_pos c3] at hf
    refine zx_ev_ift zk_227 (P := r2 = (-1)) (t := 16) (f := 9) rfl rfl c3 ?_
    refine zx_ev_blk zk_227 1 (pc1 := 17) (L1 := [some (.ref 0), some (.int v1), some (.int v2)]) (st1 := [.int (-1)]) (h1 := (zx_SM, m)) rfl ?_
    obtain rfl := Option.some.inj hf
    exact zx_ev_ret zk_227 rfl rfl
  · rw [if_neg c3] at hf
    refine zx_ev_ifn zk_227 (P := r2 = (-1)) (t := 16) (f := 9) rfl rfl c3 ?_
    refine zx_ev_blk zk_227 1 (pc1 := 10) (L1 := [some (.ref 0), some (.int v1), some (.int v2)]) (st1 := [.int v2]) (h1 := (zx_SM, m)) rfl ?_
    obtain ⟨r5, hv4, hf⟩ := zx_bind_eq hf
    refine zx_ev_call (d := d + 69) zk_227 (v := some (.int r5)) (h1 := (zx_SM, m)) rfl rfl zt_203 rfl zx_SMn rfl rfl (s_M_isYc _ _ (d := d + 67) hv4) ?_
    by_cases c6 : ¬ r5 = 0
    · rw [if_pos c6] at hf
      refine zx_ev_ift zk_227 (P := ¬ r5 = 0) (t := 18) (f := 16) rfl rfl c6 ?_
      refine zx_ev_blk zk_227 2 (pc1 := 20) (L1 := [some (.ref 0), some (.int v1), some (.int v2)]) (st1 := [.int v1, .ref 0]) (h1 := (zx_SM, m)) rfl ?_
      obtain ⟨r8, hv7, hf⟩ := zx_bind_eq hf
      refine zx_ev_call (d := d + 69) zk_227 (v := some (.int r8)) (h1 := (zx_SM, m)) rfl rfl zt_226 rfl zx_SMn rfl rfl (s_M_soIs _ _ (d := d + 66) hv7) ?_
      by_cases c9 : 0 ≤ r8
      · rw [if_pos c9] at hf
        refine zx_ev_ift zk_227 (P := 0 ≤ r8) (t := 32) (f := 26) rfl rfl c9 ?_
        refine zx_ev_blk zk_227 3 (pc1 := 36) (L1 := [some (.ref 0), some (.int v1), some (.int v2)]) (st1 := [.int 10, .int v1, .ref 0]) (h1 := (zx_SM, m)) rfl ?_
        refine zx_ev_step zk_227 rfl (st_idiv (by decide)) ?_
        refine zx_ev_blk zk_227 2 (pc1 := 40) (L1 := [some (.ref 0), some (.int v1), some (.int v2)]) (st1 := [.int 100, .int v2, .int (v1 / 10), .ref 0]) (h1 := (zx_SM, m)) rfl ?_
        refine zx_ev_step zk_227 rfl (st_irem (by decide)) ?_
        obtain ⟨m11, hv10, hf⟩ := zx_bind_eq hf
        refine zx_ev_call (d := d + 69) zk_227 (v := none) (h1 := (zx_SM, m11)) rfl rfl zt_200 rfl zx_SMn rfl rfl (s_M_takesOrder _ _ _ (d := d + 0) hv10) ?_
        refine zx_ev_blk zk_227 2 (pc1 := 46) (L1 := [some (.ref 0), some (.int v1), some (.int v2)]) (st1 := [.int v2, .ref 0]) (h1 := (zx_SM, m11)) rfl ?_
        obtain ⟨r13, hv12, hf⟩ := zx_bind_eq hf
        refine zx_ev_call (d := d + 69) zk_227 (v := some (.int r13)) (h1 := (zx_SM, m11)) rfl rfl zt_204 rfl zx_SMn rfl rfl (s_M_spotOf _ _ (d := d + 69) hv12) ?_
        obtain ⟨m15, hv14, hf⟩ := zx_bind_eq hf
        refine zx_ev_call (d := d + 69) zk_227 (v := none) (h1 := (zx_SM, m15)) rfl rfl zt_191 rfl zx_SMn rfl rfl (s_M_fills _ _ (d := d + 69) hv14) ?_
        refine zx_ev_blk zk_227 3 (pc1 := 56) (L1 := [some (.ref 0), some (.int v1), some (.int v2)]) (st1 := [.int 10, .int v1, .ref 0]) (h1 := (zx_SM, m15)) rfl ?_
        refine zx_ev_step zk_227 rfl (st_irem (by decide)) ?_
        obtain ⟨r17, hv16, hf⟩ := zx_bind_eq hf
        refine zx_ev_call (d := d + 69) zk_227 (v := some (.int r17)) (h1 := (zx_SM, m15)) rfl rfl zt_225 rfl zx_SMn rfl rfl (s_M_firstFalse _ _ (d := d + 68) hv16) ?_
        obtain rfl := Option.some.inj hf
        exact zx_ev_ret zk_227 rfl rfl
      · rw [if_neg c9] at hf
        refine zx_ev_ifn zk_227 (P := 0 ≤ r8) (t := 32) (f := 26) rfl rfl c9 ?_
        refine zx_ev_blk zk_227 2 (pc1 := 28) (L1 := [some (.ref 0), some (.int v1), some (.int v2)]) (st1 := [.int v1, .ref 0]) (h1 := (zx_SM, m)) rfl ?_
        obtain ⟨r19, hv18, hf⟩ := zx_bind_eq hf
        refine zx_ev_call (d := d + 69) zk_227 (v := some (.int r19)) (h1 := (zx_SM, m)) rfl rfl zt_226 rfl zx_SMn rfl rfl (s_M_soIs _ _ (d := d + 66) hv18) ?_
        obtain rfl := Option.some.inj hf
        exact zx_ev_ret zk_227 rfl rfl
    · rw [if_neg c6] at hf
      refine zx_ev_ifn zk_227 (P := ¬ r5 = 0) (t := 18) (f := 16) rfl rfl c6 ?_
      refine zx_ev_blk zk_227 1 (pc1 := 17) (L1 := [some (.ref 0), some (.int v1), some (.int v2)]) (st1 := [.int (-1)]) (h1 := (zx_SM, m)) rfl ?_
      obtain rfl := Option.some.inj hf
      exact zx_ev_ret zk_227 rfl rfl
def f_M_isOne (v0 : Int64) (v2 : Int64) (v4 : Int64) (m : zx_M) : Option Int32 := (f_M_within v0 1 9 m).bind fun r2 => if r2 = 0 then some 0 else (f_M_within v2 0 9 m).bind fun r5 => if r5 = 0 then some 0 else (f_M_within v4 0 1 m).bind fun r8 => if r8 = 0 then some 0 else some 1
theorem s_M_isOne (v0 : Int64) (v2 : Int64) (v4 : Int64) (m : zx_M) {d : Nat} {y : Int32} (hf : f_M_isOne v0 v2 v4 m = some y) : zx_Ev (d + 1) 167 0 [some (.long v0), none, some (.long v2), none, some (.long v4), none] [] (zx_SM, m) (some (.int y), (zx_SM, m)) := by
  unfold f_M_isOne at hf
  refine zx_ev_blk zk_167 3 (pc1 := 5) (L1 := [some (.long v0), none, some (.long v2), none, some (.long v4), none]) (st1 := [.long 9, .long 1, .long v0]) (h1 := (zx_SM, m)) rfl ?_
  obtain ⟨r2, hv1, hf⟩ := zx_bind_eq hf
  refine zx_ev_call (d := d + 0) zk_167 (v := some (.int r2)) (h1 := (zx_SM, m)) rfl rfl zt_157 rfl zx_SMn rfl rfl (s_M_within _ _ _ _ (d := d + 0) hv1) ?_
  by_cases c3 : r2 = 0
  · rw [if_pos c3] at hf
    refine zx_ev_ift zk_167 (P := r2 = 0) (t := 36) (f := 11) rfl rfl c3 ?_
    refine zx_ev_blk zk_167 1 (pc1 := 37) (L1 := [some (.long v0), none, some (.long v2), none, some (.long v4), none]) (st1 := [.int 0]) (h1 := (zx_SM, m)) rfl ?_
    obtain rfl := Option.some.inj hf
    exact zx_ev_ret zk_167 rfl (zx_ret_z (Or.inl rfl))
  · rw [if_neg c3] at hf
    refine zx_ev_ifn zk_167 (P := r2 = 0) (t := 36) (f := 11) rfl rfl c3 ?_
    refine zx_ev_blk zk_167 3 (pc1 := 16) (L1 := [some (.long v0), none, some (.long v2), none, some (.long v4), none]) (st1 := [.long 9, .long 0, .long v2]) (h1 := (zx_SM, m)) rfl ?_
    obtain ⟨r5, hv4, hf⟩ := zx_bind_eq hf
    refine zx_ev_call (d := d + 0) zk_167 (v := some (.int r5)) (h1 := (zx_SM, m)) rfl rfl zt_157 rfl zx_SMn rfl rfl (s_M_within _ _ _ _ (d := d + 0) hv4) ?_
    by_cases c6 : r5 = 0
    · rw [if_pos c6] at hf
      refine zx_ev_ift zk_167 (P := r5 = 0) (t := 36) (f := 22) rfl rfl c6 ?_
      refine zx_ev_blk zk_167 1 (pc1 := 37) (L1 := [some (.long v0), none, some (.long v2), none, some (.long v4), none]) (st1 := [.int 0]) (h1 := (zx_SM, m)) rfl ?_
      obtain rfl := Option.some.inj hf
      exact zx_ev_ret zk_167 rfl (zx_ret_z (Or.inl rfl))
    · rw [if_neg c6] at hf
      refine zx_ev_ifn zk_167 (P := r5 = 0) (t := 36) (f := 22) rfl rfl c6 ?_
      refine zx_ev_blk zk_167 3 (pc1 := 26) (L1 := [some (.long v0), none, some (.long v2), none, some (.long v4), none]) (st1 := [.long 1, .long 0, .long v4]) (h1 := (zx_SM, m)) rfl ?_
      obtain ⟨r8, hv7, hf⟩ := zx_bind_eq hf
      refine zx_ev_call (d := d + 0) zk_167 (v := some (.int r8)) (h1 := (zx_SM, m)) rfl rfl zt_157 rfl zx_SMn rfl rfl (s_M_within _ _ _ _ (d := d + 0) hv7) ?_
      by_cases c9 : r8 = 0
      · rw [if_pos c9] at hf
        refine zx_ev_ift zk_167 (P := r8 = 0) (t := 36) (f := 32) rfl rfl c9 ?_
        refine zx_ev_blk zk_167 1 (pc1 := 37) (L1 := [some (.long v0), none, some (.long v2), none, some (.long v4), none]) (st1 := [.int 0]) (h1 := (zx_SM, m)) rfl ?_
        obtain rfl := Option.some.inj hf
        exact zx_ev_ret zk_167 rfl (zx_ret_z (Or.inl rfl))
      · rw [if_neg c9] at hf
        refine zx_ev_ifn zk_167 (P := r8 = 0) (t := 36) (f := 32) rfl rfl c9 ?_
        refine zx_ev_blk zk_167 2 (pc1 := 37) (L1 := [some (.long v0), none, some (.long v2), none, some (.long v4), none]) (st1 := [.int 1]) (h1 := (zx_SM, m)) rfl ?_
        obtain rfl := Option.some.inj hf
        exact zx_ev_ret zk_167 rfl (zx_ret_z (Or.inr rfl))
def f_M_adds (v1 : Int32) (v2 : Int32) (v3 : Int32) (m : zx_M) : Option zx_M := (zx_ix 36 (m.1 0 6)).bind fun j1 => zx_let (zx_u1 m 1 j1 v1) fun m2 => (zx_ix 36 (7 + (m2.1 0 6))).bind fun j3 => zx_let (zx_u1 m2 1 j3 v2) fun m4 => (zx_ix 36 (14 + (m4.1 0 6))).bind fun j5 => zx_let (zx_u1 m4 1 j5 v3) fun m6 => (zx_ix 36 (21 + (m6.1 0 6))).bind fun j7 => zx_let (zx_u1 m6 1 j7 0) fun m8 => zx_let (zx_u1 m8 0 6 ((m8.1 0 6) + 1)) fun m9 => some m9
theorem s_M_adds (v1 : Int32) (v2 : Int32) (v3 : Int32) (m : zx_M) {d : Nat} {y : zx_M} (hf : f_M_adds v1 v2 v3 m = some y) : zx_Ev (d) 168 0 [some (.ref 0), some (.int v1), some (.int v2), some (.int v3)] [] (zx_SM, m) (none, (zx_SM, y)) := by
  unfold f_M_adds at hf
  refine zx_ev_blk zk_168 5 (pc1 := 9) (L1 := [some (.ref 0), some (.int v1), some (.int v2), some (.int v3)]) (st1 := [.int v1, .int (m.1 0 6), .ref 1]) (h1 := (zx_SM, m)) rfl ?_
  obtain ⟨j1, hj1, hf⟩ := zx_bind_eq hf
  refine zx_ev_step zk_168 rfl (st_iast rfl hj1) ?_
  obtain ⟨m2, hm2, hf⟩ := zx_let_eq hf
  rw [hm2]
  refine zx_ev_blk zk_168 7 (pc1 := 22) (L1 := [some (.ref 0), some (.int v1), some (.int v2), some (.int v3)]) (st1 := [.int v2, .int (7 + (m2.1 0 6)), .ref 1]) (h1 := (zx_SM, m2)) rfl ?_
  obtain ⟨j3, hj3, hf⟩ := zx_bind_eq hf
  refine zx_ev_step zk_168 rfl (st_iast rfl hj3) ?_
  obtain ⟨m4, hm4, hf⟩ := zx_let_eq hf
  rw [hm4]
  refine zx_ev_blk zk_168 7 (pc1 := 35) (L1 := [some (.ref 0), some (.int v1), some (.int v2), some (.int v3)]) (st1 := [.int v3, .int (14 + (m4.1 0 6)), .ref 1]) (h1 := (zx_SM, m4)) rfl ?_
  obtain ⟨j5, hj5, hf⟩ := zx_bind_eq hf
  refine zx_ev_step zk_168 rfl (st_iast rfl hj5) ?_
  obtain ⟨m6, hm6, hf⟩ := zx_let_eq hf
  rw [hm6]
  refine zx_ev_blk zk_168 7 (pc1 := 48) (L1 := [some (.ref 0), some (.int v1), some (.int v2), some (.int v3)]) (st1 := [.int 0, .int (21 + (m6.1 0 6)), .ref 1]) (h1 := (zx_SM, m6)) rfl ?_
  obtain ⟨j7, hj7, hf⟩ := zx_bind_eq hf
  refine zx_ev_step zk_168 rfl (st_iast rfl hj7) ?_
  obtain ⟨m8, hm8, hf⟩ := zx_let_eq hf
  rw [hm8]
  obtain ⟨m9, hm9, hf⟩ := zx_let_eq hf
  refine zx_ev_blk zk_168 6 (pc1 := 59) (L1 := [some (.ref 0), some (.int v1), some (.int v2), some (.int v3)]) (st1 := []) (h1 := (zx_SM, m9)) (by subst hm9; rfl) ?_
  obtain rfl := Option.some.inj hf
  exact zx_ev_ret zk_168 rfl rfl
def f_M_jumper (v1 : Int32) (v2 : Int32) (m : zx_M) : Option (Int32 × zx_M) := (f_M_isOne (Int32.toInt64 v1) (Int32.toInt64 v2) 0 m).bind fun r2 => if ¬ r2 = 0 then if ¬ (m.1 0 6) = 7 then (f_M_adds v1 v2 0 m).bind fun m6 => some ((m6.1 0 6) - 1, m6) else some ((-3), m) else some ((-1), m)
theorem s_M_jumper (v1 : Int32) (v2 : Int32) (m : zx_M) {d : Nat} {y : (Int32 × zx_M)} (hf : f_M_jumper v1 v2 m = some y) : zx_Ev (d + 2) 169 0 [some (.ref 0), some (.int v1), some (.int v2)] [] (zx_SM, m) (some (.int y.1), (zx_SM, y.2)) := by
  unfold f_M_jumper at hf
  refine zx_ev_blk zk_169 5 (pc1 := 5) (L1 := [some (.ref 0), some (.int v1), some (.int v2)]) (st1 := [.long 0, .long (Int32.toInt64 v2), .long (Int32.toInt64 v1)]) (h1 := (zx_SM, m)) rfl ?_
  obtain ⟨r2, hv1, hf⟩ := zx_bind_eq hf
  refine zx_ev_call (d := d + 1) zk_169 (v := some (.int r2)) (h1 := (zx_SM, m)) rfl rfl zt_167 rfl zx_SMn rfl rfl (s_M_isOne _ _ _ _ (d := d + 0) hv1) ?_
  by_cases c3 : ¬ r2 = 0
  · rw [if_pos c3] at hf
    refine zx_ev_ift zk_169 (P := ¬ r2 = 0) (t := 13) (f := 11) rfl rfl c3 ?_
    refine zx_ev_blk zk_169 3 (pc1 := 19) (L1 := [some (.ref 0), some (.int v1), some (.int v2)]) (st1 := [.int 7, .int (m.1 0 6)]) (h1 := (zx_SM, m)) rfl ?_
    by_cases c4 : ¬ (m.1 0 6) = 7
    · rw [if_pos c4] at hf
      refine zx_ev_ift zk_169 (P := ¬ (m.1 0 6) = 7) (t := 25) (f := 22) rfl rfl c4 ?_
      refine zx_ev_blk zk_169 4 (pc1 := 29) (L1 := [some (.ref 0), some (.int v1), some (.int v2)]) (st1 := [.int 0, .int v2, .int v1, .ref 0]) (h1 := (zx_SM, m)) rfl ?_
      obtain ⟨m6, hv5, hf⟩ := zx_bind_eq hf
      refine zx_ev_call (d := d + 1) zk_169 (v := none) (h1 := (zx_SM, m6)) rfl rfl zt_168 rfl zx_SMn rfl rfl (s_M_adds _ _ _ _ (d := d + 1) hv5) ?_
      refine zx_ev_blk zk_169 4 (pc1 := 38) (L1 := [some (.ref 0), some (.int v1), some (.int v2)]) (st1 := [.int ((m6.1 0 6) - 1)]) (h1 := (zx_SM, m6)) rfl ?_
      obtain rfl := Option.some.inj hf
      exact zx_ev_ret zk_169 rfl rfl
    · rw [if_neg c4] at hf
      refine zx_ev_ifn zk_169 (P := ¬ (m.1 0 6) = 7) (t := 25) (f := 22) rfl rfl c4 ?_
      refine zx_ev_blk zk_169 1 (pc1 := 24) (L1 := [some (.ref 0), some (.int v1), some (.int v2)]) (st1 := [.int (-3)]) (h1 := (zx_SM, m)) rfl ?_
      obtain rfl := Option.some.inj hf
      exact zx_ev_ret zk_169 rfl rfl
  · rw [if_neg c3] at hf
    refine zx_ev_ifn zk_169 (P := ¬ r2 = 0) (t := 13) (f := 11) rfl rfl c3 ?_
    refine zx_ev_blk zk_169 1 (pc1 := 12) (L1 := [some (.ref 0), some (.int v1), some (.int v2)]) (st1 := [.int (-1)]) (h1 := (zx_SM, m)) rfl ?_
    obtain rfl := Option.some.inj hf
    exact zx_ev_ret zk_169 rfl rfl
def kx_M_jumpers_l69 (v1 : Int32) (v2 : Int32) (v3 : Int32) (d : Nat) (out : Option Value × zx_H) : (Int32 × zx_M) → Prop
  | y => out = (some (.int y.1), (zx_SM, y.2))
def kl_M_jumpers_l69 (v1 : Int32) (v2 : Int32) (v3 : Int32) (d : Nat) (out : Option Value × zx_H) : (Int32 × Int32 × zx_M) ⊕ ((Int32 × zx_M)) → Prop
  | .inl (v4, v5, m) => zx_Ev (d + 2) 170 69 [some (.ref 0), some (.int v1), some (.int v2), some (.int v3), some (.int v4), some (.int v5), none] [] (zx_SM, m) out
  | .inr x => kx_M_jumpers_l69 v1 v2 v3 d out x
def n_M_jumpers_b69_209 (v1 : Int32) (v2 : Int32) (v3 : Int32) (v4 : Int32) (v5 : Int32) (m : zx_M) : Option ((Int32 × Int32 × zx_M) ⊕ ((Int32 × zx_M))) := some (.inl (v4, v5, m))
theorem e_M_jumpers_b69_209 (v1 : Int32) (v2 : Int32) (v3 : Int32) (v4 : Int32) (v5 : Int32) (m : zx_M) {d : Nat} {out : Option Value × zx_H} {y : (Int32 × Int32 × zx_M) ⊕ ((Int32 × zx_M))} (hf : n_M_jumpers_b69_209 v1 v2 v3 v4 v5 m = some y) (hK : kl_M_jumpers_l69 v1 v2 v3 d out y) : zx_Ev (d + 2) 170 209 [some (.ref 0), some (.int v1), some (.int v2), some (.int v3), some (.int v4), some (.int v5), none] [] (zx_SM, m) out := by
  unfold n_M_jumpers_b69_209 at hf
  refine zx_ev_blk zk_170 1 (pc1 := 69) (L1 := [some (.ref 0), some (.int v1), some (.int v2), some (.int v3), some (.int v4), some (.int v5), none]) (st1 := []) (h1 := (zx_SM, m)) rfl ?_
  obtain rfl := Option.some.inj hf
  exact zx_ev_sub (L := [some (.ref 0), some (.int v1), some (.int v2), some (.int v3), some (.int v4), some (.int v5), none]) (⟨rfl, ⟨rfl, ⟨rfl, ⟨rfl, ⟨rfl, ⟨rfl, trivial⟩⟩⟩⟩⟩⟩) hK
def n_M_jumpers_b69_167 (v1 : Int32) (v2 : Int32) (v3 : Int32) (v4 : Int32) (v6 : Int32) (t0 : Int32) (m : zx_M) : Option ((Int32 × Int32 × zx_M) ⊕ ((Int32 × zx_M))) := if t0 = 0 then n_M_jumpers_b69_209 v1 v2 v3 v4 t0 m else (zx_ix 360 v6).bind fun j18 => (zx_ix 360 (v6 + 1)).bind fun j19 => (zx_ix 360 (v6 + 2)).bind fun j20 => (f_M_adds (Int64.toInt32 (m.2 21 j18)) (Int64.toInt32 (m.2 21 j19)) (Int64.toInt32 (m.2 21 j20)) m).bind fun m22 => zx_let (v4 + 1) fun a23 => n_M_jumpers_b69_209 v1 v2 v3 a23 t0 m22
theorem e_M_jumpers_b69_167 (v1 : Int32) (v2 : Int32) (v3 : Int32) (v4 : Int32) (v6 : Int32) (t0 : Int32) (m : zx_M) {d : Nat} {out : Option Value × zx_H} {y : (Int32 × Int32 × zx_M) ⊕ ((Int32 × zx_M))} (hf : n_M_jumpers_b69_167 v1 v2 v3 v4 v6 t0 m = some y) (hK : kl_M_jumpers_l69 v1 v2 v3 d out y) : zx_Ev (d + 2) 170 167 [some (.ref 0), some (.int v1), some (.int v2), some (.int v3), some (.int v4), none, some (.int v6)] [.int t0] (zx_SM, m) out := by
  unfold n_M_jumpers_b69_167 at hf
  refine zx_ev_blk zk_170 2 (pc1 := 171) (L1 := [some (.ref 0), some (.int v1), some (.int v2), some (.int v3), some (.int v4), some (.int t0), some (.int v6)]) (st1 := [.int t0]) (h1 := (zx_SM, m)) rfl ?_
  by_cases c17 : t0 = 0
  · rw [if_pos c17] at hf
    refine zx_ev_ift zk_170 (P := t0 = 0) (t := 209) (f := 174) rfl rfl c17 ?_
    exact zx_ev_sub (L := [some (.ref 0), some (.int v1), some (.int v2), some (.int v3), some (.int v4), some (.int t0), none]) (⟨rfl, ⟨rfl, ⟨rfl, ⟨rfl, ⟨rfl, ⟨rfl, ⟨trivial, trivial⟩⟩⟩⟩⟩⟩⟩) (e_M_jumpers_b69_209 v1 v2 v3 v4 t0 m hf hK)
  · rw [if_neg c17] at hf
    refine zx_ev_ifn zk_170 (P := t0 = 0) (t := 209) (f := 174) rfl rfl c17 ?_
    refine zx_ev_blk zk_170 4 (pc1 := 181) (L1 := [some (.ref 0), some (.int v1), some (.int v2), some (.int v3), some (.int v4), some (.int t0), some (.int v6)]) (st1 := [.int v6, .ref 21, .ref 0]) (h1 := (zx_SM, m)) rfl ?_
    obtain ⟨j18, hj18, hf⟩ := zx_bind_eq hf
    refine zx_ev_step zk_170 rfl (st_lald rfl hj18) ?_
    refine zx_ev_blk zk_170 6 (pc1 := 191) (L1 := [some (.ref 0), some (.int v1), some (.int v2), some (.int v3), some (.int v4), some (.int t0), some (.int v6)]) (st1 := [.int (v6 + 1), .ref 21, .int (Int64.toInt32 (m.2 21 j18)), .ref 0]) (h1 := (zx_SM, m)) rfl ?_
    obtain ⟨j19, hj19, hf⟩ := zx_bind_eq hf
    refine zx_ev_step zk_170 rfl (st_lald rfl hj19) ?_
    refine zx_ev_blk zk_170 6 (pc1 := 201) (L1 := [some (.ref 0), some (.int v1), some (.int v2), some (.int v3), some (.int v4), some (.int t0), some (.int v6)]) (st1 := [.int (v6 + 2), .ref 21, .int (Int64.toInt32 (m.2 21 j19)), .int (Int64.toInt32 (m.2 21 j18)), .ref 0]) (h1 := (zx_SM, m)) rfl ?_
    obtain ⟨j20, hj20, hf⟩ := zx_bind_eq hf
    refine zx_ev_step zk_170 rfl (st_lald rfl hj20) ?_
    refine zx_ev_blk zk_170 1 (pc1 := 203) (L1 := [some (.ref 0), some (.int v1), some (.int v2), some (.int v3), some (.int v4), some (.int t0), some (.int v6)]) (st1 := [.int (Int64.toInt32 (m.2 21 j20)), .int (Int64.toInt32 (m.2 21 j19)), .int (Int64.toInt32 (m.2 21 j18)), .ref 0]) (h1 := (zx_SM, m)) rfl ?_
    obtain ⟨m22, hv21, hf⟩ := zx_bind_eq hf
    refine zx_ev_call (d := d + 1) zk_170 (v := none) (h1 := (zx_SM, m22)) rfl rfl zt_168 rfl zx_SMn rfl rfl (s_M_adds _ _ _ _ (d := d + 1) hv21) ?_
    obtain ⟨a23, ha23, hf⟩ := zx_let_eq hf
    refine zx_ev_blk zk_170 1 (pc1 := 209) (L1 := [some (.ref 0), some (.int v1), some (.int v2), some (.int v3), some (.int a23), some (.int t0), some (.int v6)]) (st1 := []) (h1 := (zx_SM, m22)) (by subst ha23; rfl) ?_
    exact zx_ev_sub (L := [some (.ref 0), some (.int v1), some (.int v2), some (.int v3), some (.int a23), some (.int t0), none]) (⟨rfl, ⟨rfl, ⟨rfl, ⟨rfl, ⟨rfl, ⟨rfl, ⟨trivial, trivial⟩⟩⟩⟩⟩⟩⟩) (e_M_jumpers_b69_209 v1 v2 v3 a23 t0 m22 hf hK)
def n_M_jumpers_b69_166 (v1 : Int32) (v2 : Int32) (v3 : Int32) (v4 : Int32) (v6 : Int32) (m : zx_M) : Option ((Int32 × Int32 × zx_M) ⊕ ((Int32 × zx_M))) := n_M_jumpers_b69_167 v1 v2 v3 v4 v6 0 m
theorem e_M_jumpers_b69_166 (v1 : Int32) (v2 : Int32) (v3 : Int32) (v4 : Int32) (v6 : Int32) (m : zx_M) {d : Nat} {out : Option Value × zx_H} {y : (Int32 × Int32 × zx_M) ⊕ ((Int32 × zx_M))} (hf : n_M_jumpers_b69_166 v1 v2 v3 v4 v6 m = some y) (hK : kl_M_jumpers_l69 v1 v2 v3 d out y) : zx_Ev (d + 2) 170 166 [some (.ref 0), some (.int v1), some (.int v2), some (.int v3), some (.int v4), none, some (.int v6)] [] (zx_SM, m) out := by
  unfold n_M_jumpers_b69_166 at hf
  refine zx_ev_blk zk_170 1 (pc1 := 167) (L1 := [some (.ref 0), some (.int v1), some (.int v2), some (.int v3), some (.int v4), none, some (.int v6)]) (st1 := [.int 0]) (h1 := (zx_SM, m)) rfl ?_
  exact zx_ev_sub (L := [some (.ref 0), some (.int v1), some (.int v2), some (.int v3), some (.int v4), none, some (.int v6)]) (⟨rfl, ⟨rfl, ⟨rfl, ⟨rfl, ⟨rfl, ⟨rfl, trivial⟩⟩⟩⟩⟩⟩) (e_M_jumpers_b69_167 v1 v2 v3 v4 v6 0 m hf hK)
def n_M_jumpers_b69_111 (v1 : Int32) (v2 : Int32) (v3 : Int32) (v4 : Int32) (t0 : Int32) (m : zx_M) : Option ((Int32 × Int32 × zx_M) ⊕ ((Int32 × zx_M))) := zx_let (((60 * v1) + v2) + (3 * v4)) fun a15 => if t0 = 0 then n_M_jumpers_b69_166 v1 v2 v3 v4 a15 m else (zx_ix 360 a15).bind fun j24 => (zx_ix 360 (a15 + 1)).bind fun j25 => (zx_ix 360 (a15 + 2)).bind fun j26 => (f_M_isOne (m.2 21 j24) (m.2 21 j25) (m.2 21 j26) m).bind fun r28 => if r28 = 0 then n_M_jumpers_b69_166 v1 v2 v3 v4 a15 m else n_M_jumpers_b69_167 v1 v2 v3 v4 a15 1 m
theorem e_M_jumpers_b69_111 (v1 : Int32) (v2 : Int32) (v3 : Int32) (v4 : Int32) (t0 : Int32) (m : zx_M) {d : Nat} {out : Option Value × zx_H} {y : (Int32 × Int32 × zx_M) ⊕ ((Int32 × zx_M))} (hf : n_M_jumpers_b69_111 v1 v2 v3 v4 t0 m = some y) (hK : kl_M_jumpers_l69 v1 v2 v3 d out y) : zx_Ev (d + 2) 170 111 [some (.ref 0), some (.int v1), some (.int v2), some (.int v3), some (.int v4), none, none] [.int t0] (zx_SM, m) out := by
  unfold n_M_jumpers_b69_111 at hf
  obtain ⟨a15, ha15, hf⟩ := zx_let_eq hf
  refine zx_ev_blk zk_170 12 (pc1 := 128) (L1 := [some (.ref 0), some (.int v1), some (.int v2), some (.int v3), some (.int v4), some (.int t0), some (.int a15)]) (st1 := [.int t0]) (h1 := (zx_SM, m)) (by subst ha15; rfl) ?_
  by_cases c16 : t0 = 0
  · rw [if_pos c16] at hf
    refine zx_ev_ift zk_170 (P := t0 = 0) (t := 166) (f := 131) rfl rfl c16 ?_
    exact zx_ev_sub (L := [some (.ref 0), some (.int v1), some (.int v2), some (.int v3), some (.int v4), none, some (.int a15)]) (⟨rfl, ⟨rfl, ⟨rfl, ⟨rfl, ⟨rfl, ⟨trivial, ⟨rfl, trivial⟩⟩⟩⟩⟩⟩⟩) (e_M_jumpers_b69_166 v1 v2 v3 v4 a15 m hf hK)
  · rw [if_neg c16] at hf
    refine zx_ev_ifn zk_170 (P := t0 = 0) (t := 166) (f := 131) rfl rfl c16 ?_
    refine zx_ev_blk zk_170 3 (pc1 := 137) (L1 := [some (.ref 0), some (.int v1), some (.int v2), some (.int v3), some (.int v4), some (.int t0), some (.int a15)]) (st1 := [.int a15, .ref 21]) (h1 := (zx_SM, m)) rfl ?_
    obtain ⟨j24, hj24, hf⟩ := zx_bind_eq hf
    refine zx_ev_step zk_170 rfl (st_lald rfl hj24) ?_
    refine zx_ev_blk zk_170 5 (pc1 := 146) (L1 := [some (.ref 0), some (.int v1), some (.int v2), some (.int v3), some (.int v4), some (.int t0), some (.int a15)]) (st1 := [.int (a15 + 1), .ref 21, .long (m.2 21 j24)]) (h1 := (zx_SM, m)) rfl ?_
    obtain ⟨j25, hj25, hf⟩ := zx_bind_eq hf
    refine zx_ev_step zk_170 rfl (st_lald rfl hj25) ?_
    refine zx_ev_blk zk_170 5 (pc1 := 155) (L1 := [some (.ref 0), some (.int v1), some (.int v2), some (.int v3), some (.int v4), some (.int t0), some (.int a15)]) (st1 := [.int (a15 + 2), .ref 21, .long (m.2 21 j25), .long (m.2 21 j24)]) (h1 := (zx_SM, m)) rfl ?_
    obtain ⟨j26, hj26, hf⟩ := zx_bind_eq hf
    refine zx_ev_step zk_170 rfl (st_lald rfl hj26) ?_
    obtain ⟨r28, hv27, hf⟩ := zx_bind_eq hf
    refine zx_ev_call (d := d + 1) zk_170 (v := some (.int r28)) (h1 := (zx_SM, m)) rfl rfl zt_167 rfl zx_SMn rfl rfl (s_M_isOne _ _ _ _ (d := d + 0) hv27) ?_
    by_cases c29 : r28 = 0
    · rw [if_pos c29] at hf
      refine zx_ev_ift zk_170 (P := r28 = 0) (t := 166) (f := 162) rfl rfl c29 ?_
      exact zx_ev_sub (L := [some (.ref 0), some (.int v1), some (.int v2), some (.int v3), some (.int v4), none, some (.int a15)]) (⟨rfl, ⟨rfl, ⟨rfl, ⟨rfl, ⟨rfl, ⟨trivial, ⟨rfl, trivial⟩⟩⟩⟩⟩⟩⟩) (e_M_jumpers_b69_166 v1 v2 v3 v4 a15 m hf hK)
    · rw [if_neg c29] at hf
      refine zx_ev_ifn zk_170 (P := r28 = 0) (t := 166) (f := 162) rfl rfl c29 ?_
      refine zx_ev_blk zk_170 2 (pc1 := 167) (L1 := [some (.ref 0), some (.int v1), some (.int v2), some (.int v3), some (.int v4), some (.int t0), some (.int a15)]) (st1 := [.int 1]) (h1 := (zx_SM, m)) rfl ?_
      exact zx_ev_sub (L := [some (.ref 0), some (.int v1), some (.int v2), some (.int v3), some (.int v4), none, some (.int a15)]) (⟨rfl, ⟨rfl, ⟨rfl, ⟨rfl, ⟨rfl, ⟨trivial, ⟨rfl, trivial⟩⟩⟩⟩⟩⟩⟩) (e_M_jumpers_b69_167 v1 v2 v3 v4 a15 1 m hf hK)
def n_M_jumpers_b69_110 (v1 : Int32) (v2 : Int32) (v3 : Int32) (v4 : Int32) (m : zx_M) : Option ((Int32 × Int32 × zx_M) ⊕ ((Int32 × zx_M))) := n_M_jumpers_b69_111 v1 v2 v3 v4 0 m
theorem e_M_jumpers_b69_110 (v1 : Int32) (v2 : Int32) (v3 : Int32) (v4 : Int32) (m : zx_M) {d : Nat} {out : Option Value × zx_H} {y : (Int32 × Int32 × zx_M) ⊕ ((Int32 × zx_M))} (hf : n_M_jumpers_b69_110 v1 v2 v3 v4 m = some y) (hK : kl_M_jumpers_l69 v1 v2 v3 d out y) : zx_Ev (d + 2) 170 110 [some (.ref 0), some (.int v1), some (.int v2), some (.int v3), some (.int v4), none, none] [] (zx_SM, m) out := by
  unfold n_M_jumpers_b69_110 at hf
  refine zx_ev_blk zk_170 1 (pc1 := 111) (L1 := [some (.ref 0), some (.int v1), some (.int v2), some (.int v3), some (.int v4), none, none]) (st1 := [.int 0]) (h1 := (zx_SM, m)) rfl ?_
  exact zx_ev_sub (L := [some (.ref 0), some (.int v1), some (.int v2), some (.int v3), some (.int v4), none, none]) (⟨rfl, ⟨rfl, ⟨rfl, ⟨rfl, ⟨rfl, trivial⟩⟩⟩⟩⟩) (e_M_jumpers_b69_111 v1 v2 v3 v4 0 m hf hK)
def b_M_jumpers_l69 (v1 : Int32) (v2 : Int32) (v3 : Int32) (v4 : Int32) (v5 : Int32) (m : zx_M) : Option ((Int32 × Int32 × zx_M) ⊕ ((Int32 × zx_M))) := if v5 = 0 then some (.inr (v4, m)) else if v3 ≤ v4 then some (.inr (v4, m)) else (zx_ix 6 v1).bind fun j13 => if (((m.1 20 j13) - 3) - (3 * v4)) < v2 then n_M_jumpers_b69_110 v1 v2 v3 v4 m else if 7 ≤ (m.1 0 6) then n_M_jumpers_b69_110 v1 v2 v3 v4 m else n_M_jumpers_b69_111 v1 v2 v3 v4 1 m
theorem eb_M_jumpers_l69 (v1 : Int32) (v2 : Int32) (v3 : Int32) (v4 : Int32) (v5 : Int32) (m : zx_M) {d : Nat} {out : Option Value × zx_H} {y : (Int32 × Int32 × zx_M) ⊕ ((Int32 × zx_M))} (hf : b_M_jumpers_l69 v1 v2 v3 v4 v5 m = some y) (hK : kl_M_jumpers_l69 v1 v2 v3 d out y) : zx_Ev (d + 2) 170 69 [some (.ref 0), some (.int v1), some (.int v2), some (.int v3), some (.int v4), some (.int v5), none] [] (zx_SM, m) out := by
  unfold b_M_jumpers_l69 at hf
  refine zx_ev_blk zk_170 1 (pc1 := 71) (L1 := [some (.ref 0), some (.int v1), some (.int v2), some (.int v3), some (.int v4), some (.int v5), none]) (st1 := [.int v5]) (h1 := (zx_SM, m)) rfl ?_
  by_cases c11 : v5 = 0
  · rw [if_pos c11] at hf
    refine zx_ev_ift zk_170 (P := v5 = 0) (t := 212) (f := 74) rfl rfl c11 ?_
    refine zx_ev_blk zk_170 1 (pc1 := 214) (L1 := [some (.ref 0), some (.int v1), some (.int v2), some (.int v3), some (.int v4), some (.int v5), none]) (st1 := [.int v4]) (h1 := (zx_SM, m)) rfl ?_
    obtain rfl := Option.some.inj hf
    rw [show out = _ from hK]
    exact zx_ev_ret zk_170 rfl rfl
  · rw [if_neg c11] at hf
    refine zx_ev_ifn zk_170 (P := v5 = 0) (t := 212) (f := 74) rfl rfl c11 ?_
    refine zx_ev_blk zk_170 2 (pc1 := 77) (L1 := [some (.ref 0), some (.int v1), some (.int v2), some (.int v3), some (.int v4), some (.int v5), none]) (st1 := [.int v3, .int v4]) (h1 := (zx_SM, m)) rfl ?_
    by_cases c12 : v3 ≤ v4
    · rw [if_pos c12] at hf
      refine zx_ev_ift zk_170 (P := v3 ≤ v4) (t := 212) (f := 80) rfl rfl c12 ?_
      refine zx_ev_blk zk_170 1 (pc1 := 214) (L1 := [some (.ref 0), some (.int v1), some (.int v2), some (.int v3), some (.int v4), some (.int v5), none]) (st1 := [.int v4]) (h1 := (zx_SM, m)) rfl ?_
      obtain rfl := Option.some.inj hf
      rw [show out = _ from hK]
      exact zx_ev_ret zk_170 rfl rfl
    · rw [if_neg c12] at hf
      refine zx_ev_ifn zk_170 (P := v3 ≤ v4) (t := 212) (f := 80) rfl rfl c12 ?_
      refine zx_ev_blk zk_170 4 (pc1 := 86) (L1 := [some (.ref 0), some (.int v1), some (.int v2), some (.int v3), some (.int v4), some (.int v5), none]) (st1 := [.int v1, .ref 20, .int v2]) (h1 := (zx_SM, m)) rfl ?_
      obtain ⟨j13, hj13, hf⟩ := zx_bind_eq hf
      refine zx_ev_step zk_170 rfl (st_iald rfl rfl hj13) ?_
      refine zx_ev_blk zk_170 6 (pc1 := 94) (L1 := [some (.ref 0), some (.int v1), some (.int v2), some (.int v3), some (.int v4), some (.int v5), none]) (st1 := [.int (((m.1 20 j13) - 3) - (3 * v4)), .int v2]) (h1 := (zx_SM, m)) rfl ?_
      by_cases c14 : (((m.1 20 j13) - 3) - (3 * v4)) < v2
      · rw [if_pos c14] at hf
        refine zx_ev_ift zk_170 (P := (((m.1 20 j13) - 3) - (3 * v4)) < v2) (t := 110) (f := 97) rfl rfl c14 ?_
        exact zx_ev_sub (L := [some (.ref 0), some (.int v1), some (.int v2), some (.int v3), some (.int v4), none, none]) (⟨rfl, ⟨rfl, ⟨rfl, ⟨rfl, ⟨rfl, ⟨trivial, trivial⟩⟩⟩⟩⟩⟩) (e_M_jumpers_b69_110 v1 v2 v3 v4 m hf hK)
      · rw [if_neg c14] at hf
        refine zx_ev_ifn zk_170 (P := (((m.1 20 j13) - 3) - (3 * v4)) < v2) (t := 110) (f := 97) rfl rfl c14 ?_
        refine zx_ev_blk zk_170 3 (pc1 := 103) (L1 := [some (.ref 0), some (.int v1), some (.int v2), some (.int v3), some (.int v4), some (.int v5), none]) (st1 := [.int 7, .int (m.1 0 6)]) (h1 := (zx_SM, m)) rfl ?_
        by_cases c30 : 7 ≤ (m.1 0 6)
        · rw [if_pos c30] at hf
          refine zx_ev_ift zk_170 (P := 7 ≤ (m.1 0 6)) (t := 110) (f := 106) rfl rfl c30 ?_
          exact zx_ev_sub (L := [some (.ref 0), some (.int v1), some (.int v2), some (.int v3), some (.int v4), none, none]) (⟨rfl, ⟨rfl, ⟨rfl, ⟨rfl, ⟨rfl, ⟨trivial, trivial⟩⟩⟩⟩⟩⟩) (e_M_jumpers_b69_110 v1 v2 v3 v4 m hf hK)
        · rw [if_neg c30] at hf
          refine zx_ev_ifn zk_170 (P := 7 ≤ (m.1 0 6)) (t := 110) (f := 106) rfl rfl c30 ?_
          refine zx_ev_blk zk_170 2 (pc1 := 111) (L1 := [some (.ref 0), some (.int v1), some (.int v2), some (.int v3), some (.int v4), some (.int v5), none]) (st1 := [.int 1]) (h1 := (zx_SM, m)) rfl ?_
          exact zx_ev_sub (L := [some (.ref 0), some (.int v1), some (.int v2), some (.int v3), some (.int v4), none, none]) (⟨rfl, ⟨rfl, ⟨rfl, ⟨rfl, ⟨rfl, ⟨trivial, trivial⟩⟩⟩⟩⟩⟩) (e_M_jumpers_b69_111 v1 v2 v3 v4 1 m hf hK)
def l_M_jumpers_l69 (v1 : Int32) (v2 : Int32) (v3 : Int32) (s0 : Int32 × Int32 × zx_M) : Option ((Int32 × zx_M)) := zx_lp zx_N (fun s : Int32 × Int32 × zx_M => b_M_jumpers_l69 v1 v2 v3 s.1 s.2.1 s.2.2) s0
theorem el_M_jumpers_l69 (v1 : Int32) (v2 : Int32) (v3 : Int32) {d : Nat} {out : Option Value × zx_H} : ∀ (n : Nat) (s : Int32 × Int32 × zx_M) (x : (Int32 × zx_M)), zx_lp n (fun s : Int32 × Int32 × zx_M => b_M_jumpers_l69 v1 v2 v3 s.1 s.2.1 s.2.2) s = some x → kx_M_jumpers_l69 v1 v2 v3 d out x → zx_Ev (d + 2) 170 69 [some (.ref 0), some (.int v1), some (.int v2), some (.int v3), some (.int s.1), some (.int s.2.1), none] [] (zx_SM, s.2.2) out := by
  intro n
  induction n with
  | zero => intro s x hl _; simp [zx_lp] at hl
  | succ n ih =>
    intro s x hl hx
    unfold zx_lp at hl
    cases hb : b_M_jumpers_l69 v1 v2 v3 s.1 s.2.1 s.2.2 with
    | none => simp only [hb] at hl; cases hl
    | some z =>
      simp only [hb] at hl
      cases z with
      | inl s1 => exact eb_M_jumpers_l69 v1 v2 v3 s.1 s.2.1 s.2.2 hb (ih s1 x hl hx)
      | inr t =>
        simp only [Option.some.injEq] at hl
        subst hl
        exact eb_M_jumpers_l69 v1 v2 v3 s.1 s.2.1 s.2.2 hb hx
def n_M_jumpers_n67 (v1 : Int32) (v2 : Int32) (v3 : Int32) (v4 : Int32) (t0 : Int32) (m : zx_M) : Option (Int32 × zx_M) := (l_M_jumpers_l69 v1 v2 v3 (v4, t0, m)).bind fun x31 => zx_let x31 fun y32 => some y32
theorem e_M_jumpers_n67 (v1 : Int32) (v2 : Int32) (v3 : Int32) (v4 : Int32) (t0 : Int32) (m : zx_M) {d : Nat} {y : (Int32 × zx_M)} (hf : n_M_jumpers_n67 v1 v2 v3 v4 t0 m = some y) : zx_Ev (d + 2) 170 67 [some (.ref 0), some (.int v1), some (.int v2), some (.int v3), some (.int v4), none, none] [.int t0] (zx_SM, m) (some (.int y.1), (zx_SM, y.2)) := by
  unfold n_M_jumpers_n67 at hf
  refine zx_ev_blk zk_170 1 (pc1 := 69) (L1 := [some (.ref 0), some (.int v1), some (.int v2), some (.int v3), some (.int v4), some (.int t0), none]) (st1 := []) (h1 := (zx_SM, m)) rfl ?_
  obtain ⟨x31, hx31, hf⟩ := zx_bind_eq hf
  refine zx_ev_sub (L := [some (.ref 0), some (.int v1), some (.int v2), some (.int v3), some (.int v4), some (.int t0), none]) (⟨rfl, ⟨rfl, ⟨rfl, ⟨rfl, ⟨rfl, ⟨rfl, trivial⟩⟩⟩⟩⟩⟩) (el_M_jumpers_l69 v1 v2 v3 zx_N (v4, t0, m) x31 hx31 ?_)
  obtain ⟨y32, hy32, hf⟩ := zx_let_eq hf
  subst hy32
  obtain rfl := Option.some.inj hf
  rfl
def n_M_jumpers_n66 (v1 : Int32) (v2 : Int32) (v3 : Int32) (v4 : Int32) (m : zx_M) : Option (Int32 × zx_M) := n_M_jumpers_n67 v1 v2 v3 v4 0 m
theorem e_M_jumpers_n66 (v1 : Int32) (v2 : Int32) (v3 : Int32) (v4 : Int32) (m : zx_M) {d : Nat} {y : (Int32 × zx_M)} (hf : n_M_jumpers_n66 v1 v2 v3 v4 m = some y) : zx_Ev (d + 2) 170 66 [some (.ref 0), some (.int v1), some (.int v2), some (.int v3), some (.int v4), none, none] [] (zx_SM, m) (some (.int y.1), (zx_SM, y.2)) := by
  unfold n_M_jumpers_n66 at hf
  refine zx_ev_blk zk_170 1 (pc1 := 67) (L1 := [some (.ref 0), some (.int v1), some (.int v2), some (.int v3), some (.int v4), none, none]) (st1 := [.int 0]) (h1 := (zx_SM, m)) rfl ?_
  exact zx_ev_sub (L := [some (.ref 0), some (.int v1), some (.int v2), some (.int v3), some (.int v4), none, none]) (⟨rfl, ⟨rfl, ⟨rfl, ⟨rfl, ⟨rfl, trivial⟩⟩⟩⟩⟩) (e_M_jumpers_n67 v1 v2 v3 v4 0 m hf)
def n_M_jumpers_n44 (v1 : Int32) (v2 : Int32) (v3 : Int32) (m : zx_M) : Option (Int32 × zx_M) := (zx_ix 6 v1).bind fun j9 => if ¬ (m.1 19 j9) = 50 then n_M_jumpers_n66 v1 v2 v3 0 m else if v2 < 0 then n_M_jumpers_n66 v1 v2 v3 0 m else n_M_jumpers_n67 v1 v2 v3 0 1 m
theorem e_M_jumpers_n44 (v1 : Int32) (v2 : Int32) (v3 : Int32) (m : zx_M) {d : Nat} {y : (Int32 × zx_M)} (hf : n_M_jumpers_n44 v1 v2 v3 m = some y) : zx_Ev (d + 2) 170 44 [some (.ref 0), some (.int v1), some (.int v2), some (.int v3), none, none, none] [] (zx_SM, m) (some (.int y.1), (zx_SM, y.2)) := by
  unfold n_M_jumpers_n44 at hf
  refine zx_ev_blk zk_170 5 (pc1 := 52) (L1 := [some (.ref 0), some (.int v1), some (.int v2), some (.int v3), some (.int 0), none, none]) (st1 := [.int v1, .ref 19]) (h1 := (zx_SM, m)) rfl ?_
  obtain ⟨j9, hj9, hf⟩ := zx_bind_eq hf
  refine zx_ev_step zk_170 rfl (st_iald rfl rfl hj9) ?_
  refine zx_ev_blk zk_170 1 (pc1 := 55) (L1 := [some (.ref 0), some (.int v1), some (.int v2), some (.int v3), some (.int 0), none, none]) (st1 := [.int 50, .int (m.1 19 j9)]) (h1 := (zx_SM, m)) rfl ?_
  by_cases c10 : ¬ (m.1 19 j9) = 50
  · rw [if_pos c10] at hf
    refine zx_ev_ift zk_170 (P := ¬ (m.1 19 j9) = 50) (t := 66) (f := 58) rfl rfl c10 ?_
    exact zx_ev_sub (L := [some (.ref 0), some (.int v1), some (.int v2), some (.int v3), some (.int 0), none, none]) (⟨rfl, ⟨rfl, ⟨rfl, ⟨rfl, ⟨rfl, trivial⟩⟩⟩⟩⟩) (e_M_jumpers_n66 v1 v2 v3 0 m hf)
  · rw [if_neg c10] at hf
    refine zx_ev_ifn zk_170 (P := ¬ (m.1 19 j9) = 50) (t := 66) (f := 58) rfl rfl c10 ?_
    refine zx_ev_blk zk_170 1 (pc1 := 59) (L1 := [some (.ref 0), some (.int v1), some (.int v2), some (.int v3), some (.int 0), none, none]) (st1 := [.int v2]) (h1 := (zx_SM, m)) rfl ?_
    by_cases c33 : v2 < 0
    · rw [if_pos c33] at hf
      refine zx_ev_ift zk_170 (P := v2 < 0) (t := 66) (f := 62) rfl rfl c33 ?_
      exact zx_ev_sub (L := [some (.ref 0), some (.int v1), some (.int v2), some (.int v3), some (.int 0), none, none]) (⟨rfl, ⟨rfl, ⟨rfl, ⟨rfl, ⟨rfl, trivial⟩⟩⟩⟩⟩) (e_M_jumpers_n66 v1 v2 v3 0 m hf)
    · rw [if_neg c33] at hf
      refine zx_ev_ifn zk_170 (P := v2 < 0) (t := 66) (f := 62) rfl rfl c33 ?_
      refine zx_ev_blk zk_170 2 (pc1 := 67) (L1 := [some (.ref 0), some (.int v1), some (.int v2), some (.int v3), some (.int 0), none, none]) (st1 := [.int 1]) (h1 := (zx_SM, m)) rfl ?_
      exact zx_ev_sub (L := [some (.ref 0), some (.int v1), some (.int v2), some (.int v3), some (.int 0), none, none]) (⟨rfl, ⟨rfl, ⟨rfl, ⟨rfl, ⟨rfl, trivial⟩⟩⟩⟩⟩) (e_M_jumpers_n67 v1 v2 v3 0 1 m hf)
def f_M_jumpers (v1 : Int32) (v2 : Int32) (v3 : Int32) (m : zx_M) : Option (Int32 × zx_M) := (f_M_isShelf v1 m).bind fun r2 => if r2 = 0 then some ((-1), m) else (f_M_within (Int32.toInt64 v3) 1 7 m).bind fun r5 => if ¬ r5 = 0 then (zx_ix 6 v1).bind fun j7 => if (m.1 19 j7) < 0 then n_M_jumpers_n44 v1 v2 v3 m else (zx_ix 6 v1).bind fun j34 => if (m.1 19 j34) = 50 then n_M_jumpers_n44 v1 v2 v3 m else some ((-12), m) else some ((-1), m)
theorem s_M_jumpers (v1 : Int32) (v2 : Int32) (v3 : Int32) (m : zx_M) {d : Nat} {y : (Int32 × zx_M)} (hf : f_M_jumpers v1 v2 v3 m = some y) : zx_Ev (d + 2) 170 0 [some (.ref 0), some (.int v1), some (.int v2), some (.int v3), none, none, none] [] (zx_SM, m) (some (.int y.1), (zx_SM, y.2)) := by
  unfold f_M_jumpers at hf
  refine zx_ev_blk zk_170 1 (pc1 := 1) (L1 := [some (.ref 0), some (.int v1), some (.int v2), some (.int v3), none, none, none]) (st1 := [.int v1]) (h1 := (zx_SM, m)) rfl ?_
  obtain ⟨r2, hv1, hf⟩ := zx_bind_eq hf
  refine zx_ev_call (d := d + 1) zk_170 (v := some (.int r2)) (h1 := (zx_SM, m)) rfl rfl zt_250 rfl zx_SMn rfl rfl (s_M_isShelf _ _ (d := d + 0) hv1) ?_
  by_cases c3 : r2 = 0
  · rw [if_pos c3] at hf
    refine zx_ev_ift zk_170 (P := r2 = 0) (t := 19) (f := 7) rfl rfl c3 ?_
    refine zx_ev_blk zk_170 1 (pc1 := 20) (L1 := [some (.ref 0), some (.int v1), some (.int v2), some (.int v3), none, none, none]) (st1 := [.int (-1)]) (h1 := (zx_SM, m)) rfl ?_
    obtain rfl := Option.some.inj hf
    exact zx_ev_ret zk_170 rfl rfl
  · rw [if_neg c3] at hf
    refine zx_ev_ifn zk_170 (P := r2 = 0) (t := 19) (f := 7) rfl rfl c3 ?_
    refine zx_ev_blk zk_170 4 (pc1 := 13) (L1 := [some (.ref 0), some (.int v1), some (.int v2), some (.int v3), none, none, none]) (st1 := [.long 7, .long 1, .long (Int32.toInt64 v3)]) (h1 := (zx_SM, m)) rfl ?_
    obtain ⟨r5, hv4, hf⟩ := zx_bind_eq hf
    refine zx_ev_call (d := d + 1) zk_170 (v := some (.int r5)) (h1 := (zx_SM, m)) rfl rfl zt_157 rfl zx_SMn rfl rfl (s_M_within _ _ _ _ (d := d + 1) hv4) ?_
    by_cases c6 : ¬ r5 = 0
    · rw [if_pos c6] at hf
      refine zx_ev_ift zk_170 (P := ¬ r5 = 0) (t := 21) (f := 19) rfl rfl c6 ?_
      refine zx_ev_blk zk_170 3 (pc1 := 26) (L1 := [some (.ref 0), some (.int v1), some (.int v2), some (.int v3), none, none, none]) (st1 := [.int v1, .ref 19]) (h1 := (zx_SM, m)) rfl ?_
      obtain ⟨j7, hj7, hf⟩ := zx_bind_eq hf
      refine zx_ev_step zk_170 rfl (st_iald rfl rfl hj7) ?_
      by_cases c8 : (m.1 19 j7) < 0
      · rw [if_pos c8] at hf
        refine zx_ev_ift zk_170 (P := (m.1 19 j7) < 0) (t := 44) (f := 30) rfl rfl c8 ?_
        exact zx_ev_sub (L := [some (.ref 0), some (.int v1), some (.int v2), some (.int v3), none, none, none]) (⟨rfl, ⟨rfl, ⟨rfl, ⟨rfl, trivial⟩⟩⟩⟩) (e_M_jumpers_n44 v1 v2 v3 m hf)
      · rw [if_neg c8] at hf
        refine zx_ev_ifn zk_170 (P := (m.1 19 j7) < 0) (t := 44) (f := 30) rfl rfl c8 ?_
        refine zx_ev_blk zk_170 3 (pc1 := 35) (L1 := [some (.ref 0), some (.int v1), some (.int v2), some (.int v3), none, none, none]) (st1 := [.int v1, .ref 19]) (h1 := (zx_SM, m)) rfl ?_
        obtain ⟨j34, hj34, hf⟩ := zx_bind_eq hf
        refine zx_ev_step zk_170 rfl (st_iald rfl rfl hj34) ?_
        refine zx_ev_blk zk_170 1 (pc1 := 38) (L1 := [some (.ref 0), some (.int v1), some (.int v2), some (.int v3), none, none, none]) (st1 := [.int 50, .int (m.1 19 j34)]) (h1 := (zx_SM, m)) rfl ?_
        by_cases c35 : (m.1 19 j34) = 50
        · rw [if_pos c35] at hf
          refine zx_ev_ift zk_170 (P := (m.1 19 j34) = 50) (t := 44) (f := 41) rfl rfl c35 ?_
          exact zx_ev_sub (L := [some (.ref 0), some (.int v1), some (.int v2), some (.int v3), none, none, none]) (⟨rfl, ⟨rfl, ⟨rfl, ⟨rfl, trivial⟩⟩⟩⟩) (e_M_jumpers_n44 v1 v2 v3 m hf)
        · rw [if_neg c35] at hf
          refine zx_ev_ifn zk_170 (P := (m.1 19 j34) = 50) (t := 44) (f := 41) rfl rfl c35 ?_
          refine zx_ev_blk zk_170 1 (pc1 := 43) (L1 := [some (.ref 0), some (.int v1), some (.int v2), some (.int v3), none, none, none]) (st1 := [.int (-12)]) (h1 := (zx_SM, m)) rfl ?_
          obtain rfl := Option.some.inj hf
          exact zx_ev_ret zk_170 rfl rfl
    · rw [if_neg c6] at hf
      refine zx_ev_ifn zk_170 (P := ¬ r5 = 0) (t := 21) (f := 19) rfl rfl c6 ?_
      refine zx_ev_blk zk_170 1 (pc1 := 20) (L1 := [some (.ref 0), some (.int v1), some (.int v2), some (.int v3), none, none, none]) (st1 := [.int (-1)]) (h1 := (zx_SM, m)) rfl ?_
      obtain rfl := Option.some.inj hf
      exact zx_ev_ret zk_170 rfl rfl
def n_M_keep_n22 (v1 : Int32) (v2 : Int32) (m : zx_M) : Option (Int32 × zx_M) := (zx_ix 6 v1).bind fun j5 => zx_let (zx_u1 m 19 j5 v2) fun m6 => (zx_ix 6 v1).bind fun j7 => zx_let (zx_u1 m6 20 j7 0) fun m8 => some (1, m8)
theorem e_M_keep_n22 (v1 : Int32) (v2 : Int32) (m : zx_M) {d : Nat} {y : (Int32 × zx_M)} (hf : n_M_keep_n22 v1 v2 m = some y) : zx_Ev (d + 2) 251 22 [some (.ref 0), some (.int v1), some (.int v2)] [] (zx_SM, m) (some (.int y.1), (zx_SM, y.2)) := by
  unfold n_M_keep_n22 at hf
  refine zx_ev_blk zk_251 4 (pc1 := 28) (L1 := [some (.ref 0), some (.int v1), some (.int v2)]) (st1 := [.int v2, .int v1, .ref 19]) (h1 := (zx_SM, m)) rfl ?_
  obtain ⟨j5, hj5, hf⟩ := zx_bind_eq hf
  refine zx_ev_step zk_251 rfl (st_iast rfl hj5) ?_
  obtain ⟨m6, hm6, hf⟩ := zx_let_eq hf
  rw [hm6]
  refine zx_ev_blk zk_251 4 (pc1 := 35) (L1 := [some (.ref 0), some (.int v1), some (.int v2)]) (st1 := [.int 0, .int v1, .ref 20]) (h1 := (zx_SM, m6)) rfl ?_
  obtain ⟨j7, hj7, hf⟩ := zx_bind_eq hf
  refine zx_ev_step zk_251 rfl (st_iast rfl hj7) ?_
  obtain ⟨m8, hm8, hf⟩ := zx_let_eq hf
  rw [hm8]
  refine zx_ev_blk zk_251 1 (pc1 := 37) (L1 := [some (.ref 0), some (.int v1), some (.int v2)]) (st1 := [.int 1]) (h1 := (zx_SM, m8)) rfl ?_
  obtain rfl := Option.some.inj hf
  exact zx_ev_ret zk_251 rfl rfl
def f_M_keep (v1 : Int32) (v2 : Int32) (m : zx_M) : Option (Int32 × zx_M) := (f_M_isShelf v1 m).bind fun r2 => if r2 = 0 then some ((-1), m) else if v2 = (-1) then n_M_keep_n22 v1 v2 m else (f_M_isBody v2 m).bind fun r10 => if ¬ r10 = 0 then n_M_keep_n22 v1 v2 m else some ((-1), m)
theorem s_M_keep (v1 : Int32) (v2 : Int32) (m : zx_M) {d : Nat} {y : (Int32 × zx_M)} (hf : f_M_keep v1 v2 m = some y) : zx_Ev (d + 2) 251 0 [some (.ref 0), some (.int v1), some (.int v2)] [] (zx_SM, m) (some (.int y.1), (zx_SM, y.2)) := by
  unfold f_M_keep at hf
  refine zx_ev_blk zk_251 1 (pc1 := 1) (L1 := [some (.ref 0), some (.int v1), some (.int v2)]) (st1 := [.int v1]) (h1 := (zx_SM, m)) rfl ?_
  obtain ⟨r2, hv1, hf⟩ := zx_bind_eq hf
  refine zx_ev_call (d := d + 1) zk_251 (v := some (.int r2)) (h1 := (zx_SM, m)) rfl rfl zt_250 rfl zx_SMn rfl rfl (s_M_isShelf _ _ (d := d + 0) hv1) ?_
  by_cases c3 : r2 = 0
  · rw [if_pos c3] at hf
    refine zx_ev_ift zk_251 (P := r2 = 0) (t := 20) (f := 7) rfl rfl c3 ?_
    refine zx_ev_blk zk_251 1 (pc1 := 21) (L1 := [some (.ref 0), some (.int v1), some (.int v2)]) (st1 := [.int (-1)]) (h1 := (zx_SM, m)) rfl ?_
    obtain rfl := Option.some.inj hf
    exact zx_ev_ret zk_251 rfl rfl
  · rw [if_neg c3] at hf
    refine zx_ev_ifn zk_251 (P := r2 = 0) (t := 20) (f := 7) rfl rfl c3 ?_
    refine zx_ev_blk zk_251 2 (pc1 := 9) (L1 := [some (.ref 0), some (.int v1), some (.int v2)]) (st1 := [.int (-1), .int v2]) (h1 := (zx_SM, m)) rfl ?_
    by_cases c4 : v2 = (-1)
    · rw [if_pos c4] at hf
      refine zx_ev_ift zk_251 (P := v2 = (-1)) (t := 22) (f := 12) rfl rfl c4 ?_
      exact zx_ev_sub (L := [some (.ref 0), some (.int v1), some (.int v2)]) (⟨rfl, ⟨rfl, ⟨rfl, trivial⟩⟩⟩) (e_M_keep_n22 v1 v2 m hf)
    · rw [if_neg c4] at hf
      refine zx_ev_ifn zk_251 (P := v2 = (-1)) (t := 22) (f := 12) rfl rfl c4 ?_
      refine zx_ev_blk zk_251 2 (pc1 := 14) (L1 := [some (.ref 0), some (.int v1), some (.int v2)]) (st1 := [.int v2, .ref 0]) (h1 := (zx_SM, m)) rfl ?_
      obtain ⟨r10, hv9, hf⟩ := zx_bind_eq hf
      refine zx_ev_call (d := d + 1) zk_251 (v := some (.int r10)) (h1 := (zx_SM, m)) rfl rfl zt_239 rfl zx_SMn rfl rfl (s_M_isBody _ _ (d := d + 0) hv9) ?_
      by_cases c11 : ¬ r10 = 0
      · rw [if_pos c11] at hf
        refine zx_ev_ift zk_251 (P := ¬ r10 = 0) (t := 22) (f := 20) rfl rfl c11 ?_
        exact zx_ev_sub (L := [some (.ref 0), some (.int v1), some (.int v2)]) (⟨rfl, ⟨rfl, ⟨rfl, trivial⟩⟩⟩) (e_M_keep_n22 v1 v2 m hf)
      · rw [if_neg c11] at hf
        refine zx_ev_ifn zk_251 (P := ¬ r10 = 0) (t := 22) (f := 20) rfl rfl c11 ?_
        refine zx_ev_blk zk_251 1 (pc1 := 21) (L1 := [some (.ref 0), some (.int v1), some (.int v2)]) (st1 := [.int (-1)]) (h1 := (zx_SM, m)) rfl ?_
        obtain rfl := Option.some.inj hf
        exact zx_ev_ret zk_251 rfl rfl
def kx_M_last_l124 (v4 : Int32) (v5 : Int32) (m : zx_M) (d : Nat) (out : Option Value × zx_H) : (Int32 × zx_M) → Prop
  | y => out = (some (.int y.1), (zx_SM, y.2))
def kl_M_last_l124 (v4 : Int32) (v5 : Int32) (m : zx_M) (d : Nat) (out : Option Value × zx_H) : (Int32 × Int32 × Int32) ⊕ ((Int32 × zx_M)) → Prop
  | .inl (v6, v7, v8) => zx_Ev (d + 70) 216 124 [some (.ref 0), none, none, none, some (.int v4), some (.int v5), some (.int v6), some (.int v7), some (.int v8), none, none] [] (zx_SM, m) out
  | .inr x => kx_M_last_l124 v4 v5 m d out x
def n_M_last_b124_225 (v4 : Int32) (v5 : Int32) (v6 : Int32) (v8 : Int32) (t0 : Int32) (m : zx_M) : Option ((Int32 × Int32 × Int32) ⊕ ((Int32 × zx_M))) := zx_let (v8 + 1) fun a30 => some (.inl (v6, t0, a30))
theorem e_M_last_b124_225 (v4 : Int32) (v5 : Int32) (v6 : Int32) (v8 : Int32) (t0 : Int32) (m : zx_M) {d : Nat} {out : Option Value × zx_H} {y : (Int32 × Int32 × Int32) ⊕ ((Int32 × zx_M))} (hf : n_M_last_b124_225 v4 v5 v6 v8 t0 m = some y) (hK : kl_M_last_l124 v4 v5 m d out y) : zx_Ev (d + 70) 216 225 [some (.ref 0), none, none, none, some (.int v4), some (.int v5), some (.int v6), none, some (.int v8), none, none] [.int t0] (zx_SM, m) out := by
  unfold n_M_last_b124_225 at hf
  obtain ⟨a30, ha30, hf⟩ := zx_let_eq hf
  refine zx_ev_blk zk_216 3 (pc1 := 124) (L1 := [some (.ref 0), none, none, none, some (.int v4), some (.int v5), some (.int v6), some (.int t0), some (.int a30), none, none]) (st1 := []) (h1 := (zx_SM, m)) (by subst ha30; rfl) ?_
  obtain rfl := Option.some.inj hf
  exact zx_ev_sub (L := [some (.ref 0), none, none, none, some (.int v4), some (.int v5), some (.int v6), some (.int t0), some (.int a30), none, none]) (⟨rfl, ⟨rfl, ⟨rfl, ⟨rfl, ⟨rfl, ⟨rfl, trivial⟩⟩⟩⟩⟩⟩) hK
def n_M_last_b124_211 (v4 : Int32) (v5 : Int32) (v7 : Int32) (v8 : Int32) (v9 : Int32) (v10 : Int32) (t0 : Int32) (m : zx_M) : Option ((Int32 × Int32 × Int32) ⊕ ((Int32 × zx_M))) := if v10 = 0 then n_M_last_b124_225 v4 v5 t0 v8 v7 m else n_M_last_b124_225 v4 v5 t0 v8 v9 m
theorem e_M_last_b124_211 (v4 : Int32) (v5 : Int32) (v7 : Int32) (v8 : Int32) (v9 : Int32) (v10 : Int32) (t0 : Int32) (m : zx_M) {d : Nat} {out : Option Value × zx_H} {y : (Int32 × Int32 × Int32) ⊕ ((Int32 × zx_M))} (hf : n_M_last_b124_211 v4 v5 v7 v8 v9 v10 t0 m = some y) (hK : kl_M_last_l124 v4 v5 m d out y) : zx_Ev (d + 70) 216 211 [some (.ref 0), none, none, none, some (.int v4), some (.int v5), none, some (.int v7), some (.int v8), some (.int v9), some (.int v10)] [.int t0] (zx_SM, m) out := by
  unfold n_M_last_b124_211 at hf
  refine zx_ev_blk zk_216 2 (pc1 := 215) (L1 := [some (.ref 0), none, none, none, some (.int v4), some (.int v5), some (.int t0), some (.int v7), some (.int v8), some (.int v9), some (.int v10)]) (st1 := [.int v10]) (h1 := (zx_SM, m)) rfl ?_
  by_cases c29 : v10 = 0
  · rw [if_pos c29] at hf
    refine zx_ev_ift zk_216 (P := v10 = 0) (t := 223) (f := 218) rfl rfl c29 ?_
    refine zx_ev_blk zk_216 1 (pc1 := 225) (L1 := [some (.ref 0), none, none, none, some (.int v4), some (.int v5), some (.int t0), some (.int v7), some (.int v8), some (.int v9), some (.int v10)]) (st1 := [.int v7]) (h1 := (zx_SM, m)) rfl ?_
    exact zx_ev_sub (L := [some (.ref 0), none, none, none, some (.int v4), some (.int v5), some (.int t0), none, some (.int v8), none, none]) (⟨rfl, ⟨rfl, ⟨rfl, ⟨rfl, ⟨trivial, ⟨rfl, ⟨trivial, ⟨trivial, trivial⟩⟩⟩⟩⟩⟩⟩⟩) (e_M_last_b124_225 v4 v5 t0 v8 v7 m hf hK)
  · rw [if_neg c29] at hf
    refine zx_ev_ifn zk_216 (P := v10 = 0) (t := 223) (f := 218) rfl rfl c29 ?_
    refine zx_ev_blk zk_216 2 (pc1 := 225) (L1 := [some (.ref 0), none, none, none, some (.int v4), some (.int v5), some (.int t0), some (.int v7), some (.int v8), some (.int v9), some (.int v10)]) (st1 := [.int v9]) (h1 := (zx_SM, m)) rfl ?_
    exact zx_ev_sub (L := [some (.ref 0), none, none, none, some (.int v4), some (.int v5), some (.int t0), none, some (.int v8), none, none]) (⟨rfl, ⟨rfl, ⟨rfl, ⟨rfl, ⟨trivial, ⟨rfl, ⟨trivial, ⟨trivial, trivial⟩⟩⟩⟩⟩⟩⟩⟩) (e_M_last_b124_225 v4 v5 t0 v8 v9 m hf hK)
def n_M_last_b124_192 (v4 : Int32) (v5 : Int32) (v6 : Int32) (v7 : Int32) (v8 : Int32) (v9 : Int32) (t0 : Int32) (m : zx_M) : Option ((Int32 × Int32 × Int32) ⊕ ((Int32 × zx_M))) := if t0 = 0 then n_M_last_b124_211 v4 v5 v7 v8 v9 t0 v6 m else (zx_ix 7 v8).bind fun j31 => n_M_last_b124_211 v4 v5 v7 v8 v9 t0 (m.1 8 j31) m
theorem e_M_last_b124_192 (v4 : Int32) (v5 : Int32) (v6 : Int32) (v7 : Int32) (v8 : Int32) (v9 : Int32) (t0 : Int32) (m : zx_M) {d : Nat} {out : Option Value × zx_H} {y : (Int32 × Int32 × Int32) ⊕ ((Int32 × zx_M))} (hf : n_M_last_b124_192 v4 v5 v6 v7 v8 v9 t0 m = some y) (hK : kl_M_last_l124 v4 v5 m d out y) : zx_Ev (d + 70) 216 192 [some (.ref 0), none, none, none, some (.int v4), some (.int v5), some (.int v6), some (.int v7), some (.int v8), some (.int v9), none] [.int t0] (zx_SM, m) out := by
  unfold n_M_last_b124_192 at hf
  refine zx_ev_blk zk_216 2 (pc1 := 196) (L1 := [some (.ref 0), none, none, none, some (.int v4), some (.int v5), some (.int v6), some (.int v7), some (.int v8), some (.int v9), some (.int t0)]) (st1 := [.int t0]) (h1 := (zx_SM, m)) rfl ?_
  by_cases c28 : t0 = 0
  · rw [if_pos c28] at hf
    refine zx_ev_ift zk_216 (P := t0 = 0) (t := 209) (f := 199) rfl rfl c28 ?_
    refine zx_ev_blk zk_216 1 (pc1 := 211) (L1 := [some (.ref 0), none, none, none, some (.int v4), some (.int v5), some (.int v6), some (.int v7), some (.int v8), some (.int v9), some (.int t0)]) (st1 := [.int v6]) (h1 := (zx_SM, m)) rfl ?_
    exact zx_ev_sub (L := [some (.ref 0), none, none, none, some (.int v4), some (.int v5), none, some (.int v7), some (.int v8), some (.int v9), some (.int t0)]) (⟨rfl, ⟨rfl, ⟨rfl, ⟨trivial, ⟨rfl, ⟨rfl, ⟨rfl, ⟨rfl, trivial⟩⟩⟩⟩⟩⟩⟩⟩) (e_M_last_b124_211 v4 v5 v7 v8 v9 t0 v6 m hf hK)
  · rw [if_neg c28] at hf
    refine zx_ev_ifn zk_216 (P := t0 = 0) (t := 209) (f := 199) rfl rfl c28 ?_
    refine zx_ev_blk zk_216 3 (pc1 := 205) (L1 := [some (.ref 0), none, none, none, some (.int v4), some (.int v5), some (.int v6), some (.int v7), some (.int v8), some (.int v9), some (.int t0)]) (st1 := [.int v8, .ref 8]) (h1 := (zx_SM, m)) rfl ?_
    obtain ⟨j31, hj31, hf⟩ := zx_bind_eq hf
    refine zx_ev_step zk_216 rfl (st_iald rfl rfl hj31) ?_
    refine zx_ev_blk zk_216 1 (pc1 := 211) (L1 := [some (.ref 0), none, none, none, some (.int v4), some (.int v5), some (.int v6), some (.int v7), some (.int v8), some (.int v9), some (.int t0)]) (st1 := [.int (m.1 8 j31)]) (h1 := (zx_SM, m)) rfl ?_
    exact zx_ev_sub (L := [some (.ref 0), none, none, none, some (.int v4), some (.int v5), none, some (.int v7), some (.int v8), some (.int v9), some (.int t0)]) (⟨rfl, ⟨rfl, ⟨rfl, ⟨trivial, ⟨rfl, ⟨rfl, ⟨rfl, ⟨rfl, trivial⟩⟩⟩⟩⟩⟩⟩⟩) (e_M_last_b124_211 v4 v5 v7 v8 v9 t0 (m.1 8 j31) m hf hK)
def n_M_last_b124_187 (v4 : Int32) (v5 : Int32) (v6 : Int32) (v7 : Int32) (v8 : Int32) (v9 : Int32) (m : zx_M) : Option ((Int32 × Int32 × Int32) ⊕ ((Int32 × zx_M))) := n_M_last_b124_192 v4 v5 v6 v7 v8 v9 1 m
theorem e_M_last_b124_187 (v4 : Int32) (v5 : Int32) (v6 : Int32) (v7 : Int32) (v8 : Int32) (v9 : Int32) (m : zx_M) {d : Nat} {out : Option Value × zx_H} {y : (Int32 × Int32 × Int32) ⊕ ((Int32 × zx_M))} (hf : n_M_last_b124_187 v4 v5 v6 v7 v8 v9 m = some y) (hK : kl_M_last_l124 v4 v5 m d out y) : zx_Ev (d + 70) 216 187 [some (.ref 0), none, none, none, some (.int v4), some (.int v5), some (.int v6), some (.int v7), some (.int v8), some (.int v9), none] [] (zx_SM, m) out := by
  unfold n_M_last_b124_187 at hf
  refine zx_ev_blk zk_216 2 (pc1 := 192) (L1 := [some (.ref 0), none, none, none, some (.int v4), some (.int v5), some (.int v6), some (.int v7), some (.int v8), some (.int v9), none]) (st1 := [.int 1]) (h1 := (zx_SM, m)) rfl ?_
  exact zx_ev_sub (L := [some (.ref 0), none, none, none, some (.int v4), some (.int v5), some (.int v6), some (.int v7), some (.int v8), some (.int v9), none]) (⟨rfl, ⟨rfl, ⟨rfl, ⟨rfl, ⟨rfl, ⟨rfl, ⟨rfl, trivial⟩⟩⟩⟩⟩⟩⟩) (e_M_last_b124_192 v4 v5 v6 v7 v8 v9 1 m hf hK)
def n_M_last_b124_191 (v4 : Int32) (v5 : Int32) (v6 : Int32) (v7 : Int32) (v8 : Int32) (v9 : Int32) (m : zx_M) : Option ((Int32 × Int32 × Int32) ⊕ ((Int32 × zx_M))) := n_M_last_b124_192 v4 v5 v6 v7 v8 v9 0 m
theorem e_M_last_b124_191 (v4 : Int32) (v5 : Int32) (v6 : Int32) (v7 : Int32) (v8 : Int32) (v9 : Int32) (m : zx_M) {d : Nat} {out : Option Value × zx_H} {y : (Int32 × Int32 × Int32) ⊕ ((Int32 × zx_M))} (hf : n_M_last_b124_191 v4 v5 v6 v7 v8 v9 m = some y) (hK : kl_M_last_l124 v4 v5 m d out y) : zx_Ev (d + 70) 216 191 [some (.ref 0), none, none, none, some (.int v4), some (.int v5), some (.int v6), some (.int v7), some (.int v8), some (.int v9), none] [] (zx_SM, m) out := by
  unfold n_M_last_b124_191 at hf
  refine zx_ev_blk zk_216 1 (pc1 := 192) (L1 := [some (.ref 0), none, none, none, some (.int v4), some (.int v5), some (.int v6), some (.int v7), some (.int v8), some (.int v9), none]) (st1 := [.int 0]) (h1 := (zx_SM, m)) rfl ?_
  exact zx_ev_sub (L := [some (.ref 0), none, none, none, some (.int v4), some (.int v5), some (.int v6), some (.int v7), some (.int v8), some (.int v9), none]) (⟨rfl, ⟨rfl, ⟨rfl, ⟨rfl, ⟨rfl, ⟨rfl, ⟨rfl, trivial⟩⟩⟩⟩⟩⟩⟩) (e_M_last_b124_192 v4 v5 v6 v7 v8 v9 0 m hf hK)
def b_M_last_l124 (v4 : Int32) (v5 : Int32) (v6 : Int32) (v7 : Int32) (v8 : Int32) (m : zx_M) : Option ((Int32 × Int32 × Int32) ⊕ ((Int32 × zx_M))) := if (m.1 0 20) ≤ v8 then some (.inr (v6, m)) else (zx_ix 7 v8).bind fun j23 => (zx_ix 7 (m.1 8 j23)).bind fun j24 => (f_M_sizeOf ((v4 + (m.1 11 j24)) - v5) m).bind fun r26 => if v6 < 0 then n_M_last_b124_187 v4 v5 v6 v7 v8 r26 m else if r26 < v7 then n_M_last_b124_187 v4 v5 v6 v7 v8 r26 m else if ¬ r26 = v7 then n_M_last_b124_191 v4 v5 v6 v7 v8 r26 m else (zx_ix 7 v8).bind fun j34 => if v6 ≤ (m.1 8 j34) then n_M_last_b124_191 v4 v5 v6 v7 v8 r26 m else n_M_last_b124_187 v4 v5 v6 v7 v8 r26 m
theorem eb_M_last_l124 (v4 : Int32) (v5 : Int32) (v6 : Int32) (v7 : Int32) (v8 : Int32) (m : zx_M) {d : Nat} {out : Option Value × zx_H} {y : (Int32 × Int32 × Int32) ⊕ ((Int32 × zx_M))} (hf : b_M_last_l124 v4 v5 v6 v7 v8 m = some y) (hK : kl_M_last_l124 v4 v5 m d out y) : zx_Ev (d + 70) 216 124 [some (.ref 0), none, none, none, some (.int v4), some (.int v5), some (.int v6), some (.int v7), some (.int v8), none, none] [] (zx_SM, m) out := by
  unfold b_M_last_l124 at hf
  refine zx_ev_blk zk_216 3 (pc1 := 130) (L1 := [some (.ref 0), none, none, none, some (.int v4), some (.int v5), some (.int v6), some (.int v7), some (.int v8), none, none]) (st1 := [.int (m.1 0 20), .int v8]) (h1 := (zx_SM, m)) rfl ?_
  by_cases c22 : (m.1 0 20) ≤ v8
  · rw [if_pos c22] at hf
    refine zx_ev_ift zk_216 (P := (m.1 0 20) ≤ v8) (t := 233) (f := 133) rfl rfl c22 ?_
    refine zx_ev_blk zk_216 1 (pc1 := 235) (L1 := [some (.ref 0), none, none, none, some (.int v4), some (.int v5), some (.int v6), some (.int v7), some (.int v8), none, none]) (st1 := [.int v6]) (h1 := (zx_SM, m)) rfl ?_
    obtain rfl := Option.some.inj hf
    rw [show out = _ from hK]
    exact zx_ev_ret zk_216 rfl rfl
  · rw [if_neg c22] at hf
    refine zx_ev_ifn zk_216 (P := (m.1 0 20) ≤ v8) (t := 233) (f := 133) rfl rfl c22 ?_
    refine zx_ev_blk zk_216 6 (pc1 := 145) (L1 := [some (.ref 0), none, none, none, some (.int v4), some (.int v5), some (.int v6), some (.int v7), some (.int v8), none, none]) (st1 := [.int v8, .ref 8, .ref 11, .int v4]) (h1 := (zx_SM, m)) rfl ?_
    obtain ⟨j23, hj23, hf⟩ := zx_bind_eq hf
    refine zx_ev_step zk_216 rfl (st_iald rfl rfl hj23) ?_
    obtain ⟨j24, hj24, hf⟩ := zx_bind_eq hf
    refine zx_ev_step zk_216 rfl (st_iald rfl rfl hj24) ?_
    refine zx_ev_blk zk_216 3 (pc1 := 151) (L1 := [some (.ref 0), none, none, none, some (.int v4), some (.int v5), some (.int v6), some (.int v7), some (.int v8), none, none]) (st1 := [.int ((v4 + (m.1 11 j24)) - v5)]) (h1 := (zx_SM, m)) rfl ?_
    obtain ⟨r26, hv25, hf⟩ := zx_bind_eq hf
    refine zx_ev_call (d := d + 69) zk_216 (v := some (.int r26)) (h1 := (zx_SM, m)) rfl rfl zt_158 rfl zx_SMn rfl rfl (s_M_sizeOf _ _ (d := d + 69) hv25) ?_
    refine zx_ev_blk zk_216 2 (pc1 := 158) (L1 := [some (.ref 0), none, none, none, some (.int v4), some (.int v5), some (.int v6), some (.int v7), some (.int v8), some (.int r26), none]) (st1 := [.int v6]) (h1 := (zx_SM, m)) rfl ?_
    by_cases c27 : v6 < 0
    · rw [if_pos c27] at hf
      refine zx_ev_ift zk_216 (P := v6 < 0) (t := 187) (f := 161) rfl rfl c27 ?_
      exact zx_ev_sub (L := [some (.ref 0), none, none, none, some (.int v4), some (.int v5), some (.int v6), some (.int v7), some (.int v8), some (.int r26), none]) (⟨rfl, ⟨rfl, ⟨rfl, ⟨rfl, ⟨rfl, ⟨rfl, ⟨rfl, trivial⟩⟩⟩⟩⟩⟩⟩) (e_M_last_b124_187 v4 v5 v6 v7 v8 r26 m hf hK)
    · rw [if_neg c27] at hf
      refine zx_ev_ifn zk_216 (P := v6 < 0) (t := 187) (f := 161) rfl rfl c27 ?_
      refine zx_ev_blk zk_216 2 (pc1 := 165) (L1 := [some (.ref 0), none, none, none, some (.int v4), some (.int v5), some (.int v6), some (.int v7), some (.int v8), some (.int r26), none]) (st1 := [.int v7, .int r26]) (h1 := (zx_SM, m)) rfl ?_
      by_cases c32 : r26 < v7
      · rw [if_pos c32] at hf
        refine zx_ev_ift zk_216 (P := r26 < v7) (t := 187) (f := 168) rfl rfl c32 ?_
        exact zx_ev_sub (L := [some (.ref 0), none, none, none, some (.int v4), some (.int v5), some (.int v6), some (.int v7), some (.int v8), some (.int r26), none]) (⟨rfl, ⟨rfl, ⟨rfl, ⟨rfl, ⟨rfl, ⟨rfl, ⟨rfl, trivial⟩⟩⟩⟩⟩⟩⟩) (e_M_last_b124_187 v4 v5 v6 v7 v8 r26 m hf hK)
      · rw [if_neg c32] at hf
        refine zx_ev_ifn zk_216 (P := r26 < v7) (t := 187) (f := 168) rfl rfl c32 ?_
        refine zx_ev_blk zk_216 2 (pc1 := 172) (L1 := [some (.ref 0), none, none, none, some (.int v4), some (.int v5), some (.int v6), some (.int v7), some (.int v8), some (.int r26), none]) (st1 := [.int v7, .int r26]) (h1 := (zx_SM, m)) rfl ?_
        by_cases c33 : ¬ r26 = v7
        · rw [if_pos c33] at hf
          refine zx_ev_ift zk_216 (P := ¬ r26 = v7) (t := 191) (f := 175) rfl rfl c33 ?_
          exact zx_ev_sub (L := [some (.ref 0), none, none, none, some (.int v4), some (.int v5), some (.int v6), some (.int v7), some (.int v8), some (.int r26), none]) (⟨rfl, ⟨rfl, ⟨rfl, ⟨rfl, ⟨rfl, ⟨rfl, ⟨rfl, trivial⟩⟩⟩⟩⟩⟩⟩) (e_M_last_b124_191 v4 v5 v6 v7 v8 r26 m hf hK)
        · rw [if_neg c33] at hf
          refine zx_ev_ifn zk_216 (P := ¬ r26 = v7) (t := 191) (f := 175) rfl rfl c33 ?_
          refine zx_ev_blk zk_216 3 (pc1 := 181) (L1 := [some (.ref 0), none, none, none, some (.int v4), some (.int v5), some (.int v6), some (.int v7), some (.int v8), some (.int r26), none]) (st1 := [.int v8, .ref 8]) (h1 := (zx_SM, m)) rfl ?_
          obtain ⟨j34, hj34, hf⟩ := zx_bind_eq hf
          refine zx_ev_step zk_216 rfl (st_iald rfl rfl hj34) ?_
          refine zx_ev_blk zk_216 1 (pc1 := 184) (L1 := [some (.ref 0), none, none, none, some (.int v4), some (.int v5), some (.int v6), some (.int v7), some (.int v8), some (.int r26), none]) (st1 := [.int v6, .int (m.1 8 j34)]) (h1 := (zx_SM, m)) rfl ?_
          by_cases c35 : v6 ≤ (m.1 8 j34)
          · rw [if_pos c35] at hf
            refine zx_ev_ift zk_216 (P := v6 ≤ (m.1 8 j34)) (t := 191) (f := 187) rfl rfl c35 ?_
            exact zx_ev_sub (L := [some (.ref 0), none, none, none, some (.int v4), some (.int v5), some (.int v6), some (.int v7), some (.int v8), some (.int r26), none]) (⟨rfl, ⟨rfl, ⟨rfl, ⟨rfl, ⟨rfl, ⟨rfl, ⟨rfl, trivial⟩⟩⟩⟩⟩⟩⟩) (e_M_last_b124_191 v4 v5 v6 v7 v8 r26 m hf hK)
          · rw [if_neg c35] at hf
            refine zx_ev_ifn zk_216 (P := v6 ≤ (m.1 8 j34)) (t := 191) (f := 187) rfl rfl c35 ?_
            exact zx_ev_sub (L := [some (.ref 0), none, none, none, some (.int v4), some (.int v5), some (.int v6), some (.int v7), some (.int v8), some (.int r26), none]) (⟨rfl, ⟨rfl, ⟨rfl, ⟨rfl, ⟨rfl, ⟨rfl, ⟨rfl, trivial⟩⟩⟩⟩⟩⟩⟩) (e_M_last_b124_187 v4 v5 v6 v7 v8 r26 m hf hK)
def l_M_last_l124 (v4 : Int32) (v5 : Int32) (m : zx_M) (s0 : Int32 × Int32 × Int32) : Option ((Int32 × zx_M)) := zx_lp zx_N (fun s : Int32 × Int32 × Int32 => b_M_last_l124 v4 v5 s.1 s.2.1 s.2.2 m) s0
theorem el_M_last_l124 (v4 : Int32) (v5 : Int32) (m : zx_M) {d : Nat} {out : Option Value × zx_H} : ∀ (n : Nat) (s : Int32 × Int32 × Int32) (x : (Int32 × zx_M)), zx_lp n (fun s : Int32 × Int32 × Int32 => b_M_last_l124 v4 v5 s.1 s.2.1 s.2.2 m) s = some x → kx_M_last_l124 v4 v5 m d out x → zx_Ev (d + 70) 216 124 [some (.ref 0), none, none, none, some (.int v4), some (.int v5), some (.int s.1), some (.int s.2.1), some (.int s.2.2), none, none] [] (zx_SM, m) out := by
  intro n
  induction n with
  | zero => intro s x hl _; simp [zx_lp] at hl
  | succ n ih =>
    intro s x hl hx
    unfold zx_lp at hl
    cases hb : b_M_last_l124 v4 v5 s.1 s.2.1 s.2.2 m with
    | none => simp only [hb] at hl; cases hl
    | some z =>
      simp only [hb] at hl
      cases z with
      | inl s1 => exact eb_M_last_l124 v4 v5 s.1 s.2.1 s.2.2 m hb (ih s1 x hl hx)
      | inr t =>
        simp only [Option.some.injEq] at hl
        subst hl
        exact eb_M_last_l124 v4 v5 s.1 s.2.1 s.2.2 m hb hx
def n_M_last_n92 (t0 : Int32) (t1 : Int32) (m : zx_M) : Option (Int32 × zx_M) := zx_let (t0 + t1) fun a18 => (zx_ix 36 28).bind fun j19 => (zx_ix 36 29).bind fun j20 => zx_let (((m.1 1 j19) + (m.1 1 j20)) / 2) fun a21 => (l_M_last_l124 a18 a21 m ((-2), 0, 0)).bind fun x36 => zx_let x36 fun y37 => some y37
theorem e_M_last_n92 (t0 : Int32) (t1 : Int32) (m : zx_M) {d : Nat} {y : (Int32 × zx_M)} (hf : n_M_last_n92 t0 t1 m = some y) : zx_Ev (d + 70) 216 92 [some (.ref 0), none, none, none, none, none, none, none, none, none, none] [.int t1, .int t0] (zx_SM, m) (some (.int y.1), (zx_SM, y.2)) := by
  unfold n_M_last_n92 at hf
  obtain ⟨a18, ha18, hf⟩ := zx_let_eq hf
  refine zx_ev_blk zk_216 5 (pc1 := 101) (L1 := [some (.ref 0), none, none, none, some (.int a18), none, none, none, none, none, none]) (st1 := [.int 28, .ref 1]) (h1 := (zx_SM, m)) (by subst ha18; rfl) ?_
  obtain ⟨j19, hj19, hf⟩ := zx_bind_eq hf
  refine zx_ev_step zk_216 rfl (st_iald rfl rfl hj19) ?_
  refine zx_ev_blk zk_216 3 (pc1 := 108) (L1 := [some (.ref 0), none, none, none, some (.int a18), none, none, none, none, none, none]) (st1 := [.int 29, .ref 1, .int (m.1 1 j19)]) (h1 := (zx_SM, m)) rfl ?_
  obtain ⟨j20, hj20, hf⟩ := zx_bind_eq hf
  refine zx_ev_step zk_216 rfl (st_iald rfl rfl hj20) ?_
  refine zx_ev_blk zk_216 2 (pc1 := 111) (L1 := [some (.ref 0), none, none, none, some (.int a18), none, none, none, none, none, none]) (st1 := [.int 2, .int ((m.1 1 j19) + (m.1 1 j20))]) (h1 := (zx_SM, m)) rfl ?_
  refine zx_ev_step zk_216 rfl (st_idiv (by decide)) ?_
  obtain ⟨a21, ha21, hf⟩ := zx_let_eq hf
  refine zx_ev_blk zk_216 7 (pc1 := 124) (L1 := [some (.ref 0), none, none, none, some (.int a18), some (.int a21), some (.int (-2)), some (.int 0), some (.int 0), none, none]) (st1 := []) (h1 := (zx_SM, m)) (by subst ha21; rfl) ?_
  obtain ⟨x36, hx36, hf⟩ := zx_bind_eq hf
  refine zx_ev_sub (L := [some (.ref 0), none, none, none, some (.int a18), some (.int a21), some (.int (-2)), some (.int 0), some (.int 0), none, none]) (⟨rfl, ⟨rfl, ⟨rfl, ⟨rfl, ⟨rfl, ⟨rfl, trivial⟩⟩⟩⟩⟩⟩) (el_M_last_l124 a18 a21 m zx_N ((-2), 0, 0) x36 hx36 ?_)
  obtain ⟨y37, hy37, hf⟩ := zx_let_eq hf
  subst hy37
  obtain rfl := Option.some.inj hf
  rfl
def n_M_last_n74 (v2 : Int32) (t0 : Int32) (m : zx_M) : Option (Int32 × zx_M) := (f_M_spotOf v2 m).bind fun r16 => if ¬ (m.1 0 21) = 0 then n_M_last_n92 r16 (-t0) m else n_M_last_n92 r16 t0 m
theorem e_M_last_n74 (v2 : Int32) (t0 : Int32) (m : zx_M) {d : Nat} {y : (Int32 × zx_M)} (hf : n_M_last_n74 v2 t0 m = some y) : zx_Ev (d + 70) 216 74 [some (.ref 0), none, some (.int v2), none, none, none, none, none, none, none, none] [.int t0] (zx_SM, m) (some (.int y.1), (zx_SM, y.2)) := by
  unfold n_M_last_n74 at hf
  refine zx_ev_blk zk_216 2 (pc1 := 76) (L1 := [some (.ref 0), none, some (.int v2), some (.int t0), none, none, none, none, none, none, none]) (st1 := [.int v2]) (h1 := (zx_SM, m)) rfl ?_
  obtain ⟨r16, hv15, hf⟩ := zx_bind_eq hf
  refine zx_ev_call (d := d + 69) zk_216 (v := some (.int r16)) (h1 := (zx_SM, m)) rfl rfl zt_204 rfl zx_SMn rfl rfl (s_M_spotOf _ _ (d := d + 69) hv15) ?_
  refine zx_ev_blk zk_216 2 (pc1 := 83) (L1 := [some (.ref 0), none, some (.int v2), some (.int t0), none, none, none, none, none, none, none]) (st1 := [.int (m.1 0 21), .int r16]) (h1 := (zx_SM, m)) rfl ?_
  by_cases c17 : ¬ (m.1 0 21) = 0
  · rw [if_pos c17] at hf
    refine zx_ev_ift zk_216 (P := ¬ (m.1 0 21) = 0) (t := 90) (f := 86) rfl rfl c17 ?_
    refine zx_ev_blk zk_216 2 (pc1 := 92) (L1 := [some (.ref 0), none, some (.int v2), some (.int t0), none, none, none, none, none, none, none]) (st1 := [.int (-t0), .int r16]) (h1 := (zx_SM, m)) rfl ?_
    exact zx_ev_sub (L := [some (.ref 0), none, none, none, none, none, none, none, none, none, none]) (⟨rfl, ⟨trivial, ⟨trivial, trivial⟩⟩⟩) (e_M_last_n92 r16 (-t0) m hf)
  · rw [if_neg c17] at hf
    refine zx_ev_ifn zk_216 (P := ¬ (m.1 0 21) = 0) (t := 90) (f := 86) rfl rfl c17 ?_
    refine zx_ev_blk zk_216 2 (pc1 := 92) (L1 := [some (.ref 0), none, some (.int v2), some (.int t0), none, none, none, none, none, none, none]) (st1 := [.int t0, .int r16]) (h1 := (zx_SM, m)) rfl ?_
    exact zx_ev_sub (L := [some (.ref 0), none, none, none, none, none, none, none, none, none, none]) (⟨rfl, ⟨trivial, ⟨trivial, trivial⟩⟩⟩) (e_M_last_n92 r16 t0 m hf)
def f_M_last (v1 : Int32) (v2 : Int32) (m : zx_M) : Option (Int32 × zx_M) := (f_M_rowIs v1 0 m).bind fun r2 => if r2 = (-1) then some ((-1), m) else (f_M_isYc v2 m).bind fun r5 => if ¬ r5 = 0 then (f_M_rowIs v1 0 m).bind fun r8 => if 0 ≤ r8 then (f_M_takesOrder v1 (zx_rem v2 100) m).bind fun m11 => if ¬ (m11.1 0 20) = 0 then (zx_ix 36 31).bind fun j13 => (zx_ix 7 ((m11.1 0 20) - 1)).bind fun j14 => n_M_last_n74 v2 ((m11.1 1 j13) * (m11.1 9 j14)) m11 else n_M_last_n74 v2 0 m11 else (f_M_rowIs v1 0 m).bind fun r39 => some (r39, m) else some ((-1), m)
theorem s_M_last (v1 : Int32) (v2 : Int32) (m : zx_M) {d : Nat} {y : (Int32 × zx_M)} (hf : f_M_last v1 v2 m = some y) : zx_Ev (d + 70) 216 0 [some (.ref 0), some (.int v1), some (.int v2), none, none, none, none, none, none, none, none] [] (zx_SM, m) (some (.int y.1), (zx_SM, y.2)) := by
  unfold f_M_last at hf
  refine zx_ev_blk zk_216 3 (pc1 := 3) (L1 := [some (.ref 0), some (.int v1), some (.int v2), none, none, none, none, none, none, none, none]) (st1 := [.int 0, .int v1, .ref 0]) (h1 := (zx_SM, m)) rfl ?_
  obtain ⟨r2, hv1, hf⟩ := zx_bind_eq hf
  refine zx_ev_call (d := d + 69) zk_216 (v := some (.int r2)) (h1 := (zx_SM, m)) rfl rfl zt_198 rfl zx_SMn rfl rfl (s_M_rowIs _ _ _ (d := d + 67) hv1) ?_
  refine zx_ev_blk zk_216 1 (pc1 := 7) (L1 := [some (.ref 0), some (.int v1), some (.int v2), none, none, none, none, none, none, none, none]) (st1 := [.int (-1), .int r2]) (h1 := (zx_SM, m)) rfl ?_
  by_cases c3 : r2 = (-1)
  · rw [if_pos c3] at hf
    refine zx_ev_ift zk_216 (P := r2 = (-1)) (t := 17) (f := 10) rfl rfl c3 ?_
    refine zx_ev_blk zk_216 1 (pc1 := 18) (L1 := [some (.ref 0), some (.int v1), some (.int v2), none, none, none, none, none, none, none, none]) (st1 := [.int (-1)]) (h1 := (zx_SM, m)) rfl ?_
    obtain rfl := Option.some.inj hf
    exact zx_ev_ret zk_216 rfl rfl
  · rw [if_neg c3] at hf
    refine zx_ev_ifn zk_216 (P := r2 = (-1)) (t := 17) (f := 10) rfl rfl c3 ?_
    refine zx_ev_blk zk_216 1 (pc1 := 11) (L1 := [some (.ref 0), some (.int v1), some (.int v2), none, none, none, none, none, none, none, none]) (st1 := [.int v2]) (h1 := (zx_SM, m)) rfl ?_
    obtain ⟨r5, hv4, hf⟩ := zx_bind_eq hf
    refine zx_ev_call (d := d + 69) zk_216 (v := some (.int r5)) (h1 := (zx_SM, m)) rfl rfl zt_203 rfl zx_SMn rfl rfl (s_M_isYc _ _ (d := d + 67) hv4) ?_
    by_cases c6 : ¬ r5 = 0
    · rw [if_pos c6] at hf
      refine zx_ev_ift zk_216 (P := ¬ r5 = 0) (t := 19) (f := 17) rfl rfl c6 ?_
      refine zx_ev_blk zk_216 3 (pc1 := 22) (L1 := [some (.ref 0), some (.int v1), some (.int v2), none, none, none, none, none, none, none, none]) (st1 := [.int 0, .int v1, .ref 0]) (h1 := (zx_SM, m)) rfl ?_
      obtain ⟨r8, hv7, hf⟩ := zx_bind_eq hf
      refine zx_ev_call (d := d + 69) zk_216 (v := some (.int r8)) (h1 := (zx_SM, m)) rfl rfl zt_198 rfl zx_SMn rfl rfl (s_M_rowIs _ _ _ (d := d + 67) hv7) ?_
      by_cases c9 : 0 ≤ r8
      · rw [if_pos c9] at hf
        refine zx_ev_ift zk_216 (P := 0 ≤ r8) (t := 35) (f := 28) rfl rfl c9 ?_
        refine zx_ev_blk zk_216 4 (pc1 := 40) (L1 := [some (.ref 0), some (.int v1), some (.int v2), none, none, none, none, none, none, none, none]) (st1 := [.int 100, .int v2, .int v1, .ref 0]) (h1 := (zx_SM, m)) rfl ?_
        refine zx_ev_step zk_216 rfl (st_irem (by decide)) ?_
        obtain ⟨m11, hv10, hf⟩ := zx_bind_eq hf
        refine zx_ev_call (d := d + 69) zk_216 (v := none) (h1 := (zx_SM, m11)) rfl rfl zt_200 rfl zx_SMn rfl rfl (s_M_takesOrder _ _ _ (d := d + 0) hv10) ?_
        refine zx_ev_blk zk_216 2 (pc1 := 48) (L1 := [some (.ref 0), some (.int v1), some (.int v2), none, none, none, none, none, none, none, none]) (st1 := [.int (m11.1 0 20)]) (h1 := (zx_SM, m11)) rfl ?_
        by_cases c12 : ¬ (m11.1 0 20) = 0
        · rw [if_pos c12] at hf
          refine zx_ev_ift zk_216 (P := ¬ (m11.1 0 20) = 0) (t := 55) (f := 51) rfl rfl c12 ?_
          refine zx_ev_blk zk_216 3 (pc1 := 61) (L1 := [some (.ref 0), some (.int v1), some (.int v2), none, none, none, none, none, none, none, none]) (st1 := [.int 31, .ref 1]) (h1 := (zx_SM, m11)) rfl ?_
          obtain ⟨j13, hj13, hf⟩ := zx_bind_eq hf
          refine zx_ev_step zk_216 rfl (st_iald rfl rfl hj13) ?_
          refine zx_ev_blk zk_216 6 (pc1 := 72) (L1 := [some (.ref 0), some (.int v1), some (.int v2), none, none, none, none, none, none, none, none]) (st1 := [.int ((m11.1 0 20) - 1), .ref 9, .int (m11.1 1 j13)]) (h1 := (zx_SM, m11)) rfl ?_
          obtain ⟨j14, hj14, hf⟩ := zx_bind_eq hf
          refine zx_ev_step zk_216 rfl (st_iald rfl rfl hj14) ?_
          refine zx_ev_blk zk_216 1 (pc1 := 74) (L1 := [some (.ref 0), some (.int v1), some (.int v2), none, none, none, none, none, none, none, none]) (st1 := [.int ((m11.1 1 j13) * (m11.1 9 j14))]) (h1 := (zx_SM, m11)) rfl ?_
          exact zx_ev_sub (L := [some (.ref 0), none, some (.int v2), none, none, none, none, none, none, none, none]) (⟨rfl, ⟨trivial, ⟨rfl, trivial⟩⟩⟩) (e_M_last_n74 v2 ((m11.1 1 j13) * (m11.1 9 j14)) m11 hf)
        · rw [if_neg c12] at hf
          refine zx_ev_ifn zk_216 (P := ¬ (m11.1 0 20) = 0) (t := 55) (f := 51) rfl rfl c12 ?_
          refine zx_ev_blk zk_216 2 (pc1 := 74) (L1 := [some (.ref 0), some (.int v1), some (.int v2), none, none, none, none, none, none, none, none]) (st1 := [.int 0]) (h1 := (zx_SM, m11)) rfl ?_
          exact zx_ev_sub (L := [some (.ref 0), none, some (.int v2), none, none, none, none, none, none, none, none]) (⟨rfl, ⟨trivial, ⟨rfl, trivial⟩⟩⟩) (e_M_last_n74 v2 0 m11 hf)
      · rw [if_neg c9] at hf
        refine zx_ev_ifn zk_216 (P := 0 ≤ r8) (t := 35) (f := 28) rfl rfl c9 ?_
        refine zx_ev_blk zk_216 3 (pc1 := 31) (L1 := [some (.ref 0), some (.int v1), some (.int v2), none, none, none, none, none, none, none, none]) (st1 := [.int 0, .int v1, .ref 0]) (h1 := (zx_SM, m)) rfl ?_
        obtain ⟨r39, hv38, hf⟩ := zx_bind_eq hf
        refine zx_ev_call (d := d + 69) zk_216 (v := some (.int r39)) (h1 := (zx_SM, m)) rfl rfl zt_198 rfl zx_SMn rfl rfl (s_M_rowIs _ _ _ (d := d + 67) hv38) ?_
        obtain rfl := Option.some.inj hf
        exact zx_ev_ret zk_216 rfl rfl
    · rw [if_neg c6] at hf
      refine zx_ev_ifn zk_216 (P := ¬ r5 = 0) (t := 19) (f := 17) rfl rfl c6 ?_
      refine zx_ev_blk zk_216 1 (pc1 := 18) (L1 := [some (.ref 0), some (.int v1), some (.int v2), none, none, none, none, none, none, none, none]) (st1 := [.int (-1)]) (h1 := (zx_SM, m)) rfl ?_
      obtain rfl := Option.some.inj hf
      exact zx_ev_ret zk_216 rfl rfl
def kx_M_law_l37 (v2 : Int32) (d : Nat) (out : Option Value × zx_H) : zx_M → Prop
  | m => zx_Ev (d + 67) 187 60 [some (.ref 0), none, some (.int v2), none] [] (zx_SM, m) out
def kl_M_law_l37 (v2 : Int32) (d : Nat) (out : Option Value × zx_H) : (Int32 × zx_M) ⊕ (zx_M) → Prop
  | .inl (v3, m) => zx_Ev (d + 67) 187 37 [some (.ref 0), none, some (.int v2), some (.int v3)] [] (zx_SM, m) out
  | .inr x => kx_M_law_l37 v2 d out x
def b_M_law_l37 (v2 : Int32) (v3 : Int32) (m : zx_M) : Option ((Int32 × zx_M) ⊕ (zx_M)) := if v2 ≤ v3 then some (.inr m) else (zx_ix 120 v3).bind fun j8 => (zx_ix 120 v3).bind fun j9 => zx_let (zx_u1 m 6 j9 (m.1 5 j8)) fun m10 => zx_let (v3 + 1) fun a11 => some (.inl (a11, m10))
theorem eb_M_law_l37 (v2 : Int32) (v3 : Int32) (m : zx_M) {d : Nat} {out : Option Value × zx_H} {y : (Int32 × zx_M) ⊕ (zx_M)} (hf : b_M_law_l37 v2 v3 m = some y) (hK : kl_M_law_l37 v2 d out y) : zx_Ev (d + 67) 187 37 [some (.ref 0), none, some (.int v2), some (.int v3)] [] (zx_SM, m) out := by
  unfold b_M_law_l37 at hf
  refine zx_ev_blk zk_187 2 (pc1 := 39) (L1 := [some (.ref 0), none, some (.int v2), some (.int v3)]) (st1 := [.int v2, .int v3]) (h1 := (zx_SM, m)) rfl ?_
  by_cases c7 : v2 ≤ v3
  · rw [if_pos c7] at hf
    refine zx_ev_ift zk_187 (P := v2 ≤ v3) (t := 60) (f := 42) rfl rfl c7 ?_
    obtain rfl := Option.some.inj hf
    exact zx_ev_sub (L := [some (.ref 0), none, some (.int v2), none]) (⟨rfl, ⟨rfl, ⟨trivial, trivial⟩⟩⟩) hK
  · rw [if_neg c7] at hf
    refine zx_ev_ifn zk_187 (P := v2 ≤ v3) (t := 60) (f := 42) rfl rfl c7 ?_
    refine zx_ev_blk zk_187 6 (pc1 := 52) (L1 := [some (.ref 0), none, some (.int v2), some (.int v3)]) (st1 := [.int v3, .ref 5, .int v3, .ref 6]) (h1 := (zx_SM, m)) rfl ?_
    obtain ⟨j8, hj8, hf⟩ := zx_bind_eq hf
    refine zx_ev_step zk_187 rfl (st_iald rfl rfl hj8) ?_
    obtain ⟨j9, hj9, hf⟩ := zx_bind_eq hf
    refine zx_ev_step zk_187 rfl (st_iast rfl hj9) ?_
    obtain ⟨m10, hm10, hf⟩ := zx_let_eq hf
    rw [hm10]
    obtain ⟨a11, ha11, hf⟩ := zx_let_eq hf
    refine zx_ev_blk zk_187 2 (pc1 := 37) (L1 := [some (.ref 0), none, some (.int v2), some (.int a11)]) (st1 := []) (h1 := (zx_SM, m10)) (by subst ha11; rfl) ?_
    obtain rfl := Option.some.inj hf
    exact zx_ev_sub (L := [some (.ref 0), none, some (.int v2), some (.int a11)]) (⟨rfl, ⟨rfl, ⟨rfl, trivial⟩⟩⟩) hK
def l_M_law_l37 (v2 : Int32) (s0 : Int32 × zx_M) : Option (zx_M) := zx_lp zx_N (fun s : Int32 × zx_M => b_M_law_l37 v2 s.1 s.2) s0
theorem el_M_law_l37 (v2 : Int32) {d : Nat} {out : Option Value × zx_H} : ∀ (n : Nat) (s : Int32 × zx_M) (x : zx_M), zx_lp n (fun s : Int32 × zx_M => b_M_law_l37 v2 s.1 s.2) s = some x → kx_M_law_l37 v2 d out x → zx_Ev (d + 67) 187 37 [some (.ref 0), none, some (.int v2), some (.int s.1)] [] (zx_SM, s.2) out := by
  intro n
  induction n with
  | zero => intro s x hl _; simp [zx_lp] at hl
  | succ n ih =>
    intro s x hl hx
    unfold zx_lp at hl
    cases hb : b_M_law_l37 v2 s.1 s.2 with
    | none => simp only [hb] at hl; cases hl
    | some z =>
      simp only [hb] at hl
      cases z with
      | inl s1 => exact eb_M_law_l37 v2 s.1 s.2 hb (ih s1 x hl hx)
      | inr t =>
        simp only [Option.some.injEq] at hl
        subst hl
        exact eb_M_law_l37 v2 s.1 s.2 hb hx
def f_M_law (m : zx_M) : Option (Int32 × zx_M) := (f_M_workOut (-1) (m.1 0 8) m).bind fun (r2, m3) => zx_let (m3.1 0 8) fun a4 => zx_let (zx_u1 m3 0 8 0) fun m5 => if (m5.1 0 14) < 0 then (l_M_law_l37 a4 (0, m5)).bind fun x12 => zx_let x12 fun m13 => zx_let (zx_u1 m13 0 10 a4) fun m14 => some (1, m14) else some ((-100) - (m5.1 0 14), m5)
theorem s_M_law (m : zx_M) {d : Nat} {y : (Int32 × zx_M)} (hf : f_M_law m = some y) : zx_Ev (d + 67) 187 0 [some (.ref 0), none, none, none] [] (zx_SM, m) (some (.int y.1), (zx_SM, y.2)) := by
  unfold f_M_law at hf
  refine zx_ev_blk zk_187 4 (pc1 := 6) (L1 := [some (.ref 0), none, none, none]) (st1 := [.int (m.1 0 8), .int (-1), .ref 0]) (h1 := (zx_SM, m)) rfl ?_
  obtain ⟨⟨r2, m3⟩, hv1, hf⟩ := zx_bind_eq hf
  dsimp only at hf
  refine zx_ev_call (d := d + 66) zk_187 (v := some (.int r2)) (h1 := (zx_SM, m3)) rfl rfl zt_186 rfl zx_SMn rfl rfl (s_M_workOut _ _ _ (d := d + 0) hv1) ?_
  obtain ⟨a4, ha4, hf⟩ := zx_let_eq hf
  obtain ⟨m5, hm5, hf⟩ := zx_let_eq hf
  refine zx_ev_blk zk_187 9 (pc1 := 24) (L1 := [some (.ref 0), some (.int r2), some (.int a4), none]) (st1 := [.int (m5.1 0 14)]) (h1 := (zx_SM, m5)) (by subst ha4; subst hm5; rfl) ?_
  by_cases c6 : (m5.1 0 14) < 0
  · rw [if_pos c6] at hf
    refine zx_ev_ift zk_187 (P := (m5.1 0 14) < 0) (t := 35) (f := 27) rfl rfl c6 ?_
    refine zx_ev_blk zk_187 2 (pc1 := 37) (L1 := [some (.ref 0), some (.int r2), some (.int a4), some (.int 0)]) (st1 := []) (h1 := (zx_SM, m5)) rfl ?_
    obtain ⟨x12, hx12, hf⟩ := zx_bind_eq hf
    refine zx_ev_sub (L := [some (.ref 0), none, some (.int a4), some (.int 0)]) (⟨rfl, ⟨trivial, ⟨rfl, ⟨rfl, trivial⟩⟩⟩⟩) (el_M_law_l37 a4 zx_N (0, m5) x12 hx12 ?_)
    obtain ⟨m13, hm13, hf⟩ := zx_let_eq hf
    subst hm13
    show zx_Ev (d + 67) 187 60 [some (.ref 0), none, some (.int a4), none] [] (zx_SM, x12) _
    obtain ⟨m14, hm14, hf⟩ := zx_let_eq hf
    refine zx_ev_blk zk_187 4 (pc1 := 66) (L1 := [some (.ref 0), none, some (.int a4), none]) (st1 := [.int 1]) (h1 := (zx_SM, m14)) (by subst hm14; rfl) ?_
    obtain rfl := Option.some.inj hf
    exact zx_ev_ret zk_187 rfl rfl
  · rw [if_neg c6] at hf
    refine zx_ev_ifn zk_187 (P := (m5.1 0 14) < 0) (t := 35) (f := 27) rfl rfl c6 ?_
    refine zx_ev_blk zk_187 4 (pc1 := 34) (L1 := [some (.ref 0), some (.int r2), some (.int a4), none]) (st1 := [.int ((-100) - (m5.1 0 14))]) (h1 := (zx_SM, m5)) rfl ?_
    obtain rfl := Option.some.inj hf
    exact zx_ev_ret zk_187 rfl rfl
def kx_M_commonOf_l6 (m : zx_M) (d : Nat) (out : Option Value × zx_H) : Int64 → Prop
  | y => out = (some (.long y), (zx_SM, m))
def kl_M_commonOf_l6 (m : zx_M) (d : Nat) (out : Option Value × zx_H) : (Int64 × Int64) ⊕ (Int64) → Prop
  | .inl (v4, v6) => zx_Ev (d) 219 6 [none, none, none, none, some (.long v4), none, some (.long v6), none, none, none] [] (zx_SM, m) out
  | .inr x => kx_M_commonOf_l6 m d out x
def b_M_commonOf_l6 (v4 : Int64) (v6 : Int64) (m : zx_M) : Option ((Int64 × Int64) ⊕ (Int64)) := if (lg_cmp v6 0) = 0 then some (.inr v4) else if v6 = 0 then none else zx_let (zx_reml v4 v6) fun a3 => some (.inl (v6, a3))
theorem eb_M_commonOf_l6 (v4 : Int64) (v6 : Int64) (m : zx_M) {d : Nat} {out : Option Value × zx_H} {y : (Int64 × Int64) ⊕ (Int64)} (hf : b_M_commonOf_l6 v4 v6 m = some y) (hK : kl_M_commonOf_l6 m d out y) : zx_Ev (d) 219 6 [none, none, none, none, some (.long v4), none, some (.long v6), none, none, none] [] (zx_SM, m) out := by
  unfold b_M_commonOf_l6 at hf
  refine zx_ev_blk zk_219 3 (pc1 := 10) (L1 := [none, none, none, none, some (.long v4), none, some (.long v6), none, none, none]) (st1 := [.int (lg_cmp v6 0)]) (h1 := (zx_SM, m)) rfl ?_
  by_cases c1 : (lg_cmp v6 0) = 0
  · rw [if_pos c1] at hf
    refine zx_ev_ift zk_219 (P := (lg_cmp v6 0) = 0) (t := 31) (f := 13) rfl rfl c1 ?_
    refine zx_ev_blk zk_219 1 (pc1 := 33) (L1 := [none, none, none, none, some (.long v4), none, some (.long v6), none, none, none]) (st1 := [.long v4]) (h1 := (zx_SM, m)) rfl ?_
    obtain rfl := Option.some.inj hf
    rw [show out = _ from hK]
    exact zx_ev_ret zk_219 rfl rfl
  · rw [if_neg c1] at hf
    refine zx_ev_ifn zk_219 (P := (lg_cmp v6 0) = 0) (t := 31) (f := 13) rfl rfl c1 ?_
    refine zx_ev_blk zk_219 2 (pc1 := 17) (L1 := [none, none, none, none, some (.long v4), none, some (.long v6), none, none, none]) (st1 := [.long v6, .long v4]) (h1 := (zx_SM, m)) rfl ?_
    by_cases c2 : v6 = 0
    · rw [if_pos c2] at hf; cases hf
    · rw [if_neg c2] at hf
      refine zx_ev_step zk_219 rfl (st_lrem c2) ?_
      obtain ⟨a3, ha3, hf⟩ := zx_let_eq hf
      refine zx_ev_blk zk_219 6 (pc1 := 6) (L1 := [none, none, none, none, some (.long v6), none, some (.long a3), none, some (.long a3), none]) (st1 := []) (h1 := (zx_SM, m)) (by subst ha3; rfl) ?_
      obtain rfl := Option.some.inj hf
      exact zx_ev_sub (L := [none, none, none, none, some (.long v6), none, some (.long a3), none, none, none]) (⟨rfl, ⟨rfl, ⟨trivial, trivial⟩⟩⟩) hK
def l_M_commonOf_l6 (m : zx_M) (s0 : Int64 × Int64) : Option (Int64) := zx_lp zx_N (fun s : Int64 × Int64 => b_M_commonOf_l6 s.1 s.2 m) s0
theorem el_M_commonOf_l6 (m : zx_M) {d : Nat} {out : Option Value × zx_H} : ∀ (n : Nat) (s : Int64 × Int64) (x : Int64), zx_lp n (fun s : Int64 × Int64 => b_M_commonOf_l6 s.1 s.2 m) s = some x → kx_M_commonOf_l6 m d out x → zx_Ev (d) 219 6 [none, none, none, none, some (.long s.1), none, some (.long s.2), none, none, none] [] (zx_SM, m) out := by
  intro n
  induction n with
  | zero => intro s x hl _; simp [zx_lp] at hl
  | succ n ih =>
    intro s x hl hx
    unfold zx_lp at hl
    cases hb : b_M_commonOf_l6 s.1 s.2 m with
    | none => simp only [hb] at hl; cases hl
    | some z =>
      simp only [hb] at hl
      cases z with
      | inl s1 => exact eb_M_commonOf_l6 s.1 s.2 m hb (ih s1 x hl hx)
      | inr t =>
        simp only [Option.some.injEq] at hl
        subst hl
        exact eb_M_commonOf_l6 s.1 s.2 m hb hx
def f_M_commonOf (v0 : Int64) (v2 : Int64) (m : zx_M) : Option Int64 := (l_M_commonOf_l6 m (v0, v2)).bind fun x4 => zx_let x4 fun y5 => some y5
theorem s_M_commonOf (v0 : Int64) (v2 : Int64) (m : zx_M) {d : Nat} {y : Int64} (hf : f_M_commonOf v0 v2 m = some y) : zx_Ev (d) 219 0 [some (.long v0), none, some (.long v2), none, none, none, none, none, none, none] [] (zx_SM, m) (some (.long y), (zx_SM, m)) := by
  unfold f_M_commonOf at hf
  refine zx_ev_blk zk_219 4 (pc1 := 6) (L1 := [some (.long v0), none, some (.long v2), none, some (.long v0), none, some (.long v2), none, none, none]) (st1 := []) (h1 := (zx_SM, m)) rfl ?_
  obtain ⟨x4, hx4, hf⟩ := zx_bind_eq hf
  refine zx_ev_sub (L := [none, none, none, none, some (.long v0), none, some (.long v2), none, none, none]) (⟨trivial, ⟨trivial, ⟨rfl, ⟨rfl, trivial⟩⟩⟩⟩) (el_M_commonOf_l6 m zx_N (v0, v2) x4 hx4 ?_)
  obtain ⟨y5, hy5, hf⟩ := zx_let_eq hf
  subst hy5
  obtain rfl := Option.some.inj hf
  rfl
def f_M_partOf (v0 : Int64) (v2 : Int64) (v4 : Int32) (m : zx_M) : Option Int64 := if ¬ (lg_cmp v0 0) = 0 then (f_M_commonOf v2 v0 m).bind fun r3 => if ¬ v4 = 0 then if r3 = 0 then none else some (v2 / r3) else if r3 = 0 then none else some (v0 / r3) else some (Int32.toInt64 v4)
theorem s_M_partOf (v0 : Int64) (v2 : Int64) (v4 : Int32) (m : zx_M) {d : Nat} {y : Int64} (hf : f_M_partOf v0 v2 v4 m = some y) : zx_Ev (d + 1) 220 0 [some (.long v0), none, some (.long v2), none, some (.int v4), none, none] [] (zx_SM, m) (some (.long y), (zx_SM, m)) := by
  unfold f_M_partOf at hf
  refine zx_ev_blk zk_220 3 (pc1 := 3) (L1 := [some (.long v0), none, some (.long v2), none, some (.int v4), none, none]) (st1 := [.int (lg_cmp v0 0)]) (h1 := (zx_SM, m)) rfl ?_
  by_cases c1 : ¬ (lg_cmp v0 0) = 0
  · rw [if_pos c1] at hf
    refine zx_ev_ift zk_220 (P := ¬ (lg_cmp v0 0) = 0) (t := 10) (f := 6) rfl rfl c1 ?_
    refine zx_ev_blk zk_220 2 (pc1 := 12) (L1 := [some (.long v0), none, some (.long v2), none, some (.int v4), none, none]) (st1 := [.long v0, .long v2]) (h1 := (zx_SM, m)) rfl ?_
    obtain ⟨r3, hv2, hf⟩ := zx_bind_eq hf
    refine zx_ev_call (d := d + 0) zk_220 (v := some (.long r3)) (h1 := (zx_SM, m)) rfl rfl zt_219 rfl zx_SMn rfl rfl (s_M_commonOf _ _ _ (d := d + 0) hv2) ?_
    refine zx_ev_blk zk_220 2 (pc1 := 19) (L1 := [some (.long v0), none, some (.long v2), none, some (.int v4), some (.long r3), none]) (st1 := [.int v4]) (h1 := (zx_SM, m)) rfl ?_
    by_cases c4 : ¬ v4 = 0
    · rw [if_pos c4] at hf
      refine zx_ev_ift zk_220 (P := ¬ v4 = 0) (t := 29) (f := 22) rfl rfl c4 ?_
      refine zx_ev_blk zk_220 2 (pc1 := 32) (L1 := [some (.long v0), none, some (.long v2), none, some (.int v4), some (.long r3), none]) (st1 := [.long r3, .long v2]) (h1 := (zx_SM, m)) rfl ?_
      by_cases c5 : r3 = 0
      · rw [if_pos c5] at hf; cases hf
      · rw [if_neg c5] at hf
        refine zx_ev_step zk_220 rfl (st_ldiv c5) ?_
        obtain rfl := Option.some.inj hf
        exact zx_ev_ret zk_220 rfl rfl
    · rw [if_neg c4] at hf
      refine zx_ev_ifn zk_220 (P := ¬ v4 = 0) (t := 29) (f := 22) rfl rfl c4 ?_
      refine zx_ev_blk zk_220 2 (pc1 := 25) (L1 := [some (.long v0), none, some (.long v2), none, some (.int v4), some (.long r3), none]) (st1 := [.long r3, .long v0]) (h1 := (zx_SM, m)) rfl ?_
      by_cases c6 : r3 = 0
      · rw [if_pos c6] at hf; cases hf
      · rw [if_neg c6] at hf
        refine zx_ev_step zk_220 rfl (st_ldiv c6) ?_
        refine zx_ev_blk zk_220 1 (pc1 := 33) (L1 := [some (.long v0), none, some (.long v2), none, some (.int v4), some (.long r3), none]) (st1 := [.long (v0 / r3)]) (h1 := (zx_SM, m)) rfl ?_
        obtain rfl := Option.some.inj hf
        exact zx_ev_ret zk_220 rfl rfl
  · rw [if_neg c1] at hf
    refine zx_ev_ifn zk_220 (P := ¬ (lg_cmp v0 0) = 0) (t := 10) (f := 6) rfl rfl c1 ?_
    refine zx_ev_blk zk_220 2 (pc1 := 9) (L1 := [some (.long v0), none, some (.long v2), none, some (.int v4), none, none]) (st1 := [.long (Int32.toInt64 v4)]) (h1 := (zx_SM, m)) rfl ?_
    obtain rfl := Option.some.inj hf
    exact zx_ev_ret zk_220 rfl rfl
def kx_M_mean_l77 (v2 : Int32) (v3 : Int32) (v4 : Int32) (v5 : Int64) (m : zx_M) (d : Nat) (out : Option Value × zx_H) : Int64 → Prop
  | x7 => zx_Ev (d + 70) 222 100 [some (.ref 0), none, some (.int v2), some (.int v3), some (.int v4), some (.long v5), none, some (.long x7), none, none, none, none, none, none, none] [] (zx_SM, m) out
def kl_M_mean_l77 (v2 : Int32) (v3 : Int32) (v4 : Int32) (v5 : Int64) (m : zx_M) (d : Nat) (out : Option Value × zx_H) : (Int64 × Int32) ⊕ (Int64) → Prop
  | .inl (v7, v9) => zx_Ev (d + 70) 222 77 [some (.ref 0), none, some (.int v2), some (.int v3), some (.int v4), some (.long v5), none, some (.long v7), none, some (.int v9), none, none, none, none, none] [] (zx_SM, m) out
  | .inr x => kx_M_mean_l77 v2 v3 v4 v5 m d out x
def b_M_mean_l77 (v2 : Int32) (v3 : Int32) (v4 : Int32) (v5 : Int64) (v7 : Int64) (v9 : Int32) (m : zx_M) : Option ((Int64 × Int32) ⊕ (Int64)) := if (m.1 0 20) ≤ v9 then some (.inr v7) else zx_let (v7 * 12) fun a18 => zx_let (v9 + 1) fun a19 => some (.inl (a18, a19))
theorem eb_M_mean_l77 (v2 : Int32) (v3 : Int32) (v4 : Int32) (v5 : Int64) (v7 : Int64) (v9 : Int32) (m : zx_M) {d : Nat} {out : Option Value × zx_H} {y : (Int64 × Int32) ⊕ (Int64)} (hf : b_M_mean_l77 v2 v3 v4 v5 v7 v9 m = some y) (hK : kl_M_mean_l77 v2 v3 v4 v5 m d out y) : zx_Ev (d + 70) 222 77 [some (.ref 0), none, some (.int v2), some (.int v3), some (.int v4), some (.long v5), none, some (.long v7), none, some (.int v9), none, none, none, none, none] [] (zx_SM, m) out := by
  unfold b_M_mean_l77 at hf
  refine zx_ev_blk zk_222 3 (pc1 := 83) (L1 := [some (.ref 0), none, some (.int v2), some (.int v3), some (.int v4), some (.long v5), none, some (.long v7), none, some (.int v9), none, none, none, none, none]) (st1 := [.int (m.1 0 20), .int v9]) (h1 := (zx_SM, m)) rfl ?_
  by_cases c17 : (m.1 0 20) ≤ v9
  · rw [if_pos c17] at hf
    refine zx_ev_ift zk_222 (P := (m.1 0 20) ≤ v9) (t := 100) (f := 86) rfl rfl c17 ?_
    obtain rfl := Option.some.inj hf
    exact zx_ev_sub (L := [some (.ref 0), none, some (.int v2), some (.int v3), some (.int v4), some (.long v5), none, some (.long v7), none, none, none, none, none, none, none]) (⟨rfl, ⟨rfl, ⟨rfl, ⟨rfl, ⟨rfl, ⟨rfl, ⟨trivial, trivial⟩⟩⟩⟩⟩⟩⟩) hK
  · rw [if_neg c17] at hf
    refine zx_ev_ifn zk_222 (P := (m.1 0 20) ≤ v9) (t := 100) (f := 86) rfl rfl c17 ?_
    obtain ⟨a18, ha18, hf⟩ := zx_let_eq hf
    obtain ⟨a19, ha19, hf⟩ := zx_let_eq hf
    refine zx_ev_blk zk_222 6 (pc1 := 77) (L1 := [some (.ref 0), none, some (.int v2), some (.int v3), some (.int v4), some (.long v5), none, some (.long a18), none, some (.int a19), none, none, none, none, none]) (st1 := []) (h1 := (zx_SM, m)) (by subst ha18; subst ha19; rfl) ?_
    obtain rfl := Option.some.inj hf
    exact zx_ev_sub (L := [some (.ref 0), none, some (.int v2), some (.int v3), some (.int v4), some (.long v5), none, some (.long a18), none, some (.int a19), none, none, none, none, none]) (⟨rfl, ⟨rfl, ⟨rfl, ⟨rfl, ⟨rfl, ⟨rfl, ⟨rfl, trivial⟩⟩⟩⟩⟩⟩⟩) hK
def l_M_mean_l77 (v2 : Int32) (v3 : Int32) (v4 : Int32) (v5 : Int64) (m : zx_M) (s0 : Int64 × Int32) : Option (Int64) := zx_lp zx_N (fun s : Int64 × Int32 => b_M_mean_l77 v2 v3 v4 v5 s.1 s.2 m) s0
theorem el_M_mean_l77 (v2 : Int32) (v3 : Int32) (v4 : Int32) (v5 : Int64) (m : zx_M) {d : Nat} {out : Option Value × zx_H} : ∀ (n : Nat) (s : Int64 × Int32) (x : Int64), zx_lp n (fun s : Int64 × Int32 => b_M_mean_l77 v2 v3 v4 v5 s.1 s.2 m) s = some x → kx_M_mean_l77 v2 v3 v4 v5 m d out x → zx_Ev (d + 70) 222 77 [some (.ref 0), none, some (.int v2), some (.int v3), some (.int v4), some (.long v5), none, some (.long s.1), none, some (.int s.2), none, none, none, none, none] [] (zx_SM, m) out := by
  intro n
  induction n with
  | zero => intro s x hl _; simp [zx_lp] at hl
  | succ n ih =>
    intro s x hl hx
    unfold zx_lp at hl
    cases hb : b_M_mean_l77 v2 v3 v4 v5 s.1 s.2 m with
    | none => simp only [hb] at hl; cases hl
    | some z =>
      simp only [hb] at hl
      cases z with
      | inl s1 => exact eb_M_mean_l77 v2 v3 v4 v5 s.1 s.2 m hb (ih s1 x hl hx)
      | inr t =>
        simp only [Option.some.injEq] at hl
        subst hl
        exact eb_M_mean_l77 v2 v3 v4 v5 s.1 s.2 m hb hx
def kx_M_mean_l103 (v2 : Int32) (v3 : Int32) (v4 : Int32) (v7 : Int64) (d : Nat) (out : Option Value × zx_H) : Int64 × zx_M → Prop
  | (x5, m) => zx_Ev (d + 70) 222 239 [some (.ref 0), none, none, none, some (.int v4), some (.long x5), none, some (.long v7), none, none, none, none, none, none, none] [] (zx_SM, m) out
def kl_M_mean_l103 (v2 : Int32) (v3 : Int32) (v4 : Int32) (v7 : Int64) (d : Nat) (out : Option Value × zx_H) : (Int64 × Int32 × zx_M) ⊕ (Int64 × zx_M) → Prop
  | .inl (v5, v9, m) => zx_Ev (d + 70) 222 103 [some (.ref 0), none, some (.int v2), some (.int v3), some (.int v4), some (.long v5), none, some (.long v7), none, some (.int v9), none, none, none, none, none] [] (zx_SM, m) out
  | .inr x => kx_M_mean_l103 v2 v3 v4 v7 d out x
def kx_M_mean_lb103_123 (v2 : Int32) (v3 : Int32) (v4 : Int32) (v5 : Int64) (v7 : Int64) (v9 : Int32) (d : Nat) (out : Option Value × zx_H) : Int64 × zx_M → Prop
  | (x10, m) => zx_Ev (d + 70) 222 216 [some (.ref 0), none, some (.int v2), some (.int v3), some (.int v4), some (.long v5), none, some (.long v7), none, some (.int v9), some (.long x10), none, none, none, none] [] (zx_SM, m) out
def kl_M_mean_lb103_123 (v2 : Int32) (v3 : Int32) (v4 : Int32) (v5 : Int64) (v7 : Int64) (v9 : Int32) (d : Nat) (out : Option Value × zx_H) : (Int64 × Int32 × Int32 × zx_M) ⊕ (Int64 × zx_M) → Prop
  | .inl (v10, v12, v13, m) => zx_Ev (d + 70) 222 123 [some (.ref 0), none, some (.int v2), some (.int v3), some (.int v4), some (.long v5), none, some (.long v7), none, some (.int v9), some (.long v10), none, some (.int v12), some (.int v13), none] [] (zx_SM, m) out
  | .inr x => kx_M_mean_lb103_123 v2 v3 v4 v5 v7 v9 d out x
def n_M_mean_b103_b123_190 (v2 : Int32) (v3 : Int32) (v4 : Int32) (v5 : Int64) (v7 : Int64) (v9 : Int32) (v10 : Int64) (v13 : Int32) (t0 : Int32) (t1 : Int32) (m : zx_M) : Option ((Int64 × Int32 × Int32 × zx_M) ⊕ (Int64 × zx_M)) := zx_let (t0 + t1) fun a34 => (zx_ix 7 v13).bind fun j35 => zx_let (zx_u1 m 9 j35 (((zx_rem v2 100) * v13) + a34)) fun m36 => zx_let (v13 + 1) fun a37 => some (.inl (v10, a34, a37, m36))
theorem e_M_mean_b103_b123_190 (v2 : Int32) (v3 : Int32) (v4 : Int32) (v5 : Int64) (v7 : Int64) (v9 : Int32) (v10 : Int64) (v13 : Int32) (t0 : Int32) (t1 : Int32) (m : zx_M) {d : Nat} {out : Option Value × zx_H} {y : (Int64 × Int32 × Int32 × zx_M) ⊕ (Int64 × zx_M)} (hf : n_M_mean_b103_b123_190 v2 v3 v4 v5 v7 v9 v10 v13 t0 t1 m = some y) (hK : kl_M_mean_lb103_123 v2 v3 v4 v5 v7 v9 d out y) : zx_Ev (d + 70) 222 190 [some (.ref 0), none, some (.int v2), some (.int v3), some (.int v4), some (.long v5), none, some (.long v7), none, some (.int v9), some (.long v10), none, none, some (.int v13), none] [.int t1, .int t0] (zx_SM, m) out := by
  unfold n_M_mean_b103_b123_190 at hf
  obtain ⟨a34, ha34, hf⟩ := zx_let_eq hf
  refine zx_ev_blk zk_222 7 (pc1 := 202) (L1 := [some (.ref 0), none, some (.int v2), some (.int v3), some (.int v4), some (.long v5), none, some (.long v7), none, some (.int v9), some (.long v10), none, some (.int a34), some (.int v13), none]) (st1 := [.int 100, .int v2, .int v13, .ref 9]) (h1 := (zx_SM, m)) (by subst ha34; rfl) ?_
  refine zx_ev_step zk_222 rfl (st_irem (by decide)) ?_
  refine zx_ev_blk zk_222 4 (pc1 := 209) (L1 := [some (.ref 0), none, some (.int v2), some (.int v3), some (.int v4), some (.long v5), none, some (.long v7), none, some (.int v9), some (.long v10), none, some (.int a34), some (.int v13), none]) (st1 := [.int (((zx_rem v2 100) * v13) + a34), .int v13, .ref 9]) (h1 := (zx_SM, m)) rfl ?_
  obtain ⟨j35, hj35, hf⟩ := zx_bind_eq hf
  refine zx_ev_step zk_222 rfl (st_iast rfl hj35) ?_
  obtain ⟨m36, hm36, hf⟩ := zx_let_eq hf
  rw [hm36]
  obtain ⟨a37, ha37, hf⟩ := zx_let_eq hf
  refine zx_ev_blk zk_222 2 (pc1 := 123) (L1 := [some (.ref 0), none, some (.int v2), some (.int v3), some (.int v4), some (.long v5), none, some (.long v7), none, some (.int v9), some (.long v10), none, some (.int a34), some (.int a37), none]) (st1 := []) (h1 := (zx_SM, m36)) (by subst ha37; rfl) ?_
  obtain rfl := Option.some.inj hf
  exact zx_ev_sub (L := [some (.ref 0), none, some (.int v2), some (.int v3), some (.int v4), some (.long v5), none, some (.long v7), none, some (.int v9), some (.long v10), none, some (.int a34), some (.int a37), none]) (⟨rfl, ⟨rfl, ⟨rfl, ⟨rfl, ⟨rfl, ⟨rfl, ⟨rfl, ⟨rfl, ⟨rfl, ⟨rfl, trivial⟩⟩⟩⟩⟩⟩⟩⟩⟩⟩) hK
def n_M_mean_b103_b123_170 (v2 : Int32) (v3 : Int32) (v4 : Int32) (v5 : Int64) (v7 : Int64) (v9 : Int32) (v12 : Int32) (v13 : Int32) (t0 : Int64) (t1 : Int64) (m : zx_M) : Option ((Int64 × Int32 × Int32 × zx_M) ⊕ (Int64 × zx_M)) := zx_let (t0 * t1) fun a30 => (f_M_isIn v9 v13 m).bind fun r32 => if r32 = 0 then n_M_mean_b103_b123_190 v2 v3 v4 v5 v7 v9 a30 v13 v12 0 m else n_M_mean_b103_b123_190 v2 v3 v4 v5 v7 v9 a30 v13 v12 v3 m
theorem e_M_mean_b103_b123_170 (v2 : Int32) (v3 : Int32) (v4 : Int32) (v5 : Int64) (v7 : Int64) (v9 : Int32) (v12 : Int32) (v13 : Int32) (t0 : Int64) (t1 : Int64) (m : zx_M) {d : Nat} {out : Option Value × zx_H} {y : (Int64 × Int32 × Int32 × zx_M) ⊕ (Int64 × zx_M)} (hf : n_M_mean_b103_b123_170 v2 v3 v4 v5 v7 v9 v12 v13 t0 t1 m = some y) (hK : kl_M_mean_lb103_123 v2 v3 v4 v5 v7 v9 d out y) : zx_Ev (d + 70) 222 170 [some (.ref 0), none, some (.int v2), some (.int v3), some (.int v4), some (.long v5), none, some (.long v7), none, some (.int v9), none, none, some (.int v12), some (.int v13), none] [.long t1, .long t0] (zx_SM, m) out := by
  unfold n_M_mean_b103_b123_170 at hf
  obtain ⟨a30, ha30, hf⟩ := zx_let_eq hf
  refine zx_ev_blk zk_222 5 (pc1 := 179) (L1 := [some (.ref 0), none, some (.int v2), some (.int v3), some (.int v4), some (.long v5), none, some (.long v7), none, some (.int v9), some (.long a30), none, some (.int v12), some (.int v13), none]) (st1 := [.int v13, .int v9, .int v12]) (h1 := (zx_SM, m)) (by subst ha30; rfl) ?_
  obtain ⟨r32, hv31, hf⟩ := zx_bind_eq hf
  refine zx_ev_call (d := d + 69) zk_222 (v := some (.int r32)) (h1 := (zx_SM, m)) rfl rfl zt_159 rfl zx_SMn rfl rfl (s_M_isIn _ _ _ (d := d + 69) hv31) ?_
  by_cases c33 : r32 = 0
  · rw [if_pos c33] at hf
    refine zx_ev_ift zk_222 (P := r32 = 0) (t := 189) (f := 185) rfl rfl c33 ?_
    refine zx_ev_blk zk_222 1 (pc1 := 190) (L1 := [some (.ref 0), none, some (.int v2), some (.int v3), some (.int v4), some (.long v5), none, some (.long v7), none, some (.int v9), some (.long a30), none, some (.int v12), some (.int v13), none]) (st1 := [.int 0, .int v12]) (h1 := (zx_SM, m)) rfl ?_
    exact zx_ev_sub (L := [some (.ref 0), none, some (.int v2), some (.int v3), some (.int v4), some (.long v5), none, some (.long v7), none, some (.int v9), some (.long a30), none, none, some (.int v13), none]) (⟨rfl, ⟨rfl, ⟨rfl, ⟨rfl, ⟨rfl, ⟨rfl, ⟨rfl, ⟨rfl, ⟨trivial, ⟨rfl, trivial⟩⟩⟩⟩⟩⟩⟩⟩⟩⟩) (e_M_mean_b103_b123_190 v2 v3 v4 v5 v7 v9 a30 v13 v12 0 m hf hK)
  · rw [if_neg c33] at hf
    refine zx_ev_ifn zk_222 (P := r32 = 0) (t := 189) (f := 185) rfl rfl c33 ?_
    refine zx_ev_blk zk_222 2 (pc1 := 190) (L1 := [some (.ref 0), none, some (.int v2), some (.int v3), some (.int v4), some (.long v5), none, some (.long v7), none, some (.int v9), some (.long a30), none, some (.int v12), some (.int v13), none]) (st1 := [.int v3, .int v12]) (h1 := (zx_SM, m)) rfl ?_
    exact zx_ev_sub (L := [some (.ref 0), none, some (.int v2), some (.int v3), some (.int v4), some (.long v5), none, some (.long v7), none, some (.int v9), some (.long a30), none, none, some (.int v13), none]) (⟨rfl, ⟨rfl, ⟨rfl, ⟨rfl, ⟨rfl, ⟨rfl, ⟨rfl, ⟨rfl, ⟨trivial, ⟨rfl, trivial⟩⟩⟩⟩⟩⟩⟩⟩⟩⟩) (e_M_mean_b103_b123_190 v2 v3 v4 v5 v7 v9 a30 v13 v12 v3 m hf hK)
def b_M_mean_lb103_123 (v2 : Int32) (v3 : Int32) (v4 : Int32) (v5 : Int64) (v7 : Int64) (v9 : Int32) (v10 : Int64) (v12 : Int32) (v13 : Int32) (m : zx_M) : Option ((Int64 × Int32 × Int32 × zx_M) ⊕ (Int64 × zx_M)) := if (m.1 0 20) ≤ v13 then some (.inr (v10, m)) else (zx_ix 7 v13).bind fun j24 => (f_M_ofJumper (m.1 8 j24) 3 m).bind fun r26 => (f_M_isIn v9 v13 m).bind fun r28 => if r28 = 0 then n_M_mean_b103_b123_170 v2 v3 v4 v5 v7 v9 v12 v13 v10 (Int32.toInt64 (12 - r26)) m else n_M_mean_b103_b123_170 v2 v3 v4 v5 v7 v9 v12 v13 v10 (Int32.toInt64 r26) m
theorem eb_M_mean_lb103_123 (v2 : Int32) (v3 : Int32) (v4 : Int32) (v5 : Int64) (v7 : Int64) (v9 : Int32) (v10 : Int64) (v12 : Int32) (v13 : Int32) (m : zx_M) {d : Nat} {out : Option Value × zx_H} {y : (Int64 × Int32 × Int32 × zx_M) ⊕ (Int64 × zx_M)} (hf : b_M_mean_lb103_123 v2 v3 v4 v5 v7 v9 v10 v12 v13 m = some y) (hK : kl_M_mean_lb103_123 v2 v3 v4 v5 v7 v9 d out y) : zx_Ev (d + 70) 222 123 [some (.ref 0), none, some (.int v2), some (.int v3), some (.int v4), some (.long v5), none, some (.long v7), none, some (.int v9), some (.long v10), none, some (.int v12), some (.int v13), none] [] (zx_SM, m) out := by
  unfold b_M_mean_lb103_123 at hf
  refine zx_ev_blk zk_222 3 (pc1 := 129) (L1 := [some (.ref 0), none, some (.int v2), some (.int v3), some (.int v4), some (.long v5), none, some (.long v7), none, some (.int v9), some (.long v10), none, some (.int v12), some (.int v13), none]) (st1 := [.int (m.1 0 20), .int v13]) (h1 := (zx_SM, m)) rfl ?_
  by_cases c23 : (m.1 0 20) ≤ v13
  · rw [if_pos c23] at hf
    refine zx_ev_ift zk_222 (P := (m.1 0 20) ≤ v13) (t := 216) (f := 132) rfl rfl c23 ?_
    obtain rfl := Option.some.inj hf
    exact zx_ev_sub (L := [some (.ref 0), none, some (.int v2), some (.int v3), some (.int v4), some (.long v5), none, some (.long v7), none, some (.int v9), some (.long v10), none, none, none, none]) (⟨rfl, ⟨rfl, ⟨rfl, ⟨rfl, ⟨rfl, ⟨rfl, ⟨rfl, ⟨rfl, ⟨trivial, ⟨trivial, trivial⟩⟩⟩⟩⟩⟩⟩⟩⟩⟩) hK
  · rw [if_neg c23] at hf
    refine zx_ev_ifn zk_222 (P := (m.1 0 20) ≤ v13) (t := 216) (f := 132) rfl rfl c23 ?_
    refine zx_ev_blk zk_222 4 (pc1 := 139) (L1 := [some (.ref 0), none, some (.int v2), some (.int v3), some (.int v4), some (.long v5), none, some (.long v7), none, some (.int v9), some (.long v10), none, some (.int v12), some (.int v13), none]) (st1 := [.int v13, .ref 8, .ref 0]) (h1 := (zx_SM, m)) rfl ?_
    obtain ⟨j24, hj24, hf⟩ := zx_bind_eq hf
    refine zx_ev_step zk_222 rfl (st_iald rfl rfl hj24) ?_
    refine zx_ev_blk zk_222 1 (pc1 := 141) (L1 := [some (.ref 0), none, some (.int v2), some (.int v3), some (.int v4), some (.long v5), none, some (.long v7), none, some (.int v9), some (.long v10), none, some (.int v12), some (.int v13), none]) (st1 := [.int 3, .int (m.1 8 j24), .ref 0]) (h1 := (zx_SM, m)) rfl ?_
    obtain ⟨r26, hv25, hf⟩ := zx_bind_eq hf
    refine zx_ev_call (d := d + 69) zk_222 (v := some (.int r26)) (h1 := (zx_SM, m)) rfl rfl zt_165 rfl zx_SMn rfl rfl (s_M_ofJumper _ _ _ (d := d + 69) hv25) ?_
    refine zx_ev_blk zk_222 4 (pc1 := 152) (L1 := [some (.ref 0), none, some (.int v2), some (.int v3), some (.int v4), some (.long v5), none, some (.long v7), none, some (.int v9), some (.long v10), none, some (.int v12), some (.int v13), some (.int r26)]) (st1 := [.int v13, .int v9, .long v10]) (h1 := (zx_SM, m)) rfl ?_
    obtain ⟨r28, hv27, hf⟩ := zx_bind_eq hf
    refine zx_ev_call (d := d + 69) zk_222 (v := some (.int r28)) (h1 := (zx_SM, m)) rfl rfl zt_159 rfl zx_SMn rfl rfl (s_M_isIn _ _ _ (d := d + 69) hv27) ?_
    by_cases c29 : r28 = 0
    · rw [if_pos c29] at hf
      refine zx_ev_ift zk_222 (P := r28 = 0) (t := 164) (f := 158) rfl rfl c29 ?_
      refine zx_ev_blk zk_222 4 (pc1 := 170) (L1 := [some (.ref 0), none, some (.int v2), some (.int v3), some (.int v4), some (.long v5), none, some (.long v7), none, some (.int v9), some (.long v10), none, some (.int v12), some (.int v13), some (.int r26)]) (st1 := [.long (Int32.toInt64 (12 - r26)), .long v10]) (h1 := (zx_SM, m)) rfl ?_
      exact zx_ev_sub (L := [some (.ref 0), none, some (.int v2), some (.int v3), some (.int v4), some (.long v5), none, some (.long v7), none, some (.int v9), none, none, some (.int v12), some (.int v13), none]) (⟨rfl, ⟨rfl, ⟨rfl, ⟨rfl, ⟨rfl, ⟨rfl, ⟨rfl, ⟨trivial, ⟨rfl, ⟨rfl, ⟨trivial, trivial⟩⟩⟩⟩⟩⟩⟩⟩⟩⟩⟩) (e_M_mean_b103_b123_170 v2 v3 v4 v5 v7 v9 v12 v13 v10 (Int32.toInt64 (12 - r26)) m hf hK)
    · rw [if_neg c29] at hf
      refine zx_ev_ifn zk_222 (P := r28 = 0) (t := 164) (f := 158) rfl rfl c29 ?_
      refine zx_ev_blk zk_222 3 (pc1 := 170) (L1 := [some (.ref 0), none, some (.int v2), some (.int v3), some (.int v4), some (.long v5), none, some (.long v7), none, some (.int v9), some (.long v10), none, some (.int v12), some (.int v13), some (.int r26)]) (st1 := [.long (Int32.toInt64 r26), .long v10]) (h1 := (zx_SM, m)) rfl ?_
      exact zx_ev_sub (L := [some (.ref 0), none, some (.int v2), some (.int v3), some (.int v4), some (.long v5), none, some (.long v7), none, some (.int v9), none, none, some (.int v12), some (.int v13), none]) (⟨rfl, ⟨rfl, ⟨rfl, ⟨rfl, ⟨rfl, ⟨rfl, ⟨rfl, ⟨trivial, ⟨rfl, ⟨rfl, ⟨trivial, trivial⟩⟩⟩⟩⟩⟩⟩⟩⟩⟩⟩) (e_M_mean_b103_b123_170 v2 v3 v4 v5 v7 v9 v12 v13 v10 (Int32.toInt64 r26) m hf hK)
def l_M_mean_lb103_123 (v2 : Int32) (v3 : Int32) (v4 : Int32) (v5 : Int64) (v7 : Int64) (v9 : Int32) (s0 : Int64 × Int32 × Int32 × zx_M) : Option (Int64 × zx_M) := zx_lp zx_N (fun s : Int64 × Int32 × Int32 × zx_M => b_M_mean_lb103_123 v2 v3 v4 v5 v7 v9 s.1 s.2.1 s.2.2.1 s.2.2.2) s0
theorem el_M_mean_lb103_123 (v2 : Int32) (v3 : Int32) (v4 : Int32) (v5 : Int64) (v7 : Int64) (v9 : Int32) {d : Nat} {out : Option Value × zx_H} : ∀ (n : Nat) (s : Int64 × Int32 × Int32 × zx_M) (x : Int64 × zx_M), zx_lp n (fun s : Int64 × Int32 × Int32 × zx_M => b_M_mean_lb103_123 v2 v3 v4 v5 v7 v9 s.1 s.2.1 s.2.2.1 s.2.2.2) s = some x → kx_M_mean_lb103_123 v2 v3 v4 v5 v7 v9 d out x → zx_Ev (d + 70) 222 123 [some (.ref 0), none, some (.int v2), some (.int v3), some (.int v4), some (.long v5), none, some (.long v7), none, some (.int v9), some (.long s.1), none, some (.int s.2.1), some (.int s.2.2.1), none] [] (zx_SM, s.2.2.2) out := by
  intro n
  induction n with
  | zero => intro s x hl _; simp [zx_lp] at hl
  | succ n ih =>
    intro s x hl hx
    unfold zx_lp at hl
    cases hb : b_M_mean_lb103_123 v2 v3 v4 v5 v7 v9 s.1 s.2.1 s.2.2.1 s.2.2.2 with
    | none => simp only [hb] at hl; cases hl
    | some z =>
      simp only [hb] at hl
      cases z with
      | inl s1 => exact eb_M_mean_lb103_123 v2 v3 v4 v5 v7 v9 s.1 s.2.1 s.2.2.1 s.2.2.2 hb (ih s1 x hl hx)
      | inr t =>
        simp only [Option.some.injEq] at hl
        subst hl
        exact eb_M_mean_lb103_123 v2 v3 v4 v5 v7 v9 s.1 s.2.1 s.2.2.1 s.2.2.2 hb hx
def b_M_mean_l103 (v2 : Int32) (v3 : Int32) (v4 : Int32) (v5 : Int64) (v7 : Int64) (v9 : Int32) (m : zx_M) : Option ((Int64 × Int32 × zx_M) ⊕ (Int64 × zx_M)) := if (zx_shl 1 (m.1 0 20)) ≤ v9 then some (.inr (v5, m)) else (l_M_mean_lb103_123 v2 v3 v4 v5 v7 v9 (1, 0, 0, m)).bind fun x38 => match x38 with | (w39, m40) => (f_M_spotOf v2 m40).bind fun r42 => (f_M_goodFrom r42 m40).bind fun (r44, m45) => zx_let (v5 + (w39 * (Int32.toInt64 r44))) fun a46 => zx_let (v9 + 1) fun a47 => some (.inl (a46, a47, m45))
theorem eb_M_mean_l103 (v2 : Int32) (v3 : Int32) (v4 : Int32) (v5 : Int64) (v7 : Int64) (v9 : Int32) (m : zx_M) {d : Nat} {out : Option Value × zx_H} {y : (Int64 × Int32 × zx_M) ⊕ (Int64 × zx_M)} (hf : b_M_mean_l103 v2 v3 v4 v5 v7 v9 m = some y) (hK : kl_M_mean_l103 v2 v3 v4 v7 d out y) : zx_Ev (d + 70) 222 103 [some (.ref 0), none, some (.int v2), some (.int v3), some (.int v4), some (.long v5), none, some (.long v7), none, some (.int v9), none, none, none, none, none] [] (zx_SM, m) out := by
  unfold b_M_mean_l103 at hf
  refine zx_ev_blk zk_222 5 (pc1 := 111) (L1 := [some (.ref 0), none, some (.int v2), some (.int v3), some (.int v4), some (.long v5), none, some (.long v7), none, some (.int v9), none, none, none, none, none]) (st1 := [.int (zx_shl 1 (m.1 0 20)), .int v9]) (h1 := (zx_SM, m)) rfl ?_
  by_cases c22 : (zx_shl 1 (m.1 0 20)) ≤ v9
  · rw [if_pos c22] at hf
    refine zx_ev_ift zk_222 (P := (zx_shl 1 (m.1 0 20)) ≤ v9) (t := 239) (f := 114) rfl rfl c22 ?_
    obtain rfl := Option.some.inj hf
    exact zx_ev_sub (L := [some (.ref 0), none, none, none, some (.int v4), some (.long v5), none, some (.long v7), none, none, none, none, none, none, none]) (⟨rfl, ⟨trivial, ⟨trivial, ⟨rfl, ⟨rfl, ⟨rfl, ⟨trivial, trivial⟩⟩⟩⟩⟩⟩⟩) hK
  · rw [if_neg c22] at hf
    refine zx_ev_ifn zk_222 (P := (zx_shl 1 (m.1 0 20)) ≤ v9) (t := 239) (f := 114) rfl rfl c22 ?_
    refine zx_ev_blk zk_222 6 (pc1 := 123) (L1 := [some (.ref 0), none, some (.int v2), some (.int v3), some (.int v4), some (.long v5), none, some (.long v7), none, some (.int v9), some (.long 1), none, some (.int 0), some (.int 0), none]) (st1 := []) (h1 := (zx_SM, m)) rfl ?_
    obtain ⟨x38, hx38, hf⟩ := zx_bind_eq hf
    refine zx_ev_sub (L := [some (.ref 0), none, some (.int v2), some (.int v3), some (.int v4), some (.long v5), none, some (.long v7), none, some (.int v9), some (.long 1), none, some (.int 0), some (.int 0), none]) (⟨rfl, ⟨rfl, ⟨rfl, ⟨rfl, ⟨rfl, ⟨rfl, ⟨rfl, ⟨rfl, ⟨rfl, ⟨rfl, trivial⟩⟩⟩⟩⟩⟩⟩⟩⟩⟩) (el_M_mean_lb103_123 v2 v3 v4 v5 v7 v9 zx_N (1, 0, 0, m) x38 hx38 ?_)
    obtain ⟨w39, m40⟩ := x38
    dsimp only at hf
    show zx_Ev (d + 70) 222 216 [some (.ref 0), none, some (.int v2), some (.int v3), some (.int v4), some (.long v5), none, some (.long v7), none, some (.int v9), some (.long w39), none, none, none, none] [] (zx_SM, m40) out
    refine zx_ev_blk zk_222 4 (pc1 := 222) (L1 := [some (.ref 0), none, some (.int v2), some (.int v3), some (.int v4), some (.long v5), none, some (.long v7), none, some (.int v9), some (.long w39), none, none, none, none]) (st1 := [.int v2, .ref 0, .long w39, .long v5]) (h1 := (zx_SM, m40)) rfl ?_
    obtain ⟨r42, hv41, hf⟩ := zx_bind_eq hf
    refine zx_ev_call (d := d + 69) zk_222 (v := some (.int r42)) (h1 := (zx_SM, m40)) rfl rfl zt_204 rfl zx_SMn rfl rfl (s_M_spotOf _ _ (d := d + 69) hv41) ?_
    obtain ⟨⟨r44, m45⟩, hv43, hf⟩ := zx_bind_eq hf
    dsimp only at hf
    refine zx_ev_call (d := d + 69) zk_222 (v := some (.int r44)) (h1 := (zx_SM, m45)) rfl rfl zt_197 rfl zx_SMn rfl rfl (s_M_goodFrom _ _ (d := d + 66) hv43) ?_
    obtain ⟨a46, ha46, hf⟩ := zx_let_eq hf
    obtain ⟨a47, ha47, hf⟩ := zx_let_eq hf
    refine zx_ev_blk zk_222 6 (pc1 := 103) (L1 := [some (.ref 0), none, some (.int v2), some (.int v3), some (.int v4), some (.long a46), none, some (.long v7), none, some (.int a47), some (.long w39), none, none, none, none]) (st1 := []) (h1 := (zx_SM, m45)) (by subst ha46; subst ha47; rfl) ?_
    obtain rfl := Option.some.inj hf
    exact zx_ev_sub (L := [some (.ref 0), none, some (.int v2), some (.int v3), some (.int v4), some (.long a46), none, some (.long v7), none, some (.int a47), none, none, none, none, none]) (⟨rfl, ⟨rfl, ⟨rfl, ⟨rfl, ⟨rfl, ⟨rfl, ⟨rfl, ⟨trivial, trivial⟩⟩⟩⟩⟩⟩⟩⟩) hK
def l_M_mean_l103 (v2 : Int32) (v3 : Int32) (v4 : Int32) (v7 : Int64) (s0 : Int64 × Int32 × zx_M) : Option (Int64 × zx_M) := zx_lp zx_N (fun s : Int64 × Int32 × zx_M => b_M_mean_l103 v2 v3 v4 s.1 v7 s.2.1 s.2.2) s0
theorem el_M_mean_l103 (v2 : Int32) (v3 : Int32) (v4 : Int32) (v7 : Int64) {d : Nat} {out : Option Value × zx_H} : ∀ (n : Nat) (s : Int64 × Int32 × zx_M) (x : Int64 × zx_M), zx_lp n (fun s : Int64 × Int32 × zx_M => b_M_mean_l103 v2 v3 v4 s.1 v7 s.2.1 s.2.2) s = some x → kx_M_mean_l103 v2 v3 v4 v7 d out x → zx_Ev (d + 70) 222 103 [some (.ref 0), none, some (.int v2), some (.int v3), some (.int v4), some (.long s.1), none, some (.long v7), none, some (.int s.2.1), none, none, none, none, none] [] (zx_SM, s.2.2) out := by
  intro n
  induction n with
  | zero => intro s x hl _; simp [zx_lp] at hl
  | succ n ih =>
    intro s x hl hx
    unfold zx_lp at hl
    cases hb : b_M_mean_l103 v2 v3 v4 s.1 v7 s.2.1 s.2.2 with
    | none => simp only [hb] at hl; cases hl
    | some z =>
      simp only [hb] at hl
      cases z with
      | inl s1 => exact eb_M_mean_l103 v2 v3 v4 s.1 v7 s.2.1 s.2.2 hb (ih s1 x hl hx)
      | inr t =>
        simp only [Option.some.injEq] at hl
        subst hl
        exact eb_M_mean_l103 v2 v3 v4 s.1 v7 s.2.1 s.2.2 hb hx
def n_M_mean_n65 (v2 : Int32) (v3 : Int32) (v4 : Int32) (t1 : Int32) (m : zx_M) : Option (Int64 × zx_M) := zx_let (zx_u1 m 0 20 t1) fun m16 => (l_M_mean_l77 v2 v3 v4 0 m16 (1, 0)).bind fun x20 => zx_let x20 fun w21 => (l_M_mean_l103 v2 v3 v4 w21 (0, 0, m16)).bind fun x48 => match x48 with | (w49, m50) => (f_M_partOf w49 w21 v4 m50).bind fun r52 => some (r52, m50)
theorem e_M_mean_n65 (v2 : Int32) (v3 : Int32) (v4 : Int32) (t1 : Int32) (m : zx_M) {d : Nat} {y : (Int64 × zx_M)} (hf : n_M_mean_n65 v2 v3 v4 t1 m = some y) : zx_Ev (d + 70) 222 65 [some (.ref 0), none, some (.int v2), some (.int v3), some (.int v4), none, none, none, none, none, none, none, none, none, none] [.int t1, .ref 0] (zx_SM, m) (some (.long y.1), (zx_SM, y.2)) := by
  unfold n_M_mean_n65 at hf
  obtain ⟨m16, hm16, hf⟩ := zx_let_eq hf
  refine zx_ev_blk zk_222 7 (pc1 := 77) (L1 := [some (.ref 0), none, some (.int v2), some (.int v3), some (.int v4), some (.long 0), none, some (.long 1), none, some (.int 0), none, none, none, none, none]) (st1 := []) (h1 := (zx_SM, m16)) (by subst hm16; rfl) ?_
  obtain ⟨x20, hx20, hf⟩ := zx_bind_eq hf
  refine zx_ev_sub (L := [some (.ref 0), none, some (.int v2), some (.int v3), some (.int v4), some (.long 0), none, some (.long 1), none, some (.int 0), none, none, none, none, none]) (⟨rfl, ⟨rfl, ⟨rfl, ⟨rfl, ⟨rfl, ⟨rfl, ⟨rfl, trivial⟩⟩⟩⟩⟩⟩⟩) (el_M_mean_l77 v2 v3 v4 0 m16 zx_N (1, 0) x20 hx20 ?_)
  obtain ⟨w21, hw21, hf⟩ := zx_let_eq hf
  subst hw21
  show zx_Ev (d + 70) 222 100 [some (.ref 0), none, some (.int v2), some (.int v3), some (.int v4), some (.long 0), none, some (.long x20), none, none, none, none, none, none, none] [] (zx_SM, m16) _
  refine zx_ev_blk zk_222 2 (pc1 := 103) (L1 := [some (.ref 0), none, some (.int v2), some (.int v3), some (.int v4), some (.long 0), none, some (.long x20), none, some (.int 0), none, none, none, none, none]) (st1 := []) (h1 := (zx_SM, m16)) rfl ?_
  obtain ⟨x48, hx48, hf⟩ := zx_bind_eq hf
  refine zx_ev_sub (L := [some (.ref 0), none, some (.int v2), some (.int v3), some (.int v4), some (.long 0), none, some (.long x20), none, some (.int 0), none, none, none, none, none]) (⟨rfl, ⟨rfl, ⟨rfl, ⟨rfl, ⟨rfl, ⟨rfl, ⟨rfl, trivial⟩⟩⟩⟩⟩⟩⟩) (el_M_mean_l103 v2 v3 v4 x20 zx_N (0, 0, m16) x48 hx48 ?_)
  obtain ⟨w49, m50⟩ := x48
  dsimp only at hf
  show zx_Ev (d + 70) 222 239 [some (.ref 0), none, none, none, some (.int v4), some (.long w49), none, some (.long x20), none, none, none, none, none, none, none] [] (zx_SM, m50) _
  refine zx_ev_blk zk_222 3 (pc1 := 245) (L1 := [some (.ref 0), none, none, none, some (.int v4), some (.long w49), none, some (.long x20), none, none, none, none, none, none, none]) (st1 := [.int v4, .long x20, .long w49]) (h1 := (zx_SM, m50)) rfl ?_
  obtain ⟨r52, hv51, hf⟩ := zx_bind_eq hf
  refine zx_ev_call (d := d + 69) zk_222 (v := some (.long r52)) (h1 := (zx_SM, m50)) rfl rfl zt_220 rfl zx_SMn rfl rfl (s_M_partOf _ _ _ _ (d := d + 68) hv51) ?_
  obtain rfl := Option.some.inj hf
  exact zx_ev_ret zk_222 rfl rfl
def f_M_mean (v1 : Int32) (v2 : Int32) (v3 : Int32) (v4 : Int32) (m : zx_M) : Option (Int64 × zx_M) := (f_M_rowIs v1 0 m).bind fun r2 => if ¬ r2 = 1 then some ((-9223372036854775808), m) else (f_M_isYc v2 m).bind fun r5 => if r5 = 0 then some ((-9223372036854775808), m) else (f_M_isCount v3 m).bind fun r8 => if r8 = 0 then some ((-9223372036854775808), m) else (f_M_within (Int32.toInt64 v4) 0 1 m).bind fun r11 => if ¬ r11 = 0 then (f_M_takesOrder v1 (zx_rem v2 100) m).bind fun m14 => if (m14.1 0 20) ≤ 5 then n_M_mean_n65 v2 v3 v4 (m14.1 0 20) m14 else n_M_mean_n65 v2 v3 v4 5 m14 else some ((-9223372036854775808), m)
theorem s_M_mean (v1 : Int32) (v2 : Int32) (v3 : Int32) (v4 : Int32) (m : zx_M) {d : Nat} {y : (Int64 × zx_M)} (hf : f_M_mean v1 v2 v3 v4 m = some y) : zx_Ev (d + 70) 222 0 [some (.ref 0), some (.int v1), some (.int v2), some (.int v3), some (.int v4), none, none, none, none, none, none, none, none, none, none] [] (zx_SM, m) (some (.long y.1), (zx_SM, y.2)) := by
  unfold f_M_mean at hf
  refine zx_ev_blk zk_222 3 (pc1 := 3) (L1 := [some (.ref 0), some (.int v1), some (.int v2), some (.int v3), some (.int v4), none, none, none, none, none, none, none, none, none, none]) (st1 := [.int 0, .int v1, .ref 0]) (h1 := (zx_SM, m)) rfl ?_
  obtain ⟨r2, hv1, hf⟩ := zx_bind_eq hf
  refine zx_ev_call (d := d + 69) zk_222 (v := some (.int r2)) (h1 := (zx_SM, m)) rfl rfl zt_198 rfl zx_SMn rfl rfl (s_M_rowIs _ _ _ (d := d + 67) hv1) ?_
  refine zx_ev_blk zk_222 1 (pc1 := 7) (L1 := [some (.ref 0), some (.int v1), some (.int v2), some (.int v3), some (.int v4), none, none, none, none, none, none, none, none, none, none]) (st1 := [.int 1, .int r2]) (h1 := (zx_SM, m)) rfl ?_
  by_cases c3 : ¬ r2 = 1
  · rw [if_pos c3] at hf
    refine zx_ev_ift zk_222 (P := ¬ r2 = 1) (t := 35) (f := 10) rfl rfl c3 ?_
    refine zx_ev_blk zk_222 1 (pc1 := 38) (L1 := [some (.ref 0), some (.int v1), some (.int v2), some (.int v3), some (.int v4), none, none, none, none, none, none, none, none, none, none]) (st1 := [.long (-9223372036854775808)]) (h1 := (zx_SM, m)) rfl ?_
    obtain rfl := Option.some.inj hf
    exact zx_ev_ret zk_222 rfl rfl
  · rw [if_neg c3] at hf
    refine zx_ev_ifn zk_222 (P := ¬ r2 = 1) (t := 35) (f := 10) rfl rfl c3 ?_
    refine zx_ev_blk zk_222 1 (pc1 := 11) (L1 := [some (.ref 0), some (.int v1), some (.int v2), some (.int v3), some (.int v4), none, none, none, none, none, none, none, none, none, none]) (st1 := [.int v2]) (h1 := (zx_SM, m)) rfl ?_
    obtain ⟨r5, hv4, hf⟩ := zx_bind_eq hf
    refine zx_ev_call (d := d + 69) zk_222 (v := some (.int r5)) (h1 := (zx_SM, m)) rfl rfl zt_203 rfl zx_SMn rfl rfl (s_M_isYc _ _ (d := d + 67) hv4) ?_
    by_cases c6 : r5 = 0
    · rw [if_pos c6] at hf
      refine zx_ev_ift zk_222 (P := r5 = 0) (t := 35) (f := 17) rfl rfl c6 ?_
      refine zx_ev_blk zk_222 1 (pc1 := 38) (L1 := [some (.ref 0), some (.int v1), some (.int v2), some (.int v3), some (.int v4), none, none, none, none, none, none, none, none, none, none]) (st1 := [.long (-9223372036854775808)]) (h1 := (zx_SM, m)) rfl ?_
      obtain rfl := Option.some.inj hf
      exact zx_ev_ret zk_222 rfl rfl
    · rw [if_neg c6] at hf
      refine zx_ev_ifn zk_222 (P := r5 = 0) (t := 35) (f := 17) rfl rfl c6 ?_
      refine zx_ev_blk zk_222 1 (pc1 := 18) (L1 := [some (.ref 0), some (.int v1), some (.int v2), some (.int v3), some (.int v4), none, none, none, none, none, none, none, none, none, none]) (st1 := [.int v3]) (h1 := (zx_SM, m)) rfl ?_
      obtain ⟨r8, hv7, hf⟩ := zx_bind_eq hf
      refine zx_ev_call (d := d + 69) zk_222 (v := some (.int r8)) (h1 := (zx_SM, m)) rfl rfl zt_202 rfl zx_SMn rfl rfl (s_M_isCount _ _ (d := d + 68) hv7) ?_
      by_cases c9 : r8 = 0
      · rw [if_pos c9] at hf
        refine zx_ev_ift zk_222 (P := r8 = 0) (t := 35) (f := 24) rfl rfl c9 ?_
        refine zx_ev_blk zk_222 1 (pc1 := 38) (L1 := [some (.ref 0), some (.int v1), some (.int v2), some (.int v3), some (.int v4), none, none, none, none, none, none, none, none, none, none]) (st1 := [.long (-9223372036854775808)]) (h1 := (zx_SM, m)) rfl ?_
        obtain rfl := Option.some.inj hf
        exact zx_ev_ret zk_222 rfl rfl
      · rw [if_neg c9] at hf
        refine zx_ev_ifn zk_222 (P := r8 = 0) (t := 35) (f := 24) rfl rfl c9 ?_
        refine zx_ev_blk zk_222 4 (pc1 := 29) (L1 := [some (.ref 0), some (.int v1), some (.int v2), some (.int v3), some (.int v4), none, none, none, none, none, none, none, none, none, none]) (st1 := [.long 1, .long 0, .long (Int32.toInt64 v4)]) (h1 := (zx_SM, m)) rfl ?_
        obtain ⟨r11, hv10, hf⟩ := zx_bind_eq hf
        refine zx_ev_call (d := d + 69) zk_222 (v := some (.int r11)) (h1 := (zx_SM, m)) rfl rfl zt_157 rfl zx_SMn rfl rfl (s_M_within _ _ _ _ (d := d + 69) hv10) ?_
        by_cases c12 : ¬ r11 = 0
        · rw [if_pos c12] at hf
          refine zx_ev_ift zk_222 (P := ¬ r11 = 0) (t := 39) (f := 35) rfl rfl c12 ?_
          refine zx_ev_blk zk_222 4 (pc1 := 44) (L1 := [some (.ref 0), some (.int v1), some (.int v2), some (.int v3), some (.int v4), none, none, none, none, none, none, none, none, none, none]) (st1 := [.int 100, .int v2, .int v1, .ref 0]) (h1 := (zx_SM, m)) rfl ?_
          refine zx_ev_step zk_222 rfl (st_irem (by decide)) ?_
          obtain ⟨m14, hv13, hf⟩ := zx_bind_eq hf
          refine zx_ev_call (d := d + 69) zk_222 (v := none) (h1 := (zx_SM, m14)) rfl rfl zt_200 rfl zx_SMn rfl rfl (s_M_takesOrder _ _ _ (d := d + 0) hv13) ?_
          refine zx_ev_blk zk_222 4 (pc1 := 54) (L1 := [some (.ref 0), some (.int v1), some (.int v2), some (.int v3), some (.int v4), none, none, none, none, none, none, none, none, none, none]) (st1 := [.int 5, .int (m14.1 0 20), .ref 0]) (h1 := (zx_SM, m14)) rfl ?_
          by_cases c15 : (m14.1 0 20) ≤ 5
          · rw [if_pos c15] at hf
            refine zx_ev_ift zk_222 (P := (m14.1 0 20) ≤ 5) (t := 61) (f := 57) rfl rfl c15 ?_
            refine zx_ev_blk zk_222 2 (pc1 := 65) (L1 := [some (.ref 0), some (.int v1), some (.int v2), some (.int v3), some (.int v4), none, none, none, none, none, none, none, none, none, none]) (st1 := [.int (m14.1 0 20), .ref 0]) (h1 := (zx_SM, m14)) rfl ?_
            exact zx_ev_sub (L := [some (.ref 0), none, some (.int v2), some (.int v3), some (.int v4), none, none, none, none, none, none, none, none, none, none]) (⟨rfl, ⟨trivial, ⟨rfl, ⟨rfl, ⟨rfl, trivial⟩⟩⟩⟩⟩) (e_M_mean_n65 v2 v3 v4 (m14.1 0 20) m14 hf)
          · rw [if_neg c15] at hf
            refine zx_ev_ifn zk_222 (P := (m14.1 0 20) ≤ 5) (t := 61) (f := 57) rfl rfl c15 ?_
            refine zx_ev_blk zk_222 2 (pc1 := 65) (L1 := [some (.ref 0), some (.int v1), some (.int v2), some (.int v3), some (.int v4), none, none, none, none, none, none, none, none, none, none]) (st1 := [.int 5, .ref 0]) (h1 := (zx_SM, m14)) rfl ?_
            exact zx_ev_sub (L := [some (.ref 0), none, some (.int v2), some (.int v3), some (.int v4), none, none, none, none, none, none, none, none, none, none]) (⟨rfl, ⟨trivial, ⟨rfl, ⟨rfl, ⟨rfl, trivial⟩⟩⟩⟩⟩) (e_M_mean_n65 v2 v3 v4 5 m14 hf)
        · rw [if_neg c12] at hf
          refine zx_ev_ifn zk_222 (P := ¬ r11 = 0) (t := 39) (f := 35) rfl rfl c12 ?_
          refine zx_ev_blk zk_222 1 (pc1 := 38) (L1 := [some (.ref 0), some (.int v1), some (.int v2), some (.int v3), some (.int v4), none, none, none, none, none, none, none, none, none, none]) (st1 := [.long (-9223372036854775808)]) (h1 := (zx_SM, m)) rfl ?_
          obtain rfl := Option.some.inj hf
          exact zx_ev_ret zk_222 rfl rfl
def f_M_placeOf (v1 : Int32) (v2 : Int32) (m : zx_M) : Option Int32 := (f_M_within (Int32.toInt64 v2) 0 3 m).bind fun r2 => if r2 = 0 then if ¬ v1 = 0 then some (-1) else (f_M_within (Int32.toInt64 v2) 4 11 m).bind fun r6 => if r6 = 0 then some (-1) else some ((28 + v2) - 4) else (f_M_isJumper (Int32.toInt64 v1) m).bind fun r9 => if r9 = 0 then some (-1) else some ((7 * v2) + v1)
theorem s_M_placeOf (v1 : Int32) (v2 : Int32) (m : zx_M) {d : Nat} {y : Int32} (hf : f_M_placeOf v1 v2 m = some y) : zx_Ev (d + 2) 171 0 [some (.ref 0), some (.int v1), some (.int v2)] [] (zx_SM, m) (some (.int y), (zx_SM, m)) := by
  unfold f_M_placeOf at hf
  refine zx_ev_blk zk_171 4 (pc1 := 6) (L1 := [some (.ref 0), some (.int v1), some (.int v2)]) (st1 := [.long 3, .long 0, .long (Int32.toInt64 v2)]) (h1 := (zx_SM, m)) rfl ?_
  obtain ⟨r2, hv1, hf⟩ := zx_bind_eq hf
  refine zx_ev_call (d := d + 1) zk_171 (v := some (.int r2)) (h1 := (zx_SM, m)) rfl rfl zt_157 rfl zx_SMn rfl rfl (s_M_within _ _ _ _ (d := d + 1) hv1) ?_
  by_cases c3 : r2 = 0
  · rw [if_pos c3] at hf
    refine zx_ev_ift zk_171 (P := r2 = 0) (t := 32) (f := 12) rfl rfl c3 ?_
    refine zx_ev_blk zk_171 1 (pc1 := 33) (L1 := [some (.ref 0), some (.int v1), some (.int v2)]) (st1 := [.int v1]) (h1 := (zx_SM, m)) rfl ?_
    by_cases c4 : ¬ v1 = 0
    · rw [if_pos c4] at hf
      refine zx_ev_ift zk_171 (P := ¬ v1 = 0) (t := 59) (f := 36) rfl rfl c4 ?_
      refine zx_ev_blk zk_171 1 (pc1 := 60) (L1 := [some (.ref 0), some (.int v1), some (.int v2)]) (st1 := [.int (-1)]) (h1 := (zx_SM, m)) rfl ?_
      obtain rfl := Option.some.inj hf
      exact zx_ev_ret zk_171 rfl rfl
    · rw [if_neg c4] at hf
      refine zx_ev_ifn zk_171 (P := ¬ v1 = 0) (t := 59) (f := 36) rfl rfl c4 ?_
      refine zx_ev_blk zk_171 4 (pc1 := 44) (L1 := [some (.ref 0), some (.int v1), some (.int v2)]) (st1 := [.long 11, .long 4, .long (Int32.toInt64 v2)]) (h1 := (zx_SM, m)) rfl ?_
      obtain ⟨r6, hv5, hf⟩ := zx_bind_eq hf
      refine zx_ev_call (d := d + 1) zk_171 (v := some (.int r6)) (h1 := (zx_SM, m)) rfl rfl zt_157 rfl zx_SMn rfl rfl (s_M_within _ _ _ _ (d := d + 1) hv5) ?_
      by_cases c7 : r6 = 0
      · rw [if_pos c7] at hf
        refine zx_ev_ift zk_171 (P := r6 = 0) (t := 59) (f := 50) rfl rfl c7 ?_
        refine zx_ev_blk zk_171 1 (pc1 := 60) (L1 := [some (.ref 0), some (.int v1), some (.int v2)]) (st1 := [.int (-1)]) (h1 := (zx_SM, m)) rfl ?_
        obtain rfl := Option.some.inj hf
        exact zx_ev_ret zk_171 rfl rfl
      · rw [if_neg c7] at hf
        refine zx_ev_ifn zk_171 (P := r6 = 0) (t := 59) (f := 50) rfl rfl c7 ?_
        refine zx_ev_blk zk_171 6 (pc1 := 60) (L1 := [some (.ref 0), some (.int v1), some (.int v2)]) (st1 := [.int ((28 + v2) - 4)]) (h1 := (zx_SM, m)) rfl ?_
        obtain rfl := Option.some.inj hf
        exact zx_ev_ret zk_171 rfl rfl
  · rw [if_neg c3] at hf
    refine zx_ev_ifn zk_171 (P := r2 = 0) (t := 32) (f := 12) rfl rfl c3 ?_
    refine zx_ev_blk zk_171 3 (pc1 := 15) (L1 := [some (.ref 0), some (.int v1), some (.int v2)]) (st1 := [.long (Int32.toInt64 v1), .ref 0]) (h1 := (zx_SM, m)) rfl ?_
    obtain ⟨r9, hv8, hf⟩ := zx_bind_eq hf
    refine zx_ev_call (d := d + 1) zk_171 (v := some (.int r9)) (h1 := (zx_SM, m)) rfl rfl zt_164 rfl zx_SMn rfl rfl (s_M_isJumper _ _ (d := d + 0) hv8) ?_
    by_cases c10 : r9 = 0
    · rw [if_pos c10] at hf
      refine zx_ev_ift zk_171 (P := r9 = 0) (t := 30) (f := 21) rfl rfl c10 ?_
      refine zx_ev_blk zk_171 1 (pc1 := 31) (L1 := [some (.ref 0), some (.int v1), some (.int v2)]) (st1 := [.int (-1)]) (h1 := (zx_SM, m)) rfl ?_
      obtain rfl := Option.some.inj hf
      exact zx_ev_ret zk_171 rfl rfl
    · rw [if_neg c10] at hf
      refine zx_ev_ifn zk_171 (P := r9 = 0) (t := 30) (f := 21) rfl rfl c10 ?_
      refine zx_ev_blk zk_171 6 (pc1 := 31) (L1 := [some (.ref 0), some (.int v1), some (.int v2)]) (st1 := [.int ((7 * v2) + v1)]) (h1 := (zx_SM, m)) rfl ?_
      obtain rfl := Option.some.inj hf
      exact zx_ev_ret zk_171 rfl rfl
def f_M_mayBecome (v1 : Int32) (v2 : Int32) (m : zx_M) : Option Int32 := if v1 = 0 then (f_M_within (Int32.toInt64 v2) 1 9 m).bind fun r3 => if r3 = 0 ∨ r3 = 1 then some r3 else none else if v1 = 1 then (f_M_within (Int32.toInt64 v2) 0 9 m).bind fun r7 => if r7 = 0 ∨ r7 = 1 then some r7 else none else if v1 = 2 then (f_M_within (Int32.toInt64 v2) 0 1 m).bind fun r11 => if r11 = 0 ∨ r11 = 1 then some r11 else none else if v1 = 3 then (f_M_within (Int32.toInt64 v2) 0 12 m).bind fun r15 => if r15 = 0 ∨ r15 = 1 then some r15 else none else if v1 = 4 then (zx_ix 36 29).bind fun j18 => (f_M_within (Int32.toInt64 v2) (-999) (Int32.toInt64 (m.1 1 j18)) m).bind fun r20 => if r20 = 0 ∨ r20 = 1 then some r20 else none else if v1 = 5 then (zx_ix 36 28).bind fun j23 => (f_M_within (Int32.toInt64 v2) (Int32.toInt64 (m.1 1 j23)) 999 m).bind fun r25 => if r25 = 0 ∨ r25 = 1 then some r25 else none else if v1 = 6 then if v2 = (-2000000000) then some 1 else (f_M_isYard v2 m).bind fun r30 => if r30 = 0 then some 0 else some 1 else if v1 = 7 then (f_M_within (Int32.toInt64 v2) 1 99 m).bind fun r34 => if r34 = 0 ∨ r34 = 1 then some r34 else none else if v1 = 8 then (f_M_within (Int32.toInt64 v2) (-30) 30 m).bind fun r38 => if r38 = 0 ∨ r38 = 1 then some r38 else none else if v1 = 9 then (f_M_within (Int32.toInt64 v2) (-30) 30 m).bind fun r42 => if r42 = 0 ∨ r42 = 1 then some r42 else none else if v1 = 10 then (f_M_within (Int32.toInt64 v2) 1 9 m).bind fun r46 => if r46 = 0 ∨ r46 = 1 then some r46 else none else if v1 = 11 then (f_M_within (Int32.toInt64 v2) 0 1 m).bind fun r50 => if r50 = 0 ∨ r50 = 1 then some r50 else none else (f_M_within (Int32.toInt64 v2) (-30) 30 m).bind fun r53 => if r53 = 0 ∨ r53 = 1 then some r53 else none
theorem s_M_mayBecome (v1 : Int32) (v2 : Int32) (m : zx_M) {d : Nat} {y : Int32} (hf : f_M_mayBecome v1 v2 m = some y) : zx_Ev (d + 2) 172 0 [some (.ref 0), some (.int v1), some (.int v2)] [] (zx_SM, m) (some (.int y), (zx_SM, m)) := by
  unfold f_M_mayBecome at hf
  refine zx_ev_blk zk_172 1 (pc1 := 1) (L1 := [some (.ref 0), some (.int v1), some (.int v2)]) (st1 := [.int v1]) (h1 := (zx_SM, m)) rfl ?_
  by_cases c1 : v1 = 0
  · rw [if_pos c1] at hf
    refine zx_ev_tsw zk_172 rfl rfl (zx_pick_hit c1) rfl ?_
    refine zx_ev_blk zk_172 4 (pc1 := 70) (L1 := [some (.ref 0), some (.int v1), some (.int v2)]) (st1 := [.long 9, .long 1, .long (Int32.toInt64 v2)]) (h1 := (zx_SM, m)) rfl ?_
    obtain ⟨r3, hv2, hf⟩ := zx_bind_eq hf
    refine zx_ev_call (d := d + 1) zk_172 (v := some (.int r3)) (h1 := (zx_SM, m)) rfl rfl zt_157 rfl zx_SMn rfl rfl (s_M_within _ _ _ _ (d := d + 1) hv2) ?_
    by_cases c4 : r3 = 0 ∨ r3 = 1
    · rw [if_pos c4] at hf
      obtain rfl := Option.some.inj hf
      exact zx_ev_ret zk_172 rfl (zx_ret_z c4)
    · rw [if_neg c4] at hf; cases hf
  · rw [if_neg c1] at hf
    by_cases c5 : v1 = 1
    · rw [if_pos c5] at hf
      refine zx_ev_tsw zk_172 rfl rfl (zx_pick_miss c1 (zx_pick_hit c5)) rfl ?_
      refine zx_ev_blk zk_172 4 (pc1 := 80) (L1 := [some (.ref 0), some (.int v1), some (.int v2)]) (st1 := [.long 9, .long 0, .long (Int32.toInt64 v2)]) (h1 := (zx_SM, m)) rfl ?_
      obtain ⟨r7, hv6, hf⟩ := zx_bind_eq hf
      refine zx_ev_call (d := d + 1) zk_172 (v := some (.int r7)) (h1 := (zx_SM, m)) rfl rfl zt_157 rfl zx_SMn rfl rfl (s_M_within _ _ _ _ (d := d + 1) hv6) ?_
      by_cases c8 : r7 = 0 ∨ r7 = 1
      · rw [if_pos c8] at hf
        obtain rfl := Option.some.inj hf
        exact zx_ev_ret zk_172 rfl (zx_ret_z c8)
      · rw [if_neg c8] at hf; cases hf
    · rw [if_neg c5] at hf
      by_cases c9 : v1 = 2
      · rw [if_pos c9] at hf
        refine zx_ev_tsw zk_172 rfl rfl (zx_pick_miss c1 (zx_pick_miss c5 (zx_pick_hit c9))) rfl ?_
        refine zx_ev_blk zk_172 4 (pc1 := 88) (L1 := [some (.ref 0), some (.int v1), some (.int v2)]) (st1 := [.long 1, .long 0, .long (Int32.toInt64 v2)]) (h1 := (zx_SM, m)) rfl ?_
        obtain ⟨r11, hv10, hf⟩ := zx_bind_eq hf
        refine zx_ev_call (d := d + 1) zk_172 (v := some (.int r11)) (h1 := (zx_SM, m)) rfl rfl zt_157 rfl zx_SMn rfl rfl (s_M_within _ _ _ _ (d := d + 1) hv10) ?_
        by_cases c12 : r11 = 0 ∨ r11 = 1
        · rw [if_pos c12] at hf
          obtain rfl := Option.some.inj hf
          exact zx_ev_ret zk_172 rfl (zx_ret_z c12)
        · rw [if_neg c12] at hf; cases hf
      · rw [if_neg c9] at hf
        by_cases c13 : v1 = 3
        · rw [if_pos c13] at hf
          refine zx_ev_tsw zk_172 rfl rfl (zx_pick_miss c1 (zx_pick_miss c5 (zx_pick_miss c9 (zx_pick_hit c13)))) rfl ?_
          refine zx_ev_blk zk_172 4 (pc1 := 98) (L1 := [some (.ref 0), some (.int v1), some (.int v2)]) (st1 := [.long 12, .long 0, .long (Int32.toInt64 v2)]) (h1 := (zx_SM, m)) rfl ?_
          obtain ⟨r15, hv14, hf⟩ := zx_bind_eq hf
          refine zx_ev_call (d := d + 1) zk_172 (v := some (.int r15)) (h1 := (zx_SM, m)) rfl rfl zt_157 rfl zx_SMn rfl rfl (s_M_within _ _ _ _ (d := d + 1) hv14) ?_
          by_cases c16 : r15 = 0 ∨ r15 = 1
          · rw [if_pos c16] at hf
            obtain rfl := Option.some.inj hf
            exact zx_ev_ret zk_172 rfl (zx_ret_z c16)
          · rw [if_neg c16] at hf; cases hf
        · rw [if_neg c13] at hf
          by_cases c17 : v1 = 4
          · rw [if_pos c17] at hf
            refine zx_ev_tsw zk_172 rfl rfl (zx_pick_miss c1 (zx_pick_miss c5 (zx_pick_miss c9 (zx_pick_miss c13 (zx_pick_hit c17))))) rfl ?_
            refine zx_ev_blk zk_172 6 (pc1 := 113) (L1 := [some (.ref 0), some (.int v1), some (.int v2)]) (st1 := [.int 29, .ref 1, .long (-999), .long (Int32.toInt64 v2)]) (h1 := (zx_SM, m)) rfl ?_
            obtain ⟨j18, hj18, hf⟩ := zx_bind_eq hf
            refine zx_ev_step zk_172 rfl (st_iald rfl rfl hj18) ?_
            refine zx_ev_blk zk_172 1 (pc1 := 115) (L1 := [some (.ref 0), some (.int v1), some (.int v2)]) (st1 := [.long (Int32.toInt64 (m.1 1 j18)), .long (-999), .long (Int32.toInt64 v2)]) (h1 := (zx_SM, m)) rfl ?_
            obtain ⟨r20, hv19, hf⟩ := zx_bind_eq hf
            refine zx_ev_call (d := d + 1) zk_172 (v := some (.int r20)) (h1 := (zx_SM, m)) rfl rfl zt_157 rfl zx_SMn rfl rfl (s_M_within _ _ _ _ (d := d + 1) hv19) ?_
            by_cases c21 : r20 = 0 ∨ r20 = 1
            · rw [if_pos c21] at hf
              obtain rfl := Option.some.inj hf
              exact zx_ev_ret zk_172 rfl (zx_ret_z c21)
            · rw [if_neg c21] at hf; cases hf
          · rw [if_neg c17] at hf
            by_cases c22 : v1 = 5
            · rw [if_pos c22] at hf
              refine zx_ev_tsw zk_172 rfl rfl (zx_pick_miss c1 (zx_pick_miss c5 (zx_pick_miss c9 (zx_pick_miss c13 (zx_pick_miss c17 (zx_pick_hit c22)))))) rfl ?_
              refine zx_ev_blk zk_172 5 (pc1 := 127) (L1 := [some (.ref 0), some (.int v1), some (.int v2)]) (st1 := [.int 28, .ref 1, .long (Int32.toInt64 v2)]) (h1 := (zx_SM, m)) rfl ?_
              obtain ⟨j23, hj23, hf⟩ := zx_bind_eq hf
              refine zx_ev_step zk_172 rfl (st_iald rfl rfl hj23) ?_
              refine zx_ev_blk zk_172 2 (pc1 := 132) (L1 := [some (.ref 0), some (.int v1), some (.int v2)]) (st1 := [.long 999, .long (Int32.toInt64 (m.1 1 j23)), .long (Int32.toInt64 v2)]) (h1 := (zx_SM, m)) rfl ?_
              obtain ⟨r25, hv24, hf⟩ := zx_bind_eq hf
              refine zx_ev_call (d := d + 1) zk_172 (v := some (.int r25)) (h1 := (zx_SM, m)) rfl rfl zt_157 rfl zx_SMn rfl rfl (s_M_within _ _ _ _ (d := d + 1) hv24) ?_
              by_cases c26 : r25 = 0 ∨ r25 = 1
              · rw [if_pos c26] at hf
                obtain rfl := Option.some.inj hf
                exact zx_ev_ret zk_172 rfl (zx_ret_z c26)
              · rw [if_neg c26] at hf; cases hf
            · rw [if_neg c22] at hf
              by_cases c27 : v1 = 6
              · rw [if_pos c27] at hf
                refine zx_ev_tsw zk_172 rfl rfl (zx_pick_miss c1 (zx_pick_miss c5 (zx_pick_miss c9 (zx_pick_miss c13 (zx_pick_miss c17 (zx_pick_miss c22 (zx_pick_hit c27))))))) rfl ?_
                refine zx_ev_blk zk_172 2 (pc1 := 139) (L1 := [some (.ref 0), some (.int v1), some (.int v2)]) (st1 := [.int (-2000000000), .int v2]) (h1 := (zx_SM, m)) rfl ?_
                by_cases c28 : v2 = (-2000000000)
                · rw [if_pos c28] at hf
                  refine zx_ev_ift zk_172 (P := v2 = (-2000000000)) (t := 149) (f := 142) rfl rfl c28 ?_
                  refine zx_ev_blk zk_172 2 (pc1 := 154) (L1 := [some (.ref 0), some (.int v1), some (.int v2)]) (st1 := [.int 1]) (h1 := (zx_SM, m)) rfl ?_
                  obtain rfl := Option.some.inj hf
                  exact zx_ev_ret zk_172 rfl (zx_ret_z (Or.inr rfl))
                · rw [if_neg c28] at hf
                  refine zx_ev_ifn zk_172 (P := v2 = (-2000000000)) (t := 149) (f := 142) rfl rfl c28 ?_
                  refine zx_ev_blk zk_172 1 (pc1 := 143) (L1 := [some (.ref 0), some (.int v1), some (.int v2)]) (st1 := [.int v2]) (h1 := (zx_SM, m)) rfl ?_
                  obtain ⟨r30, hv29, hf⟩ := zx_bind_eq hf
                  refine zx_ev_call (d := d + 1) zk_172 (v := some (.int r30)) (h1 := (zx_SM, m)) rfl rfl zt_166 rfl zx_SMn rfl rfl (s_M_isYard _ _ (d := d + 0) hv29) ?_
                  by_cases c31 : r30 = 0
                  · rw [if_pos c31] at hf
                    refine zx_ev_ift zk_172 (P := r30 = 0) (t := 153) (f := 149) rfl rfl c31 ?_
                    refine zx_ev_blk zk_172 1 (pc1 := 154) (L1 := [some (.ref 0), some (.int v1), some (.int v2)]) (st1 := [.int 0]) (h1 := (zx_SM, m)) rfl ?_
                    obtain rfl := Option.some.inj hf
                    exact zx_ev_ret zk_172 rfl (zx_ret_z (Or.inl rfl))
                  · rw [if_neg c31] at hf
                    refine zx_ev_ifn zk_172 (P := r30 = 0) (t := 153) (f := 149) rfl rfl c31 ?_
                    refine zx_ev_blk zk_172 2 (pc1 := 154) (L1 := [some (.ref 0), some (.int v1), some (.int v2)]) (st1 := [.int 1]) (h1 := (zx_SM, m)) rfl ?_
                    obtain rfl := Option.some.inj hf
                    exact zx_ev_ret zk_172 rfl (zx_ret_z (Or.inr rfl))
              · rw [if_neg c27] at hf
                by_cases c32 : v1 = 7
                · rw [if_pos c32] at hf
                  refine zx_ev_tsw zk_172 rfl rfl (zx_pick_miss c1 (zx_pick_miss c5 (zx_pick_miss c9 (zx_pick_miss c13 (zx_pick_miss c17 (zx_pick_miss c22 (zx_pick_miss c27 (zx_pick_hit c32)))))))) rfl ?_
                  refine zx_ev_blk zk_172 4 (pc1 := 161) (L1 := [some (.ref 0), some (.int v1), some (.int v2)]) (st1 := [.long 99, .long 1, .long (Int32.toInt64 v2)]) (h1 := (zx_SM, m)) rfl ?_
                  obtain ⟨r34, hv33, hf⟩ := zx_bind_eq hf
                  refine zx_ev_call (d := d + 1) zk_172 (v := some (.int r34)) (h1 := (zx_SM, m)) rfl rfl zt_157 rfl zx_SMn rfl rfl (s_M_within _ _ _ _ (d := d + 1) hv33) ?_
                  by_cases c35 : r34 = 0 ∨ r34 = 1
                  · rw [if_pos c35] at hf
                    obtain rfl := Option.some.inj hf
                    exact zx_ev_ret zk_172 rfl (zx_ret_z c35)
                  · rw [if_neg c35] at hf; cases hf
                · rw [if_neg c32] at hf
                  by_cases c36 : v1 = 8
                  · rw [if_pos c36] at hf
                    refine zx_ev_tsw zk_172 rfl rfl (zx_pick_miss c1 (zx_pick_miss c5 (zx_pick_miss c9 (zx_pick_miss c13 (zx_pick_miss c17 (zx_pick_miss c22 (zx_pick_miss c27 (zx_pick_miss c32 (zx_pick_hit c36))))))))) rfl ?_
                    refine zx_ev_blk zk_172 4 (pc1 := 173) (L1 := [some (.ref 0), some (.int v1), some (.int v2)]) (st1 := [.long 30, .long (-30), .long (Int32.toInt64 v2)]) (h1 := (zx_SM, m)) rfl ?_
                    obtain ⟨r38, hv37, hf⟩ := zx_bind_eq hf
                    refine zx_ev_call (d := d + 1) zk_172 (v := some (.int r38)) (h1 := (zx_SM, m)) rfl rfl zt_157 rfl zx_SMn rfl rfl (s_M_within _ _ _ _ (d := d + 1) hv37) ?_
                    by_cases c39 : r38 = 0 ∨ r38 = 1
                    · rw [if_pos c39] at hf
                      obtain rfl := Option.some.inj hf
                      exact zx_ev_ret zk_172 rfl (zx_ret_z c39)
                    · rw [if_neg c39] at hf; cases hf
                  · rw [if_neg c36] at hf
                    by_cases c40 : v1 = 9
                    · rw [if_pos c40] at hf
                      refine zx_ev_tsw zk_172 rfl rfl (zx_pick_miss c1 (zx_pick_miss c5 (zx_pick_miss c9 (zx_pick_miss c13 (zx_pick_miss c17 (zx_pick_miss c22 (zx_pick_miss c27 (zx_pick_miss c32 (zx_pick_miss c36 (zx_pick_hit c40)))))))))) rfl ?_
                      refine zx_ev_blk zk_172 4 (pc1 := 173) (L1 := [some (.ref 0), some (.int v1), some (.int v2)]) (st1 := [.long 30, .long (-30), .long (Int32.toInt64 v2)]) (h1 := (zx_SM, m)) rfl ?_
                      obtain ⟨r42, hv41, hf⟩ := zx_bind_eq hf
                      refine zx_ev_call (d := d + 1) zk_172 (v := some (.int r42)) (h1 := (zx_SM, m)) rfl rfl zt_157 rfl zx_SMn rfl rfl (s_M_within _ _ _ _ (d := d + 1) hv41) ?_
                      by_cases c43 : r42 = 0 ∨ r42 = 1
                      · rw [if_pos c43] at hf
                        obtain rfl := Option.some.inj hf
                        exact zx_ev_ret zk_172 rfl (zx_ret_z c43)
                      · rw [if_neg c43] at hf; cases hf
                    · rw [if_neg c40] at hf
                      by_cases c44 : v1 = 10
                      · rw [if_pos c44] at hf
                        refine zx_ev_tsw zk_172 rfl rfl (zx_pick_miss c1 (zx_pick_miss c5 (zx_pick_miss c9 (zx_pick_miss c13 (zx_pick_miss c17 (zx_pick_miss c22 (zx_pick_miss c27 (zx_pick_miss c32 (zx_pick_miss c36 (zx_pick_miss c40 (zx_pick_hit c44))))))))))) rfl ?_
                        refine zx_ev_blk zk_172 4 (pc1 := 70) (L1 := [some (.ref 0), some (.int v1), some (.int v2)]) (st1 := [.long 9, .long 1, .long (Int32.toInt64 v2)]) (h1 := (zx_SM, m)) rfl ?_
                        obtain ⟨r46, hv45, hf⟩ := zx_bind_eq hf
                        refine zx_ev_call (d := d + 1) zk_172 (v := some (.int r46)) (h1 := (zx_SM, m)) rfl rfl zt_157 rfl zx_SMn rfl rfl (s_M_within _ _ _ _ (d := d + 1) hv45) ?_
                        by_cases c47 : r46 = 0 ∨ r46 = 1
                        · rw [if_pos c47] at hf
                          obtain rfl := Option.some.inj hf
                          exact zx_ev_ret zk_172 rfl (zx_ret_z c47)
                        · rw [if_neg c47] at hf; cases hf
                      · rw [if_neg c44] at hf
                        by_cases c48 : v1 = 11
                        · rw [if_pos c48] at hf
                          refine zx_ev_tsw zk_172 rfl rfl (zx_pick_miss c1 (zx_pick_miss c5 (zx_pick_miss c9 (zx_pick_miss c13 (zx_pick_miss c17 (zx_pick_miss c22 (zx_pick_miss c27 (zx_pick_miss c32 (zx_pick_miss c36 (zx_pick_miss c40 (zx_pick_miss c44 (zx_pick_hit c48)))))))))))) rfl ?_
                          refine zx_ev_blk zk_172 4 (pc1 := 88) (L1 := [some (.ref 0), some (.int v1), some (.int v2)]) (st1 := [.long 1, .long 0, .long (Int32.toInt64 v2)]) (h1 := (zx_SM, m)) rfl ?_
                          obtain ⟨r50, hv49, hf⟩ := zx_bind_eq hf
                          refine zx_ev_call (d := d + 1) zk_172 (v := some (.int r50)) (h1 := (zx_SM, m)) rfl rfl zt_157 rfl zx_SMn rfl rfl (s_M_within _ _ _ _ (d := d + 1) hv49) ?_
                          by_cases c51 : r50 = 0 ∨ r50 = 1
                          · rw [if_pos c51] at hf
                            obtain rfl := Option.some.inj hf
                            exact zx_ev_ret zk_172 rfl (zx_ret_z c51)
                          · rw [if_neg c51] at hf; cases hf
                        · rw [if_neg c48] at hf
                          refine zx_ev_tsw zk_172 rfl rfl (zx_pick_miss c1 (zx_pick_miss c5 (zx_pick_miss c9 (zx_pick_miss c13 (zx_pick_miss c17 (zx_pick_miss c22 (zx_pick_miss c27 (zx_pick_miss c32 (zx_pick_miss c36 (zx_pick_miss c40 (zx_pick_miss c44 (zx_pick_miss c48 rfl)))))))))))) rfl ?_
                          refine zx_ev_blk zk_172 4 (pc1 := 173) (L1 := [some (.ref 0), some (.int v1), some (.int v2)]) (st1 := [.long 30, .long (-30), .long (Int32.toInt64 v2)]) (h1 := (zx_SM, m)) rfl ?_
                          obtain ⟨r53, hv52, hf⟩ := zx_bind_eq hf
                          refine zx_ev_call (d := d + 1) zk_172 (v := some (.int r53)) (h1 := (zx_SM, m)) rfl rfl zt_157 rfl zx_SMn rfl rfl (s_M_within _ _ _ _ (d := d + 1) hv52) ?_
                          by_cases c54 : r53 = 0 ∨ r53 = 1
                          · rw [if_pos c54] at hf
                            obtain rfl := Option.some.inj hf
                            exact zx_ev_ret zk_172 rfl (zx_ret_z c54)
                          · rw [if_neg c54] at hf; cases hf
def n_M_becomes_n97 (v1 : Int32) (v2 : Int32) (v3 : Int32) (m : zx_M) : Option (Int32 × zx_M) := (zx_ix 40 (m.1 0 5)).bind fun j5 => zx_let (zx_u1 m 2 j5 v1) fun m6 => (zx_ix 40 (m6.1 0 5)).bind fun j7 => zx_let (zx_u1 m6 3 j7 v3) fun m8 => (zx_ix 40 (m8.1 0 5)).bind fun j9 => zx_let (zx_u1 m8 4 j9 v2) fun m10 => zx_let (zx_u1 m10 0 5 ((m10.1 0 5) + 1)) fun m11 => zx_let (zx_u1 m11 0 4 (m11.1 0 5)) fun m12 => (zx_ix 36 v1).bind fun j13 => zx_let (zx_u1 m12 1 j13 v2) fun m14 => some (v3, m14)
theorem e_M_becomes_n97 (v1 : Int32) (v2 : Int32) (v3 : Int32) (m : zx_M) {d : Nat} {y : (Int32 × zx_M)} (hf : n_M_becomes_n97 v1 v2 v3 m = some y) : zx_Ev (d) 161 97 [some (.ref 0), some (.int v1), some (.int v2), some (.int v3), none] [] (zx_SM, m) (some (.int y.1), (zx_SM, y.2)) := by
  unfold n_M_becomes_n97 at hf
  refine zx_ev_blk zk_161 5 (pc1 := 106) (L1 := [some (.ref 0), some (.int v1), some (.int v2), some (.int v3), none]) (st1 := [.int v1, .int (m.1 0 5), .ref 2]) (h1 := (zx_SM, m)) rfl ?_
  obtain ⟨j5, hj5, hf⟩ := zx_bind_eq hf
  refine zx_ev_step zk_161 rfl (st_iast rfl hj5) ?_
  obtain ⟨m6, hm6, hf⟩ := zx_let_eq hf
  rw [hm6]
  refine zx_ev_blk zk_161 5 (pc1 := 116) (L1 := [some (.ref 0), some (.int v1), some (.int v2), some (.int v3), none]) (st1 := [.int v3, .int (m6.1 0 5), .ref 3]) (h1 := (zx_SM, m6)) rfl ?_
  obtain ⟨j7, hj7, hf⟩ := zx_bind_eq hf
  refine zx_ev_step zk_161 rfl (st_iast rfl hj7) ?_
  obtain ⟨m8, hm8, hf⟩ := zx_let_eq hf
  rw [hm8]
  refine zx_ev_blk zk_161 5 (pc1 := 126) (L1 := [some (.ref 0), some (.int v1), some (.int v2), some (.int v3), none]) (st1 := [.int v2, .int (m8.1 0 5), .ref 4]) (h1 := (zx_SM, m8)) rfl ?_
  obtain ⟨j9, hj9, hf⟩ := zx_bind_eq hf
  refine zx_ev_step zk_161 rfl (st_iast rfl hj9) ?_
  obtain ⟨m10, hm10, hf⟩ := zx_let_eq hf
  rw [hm10]
  obtain ⟨m11, hm11, hf⟩ := zx_let_eq hf
  obtain ⟨m12, hm12, hf⟩ := zx_let_eq hf
  refine zx_ev_blk zk_161 14 (pc1 := 151) (L1 := [some (.ref 0), some (.int v1), some (.int v2), some (.int v3), none]) (st1 := [.int v2, .int v1, .ref 1]) (h1 := (zx_SM, m12)) (by subst hm11; subst hm12; rfl) ?_
  obtain ⟨j13, hj13, hf⟩ := zx_bind_eq hf
  refine zx_ev_step zk_161 rfl (st_iast rfl hj13) ?_
  obtain ⟨m14, hm14, hf⟩ := zx_let_eq hf
  rw [hm14]
  refine zx_ev_blk zk_161 1 (pc1 := 153) (L1 := [some (.ref 0), some (.int v1), some (.int v2), some (.int v3), none]) (st1 := [.int v3]) (h1 := (zx_SM, m14)) rfl ?_
  obtain rfl := Option.some.inj hf
  exact zx_ev_ret zk_161 rfl rfl
def kx_M_becomes_l26 (v1 : Int32) (v2 : Int32) (v3 : Int32) (d : Nat) (out : Option Value × zx_H) : zx_M → Prop
  | m => zx_Ev (d) 161 87 [some (.ref 0), some (.int v1), some (.int v2), some (.int v3), none] [] (zx_SM, m) out
def kl_M_becomes_l26 (v1 : Int32) (v2 : Int32) (v3 : Int32) (d : Nat) (out : Option Value × zx_H) : (Int32 × zx_M) ⊕ (zx_M) → Prop
  | .inl (v4, m) => zx_Ev (d) 161 26 [some (.ref 0), some (.int v1), some (.int v2), some (.int v3), some (.int v4)] [] (zx_SM, m) out
  | .inr x => kx_M_becomes_l26 v1 v2 v3 d out x
def b_M_becomes_l26 (v1 : Int32) (v2 : Int32) (v3 : Int32) (v4 : Int32) (m : zx_M) : Option ((Int32 × zx_M) ⊕ (zx_M)) := if 40 ≤ v4 then some (.inr m) else (zx_ix 40 v4).bind fun j16 => (zx_ix 40 (v4 - 1)).bind fun j17 => zx_let (zx_u1 m 2 j17 (m.1 2 j16)) fun m18 => (zx_ix 40 v4).bind fun j19 => (zx_ix 40 (v4 - 1)).bind fun j20 => zx_let (zx_u1 m18 3 j20 (m18.1 3 j19)) fun m21 => (zx_ix 40 v4).bind fun j22 => (zx_ix 40 (v4 - 1)).bind fun j23 => zx_let (zx_u1 m21 4 j23 (m21.1 4 j22)) fun m24 => zx_let (v4 + 1) fun a25 => some (.inl (a25, m24))
theorem eb_M_becomes_l26 (v1 : Int32) (v2 : Int32) (v3 : Int32) (v4 : Int32) (m : zx_M) {d : Nat} {out : Option Value × zx_H} {y : (Int32 × zx_M) ⊕ (zx_M)} (hf : b_M_becomes_l26 v1 v2 v3 v4 m = some y) (hK : kl_M_becomes_l26 v1 v2 v3 d out y) : zx_Ev (d) 161 26 [some (.ref 0), some (.int v1), some (.int v2), some (.int v3), some (.int v4)] [] (zx_SM, m) out := by
  unfold b_M_becomes_l26 at hf
  refine zx_ev_blk zk_161 2 (pc1 := 30) (L1 := [some (.ref 0), some (.int v1), some (.int v2), some (.int v3), some (.int v4)]) (st1 := [.int 40, .int v4]) (h1 := (zx_SM, m)) rfl ?_
  by_cases c15 : 40 ≤ v4
  · rw [if_pos c15] at hf
    refine zx_ev_ift zk_161 (P := 40 ≤ v4) (t := 87) (f := 33) rfl rfl c15 ?_
    obtain rfl := Option.some.inj hf
    exact zx_ev_sub (L := [some (.ref 0), some (.int v1), some (.int v2), some (.int v3), none]) (⟨rfl, ⟨rfl, ⟨rfl, ⟨rfl, ⟨trivial, trivial⟩⟩⟩⟩⟩) hK
  · rw [if_neg c15] at hf
    refine zx_ev_ifn zk_161 (P := 40 ≤ v4) (t := 87) (f := 33) rfl rfl c15 ?_
    refine zx_ev_blk zk_161 8 (pc1 := 47) (L1 := [some (.ref 0), some (.int v1), some (.int v2), some (.int v3), some (.int v4)]) (st1 := [.int v4, .ref 2, .int (v4 - 1), .ref 2]) (h1 := (zx_SM, m)) rfl ?_
    obtain ⟨j16, hj16, hf⟩ := zx_bind_eq hf
    refine zx_ev_step zk_161 rfl (st_iald rfl rfl hj16) ?_
    obtain ⟨j17, hj17, hf⟩ := zx_bind_eq hf
    refine zx_ev_step zk_161 rfl (st_iast rfl hj17) ?_
    obtain ⟨m18, hm18, hf⟩ := zx_let_eq hf
    rw [hm18]
    refine zx_ev_blk zk_161 8 (pc1 := 63) (L1 := [some (.ref 0), some (.int v1), some (.int v2), some (.int v3), some (.int v4)]) (st1 := [.int v4, .ref 3, .int (v4 - 1), .ref 3]) (h1 := (zx_SM, m18)) rfl ?_
    obtain ⟨j19, hj19, hf⟩ := zx_bind_eq hf
    refine zx_ev_step zk_161 rfl (st_iald rfl rfl hj19) ?_
    obtain ⟨j20, hj20, hf⟩ := zx_bind_eq hf
    refine zx_ev_step zk_161 rfl (st_iast rfl hj20) ?_
    obtain ⟨m21, hm21, hf⟩ := zx_let_eq hf
    rw [hm21]
    refine zx_ev_blk zk_161 8 (pc1 := 79) (L1 := [some (.ref 0), some (.int v1), some (.int v2), some (.int v3), some (.int v4)]) (st1 := [.int v4, .ref 4, .int (v4 - 1), .ref 4]) (h1 := (zx_SM, m21)) rfl ?_
    obtain ⟨j22, hj22, hf⟩ := zx_bind_eq hf
    refine zx_ev_step zk_161 rfl (st_iald rfl rfl hj22) ?_
    obtain ⟨j23, hj23, hf⟩ := zx_bind_eq hf
    refine zx_ev_step zk_161 rfl (st_iast rfl hj23) ?_
    obtain ⟨m24, hm24, hf⟩ := zx_let_eq hf
    rw [hm24]
    obtain ⟨a25, ha25, hf⟩ := zx_let_eq hf
    refine zx_ev_blk zk_161 2 (pc1 := 26) (L1 := [some (.ref 0), some (.int v1), some (.int v2), some (.int v3), some (.int a25)]) (st1 := []) (h1 := (zx_SM, m24)) (by subst ha25; rfl) ?_
    obtain rfl := Option.some.inj hf
    exact zx_ev_sub (L := [some (.ref 0), some (.int v1), some (.int v2), some (.int v3), some (.int a25)]) (⟨rfl, ⟨rfl, ⟨rfl, ⟨rfl, ⟨rfl, trivial⟩⟩⟩⟩⟩) hK
def l_M_becomes_l26 (v1 : Int32) (v2 : Int32) (v3 : Int32) (s0 : Int32 × zx_M) : Option (zx_M) := zx_lp zx_N (fun s : Int32 × zx_M => b_M_becomes_l26 v1 v2 v3 s.1 s.2) s0
theorem el_M_becomes_l26 (v1 : Int32) (v2 : Int32) (v3 : Int32) {d : Nat} {out : Option Value × zx_H} : ∀ (n : Nat) (s : Int32 × zx_M) (x : zx_M), zx_lp n (fun s : Int32 × zx_M => b_M_becomes_l26 v1 v2 v3 s.1 s.2) s = some x → kx_M_becomes_l26 v1 v2 v3 d out x → zx_Ev (d) 161 26 [some (.ref 0), some (.int v1), some (.int v2), some (.int v3), some (.int s.1)] [] (zx_SM, s.2) out := by
  intro n
  induction n with
  | zero => intro s x hl _; simp [zx_lp] at hl
  | succ n ih =>
    intro s x hl hx
    unfold zx_lp at hl
    cases hb : b_M_becomes_l26 v1 v2 v3 s.1 s.2 with
    | none => simp only [hb] at hl; cases hl
    | some z =>
      simp only [hb] at hl
      cases z with
      | inl s1 => exact eb_M_becomes_l26 v1 v2 v3 s.1 s.2 hb (ih s1 x hl hx)
      | inr t =>
        simp only [Option.some.injEq] at hl
        subst hl
        exact eb_M_becomes_l26 v1 v2 v3 s.1 s.2 hb hx
def f_M_becomes (v1 : Int32) (v2 : Int32) (m : zx_M) : Option (Int32 × zx_M) := (zx_ix 36 v1).bind fun j1 => zx_let (m.1 1 j1) fun a2 => if ¬ a2 = v2 then if ¬ (m.1 0 5) = 40 then n_M_becomes_n97 v1 v2 a2 m else (l_M_becomes_l26 v1 v2 a2 (1, m)).bind fun x26 => zx_let x26 fun m27 => zx_let (zx_u1 m27 0 5 ((m27.1 0 5) - 1)) fun m28 => n_M_becomes_n97 v1 v2 a2 m28 else some (a2, m)
theorem s_M_becomes (v1 : Int32) (v2 : Int32) (m : zx_M) {d : Nat} {y : (Int32 × zx_M)} (hf : f_M_becomes v1 v2 m = some y) : zx_Ev (d) 161 0 [some (.ref 0), some (.int v1), some (.int v2), none, none] [] (zx_SM, m) (some (.int y.1), (zx_SM, y.2)) := by
  unfold f_M_becomes at hf
  refine zx_ev_blk zk_161 3 (pc1 := 5) (L1 := [some (.ref 0), some (.int v1), some (.int v2), none, none]) (st1 := [.int v1, .ref 1]) (h1 := (zx_SM, m)) rfl ?_
  obtain ⟨j1, hj1, hf⟩ := zx_bind_eq hf
  refine zx_ev_step zk_161 rfl (st_iald rfl rfl hj1) ?_
  obtain ⟨a2, ha2, hf⟩ := zx_let_eq hf
  refine zx_ev_blk zk_161 3 (pc1 := 9) (L1 := [some (.ref 0), some (.int v1), some (.int v2), some (.int a2), none]) (st1 := [.int v2, .int a2]) (h1 := (zx_SM, m)) (by subst ha2; rfl) ?_
  by_cases c3 : ¬ a2 = v2
  · rw [if_pos c3] at hf
    refine zx_ev_ift zk_161 (P := ¬ a2 = v2) (t := 14) (f := 12) rfl rfl c3 ?_
    refine zx_ev_blk zk_161 3 (pc1 := 20) (L1 := [some (.ref 0), some (.int v1), some (.int v2), some (.int a2), none]) (st1 := [.int 40, .int (m.1 0 5)]) (h1 := (zx_SM, m)) rfl ?_
    by_cases c4 : ¬ (m.1 0 5) = 40
    · rw [if_pos c4] at hf
      refine zx_ev_ift zk_161 (P := ¬ (m.1 0 5) = 40) (t := 97) (f := 23) rfl rfl c4 ?_
      exact zx_ev_sub (L := [some (.ref 0), some (.int v1), some (.int v2), some (.int a2), none]) (⟨rfl, ⟨rfl, ⟨rfl, ⟨rfl, trivial⟩⟩⟩⟩) (e_M_becomes_n97 v1 v2 a2 m hf)
    · rw [if_neg c4] at hf
      refine zx_ev_ifn zk_161 (P := ¬ (m.1 0 5) = 40) (t := 97) (f := 23) rfl rfl c4 ?_
      refine zx_ev_blk zk_161 2 (pc1 := 26) (L1 := [some (.ref 0), some (.int v1), some (.int v2), some (.int a2), some (.int 1)]) (st1 := []) (h1 := (zx_SM, m)) rfl ?_
      obtain ⟨x26, hx26, hf⟩ := zx_bind_eq hf
      refine zx_ev_sub (L := [some (.ref 0), some (.int v1), some (.int v2), some (.int a2), some (.int 1)]) (⟨rfl, ⟨rfl, ⟨rfl, ⟨rfl, ⟨rfl, trivial⟩⟩⟩⟩⟩) (el_M_becomes_l26 v1 v2 a2 zx_N (1, m) x26 hx26 ?_)
      obtain ⟨m27, hm27, hf⟩ := zx_let_eq hf
      subst hm27
      show zx_Ev (d) 161 87 [some (.ref 0), some (.int v1), some (.int v2), some (.int a2), none] [] (zx_SM, x26) _
      obtain ⟨m28, hm28, hf⟩ := zx_let_eq hf
      refine zx_ev_blk zk_161 6 (pc1 := 97) (L1 := [some (.ref 0), some (.int v1), some (.int v2), some (.int a2), none]) (st1 := []) (h1 := (zx_SM, m28)) (by subst hm28; rfl) ?_
      exact zx_ev_sub (L := [some (.ref 0), some (.int v1), some (.int v2), some (.int a2), none]) (⟨rfl, ⟨rfl, ⟨rfl, ⟨rfl, trivial⟩⟩⟩⟩) (e_M_becomes_n97 v1 v2 a2 m28 hf)
  · rw [if_neg c3] at hf
    refine zx_ev_ifn zk_161 (P := ¬ a2 = v2) (t := 14) (f := 12) rfl rfl c3 ?_
    refine zx_ev_blk zk_161 1 (pc1 := 13) (L1 := [some (.ref 0), some (.int v1), some (.int v2), some (.int a2), none]) (st1 := [.int a2]) (h1 := (zx_SM, m)) rfl ?_
    obtain rfl := Option.some.inj hf
    exact zx_ev_ret zk_161 rfl rfl
def f_M_mend (v1 : Int32) (v2 : Int32) (v3 : Int32) (m : zx_M) : Option (Int32 × zx_M) := (f_M_placeOf v1 v2 m).bind fun r2 => if r2 < 0 then some ((-3000), m) else (f_M_mayBecome v2 v3 m).bind fun r5 => if r5 = 0 then some ((-3000), m) else (f_M_becomes r2 v3 m).bind fun (r8, m9) => some (r8, m9)
theorem s_M_mend (v1 : Int32) (v2 : Int32) (v3 : Int32) (m : zx_M) {d : Nat} {y : (Int32 × zx_M)} (hf : f_M_mend v1 v2 v3 m = some y) : zx_Ev (d + 3) 173 0 [some (.ref 0), some (.int v1), some (.int v2), some (.int v3), none] [] (zx_SM, m) (some (.int y.1), (zx_SM, y.2)) := by
  unfold f_M_mend at hf
  refine zx_ev_blk zk_173 3 (pc1 := 3) (L1 := [some (.ref 0), some (.int v1), some (.int v2), some (.int v3), none]) (st1 := [.int v2, .int v1, .ref 0]) (h1 := (zx_SM, m)) rfl ?_
  obtain ⟨r2, hv1, hf⟩ := zx_bind_eq hf
  refine zx_ev_call (d := d + 2) zk_173 (v := some (.int r2)) (h1 := (zx_SM, m)) rfl rfl zt_171 rfl zx_SMn rfl rfl (s_M_placeOf _ _ _ (d := d + 0) hv1) ?_
  refine zx_ev_blk zk_173 2 (pc1 := 10) (L1 := [some (.ref 0), some (.int v1), some (.int v2), some (.int v3), some (.int r2)]) (st1 := [.int r2]) (h1 := (zx_SM, m)) rfl ?_
  by_cases c3 : r2 < 0
  · rw [if_pos c3] at hf
    refine zx_ev_ift zk_173 (P := r2 < 0) (t := 32) (f := 13) rfl rfl c3 ?_
    refine zx_ev_blk zk_173 1 (pc1 := 35) (L1 := [some (.ref 0), some (.int v1), some (.int v2), some (.int v3), some (.int r2)]) (st1 := [.int (-3000)]) (h1 := (zx_SM, m)) rfl ?_
    obtain rfl := Option.some.inj hf
    exact zx_ev_ret zk_173 rfl rfl
  · rw [if_neg c3] at hf
    refine zx_ev_ifn zk_173 (P := r2 < 0) (t := 32) (f := 13) rfl rfl c3 ?_
    refine zx_ev_blk zk_173 3 (pc1 := 16) (L1 := [some (.ref 0), some (.int v1), some (.int v2), some (.int v3), some (.int r2)]) (st1 := [.int v3, .int v2, .ref 0]) (h1 := (zx_SM, m)) rfl ?_
    obtain ⟨r5, hv4, hf⟩ := zx_bind_eq hf
    refine zx_ev_call (d := d + 2) zk_173 (v := some (.int r5)) (h1 := (zx_SM, m)) rfl rfl zt_172 rfl zx_SMn rfl rfl (s_M_mayBecome _ _ _ (d := d + 0) hv4) ?_
    by_cases c6 : r5 = 0
    · rw [if_pos c6] at hf
      refine zx_ev_ift zk_173 (P := r5 = 0) (t := 32) (f := 22) rfl rfl c6 ?_
      refine zx_ev_blk zk_173 1 (pc1 := 35) (L1 := [some (.ref 0), some (.int v1), some (.int v2), some (.int v3), some (.int r2)]) (st1 := [.int (-3000)]) (h1 := (zx_SM, m)) rfl ?_
      obtain rfl := Option.some.inj hf
      exact zx_ev_ret zk_173 rfl rfl
    · rw [if_neg c6] at hf
      refine zx_ev_ifn zk_173 (P := r5 = 0) (t := 32) (f := 22) rfl rfl c6 ?_
      refine zx_ev_blk zk_173 3 (pc1 := 26) (L1 := [some (.ref 0), some (.int v1), some (.int v2), some (.int v3), some (.int r2)]) (st1 := [.int v3, .int r2, .ref 0]) (h1 := (zx_SM, m)) rfl ?_
      obtain ⟨⟨r8, m9⟩, hv7, hf⟩ := zx_bind_eq hf
      dsimp only at hf
      refine zx_ev_call (d := d + 2) zk_173 (v := some (.int r8)) (h1 := (zx_SM, m9)) rfl rfl zt_161 rfl zx_SMn rfl rfl (s_M_becomes _ _ _ (d := d + 2) hv7) ?_
      refine zx_ev_blk zk_173 1 (pc1 := 35) (L1 := [some (.ref 0), some (.int v1), some (.int v2), some (.int v3), some (.int r2)]) (st1 := [.int r8]) (h1 := (zx_SM, m9)) rfl ?_
      obtain rfl := Option.some.inj hf
      exact zx_ev_ret zk_173 rfl rfl
def f_M_of (v1 : Int32) (v2 : Int32) (m : zx_M) : Option Int32 := (f_M_placeOf v1 v2 m).bind fun r2 => if r2 < 0 then some (-3000) else (zx_ix 36 r2).bind fun j4 => some (m.1 1 j4)
theorem s_M_of (v1 : Int32) (v2 : Int32) (m : zx_M) {d : Nat} {y : Int32} (hf : f_M_of v1 v2 m = some y) : zx_Ev (d + 3) 174 0 [some (.ref 0), some (.int v1), some (.int v2), none] [] (zx_SM, m) (some (.int y), (zx_SM, m)) := by
  unfold f_M_of at hf
  refine zx_ev_blk zk_174 3 (pc1 := 3) (L1 := [some (.ref 0), some (.int v1), some (.int v2), none]) (st1 := [.int v2, .int v1, .ref 0]) (h1 := (zx_SM, m)) rfl ?_
  obtain ⟨r2, hv1, hf⟩ := zx_bind_eq hf
  refine zx_ev_call (d := d + 2) zk_174 (v := some (.int r2)) (h1 := (zx_SM, m)) rfl rfl zt_171 rfl zx_SMn rfl rfl (s_M_placeOf _ _ _ (d := d + 0) hv1) ?_
  refine zx_ev_blk zk_174 2 (pc1 := 8) (L1 := [some (.ref 0), some (.int v1), some (.int v2), some (.int r2)]) (st1 := [.int r2]) (h1 := (zx_SM, m)) rfl ?_
  by_cases c3 : r2 < 0
  · rw [if_pos c3] at hf
    refine zx_ev_ift zk_174 (P := r2 < 0) (t := 20) (f := 11) rfl rfl c3 ?_
    refine zx_ev_blk zk_174 1 (pc1 := 23) (L1 := [some (.ref 0), some (.int v1), some (.int v2), some (.int r2)]) (st1 := [.int (-3000)]) (h1 := (zx_SM, m)) rfl ?_
    obtain rfl := Option.some.inj hf
    exact zx_ev_ret zk_174 rfl rfl
  · rw [if_neg c3] at hf
    refine zx_ev_ifn zk_174 (P := r2 < 0) (t := 20) (f := 11) rfl rfl c3 ?_
    refine zx_ev_blk zk_174 3 (pc1 := 16) (L1 := [some (.ref 0), some (.int v1), some (.int v2), some (.int r2)]) (st1 := [.int r2, .ref 1]) (h1 := (zx_SM, m)) rfl ?_
    obtain ⟨j4, hj4, hf⟩ := zx_bind_eq hf
    refine zx_ev_step zk_174 rfl (st_iald rfl rfl hj4) ?_
    refine zx_ev_blk zk_174 1 (pc1 := 23) (L1 := [some (.ref 0), some (.int v1), some (.int v2), some (.int r2)]) (st1 := [.int (m.1 1 j4)]) (h1 := (zx_SM, m)) rfl ?_
    obtain rfl := Option.some.inj hf
    exact zx_ev_ret zk_174 rfl rfl
abbrev GT_ordersOn_m : Type := (Int32 → Int32 → Int32 → zx_M → Option zx_M)
def GH_ordersOn_m (d : Nat) (g : GT_ordersOn_m) : Prop := (∀ (v1 : Int32) (v2 : Int32) (v3 : Int32) (m : zx_M) (y : zx_M), g v1 v2 v3 m = some y → zx_Ev d 210 0 [some (.ref 0), some (.int v1), some (.int v2), some (.int v3), none, none] [] (zx_SM, m) (none, (zx_SM, y)))
def kx_M_ordersOn_l66 (v1 : Int32) (v2 : Int32) (v3 : Int32) (d : Nat) (out : Option Value × zx_H) : zx_M → Prop
  | y => out = (none, (zx_SM, y))
def kl_M_ordersOn_l66 (v1 : Int32) (v2 : Int32) (v3 : Int32) (d : Nat) (out : Option Value × zx_H) : (Int32 × zx_M) ⊕ (zx_M) → Prop
  | .inl (v4, m) => zx_Ev (d + 4) 210 66 [some (.ref 0), some (.int v1), some (.int v2), some (.int v3), some (.int v4), none] [] (zx_SM, m) out
  | .inr x => kx_M_ordersOn_l66 v1 v2 v3 d out x
def n_M_ordersOn_b66_106 (g : GT_ordersOn_m) (v1 : Int32) (v2 : Int32) (v3 : Int32) (v4 : Int32) (m : zx_M) : Option ((Int32 × zx_M) ⊕ (zx_M)) := zx_let (v4 + 1) fun a6 => some (.inl (a6, m))
theorem e_M_ordersOn_b66_106 (g : GT_ordersOn_m) (v1 : Int32) (v2 : Int32) (v3 : Int32) (v4 : Int32) (m : zx_M) {d : Nat} (hg : GH_ordersOn_m (d + 3) g) {out : Option Value × zx_H} {y : (Int32 × zx_M) ⊕ (zx_M)} (hf : n_M_ordersOn_b66_106 g v1 v2 v3 v4 m = some y) (hK : kl_M_ordersOn_l66 v1 v2 v3 d out y) : zx_Ev (d + 4) 210 106 [some (.ref 0), some (.int v1), some (.int v2), some (.int v3), some (.int v4), none] [] (zx_SM, m) out := by
  unfold n_M_ordersOn_b66_106 at hf
  obtain ⟨a6, ha6, hf⟩ := zx_let_eq hf
  refine zx_ev_blk zk_210 2 (pc1 := 66) (L1 := [some (.ref 0), some (.int v1), some (.int v2), some (.int v3), some (.int a6), none]) (st1 := []) (h1 := (zx_SM, m)) (by subst ha6; rfl) ?_
  obtain rfl := Option.some.inj hf
  exact zx_ev_sub (L := [some (.ref 0), some (.int v1), some (.int v2), some (.int v3), some (.int a6), none]) (⟨rfl, ⟨rfl, ⟨rfl, ⟨rfl, ⟨rfl, trivial⟩⟩⟩⟩⟩) hK
def b_M_ordersOn_l66 (g : GT_ordersOn_m) (v1 : Int32) (v2 : Int32) (v3 : Int32) (v4 : Int32) (m : zx_M) : Option ((Int32 × zx_M) ⊕ (zx_M)) := if (m.1 0 6) ≤ v4 then some (.inr m) else (f_M_isIn v2 v4 m).bind fun r4 => if ¬ r4 = 0 then n_M_ordersOn_b66_106 g v1 v2 v3 v4 m else (zx_ix 7 v1).bind fun j7 => zx_let (zx_u1 m 8 j7 v4) fun m8 => (g (v1 + 1) (v2 ||| (zx_shl 1 v4)) v3 m8).bind fun m10 => n_M_ordersOn_b66_106 g v1 v2 v3 v4 m10
theorem eb_M_ordersOn_l66 (g : GT_ordersOn_m) (v1 : Int32) (v2 : Int32) (v3 : Int32) (v4 : Int32) (m : zx_M) {d : Nat} (hg : GH_ordersOn_m (d + 3) g) {out : Option Value × zx_H} {y : (Int32 × zx_M) ⊕ (zx_M)} (hf : b_M_ordersOn_l66 g v1 v2 v3 v4 m = some y) (hK : kl_M_ordersOn_l66 v1 v2 v3 d out y) : zx_Ev (d + 4) 210 66 [some (.ref 0), some (.int v1), some (.int v2), some (.int v3), some (.int v4), none] [] (zx_SM, m) out := by
  unfold b_M_ordersOn_l66 at hf
  refine zx_ev_blk zk_210 3 (pc1 := 72) (L1 := [some (.ref 0), some (.int v1), some (.int v2), some (.int v3), some (.int v4), none]) (st1 := [.int (m.1 0 6), .int v4]) (h1 := (zx_SM, m)) rfl ?_
  by_cases c2 : (m.1 0 6) ≤ v4
  · rw [if_pos c2] at hf
    refine zx_ev_ift zk_210 (P := (m.1 0 6) ≤ v4) (t := 112) (f := 75) rfl rfl c2 ?_
    obtain rfl := Option.some.inj hf
    rw [show out = _ from hK]
    exact zx_ev_ret zk_210 rfl rfl
  · rw [if_neg c2] at hf
    refine zx_ev_ifn zk_210 (P := (m.1 0 6) ≤ v4) (t := 112) (f := 75) rfl rfl c2 ?_
    refine zx_ev_blk zk_210 2 (pc1 := 78) (L1 := [some (.ref 0), some (.int v1), some (.int v2), some (.int v3), some (.int v4), none]) (st1 := [.int v4, .int v2]) (h1 := (zx_SM, m)) rfl ?_
    obtain ⟨r4, hv3, hf⟩ := zx_bind_eq hf
    refine zx_ev_call (d := d + 3) zk_210 (v := some (.int r4)) (h1 := (zx_SM, m)) rfl rfl zt_159 rfl zx_SMn rfl rfl (s_M_isIn _ _ _ (d := d + 3) hv3) ?_
    by_cases c5 : ¬ r4 = 0
    · rw [if_pos c5] at hf
      refine zx_ev_ift zk_210 (P := ¬ r4 = 0) (t := 106) (f := 84) rfl rfl c5 ?_
      exact zx_ev_sub (L := [some (.ref 0), some (.int v1), some (.int v2), some (.int v3), some (.int v4), none]) (⟨rfl, ⟨rfl, ⟨rfl, ⟨rfl, ⟨rfl, trivial⟩⟩⟩⟩⟩) (e_M_ordersOn_b66_106 g v1 v2 v3 v4 m hg hf hK)
    · rw [if_neg c5] at hf
      refine zx_ev_ifn zk_210 (P := ¬ r4 = 0) (t := 106) (f := 84) rfl rfl c5 ?_
      refine zx_ev_blk zk_210 4 (pc1 := 91) (L1 := [some (.ref 0), some (.int v1), some (.int v2), some (.int v3), some (.int v4), none]) (st1 := [.int v4, .int v1, .ref 8]) (h1 := (zx_SM, m)) rfl ?_
      obtain ⟨j7, hj7, hf⟩ := zx_bind_eq hf
      refine zx_ev_step zk_210 rfl (st_iast rfl hj7) ?_
      obtain ⟨m8, hm8, hf⟩ := zx_let_eq hf
      rw [hm8]
      refine zx_ev_blk zk_210 10 (pc1 := 103) (L1 := [some (.ref 0), some (.int v1), some (.int v2), some (.int v3), some (.int v4), none]) (st1 := [.int v3, .int (v2 ||| (zx_shl 1 v4)), .int (v1 + 1), .ref 0]) (h1 := (zx_SM, m8)) rfl ?_
      obtain ⟨m10, hv9, hf⟩ := zx_bind_eq hf
      refine zx_ev_call (d := d + 3) zk_210 (v := none) (h1 := (zx_SM, m10)) rfl rfl zt_210 rfl zx_SMn rfl rfl (hg _ _ _ _ _ hv9) ?_
      exact zx_ev_sub (L := [some (.ref 0), some (.int v1), some (.int v2), some (.int v3), some (.int v4), none]) (⟨rfl, ⟨rfl, ⟨rfl, ⟨rfl, ⟨rfl, trivial⟩⟩⟩⟩⟩) (e_M_ordersOn_b66_106 g v1 v2 v3 v4 m10 hg hf hK)
def l_M_ordersOn_l66 (g : GT_ordersOn_m) (v1 : Int32) (v2 : Int32) (v3 : Int32) (s0 : Int32 × zx_M) : Option (zx_M) := zx_lp zx_N (fun s : Int32 × zx_M => b_M_ordersOn_l66 g v1 v2 v3 s.1 s.2) s0
theorem el_M_ordersOn_l66 (g : GT_ordersOn_m) (v1 : Int32) (v2 : Int32) (v3 : Int32) {d : Nat} (hg : GH_ordersOn_m (d + 3) g) {out : Option Value × zx_H} : ∀ (n : Nat) (s : Int32 × zx_M) (x : zx_M), zx_lp n (fun s : Int32 × zx_M => b_M_ordersOn_l66 g v1 v2 v3 s.1 s.2) s = some x → kx_M_ordersOn_l66 v1 v2 v3 d out x → zx_Ev (d + 4) 210 66 [some (.ref 0), some (.int v1), some (.int v2), some (.int v3), some (.int s.1), none] [] (zx_SM, s.2) out := by
  intro n
  induction n with
  | zero => intro s x hl _; simp [zx_lp] at hl
  | succ n ih =>
    intro s x hl hx
    unfold zx_lp at hl
    cases hb : b_M_ordersOn_l66 g v1 v2 v3 s.1 s.2 with
    | none => simp only [hb] at hl; cases hl
    | some z =>
      simp only [hb] at hl
      cases z with
      | inl s1 => exact eb_M_ordersOn_l66 g v1 v2 v3 s.1 s.2 hg hb (ih s1 x hl hx)
      | inr t =>
        simp only [Option.some.injEq] at hl
        subst hl
        exact eb_M_ordersOn_l66 g v1 v2 v3 s.1 s.2 hg hb hx
def kx_M_ordersOn_l33 (d : Nat) (out : Option Value × zx_H) : zx_M → Prop
  | y => out = (none, (zx_SM, y))
def kl_M_ordersOn_l33 (d : Nat) (out : Option Value × zx_H) : (Int32 × zx_M) ⊕ (zx_M) → Prop
  | .inl (v5, m) => zx_Ev (d + 4) 210 33 [some (.ref 0), none, none, none, none, some (.int v5)] [] (zx_SM, m) out
  | .inr x => kx_M_ordersOn_l33 d out x
def b_M_ordersOn_l33 (g : GT_ordersOn_m) (v5 : Int32) (m : zx_M) : Option ((Int32 × zx_M) ⊕ (zx_M)) := if (m.1 0 6) ≤ v5 then some (.inr m) else (zx_ix 7 v5).bind fun j19 => (zx_ix 7 v5).bind fun j20 => zx_let (zx_u1 m 12 j20 (m.1 8 j19)) fun m21 => zx_let (v5 + 1) fun a22 => some (.inl (a22, m21))
theorem eb_M_ordersOn_l33 (g : GT_ordersOn_m) (v5 : Int32) (m : zx_M) {d : Nat} (hg : GH_ordersOn_m (d + 3) g) {out : Option Value × zx_H} {y : (Int32 × zx_M) ⊕ (zx_M)} (hf : b_M_ordersOn_l33 g v5 m = some y) (hK : kl_M_ordersOn_l33 d out y) : zx_Ev (d + 4) 210 33 [some (.ref 0), none, none, none, none, some (.int v5)] [] (zx_SM, m) out := by
  unfold b_M_ordersOn_l33 at hf
  refine zx_ev_blk zk_210 3 (pc1 := 39) (L1 := [some (.ref 0), none, none, none, none, some (.int v5)]) (st1 := [.int (m.1 0 6), .int v5]) (h1 := (zx_SM, m)) rfl ?_
  by_cases c18 : (m.1 0 6) ≤ v5
  · rw [if_pos c18] at hf
    refine zx_ev_ift zk_210 (P := (m.1 0 6) ≤ v5) (t := 62) (f := 42) rfl rfl c18 ?_
    obtain rfl := Option.some.inj hf
    rw [show out = _ from hK]
    exact zx_ev_ret zk_210 rfl rfl
  · rw [if_neg c18] at hf
    refine zx_ev_ifn zk_210 (P := (m.1 0 6) ≤ v5) (t := 62) (f := 42) rfl rfl c18 ?_
    refine zx_ev_blk zk_210 6 (pc1 := 54) (L1 := [some (.ref 0), none, none, none, none, some (.int v5)]) (st1 := [.int v5, .ref 8, .int v5, .ref 12]) (h1 := (zx_SM, m)) rfl ?_
    obtain ⟨j19, hj19, hf⟩ := zx_bind_eq hf
    refine zx_ev_step zk_210 rfl (st_iald rfl rfl hj19) ?_
    obtain ⟨j20, hj20, hf⟩ := zx_bind_eq hf
    refine zx_ev_step zk_210 rfl (st_iast rfl hj20) ?_
    obtain ⟨m21, hm21, hf⟩ := zx_let_eq hf
    rw [hm21]
    obtain ⟨a22, ha22, hf⟩ := zx_let_eq hf
    refine zx_ev_blk zk_210 2 (pc1 := 33) (L1 := [some (.ref 0), none, none, none, none, some (.int a22)]) (st1 := []) (h1 := (zx_SM, m21)) (by subst ha22; rfl) ?_
    obtain rfl := Option.some.inj hf
    exact zx_ev_sub (L := [some (.ref 0), none, none, none, none, some (.int a22)]) (⟨rfl, ⟨rfl, trivial⟩⟩) hK
def l_M_ordersOn_l33 (g : GT_ordersOn_m) (s0 : Int32 × zx_M) : Option (zx_M) := zx_lp zx_N (fun s : Int32 × zx_M => b_M_ordersOn_l33 g s.1 s.2) s0
theorem el_M_ordersOn_l33 (g : GT_ordersOn_m) {d : Nat} (hg : GH_ordersOn_m (d + 3) g) {out : Option Value × zx_H} : ∀ (n : Nat) (s : Int32 × zx_M) (x : zx_M), zx_lp n (fun s : Int32 × zx_M => b_M_ordersOn_l33 g s.1 s.2) s = some x → kx_M_ordersOn_l33 d out x → zx_Ev (d + 4) 210 33 [some (.ref 0), none, none, none, none, some (.int s.1)] [] (zx_SM, s.2) out := by
  intro n
  induction n with
  | zero => intro s x hl _; simp [zx_lp] at hl
  | succ n ih =>
    intro s x hl hx
    unfold zx_lp at hl
    cases hb : b_M_ordersOn_l33 g s.1 s.2 with
    | none => simp only [hb] at hl; cases hl
    | some z =>
      simp only [hb] at hl
      cases z with
      | inl s1 => exact eb_M_ordersOn_l33 g s.1 s.2 hg hb (ih s1 x hl hx)
      | inr t =>
        simp only [Option.some.injEq] at hl
        subst hl
        exact eb_M_ordersOn_l33 g s.1 s.2 hg hb hx
def F_M_ordersOn (g : GT_ordersOn_m) (v1 : Int32) (v2 : Int32) (v3 : Int32) (m : zx_M) : Option zx_M := if ¬ v1 = (m.1 0 6) then (l_M_ordersOn_l66 g v1 v2 v3 (0, m)).bind fun x11 => zx_let x11 fun y12 => some y12 else (f_M_goodFrom v3 m).bind fun (r14, m15) => if r14 ≤ (m15.1 0 24) then some m15 else zx_let (zx_u1 m15 0 24 r14) fun m17 => (l_M_ordersOn_l33 g (0, m17)).bind fun x23 => zx_let x23 fun y24 => some y24
theorem s_M_ordersOn (g : GT_ordersOn_m) (v1 : Int32) (v2 : Int32) (v3 : Int32) (m : zx_M) {d : Nat} (hg : GH_ordersOn_m (d + 3) g) {y : zx_M} (hf : F_M_ordersOn g v1 v2 v3 m = some y) : zx_Ev (d + 4) 210 0 [some (.ref 0), some (.int v1), some (.int v2), some (.int v3), none, none] [] (zx_SM, m) (none, (zx_SM, y)) := by
  unfold F_M_ordersOn at hf
  refine zx_ev_blk zk_210 3 (pc1 := 5) (L1 := [some (.ref 0), some (.int v1), some (.int v2), some (.int v3), none, none]) (st1 := [.int (m.1 0 6), .int v1]) (h1 := (zx_SM, m)) rfl ?_
  by_cases c1 : ¬ v1 = (m.1 0 6)
  · rw [if_pos c1] at hf
    refine zx_ev_ift zk_210 (P := ¬ v1 = (m.1 0 6)) (t := 63) (f := 8) rfl rfl c1 ?_
    refine zx_ev_blk zk_210 2 (pc1 := 66) (L1 := [some (.ref 0), some (.int v1), some (.int v2), some (.int v3), some (.int 0), none]) (st1 := []) (h1 := (zx_SM, m)) rfl ?_
    obtain ⟨x11, hx11, hf⟩ := zx_bind_eq hf
    refine zx_ev_sub (L := [some (.ref 0), some (.int v1), some (.int v2), some (.int v3), some (.int 0), none]) (⟨rfl, ⟨rfl, ⟨rfl, ⟨rfl, ⟨rfl, trivial⟩⟩⟩⟩⟩) (el_M_ordersOn_l66 g v1 v2 v3 hg zx_N (0, m) x11 hx11 ?_)
    obtain ⟨y12, hy12, hf⟩ := zx_let_eq hf
    subst hy12
    obtain rfl := Option.some.inj hf
    rfl
  · rw [if_neg c1] at hf
    refine zx_ev_ifn zk_210 (P := ¬ v1 = (m.1 0 6)) (t := 63) (f := 8) rfl rfl c1 ?_
    refine zx_ev_blk zk_210 2 (pc1 := 10) (L1 := [some (.ref 0), some (.int v1), some (.int v2), some (.int v3), none, none]) (st1 := [.int v3, .ref 0]) (h1 := (zx_SM, m)) rfl ?_
    obtain ⟨⟨r14, m15⟩, hv13, hf⟩ := zx_bind_eq hf
    dsimp only at hf
    refine zx_ev_call (d := d + 3) zk_210 (v := some (.int r14)) (h1 := (zx_SM, m15)) rfl rfl zt_197 rfl zx_SMn rfl rfl (s_M_goodFrom _ _ (d := d + 0) hv13) ?_
    refine zx_ev_blk zk_210 4 (pc1 := 21) (L1 := [some (.ref 0), some (.int v1), some (.int v2), some (.int v3), some (.int r14), none]) (st1 := [.int (m15.1 0 24), .int r14]) (h1 := (zx_SM, m15)) rfl ?_
    by_cases c16 : r14 ≤ (m15.1 0 24)
    · rw [if_pos c16] at hf
      refine zx_ev_ift zk_210 (P := r14 ≤ (m15.1 0 24)) (t := 62) (f := 24) rfl rfl c16 ?_
      obtain rfl := Option.some.inj hf
      exact zx_ev_ret zk_210 rfl rfl
    · rw [if_neg c16] at hf
      refine zx_ev_ifn zk_210 (P := r14 ≤ (m15.1 0 24)) (t := 62) (f := 24) rfl rfl c16 ?_
      obtain ⟨m17, hm17, hf⟩ := zx_let_eq hf
      refine zx_ev_blk zk_210 5 (pc1 := 33) (L1 := [some (.ref 0), some (.int v1), some (.int v2), some (.int v3), some (.int r14), some (.int 0)]) (st1 := []) (h1 := (zx_SM, m17)) (by subst hm17; rfl) ?_
      obtain ⟨x23, hx23, hf⟩ := zx_bind_eq hf
      refine zx_ev_sub (L := [some (.ref 0), none, none, none, none, some (.int 0)]) (⟨rfl, ⟨trivial, ⟨trivial, ⟨trivial, ⟨trivial, ⟨rfl, trivial⟩⟩⟩⟩⟩⟩) (el_M_ordersOn_l33 g hg zx_N (0, m17) x23 hx23 ?_)
      obtain ⟨y24, hy24, hf⟩ := zx_let_eq hf
      subst hy24
      obtain rfl := Option.some.inj hf
      rfl
def g_ordersOn_m : Nat → GT_ordersOn_m
  | 0 => (fun _ _ _ _ => none)
  | j + 1 => (fun x0 x1 x2 m => F_M_ordersOn (g_ordersOn_m j) x0 x1 x2 m)
theorem eg_ordersOn_m : ∀ (j d : Nat), GH_ordersOn_m (d + 3 + j) (g_ordersOn_m j) := by
  intro j
  induction j with
  | zero => intro d; exact (fun _ _ _ _ _ h => by simp [g_ordersOn_m] at h)
  | succ j ih =>
    intro d
    have ih : ∀ d : Nat, GH_ordersOn_m (d + j + 3) (g_ordersOn_m j) := fun d => by rw [show d + j + 3 = d + 3 + j by omega]; exact ih d
    show GH_ordersOn_m (d + 3 + j + 1) (g_ordersOn_m (j + 1))
    rw [show d + 3 + j + 1 = d + j + 4 by omega]
    exact (fun _ _ _ _ _ h => s_M_ordersOn _ _ _ _ _ (d := d + j) (ih d) h)
def f_M_orderFor (v1 : Int32) (v2 : Int32) (m : zx_M) : Option (Int32 × zx_M) := (f_M_isYc v1 m).bind fun r2 => if r2 = 0 then some ((-1), m) else if (-1) ≤ v2 then if (m.1 0 6) ≤ 5 then zx_let (zx_u1 m 0 20 (m.1 0 6)) fun m6 => (f_M_counts (zx_rem v1 100) m6).bind fun m8 => (f_M_asksCarried m8).bind fun m10 => zx_let (zx_u1 m10 0 24 (-1)) fun m11 => (f_M_spotOf v1 m11).bind fun r13 => ((g_ordersOn_m 12) 0 0 r13 m11).bind fun m15 => if 0 ≤ v2 then if (m15.1 0 6) ≤ v2 then some ((-2), m15) else (zx_ix 7 v2).bind fun j18 => some (m15.1 12 j18, m15) else some (m15.1 0 24, m15) else some ((-5), m) else some ((-1), m)
theorem s_M_orderFor (v1 : Int32) (v2 : Int32) (m : zx_M) {d : Nat} {y : (Int32 × zx_M)} (hf : f_M_orderFor v1 v2 m = some y) : zx_Ev (d + 69) 211 0 [some (.ref 0), some (.int v1), some (.int v2)] [] (zx_SM, m) (some (.int y.1), (zx_SM, y.2)) := by
  unfold f_M_orderFor at hf
  refine zx_ev_blk zk_211 1 (pc1 := 1) (L1 := [some (.ref 0), some (.int v1), some (.int v2)]) (st1 := [.int v1]) (h1 := (zx_SM, m)) rfl ?_
  obtain ⟨r2, hv1, hf⟩ := zx_bind_eq hf
  refine zx_ev_call (d := d + 68) zk_211 (v := some (.int r2)) (h1 := (zx_SM, m)) rfl rfl zt_203 rfl zx_SMn rfl rfl (s_M_isYc _ _ (d := d + 66) hv1) ?_
  by_cases c3 : r2 = 0
  · rw [if_pos c3] at hf
    refine zx_ev_ift zk_211 (P := r2 = 0) (t := 12) (f := 7) rfl rfl c3 ?_
    refine zx_ev_blk zk_211 1 (pc1 := 13) (L1 := [some (.ref 0), some (.int v1), some (.int v2)]) (st1 := [.int (-1)]) (h1 := (zx_SM, m)) rfl ?_
    obtain rfl := Option.some.inj hf
    exact zx_ev_ret zk_211 rfl rfl
  · rw [if_neg c3] at hf
    refine zx_ev_ifn zk_211 (P := r2 = 0) (t := 12) (f := 7) rfl rfl c3 ?_
    refine zx_ev_blk zk_211 2 (pc1 := 9) (L1 := [some (.ref 0), some (.int v1), some (.int v2)]) (st1 := [.int (-1), .int v2]) (h1 := (zx_SM, m)) rfl ?_
    by_cases c4 : (-1) ≤ v2
    · rw [if_pos c4] at hf
      refine zx_ev_ift zk_211 (P := (-1) ≤ v2) (t := 14) (f := 12) rfl rfl c4 ?_
      refine zx_ev_blk zk_211 3 (pc1 := 19) (L1 := [some (.ref 0), some (.int v1), some (.int v2)]) (st1 := [.int 5, .int (m.1 0 6)]) (h1 := (zx_SM, m)) rfl ?_
      by_cases c5 : (m.1 0 6) ≤ 5
      · rw [if_pos c5] at hf
        refine zx_ev_ift zk_211 (P := (m.1 0 6) ≤ 5) (t := 25) (f := 22) rfl rfl c5 ?_
        obtain ⟨m6, hm6, hf⟩ := zx_let_eq hf
        refine zx_ev_blk zk_211 7 (pc1 := 37) (L1 := [some (.ref 0), some (.int v1), some (.int v2)]) (st1 := [.int 100, .int v1, .ref 0]) (h1 := (zx_SM, m6)) (by subst hm6; rfl) ?_
        refine zx_ev_step zk_211 rfl (st_irem (by decide)) ?_
        obtain ⟨m8, hv7, hf⟩ := zx_bind_eq hf
        refine zx_ev_call (d := d + 68) zk_211 (v := none) (h1 := (zx_SM, m8)) rfl rfl zt_201 rfl zx_SMn rfl rfl (s_M_counts _ _ (d := d + 68) hv7) ?_
        refine zx_ev_blk zk_211 1 (pc1 := 42) (L1 := [some (.ref 0), some (.int v1), some (.int v2)]) (st1 := [.ref 0]) (h1 := (zx_SM, m8)) rfl ?_
        obtain ⟨m10, hv9, hf⟩ := zx_bind_eq hf
        refine zx_ev_call (d := d + 68) zk_211 (v := none) (h1 := (zx_SM, m10)) rfl rfl zt_190 rfl zx_SMn rfl rfl (s_M_asksCarried _ (d := d + 0) hv9) ?_
        obtain ⟨m11, hm11, hf⟩ := zx_let_eq hf
        refine zx_ev_blk zk_211 7 (pc1 := 54) (L1 := [some (.ref 0), some (.int v1), some (.int v2)]) (st1 := [.int v1, .int 0, .int 0, .ref 0]) (h1 := (zx_SM, m11)) (by subst hm11; rfl) ?_
        obtain ⟨r13, hv12, hf⟩ := zx_bind_eq hf
        refine zx_ev_call (d := d + 68) zk_211 (v := some (.int r13)) (h1 := (zx_SM, m11)) rfl rfl zt_204 rfl zx_SMn rfl rfl (s_M_spotOf _ _ (d := d + 68) hv12) ?_
        obtain ⟨m15, hv14, hf⟩ := zx_bind_eq hf
        refine zx_ev_call (d := d + 68) zk_211 (v := none) (h1 := (zx_SM, m15)) rfl rfl zt_210 rfl zx_SMn rfl rfl ((eg_ordersOn_m 12 (d + 53)) _ _ _ _ _ hv14) ?_
        refine zx_ev_blk zk_211 1 (pc1 := 61) (L1 := [some (.ref 0), some (.int v1), some (.int v2)]) (st1 := [.int v2]) (h1 := (zx_SM, m15)) rfl ?_
        by_cases c16 : 0 ≤ v2
        · rw [if_pos c16] at hf
          refine zx_ev_ift zk_211 (P := 0 ≤ v2) (t := 71) (f := 64) rfl rfl c16 ?_
          refine zx_ev_blk zk_211 3 (pc1 := 76) (L1 := [some (.ref 0), some (.int v1), some (.int v2)]) (st1 := [.int (m15.1 0 6), .int v2]) (h1 := (zx_SM, m15)) rfl ?_
          by_cases c17 : (m15.1 0 6) ≤ v2
          · rw [if_pos c17] at hf
            refine zx_ev_ift zk_211 (P := (m15.1 0 6) ≤ v2) (t := 88) (f := 79) rfl rfl c17 ?_
            refine zx_ev_blk zk_211 1 (pc1 := 90) (L1 := [some (.ref 0), some (.int v1), some (.int v2)]) (st1 := [.int (-2)]) (h1 := (zx_SM, m15)) rfl ?_
            obtain rfl := Option.some.inj hf
            exact zx_ev_ret zk_211 rfl rfl
          · rw [if_neg c17] at hf
            refine zx_ev_ifn zk_211 (P := (m15.1 0 6) ≤ v2) (t := 88) (f := 79) rfl rfl c17 ?_
            refine zx_ev_blk zk_211 3 (pc1 := 84) (L1 := [some (.ref 0), some (.int v1), some (.int v2)]) (st1 := [.int v2, .ref 12]) (h1 := (zx_SM, m15)) rfl ?_
            obtain ⟨j18, hj18, hf⟩ := zx_bind_eq hf
            refine zx_ev_step zk_211 rfl (st_iald rfl rfl hj18) ?_
            refine zx_ev_blk zk_211 1 (pc1 := 90) (L1 := [some (.ref 0), some (.int v1), some (.int v2)]) (st1 := [.int (m15.1 12 j18)]) (h1 := (zx_SM, m15)) rfl ?_
            obtain rfl := Option.some.inj hf
            exact zx_ev_ret zk_211 rfl rfl
        · rw [if_neg c16] at hf
          refine zx_ev_ifn zk_211 (P := 0 ≤ v2) (t := 71) (f := 64) rfl rfl c16 ?_
          refine zx_ev_blk zk_211 3 (pc1 := 90) (L1 := [some (.ref 0), some (.int v1), some (.int v2)]) (st1 := [.int (m15.1 0 24)]) (h1 := (zx_SM, m15)) rfl ?_
          obtain rfl := Option.some.inj hf
          exact zx_ev_ret zk_211 rfl rfl
      · rw [if_neg c5] at hf
        refine zx_ev_ifn zk_211 (P := (m.1 0 6) ≤ 5) (t := 25) (f := 22) rfl rfl c5 ?_
        refine zx_ev_blk zk_211 1 (pc1 := 24) (L1 := [some (.ref 0), some (.int v1), some (.int v2)]) (st1 := [.int (-5)]) (h1 := (zx_SM, m)) rfl ?_
        obtain rfl := Option.some.inj hf
        exact zx_ev_ret zk_211 rfl rfl
    · rw [if_neg c4] at hf
      refine zx_ev_ifn zk_211 (P := (-1) ≤ v2) (t := 14) (f := 12) rfl rfl c4 ?_
      refine zx_ev_blk zk_211 1 (pc1 := 13) (L1 := [some (.ref 0), some (.int v1), some (.int v2)]) (st1 := [.int (-1)]) (h1 := (zx_SM, m)) rfl ?_
      obtain rfl := Option.some.inj hf
      exact zx_ev_ret zk_211 rfl rfl
def kx_M_over_l20 (d : Nat) (out : Option Value × zx_H) : zx_M → Prop
  | m => zx_Ev (d + 3) 235 58 [some (.ref 0), none] [] (zx_SM, m) out
def kl_M_over_l20 (d : Nat) (out : Option Value × zx_H) : (Int32 × zx_M) ⊕ (zx_M) → Prop
  | .inl (v1, m) => zx_Ev (d + 3) 235 20 [some (.ref 0), some (.int v1)] [] (zx_SM, m) out
  | .inr x => kx_M_over_l20 d out x
def b_M_over_l20 (v1 : Int32) (m : zx_M) : Option ((Int32 × zx_M) ⊕ (zx_M)) := if (m.1 0 29) ≤ v1 then some (.inr m) else (zx_ix 7 v1).bind fun j4 => (zx_ix 7 v1).bind fun j5 => zx_let (zx_u1 m 9 j5 (m.1 14 j4)) fun m6 => (zx_ix 7 v1).bind fun j7 => (zx_ix 7 v1).bind fun j8 => zx_let (zx_u1 m6 10 j8 (m6.1 15 j7)) fun m9 => zx_let (v1 + 1) fun a10 => some (.inl (a10, m9))
theorem eb_M_over_l20 (v1 : Int32) (m : zx_M) {d : Nat} {out : Option Value × zx_H} {y : (Int32 × zx_M) ⊕ (zx_M)} (hf : b_M_over_l20 v1 m = some y) (hK : kl_M_over_l20 d out y) : zx_Ev (d + 3) 235 20 [some (.ref 0), some (.int v1)] [] (zx_SM, m) out := by
  unfold b_M_over_l20 at hf
  refine zx_ev_blk zk_235 3 (pc1 := 25) (L1 := [some (.ref 0), some (.int v1)]) (st1 := [.int (m.1 0 29), .int v1]) (h1 := (zx_SM, m)) rfl ?_
  by_cases c3 : (m.1 0 29) ≤ v1
  · rw [if_pos c3] at hf
    refine zx_ev_ift zk_235 (P := (m.1 0 29) ≤ v1) (t := 58) (f := 28) rfl rfl c3 ?_
    obtain rfl := Option.some.inj hf
    exact zx_ev_sub (L := [some (.ref 0), none]) (⟨rfl, ⟨trivial, trivial⟩⟩) hK
  · rw [if_neg c3] at hf
    refine zx_ev_ifn zk_235 (P := (m.1 0 29) ≤ v1) (t := 58) (f := 28) rfl rfl c3 ?_
    refine zx_ev_blk zk_235 6 (pc1 := 38) (L1 := [some (.ref 0), some (.int v1)]) (st1 := [.int v1, .ref 14, .int v1, .ref 9]) (h1 := (zx_SM, m)) rfl ?_
    obtain ⟨j4, hj4, hf⟩ := zx_bind_eq hf
    refine zx_ev_step zk_235 rfl (st_iald rfl rfl hj4) ?_
    obtain ⟨j5, hj5, hf⟩ := zx_bind_eq hf
    refine zx_ev_step zk_235 rfl (st_iast rfl hj5) ?_
    obtain ⟨m6, hm6, hf⟩ := zx_let_eq hf
    rw [hm6]
    refine zx_ev_blk zk_235 6 (pc1 := 50) (L1 := [some (.ref 0), some (.int v1)]) (st1 := [.int v1, .ref 15, .int v1, .ref 10]) (h1 := (zx_SM, m6)) rfl ?_
    obtain ⟨j7, hj7, hf⟩ := zx_bind_eq hf
    refine zx_ev_step zk_235 rfl (st_iald rfl rfl hj7) ?_
    obtain ⟨j8, hj8, hf⟩ := zx_bind_eq hf
    refine zx_ev_step zk_235 rfl (st_iast rfl hj8) ?_
    obtain ⟨m9, hm9, hf⟩ := zx_let_eq hf
    rw [hm9]
    obtain ⟨a10, ha10, hf⟩ := zx_let_eq hf
    refine zx_ev_blk zk_235 2 (pc1 := 20) (L1 := [some (.ref 0), some (.int a10)]) (st1 := []) (h1 := (zx_SM, m9)) (by subst ha10; rfl) ?_
    obtain rfl := Option.some.inj hf
    exact zx_ev_sub (L := [some (.ref 0), some (.int a10)]) (⟨rfl, ⟨rfl, trivial⟩⟩) hK
def l_M_over_l20 (s0 : Int32 × zx_M) : Option (zx_M) := zx_lp zx_N (fun s : Int32 × zx_M => b_M_over_l20 s.1 s.2) s0
theorem el_M_over_l20 {d : Nat} {out : Option Value × zx_H} : ∀ (n : Nat) (s : Int32 × zx_M) (x : zx_M), zx_lp n (fun s : Int32 × zx_M => b_M_over_l20 s.1 s.2) s = some x → kx_M_over_l20 d out x → zx_Ev (d + 3) 235 20 [some (.ref 0), some (.int s.1)] [] (zx_SM, s.2) out := by
  intro n
  induction n with
  | zero => intro s x hl _; simp [zx_lp] at hl
  | succ n ih =>
    intro s x hl hx
    unfold zx_lp at hl
    cases hb : b_M_over_l20 s.1 s.2 with
    | none => simp only [hb] at hl; cases hl
    | some z =>
      simp only [hb] at hl
      cases z with
      | inl s1 => exact eb_M_over_l20 s.1 s.2 hb (ih s1 x hl hx)
      | inr t =>
        simp only [Option.some.injEq] at hl
        subst hl
        exact eb_M_over_l20 s.1 s.2 hb hx
def f_M_over (m : zx_M) : Option (Int32 × zx_M) := if ¬ (m.1 0 28) = 0 then zx_let (zx_u1 m 0 20 (m.1 0 29)) fun m2 => (l_M_over_l20 (0, m2)).bind fun x11 => zx_let x11 fun m12 => (f_M_goodMany m12).bind fun r14 => zx_let (zx_u1 m12 0 28 0) fun m15 => zx_let (zx_u1 m15 0 35 ((m15.1 0 35) + 1)) fun m16 => zx_let (zx_u1 m16 0 37 ((m16.1 0 37) + r14)) fun m17 => some (r14, m17) else some ((-5), m)
theorem s_M_over (m : zx_M) {d : Nat} {y : (Int32 × zx_M)} (hf : f_M_over m = some y) : zx_Ev (d + 3) 235 0 [some (.ref 0), none] [] (zx_SM, m) (some (.int y.1), (zx_SM, y.2)) := by
  unfold f_M_over at hf
  refine zx_ev_blk zk_235 2 (pc1 := 4) (L1 := [some (.ref 0), none]) (st1 := [.int (m.1 0 28)]) (h1 := (zx_SM, m)) rfl ?_
  by_cases c1 : ¬ (m.1 0 28) = 0
  · rw [if_pos c1] at hf
    refine zx_ev_ift zk_235 (P := ¬ (m.1 0 28) = 0) (t := 10) (f := 7) rfl rfl c1 ?_
    obtain ⟨m2, hm2, hf⟩ := zx_let_eq hf
    refine zx_ev_blk zk_235 6 (pc1 := 20) (L1 := [some (.ref 0), some (.int 0)]) (st1 := []) (h1 := (zx_SM, m2)) (by subst hm2; rfl) ?_
    obtain ⟨x11, hx11, hf⟩ := zx_bind_eq hf
    refine zx_ev_sub (L := [some (.ref 0), some (.int 0)]) (⟨rfl, ⟨rfl, trivial⟩⟩) (el_M_over_l20 zx_N (0, m2) x11 hx11 ?_)
    obtain ⟨m12, hm12, hf⟩ := zx_let_eq hf
    subst hm12
    show zx_Ev (d + 3) 235 58 [some (.ref 0), none] [] (zx_SM, x11) _
    refine zx_ev_blk zk_235 1 (pc1 := 59) (L1 := [some (.ref 0), none]) (st1 := [.ref 0]) (h1 := (zx_SM, x11)) rfl ?_
    obtain ⟨r14, hv13, hf⟩ := zx_bind_eq hf
    refine zx_ev_call (d := d + 2) zk_235 (v := some (.int r14)) (h1 := (zx_SM, x11)) rfl rfl zt_196 rfl zx_SMn rfl rfl (s_M_goodMany _ (d := d + 0) hv13) ?_
    obtain ⟨m15, hm15, hf⟩ := zx_let_eq hf
    obtain ⟨m16, hm16, hf⟩ := zx_let_eq hf
    obtain ⟨m17, hm17, hf⟩ := zx_let_eq hf
    refine zx_ev_blk zk_235 17 (pc1 := 89) (L1 := [some (.ref 0), some (.int r14)]) (st1 := [.int r14]) (h1 := (zx_SM, m17)) (by subst hm15; subst hm16; subst hm17; rfl) ?_
    obtain rfl := Option.some.inj hf
    exact zx_ev_ret zk_235 rfl rfl
  · rw [if_neg c1] at hf
    refine zx_ev_ifn zk_235 (P := ¬ (m.1 0 28) = 0) (t := 10) (f := 7) rfl rfl c1 ?_
    refine zx_ev_blk zk_235 1 (pc1 := 9) (L1 := [some (.ref 0), none]) (st1 := [.int (-5)]) (h1 := (zx_SM, m)) rfl ?_
    obtain rfl := Option.some.inj hf
    exact zx_ev_ret zk_235 rfl rfl
def f_M_paper (v1 : Int32) (m : zx_M) : Option Int32 := (f_M_isYard v1 m).bind fun r2 => if r2 = 0 then some (-2000000000) else (zx_ix 36 34).bind fun j4 => (zx_ix 36 32).bind fun j5 => (zx_ix 36 33).bind fun j6 => some (v1 + ((m.1 1 j4) * ((m.1 1 j5) + (m.1 1 j6))))
theorem s_M_paper (v1 : Int32) (m : zx_M) {d : Nat} {y : Int32} (hf : f_M_paper v1 m = some y) : zx_Ev (d + 2) 223 0 [some (.ref 0), some (.int v1)] [] (zx_SM, m) (some (.int y), (zx_SM, m)) := by
  unfold f_M_paper at hf
  refine zx_ev_blk zk_223 1 (pc1 := 1) (L1 := [some (.ref 0), some (.int v1)]) (st1 := [.int v1]) (h1 := (zx_SM, m)) rfl ?_
  obtain ⟨r2, hv1, hf⟩ := zx_bind_eq hf
  refine zx_ev_call (d := d + 1) zk_223 (v := some (.int r2)) (h1 := (zx_SM, m)) rfl rfl zt_166 rfl zx_SMn rfl rfl (s_M_isYard _ _ (d := d + 0) hv1) ?_
  by_cases c3 : r2 = 0
  · rw [if_pos c3] at hf
    refine zx_ev_ift zk_223 (P := r2 = 0) (t := 35) (f := 7) rfl rfl c3 ?_
    refine zx_ev_blk zk_223 1 (pc1 := 37) (L1 := [some (.ref 0), some (.int v1)]) (st1 := [.int (-2000000000)]) (h1 := (zx_SM, m)) rfl ?_
    obtain rfl := Option.some.inj hf
    exact zx_ev_ret zk_223 rfl rfl
  · rw [if_neg c3] at hf
    refine zx_ev_ifn zk_223 (P := r2 = 0) (t := 35) (f := 7) rfl rfl c3 ?_
    refine zx_ev_blk zk_223 4 (pc1 := 14) (L1 := [some (.ref 0), some (.int v1)]) (st1 := [.int 34, .ref 1, .int v1]) (h1 := (zx_SM, m)) rfl ?_
    obtain ⟨j4, hj4, hf⟩ := zx_bind_eq hf
    refine zx_ev_step zk_223 rfl (st_iald rfl rfl hj4) ?_
    refine zx_ev_blk zk_223 3 (pc1 := 21) (L1 := [some (.ref 0), some (.int v1)]) (st1 := [.int 32, .ref 1, .int (m.1 1 j4), .int v1]) (h1 := (zx_SM, m)) rfl ?_
    obtain ⟨j5, hj5, hf⟩ := zx_bind_eq hf
    refine zx_ev_step zk_223 rfl (st_iald rfl rfl hj5) ?_
    refine zx_ev_blk zk_223 3 (pc1 := 28) (L1 := [some (.ref 0), some (.int v1)]) (st1 := [.int 33, .ref 1, .int (m.1 1 j5), .int (m.1 1 j4), .int v1]) (h1 := (zx_SM, m)) rfl ?_
    obtain ⟨j6, hj6, hf⟩ := zx_bind_eq hf
    refine zx_ev_step zk_223 rfl (st_iald rfl rfl hj6) ?_
    refine zx_ev_blk zk_223 4 (pc1 := 37) (L1 := [some (.ref 0), some (.int v1)]) (st1 := [.int (v1 + ((m.1 1 j4) * ((m.1 1 j5) + (m.1 1 j6))))]) (h1 := (zx_SM, m)) rfl ?_
    obtain rfl := Option.some.inj hf
    exact zx_ev_ret zk_223 rfl rfl
def kx_M_findsSpot_l16 (d : Nat) (out : Option Value × zx_H) : zx_M → Prop
  | y => out = (none, (zx_SM, y))
def kl_M_findsSpot_l16 (d : Nat) (out : Option Value × zx_H) : (Int32 × zx_M) ⊕ (zx_M) → Prop
  | .inl (v1, m) => zx_Ev (d + 4) 207 16 [some (.ref 0), some (.int v1), none, none] [] (zx_SM, m) out
  | .inr x => kx_M_findsSpot_l16 d out x
def kx_M_findsSpot_lb16_36 (v1 : Int32) (d : Nat) (out : Option Value × zx_H) : zx_M → Prop
  | m => zx_Ev (d + 4) 207 97 [some (.ref 0), some (.int v1), none, none] [] (zx_SM, m) out
def kl_M_findsSpot_lb16_36 (v1 : Int32) (d : Nat) (out : Option Value × zx_H) : (Int32 × zx_M) ⊕ (zx_M) → Prop
  | .inl (v2, m) => zx_Ev (d + 4) 207 36 [some (.ref 0), some (.int v1), some (.int v2), none] [] (zx_SM, m) out
  | .inr x => kx_M_findsSpot_lb16_36 v1 d out x
def n_M_findsSpot_b16_b36_88 (v1 : Int32) (v2 : Int32) (t1 : Int32) (m : zx_M) : Option ((Int32 × zx_M) ⊕ (zx_M)) := zx_let (zx_u1 m 0 24 t1) fun m15 => zx_let (v2 + 2) fun a16 => some (.inl (a16, m15))
theorem e_M_findsSpot_b16_b36_88 (v1 : Int32) (v2 : Int32) (t1 : Int32) (m : zx_M) {d : Nat} {out : Option Value × zx_H} {y : (Int32 × zx_M) ⊕ (zx_M)} (hf : n_M_findsSpot_b16_b36_88 v1 v2 t1 m = some y) (hK : kl_M_findsSpot_lb16_36 v1 d out y) : zx_Ev (d + 4) 207 88 [some (.ref 0), some (.int v1), some (.int v2), none] [.int t1, .ref 0] (zx_SM, m) out := by
  unfold n_M_findsSpot_b16_b36_88 at hf
  obtain ⟨m15, hm15, hf⟩ := zx_let_eq hf
  obtain ⟨a16, ha16, hf⟩ := zx_let_eq hf
  refine zx_ev_blk zk_207 3 (pc1 := 36) (L1 := [some (.ref 0), some (.int v1), some (.int a16), none]) (st1 := []) (h1 := (zx_SM, m15)) (by subst hm15; subst ha16; rfl) ?_
  obtain rfl := Option.some.inj hf
  exact zx_ev_sub (L := [some (.ref 0), some (.int v1), some (.int a16), none]) (⟨rfl, ⟨rfl, ⟨rfl, trivial⟩⟩⟩) hK
def n_M_findsSpot_b16_b36_68 (v1 : Int32) (v2 : Int32) (v3 : Int32) (t1 : Int32) (m : zx_M) : Option ((Int32 × zx_M) ⊕ (zx_M)) := zx_let (zx_u1 m 0 23 t1) fun m13 => if v3 ≤ (m13.1 0 24) then n_M_findsSpot_b16_b36_88 v1 v2 (m13.1 0 24) m13 else n_M_findsSpot_b16_b36_88 v1 v2 v3 m13
theorem e_M_findsSpot_b16_b36_68 (v1 : Int32) (v2 : Int32) (v3 : Int32) (t1 : Int32) (m : zx_M) {d : Nat} {out : Option Value × zx_H} {y : (Int32 × zx_M) ⊕ (zx_M)} (hf : n_M_findsSpot_b16_b36_68 v1 v2 v3 t1 m = some y) (hK : kl_M_findsSpot_lb16_36 v1 d out y) : zx_Ev (d + 4) 207 68 [some (.ref 0), some (.int v1), some (.int v2), some (.int v3)] [.int t1, .ref 0] (zx_SM, m) out := by
  unfold n_M_findsSpot_b16_b36_68 at hf
  obtain ⟨m13, hm13, hf⟩ := zx_let_eq hf
  refine zx_ev_blk zk_207 5 (pc1 := 77) (L1 := [some (.ref 0), some (.int v1), some (.int v2), some (.int v3)]) (st1 := [.int (m13.1 0 24), .int v3, .ref 0]) (h1 := (zx_SM, m13)) (by subst hm13; rfl) ?_
  by_cases c14 : v3 ≤ (m13.1 0 24)
  · rw [if_pos c14] at hf
    refine zx_ev_ift zk_207 (P := v3 ≤ (m13.1 0 24)) (t := 84) (f := 80) rfl rfl c14 ?_
    refine zx_ev_blk zk_207 2 (pc1 := 88) (L1 := [some (.ref 0), some (.int v1), some (.int v2), some (.int v3)]) (st1 := [.int (m13.1 0 24), .ref 0]) (h1 := (zx_SM, m13)) rfl ?_
    exact zx_ev_sub (L := [some (.ref 0), some (.int v1), some (.int v2), none]) (⟨rfl, ⟨rfl, ⟨rfl, ⟨trivial, trivial⟩⟩⟩⟩) (e_M_findsSpot_b16_b36_88 v1 v2 (m13.1 0 24) m13 hf hK)
  · rw [if_neg c14] at hf
    refine zx_ev_ifn zk_207 (P := v3 ≤ (m13.1 0 24)) (t := 84) (f := 80) rfl rfl c14 ?_
    refine zx_ev_blk zk_207 2 (pc1 := 88) (L1 := [some (.ref 0), some (.int v1), some (.int v2), some (.int v3)]) (st1 := [.int v3, .ref 0]) (h1 := (zx_SM, m13)) rfl ?_
    exact zx_ev_sub (L := [some (.ref 0), some (.int v1), some (.int v2), none]) (⟨rfl, ⟨rfl, ⟨rfl, ⟨trivial, trivial⟩⟩⟩⟩) (e_M_findsSpot_b16_b36_88 v1 v2 v3 m13 hf hK)
def b_M_findsSpot_lb16_36 (v1 : Int32) (v2 : Int32) (m : zx_M) : Option ((Int32 × zx_M) ⊕ (zx_M)) := if 2 ≤ v2 then some (.inr m) else (f_M_goodFrom (v2 * v1) m).bind fun (r10, m11) => if r10 ≤ (m11.1 0 24) then n_M_findsSpot_b16_b36_68 v1 v2 r10 (m11.1 0 23) m11 else n_M_findsSpot_b16_b36_68 v1 v2 r10 (v2 * v1) m11
theorem eb_M_findsSpot_lb16_36 (v1 : Int32) (v2 : Int32) (m : zx_M) {d : Nat} {out : Option Value × zx_H} {y : (Int32 × zx_M) ⊕ (zx_M)} (hf : b_M_findsSpot_lb16_36 v1 v2 m = some y) (hK : kl_M_findsSpot_lb16_36 v1 d out y) : zx_Ev (d + 4) 207 36 [some (.ref 0), some (.int v1), some (.int v2), none] [] (zx_SM, m) out := by
  unfold b_M_findsSpot_lb16_36 at hf
  refine zx_ev_blk zk_207 2 (pc1 := 38) (L1 := [some (.ref 0), some (.int v1), some (.int v2), none]) (st1 := [.int 2, .int v2]) (h1 := (zx_SM, m)) rfl ?_
  by_cases c8 : 2 ≤ v2
  · rw [if_pos c8] at hf
    refine zx_ev_ift zk_207 (P := 2 ≤ v2) (t := 97) (f := 41) rfl rfl c8 ?_
    obtain rfl := Option.some.inj hf
    exact zx_ev_sub (L := [some (.ref 0), some (.int v1), none, none]) (⟨rfl, ⟨rfl, ⟨trivial, trivial⟩⟩⟩) hK
  · rw [if_neg c8] at hf
    refine zx_ev_ifn zk_207 (P := 2 ≤ v2) (t := 97) (f := 41) rfl rfl c8 ?_
    refine zx_ev_blk zk_207 4 (pc1 := 45) (L1 := [some (.ref 0), some (.int v1), some (.int v2), none]) (st1 := [.int (v2 * v1), .ref 0]) (h1 := (zx_SM, m)) rfl ?_
    obtain ⟨⟨r10, m11⟩, hv9, hf⟩ := zx_bind_eq hf
    dsimp only at hf
    refine zx_ev_call (d := d + 3) zk_207 (v := some (.int r10)) (h1 := (zx_SM, m11)) rfl rfl zt_197 rfl zx_SMn rfl rfl (s_M_goodFrom _ _ (d := d + 0) hv9) ?_
    refine zx_ev_blk zk_207 5 (pc1 := 55) (L1 := [some (.ref 0), some (.int v1), some (.int v2), some (.int r10)]) (st1 := [.int (m11.1 0 24), .int r10, .ref 0]) (h1 := (zx_SM, m11)) rfl ?_
    by_cases c12 : r10 ≤ (m11.1 0 24)
    · rw [if_pos c12] at hf
      refine zx_ev_ift zk_207 (P := r10 ≤ (m11.1 0 24)) (t := 64) (f := 58) rfl rfl c12 ?_
      refine zx_ev_blk zk_207 2 (pc1 := 68) (L1 := [some (.ref 0), some (.int v1), some (.int v2), some (.int r10)]) (st1 := [.int (m11.1 0 23), .ref 0]) (h1 := (zx_SM, m11)) rfl ?_
      exact zx_ev_sub (L := [some (.ref 0), some (.int v1), some (.int v2), some (.int r10)]) (⟨rfl, ⟨rfl, ⟨rfl, ⟨rfl, trivial⟩⟩⟩⟩) (e_M_findsSpot_b16_b36_68 v1 v2 r10 (m11.1 0 23) m11 hf hK)
    · rw [if_neg c12] at hf
      refine zx_ev_ifn zk_207 (P := r10 ≤ (m11.1 0 24)) (t := 64) (f := 58) rfl rfl c12 ?_
      refine zx_ev_blk zk_207 4 (pc1 := 68) (L1 := [some (.ref 0), some (.int v1), some (.int v2), some (.int r10)]) (st1 := [.int (v2 * v1), .ref 0]) (h1 := (zx_SM, m11)) rfl ?_
      exact zx_ev_sub (L := [some (.ref 0), some (.int v1), some (.int v2), some (.int r10)]) (⟨rfl, ⟨rfl, ⟨rfl, ⟨rfl, trivial⟩⟩⟩⟩) (e_M_findsSpot_b16_b36_68 v1 v2 r10 (v2 * v1) m11 hf hK)
def l_M_findsSpot_lb16_36 (v1 : Int32) (s0 : Int32 × zx_M) : Option (zx_M) := zx_lp zx_N (fun s : Int32 × zx_M => b_M_findsSpot_lb16_36 v1 s.1 s.2) s0
theorem el_M_findsSpot_lb16_36 (v1 : Int32) {d : Nat} {out : Option Value × zx_H} : ∀ (n : Nat) (s : Int32 × zx_M) (x : zx_M), zx_lp n (fun s : Int32 × zx_M => b_M_findsSpot_lb16_36 v1 s.1 s.2) s = some x → kx_M_findsSpot_lb16_36 v1 d out x → zx_Ev (d + 4) 207 36 [some (.ref 0), some (.int v1), some (.int s.1), none] [] (zx_SM, s.2) out := by
  intro n
  induction n with
  | zero => intro s x hl _; simp [zx_lp] at hl
  | succ n ih =>
    intro s x hl hx
    unfold zx_lp at hl
    cases hb : b_M_findsSpot_lb16_36 v1 s.1 s.2 with
    | none => simp only [hb] at hl; cases hl
    | some z =>
      simp only [hb] at hl
      cases z with
      | inl s1 => exact eb_M_findsSpot_lb16_36 v1 s.1 s.2 hb (ih s1 x hl hx)
      | inr t =>
        simp only [Option.some.injEq] at hl
        subst hl
        exact eb_M_findsSpot_lb16_36 v1 s.1 s.2 hb hx
def b_M_findsSpot_l16 (v1 : Int32) (m : zx_M) : Option ((Int32 × zx_M) ⊕ (zx_M)) := if 999 < v1 then some (.inr m) else if (m.1 0 20) ≤ (m.1 0 24) then some (.inr m) else (l_M_findsSpot_lb16_36 v1 ((-1), m)).bind fun x17 => zx_let x17 fun m18 => zx_let (v1 + 1) fun a19 => some (.inl (a19, m18))
theorem eb_M_findsSpot_l16 (v1 : Int32) (m : zx_M) {d : Nat} {out : Option Value × zx_H} {y : (Int32 × zx_M) ⊕ (zx_M)} (hf : b_M_findsSpot_l16 v1 m = some y) (hK : kl_M_findsSpot_l16 d out y) : zx_Ev (d + 4) 207 16 [some (.ref 0), some (.int v1), none, none] [] (zx_SM, m) out := by
  unfold b_M_findsSpot_l16 at hf
  refine zx_ev_blk zk_207 2 (pc1 := 20) (L1 := [some (.ref 0), some (.int v1), none, none]) (st1 := [.int 999, .int v1]) (h1 := (zx_SM, m)) rfl ?_
  by_cases c6 : 999 < v1
  · rw [if_pos c6] at hf
    refine zx_ev_ift zk_207 (P := 999 < v1) (t := 103) (f := 23) rfl rfl c6 ?_
    obtain rfl := Option.some.inj hf
    rw [show out = _ from hK]
    exact zx_ev_ret zk_207 rfl rfl
  · rw [if_neg c6] at hf
    refine zx_ev_ifn zk_207 (P := 999 < v1) (t := 103) (f := 23) rfl rfl c6 ?_
    refine zx_ev_blk zk_207 4 (pc1 := 31) (L1 := [some (.ref 0), some (.int v1), none, none]) (st1 := [.int (m.1 0 20), .int (m.1 0 24)]) (h1 := (zx_SM, m)) rfl ?_
    by_cases c7 : (m.1 0 20) ≤ (m.1 0 24)
    · rw [if_pos c7] at hf
      refine zx_ev_ift zk_207 (P := (m.1 0 20) ≤ (m.1 0 24)) (t := 103) (f := 34) rfl rfl c7 ?_
      obtain rfl := Option.some.inj hf
      rw [show out = _ from hK]
      exact zx_ev_ret zk_207 rfl rfl
    · rw [if_neg c7] at hf
      refine zx_ev_ifn zk_207 (P := (m.1 0 20) ≤ (m.1 0 24)) (t := 103) (f := 34) rfl rfl c7 ?_
      refine zx_ev_blk zk_207 2 (pc1 := 36) (L1 := [some (.ref 0), some (.int v1), some (.int (-1)), none]) (st1 := []) (h1 := (zx_SM, m)) rfl ?_
      obtain ⟨x17, hx17, hf⟩ := zx_bind_eq hf
      refine zx_ev_sub (L := [some (.ref 0), some (.int v1), some (.int (-1)), none]) (⟨rfl, ⟨rfl, ⟨rfl, trivial⟩⟩⟩) (el_M_findsSpot_lb16_36 v1 zx_N ((-1), m) x17 hx17 ?_)
      obtain ⟨m18, hm18, hf⟩ := zx_let_eq hf
      subst hm18
      show zx_Ev (d + 4) 207 97 [some (.ref 0), some (.int v1), none, none] [] (zx_SM, x17) out
      obtain ⟨a19, ha19, hf⟩ := zx_let_eq hf
      refine zx_ev_blk zk_207 2 (pc1 := 16) (L1 := [some (.ref 0), some (.int a19), none, none]) (st1 := []) (h1 := (zx_SM, x17)) (by subst ha19; rfl) ?_
      obtain rfl := Option.some.inj hf
      exact zx_ev_sub (L := [some (.ref 0), some (.int a19), none, none]) (⟨rfl, ⟨rfl, trivial⟩⟩) hK
def l_M_findsSpot_l16 (s0 : Int32 × zx_M) : Option (zx_M) := zx_lp zx_N (fun s : Int32 × zx_M => b_M_findsSpot_l16 s.1 s.2) s0
theorem el_M_findsSpot_l16 {d : Nat} {out : Option Value × zx_H} : ∀ (n : Nat) (s : Int32 × zx_M) (x : zx_M), zx_lp n (fun s : Int32 × zx_M => b_M_findsSpot_l16 s.1 s.2) s = some x → kx_M_findsSpot_l16 d out x → zx_Ev (d + 4) 207 16 [some (.ref 0), some (.int s.1), none, none] [] (zx_SM, s.2) out := by
  intro n
  induction n with
  | zero => intro s x hl _; simp [zx_lp] at hl
  | succ n ih =>
    intro s x hl hx
    unfold zx_lp at hl
    cases hb : b_M_findsSpot_l16 s.1 s.2 with
    | none => simp only [hb] at hl; cases hl
    | some z =>
      simp only [hb] at hl
      cases z with
      | inl s1 => exact eb_M_findsSpot_l16 s.1 s.2 hb (ih s1 x hl hx)
      | inr t =>
        simp only [Option.some.injEq] at hl
        subst hl
        exact eb_M_findsSpot_l16 s.1 s.2 hb hx
def f_M_findsSpot (m : zx_M) : Option zx_M := zx_let (zx_u1 m 0 23 0) fun m1 => (f_M_goodFrom 0 m1).bind fun (r3, m4) => zx_let (zx_u1 m4 0 24 r3) fun m5 => (l_M_findsSpot_l16 (1, m5)).bind fun x20 => zx_let x20 fun y21 => some y21
theorem s_M_findsSpot (m : zx_M) {d : Nat} {y : zx_M} (hf : f_M_findsSpot m = some y) : zx_Ev (d + 4) 207 0 [some (.ref 0), none, none, none] [] (zx_SM, m) (none, (zx_SM, y)) := by
  unfold f_M_findsSpot at hf
  obtain ⟨m1, hm1, hf⟩ := zx_let_eq hf
  refine zx_ev_blk zk_207 6 (pc1 := 8) (L1 := [some (.ref 0), none, none, none]) (st1 := [.int 0, .ref 0, .ref 0]) (h1 := (zx_SM, m1)) (by subst hm1; rfl) ?_
  obtain ⟨⟨r3, m4⟩, hv2, hf⟩ := zx_bind_eq hf
  dsimp only at hf
  refine zx_ev_call (d := d + 3) zk_207 (v := some (.int r3)) (h1 := (zx_SM, m4)) rfl rfl zt_197 rfl zx_SMn rfl rfl (s_M_goodFrom _ _ (d := d + 0) hv2) ?_
  obtain ⟨m5, hm5, hf⟩ := zx_let_eq hf
  refine zx_ev_blk zk_207 3 (pc1 := 16) (L1 := [some (.ref 0), some (.int 1), none, none]) (st1 := []) (h1 := (zx_SM, m5)) (by subst hm5; rfl) ?_
  obtain ⟨x20, hx20, hf⟩ := zx_bind_eq hf
  refine zx_ev_sub (L := [some (.ref 0), some (.int 1), none, none]) (⟨rfl, ⟨rfl, trivial⟩⟩) (el_M_findsSpot_l16 zx_N (1, m5) x20 hx20 ?_)
  obtain ⟨y21, hy21, hf⟩ := zx_let_eq hf
  subst hy21
  obtain rfl := Option.some.inj hf
  rfl
def kx_M_passFrom_l6 (v1 : Int32) (v2 : Int32) (v3 : Int32) (v4 : Int32) (d : Nat) (out : Option Value × zx_H) : (Int32 × zx_M) → Prop
  | y => out = (some (.int y.1), (zx_SM, y.2))
def kl_M_passFrom_l6 (v1 : Int32) (v2 : Int32) (v3 : Int32) (v4 : Int32) (d : Nat) (out : Option Value × zx_H) : (Int32 × Int32 × zx_M) ⊕ ((Int32 × zx_M)) → Prop
  | .inl (v5, v6, m) => zx_Ev (d + 5) 212 6 [some (.ref 0), some (.int v1), some (.int v2), some (.int v3), some (.int v4), some (.int v5), some (.int v6), none] [] (zx_SM, m) out
  | .inr x => kx_M_passFrom_l6 v1 v2 v3 v4 d out x
def kx_M_passFrom_lb6_23 (v1 : Int32) (v2 : Int32) (v3 : Int32) (v4 : Int32) (v5 : Int32) (v6 : Int32) (d : Nat) (out : Option Value × zx_H) : zx_M → Prop
  | m => zx_Ev (d + 5) 212 53 [some (.ref 0), some (.int v1), some (.int v2), some (.int v3), some (.int v4), some (.int v5), some (.int v6), none] [] (zx_SM, m) out
def kl_M_passFrom_lb6_23 (v1 : Int32) (v2 : Int32) (v3 : Int32) (v4 : Int32) (v5 : Int32) (v6 : Int32) (d : Nat) (out : Option Value × zx_H) : (Int32 × zx_M) ⊕ (zx_M) → Prop
  | .inl (v7, m) => zx_Ev (d + 5) 212 23 [some (.ref 0), some (.int v1), some (.int v2), some (.int v3), some (.int v4), some (.int v5), some (.int v6), some (.int v7)] [] (zx_SM, m) out
  | .inr x => kx_M_passFrom_lb6_23 v1 v2 v3 v4 v5 v6 d out x
def b_M_passFrom_lb6_23 (v1 : Int32) (v2 : Int32) (v3 : Int32) (v4 : Int32) (v5 : Int32) (v6 : Int32) (v7 : Int32) (m : zx_M) : Option ((Int32 × zx_M) ⊕ (zx_M)) := if v6 ≤ v7 then some (.inr m) else (f_M_itemAt v1 (v2 + v7) m).bind fun r5 => (zx_ix 7 v7).bind fun j6 => zx_let (zx_u1 m 8 j6 (Int64.toInt32 r5)) fun m7 => zx_let (v7 + 1) fun a8 => some (.inl (a8, m7))
theorem eb_M_passFrom_lb6_23 (v1 : Int32) (v2 : Int32) (v3 : Int32) (v4 : Int32) (v5 : Int32) (v6 : Int32) (v7 : Int32) (m : zx_M) {d : Nat} {out : Option Value × zx_H} {y : (Int32 × zx_M) ⊕ (zx_M)} (hf : b_M_passFrom_lb6_23 v1 v2 v3 v4 v5 v6 v7 m = some y) (hK : kl_M_passFrom_lb6_23 v1 v2 v3 v4 v5 v6 d out y) : zx_Ev (d + 5) 212 23 [some (.ref 0), some (.int v1), some (.int v2), some (.int v3), some (.int v4), some (.int v5), some (.int v6), some (.int v7)] [] (zx_SM, m) out := by
  unfold b_M_passFrom_lb6_23 at hf
  refine zx_ev_blk zk_212 2 (pc1 := 27) (L1 := [some (.ref 0), some (.int v1), some (.int v2), some (.int v3), some (.int v4), some (.int v5), some (.int v6), some (.int v7)]) (st1 := [.int v6, .int v7]) (h1 := (zx_SM, m)) rfl ?_
  by_cases c3 : v6 ≤ v7
  · rw [if_pos c3] at hf
    refine zx_ev_ift zk_212 (P := v6 ≤ v7) (t := 53) (f := 30) rfl rfl c3 ?_
    obtain rfl := Option.some.inj hf
    exact zx_ev_sub (L := [some (.ref 0), some (.int v1), some (.int v2), some (.int v3), some (.int v4), some (.int v5), some (.int v6), none]) (⟨rfl, ⟨rfl, ⟨rfl, ⟨rfl, ⟨rfl, ⟨rfl, ⟨rfl, ⟨trivial, trivial⟩⟩⟩⟩⟩⟩⟩⟩) hK
  · rw [if_neg c3] at hf
    refine zx_ev_ifn zk_212 (P := v6 ≤ v7) (t := 53) (f := 30) rfl rfl c3 ?_
    refine zx_ev_blk zk_212 8 (pc1 := 42) (L1 := [some (.ref 0), some (.int v1), some (.int v2), some (.int v3), some (.int v4), some (.int v5), some (.int v6), some (.int v7)]) (st1 := [.int (v2 + v7), .int v1, .ref 0, .int v7, .ref 8]) (h1 := (zx_SM, m)) rfl ?_
    obtain ⟨r5, hv4, hf⟩ := zx_bind_eq hf
    refine zx_ev_call (d := d + 4) zk_212 (v := some (.long r5)) (h1 := (zx_SM, m)) rfl rfl zt_199 rfl zx_SMn rfl rfl (s_M_itemAt _ _ _ (d := d + 4) hv4) ?_
    refine zx_ev_blk zk_212 1 (pc1 := 46) (L1 := [some (.ref 0), some (.int v1), some (.int v2), some (.int v3), some (.int v4), some (.int v5), some (.int v6), some (.int v7)]) (st1 := [.int (Int64.toInt32 r5), .int v7, .ref 8]) (h1 := (zx_SM, m)) rfl ?_
    obtain ⟨j6, hj6, hf⟩ := zx_bind_eq hf
    refine zx_ev_step zk_212 rfl (st_iast rfl hj6) ?_
    obtain ⟨m7, hm7, hf⟩ := zx_let_eq hf
    rw [hm7]
    obtain ⟨a8, ha8, hf⟩ := zx_let_eq hf
    refine zx_ev_blk zk_212 2 (pc1 := 23) (L1 := [some (.ref 0), some (.int v1), some (.int v2), some (.int v3), some (.int v4), some (.int v5), some (.int v6), some (.int a8)]) (st1 := []) (h1 := (zx_SM, m7)) (by subst ha8; rfl) ?_
    obtain rfl := Option.some.inj hf
    exact zx_ev_sub (L := [some (.ref 0), some (.int v1), some (.int v2), some (.int v3), some (.int v4), some (.int v5), some (.int v6), some (.int a8)]) (⟨rfl, ⟨rfl, ⟨rfl, ⟨rfl, ⟨rfl, ⟨rfl, ⟨rfl, ⟨rfl, trivial⟩⟩⟩⟩⟩⟩⟩⟩) hK
def l_M_passFrom_lb6_23 (v1 : Int32) (v2 : Int32) (v3 : Int32) (v4 : Int32) (v5 : Int32) (v6 : Int32) (s0 : Int32 × zx_M) : Option (zx_M) := zx_lp zx_N (fun s : Int32 × zx_M => b_M_passFrom_lb6_23 v1 v2 v3 v4 v5 v6 s.1 s.2) s0
theorem el_M_passFrom_lb6_23 (v1 : Int32) (v2 : Int32) (v3 : Int32) (v4 : Int32) (v5 : Int32) (v6 : Int32) {d : Nat} {out : Option Value × zx_H} : ∀ (n : Nat) (s : Int32 × zx_M) (x : zx_M), zx_lp n (fun s : Int32 × zx_M => b_M_passFrom_lb6_23 v1 v2 v3 v4 v5 v6 s.1 s.2) s = some x → kx_M_passFrom_lb6_23 v1 v2 v3 v4 v5 v6 d out x → zx_Ev (d + 5) 212 23 [some (.ref 0), some (.int v1), some (.int v2), some (.int v3), some (.int v4), some (.int v5), some (.int v6), some (.int s.1)] [] (zx_SM, s.2) out := by
  intro n
  induction n with
  | zero => intro s x hl _; simp [zx_lp] at hl
  | succ n ih =>
    intro s x hl hx
    unfold zx_lp at hl
    cases hb : b_M_passFrom_lb6_23 v1 v2 v3 v4 v5 v6 s.1 s.2 with
    | none => simp only [hb] at hl; cases hl
    | some z =>
      simp only [hb] at hl
      cases z with
      | inl s1 => exact eb_M_passFrom_lb6_23 v1 v2 v3 v4 v5 v6 s.1 s.2 hb (ih s1 x hl hx)
      | inr t =>
        simp only [Option.some.injEq] at hl
        subst hl
        exact eb_M_passFrom_lb6_23 v1 v2 v3 v4 v5 v6 s.1 s.2 hb hx
def n_M_passFrom_b6_79 (v1 : Int32) (v2 : Int32) (v3 : Int32) (v4 : Int32) (v6 : Int32) (t0 : Int32) (m : zx_M) : Option ((Int32 × Int32 × zx_M) ⊕ ((Int32 × zx_M))) := zx_let (v6 + 1) fun a16 => some (.inl (t0, a16, m))
theorem e_M_passFrom_b6_79 (v1 : Int32) (v2 : Int32) (v3 : Int32) (v4 : Int32) (v6 : Int32) (t0 : Int32) (m : zx_M) {d : Nat} {out : Option Value × zx_H} {y : (Int32 × Int32 × zx_M) ⊕ ((Int32 × zx_M))} (hf : n_M_passFrom_b6_79 v1 v2 v3 v4 v6 t0 m = some y) (hK : kl_M_passFrom_l6 v1 v2 v3 v4 d out y) : zx_Ev (d + 5) 212 79 [some (.ref 0), some (.int v1), some (.int v2), some (.int v3), some (.int v4), none, some (.int v6), none] [.int t0] (zx_SM, m) out := by
  unfold n_M_passFrom_b6_79 at hf
  obtain ⟨a16, ha16, hf⟩ := zx_let_eq hf
  refine zx_ev_blk zk_212 3 (pc1 := 6) (L1 := [some (.ref 0), some (.int v1), some (.int v2), some (.int v3), some (.int v4), some (.int t0), some (.int a16), none]) (st1 := []) (h1 := (zx_SM, m)) (by subst ha16; rfl) ?_
  obtain rfl := Option.some.inj hf
  exact zx_ev_sub (L := [some (.ref 0), some (.int v1), some (.int v2), some (.int v3), some (.int v4), some (.int t0), some (.int a16), none]) (⟨rfl, ⟨rfl, ⟨rfl, ⟨rfl, ⟨rfl, ⟨rfl, ⟨rfl, trivial⟩⟩⟩⟩⟩⟩⟩) hK
def b_M_passFrom_l6 (v1 : Int32) (v2 : Int32) (v3 : Int32) (v4 : Int32) (v5 : Int32) (v6 : Int32) (m : zx_M) : Option ((Int32 × Int32 × zx_M) ⊕ ((Int32 × zx_M))) := if v3 < (v2 + v6) then some (.inr (v5, m)) else zx_let (zx_u1 m 0 20 v6) fun m2 => (l_M_passFrom_lb6_23 v1 v2 v3 v4 v5 v6 (0, m2)).bind fun x9 => zx_let x9 fun m10 => (f_M_counts v4 m10).bind fun m12 => (f_M_findsSpot m12).bind fun m14 => if ¬ (m14.1 0 24) = v6 then n_M_passFrom_b6_79 v1 v2 v3 v4 v6 v5 m14 else n_M_passFrom_b6_79 v1 v2 v3 v4 v6 v6 m14
theorem eb_M_passFrom_l6 (v1 : Int32) (v2 : Int32) (v3 : Int32) (v4 : Int32) (v5 : Int32) (v6 : Int32) (m : zx_M) {d : Nat} {out : Option Value × zx_H} {y : (Int32 × Int32 × zx_M) ⊕ ((Int32 × zx_M))} (hf : b_M_passFrom_l6 v1 v2 v3 v4 v5 v6 m = some y) (hK : kl_M_passFrom_l6 v1 v2 v3 v4 d out y) : zx_Ev (d + 5) 212 6 [some (.ref 0), some (.int v1), some (.int v2), some (.int v3), some (.int v4), some (.int v5), some (.int v6), none] [] (zx_SM, m) out := by
  unfold b_M_passFrom_l6 at hf
  refine zx_ev_blk zk_212 4 (pc1 := 11) (L1 := [some (.ref 0), some (.int v1), some (.int v2), some (.int v3), some (.int v4), some (.int v5), some (.int v6), none]) (st1 := [.int v3, .int (v2 + v6)]) (h1 := (zx_SM, m)) rfl ?_
  by_cases c1 : v3 < (v2 + v6)
  · rw [if_pos c1] at hf
    refine zx_ev_ift zk_212 (P := v3 < (v2 + v6)) (t := 87) (f := 14) rfl rfl c1 ?_
    refine zx_ev_blk zk_212 1 (pc1 := 89) (L1 := [some (.ref 0), some (.int v1), some (.int v2), some (.int v3), some (.int v4), some (.int v5), some (.int v6), none]) (st1 := [.int v5]) (h1 := (zx_SM, m)) rfl ?_
    obtain rfl := Option.some.inj hf
    rw [show out = _ from hK]
    exact zx_ev_ret zk_212 rfl rfl
  · rw [if_neg c1] at hf
    refine zx_ev_ifn zk_212 (P := v3 < (v2 + v6)) (t := 87) (f := 14) rfl rfl c1 ?_
    obtain ⟨m2, hm2, hf⟩ := zx_let_eq hf
    refine zx_ev_blk zk_212 5 (pc1 := 23) (L1 := [some (.ref 0), some (.int v1), some (.int v2), some (.int v3), some (.int v4), some (.int v5), some (.int v6), some (.int 0)]) (st1 := []) (h1 := (zx_SM, m2)) (by subst hm2; rfl) ?_
    obtain ⟨x9, hx9, hf⟩ := zx_bind_eq hf
    refine zx_ev_sub (L := [some (.ref 0), some (.int v1), some (.int v2), some (.int v3), some (.int v4), some (.int v5), some (.int v6), some (.int 0)]) (⟨rfl, ⟨rfl, ⟨rfl, ⟨rfl, ⟨rfl, ⟨rfl, ⟨rfl, ⟨rfl, trivial⟩⟩⟩⟩⟩⟩⟩⟩) (el_M_passFrom_lb6_23 v1 v2 v3 v4 v5 v6 zx_N (0, m2) x9 hx9 ?_)
    obtain ⟨m10, hm10, hf⟩ := zx_let_eq hf
    subst hm10
    show zx_Ev (d + 5) 212 53 [some (.ref 0), some (.int v1), some (.int v2), some (.int v3), some (.int v4), some (.int v5), some (.int v6), none] [] (zx_SM, x9) out
    refine zx_ev_blk zk_212 2 (pc1 := 56) (L1 := [some (.ref 0), some (.int v1), some (.int v2), some (.int v3), some (.int v4), some (.int v5), some (.int v6), none]) (st1 := [.int v4, .ref 0]) (h1 := (zx_SM, x9)) rfl ?_
    obtain ⟨m12, hv11, hf⟩ := zx_bind_eq hf
    refine zx_ev_call (d := d + 4) zk_212 (v := none) (h1 := (zx_SM, m12)) rfl rfl zt_201 rfl zx_SMn rfl rfl (s_M_counts _ _ (d := d + 4) hv11) ?_
    refine zx_ev_blk zk_212 1 (pc1 := 60) (L1 := [some (.ref 0), some (.int v1), some (.int v2), some (.int v3), some (.int v4), some (.int v5), some (.int v6), none]) (st1 := [.ref 0]) (h1 := (zx_SM, m12)) rfl ?_
    obtain ⟨m14, hv13, hf⟩ := zx_bind_eq hf
    refine zx_ev_call (d := d + 4) zk_212 (v := none) (h1 := (zx_SM, m14)) rfl rfl zt_207 rfl zx_SMn rfl rfl (s_M_findsSpot _ (d := d + 0) hv13) ?_
    refine zx_ev_blk zk_212 3 (pc1 := 69) (L1 := [some (.ref 0), some (.int v1), some (.int v2), some (.int v3), some (.int v4), some (.int v5), some (.int v6), none]) (st1 := [.int v6, .int (m14.1 0 24)]) (h1 := (zx_SM, m14)) rfl ?_
    by_cases c15 : ¬ (m14.1 0 24) = v6
    · rw [if_pos c15] at hf
      refine zx_ev_ift zk_212 (P := ¬ (m14.1 0 24) = v6) (t := 77) (f := 72) rfl rfl c15 ?_
      refine zx_ev_blk zk_212 1 (pc1 := 79) (L1 := [some (.ref 0), some (.int v1), some (.int v2), some (.int v3), some (.int v4), some (.int v5), some (.int v6), none]) (st1 := [.int v5]) (h1 := (zx_SM, m14)) rfl ?_
      exact zx_ev_sub (L := [some (.ref 0), some (.int v1), some (.int v2), some (.int v3), some (.int v4), none, some (.int v6), none]) (⟨rfl, ⟨rfl, ⟨rfl, ⟨rfl, ⟨rfl, ⟨trivial, ⟨rfl, trivial⟩⟩⟩⟩⟩⟩⟩) (e_M_passFrom_b6_79 v1 v2 v3 v4 v6 v5 m14 hf hK)
    · rw [if_neg c15] at hf
      refine zx_ev_ifn zk_212 (P := ¬ (m14.1 0 24) = v6) (t := 77) (f := 72) rfl rfl c15 ?_
      refine zx_ev_blk zk_212 2 (pc1 := 79) (L1 := [some (.ref 0), some (.int v1), some (.int v2), some (.int v3), some (.int v4), some (.int v5), some (.int v6), none]) (st1 := [.int v6]) (h1 := (zx_SM, m14)) rfl ?_
      exact zx_ev_sub (L := [some (.ref 0), some (.int v1), some (.int v2), some (.int v3), some (.int v4), none, some (.int v6), none]) (⟨rfl, ⟨rfl, ⟨rfl, ⟨rfl, ⟨rfl, ⟨trivial, ⟨rfl, trivial⟩⟩⟩⟩⟩⟩⟩) (e_M_passFrom_b6_79 v1 v2 v3 v4 v6 v6 m14 hf hK)
def l_M_passFrom_l6 (v1 : Int32) (v2 : Int32) (v3 : Int32) (v4 : Int32) (s0 : Int32 × Int32 × zx_M) : Option ((Int32 × zx_M)) := zx_lp zx_N (fun s : Int32 × Int32 × zx_M => b_M_passFrom_l6 v1 v2 v3 v4 s.1 s.2.1 s.2.2) s0
theorem el_M_passFrom_l6 (v1 : Int32) (v2 : Int32) (v3 : Int32) (v4 : Int32) {d : Nat} {out : Option Value × zx_H} : ∀ (n : Nat) (s : Int32 × Int32 × zx_M) (x : (Int32 × zx_M)), zx_lp n (fun s : Int32 × Int32 × zx_M => b_M_passFrom_l6 v1 v2 v3 v4 s.1 s.2.1 s.2.2) s = some x → kx_M_passFrom_l6 v1 v2 v3 v4 d out x → zx_Ev (d + 5) 212 6 [some (.ref 0), some (.int v1), some (.int v2), some (.int v3), some (.int v4), some (.int s.1), some (.int s.2.1), none] [] (zx_SM, s.2.2) out := by
  intro n
  induction n with
  | zero => intro s x hl _; simp [zx_lp] at hl
  | succ n ih =>
    intro s x hl hx
    unfold zx_lp at hl
    cases hb : b_M_passFrom_l6 v1 v2 v3 v4 s.1 s.2.1 s.2.2 with
    | none => simp only [hb] at hl; cases hl
    | some z =>
      simp only [hb] at hl
      cases z with
      | inl s1 => exact eb_M_passFrom_l6 v1 v2 v3 v4 s.1 s.2.1 s.2.2 hb (ih s1 x hl hx)
      | inr t =>
        simp only [Option.some.injEq] at hl
        subst hl
        exact eb_M_passFrom_l6 v1 v2 v3 v4 s.1 s.2.1 s.2.2 hb hx
def f_M_passFrom (v1 : Int32) (v2 : Int32) (v3 : Int32) (v4 : Int32) (m : zx_M) : Option (Int32 × zx_M) := (l_M_passFrom_l6 v1 v2 v3 v4 (0, 1, m)).bind fun x17 => zx_let x17 fun y18 => some y18
theorem s_M_passFrom (v1 : Int32) (v2 : Int32) (v3 : Int32) (v4 : Int32) (m : zx_M) {d : Nat} {y : (Int32 × zx_M)} (hf : f_M_passFrom v1 v2 v3 v4 m = some y) : zx_Ev (d + 5) 212 0 [some (.ref 0), some (.int v1), some (.int v2), some (.int v3), some (.int v4), none, none, none] [] (zx_SM, m) (some (.int y.1), (zx_SM, y.2)) := by
  unfold f_M_passFrom at hf
  refine zx_ev_blk zk_212 4 (pc1 := 6) (L1 := [some (.ref 0), some (.int v1), some (.int v2), some (.int v3), some (.int v4), some (.int 0), some (.int 1), none]) (st1 := []) (h1 := (zx_SM, m)) rfl ?_
  obtain ⟨x17, hx17, hf⟩ := zx_bind_eq hf
  refine zx_ev_sub (L := [some (.ref 0), some (.int v1), some (.int v2), some (.int v3), some (.int v4), some (.int 0), some (.int 1), none]) (⟨rfl, ⟨rfl, ⟨rfl, ⟨rfl, ⟨rfl, ⟨rfl, ⟨rfl, trivial⟩⟩⟩⟩⟩⟩⟩) (el_M_passFrom_l6 v1 v2 v3 v4 zx_N (0, 1, m) x17 hx17 ?_)
  obtain ⟨y18, hy18, hf⟩ := zx_let_eq hf
  subst hy18
  obtain rfl := Option.some.inj hf
  rfl
def kx_M_pass_l77 (v1 : Int32) (v2 : Int32) (v4 : Int32) (d : Nat) (out : Option Value × zx_H) : (Int32 × zx_M) → Prop
  | y => out = (some (.int y.1), (zx_SM, y.2))
def kl_M_pass_l77 (v1 : Int32) (v2 : Int32) (v4 : Int32) (d : Nat) (out : Option Value × zx_H) : (Int32 × Int32 × zx_M) ⊕ ((Int32 × zx_M)) → Prop
  | .inl (v5, v6, m) => zx_Ev (d + 70) 213 77 [some (.ref 0), some (.int v1), some (.int v2), none, some (.int v4), some (.int v5), some (.int v6), none] [] (zx_SM, m) out
  | .inr x => kx_M_pass_l77 v1 v2 v4 d out x
def b_M_pass_l77 (v1 : Int32) (v2 : Int32) (v4 : Int32) (v5 : Int32) (v6 : Int32) (m : zx_M) : Option ((Int32 × Int32 × zx_M) ⊕ ((Int32 × zx_M))) := if v4 ≤ v6 then some (.inr (v5, m)) else (f_M_passFrom v1 v6 v4 v2 m).bind fun (r19, m20) => if ¬ r19 = 0 then zx_let (v6 + r19) fun a22 => zx_let (v5 + 1) fun a23 => some (.inl (a23, a22, m20)) else some (.inr ((-2), m20))
theorem eb_M_pass_l77 (v1 : Int32) (v2 : Int32) (v4 : Int32) (v5 : Int32) (v6 : Int32) (m : zx_M) {d : Nat} {out : Option Value × zx_H} {y : (Int32 × Int32 × zx_M) ⊕ ((Int32 × zx_M))} (hf : b_M_pass_l77 v1 v2 v4 v5 v6 m = some y) (hK : kl_M_pass_l77 v1 v2 v4 d out y) : zx_Ev (d + 70) 213 77 [some (.ref 0), some (.int v1), some (.int v2), none, some (.int v4), some (.int v5), some (.int v6), none] [] (zx_SM, m) out := by
  unfold b_M_pass_l77 at hf
  refine zx_ev_blk zk_213 2 (pc1 := 81) (L1 := [some (.ref 0), some (.int v1), some (.int v2), none, some (.int v4), some (.int v5), some (.int v6), none]) (st1 := [.int v4, .int v6]) (h1 := (zx_SM, m)) rfl ?_
  by_cases c17 : v4 ≤ v6
  · rw [if_pos c17] at hf
    refine zx_ev_ift zk_213 (P := v4 ≤ v6) (t := 117) (f := 84) rfl rfl c17 ?_
    refine zx_ev_blk zk_213 1 (pc1 := 119) (L1 := [some (.ref 0), some (.int v1), some (.int v2), none, some (.int v4), some (.int v5), some (.int v6), none]) (st1 := [.int v5]) (h1 := (zx_SM, m)) rfl ?_
    obtain rfl := Option.some.inj hf
    rw [show out = _ from hK]
    exact zx_ev_ret zk_213 rfl rfl
  · rw [if_neg c17] at hf
    refine zx_ev_ifn zk_213 (P := v4 ≤ v6) (t := 117) (f := 84) rfl rfl c17 ?_
    refine zx_ev_blk zk_213 5 (pc1 := 91) (L1 := [some (.ref 0), some (.int v1), some (.int v2), none, some (.int v4), some (.int v5), some (.int v6), none]) (st1 := [.int v2, .int v4, .int v6, .int v1, .ref 0]) (h1 := (zx_SM, m)) rfl ?_
    obtain ⟨⟨r19, m20⟩, hv18, hf⟩ := zx_bind_eq hf
    dsimp only at hf
    refine zx_ev_call (d := d + 69) zk_213 (v := some (.int r19)) (h1 := (zx_SM, m20)) rfl rfl zt_212 rfl zx_SMn rfl rfl (s_M_passFrom _ _ _ _ _ (d := d + 64) hv18) ?_
    refine zx_ev_blk zk_213 2 (pc1 := 98) (L1 := [some (.ref 0), some (.int v1), some (.int v2), none, some (.int v4), some (.int v5), some (.int v6), some (.int r19)]) (st1 := [.int r19]) (h1 := (zx_SM, m20)) rfl ?_
    by_cases c21 : ¬ r19 = 0
    · rw [if_pos c21] at hf
      refine zx_ev_ift zk_213 (P := ¬ r19 = 0) (t := 104) (f := 101) rfl rfl c21 ?_
      obtain ⟨a22, ha22, hf⟩ := zx_let_eq hf
      obtain ⟨a23, ha23, hf⟩ := zx_let_eq hf
      refine zx_ev_blk zk_213 6 (pc1 := 77) (L1 := [some (.ref 0), some (.int v1), some (.int v2), none, some (.int v4), some (.int a23), some (.int a22), some (.int r19)]) (st1 := []) (h1 := (zx_SM, m20)) (by subst ha22; subst ha23; rfl) ?_
      obtain rfl := Option.some.inj hf
      exact zx_ev_sub (L := [some (.ref 0), some (.int v1), some (.int v2), none, some (.int v4), some (.int a23), some (.int a22), none]) (⟨rfl, ⟨rfl, ⟨rfl, ⟨rfl, ⟨rfl, ⟨rfl, ⟨trivial, trivial⟩⟩⟩⟩⟩⟩⟩) hK
    · rw [if_neg c21] at hf
      refine zx_ev_ifn zk_213 (P := ¬ r19 = 0) (t := 104) (f := 101) rfl rfl c21 ?_
      refine zx_ev_blk zk_213 1 (pc1 := 103) (L1 := [some (.ref 0), some (.int v1), some (.int v2), none, some (.int v4), some (.int v5), some (.int v6), some (.int r19)]) (st1 := [.int (-2)]) (h1 := (zx_SM, m20)) rfl ?_
      obtain rfl := Option.some.inj hf
      rw [show out = _ from hK]
      exact zx_ev_ret zk_213 rfl rfl
def l_M_pass_l77 (v1 : Int32) (v2 : Int32) (v4 : Int32) (s0 : Int32 × Int32 × zx_M) : Option ((Int32 × zx_M)) := zx_lp zx_N (fun s : Int32 × Int32 × zx_M => b_M_pass_l77 v1 v2 v4 s.1 s.2.1 s.2.2) s0
theorem el_M_pass_l77 (v1 : Int32) (v2 : Int32) (v4 : Int32) {d : Nat} {out : Option Value × zx_H} : ∀ (n : Nat) (s : Int32 × Int32 × zx_M) (x : (Int32 × zx_M)), zx_lp n (fun s : Int32 × Int32 × zx_M => b_M_pass_l77 v1 v2 v4 s.1 s.2.1 s.2.2) s = some x → kx_M_pass_l77 v1 v2 v4 d out x → zx_Ev (d + 70) 213 77 [some (.ref 0), some (.int v1), some (.int v2), none, some (.int v4), some (.int s.1), some (.int s.2.1), none] [] (zx_SM, s.2.2) out := by
  intro n
  induction n with
  | zero => intro s x hl _; simp [zx_lp] at hl
  | succ n ih =>
    intro s x hl hx
    unfold zx_lp at hl
    cases hb : b_M_pass_l77 v1 v2 v4 s.1 s.2.1 s.2.2 with
    | none => simp only [hb] at hl; cases hl
    | some z =>
      simp only [hb] at hl
      cases z with
      | inl s1 => exact eb_M_pass_l77 v1 v2 v4 s.1 s.2.1 s.2.2 hb (ih s1 x hl hx)
      | inr t =>
        simp only [Option.some.injEq] at hl
        subst hl
        exact eb_M_pass_l77 v1 v2 v4 s.1 s.2.1 s.2.2 hb hx
def f_M_pass (v1 : Int32) (v2 : Int32) (v3 : Int32) (m : zx_M) : Option (Int32 × zx_M) := (f_M_rowIs v1 0 m).bind fun r2 => if r2 = (-1) then some ((-1), m) else (f_M_isCount v2 m).bind fun r5 => if r5 = 0 then some ((-1), m) else (f_M_within (Int32.toInt64 v3) 0 1 m).bind fun r8 => if ¬ r8 = 0 then (f_M_rowIs v1 0 m).bind fun r11 => if 0 ≤ r11 then (f_M_takesOrder v1 v2 m).bind fun m14 => zx_let (m14.1 0 20) fun a15 => if ¬ v3 = 0 then (l_M_pass_l77 v1 v2 a15 (0, 0, m14)).bind fun x24 => zx_let x24 fun y25 => some y25 else (f_M_passFrom v1 0 a15 v2 m14).bind fun (r27, m28) => some (r27, m28) else (f_M_rowIs v1 0 m).bind fun r30 => some (r30, m) else some ((-1), m)
theorem s_M_pass (v1 : Int32) (v2 : Int32) (v3 : Int32) (m : zx_M) {d : Nat} {y : (Int32 × zx_M)} (hf : f_M_pass v1 v2 v3 m = some y) : zx_Ev (d + 70) 213 0 [some (.ref 0), some (.int v1), some (.int v2), some (.int v3), none, none, none, none] [] (zx_SM, m) (some (.int y.1), (zx_SM, y.2)) := by
  unfold f_M_pass at hf
  refine zx_ev_blk zk_213 3 (pc1 := 3) (L1 := [some (.ref 0), some (.int v1), some (.int v2), some (.int v3), none, none, none, none]) (st1 := [.int 0, .int v1, .ref 0]) (h1 := (zx_SM, m)) rfl ?_
  obtain ⟨r2, hv1, hf⟩ := zx_bind_eq hf
  refine zx_ev_call (d := d + 69) zk_213 (v := some (.int r2)) (h1 := (zx_SM, m)) rfl rfl zt_198 rfl zx_SMn rfl rfl (s_M_rowIs _ _ _ (d := d + 67) hv1) ?_
  refine zx_ev_blk zk_213 1 (pc1 := 7) (L1 := [some (.ref 0), some (.int v1), some (.int v2), some (.int v3), none, none, none, none]) (st1 := [.int (-1), .int r2]) (h1 := (zx_SM, m)) rfl ?_
  by_cases c3 : r2 = (-1)
  · rw [if_pos c3] at hf
    refine zx_ev_ift zk_213 (P := r2 = (-1)) (t := 27) (f := 10) rfl rfl c3 ?_
    refine zx_ev_blk zk_213 1 (pc1 := 28) (L1 := [some (.ref 0), some (.int v1), some (.int v2), some (.int v3), none, none, none, none]) (st1 := [.int (-1)]) (h1 := (zx_SM, m)) rfl ?_
    obtain rfl := Option.some.inj hf
    exact zx_ev_ret zk_213 rfl rfl
  · rw [if_neg c3] at hf
    refine zx_ev_ifn zk_213 (P := r2 = (-1)) (t := 27) (f := 10) rfl rfl c3 ?_
    refine zx_ev_blk zk_213 1 (pc1 := 11) (L1 := [some (.ref 0), some (.int v1), some (.int v2), some (.int v3), none, none, none, none]) (st1 := [.int v2]) (h1 := (zx_SM, m)) rfl ?_
    obtain ⟨r5, hv4, hf⟩ := zx_bind_eq hf
    refine zx_ev_call (d := d + 69) zk_213 (v := some (.int r5)) (h1 := (zx_SM, m)) rfl rfl zt_202 rfl zx_SMn rfl rfl (s_M_isCount _ _ (d := d + 68) hv4) ?_
    by_cases c6 : r5 = 0
    · rw [if_pos c6] at hf
      refine zx_ev_ift zk_213 (P := r5 = 0) (t := 27) (f := 17) rfl rfl c6 ?_
      refine zx_ev_blk zk_213 1 (pc1 := 28) (L1 := [some (.ref 0), some (.int v1), some (.int v2), some (.int v3), none, none, none, none]) (st1 := [.int (-1)]) (h1 := (zx_SM, m)) rfl ?_
      obtain rfl := Option.some.inj hf
      exact zx_ev_ret zk_213 rfl rfl
    · rw [if_neg c6] at hf
      refine zx_ev_ifn zk_213 (P := r5 = 0) (t := 27) (f := 17) rfl rfl c6 ?_
      refine zx_ev_blk zk_213 4 (pc1 := 21) (L1 := [some (.ref 0), some (.int v1), some (.int v2), some (.int v3), none, none, none, none]) (st1 := [.long 1, .long 0, .long (Int32.toInt64 v3)]) (h1 := (zx_SM, m)) rfl ?_
      obtain ⟨r8, hv7, hf⟩ := zx_bind_eq hf
      refine zx_ev_call (d := d + 69) zk_213 (v := some (.int r8)) (h1 := (zx_SM, m)) rfl rfl zt_157 rfl zx_SMn rfl rfl (s_M_within _ _ _ _ (d := d + 69) hv7) ?_
      by_cases c9 : ¬ r8 = 0
      · rw [if_pos c9] at hf
        refine zx_ev_ift zk_213 (P := ¬ r8 = 0) (t := 29) (f := 27) rfl rfl c9 ?_
        refine zx_ev_blk zk_213 3 (pc1 := 32) (L1 := [some (.ref 0), some (.int v1), some (.int v2), some (.int v3), none, none, none, none]) (st1 := [.int 0, .int v1, .ref 0]) (h1 := (zx_SM, m)) rfl ?_
        obtain ⟨r11, hv10, hf⟩ := zx_bind_eq hf
        refine zx_ev_call (d := d + 69) zk_213 (v := some (.int r11)) (h1 := (zx_SM, m)) rfl rfl zt_198 rfl zx_SMn rfl rfl (s_M_rowIs _ _ _ (d := d + 67) hv10) ?_
        by_cases c12 : 0 ≤ r11
        · rw [if_pos c12] at hf
          refine zx_ev_ift zk_213 (P := 0 ≤ r11) (t := 45) (f := 38) rfl rfl c12 ?_
          refine zx_ev_blk zk_213 3 (pc1 := 48) (L1 := [some (.ref 0), some (.int v1), some (.int v2), some (.int v3), none, none, none, none]) (st1 := [.int v2, .int v1, .ref 0]) (h1 := (zx_SM, m)) rfl ?_
          obtain ⟨m14, hv13, hf⟩ := zx_bind_eq hf
          refine zx_ev_call (d := d + 69) zk_213 (v := none) (h1 := (zx_SM, m14)) rfl rfl zt_200 rfl zx_SMn rfl rfl (s_M_takesOrder _ _ _ (d := d + 0) hv13) ?_
          obtain ⟨a15, ha15, hf⟩ := zx_let_eq hf
          refine zx_ev_blk zk_213 4 (pc1 := 58) (L1 := [some (.ref 0), some (.int v1), some (.int v2), some (.int v3), some (.int a15), none, none, none]) (st1 := [.int v3]) (h1 := (zx_SM, m14)) (by subst ha15; rfl) ?_
          by_cases c16 : ¬ v3 = 0
          · rw [if_pos c16] at hf
            refine zx_ev_ift zk_213 (P := ¬ v3 = 0) (t := 71) (f := 61) rfl rfl c16 ?_
            refine zx_ev_blk zk_213 4 (pc1 := 77) (L1 := [some (.ref 0), some (.int v1), some (.int v2), some (.int v3), some (.int a15), some (.int 0), some (.int 0), none]) (st1 := []) (h1 := (zx_SM, m14)) rfl ?_
            obtain ⟨x24, hx24, hf⟩ := zx_bind_eq hf
            refine zx_ev_sub (L := [some (.ref 0), some (.int v1), some (.int v2), none, some (.int a15), some (.int 0), some (.int 0), none]) (⟨rfl, ⟨rfl, ⟨rfl, ⟨trivial, ⟨rfl, ⟨rfl, ⟨rfl, trivial⟩⟩⟩⟩⟩⟩⟩) (el_M_pass_l77 v1 v2 a15 zx_N (0, 0, m14) x24 hx24 ?_)
            obtain ⟨y25, hy25, hf⟩ := zx_let_eq hf
            subst hy25
            obtain rfl := Option.some.inj hf
            rfl
          · rw [if_neg c16] at hf
            refine zx_ev_ifn zk_213 (P := ¬ v3 = 0) (t := 71) (f := 61) rfl rfl c16 ?_
            refine zx_ev_blk zk_213 5 (pc1 := 67) (L1 := [some (.ref 0), some (.int v1), some (.int v2), some (.int v3), some (.int a15), none, none, none]) (st1 := [.int v2, .int a15, .int 0, .int v1, .ref 0]) (h1 := (zx_SM, m14)) rfl ?_
            obtain ⟨⟨r27, m28⟩, hv26, hf⟩ := zx_bind_eq hf
            dsimp only at hf
            refine zx_ev_call (d := d + 69) zk_213 (v := some (.int r27)) (h1 := (zx_SM, m28)) rfl rfl zt_212 rfl zx_SMn rfl rfl (s_M_passFrom _ _ _ _ _ (d := d + 64) hv26) ?_
            obtain rfl := Option.some.inj hf
            exact zx_ev_ret zk_213 rfl rfl
        · rw [if_neg c12] at hf
          refine zx_ev_ifn zk_213 (P := 0 ≤ r11) (t := 45) (f := 38) rfl rfl c12 ?_
          refine zx_ev_blk zk_213 3 (pc1 := 41) (L1 := [some (.ref 0), some (.int v1), some (.int v2), some (.int v3), none, none, none, none]) (st1 := [.int 0, .int v1, .ref 0]) (h1 := (zx_SM, m)) rfl ?_
          obtain ⟨r30, hv29, hf⟩ := zx_bind_eq hf
          refine zx_ev_call (d := d + 69) zk_213 (v := some (.int r30)) (h1 := (zx_SM, m)) rfl rfl zt_198 rfl zx_SMn rfl rfl (s_M_rowIs _ _ _ (d := d + 67) hv29) ?_
          obtain rfl := Option.some.inj hf
          exact zx_ev_ret zk_213 rfl rfl
      · rw [if_neg c9] at hf
        refine zx_ev_ifn zk_213 (P := ¬ r8 = 0) (t := 29) (f := 27) rfl rfl c9 ?_
        refine zx_ev_blk zk_213 1 (pc1 := 28) (L1 := [some (.ref 0), some (.int v1), some (.int v2), some (.int v3), none, none, none, none]) (st1 := [.int (-1)]) (h1 := (zx_SM, m)) rfl ?_
        obtain rfl := Option.some.inj hf
        exact zx_ev_ret zk_213 rfl rfl
def f_M_asSort (v0 : Int32) (v1 : Int64) (m : zx_M) : Option Int64 := if ¬ v0 = 0 then if ¬ v0 = 1 then if ¬ v0 = 2 then if ¬ v0 = 4 then some v1 else if (lg_cmp v1 0) = 0 then some 0 else some 1 else some (Int32.toInt64 (Int64.toInt32 v1)) else some (Int32.toInt64 (zx_i2s (Int64.toInt32 v1))) else some (Int32.toInt64 (zx_i2b (Int64.toInt32 v1)))
theorem s_M_asSort (v0 : Int32) (v1 : Int64) (m : zx_M) {d : Nat} {y : Int64} (hf : f_M_asSort v0 v1 m = some y) : zx_Ev (d) 254 0 [some (.int v0), some (.long v1), none] [] (zx_SM, m) (some (.long y), (zx_SM, m)) := by
  unfold f_M_asSort at hf
  refine zx_ev_blk zk_254 1 (pc1 := 1) (L1 := [some (.int v0), some (.long v1), none]) (st1 := [.int v0]) (h1 := (zx_SM, m)) rfl ?_
  by_cases c1 : ¬ v0 = 0
  · rw [if_pos c1] at hf
    refine zx_ev_ift zk_254 (P := ¬ v0 = 0) (t := 11) (f := 4) rfl rfl c1 ?_
    refine zx_ev_blk zk_254 2 (pc1 := 13) (L1 := [some (.int v0), some (.long v1), none]) (st1 := [.int 1, .int v0]) (h1 := (zx_SM, m)) rfl ?_
    by_cases c2 : ¬ v0 = 1
    · rw [if_pos c2] at hf
      refine zx_ev_ift zk_254 (P := ¬ v0 = 1) (t := 23) (f := 16) rfl rfl c2 ?_
      refine zx_ev_blk zk_254 2 (pc1 := 25) (L1 := [some (.int v0), some (.long v1), none]) (st1 := [.int 2, .int v0]) (h1 := (zx_SM, m)) rfl ?_
      by_cases c3 : ¬ v0 = 2
      · rw [if_pos c3] at hf
        refine zx_ev_ift zk_254 (P := ¬ v0 = 2) (t := 34) (f := 28) rfl rfl c3 ?_
        refine zx_ev_blk zk_254 2 (pc1 := 36) (L1 := [some (.int v0), some (.long v1), none]) (st1 := [.int 4, .int v0]) (h1 := (zx_SM, m)) rfl ?_
        by_cases c4 : ¬ v0 = 4
        · rw [if_pos c4] at hf
          refine zx_ev_ift zk_254 (P := ¬ v0 = 4) (t := 53) (f := 39) rfl rfl c4 ?_
          refine zx_ev_blk zk_254 1 (pc1 := 54) (L1 := [some (.int v0), some (.long v1), none]) (st1 := [.long v1]) (h1 := (zx_SM, m)) rfl ?_
          obtain rfl := Option.some.inj hf
          exact zx_ev_ret zk_254 rfl rfl
        · rw [if_neg c4] at hf
          refine zx_ev_ifn zk_254 (P := ¬ v0 = 4) (t := 53) (f := 39) rfl rfl c4 ?_
          refine zx_ev_blk zk_254 3 (pc1 := 42) (L1 := [some (.int v0), some (.long v1), none]) (st1 := [.int (lg_cmp v1 0)]) (h1 := (zx_SM, m)) rfl ?_
          by_cases c5 : (lg_cmp v1 0) = 0
          · rw [if_pos c5] at hf
            refine zx_ev_ift zk_254 (P := (lg_cmp v1 0) = 0) (t := 49) (f := 45) rfl rfl c5 ?_
            refine zx_ev_blk zk_254 2 (pc1 := 54) (L1 := [some (.int v0), some (.long v1), none]) (st1 := [.long 0]) (h1 := (zx_SM, m)) rfl ?_
            obtain rfl := Option.some.inj hf
            exact zx_ev_ret zk_254 rfl rfl
          · rw [if_neg c5] at hf
            refine zx_ev_ifn zk_254 (P := (lg_cmp v1 0) = 0) (t := 49) (f := 45) rfl rfl c5 ?_
            refine zx_ev_blk zk_254 2 (pc1 := 54) (L1 := [some (.int v0), some (.long v1), none]) (st1 := [.long 1]) (h1 := (zx_SM, m)) rfl ?_
            obtain rfl := Option.some.inj hf
            exact zx_ev_ret zk_254 rfl rfl
      · rw [if_neg c3] at hf
        refine zx_ev_ifn zk_254 (P := ¬ v0 = 2) (t := 34) (f := 28) rfl rfl c3 ?_
        refine zx_ev_blk zk_254 4 (pc1 := 54) (L1 := [some (.int v0), some (.long v1), none]) (st1 := [.long (Int32.toInt64 (Int64.toInt32 v1))]) (h1 := (zx_SM, m)) rfl ?_
        obtain rfl := Option.some.inj hf
        exact zx_ev_ret zk_254 rfl rfl
    · rw [if_neg c2] at hf
      refine zx_ev_ifn zk_254 (P := ¬ v0 = 1) (t := 23) (f := 16) rfl rfl c2 ?_
      refine zx_ev_blk zk_254 5 (pc1 := 54) (L1 := [some (.int v0), some (.long v1), none]) (st1 := [.long (Int32.toInt64 (zx_i2s (Int64.toInt32 v1)))]) (h1 := (zx_SM, m)) rfl ?_
      obtain rfl := Option.some.inj hf
      exact zx_ev_ret zk_254 rfl rfl
  · rw [if_neg c1] at hf
    refine zx_ev_ifn zk_254 (P := ¬ v0 = 0) (t := 11) (f := 4) rfl rfl c1 ?_
    refine zx_ev_blk zk_254 5 (pc1 := 54) (L1 := [some (.int v0), some (.long v1), none]) (st1 := [.long (Int32.toInt64 (zx_i2b (Int64.toInt32 v1)))]) (h1 := (zx_SM, m)) rfl ?_
    obtain rfl := Option.some.inj hf
    exact zx_ev_ret zk_254 rfl rfl
def n_M_put_n37 (v5 : Int32) (m : zx_M) : Option (Int32 × zx_M) := if ¬ v5 = 0 then some (v5, m) else some (1, m)
theorem e_M_put_n37 (v5 : Int32) (m : zx_M) {d : Nat} {y : (Int32 × zx_M)} (hf : n_M_put_n37 v5 m = some y) : zx_Ev (d + 3) 255 37 [some (.ref 0), none, none, none, none, some (.int v5)] [] (zx_SM, m) (some (.int y.1), (zx_SM, y.2)) := by
  unfold n_M_put_n37 at hf
  refine zx_ev_blk zk_255 1 (pc1 := 39) (L1 := [some (.ref 0), none, none, none, none, some (.int v5)]) (st1 := [.int v5]) (h1 := (zx_SM, m)) rfl ?_
  by_cases c4 : ¬ v5 = 0
  · rw [if_pos c4] at hf
    refine zx_ev_ift zk_255 (P := ¬ v5 = 0) (t := 46) (f := 42) rfl rfl c4 ?_
    refine zx_ev_blk zk_255 1 (pc1 := 48) (L1 := [some (.ref 0), none, none, none, none, some (.int v5)]) (st1 := [.int v5]) (h1 := (zx_SM, m)) rfl ?_
    obtain rfl := Option.some.inj hf
    exact zx_ev_ret zk_255 rfl rfl
  · rw [if_neg c4] at hf
    refine zx_ev_ifn zk_255 (P := ¬ v5 = 0) (t := 46) (f := 42) rfl rfl c4 ?_
    refine zx_ev_blk zk_255 2 (pc1 := 48) (L1 := [some (.ref 0), none, none, none, none, some (.int v5)]) (st1 := [.int 1]) (h1 := (zx_SM, m)) rfl ?_
    obtain rfl := Option.some.inj hf
    exact zx_ev_ret zk_255 rfl rfl
def f_M_put (v1 : Int32) (v2 : Int32) (v3 : Int64) (m : zx_M) : Option (Int32 × zx_M) := (f_M_refusal v1 v2 m).bind fun r2 => if ¬ r2 = 0 then n_M_put_n37 r2 m else (zx_ix 6 v1).bind fun j5 => (f_M_asSort ((m.1 19 j5) - 50) v3 m).bind fun r7 => (zx_ix 360 ((60 * v1) + v2)).bind fun j8 => zx_let (zx_u2 m 21 j8 r7) fun m9 => n_M_put_n37 r2 m9
theorem s_M_put (v1 : Int32) (v2 : Int32) (v3 : Int64) (m : zx_M) {d : Nat} {y : (Int32 × zx_M)} (hf : f_M_put v1 v2 v3 m = some y) : zx_Ev (d + 3) 255 0 [some (.ref 0), some (.int v1), some (.int v2), some (.long v3), none, none] [] (zx_SM, m) (some (.int y.1), (zx_SM, y.2)) := by
  unfold f_M_put at hf
  refine zx_ev_blk zk_255 3 (pc1 := 3) (L1 := [some (.ref 0), some (.int v1), some (.int v2), some (.long v3), none, none]) (st1 := [.int v2, .int v1, .ref 0]) (h1 := (zx_SM, m)) rfl ?_
  obtain ⟨r2, hv1, hf⟩ := zx_bind_eq hf
  refine zx_ev_call (d := d + 2) zk_255 (v := some (.int r2)) (h1 := (zx_SM, m)) rfl rfl zt_253 rfl zx_SMn rfl rfl (s_M_refusal _ _ _ (d := d + 0) hv1) ?_
  refine zx_ev_blk zk_255 2 (pc1 := 10) (L1 := [some (.ref 0), some (.int v1), some (.int v2), some (.long v3), none, some (.int r2)]) (st1 := [.int r2]) (h1 := (zx_SM, m)) rfl ?_
  by_cases c3 : ¬ r2 = 0
  · rw [if_pos c3] at hf
    refine zx_ev_ift zk_255 (P := ¬ r2 = 0) (t := 37) (f := 13) rfl rfl c3 ?_
    exact zx_ev_sub (L := [some (.ref 0), none, none, none, none, some (.int r2)]) (⟨rfl, ⟨trivial, ⟨trivial, ⟨trivial, ⟨rfl, trivial⟩⟩⟩⟩⟩) (e_M_put_n37 r2 m hf)
  · rw [if_neg c3] at hf
    refine zx_ev_ifn zk_255 (P := ¬ r2 = 0) (t := 37) (f := 13) rfl rfl c3 ?_
    refine zx_ev_blk zk_255 10 (pc1 := 28) (L1 := [some (.ref 0), some (.int v1), some (.int v2), some (.long v3), none, some (.int r2)]) (st1 := [.int v1, .ref 19, .int ((60 * v1) + v2), .ref 21]) (h1 := (zx_SM, m)) rfl ?_
    obtain ⟨j5, hj5, hf⟩ := zx_bind_eq hf
    refine zx_ev_step zk_255 rfl (st_iald rfl rfl hj5) ?_
    refine zx_ev_blk zk_255 3 (pc1 := 33) (L1 := [some (.ref 0), some (.int v1), some (.int v2), some (.long v3), none, some (.int r2)]) (st1 := [.long v3, .int ((m.1 19 j5) - 50), .int ((60 * v1) + v2), .ref 21]) (h1 := (zx_SM, m)) rfl ?_
    obtain ⟨r7, hv6, hf⟩ := zx_bind_eq hf
    refine zx_ev_call (d := d + 2) zk_255 (v := some (.long r7)) (h1 := (zx_SM, m)) rfl rfl zt_254 rfl zx_SMn rfl rfl (s_M_asSort _ _ _ (d := d + 2) hv6) ?_
    obtain ⟨j8, hj8, hf⟩ := zx_bind_eq hf
    refine zx_ev_step zk_255 rfl (st_last rfl hj8) ?_
    obtain ⟨m9, hm9, hf⟩ := zx_let_eq hf
    rw [hm9]
    exact zx_ev_sub (L := [some (.ref 0), none, none, none, none, some (.int r2)]) (⟨rfl, ⟨trivial, ⟨trivial, ⟨trivial, ⟨rfl, trivial⟩⟩⟩⟩⟩) (e_M_put_n37 r2 m9 hf)
def f_M_redo (m : zx_M) : Option (Int32 × zx_M) := if ¬ (m.1 0 5) = (m.1 0 4) then (zx_ix 40 (m.1 0 5)).bind fun j2 => (zx_ix 40 (m.1 0 5)).bind fun j3 => (zx_ix 36 (m.1 2 j2)).bind fun j4 => zx_let (zx_u1 m 1 j4 (m.1 4 j3)) fun m5 => zx_let (zx_u1 m5 0 5 ((m5.1 0 5) + 1)) fun m6 => some ((m6.1 0 4) - (m6.1 0 5), m6) else some ((-5), m)
theorem s_M_redo (m : zx_M) {d : Nat} {y : (Int32 × zx_M)} (hf : f_M_redo m = some y) : zx_Ev (d) 163 0 [some (.ref 0)] [] (zx_SM, m) (some (.int y.1), (zx_SM, y.2)) := by
  unfold f_M_redo at hf
  refine zx_ev_blk zk_163 4 (pc1 := 8) (L1 := [some (.ref 0)]) (st1 := [.int (m.1 0 4), .int (m.1 0 5)]) (h1 := (zx_SM, m)) rfl ?_
  by_cases c1 : ¬ (m.1 0 5) = (m.1 0 4)
  · rw [if_pos c1] at hf
    refine zx_ev_ift zk_163 (P := ¬ (m.1 0 5) = (m.1 0 4)) (t := 14) (f := 11) rfl rfl c1 ?_
    refine zx_ev_blk zk_163 6 (pc1 := 26) (L1 := [some (.ref 0)]) (st1 := [.int (m.1 0 5), .ref 2, .ref 1]) (h1 := (zx_SM, m)) rfl ?_
    obtain ⟨j2, hj2, hf⟩ := zx_bind_eq hf
    refine zx_ev_step zk_163 rfl (st_iald rfl rfl hj2) ?_
    refine zx_ev_blk zk_163 4 (pc1 := 35) (L1 := [some (.ref 0)]) (st1 := [.int (m.1 0 5), .ref 4, .int (m.1 2 j2), .ref 1]) (h1 := (zx_SM, m)) rfl ?_
    obtain ⟨j3, hj3, hf⟩ := zx_bind_eq hf
    refine zx_ev_step zk_163 rfl (st_iald rfl rfl hj3) ?_
    obtain ⟨j4, hj4, hf⟩ := zx_bind_eq hf
    refine zx_ev_step zk_163 rfl (st_iast rfl hj4) ?_
    obtain ⟨m5, hm5, hf⟩ := zx_let_eq hf
    rw [hm5]
    obtain ⟨m6, hm6, hf⟩ := zx_let_eq hf
    refine zx_ev_blk zk_163 11 (pc1 := 56) (L1 := [some (.ref 0)]) (st1 := [.int ((m6.1 0 4) - (m6.1 0 5))]) (h1 := (zx_SM, m6)) (by subst hm6; rfl) ?_
    obtain rfl := Option.some.inj hf
    exact zx_ev_ret zk_163 rfl rfl
  · rw [if_neg c1] at hf
    refine zx_ev_ifn zk_163 (P := ¬ (m.1 0 5) = (m.1 0 4)) (t := 14) (f := 11) rfl rfl c1 ?_
    refine zx_ev_blk zk_163 1 (pc1 := 13) (L1 := [some (.ref 0)]) (st1 := [.int (-5)]) (h1 := (zx_SM, m)) rfl ?_
    obtain rfl := Option.some.inj hf
    exact zx_ev_ret zk_163 rfl rfl
def kx_M_room_l24 (d : Nat) (out : Option Value × zx_H) : (Int32 × zx_M) → Prop
  | y => out = (some (.int y.1), (zx_SM, y.2))
def kl_M_room_l24 (d : Nat) (out : Option Value × zx_H) : (Int32 × zx_M) ⊕ ((Int32 × zx_M)) → Prop
  | .inl (v2, m) => zx_Ev (d + 70) 215 24 [some (.ref 0), none, some (.int v2)] [] (zx_SM, m) out
  | .inr x => kx_M_room_l24 d out x
def b_M_room_l24 (v2 : Int32) (m : zx_M) : Option ((Int32 × zx_M) ⊕ ((Int32 × zx_M))) := if 20 < v2 then some (.inr ((-2), m)) else (f_M_counts v2 m).bind fun m8 => (f_M_fills 0 m8).bind fun m10 => (f_M_meetMany m10).bind fun r12 => if ¬ r12 = 0 then zx_let (v2 + 1) fun a14 => some (.inl (a14, m10)) else some (.inr (v2, m10))
theorem eb_M_room_l24 (v2 : Int32) (m : zx_M) {d : Nat} {out : Option Value × zx_H} {y : (Int32 × zx_M) ⊕ ((Int32 × zx_M))} (hf : b_M_room_l24 v2 m = some y) (hK : kl_M_room_l24 d out y) : zx_Ev (d + 70) 215 24 [some (.ref 0), none, some (.int v2)] [] (zx_SM, m) out := by
  unfold b_M_room_l24 at hf
  refine zx_ev_blk zk_215 2 (pc1 := 27) (L1 := [some (.ref 0), none, some (.int v2)]) (st1 := [.int 20, .int v2]) (h1 := (zx_SM, m)) rfl ?_
  by_cases c6 : 20 < v2
  · rw [if_pos c6] at hf
    refine zx_ev_ift zk_215 (P := 20 < v2) (t := 55) (f := 30) rfl rfl c6 ?_
    refine zx_ev_blk zk_215 1 (pc1 := 57) (L1 := [some (.ref 0), none, some (.int v2)]) (st1 := [.int (-2)]) (h1 := (zx_SM, m)) rfl ?_
    obtain rfl := Option.some.inj hf
    rw [show out = _ from hK]
    exact zx_ev_ret zk_215 rfl rfl
  · rw [if_neg c6] at hf
    refine zx_ev_ifn zk_215 (P := 20 < v2) (t := 55) (f := 30) rfl rfl c6 ?_
    refine zx_ev_blk zk_215 2 (pc1 := 32) (L1 := [some (.ref 0), none, some (.int v2)]) (st1 := [.int v2, .ref 0]) (h1 := (zx_SM, m)) rfl ?_
    obtain ⟨m8, hv7, hf⟩ := zx_bind_eq hf
    refine zx_ev_call (d := d + 69) zk_215 (v := none) (h1 := (zx_SM, m8)) rfl rfl zt_201 rfl zx_SMn rfl rfl (s_M_counts _ _ (d := d + 69) hv7) ?_
    refine zx_ev_blk zk_215 2 (pc1 := 37) (L1 := [some (.ref 0), none, some (.int v2)]) (st1 := [.int 0, .ref 0]) (h1 := (zx_SM, m8)) rfl ?_
    obtain ⟨m10, hv9, hf⟩ := zx_bind_eq hf
    refine zx_ev_call (d := d + 69) zk_215 (v := none) (h1 := (zx_SM, m10)) rfl rfl zt_191 rfl zx_SMn rfl rfl (s_M_fills _ _ (d := d + 69) hv9) ?_
    refine zx_ev_blk zk_215 1 (pc1 := 41) (L1 := [some (.ref 0), none, some (.int v2)]) (st1 := [.ref 0]) (h1 := (zx_SM, m10)) rfl ?_
    obtain ⟨r12, hv11, hf⟩ := zx_bind_eq hf
    refine zx_ev_call (d := d + 69) zk_215 (v := some (.int r12)) (h1 := (zx_SM, m10)) rfl rfl zt_195 rfl zx_SMn rfl rfl (s_M_meetMany _ (d := d + 67) hv11) ?_
    by_cases c13 : ¬ r12 = 0
    · rw [if_pos c13] at hf
      refine zx_ev_ift zk_215 (P := ¬ r12 = 0) (t := 49) (f := 47) rfl rfl c13 ?_
      obtain ⟨a14, ha14, hf⟩ := zx_let_eq hf
      refine zx_ev_blk zk_215 2 (pc1 := 24) (L1 := [some (.ref 0), none, some (.int a14)]) (st1 := []) (h1 := (zx_SM, m10)) (by subst ha14; rfl) ?_
      obtain rfl := Option.some.inj hf
      exact zx_ev_sub (L := [some (.ref 0), none, some (.int a14)]) (⟨rfl, ⟨rfl, trivial⟩⟩) hK
    · rw [if_neg c13] at hf
      refine zx_ev_ifn zk_215 (P := ¬ r12 = 0) (t := 49) (f := 47) rfl rfl c13 ?_
      refine zx_ev_blk zk_215 1 (pc1 := 48) (L1 := [some (.ref 0), none, some (.int v2)]) (st1 := [.int v2]) (h1 := (zx_SM, m10)) rfl ?_
      obtain rfl := Option.some.inj hf
      rw [show out = _ from hK]
      exact zx_ev_ret zk_215 rfl rfl
def l_M_room_l24 (s0 : Int32 × zx_M) : Option ((Int32 × zx_M)) := zx_lp zx_N (fun s : Int32 × zx_M => b_M_room_l24 s.1 s.2) s0
theorem el_M_room_l24 {d : Nat} {out : Option Value × zx_H} : ∀ (n : Nat) (s : Int32 × zx_M) (x : (Int32 × zx_M)), zx_lp n (fun s : Int32 × zx_M => b_M_room_l24 s.1 s.2) s = some x → kx_M_room_l24 d out x → zx_Ev (d + 70) 215 24 [some (.ref 0), none, some (.int s.1)] [] (zx_SM, s.2) out := by
  intro n
  induction n with
  | zero => intro s x hl _; simp [zx_lp] at hl
  | succ n ih =>
    intro s x hl hx
    unfold zx_lp at hl
    cases hb : b_M_room_l24 s.1 s.2 with
    | none => simp only [hb] at hl; cases hl
    | some z =>
      simp only [hb] at hl
      cases z with
      | inl s1 => exact eb_M_room_l24 s.1 s.2 hb (ih s1 x hl hx)
      | inr t =>
        simp only [Option.some.injEq] at hl
        subst hl
        exact eb_M_room_l24 s.1 s.2 hb hx
def f_M_room (v1 : Int32) (m : zx_M) : Option (Int32 × zx_M) := (f_M_rowIs v1 0 m).bind fun r2 => if 0 ≤ r2 then (f_M_takesOrder v1 1 m).bind fun m5 => (l_M_room_l24 (1, m5)).bind fun x15 => zx_let x15 fun y16 => some y16 else (f_M_rowIs v1 0 m).bind fun r18 => some (r18, m)
theorem s_M_room (v1 : Int32) (m : zx_M) {d : Nat} {y : (Int32 × zx_M)} (hf : f_M_room v1 m = some y) : zx_Ev (d + 70) 215 0 [some (.ref 0), some (.int v1), none] [] (zx_SM, m) (some (.int y.1), (zx_SM, y.2)) := by
  unfold f_M_room at hf
  refine zx_ev_blk zk_215 3 (pc1 := 3) (L1 := [some (.ref 0), some (.int v1), none]) (st1 := [.int 0, .int v1, .ref 0]) (h1 := (zx_SM, m)) rfl ?_
  obtain ⟨r2, hv1, hf⟩ := zx_bind_eq hf
  refine zx_ev_call (d := d + 69) zk_215 (v := some (.int r2)) (h1 := (zx_SM, m)) rfl rfl zt_198 rfl zx_SMn rfl rfl (s_M_rowIs _ _ _ (d := d + 67) hv1) ?_
  by_cases c3 : 0 ≤ r2
  · rw [if_pos c3] at hf
    refine zx_ev_ift zk_215 (P := 0 ≤ r2) (t := 16) (f := 9) rfl rfl c3 ?_
    refine zx_ev_blk zk_215 3 (pc1 := 19) (L1 := [some (.ref 0), some (.int v1), none]) (st1 := [.int 1, .int v1, .ref 0]) (h1 := (zx_SM, m)) rfl ?_
    obtain ⟨m5, hv4, hf⟩ := zx_bind_eq hf
    refine zx_ev_call (d := d + 69) zk_215 (v := none) (h1 := (zx_SM, m5)) rfl rfl zt_200 rfl zx_SMn rfl rfl (s_M_takesOrder _ _ _ (d := d + 0) hv4) ?_
    refine zx_ev_blk zk_215 2 (pc1 := 24) (L1 := [some (.ref 0), some (.int v1), some (.int 1)]) (st1 := []) (h1 := (zx_SM, m5)) rfl ?_
    obtain ⟨x15, hx15, hf⟩ := zx_bind_eq hf
    refine zx_ev_sub (L := [some (.ref 0), none, some (.int 1)]) (⟨rfl, ⟨trivial, ⟨rfl, trivial⟩⟩⟩) (el_M_room_l24 zx_N (1, m5) x15 hx15 ?_)
    obtain ⟨y16, hy16, hf⟩ := zx_let_eq hf
    subst hy16
    obtain rfl := Option.some.inj hf
    rfl
  · rw [if_neg c3] at hf
    refine zx_ev_ifn zk_215 (P := 0 ≤ r2) (t := 16) (f := 9) rfl rfl c3 ?_
    refine zx_ev_blk zk_215 3 (pc1 := 12) (L1 := [some (.ref 0), some (.int v1), none]) (st1 := [.int 0, .int v1, .ref 0]) (h1 := (zx_SM, m)) rfl ?_
    obtain ⟨r18, hv17, hf⟩ := zx_bind_eq hf
    refine zx_ev_call (d := d + 69) zk_215 (v := some (.int r18)) (h1 := (zx_SM, m)) rfl rfl zt_198 rfl zx_SMn rfl rfl (s_M_rowIs _ _ _ (d := d + 67) hv17) ?_
    obtain rfl := Option.some.inj hf
    exact zx_ev_ret zk_215 rfl rfl
def kx_M_row_l57 (v1 : Int32) (d : Nat) (out : Option Value × zx_H) : (Int32 × zx_M) → Prop
  | y => out = (some (.int y.1), (zx_SM, y.2))
def kl_M_row_l57 (v1 : Int32) (d : Nat) (out : Option Value × zx_H) : (Int32 × zx_M) ⊕ ((Int32 × zx_M)) → Prop
  | .inl (v4, m) => zx_Ev (d + 2) 252 57 [some (.ref 0), some (.int v1), none, none, some (.int v4)] [] (zx_SM, m) out
  | .inr x => kx_M_row_l57 v1 d out x
def b_M_row_l57 (v1 : Int32) (v4 : Int32) (m : zx_M) : Option ((Int32 × zx_M) ⊕ ((Int32 × zx_M))) := if ((60 * v1) + 60) ≤ v4 then some (.inr (1, m)) else (zx_ix 360 v4).bind fun j15 => zx_let (zx_u2 m 21 j15 0) fun m16 => zx_let (v4 + 1) fun a17 => some (.inl (a17, m16))
theorem eb_M_row_l57 (v1 : Int32) (v4 : Int32) (m : zx_M) {d : Nat} {out : Option Value × zx_H} {y : (Int32 × zx_M) ⊕ ((Int32 × zx_M))} (hf : b_M_row_l57 v1 v4 m = some y) (hK : kl_M_row_l57 v1 d out y) : zx_Ev (d + 2) 252 57 [some (.ref 0), some (.int v1), none, none, some (.int v4)] [] (zx_SM, m) out := by
  unfold b_M_row_l57 at hf
  refine zx_ev_blk zk_252 6 (pc1 := 66) (L1 := [some (.ref 0), some (.int v1), none, none, some (.int v4)]) (st1 := [.int ((60 * v1) + 60), .int v4]) (h1 := (zx_SM, m)) rfl ?_
  by_cases c14 : ((60 * v1) + 60) ≤ v4
  · rw [if_pos c14] at hf
    refine zx_ev_ift zk_252 (P := ((60 * v1) + 60) ≤ v4) (t := 83) (f := 69) rfl rfl c14 ?_
    refine zx_ev_blk zk_252 1 (pc1 := 84) (L1 := [some (.ref 0), some (.int v1), none, none, some (.int v4)]) (st1 := [.int 1]) (h1 := (zx_SM, m)) rfl ?_
    obtain rfl := Option.some.inj hf
    rw [show out = _ from hK]
    exact zx_ev_ret zk_252 rfl rfl
  · rw [if_neg c14] at hf
    refine zx_ev_ifn zk_252 (P := ((60 * v1) + 60) ≤ v4) (t := 83) (f := 69) rfl rfl c14 ?_
    refine zx_ev_blk zk_252 4 (pc1 := 76) (L1 := [some (.ref 0), some (.int v1), none, none, some (.int v4)]) (st1 := [.long 0, .int v4, .ref 21]) (h1 := (zx_SM, m)) rfl ?_
    obtain ⟨j15, hj15, hf⟩ := zx_bind_eq hf
    refine zx_ev_step zk_252 rfl (st_last rfl hj15) ?_
    obtain ⟨m16, hm16, hf⟩ := zx_let_eq hf
    rw [hm16]
    obtain ⟨a17, ha17, hf⟩ := zx_let_eq hf
    refine zx_ev_blk zk_252 2 (pc1 := 57) (L1 := [some (.ref 0), some (.int v1), none, none, some (.int a17)]) (st1 := []) (h1 := (zx_SM, m16)) (by subst ha17; rfl) ?_
    obtain rfl := Option.some.inj hf
    exact zx_ev_sub (L := [some (.ref 0), some (.int v1), none, none, some (.int a17)]) (⟨rfl, ⟨rfl, ⟨rfl, trivial⟩⟩⟩) hK
def l_M_row_l57 (v1 : Int32) (s0 : Int32 × zx_M) : Option ((Int32 × zx_M)) := zx_lp zx_N (fun s : Int32 × zx_M => b_M_row_l57 v1 s.1 s.2) s0
theorem el_M_row_l57 (v1 : Int32) {d : Nat} {out : Option Value × zx_H} : ∀ (n : Nat) (s : Int32 × zx_M) (x : (Int32 × zx_M)), zx_lp n (fun s : Int32 × zx_M => b_M_row_l57 v1 s.1 s.2) s = some x → kx_M_row_l57 v1 d out x → zx_Ev (d + 2) 252 57 [some (.ref 0), some (.int v1), none, none, some (.int s.1)] [] (zx_SM, s.2) out := by
  intro n
  induction n with
  | zero => intro s x hl _; simp [zx_lp] at hl
  | succ n ih =>
    intro s x hl hx
    unfold zx_lp at hl
    cases hb : b_M_row_l57 v1 s.1 s.2 with
    | none => simp only [hb] at hl; cases hl
    | some z =>
      simp only [hb] at hl
      cases z with
      | inl s1 => exact eb_M_row_l57 v1 s.1 s.2 hb (ih s1 x hl hx)
      | inr t =>
        simp only [Option.some.injEq] at hl
        subst hl
        exact eb_M_row_l57 v1 s.1 s.2 hb hx
def f_M_row (v1 : Int32) (v2 : Int32) (v3 : Int32) (m : zx_M) : Option (Int32 × zx_M) := (f_M_isShelf v1 m).bind fun r2 => if r2 = 0 then some ((-1), m) else (f_M_within (Int32.toInt64 v2) 0 4 m).bind fun r5 => if r5 = 0 then some ((-1), m) else if v3 ≤ 60 then if 0 ≤ v3 then (zx_ix 6 v1).bind fun j9 => zx_let (zx_u1 m 19 j9 (50 + v2)) fun m10 => (zx_ix 6 v1).bind fun j11 => zx_let (zx_u1 m10 20 j11 v3) fun m12 => zx_let (60 * v1) fun a13 => (l_M_row_l57 v1 (a13, m12)).bind fun x18 => zx_let x18 fun y19 => some y19 else some ((-14), m) else some ((-1), m)
theorem s_M_row (v1 : Int32) (v2 : Int32) (v3 : Int32) (m : zx_M) {d : Nat} {y : (Int32 × zx_M)} (hf : f_M_row v1 v2 v3 m = some y) : zx_Ev (d + 2) 252 0 [some (.ref 0), some (.int v1), some (.int v2), some (.int v3), none] [] (zx_SM, m) (some (.int y.1), (zx_SM, y.2)) := by
  unfold f_M_row at hf
  refine zx_ev_blk zk_252 1 (pc1 := 1) (L1 := [some (.ref 0), some (.int v1), some (.int v2), some (.int v3), none]) (st1 := [.int v1]) (h1 := (zx_SM, m)) rfl ?_
  obtain ⟨r2, hv1, hf⟩ := zx_bind_eq hf
  refine zx_ev_call (d := d + 1) zk_252 (v := some (.int r2)) (h1 := (zx_SM, m)) rfl rfl zt_250 rfl zx_SMn rfl rfl (s_M_isShelf _ _ (d := d + 0) hv1) ?_
  by_cases c3 : r2 = 0
  · rw [if_pos c3] at hf
    refine zx_ev_ift zk_252 (P := r2 = 0) (t := 25) (f := 7) rfl rfl c3 ?_
    refine zx_ev_blk zk_252 1 (pc1 := 26) (L1 := [some (.ref 0), some (.int v1), some (.int v2), some (.int v3), none]) (st1 := [.int (-1)]) (h1 := (zx_SM, m)) rfl ?_
    obtain rfl := Option.some.inj hf
    exact zx_ev_ret zk_252 rfl rfl
  · rw [if_neg c3] at hf
    refine zx_ev_ifn zk_252 (P := r2 = 0) (t := 25) (f := 7) rfl rfl c3 ?_
    refine zx_ev_blk zk_252 4 (pc1 := 13) (L1 := [some (.ref 0), some (.int v1), some (.int v2), some (.int v3), none]) (st1 := [.long 4, .long 0, .long (Int32.toInt64 v2)]) (h1 := (zx_SM, m)) rfl ?_
    obtain ⟨r5, hv4, hf⟩ := zx_bind_eq hf
    refine zx_ev_call (d := d + 1) zk_252 (v := some (.int r5)) (h1 := (zx_SM, m)) rfl rfl zt_157 rfl zx_SMn rfl rfl (s_M_within _ _ _ _ (d := d + 1) hv4) ?_
    by_cases c6 : r5 = 0
    · rw [if_pos c6] at hf
      refine zx_ev_ift zk_252 (P := r5 = 0) (t := 25) (f := 19) rfl rfl c6 ?_
      refine zx_ev_blk zk_252 1 (pc1 := 26) (L1 := [some (.ref 0), some (.int v1), some (.int v2), some (.int v3), none]) (st1 := [.int (-1)]) (h1 := (zx_SM, m)) rfl ?_
      obtain rfl := Option.some.inj hf
      exact zx_ev_ret zk_252 rfl rfl
    · rw [if_neg c6] at hf
      refine zx_ev_ifn zk_252 (P := r5 = 0) (t := 25) (f := 19) rfl rfl c6 ?_
      refine zx_ev_blk zk_252 2 (pc1 := 22) (L1 := [some (.ref 0), some (.int v1), some (.int v2), some (.int v3), none]) (st1 := [.int 60, .int v3]) (h1 := (zx_SM, m)) rfl ?_
      by_cases c7 : v3 ≤ 60
      · rw [if_pos c7] at hf
        refine zx_ev_ift zk_252 (P := v3 ≤ 60) (t := 27) (f := 25) rfl rfl c7 ?_
        refine zx_ev_blk zk_252 1 (pc1 := 28) (L1 := [some (.ref 0), some (.int v1), some (.int v2), some (.int v3), none]) (st1 := [.int v3]) (h1 := (zx_SM, m)) rfl ?_
        by_cases c8 : 0 ≤ v3
        · rw [if_pos c8] at hf
          refine zx_ev_ift zk_252 (P := 0 ≤ v3) (t := 34) (f := 31) rfl rfl c8 ?_
          refine zx_ev_blk zk_252 6 (pc1 := 43) (L1 := [some (.ref 0), some (.int v1), some (.int v2), some (.int v3), none]) (st1 := [.int (50 + v2), .int v1, .ref 19]) (h1 := (zx_SM, m)) rfl ?_
          obtain ⟨j9, hj9, hf⟩ := zx_bind_eq hf
          refine zx_ev_step zk_252 rfl (st_iast rfl hj9) ?_
          obtain ⟨m10, hm10, hf⟩ := zx_let_eq hf
          rw [hm10]
          refine zx_ev_blk zk_252 4 (pc1 := 50) (L1 := [some (.ref 0), some (.int v1), some (.int v2), some (.int v3), none]) (st1 := [.int v3, .int v1, .ref 20]) (h1 := (zx_SM, m10)) rfl ?_
          obtain ⟨j11, hj11, hf⟩ := zx_bind_eq hf
          refine zx_ev_step zk_252 rfl (st_iast rfl hj11) ?_
          obtain ⟨m12, hm12, hf⟩ := zx_let_eq hf
          rw [hm12]
          obtain ⟨a13, ha13, hf⟩ := zx_let_eq hf
          refine zx_ev_blk zk_252 4 (pc1 := 57) (L1 := [some (.ref 0), some (.int v1), some (.int v2), some (.int v3), some (.int a13)]) (st1 := []) (h1 := (zx_SM, m12)) (by subst ha13; rfl) ?_
          obtain ⟨x18, hx18, hf⟩ := zx_bind_eq hf
          refine zx_ev_sub (L := [some (.ref 0), some (.int v1), none, none, some (.int a13)]) (⟨rfl, ⟨rfl, ⟨trivial, ⟨trivial, ⟨rfl, trivial⟩⟩⟩⟩⟩) (el_M_row_l57 v1 zx_N (a13, m12) x18 hx18 ?_)
          obtain ⟨y19, hy19, hf⟩ := zx_let_eq hf
          subst hy19
          obtain rfl := Option.some.inj hf
          rfl
        · rw [if_neg c8] at hf
          refine zx_ev_ifn zk_252 (P := 0 ≤ v3) (t := 34) (f := 31) rfl rfl c8 ?_
          refine zx_ev_blk zk_252 1 (pc1 := 33) (L1 := [some (.ref 0), some (.int v1), some (.int v2), some (.int v3), none]) (st1 := [.int (-14)]) (h1 := (zx_SM, m)) rfl ?_
          obtain rfl := Option.some.inj hf
          exact zx_ev_ret zk_252 rfl rfl
      · rw [if_neg c7] at hf
        refine zx_ev_ifn zk_252 (P := v3 ≤ 60) (t := 27) (f := 25) rfl rfl c7 ?_
        refine zx_ev_blk zk_252 1 (pc1 := 26) (L1 := [some (.ref 0), some (.int v1), some (.int v2), some (.int v3), none]) (st1 := [.int (-1)]) (h1 := (zx_SM, m)) rfl ?_
        obtain rfl := Option.some.inj hf
        exact zx_ev_ret zk_252 rfl rfl
def f_M_runIn (v1 : Int32) (v2 : Int32) (m : zx_M) : Option (Int32 × zx_M) := (f_M_rowIs v1 0 m).bind fun r2 => if r2 = (-1) then some ((-1), m) else (f_M_isCount v2 m).bind fun r5 => if ¬ r5 = 0 then (f_M_rowIs v1 0 m).bind fun r8 => if 0 ≤ r8 then (f_M_takesOrder v1 v2 m).bind fun m11 => zx_let (zx_u1 m11 0 21 0) fun m12 => (f_M_findsSpot m12).bind fun m14 => zx_let (m14.1 0 24) fun a15 => zx_let (zx_u1 m14 0 21 1) fun m16 => (f_M_findsSpot m16).bind fun m18 => if (m18.1 0 24) ≤ a15 then some (0, m18) else some (1, m18) else (f_M_rowIs v1 0 m).bind fun r21 => some (r21, m) else some ((-1), m)
theorem s_M_runIn (v1 : Int32) (v2 : Int32) (m : zx_M) {d : Nat} {y : (Int32 × zx_M)} (hf : f_M_runIn v1 v2 m = some y) : zx_Ev (d + 70) 214 0 [some (.ref 0), some (.int v1), some (.int v2), none] [] (zx_SM, m) (some (.int y.1), (zx_SM, y.2)) := by
  unfold f_M_runIn at hf
  refine zx_ev_blk zk_214 3 (pc1 := 3) (L1 := [some (.ref 0), some (.int v1), some (.int v2), none]) (st1 := [.int 0, .int v1, .ref 0]) (h1 := (zx_SM, m)) rfl ?_
  obtain ⟨r2, hv1, hf⟩ := zx_bind_eq hf
  refine zx_ev_call (d := d + 69) zk_214 (v := some (.int r2)) (h1 := (zx_SM, m)) rfl rfl zt_198 rfl zx_SMn rfl rfl (s_M_rowIs _ _ _ (d := d + 67) hv1) ?_
  refine zx_ev_blk zk_214 1 (pc1 := 7) (L1 := [some (.ref 0), some (.int v1), some (.int v2), none]) (st1 := [.int (-1), .int r2]) (h1 := (zx_SM, m)) rfl ?_
  by_cases c3 : r2 = (-1)
  · rw [if_pos c3] at hf
    refine zx_ev_ift zk_214 (P := r2 = (-1)) (t := 17) (f := 10) rfl rfl c3 ?_
    refine zx_ev_blk zk_214 1 (pc1 := 18) (L1 := [some (.ref 0), some (.int v1), some (.int v2), none]) (st1 := [.int (-1)]) (h1 := (zx_SM, m)) rfl ?_
    obtain rfl := Option.some.inj hf
    exact zx_ev_ret zk_214 rfl rfl
  · rw [if_neg c3] at hf
    refine zx_ev_ifn zk_214 (P := r2 = (-1)) (t := 17) (f := 10) rfl rfl c3 ?_
    refine zx_ev_blk zk_214 1 (pc1 := 11) (L1 := [some (.ref 0), some (.int v1), some (.int v2), none]) (st1 := [.int v2]) (h1 := (zx_SM, m)) rfl ?_
    obtain ⟨r5, hv4, hf⟩ := zx_bind_eq hf
    refine zx_ev_call (d := d + 69) zk_214 (v := some (.int r5)) (h1 := (zx_SM, m)) rfl rfl zt_202 rfl zx_SMn rfl rfl (s_M_isCount _ _ (d := d + 68) hv4) ?_
    by_cases c6 : ¬ r5 = 0
    · rw [if_pos c6] at hf
      refine zx_ev_ift zk_214 (P := ¬ r5 = 0) (t := 19) (f := 17) rfl rfl c6 ?_
      refine zx_ev_blk zk_214 3 (pc1 := 22) (L1 := [some (.ref 0), some (.int v1), some (.int v2), none]) (st1 := [.int 0, .int v1, .ref 0]) (h1 := (zx_SM, m)) rfl ?_
      obtain ⟨r8, hv7, hf⟩ := zx_bind_eq hf
      refine zx_ev_call (d := d + 69) zk_214 (v := some (.int r8)) (h1 := (zx_SM, m)) rfl rfl zt_198 rfl zx_SMn rfl rfl (s_M_rowIs _ _ _ (d := d + 67) hv7) ?_
      by_cases c9 : 0 ≤ r8
      · rw [if_pos c9] at hf
        refine zx_ev_ift zk_214 (P := 0 ≤ r8) (t := 35) (f := 28) rfl rfl c9 ?_
        refine zx_ev_blk zk_214 3 (pc1 := 38) (L1 := [some (.ref 0), some (.int v1), some (.int v2), none]) (st1 := [.int v2, .int v1, .ref 0]) (h1 := (zx_SM, m)) rfl ?_
        obtain ⟨m11, hv10, hf⟩ := zx_bind_eq hf
        refine zx_ev_call (d := d + 69) zk_214 (v := none) (h1 := (zx_SM, m11)) rfl rfl zt_200 rfl zx_SMn rfl rfl (s_M_takesOrder _ _ _ (d := d + 0) hv10) ?_
        obtain ⟨m12, hm12, hf⟩ := zx_let_eq hf
        refine zx_ev_blk zk_214 4 (pc1 := 47) (L1 := [some (.ref 0), some (.int v1), some (.int v2), none]) (st1 := [.ref 0]) (h1 := (zx_SM, m12)) (by subst hm12; rfl) ?_
        obtain ⟨m14, hv13, hf⟩ := zx_bind_eq hf
        refine zx_ev_call (d := d + 69) zk_214 (v := none) (h1 := (zx_SM, m14)) rfl rfl zt_207 rfl zx_SMn rfl rfl (s_M_findsSpot _ (d := d + 65) hv13) ?_
        obtain ⟨a15, ha15, hf⟩ := zx_let_eq hf
        obtain ⟨m16, hm16, hf⟩ := zx_let_eq hf
        refine zx_ev_blk zk_214 7 (pc1 := 61) (L1 := [some (.ref 0), some (.int v1), some (.int v2), some (.int a15)]) (st1 := [.ref 0]) (h1 := (zx_SM, m16)) (by subst ha15; subst hm16; rfl) ?_
        obtain ⟨m18, hv17, hf⟩ := zx_bind_eq hf
        refine zx_ev_call (d := d + 69) zk_214 (v := none) (h1 := (zx_SM, m18)) rfl rfl zt_207 rfl zx_SMn rfl rfl (s_M_findsSpot _ (d := d + 65) hv17) ?_
        refine zx_ev_blk zk_214 3 (pc1 := 69) (L1 := [some (.ref 0), some (.int v1), some (.int v2), some (.int a15)]) (st1 := [.int a15, .int (m18.1 0 24)]) (h1 := (zx_SM, m18)) rfl ?_
        by_cases c19 : (m18.1 0 24) ≤ a15
        · rw [if_pos c19] at hf
          refine zx_ev_ift zk_214 (P := (m18.1 0 24) ≤ a15) (t := 76) (f := 72) rfl rfl c19 ?_
          refine zx_ev_blk zk_214 1 (pc1 := 77) (L1 := [some (.ref 0), some (.int v1), some (.int v2), some (.int a15)]) (st1 := [.int 0]) (h1 := (zx_SM, m18)) rfl ?_
          obtain rfl := Option.some.inj hf
          exact zx_ev_ret zk_214 rfl rfl
        · rw [if_neg c19] at hf
          refine zx_ev_ifn zk_214 (P := (m18.1 0 24) ≤ a15) (t := 76) (f := 72) rfl rfl c19 ?_
          refine zx_ev_blk zk_214 2 (pc1 := 77) (L1 := [some (.ref 0), some (.int v1), some (.int v2), some (.int a15)]) (st1 := [.int 1]) (h1 := (zx_SM, m18)) rfl ?_
          obtain rfl := Option.some.inj hf
          exact zx_ev_ret zk_214 rfl rfl
      · rw [if_neg c9] at hf
        refine zx_ev_ifn zk_214 (P := 0 ≤ r8) (t := 35) (f := 28) rfl rfl c9 ?_
        refine zx_ev_blk zk_214 3 (pc1 := 31) (L1 := [some (.ref 0), some (.int v1), some (.int v2), none]) (st1 := [.int 0, .int v1, .ref 0]) (h1 := (zx_SM, m)) rfl ?_
        obtain ⟨r21, hv20, hf⟩ := zx_bind_eq hf
        refine zx_ev_call (d := d + 69) zk_214 (v := some (.int r21)) (h1 := (zx_SM, m)) rfl rfl zt_198 rfl zx_SMn rfl rfl (s_M_rowIs _ _ _ (d := d + 67) hv20) ?_
        obtain rfl := Option.some.inj hf
        exact zx_ev_ret zk_214 rfl rfl
    · rw [if_neg c6] at hf
      refine zx_ev_ifn zk_214 (P := ¬ r5 = 0) (t := 19) (f := 17) rfl rfl c6 ?_
      refine zx_ev_blk zk_214 1 (pc1 := 18) (L1 := [some (.ref 0), some (.int v1), some (.int v2), none]) (st1 := [.int (-1)]) (h1 := (zx_SM, m)) rfl ?_
      obtain rfl := Option.some.inj hf
      exact zx_ev_ret zk_214 rfl rfl
def kx_M_shift_l113 (v1 : Int32) (v2 : Int32) (v3 : Int32) (v4 : Int32) (v5 : Int32) (d : Nat) (out : Option Value × zx_H) : zx_M → Prop
  | m => zx_Ev (d + 2) 257 147 [some (.ref 0), none, none, some (.int v3), some (.int v4), some (.int v5), none] [] (zx_SM, m) out
def kl_M_shift_l113 (v1 : Int32) (v2 : Int32) (v3 : Int32) (v4 : Int32) (v5 : Int32) (d : Nat) (out : Option Value × zx_H) : (Int32 × zx_M) ⊕ (zx_M) → Prop
  | .inl (v6, m) => zx_Ev (d + 2) 257 113 [some (.ref 0), some (.int v1), some (.int v2), some (.int v3), some (.int v4), some (.int v5), some (.int v6)] [] (zx_SM, m) out
  | .inr x => kx_M_shift_l113 v1 v2 v3 v4 v5 d out x
def b_M_shift_l113 (v1 : Int32) (v2 : Int32) (v3 : Int32) (v4 : Int32) (v5 : Int32) (v6 : Int32) (m : zx_M) : Option ((Int32 × zx_M) ⊕ (zx_M)) := if v5 ≤ v6 then some (.inr m) else (zx_ix 360 (((60 * v1) + v2) + v6)).bind fun j24 => (zx_ix 60 v6).bind fun j25 => zx_let (zx_u2 m 22 j25 (m.2 21 j24)) fun m26 => zx_let (v6 + 1) fun a27 => some (.inl (a27, m26))
theorem eb_M_shift_l113 (v1 : Int32) (v2 : Int32) (v3 : Int32) (v4 : Int32) (v5 : Int32) (v6 : Int32) (m : zx_M) {d : Nat} {out : Option Value × zx_H} {y : (Int32 × zx_M) ⊕ (zx_M)} (hf : b_M_shift_l113 v1 v2 v3 v4 v5 v6 m = some y) (hK : kl_M_shift_l113 v1 v2 v3 v4 v5 d out y) : zx_Ev (d + 2) 257 113 [some (.ref 0), some (.int v1), some (.int v2), some (.int v3), some (.int v4), some (.int v5), some (.int v6)] [] (zx_SM, m) out := by
  unfold b_M_shift_l113 at hf
  refine zx_ev_blk zk_257 2 (pc1 := 117) (L1 := [some (.ref 0), some (.int v1), some (.int v2), some (.int v3), some (.int v4), some (.int v5), some (.int v6)]) (st1 := [.int v5, .int v6]) (h1 := (zx_SM, m)) rfl ?_
  by_cases c23 : v5 ≤ v6
  · rw [if_pos c23] at hf
    refine zx_ev_ift zk_257 (P := v5 ≤ v6) (t := 147) (f := 120) rfl rfl c23 ?_
    obtain rfl := Option.some.inj hf
    exact zx_ev_sub (L := [some (.ref 0), none, none, some (.int v3), some (.int v4), some (.int v5), none]) (⟨rfl, ⟨trivial, ⟨trivial, ⟨rfl, ⟨rfl, ⟨rfl, ⟨trivial, trivial⟩⟩⟩⟩⟩⟩⟩) hK
  · rw [if_neg c23] at hf
    refine zx_ev_ifn zk_257 (P := v5 ≤ v6) (t := 147) (f := 120) rfl rfl c23 ?_
    refine zx_ev_blk zk_257 12 (pc1 := 139) (L1 := [some (.ref 0), some (.int v1), some (.int v2), some (.int v3), some (.int v4), some (.int v5), some (.int v6)]) (st1 := [.int (((60 * v1) + v2) + v6), .ref 21, .int v6, .ref 22]) (h1 := (zx_SM, m)) rfl ?_
    obtain ⟨j24, hj24, hf⟩ := zx_bind_eq hf
    refine zx_ev_step zk_257 rfl (st_lald rfl hj24) ?_
    obtain ⟨j25, hj25, hf⟩ := zx_bind_eq hf
    refine zx_ev_step zk_257 rfl (st_last rfl hj25) ?_
    obtain ⟨m26, hm26, hf⟩ := zx_let_eq hf
    rw [hm26]
    obtain ⟨a27, ha27, hf⟩ := zx_let_eq hf
    refine zx_ev_blk zk_257 2 (pc1 := 113) (L1 := [some (.ref 0), some (.int v1), some (.int v2), some (.int v3), some (.int v4), some (.int v5), some (.int a27)]) (st1 := []) (h1 := (zx_SM, m26)) (by subst ha27; rfl) ?_
    obtain rfl := Option.some.inj hf
    exact zx_ev_sub (L := [some (.ref 0), some (.int v1), some (.int v2), some (.int v3), some (.int v4), some (.int v5), some (.int a27)]) (⟨rfl, ⟨rfl, ⟨rfl, ⟨rfl, ⟨rfl, ⟨rfl, ⟨rfl, trivial⟩⟩⟩⟩⟩⟩⟩) hK
def l_M_shift_l113 (v1 : Int32) (v2 : Int32) (v3 : Int32) (v4 : Int32) (v5 : Int32) (s0 : Int32 × zx_M) : Option (zx_M) := zx_lp zx_N (fun s : Int32 × zx_M => b_M_shift_l113 v1 v2 v3 v4 v5 s.1 s.2) s0
theorem el_M_shift_l113 (v1 : Int32) (v2 : Int32) (v3 : Int32) (v4 : Int32) (v5 : Int32) {d : Nat} {out : Option Value × zx_H} : ∀ (n : Nat) (s : Int32 × zx_M) (x : zx_M), zx_lp n (fun s : Int32 × zx_M => b_M_shift_l113 v1 v2 v3 v4 v5 s.1 s.2) s = some x → kx_M_shift_l113 v1 v2 v3 v4 v5 d out x → zx_Ev (d + 2) 257 113 [some (.ref 0), some (.int v1), some (.int v2), some (.int v3), some (.int v4), some (.int v5), some (.int s.1)] [] (zx_SM, s.2) out := by
  intro n
  induction n with
  | zero => intro s x hl _; simp [zx_lp] at hl
  | succ n ih =>
    intro s x hl hx
    unfold zx_lp at hl
    cases hb : b_M_shift_l113 v1 v2 v3 v4 v5 s.1 s.2 with
    | none => simp only [hb] at hl; cases hl
    | some z =>
      simp only [hb] at hl
      cases z with
      | inl s1 => exact eb_M_shift_l113 v1 v2 v3 v4 v5 s.1 s.2 hb (ih s1 x hl hx)
      | inr t =>
        simp only [Option.some.injEq] at hl
        subst hl
        exact eb_M_shift_l113 v1 v2 v3 v4 v5 s.1 s.2 hb hx
def kx_M_shift_l150 (v3 : Int32) (v4 : Int32) (v5 : Int32) (d : Nat) (out : Option Value × zx_H) : (Int32 × zx_M) → Prop
  | y => out = (some (.int y.1), (zx_SM, y.2))
def kl_M_shift_l150 (v3 : Int32) (v4 : Int32) (v5 : Int32) (d : Nat) (out : Option Value × zx_H) : (Int32 × zx_M) ⊕ ((Int32 × zx_M)) → Prop
  | .inl (v6, m) => zx_Ev (d + 2) 257 150 [some (.ref 0), none, none, some (.int v3), some (.int v4), some (.int v5), some (.int v6)] [] (zx_SM, m) out
  | .inr x => kx_M_shift_l150 v3 v4 v5 d out x
def b_M_shift_l150 (v3 : Int32) (v4 : Int32) (v5 : Int32) (v6 : Int32) (m : zx_M) : Option ((Int32 × zx_M) ⊕ ((Int32 × zx_M))) := if v5 ≤ v6 then some (.inr (v5, m)) else (zx_ix 60 v6).bind fun j31 => (zx_ix 360 (((60 * v3) + v4) + v6)).bind fun j32 => zx_let (zx_u2 m 21 j32 (m.2 22 j31)) fun m33 => zx_let (v6 + 1) fun a34 => some (.inl (a34, m33))
theorem eb_M_shift_l150 (v3 : Int32) (v4 : Int32) (v5 : Int32) (v6 : Int32) (m : zx_M) {d : Nat} {out : Option Value × zx_H} {y : (Int32 × zx_M) ⊕ ((Int32 × zx_M))} (hf : b_M_shift_l150 v3 v4 v5 v6 m = some y) (hK : kl_M_shift_l150 v3 v4 v5 d out y) : zx_Ev (d + 2) 257 150 [some (.ref 0), none, none, some (.int v3), some (.int v4), some (.int v5), some (.int v6)] [] (zx_SM, m) out := by
  unfold b_M_shift_l150 at hf
  refine zx_ev_blk zk_257 2 (pc1 := 154) (L1 := [some (.ref 0), none, none, some (.int v3), some (.int v4), some (.int v5), some (.int v6)]) (st1 := [.int v5, .int v6]) (h1 := (zx_SM, m)) rfl ?_
  by_cases c30 : v5 ≤ v6
  · rw [if_pos c30] at hf
    refine zx_ev_ift zk_257 (P := v5 ≤ v6) (t := 185) (f := 157) rfl rfl c30 ?_
    refine zx_ev_blk zk_257 1 (pc1 := 187) (L1 := [some (.ref 0), none, none, some (.int v3), some (.int v4), some (.int v5), some (.int v6)]) (st1 := [.int v5]) (h1 := (zx_SM, m)) rfl ?_
    obtain rfl := Option.some.inj hf
    rw [show out = _ from hK]
    exact zx_ev_ret zk_257 rfl rfl
  · rw [if_neg c30] at hf
    refine zx_ev_ifn zk_257 (P := v5 ≤ v6) (t := 185) (f := 157) rfl rfl c30 ?_
    refine zx_ev_blk zk_257 12 (pc1 := 177) (L1 := [some (.ref 0), none, none, some (.int v3), some (.int v4), some (.int v5), some (.int v6)]) (st1 := [.int v6, .ref 22, .int (((60 * v3) + v4) + v6), .ref 21]) (h1 := (zx_SM, m)) rfl ?_
    obtain ⟨j31, hj31, hf⟩ := zx_bind_eq hf
    refine zx_ev_step zk_257 rfl (st_lald rfl hj31) ?_
    obtain ⟨j32, hj32, hf⟩ := zx_bind_eq hf
    refine zx_ev_step zk_257 rfl (st_last rfl hj32) ?_
    obtain ⟨m33, hm33, hf⟩ := zx_let_eq hf
    rw [hm33]
    obtain ⟨a34, ha34, hf⟩ := zx_let_eq hf
    refine zx_ev_blk zk_257 2 (pc1 := 150) (L1 := [some (.ref 0), none, none, some (.int v3), some (.int v4), some (.int v5), some (.int a34)]) (st1 := []) (h1 := (zx_SM, m33)) (by subst ha34; rfl) ?_
    obtain rfl := Option.some.inj hf
    exact zx_ev_sub (L := [some (.ref 0), none, none, some (.int v3), some (.int v4), some (.int v5), some (.int a34)]) (⟨rfl, ⟨rfl, ⟨rfl, ⟨rfl, ⟨rfl, trivial⟩⟩⟩⟩⟩) hK
def l_M_shift_l150 (v3 : Int32) (v4 : Int32) (v5 : Int32) (s0 : Int32 × zx_M) : Option ((Int32 × zx_M)) := zx_lp zx_N (fun s : Int32 × zx_M => b_M_shift_l150 v3 v4 v5 s.1 s.2) s0
theorem el_M_shift_l150 (v3 : Int32) (v4 : Int32) (v5 : Int32) {d : Nat} {out : Option Value × zx_H} : ∀ (n : Nat) (s : Int32 × zx_M) (x : (Int32 × zx_M)), zx_lp n (fun s : Int32 × zx_M => b_M_shift_l150 v3 v4 v5 s.1 s.2) s = some x → kx_M_shift_l150 v3 v4 v5 d out x → zx_Ev (d + 2) 257 150 [some (.ref 0), none, none, some (.int v3), some (.int v4), some (.int v5), some (.int s.1)] [] (zx_SM, s.2) out := by
  intro n
  induction n with
  | zero => intro s x hl _; simp [zx_lp] at hl
  | succ n ih =>
    intro s x hl hx
    unfold zx_lp at hl
    cases hb : b_M_shift_l150 v3 v4 v5 s.1 s.2 with
    | none => simp only [hb] at hl; cases hl
    | some z =>
      simp only [hb] at hl
      cases z with
      | inl s1 => exact eb_M_shift_l150 v3 v4 v5 s.1 s.2 hb (ih s1 x hl hx)
      | inr t =>
        simp only [Option.some.injEq] at hl
        subst hl
        exact eb_M_shift_l150 v3 v4 v5 s.1 s.2 hb hx
def f_M_shift (v1 : Int32) (v2 : Int32) (v3 : Int32) (v4 : Int32) (v5 : Int32) (m : zx_M) : Option (Int32 × zx_M) := (f_M_isShelf v1 m).bind fun r2 => if r2 = 0 then some ((-1), m) else (f_M_isShelf v3 m).bind fun r5 => if ¬ r5 = 0 then (zx_ix 6 v1).bind fun j7 => if (m.1 19 j7) < 0 then some ((-11), m) else (zx_ix 6 v3).bind fun j9 => if 0 ≤ (m.1 19 j9) then (zx_ix 6 v1).bind fun j11 => if (m.1 19 j11) < 50 then some ((-12), m) else (zx_ix 6 v1).bind fun j13 => (zx_ix 6 v3).bind fun j14 => if (m.1 19 j13) = (m.1 19 j14) then if v5 < 0 then some ((-13), m) else if v2 < 0 then some ((-13), m) else if v4 < 0 then some ((-13), m) else (zx_ix 6 v1).bind fun j19 => if ((m.1 20 j19) - v5) < v2 then some ((-13), m) else (zx_ix 6 v3).bind fun j21 => if v4 ≤ ((m.1 20 j21) - v5) then (l_M_shift_l113 v1 v2 v3 v4 v5 (0, m)).bind fun x28 => zx_let x28 fun m29 => (l_M_shift_l150 v3 v4 v5 (0, m29)).bind fun x35 => zx_let x35 fun y36 => some y36 else some ((-13), m) else some ((-12), m) else some ((-11), m) else some ((-1), m)
theorem s_M_shift (v1 : Int32) (v2 : Int32) (v3 : Int32) (v4 : Int32) (v5 : Int32) (m : zx_M) {d : Nat} {y : (Int32 × zx_M)} (hf : f_M_shift v1 v2 v3 v4 v5 m = some y) : zx_Ev (d + 2) 257 0 [some (.ref 0), some (.int v1), some (.int v2), some (.int v3), some (.int v4), some (.int v5), none] [] (zx_SM, m) (some (.int y.1), (zx_SM, y.2)) := by
  unfold f_M_shift at hf
  refine zx_ev_blk zk_257 1 (pc1 := 1) (L1 := [some (.ref 0), some (.int v1), some (.int v2), some (.int v3), some (.int v4), some (.int v5), none]) (st1 := [.int v1]) (h1 := (zx_SM, m)) rfl ?_
  obtain ⟨r2, hv1, hf⟩ := zx_bind_eq hf
  refine zx_ev_call (d := d + 1) zk_257 (v := some (.int r2)) (h1 := (zx_SM, m)) rfl rfl zt_250 rfl zx_SMn rfl rfl (s_M_isShelf _ _ (d := d + 0) hv1) ?_
  by_cases c3 : r2 = 0
  · rw [if_pos c3] at hf
    refine zx_ev_ift zk_257 (P := r2 = 0) (t := 14) (f := 7) rfl rfl c3 ?_
    refine zx_ev_blk zk_257 1 (pc1 := 15) (L1 := [some (.ref 0), some (.int v1), some (.int v2), some (.int v3), some (.int v4), some (.int v5), none]) (st1 := [.int (-1)]) (h1 := (zx_SM, m)) rfl ?_
    obtain rfl := Option.some.inj hf
    exact zx_ev_ret zk_257 rfl rfl
  · rw [if_neg c3] at hf
    refine zx_ev_ifn zk_257 (P := r2 = 0) (t := 14) (f := 7) rfl rfl c3 ?_
    refine zx_ev_blk zk_257 1 (pc1 := 8) (L1 := [some (.ref 0), some (.int v1), some (.int v2), some (.int v3), some (.int v4), some (.int v5), none]) (st1 := [.int v3]) (h1 := (zx_SM, m)) rfl ?_
    obtain ⟨r5, hv4, hf⟩ := zx_bind_eq hf
    refine zx_ev_call (d := d + 1) zk_257 (v := some (.int r5)) (h1 := (zx_SM, m)) rfl rfl zt_250 rfl zx_SMn rfl rfl (s_M_isShelf _ _ (d := d + 0) hv4) ?_
    by_cases c6 : ¬ r5 = 0
    · rw [if_pos c6] at hf
      refine zx_ev_ift zk_257 (P := ¬ r5 = 0) (t := 16) (f := 14) rfl rfl c6 ?_
      refine zx_ev_blk zk_257 3 (pc1 := 21) (L1 := [some (.ref 0), some (.int v1), some (.int v2), some (.int v3), some (.int v4), some (.int v5), none]) (st1 := [.int v1, .ref 19]) (h1 := (zx_SM, m)) rfl ?_
      obtain ⟨j7, hj7, hf⟩ := zx_bind_eq hf
      refine zx_ev_step zk_257 rfl (st_iald rfl rfl hj7) ?_
      by_cases c8 : (m.1 19 j7) < 0
      · rw [if_pos c8] at hf
        refine zx_ev_ift zk_257 (P := (m.1 19 j7) < 0) (t := 34) (f := 25) rfl rfl c8 ?_
        refine zx_ev_blk zk_257 1 (pc1 := 36) (L1 := [some (.ref 0), some (.int v1), some (.int v2), some (.int v3), some (.int v4), some (.int v5), none]) (st1 := [.int (-11)]) (h1 := (zx_SM, m)) rfl ?_
        obtain rfl := Option.some.inj hf
        exact zx_ev_ret zk_257 rfl rfl
      · rw [if_neg c8] at hf
        refine zx_ev_ifn zk_257 (P := (m.1 19 j7) < 0) (t := 34) (f := 25) rfl rfl c8 ?_
        refine zx_ev_blk zk_257 3 (pc1 := 30) (L1 := [some (.ref 0), some (.int v1), some (.int v2), some (.int v3), some (.int v4), some (.int v5), none]) (st1 := [.int v3, .ref 19]) (h1 := (zx_SM, m)) rfl ?_
        obtain ⟨j9, hj9, hf⟩ := zx_bind_eq hf
        refine zx_ev_step zk_257 rfl (st_iald rfl rfl hj9) ?_
        by_cases c10 : 0 ≤ (m.1 19 j9)
        · rw [if_pos c10] at hf
          refine zx_ev_ift zk_257 (P := 0 ≤ (m.1 19 j9)) (t := 37) (f := 34) rfl rfl c10 ?_
          refine zx_ev_blk zk_257 3 (pc1 := 42) (L1 := [some (.ref 0), some (.int v1), some (.int v2), some (.int v3), some (.int v4), some (.int v5), none]) (st1 := [.int v1, .ref 19]) (h1 := (zx_SM, m)) rfl ?_
          obtain ⟨j11, hj11, hf⟩ := zx_bind_eq hf
          refine zx_ev_step zk_257 rfl (st_iald rfl rfl hj11) ?_
          refine zx_ev_blk zk_257 1 (pc1 := 45) (L1 := [some (.ref 0), some (.int v1), some (.int v2), some (.int v3), some (.int v4), some (.int v5), none]) (st1 := [.int 50, .int (m.1 19 j11)]) (h1 := (zx_SM, m)) rfl ?_
          by_cases c12 : (m.1 19 j11) < 50
          · rw [if_pos c12] at hf
            refine zx_ev_ift zk_257 (P := (m.1 19 j11) < 50) (t := 63) (f := 48) rfl rfl c12 ?_
            refine zx_ev_blk zk_257 1 (pc1 := 65) (L1 := [some (.ref 0), some (.int v1), some (.int v2), some (.int v3), some (.int v4), some (.int v5), none]) (st1 := [.int (-12)]) (h1 := (zx_SM, m)) rfl ?_
            obtain rfl := Option.some.inj hf
            exact zx_ev_ret zk_257 rfl rfl
          · rw [if_neg c12] at hf
            refine zx_ev_ifn zk_257 (P := (m.1 19 j11) < 50) (t := 63) (f := 48) rfl rfl c12 ?_
            refine zx_ev_blk zk_257 3 (pc1 := 53) (L1 := [some (.ref 0), some (.int v1), some (.int v2), some (.int v3), some (.int v4), some (.int v5), none]) (st1 := [.int v1, .ref 19]) (h1 := (zx_SM, m)) rfl ?_
            obtain ⟨j13, hj13, hf⟩ := zx_bind_eq hf
            refine zx_ev_step zk_257 rfl (st_iald rfl rfl hj13) ?_
            refine zx_ev_blk zk_257 3 (pc1 := 59) (L1 := [some (.ref 0), some (.int v1), some (.int v2), some (.int v3), some (.int v4), some (.int v5), none]) (st1 := [.int v3, .ref 19, .int (m.1 19 j13)]) (h1 := (zx_SM, m)) rfl ?_
            obtain ⟨j14, hj14, hf⟩ := zx_bind_eq hf
            refine zx_ev_step zk_257 rfl (st_iald rfl rfl hj14) ?_
            by_cases c15 : (m.1 19 j13) = (m.1 19 j14)
            · rw [if_pos c15] at hf
              refine zx_ev_ift zk_257 (P := (m.1 19 j13) = (m.1 19 j14)) (t := 66) (f := 63) rfl rfl c15 ?_
              refine zx_ev_blk zk_257 1 (pc1 := 68) (L1 := [some (.ref 0), some (.int v1), some (.int v2), some (.int v3), some (.int v4), some (.int v5), none]) (st1 := [.int v5]) (h1 := (zx_SM, m)) rfl ?_
              by_cases c16 : v5 < 0
              · rw [if_pos c16] at hf
                refine zx_ev_ift zk_257 (P := v5 < 0) (t := 107) (f := 71) rfl rfl c16 ?_
                refine zx_ev_blk zk_257 1 (pc1 := 109) (L1 := [some (.ref 0), some (.int v1), some (.int v2), some (.int v3), some (.int v4), some (.int v5), none]) (st1 := [.int (-13)]) (h1 := (zx_SM, m)) rfl ?_
                obtain rfl := Option.some.inj hf
                exact zx_ev_ret zk_257 rfl rfl
              · rw [if_neg c16] at hf
                refine zx_ev_ifn zk_257 (P := v5 < 0) (t := 107) (f := 71) rfl rfl c16 ?_
                refine zx_ev_blk zk_257 1 (pc1 := 72) (L1 := [some (.ref 0), some (.int v1), some (.int v2), some (.int v3), some (.int v4), some (.int v5), none]) (st1 := [.int v2]) (h1 := (zx_SM, m)) rfl ?_
                by_cases c17 : v2 < 0
                · rw [if_pos c17] at hf
                  refine zx_ev_ift zk_257 (P := v2 < 0) (t := 107) (f := 75) rfl rfl c17 ?_
                  refine zx_ev_blk zk_257 1 (pc1 := 109) (L1 := [some (.ref 0), some (.int v1), some (.int v2), some (.int v3), some (.int v4), some (.int v5), none]) (st1 := [.int (-13)]) (h1 := (zx_SM, m)) rfl ?_
                  obtain rfl := Option.some.inj hf
                  exact zx_ev_ret zk_257 rfl rfl
                · rw [if_neg c17] at hf
                  refine zx_ev_ifn zk_257 (P := v2 < 0) (t := 107) (f := 75) rfl rfl c17 ?_
                  refine zx_ev_blk zk_257 1 (pc1 := 77) (L1 := [some (.ref 0), some (.int v1), some (.int v2), some (.int v3), some (.int v4), some (.int v5), none]) (st1 := [.int v4]) (h1 := (zx_SM, m)) rfl ?_
                  by_cases c18 : v4 < 0
                  · rw [if_pos c18] at hf
                    refine zx_ev_ift zk_257 (P := v4 < 0) (t := 107) (f := 80) rfl rfl c18 ?_
                    refine zx_ev_blk zk_257 1 (pc1 := 109) (L1 := [some (.ref 0), some (.int v1), some (.int v2), some (.int v3), some (.int v4), some (.int v5), none]) (st1 := [.int (-13)]) (h1 := (zx_SM, m)) rfl ?_
                    obtain rfl := Option.some.inj hf
                    exact zx_ev_ret zk_257 rfl rfl
                  · rw [if_neg c18] at hf
                    refine zx_ev_ifn zk_257 (P := v4 < 0) (t := 107) (f := 80) rfl rfl c18 ?_
                    refine zx_ev_blk zk_257 4 (pc1 := 86) (L1 := [some (.ref 0), some (.int v1), some (.int v2), some (.int v3), some (.int v4), some (.int v5), none]) (st1 := [.int v1, .ref 20, .int v2]) (h1 := (zx_SM, m)) rfl ?_
                    obtain ⟨j19, hj19, hf⟩ := zx_bind_eq hf
                    refine zx_ev_step zk_257 rfl (st_iald rfl rfl hj19) ?_
                    refine zx_ev_blk zk_257 2 (pc1 := 90) (L1 := [some (.ref 0), some (.int v1), some (.int v2), some (.int v3), some (.int v4), some (.int v5), none]) (st1 := [.int ((m.1 20 j19) - v5), .int v2]) (h1 := (zx_SM, m)) rfl ?_
                    by_cases c20 : ((m.1 20 j19) - v5) < v2
                    · rw [if_pos c20] at hf
                      refine zx_ev_ift zk_257 (P := ((m.1 20 j19) - v5) < v2) (t := 107) (f := 93) rfl rfl c20 ?_
                      refine zx_ev_blk zk_257 1 (pc1 := 109) (L1 := [some (.ref 0), some (.int v1), some (.int v2), some (.int v3), some (.int v4), some (.int v5), none]) (st1 := [.int (-13)]) (h1 := (zx_SM, m)) rfl ?_
                      obtain rfl := Option.some.inj hf
                      exact zx_ev_ret zk_257 rfl rfl
                    · rw [if_neg c20] at hf
                      refine zx_ev_ifn zk_257 (P := ((m.1 20 j19) - v5) < v2) (t := 107) (f := 93) rfl rfl c20 ?_
                      refine zx_ev_blk zk_257 4 (pc1 := 100) (L1 := [some (.ref 0), some (.int v1), some (.int v2), some (.int v3), some (.int v4), some (.int v5), none]) (st1 := [.int v3, .ref 20, .int v4]) (h1 := (zx_SM, m)) rfl ?_
                      obtain ⟨j21, hj21, hf⟩ := zx_bind_eq hf
                      refine zx_ev_step zk_257 rfl (st_iald rfl rfl hj21) ?_
                      refine zx_ev_blk zk_257 2 (pc1 := 104) (L1 := [some (.ref 0), some (.int v1), some (.int v2), some (.int v3), some (.int v4), some (.int v5), none]) (st1 := [.int ((m.1 20 j21) - v5), .int v4]) (h1 := (zx_SM, m)) rfl ?_
                      by_cases c22 : v4 ≤ ((m.1 20 j21) - v5)
                      · rw [if_pos c22] at hf
                        refine zx_ev_ift zk_257 (P := v4 ≤ ((m.1 20 j21) - v5)) (t := 110) (f := 107) rfl rfl c22 ?_
                        refine zx_ev_blk zk_257 2 (pc1 := 113) (L1 := [some (.ref 0), some (.int v1), some (.int v2), some (.int v3), some (.int v4), some (.int v5), some (.int 0)]) (st1 := []) (h1 := (zx_SM, m)) rfl ?_
                        obtain ⟨x28, hx28, hf⟩ := zx_bind_eq hf
                        refine zx_ev_sub (L := [some (.ref 0), some (.int v1), some (.int v2), some (.int v3), some (.int v4), some (.int v5), some (.int 0)]) (⟨rfl, ⟨rfl, ⟨rfl, ⟨rfl, ⟨rfl, ⟨rfl, ⟨rfl, trivial⟩⟩⟩⟩⟩⟩⟩) (el_M_shift_l113 v1 v2 v3 v4 v5 zx_N (0, m) x28 hx28 ?_)
                        obtain ⟨m29, hm29, hf⟩ := zx_let_eq hf
                        subst hm29
                        show zx_Ev (d + 2) 257 147 [some (.ref 0), none, none, some (.int v3), some (.int v4), some (.int v5), none] [] (zx_SM, x28) _
                        refine zx_ev_blk zk_257 2 (pc1 := 150) (L1 := [some (.ref 0), none, none, some (.int v3), some (.int v4), some (.int v5), some (.int 0)]) (st1 := []) (h1 := (zx_SM, x28)) rfl ?_
                        obtain ⟨x35, hx35, hf⟩ := zx_bind_eq hf
                        refine zx_ev_sub (L := [some (.ref 0), none, none, some (.int v3), some (.int v4), some (.int v5), some (.int 0)]) (⟨rfl, ⟨rfl, ⟨rfl, ⟨rfl, ⟨rfl, trivial⟩⟩⟩⟩⟩) (el_M_shift_l150 v3 v4 v5 zx_N (0, x28) x35 hx35 ?_)
                        obtain ⟨y36, hy36, hf⟩ := zx_let_eq hf
                        subst hy36
                        obtain rfl := Option.some.inj hf
                        rfl
                      · rw [if_neg c22] at hf
                        refine zx_ev_ifn zk_257 (P := v4 ≤ ((m.1 20 j21) - v5)) (t := 110) (f := 107) rfl rfl c22 ?_
                        refine zx_ev_blk zk_257 1 (pc1 := 109) (L1 := [some (.ref 0), some (.int v1), some (.int v2), some (.int v3), some (.int v4), some (.int v5), none]) (st1 := [.int (-13)]) (h1 := (zx_SM, m)) rfl ?_
                        obtain rfl := Option.some.inj hf
                        exact zx_ev_ret zk_257 rfl rfl
            · rw [if_neg c15] at hf
              refine zx_ev_ifn zk_257 (P := (m.1 19 j13) = (m.1 19 j14)) (t := 66) (f := 63) rfl rfl c15 ?_
              refine zx_ev_blk zk_257 1 (pc1 := 65) (L1 := [some (.ref 0), some (.int v1), some (.int v2), some (.int v3), some (.int v4), some (.int v5), none]) (st1 := [.int (-12)]) (h1 := (zx_SM, m)) rfl ?_
              obtain rfl := Option.some.inj hf
              exact zx_ev_ret zk_257 rfl rfl
        · rw [if_neg c10] at hf
          refine zx_ev_ifn zk_257 (P := 0 ≤ (m.1 19 j9)) (t := 37) (f := 34) rfl rfl c10 ?_
          refine zx_ev_blk zk_257 1 (pc1 := 36) (L1 := [some (.ref 0), some (.int v1), some (.int v2), some (.int v3), some (.int v4), some (.int v5), none]) (st1 := [.int (-11)]) (h1 := (zx_SM, m)) rfl ?_
          obtain rfl := Option.some.inj hf
          exact zx_ev_ret zk_257 rfl rfl
    · rw [if_neg c6] at hf
      refine zx_ev_ifn zk_257 (P := ¬ r5 = 0) (t := 16) (f := 14) rfl rfl c6 ?_
      refine zx_ev_blk zk_257 1 (pc1 := 15) (L1 := [some (.ref 0), some (.int v1), some (.int v2), some (.int v3), some (.int v4), some (.int v5), none]) (st1 := [.int (-1)]) (h1 := (zx_SM, m)) rfl ?_
      obtain rfl := Option.some.inj hf
      exact zx_ev_ret zk_257 rfl rfl
def f_M_spotFor (v1 : Int32) (v2 : Int32) (v3 : Int32) (m : zx_M) : Option (Int32 × zx_M) := (f_M_rowIs v1 0 m).bind fun r2 => if ¬ r2 = 1 then some ((-2000000000), m) else (f_M_isCount v2 m).bind fun r5 => if r5 = 0 then some ((-2000000000), m) else (f_M_within (Int32.toInt64 v3) 0 1 m).bind fun r8 => if ¬ r8 = 0 then (f_M_takesOrder v1 v2 m).bind fun m11 => (f_M_findsSpot m11).bind fun m13 => if ¬ v3 = 0 then some (m13.1 0 23, m13) else some (m13.1 0 24, m13) else some ((-2000000000), m)
theorem s_M_spotFor (v1 : Int32) (v2 : Int32) (v3 : Int32) (m : zx_M) {d : Nat} {y : (Int32 × zx_M)} (hf : f_M_spotFor v1 v2 v3 m = some y) : zx_Ev (d + 70) 208 0 [some (.ref 0), some (.int v1), some (.int v2), some (.int v3)] [] (zx_SM, m) (some (.int y.1), (zx_SM, y.2)) := by
  unfold f_M_spotFor at hf
  refine zx_ev_blk zk_208 3 (pc1 := 3) (L1 := [some (.ref 0), some (.int v1), some (.int v2), some (.int v3)]) (st1 := [.int 0, .int v1, .ref 0]) (h1 := (zx_SM, m)) rfl ?_
  obtain ⟨r2, hv1, hf⟩ := zx_bind_eq hf
  refine zx_ev_call (d := d + 69) zk_208 (v := some (.int r2)) (h1 := (zx_SM, m)) rfl rfl zt_198 rfl zx_SMn rfl rfl (s_M_rowIs _ _ _ (d := d + 67) hv1) ?_
  refine zx_ev_blk zk_208 1 (pc1 := 7) (L1 := [some (.ref 0), some (.int v1), some (.int v2), some (.int v3)]) (st1 := [.int 1, .int r2]) (h1 := (zx_SM, m)) rfl ?_
  by_cases c3 : ¬ r2 = 1
  · rw [if_pos c3] at hf
    refine zx_ev_ift zk_208 (P := ¬ r2 = 1) (t := 27) (f := 10) rfl rfl c3 ?_
    refine zx_ev_blk zk_208 1 (pc1 := 29) (L1 := [some (.ref 0), some (.int v1), some (.int v2), some (.int v3)]) (st1 := [.int (-2000000000)]) (h1 := (zx_SM, m)) rfl ?_
    obtain rfl := Option.some.inj hf
    exact zx_ev_ret zk_208 rfl rfl
  · rw [if_neg c3] at hf
    refine zx_ev_ifn zk_208 (P := ¬ r2 = 1) (t := 27) (f := 10) rfl rfl c3 ?_
    refine zx_ev_blk zk_208 1 (pc1 := 11) (L1 := [some (.ref 0), some (.int v1), some (.int v2), some (.int v3)]) (st1 := [.int v2]) (h1 := (zx_SM, m)) rfl ?_
    obtain ⟨r5, hv4, hf⟩ := zx_bind_eq hf
    refine zx_ev_call (d := d + 69) zk_208 (v := some (.int r5)) (h1 := (zx_SM, m)) rfl rfl zt_202 rfl zx_SMn rfl rfl (s_M_isCount _ _ (d := d + 68) hv4) ?_
    by_cases c6 : r5 = 0
    · rw [if_pos c6] at hf
      refine zx_ev_ift zk_208 (P := r5 = 0) (t := 27) (f := 17) rfl rfl c6 ?_
      refine zx_ev_blk zk_208 1 (pc1 := 29) (L1 := [some (.ref 0), some (.int v1), some (.int v2), some (.int v3)]) (st1 := [.int (-2000000000)]) (h1 := (zx_SM, m)) rfl ?_
      obtain rfl := Option.some.inj hf
      exact zx_ev_ret zk_208 rfl rfl
    · rw [if_neg c6] at hf
      refine zx_ev_ifn zk_208 (P := r5 = 0) (t := 27) (f := 17) rfl rfl c6 ?_
      refine zx_ev_blk zk_208 4 (pc1 := 21) (L1 := [some (.ref 0), some (.int v1), some (.int v2), some (.int v3)]) (st1 := [.long 1, .long 0, .long (Int32.toInt64 v3)]) (h1 := (zx_SM, m)) rfl ?_
      obtain ⟨r8, hv7, hf⟩ := zx_bind_eq hf
      refine zx_ev_call (d := d + 69) zk_208 (v := some (.int r8)) (h1 := (zx_SM, m)) rfl rfl zt_157 rfl zx_SMn rfl rfl (s_M_within _ _ _ _ (d := d + 69) hv7) ?_
      by_cases c9 : ¬ r8 = 0
      · rw [if_pos c9] at hf
        refine zx_ev_ift zk_208 (P := ¬ r8 = 0) (t := 30) (f := 27) rfl rfl c9 ?_
        refine zx_ev_blk zk_208 3 (pc1 := 33) (L1 := [some (.ref 0), some (.int v1), some (.int v2), some (.int v3)]) (st1 := [.int v2, .int v1, .ref 0]) (h1 := (zx_SM, m)) rfl ?_
        obtain ⟨m11, hv10, hf⟩ := zx_bind_eq hf
        refine zx_ev_call (d := d + 69) zk_208 (v := none) (h1 := (zx_SM, m11)) rfl rfl zt_200 rfl zx_SMn rfl rfl (s_M_takesOrder _ _ _ (d := d + 0) hv10) ?_
        refine zx_ev_blk zk_208 1 (pc1 := 37) (L1 := [some (.ref 0), some (.int v1), some (.int v2), some (.int v3)]) (st1 := [.ref 0]) (h1 := (zx_SM, m11)) rfl ?_
        obtain ⟨m13, hv12, hf⟩ := zx_bind_eq hf
        refine zx_ev_call (d := d + 69) zk_208 (v := none) (h1 := (zx_SM, m13)) rfl rfl zt_207 rfl zx_SMn rfl rfl (s_M_findsSpot _ (d := d + 65) hv12) ?_
        refine zx_ev_blk zk_208 1 (pc1 := 41) (L1 := [some (.ref 0), some (.int v1), some (.int v2), some (.int v3)]) (st1 := [.int v3]) (h1 := (zx_SM, m13)) rfl ?_
        by_cases c14 : ¬ v3 = 0
        · rw [if_pos c14] at hf
          refine zx_ev_ift zk_208 (P := ¬ v3 = 0) (t := 51) (f := 44) rfl rfl c14 ?_
          refine zx_ev_blk zk_208 2 (pc1 := 55) (L1 := [some (.ref 0), some (.int v1), some (.int v2), some (.int v3)]) (st1 := [.int (m13.1 0 23)]) (h1 := (zx_SM, m13)) rfl ?_
          obtain rfl := Option.some.inj hf
          exact zx_ev_ret zk_208 rfl rfl
        · rw [if_neg c14] at hf
          refine zx_ev_ifn zk_208 (P := ¬ v3 = 0) (t := 51) (f := 44) rfl rfl c14 ?_
          refine zx_ev_blk zk_208 3 (pc1 := 55) (L1 := [some (.ref 0), some (.int v1), some (.int v2), some (.int v3)]) (st1 := [.int (m13.1 0 24)]) (h1 := (zx_SM, m13)) rfl ?_
          obtain rfl := Option.some.inj hf
          exact zx_ev_ret zk_208 rfl rfl
      · rw [if_neg c9] at hf
        refine zx_ev_ifn zk_208 (P := ¬ r8 = 0) (t := 30) (f := 27) rfl rfl c9 ?_
        refine zx_ev_blk zk_208 1 (pc1 := 29) (L1 := [some (.ref 0), some (.int v1), some (.int v2), some (.int v3)]) (st1 := [.int (-2000000000)]) (h1 := (zx_SM, m)) rfl ?_
        obtain rfl := Option.some.inj hf
        exact zx_ev_ret zk_208 rfl rfl
def kx_M_leavesOut_l2 (d : Nat) (out : Option Value × zx_H) : zx_M → Prop
  | m => zx_Ev (d) 217 46 [some (.ref 0), none, none] [] (zx_SM, m) out
def kl_M_leavesOut_l2 (d : Nat) (out : Option Value × zx_H) : (Int32 × zx_M) ⊕ (zx_M) → Prop
  | .inl (v2, m) => zx_Ev (d) 217 2 [some (.ref 0), none, some (.int v2)] [] (zx_SM, m) out
  | .inr x => kx_M_leavesOut_l2 d out x
def b_M_leavesOut_l2 (v2 : Int32) (m : zx_M) : Option ((Int32 × zx_M) ⊕ (zx_M)) := if ((m.1 0 20) - 1) ≤ v2 then some (.inr m) else (zx_ix 7 (v2 + 1)).bind fun j2 => (zx_ix 7 v2).bind fun j3 => zx_let (zx_u1 m 8 j3 (m.1 8 j2)) fun m4 => (zx_ix 7 (v2 + 1)).bind fun j5 => (zx_ix 7 v2).bind fun j6 => zx_let (zx_u1 m4 9 j6 (m4.1 9 j5)) fun m7 => zx_let (v2 + 1) fun a8 => some (.inl (a8, m7))
theorem eb_M_leavesOut_l2 (v2 : Int32) (m : zx_M) {d : Nat} {out : Option Value × zx_H} {y : (Int32 × zx_M) ⊕ (zx_M)} (hf : b_M_leavesOut_l2 v2 m = some y) (hK : kl_M_leavesOut_l2 d out y) : zx_Ev (d) 217 2 [some (.ref 0), none, some (.int v2)] [] (zx_SM, m) out := by
  unfold b_M_leavesOut_l2 at hf
  refine zx_ev_blk zk_217 5 (pc1 := 9) (L1 := [some (.ref 0), none, some (.int v2)]) (st1 := [.int ((m.1 0 20) - 1), .int v2]) (h1 := (zx_SM, m)) rfl ?_
  by_cases c1 : ((m.1 0 20) - 1) ≤ v2
  · rw [if_pos c1] at hf
    refine zx_ev_ift zk_217 (P := ((m.1 0 20) - 1) ≤ v2) (t := 46) (f := 12) rfl rfl c1 ?_
    obtain rfl := Option.some.inj hf
    exact zx_ev_sub (L := [some (.ref 0), none, none]) (⟨rfl, ⟨trivial, trivial⟩⟩) hK
  · rw [if_neg c1] at hf
    refine zx_ev_ifn zk_217 (P := ((m.1 0 20) - 1) ≤ v2) (t := 46) (f := 12) rfl rfl c1 ?_
    refine zx_ev_blk zk_217 8 (pc1 := 24) (L1 := [some (.ref 0), none, some (.int v2)]) (st1 := [.int (v2 + 1), .ref 8, .int v2, .ref 8]) (h1 := (zx_SM, m)) rfl ?_
    obtain ⟨j2, hj2, hf⟩ := zx_bind_eq hf
    refine zx_ev_step zk_217 rfl (st_iald rfl rfl hj2) ?_
    obtain ⟨j3, hj3, hf⟩ := zx_bind_eq hf
    refine zx_ev_step zk_217 rfl (st_iast rfl hj3) ?_
    obtain ⟨m4, hm4, hf⟩ := zx_let_eq hf
    rw [hm4]
    refine zx_ev_blk zk_217 8 (pc1 := 38) (L1 := [some (.ref 0), none, some (.int v2)]) (st1 := [.int (v2 + 1), .ref 9, .int v2, .ref 9]) (h1 := (zx_SM, m4)) rfl ?_
    obtain ⟨j5, hj5, hf⟩ := zx_bind_eq hf
    refine zx_ev_step zk_217 rfl (st_iald rfl rfl hj5) ?_
    obtain ⟨j6, hj6, hf⟩ := zx_bind_eq hf
    refine zx_ev_step zk_217 rfl (st_iast rfl hj6) ?_
    obtain ⟨m7, hm7, hf⟩ := zx_let_eq hf
    rw [hm7]
    obtain ⟨a8, ha8, hf⟩ := zx_let_eq hf
    refine zx_ev_blk zk_217 2 (pc1 := 2) (L1 := [some (.ref 0), none, some (.int a8)]) (st1 := []) (h1 := (zx_SM, m7)) (by subst ha8; rfl) ?_
    obtain rfl := Option.some.inj hf
    exact zx_ev_sub (L := [some (.ref 0), none, some (.int a8)]) (⟨rfl, ⟨rfl, trivial⟩⟩) hK
def l_M_leavesOut_l2 (s0 : Int32 × zx_M) : Option (zx_M) := zx_lp zx_N (fun s : Int32 × zx_M => b_M_leavesOut_l2 s.1 s.2) s0
theorem el_M_leavesOut_l2 {d : Nat} {out : Option Value × zx_H} : ∀ (n : Nat) (s : Int32 × zx_M) (x : zx_M), zx_lp n (fun s : Int32 × zx_M => b_M_leavesOut_l2 s.1 s.2) s = some x → kx_M_leavesOut_l2 d out x → zx_Ev (d) 217 2 [some (.ref 0), none, some (.int s.1)] [] (zx_SM, s.2) out := by
  intro n
  induction n with
  | zero => intro s x hl _; simp [zx_lp] at hl
  | succ n ih =>
    intro s x hl hx
    unfold zx_lp at hl
    cases hb : b_M_leavesOut_l2 s.1 s.2 with
    | none => simp only [hb] at hl; cases hl
    | some z =>
      simp only [hb] at hl
      cases z with
      | inl s1 => exact eb_M_leavesOut_l2 s.1 s.2 hb (ih s1 x hl hx)
      | inr t =>
        simp only [Option.some.injEq] at hl
        subst hl
        exact eb_M_leavesOut_l2 s.1 s.2 hb hx
def f_M_leavesOut (v1 : Int32) (m : zx_M) : Option zx_M := (l_M_leavesOut_l2 (v1, m)).bind fun x9 => zx_let x9 fun m10 => zx_let (zx_u1 m10 0 20 ((m10.1 0 20) - 1)) fun m11 => some m11
theorem s_M_leavesOut (v1 : Int32) (m : zx_M) {d : Nat} {y : zx_M} (hf : f_M_leavesOut v1 m = some y) : zx_Ev (d) 217 0 [some (.ref 0), some (.int v1), none] [] (zx_SM, m) (none, (zx_SM, y)) := by
  unfold f_M_leavesOut at hf
  refine zx_ev_blk zk_217 2 (pc1 := 2) (L1 := [some (.ref 0), some (.int v1), some (.int v1)]) (st1 := []) (h1 := (zx_SM, m)) rfl ?_
  obtain ⟨x9, hx9, hf⟩ := zx_bind_eq hf
  refine zx_ev_sub (L := [some (.ref 0), none, some (.int v1)]) (⟨rfl, ⟨trivial, ⟨rfl, trivial⟩⟩⟩) (el_M_leavesOut_l2 zx_N (v1, m) x9 hx9 ?_)
  obtain ⟨m10, hm10, hf⟩ := zx_let_eq hf
  subst hm10
  show zx_Ev (d) 217 46 [some (.ref 0), none, none] [] (zx_SM, x9) _
  obtain ⟨m11, hm11, hf⟩ := zx_let_eq hf
  refine zx_ev_blk zk_217 6 (pc1 := 56) (L1 := [some (.ref 0), none, none]) (st1 := []) (h1 := (zx_SM, m11)) (by subst hm11; rfl) ?_
  obtain rfl := Option.some.inj hf
  exact zx_ev_ret zk_217 rfl rfl
def kx_M_sticks_l90 (v2 : Int32) (v3 : Int32) (v4 : Int32) (v5 : Int32) (d : Nat) (out : Option Value × zx_H) : zx_M → Prop
  | m => zx_Ev (d + 70) 218 119 [some (.ref 0), none, some (.int v2), none, some (.int v4), some (.int v5), none] [] (zx_SM, m) out
def kl_M_sticks_l90 (v2 : Int32) (v3 : Int32) (v4 : Int32) (v5 : Int32) (d : Nat) (out : Option Value × zx_H) : (Int32 × zx_M) ⊕ (zx_M) → Prop
  | .inl (v6, m) => zx_Ev (d + 70) 218 90 [some (.ref 0), none, some (.int v2), some (.int v3), some (.int v4), some (.int v5), some (.int v6)] [] (zx_SM, m) out
  | .inr x => kx_M_sticks_l90 v2 v3 v4 v5 d out x
def b_M_sticks_l90 (v2 : Int32) (v3 : Int32) (v4 : Int32) (v5 : Int32) (v6 : Int32) (m : zx_M) : Option ((Int32 × zx_M) ⊕ (zx_M)) := if (m.1 0 20) ≤ v6 then some (.inr m) else (zx_ix 7 v6).bind fun j22 => (zx_ix 7 v6).bind fun j23 => zx_let (zx_u1 m 9 j23 ((m.1 9 j22) + (zx_rem v3 100))) fun m24 => zx_let (v6 + 1) fun a25 => some (.inl (a25, m24))
theorem eb_M_sticks_l90 (v2 : Int32) (v3 : Int32) (v4 : Int32) (v5 : Int32) (v6 : Int32) (m : zx_M) {d : Nat} {out : Option Value × zx_H} {y : (Int32 × zx_M) ⊕ (zx_M)} (hf : b_M_sticks_l90 v2 v3 v4 v5 v6 m = some y) (hK : kl_M_sticks_l90 v2 v3 v4 v5 d out y) : zx_Ev (d + 70) 218 90 [some (.ref 0), none, some (.int v2), some (.int v3), some (.int v4), some (.int v5), some (.int v6)] [] (zx_SM, m) out := by
  unfold b_M_sticks_l90 at hf
  refine zx_ev_blk zk_218 3 (pc1 := 96) (L1 := [some (.ref 0), none, some (.int v2), some (.int v3), some (.int v4), some (.int v5), some (.int v6)]) (st1 := [.int (m.1 0 20), .int v6]) (h1 := (zx_SM, m)) rfl ?_
  by_cases c21 : (m.1 0 20) ≤ v6
  · rw [if_pos c21] at hf
    refine zx_ev_ift zk_218 (P := (m.1 0 20) ≤ v6) (t := 119) (f := 99) rfl rfl c21 ?_
    obtain rfl := Option.some.inj hf
    exact zx_ev_sub (L := [some (.ref 0), none, some (.int v2), none, some (.int v4), some (.int v5), none]) (⟨rfl, ⟨rfl, ⟨trivial, ⟨rfl, ⟨rfl, ⟨trivial, trivial⟩⟩⟩⟩⟩⟩) hK
  · rw [if_neg c21] at hf
    refine zx_ev_ifn zk_218 (P := (m.1 0 20) ≤ v6) (t := 119) (f := 99) rfl rfl c21 ?_
    refine zx_ev_blk zk_218 4 (pc1 := 106) (L1 := [some (.ref 0), none, some (.int v2), some (.int v3), some (.int v4), some (.int v5), some (.int v6)]) (st1 := [.int v6, .ref 9, .int v6, .ref 9]) (h1 := (zx_SM, m)) rfl ?_
    obtain ⟨j22, hj22, hf⟩ := zx_bind_eq hf
    refine zx_ev_step zk_218 rfl (st_iald rfl rfl hj22) ?_
    refine zx_ev_blk zk_218 2 (pc1 := 110) (L1 := [some (.ref 0), none, some (.int v2), some (.int v3), some (.int v4), some (.int v5), some (.int v6)]) (st1 := [.int 100, .int v3, .int (m.1 9 j22), .int v6, .ref 9]) (h1 := (zx_SM, m)) rfl ?_
    refine zx_ev_step zk_218 rfl (st_irem (by decide)) ?_
    refine zx_ev_blk zk_218 1 (pc1 := 112) (L1 := [some (.ref 0), none, some (.int v2), some (.int v3), some (.int v4), some (.int v5), some (.int v6)]) (st1 := [.int ((m.1 9 j22) + (zx_rem v3 100)), .int v6, .ref 9]) (h1 := (zx_SM, m)) rfl ?_
    obtain ⟨j23, hj23, hf⟩ := zx_bind_eq hf
    refine zx_ev_step zk_218 rfl (st_iast rfl hj23) ?_
    obtain ⟨m24, hm24, hf⟩ := zx_let_eq hf
    rw [hm24]
    obtain ⟨a25, ha25, hf⟩ := zx_let_eq hf
    refine zx_ev_blk zk_218 2 (pc1 := 90) (L1 := [some (.ref 0), none, some (.int v2), some (.int v3), some (.int v4), some (.int v5), some (.int a25)]) (st1 := []) (h1 := (zx_SM, m24)) (by subst ha25; rfl) ?_
    obtain rfl := Option.some.inj hf
    exact zx_ev_sub (L := [some (.ref 0), none, some (.int v2), some (.int v3), some (.int v4), some (.int v5), some (.int a25)]) (⟨rfl, ⟨rfl, ⟨rfl, ⟨rfl, ⟨rfl, ⟨rfl, trivial⟩⟩⟩⟩⟩⟩) hK
def l_M_sticks_l90 (v2 : Int32) (v3 : Int32) (v4 : Int32) (v5 : Int32) (s0 : Int32 × zx_M) : Option (zx_M) := zx_lp zx_N (fun s : Int32 × zx_M => b_M_sticks_l90 v2 v3 v4 v5 s.1 s.2) s0
theorem el_M_sticks_l90 (v2 : Int32) (v3 : Int32) (v4 : Int32) (v5 : Int32) {d : Nat} {out : Option Value × zx_H} : ∀ (n : Nat) (s : Int32 × zx_M) (x : zx_M), zx_lp n (fun s : Int32 × zx_M => b_M_sticks_l90 v2 v3 v4 v5 s.1 s.2) s = some x → kx_M_sticks_l90 v2 v3 v4 v5 d out x → zx_Ev (d + 70) 218 90 [some (.ref 0), none, some (.int v2), some (.int v3), some (.int v4), some (.int v5), some (.int s.1)] [] (zx_SM, s.2) out := by
  intro n
  induction n with
  | zero => intro s x hl _; simp [zx_lp] at hl
  | succ n ih =>
    intro s x hl hx
    unfold zx_lp at hl
    cases hb : b_M_sticks_l90 v2 v3 v4 v5 s.1 s.2 with
    | none => simp only [hb] at hl; cases hl
    | some z =>
      simp only [hb] at hl
      cases z with
      | inl s1 => exact eb_M_sticks_l90 v2 v3 v4 v5 s.1 s.2 hb (ih s1 x hl hx)
      | inr t =>
        simp only [Option.some.injEq] at hl
        subst hl
        exact eb_M_sticks_l90 v2 v3 v4 v5 s.1 s.2 hb hx
def f_M_sticks (v1 : Int32) (v2 : Int32) (v3 : Int32) (v4 : Int32) (m : zx_M) : Option (Int32 × zx_M) := (f_M_rowIs v1 0 m).bind fun r2 => if r2 = (-1) then some ((-1), m) else (f_M_isYc v2 m).bind fun r5 => if r5 = 0 then some ((-1), m) else if v3 < 0 then some ((-1), m) else (f_M_isCount (zx_rem v3 100) m).bind fun r9 => if r9 = 0 then some ((-1), m) else (f_M_within (Int32.toInt64 v4) 0 1 m).bind fun r12 => if ¬ r12 = 0 then (f_M_rowIs v1 0 m).bind fun r15 => if 0 ≤ r15 then (f_M_takesOrder v1 (zx_rem v2 100) m).bind fun m18 => zx_let (v3 / 100) fun a19 => if a19 < (m18.1 0 20) then (l_M_sticks_l90 v2 v3 v4 a19 (a19, m18)).bind fun x26 => zx_let x26 fun m27 => (f_M_spotOf v2 m27).bind fun r29 => (f_M_goodFrom r29 m27).bind fun (r31, m32) => if ¬ v4 = 0 then (f_M_counts (zx_rem v2 100) m32).bind fun m35 => (f_M_leavesOut a19 m35).bind fun m37 => (f_M_spotOf v2 m37).bind fun r39 => (f_M_goodFrom r39 m37).bind fun (r41, m42) => if r41 ≤ r31 then some (0, m42) else some (1, m42) else some (r31, m32) else some ((-1), m18) else (f_M_rowIs v1 0 m).bind fun r45 => some (r45, m) else some ((-1), m)
theorem s_M_sticks (v1 : Int32) (v2 : Int32) (v3 : Int32) (v4 : Int32) (m : zx_M) {d : Nat} {y : (Int32 × zx_M)} (hf : f_M_sticks v1 v2 v3 v4 m = some y) : zx_Ev (d + 70) 218 0 [some (.ref 0), some (.int v1), some (.int v2), some (.int v3), some (.int v4), none, none] [] (zx_SM, m) (some (.int y.1), (zx_SM, y.2)) := by
  unfold f_M_sticks at hf
  refine zx_ev_blk zk_218 3 (pc1 := 3) (L1 := [some (.ref 0), some (.int v1), some (.int v2), some (.int v3), some (.int v4), none, none]) (st1 := [.int 0, .int v1, .ref 0]) (h1 := (zx_SM, m)) rfl ?_
  obtain ⟨r2, hv1, hf⟩ := zx_bind_eq hf
  refine zx_ev_call (d := d + 69) zk_218 (v := some (.int r2)) (h1 := (zx_SM, m)) rfl rfl zt_198 rfl zx_SMn rfl rfl (s_M_rowIs _ _ _ (d := d + 67) hv1) ?_
  refine zx_ev_blk zk_218 1 (pc1 := 7) (L1 := [some (.ref 0), some (.int v1), some (.int v2), some (.int v3), some (.int v4), none, none]) (st1 := [.int (-1), .int r2]) (h1 := (zx_SM, m)) rfl ?_
  by_cases c3 : r2 = (-1)
  · rw [if_pos c3] at hf
    refine zx_ev_ift zk_218 (P := r2 = (-1)) (t := 42) (f := 10) rfl rfl c3 ?_
    refine zx_ev_blk zk_218 1 (pc1 := 43) (L1 := [some (.ref 0), some (.int v1), some (.int v2), some (.int v3), some (.int v4), none, none]) (st1 := [.int (-1)]) (h1 := (zx_SM, m)) rfl ?_
    obtain rfl := Option.some.inj hf
    exact zx_ev_ret zk_218 rfl rfl
  · rw [if_neg c3] at hf
    refine zx_ev_ifn zk_218 (P := r2 = (-1)) (t := 42) (f := 10) rfl rfl c3 ?_
    refine zx_ev_blk zk_218 1 (pc1 := 11) (L1 := [some (.ref 0), some (.int v1), some (.int v2), some (.int v3), some (.int v4), none, none]) (st1 := [.int v2]) (h1 := (zx_SM, m)) rfl ?_
    obtain ⟨r5, hv4, hf⟩ := zx_bind_eq hf
    refine zx_ev_call (d := d + 69) zk_218 (v := some (.int r5)) (h1 := (zx_SM, m)) rfl rfl zt_203 rfl zx_SMn rfl rfl (s_M_isYc _ _ (d := d + 67) hv4) ?_
    by_cases c6 : r5 = 0
    · rw [if_pos c6] at hf
      refine zx_ev_ift zk_218 (P := r5 = 0) (t := 42) (f := 17) rfl rfl c6 ?_
      refine zx_ev_blk zk_218 1 (pc1 := 43) (L1 := [some (.ref 0), some (.int v1), some (.int v2), some (.int v3), some (.int v4), none, none]) (st1 := [.int (-1)]) (h1 := (zx_SM, m)) rfl ?_
      obtain rfl := Option.some.inj hf
      exact zx_ev_ret zk_218 rfl rfl
    · rw [if_neg c6] at hf
      refine zx_ev_ifn zk_218 (P := r5 = 0) (t := 42) (f := 17) rfl rfl c6 ?_
      refine zx_ev_blk zk_218 1 (pc1 := 18) (L1 := [some (.ref 0), some (.int v1), some (.int v2), some (.int v3), some (.int v4), none, none]) (st1 := [.int v3]) (h1 := (zx_SM, m)) rfl ?_
      by_cases c7 : v3 < 0
      · rw [if_pos c7] at hf
        refine zx_ev_ift zk_218 (P := v3 < 0) (t := 42) (f := 21) rfl rfl c7 ?_
        refine zx_ev_blk zk_218 1 (pc1 := 43) (L1 := [some (.ref 0), some (.int v1), some (.int v2), some (.int v3), some (.int v4), none, none]) (st1 := [.int (-1)]) (h1 := (zx_SM, m)) rfl ?_
        obtain rfl := Option.some.inj hf
        exact zx_ev_ret zk_218 rfl rfl
      · rw [if_neg c7] at hf
        refine zx_ev_ifn zk_218 (P := v3 < 0) (t := 42) (f := 21) rfl rfl c7 ?_
        refine zx_ev_blk zk_218 2 (pc1 := 24) (L1 := [some (.ref 0), some (.int v1), some (.int v2), some (.int v3), some (.int v4), none, none]) (st1 := [.int 100, .int v3]) (h1 := (zx_SM, m)) rfl ?_
        refine zx_ev_step zk_218 rfl (st_irem (by decide)) ?_
        obtain ⟨r9, hv8, hf⟩ := zx_bind_eq hf
        refine zx_ev_call (d := d + 69) zk_218 (v := some (.int r9)) (h1 := (zx_SM, m)) rfl rfl zt_202 rfl zx_SMn rfl rfl (s_M_isCount _ _ (d := d + 68) hv8) ?_
        by_cases c10 : r9 = 0
        · rw [if_pos c10] at hf
          refine zx_ev_ift zk_218 (P := r9 = 0) (t := 42) (f := 31) rfl rfl c10 ?_
          refine zx_ev_blk zk_218 1 (pc1 := 43) (L1 := [some (.ref 0), some (.int v1), some (.int v2), some (.int v3), some (.int v4), none, none]) (st1 := [.int (-1)]) (h1 := (zx_SM, m)) rfl ?_
          obtain rfl := Option.some.inj hf
          exact zx_ev_ret zk_218 rfl rfl
        · rw [if_neg c10] at hf
          refine zx_ev_ifn zk_218 (P := r9 = 0) (t := 42) (f := 31) rfl rfl c10 ?_
          refine zx_ev_blk zk_218 4 (pc1 := 36) (L1 := [some (.ref 0), some (.int v1), some (.int v2), some (.int v3), some (.int v4), none, none]) (st1 := [.long 1, .long 0, .long (Int32.toInt64 v4)]) (h1 := (zx_SM, m)) rfl ?_
          obtain ⟨r12, hv11, hf⟩ := zx_bind_eq hf
          refine zx_ev_call (d := d + 69) zk_218 (v := some (.int r12)) (h1 := (zx_SM, m)) rfl rfl zt_157 rfl zx_SMn rfl rfl (s_M_within _ _ _ _ (d := d + 69) hv11) ?_
          by_cases c13 : ¬ r12 = 0
          · rw [if_pos c13] at hf
            refine zx_ev_ift zk_218 (P := ¬ r12 = 0) (t := 44) (f := 42) rfl rfl c13 ?_
            refine zx_ev_blk zk_218 3 (pc1 := 47) (L1 := [some (.ref 0), some (.int v1), some (.int v2), some (.int v3), some (.int v4), none, none]) (st1 := [.int 0, .int v1, .ref 0]) (h1 := (zx_SM, m)) rfl ?_
            obtain ⟨r15, hv14, hf⟩ := zx_bind_eq hf
            refine zx_ev_call (d := d + 69) zk_218 (v := some (.int r15)) (h1 := (zx_SM, m)) rfl rfl zt_198 rfl zx_SMn rfl rfl (s_M_rowIs _ _ _ (d := d + 67) hv14) ?_
            by_cases c16 : 0 ≤ r15
            · rw [if_pos c16] at hf
              refine zx_ev_ift zk_218 (P := 0 ≤ r15) (t := 60) (f := 53) rfl rfl c16 ?_
              refine zx_ev_blk zk_218 4 (pc1 := 65) (L1 := [some (.ref 0), some (.int v1), some (.int v2), some (.int v3), some (.int v4), none, none]) (st1 := [.int 100, .int v2, .int v1, .ref 0]) (h1 := (zx_SM, m)) rfl ?_
              refine zx_ev_step zk_218 rfl (st_irem (by decide)) ?_
              obtain ⟨m18, hv17, hf⟩ := zx_bind_eq hf
              refine zx_ev_call (d := d + 69) zk_218 (v := none) (h1 := (zx_SM, m18)) rfl rfl zt_200 rfl zx_SMn rfl rfl (s_M_takesOrder _ _ _ (d := d + 0) hv17) ?_
              refine zx_ev_blk zk_218 2 (pc1 := 72) (L1 := [some (.ref 0), some (.int v1), some (.int v2), some (.int v3), some (.int v4), none, none]) (st1 := [.int 100, .int v3]) (h1 := (zx_SM, m18)) rfl ?_
              refine zx_ev_step zk_218 rfl (st_idiv (by decide)) ?_
              obtain ⟨a19, ha19, hf⟩ := zx_let_eq hf
              refine zx_ev_blk zk_218 4 (pc1 := 81) (L1 := [some (.ref 0), some (.int v1), some (.int v2), some (.int v3), some (.int v4), some (.int a19), none]) (st1 := [.int (m18.1 0 20), .int a19]) (h1 := (zx_SM, m18)) (by subst ha19; rfl) ?_
              by_cases c20 : a19 < (m18.1 0 20)
              · rw [if_pos c20] at hf
                refine zx_ev_ift zk_218 (P := a19 < (m18.1 0 20)) (t := 86) (f := 84) rfl rfl c20 ?_
                refine zx_ev_blk zk_218 2 (pc1 := 90) (L1 := [some (.ref 0), some (.int v1), some (.int v2), some (.int v3), some (.int v4), some (.int a19), some (.int a19)]) (st1 := []) (h1 := (zx_SM, m18)) rfl ?_
                obtain ⟨x26, hx26, hf⟩ := zx_bind_eq hf
                refine zx_ev_sub (L := [some (.ref 0), none, some (.int v2), some (.int v3), some (.int v4), some (.int a19), some (.int a19)]) (⟨rfl, ⟨trivial, ⟨rfl, ⟨rfl, ⟨rfl, ⟨rfl, ⟨rfl, trivial⟩⟩⟩⟩⟩⟩⟩) (el_M_sticks_l90 v2 v3 v4 a19 zx_N (a19, m18) x26 hx26 ?_)
                obtain ⟨m27, hm27, hf⟩ := zx_let_eq hf
                subst hm27
                show zx_Ev (d + 70) 218 119 [some (.ref 0), none, some (.int v2), none, some (.int v4), some (.int a19), none] [] (zx_SM, x26) _
                refine zx_ev_blk zk_218 2 (pc1 := 121) (L1 := [some (.ref 0), none, some (.int v2), none, some (.int v4), some (.int a19), none]) (st1 := [.int v2, .ref 0]) (h1 := (zx_SM, x26)) rfl ?_
                obtain ⟨r29, hv28, hf⟩ := zx_bind_eq hf
                refine zx_ev_call (d := d + 69) zk_218 (v := some (.int r29)) (h1 := (zx_SM, x26)) rfl rfl zt_204 rfl zx_SMn rfl rfl (s_M_spotOf _ _ (d := d + 69) hv28) ?_
                obtain ⟨⟨r31, m32⟩, hv30, hf⟩ := zx_bind_eq hf
                dsimp only at hf
                refine zx_ev_call (d := d + 69) zk_218 (v := some (.int r31)) (h1 := (zx_SM, m32)) rfl rfl zt_197 rfl zx_SMn rfl rfl (s_M_goodFrom _ _ (d := d + 66) hv30) ?_
                refine zx_ev_blk zk_218 2 (pc1 := 131) (L1 := [some (.ref 0), none, some (.int v2), none, some (.int v4), some (.int a19), some (.int r31)]) (st1 := [.int v4]) (h1 := (zx_SM, m32)) rfl ?_
                by_cases c33 : ¬ v4 = 0
                · rw [if_pos c33] at hf
                  refine zx_ev_ift zk_218 (P := ¬ v4 = 0) (t := 137) (f := 134) rfl rfl c33 ?_
                  refine zx_ev_blk zk_218 3 (pc1 := 141) (L1 := [some (.ref 0), none, some (.int v2), none, some (.int v4), some (.int a19), some (.int r31)]) (st1 := [.int 100, .int v2, .ref 0]) (h1 := (zx_SM, m32)) rfl ?_
                  refine zx_ev_step zk_218 rfl (st_irem (by decide)) ?_
                  obtain ⟨m35, hv34, hf⟩ := zx_bind_eq hf
                  refine zx_ev_call (d := d + 69) zk_218 (v := none) (h1 := (zx_SM, m35)) rfl rfl zt_201 rfl zx_SMn rfl rfl (s_M_counts _ _ (d := d + 69) hv34) ?_
                  refine zx_ev_blk zk_218 2 (pc1 := 148) (L1 := [some (.ref 0), none, some (.int v2), none, some (.int v4), some (.int a19), some (.int r31)]) (st1 := [.int a19, .ref 0]) (h1 := (zx_SM, m35)) rfl ?_
                  obtain ⟨m37, hv36, hf⟩ := zx_bind_eq hf
                  refine zx_ev_call (d := d + 69) zk_218 (v := none) (h1 := (zx_SM, m37)) rfl rfl zt_217 rfl zx_SMn rfl rfl (s_M_leavesOut _ _ (d := d + 69) hv36) ?_
                  refine zx_ev_blk zk_218 2 (pc1 := 153) (L1 := [some (.ref 0), none, some (.int v2), none, some (.int v4), some (.int a19), some (.int r31)]) (st1 := [.int v2, .ref 0]) (h1 := (zx_SM, m37)) rfl ?_
                  obtain ⟨r39, hv38, hf⟩ := zx_bind_eq hf
                  refine zx_ev_call (d := d + 69) zk_218 (v := some (.int r39)) (h1 := (zx_SM, m37)) rfl rfl zt_204 rfl zx_SMn rfl rfl (s_M_spotOf _ _ (d := d + 69) hv38) ?_
                  obtain ⟨⟨r41, m42⟩, hv40, hf⟩ := zx_bind_eq hf
                  dsimp only at hf
                  refine zx_ev_call (d := d + 69) zk_218 (v := some (.int r41)) (h1 := (zx_SM, m42)) rfl rfl zt_197 rfl zx_SMn rfl rfl (s_M_goodFrom _ _ (d := d + 66) hv40) ?_
                  refine zx_ev_blk zk_218 1 (pc1 := 161) (L1 := [some (.ref 0), none, some (.int v2), none, some (.int v4), some (.int a19), some (.int r31)]) (st1 := [.int r31, .int r41]) (h1 := (zx_SM, m42)) rfl ?_
                  by_cases c43 : r41 ≤ r31
                  · rw [if_pos c43] at hf
                    refine zx_ev_ift zk_218 (P := r41 ≤ r31) (t := 168) (f := 164) rfl rfl c43 ?_
                    refine zx_ev_blk zk_218 1 (pc1 := 169) (L1 := [some (.ref 0), none, some (.int v2), none, some (.int v4), some (.int a19), some (.int r31)]) (st1 := [.int 0]) (h1 := (zx_SM, m42)) rfl ?_
                    obtain rfl := Option.some.inj hf
                    exact zx_ev_ret zk_218 rfl rfl
                  · rw [if_neg c43] at hf
                    refine zx_ev_ifn zk_218 (P := r41 ≤ r31) (t := 168) (f := 164) rfl rfl c43 ?_
                    refine zx_ev_blk zk_218 2 (pc1 := 169) (L1 := [some (.ref 0), none, some (.int v2), none, some (.int v4), some (.int a19), some (.int r31)]) (st1 := [.int 1]) (h1 := (zx_SM, m42)) rfl ?_
                    obtain rfl := Option.some.inj hf
                    exact zx_ev_ret zk_218 rfl rfl
                · rw [if_neg c33] at hf
                  refine zx_ev_ifn zk_218 (P := ¬ v4 = 0) (t := 137) (f := 134) rfl rfl c33 ?_
                  refine zx_ev_blk zk_218 1 (pc1 := 136) (L1 := [some (.ref 0), none, some (.int v2), none, some (.int v4), some (.int a19), some (.int r31)]) (st1 := [.int r31]) (h1 := (zx_SM, m32)) rfl ?_
                  obtain rfl := Option.some.inj hf
                  exact zx_ev_ret zk_218 rfl rfl
              · rw [if_neg c20] at hf
                refine zx_ev_ifn zk_218 (P := a19 < (m18.1 0 20)) (t := 86) (f := 84) rfl rfl c20 ?_
                refine zx_ev_blk zk_218 1 (pc1 := 85) (L1 := [some (.ref 0), some (.int v1), some (.int v2), some (.int v3), some (.int v4), some (.int a19), none]) (st1 := [.int (-1)]) (h1 := (zx_SM, m18)) rfl ?_
                obtain rfl := Option.some.inj hf
                exact zx_ev_ret zk_218 rfl rfl
            · rw [if_neg c16] at hf
              refine zx_ev_ifn zk_218 (P := 0 ≤ r15) (t := 60) (f := 53) rfl rfl c16 ?_
              refine zx_ev_blk zk_218 3 (pc1 := 56) (L1 := [some (.ref 0), some (.int v1), some (.int v2), some (.int v3), some (.int v4), none, none]) (st1 := [.int 0, .int v1, .ref 0]) (h1 := (zx_SM, m)) rfl ?_
              obtain ⟨r45, hv44, hf⟩ := zx_bind_eq hf
              refine zx_ev_call (d := d + 69) zk_218 (v := some (.int r45)) (h1 := (zx_SM, m)) rfl rfl zt_198 rfl zx_SMn rfl rfl (s_M_rowIs _ _ _ (d := d + 67) hv44) ?_
              obtain rfl := Option.some.inj hf
              exact zx_ev_ret zk_218 rfl rfl
          · rw [if_neg c13] at hf
            refine zx_ev_ifn zk_218 (P := ¬ r12 = 0) (t := 44) (f := 42) rfl rfl c13 ?_
            refine zx_ev_blk zk_218 1 (pc1 := 43) (L1 := [some (.ref 0), some (.int v1), some (.int v2), some (.int v3), some (.int v4), none, none]) (st1 := [.int (-1)]) (h1 := (zx_SM, m)) rfl ?_
            obtain rfl := Option.some.inj hf
            exact zx_ev_ret zk_218 rfl rfl
def kx_M_sure_l38 (v2 : Int32) (m : zx_M) (d : Nat) (out : Option Value × zx_H) : Int64 × Int64 → Prop
  | (x3, x5) => zx_Ev (d + 70) 221 80 [some (.ref 0), none, some (.int v2), some (.long x3), none, some (.long x5), none, none] [] (zx_SM, m) out
def kl_M_sure_l38 (v2 : Int32) (m : zx_M) (d : Nat) (out : Option Value × zx_H) : (Int64 × Int64 × Int32) ⊕ (Int64 × Int64) → Prop
  | .inl (v3, v5, v7) => zx_Ev (d + 70) 221 38 [some (.ref 0), none, some (.int v2), some (.long v3), none, some (.long v5), none, some (.int v7)] [] (zx_SM, m) out
  | .inr x => kx_M_sure_l38 v2 m d out x
def b_M_sure_l38 (v2 : Int32) (v3 : Int64) (v5 : Int64) (v7 : Int32) (m : zx_M) : Option ((Int64 × Int64 × Int32) ⊕ (Int64 × Int64)) := if (m.1 0 20) ≤ v7 then some (.inr (v3, v5)) else (zx_ix 7 v7).bind fun j10 => (f_M_ofJumper (m.1 8 j10) 3 m).bind fun r12 => zx_let (v3 * (Int32.toInt64 (12 - r12))) fun a13 => zx_let (v5 * 12) fun a14 => zx_let (v7 + 1) fun a15 => some (.inl (a13, a14, a15))
theorem eb_M_sure_l38 (v2 : Int32) (v3 : Int64) (v5 : Int64) (v7 : Int32) (m : zx_M) {d : Nat} {out : Option Value × zx_H} {y : (Int64 × Int64 × Int32) ⊕ (Int64 × Int64)} (hf : b_M_sure_l38 v2 v3 v5 v7 m = some y) (hK : kl_M_sure_l38 v2 m d out y) : zx_Ev (d + 70) 221 38 [some (.ref 0), none, some (.int v2), some (.long v3), none, some (.long v5), none, some (.int v7)] [] (zx_SM, m) out := by
  unfold b_M_sure_l38 at hf
  refine zx_ev_blk zk_221 3 (pc1 := 44) (L1 := [some (.ref 0), none, some (.int v2), some (.long v3), none, some (.long v5), none, some (.int v7)]) (st1 := [.int (m.1 0 20), .int v7]) (h1 := (zx_SM, m)) rfl ?_
  by_cases c9 : (m.1 0 20) ≤ v7
  · rw [if_pos c9] at hf
    refine zx_ev_ift zk_221 (P := (m.1 0 20) ≤ v7) (t := 80) (f := 47) rfl rfl c9 ?_
    obtain rfl := Option.some.inj hf
    exact zx_ev_sub (L := [some (.ref 0), none, some (.int v2), some (.long v3), none, some (.long v5), none, none]) (⟨rfl, ⟨rfl, ⟨rfl, ⟨rfl, ⟨trivial, trivial⟩⟩⟩⟩⟩) hK
  · rw [if_neg c9] at hf
    refine zx_ev_ifn zk_221 (P := (m.1 0 20) ≤ v7) (t := 80) (f := 47) rfl rfl c9 ?_
    refine zx_ev_blk zk_221 6 (pc1 := 57) (L1 := [some (.ref 0), none, some (.int v2), some (.long v3), none, some (.long v5), none, some (.int v7)]) (st1 := [.int v7, .ref 8, .ref 0, .int 12, .long v3]) (h1 := (zx_SM, m)) rfl ?_
    obtain ⟨j10, hj10, hf⟩ := zx_bind_eq hf
    refine zx_ev_step zk_221 rfl (st_iald rfl rfl hj10) ?_
    refine zx_ev_blk zk_221 1 (pc1 := 59) (L1 := [some (.ref 0), none, some (.int v2), some (.long v3), none, some (.long v5), none, some (.int v7)]) (st1 := [.int 3, .int (m.1 8 j10), .ref 0, .int 12, .long v3]) (h1 := (zx_SM, m)) rfl ?_
    obtain ⟨r12, hv11, hf⟩ := zx_bind_eq hf
    refine zx_ev_call (d := d + 69) zk_221 (v := some (.int r12)) (h1 := (zx_SM, m)) rfl rfl zt_165 rfl zx_SMn rfl rfl (s_M_ofJumper _ _ _ (d := d + 69) hv11) ?_
    obtain ⟨a13, ha13, hf⟩ := zx_let_eq hf
    obtain ⟨a14, ha14, hf⟩ := zx_let_eq hf
    obtain ⟨a15, ha15, hf⟩ := zx_let_eq hf
    refine zx_ev_blk zk_221 10 (pc1 := 38) (L1 := [some (.ref 0), none, some (.int v2), some (.long a13), none, some (.long a14), none, some (.int a15)]) (st1 := []) (h1 := (zx_SM, m)) (by subst ha13; subst ha14; subst ha15; rfl) ?_
    obtain rfl := Option.some.inj hf
    exact zx_ev_sub (L := [some (.ref 0), none, some (.int v2), some (.long a13), none, some (.long a14), none, some (.int a15)]) (⟨rfl, ⟨rfl, ⟨rfl, ⟨rfl, ⟨rfl, trivial⟩⟩⟩⟩⟩) hK
def l_M_sure_l38 (v2 : Int32) (m : zx_M) (s0 : Int64 × Int64 × Int32) : Option (Int64 × Int64) := zx_lp zx_N (fun s : Int64 × Int64 × Int32 => b_M_sure_l38 v2 s.1 s.2.1 s.2.2 m) s0
theorem el_M_sure_l38 (v2 : Int32) (m : zx_M) {d : Nat} {out : Option Value × zx_H} : ∀ (n : Nat) (s : Int64 × Int64 × Int32) (x : Int64 × Int64), zx_lp n (fun s : Int64 × Int64 × Int32 => b_M_sure_l38 v2 s.1 s.2.1 s.2.2 m) s = some x → kx_M_sure_l38 v2 m d out x → zx_Ev (d + 70) 221 38 [some (.ref 0), none, some (.int v2), some (.long s.1), none, some (.long s.2.1), none, some (.int s.2.2)] [] (zx_SM, m) out := by
  intro n
  induction n with
  | zero => intro s x hl _; simp [zx_lp] at hl
  | succ n ih =>
    intro s x hl hx
    unfold zx_lp at hl
    cases hb : b_M_sure_l38 v2 s.1 s.2.1 s.2.2 m with
    | none => simp only [hb] at hl; cases hl
    | some z =>
      simp only [hb] at hl
      cases z with
      | inl s1 => exact eb_M_sure_l38 v2 s.1 s.2.1 s.2.2 m hb (ih s1 x hl hx)
      | inr t =>
        simp only [Option.some.injEq] at hl
        subst hl
        exact eb_M_sure_l38 v2 s.1 s.2.1 s.2.2 m hb hx
def f_M_sure (v1 : Int32) (v2 : Int32) (m : zx_M) : Option (Int64 × zx_M) := (f_M_rowIs v1 0 m).bind fun r2 => if ¬ r2 = 1 then some ((-9223372036854775808), m) else (f_M_within (Int32.toInt64 v2) 0 1 m).bind fun r5 => if ¬ r5 = 0 then (f_M_takesOrder v1 1 m).bind fun m8 => (l_M_sure_l38 v2 m8 (1, 1, 0)).bind fun x16 => match x16 with | (w17, w18) => (f_M_partOf w17 w18 v2 m8).bind fun r20 => some (r20, m8) else some ((-9223372036854775808), m)
theorem s_M_sure (v1 : Int32) (v2 : Int32) (m : zx_M) {d : Nat} {y : (Int64 × zx_M)} (hf : f_M_sure v1 v2 m = some y) : zx_Ev (d + 70) 221 0 [some (.ref 0), some (.int v1), some (.int v2), none, none, none, none, none] [] (zx_SM, m) (some (.long y.1), (zx_SM, y.2)) := by
  unfold f_M_sure at hf
  refine zx_ev_blk zk_221 3 (pc1 := 3) (L1 := [some (.ref 0), some (.int v1), some (.int v2), none, none, none, none, none]) (st1 := [.int 0, .int v1, .ref 0]) (h1 := (zx_SM, m)) rfl ?_
  obtain ⟨r2, hv1, hf⟩ := zx_bind_eq hf
  refine zx_ev_call (d := d + 69) zk_221 (v := some (.int r2)) (h1 := (zx_SM, m)) rfl rfl zt_198 rfl zx_SMn rfl rfl (s_M_rowIs _ _ _ (d := d + 67) hv1) ?_
  refine zx_ev_blk zk_221 1 (pc1 := 7) (L1 := [some (.ref 0), some (.int v1), some (.int v2), none, none, none, none, none]) (st1 := [.int 1, .int r2]) (h1 := (zx_SM, m)) rfl ?_
  by_cases c3 : ¬ r2 = 1
  · rw [if_pos c3] at hf
    refine zx_ev_ift zk_221 (P := ¬ r2 = 1) (t := 20) (f := 10) rfl rfl c3 ?_
    refine zx_ev_blk zk_221 1 (pc1 := 23) (L1 := [some (.ref 0), some (.int v1), some (.int v2), none, none, none, none, none]) (st1 := [.long (-9223372036854775808)]) (h1 := (zx_SM, m)) rfl ?_
    obtain rfl := Option.some.inj hf
    exact zx_ev_ret zk_221 rfl rfl
  · rw [if_neg c3] at hf
    refine zx_ev_ifn zk_221 (P := ¬ r2 = 1) (t := 20) (f := 10) rfl rfl c3 ?_
    refine zx_ev_blk zk_221 4 (pc1 := 14) (L1 := [some (.ref 0), some (.int v1), some (.int v2), none, none, none, none, none]) (st1 := [.long 1, .long 0, .long (Int32.toInt64 v2)]) (h1 := (zx_SM, m)) rfl ?_
    obtain ⟨r5, hv4, hf⟩ := zx_bind_eq hf
    refine zx_ev_call (d := d + 69) zk_221 (v := some (.int r5)) (h1 := (zx_SM, m)) rfl rfl zt_157 rfl zx_SMn rfl rfl (s_M_within _ _ _ _ (d := d + 69) hv4) ?_
    by_cases c6 : ¬ r5 = 0
    · rw [if_pos c6] at hf
      refine zx_ev_ift zk_221 (P := ¬ r5 = 0) (t := 24) (f := 20) rfl rfl c6 ?_
      refine zx_ev_blk zk_221 3 (pc1 := 27) (L1 := [some (.ref 0), some (.int v1), some (.int v2), none, none, none, none, none]) (st1 := [.int 1, .int v1, .ref 0]) (h1 := (zx_SM, m)) rfl ?_
      obtain ⟨m8, hv7, hf⟩ := zx_bind_eq hf
      refine zx_ev_call (d := d + 69) zk_221 (v := none) (h1 := (zx_SM, m8)) rfl rfl zt_200 rfl zx_SMn rfl rfl (s_M_takesOrder _ _ _ (d := d + 0) hv7) ?_
      refine zx_ev_blk zk_221 6 (pc1 := 38) (L1 := [some (.ref 0), some (.int v1), some (.int v2), some (.long 1), none, some (.long 1), none, some (.int 0)]) (st1 := []) (h1 := (zx_SM, m8)) rfl ?_
      obtain ⟨x16, hx16, hf⟩ := zx_bind_eq hf
      refine zx_ev_sub (L := [some (.ref 0), none, some (.int v2), some (.long 1), none, some (.long 1), none, some (.int 0)]) (⟨rfl, ⟨trivial, ⟨rfl, ⟨rfl, ⟨rfl, ⟨rfl, trivial⟩⟩⟩⟩⟩⟩) (el_M_sure_l38 v2 m8 zx_N (1, 1, 0) x16 hx16 ?_)
      obtain ⟨w17, w18⟩ := x16
      dsimp only at hf
      show zx_Ev (d + 70) 221 80 [some (.ref 0), none, some (.int v2), some (.long w17), none, some (.long w18), none, none] [] (zx_SM, m8) _
      refine zx_ev_blk zk_221 3 (pc1 := 84) (L1 := [some (.ref 0), none, some (.int v2), some (.long w17), none, some (.long w18), none, none]) (st1 := [.int v2, .long w18, .long w17]) (h1 := (zx_SM, m8)) rfl ?_
      obtain ⟨r20, hv19, hf⟩ := zx_bind_eq hf
      refine zx_ev_call (d := d + 69) zk_221 (v := some (.long r20)) (h1 := (zx_SM, m8)) rfl rfl zt_220 rfl zx_SMn rfl rfl (s_M_partOf _ _ _ _ (d := d + 68) hv19) ?_
      obtain rfl := Option.some.inj hf
      exact zx_ev_ret zk_221 rfl rfl
    · rw [if_neg c6] at hf
      refine zx_ev_ifn zk_221 (P := ¬ r5 = 0) (t := 24) (f := 20) rfl rfl c6 ?_
      refine zx_ev_blk zk_221 1 (pc1 := 23) (L1 := [some (.ref 0), some (.int v1), some (.int v2), none, none, none, none, none]) (st1 := [.long (-9223372036854775808)]) (h1 := (zx_SM, m)) rfl ?_
      obtain rfl := Option.some.inj hf
      exact zx_ev_ret zk_221 rfl rfl
def f_M_kindOf (v1 : Int32) (m : zx_M) : Option Int32 := (zx_ix 50 v1).bind fun j1 => some (m.1 17 j1)
theorem s_M_kindOf (v1 : Int32) (m : zx_M) {d : Nat} {y : Int32} (hf : f_M_kindOf v1 m = some y) : zx_Ev (d) 240 0 [some (.ref 0), some (.int v1)] [] (zx_SM, m) (some (.int y), (zx_SM, m)) := by
  unfold f_M_kindOf at hf
  refine zx_ev_blk zk_240 3 (pc1 := 5) (L1 := [some (.ref 0), some (.int v1)]) (st1 := [.int v1, .ref 17]) (h1 := (zx_SM, m)) rfl ?_
  obtain ⟨j1, hj1, hf⟩ := zx_bind_eq hf
  refine zx_ev_step zk_240 rfl (st_iald rfl rfl hj1) ?_
  obtain rfl := Option.some.inj hf
  exact zx_ev_ret zk_240 rfl rfl
def f_M_above (v0 : Int32) (m : zx_M) : Option Int32 := if ¬ v0 = 3 then if ¬ v0 = 4 then if ¬ v0 = 5 then if ¬ v0 = 7 then some 0 else some 4 else some 3 else some 1 else some 2
theorem s_M_above (v0 : Int32) (m : zx_M) {d : Nat} {y : Int32} (hf : f_M_above v0 m = some y) : zx_Ev (d) 242 0 [some (.int v0)] [] (zx_SM, m) (some (.int y), (zx_SM, m)) := by
  unfold f_M_above at hf
  refine zx_ev_blk zk_242 2 (pc1 := 2) (L1 := [some (.int v0)]) (st1 := [.int 3, .int v0]) (h1 := (zx_SM, m)) rfl ?_
  by_cases c1 : ¬ v0 = 3
  · rw [if_pos c1] at hf
    refine zx_ev_ift zk_242 (P := ¬ v0 = 3) (t := 9) (f := 5) rfl rfl c1 ?_
    refine zx_ev_blk zk_242 2 (pc1 := 11) (L1 := [some (.int v0)]) (st1 := [.int 4, .int v0]) (h1 := (zx_SM, m)) rfl ?_
    by_cases c2 : ¬ v0 = 4
    · rw [if_pos c2] at hf
      refine zx_ev_ift zk_242 (P := ¬ v0 = 4) (t := 18) (f := 14) rfl rfl c2 ?_
      refine zx_ev_blk zk_242 2 (pc1 := 20) (L1 := [some (.int v0)]) (st1 := [.int 5, .int v0]) (h1 := (zx_SM, m)) rfl ?_
      by_cases c3 : ¬ v0 = 5
      · rw [if_pos c3] at hf
        refine zx_ev_ift zk_242 (P := ¬ v0 = 5) (t := 27) (f := 23) rfl rfl c3 ?_
        refine zx_ev_blk zk_242 2 (pc1 := 30) (L1 := [some (.int v0)]) (st1 := [.int 7, .int v0]) (h1 := (zx_SM, m)) rfl ?_
        by_cases c4 : ¬ v0 = 7
        · rw [if_pos c4] at hf
          refine zx_ev_ift zk_242 (P := ¬ v0 = 7) (t := 37) (f := 33) rfl rfl c4 ?_
          refine zx_ev_blk zk_242 1 (pc1 := 38) (L1 := [some (.int v0)]) (st1 := [.int 0]) (h1 := (zx_SM, m)) rfl ?_
          obtain rfl := Option.some.inj hf
          exact zx_ev_ret zk_242 rfl rfl
        · rw [if_neg c4] at hf
          refine zx_ev_ifn zk_242 (P := ¬ v0 = 7) (t := 37) (f := 33) rfl rfl c4 ?_
          refine zx_ev_blk zk_242 2 (pc1 := 38) (L1 := [some (.int v0)]) (st1 := [.int 4]) (h1 := (zx_SM, m)) rfl ?_
          obtain rfl := Option.some.inj hf
          exact zx_ev_ret zk_242 rfl rfl
      · rw [if_neg c3] at hf
        refine zx_ev_ifn zk_242 (P := ¬ v0 = 5) (t := 27) (f := 23) rfl rfl c3 ?_
        refine zx_ev_blk zk_242 2 (pc1 := 38) (L1 := [some (.int v0)]) (st1 := [.int 3]) (h1 := (zx_SM, m)) rfl ?_
        obtain rfl := Option.some.inj hf
        exact zx_ev_ret zk_242 rfl rfl
    · rw [if_neg c2] at hf
      refine zx_ev_ifn zk_242 (P := ¬ v0 = 4) (t := 18) (f := 14) rfl rfl c2 ?_
      refine zx_ev_blk zk_242 2 (pc1 := 38) (L1 := [some (.int v0)]) (st1 := [.int 1]) (h1 := (zx_SM, m)) rfl ?_
      obtain rfl := Option.some.inj hf
      exact zx_ev_ret zk_242 rfl rfl
  · rw [if_neg c1] at hf
    refine zx_ev_ifn zk_242 (P := ¬ v0 = 3) (t := 9) (f := 5) rfl rfl c1 ?_
    refine zx_ev_blk zk_242 2 (pc1 := 38) (L1 := [some (.int v0)]) (st1 := [.int 2]) (h1 := (zx_SM, m)) rfl ?_
    obtain rfl := Option.some.inj hf
    exact zx_ev_ret zk_242 rfl rfl
def kx_M_taken_l58 (v1 : Int32) (v2 : Int32) (m : zx_M) (d : Nat) (out : Option Value × zx_H) : Int32 → Prop
  | x3 => zx_Ev (d + 2) 258 75 [some (.ref 0), some (.int v1), some (.int v2), some (.int x3)] [] (zx_SM, m) out
def kl_M_taken_l58 (v1 : Int32) (v2 : Int32) (m : zx_M) (d : Nat) (out : Option Value × zx_H) : (Int32) ⊕ (Int32) → Prop
  | .inl v3 => zx_Ev (d + 2) 258 58 [some (.ref 0), some (.int v1), some (.int v2), some (.int v3)] [] (zx_SM, m) out
  | .inr x => kx_M_taken_l58 v1 v2 m d out x
def b_M_taken_l58 (v1 : Int32) (v2 : Int32) (v3 : Int32) (m : zx_M) : Option ((Int32) ⊕ (Int32)) := if v3 = v2 then some (.inr v3) else if v3 ≤ 0 then some (.inr v3) else (f_M_above v3 m).bind fun r17 => some (.inl r17)
theorem eb_M_taken_l58 (v1 : Int32) (v2 : Int32) (v3 : Int32) (m : zx_M) {d : Nat} {out : Option Value × zx_H} {y : (Int32) ⊕ (Int32)} (hf : b_M_taken_l58 v1 v2 v3 m = some y) (hK : kl_M_taken_l58 v1 v2 m d out y) : zx_Ev (d + 2) 258 58 [some (.ref 0), some (.int v1), some (.int v2), some (.int v3)] [] (zx_SM, m) out := by
  unfold b_M_taken_l58 at hf
  refine zx_ev_blk zk_258 2 (pc1 := 60) (L1 := [some (.ref 0), some (.int v1), some (.int v2), some (.int v3)]) (st1 := [.int v2, .int v3]) (h1 := (zx_SM, m)) rfl ?_
  by_cases c14 : v3 = v2
  · rw [if_pos c14] at hf
    refine zx_ev_ift zk_258 (P := v3 = v2) (t := 75) (f := 63) rfl rfl c14 ?_
    obtain rfl := Option.some.inj hf
    exact zx_ev_sub (L := [some (.ref 0), some (.int v1), some (.int v2), some (.int v3)]) (⟨rfl, ⟨rfl, ⟨rfl, ⟨rfl, trivial⟩⟩⟩⟩) hK
  · rw [if_neg c14] at hf
    refine zx_ev_ifn zk_258 (P := v3 = v2) (t := 75) (f := 63) rfl rfl c14 ?_
    refine zx_ev_blk zk_258 1 (pc1 := 64) (L1 := [some (.ref 0), some (.int v1), some (.int v2), some (.int v3)]) (st1 := [.int v3]) (h1 := (zx_SM, m)) rfl ?_
    by_cases c15 : v3 ≤ 0
    · rw [if_pos c15] at hf
      refine zx_ev_ift zk_258 (P := v3 ≤ 0) (t := 75) (f := 67) rfl rfl c15 ?_
      obtain rfl := Option.some.inj hf
      exact zx_ev_sub (L := [some (.ref 0), some (.int v1), some (.int v2), some (.int v3)]) (⟨rfl, ⟨rfl, ⟨rfl, ⟨rfl, trivial⟩⟩⟩⟩) hK
    · rw [if_neg c15] at hf
      refine zx_ev_ifn zk_258 (P := v3 ≤ 0) (t := 75) (f := 67) rfl rfl c15 ?_
      refine zx_ev_blk zk_258 1 (pc1 := 68) (L1 := [some (.ref 0), some (.int v1), some (.int v2), some (.int v3)]) (st1 := [.int v3]) (h1 := (zx_SM, m)) rfl ?_
      obtain ⟨r17, hv16, hf⟩ := zx_bind_eq hf
      refine zx_ev_call (d := d + 1) zk_258 (v := some (.int r17)) (h1 := (zx_SM, m)) rfl rfl zt_242 rfl zx_SMn rfl rfl (s_M_above _ _ (d := d + 1) hv16) ?_
      refine zx_ev_blk zk_258 2 (pc1 := 58) (L1 := [some (.ref 0), some (.int v1), some (.int v2), some (.int r17)]) (st1 := []) (h1 := (zx_SM, m)) rfl ?_
      obtain rfl := Option.some.inj hf
      exact zx_ev_sub (L := [some (.ref 0), some (.int v1), some (.int v2), some (.int r17)]) (⟨rfl, ⟨rfl, ⟨rfl, ⟨rfl, trivial⟩⟩⟩⟩) hK
def l_M_taken_l58 (v1 : Int32) (v2 : Int32) (m : zx_M) (s0 : Int32) : Option (Int32) := zx_lp zx_N (fun s : Int32 => b_M_taken_l58 v1 v2 s m) s0
theorem el_M_taken_l58 (v1 : Int32) (v2 : Int32) (m : zx_M) {d : Nat} {out : Option Value × zx_H} : ∀ (n : Nat) (s : Int32) (x : Int32), zx_lp n (fun s : Int32 => b_M_taken_l58 v1 v2 s m) s = some x → kx_M_taken_l58 v1 v2 m d out x → zx_Ev (d + 2) 258 58 [some (.ref 0), some (.int v1), some (.int v2), some (.int s)] [] (zx_SM, m) out := by
  intro n
  induction n with
  | zero => intro s x hl _; simp [zx_lp] at hl
  | succ n ih =>
    intro s x hl hx
    unfold zx_lp at hl
    cases hb : b_M_taken_l58 v1 v2 s m with
    | none => simp only [hb] at hl; cases hl
    | some z =>
      simp only [hb] at hl
      cases z with
      | inl s1 => exact eb_M_taken_l58 v1 v2 s m hb (ih s1 x hl hx)
      | inr t =>
        simp only [Option.some.injEq] at hl
        subst hl
        exact eb_M_taken_l58 v1 v2 s m hb hx
def n_M_taken_n75 (v1 : Int32) (v2 : Int32) (v3 : Int32) (m : zx_M) : Option Int32 := if ¬ v3 = v2 then some (-12) else (zx_ix 6 v1).bind fun j21 => (f_M_kindOf (m.1 19 j21) m).bind fun r23 => some r23
theorem e_M_taken_n75 (v1 : Int32) (v2 : Int32) (v3 : Int32) (m : zx_M) {d : Nat} {y : Int32} (hf : n_M_taken_n75 v1 v2 v3 m = some y) : zx_Ev (d + 2) 258 75 [some (.ref 0), some (.int v1), some (.int v2), some (.int v3)] [] (zx_SM, m) (some (.int y), (zx_SM, m)) := by
  unfold n_M_taken_n75 at hf
  refine zx_ev_blk zk_258 2 (pc1 := 77) (L1 := [some (.ref 0), some (.int v1), some (.int v2), some (.int v3)]) (st1 := [.int v2, .int v3]) (h1 := (zx_SM, m)) rfl ?_
  by_cases c20 : ¬ v3 = v2
  · rw [if_pos c20] at hf
    refine zx_ev_ift zk_258 (P := ¬ v3 = v2) (t := 93) (f := 80) rfl rfl c20 ?_
    refine zx_ev_blk zk_258 1 (pc1 := 95) (L1 := [some (.ref 0), some (.int v1), some (.int v2), some (.int v3)]) (st1 := [.int (-12)]) (h1 := (zx_SM, m)) rfl ?_
    obtain rfl := Option.some.inj hf
    exact zx_ev_ret zk_258 rfl rfl
  · rw [if_neg c20] at hf
    refine zx_ev_ifn zk_258 (P := ¬ v3 = v2) (t := 93) (f := 80) rfl rfl c20 ?_
    refine zx_ev_blk zk_258 4 (pc1 := 86) (L1 := [some (.ref 0), some (.int v1), some (.int v2), some (.int v3)]) (st1 := [.int v1, .ref 19, .ref 0]) (h1 := (zx_SM, m)) rfl ?_
    obtain ⟨j21, hj21, hf⟩ := zx_bind_eq hf
    refine zx_ev_step zk_258 rfl (st_iald rfl rfl hj21) ?_
    obtain ⟨r23, hv22, hf⟩ := zx_bind_eq hf
    refine zx_ev_call (d := d + 1) zk_258 (v := some (.int r23)) (h1 := (zx_SM, m)) rfl rfl zt_240 rfl zx_SMn rfl rfl (s_M_kindOf _ _ (d := d + 1) hv22) ?_
    refine zx_ev_blk zk_258 1 (pc1 := 95) (L1 := [some (.ref 0), some (.int v1), some (.int v2), some (.int v3)]) (st1 := [.int r23]) (h1 := (zx_SM, m)) rfl ?_
    obtain rfl := Option.some.inj hf
    exact zx_ev_ret zk_258 rfl rfl
def f_M_taken (v1 : Int32) (v2 : Int32) (m : zx_M) : Option Int32 := (f_M_isShelf v1 m).bind fun r2 => if r2 = 0 then some (-1) else (f_M_within (Int32.toInt64 v2) 0 7 m).bind fun r5 => if ¬ r5 = 0 then (zx_ix 6 v1).bind fun j7 => if 0 ≤ (m.1 19 j7) then (zx_ix 6 v1).bind fun j9 => if (m.1 19 j9) < 50 then (zx_ix 6 v1).bind fun j11 => (f_M_kindOf (m.1 19 j11) m).bind fun r13 => (l_M_taken_l58 v1 v2 m r13).bind fun x18 => zx_let x18 fun w19 => n_M_taken_n75 v1 v2 w19 m else some (-12) else some (-11) else some (-1)
theorem s_M_taken (v1 : Int32) (v2 : Int32) (m : zx_M) {d : Nat} {y : Int32} (hf : f_M_taken v1 v2 m = some y) : zx_Ev (d + 2) 258 0 [some (.ref 0), some (.int v1), some (.int v2), none] [] (zx_SM, m) (some (.int y), (zx_SM, m)) := by
  unfold f_M_taken at hf
  refine zx_ev_blk zk_258 1 (pc1 := 1) (L1 := [some (.ref 0), some (.int v1), some (.int v2), none]) (st1 := [.int v1]) (h1 := (zx_SM, m)) rfl ?_
  obtain ⟨r2, hv1, hf⟩ := zx_bind_eq hf
  refine zx_ev_call (d := d + 1) zk_258 (v := some (.int r2)) (h1 := (zx_SM, m)) rfl rfl zt_250 rfl zx_SMn rfl rfl (s_M_isShelf _ _ (d := d + 0) hv1) ?_
  by_cases c3 : r2 = 0
  · rw [if_pos c3] at hf
    refine zx_ev_ift zk_258 (P := r2 = 0) (t := 19) (f := 7) rfl rfl c3 ?_
    refine zx_ev_blk zk_258 1 (pc1 := 20) (L1 := [some (.ref 0), some (.int v1), some (.int v2), none]) (st1 := [.int (-1)]) (h1 := (zx_SM, m)) rfl ?_
    obtain rfl := Option.some.inj hf
    exact zx_ev_ret zk_258 rfl rfl
  · rw [if_neg c3] at hf
    refine zx_ev_ifn zk_258 (P := r2 = 0) (t := 19) (f := 7) rfl rfl c3 ?_
    refine zx_ev_blk zk_258 4 (pc1 := 13) (L1 := [some (.ref 0), some (.int v1), some (.int v2), none]) (st1 := [.long 7, .long 0, .long (Int32.toInt64 v2)]) (h1 := (zx_SM, m)) rfl ?_
    obtain ⟨r5, hv4, hf⟩ := zx_bind_eq hf
    refine zx_ev_call (d := d + 1) zk_258 (v := some (.int r5)) (h1 := (zx_SM, m)) rfl rfl zt_157 rfl zx_SMn rfl rfl (s_M_within _ _ _ _ (d := d + 1) hv4) ?_
    by_cases c6 : ¬ r5 = 0
    · rw [if_pos c6] at hf
      refine zx_ev_ift zk_258 (P := ¬ r5 = 0) (t := 21) (f := 19) rfl rfl c6 ?_
      refine zx_ev_blk zk_258 3 (pc1 := 26) (L1 := [some (.ref 0), some (.int v1), some (.int v2), none]) (st1 := [.int v1, .ref 19]) (h1 := (zx_SM, m)) rfl ?_
      obtain ⟨j7, hj7, hf⟩ := zx_bind_eq hf
      refine zx_ev_step zk_258 rfl (st_iald rfl rfl hj7) ?_
      by_cases c8 : 0 ≤ (m.1 19 j7)
      · rw [if_pos c8] at hf
        refine zx_ev_ift zk_258 (P := 0 ≤ (m.1 19 j7)) (t := 33) (f := 30) rfl rfl c8 ?_
        refine zx_ev_blk zk_258 3 (pc1 := 38) (L1 := [some (.ref 0), some (.int v1), some (.int v2), none]) (st1 := [.int v1, .ref 19]) (h1 := (zx_SM, m)) rfl ?_
        obtain ⟨j9, hj9, hf⟩ := zx_bind_eq hf
        refine zx_ev_step zk_258 rfl (st_iald rfl rfl hj9) ?_
        refine zx_ev_blk zk_258 1 (pc1 := 41) (L1 := [some (.ref 0), some (.int v1), some (.int v2), none]) (st1 := [.int 50, .int (m.1 19 j9)]) (h1 := (zx_SM, m)) rfl ?_
        by_cases c10 : (m.1 19 j9) < 50
        · rw [if_pos c10] at hf
          refine zx_ev_ift zk_258 (P := (m.1 19 j9) < 50) (t := 47) (f := 44) rfl rfl c10 ?_
          refine zx_ev_blk zk_258 4 (pc1 := 53) (L1 := [some (.ref 0), some (.int v1), some (.int v2), none]) (st1 := [.int v1, .ref 19, .ref 0]) (h1 := (zx_SM, m)) rfl ?_
          obtain ⟨j11, hj11, hf⟩ := zx_bind_eq hf
          refine zx_ev_step zk_258 rfl (st_iald rfl rfl hj11) ?_
          obtain ⟨r13, hv12, hf⟩ := zx_bind_eq hf
          refine zx_ev_call (d := d + 1) zk_258 (v := some (.int r13)) (h1 := (zx_SM, m)) rfl rfl zt_240 rfl zx_SMn rfl rfl (s_M_kindOf _ _ (d := d + 1) hv12) ?_
          refine zx_ev_blk zk_258 1 (pc1 := 58) (L1 := [some (.ref 0), some (.int v1), some (.int v2), some (.int r13)]) (st1 := []) (h1 := (zx_SM, m)) rfl ?_
          obtain ⟨x18, hx18, hf⟩ := zx_bind_eq hf
          refine zx_ev_sub (L := [some (.ref 0), some (.int v1), some (.int v2), some (.int r13)]) (⟨rfl, ⟨rfl, ⟨rfl, ⟨rfl, trivial⟩⟩⟩⟩) (el_M_taken_l58 v1 v2 m zx_N r13 x18 hx18 ?_)
          obtain ⟨w19, hw19, hf⟩ := zx_let_eq hf
          subst hw19
          show zx_Ev (d + 2) 258 75 [some (.ref 0), some (.int v1), some (.int v2), some (.int x18)] [] (zx_SM, m) _
          exact zx_ev_sub (L := [some (.ref 0), some (.int v1), some (.int v2), some (.int x18)]) (⟨rfl, ⟨rfl, ⟨rfl, ⟨rfl, trivial⟩⟩⟩⟩) (e_M_taken_n75 v1 v2 x18 m hf)
        · rw [if_neg c10] at hf
          refine zx_ev_ifn zk_258 (P := (m.1 19 j9) < 50) (t := 47) (f := 44) rfl rfl c10 ?_
          refine zx_ev_blk zk_258 1 (pc1 := 46) (L1 := [some (.ref 0), some (.int v1), some (.int v2), none]) (st1 := [.int (-12)]) (h1 := (zx_SM, m)) rfl ?_
          obtain rfl := Option.some.inj hf
          exact zx_ev_ret zk_258 rfl rfl
      · rw [if_neg c8] at hf
        refine zx_ev_ifn zk_258 (P := 0 ≤ (m.1 19 j7)) (t := 33) (f := 30) rfl rfl c8 ?_
        refine zx_ev_blk zk_258 1 (pc1 := 32) (L1 := [some (.ref 0), some (.int v1), some (.int v2), none]) (st1 := [.int (-11)]) (h1 := (zx_SM, m)) rfl ?_
        obtain rfl := Option.some.inj hf
        exact zx_ev_ret zk_258 rfl rfl
    · rw [if_neg c6] at hf
      refine zx_ev_ifn zk_258 (P := ¬ r5 = 0) (t := 21) (f := 19) rfl rfl c6 ?_
      refine zx_ev_blk zk_258 1 (pc1 := 20) (L1 := [some (.ref 0), some (.int v1), some (.int v2), none]) (st1 := [.int (-1)]) (h1 := (zx_SM, m)) rfl ?_
      obtain rfl := Option.some.inj hf
      exact zx_ev_ret zk_258 rfl rfl
def f_M_trace (v1 : Int32) (m : zx_M) : Option Int32 := if v1 < 0 then some (-1) else if (m.1 0 46) ≤ v1 then some (-1) else if 24 ≤ v1 then some (-1) else (zx_ix 24 v1).bind fun j4 => some (m.1 18 j4)
theorem s_M_trace (v1 : Int32) (m : zx_M) {d : Nat} {y : Int32} (hf : f_M_trace v1 m = some y) : zx_Ev (d) 249 0 [some (.ref 0), some (.int v1)] [] (zx_SM, m) (some (.int y), (zx_SM, m)) := by
  unfold f_M_trace at hf
  refine zx_ev_blk zk_249 1 (pc1 := 1) (L1 := [some (.ref 0), some (.int v1)]) (st1 := [.int v1]) (h1 := (zx_SM, m)) rfl ?_
  by_cases c1 : v1 < 0
  · rw [if_pos c1] at hf
    refine zx_ev_ift zk_249 (P := v1 < 0) (t := 27) (f := 4) rfl rfl c1 ?_
    refine zx_ev_blk zk_249 1 (pc1 := 28) (L1 := [some (.ref 0), some (.int v1)]) (st1 := [.int (-1)]) (h1 := (zx_SM, m)) rfl ?_
    obtain rfl := Option.some.inj hf
    exact zx_ev_ret zk_249 rfl rfl
  · rw [if_neg c1] at hf
    refine zx_ev_ifn zk_249 (P := v1 < 0) (t := 27) (f := 4) rfl rfl c1 ?_
    refine zx_ev_blk zk_249 3 (pc1 := 9) (L1 := [some (.ref 0), some (.int v1)]) (st1 := [.int (m.1 0 46), .int v1]) (h1 := (zx_SM, m)) rfl ?_
    by_cases c2 : (m.1 0 46) ≤ v1
    · rw [if_pos c2] at hf
      refine zx_ev_ift zk_249 (P := (m.1 0 46) ≤ v1) (t := 27) (f := 12) rfl rfl c2 ?_
      refine zx_ev_blk zk_249 1 (pc1 := 28) (L1 := [some (.ref 0), some (.int v1)]) (st1 := [.int (-1)]) (h1 := (zx_SM, m)) rfl ?_
      obtain rfl := Option.some.inj hf
      exact zx_ev_ret zk_249 rfl rfl
    · rw [if_neg c2] at hf
      refine zx_ev_ifn zk_249 (P := (m.1 0 46) ≤ v1) (t := 27) (f := 12) rfl rfl c2 ?_
      refine zx_ev_blk zk_249 2 (pc1 := 15) (L1 := [some (.ref 0), some (.int v1)]) (st1 := [.int 24, .int v1]) (h1 := (zx_SM, m)) rfl ?_
      by_cases c3 : 24 ≤ v1
      · rw [if_pos c3] at hf
        refine zx_ev_ift zk_249 (P := 24 ≤ v1) (t := 27) (f := 18) rfl rfl c3 ?_
        refine zx_ev_blk zk_249 1 (pc1 := 28) (L1 := [some (.ref 0), some (.int v1)]) (st1 := [.int (-1)]) (h1 := (zx_SM, m)) rfl ?_
        obtain rfl := Option.some.inj hf
        exact zx_ev_ret zk_249 rfl rfl
      · rw [if_neg c3] at hf
        refine zx_ev_ifn zk_249 (P := 24 ≤ v1) (t := 27) (f := 18) rfl rfl c3 ?_
        refine zx_ev_blk zk_249 3 (pc1 := 23) (L1 := [some (.ref 0), some (.int v1)]) (st1 := [.int v1, .ref 18]) (h1 := (zx_SM, m)) rfl ?_
        obtain ⟨j4, hj4, hf⟩ := zx_bind_eq hf
        refine zx_ev_step zk_249 rfl (st_iald rfl rfl hj4) ?_
        refine zx_ev_blk zk_249 1 (pc1 := 28) (L1 := [some (.ref 0), some (.int v1)]) (st1 := [.int (m.1 18 j4)]) (h1 := (zx_SM, m)) rfl ?_
        obtain rfl := Option.some.inj hf
        exact zx_ev_ret zk_249 rfl rfl
def f_M_undo (m : zx_M) : Option (Int32 × zx_M) := if ¬ (m.1 0 5) = 0 then zx_let (zx_u1 m 0 5 ((m.1 0 5) - 1)) fun m2 => (zx_ix 40 (m2.1 0 5)).bind fun j3 => (zx_ix 40 (m2.1 0 5)).bind fun j4 => (zx_ix 36 (m2.1 2 j3)).bind fun j5 => zx_let (zx_u1 m2 1 j5 (m2.1 3 j4)) fun m6 => some (m6.1 0 5, m6) else some ((-5), m)
theorem s_M_undo (m : zx_M) {d : Nat} {y : (Int32 × zx_M)} (hf : f_M_undo m = some y) : zx_Ev (d) 162 0 [some (.ref 0)] [] (zx_SM, m) (some (.int y.1), (zx_SM, y.2)) := by
  unfold f_M_undo at hf
  refine zx_ev_blk zk_162 2 (pc1 := 4) (L1 := [some (.ref 0)]) (st1 := [.int (m.1 0 5)]) (h1 := (zx_SM, m)) rfl ?_
  by_cases c1 : ¬ (m.1 0 5) = 0
  · rw [if_pos c1] at hf
    refine zx_ev_ift zk_162 (P := ¬ (m.1 0 5) = 0) (t := 10) (f := 7) rfl rfl c1 ?_
    obtain ⟨m2, hm2, hf⟩ := zx_let_eq hf
    refine zx_ev_blk zk_162 12 (pc1 := 32) (L1 := [some (.ref 0)]) (st1 := [.int (m2.1 0 5), .ref 2, .ref 1]) (h1 := (zx_SM, m2)) (by subst hm2; rfl) ?_
    obtain ⟨j3, hj3, hf⟩ := zx_bind_eq hf
    refine zx_ev_step zk_162 rfl (st_iald rfl rfl hj3) ?_
    refine zx_ev_blk zk_162 4 (pc1 := 41) (L1 := [some (.ref 0)]) (st1 := [.int (m2.1 0 5), .ref 3, .int (m2.1 2 j3), .ref 1]) (h1 := (zx_SM, m2)) rfl ?_
    obtain ⟨j4, hj4, hf⟩ := zx_bind_eq hf
    refine zx_ev_step zk_162 rfl (st_iald rfl rfl hj4) ?_
    obtain ⟨j5, hj5, hf⟩ := zx_bind_eq hf
    refine zx_ev_step zk_162 rfl (st_iast rfl hj5) ?_
    obtain ⟨m6, hm6, hf⟩ := zx_let_eq hf
    rw [hm6]
    refine zx_ev_blk zk_162 2 (pc1 := 47) (L1 := [some (.ref 0)]) (st1 := [.int (m6.1 0 5)]) (h1 := (zx_SM, m6)) rfl ?_
    obtain rfl := Option.some.inj hf
    exact zx_ev_ret zk_162 rfl rfl
  · rw [if_neg c1] at hf
    refine zx_ev_ifn zk_162 (P := ¬ (m.1 0 5) = 0) (t := 10) (f := 7) rfl rfl c1 ?_
    refine zx_ev_blk zk_162 1 (pc1 := 9) (L1 := [some (.ref 0)]) (st1 := [.int (-5)]) (h1 := (zx_SM, m)) rfl ?_
    obtain rfl := Option.some.inj hf
    exact zx_ev_ret zk_162 rfl rfl
abbrev GT_waysOn_m : Type := (Int32 → Int32 → Int32 → Int32 → Int32 → zx_M → Option zx_M)
def GH_waysOn_m (d : Nat) (g : GT_waysOn_m) : Prop := (∀ (v1 : Int32) (v2 : Int32) (v3 : Int32) (v4 : Int32) (v5 : Int32) (m : zx_M) (y : zx_M), g v1 v2 v3 v4 v5 m = some y → zx_Ev d 229 0 [some (.ref 0), some (.int v1), some (.int v2), some (.int v3), some (.int v4), some (.int v5), none, none, none] [] (zx_SM, m) (none, (zx_SM, y)))
def kx_M_waysOn_l42 (v1 : Int32) (v2 : Int32) (v3 : Int32) (v4 : Int32) (v5 : Int32) (d : Nat) (out : Option Value × zx_H) : zx_M → Prop
  | y => out = (none, (zx_SM, y))
def kl_M_waysOn_l42 (v1 : Int32) (v2 : Int32) (v3 : Int32) (v4 : Int32) (v5 : Int32) (d : Nat) (out : Option Value × zx_H) : (Int32 × zx_M) ⊕ (zx_M) → Prop
  | .inl (v6, m) => zx_Ev (d + 1) 229 42 [some (.ref 0), some (.int v1), some (.int v2), some (.int v3), some (.int v4), some (.int v5), some (.int v6), none, none] [] (zx_SM, m) out
  | .inr x => kx_M_waysOn_l42 v1 v2 v3 v4 v5 d out x
def n_M_waysOn_b42_141 (g : GT_waysOn_m) (v1 : Int32) (v2 : Int32) (v3 : Int32) (v4 : Int32) (v5 : Int32) (v6 : Int32) (m : zx_M) : Option ((Int32 × zx_M) ⊕ (zx_M)) := zx_let (v6 + 1) fun a12 => some (.inl (a12, m))
theorem e_M_waysOn_b42_141 (g : GT_waysOn_m) (v1 : Int32) (v2 : Int32) (v3 : Int32) (v4 : Int32) (v5 : Int32) (v6 : Int32) (m : zx_M) {d : Nat} (hg : GH_waysOn_m (d + 0) g) {out : Option Value × zx_H} {y : (Int32 × zx_M) ⊕ (zx_M)} (hf : n_M_waysOn_b42_141 g v1 v2 v3 v4 v5 v6 m = some y) (hK : kl_M_waysOn_l42 v1 v2 v3 v4 v5 d out y) : zx_Ev (d + 1) 229 141 [some (.ref 0), some (.int v1), some (.int v2), some (.int v3), some (.int v4), some (.int v5), some (.int v6), none, none] [] (zx_SM, m) out := by
  unfold n_M_waysOn_b42_141 at hf
  obtain ⟨a12, ha12, hf⟩ := zx_let_eq hf
  refine zx_ev_blk zk_229 2 (pc1 := 42) (L1 := [some (.ref 0), some (.int v1), some (.int v2), some (.int v3), some (.int v4), some (.int v5), some (.int a12), none, none]) (st1 := []) (h1 := (zx_SM, m)) (by subst ha12; rfl) ?_
  obtain rfl := Option.some.inj hf
  exact zx_ev_sub (L := [some (.ref 0), some (.int v1), some (.int v2), some (.int v3), some (.int v4), some (.int v5), some (.int a12), none, none]) (⟨rfl, ⟨rfl, ⟨rfl, ⟨rfl, ⟨rfl, ⟨rfl, ⟨rfl, trivial⟩⟩⟩⟩⟩⟩⟩) hK
def n_M_waysOn_b42_84 (g : GT_waysOn_m) (v1 : Int32) (v2 : Int32) (v3 : Int32) (v4 : Int32) (v5 : Int32) (v6 : Int32) (t0 : Int32) (t1 : Int32) (m : zx_M) : Option ((Int32 × zx_M) ⊕ (zx_M)) := (zx_ix 7 v6).bind fun j7 => zx_let ((t0 + t1) + (m.1 11 j7)) fun a8 => (f_M_isIn v3 v6 m).bind fun r10 => if ¬ r10 = 0 then n_M_waysOn_b42_141 g v1 v2 v3 v4 v5 v6 m else (f_M_itemAt v1 v2 m).bind fun r14 => if ¬ (lg_cmp r14 (Int32.toInt64 a8)) = 0 then n_M_waysOn_b42_141 g v1 v2 v3 v4 v5 v6 m else (g v1 (v2 + 1) (v3 ||| (zx_shl 1 v6)) v4 ((10 * v5) + v6) m).bind fun m17 => n_M_waysOn_b42_141 g v1 v2 v3 v4 v5 v6 m17
theorem e_M_waysOn_b42_84 (g : GT_waysOn_m) (v1 : Int32) (v2 : Int32) (v3 : Int32) (v4 : Int32) (v5 : Int32) (v6 : Int32) (t0 : Int32) (t1 : Int32) (m : zx_M) {d : Nat} (hg : GH_waysOn_m (d + 0) g) {out : Option Value × zx_H} {y : (Int32 × zx_M) ⊕ (zx_M)} (hf : n_M_waysOn_b42_84 g v1 v2 v3 v4 v5 v6 t0 t1 m = some y) (hK : kl_M_waysOn_l42 v1 v2 v3 v4 v5 d out y) : zx_Ev (d + 1) 229 84 [some (.ref 0), some (.int v1), some (.int v2), some (.int v3), some (.int v4), some (.int v5), some (.int v6), none, none] [.int t1, .int t0] (zx_SM, m) out := by
  unfold n_M_waysOn_b42_84 at hf
  refine zx_ev_blk zk_229 4 (pc1 := 91) (L1 := [some (.ref 0), some (.int v1), some (.int v2), some (.int v3), some (.int v4), some (.int v5), some (.int v6), none, none]) (st1 := [.int v6, .ref 11, .int (t0 + t1)]) (h1 := (zx_SM, m)) rfl ?_
  obtain ⟨j7, hj7, hf⟩ := zx_bind_eq hf
  refine zx_ev_step zk_229 rfl (st_iald rfl rfl hj7) ?_
  obtain ⟨a8, ha8, hf⟩ := zx_let_eq hf
  refine zx_ev_blk zk_229 4 (pc1 := 98) (L1 := [some (.ref 0), some (.int v1), some (.int v2), some (.int v3), some (.int v4), some (.int v5), some (.int v6), none, some (.int a8)]) (st1 := [.int v6, .int v3]) (h1 := (zx_SM, m)) (by subst ha8; rfl) ?_
  obtain ⟨r10, hv9, hf⟩ := zx_bind_eq hf
  refine zx_ev_call (d := d + 0) zk_229 (v := some (.int r10)) (h1 := (zx_SM, m)) rfl rfl zt_159 rfl zx_SMn rfl rfl (s_M_isIn _ _ _ (d := d + 0) hv9) ?_
  by_cases c11 : ¬ r10 = 0
  · rw [if_pos c11] at hf
    refine zx_ev_ift zk_229 (P := ¬ r10 = 0) (t := 141) (f := 104) rfl rfl c11 ?_
    exact zx_ev_sub (L := [some (.ref 0), some (.int v1), some (.int v2), some (.int v3), some (.int v4), some (.int v5), some (.int v6), none, none]) (⟨rfl, ⟨rfl, ⟨rfl, ⟨rfl, ⟨rfl, ⟨rfl, ⟨rfl, ⟨trivial, trivial⟩⟩⟩⟩⟩⟩⟩⟩) (e_M_waysOn_b42_141 g v1 v2 v3 v4 v5 v6 m hg hf hK)
  · rw [if_neg c11] at hf
    refine zx_ev_ifn zk_229 (P := ¬ r10 = 0) (t := 141) (f := 104) rfl rfl c11 ?_
    refine zx_ev_blk zk_229 3 (pc1 := 107) (L1 := [some (.ref 0), some (.int v1), some (.int v2), some (.int v3), some (.int v4), some (.int v5), some (.int v6), none, some (.int a8)]) (st1 := [.int v2, .int v1, .ref 0]) (h1 := (zx_SM, m)) rfl ?_
    obtain ⟨r14, hv13, hf⟩ := zx_bind_eq hf
    refine zx_ev_call (d := d + 0) zk_229 (v := some (.long r14)) (h1 := (zx_SM, m)) rfl rfl zt_199 rfl zx_SMn rfl rfl (s_M_itemAt _ _ _ (d := d + 0) hv13) ?_
    refine zx_ev_blk zk_229 3 (pc1 := 114) (L1 := [some (.ref 0), some (.int v1), some (.int v2), some (.int v3), some (.int v4), some (.int v5), some (.int v6), none, some (.int a8)]) (st1 := [.int (lg_cmp r14 (Int32.toInt64 a8))]) (h1 := (zx_SM, m)) rfl ?_
    by_cases c15 : ¬ (lg_cmp r14 (Int32.toInt64 a8)) = 0
    · rw [if_pos c15] at hf
      refine zx_ev_ift zk_229 (P := ¬ (lg_cmp r14 (Int32.toInt64 a8)) = 0) (t := 141) (f := 117) rfl rfl c15 ?_
      exact zx_ev_sub (L := [some (.ref 0), some (.int v1), some (.int v2), some (.int v3), some (.int v4), some (.int v5), some (.int v6), none, none]) (⟨rfl, ⟨rfl, ⟨rfl, ⟨rfl, ⟨rfl, ⟨rfl, ⟨rfl, ⟨trivial, trivial⟩⟩⟩⟩⟩⟩⟩⟩) (e_M_waysOn_b42_141 g v1 v2 v3 v4 v5 v6 m hg hf hK)
    · rw [if_neg c15] at hf
      refine zx_ev_ifn zk_229 (P := ¬ (lg_cmp r14 (Int32.toInt64 a8)) = 0) (t := 141) (f := 117) rfl rfl c15 ?_
      refine zx_ev_blk zk_229 16 (pc1 := 138) (L1 := [some (.ref 0), some (.int v1), some (.int v2), some (.int v3), some (.int v4), some (.int v5), some (.int v6), none, some (.int a8)]) (st1 := [.int ((10 * v5) + v6), .int v4, .int (v3 ||| (zx_shl 1 v6)), .int (v2 + 1), .int v1, .ref 0]) (h1 := (zx_SM, m)) rfl ?_
      obtain ⟨m17, hv16, hf⟩ := zx_bind_eq hf
      refine zx_ev_call (d := d + 0) zk_229 (v := none) (h1 := (zx_SM, m17)) rfl rfl zt_229 rfl zx_SMn rfl rfl (hg _ _ _ _ _ _ _ hv16) ?_
      exact zx_ev_sub (L := [some (.ref 0), some (.int v1), some (.int v2), some (.int v3), some (.int v4), some (.int v5), some (.int v6), none, none]) (⟨rfl, ⟨rfl, ⟨rfl, ⟨rfl, ⟨rfl, ⟨rfl, ⟨rfl, ⟨trivial, trivial⟩⟩⟩⟩⟩⟩⟩⟩) (e_M_waysOn_b42_141 g v1 v2 v3 v4 v5 v6 m17 hg hf hK)
def b_M_waysOn_l42 (g : GT_waysOn_m) (v1 : Int32) (v2 : Int32) (v3 : Int32) (v4 : Int32) (v5 : Int32) (v6 : Int32) (m : zx_M) : Option ((Int32 × zx_M) ⊕ (zx_M)) := if (m.1 0 6) ≤ v6 then some (.inr m) else (zx_ix 36 31).bind fun j3 => (zx_ix 7 v2).bind fun j4 => zx_let ((m.1 1 j3) * (m.1 9 j4)) fun a5 => if ¬ (m.1 0 21) = 0 then n_M_waysOn_b42_84 g v1 v2 v3 v4 v5 v6 v4 (-a5) m else n_M_waysOn_b42_84 g v1 v2 v3 v4 v5 v6 v4 a5 m
theorem eb_M_waysOn_l42 (g : GT_waysOn_m) (v1 : Int32) (v2 : Int32) (v3 : Int32) (v4 : Int32) (v5 : Int32) (v6 : Int32) (m : zx_M) {d : Nat} (hg : GH_waysOn_m (d + 0) g) {out : Option Value × zx_H} {y : (Int32 × zx_M) ⊕ (zx_M)} (hf : b_M_waysOn_l42 g v1 v2 v3 v4 v5 v6 m = some y) (hK : kl_M_waysOn_l42 v1 v2 v3 v4 v5 d out y) : zx_Ev (d + 1) 229 42 [some (.ref 0), some (.int v1), some (.int v2), some (.int v3), some (.int v4), some (.int v5), some (.int v6), none, none] [] (zx_SM, m) out := by
  unfold b_M_waysOn_l42 at hf
  refine zx_ev_blk zk_229 3 (pc1 := 48) (L1 := [some (.ref 0), some (.int v1), some (.int v2), some (.int v3), some (.int v4), some (.int v5), some (.int v6), none, none]) (st1 := [.int (m.1 0 6), .int v6]) (h1 := (zx_SM, m)) rfl ?_
  by_cases c2 : (m.1 0 6) ≤ v6
  · rw [if_pos c2] at hf
    refine zx_ev_ift zk_229 (P := (m.1 0 6) ≤ v6) (t := 147) (f := 51) rfl rfl c2 ?_
    obtain rfl := Option.some.inj hf
    rw [show out = _ from hK]
    exact zx_ev_ret zk_229 rfl rfl
  · rw [if_neg c2] at hf
    refine zx_ev_ifn zk_229 (P := (m.1 0 6) ≤ v6) (t := 147) (f := 51) rfl rfl c2 ?_
    refine zx_ev_blk zk_229 3 (pc1 := 57) (L1 := [some (.ref 0), some (.int v1), some (.int v2), some (.int v3), some (.int v4), some (.int v5), some (.int v6), none, none]) (st1 := [.int 31, .ref 1]) (h1 := (zx_SM, m)) rfl ?_
    obtain ⟨j3, hj3, hf⟩ := zx_bind_eq hf
    refine zx_ev_step zk_229 rfl (st_iald rfl rfl hj3) ?_
    refine zx_ev_blk zk_229 3 (pc1 := 63) (L1 := [some (.ref 0), some (.int v1), some (.int v2), some (.int v3), some (.int v4), some (.int v5), some (.int v6), none, none]) (st1 := [.int v2, .ref 9, .int (m.1 1 j3)]) (h1 := (zx_SM, m)) rfl ?_
    obtain ⟨j4, hj4, hf⟩ := zx_bind_eq hf
    refine zx_ev_step zk_229 rfl (st_iald rfl rfl hj4) ?_
    obtain ⟨a5, ha5, hf⟩ := zx_let_eq hf
    refine zx_ev_blk zk_229 5 (pc1 := 73) (L1 := [some (.ref 0), some (.int v1), some (.int v2), some (.int v3), some (.int v4), some (.int v5), some (.int v6), some (.int a5), none]) (st1 := [.int (m.1 0 21), .int v4]) (h1 := (zx_SM, m)) (by subst ha5; rfl) ?_
    by_cases c6 : ¬ (m.1 0 21) = 0
    · rw [if_pos c6] at hf
      refine zx_ev_ift zk_229 (P := ¬ (m.1 0 21) = 0) (t := 81) (f := 76) rfl rfl c6 ?_
      refine zx_ev_blk zk_229 2 (pc1 := 84) (L1 := [some (.ref 0), some (.int v1), some (.int v2), some (.int v3), some (.int v4), some (.int v5), some (.int v6), some (.int a5), none]) (st1 := [.int (-a5), .int v4]) (h1 := (zx_SM, m)) rfl ?_
      exact zx_ev_sub (L := [some (.ref 0), some (.int v1), some (.int v2), some (.int v3), some (.int v4), some (.int v5), some (.int v6), none, none]) (⟨rfl, ⟨rfl, ⟨rfl, ⟨rfl, ⟨rfl, ⟨rfl, ⟨rfl, ⟨trivial, trivial⟩⟩⟩⟩⟩⟩⟩⟩) (e_M_waysOn_b42_84 g v1 v2 v3 v4 v5 v6 v4 (-a5) m hg hf hK)
    · rw [if_neg c6] at hf
      refine zx_ev_ifn zk_229 (P := ¬ (m.1 0 21) = 0) (t := 81) (f := 76) rfl rfl c6 ?_
      refine zx_ev_blk zk_229 2 (pc1 := 84) (L1 := [some (.ref 0), some (.int v1), some (.int v2), some (.int v3), some (.int v4), some (.int v5), some (.int v6), some (.int a5), none]) (st1 := [.int a5, .int v4]) (h1 := (zx_SM, m)) rfl ?_
      exact zx_ev_sub (L := [some (.ref 0), some (.int v1), some (.int v2), some (.int v3), some (.int v4), some (.int v5), some (.int v6), none, none]) (⟨rfl, ⟨rfl, ⟨rfl, ⟨rfl, ⟨rfl, ⟨rfl, ⟨rfl, ⟨trivial, trivial⟩⟩⟩⟩⟩⟩⟩⟩) (e_M_waysOn_b42_84 g v1 v2 v3 v4 v5 v6 v4 a5 m hg hf hK)
def l_M_waysOn_l42 (g : GT_waysOn_m) (v1 : Int32) (v2 : Int32) (v3 : Int32) (v4 : Int32) (v5 : Int32) (s0 : Int32 × zx_M) : Option (zx_M) := zx_lp zx_N (fun s : Int32 × zx_M => b_M_waysOn_l42 g v1 v2 v3 v4 v5 s.1 s.2) s0
theorem el_M_waysOn_l42 (g : GT_waysOn_m) (v1 : Int32) (v2 : Int32) (v3 : Int32) (v4 : Int32) (v5 : Int32) {d : Nat} (hg : GH_waysOn_m (d + 0) g) {out : Option Value × zx_H} : ∀ (n : Nat) (s : Int32 × zx_M) (x : zx_M), zx_lp n (fun s : Int32 × zx_M => b_M_waysOn_l42 g v1 v2 v3 v4 v5 s.1 s.2) s = some x → kx_M_waysOn_l42 v1 v2 v3 v4 v5 d out x → zx_Ev (d + 1) 229 42 [some (.ref 0), some (.int v1), some (.int v2), some (.int v3), some (.int v4), some (.int v5), some (.int s.1), none, none] [] (zx_SM, s.2) out := by
  intro n
  induction n with
  | zero => intro s x hl _; simp [zx_lp] at hl
  | succ n ih =>
    intro s x hl hx
    unfold zx_lp at hl
    cases hb : b_M_waysOn_l42 g v1 v2 v3 v4 v5 s.1 s.2 with
    | none => simp only [hb] at hl; cases hl
    | some z =>
      simp only [hb] at hl
      cases z with
      | inl s1 => exact eb_M_waysOn_l42 g v1 v2 v3 v4 v5 s.1 s.2 hg hb (ih s1 x hl hx)
      | inr t =>
        simp only [Option.some.injEq] at hl
        subst hl
        exact eb_M_waysOn_l42 g v1 v2 v3 v4 v5 s.1 s.2 hg hb hx
def n_M_waysOn_n25 (g : GT_waysOn_m) (t1 : Int32) (m : zx_M) : Option zx_M := zx_let (zx_u1 m 0 27 t1) fun m21 => zx_let (zx_u1 m21 0 26 ((m21.1 0 26) + 1)) fun m22 => some m22
theorem e_M_waysOn_n25 (g : GT_waysOn_m) (t1 : Int32) (m : zx_M) {d : Nat} (hg : GH_waysOn_m (d + 0) g) {y : zx_M} (hf : n_M_waysOn_n25 g t1 m = some y) : zx_Ev (d + 1) 229 25 [some (.ref 0), none, none, none, none, none, none, none, none] [.int t1, .ref 0] (zx_SM, m) (none, (zx_SM, y)) := by
  unfold n_M_waysOn_n25 at hf
  obtain ⟨m21, hm21, hf⟩ := zx_let_eq hf
  obtain ⟨m22, hm22, hf⟩ := zx_let_eq hf
  refine zx_ev_blk zk_229 7 (pc1 := 38) (L1 := [some (.ref 0), none, none, none, none, none, none, none, none]) (st1 := []) (h1 := (zx_SM, m22)) (by subst hm21; subst hm22; rfl) ?_
  obtain rfl := Option.some.inj hf
  exact zx_ev_ret zk_229 rfl rfl
def F_M_waysOn (g : GT_waysOn_m) (v1 : Int32) (v2 : Int32) (v3 : Int32) (v4 : Int32) (v5 : Int32) (m : zx_M) : Option zx_M := if ¬ v2 = (m.1 0 20) then (l_M_waysOn_l42 g v1 v2 v3 v4 v5 (0, m)).bind fun x18 => zx_let x18 fun y19 => some y19 else if ¬ (m.1 0 26) = 0 then n_M_waysOn_n25 g (m.1 0 27) m else n_M_waysOn_n25 g v5 m
theorem s_M_waysOn (g : GT_waysOn_m) (v1 : Int32) (v2 : Int32) (v3 : Int32) (v4 : Int32) (v5 : Int32) (m : zx_M) {d : Nat} (hg : GH_waysOn_m (d + 0) g) {y : zx_M} (hf : F_M_waysOn g v1 v2 v3 v4 v5 m = some y) : zx_Ev (d + 1) 229 0 [some (.ref 0), some (.int v1), some (.int v2), some (.int v3), some (.int v4), some (.int v5), none, none, none] [] (zx_SM, m) (none, (zx_SM, y)) := by
  unfold F_M_waysOn at hf
  refine zx_ev_blk zk_229 3 (pc1 := 5) (L1 := [some (.ref 0), some (.int v1), some (.int v2), some (.int v3), some (.int v4), some (.int v5), none, none, none]) (st1 := [.int (m.1 0 20), .int v2]) (h1 := (zx_SM, m)) rfl ?_
  by_cases c1 : ¬ v2 = (m.1 0 20)
  · rw [if_pos c1] at hf
    refine zx_ev_ift zk_229 (P := ¬ v2 = (m.1 0 20)) (t := 39) (f := 8) rfl rfl c1 ?_
    refine zx_ev_blk zk_229 2 (pc1 := 42) (L1 := [some (.ref 0), some (.int v1), some (.int v2), some (.int v3), some (.int v4), some (.int v5), some (.int 0), none, none]) (st1 := []) (h1 := (zx_SM, m)) rfl ?_
    obtain ⟨x18, hx18, hf⟩ := zx_bind_eq hf
    refine zx_ev_sub (L := [some (.ref 0), some (.int v1), some (.int v2), some (.int v3), some (.int v4), some (.int v5), some (.int 0), none, none]) (⟨rfl, ⟨rfl, ⟨rfl, ⟨rfl, ⟨rfl, ⟨rfl, ⟨rfl, trivial⟩⟩⟩⟩⟩⟩⟩) (el_M_waysOn_l42 g v1 v2 v3 v4 v5 hg zx_N (0, m) x18 hx18 ?_)
    obtain ⟨y19, hy19, hf⟩ := zx_let_eq hf
    subst hy19
    obtain rfl := Option.some.inj hf
    rfl
  · rw [if_neg c1] at hf
    refine zx_ev_ifn zk_229 (P := ¬ v2 = (m.1 0 20)) (t := 39) (f := 8) rfl rfl c1 ?_
    refine zx_ev_blk zk_229 3 (pc1 := 13) (L1 := [some (.ref 0), some (.int v1), some (.int v2), some (.int v3), some (.int v4), some (.int v5), none, none, none]) (st1 := [.int (m.1 0 26), .ref 0]) (h1 := (zx_SM, m)) rfl ?_
    by_cases c20 : ¬ (m.1 0 26) = 0
    · rw [if_pos c20] at hf
      refine zx_ev_ift zk_229 (P := ¬ (m.1 0 26) = 0) (t := 21) (f := 16) rfl rfl c20 ?_
      refine zx_ev_blk zk_229 2 (pc1 := 25) (L1 := [some (.ref 0), some (.int v1), some (.int v2), some (.int v3), some (.int v4), some (.int v5), none, none, none]) (st1 := [.int (m.1 0 27), .ref 0]) (h1 := (zx_SM, m)) rfl ?_
      exact zx_ev_sub (L := [some (.ref 0), none, none, none, none, none, none, none, none]) (⟨rfl, ⟨trivial, ⟨trivial, ⟨trivial, ⟨trivial, ⟨trivial, trivial⟩⟩⟩⟩⟩⟩) (e_M_waysOn_n25 g (m.1 0 27) m hg hf)
    · rw [if_neg c20] at hf
      refine zx_ev_ifn zk_229 (P := ¬ (m.1 0 26) = 0) (t := 21) (f := 16) rfl rfl c20 ?_
      refine zx_ev_blk zk_229 2 (pc1 := 25) (L1 := [some (.ref 0), some (.int v1), some (.int v2), some (.int v3), some (.int v4), some (.int v5), none, none, none]) (st1 := [.int v5, .ref 0]) (h1 := (zx_SM, m)) rfl ?_
      exact zx_ev_sub (L := [some (.ref 0), none, none, none, none, none, none, none, none]) (⟨rfl, ⟨trivial, ⟨trivial, ⟨trivial, ⟨trivial, ⟨trivial, trivial⟩⟩⟩⟩⟩⟩) (e_M_waysOn_n25 g v5 m hg hf)
def g_waysOn_m : Nat → GT_waysOn_m
  | 0 => (fun _ _ _ _ _ _ => none)
  | j + 1 => (fun x0 x1 x2 x3 x4 m => F_M_waysOn (g_waysOn_m j) x0 x1 x2 x3 x4 m)
theorem eg_waysOn_m : ∀ (j d : Nat), GH_waysOn_m (d + 0 + j) (g_waysOn_m j) := by
  intro j
  induction j with
  | zero => intro d; exact (fun _ _ _ _ _ _ _ h => by simp [g_waysOn_m] at h)
  | succ j ih =>
    intro d
    have ih : ∀ d : Nat, GH_waysOn_m (d + j + 0) (g_waysOn_m j) := fun d => by rw [show d + j + 0 = d + 0 + j by omega]; exact ih d
    show GH_waysOn_m (d + 0 + j + 1) (g_waysOn_m (j + 1))
    rw [show d + 0 + j + 1 = d + j + 1 by omega]
    exact (fun _ _ _ _ _ _ _ h => s_M_waysOn _ _ _ _ _ _ _ (d := d + j) (ih d) h)
def n_M_which_n66 (v1 : Int32) (v2 : Int32) (v3 : Int32) (t1 : Int32) (m : zx_M) : Option (Int32 × zx_M) := zx_let (zx_u1 m 0 20 t1) fun m16 => (f_M_counts (zx_rem v2 100) m16).bind fun m18 => (f_M_asksCarried m18).bind fun m20 => zx_let (zx_u1 m20 0 26 0) fun m21 => zx_let (zx_u1 m21 0 27 (-2)) fun m22 => (f_M_spotOf v2 m22).bind fun r24 => ((g_waysOn_m 12) v1 0 0 r24 0 m22).bind fun m26 => if ¬ v3 = 0 then some (m26.1 0 27, m26) else some (m26.1 0 26, m26)
theorem e_M_which_n66 (v1 : Int32) (v2 : Int32) (v3 : Int32) (t1 : Int32) (m : zx_M) {d : Nat} {y : (Int32 × zx_M)} (hf : n_M_which_n66 v1 v2 v3 t1 m = some y) : zx_Ev (d + 69) 230 66 [some (.ref 0), some (.int v1), some (.int v2), some (.int v3)] [.int t1, .ref 0] (zx_SM, m) (some (.int y.1), (zx_SM, y.2)) := by
  unfold n_M_which_n66 at hf
  obtain ⟨m16, hm16, hf⟩ := zx_let_eq hf
  refine zx_ev_blk zk_230 4 (pc1 := 73) (L1 := [some (.ref 0), some (.int v1), some (.int v2), some (.int v3)]) (st1 := [.int 100, .int v2, .ref 0]) (h1 := (zx_SM, m16)) (by subst hm16; rfl) ?_
  refine zx_ev_step zk_230 rfl (st_irem (by decide)) ?_
  obtain ⟨m18, hv17, hf⟩ := zx_bind_eq hf
  refine zx_ev_call (d := d + 68) zk_230 (v := none) (h1 := (zx_SM, m18)) rfl rfl zt_201 rfl zx_SMn rfl rfl (s_M_counts _ _ (d := d + 68) hv17) ?_
  refine zx_ev_blk zk_230 1 (pc1 := 78) (L1 := [some (.ref 0), some (.int v1), some (.int v2), some (.int v3)]) (st1 := [.ref 0]) (h1 := (zx_SM, m18)) rfl ?_
  obtain ⟨m20, hv19, hf⟩ := zx_bind_eq hf
  refine zx_ev_call (d := d + 68) zk_230 (v := none) (h1 := (zx_SM, m20)) rfl rfl zt_190 rfl zx_SMn rfl rfl (s_M_asksCarried _ (d := d + 0) hv19) ?_
  obtain ⟨m21, hm21, hf⟩ := zx_let_eq hf
  obtain ⟨m22, hm22, hf⟩ := zx_let_eq hf
  refine zx_ev_blk zk_230 11 (pc1 := 97) (L1 := [some (.ref 0), some (.int v1), some (.int v2), some (.int v3)]) (st1 := [.int v2, .int 0, .int 0, .int v1, .ref 0]) (h1 := (zx_SM, m22)) (by subst hm21; subst hm22; rfl) ?_
  obtain ⟨r24, hv23, hf⟩ := zx_bind_eq hf
  refine zx_ev_call (d := d + 68) zk_230 (v := some (.int r24)) (h1 := (zx_SM, m22)) rfl rfl zt_204 rfl zx_SMn rfl rfl (s_M_spotOf _ _ (d := d + 68) hv23) ?_
  refine zx_ev_blk zk_230 1 (pc1 := 101) (L1 := [some (.ref 0), some (.int v1), some (.int v2), some (.int v3)]) (st1 := [.int 0, .int r24, .int 0, .int 0, .int v1, .ref 0]) (h1 := (zx_SM, m22)) rfl ?_
  obtain ⟨m26, hv25, hf⟩ := zx_bind_eq hf
  refine zx_ev_call (d := d + 68) zk_230 (v := none) (h1 := (zx_SM, m26)) rfl rfl zt_229 rfl zx_SMn rfl rfl ((eg_waysOn_m 12 (d + 56)) _ _ _ _ _ _ _ hv25) ?_
  refine zx_ev_blk zk_230 1 (pc1 := 105) (L1 := [some (.ref 0), some (.int v1), some (.int v2), some (.int v3)]) (st1 := [.int v3]) (h1 := (zx_SM, m26)) rfl ?_
  by_cases c27 : ¬ v3 = 0
  · rw [if_pos c27] at hf
    refine zx_ev_ift zk_230 (P := ¬ v3 = 0) (t := 115) (f := 108) rfl rfl c27 ?_
    refine zx_ev_blk zk_230 2 (pc1 := 119) (L1 := [some (.ref 0), some (.int v1), some (.int v2), some (.int v3)]) (st1 := [.int (m26.1 0 27)]) (h1 := (zx_SM, m26)) rfl ?_
    obtain rfl := Option.some.inj hf
    exact zx_ev_ret zk_230 rfl rfl
  · rw [if_neg c27] at hf
    refine zx_ev_ifn zk_230 (P := ¬ v3 = 0) (t := 115) (f := 108) rfl rfl c27 ?_
    refine zx_ev_blk zk_230 3 (pc1 := 119) (L1 := [some (.ref 0), some (.int v1), some (.int v2), some (.int v3)]) (st1 := [.int (m26.1 0 26)]) (h1 := (zx_SM, m26)) rfl ?_
    obtain rfl := Option.some.inj hf
    exact zx_ev_ret zk_230 rfl rfl
def f_M_which (v1 : Int32) (v2 : Int32) (v3 : Int32) (m : zx_M) : Option (Int32 × zx_M) := (f_M_rowIs v1 1 m).bind fun r2 => if r2 = (-1) then some ((-1), m) else (f_M_isYc v2 m).bind fun r5 => if r5 = 0 then some ((-1), m) else (f_M_within (Int32.toInt64 v3) 0 1 m).bind fun r8 => if ¬ r8 = 0 then (f_M_rowIs v1 1 m).bind fun r11 => if 0 ≤ r11 then (zx_ix 6 v1).bind fun j13 => if (m.1 20 j13) ≤ 4 then (zx_ix 6 v1).bind fun j15 => n_M_which_n66 v1 v2 v3 (m.1 20 j15) m else n_M_which_n66 v1 v2 v3 4 m else (f_M_rowIs v1 1 m).bind fun r29 => some (r29, m) else some ((-1), m)
theorem s_M_which (v1 : Int32) (v2 : Int32) (v3 : Int32) (m : zx_M) {d : Nat} {y : (Int32 × zx_M)} (hf : f_M_which v1 v2 v3 m = some y) : zx_Ev (d + 69) 230 0 [some (.ref 0), some (.int v1), some (.int v2), some (.int v3)] [] (zx_SM, m) (some (.int y.1), (zx_SM, y.2)) := by
  unfold f_M_which at hf
  refine zx_ev_blk zk_230 3 (pc1 := 3) (L1 := [some (.ref 0), some (.int v1), some (.int v2), some (.int v3)]) (st1 := [.int 1, .int v1, .ref 0]) (h1 := (zx_SM, m)) rfl ?_
  obtain ⟨r2, hv1, hf⟩ := zx_bind_eq hf
  refine zx_ev_call (d := d + 68) zk_230 (v := some (.int r2)) (h1 := (zx_SM, m)) rfl rfl zt_198 rfl zx_SMn rfl rfl (s_M_rowIs _ _ _ (d := d + 66) hv1) ?_
  refine zx_ev_blk zk_230 1 (pc1 := 7) (L1 := [some (.ref 0), some (.int v1), some (.int v2), some (.int v3)]) (st1 := [.int (-1), .int r2]) (h1 := (zx_SM, m)) rfl ?_
  by_cases c3 : r2 = (-1)
  · rw [if_pos c3] at hf
    refine zx_ev_ift zk_230 (P := r2 = (-1)) (t := 27) (f := 10) rfl rfl c3 ?_
    refine zx_ev_blk zk_230 1 (pc1 := 28) (L1 := [some (.ref 0), some (.int v1), some (.int v2), some (.int v3)]) (st1 := [.int (-1)]) (h1 := (zx_SM, m)) rfl ?_
    obtain rfl := Option.some.inj hf
    exact zx_ev_ret zk_230 rfl rfl
  · rw [if_neg c3] at hf
    refine zx_ev_ifn zk_230 (P := r2 = (-1)) (t := 27) (f := 10) rfl rfl c3 ?_
    refine zx_ev_blk zk_230 1 (pc1 := 11) (L1 := [some (.ref 0), some (.int v1), some (.int v2), some (.int v3)]) (st1 := [.int v2]) (h1 := (zx_SM, m)) rfl ?_
    obtain ⟨r5, hv4, hf⟩ := zx_bind_eq hf
    refine zx_ev_call (d := d + 68) zk_230 (v := some (.int r5)) (h1 := (zx_SM, m)) rfl rfl zt_203 rfl zx_SMn rfl rfl (s_M_isYc _ _ (d := d + 66) hv4) ?_
    by_cases c6 : r5 = 0
    · rw [if_pos c6] at hf
      refine zx_ev_ift zk_230 (P := r5 = 0) (t := 27) (f := 17) rfl rfl c6 ?_
      refine zx_ev_blk zk_230 1 (pc1 := 28) (L1 := [some (.ref 0), some (.int v1), some (.int v2), some (.int v3)]) (st1 := [.int (-1)]) (h1 := (zx_SM, m)) rfl ?_
      obtain rfl := Option.some.inj hf
      exact zx_ev_ret zk_230 rfl rfl
    · rw [if_neg c6] at hf
      refine zx_ev_ifn zk_230 (P := r5 = 0) (t := 27) (f := 17) rfl rfl c6 ?_
      refine zx_ev_blk zk_230 4 (pc1 := 21) (L1 := [some (.ref 0), some (.int v1), some (.int v2), some (.int v3)]) (st1 := [.long 1, .long 0, .long (Int32.toInt64 v3)]) (h1 := (zx_SM, m)) rfl ?_
      obtain ⟨r8, hv7, hf⟩ := zx_bind_eq hf
      refine zx_ev_call (d := d + 68) zk_230 (v := some (.int r8)) (h1 := (zx_SM, m)) rfl rfl zt_157 rfl zx_SMn rfl rfl (s_M_within _ _ _ _ (d := d + 68) hv7) ?_
      by_cases c9 : ¬ r8 = 0
      · rw [if_pos c9] at hf
        refine zx_ev_ift zk_230 (P := ¬ r8 = 0) (t := 29) (f := 27) rfl rfl c9 ?_
        refine zx_ev_blk zk_230 3 (pc1 := 32) (L1 := [some (.ref 0), some (.int v1), some (.int v2), some (.int v3)]) (st1 := [.int 1, .int v1, .ref 0]) (h1 := (zx_SM, m)) rfl ?_
        obtain ⟨r11, hv10, hf⟩ := zx_bind_eq hf
        refine zx_ev_call (d := d + 68) zk_230 (v := some (.int r11)) (h1 := (zx_SM, m)) rfl rfl zt_198 rfl zx_SMn rfl rfl (s_M_rowIs _ _ _ (d := d + 66) hv10) ?_
        by_cases c12 : 0 ≤ r11
        · rw [if_pos c12] at hf
          refine zx_ev_ift zk_230 (P := 0 ≤ r11) (t := 45) (f := 38) rfl rfl c12 ?_
          refine zx_ev_blk zk_230 4 (pc1 := 51) (L1 := [some (.ref 0), some (.int v1), some (.int v2), some (.int v3)]) (st1 := [.int v1, .ref 20, .ref 0]) (h1 := (zx_SM, m)) rfl ?_
          obtain ⟨j13, hj13, hf⟩ := zx_bind_eq hf
          refine zx_ev_step zk_230 rfl (st_iald rfl rfl hj13) ?_
          refine zx_ev_blk zk_230 1 (pc1 := 53) (L1 := [some (.ref 0), some (.int v1), some (.int v2), some (.int v3)]) (st1 := [.int 4, .int (m.1 20 j13), .ref 0]) (h1 := (zx_SM, m)) rfl ?_
          by_cases c14 : (m.1 20 j13) ≤ 4
          · rw [if_pos c14] at hf
            refine zx_ev_ift zk_230 (P := (m.1 20 j13) ≤ 4) (t := 60) (f := 56) rfl rfl c14 ?_
            refine zx_ev_blk zk_230 3 (pc1 := 65) (L1 := [some (.ref 0), some (.int v1), some (.int v2), some (.int v3)]) (st1 := [.int v1, .ref 20, .ref 0]) (h1 := (zx_SM, m)) rfl ?_
            obtain ⟨j15, hj15, hf⟩ := zx_bind_eq hf
            refine zx_ev_step zk_230 rfl (st_iald rfl rfl hj15) ?_
            exact zx_ev_sub (L := [some (.ref 0), some (.int v1), some (.int v2), some (.int v3)]) (⟨rfl, ⟨rfl, ⟨rfl, ⟨rfl, trivial⟩⟩⟩⟩) (e_M_which_n66 v1 v2 v3 (m.1 20 j15) m hf)
          · rw [if_neg c14] at hf
            refine zx_ev_ifn zk_230 (P := (m.1 20 j13) ≤ 4) (t := 60) (f := 56) rfl rfl c14 ?_
            refine zx_ev_blk zk_230 2 (pc1 := 66) (L1 := [some (.ref 0), some (.int v1), some (.int v2), some (.int v3)]) (st1 := [.int 4, .ref 0]) (h1 := (zx_SM, m)) rfl ?_
            exact zx_ev_sub (L := [some (.ref 0), some (.int v1), some (.int v2), some (.int v3)]) (⟨rfl, ⟨rfl, ⟨rfl, ⟨rfl, trivial⟩⟩⟩⟩) (e_M_which_n66 v1 v2 v3 4 m hf)
        · rw [if_neg c12] at hf
          refine zx_ev_ifn zk_230 (P := 0 ≤ r11) (t := 45) (f := 38) rfl rfl c12 ?_
          refine zx_ev_blk zk_230 3 (pc1 := 41) (L1 := [some (.ref 0), some (.int v1), some (.int v2), some (.int v3)]) (st1 := [.int 1, .int v1, .ref 0]) (h1 := (zx_SM, m)) rfl ?_
          obtain ⟨r29, hv28, hf⟩ := zx_bind_eq hf
          refine zx_ev_call (d := d + 68) zk_230 (v := some (.int r29)) (h1 := (zx_SM, m)) rfl rfl zt_198 rfl zx_SMn rfl rfl (s_M_rowIs _ _ _ (d := d + 66) hv28) ?_
          obtain rfl := Option.some.inj hf
          exact zx_ev_ret zk_230 rfl rfl
      · rw [if_neg c9] at hf
        refine zx_ev_ifn zk_230 (P := ¬ r8 = 0) (t := 29) (f := 27) rfl rfl c9 ?_
        refine zx_ev_blk zk_230 1 (pc1 := 28) (L1 := [some (.ref 0), some (.int v1), some (.int v2), some (.int v3)]) (st1 := [.int (-1)]) (h1 := (zx_SM, m)) rfl ?_
        obtain rfl := Option.some.inj hf
        exact zx_ev_ret zk_230 rfl rfl
def kx_M_windBy_l26 (v1 : Int32) (v2 : Int32) (m : zx_M) (d : Nat) (out : Option Value × zx_H) : Int32 → Prop
  | y => out = (some (.int y), (zx_SM, m))
def kl_M_windBy_l26 (v1 : Int32) (v2 : Int32) (m : zx_M) (d : Nat) (out : Option Value × zx_H) : (Int32 × Int32 × Int32) ⊕ (Int32) → Prop
  | .inl (v3, v4, v5) => zx_Ev (d + 2) 224 26 [some (.ref 0), some (.int v1), some (.int v2), some (.int v3), some (.int v4), some (.int v5), none, none] [] (zx_SM, m) out
  | .inr x => kx_M_windBy_l26 v1 v2 m d out x
def kx_M_windBy_lb26_37 (v1 : Int32) (v2 : Int32) (v5 : Int32) (m : zx_M) (d : Nat) (out : Option Value × zx_H) : Int32 × Int32 → Prop
  | (x3, x4) => zx_Ev (d + 2) 224 112 [some (.ref 0), some (.int v1), some (.int v2), some (.int x3), some (.int x4), some (.int v5), none, none] [] (zx_SM, m) out
def kl_M_windBy_lb26_37 (v1 : Int32) (v2 : Int32) (v5 : Int32) (m : zx_M) (d : Nat) (out : Option Value × zx_H) : (Int32 × Int32 × Int32) ⊕ (Int32 × Int32) → Prop
  | .inl (v3, v4, v6) => zx_Ev (d + 2) 224 37 [some (.ref 0), some (.int v1), some (.int v2), some (.int v3), some (.int v4), some (.int v5), some (.int v6), none] [] (zx_SM, m) out
  | .inr x => kx_M_windBy_lb26_37 v1 v2 v5 m d out x
def n_M_windBy_b26_b37_106 (v1 : Int32) (v2 : Int32) (v3 : Int32) (v4 : Int32) (v5 : Int32) (v6 : Int32) (m : zx_M) : Option ((Int32 × Int32 × Int32) ⊕ (Int32 × Int32)) := zx_let (v6 + 1) fun a16 => some (.inl (v3, v4, a16))
theorem e_M_windBy_b26_b37_106 (v1 : Int32) (v2 : Int32) (v3 : Int32) (v4 : Int32) (v5 : Int32) (v6 : Int32) (m : zx_M) {d : Nat} {out : Option Value × zx_H} {y : (Int32 × Int32 × Int32) ⊕ (Int32 × Int32)} (hf : n_M_windBy_b26_b37_106 v1 v2 v3 v4 v5 v6 m = some y) (hK : kl_M_windBy_lb26_37 v1 v2 v5 m d out y) : zx_Ev (d + 2) 224 106 [some (.ref 0), some (.int v1), some (.int v2), some (.int v3), some (.int v4), some (.int v5), some (.int v6), none] [] (zx_SM, m) out := by
  unfold n_M_windBy_b26_b37_106 at hf
  obtain ⟨a16, ha16, hf⟩ := zx_let_eq hf
  refine zx_ev_blk zk_224 2 (pc1 := 37) (L1 := [some (.ref 0), some (.int v1), some (.int v2), some (.int v3), some (.int v4), some (.int v5), some (.int a16), none]) (st1 := []) (h1 := (zx_SM, m)) (by subst ha16; rfl) ?_
  obtain rfl := Option.some.inj hf
  exact zx_ev_sub (L := [some (.ref 0), some (.int v1), some (.int v2), some (.int v3), some (.int v4), some (.int v5), some (.int a16), none]) (⟨rfl, ⟨rfl, ⟨rfl, ⟨rfl, ⟨rfl, ⟨rfl, ⟨rfl, trivial⟩⟩⟩⟩⟩⟩⟩) hK
def n_M_windBy_b26_b37_87 (v1 : Int32) (v2 : Int32) (v5 : Int32) (v6 : Int32) (v7 : Int32) (m : zx_M) : Option ((Int32 × Int32 × Int32) ⊕ (Int32 × Int32)) := zx_let (((100 * (v5 + 30)) + v6) + 30) fun a18 => n_M_windBy_b26_b37_106 v1 v2 a18 v7 v5 v6 m
theorem e_M_windBy_b26_b37_87 (v1 : Int32) (v2 : Int32) (v5 : Int32) (v6 : Int32) (v7 : Int32) (m : zx_M) {d : Nat} {out : Option Value × zx_H} {y : (Int32 × Int32 × Int32) ⊕ (Int32 × Int32)} (hf : n_M_windBy_b26_b37_87 v1 v2 v5 v6 v7 m = some y) (hK : kl_M_windBy_lb26_37 v1 v2 v5 m d out y) : zx_Ev (d + 2) 224 87 [some (.ref 0), some (.int v1), some (.int v2), none, none, some (.int v5), some (.int v6), some (.int v7)] [] (zx_SM, m) out := by
  unfold n_M_windBy_b26_b37_87 at hf
  obtain ⟨a18, ha18, hf⟩ := zx_let_eq hf
  refine zx_ev_blk zk_224 12 (pc1 := 106) (L1 := [some (.ref 0), some (.int v1), some (.int v2), some (.int a18), some (.int v7), some (.int v5), some (.int v6), some (.int v7)]) (st1 := []) (h1 := (zx_SM, m)) (by subst ha18; rfl) ?_
  exact zx_ev_sub (L := [some (.ref 0), some (.int v1), some (.int v2), some (.int a18), some (.int v7), some (.int v5), some (.int v6), none]) (⟨rfl, ⟨rfl, ⟨rfl, ⟨rfl, ⟨rfl, ⟨rfl, ⟨rfl, ⟨trivial, trivial⟩⟩⟩⟩⟩⟩⟩⟩) (e_M_windBy_b26_b37_106 v1 v2 a18 v7 v5 v6 m hf hK)
def b_M_windBy_lb26_37 (v1 : Int32) (v2 : Int32) (v3 : Int32) (v4 : Int32) (v5 : Int32) (v6 : Int32) (m : zx_M) : Option ((Int32 × Int32 × Int32) ⊕ (Int32 × Int32)) := if 30 < v6 then some (.inr (v3, v4)) else (f_M_sizeOf v5 m).bind fun r10 => (f_M_sizeOf v6 m).bind fun r12 => zx_let (r10 + r12) fun a13 => (zx_ix 36 34).bind fun j14 => if ¬ (v1 + ((m.1 1 j14) * (v5 + v6))) = v2 then n_M_windBy_b26_b37_106 v1 v2 v3 v4 v5 v6 m else if v3 < 0 then n_M_windBy_b26_b37_87 v1 v2 v5 v6 a13 m else if v4 ≤ a13 then n_M_windBy_b26_b37_106 v1 v2 v3 v4 v5 v6 m else n_M_windBy_b26_b37_87 v1 v2 v5 v6 a13 m
theorem eb_M_windBy_lb26_37 (v1 : Int32) (v2 : Int32) (v3 : Int32) (v4 : Int32) (v5 : Int32) (v6 : Int32) (m : zx_M) {d : Nat} {out : Option Value × zx_H} {y : (Int32 × Int32 × Int32) ⊕ (Int32 × Int32)} (hf : b_M_windBy_lb26_37 v1 v2 v3 v4 v5 v6 m = some y) (hK : kl_M_windBy_lb26_37 v1 v2 v5 m d out y) : zx_Ev (d + 2) 224 37 [some (.ref 0), some (.int v1), some (.int v2), some (.int v3), some (.int v4), some (.int v5), some (.int v6), none] [] (zx_SM, m) out := by
  unfold b_M_windBy_lb26_37 at hf
  refine zx_ev_blk zk_224 2 (pc1 := 41) (L1 := [some (.ref 0), some (.int v1), some (.int v2), some (.int v3), some (.int v4), some (.int v5), some (.int v6), none]) (st1 := [.int 30, .int v6]) (h1 := (zx_SM, m)) rfl ?_
  by_cases c8 : 30 < v6
  · rw [if_pos c8] at hf
    refine zx_ev_ift zk_224 (P := 30 < v6) (t := 112) (f := 44) rfl rfl c8 ?_
    obtain rfl := Option.some.inj hf
    exact zx_ev_sub (L := [some (.ref 0), some (.int v1), some (.int v2), some (.int v3), some (.int v4), some (.int v5), none, none]) (⟨rfl, ⟨rfl, ⟨rfl, ⟨rfl, ⟨rfl, ⟨rfl, ⟨trivial, trivial⟩⟩⟩⟩⟩⟩⟩) hK
  · rw [if_neg c8] at hf
    refine zx_ev_ifn zk_224 (P := 30 < v6) (t := 112) (f := 44) rfl rfl c8 ?_
    refine zx_ev_blk zk_224 1 (pc1 := 46) (L1 := [some (.ref 0), some (.int v1), some (.int v2), some (.int v3), some (.int v4), some (.int v5), some (.int v6), none]) (st1 := [.int v5]) (h1 := (zx_SM, m)) rfl ?_
    obtain ⟨r10, hv9, hf⟩ := zx_bind_eq hf
    refine zx_ev_call (d := d + 1) zk_224 (v := some (.int r10)) (h1 := (zx_SM, m)) rfl rfl zt_158 rfl zx_SMn rfl rfl (s_M_sizeOf _ _ (d := d + 1) hv9) ?_
    refine zx_ev_blk zk_224 1 (pc1 := 51) (L1 := [some (.ref 0), some (.int v1), some (.int v2), some (.int v3), some (.int v4), some (.int v5), some (.int v6), none]) (st1 := [.int v6, .int r10]) (h1 := (zx_SM, m)) rfl ?_
    obtain ⟨r12, hv11, hf⟩ := zx_bind_eq hf
    refine zx_ev_call (d := d + 1) zk_224 (v := some (.int r12)) (h1 := (zx_SM, m)) rfl rfl zt_158 rfl zx_SMn rfl rfl (s_M_sizeOf _ _ (d := d + 1) hv11) ?_
    obtain ⟨a13, ha13, hf⟩ := zx_let_eq hf
    refine zx_ev_blk zk_224 6 (pc1 := 64) (L1 := [some (.ref 0), some (.int v1), some (.int v2), some (.int v3), some (.int v4), some (.int v5), some (.int v6), some (.int a13)]) (st1 := [.int 34, .ref 1, .int v1]) (h1 := (zx_SM, m)) (by subst ha13; rfl) ?_
    obtain ⟨j14, hj14, hf⟩ := zx_bind_eq hf
    refine zx_ev_step zk_224 rfl (st_iald rfl rfl hj14) ?_
    refine zx_ev_blk zk_224 6 (pc1 := 73) (L1 := [some (.ref 0), some (.int v1), some (.int v2), some (.int v3), some (.int v4), some (.int v5), some (.int v6), some (.int a13)]) (st1 := [.int v2, .int (v1 + ((m.1 1 j14) * (v5 + v6)))]) (h1 := (zx_SM, m)) rfl ?_
    by_cases c15 : ¬ (v1 + ((m.1 1 j14) * (v5 + v6))) = v2
    · rw [if_pos c15] at hf
      refine zx_ev_ift zk_224 (P := ¬ (v1 + ((m.1 1 j14) * (v5 + v6))) = v2) (t := 106) (f := 76) rfl rfl c15 ?_
      exact zx_ev_sub (L := [some (.ref 0), some (.int v1), some (.int v2), some (.int v3), some (.int v4), some (.int v5), some (.int v6), none]) (⟨rfl, ⟨rfl, ⟨rfl, ⟨rfl, ⟨rfl, ⟨rfl, ⟨rfl, ⟨trivial, trivial⟩⟩⟩⟩⟩⟩⟩⟩) (e_M_windBy_b26_b37_106 v1 v2 v3 v4 v5 v6 m hf hK)
    · rw [if_neg c15] at hf
      refine zx_ev_ifn zk_224 (P := ¬ (v1 + ((m.1 1 j14) * (v5 + v6))) = v2) (t := 106) (f := 76) rfl rfl c15 ?_
      refine zx_ev_blk zk_224 1 (pc1 := 77) (L1 := [some (.ref 0), some (.int v1), some (.int v2), some (.int v3), some (.int v4), some (.int v5), some (.int v6), some (.int a13)]) (st1 := [.int v3]) (h1 := (zx_SM, m)) rfl ?_
      by_cases c17 : v3 < 0
      · rw [if_pos c17] at hf
        refine zx_ev_ift zk_224 (P := v3 < 0) (t := 87) (f := 80) rfl rfl c17 ?_
        exact zx_ev_sub (L := [some (.ref 0), some (.int v1), some (.int v2), none, none, some (.int v5), some (.int v6), some (.int a13)]) (⟨rfl, ⟨rfl, ⟨rfl, ⟨trivial, ⟨trivial, ⟨rfl, ⟨rfl, ⟨rfl, trivial⟩⟩⟩⟩⟩⟩⟩⟩) (e_M_windBy_b26_b37_87 v1 v2 v5 v6 a13 m hf hK)
      · rw [if_neg c17] at hf
        refine zx_ev_ifn zk_224 (P := v3 < 0) (t := 87) (f := 80) rfl rfl c17 ?_
        refine zx_ev_blk zk_224 2 (pc1 := 84) (L1 := [some (.ref 0), some (.int v1), some (.int v2), some (.int v3), some (.int v4), some (.int v5), some (.int v6), some (.int a13)]) (st1 := [.int v4, .int a13]) (h1 := (zx_SM, m)) rfl ?_
        by_cases c19 : v4 ≤ a13
        · rw [if_pos c19] at hf
          refine zx_ev_ift zk_224 (P := v4 ≤ a13) (t := 106) (f := 87) rfl rfl c19 ?_
          exact zx_ev_sub (L := [some (.ref 0), some (.int v1), some (.int v2), some (.int v3), some (.int v4), some (.int v5), some (.int v6), none]) (⟨rfl, ⟨rfl, ⟨rfl, ⟨rfl, ⟨rfl, ⟨rfl, ⟨rfl, ⟨trivial, trivial⟩⟩⟩⟩⟩⟩⟩⟩) (e_M_windBy_b26_b37_106 v1 v2 v3 v4 v5 v6 m hf hK)
        · rw [if_neg c19] at hf
          refine zx_ev_ifn zk_224 (P := v4 ≤ a13) (t := 106) (f := 87) rfl rfl c19 ?_
          exact zx_ev_sub (L := [some (.ref 0), some (.int v1), some (.int v2), none, none, some (.int v5), some (.int v6), some (.int a13)]) (⟨rfl, ⟨rfl, ⟨rfl, ⟨trivial, ⟨trivial, ⟨rfl, ⟨rfl, ⟨rfl, trivial⟩⟩⟩⟩⟩⟩⟩⟩) (e_M_windBy_b26_b37_87 v1 v2 v5 v6 a13 m hf hK)
def l_M_windBy_lb26_37 (v1 : Int32) (v2 : Int32) (v5 : Int32) (m : zx_M) (s0 : Int32 × Int32 × Int32) : Option (Int32 × Int32) := zx_lp zx_N (fun s : Int32 × Int32 × Int32 => b_M_windBy_lb26_37 v1 v2 s.1 s.2.1 v5 s.2.2 m) s0
theorem el_M_windBy_lb26_37 (v1 : Int32) (v2 : Int32) (v5 : Int32) (m : zx_M) {d : Nat} {out : Option Value × zx_H} : ∀ (n : Nat) (s : Int32 × Int32 × Int32) (x : Int32 × Int32), zx_lp n (fun s : Int32 × Int32 × Int32 => b_M_windBy_lb26_37 v1 v2 s.1 s.2.1 v5 s.2.2 m) s = some x → kx_M_windBy_lb26_37 v1 v2 v5 m d out x → zx_Ev (d + 2) 224 37 [some (.ref 0), some (.int v1), some (.int v2), some (.int s.1), some (.int s.2.1), some (.int v5), some (.int s.2.2), none] [] (zx_SM, m) out := by
  intro n
  induction n with
  | zero => intro s x hl _; simp [zx_lp] at hl
  | succ n ih =>
    intro s x hl hx
    unfold zx_lp at hl
    cases hb : b_M_windBy_lb26_37 v1 v2 s.1 s.2.1 v5 s.2.2 m with
    | none => simp only [hb] at hl; cases hl
    | some z =>
      simp only [hb] at hl
      cases z with
      | inl s1 => exact eb_M_windBy_lb26_37 v1 v2 s.1 s.2.1 v5 s.2.2 m hb (ih s1 x hl hx)
      | inr t =>
        simp only [Option.some.injEq] at hl
        subst hl
        exact eb_M_windBy_lb26_37 v1 v2 s.1 s.2.1 v5 s.2.2 m hb hx
def b_M_windBy_l26 (v1 : Int32) (v2 : Int32) (v3 : Int32) (v4 : Int32) (v5 : Int32) (m : zx_M) : Option ((Int32 × Int32 × Int32) ⊕ (Int32)) := if 30 < v5 then some (.inr v3) else (l_M_windBy_lb26_37 v1 v2 v5 m (v3, v4, (-30))).bind fun x20 => match x20 with | (w21, w22) => zx_let (v5 + 1) fun a23 => some (.inl (w21, w22, a23))
theorem eb_M_windBy_l26 (v1 : Int32) (v2 : Int32) (v3 : Int32) (v4 : Int32) (v5 : Int32) (m : zx_M) {d : Nat} {out : Option Value × zx_H} {y : (Int32 × Int32 × Int32) ⊕ (Int32)} (hf : b_M_windBy_l26 v1 v2 v3 v4 v5 m = some y) (hK : kl_M_windBy_l26 v1 v2 m d out y) : zx_Ev (d + 2) 224 26 [some (.ref 0), some (.int v1), some (.int v2), some (.int v3), some (.int v4), some (.int v5), none, none] [] (zx_SM, m) out := by
  unfold b_M_windBy_l26 at hf
  refine zx_ev_blk zk_224 2 (pc1 := 30) (L1 := [some (.ref 0), some (.int v1), some (.int v2), some (.int v3), some (.int v4), some (.int v5), none, none]) (st1 := [.int 30, .int v5]) (h1 := (zx_SM, m)) rfl ?_
  by_cases c7 : 30 < v5
  · rw [if_pos c7] at hf
    refine zx_ev_ift zk_224 (P := 30 < v5) (t := 118) (f := 33) rfl rfl c7 ?_
    refine zx_ev_blk zk_224 1 (pc1 := 119) (L1 := [some (.ref 0), some (.int v1), some (.int v2), some (.int v3), some (.int v4), some (.int v5), none, none]) (st1 := [.int v3]) (h1 := (zx_SM, m)) rfl ?_
    obtain rfl := Option.some.inj hf
    rw [show out = _ from hK]
    exact zx_ev_ret zk_224 rfl rfl
  · rw [if_neg c7] at hf
    refine zx_ev_ifn zk_224 (P := 30 < v5) (t := 118) (f := 33) rfl rfl c7 ?_
    refine zx_ev_blk zk_224 2 (pc1 := 37) (L1 := [some (.ref 0), some (.int v1), some (.int v2), some (.int v3), some (.int v4), some (.int v5), some (.int (-30)), none]) (st1 := []) (h1 := (zx_SM, m)) rfl ?_
    obtain ⟨x20, hx20, hf⟩ := zx_bind_eq hf
    refine zx_ev_sub (L := [some (.ref 0), some (.int v1), some (.int v2), some (.int v3), some (.int v4), some (.int v5), some (.int (-30)), none]) (⟨rfl, ⟨rfl, ⟨rfl, ⟨rfl, ⟨rfl, ⟨rfl, ⟨rfl, trivial⟩⟩⟩⟩⟩⟩⟩) (el_M_windBy_lb26_37 v1 v2 v5 m zx_N (v3, v4, (-30)) x20 hx20 ?_)
    obtain ⟨w21, w22⟩ := x20
    dsimp only at hf
    show zx_Ev (d + 2) 224 112 [some (.ref 0), some (.int v1), some (.int v2), some (.int w21), some (.int w22), some (.int v5), none, none] [] (zx_SM, m) out
    obtain ⟨a23, ha23, hf⟩ := zx_let_eq hf
    refine zx_ev_blk zk_224 2 (pc1 := 26) (L1 := [some (.ref 0), some (.int v1), some (.int v2), some (.int w21), some (.int w22), some (.int a23), none, none]) (st1 := []) (h1 := (zx_SM, m)) (by subst ha23; rfl) ?_
    obtain rfl := Option.some.inj hf
    exact zx_ev_sub (L := [some (.ref 0), some (.int v1), some (.int v2), some (.int w21), some (.int w22), some (.int a23), none, none]) (⟨rfl, ⟨rfl, ⟨rfl, ⟨rfl, ⟨rfl, ⟨rfl, trivial⟩⟩⟩⟩⟩⟩) hK
def l_M_windBy_l26 (v1 : Int32) (v2 : Int32) (m : zx_M) (s0 : Int32 × Int32 × Int32) : Option (Int32) := zx_lp zx_N (fun s : Int32 × Int32 × Int32 => b_M_windBy_l26 v1 v2 s.1 s.2.1 s.2.2 m) s0
theorem el_M_windBy_l26 (v1 : Int32) (v2 : Int32) (m : zx_M) {d : Nat} {out : Option Value × zx_H} : ∀ (n : Nat) (s : Int32 × Int32 × Int32) (x : Int32), zx_lp n (fun s : Int32 × Int32 × Int32 => b_M_windBy_l26 v1 v2 s.1 s.2.1 s.2.2 m) s = some x → kx_M_windBy_l26 v1 v2 m d out x → zx_Ev (d + 2) 224 26 [some (.ref 0), some (.int v1), some (.int v2), some (.int s.1), some (.int s.2.1), some (.int s.2.2), none, none] [] (zx_SM, m) out := by
  intro n
  induction n with
  | zero => intro s x hl _; simp [zx_lp] at hl
  | succ n ih =>
    intro s x hl hx
    unfold zx_lp at hl
    cases hb : b_M_windBy_l26 v1 v2 s.1 s.2.1 s.2.2 m with
    | none => simp only [hb] at hl; cases hl
    | some z =>
      simp only [hb] at hl
      cases z with
      | inl s1 => exact eb_M_windBy_l26 v1 v2 s.1 s.2.1 s.2.2 m hb (ih s1 x hl hx)
      | inr t =>
        simp only [Option.some.injEq] at hl
        subst hl
        exact eb_M_windBy_l26 v1 v2 s.1 s.2.1 s.2.2 m hb hx
def f_M_windBy (v1 : Int32) (v2 : Int32) (m : zx_M) : Option Int32 := (f_M_isYard v1 m).bind fun r2 => if r2 = 0 then some (-1) else (f_M_isYard v2 m).bind fun r5 => if ¬ r5 = 0 then (l_M_windBy_l26 v1 v2 m ((-2), 0, (-30))).bind fun x24 => zx_let x24 fun y25 => some y25 else some (-1)
theorem s_M_windBy (v1 : Int32) (v2 : Int32) (m : zx_M) {d : Nat} {y : Int32} (hf : f_M_windBy v1 v2 m = some y) : zx_Ev (d + 2) 224 0 [some (.ref 0), some (.int v1), some (.int v2), none, none, none, none, none] [] (zx_SM, m) (some (.int y), (zx_SM, m)) := by
  unfold f_M_windBy at hf
  refine zx_ev_blk zk_224 1 (pc1 := 1) (L1 := [some (.ref 0), some (.int v1), some (.int v2), none, none, none, none, none]) (st1 := [.int v1]) (h1 := (zx_SM, m)) rfl ?_
  obtain ⟨r2, hv1, hf⟩ := zx_bind_eq hf
  refine zx_ev_call (d := d + 1) zk_224 (v := some (.int r2)) (h1 := (zx_SM, m)) rfl rfl zt_166 rfl zx_SMn rfl rfl (s_M_isYard _ _ (d := d + 0) hv1) ?_
  by_cases c3 : r2 = 0
  · rw [if_pos c3] at hf
    refine zx_ev_ift zk_224 (P := r2 = 0) (t := 14) (f := 7) rfl rfl c3 ?_
    refine zx_ev_blk zk_224 1 (pc1 := 15) (L1 := [some (.ref 0), some (.int v1), some (.int v2), none, none, none, none, none]) (st1 := [.int (-1)]) (h1 := (zx_SM, m)) rfl ?_
    obtain rfl := Option.some.inj hf
    exact zx_ev_ret zk_224 rfl rfl
  · rw [if_neg c3] at hf
    refine zx_ev_ifn zk_224 (P := r2 = 0) (t := 14) (f := 7) rfl rfl c3 ?_
    refine zx_ev_blk zk_224 1 (pc1 := 8) (L1 := [some (.ref 0), some (.int v1), some (.int v2), none, none, none, none, none]) (st1 := [.int v2]) (h1 := (zx_SM, m)) rfl ?_
    obtain ⟨r5, hv4, hf⟩ := zx_bind_eq hf
    refine zx_ev_call (d := d + 1) zk_224 (v := some (.int r5)) (h1 := (zx_SM, m)) rfl rfl zt_166 rfl zx_SMn rfl rfl (s_M_isYard _ _ (d := d + 0) hv4) ?_
    by_cases c6 : ¬ r5 = 0
    · rw [if_pos c6] at hf
      refine zx_ev_ift zk_224 (P := ¬ r5 = 0) (t := 16) (f := 14) rfl rfl c6 ?_
      refine zx_ev_blk zk_224 6 (pc1 := 26) (L1 := [some (.ref 0), some (.int v1), some (.int v2), some (.int (-2)), some (.int 0), some (.int (-30)), none, none]) (st1 := []) (h1 := (zx_SM, m)) rfl ?_
      obtain ⟨x24, hx24, hf⟩ := zx_bind_eq hf
      refine zx_ev_sub (L := [some (.ref 0), some (.int v1), some (.int v2), some (.int (-2)), some (.int 0), some (.int (-30)), none, none]) (⟨rfl, ⟨rfl, ⟨rfl, ⟨rfl, ⟨rfl, ⟨rfl, trivial⟩⟩⟩⟩⟩⟩) (el_M_windBy_l26 v1 v2 m zx_N ((-2), 0, (-30)) x24 hx24 ?_)
      obtain ⟨y25, hy25, hf⟩ := zx_let_eq hf
      subst hy25
      obtain rfl := Option.some.inj hf
      rfl
    · rw [if_neg c6] at hf
      refine zx_ev_ifn zk_224 (P := ¬ r5 = 0) (t := 16) (f := 14) rfl rfl c6 ?_
      refine zx_ev_blk zk_224 1 (pc1 := 15) (L1 := [some (.ref 0), some (.int v1), some (.int v2), none, none, none, none, none]) (st1 := [.int (-1)]) (h1 := (zx_SM, m)) rfl ?_
      obtain rfl := Option.some.inj hf
      exact zx_ev_ret zk_224 rfl rfl
