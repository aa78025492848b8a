def f_C_act (v1 : Int32) (v2 : Int32) (v3 : Int32) (m : zx_M) : Option (Int32 × zx_M) := (f_Acts_play v1 v2 v3 m).bind fun (r2, m3) => some (r2, m3)
theorem s_C_act (v1 : Int32) (v2 : Int32) (v3 : Int32) (m : zx_M) {d : Nat} {y : (Int32 × zx_M)} (hf : f_C_act v1 v2 v3 m = some y) : zx_Ev (d + 66) 148 0 [some (.ref 0), some (.int v1), some (.int v2), some (.int v3)] [] (zx_SC, m) (some (.int y.1), (zx_SC, y.2)) := by
  unfold f_C_act at hf
  refine zx_ev_blk zk_148 5 (pc1 := 7) (L1 := [some (.ref 0), some (.int v1), some (.int v2), some (.int v3)]) (st1 := [.int v3, .int v2, .int v1, .ref 38]) (h1 := (zx_SC, m)) rfl ?_
  obtain ⟨⟨r2, m3⟩, hv1, hf⟩ := zx_bind_eq hf
  dsimp only at hf
  refine zx_ev_call (d := d + 65) zk_148 (v := some (.int r2)) (h1 := (zx_SC, m3)) rfl rfl zt_9 rfl zx_SCn rfl rfl (s_Acts_play _ _ _ _ (d := d + 0) hv1) ?_
  obtain rfl := Option.some.inj hf
  exact zx_ev_ret zk_148 rfl rfl
def f_C_back (m : zx_M) : Option (Int32 × zx_M) := if ¬ (m.1 0 10) = 0 then (f_Deed_become_26_32 m).bind fun m3 => (f_Deed_drops_26 m3).bind fun r5 => some (r5, m3) else some ((-5), m)
theorem s_C_back (m : zx_M) {d : Nat} {y : (Int32 × zx_M)} (hf : f_C_back m = some y) : zx_Ev (d + 3) 144 0 [some (.ref 0)] [] (zx_SC, m) (some (.int y.1), (zx_SC, y.2)) := by
  unfold f_C_back at hf
  refine zx_ev_blk zk_144 2 (pc1 := 4) (L1 := [some (.ref 0)]) (st1 := [.int (m.1 0 10)]) (h1 := (zx_SC, m)) rfl ?_
  by_cases c1 : ¬ (m.1 0 10) = 0
  · rw [if_pos c1] at hf
    refine zx_ev_ift zk_144 (P := ¬ (m.1 0 10) = 0) (t := 10) (f := 7) rfl rfl c1 ?_
    refine zx_ev_blk zk_144 4 (pc1 := 18) (L1 := [some (.ref 0)]) (st1 := [.ref 32, .ref 26]) (h1 := (zx_SC, m)) rfl ?_
    obtain ⟨m3, hv2, hf⟩ := zx_bind_eq hf
    refine zx_ev_call (d := d + 2) zk_144 (v := none) (h1 := (zx_SC, m3)) rfl rfl zt_24 rfl zx_SCn rfl rfl (s_Deed_become_26_32 _ (d := d + 0) hv2) ?_
    refine zx_ev_blk zk_144 2 (pc1 := 25) (L1 := [some (.ref 0)]) (st1 := [.ref 26]) (h1 := (zx_SC, m3)) rfl ?_
    obtain ⟨r5, hv4, hf⟩ := zx_bind_eq hf
    refine zx_ev_call (d := d + 2) zk_144 (v := some (.int r5)) (h1 := (zx_SC, m3)) rfl rfl zt_25 rfl zx_SCn rfl rfl (s_Deed_drops_26 _ (d := d + 2) hv4) ?_
    obtain rfl := Option.some.inj hf
    exact zx_ev_ret zk_144 rfl rfl
  · rw [if_neg c1] at hf
    refine zx_ev_ifn zk_144 (P := ¬ (m.1 0 10) = 0) (t := 10) (f := 7) rfl rfl c1 ?_
    refine zx_ev_blk zk_144 1 (pc1 := 9) (L1 := [some (.ref 0)]) (st1 := [.int (-5)]) (h1 := (zx_SC, m)) rfl ?_
    obtain rfl := Option.some.inj hf
    exact zx_ev_ret zk_144 rfl rfl
def f_C_isYard (v0 : Int32) (m : zx_M) : Option Int32 := if v0 < (-999) then some 0 else if 999 < v0 then some 0 else some 1
theorem s_C_isYard (v0 : Int32) (m : zx_M) {d : Nat} {y : Int32} (hf : f_C_isYard v0 m = some y) : zx_Ev (d) 97 0 [some (.int v0)] [] (zx_SC, m) (some (.int y), (zx_SC, m)) := by
  unfold f_C_isYard at hf
  refine zx_ev_blk zk_97 2 (pc1 := 4) (L1 := [some (.int v0)]) (st1 := [.int (-999), .int v0]) (h1 := (zx_SC, m)) rfl ?_
  by_cases c1 : v0 < (-999)
  · rw [if_pos c1] at hf
    refine zx_ev_ift zk_97 (P := v0 < (-999)) (t := 18) (f := 7) rfl rfl c1 ?_
    refine zx_ev_blk zk_97 1 (pc1 := 19) (L1 := [some (.int v0)]) (st1 := [.int 0]) (h1 := (zx_SC, m)) rfl ?_
    obtain rfl := Option.some.inj hf
    exact zx_ev_ret zk_97 rfl (zx_ret_z (Or.inl rfl))
  · rw [if_neg c1] at hf
    refine zx_ev_ifn zk_97 (P := v0 < (-999)) (t := 18) (f := 7) rfl rfl c1 ?_
    refine zx_ev_blk zk_97 2 (pc1 := 11) (L1 := [some (.int v0)]) (st1 := [.int 999, .int v0]) (h1 := (zx_SC, m)) rfl ?_
    by_cases c2 : 999 < v0
    · rw [if_pos c2] at hf
      refine zx_ev_ift zk_97 (P := 999 < v0) (t := 18) (f := 14) rfl rfl c2 ?_
      refine zx_ev_blk zk_97 1 (pc1 := 19) (L1 := [some (.int v0)]) (st1 := [.int 0]) (h1 := (zx_SC, m)) rfl ?_
      obtain rfl := Option.some.inj hf
      exact zx_ev_ret zk_97 rfl (zx_ret_z (Or.inl rfl))
    · rw [if_neg c2] at hf
      refine zx_ev_ifn zk_97 (P := 999 < v0) (t := 18) (f := 14) rfl rfl c2 ?_
      refine zx_ev_blk zk_97 2 (pc1 := 19) (L1 := [some (.int v0)]) (st1 := [.int 1]) (h1 := (zx_SC, m)) rfl ?_
      obtain rfl := Option.some.inj hf
      exact zx_ev_ret zk_97 rfl (zx_ret_z (Or.inr rfl))
def f_C_begin (v1 : Int32) (m : zx_M) : Option (Int32 × zx_M) := (f_C_isYard v1 m).bind fun r2 => if r2 = 0 then some ((-2000000000), m) else (f_Deed_start_26 v1 m).bind fun (r5, m6) => some (r5, m6)
theorem s_C_begin (v1 : Int32) (m : zx_M) {d : Nat} {y : (Int32 × zx_M)} (hf : f_C_begin v1 m = some y) : zx_Ev (d + 2) 139 0 [some (.ref 0), some (.int v1)] [] (zx_SC, m) (some (.int y.1), (zx_SC, y.2)) := by
  unfold f_C_begin at hf
  refine zx_ev_blk zk_139 1 (pc1 := 1) (L1 := [some (.ref 0), some (.int v1)]) (st1 := [.int v1]) (h1 := (zx_SC, m)) rfl ?_
  obtain ⟨r2, hv1, hf⟩ := zx_bind_eq hf
  refine zx_ev_call (d := d + 1) zk_139 (v := some (.int r2)) (h1 := (zx_SC, m)) rfl rfl zt_97 rfl zx_SCn rfl rfl (s_C_isYard _ _ (d := d + 1) hv1) ?_
  by_cases c3 : r2 = 0
  · rw [if_pos c3] at hf
    refine zx_ev_ift zk_139 (P := r2 = 0) (t := 18) (f := 7) rfl rfl c3 ?_
    refine zx_ev_blk zk_139 1 (pc1 := 20) (L1 := [some (.ref 0), some (.int v1)]) (st1 := [.int (-2000000000)]) (h1 := (zx_SC, m)) rfl ?_
    obtain rfl := Option.some.inj hf
    exact zx_ev_ret zk_139 rfl rfl
  · rw [if_neg c3] at hf
    refine zx_ev_ifn zk_139 (P := r2 = 0) (t := 18) (f := 7) rfl rfl c3 ?_
    refine zx_ev_blk zk_139 3 (pc1 := 12) (L1 := [some (.ref 0), some (.int v1)]) (st1 := [.int v1, .ref 26]) (h1 := (zx_SC, m)) rfl ?_
    obtain ⟨⟨r5, m6⟩, hv4, hf⟩ := zx_bind_eq hf
    dsimp only at hf
    refine zx_ev_call (d := d + 1) zk_139 (v := some (.int r5)) (h1 := (zx_SC, m6)) rfl rfl zt_26 rfl zx_SCn rfl rfl (s_Deed_start_26 _ _ (d := d + 0) hv4) ?_
    refine zx_ev_blk zk_139 1 (pc1 := 20) (L1 := [some (.ref 0), some (.int v1)]) (st1 := [.int r5]) (h1 := (zx_SC, m6)) rfl ?_
    obtain rfl := Option.some.inj hf
    exact zx_ev_ret zk_139 rfl rfl
def f_C_body (v1 : Int32) (m : zx_M) : Option (Int32 × zx_M) := (f_Acts_newBody v1 m).bind fun (r2, m3) => some (r2, m3)
theorem s_C_body (v1 : Int32) (m : zx_M) {d : Nat} {y : (Int32 × zx_M)} (hf : f_C_body v1 m = some y) : zx_Ev (d + 2) 147 0 [some (.ref 0), some (.int v1)] [] (zx_SC, m) (some (.int y.1), (zx_SC, y.2)) := by
  unfold f_C_body at hf
  refine zx_ev_blk zk_147 3 (pc1 := 5) (L1 := [some (.ref 0), some (.int v1)]) (st1 := [.int v1, .ref 38]) (h1 := (zx_SC, m)) rfl ?_
  obtain ⟨⟨r2, m3⟩, hv1, hf⟩ := zx_bind_eq hf
  dsimp only at hf
  refine zx_ev_call (d := d + 1) zk_147 (v := some (.int r2)) (h1 := (zx_SC, m3)) rfl rfl zt_5 rfl zx_SCn rfl rfl (s_Acts_newBody _ _ (d := d + 0) hv1) ?_
  obtain rfl := Option.some.inj hf
  exact zx_ev_ret zk_147 rfl rfl
def f_C_steered (v0 : Int32) (v1 : Int32) (v2 : Int32) (m : zx_M) : Option Int32 := if v1 = 0 then some 0 else if ¬ v2 = 0 then if v2 ≤ 0 then some ((-v0) * 5) else some (v0 * 5) else some 0
theorem s_C_steered (v0 : Int32) (v1 : Int32) (v2 : Int32) (m : zx_M) {d : Nat} {y : Int32} (hf : f_C_steered v0 v1 v2 m = some y) : zx_Ev (d) 96 0 [some (.int v0), some (.int v1), some (.int v2)] [] (zx_SC, m) (some (.int y), (zx_SC, m)) := by
  unfold f_C_steered at hf
  refine zx_ev_blk zk_96 1 (pc1 := 1) (L1 := [some (.int v0), some (.int v1), some (.int v2)]) (st1 := [.int v1]) (h1 := (zx_SC, m)) rfl ?_
  by_cases c1 : v1 = 0
  · rw [if_pos c1] at hf
    refine zx_ev_ift zk_96 (P := v1 = 0) (t := 8) (f := 4) rfl rfl c1 ?_
    refine zx_ev_blk zk_96 1 (pc1 := 9) (L1 := [some (.int v0), some (.int v1), some (.int v2)]) (st1 := [.int 0]) (h1 := (zx_SC, m)) rfl ?_
    obtain rfl := Option.some.inj hf
    exact zx_ev_ret zk_96 rfl rfl
  · rw [if_neg c1] at hf
    refine zx_ev_ifn zk_96 (P := v1 = 0) (t := 8) (f := 4) rfl rfl c1 ?_
    refine zx_ev_blk zk_96 1 (pc1 := 5) (L1 := [some (.int v0), some (.int v1), some (.int v2)]) (st1 := [.int v2]) (h1 := (zx_SC, m)) rfl ?_
    by_cases c2 : ¬ v2 = 0
    · rw [if_pos c2] at hf
      refine zx_ev_ift zk_96 (P := ¬ v2 = 0) (t := 10) (f := 8) rfl rfl c2 ?_
      refine zx_ev_blk zk_96 1 (pc1 := 11) (L1 := [some (.int v0), some (.int v1), some (.int v2)]) (st1 := [.int v2]) (h1 := (zx_SC, m)) rfl ?_
      by_cases c3 : v2 ≤ 0
      · rw [if_pos c3] at hf
        refine zx_ev_ift zk_96 (P := v2 ≤ 0) (t := 20) (f := 14) rfl rfl c3 ?_
        refine zx_ev_blk zk_96 4 (pc1 := 24) (L1 := [some (.int v0), some (.int v1), some (.int v2)]) (st1 := [.int ((-v0) * 5)]) (h1 := (zx_SC, m)) rfl ?_
        obtain rfl := Option.some.inj hf
        exact zx_ev_ret zk_96 rfl rfl
      · rw [if_neg c3] at hf
        refine zx_ev_ifn zk_96 (P := v2 ≤ 0) (t := 20) (f := 14) rfl rfl c3 ?_
        refine zx_ev_blk zk_96 4 (pc1 := 24) (L1 := [some (.int v0), some (.int v1), some (.int v2)]) (st1 := [.int (v0 * 5)]) (h1 := (zx_SC, m)) rfl ?_
        obtain rfl := Option.some.inj hf
        exact zx_ev_ret zk_96 rfl rfl
    · rw [if_neg c2] at hf
      refine zx_ev_ifn zk_96 (P := ¬ v2 = 0) (t := 10) (f := 8) rfl rfl c2 ?_
      refine zx_ev_blk zk_96 1 (pc1 := 9) (L1 := [some (.int v0), some (.int v1), some (.int v2)]) (st1 := [.int 0]) (h1 := (zx_SC, m)) rfl ?_
      obtain rfl := Option.some.inj hf
      exact zx_ev_ret zk_96 rfl rfl
def n_C_yardsCarried_n119 (t0 : Int32) (m : zx_M) : Option (Int32 × zx_M) := some (zx_max (-500) (zx_min 500 t0), m)
theorem e_C_yardsCarried_n119 (t0 : Int32) (m : zx_M) {d : Nat} {y : (Int32 × zx_M)} (hf : n_C_yardsCarried_n119 t0 m = some y) : zx_Ev (d + 75) 95 119 [some (.ref 0), none, none, none, none, none, none, none, none] [.int t0] (zx_SC, m) (some (.int y.1), (zx_SC, y.2)) := by
  unfold n_C_yardsCarried_n119 at hf
  refine zx_ev_blk zk_95 6 (pc1 := 135) (L1 := [some (.ref 0), none, none, none, none, none, none, none, some (.int t0)]) (st1 := [.int (zx_max (-500) (zx_min 500 t0))]) (h1 := (zx_SC, m)) rfl ?_
  obtain rfl := Option.some.inj hf
  exact zx_ev_ret zk_95 rfl rfl
def f_C_yardsCarried (v1 : Int32) (m : zx_M) : Option (Int32 × zx_M) := (f_Numbers_told v1 0 m).bind fun r2 => (f_Numbers_told v1 1 m).bind fun r4 => (f_Numbers_told v1 2 m).bind fun r6 => (f_Numbers_told 0 8 m).bind fun r8 => (f_Numbers_told 0 9 m).bind fun r10 => (f_Numbers_told 0 10 m).bind fun r12 => (f_Text_size_12 m).bind fun r14 => if r14 ≤ 0 then (f_C_steered r4 r6 r10 m).bind fun r17 => n_C_yardsCarried_n119 (((r12 * (r8 + r10)) - (r12 * r2)) - r17) m else (f_Text_worth_12 r2 r4 r6 r8 r10 r12 m).bind fun (r19, m20) => n_C_yardsCarried_n119 r19 m20
theorem s_C_yardsCarried (v1 : Int32) (m : zx_M) {d : Nat} {y : (Int32 × zx_M)} (hf : f_C_yardsCarried v1 m = some y) : zx_Ev (d + 75) 95 0 [some (.ref 0), some (.int v1), none, none, none, none, none, none, none] [] (zx_SC, m) (some (.int y.1), (zx_SC, y.2)) := by
  unfold f_C_yardsCarried at hf
  refine zx_ev_blk zk_95 4 (pc1 := 6) (L1 := [some (.ref 0), some (.int v1), none, none, none, none, none, none, none]) (st1 := [.int 0, .int v1, .ref 1]) (h1 := (zx_SC, m)) rfl ?_
  obtain ⟨r2, hv1, hf⟩ := zx_bind_eq hf
  refine zx_ev_call (d := d + 74) zk_95 (v := some (.int r2)) (h1 := (zx_SC, m)) rfl rfl zt_46 rfl zx_SCn rfl rfl (s_Numbers_told _ _ _ (d := d + 74) hv1) ?_
  refine zx_ev_blk zk_95 5 (pc1 := 16) (L1 := [some (.ref 0), some (.int v1), some (.int r2), none, none, none, none, none, none]) (st1 := [.int 1, .int v1, .ref 1]) (h1 := (zx_SC, m)) rfl ?_
  obtain ⟨r4, hv3, hf⟩ := zx_bind_eq hf
  refine zx_ev_call (d := d + 74) zk_95 (v := some (.int r4)) (h1 := (zx_SC, m)) rfl rfl zt_46 rfl zx_SCn rfl rfl (s_Numbers_told _ _ _ (d := d + 74) hv3) ?_
  refine zx_ev_blk zk_95 5 (pc1 := 26) (L1 := [some (.ref 0), some (.int v1), some (.int r2), some (.int r4), none, none, none, none, none]) (st1 := [.int 2, .int v1, .ref 1]) (h1 := (zx_SC, m)) rfl ?_
  obtain ⟨r6, hv5, hf⟩ := zx_bind_eq hf
  refine zx_ev_call (d := d + 74) zk_95 (v := some (.int r6)) (h1 := (zx_SC, m)) rfl rfl zt_46 rfl zx_SCn rfl rfl (s_Numbers_told _ _ _ (d := d + 74) hv5) ?_
  refine zx_ev_blk zk_95 5 (pc1 := 38) (L1 := [some (.ref 0), some (.int v1), some (.int r2), some (.int r4), some (.int r6), none, none, none, none]) (st1 := [.int 8, .int 0, .ref 1]) (h1 := (zx_SC, m)) rfl ?_
  obtain ⟨r8, hv7, hf⟩ := zx_bind_eq hf
  refine zx_ev_call (d := d + 74) zk_95 (v := some (.int r8)) (h1 := (zx_SC, m)) rfl rfl zt_46 rfl zx_SCn rfl rfl (s_Numbers_told _ _ _ (d := d + 74) hv7) ?_
  refine zx_ev_blk zk_95 5 (pc1 := 50) (L1 := [some (.ref 0), some (.int v1), some (.int r2), some (.int r4), some (.int r6), some (.int r8), none, none, none]) (st1 := [.int 9, .int 0, .ref 1]) (h1 := (zx_SC, m)) rfl ?_
  obtain ⟨r10, hv9, hf⟩ := zx_bind_eq hf
  refine zx_ev_call (d := d + 74) zk_95 (v := some (.int r10)) (h1 := (zx_SC, m)) rfl rfl zt_46 rfl zx_SCn rfl rfl (s_Numbers_told _ _ _ (d := d + 74) hv9) ?_
  refine zx_ev_blk zk_95 5 (pc1 := 62) (L1 := [some (.ref 0), some (.int v1), some (.int r2), some (.int r4), some (.int r6), some (.int r8), some (.int r10), none, none]) (st1 := [.int 10, .int 0, .ref 1]) (h1 := (zx_SC, m)) rfl ?_
  obtain ⟨r12, hv11, hf⟩ := zx_bind_eq hf
  refine zx_ev_call (d := d + 74) zk_95 (v := some (.int r12)) (h1 := (zx_SC, m)) rfl rfl zt_46 rfl zx_SCn rfl rfl (s_Numbers_told _ _ _ (d := d + 74) hv11) ?_
  refine zx_ev_blk zk_95 3 (pc1 := 71) (L1 := [some (.ref 0), some (.int v1), some (.int r2), some (.int r4), some (.int r6), some (.int r8), some (.int r10), some (.int r12), none]) (st1 := [.ref 12]) (h1 := (zx_SC, m)) rfl ?_
  obtain ⟨r14, hv13, hf⟩ := zx_bind_eq hf
  refine zx_ev_call (d := d + 74) zk_95 (v := some (.int r14)) (h1 := (zx_SC, m)) rfl rfl zt_72 rfl zx_SCn rfl rfl (s_Text_size_12 _ (d := d + 74) hv13) ?_
  by_cases c15 : r14 ≤ 0
  · rw [if_pos c15] at hf
    refine zx_ev_ift zk_95 (P := r14 ≤ 0) (t := 97) (f := 77) rfl rfl c15 ?_
    refine zx_ev_blk zk_95 12 (pc1 := 115) (L1 := [some (.ref 0), some (.int v1), some (.int r2), some (.int r4), some (.int r6), some (.int r8), some (.int r10), some (.int r12), none]) (st1 := [.int r10, .int r6, .int r4, .int ((r12 * (r8 + r10)) - (r12 * r2))]) (h1 := (zx_SC, m)) rfl ?_
    obtain ⟨r17, hv16, hf⟩ := zx_bind_eq hf
    refine zx_ev_call (d := d + 74) zk_95 (v := some (.int r17)) (h1 := (zx_SC, m)) rfl rfl zt_96 rfl zx_SCn rfl rfl (s_C_steered _ _ _ _ (d := d + 74) hv16) ?_
    refine zx_ev_blk zk_95 1 (pc1 := 119) (L1 := [some (.ref 0), some (.int v1), some (.int r2), some (.int r4), some (.int r6), some (.int r8), some (.int r10), some (.int r12), none]) (st1 := [.int (((r12 * (r8 + r10)) - (r12 * r2)) - r17)]) (h1 := (zx_SC, m)) rfl ?_
    exact zx_ev_sub (L := [some (.ref 0), none, none, none, none, none, none, none, none]) (⟨rfl, ⟨trivial, ⟨trivial, ⟨trivial, ⟨trivial, ⟨trivial, ⟨trivial, ⟨trivial, trivial⟩⟩⟩⟩⟩⟩⟩⟩) (e_C_yardsCarried_n119 (((r12 * (r8 + r10)) - (r12 * r2)) - r17) m hf)
  · rw [if_neg c15] at hf
    refine zx_ev_ifn zk_95 (P := r14 ≤ 0) (t := 97) (f := 77) rfl rfl c15 ?_
    refine zx_ev_blk zk_95 8 (pc1 := 91) (L1 := [some (.ref 0), some (.int v1), some (.int r2), some (.int r4), some (.int r6), some (.int r8), some (.int r10), some (.int r12), none]) (st1 := [.int r12, .int r10, .int r8, .int r6, .int r4, .int r2, .ref 12]) (h1 := (zx_SC, m)) rfl ?_
    obtain ⟨⟨r19, m20⟩, hv18, hf⟩ := zx_bind_eq hf
    dsimp only at hf
    refine zx_ev_call (d := d + 74) zk_95 (v := some (.int r19)) (h1 := (zx_SC, m20)) rfl rfl zt_77 rfl zx_SCn rfl rfl (s_Text_worth_12 _ _ _ _ _ _ _ (d := d + 0) hv18) ?_
    refine zx_ev_blk zk_95 1 (pc1 := 119) (L1 := [some (.ref 0), some (.int v1), some (.int r2), some (.int r4), some (.int r6), some (.int r8), some (.int r10), some (.int r12), none]) (st1 := [.int r19]) (h1 := (zx_SC, m20)) rfl ?_
    exact zx_ev_sub (L := [some (.ref 0), none, none, none, none, none, none, none, none]) (⟨rfl, ⟨trivial, ⟨trivial, ⟨trivial, ⟨trivial, ⟨trivial, ⟨trivial, ⟨trivial, trivial⟩⟩⟩⟩⟩⟩⟩⟩) (e_C_yardsCarried_n119 r19 m20 hf)
def f_C_carried (v1 : Int32) (m : zx_M) : Option (Int32 × zx_M) := (f_Numbers_isJumper v1 m).bind fun r2 => if r2 = 0 then some ((-2000000000), m) else (f_C_yardsCarried v1 m).bind fun (r5, m6) => some (r5, m6)
theorem s_C_carried (v1 : Int32) (m : zx_M) {d : Nat} {y : (Int32 × zx_M)} (hf : f_C_carried v1 m = some y) : zx_Ev (d + 76) 94 0 [some (.ref 0), some (.int v1)] [] (zx_SC, m) (some (.int y.1), (zx_SC, y.2)) := by
  unfold f_C_carried at hf
  refine zx_ev_blk zk_94 3 (pc1 := 5) (L1 := [some (.ref 0), some (.int v1)]) (st1 := [.int v1, .ref 1]) (h1 := (zx_SC, m)) rfl ?_
  obtain ⟨r2, hv1, hf⟩ := zx_bind_eq hf
  refine zx_ev_call (d := d + 75) zk_94 (v := some (.int r2)) (h1 := (zx_SC, m)) rfl rfl zt_43 rfl zx_SCn rfl rfl (s_Numbers_isJumper _ _ (d := d + 75) hv1) ?_
  by_cases c3 : r2 = 0
  · rw [if_pos c3] at hf
    refine zx_ev_ift zk_94 (P := r2 = 0) (t := 19) (f := 11) rfl rfl c3 ?_
    refine zx_ev_blk zk_94 1 (pc1 := 21) (L1 := [some (.ref 0), some (.int v1)]) (st1 := [.int (-2000000000)]) (h1 := (zx_SC, m)) rfl ?_
    obtain rfl := Option.some.inj hf
    exact zx_ev_ret zk_94 rfl rfl
  · rw [if_neg c3] at hf
    refine zx_ev_ifn zk_94 (P := r2 = 0) (t := 19) (f := 11) rfl rfl c3 ?_
    refine zx_ev_blk zk_94 2 (pc1 := 13) (L1 := [some (.ref 0), some (.int v1)]) (st1 := [.int v1, .ref 0]) (h1 := (zx_SC, m)) rfl ?_
    obtain ⟨⟨r5, m6⟩, hv4, hf⟩ := zx_bind_eq hf
    dsimp only at hf
    refine zx_ev_call (d := d + 75) zk_94 (v := some (.int r5)) (h1 := (zx_SC, m6)) rfl rfl zt_95 rfl zx_SCn rfl rfl (s_C_yardsCarried _ _ (d := d + 0) hv4) ?_
    refine zx_ev_blk zk_94 1 (pc1 := 21) (L1 := [some (.ref 0), some (.int v1)]) (st1 := [.int r5]) (h1 := (zx_SC, m6)) rfl ?_
    obtain rfl := Option.some.inj hf
    exact zx_ev_ret zk_94 rfl rfl
def f_C_count (v1 : Int32) (m : zx_M) : Option Int32 := if v1 = 0 then (f_Numbers_jumpersThere m).bind fun r3 => some r3 else if v1 = 1 then (f_Text_size_9 m).bind fun r6 => some r6 else if v1 = 2 then (f_Changes_undoable m).bind fun r9 => some r9 else if v1 = 3 then (f_Acts_bodiesKept m).bind fun r12 => some r12 else if v1 = 4 then (f_Acts_bodiesRun m).bind fun r15 => some r15 else some (-1)
theorem s_C_count (v1 : Int32) (m : zx_M) {d : Nat} {y : Int32} (hf : f_C_count v1 m = some y) : zx_Ev (d + 1) 156 0 [some (.ref 0), some (.int v1)] [] (zx_SC, m) (some (.int y), (zx_SC, m)) := by
  unfold f_C_count at hf
  refine zx_ev_blk zk_156 1 (pc1 := 1) (L1 := [some (.ref 0), some (.int v1)]) (st1 := [.int v1]) (h1 := (zx_SC, m)) rfl ?_
  by_cases c1 : v1 = 0
  · rw [if_pos c1] at hf
    refine zx_ev_tsw zk_156 rfl rfl (zx_pick_hit c1) rfl ?_
    refine zx_ev_blk zk_156 2 (pc1 := 40) (L1 := [some (.ref 0), some (.int v1)]) (st1 := [.ref 1]) (h1 := (zx_SC, m)) rfl ?_
    obtain ⟨r3, hv2, hf⟩ := zx_bind_eq hf
    refine zx_ev_call (d := d + 0) zk_156 (v := some (.int r3)) (h1 := (zx_SC, m)) rfl rfl zt_42 rfl zx_SCn rfl rfl (s_Numbers_jumpersThere _ (d := d + 0) hv2) ?_
    obtain rfl := Option.some.inj hf
    exact zx_ev_ret zk_156 rfl rfl
  · rw [if_neg c1] at hf
    by_cases c4 : v1 = 1
    · rw [if_pos c4] at hf
      refine zx_ev_tsw zk_156 rfl rfl (zx_pick_miss c1 (zx_pick_hit c4)) rfl ?_
      refine zx_ev_blk zk_156 2 (pc1 := 48) (L1 := [some (.ref 0), some (.int v1)]) (st1 := [.ref 9]) (h1 := (zx_SC, m)) rfl ?_
      obtain ⟨r6, hv5, hf⟩ := zx_bind_eq hf
      refine zx_ev_call (d := d + 0) zk_156 (v := some (.int r6)) (h1 := (zx_SC, m)) rfl rfl zt_72 rfl zx_SCn rfl rfl (s_Text_size_9 _ (d := d + 0) hv5) ?_
      obtain rfl := Option.some.inj hf
      exact zx_ev_ret zk_156 rfl rfl
    · rw [if_neg c4] at hf
      by_cases c7 : v1 = 2
      · rw [if_pos c7] at hf
        refine zx_ev_tsw zk_156 rfl rfl (zx_pick_miss c1 (zx_pick_miss c4 (zx_pick_hit c7))) rfl ?_
        refine zx_ev_blk zk_156 2 (pc1 := 56) (L1 := [some (.ref 0), some (.int v1)]) (st1 := [.ref 4]) (h1 := (zx_SC, m)) rfl ?_
        obtain ⟨r9, hv8, hf⟩ := zx_bind_eq hf
        refine zx_ev_call (d := d + 0) zk_156 (v := some (.int r9)) (h1 := (zx_SC, m)) rfl rfl zt_18 rfl zx_SCn rfl rfl (s_Changes_undoable _ (d := d + 0) hv8) ?_
        obtain rfl := Option.some.inj hf
        exact zx_ev_ret zk_156 rfl rfl
      · rw [if_neg c7] at hf
        by_cases c10 : v1 = 3
        · rw [if_pos c10] at hf
          refine zx_ev_tsw zk_156 rfl rfl (zx_pick_miss c1 (zx_pick_miss c4 (zx_pick_miss c7 (zx_pick_hit c10)))) rfl ?_
          refine zx_ev_blk zk_156 2 (pc1 := 64) (L1 := [some (.ref 0), some (.int v1)]) (st1 := [.ref 38]) (h1 := (zx_SC, m)) rfl ?_
          obtain ⟨r12, hv11, hf⟩ := zx_bind_eq hf
          refine zx_ev_call (d := d + 0) zk_156 (v := some (.int r12)) (h1 := (zx_SC, m)) rfl rfl zt_1 rfl zx_SCn rfl rfl (s_Acts_bodiesKept _ (d := d + 0) hv11) ?_
          obtain rfl := Option.some.inj hf
          exact zx_ev_ret zk_156 rfl rfl
        · rw [if_neg c10] at hf
          by_cases c13 : v1 = 4
          · rw [if_pos c13] at hf
            refine zx_ev_tsw zk_156 rfl rfl (zx_pick_miss c1 (zx_pick_miss c4 (zx_pick_miss c7 (zx_pick_miss c10 (zx_pick_hit c13))))) rfl ?_
            refine zx_ev_blk zk_156 2 (pc1 := 72) (L1 := [some (.ref 0), some (.int v1)]) (st1 := [.ref 38]) (h1 := (zx_SC, m)) rfl ?_
            obtain ⟨r15, hv14, hf⟩ := zx_bind_eq hf
            refine zx_ev_call (d := d + 0) zk_156 (v := some (.int r15)) (h1 := (zx_SC, m)) rfl rfl zt_2 rfl zx_SCn rfl rfl (s_Acts_bodiesRun _ (d := d + 0) hv14) ?_
            obtain rfl := Option.some.inj hf
            exact zx_ev_ret zk_156 rfl rfl
          · rw [if_neg c13] at hf
            refine zx_ev_tsw zk_156 rfl rfl (zx_pick_miss c1 (zx_pick_miss c4 (zx_pick_miss c7 (zx_pick_miss c10 (zx_pick_miss c13 rfl))))) rfl ?_
            refine zx_ev_blk zk_156 1 (pc1 := 77) (L1 := [some (.ref 0), some (.int v1)]) (st1 := [.int (-1)]) (h1 := (zx_SC, m)) rfl ?_
            obtain rfl := Option.some.inj hf
            exact zx_ev_ret zk_156 rfl rfl
def f_C_isPart (v0 : Int32) (m : zx_M) : Option Int32 := if v0 = 0 then some 1 else if ¬ v0 = 1 then some 0 else some 1
theorem s_C_isPart (v0 : Int32) (m : zx_M) {d : Nat} {y : Int32} (hf : f_C_isPart v0 m = some y) : zx_Ev (d) 102 0 [some (.int v0)] [] (zx_SC, m) (some (.int y), (zx_SC, m)) := by
  unfold f_C_isPart at hf
  refine zx_ev_blk zk_102 1 (pc1 := 1) (L1 := [some (.int v0)]) (st1 := [.int v0]) (h1 := (zx_SC, m)) rfl ?_
  by_cases c1 : v0 = 0
  · rw [if_pos c1] at hf
    refine zx_ev_ift zk_102 (P := v0 = 0) (t := 9) (f := 4) rfl rfl c1 ?_
    refine zx_ev_blk zk_102 2 (pc1 := 14) (L1 := [some (.int v0)]) (st1 := [.int 1]) (h1 := (zx_SC, m)) rfl ?_
    obtain rfl := Option.some.inj hf
    exact zx_ev_ret zk_102 rfl (zx_ret_z (Or.inr rfl))
  · rw [if_neg c1] at hf
    refine zx_ev_ifn zk_102 (P := v0 = 0) (t := 9) (f := 4) rfl rfl c1 ?_
    refine zx_ev_blk zk_102 2 (pc1 := 6) (L1 := [some (.int v0)]) (st1 := [.int 1, .int v0]) (h1 := (zx_SC, m)) rfl ?_
    by_cases c2 : ¬ v0 = 1
    · rw [if_pos c2] at hf
      refine zx_ev_ift zk_102 (P := ¬ v0 = 1) (t := 13) (f := 9) rfl rfl c2 ?_
      refine zx_ev_blk zk_102 1 (pc1 := 14) (L1 := [some (.int v0)]) (st1 := [.int 0]) (h1 := (zx_SC, m)) rfl ?_
      obtain rfl := Option.some.inj hf
      exact zx_ev_ret zk_102 rfl (zx_ret_z (Or.inl rfl))
    · rw [if_neg c2] at hf
      refine zx_ev_ifn zk_102 (P := ¬ v0 = 1) (t := 13) (f := 9) rfl rfl c2 ?_
      refine zx_ev_blk zk_102 2 (pc1 := 14) (L1 := [some (.int v0)]) (st1 := [.int 1]) (h1 := (zx_SC, m)) rfl ?_
      obtain rfl := Option.some.inj hf
      exact zx_ev_ret zk_102 rfl (zx_ret_z (Or.inr rfl))
def kx_C_weighAll_l2 (d : Nat) (out : Option Value × zx_H) : zx_M → Prop
  | y => out = (none, (zx_SC, y))
def kl_C_weighAll_l2 (d : Nat) (out : Option Value × zx_H) : (Int32 × zx_M) ⊕ (zx_M) → Prop
  | .inl (v1, m) => zx_Ev (d + 76) 104 2 [some (.ref 0), some (.int v1)] [] (zx_SC, m) out
  | .inr x => kx_C_weighAll_l2 d out x
def b_C_weighAll_l2 (v1 : Int32) (m : zx_M) : Option ((Int32 × zx_M) ⊕ (zx_M)) := if 7 ≤ v1 then some (.inr m) else (f_Numbers_jumpersThere m).bind fun r3 => if r3 ≤ v1 then some (.inr m) else (f_C_yardsCarried v1 m).bind fun (r6, m7) => (zx_ix 7 v1).bind fun j8 => zx_let (zx_u1 m7 21 j8 r6) fun m9 => zx_let (v1 + 1) fun a10 => some (.inl (a10, m9))
theorem eb_C_weighAll_l2 (v1 : Int32) (m : zx_M) {d : Nat} {out : Option Value × zx_H} {y : (Int32 × zx_M) ⊕ (zx_M)} (hf : b_C_weighAll_l2 v1 m = some y) (hK : kl_C_weighAll_l2 d out y) : zx_Ev (d + 76) 104 2 [some (.ref 0), some (.int v1)] [] (zx_SC, m) out := by
  unfold b_C_weighAll_l2 at hf
  refine zx_ev_blk zk_104 4 (pc1 := 8) (L1 := [some (.ref 0), some (.int v1)]) (st1 := [.int 7, .int v1]) (h1 := (zx_SC, m)) rfl ?_
  by_cases c1 : 7 ≤ v1
  · rw [if_pos c1] at hf
    refine zx_ev_ift zk_104 (P := 7 ≤ v1) (t := 39) (f := 11) rfl rfl c1 ?_
    obtain rfl := Option.some.inj hf
    rw [show out = _ from hK]
    exact zx_ev_ret zk_104 rfl rfl
  · rw [if_neg c1] at hf
    refine zx_ev_ifn zk_104 (P := 7 ≤ v1) (t := 39) (f := 11) rfl rfl c1 ?_
    refine zx_ev_blk zk_104 3 (pc1 := 16) (L1 := [some (.ref 0), some (.int v1)]) (st1 := [.ref 1, .int v1]) (h1 := (zx_SC, m)) rfl ?_
    obtain ⟨r3, hv2, hf⟩ := zx_bind_eq hf
    refine zx_ev_call (d := d + 75) zk_104 (v := some (.int r3)) (h1 := (zx_SC, m)) rfl rfl zt_42 rfl zx_SCn rfl rfl (s_Numbers_jumpersThere _ (d := d + 75) hv2) ?_
    by_cases c4 : r3 ≤ v1
    · rw [if_pos c4] at hf
      refine zx_ev_ift zk_104 (P := r3 ≤ v1) (t := 39) (f := 22) rfl rfl c4 ?_
      obtain rfl := Option.some.inj hf
      rw [show out = _ from hK]
      exact zx_ev_ret zk_104 rfl rfl
    · rw [if_neg c4] at hf
      refine zx_ev_ifn zk_104 (P := r3 ≤ v1) (t := 39) (f := 22) rfl rfl c4 ?_
      refine zx_ev_blk zk_104 5 (pc1 := 29) (L1 := [some (.ref 0), some (.int v1)]) (st1 := [.int v1, .ref 0, .int v1, .ref 21]) (h1 := (zx_SC, m)) rfl ?_
      obtain ⟨⟨r6, m7⟩, hv5, hf⟩ := zx_bind_eq hf
      dsimp only at hf
      refine zx_ev_call (d := d + 75) zk_104 (v := some (.int r6)) (h1 := (zx_SC, m7)) rfl rfl zt_95 rfl zx_SCn rfl rfl (s_C_yardsCarried _ _ (d := d + 0) hv5) ?_
      obtain ⟨j8, hj8, hf⟩ := zx_bind_eq hf
      refine zx_ev_step zk_104 rfl (st_iast rfl hj8) ?_
      obtain ⟨m9, hm9, hf⟩ := zx_let_eq hf
      rw [hm9]
      obtain ⟨a10, ha10, hf⟩ := zx_let_eq hf
      refine zx_ev_blk zk_104 2 (pc1 := 2) (L1 := [some (.ref 0), some (.int a10)]) (st1 := []) (h1 := (zx_SC, m9)) (by subst ha10; rfl) ?_
      obtain rfl := Option.some.inj hf
      exact zx_ev_sub (L := [some (.ref 0), some (.int a10)]) (⟨rfl, ⟨rfl, trivial⟩⟩) hK
def l_C_weighAll_l2 (s0 : Int32 × zx_M) : Option (zx_M) := zx_lp zx_N (fun s : Int32 × zx_M => b_C_weighAll_l2 s.1 s.2) s0
theorem el_C_weighAll_l2 {d : Nat} {out : Option Value × zx_H} : ∀ (n : Nat) (s : Int32 × zx_M) (x : zx_M), zx_lp n (fun s : Int32 × zx_M => b_C_weighAll_l2 s.1 s.2) s = some x → kx_C_weighAll_l2 d out x → zx_Ev (d + 76) 104 2 [some (.ref 0), some (.int s.1)] [] (zx_SC, s.2) out := by
  intro n
  induction n with
  | zero => intro s x hl _; simp [zx_lp] at hl
  | succ n ih =>
    intro s x hl hx
    unfold zx_lp at hl
    cases hb : b_C_weighAll_l2 s.1 s.2 with
    | none => simp only [hb] at hl; cases hl
    | some z =>
      simp only [hb] at hl
      cases z with
      | inl s1 => exact eb_C_weighAll_l2 s.1 s.2 hb (ih s1 x hl hx)
      | inr t =>
        simp only [Option.some.injEq] at hl
        subst hl
        exact eb_C_weighAll_l2 s.1 s.2 hb hx
def f_C_weighAll (m : zx_M) : Option zx_M := (l_C_weighAll_l2 (0, m)).bind fun x11 => zx_let x11 fun y12 => some y12
theorem s_C_weighAll (m : zx_M) {d : Nat} {y : zx_M} (hf : f_C_weighAll m = some y) : zx_Ev (d + 76) 104 0 [some (.ref 0), none] [] (zx_SC, m) (none, (zx_SC, y)) := by
  unfold f_C_weighAll at hf
  refine zx_ev_blk zk_104 2 (pc1 := 2) (L1 := [some (.ref 0), some (.int 0)]) (st1 := []) (h1 := (zx_SC, m)) rfl ?_
  obtain ⟨x11, hx11, hf⟩ := zx_bind_eq hf
  refine zx_ev_sub (L := [some (.ref 0), some (.int 0)]) (⟨rfl, ⟨rfl, trivial⟩⟩) (el_C_weighAll_l2 zx_N (0, m) x11 hx11 ?_)
  obtain ⟨y12, hy12, hf⟩ := zx_let_eq hf
  subst hy12
  obtain rfl := Option.some.inj hf
  rfl
def kx_C_readOrder_l25 (v1 : Int32) (d : Nat) (out : Option Value × zx_H) : (zx_M) ⊕ (zx_M) → Prop
  | .inl m => zx_Ev (d + 77) 103 73 [some (.ref 0), none, none, none, none] [] (zx_SC, m) out
  | .inr m => zx_Ev (d + 77) 103 91 [some (.ref 0), none, none, none, none] [] (zx_SC, m) out
def kl_C_readOrder_l25 (v1 : Int32) (d : Nat) (out : Option Value × zx_H) : (Int32 × zx_M) ⊕ ((zx_M) ⊕ (zx_M)) → Prop
  | .inl (v3, m) => zx_Ev (d + 77) 103 25 [some (.ref 0), some (.int v1), none, some (.int v3), none] [] (zx_SC, m) out
  | .inr x => kx_C_readOrder_l25 v1 d out x
def b_C_readOrder_l25 (v1 : Int32) (v3 : Int32) (m : zx_M) : Option ((Int32 × zx_M) ⊕ ((zx_M) ⊕ (zx_M))) := (f_Shelves_size v1 m).bind fun r7 => if r7 ≤ v3 then some (.inr (.inr m)) else (f_Shelves_cell v1 v3 m).bind fun r10 => zx_let (Int64.toInt32 r10) fun a11 => (f_Numbers_isJumper a11 m).bind fun r13 => if r13 = 0 then some (.inr (.inr m)) else (f_Order_has a11 m).bind fun r16 => if r16 = 0 then (f_Order_append a11 m).bind fun m19 => zx_let (v3 + 1) fun a20 => some (.inl (a20, m19)) else some (.inr (.inl m))
theorem eb_C_readOrder_l25 (v1 : Int32) (v3 : Int32) (m : zx_M) {d : Nat} {out : Option Value × zx_H} {y : (Int32 × zx_M) ⊕ ((zx_M) ⊕ (zx_M))} (hf : b_C_readOrder_l25 v1 v3 m = some y) (hK : kl_C_readOrder_l25 v1 d out y) : zx_Ev (d + 77) 103 25 [some (.ref 0), some (.int v1), none, some (.int v3), none] [] (zx_SC, m) out := by
  unfold b_C_readOrder_l25 at hf
  refine zx_ev_blk zk_103 4 (pc1 := 31) (L1 := [some (.ref 0), some (.int v1), none, some (.int v3), none]) (st1 := [.int v1, .ref 15, .int v3]) (h1 := (zx_SC, m)) rfl ?_
  obtain ⟨r7, hv6, hf⟩ := zx_bind_eq hf
  refine zx_ev_call (d := d + 76) zk_103 (v := some (.int r7)) (h1 := (zx_SC, m)) rfl rfl zt_62 rfl zx_SCn rfl rfl (s_Shelves_size _ _ (d := d + 75) hv6) ?_
  by_cases c8 : r7 ≤ v3
  · rw [if_pos c8] at hf
    refine zx_ev_ift zk_103 (P := r7 ≤ v3) (t := 91) (f := 37) rfl rfl c8 ?_
    obtain rfl := Option.some.inj hf
    exact zx_ev_sub (L := [some (.ref 0), none, none, none, none]) (⟨rfl, ⟨trivial, ⟨trivial, trivial⟩⟩⟩) hK
  · rw [if_neg c8] at hf
    refine zx_ev_ifn zk_103 (P := r7 ≤ v3) (t := 91) (f := 37) rfl rfl c8 ?_
    refine zx_ev_blk zk_103 4 (pc1 := 43) (L1 := [some (.ref 0), some (.int v1), none, some (.int v3), none]) (st1 := [.int v3, .int v1, .ref 15]) (h1 := (zx_SC, m)) rfl ?_
    obtain ⟨r10, hv9, hf⟩ := zx_bind_eq hf
    refine zx_ev_call (d := d + 76) zk_103 (v := some (.long r10)) (h1 := (zx_SC, m)) rfl rfl zt_66 rfl zx_SCn rfl rfl (s_Shelves_cell _ _ _ (d := d + 74) hv9) ?_
    obtain ⟨a11, ha11, hf⟩ := zx_let_eq hf
    refine zx_ev_blk zk_103 5 (pc1 := 55) (L1 := [some (.ref 0), some (.int v1), none, some (.int v3), some (.int a11)]) (st1 := [.int a11, .ref 1]) (h1 := (zx_SC, m)) (by subst ha11; rfl) ?_
    obtain ⟨r13, hv12, hf⟩ := zx_bind_eq hf
    refine zx_ev_call (d := d + 76) zk_103 (v := some (.int r13)) (h1 := (zx_SC, m)) rfl rfl zt_43 rfl zx_SCn rfl rfl (s_Numbers_isJumper _ _ (d := d + 76) hv12) ?_
    by_cases c14 : r13 = 0
    · rw [if_pos c14] at hf
      refine zx_ev_ift zk_103 (P := r13 = 0) (t := 91) (f := 61) rfl rfl c14 ?_
      obtain rfl := Option.some.inj hf
      exact zx_ev_sub (L := [some (.ref 0), none, none, none, none]) (⟨rfl, ⟨trivial, ⟨trivial, ⟨trivial, trivial⟩⟩⟩⟩) hK
    · rw [if_neg c14] at hf
      refine zx_ev_ifn zk_103 (P := r13 = 0) (t := 91) (f := 61) rfl rfl c14 ?_
      refine zx_ev_blk zk_103 3 (pc1 := 67) (L1 := [some (.ref 0), some (.int v1), none, some (.int v3), some (.int a11)]) (st1 := [.int a11, .ref 19]) (h1 := (zx_SC, m)) rfl ?_
      obtain ⟨r16, hv15, hf⟩ := zx_bind_eq hf
      refine zx_ev_call (d := d + 76) zk_103 (v := some (.int r16)) (h1 := (zx_SC, m)) rfl rfl zt_54 rfl zx_SCn rfl rfl (s_Order_has _ _ (d := d + 75) hv15) ?_
      by_cases c17 : r16 = 0
      · rw [if_pos c17] at hf
        refine zx_ev_ift zk_103 (P := r16 = 0) (t := 76) (f := 73) rfl rfl c17 ?_
        refine zx_ev_blk zk_103 3 (pc1 := 82) (L1 := [some (.ref 0), some (.int v1), none, some (.int v3), some (.int a11)]) (st1 := [.int a11, .ref 19]) (h1 := (zx_SC, m)) rfl ?_
        obtain ⟨m19, hv18, hf⟩ := zx_bind_eq hf
        refine zx_ev_call (d := d + 76) zk_103 (v := none) (h1 := (zx_SC, m19)) rfl rfl zt_55 rfl zx_SCn rfl rfl (s_Order_append _ _ (d := d + 76) hv18) ?_
        obtain ⟨a20, ha20, hf⟩ := zx_let_eq hf
        refine zx_ev_blk zk_103 2 (pc1 := 25) (L1 := [some (.ref 0), some (.int v1), none, some (.int a20), some (.int a11)]) (st1 := []) (h1 := (zx_SC, m19)) (by subst ha20; rfl) ?_
        obtain rfl := Option.some.inj hf
        exact zx_ev_sub (L := [some (.ref 0), some (.int v1), none, some (.int a20), none]) (⟨rfl, ⟨rfl, ⟨rfl, ⟨trivial, trivial⟩⟩⟩⟩) hK
      · rw [if_neg c17] at hf
        refine zx_ev_ifn zk_103 (P := r16 = 0) (t := 76) (f := 73) rfl rfl c17 ?_
        obtain rfl := Option.some.inj hf
        exact zx_ev_sub (L := [some (.ref 0), none, none, none, none]) (⟨rfl, ⟨trivial, ⟨trivial, ⟨trivial, trivial⟩⟩⟩⟩) hK
def l_C_readOrder_l25 (v1 : Int32) (s0 : Int32 × zx_M) : Option ((zx_M) ⊕ (zx_M)) := zx_lp zx_N (fun s : Int32 × zx_M => b_C_readOrder_l25 v1 s.1 s.2) s0
theorem el_C_readOrder_l25 (v1 : Int32) {d : Nat} {out : Option Value × zx_H} : ∀ (n : Nat) (s : Int32 × zx_M) (x : (zx_M) ⊕ (zx_M)), zx_lp n (fun s : Int32 × zx_M => b_C_readOrder_l25 v1 s.1 s.2) s = some x → kx_C_readOrder_l25 v1 d out x → zx_Ev (d + 77) 103 25 [some (.ref 0), some (.int v1), none, some (.int s.1), none] [] (zx_SC, s.2) out := by
  intro n
  induction n with
  | zero => intro s x hl _; simp [zx_lp] at hl
  | succ n ih =>
    intro s x hl hx
    unfold zx_lp at hl
    cases hb : b_C_readOrder_l25 v1 s.1 s.2 with
    | none => simp only [hb] at hl; cases hl
    | some z =>
      simp only [hb] at hl
      cases z with
      | inl s1 => exact eb_C_readOrder_l25 v1 s.1 s.2 hb (ih s1 x hl hx)
      | inr t =>
        simp only [Option.some.injEq] at hl
        subst hl
        exact eb_C_readOrder_l25 v1 s.1 s.2 hb hx
def n_C_readOrder_n91 (m : zx_M) : Option (Int32 × zx_M) := (f_C_weighAll m).bind fun m24 => some (0, m24)
theorem e_C_readOrder_n91 (m : zx_M) {d : Nat} {y : (Int32 × zx_M)} (hf : n_C_readOrder_n91 m = some y) : zx_Ev (d + 77) 103 91 [some (.ref 0), none, none, none, none] [] (zx_SC, m) (some (.int y.1), (zx_SC, y.2)) := by
  unfold n_C_readOrder_n91 at hf
  refine zx_ev_blk zk_103 1 (pc1 := 92) (L1 := [some (.ref 0), none, none, none, none]) (st1 := [.ref 0]) (h1 := (zx_SC, m)) rfl ?_
  obtain ⟨m24, hv23, hf⟩ := zx_bind_eq hf
  refine zx_ev_call (d := d + 76) zk_103 (v := none) (h1 := (zx_SC, m24)) rfl rfl zt_104 rfl zx_SCn rfl rfl (s_C_weighAll _ (d := d + 0) hv23) ?_
  refine zx_ev_blk zk_103 1 (pc1 := 96) (L1 := [some (.ref 0), none, none, none, none]) (st1 := [.int 0]) (h1 := (zx_SC, m24)) rfl ?_
  obtain rfl := Option.some.inj hf
  exact zx_ev_ret zk_103 rfl rfl
def f_C_readOrder (v1 : Int32) (m : zx_M) : Option (Int32 × zx_M) := (f_Shelves_refusal v1 0 m).bind fun r2 => if r2 = 0 then (f_Order_clear m).bind fun m5 => (l_C_readOrder_l25 v1 (0, m5)).bind fun x21 => match x21 with | .inl m22 => (n_C_readOrder_n91 m22) | .inr m25 => (n_C_readOrder_n91 m25) else some (r2, m)
theorem s_C_readOrder (v1 : Int32) (m : zx_M) {d : Nat} {y : (Int32 × zx_M)} (hf : f_C_readOrder v1 m = some y) : zx_Ev (d + 77) 103 0 [some (.ref 0), some (.int v1), none, none, none] [] (zx_SC, m) (some (.int y.1), (zx_SC, y.2)) := by
  unfold f_C_readOrder at hf
  refine zx_ev_blk zk_103 4 (pc1 := 6) (L1 := [some (.ref 0), some (.int v1), none, none, none]) (st1 := [.int 0, .int v1, .ref 15]) (h1 := (zx_SC, m)) rfl ?_
  obtain ⟨r2, hv1, hf⟩ := zx_bind_eq hf
  refine zx_ev_call (d := d + 76) zk_103 (v := some (.int r2)) (h1 := (zx_SC, m)) rfl rfl zt_63 rfl zx_SCn rfl rfl (s_Shelves_refusal _ _ _ (d := d + 75) hv1) ?_
  refine zx_ev_blk zk_103 2 (pc1 := 11) (L1 := [some (.ref 0), some (.int v1), some (.int r2), none, none]) (st1 := [.int r2]) (h1 := (zx_SC, m)) rfl ?_
  by_cases c3 : r2 = 0
  · rw [if_pos c3] at hf
    refine zx_ev_ift zk_103 (P := r2 = 0) (t := 16) (f := 14) rfl rfl c3 ?_
    refine zx_ev_blk zk_103 2 (pc1 := 20) (L1 := [some (.ref 0), some (.int v1), some (.int r2), none, none]) (st1 := [.ref 19]) (h1 := (zx_SC, m)) rfl ?_
    obtain ⟨m5, hv4, hf⟩ := zx_bind_eq hf
    refine zx_ev_call (d := d + 76) zk_103 (v := none) (h1 := (zx_SC, m5)) rfl rfl zt_52 rfl zx_SCn rfl rfl (s_Order_clear _ (d := d + 76) hv4) ?_
    refine zx_ev_blk zk_103 2 (pc1 := 25) (L1 := [some (.ref 0), some (.int v1), some (.int r2), some (.int 0), none]) (st1 := []) (h1 := (zx_SC, m5)) rfl ?_
    obtain ⟨x21, hx21, hf⟩ := zx_bind_eq hf
    refine zx_ev_sub (L := [some (.ref 0), some (.int v1), none, some (.int 0), none]) (⟨rfl, ⟨rfl, ⟨trivial, ⟨rfl, trivial⟩⟩⟩⟩) (el_C_readOrder_l25 v1 zx_N (0, m5) x21 hx21 ?_)
    rcases x21 with m22 | m25
    · dsimp only at hf
      show zx_Ev (d + 77) 103 73 [some (.ref 0), none, none, none, none] [] (zx_SC, m22) _
      refine zx_ev_blk zk_103 1 (pc1 := 91) (L1 := [some (.ref 0), none, none, none, none]) (st1 := []) (h1 := (zx_SC, m22)) rfl ?_
      exact zx_ev_sub (L := [some (.ref 0), none, none, none, none]) (⟨rfl, trivial⟩) (e_C_readOrder_n91 m22 hf)
    · dsimp only at hf
      show zx_Ev (d + 77) 103 91 [some (.ref 0), none, none, none, none] [] (zx_SC, m25) _
      exact zx_ev_sub (L := [some (.ref 0), none, none, none, none]) (⟨rfl, trivial⟩) (e_C_readOrder_n91 m25 hf)
  · rw [if_neg c3] at hf
    refine zx_ev_ifn zk_103 (P := r2 = 0) (t := 16) (f := 14) rfl rfl c3 ?_
    refine zx_ev_blk zk_103 1 (pc1 := 15) (L1 := [some (.ref 0), some (.int v1), some (.int r2), none, none]) (st1 := [.int r2]) (h1 := (zx_SC, m)) rfl ?_
    obtain rfl := Option.some.inj hf
    exact zx_ev_ret zk_103 rfl rfl
def f_C_way (m : zx_M) : Option Int32 := (f_Numbers_told 0 11 m).bind fun r2 => some r2
theorem s_C_way (m : zx_M) {d : Nat} {y : Int32} (hf : f_C_way m = some y) : zx_Ev (d + 1) 106 0 [some (.ref 0)] [] (zx_SC, m) (some (.int y), (zx_SC, m)) := by
  unfold f_C_way at hf
  refine zx_ev_blk zk_106 4 (pc1 := 7) (L1 := [some (.ref 0)]) (st1 := [.int 11, .int 0, .ref 1]) (h1 := (zx_SC, m)) rfl ?_
  obtain ⟨r2, hv1, hf⟩ := zx_bind_eq hf
  refine zx_ev_call (d := d + 0) zk_106 (v := some (.int r2)) (h1 := (zx_SC, m)) rfl rfl zt_46 rfl zx_SCn rfl rfl (s_Numbers_told _ _ _ (d := d + 0) hv1) ?_
  obtain rfl := Option.some.inj hf
  exact zx_ev_ret zk_106 rfl rfl
def f_C_ahead (v1 : Int32) (v2 : Int32) (m : zx_M) : Option Int32 := (f_Numbers_told 0 7 m).bind fun r2 => zx_let (r2 * v1) fun a3 => if ¬ v2 = 0 then some (-a3) else some a3
theorem s_C_ahead (v1 : Int32) (v2 : Int32) (m : zx_M) {d : Nat} {y : Int32} (hf : f_C_ahead v1 v2 m = some y) : zx_Ev (d + 1) 107 0 [some (.ref 0), some (.int v1), some (.int v2), none] [] (zx_SC, m) (some (.int y), (zx_SC, m)) := by
  unfold f_C_ahead at hf
  refine zx_ev_blk zk_107 4 (pc1 := 7) (L1 := [some (.ref 0), some (.int v1), some (.int v2), none]) (st1 := [.int 7, .int 0, .ref 1]) (h1 := (zx_SC, m)) rfl ?_
  obtain ⟨r2, hv1, hf⟩ := zx_bind_eq hf
  refine zx_ev_call (d := d + 0) zk_107 (v := some (.int r2)) (h1 := (zx_SC, m)) rfl rfl zt_46 rfl zx_SCn rfl rfl (s_Numbers_told _ _ _ (d := d + 0) hv1) ?_
  obtain ⟨a3, ha3, hf⟩ := zx_let_eq hf
  refine zx_ev_blk zk_107 4 (pc1 := 14) (L1 := [some (.ref 0), some (.int v1), some (.int v2), some (.int a3)]) (st1 := [.int v2]) (h1 := (zx_SC, m)) (by subst ha3; rfl) ?_
  by_cases c4 : ¬ v2 = 0
  · rw [if_pos c4] at hf
    refine zx_ev_ift zk_107 (P := ¬ v2 = 0) (t := 21) (f := 17) rfl rfl c4 ?_
    refine zx_ev_blk zk_107 2 (pc1 := 23) (L1 := [some (.ref 0), some (.int v1), some (.int v2), some (.int a3)]) (st1 := [.int (-a3)]) (h1 := (zx_SC, m)) rfl ?_
    obtain rfl := Option.some.inj hf
    exact zx_ev_ret zk_107 rfl rfl
  · rw [if_neg c4] at hf
    refine zx_ev_ifn zk_107 (P := ¬ v2 = 0) (t := 21) (f := 17) rfl rfl c4 ?_
    refine zx_ev_blk zk_107 2 (pc1 := 23) (L1 := [some (.ref 0), some (.int v1), some (.int v2), some (.int a3)]) (st1 := [.int a3]) (h1 := (zx_SC, m)) rfl ?_
    obtain rfl := Option.some.inj hf
    exact zx_ev_ret zk_107 rfl rfl
def f_C_carriedOf (v1 : Int32) (m : zx_M) : Option Int32 := if v1 < 0 then some 0 else if 7 ≤ v1 then some 0 else (zx_ix 7 v1).bind fun j3 => some (m.1 21 j3)
theorem s_C_carriedOf (v1 : Int32) (m : zx_M) {d : Nat} {y : Int32} (hf : f_C_carriedOf v1 m = some y) : zx_Ev (d) 105 0 [some (.ref 0), some (.int v1)] [] (zx_SC, m) (some (.int y), (zx_SC, m)) := by
  unfold f_C_carriedOf at hf
  refine zx_ev_blk zk_105 1 (pc1 := 1) (L1 := [some (.ref 0), some (.int v1)]) (st1 := [.int v1]) (h1 := (zx_SC, m)) rfl ?_
  by_cases c1 : v1 < 0
  · rw [if_pos c1] at hf
    refine zx_ev_ift zk_105 (P := v1 < 0) (t := 22) (f := 4) rfl rfl c1 ?_
    refine zx_ev_blk zk_105 1 (pc1 := 23) (L1 := [some (.ref 0), some (.int v1)]) (st1 := [.int 0]) (h1 := (zx_SC, m)) rfl ?_
    obtain rfl := Option.some.inj hf
    exact zx_ev_ret zk_105 rfl rfl
  · rw [if_neg c1] at hf
    refine zx_ev_ifn zk_105 (P := v1 < 0) (t := 22) (f := 4) rfl rfl c1 ?_
    refine zx_ev_blk zk_105 4 (pc1 := 10) (L1 := [some (.ref 0), some (.int v1)]) (st1 := [.int 7, .int v1]) (h1 := (zx_SC, m)) rfl ?_
    by_cases c2 : 7 ≤ v1
    · rw [if_pos c2] at hf
      refine zx_ev_ift zk_105 (P := 7 ≤ v1) (t := 22) (f := 13) rfl rfl c2 ?_
      refine zx_ev_blk zk_105 1 (pc1 := 23) (L1 := [some (.ref 0), some (.int v1)]) (st1 := [.int 0]) (h1 := (zx_SC, m)) rfl ?_
      obtain rfl := Option.some.inj hf
      exact zx_ev_ret zk_105 rfl rfl
    · rw [if_neg c2] at hf
      refine zx_ev_ifn zk_105 (P := 7 ≤ v1) (t := 22) (f := 13) rfl rfl c2 ?_
      refine zx_ev_blk zk_105 3 (pc1 := 18) (L1 := [some (.ref 0), some (.int v1)]) (st1 := [.int v1, .ref 21]) (h1 := (zx_SC, m)) rfl ?_
      obtain ⟨j3, hj3, hf⟩ := zx_bind_eq hf
      refine zx_ev_step zk_105 rfl (st_iald rfl rfl hj3) ?_
      refine zx_ev_blk zk_105 1 (pc1 := 23) (L1 := [some (.ref 0), some (.int v1)]) (st1 := [.int (m.1 21 j3)]) (h1 := (zx_SC, m)) rfl ?_
      obtain rfl := Option.some.inj hf
      exact zx_ev_ret zk_105 rfl rfl
def f_C_sendOut (v1 : Int32) (v2 : Int32) (v3 : Int32) (m : zx_M) : Option zx_M := (f_C_ahead v2 v3 m).bind fun r2 => (f_Order_at v1 m).bind fun r4 => (f_C_carriedOf r4 m).bind fun r6 => (f_Jumps_join_22 v2 (r2 + r6) m).bind fun m8 => some m8
theorem s_C_sendOut (v1 : Int32) (v2 : Int32) (v3 : Int32) (m : zx_M) {d : Nat} {y : zx_M} (hf : f_C_sendOut v1 v2 v3 m = some y) : zx_Ev (d + 2) 108 0 [some (.ref 0), some (.int v1), some (.int v2), some (.int v3)] [] (zx_SC, m) (none, (zx_SC, y)) := by
  unfold f_C_sendOut at hf
  refine zx_ev_blk zk_108 6 (pc1 := 8) (L1 := [some (.ref 0), some (.int v1), some (.int v2), some (.int v3)]) (st1 := [.int v3, .int v2, .ref 0, .int v2, .ref 22]) (h1 := (zx_SC, m)) rfl ?_
  obtain ⟨r2, hv1, hf⟩ := zx_bind_eq hf
  refine zx_ev_call (d := d + 1) zk_108 (v := some (.int r2)) (h1 := (zx_SC, m)) rfl rfl zt_107 rfl zx_SCn rfl rfl (s_C_ahead _ _ _ (d := d + 0) hv1) ?_
  refine zx_ev_blk zk_108 4 (pc1 := 17) (L1 := [some (.ref 0), some (.int v1), some (.int v2), some (.int v3)]) (st1 := [.int v1, .ref 19, .ref 0, .int r2, .int v2, .ref 22]) (h1 := (zx_SC, m)) rfl ?_
  obtain ⟨r4, hv3, hf⟩ := zx_bind_eq hf
  refine zx_ev_call (d := d + 1) zk_108 (v := some (.int r4)) (h1 := (zx_SC, m)) rfl rfl zt_53 rfl zx_SCn rfl rfl (s_Order_at _ _ (d := d + 1) hv3) ?_
  obtain ⟨r6, hv5, hf⟩ := zx_bind_eq hf
  refine zx_ev_call (d := d + 1) zk_108 (v := some (.int r6)) (h1 := (zx_SC, m)) rfl rfl zt_105 rfl zx_SCn rfl rfl (s_C_carriedOf _ _ (d := d + 1) hv5) ?_
  refine zx_ev_blk zk_108 1 (pc1 := 24) (L1 := [some (.ref 0), some (.int v1), some (.int v2), some (.int v3)]) (st1 := [.int (r2 + r6), .int v2, .ref 22]) (h1 := (zx_SC, m)) rfl ?_
  obtain ⟨m8, hv7, hf⟩ := zx_bind_eq hf
  refine zx_ev_call (d := d + 1) zk_108 (v := none) (h1 := (zx_SC, m8)) rfl rfl zt_35 rfl zx_SCn rfl rfl (s_Jumps_join_22 _ _ _ (d := d + 0) hv7) ?_
  obtain rfl := Option.some.inj hf
  exact zx_ev_ret zk_108 rfl rfl
def kx_C_lineUp_l9 (v1 : Int32) (v2 : Int32) (d : Nat) (out : Option Value × zx_H) : zx_M → Prop
  | y => out = (none, (zx_SC, y))
def kl_C_lineUp_l9 (v1 : Int32) (v2 : Int32) (d : Nat) (out : Option Value × zx_H) : (Int32 × zx_M) ⊕ (zx_M) → Prop
  | .inl (v3, m) => zx_Ev (d + 3) 109 9 [some (.ref 0), some (.int v1), some (.int v2), some (.int v3)] [] (zx_SC, m) out
  | .inr x => kx_C_lineUp_l9 v1 v2 d out x
def b_C_lineUp_l9 (v1 : Int32) (v2 : Int32) (v3 : Int32) (m : zx_M) : Option ((Int32 × zx_M) ⊕ (zx_M)) := (f_Order_size m).bind fun r4 => if r4 ≤ v3 then some (.inr m) else (f_C_sendOut v3 (v3 * v1) v2 m).bind fun m7 => zx_let (v3 + 1) fun a8 => some (.inl (a8, m7))
theorem eb_C_lineUp_l9 (v1 : Int32) (v2 : Int32) (v3 : Int32) (m : zx_M) {d : Nat} {out : Option Value × zx_H} {y : (Int32 × zx_M) ⊕ (zx_M)} (hf : b_C_lineUp_l9 v1 v2 v3 m = some y) (hK : kl_C_lineUp_l9 v1 v2 d out y) : zx_Ev (d + 3) 109 9 [some (.ref 0), some (.int v1), some (.int v2), some (.int v3)] [] (zx_SC, m) out := by
  unfold b_C_lineUp_l9 at hf
  refine zx_ev_blk zk_109 3 (pc1 := 14) (L1 := [some (.ref 0), some (.int v1), some (.int v2), some (.int v3)]) (st1 := [.ref 19, .int v3]) (h1 := (zx_SC, m)) rfl ?_
  obtain ⟨r4, hv3, hf⟩ := zx_bind_eq hf
  refine zx_ev_call (d := d + 2) zk_109 (v := some (.int r4)) (h1 := (zx_SC, m)) rfl rfl zt_51 rfl zx_SCn rfl rfl (s_Order_size _ (d := d + 2) hv3) ?_
  by_cases c5 : r4 ≤ v3
  · rw [if_pos c5] at hf
    refine zx_ev_ift zk_109 (P := r4 ≤ v3) (t := 35) (f := 20) rfl rfl c5 ?_
    obtain rfl := Option.some.inj hf
    rw [show out = _ from hK]
    exact zx_ev_ret zk_109 rfl rfl
  · rw [if_neg c5] at hf
    refine zx_ev_ifn zk_109 (P := r4 ≤ v3) (t := 35) (f := 20) rfl rfl c5 ?_
    refine zx_ev_blk zk_109 6 (pc1 := 26) (L1 := [some (.ref 0), some (.int v1), some (.int v2), some (.int v3)]) (st1 := [.int v2, .int (v3 * v1), .int v3, .ref 0]) (h1 := (zx_SC, m)) rfl ?_
    obtain ⟨m7, hv6, hf⟩ := zx_bind_eq hf
    refine zx_ev_call (d := d + 2) zk_109 (v := none) (h1 := (zx_SC, m7)) rfl rfl zt_108 rfl zx_SCn rfl rfl (s_C_sendOut _ _ _ _ (d := d + 0) hv6) ?_
    obtain ⟨a8, ha8, hf⟩ := zx_let_eq hf
    refine zx_ev_blk zk_109 2 (pc1 := 9) (L1 := [some (.ref 0), some (.int v1), some (.int v2), some (.int a8)]) (st1 := []) (h1 := (zx_SC, m7)) (by subst ha8; rfl) ?_
    obtain rfl := Option.some.inj hf
    exact zx_ev_sub (L := [some (.ref 0), some (.int v1), some (.int v2), some (.int a8)]) (⟨rfl, ⟨rfl, ⟨rfl, ⟨rfl, trivial⟩⟩⟩⟩) hK
def l_C_lineUp_l9 (v1 : Int32) (v2 : Int32) (s0 : Int32 × zx_M) : Option (zx_M) := zx_lp zx_N (fun s : Int32 × zx_M => b_C_lineUp_l9 v1 v2 s.1 s.2) s0
theorem el_C_lineUp_l9 (v1 : Int32) (v2 : Int32) {d : Nat} {out : Option Value × zx_H} : ∀ (n : Nat) (s : Int32 × zx_M) (x : zx_M), zx_lp n (fun s : Int32 × zx_M => b_C_lineUp_l9 v1 v2 s.1 s.2) s = some x → kx_C_lineUp_l9 v1 v2 d out x → zx_Ev (d + 3) 109 9 [some (.ref 0), some (.int v1), some (.int v2), some (.int s.1)] [] (zx_SC, s.2) out := by
  intro n
  induction n with
  | zero => intro s x hl _; simp [zx_lp] at hl
  | succ n ih =>
    intro s x hl hx
    unfold zx_lp at hl
    cases hb : b_C_lineUp_l9 v1 v2 s.1 s.2 with
    | none => simp only [hb] at hl; cases hl
    | some z =>
      simp only [hb] at hl
      cases z with
      | inl s1 => exact eb_C_lineUp_l9 v1 v2 s.1 s.2 hb (ih s1 x hl hx)
      | inr t =>
        simp only [Option.some.injEq] at hl
        subst hl
        exact eb_C_lineUp_l9 v1 v2 s.1 s.2 hb hx
def f_C_lineUp (v1 : Int32) (v2 : Int32) (m : zx_M) : Option zx_M := (f_Jumps_clear_22 m).bind fun m2 => (l_C_lineUp_l9 v1 v2 (0, m2)).bind fun x9 => zx_let x9 fun y10 => some y10
theorem s_C_lineUp (v1 : Int32) (v2 : Int32) (m : zx_M) {d : Nat} {y : zx_M} (hf : f_C_lineUp v1 v2 m = some y) : zx_Ev (d + 3) 109 0 [some (.ref 0), some (.int v1), some (.int v2), none] [] (zx_SC, m) (none, (zx_SC, y)) := by
  unfold f_C_lineUp at hf
  refine zx_ev_blk zk_109 2 (pc1 := 4) (L1 := [some (.ref 0), some (.int v1), some (.int v2), none]) (st1 := [.ref 22]) (h1 := (zx_SC, m)) rfl ?_
  obtain ⟨m2, hv1, hf⟩ := zx_bind_eq hf
  refine zx_ev_call (d := d + 2) zk_109 (v := none) (h1 := (zx_SC, m2)) rfl rfl zt_33 rfl zx_SCn rfl rfl (s_Jumps_clear_22 _ (d := d + 2) hv1) ?_
  refine zx_ev_blk zk_109 2 (pc1 := 9) (L1 := [some (.ref 0), some (.int v1), some (.int v2), some (.int 0)]) (st1 := []) (h1 := (zx_SC, m2)) rfl ?_
  obtain ⟨x9, hx9, hf⟩ := zx_bind_eq hf
  refine zx_ev_sub (L := [some (.ref 0), some (.int v1), some (.int v2), some (.int 0)]) (⟨rfl, ⟨rfl, ⟨rfl, ⟨rfl, trivial⟩⟩⟩⟩) (el_C_lineUp_l9 v1 v2 zx_N (0, m2) x9 hx9 ?_)
  obtain ⟨y10, hy10, hf⟩ := zx_let_eq hf
  subst hy10
  obtain rfl := Option.some.inj hf
  rfl
def kx_C_countFor_l40 (v2 : Int32) (v3 : Int32) (d : Nat) (out : Option Value × zx_H) : Int32 × Int32 × zx_M → Prop
  | (x5, x6, m) => zx_Ev (d + 78) 116 88 [some (.ref 0), none, none, some (.int v3), none, some (.int x5), some (.int x6), none, none] [] (zx_SC, m) out
def kl_C_countFor_l40 (v2 : Int32) (v3 : Int32) (d : Nat) (out : Option Value × zx_H) : (Int32 × Int32 × Int32 × zx_M) ⊕ (Int32 × Int32 × zx_M) → Prop
  | .inl (v5, v6, v7, m) => zx_Ev (d + 78) 116 40 [some (.ref 0), none, some (.int v2), some (.int v3), none, some (.int v5), some (.int v6), some (.int v7), none] [] (zx_SC, m) out
  | .inr x => kx_C_countFor_l40 v2 v3 d out x
def n_C_countFor_b40_82 (v2 : Int32) (v3 : Int32) (v5 : Int32) (v6 : Int32) (v7 : Int32) (m : zx_M) : Option ((Int32 × Int32 × Int32 × zx_M) ⊕ (Int32 × Int32 × zx_M)) := zx_let (v7 + 1) fun a19 => some (.inl (v5, v6, a19, m))
theorem e_C_countFor_b40_82 (v2 : Int32) (v3 : Int32) (v5 : Int32) (v6 : Int32) (v7 : Int32) (m : zx_M) {d : Nat} {out : Option Value × zx_H} {y : (Int32 × Int32 × Int32 × zx_M) ⊕ (Int32 × Int32 × zx_M)} (hf : n_C_countFor_b40_82 v2 v3 v5 v6 v7 m = some y) (hK : kl_C_countFor_l40 v2 v3 d out y) : zx_Ev (d + 78) 116 82 [some (.ref 0), none, some (.int v2), some (.int v3), none, some (.int v5), some (.int v6), some (.int v7), none] [] (zx_SC, m) out := by
  unfold n_C_countFor_b40_82 at hf
  obtain ⟨a19, ha19, hf⟩ := zx_let_eq hf
  refine zx_ev_blk zk_116 2 (pc1 := 40) (L1 := [some (.ref 0), none, some (.int v2), some (.int v3), none, some (.int v5), some (.int v6), some (.int a19), none]) (st1 := []) (h1 := (zx_SC, m)) (by subst ha19; rfl) ?_
  obtain rfl := Option.some.inj hf
  exact zx_ev_sub (L := [some (.ref 0), none, some (.int v2), some (.int v3), none, some (.int v5), some (.int v6), some (.int a19), none]) (⟨rfl, ⟨rfl, ⟨rfl, ⟨rfl, ⟨rfl, ⟨rfl, trivial⟩⟩⟩⟩⟩⟩) hK
def b_C_countFor_l40 (v2 : Int32) (v3 : Int32) (v5 : Int32) (v6 : Int32) (v7 : Int32) (m : zx_M) : Option ((Int32 × Int32 × Int32 × zx_M) ⊕ (Int32 × Int32 × zx_M)) := if 20 < v7 then some (.inr (v5, v6, m)) else (f_C_way m).bind fun r13 => (f_C_lineUp v7 r13 m).bind fun m15 => (f_Jumps_good_22 v2 m15).bind fun r17 => if r17 ≤ v6 then n_C_countFor_b40_82 v2 v3 v5 v6 v7 m15 else n_C_countFor_b40_82 v2 v3 v7 r17 v7 m15
theorem eb_C_countFor_l40 (v2 : Int32) (v3 : Int32) (v5 : Int32) (v6 : Int32) (v7 : Int32) (m : zx_M) {d : Nat} {out : Option Value × zx_H} {y : (Int32 × Int32 × Int32 × zx_M) ⊕ (Int32 × Int32 × zx_M)} (hf : b_C_countFor_l40 v2 v3 v5 v6 v7 m = some y) (hK : kl_C_countFor_l40 v2 v3 d out y) : zx_Ev (d + 78) 116 40 [some (.ref 0), none, some (.int v2), some (.int v3), none, some (.int v5), some (.int v6), some (.int v7), none] [] (zx_SC, m) out := by
  unfold b_C_countFor_l40 at hf
  refine zx_ev_blk zk_116 2 (pc1 := 44) (L1 := [some (.ref 0), none, some (.int v2), some (.int v3), none, some (.int v5), some (.int v6), some (.int v7), none]) (st1 := [.int 20, .int v7]) (h1 := (zx_SC, m)) rfl ?_
  by_cases c11 : 20 < v7
  · rw [if_pos c11] at hf
    refine zx_ev_ift zk_116 (P := 20 < v7) (t := 88) (f := 47) rfl rfl c11 ?_
    obtain rfl := Option.some.inj hf
    exact zx_ev_sub (L := [some (.ref 0), none, none, some (.int v3), none, some (.int v5), some (.int v6), none, none]) (⟨rfl, ⟨trivial, ⟨rfl, ⟨rfl, ⟨rfl, ⟨trivial, trivial⟩⟩⟩⟩⟩⟩) hK
  · rw [if_neg c11] at hf
    refine zx_ev_ifn zk_116 (P := 20 < v7) (t := 88) (f := 47) rfl rfl c11 ?_
    refine zx_ev_blk zk_116 3 (pc1 := 51) (L1 := [some (.ref 0), none, some (.int v2), some (.int v3), none, some (.int v5), some (.int v6), some (.int v7), none]) (st1 := [.ref 0, .int v7, .ref 0]) (h1 := (zx_SC, m)) rfl ?_
    obtain ⟨r13, hv12, hf⟩ := zx_bind_eq hf
    refine zx_ev_call (d := d + 77) zk_116 (v := some (.int r13)) (h1 := (zx_SC, m)) rfl rfl zt_106 rfl zx_SCn rfl rfl (s_C_way _ (d := d + 76) hv12) ?_
    obtain ⟨m15, hv14, hf⟩ := zx_bind_eq hf
    refine zx_ev_call (d := d + 77) zk_116 (v := none) (h1 := (zx_SC, m15)) rfl rfl zt_109 rfl zx_SCn rfl rfl (s_C_lineUp _ _ _ (d := d + 74) hv14) ?_
    refine zx_ev_blk zk_116 3 (pc1 := 62) (L1 := [some (.ref 0), none, some (.int v2), some (.int v3), none, some (.int v5), some (.int v6), some (.int v7), none]) (st1 := [.int v2, .ref 22]) (h1 := (zx_SC, m15)) rfl ?_
    obtain ⟨r17, hv16, hf⟩ := zx_bind_eq hf
    refine zx_ev_call (d := d + 77) zk_116 (v := some (.int r17)) (h1 := (zx_SC, m15)) rfl rfl zt_39 rfl zx_SCn rfl rfl (s_Jumps_good_22 _ _ (d := d + 75) hv16) ?_
    refine zx_ev_blk zk_116 3 (pc1 := 71) (L1 := [some (.ref 0), none, some (.int v2), some (.int v3), none, some (.int v5), some (.int v6), some (.int v7), some (.int r17)]) (st1 := [.int v6, .int r17]) (h1 := (zx_SC, m15)) rfl ?_
    by_cases c18 : r17 ≤ v6
    · rw [if_pos c18] at hf
      refine zx_ev_ift zk_116 (P := r17 ≤ v6) (t := 82) (f := 74) rfl rfl c18 ?_
      exact zx_ev_sub (L := [some (.ref 0), none, some (.int v2), some (.int v3), none, some (.int v5), some (.int v6), some (.int v7), none]) (⟨rfl, ⟨rfl, ⟨rfl, ⟨rfl, ⟨rfl, ⟨rfl, ⟨trivial, trivial⟩⟩⟩⟩⟩⟩⟩) (e_C_countFor_b40_82 v2 v3 v5 v6 v7 m15 hf hK)
    · rw [if_neg c18] at hf
      refine zx_ev_ifn zk_116 (P := r17 ≤ v6) (t := 82) (f := 74) rfl rfl c18 ?_
      refine zx_ev_blk zk_116 4 (pc1 := 82) (L1 := [some (.ref 0), none, some (.int v2), some (.int v3), none, some (.int v7), some (.int r17), some (.int v7), some (.int r17)]) (st1 := []) (h1 := (zx_SC, m15)) rfl ?_
      exact zx_ev_sub (L := [some (.ref 0), none, some (.int v2), some (.int v3), none, some (.int v7), some (.int r17), some (.int v7), none]) (⟨rfl, ⟨rfl, ⟨rfl, ⟨rfl, ⟨rfl, ⟨rfl, ⟨trivial, trivial⟩⟩⟩⟩⟩⟩⟩) (e_C_countFor_b40_82 v2 v3 v7 r17 v7 m15 hf hK)
def l_C_countFor_l40 (v2 : Int32) (v3 : Int32) (s0 : Int32 × Int32 × Int32 × zx_M) : Option (Int32 × Int32 × zx_M) := zx_lp zx_N (fun s : Int32 × Int32 × Int32 × zx_M => b_C_countFor_l40 v2 v3 s.1 s.2.1 s.2.2.1 s.2.2.2) s0
theorem el_C_countFor_l40 (v2 : Int32) (v3 : Int32) {d : Nat} {out : Option Value × zx_H} : ∀ (n : Nat) (s : Int32 × Int32 × Int32 × zx_M) (x : Int32 × Int32 × zx_M), zx_lp n (fun s : Int32 × Int32 × Int32 × zx_M => b_C_countFor_l40 v2 v3 s.1 s.2.1 s.2.2.1 s.2.2.2) s = some x → kx_C_countFor_l40 v2 v3 d out x → zx_Ev (d + 78) 116 40 [some (.ref 0), none, some (.int v2), some (.int v3), none, some (.int s.1), some (.int s.2.1), some (.int s.2.2.1), none] [] (zx_SC, s.2.2.2) out := by
  intro n
  induction n with
  | zero => intro s x hl _; simp [zx_lp] at hl
  | succ n ih =>
    intro s x hl hx
    unfold zx_lp at hl
    cases hb : b_C_countFor_l40 v2 v3 s.1 s.2.1 s.2.2.1 s.2.2.2 with
    | none => simp only [hb] at hl; cases hl
    | some z =>
      simp only [hb] at hl
      cases z with
      | inl s1 => exact eb_C_countFor_l40 v2 v3 s.1 s.2.1 s.2.2.1 s.2.2.2 hb (ih s1 x hl hx)
      | inr t =>
        simp only [Option.some.injEq] at hl
        subst hl
        exact eb_C_countFor_l40 v2 v3 s.1 s.2.1 s.2.2.1 s.2.2.2 hb hx
def f_C_countFor (v1 : Int32) (v2 : Int32) (v3 : Int32) (m : zx_M) : Option (Int32 × zx_M) := (f_C_isYard v2 m).bind fun r2 => if r2 = 0 then some ((-1), m) else (f_C_isPart v3 m).bind fun r5 => if ¬ r5 = 0 then (f_C_readOrder v1 m).bind fun (r8, m9) => if r8 = 0 then (l_C_countFor_l40 v2 v3 (1, (-1), 1, m9)).bind fun x20 => match x20 with | (w21, w22, m23) => if ¬ v3 = 0 then some (w22, m23) else some (w21, m23) else some (r8, m9) else some ((-1), m)
theorem s_C_countFor (v1 : Int32) (v2 : Int32) (v3 : Int32) (m : zx_M) {d : Nat} {y : (Int32 × zx_M)} (hf : f_C_countFor v1 v2 v3 m = some y) : zx_Ev (d + 78) 116 0 [some (.ref 0), some (.int v1), some (.int v2), some (.int v3), none, none, none, none, none] [] (zx_SC, m) (some (.int y.1), (zx_SC, y.2)) := by
  unfold f_C_countFor at hf
  refine zx_ev_blk zk_116 1 (pc1 := 1) (L1 := [some (.ref 0), some (.int v1), some (.int v2), some (.int v3), none, none, none, none, none]) (st1 := [.int v2]) (h1 := (zx_SC, m)) rfl ?_
  obtain ⟨r2, hv1, hf⟩ := zx_bind_eq hf
  refine zx_ev_call (d := d + 77) zk_116 (v := some (.int r2)) (h1 := (zx_SC, m)) rfl rfl zt_97 rfl zx_SCn rfl rfl (s_C_isYard _ _ (d := d + 77) hv1) ?_
  by_cases c3 : r2 = 0
  · rw [if_pos c3] at hf
    refine zx_ev_ift zk_116 (P := r2 = 0) (t := 14) (f := 7) rfl rfl c3 ?_
    refine zx_ev_blk zk_116 1 (pc1 := 15) (L1 := [some (.ref 0), some (.int v1), some (.int v2), some (.int v3), none, none, none, none, none]) (st1 := [.int (-1)]) (h1 := (zx_SC, m)) rfl ?_
    obtain rfl := Option.some.inj hf
    exact zx_ev_ret zk_116 rfl rfl
  · rw [if_neg c3] at hf
    refine zx_ev_ifn zk_116 (P := r2 = 0) (t := 14) (f := 7) rfl rfl c3 ?_
    refine zx_ev_blk zk_116 1 (pc1 := 8) (L1 := [some (.ref 0), some (.int v1), some (.int v2), some (.int v3), none, none, none, none, none]) (st1 := [.int v3]) (h1 := (zx_SC, m)) rfl ?_
    obtain ⟨r5, hv4, hf⟩ := zx_bind_eq hf
    refine zx_ev_call (d := d + 77) zk_116 (v := some (.int r5)) (h1 := (zx_SC, m)) rfl rfl zt_102 rfl zx_SCn rfl rfl (s_C_isPart _ _ (d := d + 77) hv4) ?_
    by_cases c6 : ¬ r5 = 0
    · rw [if_pos c6] at hf
      refine zx_ev_ift zk_116 (P := ¬ r5 = 0) (t := 16) (f := 14) rfl rfl c6 ?_
      refine zx_ev_blk zk_116 2 (pc1 := 18) (L1 := [some (.ref 0), some (.int v1), some (.int v2), some (.int v3), none, none, none, none, none]) (st1 := [.int v1, .ref 0]) (h1 := (zx_SC, m)) rfl ?_
      obtain ⟨⟨r8, m9⟩, hv7, hf⟩ := zx_bind_eq hf
      dsimp only at hf
      refine zx_ev_call (d := d + 77) zk_116 (v := some (.int r8)) (h1 := (zx_SC, m9)) rfl rfl zt_103 rfl zx_SCn rfl rfl (s_C_readOrder _ _ (d := d + 0) hv7) ?_
      refine zx_ev_blk zk_116 2 (pc1 := 25) (L1 := [some (.ref 0), some (.int v1), some (.int v2), some (.int v3), some (.int r8), none, none, none, none]) (st1 := [.int r8]) (h1 := (zx_SC, m9)) rfl ?_
      by_cases c10 : r8 = 0
      · rw [if_pos c10] at hf
        refine zx_ev_ift zk_116 (P := r8 = 0) (t := 31) (f := 28) rfl rfl c10 ?_
        refine zx_ev_blk zk_116 6 (pc1 := 40) (L1 := [some (.ref 0), some (.int v1), some (.int v2), some (.int v3), some (.int r8), some (.int 1), some (.int (-1)), some (.int 1), none]) (st1 := []) (h1 := (zx_SC, m9)) rfl ?_
        obtain ⟨x20, hx20, hf⟩ := zx_bind_eq hf
        refine zx_ev_sub (L := [some (.ref 0), none, some (.int v2), some (.int v3), none, some (.int 1), some (.int (-1)), some (.int 1), none]) (⟨rfl, ⟨trivial, ⟨rfl, ⟨rfl, ⟨trivial, ⟨rfl, ⟨rfl, ⟨rfl, trivial⟩⟩⟩⟩⟩⟩⟩⟩) (el_C_countFor_l40 v2 v3 zx_N (1, (-1), 1, m9) x20 hx20 ?_)
        obtain ⟨w21, w22, m23⟩ := x20
        dsimp only at hf
        show zx_Ev (d + 78) 116 88 [some (.ref 0), none, none, some (.int v3), none, some (.int w21), some (.int w22), none, none] [] (zx_SC, m23) _
        refine zx_ev_blk zk_116 1 (pc1 := 89) (L1 := [some (.ref 0), none, none, some (.int v3), none, some (.int w21), some (.int w22), none, none]) (st1 := [.int v3]) (h1 := (zx_SC, m23)) rfl ?_
        by_cases c24 : ¬ v3 = 0
        · rw [if_pos c24] at hf
          refine zx_ev_ift zk_116 (P := ¬ v3 = 0) (t := 97) (f := 92) rfl rfl c24 ?_
          refine zx_ev_blk zk_116 1 (pc1 := 99) (L1 := [some (.ref 0), none, none, some (.int v3), none, some (.int w21), some (.int w22), none, none]) (st1 := [.int w22]) (h1 := (zx_SC, m23)) rfl ?_
          obtain rfl := Option.some.inj hf
          exact zx_ev_ret zk_116 rfl rfl
        · rw [if_neg c24] at hf
          refine zx_ev_ifn zk_116 (P := ¬ v3 = 0) (t := 97) (f := 92) rfl rfl c24 ?_
          refine zx_ev_blk zk_116 2 (pc1 := 99) (L1 := [some (.ref 0), none, none, some (.int v3), none, some (.int w21), some (.int w22), none, none]) (st1 := [.int w21]) (h1 := (zx_SC, m23)) rfl ?_
          obtain rfl := Option.some.inj hf
          exact zx_ev_ret zk_116 rfl rfl
      · rw [if_neg c10] at hf
        refine zx_ev_ifn zk_116 (P := r8 = 0) (t := 31) (f := 28) rfl rfl c10 ?_
        refine zx_ev_blk zk_116 1 (pc1 := 30) (L1 := [some (.ref 0), some (.int v1), some (.int v2), some (.int v3), some (.int r8), none, none, none, none]) (st1 := [.int r8]) (h1 := (zx_SC, m9)) rfl ?_
        obtain rfl := Option.some.inj hf
        exact zx_ev_ret zk_116 rfl rfl
    · rw [if_neg c6] at hf
      refine zx_ev_ifn zk_116 (P := ¬ r5 = 0) (t := 16) (f := 14) rfl rfl c6 ?_
      refine zx_ev_blk zk_116 1 (pc1 := 15) (L1 := [some (.ref 0), some (.int v1), some (.int v2), some (.int v3), none, none, none, none, none]) (st1 := [.int (-1)]) (h1 := (zx_SC, m)) rfl ?_
      obtain rfl := Option.some.inj hf
      exact zx_ev_ret zk_116 rfl rfl
def f_C_isCount (v0 : Int32) (m : zx_M) : Option Int32 := if v0 < 1 then some 0 else if 20 < v0 then some 0 else some 1
theorem s_C_isCount (v0 : Int32) (m : zx_M) {d : Nat} {y : Int32} (hf : f_C_isCount v0 m = some y) : zx_Ev (d) 98 0 [some (.int v0)] [] (zx_SC, m) (some (.int y), (zx_SC, m)) := by
  unfold f_C_isCount at hf
  refine zx_ev_blk zk_98 2 (pc1 := 2) (L1 := [some (.int v0)]) (st1 := [.int 1, .int v0]) (h1 := (zx_SC, m)) rfl ?_
  by_cases c1 : v0 < 1
  · rw [if_pos c1] at hf
    refine zx_ev_ift zk_98 (P := v0 < 1) (t := 15) (f := 5) rfl rfl c1 ?_
    refine zx_ev_blk zk_98 1 (pc1 := 16) (L1 := [some (.int v0)]) (st1 := [.int 0]) (h1 := (zx_SC, m)) rfl ?_
    obtain rfl := Option.some.inj hf
    exact zx_ev_ret zk_98 rfl (zx_ret_z (Or.inl rfl))
  · rw [if_neg c1] at hf
    refine zx_ev_ifn zk_98 (P := v0 < 1) (t := 15) (f := 5) rfl rfl c1 ?_
    refine zx_ev_blk zk_98 2 (pc1 := 8) (L1 := [some (.int v0)]) (st1 := [.int 20, .int v0]) (h1 := (zx_SC, m)) rfl ?_
    by_cases c2 : 20 < v0
    · rw [if_pos c2] at hf
      refine zx_ev_ift zk_98 (P := 20 < v0) (t := 15) (f := 11) rfl rfl c2 ?_
      refine zx_ev_blk zk_98 1 (pc1 := 16) (L1 := [some (.int v0)]) (st1 := [.int 0]) (h1 := (zx_SC, m)) rfl ?_
      obtain rfl := Option.some.inj hf
      exact zx_ev_ret zk_98 rfl (zx_ret_z (Or.inl rfl))
    · rw [if_neg c2] at hf
      refine zx_ev_ifn zk_98 (P := 20 < v0) (t := 15) (f := 11) rfl rfl c2 ?_
      refine zx_ev_blk zk_98 2 (pc1 := 16) (L1 := [some (.int v0)]) (st1 := [.int 1]) (h1 := (zx_SC, m)) rfl ?_
      obtain rfl := Option.some.inj hf
      exact zx_ev_ret zk_98 rfl (zx_ret_z (Or.inr rfl))
def f_C_isSpotAndCount (v0 : Int32) (m : zx_M) : Option Int32 := if v0 < 0 then some 0 else if 1998 < (v0 / 100) then some 0 else (f_C_isCount (zx_rem v0 100) m).bind fun r4 => if r4 = 0 then some 0 else some 1
theorem s_C_isSpotAndCount (v0 : Int32) (m : zx_M) {d : Nat} {y : Int32} (hf : f_C_isSpotAndCount v0 m = some y) : zx_Ev (d + 1) 99 0 [some (.int v0)] [] (zx_SC, m) (some (.int y), (zx_SC, m)) := by
  unfold f_C_isSpotAndCount at hf
  refine zx_ev_blk zk_99 1 (pc1 := 1) (L1 := [some (.int v0)]) (st1 := [.int v0]) (h1 := (zx_SC, m)) rfl ?_
  by_cases c1 : v0 < 0
  · rw [if_pos c1] at hf
    refine zx_ev_ift zk_99 (P := v0 < 0) (t := 28) (f := 4) rfl rfl c1 ?_
    refine zx_ev_blk zk_99 1 (pc1 := 29) (L1 := [some (.int v0)]) (st1 := [.int 0]) (h1 := (zx_SC, m)) rfl ?_
    obtain rfl := Option.some.inj hf
    exact zx_ev_ret zk_99 rfl (zx_ret_z (Or.inl rfl))
  · rw [if_neg c1] at hf
    refine zx_ev_ifn zk_99 (P := v0 < 0) (t := 28) (f := 4) rfl rfl c1 ?_
    refine zx_ev_blk zk_99 2 (pc1 := 7) (L1 := [some (.int v0)]) (st1 := [.int 100, .int v0]) (h1 := (zx_SC, m)) rfl ?_
    refine zx_ev_step zk_99 rfl (st_idiv (by decide)) ?_
    refine zx_ev_blk zk_99 1 (pc1 := 11) (L1 := [some (.int v0)]) (st1 := [.int 1998, .int (v0 / 100)]) (h1 := (zx_SC, m)) rfl ?_
    by_cases c2 : 1998 < (v0 / 100)
    · rw [if_pos c2] at hf
      refine zx_ev_ift zk_99 (P := 1998 < (v0 / 100)) (t := 28) (f := 14) rfl rfl c2 ?_
      refine zx_ev_blk zk_99 1 (pc1 := 29) (L1 := [some (.int v0)]) (st1 := [.int 0]) (h1 := (zx_SC, m)) rfl ?_
      obtain rfl := Option.some.inj hf
      exact zx_ev_ret zk_99 rfl (zx_ret_z (Or.inl rfl))
    · rw [if_neg c2] at hf
      refine zx_ev_ifn zk_99 (P := 1998 < (v0 / 100)) (t := 28) (f := 14) rfl rfl c2 ?_
      refine zx_ev_blk zk_99 2 (pc1 := 17) (L1 := [some (.int v0)]) (st1 := [.int 100, .int v0]) (h1 := (zx_SC, m)) rfl ?_
      refine zx_ev_step zk_99 rfl (st_irem (by decide)) ?_
      obtain ⟨r4, hv3, hf⟩ := zx_bind_eq hf
      refine zx_ev_call (d := d + 0) zk_99 (v := some (.int r4)) (h1 := (zx_SC, m)) rfl rfl zt_98 rfl zx_SCn rfl rfl (s_C_isCount _ _ (d := d + 0) hv3) ?_
      by_cases c5 : r4 = 0
      · rw [if_pos c5] at hf
        refine zx_ev_ift zk_99 (P := r4 = 0) (t := 28) (f := 24) rfl rfl c5 ?_
        refine zx_ev_blk zk_99 1 (pc1 := 29) (L1 := [some (.int v0)]) (st1 := [.int 0]) (h1 := (zx_SC, m)) rfl ?_
        obtain rfl := Option.some.inj hf
        exact zx_ev_ret zk_99 rfl (zx_ret_z (Or.inl rfl))
      · rw [if_neg c5] at hf
        refine zx_ev_ifn zk_99 (P := r4 = 0) (t := 28) (f := 24) rfl rfl c5 ?_
        refine zx_ev_blk zk_99 2 (pc1 := 29) (L1 := [some (.int v0)]) (st1 := [.int 1]) (h1 := (zx_SC, m)) rfl ?_
        obtain rfl := Option.some.inj hf
        exact zx_ev_ret zk_99 rfl (zx_ret_z (Or.inr rfl))
def f_C_countOf (v0 : Int32) (m : zx_M) : Option Int32 := some (zx_rem v0 100)
theorem s_C_countOf (v0 : Int32) (m : zx_M) {d : Nat} {y : Int32} (hf : f_C_countOf v0 m = some y) : zx_Ev (d) 101 0 [some (.int v0)] [] (zx_SC, m) (some (.int y), (zx_SC, m)) := by
  unfold f_C_countOf at hf
  refine zx_ev_blk zk_101 2 (pc1 := 3) (L1 := [some (.int v0)]) (st1 := [.int 100, .int v0]) (h1 := (zx_SC, m)) rfl ?_
  refine zx_ev_step zk_101 rfl (st_irem (by decide)) ?_
  obtain rfl := Option.some.inj hf
  exact zx_ev_ret zk_101 rfl rfl
def f_C_spotOf (v0 : Int32) (m : zx_M) : Option Int32 := some ((v0 / 100) - 999)
theorem s_C_spotOf (v0 : Int32) (m : zx_M) {d : Nat} {y : Int32} (hf : f_C_spotOf v0 m = some y) : zx_Ev (d) 100 0 [some (.int v0)] [] (zx_SC, m) (some (.int y), (zx_SC, m)) := by
  unfold f_C_spotOf at hf
  refine zx_ev_blk zk_100 2 (pc1 := 3) (L1 := [some (.int v0)]) (st1 := [.int 100, .int v0]) (h1 := (zx_SC, m)) rfl ?_
  refine zx_ev_step zk_100 rfl (st_idiv (by decide)) ?_
  refine zx_ev_blk zk_100 2 (pc1 := 8) (L1 := [some (.int v0)]) (st1 := [.int ((v0 / 100) - 999)]) (h1 := (zx_SC, m)) rfl ?_
  obtain rfl := Option.some.inj hf
  exact zx_ev_ret zk_100 rfl rfl
def f_C_down (v1 : Int32) (v2 : Int32) (v3 : Int32) (m : zx_M) : Option (Int32 × zx_M) := (f_C_isSpotAndCount v2 m).bind fun r2 => if r2 = 0 then some ((-2000000000), m) else (f_C_readOrder v1 m).bind fun (r5, m6) => if ¬ r5 = 0 then some ((-2000000000), m6) else if v3 < 0 then some ((-2000000000), m6) else (f_Order_size m6).bind fun r10 => if v3 < r10 then (f_C_countOf v2 m6).bind fun r13 => (f_C_way m6).bind fun r15 => (f_C_lineUp r13 r15 m6).bind fun m17 => (f_C_spotOf v2 m17).bind fun r19 => (f_Jumps_downOf_22 v3 r19 m17).bind fun r21 => some (r21, m17) else some ((-2000000000), m6)
theorem s_C_down (v1 : Int32) (v2 : Int32) (v3 : Int32) (m : zx_M) {d : Nat} {y : (Int32 × zx_M)} (hf : f_C_down v1 v2 v3 m = some y) : zx_Ev (d + 78) 113 0 [some (.ref 0), some (.int v1), some (.int v2), some (.int v3)] [] (zx_SC, m) (some (.int y.1), (zx_SC, y.2)) := by
  unfold f_C_down at hf
  refine zx_ev_blk zk_113 1 (pc1 := 1) (L1 := [some (.ref 0), some (.int v1), some (.int v2), some (.int v3)]) (st1 := [.int v2]) (h1 := (zx_SC, m)) rfl ?_
  obtain ⟨r2, hv1, hf⟩ := zx_bind_eq hf
  refine zx_ev_call (d := d + 77) zk_113 (v := some (.int r2)) (h1 := (zx_SC, m)) rfl rfl zt_99 rfl zx_SCn rfl rfl (s_C_isSpotAndCount _ _ (d := d + 76) hv1) ?_
  by_cases c3 : r2 = 0
  · rw [if_pos c3] at hf
    refine zx_ev_ift zk_113 (P := r2 = 0) (t := 30) (f := 7) rfl rfl c3 ?_
    refine zx_ev_blk zk_113 1 (pc1 := 32) (L1 := [some (.ref 0), some (.int v1), some (.int v2), some (.int v3)]) (st1 := [.int (-2000000000)]) (h1 := (zx_SC, m)) rfl ?_
    obtain rfl := Option.some.inj hf
    exact zx_ev_ret zk_113 rfl rfl
  · rw [if_neg c3] at hf
    refine zx_ev_ifn zk_113 (P := r2 = 0) (t := 30) (f := 7) rfl rfl c3 ?_
    refine zx_ev_blk zk_113 2 (pc1 := 9) (L1 := [some (.ref 0), some (.int v1), some (.int v2), some (.int v3)]) (st1 := [.int v1, .ref 0]) (h1 := (zx_SC, m)) rfl ?_
    obtain ⟨⟨r5, m6⟩, hv4, hf⟩ := zx_bind_eq hf
    dsimp only at hf
    refine zx_ev_call (d := d + 77) zk_113 (v := some (.int r5)) (h1 := (zx_SC, m6)) rfl rfl zt_103 rfl zx_SCn rfl rfl (s_C_readOrder _ _ (d := d + 0) hv4) ?_
    by_cases c7 : ¬ r5 = 0
    · rw [if_pos c7] at hf
      refine zx_ev_ift zk_113 (P := ¬ r5 = 0) (t := 30) (f := 15) rfl rfl c7 ?_
      refine zx_ev_blk zk_113 1 (pc1 := 32) (L1 := [some (.ref 0), some (.int v1), some (.int v2), some (.int v3)]) (st1 := [.int (-2000000000)]) (h1 := (zx_SC, m6)) rfl ?_
      obtain rfl := Option.some.inj hf
      exact zx_ev_ret zk_113 rfl rfl
    · rw [if_neg c7] at hf
      refine zx_ev_ifn zk_113 (P := ¬ r5 = 0) (t := 30) (f := 15) rfl rfl c7 ?_
      refine zx_ev_blk zk_113 1 (pc1 := 16) (L1 := [some (.ref 0), some (.int v1), some (.int v2), some (.int v3)]) (st1 := [.int v3]) (h1 := (zx_SC, m6)) rfl ?_
      by_cases c8 : v3 < 0
      · rw [if_pos c8] at hf
        refine zx_ev_ift zk_113 (P := v3 < 0) (t := 30) (f := 19) rfl rfl c8 ?_
        refine zx_ev_blk zk_113 1 (pc1 := 32) (L1 := [some (.ref 0), some (.int v1), some (.int v2), some (.int v3)]) (st1 := [.int (-2000000000)]) (h1 := (zx_SC, m6)) rfl ?_
        obtain rfl := Option.some.inj hf
        exact zx_ev_ret zk_113 rfl rfl
      · rw [if_neg c8] at hf
        refine zx_ev_ifn zk_113 (P := v3 < 0) (t := 30) (f := 19) rfl rfl c8 ?_
        refine zx_ev_blk zk_113 3 (pc1 := 24) (L1 := [some (.ref 0), some (.int v1), some (.int v2), some (.int v3)]) (st1 := [.ref 19, .int v3]) (h1 := (zx_SC, m6)) rfl ?_
        obtain ⟨r10, hv9, hf⟩ := zx_bind_eq hf
        refine zx_ev_call (d := d + 77) zk_113 (v := some (.int r10)) (h1 := (zx_SC, m6)) rfl rfl zt_51 rfl zx_SCn rfl rfl (s_Order_size _ (d := d + 77) hv9) ?_
        by_cases c11 : v3 < r10
        · rw [if_pos c11] at hf
          refine zx_ev_ift zk_113 (P := v3 < r10) (t := 33) (f := 30) rfl rfl c11 ?_
          refine zx_ev_blk zk_113 2 (pc1 := 35) (L1 := [some (.ref 0), some (.int v1), some (.int v2), some (.int v3)]) (st1 := [.int v2, .ref 0]) (h1 := (zx_SC, m6)) rfl ?_
          obtain ⟨r13, hv12, hf⟩ := zx_bind_eq hf
          refine zx_ev_call (d := d + 77) zk_113 (v := some (.int r13)) (h1 := (zx_SC, m6)) rfl rfl zt_101 rfl zx_SCn rfl rfl (s_C_countOf _ _ (d := d + 77) hv12) ?_
          refine zx_ev_blk zk_113 1 (pc1 := 39) (L1 := [some (.ref 0), some (.int v1), some (.int v2), some (.int v3)]) (st1 := [.ref 0, .int r13, .ref 0]) (h1 := (zx_SC, m6)) rfl ?_
          obtain ⟨r15, hv14, hf⟩ := zx_bind_eq hf
          refine zx_ev_call (d := d + 77) zk_113 (v := some (.int r15)) (h1 := (zx_SC, m6)) rfl rfl zt_106 rfl zx_SCn rfl rfl (s_C_way _ (d := d + 76) hv14) ?_
          obtain ⟨m17, hv16, hf⟩ := zx_bind_eq hf
          refine zx_ev_call (d := d + 77) zk_113 (v := none) (h1 := (zx_SC, m17)) rfl rfl zt_109 rfl zx_SCn rfl rfl (s_C_lineUp _ _ _ (d := d + 74) hv16) ?_
          refine zx_ev_blk zk_113 4 (pc1 := 51) (L1 := [some (.ref 0), some (.int v1), some (.int v2), some (.int v3)]) (st1 := [.int v2, .int v3, .ref 22]) (h1 := (zx_SC, m17)) rfl ?_
          obtain ⟨r19, hv18, hf⟩ := zx_bind_eq hf
          refine zx_ev_call (d := d + 77) zk_113 (v := some (.int r19)) (h1 := (zx_SC, m17)) rfl rfl zt_100 rfl zx_SCn rfl rfl (s_C_spotOf _ _ (d := d + 77) hv18) ?_
          obtain ⟨r21, hv20, hf⟩ := zx_bind_eq hf
          refine zx_ev_call (d := d + 77) zk_113 (v := some (.int r21)) (h1 := (zx_SC, m17)) rfl rfl zt_36 rfl zx_SCn rfl rfl (s_Jumps_downOf_22 _ _ _ (d := d + 77) hv20) ?_
          obtain rfl := Option.some.inj hf
          exact zx_ev_ret zk_113 rfl rfl
        · rw [if_neg c11] at hf
          refine zx_ev_ifn zk_113 (P := v3 < r10) (t := 33) (f := 30) rfl rfl c11 ?_
          refine zx_ev_blk zk_113 1 (pc1 := 32) (L1 := [some (.ref 0), some (.int v1), some (.int v2), some (.int v3)]) (st1 := [.int (-2000000000)]) (h1 := (zx_SC, m6)) rfl ?_
          obtain rfl := Option.some.inj hf
          exact zx_ev_ret zk_113 rfl rfl
def f_C_sticksOf (v1 : Int32) (m : zx_M) : Option Int32 := (f_Order_at v1 m).bind fun r2 => (f_Numbers_told r2 3 m).bind fun r4 => some r4
theorem s_C_sticksOf (v1 : Int32) (m : zx_M) {d : Nat} {y : Int32} (hf : f_C_sticksOf v1 m = some y) : zx_Ev (d + 1) 126 0 [some (.ref 0), some (.int v1)] [] (zx_SC, m) (some (.int y), (zx_SC, m)) := by
  unfold f_C_sticksOf at hf
  refine zx_ev_blk zk_126 5 (pc1 := 9) (L1 := [some (.ref 0), some (.int v1)]) (st1 := [.int v1, .ref 19, .ref 1]) (h1 := (zx_SC, m)) rfl ?_
  obtain ⟨r2, hv1, hf⟩ := zx_bind_eq hf
  refine zx_ev_call (d := d + 0) zk_126 (v := some (.int r2)) (h1 := (zx_SC, m)) rfl rfl zt_53 rfl zx_SCn rfl rfl (s_Order_at _ _ (d := d + 0) hv1) ?_
  refine zx_ev_blk zk_126 1 (pc1 := 13) (L1 := [some (.ref 0), some (.int v1)]) (st1 := [.int 3, .int r2, .ref 1]) (h1 := (zx_SC, m)) rfl ?_
  obtain ⟨r4, hv3, hf⟩ := zx_bind_eq hf
  refine zx_ev_call (d := d + 0) zk_126 (v := some (.int r4)) (h1 := (zx_SC, m)) rfl rfl zt_46 rfl zx_SCn rfl rfl (s_Numbers_told _ _ _ (d := d + 0) hv3) ?_
  obtain rfl := Option.some.inj hf
  exact zx_ev_ret zk_126 rfl rfl
def kx_C_goodIfStopped_l13 (v1 : Int32) (v2 : Int32) (v3 : Int32) (v4 : Int32) (d : Nat) (out : Option Value × zx_H) : zx_M → Prop
  | m => zx_Ev (d + 3) 110 61 [some (.ref 0), none, none, none, some (.int v4), none, none] [] (zx_SC, m) out
def kl_C_goodIfStopped_l13 (v1 : Int32) (v2 : Int32) (v3 : Int32) (v4 : Int32) (d : Nat) (out : Option Value × zx_H) : (Int32 × Int32 × zx_M) ⊕ (zx_M) → Prop
  | .inl (v5, v6, m) => zx_Ev (d + 3) 110 13 [some (.ref 0), some (.int v1), some (.int v2), some (.int v3), some (.int v4), some (.int v5), some (.int v6)] [] (zx_SC, m) out
  | .inr x => kx_C_goodIfStopped_l13 v1 v2 v3 v4 d out x
def n_C_goodIfStopped_b13_34 (v1 : Int32) (v2 : Int32) (v3 : Int32) (v4 : Int32) (v5 : Int32) (v6 : Int32) (m : zx_M) : Option ((Int32 × Int32 × zx_M) ⊕ (zx_M)) := (f_C_countOf v4 m).bind fun r6 => (f_C_way m).bind fun r8 => (f_C_sendOut v6 ((v6 * r6) + v5) r8 m).bind fun m10 => zx_let (v6 + 1) fun a11 => some (.inl (v5, a11, m10))
theorem e_C_goodIfStopped_b13_34 (v1 : Int32) (v2 : Int32) (v3 : Int32) (v4 : Int32) (v5 : Int32) (v6 : Int32) (m : zx_M) {d : Nat} {out : Option Value × zx_H} {y : (Int32 × Int32 × zx_M) ⊕ (zx_M)} (hf : n_C_goodIfStopped_b13_34 v1 v2 v3 v4 v5 v6 m = some y) (hK : kl_C_goodIfStopped_l13 v1 v2 v3 v4 d out y) : zx_Ev (d + 3) 110 34 [some (.ref 0), some (.int v1), some (.int v2), some (.int v3), some (.int v4), some (.int v5), some (.int v6)] [] (zx_SC, m) out := by
  unfold n_C_goodIfStopped_b13_34 at hf
  refine zx_ev_blk zk_110 4 (pc1 := 41) (L1 := [some (.ref 0), some (.int v1), some (.int v2), some (.int v3), some (.int v4), some (.int v5), some (.int v6)]) (st1 := [.int v4, .int v6, .int v6, .ref 0]) (h1 := (zx_SC, m)) rfl ?_
  obtain ⟨r6, hv5, hf⟩ := zx_bind_eq hf
  refine zx_ev_call (d := d + 2) zk_110 (v := some (.int r6)) (h1 := (zx_SC, m)) rfl rfl zt_101 rfl zx_SCn rfl rfl (s_C_countOf _ _ (d := d + 2) hv5) ?_
  refine zx_ev_blk zk_110 4 (pc1 := 49) (L1 := [some (.ref 0), some (.int v1), some (.int v2), some (.int v3), some (.int v4), some (.int v5), some (.int v6)]) (st1 := [.ref 0, .int ((v6 * r6) + v5), .int v6, .ref 0]) (h1 := (zx_SC, m)) rfl ?_
  obtain ⟨r8, hv7, hf⟩ := zx_bind_eq hf
  refine zx_ev_call (d := d + 2) zk_110 (v := some (.int r8)) (h1 := (zx_SC, m)) rfl rfl zt_106 rfl zx_SCn rfl rfl (s_C_way _ (d := d + 1) hv7) ?_
  obtain ⟨m10, hv9, hf⟩ := zx_bind_eq hf
  refine zx_ev_call (d := d + 2) zk_110 (v := none) (h1 := (zx_SC, m10)) rfl rfl zt_108 rfl zx_SCn rfl rfl (s_C_sendOut _ _ _ _ (d := d + 0) hv9) ?_
  obtain ⟨a11, ha11, hf⟩ := zx_let_eq hf
  refine zx_ev_blk zk_110 2 (pc1 := 13) (L1 := [some (.ref 0), some (.int v1), some (.int v2), some (.int v3), some (.int v4), some (.int v5), some (.int a11)]) (st1 := []) (h1 := (zx_SC, m10)) (by subst ha11; rfl) ?_
  obtain rfl := Option.some.inj hf
  exact zx_ev_sub (L := [some (.ref 0), some (.int v1), some (.int v2), some (.int v3), some (.int v4), some (.int v5), some (.int a11)]) (⟨rfl, ⟨rfl, ⟨rfl, ⟨rfl, ⟨rfl, ⟨rfl, ⟨rfl, trivial⟩⟩⟩⟩⟩⟩⟩) hK
def b_C_goodIfStopped_l13 (v1 : Int32) (v2 : Int32) (v3 : Int32) (v4 : Int32) (v5 : Int32) (v6 : Int32) (m : zx_M) : Option ((Int32 × Int32 × zx_M) ⊕ (zx_M)) := if v1 ≤ v6 then some (.inr m) else if ((zx_shr v2 v6) &&& 1) = 0 then n_C_goodIfStopped_b13_34 v1 v2 v3 v4 v5 v6 m else zx_let (v5 + v3) fun a12 => n_C_goodIfStopped_b13_34 v1 v2 v3 v4 a12 v6 m
theorem eb_C_goodIfStopped_l13 (v1 : Int32) (v2 : Int32) (v3 : Int32) (v4 : Int32) (v5 : Int32) (v6 : Int32) (m : zx_M) {d : Nat} {out : Option Value × zx_H} {y : (Int32 × Int32 × zx_M) ⊕ (zx_M)} (hf : b_C_goodIfStopped_l13 v1 v2 v3 v4 v5 v6 m = some y) (hK : kl_C_goodIfStopped_l13 v1 v2 v3 v4 d out y) : zx_Ev (d + 3) 110 13 [some (.ref 0), some (.int v1), some (.int v2), some (.int v3), some (.int v4), some (.int v5), some (.int v6)] [] (zx_SC, m) out := by
  unfold b_C_goodIfStopped_l13 at hf
  refine zx_ev_blk zk_110 2 (pc1 := 16) (L1 := [some (.ref 0), some (.int v1), some (.int v2), some (.int v3), some (.int v4), some (.int v5), some (.int v6)]) (st1 := [.int v1, .int v6]) (h1 := (zx_SC, m)) rfl ?_
  by_cases c3 : v1 ≤ v6
  · rw [if_pos c3] at hf
    refine zx_ev_ift zk_110 (P := v1 ≤ v6) (t := 61) (f := 19) rfl rfl c3 ?_
    obtain rfl := Option.some.inj hf
    exact zx_ev_sub (L := [some (.ref 0), none, none, none, some (.int v4), none, none]) (⟨rfl, ⟨trivial, ⟨trivial, ⟨trivial, ⟨rfl, ⟨trivial, ⟨trivial, trivial⟩⟩⟩⟩⟩⟩⟩) hK
  · rw [if_neg c3] at hf
    refine zx_ev_ifn zk_110 (P := v1 ≤ v6) (t := 61) (f := 19) rfl rfl c3 ?_
    refine zx_ev_blk zk_110 5 (pc1 := 25) (L1 := [some (.ref 0), some (.int v1), some (.int v2), some (.int v3), some (.int v4), some (.int v5), some (.int v6)]) (st1 := [.int ((zx_shr v2 v6) &&& 1)]) (h1 := (zx_SC, m)) rfl ?_
    by_cases c4 : ((zx_shr v2 v6) &&& 1) = 0
    · rw [if_pos c4] at hf
      refine zx_ev_ift zk_110 (P := ((zx_shr v2 v6) &&& 1) = 0) (t := 34) (f := 28) rfl rfl c4 ?_
      exact zx_ev_sub (L := [some (.ref 0), some (.int v1), some (.int v2), some (.int v3), some (.int v4), some (.int v5), some (.int v6)]) (⟨rfl, ⟨rfl, ⟨rfl, ⟨rfl, ⟨rfl, ⟨rfl, ⟨rfl, trivial⟩⟩⟩⟩⟩⟩⟩) (e_C_goodIfStopped_b13_34 v1 v2 v3 v4 v5 v6 m hf hK)
    · rw [if_neg c4] at hf
      refine zx_ev_ifn zk_110 (P := ((zx_shr v2 v6) &&& 1) = 0) (t := 34) (f := 28) rfl rfl c4 ?_
      obtain ⟨a12, ha12, hf⟩ := zx_let_eq hf
      refine zx_ev_blk zk_110 4 (pc1 := 34) (L1 := [some (.ref 0), some (.int v1), some (.int v2), some (.int v3), some (.int v4), some (.int a12), some (.int v6)]) (st1 := []) (h1 := (zx_SC, m)) (by subst ha12; rfl) ?_
      exact zx_ev_sub (L := [some (.ref 0), some (.int v1), some (.int v2), some (.int v3), some (.int v4), some (.int a12), some (.int v6)]) (⟨rfl, ⟨rfl, ⟨rfl, ⟨rfl, ⟨rfl, ⟨rfl, ⟨rfl, trivial⟩⟩⟩⟩⟩⟩⟩) (e_C_goodIfStopped_b13_34 v1 v2 v3 v4 a12 v6 m hf hK)
def l_C_goodIfStopped_l13 (v1 : Int32) (v2 : Int32) (v3 : Int32) (v4 : Int32) (s0 : Int32 × Int32 × zx_M) : Option (zx_M) := zx_lp zx_N (fun s : Int32 × Int32 × zx_M => b_C_goodIfStopped_l13 v1 v2 v3 v4 s.1 s.2.1 s.2.2) s0
theorem el_C_goodIfStopped_l13 (v1 : Int32) (v2 : Int32) (v3 : Int32) (v4 : Int32) {d : Nat} {out : Option Value × zx_H} : ∀ (n : Nat) (s : Int32 × Int32 × zx_M) (x : zx_M), zx_lp n (fun s : Int32 × Int32 × zx_M => b_C_goodIfStopped_l13 v1 v2 v3 v4 s.1 s.2.1 s.2.2) s = some x → kx_C_goodIfStopped_l13 v1 v2 v3 v4 d out x → zx_Ev (d + 3) 110 13 [some (.ref 0), some (.int v1), some (.int v2), some (.int v3), some (.int v4), some (.int s.1), some (.int s.2.1)] [] (zx_SC, s.2.2) out := by
  intro n
  induction n with
  | zero => intro s x hl _; simp [zx_lp] at hl
  | succ n ih =>
    intro s x hl hx
    unfold zx_lp at hl
    cases hb : b_C_goodIfStopped_l13 v1 v2 v3 v4 s.1 s.2.1 s.2.2 with
    | none => simp only [hb] at hl; cases hl
    | some z =>
      simp only [hb] at hl
      cases z with
      | inl s1 => exact eb_C_goodIfStopped_l13 v1 v2 v3 v4 s.1 s.2.1 s.2.2 hb (ih s1 x hl hx)
      | inr t =>
        simp only [Option.some.injEq] at hl
        subst hl
        exact eb_C_goodIfStopped_l13 v1 v2 v3 v4 s.1 s.2.1 s.2.2 hb hx
def f_C_goodIfStopped (v1 : Int32) (v2 : Int32) (v3 : Int32) (v4 : Int32) (m : zx_M) : Option (Int32 × zx_M) := (f_Jumps_clear_22 m).bind fun m2 => (l_C_goodIfStopped_l13 v1 v2 v3 v4 (0, 0, m2)).bind fun x13 => zx_let x13 fun m14 => (f_C_spotOf v4 m14).bind fun r16 => (f_Jumps_good_22 r16 m14).bind fun r18 => some (r18, m14)
theorem s_C_goodIfStopped (v1 : Int32) (v2 : Int32) (v3 : Int32) (v4 : Int32) (m : zx_M) {d : Nat} {y : (Int32 × zx_M)} (hf : f_C_goodIfStopped v1 v2 v3 v4 m = some y) : zx_Ev (d + 3) 110 0 [some (.ref 0), some (.int v1), some (.int v2), some (.int v3), some (.int v4), none, none] [] (zx_SC, m) (some (.int y.1), (zx_SC, y.2)) := by
  unfold f_C_goodIfStopped at hf
  refine zx_ev_blk zk_110 2 (pc1 := 4) (L1 := [some (.ref 0), some (.int v1), some (.int v2), some (.int v3), some (.int v4), none, none]) (st1 := [.ref 22]) (h1 := (zx_SC, m)) rfl ?_
  obtain ⟨m2, hv1, hf⟩ := zx_bind_eq hf
  refine zx_ev_call (d := d + 2) zk_110 (v := none) (h1 := (zx_SC, m2)) rfl rfl zt_33 rfl zx_SCn rfl rfl (s_Jumps_clear_22 _ (d := d + 2) hv1) ?_
  refine zx_ev_blk zk_110 4 (pc1 := 13) (L1 := [some (.ref 0), some (.int v1), some (.int v2), some (.int v3), some (.int v4), some (.int 0), some (.int 0)]) (st1 := []) (h1 := (zx_SC, m2)) rfl ?_
  obtain ⟨x13, hx13, hf⟩ := zx_bind_eq hf
  refine zx_ev_sub (L := [some (.ref 0), some (.int v1), some (.int v2), some (.int v3), some (.int v4), some (.int 0), some (.int 0)]) (⟨rfl, ⟨rfl, ⟨rfl, ⟨rfl, ⟨rfl, ⟨rfl, ⟨rfl, trivial⟩⟩⟩⟩⟩⟩⟩) (el_C_goodIfStopped_l13 v1 v2 v3 v4 zx_N (0, 0, m2) x13 hx13 ?_)
  obtain ⟨m14, hm14, hf⟩ := zx_let_eq hf
  subst hm14
  show zx_Ev (d + 3) 110 61 [some (.ref 0), none, none, none, some (.int v4), none, none] [] (zx_SC, x13) _
  refine zx_ev_blk zk_110 3 (pc1 := 67) (L1 := [some (.ref 0), none, none, none, some (.int v4), none, none]) (st1 := [.int v4, .ref 22]) (h1 := (zx_SC, x13)) rfl ?_
  obtain ⟨r16, hv15, hf⟩ := zx_bind_eq hf
  refine zx_ev_call (d := d + 2) zk_110 (v := some (.int r16)) (h1 := (zx_SC, x13)) rfl rfl zt_100 rfl zx_SCn rfl rfl (s_C_spotOf _ _ (d := d + 2) hv15) ?_
  obtain ⟨r18, hv17, hf⟩ := zx_bind_eq hf
  refine zx_ev_call (d := d + 2) zk_110 (v := some (.int r18)) (h1 := (zx_SC, x13)) rfl rfl zt_39 rfl zx_SCn rfl rfl (s_Jumps_good_22 _ _ (d := d + 0) hv17) ?_
  obtain rfl := Option.some.inj hf
  exact zx_ev_ret zk_110 rfl rfl
def kx_C_drawn_l72 (v3 : Int32) (v4 : Int32) (v5 : Int32) (d : Nat) (out : Option Value × zx_H) : Int32 × Int32 × zx_M → Prop
  | (x8, x9, m) => zx_Ev (d + 78) 138 193 [some (.ref 0), none, none, none, some (.int v4), none, none, none, some (.int x8), some (.int x9), none, none, none] [] (zx_SC, m) out
def kl_C_drawn_l72 (v3 : Int32) (v4 : Int32) (v5 : Int32) (d : Nat) (out : Option Value × zx_H) : (Int32 × Int32 × Int32 × Int32 × zx_M) ⊕ (Int32 × Int32 × zx_M) → Prop
  | .inl (v7, v8, v9, v10, m) => zx_Ev (d + 78) 138 72 [some (.ref 0), none, none, some (.int v3), some (.int v4), some (.int v5), none, some (.int v7), some (.int v8), some (.int v9), some (.int v10), none, none] [] (zx_SC, m) out
  | .inr x => kx_C_drawn_l72 v3 v4 v5 d out x
def kx_C_drawn_lb72_85 (v3 : Int32) (v4 : Int32) (v5 : Int32) (v8 : Int32) (v9 : Int32) (v10 : Int32) (m : zx_M) (d : Nat) (out : Option Value × zx_H) : Int32 × Int32 → Prop
  | (x7, x11) => zx_Ev (d + 78) 138 141 [some (.ref 0), none, none, some (.int v3), some (.int v4), some (.int v5), none, some (.int x7), some (.int v8), some (.int v9), some (.int v10), some (.int x11), none] [] (zx_SC, m) out
def kl_C_drawn_lb72_85 (v3 : Int32) (v4 : Int32) (v5 : Int32) (v8 : Int32) (v9 : Int32) (v10 : Int32) (m : zx_M) (d : Nat) (out : Option Value × zx_H) : (Int32 × Int32 × Int32) ⊕ (Int32 × Int32) → Prop
  | .inl (v7, v11, v12) => zx_Ev (d + 78) 138 85 [some (.ref 0), none, none, some (.int v3), some (.int v4), some (.int v5), none, some (.int v7), some (.int v8), some (.int v9), some (.int v10), some (.int v11), some (.int v12)] [] (zx_SC, m) out
  | .inr x => kx_C_drawn_lb72_85 v3 v4 v5 v8 v9 v10 m d out x
def n_C_drawn_b72_b85_135 (v3 : Int32) (v4 : Int32) (v5 : Int32) (v7 : Int32) (v8 : Int32) (v9 : Int32) (v10 : Int32) (v11 : Int32) (v12 : Int32) (m : zx_M) : Option ((Int32 × Int32 × Int32) ⊕ (Int32 × Int32)) := zx_let (v12 + 1) fun a23 => some (.inl (v7, v11, a23))
theorem e_C_drawn_b72_b85_135 (v3 : Int32) (v4 : Int32) (v5 : Int32) (v7 : Int32) (v8 : Int32) (v9 : Int32) (v10 : Int32) (v11 : Int32) (v12 : Int32) (m : zx_M) {d : Nat} {out : Option Value × zx_H} {y : (Int32 × Int32 × Int32) ⊕ (Int32 × Int32)} (hf : n_C_drawn_b72_b85_135 v3 v4 v5 v7 v8 v9 v10 v11 v12 m = some y) (hK : kl_C_drawn_lb72_85 v3 v4 v5 v8 v9 v10 m d out y) : zx_Ev (d + 78) 138 135 [some (.ref 0), none, none, some (.int v3), some (.int v4), some (.int v5), none, some (.int v7), some (.int v8), some (.int v9), some (.int v10), some (.int v11), some (.int v12)] [] (zx_SC, m) out := by
  unfold n_C_drawn_b72_b85_135 at hf
  obtain ⟨a23, ha23, hf⟩ := zx_let_eq hf
  refine zx_ev_blk zk_138 2 (pc1 := 85) (L1 := [some (.ref 0), none, none, some (.int v3), some (.int v4), some (.int v5), none, some (.int v7), some (.int v8), some (.int v9), some (.int v10), some (.int v11), some (.int a23)]) (st1 := []) (h1 := (zx_SC, m)) (by subst ha23; rfl) ?_
  obtain rfl := Option.some.inj hf
  exact zx_ev_sub (L := [some (.ref 0), none, none, some (.int v3), some (.int v4), some (.int v5), none, some (.int v7), some (.int v8), some (.int v9), some (.int v10), some (.int v11), some (.int a23)]) (⟨rfl, ⟨rfl, ⟨rfl, ⟨rfl, ⟨rfl, ⟨rfl, ⟨rfl, ⟨rfl, ⟨rfl, ⟨rfl, trivial⟩⟩⟩⟩⟩⟩⟩⟩⟩⟩) hK
def b_C_drawn_lb72_85 (v3 : Int32) (v4 : Int32) (v5 : Int32) (v7 : Int32) (v8 : Int32) (v9 : Int32) (v10 : Int32) (v11 : Int32) (v12 : Int32) (m : zx_M) : Option ((Int32 × Int32 × Int32) ⊕ (Int32 × Int32)) := (f_Order_size m).bind fun r17 => if r17 ≤ v12 then some (.inr (v7, v11)) else zx_let ((v7 * 1103515245) + 12345) fun a19 => (f_C_sticksOf v12 m).bind fun r21 => if r21 ≤ (zx_rem (zx_ushr a19 8) 12) then n_C_drawn_b72_b85_135 v3 v4 v5 a19 v8 v9 v10 v11 v12 m else zx_let (v11 ||| (zx_shl 1 v12)) fun a24 => n_C_drawn_b72_b85_135 v3 v4 v5 a19 v8 v9 v10 a24 v12 m
theorem eb_C_drawn_lb72_85 (v3 : Int32) (v4 : Int32) (v5 : Int32) (v7 : Int32) (v8 : Int32) (v9 : Int32) (v10 : Int32) (v11 : Int32) (v12 : Int32) (m : zx_M) {d : Nat} {out : Option Value × zx_H} {y : (Int32 × Int32 × Int32) ⊕ (Int32 × Int32)} (hf : b_C_drawn_lb72_85 v3 v4 v5 v7 v8 v9 v10 v11 v12 m = some y) (hK : kl_C_drawn_lb72_85 v3 v4 v5 v8 v9 v10 m d out y) : zx_Ev (d + 78) 138 85 [some (.ref 0), none, none, some (.int v3), some (.int v4), some (.int v5), none, some (.int v7), some (.int v8), some (.int v9), some (.int v10), some (.int v11), some (.int v12)] [] (zx_SC, m) out := by
  unfold b_C_drawn_lb72_85 at hf
  refine zx_ev_blk zk_138 3 (pc1 := 91) (L1 := [some (.ref 0), none, none, some (.int v3), some (.int v4), some (.int v5), none, some (.int v7), some (.int v8), some (.int v9), some (.int v10), some (.int v11), some (.int v12)]) (st1 := [.ref 19, .int v12]) (h1 := (zx_SC, m)) rfl ?_
  obtain ⟨r17, hv16, hf⟩ := zx_bind_eq hf
  refine zx_ev_call (d := d + 77) zk_138 (v := some (.int r17)) (h1 := (zx_SC, m)) rfl rfl zt_51 rfl zx_SCn rfl rfl (s_Order_size _ (d := d + 77) hv16) ?_
  by_cases c18 : r17 ≤ v12
  · rw [if_pos c18] at hf
    refine zx_ev_ift zk_138 (P := r17 ≤ v12) (t := 141) (f := 97) rfl rfl c18 ?_
    obtain rfl := Option.some.inj hf
    exact zx_ev_sub (L := [some (.ref 0), none, none, some (.int v3), some (.int v4), some (.int v5), none, some (.int v7), some (.int v8), some (.int v9), some (.int v10), some (.int v11), none]) (⟨rfl, ⟨rfl, ⟨rfl, ⟨rfl, ⟨rfl, ⟨rfl, ⟨rfl, ⟨rfl, ⟨rfl, ⟨trivial, trivial⟩⟩⟩⟩⟩⟩⟩⟩⟩⟩) hK
  · rw [if_neg c18] at hf
    refine zx_ev_ifn zk_138 (P := r17 ≤ v12) (t := 141) (f := 97) rfl rfl c18 ?_
    obtain ⟨a19, ha19, hf⟩ := zx_let_eq hf
    refine zx_ev_blk zk_138 10 (pc1 := 116) (L1 := [some (.ref 0), none, none, some (.int v3), some (.int v4), some (.int v5), none, some (.int a19), some (.int v8), some (.int v9), some (.int v10), some (.int v11), some (.int v12)]) (st1 := [.int 12, .int (zx_ushr a19 8)]) (h1 := (zx_SC, m)) (by subst ha19; rfl) ?_
    refine zx_ev_step zk_138 rfl (st_irem (by decide)) ?_
    refine zx_ev_blk zk_138 2 (pc1 := 120) (L1 := [some (.ref 0), none, none, some (.int v3), some (.int v4), some (.int v5), none, some (.int a19), some (.int v8), some (.int v9), some (.int v10), some (.int v11), some (.int v12)]) (st1 := [.int v12, .ref 0, .int (zx_rem (zx_ushr a19 8) 12)]) (h1 := (zx_SC, m)) rfl ?_
    obtain ⟨r21, hv20, hf⟩ := zx_bind_eq hf
    refine zx_ev_call (d := d + 77) zk_138 (v := some (.int r21)) (h1 := (zx_SC, m)) rfl rfl zt_126 rfl zx_SCn rfl rfl (s_C_sticksOf _ _ (d := d + 76) hv20) ?_
    by_cases c22 : r21 ≤ (zx_rem (zx_ushr a19 8) 12)
    · rw [if_pos c22] at hf
      refine zx_ev_ift zk_138 (P := r21 ≤ (zx_rem (zx_ushr a19 8) 12)) (t := 135) (f := 126) rfl rfl c22 ?_
      exact zx_ev_sub (L := [some (.ref 0), none, none, some (.int v3), some (.int v4), some (.int v5), none, some (.int a19), some (.int v8), some (.int v9), some (.int v10), some (.int v11), some (.int v12)]) (⟨rfl, ⟨rfl, ⟨rfl, ⟨rfl, ⟨rfl, ⟨rfl, ⟨rfl, ⟨rfl, ⟨rfl, ⟨rfl, trivial⟩⟩⟩⟩⟩⟩⟩⟩⟩⟩) (e_C_drawn_b72_b85_135 v3 v4 v5 a19 v8 v9 v10 v11 v12 m hf hK)
    · rw [if_neg c22] at hf
      refine zx_ev_ifn zk_138 (P := r21 ≤ (zx_rem (zx_ushr a19 8) 12)) (t := 135) (f := 126) rfl rfl c22 ?_
      obtain ⟨a24, ha24, hf⟩ := zx_let_eq hf
      refine zx_ev_blk zk_138 6 (pc1 := 135) (L1 := [some (.ref 0), none, none, some (.int v3), some (.int v4), some (.int v5), none, some (.int a19), some (.int v8), some (.int v9), some (.int v10), some (.int a24), some (.int v12)]) (st1 := []) (h1 := (zx_SC, m)) (by subst ha24; rfl) ?_
      exact zx_ev_sub (L := [some (.ref 0), none, none, some (.int v3), some (.int v4), some (.int v5), none, some (.int a19), some (.int v8), some (.int v9), some (.int v10), some (.int a24), some (.int v12)]) (⟨rfl, ⟨rfl, ⟨rfl, ⟨rfl, ⟨rfl, ⟨rfl, ⟨rfl, ⟨rfl, ⟨rfl, ⟨rfl, trivial⟩⟩⟩⟩⟩⟩⟩⟩⟩⟩) (e_C_drawn_b72_b85_135 v3 v4 v5 a19 v8 v9 v10 a24 v12 m hf hK)
def l_C_drawn_lb72_85 (v3 : Int32) (v4 : Int32) (v5 : Int32) (v8 : Int32) (v9 : Int32) (v10 : Int32) (m : zx_M) (s0 : Int32 × Int32 × Int32) : Option (Int32 × Int32) := zx_lp zx_N (fun s : Int32 × Int32 × Int32 => b_C_drawn_lb72_85 v3 v4 v5 s.1 v8 v9 v10 s.2.1 s.2.2 m) s0
theorem el_C_drawn_lb72_85 (v3 : Int32) (v4 : Int32) (v5 : Int32) (v8 : Int32) (v9 : Int32) (v10 : Int32) (m : zx_M) {d : Nat} {out : Option Value × zx_H} : ∀ (n : Nat) (s : Int32 × Int32 × Int32) (x : Int32 × Int32), zx_lp n (fun s : Int32 × Int32 × Int32 => b_C_drawn_lb72_85 v3 v4 v5 s.1 v8 v9 v10 s.2.1 s.2.2 m) s = some x → kx_C_drawn_lb72_85 v3 v4 v5 v8 v9 v10 m d out x → zx_Ev (d + 78) 138 85 [some (.ref 0), none, none, some (.int v3), some (.int v4), some (.int v5), none, some (.int s.1), some (.int v8), some (.int v9), some (.int v10), some (.int s.2.1), some (.int s.2.2)] [] (zx_SC, m) out := by
  intro n
  induction n with
  | zero => intro s x hl _; simp [zx_lp] at hl
  | succ n ih =>
    intro s x hl hx
    unfold zx_lp at hl
    cases hb : b_C_drawn_lb72_85 v3 v4 v5 s.1 v8 v9 v10 s.2.1 s.2.2 m with
    | none => simp only [hb] at hl; cases hl
    | some z =>
      simp only [hb] at hl
      cases z with
      | inl s1 => exact eb_C_drawn_lb72_85 v3 v4 v5 s.1 v8 v9 v10 s.2.1 s.2.2 m hb (ih s1 x hl hx)
      | inr t =>
        simp only [Option.some.injEq] at hl
        subst hl
        exact eb_C_drawn_lb72_85 v3 v4 v5 s.1 v8 v9 v10 s.2.1 s.2.2 m hb hx
def n_C_drawn_b72_184 (v3 : Int32) (v4 : Int32) (v5 : Int32) (v7 : Int32) (v8 : Int32) (v10 : Int32) (t0 : Int32) (t1 : Int32) (m : zx_M) : Option ((Int32 × Int32 × Int32 × Int32 × zx_M) ⊕ (Int32 × Int32 × zx_M)) := zx_let (t0 + t1) fun a37 => zx_let (v10 + 1) fun a38 => some (.inl (v7, v8, a37, a38, m))
theorem e_C_drawn_b72_184 (v3 : Int32) (v4 : Int32) (v5 : Int32) (v7 : Int32) (v8 : Int32) (v10 : Int32) (t0 : Int32) (t1 : Int32) (m : zx_M) {d : Nat} {out : Option Value × zx_H} {y : (Int32 × Int32 × Int32 × Int32 × zx_M) ⊕ (Int32 × Int32 × zx_M)} (hf : n_C_drawn_b72_184 v3 v4 v5 v7 v8 v10 t0 t1 m = some y) (hK : kl_C_drawn_l72 v3 v4 v5 d out y) : zx_Ev (d + 78) 138 184 [some (.ref 0), none, none, some (.int v3), some (.int v4), some (.int v5), none, some (.int v7), some (.int v8), none, some (.int v10), none, none] [.int t1, .int t0] (zx_SC, m) out := by
  unfold n_C_drawn_b72_184 at hf
  obtain ⟨a37, ha37, hf⟩ := zx_let_eq hf
  obtain ⟨a38, ha38, hf⟩ := zx_let_eq hf
  refine zx_ev_blk zk_138 4 (pc1 := 72) (L1 := [some (.ref 0), none, none, some (.int v3), some (.int v4), some (.int v5), none, some (.int v7), some (.int v8), some (.int a37), some (.int a38), none, none]) (st1 := []) (h1 := (zx_SC, m)) (by subst ha37; subst ha38; rfl) ?_
  obtain rfl := Option.some.inj hf
  exact zx_ev_sub (L := [some (.ref 0), none, none, some (.int v3), some (.int v4), some (.int v5), none, some (.int v7), some (.int v8), some (.int a37), some (.int a38), none, none]) (⟨rfl, ⟨rfl, ⟨rfl, ⟨rfl, ⟨rfl, ⟨rfl, ⟨rfl, ⟨rfl, trivial⟩⟩⟩⟩⟩⟩⟩⟩) hK
def b_C_drawn_l72 (v3 : Int32) (v4 : Int32) (v5 : Int32) (v7 : Int32) (v8 : Int32) (v9 : Int32) (v10 : Int32) (m : zx_M) : Option ((Int32 × Int32 × Int32 × Int32 × zx_M) ⊕ (Int32 × Int32 × zx_M)) := if v5 ≤ v10 then some (.inr (v8, v9, m)) else (l_C_drawn_lb72_85 v3 v4 v5 v8 v9 v10 m (v7, 0, 0)).bind fun x25 => match x25 with | (w26, w27) => (f_Order_size m).bind fun r29 => (f_C_goodIfStopped r29 w27 5 v3 m).bind fun (r31, m32) => zx_let (v8 + r31) fun a33 => (f_Order_size m32).bind fun r35 => if ¬ r31 = r35 then n_C_drawn_b72_184 v3 v4 v5 w26 a33 v10 v9 0 m32 else n_C_drawn_b72_184 v3 v4 v5 w26 a33 v10 v9 1 m32
theorem eb_C_drawn_l72 (v3 : Int32) (v4 : Int32) (v5 : Int32) (v7 : Int32) (v8 : Int32) (v9 : Int32) (v10 : Int32) (m : zx_M) {d : Nat} {out : Option Value × zx_H} {y : (Int32 × Int32 × Int32 × Int32 × zx_M) ⊕ (Int32 × Int32 × zx_M)} (hf : b_C_drawn_l72 v3 v4 v5 v7 v8 v9 v10 m = some y) (hK : kl_C_drawn_l72 v3 v4 v5 d out y) : zx_Ev (d + 78) 138 72 [some (.ref 0), none, none, some (.int v3), some (.int v4), some (.int v5), none, some (.int v7), some (.int v8), some (.int v9), some (.int v10), none, none] [] (zx_SC, m) out := by
  unfold b_C_drawn_l72 at hf
  refine zx_ev_blk zk_138 2 (pc1 := 76) (L1 := [some (.ref 0), none, none, some (.int v3), some (.int v4), some (.int v5), none, some (.int v7), some (.int v8), some (.int v9), some (.int v10), none, none]) (st1 := [.int v5, .int v10]) (h1 := (zx_SC, m)) rfl ?_
  by_cases c15 : v5 ≤ v10
  · rw [if_pos c15] at hf
    refine zx_ev_ift zk_138 (P := v5 ≤ v10) (t := 193) (f := 79) rfl rfl c15 ?_
    obtain rfl := Option.some.inj hf
    exact zx_ev_sub (L := [some (.ref 0), none, none, none, some (.int v4), none, none, none, some (.int v8), some (.int v9), none, none, none]) (⟨rfl, ⟨trivial, ⟨rfl, ⟨trivial, ⟨trivial, ⟨rfl, ⟨rfl, ⟨trivial, trivial⟩⟩⟩⟩⟩⟩⟩⟩) hK
  · rw [if_neg c15] at hf
    refine zx_ev_ifn zk_138 (P := v5 ≤ v10) (t := 193) (f := 79) rfl rfl c15 ?_
    refine zx_ev_blk zk_138 4 (pc1 := 85) (L1 := [some (.ref 0), none, none, some (.int v3), some (.int v4), some (.int v5), none, some (.int v7), some (.int v8), some (.int v9), some (.int v10), some (.int 0), some (.int 0)]) (st1 := []) (h1 := (zx_SC, m)) rfl ?_
    obtain ⟨x25, hx25, hf⟩ := zx_bind_eq hf
    refine zx_ev_sub (L := [some (.ref 0), none, none, some (.int v3), some (.int v4), some (.int v5), none, some (.int v7), some (.int v8), some (.int v9), some (.int v10), some (.int 0), some (.int 0)]) (⟨rfl, ⟨rfl, ⟨rfl, ⟨rfl, ⟨rfl, ⟨rfl, ⟨rfl, ⟨rfl, ⟨rfl, ⟨rfl, trivial⟩⟩⟩⟩⟩⟩⟩⟩⟩⟩) (el_C_drawn_lb72_85 v3 v4 v5 v8 v9 v10 m zx_N (v7, 0, 0) x25 hx25 ?_)
    obtain ⟨w26, w27⟩ := x25
    dsimp only at hf
    show zx_Ev (d + 78) 138 141 [some (.ref 0), none, none, some (.int v3), some (.int v4), some (.int v5), none, some (.int w26), some (.int v8), some (.int v9), some (.int v10), some (.int w27), none] [] (zx_SC, m) out
    refine zx_ev_blk zk_138 3 (pc1 := 146) (L1 := [some (.ref 0), none, none, some (.int v3), some (.int v4), some (.int v5), none, some (.int w26), some (.int v8), some (.int v9), some (.int v10), some (.int w27), none]) (st1 := [.ref 19, .ref 0]) (h1 := (zx_SC, m)) rfl ?_
    obtain ⟨r29, hv28, hf⟩ := zx_bind_eq hf
    refine zx_ev_call (d := d + 77) zk_138 (v := some (.int r29)) (h1 := (zx_SC, m)) rfl rfl zt_51 rfl zx_SCn rfl rfl (s_Order_size _ (d := d + 77) hv28) ?_
    refine zx_ev_blk zk_138 3 (pc1 := 153) (L1 := [some (.ref 0), none, none, some (.int v3), some (.int v4), some (.int v5), none, some (.int w26), some (.int v8), some (.int v9), some (.int v10), some (.int w27), none]) (st1 := [.int v3, .int 5, .int w27, .int r29, .ref 0]) (h1 := (zx_SC, m)) rfl ?_
    obtain ⟨⟨r31, m32⟩, hv30, hf⟩ := zx_bind_eq hf
    dsimp only at hf
    refine zx_ev_call (d := d + 77) zk_138 (v := some (.int r31)) (h1 := (zx_SC, m32)) rfl rfl zt_110 rfl zx_SCn rfl rfl (s_C_goodIfStopped _ _ _ _ _ (d := d + 74) hv30) ?_
    obtain ⟨a33, ha33, hf⟩ := zx_let_eq hf
    refine zx_ev_blk zk_138 9 (pc1 := 173) (L1 := [some (.ref 0), none, none, some (.int v3), some (.int v4), some (.int v5), none, some (.int w26), some (.int a33), some (.int v9), some (.int v10), some (.int w27), some (.int r31)]) (st1 := [.ref 19, .int r31, .int v9]) (h1 := (zx_SC, m32)) (by subst ha33; rfl) ?_
    obtain ⟨r35, hv34, hf⟩ := zx_bind_eq hf
    refine zx_ev_call (d := d + 77) zk_138 (v := some (.int r35)) (h1 := (zx_SC, m32)) rfl rfl zt_51 rfl zx_SCn rfl rfl (s_Order_size _ (d := d + 77) hv34) ?_
    by_cases c36 : ¬ r31 = r35
    · rw [if_pos c36] at hf
      refine zx_ev_ift zk_138 (P := ¬ r31 = r35) (t := 183) (f := 179) rfl rfl c36 ?_
      refine zx_ev_blk zk_138 1 (pc1 := 184) (L1 := [some (.ref 0), none, none, some (.int v3), some (.int v4), some (.int v5), none, some (.int w26), some (.int a33), some (.int v9), some (.int v10), some (.int w27), some (.int r31)]) (st1 := [.int 0, .int v9]) (h1 := (zx_SC, m32)) rfl ?_
      exact zx_ev_sub (L := [some (.ref 0), none, none, some (.int v3), some (.int v4), some (.int v5), none, some (.int w26), some (.int a33), none, some (.int v10), none, none]) (⟨rfl, ⟨rfl, ⟨rfl, ⟨rfl, ⟨rfl, ⟨rfl, ⟨trivial, ⟨rfl, ⟨trivial, ⟨trivial, trivial⟩⟩⟩⟩⟩⟩⟩⟩⟩⟩) (e_C_drawn_b72_184 v3 v4 v5 w26 a33 v10 v9 0 m32 hf hK)
    · rw [if_neg c36] at hf
      refine zx_ev_ifn zk_138 (P := ¬ r31 = r35) (t := 183) (f := 179) rfl rfl c36 ?_
      refine zx_ev_blk zk_138 2 (pc1 := 184) (L1 := [some (.ref 0), none, none, some (.int v3), some (.int v4), some (.int v5), none, some (.int w26), some (.int a33), some (.int v9), some (.int v10), some (.int w27), some (.int r31)]) (st1 := [.int 1, .int v9]) (h1 := (zx_SC, m32)) rfl ?_
      exact zx_ev_sub (L := [some (.ref 0), none, none, some (.int v3), some (.int v4), some (.int v5), none, some (.int w26), some (.int a33), none, some (.int v10), none, none]) (⟨rfl, ⟨rfl, ⟨rfl, ⟨rfl, ⟨rfl, ⟨rfl, ⟨trivial, ⟨rfl, ⟨trivial, ⟨trivial, trivial⟩⟩⟩⟩⟩⟩⟩⟩⟩⟩) (e_C_drawn_b72_184 v3 v4 v5 w26 a33 v10 v9 1 m32 hf hK)
def l_C_drawn_l72 (v3 : Int32) (v4 : Int32) (v5 : Int32) (s0 : Int32 × Int32 × Int32 × Int32 × zx_M) : Option (Int32 × Int32 × zx_M) := zx_lp zx_N (fun s : Int32 × Int32 × Int32 × Int32 × zx_M => b_C_drawn_l72 v3 v4 v5 s.1 s.2.1 s.2.2.1 s.2.2.2.1 s.2.2.2.2) s0
theorem el_C_drawn_l72 (v3 : Int32) (v4 : Int32) (v5 : Int32) {d : Nat} {out : Option Value × zx_H} : ∀ (n : Nat) (s : Int32 × Int32 × Int32 × Int32 × zx_M) (x : Int32 × Int32 × zx_M), zx_lp n (fun s : Int32 × Int32 × Int32 × Int32 × zx_M => b_C_drawn_l72 v3 v4 v5 s.1 s.2.1 s.2.2.1 s.2.2.2.1 s.2.2.2.2) s = some x → kx_C_drawn_l72 v3 v4 v5 d out x → zx_Ev (d + 78) 138 72 [some (.ref 0), none, none, some (.int v3), some (.int v4), some (.int v5), none, some (.int s.1), some (.int s.2.1), some (.int s.2.2.1), some (.int s.2.2.2.1), none, none] [] (zx_SC, s.2.2.2.2) out := by
  intro n
  induction n with
  | zero => intro s x hl _; simp [zx_lp] at hl
  | succ n ih =>
    intro s x hl hx
    unfold zx_lp at hl
    cases hb : b_C_drawn_l72 v3 v4 v5 s.1 s.2.1 s.2.2.1 s.2.2.2.1 s.2.2.2.2 with
    | none => simp only [hb] at hl; cases hl
    | some z =>
      simp only [hb] at hl
      cases z with
      | inl s1 => exact eb_C_drawn_l72 v3 v4 v5 s.1 s.2.1 s.2.2.1 s.2.2.2.1 s.2.2.2.2 hb (ih s1 x hl hx)
      | inr t =>
        simp only [Option.some.injEq] at hl
        subst hl
        exact eb_C_drawn_l72 v3 v4 v5 s.1 s.2.1 s.2.2.1 s.2.2.2.1 s.2.2.2.2 hb hx
def f_C_drawn (v1 : Int32) (v2 : Int32) (v3 : Int32) (v4 : Int32) (m : zx_M) : Option (Int32 × zx_M) := zx_let (v4 / 10) fun a1 => (f_C_isSpotAndCount v3 m).bind fun r3 => if r3 = 0 then some ((-1), m) else if v4 < 0 then some ((-1), m) else if a1 < 1 then some ((-1), m) else if 20 < a1 then some ((-1), m) else (f_C_isPart (zx_rem v4 10) m).bind fun r9 => if ¬ r9 = 0 then (f_C_readOrder v1 m).bind fun (r12, m13) => if r12 = 0 then (l_C_drawn_l72 v3 v4 a1 (v2, 0, 0, 0, m13)).bind fun x39 => match x39 with | (w40, w41, m42) => if ¬ (zx_rem v4 10) = 0 then some (w41, m42) else some (w40, m42) else some (r12, m13) else some ((-1), m)
theorem s_C_drawn (v1 : Int32) (v2 : Int32) (v3 : Int32) (v4 : Int32) (m : zx_M) {d : Nat} {y : (Int32 × zx_M)} (hf : f_C_drawn v1 v2 v3 v4 m = some y) : zx_Ev (d + 78) 138 0 [some (.ref 0), some (.int v1), some (.int v2), some (.int v3), some (.int v4), none, none, none, none, none, none, none, none] [] (zx_SC, m) (some (.int y.1), (zx_SC, y.2)) := by
  unfold f_C_drawn at hf
  refine zx_ev_blk zk_138 2 (pc1 := 4) (L1 := [some (.ref 0), some (.int v1), some (.int v2), some (.int v3), some (.int v4), none, none, none, none, none, none, none, none]) (st1 := [.int 10, .int v4]) (h1 := (zx_SC, m)) rfl ?_
  refine zx_ev_step zk_138 rfl (st_idiv (by decide)) ?_
  obtain ⟨a1, ha1, hf⟩ := zx_let_eq hf
  refine zx_ev_blk zk_138 2 (pc1 := 8) (L1 := [some (.ref 0), some (.int v1), some (.int v2), some (.int v3), some (.int v4), some (.int a1), none, none, none, none, none, none, none]) (st1 := [.int v3]) (h1 := (zx_SC, m)) (by subst ha1; rfl) ?_
  obtain ⟨r3, hv2, hf⟩ := zx_bind_eq hf
  refine zx_ev_call (d := d + 77) zk_138 (v := some (.int r3)) (h1 := (zx_SC, m)) rfl rfl zt_99 rfl zx_SCn rfl rfl (s_C_isSpotAndCount _ _ (d := d + 76) hv2) ?_
  by_cases c4 : r3 = 0
  · rw [if_pos c4] at hf
    refine zx_ev_ift zk_138 (P := r3 = 0) (t := 43) (f := 14) rfl rfl c4 ?_
    refine zx_ev_blk zk_138 1 (pc1 := 44) (L1 := [some (.ref 0), some (.int v1), some (.int v2), some (.int v3), some (.int v4), some (.int a1), none, none, none, none, none, none, none]) (st1 := [.int (-1)]) (h1 := (zx_SC, m)) rfl ?_
    obtain rfl := Option.some.inj hf
    exact zx_ev_ret zk_138 rfl rfl
  · rw [if_neg c4] at hf
    refine zx_ev_ifn zk_138 (P := r3 = 0) (t := 43) (f := 14) rfl rfl c4 ?_
    refine zx_ev_blk zk_138 1 (pc1 := 16) (L1 := [some (.ref 0), some (.int v1), some (.int v2), some (.int v3), some (.int v4), some (.int a1), none, none, none, none, none, none, none]) (st1 := [.int v4]) (h1 := (zx_SC, m)) rfl ?_
    by_cases c5 : v4 < 0
    · rw [if_pos c5] at hf
      refine zx_ev_ift zk_138 (P := v4 < 0) (t := 43) (f := 19) rfl rfl c5 ?_
      refine zx_ev_blk zk_138 1 (pc1 := 44) (L1 := [some (.ref 0), some (.int v1), some (.int v2), some (.int v3), some (.int v4), some (.int a1), none, none, none, none, none, none, none]) (st1 := [.int (-1)]) (h1 := (zx_SC, m)) rfl ?_
      obtain rfl := Option.some.inj hf
      exact zx_ev_ret zk_138 rfl rfl
    · rw [if_neg c5] at hf
      refine zx_ev_ifn zk_138 (P := v4 < 0) (t := 43) (f := 19) rfl rfl c5 ?_
      refine zx_ev_blk zk_138 2 (pc1 := 22) (L1 := [some (.ref 0), some (.int v1), some (.int v2), some (.int v3), some (.int v4), some (.int a1), none, none, none, none, none, none, none]) (st1 := [.int 1, .int a1]) (h1 := (zx_SC, m)) rfl ?_
      by_cases c6 : a1 < 1
      · rw [if_pos c6] at hf
        refine zx_ev_ift zk_138 (P := a1 < 1) (t := 43) (f := 25) rfl rfl c6 ?_
        refine zx_ev_blk zk_138 1 (pc1 := 44) (L1 := [some (.ref 0), some (.int v1), some (.int v2), some (.int v3), some (.int v4), some (.int a1), none, none, none, none, none, none, none]) (st1 := [.int (-1)]) (h1 := (zx_SC, m)) rfl ?_
        obtain rfl := Option.some.inj hf
        exact zx_ev_ret zk_138 rfl rfl
      · rw [if_neg c6] at hf
        refine zx_ev_ifn zk_138 (P := a1 < 1) (t := 43) (f := 25) rfl rfl c6 ?_
        refine zx_ev_blk zk_138 2 (pc1 := 29) (L1 := [some (.ref 0), some (.int v1), some (.int v2), some (.int v3), some (.int v4), some (.int a1), none, none, none, none, none, none, none]) (st1 := [.int 20, .int a1]) (h1 := (zx_SC, m)) rfl ?_
        by_cases c7 : 20 < a1
        · rw [if_pos c7] at hf
          refine zx_ev_ift zk_138 (P := 20 < a1) (t := 43) (f := 32) rfl rfl c7 ?_
          refine zx_ev_blk zk_138 1 (pc1 := 44) (L1 := [some (.ref 0), some (.int v1), some (.int v2), some (.int v3), some (.int v4), some (.int a1), none, none, none, none, none, none, none]) (st1 := [.int (-1)]) (h1 := (zx_SC, m)) rfl ?_
          obtain rfl := Option.some.inj hf
          exact zx_ev_ret zk_138 rfl rfl
        · rw [if_neg c7] at hf
          refine zx_ev_ifn zk_138 (P := 20 < a1) (t := 43) (f := 32) rfl rfl c7 ?_
          refine zx_ev_blk zk_138 2 (pc1 := 36) (L1 := [some (.ref 0), some (.int v1), some (.int v2), some (.int v3), some (.int v4), some (.int a1), none, none, none, none, none, none, none]) (st1 := [.int 10, .int v4]) (h1 := (zx_SC, m)) rfl ?_
          refine zx_ev_step zk_138 rfl (st_irem (by decide)) ?_
          obtain ⟨r9, hv8, hf⟩ := zx_bind_eq hf
          refine zx_ev_call (d := d + 77) zk_138 (v := some (.int r9)) (h1 := (zx_SC, m)) rfl rfl zt_102 rfl zx_SCn rfl rfl (s_C_isPart _ _ (d := d + 77) hv8) ?_
          by_cases c10 : ¬ r9 = 0
          · rw [if_pos c10] at hf
            refine zx_ev_ift zk_138 (P := ¬ r9 = 0) (t := 45) (f := 43) rfl rfl c10 ?_
            refine zx_ev_blk zk_138 2 (pc1 := 47) (L1 := [some (.ref 0), some (.int v1), some (.int v2), some (.int v3), some (.int v4), some (.int a1), none, none, none, none, none, none, none]) (st1 := [.int v1, .ref 0]) (h1 := (zx_SC, m)) rfl ?_
            obtain ⟨⟨r12, m13⟩, hv11, hf⟩ := zx_bind_eq hf
            dsimp only at hf
            refine zx_ev_call (d := d + 77) zk_138 (v := some (.int r12)) (h1 := (zx_SC, m13)) rfl rfl zt_103 rfl zx_SCn rfl rfl (s_C_readOrder _ _ (d := d + 0) hv11) ?_
            refine zx_ev_blk zk_138 2 (pc1 := 54) (L1 := [some (.ref 0), some (.int v1), some (.int v2), some (.int v3), some (.int v4), some (.int a1), some (.int r12), none, none, none, none, none, none]) (st1 := [.int r12]) (h1 := (zx_SC, m13)) rfl ?_
            by_cases c14 : r12 = 0
            · rw [if_pos c14] at hf
              refine zx_ev_ift zk_138 (P := r12 = 0) (t := 60) (f := 57) rfl rfl c14 ?_
              refine zx_ev_blk zk_138 8 (pc1 := 72) (L1 := [some (.ref 0), some (.int v1), some (.int v2), some (.int v3), some (.int v4), some (.int a1), some (.int r12), some (.int v2), some (.int 0), some (.int 0), some (.int 0), none, none]) (st1 := []) (h1 := (zx_SC, m13)) rfl ?_
              obtain ⟨x39, hx39, hf⟩ := zx_bind_eq hf
              refine zx_ev_sub (L := [some (.ref 0), none, none, some (.int v3), some (.int v4), some (.int a1), none, some (.int v2), some (.int 0), some (.int 0), some (.int 0), none, none]) (⟨rfl, ⟨trivial, ⟨trivial, ⟨rfl, ⟨rfl, ⟨rfl, ⟨trivial, ⟨rfl, ⟨rfl, ⟨rfl, ⟨rfl, trivial⟩⟩⟩⟩⟩⟩⟩⟩⟩⟩⟩) (el_C_drawn_l72 v3 v4 a1 zx_N (v2, 0, 0, 0, m13) x39 hx39 ?_)
              obtain ⟨w40, w41, m42⟩ := x39
              dsimp only at hf
              show zx_Ev (d + 78) 138 193 [some (.ref 0), none, none, none, some (.int v4), none, none, none, some (.int w40), some (.int w41), none, none, none] [] (zx_SC, m42) _
              refine zx_ev_blk zk_138 2 (pc1 := 197) (L1 := [some (.ref 0), none, none, none, some (.int v4), none, none, none, some (.int w40), some (.int w41), none, none, none]) (st1 := [.int 10, .int v4]) (h1 := (zx_SC, m42)) rfl ?_
              refine zx_ev_step zk_138 rfl (st_irem (by decide)) ?_
              by_cases c43 : ¬ (zx_rem v4 10) = 0
              · rw [if_pos c43] at hf
                refine zx_ev_ift zk_138 (P := ¬ (zx_rem v4 10) = 0) (t := 206) (f := 201) rfl rfl c43 ?_
                refine zx_ev_blk zk_138 1 (pc1 := 208) (L1 := [some (.ref 0), none, none, none, some (.int v4), none, none, none, some (.int w40), some (.int w41), none, none, none]) (st1 := [.int w41]) (h1 := (zx_SC, m42)) rfl ?_
                obtain rfl := Option.some.inj hf
                exact zx_ev_ret zk_138 rfl rfl
              · rw [if_neg c43] at hf
                refine zx_ev_ifn zk_138 (P := ¬ (zx_rem v4 10) = 0) (t := 206) (f := 201) rfl rfl c43 ?_
                refine zx_ev_blk zk_138 2 (pc1 := 208) (L1 := [some (.ref 0), none, none, none, some (.int v4), none, none, none, some (.int w40), some (.int w41), none, none, none]) (st1 := [.int w40]) (h1 := (zx_SC, m42)) rfl ?_
                obtain rfl := Option.some.inj hf
                exact zx_ev_ret zk_138 rfl rfl
            · rw [if_neg c14] at hf
              refine zx_ev_ifn zk_138 (P := r12 = 0) (t := 60) (f := 57) rfl rfl c14 ?_
              refine zx_ev_blk zk_138 1 (pc1 := 59) (L1 := [some (.ref 0), some (.int v1), some (.int v2), some (.int v3), some (.int v4), some (.int a1), some (.int r12), none, none, none, none, none, none]) (st1 := [.int r12]) (h1 := (zx_SC, m13)) rfl ?_
              obtain rfl := Option.some.inj hf
              exact zx_ev_ret zk_138 rfl rfl
          · rw [if_neg c10] at hf
            refine zx_ev_ifn zk_138 (P := ¬ r9 = 0) (t := 45) (f := 43) rfl rfl c10 ?_
            refine zx_ev_blk zk_138 1 (pc1 := 44) (L1 := [some (.ref 0), some (.int v1), some (.int v2), some (.int v3), some (.int v4), some (.int a1), none, none, none, none, none, none, none]) (st1 := [.int (-1)]) (h1 := (zx_SC, m)) rfl ?_
            obtain rfl := Option.some.inj hf
            exact zx_ev_ret zk_138 rfl rfl
def f_C_drop (v1 : Int32) (v2 : Int32) (v3 : Int32) (m : zx_M) : Option (Int32 × zx_M) := (f_C_isSpotAndCount v2 m).bind fun r2 => if r2 = 0 then some ((-1), m) else if v3 < 0 then some ((-1), m) else if v3 ≤ 2 then (f_C_readOrder v1 m).bind fun (r7, m8) => if r7 = 0 then (f_C_countOf v2 m8).bind fun r11 => (f_C_way m8).bind fun r13 => (f_C_lineUp r11 r13 m8).bind fun m15 => if ¬ v3 = 0 then if ¬ v3 = 1 then (f_C_spotOf v2 m15).bind fun r19 => (f_Jumps_good_22 r19 m15).bind fun r21 => some (r21, m15) else (f_Jumps_meeting_22 m15).bind fun r23 => some (r23, m15) else (f_C_spotOf v2 m15).bind fun r25 => (f_Jumps_well_22 r25 m15).bind fun r27 => some (r27, m15) else some (r7, m8) else some ((-1), m)
theorem s_C_drop (v1 : Int32) (v2 : Int32) (v3 : Int32) (m : zx_M) {d : Nat} {y : (Int32 × zx_M)} (hf : f_C_drop v1 v2 v3 m = some y) : zx_Ev (d + 78) 114 0 [some (.ref 0), some (.int v1), some (.int v2), some (.int v3), none] [] (zx_SC, m) (some (.int y.1), (zx_SC, y.2)) := by
  unfold f_C_drop at hf
  refine zx_ev_blk zk_114 1 (pc1 := 1) (L1 := [some (.ref 0), some (.int v1), some (.int v2), some (.int v3), none]) (st1 := [.int v2]) (h1 := (zx_SC, m)) rfl ?_
  obtain ⟨r2, hv1, hf⟩ := zx_bind_eq hf
  refine zx_ev_call (d := d + 77) zk_114 (v := some (.int r2)) (h1 := (zx_SC, m)) rfl rfl zt_99 rfl zx_SCn rfl rfl (s_C_isSpotAndCount _ _ (d := d + 76) hv1) ?_
  by_cases c3 : r2 = 0
  · rw [if_pos c3] at hf
    refine zx_ev_ift zk_114 (P := r2 = 0) (t := 16) (f := 7) rfl rfl c3 ?_
    refine zx_ev_blk zk_114 1 (pc1 := 17) (L1 := [some (.ref 0), some (.int v1), some (.int v2), some (.int v3), none]) (st1 := [.int (-1)]) (h1 := (zx_SC, m)) rfl ?_
    obtain rfl := Option.some.inj hf
    exact zx_ev_ret zk_114 rfl rfl
  · rw [if_neg c3] at hf
    refine zx_ev_ifn zk_114 (P := r2 = 0) (t := 16) (f := 7) rfl rfl c3 ?_
    refine zx_ev_blk zk_114 1 (pc1 := 8) (L1 := [some (.ref 0), some (.int v1), some (.int v2), some (.int v3), none]) (st1 := [.int v3]) (h1 := (zx_SC, m)) rfl ?_
    by_cases c4 : v3 < 0
    · rw [if_pos c4] at hf
      refine zx_ev_ift zk_114 (P := v3 < 0) (t := 16) (f := 11) rfl rfl c4 ?_
      refine zx_ev_blk zk_114 1 (pc1 := 17) (L1 := [some (.ref 0), some (.int v1), some (.int v2), some (.int v3), none]) (st1 := [.int (-1)]) (h1 := (zx_SC, m)) rfl ?_
      obtain rfl := Option.some.inj hf
      exact zx_ev_ret zk_114 rfl rfl
    · rw [if_neg c4] at hf
      refine zx_ev_ifn zk_114 (P := v3 < 0) (t := 16) (f := 11) rfl rfl c4 ?_
      refine zx_ev_blk zk_114 2 (pc1 := 13) (L1 := [some (.ref 0), some (.int v1), some (.int v2), some (.int v3), none]) (st1 := [.int 2, .int v3]) (h1 := (zx_SC, m)) rfl ?_
      by_cases c5 : v3 ≤ 2
      · rw [if_pos c5] at hf
        refine zx_ev_ift zk_114 (P := v3 ≤ 2) (t := 18) (f := 16) rfl rfl c5 ?_
        refine zx_ev_blk zk_114 2 (pc1 := 20) (L1 := [some (.ref 0), some (.int v1), some (.int v2), some (.int v3), none]) (st1 := [.int v1, .ref 0]) (h1 := (zx_SC, m)) rfl ?_
        obtain ⟨⟨r7, m8⟩, hv6, hf⟩ := zx_bind_eq hf
        dsimp only at hf
        refine zx_ev_call (d := d + 77) zk_114 (v := some (.int r7)) (h1 := (zx_SC, m8)) rfl rfl zt_103 rfl zx_SCn rfl rfl (s_C_readOrder _ _ (d := d + 0) hv6) ?_
        refine zx_ev_blk zk_114 2 (pc1 := 27) (L1 := [some (.ref 0), some (.int v1), some (.int v2), some (.int v3), some (.int r7)]) (st1 := [.int r7]) (h1 := (zx_SC, m8)) rfl ?_
        by_cases c9 : r7 = 0
        · rw [if_pos c9] at hf
          refine zx_ev_ift zk_114 (P := r7 = 0) (t := 33) (f := 30) rfl rfl c9 ?_
          refine zx_ev_blk zk_114 2 (pc1 := 35) (L1 := [some (.ref 0), some (.int v1), some (.int v2), some (.int v3), some (.int r7)]) (st1 := [.int v2, .ref 0]) (h1 := (zx_SC, m8)) rfl ?_
          obtain ⟨r11, hv10, hf⟩ := zx_bind_eq hf
          refine zx_ev_call (d := d + 77) zk_114 (v := some (.int r11)) (h1 := (zx_SC, m8)) rfl rfl zt_101 rfl zx_SCn rfl rfl (s_C_countOf _ _ (d := d + 77) hv10) ?_
          refine zx_ev_blk zk_114 1 (pc1 := 39) (L1 := [some (.ref 0), some (.int v1), some (.int v2), some (.int v3), some (.int r7)]) (st1 := [.ref 0, .int r11, .ref 0]) (h1 := (zx_SC, m8)) rfl ?_
          obtain ⟨r13, hv12, hf⟩ := zx_bind_eq hf
          refine zx_ev_call (d := d + 77) zk_114 (v := some (.int r13)) (h1 := (zx_SC, m8)) rfl rfl zt_106 rfl zx_SCn rfl rfl (s_C_way _ (d := d + 76) hv12) ?_
          obtain ⟨m15, hv14, hf⟩ := zx_bind_eq hf
          refine zx_ev_call (d := d + 77) zk_114 (v := none) (h1 := (zx_SC, m15)) rfl rfl zt_109 rfl zx_SCn rfl rfl (s_C_lineUp _ _ _ (d := d + 74) hv14) ?_
          refine zx_ev_blk zk_114 1 (pc1 := 46) (L1 := [some (.ref 0), some (.int v1), some (.int v2), some (.int v3), some (.int r7)]) (st1 := [.int v3]) (h1 := (zx_SC, m15)) rfl ?_
          by_cases c16 : ¬ v3 = 0
          · rw [if_pos c16] at hf
            refine zx_ev_ift zk_114 (P := ¬ v3 = 0) (t := 61) (f := 49) rfl rfl c16 ?_
            refine zx_ev_blk zk_114 2 (pc1 := 63) (L1 := [some (.ref 0), some (.int v1), some (.int v2), some (.int v3), some (.int r7)]) (st1 := [.int 1, .int v3]) (h1 := (zx_SC, m15)) rfl ?_
            by_cases c17 : ¬ v3 = 1
            · rw [if_pos c17] at hf
              refine zx_ev_ift zk_114 (P := ¬ v3 = 1) (t := 76) (f := 66) rfl rfl c17 ?_
              refine zx_ev_blk zk_114 3 (pc1 := 81) (L1 := [some (.ref 0), some (.int v1), some (.int v2), some (.int v3), some (.int r7)]) (st1 := [.int v2, .ref 22]) (h1 := (zx_SC, m15)) rfl ?_
              obtain ⟨r19, hv18, hf⟩ := zx_bind_eq hf
              refine zx_ev_call (d := d + 77) zk_114 (v := some (.int r19)) (h1 := (zx_SC, m15)) rfl rfl zt_100 rfl zx_SCn rfl rfl (s_C_spotOf _ _ (d := d + 77) hv18) ?_
              obtain ⟨r21, hv20, hf⟩ := zx_bind_eq hf
              refine zx_ev_call (d := d + 77) zk_114 (v := some (.int r21)) (h1 := (zx_SC, m15)) rfl rfl zt_39 rfl zx_SCn rfl rfl (s_Jumps_good_22 _ _ (d := d + 75) hv20) ?_
              obtain rfl := Option.some.inj hf
              exact zx_ev_ret zk_114 rfl rfl
            · rw [if_neg c17] at hf
              refine zx_ev_ifn zk_114 (P := ¬ v3 = 1) (t := 76) (f := 66) rfl rfl c17 ?_
              refine zx_ev_blk zk_114 2 (pc1 := 70) (L1 := [some (.ref 0), some (.int v1), some (.int v2), some (.int v3), some (.int r7)]) (st1 := [.ref 22]) (h1 := (zx_SC, m15)) rfl ?_
              obtain ⟨r23, hv22, hf⟩ := zx_bind_eq hf
              refine zx_ev_call (d := d + 77) zk_114 (v := some (.int r23)) (h1 := (zx_SC, m15)) rfl rfl zt_37 rfl zx_SCn rfl rfl (s_Jumps_meeting_22 _ (d := d + 77) hv22) ?_
              refine zx_ev_blk zk_114 1 (pc1 := 87) (L1 := [some (.ref 0), some (.int v1), some (.int v2), some (.int v3), some (.int r7)]) (st1 := [.int r23]) (h1 := (zx_SC, m15)) rfl ?_
              obtain rfl := Option.some.inj hf
              exact zx_ev_ret zk_114 rfl rfl
          · rw [if_neg c16] at hf
            refine zx_ev_ifn zk_114 (P := ¬ v3 = 0) (t := 61) (f := 49) rfl rfl c16 ?_
            refine zx_ev_blk zk_114 3 (pc1 := 54) (L1 := [some (.ref 0), some (.int v1), some (.int v2), some (.int v3), some (.int r7)]) (st1 := [.int v2, .ref 22]) (h1 := (zx_SC, m15)) rfl ?_
            obtain ⟨r25, hv24, hf⟩ := zx_bind_eq hf
            refine zx_ev_call (d := d + 77) zk_114 (v := some (.int r25)) (h1 := (zx_SC, m15)) rfl rfl zt_100 rfl zx_SCn rfl rfl (s_C_spotOf _ _ (d := d + 77) hv24) ?_
            obtain ⟨r27, hv26, hf⟩ := zx_bind_eq hf
            refine zx_ev_call (d := d + 77) zk_114 (v := some (.int r27)) (h1 := (zx_SC, m15)) rfl rfl zt_38 rfl zx_SCn rfl rfl (s_Jumps_well_22 _ _ (d := d + 75) hv26) ?_
            obtain rfl := Option.some.inj hf
            exact zx_ev_ret zk_114 rfl rfl
        · rw [if_neg c9] at hf
          refine zx_ev_ifn zk_114 (P := r7 = 0) (t := 33) (f := 30) rfl rfl c9 ?_
          refine zx_ev_blk zk_114 1 (pc1 := 32) (L1 := [some (.ref 0), some (.int v1), some (.int v2), some (.int v3), some (.int r7)]) (st1 := [.int r7]) (h1 := (zx_SC, m8)) rfl ?_
          obtain rfl := Option.some.inj hf
          exact zx_ev_ret zk_114 rfl rfl
      · rw [if_neg c5] at hf
        refine zx_ev_ifn zk_114 (P := v3 ≤ 2) (t := 18) (f := 16) rfl rfl c5 ?_
        refine zx_ev_blk zk_114 1 (pc1 := 17) (L1 := [some (.ref 0), some (.int v1), some (.int v2), some (.int v3), none]) (st1 := [.int (-1)]) (h1 := (zx_SC, m)) rfl ?_
        obtain rfl := Option.some.inj hf
        exact zx_ev_ret zk_114 rfl rfl
def f_C_element (v1 : Int32) (v2 : Int32) (m : zx_M) : Option Int64 := (f_Shelves_refusalOfPlace v1 v2 m).bind fun r2 => if ¬ r2 = 0 then some (-9223372036854775808) else (f_Shelves_cell v1 v2 m).bind fun r5 => some r5
theorem s_C_element (v1 : Int32) (v2 : Int32) (m : zx_M) {d : Nat} {y : Int64} (hf : f_C_element v1 v2 m = some y) : zx_Ev (d + 3) 153 0 [some (.ref 0), some (.int v1), some (.int v2)] [] (zx_SC, m) (some (.long y), (zx_SC, m)) := by
  unfold f_C_element at hf
  refine zx_ev_blk zk_153 4 (pc1 := 6) (L1 := [some (.ref 0), some (.int v1), some (.int v2)]) (st1 := [.int v2, .int v1, .ref 15]) (h1 := (zx_SC, m)) rfl ?_
  obtain ⟨r2, hv1, hf⟩ := zx_bind_eq hf
  refine zx_ev_call (d := d + 2) zk_153 (v := some (.int r2)) (h1 := (zx_SC, m)) rfl rfl zt_64 rfl zx_SCn rfl rfl (s_Shelves_refusalOfPlace _ _ _ (d := d + 1) hv1) ?_
  by_cases c3 : ¬ r2 = 0
  · rw [if_pos c3] at hf
    refine zx_ev_ift zk_153 (P := ¬ r2 = 0) (t := 24) (f := 12) rfl rfl c3 ?_
    refine zx_ev_blk zk_153 1 (pc1 := 27) (L1 := [some (.ref 0), some (.int v1), some (.int v2)]) (st1 := [.long (-9223372036854775808)]) (h1 := (zx_SC, m)) rfl ?_
    obtain rfl := Option.some.inj hf
    exact zx_ev_ret zk_153 rfl rfl
  · rw [if_neg c3] at hf
    refine zx_ev_ifn zk_153 (P := ¬ r2 = 0) (t := 24) (f := 12) rfl rfl c3 ?_
    refine zx_ev_blk zk_153 4 (pc1 := 18) (L1 := [some (.ref 0), some (.int v1), some (.int v2)]) (st1 := [.int v2, .int v1, .ref 15]) (h1 := (zx_SC, m)) rfl ?_
    obtain ⟨r5, hv4, hf⟩ := zx_bind_eq hf
    refine zx_ev_call (d := d + 2) zk_153 (v := some (.long r5)) (h1 := (zx_SC, m)) rfl rfl zt_66 rfl zx_SCn rfl rfl (s_Shelves_cell _ _ _ (d := d + 0) hv4) ?_
    refine zx_ev_blk zk_153 1 (pc1 := 27) (L1 := [some (.ref 0), some (.int v1), some (.int v2)]) (st1 := [.long r5]) (h1 := (zx_SC, m)) rfl ?_
    obtain rfl := Option.some.inj hf
    exact zx_ev_ret zk_153 rfl rfl
def f_C_feed (v1 : Int32) (m : zx_M) : Option (Int32 × zx_M) := if v1 < 0 then some ((-1), m) else if v1 ≤ 255 then (f_Text_append_9 v1 m).bind fun (r4, m5) => some (r4, m5) else some ((-1), m)
theorem s_C_feed (v1 : Int32) (m : zx_M) {d : Nat} {y : (Int32 × zx_M)} (hf : f_C_feed v1 m = some y) : zx_Ev (d + 1) 92 0 [some (.ref 0), some (.int v1)] [] (zx_SC, m) (some (.int y.1), (zx_SC, y.2)) := by
  unfold f_C_feed at hf
  refine zx_ev_blk zk_92 1 (pc1 := 1) (L1 := [some (.ref 0), some (.int v1)]) (st1 := [.int v1]) (h1 := (zx_SC, m)) rfl ?_
  by_cases c1 : v1 < 0
  · rw [if_pos c1] at hf
    refine zx_ev_ift zk_92 (P := v1 < 0) (t := 11) (f := 4) rfl rfl c1 ?_
    refine zx_ev_blk zk_92 2 (pc1 := 23) (L1 := [some (.ref 0), some (.int v1)]) (st1 := [.int (-1)]) (h1 := (zx_SC, m)) rfl ?_
    obtain rfl := Option.some.inj hf
    exact zx_ev_ret zk_92 rfl rfl
  · rw [if_neg c1] at hf
    refine zx_ev_ifn zk_92 (P := v1 < 0) (t := 11) (f := 4) rfl rfl c1 ?_
    refine zx_ev_blk zk_92 2 (pc1 := 8) (L1 := [some (.ref 0), some (.int v1)]) (st1 := [.int 255, .int v1]) (h1 := (zx_SC, m)) rfl ?_
    by_cases c2 : v1 ≤ 255
    · rw [if_pos c2] at hf
      refine zx_ev_ift zk_92 (P := v1 ≤ 255) (t := 15) (f := 11) rfl rfl c2 ?_
      refine zx_ev_blk zk_92 3 (pc1 := 20) (L1 := [some (.ref 0), some (.int v1)]) (st1 := [.int v1, .ref 9]) (h1 := (zx_SC, m)) rfl ?_
      obtain ⟨⟨r4, m5⟩, hv3, hf⟩ := zx_bind_eq hf
      dsimp only at hf
      refine zx_ev_call (d := d + 0) zk_92 (v := some (.int r4)) (h1 := (zx_SC, m5)) rfl rfl zt_74 rfl zx_SCn rfl rfl (s_Text_append_9 _ _ (d := d + 0) hv3) ?_
      obtain rfl := Option.some.inj hf
      exact zx_ev_ret zk_92 rfl rfl
    · rw [if_neg c2] at hf
      refine zx_ev_ifn zk_92 (P := v1 ≤ 255) (t := 15) (f := 11) rfl rfl c2 ?_
      refine zx_ev_blk zk_92 2 (pc1 := 23) (L1 := [some (.ref 0), some (.int v1)]) (st1 := [.int (-1)]) (h1 := (zx_SC, m)) rfl ?_
      obtain rfl := Option.some.inj hf
      exact zx_ev_ret zk_92 rfl rfl
def f_C_refusalOfPair (v1 : Int32) (m : zx_M) : Option Int32 := if v1 < 0 then some (-1) else (f_Shelves_isThere (v1 / 10) m).bind fun r3 => if r3 = 0 then some (-1) else (f_Shelves_isThere (zx_rem v1 10) m).bind fun r6 => if ¬ r6 = 0 then (f_Shelves_holds (v1 / 10) m).bind fun r9 => (f_Shelves_holds (zx_rem v1 10) m).bind fun r11 => if r9 = (-1) then some (-11) else if ¬ r11 = (-1) then if ¬ r9 = 0 then some (-12) else if ¬ r11 = 1 then some (-12) else some 0 else some (-11) else some (-1)
theorem s_C_refusalOfPair (v1 : Int32) (m : zx_M) {d : Nat} {y : Int32} (hf : f_C_refusalOfPair v1 m = some y) : zx_Ev (d + 2) 133 0 [some (.ref 0), some (.int v1), none, none] [] (zx_SC, m) (some (.int y), (zx_SC, m)) := by
  unfold f_C_refusalOfPair at hf
  refine zx_ev_blk zk_133 1 (pc1 := 1) (L1 := [some (.ref 0), some (.int v1), none, none]) (st1 := [.int v1]) (h1 := (zx_SC, m)) rfl ?_
  by_cases c1 : v1 < 0
  · rw [if_pos c1] at hf
    refine zx_ev_ift zk_133 (P := v1 < 0) (t := 32) (f := 4) rfl rfl c1 ?_
    refine zx_ev_blk zk_133 1 (pc1 := 33) (L1 := [some (.ref 0), some (.int v1), none, none]) (st1 := [.int (-1)]) (h1 := (zx_SC, m)) rfl ?_
    obtain rfl := Option.some.inj hf
    exact zx_ev_ret zk_133 rfl rfl
  · rw [if_neg c1] at hf
    refine zx_ev_ifn zk_133 (P := v1 < 0) (t := 32) (f := 4) rfl rfl c1 ?_
    refine zx_ev_blk zk_133 4 (pc1 := 11) (L1 := [some (.ref 0), some (.int v1), none, none]) (st1 := [.int 10, .int v1, .ref 15]) (h1 := (zx_SC, m)) rfl ?_
    refine zx_ev_step zk_133 rfl (st_idiv (by decide)) ?_
    obtain ⟨r3, hv2, hf⟩ := zx_bind_eq hf
    refine zx_ev_call (d := d + 1) zk_133 (v := some (.int r3)) (h1 := (zx_SC, m)) rfl rfl zt_60 rfl zx_SCn rfl rfl (s_Shelves_isThere _ _ (d := d + 1) hv2) ?_
    by_cases c4 : r3 = 0
    · rw [if_pos c4] at hf
      refine zx_ev_ift zk_133 (P := r3 = 0) (t := 32) (f := 18) rfl rfl c4 ?_
      refine zx_ev_blk zk_133 1 (pc1 := 33) (L1 := [some (.ref 0), some (.int v1), none, none]) (st1 := [.int (-1)]) (h1 := (zx_SC, m)) rfl ?_
      obtain rfl := Option.some.inj hf
      exact zx_ev_ret zk_133 rfl rfl
    · rw [if_neg c4] at hf
      refine zx_ev_ifn zk_133 (P := r3 = 0) (t := 32) (f := 18) rfl rfl c4 ?_
      refine zx_ev_blk zk_133 4 (pc1 := 25) (L1 := [some (.ref 0), some (.int v1), none, none]) (st1 := [.int 10, .int v1, .ref 15]) (h1 := (zx_SC, m)) rfl ?_
      refine zx_ev_step zk_133 rfl (st_irem (by decide)) ?_
      obtain ⟨r6, hv5, hf⟩ := zx_bind_eq hf
      refine zx_ev_call (d := d + 1) zk_133 (v := some (.int r6)) (h1 := (zx_SC, m)) rfl rfl zt_60 rfl zx_SCn rfl rfl (s_Shelves_isThere _ _ (d := d + 1) hv5) ?_
      by_cases c7 : ¬ r6 = 0
      · rw [if_pos c7] at hf
        refine zx_ev_ift zk_133 (P := ¬ r6 = 0) (t := 34) (f := 32) rfl rfl c7 ?_
        refine zx_ev_blk zk_133 4 (pc1 := 41) (L1 := [some (.ref 0), some (.int v1), none, none]) (st1 := [.int 10, .int v1, .ref 15]) (h1 := (zx_SC, m)) rfl ?_
        refine zx_ev_step zk_133 rfl (st_idiv (by decide)) ?_
        obtain ⟨r9, hv8, hf⟩ := zx_bind_eq hf
        refine zx_ev_call (d := d + 1) zk_133 (v := some (.int r9)) (h1 := (zx_SC, m)) rfl rfl zt_61 rfl zx_SCn rfl rfl (s_Shelves_holds _ _ (d := d + 0) hv8) ?_
        refine zx_ev_blk zk_133 5 (pc1 := 53) (L1 := [some (.ref 0), some (.int v1), some (.int r9), none]) (st1 := [.int 10, .int v1, .ref 15]) (h1 := (zx_SC, m)) rfl ?_
        refine zx_ev_step zk_133 rfl (st_irem (by decide)) ?_
        obtain ⟨r11, hv10, hf⟩ := zx_bind_eq hf
        refine zx_ev_call (d := d + 1) zk_133 (v := some (.int r11)) (h1 := (zx_SC, m)) rfl rfl zt_61 rfl zx_SCn rfl rfl (s_Shelves_holds _ _ (d := d + 0) hv10) ?_
        refine zx_ev_blk zk_133 3 (pc1 := 60) (L1 := [some (.ref 0), some (.int v1), some (.int r9), some (.int r11)]) (st1 := [.int (-1), .int r9]) (h1 := (zx_SC, m)) rfl ?_
        by_cases c12 : r9 = (-1)
        · rw [if_pos c12] at hf
          refine zx_ev_ift zk_133 (P := r9 = (-1)) (t := 68) (f := 63) rfl rfl c12 ?_
          refine zx_ev_blk zk_133 1 (pc1 := 70) (L1 := [some (.ref 0), some (.int v1), some (.int r9), some (.int r11)]) (st1 := [.int (-11)]) (h1 := (zx_SC, m)) rfl ?_
          obtain rfl := Option.some.inj hf
          exact zx_ev_ret zk_133 rfl rfl
        · rw [if_neg c12] at hf
          refine zx_ev_ifn zk_133 (P := r9 = (-1)) (t := 68) (f := 63) rfl rfl c12 ?_
          refine zx_ev_blk zk_133 2 (pc1 := 65) (L1 := [some (.ref 0), some (.int v1), some (.int r9), some (.int r11)]) (st1 := [.int (-1), .int r11]) (h1 := (zx_SC, m)) rfl ?_
          by_cases c13 : ¬ r11 = (-1)
          · rw [if_pos c13] at hf
            refine zx_ev_ift zk_133 (P := ¬ r11 = (-1)) (t := 71) (f := 68) rfl rfl c13 ?_
            refine zx_ev_blk zk_133 1 (pc1 := 72) (L1 := [some (.ref 0), some (.int v1), some (.int r9), some (.int r11)]) (st1 := [.int r9]) (h1 := (zx_SC, m)) rfl ?_
            by_cases c14 : ¬ r9 = 0
            · rw [if_pos c14] at hf
              refine zx_ev_ift zk_133 (P := ¬ r9 = 0) (t := 84) (f := 75) rfl rfl c14 ?_
              refine zx_ev_blk zk_133 1 (pc1 := 86) (L1 := [some (.ref 0), some (.int v1), some (.int r9), some (.int r11)]) (st1 := [.int (-12)]) (h1 := (zx_SC, m)) rfl ?_
              obtain rfl := Option.some.inj hf
              exact zx_ev_ret zk_133 rfl rfl
            · rw [if_neg c14] at hf
              refine zx_ev_ifn zk_133 (P := ¬ r9 = 0) (t := 84) (f := 75) rfl rfl c14 ?_
              refine zx_ev_blk zk_133 2 (pc1 := 77) (L1 := [some (.ref 0), some (.int v1), some (.int r9), some (.int r11)]) (st1 := [.int 1, .int r11]) (h1 := (zx_SC, m)) rfl ?_
              by_cases c15 : ¬ r11 = 1
              · rw [if_pos c15] at hf
                refine zx_ev_ift zk_133 (P := ¬ r11 = 1) (t := 84) (f := 80) rfl rfl c15 ?_
                refine zx_ev_blk zk_133 1 (pc1 := 86) (L1 := [some (.ref 0), some (.int v1), some (.int r9), some (.int r11)]) (st1 := [.int (-12)]) (h1 := (zx_SC, m)) rfl ?_
                obtain rfl := Option.some.inj hf
                exact zx_ev_ret zk_133 rfl rfl
              · rw [if_neg c15] at hf
                refine zx_ev_ifn zk_133 (P := ¬ r11 = 1) (t := 84) (f := 80) rfl rfl c15 ?_
                refine zx_ev_blk zk_133 2 (pc1 := 86) (L1 := [some (.ref 0), some (.int v1), some (.int r9), some (.int r11)]) (st1 := [.int 0]) (h1 := (zx_SC, m)) rfl ?_
                obtain rfl := Option.some.inj hf
                exact zx_ev_ret zk_133 rfl rfl
          · rw [if_neg c13] at hf
            refine zx_ev_ifn zk_133 (P := ¬ r11 = (-1)) (t := 71) (f := 68) rfl rfl c13 ?_
            refine zx_ev_blk zk_133 1 (pc1 := 70) (L1 := [some (.ref 0), some (.int v1), some (.int r9), some (.int r11)]) (st1 := [.int (-11)]) (h1 := (zx_SC, m)) rfl ?_
            obtain rfl := Option.some.inj hf
            exact zx_ev_ret zk_133 rfl rfl
      · rw [if_neg c7] at hf
        refine zx_ev_ifn zk_133 (P := ¬ r6 = 0) (t := 34) (f := 32) rfl rfl c7 ?_
        refine zx_ev_blk zk_133 1 (pc1 := 33) (L1 := [some (.ref 0), some (.int v1), none, none]) (st1 := [.int (-1)]) (h1 := (zx_SC, m)) rfl ?_
        obtain rfl := Option.some.inj hf
        exact zx_ev_ret zk_133 rfl rfl
def kx_C_firstUnlike_l3 (v1 : Int32) (v2 : Int32) (v3 : Int32) (m : zx_M) (d : Nat) (out : Option Value × zx_H) : Int32 → Prop
  | y => out = (some (.int y), (zx_SC, m))
def kl_C_firstUnlike_l3 (v1 : Int32) (v2 : Int32) (v3 : Int32) (m : zx_M) (d : Nat) (out : Option Value × zx_H) : (Int32) ⊕ (Int32) → Prop
  | .inl v4 => zx_Ev (d + 3) 134 3 [some (.ref 0), some (.int v1), some (.int v2), some (.int v3), some (.int v4)] [] (zx_SC, m) out
  | .inr x => kx_C_firstUnlike_l3 v1 v2 v3 m d out x
def b_C_firstUnlike_l3 (v1 : Int32) (v2 : Int32) (v3 : Int32) (v4 : Int32) (m : zx_M) : Option ((Int32) ⊕ (Int32)) := if v2 ≤ v4 then some (.inr (-2)) else (f_Jumps_size_22 m).bind fun r3 => if r3 ≤ v4 then some (.inr v4) else (f_Jumps_downOf_22 v4 v3 m).bind fun r6 => (f_Shelves_cell v1 v4 m).bind fun r8 => if (lg_cmp (Int32.toInt64 r6) r8) = 0 then zx_let (v4 + 1) fun a10 => some (.inl a10) else some (.inr v4)
theorem eb_C_firstUnlike_l3 (v1 : Int32) (v2 : Int32) (v3 : Int32) (v4 : Int32) (m : zx_M) {d : Nat} {out : Option Value × zx_H} {y : (Int32) ⊕ (Int32)} (hf : b_C_firstUnlike_l3 v1 v2 v3 v4 m = some y) (hK : kl_C_firstUnlike_l3 v1 v2 v3 m d out y) : zx_Ev (d + 3) 134 3 [some (.ref 0), some (.int v1), some (.int v2), some (.int v3), some (.int v4)] [] (zx_SC, m) out := by
  unfold b_C_firstUnlike_l3 at hf
  refine zx_ev_blk zk_134 2 (pc1 := 6) (L1 := [some (.ref 0), some (.int v1), some (.int v2), some (.int v3), some (.int v4)]) (st1 := [.int v2, .int v4]) (h1 := (zx_SC, m)) rfl ?_
  by_cases c1 : v2 ≤ v4
  · rw [if_pos c1] at hf
    refine zx_ev_ift zk_134 (P := v2 ≤ v4) (t := 55) (f := 9) rfl rfl c1 ?_
    refine zx_ev_blk zk_134 1 (pc1 := 57) (L1 := [some (.ref 0), some (.int v1), some (.int v2), some (.int v3), some (.int v4)]) (st1 := [.int (-2)]) (h1 := (zx_SC, m)) rfl ?_
    obtain rfl := Option.some.inj hf
    rw [show out = _ from hK]
    exact zx_ev_ret zk_134 rfl rfl
  · rw [if_neg c1] at hf
    refine zx_ev_ifn zk_134 (P := v2 ≤ v4) (t := 55) (f := 9) rfl rfl c1 ?_
    refine zx_ev_blk zk_134 3 (pc1 := 15) (L1 := [some (.ref 0), some (.int v1), some (.int v2), some (.int v3), some (.int v4)]) (st1 := [.ref 22, .int v4]) (h1 := (zx_SC, m)) rfl ?_
    obtain ⟨r3, hv2, hf⟩ := zx_bind_eq hf
    refine zx_ev_call (d := d + 2) zk_134 (v := some (.int r3)) (h1 := (zx_SC, m)) rfl rfl zt_32 rfl zx_SCn rfl rfl (s_Jumps_size_22 _ (d := d + 2) hv2) ?_
    by_cases c4 : r3 ≤ v4
    · rw [if_pos c4] at hf
      refine zx_ev_ift zk_134 (P := r3 ≤ v4) (t := 46) (f := 21) rfl rfl c4 ?_
      refine zx_ev_blk zk_134 1 (pc1 := 48) (L1 := [some (.ref 0), some (.int v1), some (.int v2), some (.int v3), some (.int v4)]) (st1 := [.int v4]) (h1 := (zx_SC, m)) rfl ?_
      obtain rfl := Option.some.inj hf
      rw [show out = _ from hK]
      exact zx_ev_ret zk_134 rfl rfl
    · rw [if_neg c4] at hf
      refine zx_ev_ifn zk_134 (P := r3 ≤ v4) (t := 46) (f := 21) rfl rfl c4 ?_
      refine zx_ev_blk zk_134 4 (pc1 := 28) (L1 := [some (.ref 0), some (.int v1), some (.int v2), some (.int v3), some (.int v4)]) (st1 := [.int v3, .int v4, .ref 22]) (h1 := (zx_SC, m)) rfl ?_
      obtain ⟨r6, hv5, hf⟩ := zx_bind_eq hf
      refine zx_ev_call (d := d + 2) zk_134 (v := some (.int r6)) (h1 := (zx_SC, m)) rfl rfl zt_36 rfl zx_SCn rfl rfl (s_Jumps_downOf_22 _ _ _ (d := d + 2) hv5) ?_
      refine zx_ev_blk zk_134 5 (pc1 := 39) (L1 := [some (.ref 0), some (.int v1), some (.int v2), some (.int v3), some (.int v4)]) (st1 := [.int v4, .int v1, .ref 15, .long (Int32.toInt64 r6)]) (h1 := (zx_SC, m)) rfl ?_
      obtain ⟨r8, hv7, hf⟩ := zx_bind_eq hf
      refine zx_ev_call (d := d + 2) zk_134 (v := some (.long r8)) (h1 := (zx_SC, m)) rfl rfl zt_66 rfl zx_SCn rfl rfl (s_Shelves_cell _ _ _ (d := d + 0) hv7) ?_
      refine zx_ev_blk zk_134 1 (pc1 := 43) (L1 := [some (.ref 0), some (.int v1), some (.int v2), some (.int v3), some (.int v4)]) (st1 := [.int (lg_cmp (Int32.toInt64 r6) r8)]) (h1 := (zx_SC, m)) rfl ?_
      by_cases c9 : (lg_cmp (Int32.toInt64 r6) r8) = 0
      · rw [if_pos c9] at hf
        refine zx_ev_ift zk_134 (P := (lg_cmp (Int32.toInt64 r6) r8) = 0) (t := 49) (f := 46) rfl rfl c9 ?_
        obtain ⟨a10, ha10, hf⟩ := zx_let_eq hf
        refine zx_ev_blk zk_134 2 (pc1 := 3) (L1 := [some (.ref 0), some (.int v1), some (.int v2), some (.int v3), some (.int a10)]) (st1 := []) (h1 := (zx_SC, m)) (by subst ha10; rfl) ?_
        obtain rfl := Option.some.inj hf
        exact zx_ev_sub (L := [some (.ref 0), some (.int v1), some (.int v2), some (.int v3), some (.int a10)]) (⟨rfl, ⟨rfl, ⟨rfl, ⟨rfl, ⟨rfl, trivial⟩⟩⟩⟩⟩) hK
      · rw [if_neg c9] at hf
        refine zx_ev_ifn zk_134 (P := (lg_cmp (Int32.toInt64 r6) r8) = 0) (t := 49) (f := 46) rfl rfl c9 ?_
        refine zx_ev_blk zk_134 1 (pc1 := 48) (L1 := [some (.ref 0), some (.int v1), some (.int v2), some (.int v3), some (.int v4)]) (st1 := [.int v4]) (h1 := (zx_SC, m)) rfl ?_
        obtain rfl := Option.some.inj hf
        rw [show out = _ from hK]
        exact zx_ev_ret zk_134 rfl rfl
def l_C_firstUnlike_l3 (v1 : Int32) (v2 : Int32) (v3 : Int32) (m : zx_M) (s0 : Int32) : Option (Int32) := zx_lp zx_N (fun s : Int32 => b_C_firstUnlike_l3 v1 v2 v3 s m) s0
theorem el_C_firstUnlike_l3 (v1 : Int32) (v2 : Int32) (v3 : Int32) (m : zx_M) {d : Nat} {out : Option Value × zx_H} : ∀ (n : Nat) (s : Int32) (x : Int32), zx_lp n (fun s : Int32 => b_C_firstUnlike_l3 v1 v2 v3 s m) s = some x → kx_C_firstUnlike_l3 v1 v2 v3 m d out x → zx_Ev (d + 3) 134 3 [some (.ref 0), some (.int v1), some (.int v2), some (.int v3), some (.int s)] [] (zx_SC, m) out := by
  intro n
  induction n with
  | zero => intro s x hl _; simp [zx_lp] at hl
  | succ n ih =>
    intro s x hl hx
    unfold zx_lp at hl
    cases hb : b_C_firstUnlike_l3 v1 v2 v3 s m with
    | none => simp only [hb] at hl; cases hl
    | some z =>
      simp only [hb] at hl
      cases z with
      | inl s1 => exact eb_C_firstUnlike_l3 v1 v2 v3 s m hb (ih s1 x hl hx)
      | inr t =>
        simp only [Option.some.injEq] at hl
        subst hl
        exact eb_C_firstUnlike_l3 v1 v2 v3 s m hb hx
def f_C_firstUnlike (v1 : Int32) (v2 : Int32) (v3 : Int32) (m : zx_M) : Option Int32 := (l_C_firstUnlike_l3 v1 v2 v3 m 0).bind fun x11 => zx_let x11 fun y12 => some y12
theorem s_C_firstUnlike (v1 : Int32) (v2 : Int32) (v3 : Int32) (m : zx_M) {d : Nat} {y : Int32} (hf : f_C_firstUnlike v1 v2 v3 m = some y) : zx_Ev (d + 3) 134 0 [some (.ref 0), some (.int v1), some (.int v2), some (.int v3), none] [] (zx_SC, m) (some (.int y), (zx_SC, m)) := by
  unfold f_C_firstUnlike at hf
  refine zx_ev_blk zk_134 2 (pc1 := 3) (L1 := [some (.ref 0), some (.int v1), some (.int v2), some (.int v3), some (.int 0)]) (st1 := []) (h1 := (zx_SC, m)) rfl ?_
  obtain ⟨x11, hx11, hf⟩ := zx_bind_eq hf
  refine zx_ev_sub (L := [some (.ref 0), some (.int v1), some (.int v2), some (.int v3), some (.int 0)]) (⟨rfl, ⟨rfl, ⟨rfl, ⟨rfl, ⟨rfl, trivial⟩⟩⟩⟩⟩) (el_C_firstUnlike_l3 v1 v2 v3 m zx_N 0 x11 hx11 ?_)
  obtain ⟨y12, hy12, hf⟩ := zx_let_eq hf
  subst hy12
  obtain rfl := Option.some.inj hf
  rfl
def kx_C_fromWhere_l40 (v1 : Int32) (m : zx_M) (d : Nat) (out : Option Value × zx_H) : (Int32 × zx_M) → Prop
  | y => out = (some (.int y.1), (zx_SC, y.2))
def kl_C_fromWhere_l40 (v1 : Int32) (m : zx_M) (d : Nat) (out : Option Value × zx_H) : (Int32) ⊕ ((Int32 × zx_M)) → Prop
  | .inl v3 => zx_Ev (d + 78) 136 40 [some (.ref 0), some (.int v1), none, some (.int v3)] [] (zx_SC, m) out
  | .inr x => kx_C_fromWhere_l40 v1 m d out x
def b_C_fromWhere_l40 (v1 : Int32) (v3 : Int32) (m : zx_M) : Option ((Int32) ⊕ ((Int32 × zx_M))) := if 999 < v3 then some (.inr ((-2000000000), m)) else (f_Shelves_size (zx_rem v1 10) m).bind fun r16 => (f_C_firstUnlike (zx_rem v1 10) r16 v3 m).bind fun r18 => if ¬ r18 = (-2) then zx_let (v3 + 1) fun a20 => some (.inl a20) else some (.inr (v3, m))
theorem eb_C_fromWhere_l40 (v1 : Int32) (v3 : Int32) (m : zx_M) {d : Nat} {out : Option Value × zx_H} {y : (Int32) ⊕ ((Int32 × zx_M))} (hf : b_C_fromWhere_l40 v1 v3 m = some y) (hK : kl_C_fromWhere_l40 v1 m d out y) : zx_Ev (d + 78) 136 40 [some (.ref 0), some (.int v1), none, some (.int v3)] [] (zx_SC, m) out := by
  unfold b_C_fromWhere_l40 at hf
  refine zx_ev_blk zk_136 2 (pc1 := 44) (L1 := [some (.ref 0), some (.int v1), none, some (.int v3)]) (st1 := [.int 999, .int v3]) (h1 := (zx_SC, m)) rfl ?_
  by_cases c14 : 999 < v3
  · rw [if_pos c14] at hf
    refine zx_ev_ift zk_136 (P := 999 < v3) (t := 80) (f := 47) rfl rfl c14 ?_
    refine zx_ev_blk zk_136 1 (pc1 := 82) (L1 := [some (.ref 0), some (.int v1), none, some (.int v3)]) (st1 := [.int (-2000000000)]) (h1 := (zx_SC, m)) rfl ?_
    obtain rfl := Option.some.inj hf
    rw [show out = _ from hK]
    exact zx_ev_ret zk_136 rfl rfl
  · rw [if_neg c14] at hf
    refine zx_ev_ifn zk_136 (P := 999 < v3) (t := 80) (f := 47) rfl rfl c14 ?_
    refine zx_ev_blk zk_136 3 (pc1 := 51) (L1 := [some (.ref 0), some (.int v1), none, some (.int v3)]) (st1 := [.int 10, .int v1, .ref 0]) (h1 := (zx_SC, m)) rfl ?_
    refine zx_ev_step zk_136 rfl (st_irem (by decide)) ?_
    refine zx_ev_blk zk_136 4 (pc1 := 59) (L1 := [some (.ref 0), some (.int v1), none, some (.int v3)]) (st1 := [.int 10, .int v1, .ref 15, .int (zx_rem v1 10), .ref 0]) (h1 := (zx_SC, m)) rfl ?_
    refine zx_ev_step zk_136 rfl (st_irem (by decide)) ?_
    obtain ⟨r16, hv15, hf⟩ := zx_bind_eq hf
    refine zx_ev_call (d := d + 77) zk_136 (v := some (.int r16)) (h1 := (zx_SC, m)) rfl rfl zt_62 rfl zx_SCn rfl rfl (s_Shelves_size _ _ (d := d + 76) hv15) ?_
    refine zx_ev_blk zk_136 1 (pc1 := 64) (L1 := [some (.ref 0), some (.int v1), none, some (.int v3)]) (st1 := [.int v3, .int r16, .int (zx_rem v1 10), .ref 0]) (h1 := (zx_SC, m)) rfl ?_
    obtain ⟨r18, hv17, hf⟩ := zx_bind_eq hf
    refine zx_ev_call (d := d + 77) zk_136 (v := some (.int r18)) (h1 := (zx_SC, m)) rfl rfl zt_134 rfl zx_SCn rfl rfl (s_C_firstUnlike _ _ _ _ (d := d + 74) hv17) ?_
    refine zx_ev_blk zk_136 1 (pc1 := 69) (L1 := [some (.ref 0), some (.int v1), none, some (.int v3)]) (st1 := [.int (-2), .int r18]) (h1 := (zx_SC, m)) rfl ?_
    by_cases c19 : ¬ r18 = (-2)
    · rw [if_pos c19] at hf
      refine zx_ev_ift zk_136 (P := ¬ r18 = (-2)) (t := 74) (f := 72) rfl rfl c19 ?_
      obtain ⟨a20, ha20, hf⟩ := zx_let_eq hf
      refine zx_ev_blk zk_136 2 (pc1 := 40) (L1 := [some (.ref 0), some (.int v1), none, some (.int a20)]) (st1 := []) (h1 := (zx_SC, m)) (by subst ha20; rfl) ?_
      obtain rfl := Option.some.inj hf
      exact zx_ev_sub (L := [some (.ref 0), some (.int v1), none, some (.int a20)]) (⟨rfl, ⟨rfl, ⟨rfl, trivial⟩⟩⟩) hK
    · rw [if_neg c19] at hf
      refine zx_ev_ifn zk_136 (P := ¬ r18 = (-2)) (t := 74) (f := 72) rfl rfl c19 ?_
      refine zx_ev_blk zk_136 1 (pc1 := 73) (L1 := [some (.ref 0), some (.int v1), none, some (.int v3)]) (st1 := [.int v3]) (h1 := (zx_SC, m)) rfl ?_
      obtain rfl := Option.some.inj hf
      rw [show out = _ from hK]
      exact zx_ev_ret zk_136 rfl rfl
def l_C_fromWhere_l40 (v1 : Int32) (m : zx_M) (s0 : Int32) : Option ((Int32 × zx_M)) := zx_lp zx_N (fun s : Int32 => b_C_fromWhere_l40 v1 s m) s0
theorem el_C_fromWhere_l40 (v1 : Int32) (m : zx_M) {d : Nat} {out : Option Value × zx_H} : ∀ (n : Nat) (s : Int32) (x : (Int32 × zx_M)), zx_lp n (fun s : Int32 => b_C_fromWhere_l40 v1 s m) s = some x → kx_C_fromWhere_l40 v1 m d out x → zx_Ev (d + 78) 136 40 [some (.ref 0), some (.int v1), none, some (.int s)] [] (zx_SC, m) out := by
  intro n
  induction n with
  | zero => intro s x hl _; simp [zx_lp] at hl
  | succ n ih =>
    intro s x hl hx
    unfold zx_lp at hl
    cases hb : b_C_fromWhere_l40 v1 s m with
    | none => simp only [hb] at hl; cases hl
    | some z =>
      simp only [hb] at hl
      cases z with
      | inl s1 => exact eb_C_fromWhere_l40 v1 s m hb (ih s1 x hl hx)
      | inr t =>
        simp only [Option.some.injEq] at hl
        subst hl
        exact eb_C_fromWhere_l40 v1 s m hb hx
def f_C_fromWhere (v1 : Int32) (v2 : Int32) (m : zx_M) : Option (Int32 × zx_M) := (f_C_isCount v2 m).bind fun r2 => if r2 = 0 then some ((-2000000000), m) else (f_C_refusalOfPair v1 m).bind fun r5 => if r5 = 0 then (f_C_readOrder (v1 / 10) m).bind fun (r8, m9) => (f_C_way m9).bind fun r11 => (f_C_lineUp v2 r11 m9).bind fun m13 => (l_C_fromWhere_l40 v1 m13 (-999)).bind fun x21 => zx_let x21 fun y22 => some y22 else some ((-2000000000), m)
theorem s_C_fromWhere (v1 : Int32) (v2 : Int32) (m : zx_M) {d : Nat} {y : (Int32 × zx_M)} (hf : f_C_fromWhere v1 v2 m = some y) : zx_Ev (d + 78) 136 0 [some (.ref 0), some (.int v1), some (.int v2), none] [] (zx_SC, m) (some (.int y.1), (zx_SC, y.2)) := by
  unfold f_C_fromWhere at hf
  refine zx_ev_blk zk_136 1 (pc1 := 1) (L1 := [some (.ref 0), some (.int v1), some (.int v2), none]) (st1 := [.int v2]) (h1 := (zx_SC, m)) rfl ?_
  obtain ⟨r2, hv1, hf⟩ := zx_bind_eq hf
  refine zx_ev_call (d := d + 77) zk_136 (v := some (.int r2)) (h1 := (zx_SC, m)) rfl rfl zt_98 rfl zx_SCn rfl rfl (s_C_isCount _ _ (d := d + 77) hv1) ?_
  by_cases c3 : r2 = 0
  · rw [if_pos c3] at hf
    refine zx_ev_ift zk_136 (P := r2 = 0) (t := 15) (f := 7) rfl rfl c3 ?_
    refine zx_ev_blk zk_136 1 (pc1 := 17) (L1 := [some (.ref 0), some (.int v1), some (.int v2), none]) (st1 := [.int (-2000000000)]) (h1 := (zx_SC, m)) rfl ?_
    obtain rfl := Option.some.inj hf
    exact zx_ev_ret zk_136 rfl rfl
  · rw [if_neg c3] at hf
    refine zx_ev_ifn zk_136 (P := r2 = 0) (t := 15) (f := 7) rfl rfl c3 ?_
    refine zx_ev_blk zk_136 2 (pc1 := 9) (L1 := [some (.ref 0), some (.int v1), some (.int v2), none]) (st1 := [.int v1, .ref 0]) (h1 := (zx_SC, m)) rfl ?_
    obtain ⟨r5, hv4, hf⟩ := zx_bind_eq hf
    refine zx_ev_call (d := d + 77) zk_136 (v := some (.int r5)) (h1 := (zx_SC, m)) rfl rfl zt_133 rfl zx_SCn rfl rfl (s_C_refusalOfPair _ _ (d := d + 75) hv4) ?_
    by_cases c6 : r5 = 0
    · rw [if_pos c6] at hf
      refine zx_ev_ift zk_136 (P := r5 = 0) (t := 18) (f := 15) rfl rfl c6 ?_
      refine zx_ev_blk zk_136 3 (pc1 := 22) (L1 := [some (.ref 0), some (.int v1), some (.int v2), none]) (st1 := [.int 10, .int v1, .ref 0]) (h1 := (zx_SC, m)) rfl ?_
      refine zx_ev_step zk_136 rfl (st_idiv (by decide)) ?_
      obtain ⟨⟨r8, m9⟩, hv7, hf⟩ := zx_bind_eq hf
      dsimp only at hf
      refine zx_ev_call (d := d + 77) zk_136 (v := some (.int r8)) (h1 := (zx_SC, m9)) rfl rfl zt_103 rfl zx_SCn rfl rfl (s_C_readOrder _ _ (d := d + 0) hv7) ?_
      refine zx_ev_blk zk_136 4 (pc1 := 30) (L1 := [some (.ref 0), some (.int v1), some (.int v2), none]) (st1 := [.ref 0, .int v2, .ref 0]) (h1 := (zx_SC, m9)) rfl ?_
      obtain ⟨r11, hv10, hf⟩ := zx_bind_eq hf
      refine zx_ev_call (d := d + 77) zk_136 (v := some (.int r11)) (h1 := (zx_SC, m9)) rfl rfl zt_106 rfl zx_SCn rfl rfl (s_C_way _ (d := d + 76) hv10) ?_
      obtain ⟨m13, hv12, hf⟩ := zx_bind_eq hf
      refine zx_ev_call (d := d + 77) zk_136 (v := none) (h1 := (zx_SC, m13)) rfl rfl zt_109 rfl zx_SCn rfl rfl (s_C_lineUp _ _ _ (d := d + 74) hv12) ?_
      refine zx_ev_blk zk_136 2 (pc1 := 40) (L1 := [some (.ref 0), some (.int v1), some (.int v2), some (.int (-999))]) (st1 := []) (h1 := (zx_SC, m13)) rfl ?_
      obtain ⟨x21, hx21, hf⟩ := zx_bind_eq hf
      refine zx_ev_sub (L := [some (.ref 0), some (.int v1), none, some (.int (-999))]) (⟨rfl, ⟨rfl, ⟨trivial, ⟨rfl, trivial⟩⟩⟩⟩) (el_C_fromWhere_l40 v1 m13 zx_N (-999) x21 hx21 ?_)
      obtain ⟨y22, hy22, hf⟩ := zx_let_eq hf
      subst hy22
      obtain rfl := Option.some.inj hf
      rfl
    · rw [if_neg c6] at hf
      refine zx_ev_ifn zk_136 (P := r5 = 0) (t := 18) (f := 15) rfl rfl c6 ?_
      refine zx_ev_blk zk_136 1 (pc1 := 17) (L1 := [some (.ref 0), some (.int v1), some (.int v2), none]) (st1 := [.int (-2000000000)]) (h1 := (zx_SC, m)) rfl ?_
      obtain rfl := Option.some.inj hf
      exact zx_ev_ret zk_136 rfl rfl
def f_C_go (v1 : Int32) (v2 : Int32) (m : zx_M) : Option (Int32 × zx_M) := if v2 < 0 then some ((-2000000000), m) else if 20 < v2 then some ((-2000000000), m) else (f_Numbers_isJumper v1 m).bind fun r4 => if r4 = 0 then some ((-2000000000), m) else (f_Deed_mayGo_26 v1 m).bind fun r7 => if ¬ r7 = 0 then (f_C_way m).bind fun r10 => (f_C_ahead v2 r10 m).bind fun r12 => (f_C_yardsCarried v1 m).bind fun (r14, m15) => (f_Deed_sendOut_26 v1 v2 r12 r14 m15).bind fun (r17, m18) => some (r17, m18) else some ((-2000000000), m)
theorem s_C_go (v1 : Int32) (v2 : Int32) (m : zx_M) {d : Nat} {y : (Int32 × zx_M)} (hf : f_C_go v1 v2 m = some y) : zx_Ev (d + 76) 140 0 [some (.ref 0), some (.int v1), some (.int v2)] [] (zx_SC, m) (some (.int y.1), (zx_SC, y.2)) := by
  unfold f_C_go at hf
  refine zx_ev_blk zk_140 1 (pc1 := 1) (L1 := [some (.ref 0), some (.int v1), some (.int v2)]) (st1 := [.int v2]) (h1 := (zx_SC, m)) rfl ?_
  by_cases c1 : v2 < 0
  · rw [if_pos c1] at hf
    refine zx_ev_ift zk_140 (P := v2 < 0) (t := 32) (f := 4) rfl rfl c1 ?_
    refine zx_ev_blk zk_140 1 (pc1 := 34) (L1 := [some (.ref 0), some (.int v1), some (.int v2)]) (st1 := [.int (-2000000000)]) (h1 := (zx_SC, m)) rfl ?_
    obtain rfl := Option.some.inj hf
    exact zx_ev_ret zk_140 rfl rfl
  · rw [if_neg c1] at hf
    refine zx_ev_ifn zk_140 (P := v2 < 0) (t := 32) (f := 4) rfl rfl c1 ?_
    refine zx_ev_blk zk_140 2 (pc1 := 7) (L1 := [some (.ref 0), some (.int v1), some (.int v2)]) (st1 := [.int 20, .int v2]) (h1 := (zx_SC, m)) rfl ?_
    by_cases c2 : 20 < v2
    · rw [if_pos c2] at hf
      refine zx_ev_ift zk_140 (P := 20 < v2) (t := 32) (f := 10) rfl rfl c2 ?_
      refine zx_ev_blk zk_140 1 (pc1 := 34) (L1 := [some (.ref 0), some (.int v1), some (.int v2)]) (st1 := [.int (-2000000000)]) (h1 := (zx_SC, m)) rfl ?_
      obtain rfl := Option.some.inj hf
      exact zx_ev_ret zk_140 rfl rfl
    · rw [if_neg c2] at hf
      refine zx_ev_ifn zk_140 (P := 20 < v2) (t := 32) (f := 10) rfl rfl c2 ?_
      refine zx_ev_blk zk_140 3 (pc1 := 15) (L1 := [some (.ref 0), some (.int v1), some (.int v2)]) (st1 := [.int v1, .ref 1]) (h1 := (zx_SC, m)) rfl ?_
      obtain ⟨r4, hv3, hf⟩ := zx_bind_eq hf
      refine zx_ev_call (d := d + 75) zk_140 (v := some (.int r4)) (h1 := (zx_SC, m)) rfl rfl zt_43 rfl zx_SCn rfl rfl (s_Numbers_isJumper _ _ (d := d + 75) hv3) ?_
      by_cases c5 : r4 = 0
      · rw [if_pos c5] at hf
        refine zx_ev_ift zk_140 (P := r4 = 0) (t := 32) (f := 21) rfl rfl c5 ?_
        refine zx_ev_blk zk_140 1 (pc1 := 34) (L1 := [some (.ref 0), some (.int v1), some (.int v2)]) (st1 := [.int (-2000000000)]) (h1 := (zx_SC, m)) rfl ?_
        obtain rfl := Option.some.inj hf
        exact zx_ev_ret zk_140 rfl rfl
      · rw [if_neg c5] at hf
        refine zx_ev_ifn zk_140 (P := r4 = 0) (t := 32) (f := 21) rfl rfl c5 ?_
        refine zx_ev_blk zk_140 3 (pc1 := 26) (L1 := [some (.ref 0), some (.int v1), some (.int v2)]) (st1 := [.int v1, .ref 26]) (h1 := (zx_SC, m)) rfl ?_
        obtain ⟨r7, hv6, hf⟩ := zx_bind_eq hf
        refine zx_ev_call (d := d + 75) zk_140 (v := some (.int r7)) (h1 := (zx_SC, m)) rfl rfl zt_27 rfl zx_SCn rfl rfl (s_Deed_mayGo_26 _ _ (d := d + 75) hv6) ?_
        by_cases c8 : ¬ r7 = 0
        · rw [if_pos c8] at hf
          refine zx_ev_ift zk_140 (P := ¬ r7 = 0) (t := 35) (f := 32) rfl rfl c8 ?_
          refine zx_ev_blk zk_140 7 (pc1 := 44) (L1 := [some (.ref 0), some (.int v1), some (.int v2)]) (st1 := [.ref 0, .int v2, .ref 0, .int v2, .int v1, .ref 26]) (h1 := (zx_SC, m)) rfl ?_
          obtain ⟨r10, hv9, hf⟩ := zx_bind_eq hf
          refine zx_ev_call (d := d + 75) zk_140 (v := some (.int r10)) (h1 := (zx_SC, m)) rfl rfl zt_106 rfl zx_SCn rfl rfl (s_C_way _ (d := d + 74) hv9) ?_
          obtain ⟨r12, hv11, hf⟩ := zx_bind_eq hf
          refine zx_ev_call (d := d + 75) zk_140 (v := some (.int r12)) (h1 := (zx_SC, m)) rfl rfl zt_107 rfl zx_SCn rfl rfl (s_C_ahead _ _ _ (d := d + 74) hv11) ?_
          refine zx_ev_blk zk_140 2 (pc1 := 52) (L1 := [some (.ref 0), some (.int v1), some (.int v2)]) (st1 := [.int v1, .ref 0, .int r12, .int v2, .int v1, .ref 26]) (h1 := (zx_SC, m)) rfl ?_
          obtain ⟨⟨r14, m15⟩, hv13, hf⟩ := zx_bind_eq hf
          dsimp only at hf
          refine zx_ev_call (d := d + 75) zk_140 (v := some (.int r14)) (h1 := (zx_SC, m15)) rfl rfl zt_95 rfl zx_SCn rfl rfl (s_C_yardsCarried _ _ (d := d + 0) hv13) ?_
          obtain ⟨⟨r17, m18⟩, hv16, hf⟩ := zx_bind_eq hf
          dsimp only at hf
          refine zx_ev_call (d := d + 75) zk_140 (v := some (.int r17)) (h1 := (zx_SC, m18)) rfl rfl zt_28 rfl zx_SCn rfl rfl (s_Deed_sendOut_26 _ _ _ _ _ (d := d + 73) hv16) ?_
          obtain rfl := Option.some.inj hf
          exact zx_ev_ret zk_140 rfl rfl
        · rw [if_neg c8] at hf
          refine zx_ev_ifn zk_140 (P := ¬ r7 = 0) (t := 35) (f := 32) rfl rfl c8 ?_
          refine zx_ev_blk zk_140 1 (pc1 := 34) (L1 := [some (.ref 0), some (.int v1), some (.int v2)]) (st1 := [.int (-2000000000)]) (h1 := (zx_SC, m)) rfl ?_
          obtain rfl := Option.some.inj hf
          exact zx_ev_ret zk_140 rfl rfl
def f_C_image (m : zx_M) : Option (Int32 × zx_M) := (f_Deed_become_32_26 m).bind fun m2 => zx_let (zx_u1 m2 0 10 1) fun m3 => (f_Deed_drops_32 m3).bind fun r5 => some (r5, m3)
theorem s_C_image (m : zx_M) {d : Nat} {y : (Int32 × zx_M)} (hf : f_C_image m = some y) : zx_Ev (d + 3) 143 0 [some (.ref 0)] [] (zx_SC, m) (some (.int y.1), (zx_SC, y.2)) := by
  unfold f_C_image at hf
  refine zx_ev_blk zk_143 4 (pc1 := 8) (L1 := [some (.ref 0)]) (st1 := [.ref 26, .ref 32]) (h1 := (zx_SC, m)) rfl ?_
  obtain ⟨m2, hv1, hf⟩ := zx_bind_eq hf
  refine zx_ev_call (d := d + 2) zk_143 (v := none) (h1 := (zx_SC, m2)) rfl rfl zt_24 rfl zx_SCn rfl rfl (s_Deed_become_32_26 _ (d := d + 0) hv1) ?_
  obtain ⟨m3, hm3, hf⟩ := zx_let_eq hf
  refine zx_ev_blk zk_143 5 (pc1 := 20) (L1 := [some (.ref 0)]) (st1 := [.ref 32]) (h1 := (zx_SC, m3)) (by subst hm3; rfl) ?_
  obtain ⟨r5, hv4, hf⟩ := zx_bind_eq hf
  refine zx_ev_call (d := d + 2) zk_143 (v := some (.int r5)) (h1 := (zx_SC, m3)) rfl rfl zt_25 rfl zx_SCn rfl rfl (s_Deed_drops_32 _ (d := d + 2) hv4) ?_
  obtain rfl := Option.some.inj hf
  exact zx_ev_ret zk_143 rfl rfl
def f_C_judge (v1 : Int32) (v2 : Int32) (m : zx_M) : Option (Int32 × zx_M) := (f_C_isSpotAndCount v2 m).bind fun r2 => if ¬ r2 = 0 then (f_C_refusalOfPair v1 m).bind fun r5 => if r5 = 0 then (f_C_readOrder (v1 / 10) m).bind fun (r8, m9) => (f_C_countOf v2 m9).bind fun r11 => (f_C_way m9).bind fun r13 => (f_C_lineUp r11 r13 m9).bind fun m15 => (f_Shelves_size (zx_rem v1 10) m15).bind fun r17 => (f_C_spotOf v2 m15).bind fun r19 => (f_C_firstUnlike (zx_rem v1 10) r17 r19 m15).bind fun r21 => some (r21, m15) else some (r5, m) else some ((-1), m)
theorem s_C_judge (v1 : Int32) (v2 : Int32) (m : zx_M) {d : Nat} {y : (Int32 × zx_M)} (hf : f_C_judge v1 v2 m = some y) : zx_Ev (d + 78) 135 0 [some (.ref 0), some (.int v1), some (.int v2), none] [] (zx_SC, m) (some (.int y.1), (zx_SC, y.2)) := by
  unfold f_C_judge at hf
  refine zx_ev_blk zk_135 1 (pc1 := 1) (L1 := [some (.ref 0), some (.int v1), some (.int v2), none]) (st1 := [.int v2]) (h1 := (zx_SC, m)) rfl ?_
  obtain ⟨r2, hv1, hf⟩ := zx_bind_eq hf
  refine zx_ev_call (d := d + 77) zk_135 (v := some (.int r2)) (h1 := (zx_SC, m)) rfl rfl zt_99 rfl zx_SCn rfl rfl (s_C_isSpotAndCount _ _ (d := d + 76) hv1) ?_
  by_cases c3 : ¬ r2 = 0
  · rw [if_pos c3] at hf
    refine zx_ev_ift zk_135 (P := ¬ r2 = 0) (t := 9) (f := 7) rfl rfl c3 ?_
    refine zx_ev_blk zk_135 2 (pc1 := 11) (L1 := [some (.ref 0), some (.int v1), some (.int v2), none]) (st1 := [.int v1, .ref 0]) (h1 := (zx_SC, m)) rfl ?_
    obtain ⟨r5, hv4, hf⟩ := zx_bind_eq hf
    refine zx_ev_call (d := d + 77) zk_135 (v := some (.int r5)) (h1 := (zx_SC, m)) rfl rfl zt_133 rfl zx_SCn rfl rfl (s_C_refusalOfPair _ _ (d := d + 75) hv4) ?_
    refine zx_ev_blk zk_135 2 (pc1 := 16) (L1 := [some (.ref 0), some (.int v1), some (.int v2), some (.int r5)]) (st1 := [.int r5]) (h1 := (zx_SC, m)) rfl ?_
    by_cases c6 : r5 = 0
    · rw [if_pos c6] at hf
      refine zx_ev_ift zk_135 (P := r5 = 0) (t := 21) (f := 19) rfl rfl c6 ?_
      refine zx_ev_blk zk_135 3 (pc1 := 25) (L1 := [some (.ref 0), some (.int v1), some (.int v2), some (.int r5)]) (st1 := [.int 10, .int v1, .ref 0]) (h1 := (zx_SC, m)) rfl ?_
      refine zx_ev_step zk_135 rfl (st_idiv (by decide)) ?_
      obtain ⟨⟨r8, m9⟩, hv7, hf⟩ := zx_bind_eq hf
      dsimp only at hf
      refine zx_ev_call (d := d + 77) zk_135 (v := some (.int r8)) (h1 := (zx_SC, m9)) rfl rfl zt_103 rfl zx_SCn rfl rfl (s_C_readOrder _ _ (d := d + 0) hv7) ?_
      refine zx_ev_blk zk_135 3 (pc1 := 32) (L1 := [some (.ref 0), some (.int v1), some (.int v2), some (.int r5)]) (st1 := [.int v2, .ref 0]) (h1 := (zx_SC, m9)) rfl ?_
      obtain ⟨r11, hv10, hf⟩ := zx_bind_eq hf
      refine zx_ev_call (d := d + 77) zk_135 (v := some (.int r11)) (h1 := (zx_SC, m9)) rfl rfl zt_101 rfl zx_SCn rfl rfl (s_C_countOf _ _ (d := d + 77) hv10) ?_
      refine zx_ev_blk zk_135 1 (pc1 := 36) (L1 := [some (.ref 0), some (.int v1), some (.int v2), some (.int r5)]) (st1 := [.ref 0, .int r11, .ref 0]) (h1 := (zx_SC, m9)) rfl ?_
      obtain ⟨r13, hv12, hf⟩ := zx_bind_eq hf
      refine zx_ev_call (d := d + 77) zk_135 (v := some (.int r13)) (h1 := (zx_SC, m9)) rfl rfl zt_106 rfl zx_SCn rfl rfl (s_C_way _ (d := d + 76) hv12) ?_
      obtain ⟨m15, hv14, hf⟩ := zx_bind_eq hf
      refine zx_ev_call (d := d + 77) zk_135 (v := none) (h1 := (zx_SC, m15)) rfl rfl zt_109 rfl zx_SCn rfl rfl (s_C_lineUp _ _ _ (d := d + 74) hv14) ?_
      refine zx_ev_blk zk_135 3 (pc1 := 46) (L1 := [some (.ref 0), some (.int v1), some (.int v2), some (.int r5)]) (st1 := [.int 10, .int v1, .ref 0]) (h1 := (zx_SC, m15)) rfl ?_
      refine zx_ev_step zk_135 rfl (st_irem (by decide)) ?_
      refine zx_ev_blk zk_135 4 (pc1 := 54) (L1 := [some (.ref 0), some (.int v1), some (.int v2), some (.int r5)]) (st1 := [.int 10, .int v1, .ref 15, .int (zx_rem v1 10), .ref 0]) (h1 := (zx_SC, m15)) rfl ?_
      refine zx_ev_step zk_135 rfl (st_irem (by decide)) ?_
      obtain ⟨r17, hv16, hf⟩ := zx_bind_eq hf
      refine zx_ev_call (d := d + 77) zk_135 (v := some (.int r17)) (h1 := (zx_SC, m15)) rfl rfl zt_62 rfl zx_SCn rfl rfl (s_Shelves_size _ _ (d := d + 76) hv16) ?_
      refine zx_ev_blk zk_135 1 (pc1 := 59) (L1 := [some (.ref 0), some (.int v1), some (.int v2), some (.int r5)]) (st1 := [.int v2, .int r17, .int (zx_rem v1 10), .ref 0]) (h1 := (zx_SC, m15)) rfl ?_
      obtain ⟨r19, hv18, hf⟩ := zx_bind_eq hf
      refine zx_ev_call (d := d + 77) zk_135 (v := some (.int r19)) (h1 := (zx_SC, m15)) rfl rfl zt_100 rfl zx_SCn rfl rfl (s_C_spotOf _ _ (d := d + 77) hv18) ?_
      obtain ⟨r21, hv20, hf⟩ := zx_bind_eq hf
      refine zx_ev_call (d := d + 77) zk_135 (v := some (.int r21)) (h1 := (zx_SC, m15)) rfl rfl zt_134 rfl zx_SCn rfl rfl (s_C_firstUnlike _ _ _ _ (d := d + 74) hv20) ?_
      obtain rfl := Option.some.inj hf
      exact zx_ev_ret zk_135 rfl rfl
    · rw [if_neg c6] at hf
      refine zx_ev_ifn zk_135 (P := r5 = 0) (t := 21) (f := 19) rfl rfl c6 ?_
      refine zx_ev_blk zk_135 1 (pc1 := 20) (L1 := [some (.ref 0), some (.int v1), some (.int v2), some (.int r5)]) (st1 := [.int r5]) (h1 := (zx_SC, m)) rfl ?_
      obtain rfl := Option.some.inj hf
      exact zx_ev_ret zk_135 rfl rfl
  · rw [if_neg c3] at hf
    refine zx_ev_ifn zk_135 (P := ¬ r2 = 0) (t := 9) (f := 7) rfl rfl c3 ?_
    refine zx_ev_blk zk_135 1 (pc1 := 8) (L1 := [some (.ref 0), some (.int v1), some (.int v2), none]) (st1 := [.int (-1)]) (h1 := (zx_SC, m)) rfl ?_
    obtain rfl := Option.some.inj hf
    exact zx_ev_ret zk_135 rfl rfl
def f_C_jumper (v1 : Int32) (v2 : Int32) (m : zx_M) : Option (Int32 × zx_M) := (f_Numbers_fits 0 v1 m).bind fun r2 => if r2 = 0 then some ((-1), m) else (f_Numbers_fits 1 v2 m).bind fun r5 => if ¬ r5 = 0 then (f_Numbers_welcome v1 v2 0 m).bind fun (r8, m9) => some (r8, m9) else some ((-1), m)
theorem s_C_jumper (v1 : Int32) (v2 : Int32) (m : zx_M) {d : Nat} {y : (Int32 × zx_M)} (hf : f_C_jumper v1 v2 m = some y) : zx_Ev (d + 2) 87 0 [some (.ref 0), some (.int v1), some (.int v2)] [] (zx_SC, m) (some (.int y.1), (zx_SC, y.2)) := by
  unfold f_C_jumper at hf
  refine zx_ev_blk zk_87 4 (pc1 := 6) (L1 := [some (.ref 0), some (.int v1), some (.int v2)]) (st1 := [.int v1, .int 0, .ref 1]) (h1 := (zx_SC, m)) rfl ?_
  obtain ⟨r2, hv1, hf⟩ := zx_bind_eq hf
  refine zx_ev_call (d := d + 1) zk_87 (v := some (.int r2)) (h1 := (zx_SC, m)) rfl rfl zt_45 rfl zx_SCn rfl rfl (s_Numbers_fits _ _ _ (d := d + 0) hv1) ?_
  by_cases c3 : r2 = 0
  · rw [if_pos c3] at hf
    refine zx_ev_ift zk_87 (P := r2 = 0) (t := 24) (f := 12) rfl rfl c3 ?_
    refine zx_ev_blk zk_87 1 (pc1 := 25) (L1 := [some (.ref 0), some (.int v1), some (.int v2)]) (st1 := [.int (-1)]) (h1 := (zx_SC, m)) rfl ?_
    obtain rfl := Option.some.inj hf
    exact zx_ev_ret zk_87 rfl rfl
  · rw [if_neg c3] at hf
    refine zx_ev_ifn zk_87 (P := r2 = 0) (t := 24) (f := 12) rfl rfl c3 ?_
    refine zx_ev_blk zk_87 4 (pc1 := 18) (L1 := [some (.ref 0), some (.int v1), some (.int v2)]) (st1 := [.int v2, .int 1, .ref 1]) (h1 := (zx_SC, m)) rfl ?_
    obtain ⟨r5, hv4, hf⟩ := zx_bind_eq hf
    refine zx_ev_call (d := d + 1) zk_87 (v := some (.int r5)) (h1 := (zx_SC, m)) rfl rfl zt_45 rfl zx_SCn rfl rfl (s_Numbers_fits _ _ _ (d := d + 0) hv4) ?_
    by_cases c6 : ¬ r5 = 0
    · rw [if_pos c6] at hf
      refine zx_ev_ift zk_87 (P := ¬ r5 = 0) (t := 26) (f := 24) rfl rfl c6 ?_
      refine zx_ev_blk zk_87 5 (pc1 := 33) (L1 := [some (.ref 0), some (.int v1), some (.int v2)]) (st1 := [.int 0, .int v2, .int v1, .ref 1]) (h1 := (zx_SC, m)) rfl ?_
      obtain ⟨⟨r8, m9⟩, hv7, hf⟩ := zx_bind_eq hf
      dsimp only at hf
      refine zx_ev_call (d := d + 1) zk_87 (v := some (.int r8)) (h1 := (zx_SC, m9)) rfl rfl zt_48 rfl zx_SCn rfl rfl (s_Numbers_welcome _ _ _ _ (d := d + 0) hv7) ?_
      obtain rfl := Option.some.inj hf
      exact zx_ev_ret zk_87 rfl rfl
    · rw [if_neg c6] at hf
      refine zx_ev_ifn zk_87 (P := ¬ r5 = 0) (t := 26) (f := 24) rfl rfl c6 ?_
      refine zx_ev_blk zk_87 1 (pc1 := 25) (L1 := [some (.ref 0), some (.int v1), some (.int v2)]) (st1 := [.int (-1)]) (h1 := (zx_SC, m)) rfl ?_
      obtain rfl := Option.some.inj hf
      exact zx_ev_ret zk_87 rfl rfl
def f_C_comesFromRow (v1 : Int32) (v2 : Int32) (m : zx_M) : Option (Int32 × zx_M) := if v2 < 0 then some (0, m) else (f_Shelves_size v1 m).bind fun r3 => if v2 ≤ (r3 - 3) then (f_Shelves_cell v1 v2 m).bind fun r6 => zx_let (Int64.toInt32 r6) fun a7 => (f_Shelves_cell v1 (v2 + 1) m).bind fun r9 => zx_let (Int64.toInt32 r9) fun a10 => (f_Shelves_cell v1 (v2 + 2) m).bind fun r12 => zx_let (Int64.toInt32 r12) fun a13 => (f_Numbers_fits 0 a7 m).bind fun r15 => if r15 = 0 then some (0, m) else (f_Numbers_fits 1 a10 m).bind fun r18 => if r18 = 0 then some (0, m) else (f_Numbers_fits 2 a13 m).bind fun r21 => if ¬ r21 = 0 then (f_Numbers_welcome a7 a10 a13 m).bind fun (r24, m25) => if r24 = (-3) then some (0, m25) else some (1, m25) else some (0, m) else some (0, m)
theorem s_C_comesFromRow (v1 : Int32) (v2 : Int32) (m : zx_M) {d : Nat} {y : (Int32 × zx_M)} (hf : f_C_comesFromRow v1 v2 m = some y) : zx_Ev (d + 3) 89 0 [some (.ref 0), some (.int v1), some (.int v2), none, none, none] [] (zx_SC, m) (some (.int y.1), (zx_SC, y.2)) := by
  unfold f_C_comesFromRow at hf
  refine zx_ev_blk zk_89 1 (pc1 := 1) (L1 := [some (.ref 0), some (.int v1), some (.int v2), none, none, none]) (st1 := [.int v2]) (h1 := (zx_SC, m)) rfl ?_
  by_cases c1 : v2 < 0
  · rw [if_pos c1] at hf
    refine zx_ev_ift zk_89 (P := v2 < 0) (t := 18) (f := 4) rfl rfl c1 ?_
    refine zx_ev_blk zk_89 1 (pc1 := 19) (L1 := [some (.ref 0), some (.int v1), some (.int v2), none, none, none]) (st1 := [.int 0]) (h1 := (zx_SC, m)) rfl ?_
    obtain rfl := Option.some.inj hf
    exact zx_ev_ret zk_89 rfl (zx_ret_z (Or.inl rfl))
  · rw [if_neg c1] at hf
    refine zx_ev_ifn zk_89 (P := v2 < 0) (t := 18) (f := 4) rfl rfl c1 ?_
    refine zx_ev_blk zk_89 4 (pc1 := 10) (L1 := [some (.ref 0), some (.int v1), some (.int v2), none, none, none]) (st1 := [.int v1, .ref 15, .int v2]) (h1 := (zx_SC, m)) rfl ?_
    obtain ⟨r3, hv2, hf⟩ := zx_bind_eq hf
    refine zx_ev_call (d := d + 2) zk_89 (v := some (.int r3)) (h1 := (zx_SC, m)) rfl rfl zt_62 rfl zx_SCn rfl rfl (s_Shelves_size _ _ (d := d + 1) hv2) ?_
    refine zx_ev_blk zk_89 2 (pc1 := 15) (L1 := [some (.ref 0), some (.int v1), some (.int v2), none, none, none]) (st1 := [.int (r3 - 3), .int v2]) (h1 := (zx_SC, m)) rfl ?_
    by_cases c4 : v2 ≤ (r3 - 3)
    · rw [if_pos c4] at hf
      refine zx_ev_ift zk_89 (P := v2 ≤ (r3 - 3)) (t := 20) (f := 18) rfl rfl c4 ?_
      refine zx_ev_blk zk_89 4 (pc1 := 26) (L1 := [some (.ref 0), some (.int v1), some (.int v2), none, none, none]) (st1 := [.int v2, .int v1, .ref 15]) (h1 := (zx_SC, m)) rfl ?_
      obtain ⟨r6, hv5, hf⟩ := zx_bind_eq hf
      refine zx_ev_call (d := d + 2) zk_89 (v := some (.long r6)) (h1 := (zx_SC, m)) rfl rfl zt_66 rfl zx_SCn rfl rfl (s_Shelves_cell _ _ _ (d := d + 0) hv5) ?_
      obtain ⟨a7, ha7, hf⟩ := zx_let_eq hf
      refine zx_ev_blk zk_89 8 (pc1 := 39) (L1 := [some (.ref 0), some (.int v1), some (.int v2), some (.int a7), none, none]) (st1 := [.int (v2 + 1), .int v1, .ref 15]) (h1 := (zx_SC, m)) (by subst ha7; rfl) ?_
      obtain ⟨r9, hv8, hf⟩ := zx_bind_eq hf
      refine zx_ev_call (d := d + 2) zk_89 (v := some (.long r9)) (h1 := (zx_SC, m)) rfl rfl zt_66 rfl zx_SCn rfl rfl (s_Shelves_cell _ _ _ (d := d + 0) hv8) ?_
      obtain ⟨a10, ha10, hf⟩ := zx_let_eq hf
      refine zx_ev_blk zk_89 8 (pc1 := 53) (L1 := [some (.ref 0), some (.int v1), some (.int v2), some (.int a7), some (.int a10), none]) (st1 := [.int (v2 + 2), .int v1, .ref 15]) (h1 := (zx_SC, m)) (by subst ha10; rfl) ?_
      obtain ⟨r12, hv11, hf⟩ := zx_bind_eq hf
      refine zx_ev_call (d := d + 2) zk_89 (v := some (.long r12)) (h1 := (zx_SC, m)) rfl rfl zt_66 rfl zx_SCn rfl rfl (s_Shelves_cell _ _ _ (d := d + 0) hv11) ?_
      obtain ⟨a13, ha13, hf⟩ := zx_let_eq hf
      refine zx_ev_blk zk_89 6 (pc1 := 65) (L1 := [some (.ref 0), some (.int v1), some (.int v2), some (.int a7), some (.int a10), some (.int a13)]) (st1 := [.int a7, .int 0, .ref 1]) (h1 := (zx_SC, m)) (by subst ha13; rfl) ?_
      obtain ⟨r15, hv14, hf⟩ := zx_bind_eq hf
      refine zx_ev_call (d := d + 2) zk_89 (v := some (.int r15)) (h1 := (zx_SC, m)) rfl rfl zt_45 rfl zx_SCn rfl rfl (s_Numbers_fits _ _ _ (d := d + 1) hv14) ?_
      by_cases c16 : r15 = 0
      · rw [if_pos c16] at hf
        refine zx_ev_ift zk_89 (P := r15 = 0) (t := 97) (f := 71) rfl rfl c16 ?_
        refine zx_ev_blk zk_89 1 (pc1 := 98) (L1 := [some (.ref 0), some (.int v1), some (.int v2), some (.int a7), some (.int a10), some (.int a13)]) (st1 := [.int 0]) (h1 := (zx_SC, m)) rfl ?_
        obtain rfl := Option.some.inj hf
        exact zx_ev_ret zk_89 rfl (zx_ret_z (Or.inl rfl))
      · rw [if_neg c16] at hf
        refine zx_ev_ifn zk_89 (P := r15 = 0) (t := 97) (f := 71) rfl rfl c16 ?_
        refine zx_ev_blk zk_89 4 (pc1 := 78) (L1 := [some (.ref 0), some (.int v1), some (.int v2), some (.int a7), some (.int a10), some (.int a13)]) (st1 := [.int a10, .int 1, .ref 1]) (h1 := (zx_SC, m)) rfl ?_
        obtain ⟨r18, hv17, hf⟩ := zx_bind_eq hf
        refine zx_ev_call (d := d + 2) zk_89 (v := some (.int r18)) (h1 := (zx_SC, m)) rfl rfl zt_45 rfl zx_SCn rfl rfl (s_Numbers_fits _ _ _ (d := d + 1) hv17) ?_
        by_cases c19 : r18 = 0
        · rw [if_pos c19] at hf
          refine zx_ev_ift zk_89 (P := r18 = 0) (t := 97) (f := 84) rfl rfl c19 ?_
          refine zx_ev_blk zk_89 1 (pc1 := 98) (L1 := [some (.ref 0), some (.int v1), some (.int v2), some (.int a7), some (.int a10), some (.int a13)]) (st1 := [.int 0]) (h1 := (zx_SC, m)) rfl ?_
          obtain rfl := Option.some.inj hf
          exact zx_ev_ret zk_89 rfl (zx_ret_z (Or.inl rfl))
        · rw [if_neg c19] at hf
          refine zx_ev_ifn zk_89 (P := r18 = 0) (t := 97) (f := 84) rfl rfl c19 ?_
          refine zx_ev_blk zk_89 4 (pc1 := 91) (L1 := [some (.ref 0), some (.int v1), some (.int v2), some (.int a7), some (.int a10), some (.int a13)]) (st1 := [.int a13, .int 2, .ref 1]) (h1 := (zx_SC, m)) rfl ?_
          obtain ⟨r21, hv20, hf⟩ := zx_bind_eq hf
          refine zx_ev_call (d := d + 2) zk_89 (v := some (.int r21)) (h1 := (zx_SC, m)) rfl rfl zt_45 rfl zx_SCn rfl rfl (s_Numbers_fits _ _ _ (d := d + 1) hv20) ?_
          by_cases c22 : ¬ r21 = 0
          · rw [if_pos c22] at hf
            refine zx_ev_ift zk_89 (P := ¬ r21 = 0) (t := 99) (f := 97) rfl rfl c22 ?_
            refine zx_ev_blk zk_89 5 (pc1 := 108) (L1 := [some (.ref 0), some (.int v1), some (.int v2), some (.int a7), some (.int a10), some (.int a13)]) (st1 := [.int a13, .int a10, .int a7, .ref 1]) (h1 := (zx_SC, m)) rfl ?_
            obtain ⟨⟨r24, m25⟩, hv23, hf⟩ := zx_bind_eq hf
            dsimp only at hf
            refine zx_ev_call (d := d + 2) zk_89 (v := some (.int r24)) (h1 := (zx_SC, m25)) rfl rfl zt_48 rfl zx_SCn rfl rfl (s_Numbers_welcome _ _ _ _ (d := d + 1) hv23) ?_
            refine zx_ev_blk zk_89 1 (pc1 := 113) (L1 := [some (.ref 0), some (.int v1), some (.int v2), some (.int a7), some (.int a10), some (.int a13)]) (st1 := [.int (-3), .int r24]) (h1 := (zx_SC, m25)) rfl ?_
            by_cases c26 : r24 = (-3)
            · rw [if_pos c26] at hf
              refine zx_ev_ift zk_89 (P := r24 = (-3)) (t := 120) (f := 116) rfl rfl c26 ?_
              refine zx_ev_blk zk_89 1 (pc1 := 121) (L1 := [some (.ref 0), some (.int v1), some (.int v2), some (.int a7), some (.int a10), some (.int a13)]) (st1 := [.int 0]) (h1 := (zx_SC, m25)) rfl ?_
              obtain rfl := Option.some.inj hf
              exact zx_ev_ret zk_89 rfl (zx_ret_z (Or.inl rfl))
            · rw [if_neg c26] at hf
              refine zx_ev_ifn zk_89 (P := r24 = (-3)) (t := 120) (f := 116) rfl rfl c26 ?_
              refine zx_ev_blk zk_89 2 (pc1 := 121) (L1 := [some (.ref 0), some (.int v1), some (.int v2), some (.int a7), some (.int a10), some (.int a13)]) (st1 := [.int 1]) (h1 := (zx_SC, m25)) rfl ?_
              obtain rfl := Option.some.inj hf
              exact zx_ev_ret zk_89 rfl (zx_ret_z (Or.inr rfl))
          · rw [if_neg c22] at hf
            refine zx_ev_ifn zk_89 (P := ¬ r21 = 0) (t := 99) (f := 97) rfl rfl c22 ?_
            refine zx_ev_blk zk_89 1 (pc1 := 98) (L1 := [some (.ref 0), some (.int v1), some (.int v2), some (.int a7), some (.int a10), some (.int a13)]) (st1 := [.int 0]) (h1 := (zx_SC, m)) rfl ?_
            obtain rfl := Option.some.inj hf
            exact zx_ev_ret zk_89 rfl (zx_ret_z (Or.inl rfl))
    · rw [if_neg c4] at hf
      refine zx_ev_ifn zk_89 (P := v2 ≤ (r3 - 3)) (t := 20) (f := 18) rfl rfl c4 ?_
      refine zx_ev_blk zk_89 1 (pc1 := 19) (L1 := [some (.ref 0), some (.int v1), some (.int v2), none, none, none]) (st1 := [.int 0]) (h1 := (zx_SC, m)) rfl ?_
      obtain rfl := Option.some.inj hf
      exact zx_ev_ret zk_89 rfl (zx_ret_z (Or.inl rfl))
def kx_C_jumpers_l51 (v1 : Int32) (v2 : Int32) (v3 : Int32) (d : Nat) (out : Option Value × zx_H) : (Int32 × zx_M) → Prop
  | y => out = (some (.int y.1), (zx_SC, y.2))
def kl_C_jumpers_l51 (v1 : Int32) (v2 : Int32) (v3 : Int32) (d : Nat) (out : Option Value × zx_H) : (Int32 × zx_M) ⊕ ((Int32 × zx_M)) → Prop
  | .inl (v5, m) => zx_Ev (d + 4) 88 51 [some (.ref 0), some (.int v1), some (.int v2), some (.int v3), none, some (.int v5)] [] (zx_SC, m) out
  | .inr x => kx_C_jumpers_l51 v1 v2 v3 d out x
def b_C_jumpers_l51 (v1 : Int32) (v2 : Int32) (v3 : Int32) (v5 : Int32) (m : zx_M) : Option ((Int32 × zx_M) ⊕ ((Int32 × zx_M))) := if v3 ≤ v5 then some (.inr (v5, m)) else (f_C_comesFromRow v1 (v2 + (3 * v5)) m).bind fun (r11, m12) => if r11 = 0 then some (.inr (v5, m12)) else zx_let (v5 + 1) fun a14 => some (.inl (a14, m12))
theorem eb_C_jumpers_l51 (v1 : Int32) (v2 : Int32) (v3 : Int32) (v5 : Int32) (m : zx_M) {d : Nat} {out : Option Value × zx_H} {y : (Int32 × zx_M) ⊕ ((Int32 × zx_M))} (hf : b_C_jumpers_l51 v1 v2 v3 v5 m = some y) (hK : kl_C_jumpers_l51 v1 v2 v3 d out y) : zx_Ev (d + 4) 88 51 [some (.ref 0), some (.int v1), some (.int v2), some (.int v3), none, some (.int v5)] [] (zx_SC, m) out := by
  unfold b_C_jumpers_l51 at hf
  refine zx_ev_blk zk_88 2 (pc1 := 54) (L1 := [some (.ref 0), some (.int v1), some (.int v2), some (.int v3), none, some (.int v5)]) (st1 := [.int v3, .int v5]) (h1 := (zx_SC, m)) rfl ?_
  by_cases c9 : v3 ≤ v5
  · rw [if_pos c9] at hf
    refine zx_ev_ift zk_88 (P := v3 ≤ v5) (t := 77) (f := 57) rfl rfl c9 ?_
    refine zx_ev_blk zk_88 1 (pc1 := 79) (L1 := [some (.ref 0), some (.int v1), some (.int v2), some (.int v3), none, some (.int v5)]) (st1 := [.int v5]) (h1 := (zx_SC, m)) rfl ?_
    obtain rfl := Option.some.inj hf
    rw [show out = _ from hK]
    exact zx_ev_ret zk_88 rfl rfl
  · rw [if_neg c9] at hf
    refine zx_ev_ifn zk_88 (P := v3 ≤ v5) (t := 77) (f := 57) rfl rfl c9 ?_
    refine zx_ev_blk zk_88 7 (pc1 := 65) (L1 := [some (.ref 0), some (.int v1), some (.int v2), some (.int v3), none, some (.int v5)]) (st1 := [.int (v2 + (3 * v5)), .int v1, .ref 0]) (h1 := (zx_SC, m)) rfl ?_
    obtain ⟨⟨r11, m12⟩, hv10, hf⟩ := zx_bind_eq hf
    dsimp only at hf
    refine zx_ev_call (d := d + 3) zk_88 (v := some (.int r11)) (h1 := (zx_SC, m12)) rfl rfl zt_89 rfl zx_SCn rfl rfl (s_C_comesFromRow _ _ _ (d := d + 0) hv10) ?_
    by_cases c13 : r11 = 0
    · rw [if_pos c13] at hf
      refine zx_ev_ift zk_88 (P := r11 = 0) (t := 77) (f := 71) rfl rfl c13 ?_
      refine zx_ev_blk zk_88 1 (pc1 := 79) (L1 := [some (.ref 0), some (.int v1), some (.int v2), some (.int v3), none, some (.int v5)]) (st1 := [.int v5]) (h1 := (zx_SC, m12)) rfl ?_
      obtain rfl := Option.some.inj hf
      rw [show out = _ from hK]
      exact zx_ev_ret zk_88 rfl rfl
    · rw [if_neg c13] at hf
      refine zx_ev_ifn zk_88 (P := r11 = 0) (t := 77) (f := 71) rfl rfl c13 ?_
      obtain ⟨a14, ha14, hf⟩ := zx_let_eq hf
      refine zx_ev_blk zk_88 2 (pc1 := 51) (L1 := [some (.ref 0), some (.int v1), some (.int v2), some (.int v3), none, some (.int a14)]) (st1 := []) (h1 := (zx_SC, m12)) (by subst ha14; rfl) ?_
      obtain rfl := Option.some.inj hf
      exact zx_ev_sub (L := [some (.ref 0), some (.int v1), some (.int v2), some (.int v3), none, some (.int a14)]) (⟨rfl, ⟨rfl, ⟨rfl, ⟨rfl, ⟨rfl, trivial⟩⟩⟩⟩⟩) hK
def l_C_jumpers_l51 (v1 : Int32) (v2 : Int32) (v3 : Int32) (s0 : Int32 × zx_M) : Option ((Int32 × zx_M)) := zx_lp zx_N (fun s : Int32 × zx_M => b_C_jumpers_l51 v1 v2 v3 s.1 s.2) s0
theorem el_C_jumpers_l51 (v1 : Int32) (v2 : Int32) (v3 : Int32) {d : Nat} {out : Option Value × zx_H} : ∀ (n : Nat) (s : Int32 × zx_M) (x : (Int32 × zx_M)), zx_lp n (fun s : Int32 × zx_M => b_C_jumpers_l51 v1 v2 v3 s.1 s.2) s = some x → kx_C_jumpers_l51 v1 v2 v3 d out x → zx_Ev (d + 4) 88 51 [some (.ref 0), some (.int v1), some (.int v2), some (.int v3), none, some (.int s.1)] [] (zx_SC, s.2) out := by
  intro n
  induction n with
  | zero => intro s x hl _; simp [zx_lp] at hl
  | succ n ih =>
    intro s x hl hx
    unfold zx_lp at hl
    cases hb : b_C_jumpers_l51 v1 v2 v3 s.1 s.2 with
    | none => simp only [hb] at hl; cases hl
    | some z =>
      simp only [hb] at hl
      cases z with
      | inl s1 => exact eb_C_jumpers_l51 v1 v2 v3 s.1 s.2 hb (ih s1 x hl hx)
      | inr t =>
        simp only [Option.some.injEq] at hl
        subst hl
        exact eb_C_jumpers_l51 v1 v2 v3 s.1 s.2 hb hx
def n_C_jumpers_n48 (v1 : Int32) (v2 : Int32) (v3 : Int32) (m : zx_M) : Option (Int32 × zx_M) := (l_C_jumpers_l51 v1 v2 v3 (0, m)).bind fun x15 => zx_let x15 fun y16 => some y16
theorem e_C_jumpers_n48 (v1 : Int32) (v2 : Int32) (v3 : Int32) (m : zx_M) {d : Nat} {y : (Int32 × zx_M)} (hf : n_C_jumpers_n48 v1 v2 v3 m = some y) : zx_Ev (d + 4) 88 48 [some (.ref 0), some (.int v1), some (.int v2), some (.int v3), none, none] [] (zx_SC, m) (some (.int y.1), (zx_SC, y.2)) := by
  unfold n_C_jumpers_n48 at hf
  refine zx_ev_blk zk_88 2 (pc1 := 51) (L1 := [some (.ref 0), some (.int v1), some (.int v2), some (.int v3), none, some (.int 0)]) (st1 := []) (h1 := (zx_SC, m)) rfl ?_
  obtain ⟨x15, hx15, hf⟩ := zx_bind_eq hf
  refine zx_ev_sub (L := [some (.ref 0), some (.int v1), some (.int v2), some (.int v3), none, some (.int 0)]) (⟨rfl, ⟨rfl, ⟨rfl, ⟨rfl, ⟨rfl, trivial⟩⟩⟩⟩⟩) (el_C_jumpers_l51 v1 v2 v3 zx_N (0, m) x15 hx15 ?_)
  obtain ⟨y16, hy16, hf⟩ := zx_let_eq hf
  subst hy16
  obtain rfl := Option.some.inj hf
  rfl
def f_C_jumpers (v1 : Int32) (v2 : Int32) (v3 : Int32) (m : zx_M) : Option (Int32 × zx_M) := (f_Shelves_isThere v1 m).bind fun r2 => if r2 = 0 then some ((-1), m) else if v3 < 1 then some ((-1), m) else if v3 ≤ 7 then (f_Shelves_holds v1 m).bind fun r7 => if r7 = (-1) then n_C_jumpers_n48 v1 v2 v3 m else if r7 = 0 then n_C_jumpers_n48 v1 v2 v3 m else some ((-12), m) else some ((-1), m)
theorem s_C_jumpers (v1 : Int32) (v2 : Int32) (v3 : Int32) (m : zx_M) {d : Nat} {y : (Int32 × zx_M)} (hf : f_C_jumpers v1 v2 v3 m = some y) : zx_Ev (d + 4) 88 0 [some (.ref 0), some (.int v1), some (.int v2), some (.int v3), none, none] [] (zx_SC, m) (some (.int y.1), (zx_SC, y.2)) := by
  unfold f_C_jumpers at hf
  refine zx_ev_blk zk_88 3 (pc1 := 5) (L1 := [some (.ref 0), some (.int v1), some (.int v2), some (.int v3), none, none]) (st1 := [.int v1, .ref 15]) (h1 := (zx_SC, m)) rfl ?_
  obtain ⟨r2, hv1, hf⟩ := zx_bind_eq hf
  refine zx_ev_call (d := d + 3) zk_88 (v := some (.int r2)) (h1 := (zx_SC, m)) rfl rfl zt_60 rfl zx_SCn rfl rfl (s_Shelves_isThere _ _ (d := d + 3) hv1) ?_
  by_cases c3 : r2 = 0
  · rw [if_pos c3] at hf
    refine zx_ev_ift zk_88 (P := r2 = 0) (t := 22) (f := 11) rfl rfl c3 ?_
    refine zx_ev_blk zk_88 1 (pc1 := 23) (L1 := [some (.ref 0), some (.int v1), some (.int v2), some (.int v3), none, none]) (st1 := [.int (-1)]) (h1 := (zx_SC, m)) rfl ?_
    obtain rfl := Option.some.inj hf
    exact zx_ev_ret zk_88 rfl rfl
  · rw [if_neg c3] at hf
    refine zx_ev_ifn zk_88 (P := r2 = 0) (t := 22) (f := 11) rfl rfl c3 ?_
    refine zx_ev_blk zk_88 2 (pc1 := 13) (L1 := [some (.ref 0), some (.int v1), some (.int v2), some (.int v3), none, none]) (st1 := [.int 1, .int v3]) (h1 := (zx_SC, m)) rfl ?_
    by_cases c4 : v3 < 1
    · rw [if_pos c4] at hf
      refine zx_ev_ift zk_88 (P := v3 < 1) (t := 22) (f := 16) rfl rfl c4 ?_
      refine zx_ev_blk zk_88 1 (pc1 := 23) (L1 := [some (.ref 0), some (.int v1), some (.int v2), some (.int v3), none, none]) (st1 := [.int (-1)]) (h1 := (zx_SC, m)) rfl ?_
      obtain rfl := Option.some.inj hf
      exact zx_ev_ret zk_88 rfl rfl
    · rw [if_neg c4] at hf
      refine zx_ev_ifn zk_88 (P := v3 < 1) (t := 22) (f := 16) rfl rfl c4 ?_
      refine zx_ev_blk zk_88 2 (pc1 := 19) (L1 := [some (.ref 0), some (.int v1), some (.int v2), some (.int v3), none, none]) (st1 := [.int 7, .int v3]) (h1 := (zx_SC, m)) rfl ?_
      by_cases c5 : v3 ≤ 7
      · rw [if_pos c5] at hf
        refine zx_ev_ift zk_88 (P := v3 ≤ 7) (t := 24) (f := 22) rfl rfl c5 ?_
        refine zx_ev_blk zk_88 3 (pc1 := 29) (L1 := [some (.ref 0), some (.int v1), some (.int v2), some (.int v3), none, none]) (st1 := [.int v1, .ref 15]) (h1 := (zx_SC, m)) rfl ?_
        obtain ⟨r7, hv6, hf⟩ := zx_bind_eq hf
        refine zx_ev_call (d := d + 3) zk_88 (v := some (.int r7)) (h1 := (zx_SC, m)) rfl rfl zt_61 rfl zx_SCn rfl rfl (s_Shelves_holds _ _ (d := d + 2) hv6) ?_
        refine zx_ev_blk zk_88 3 (pc1 := 37) (L1 := [some (.ref 0), some (.int v1), some (.int v2), some (.int v3), some (.int r7), none]) (st1 := [.int (-1), .int r7]) (h1 := (zx_SC, m)) rfl ?_
        by_cases c8 : r7 = (-1)
        · rw [if_pos c8] at hf
          refine zx_ev_ift zk_88 (P := r7 = (-1)) (t := 48) (f := 40) rfl rfl c8 ?_
          exact zx_ev_sub (L := [some (.ref 0), some (.int v1), some (.int v2), some (.int v3), none, none]) (⟨rfl, ⟨rfl, ⟨rfl, ⟨rfl, ⟨trivial, trivial⟩⟩⟩⟩⟩) (e_C_jumpers_n48 v1 v2 v3 m hf)
        · rw [if_neg c8] at hf
          refine zx_ev_ifn zk_88 (P := r7 = (-1)) (t := 48) (f := 40) rfl rfl c8 ?_
          refine zx_ev_blk zk_88 1 (pc1 := 42) (L1 := [some (.ref 0), some (.int v1), some (.int v2), some (.int v3), some (.int r7), none]) (st1 := [.int r7]) (h1 := (zx_SC, m)) rfl ?_
          by_cases c17 : r7 = 0
          · rw [if_pos c17] at hf
            refine zx_ev_ift zk_88 (P := r7 = 0) (t := 48) (f := 45) rfl rfl c17 ?_
            exact zx_ev_sub (L := [some (.ref 0), some (.int v1), some (.int v2), some (.int v3), none, none]) (⟨rfl, ⟨rfl, ⟨rfl, ⟨rfl, ⟨trivial, trivial⟩⟩⟩⟩⟩) (e_C_jumpers_n48 v1 v2 v3 m hf)
          · rw [if_neg c17] at hf
            refine zx_ev_ifn zk_88 (P := r7 = 0) (t := 48) (f := 45) rfl rfl c17 ?_
            refine zx_ev_blk zk_88 1 (pc1 := 47) (L1 := [some (.ref 0), some (.int v1), some (.int v2), some (.int v3), some (.int r7), none]) (st1 := [.int (-12)]) (h1 := (zx_SC, m)) rfl ?_
            obtain rfl := Option.some.inj hf
            exact zx_ev_ret zk_88 rfl rfl
      · rw [if_neg c5] at hf
        refine zx_ev_ifn zk_88 (P := v3 ≤ 7) (t := 24) (f := 22) rfl rfl c5 ?_
        refine zx_ev_blk zk_88 1 (pc1 := 23) (L1 := [some (.ref 0), some (.int v1), some (.int v2), some (.int v3), none, none]) (st1 := [.int (-1)]) (h1 := (zx_SC, m)) rfl ?_
        obtain rfl := Option.some.inj hf
        exact zx_ev_ret zk_88 rfl rfl
def n_C_keep_n45 (v2 : Int32) (t1 : Int32) (t2 : Int32) (m : zx_M) : Option (Int32 × zx_M) := (f_Shelves_lay t1 t2 v2 m).bind fun m7 => some (1, m7)
theorem e_C_keep_n45 (v2 : Int32) (t1 : Int32) (t2 : Int32) (m : zx_M) {d : Nat} {y : (Int32 × zx_M)} (hf : n_C_keep_n45 v2 t1 t2 m = some y) : zx_Ev (d + 3) 150 45 [some (.ref 0), none, some (.int v2)] [.int t2, .int t1, .ref 15] (zx_SC, m) (some (.int y.1), (zx_SC, y.2)) := by
  unfold n_C_keep_n45 at hf
  refine zx_ev_blk zk_150 1 (pc1 := 46) (L1 := [some (.ref 0), none, some (.int v2)]) (st1 := [.int v2, .int t2, .int t1, .ref 15]) (h1 := (zx_SC, m)) rfl ?_
  obtain ⟨m7, hv6, hf⟩ := zx_bind_eq hf
  refine zx_ev_call (d := d + 2) zk_150 (v := none) (h1 := (zx_SC, m7)) rfl rfl zt_65 rfl zx_SCn rfl rfl (s_Shelves_lay _ _ _ _ (d := d + 0) hv6) ?_
  refine zx_ev_blk zk_150 1 (pc1 := 50) (L1 := [some (.ref 0), none, some (.int v2)]) (st1 := [.int 1]) (h1 := (zx_SC, m7)) rfl ?_
  obtain rfl := Option.some.inj hf
  exact zx_ev_ret zk_150 rfl rfl
def n_C_keep_n29 (v1 : Int32) (v2 : Int32) (m : zx_M) : Option (Int32 × zx_M) := if ¬ v2 = (-1) then n_C_keep_n45 v2 v1 (-2) m else n_C_keep_n45 v2 v1 (-1) m
theorem e_C_keep_n29 (v1 : Int32) (v2 : Int32) (m : zx_M) {d : Nat} {y : (Int32 × zx_M)} (hf : n_C_keep_n29 v1 v2 m = some y) : zx_Ev (d + 3) 150 29 [some (.ref 0), some (.int v1), some (.int v2)] [] (zx_SC, m) (some (.int y.1), (zx_SC, y.2)) := by
  unfold n_C_keep_n29 at hf
  refine zx_ev_blk zk_150 5 (pc1 := 36) (L1 := [some (.ref 0), some (.int v1), some (.int v2)]) (st1 := [.int (-1), .int v2, .int v1, .ref 15]) (h1 := (zx_SC, m)) rfl ?_
  by_cases c5 : ¬ v2 = (-1)
  · rw [if_pos c5] at hf
    refine zx_ev_ift zk_150 (P := ¬ v2 = (-1)) (t := 43) (f := 39) rfl rfl c5 ?_
    refine zx_ev_blk zk_150 1 (pc1 := 45) (L1 := [some (.ref 0), some (.int v1), some (.int v2)]) (st1 := [.int (-2), .int v1, .ref 15]) (h1 := (zx_SC, m)) rfl ?_
    exact zx_ev_sub (L := [some (.ref 0), none, some (.int v2)]) (⟨rfl, ⟨trivial, ⟨rfl, trivial⟩⟩⟩) (e_C_keep_n45 v2 v1 (-2) m hf)
  · rw [if_neg c5] at hf
    refine zx_ev_ifn zk_150 (P := ¬ v2 = (-1)) (t := 43) (f := 39) rfl rfl c5 ?_
    refine zx_ev_blk zk_150 2 (pc1 := 45) (L1 := [some (.ref 0), some (.int v1), some (.int v2)]) (st1 := [.int (-1), .int v1, .ref 15]) (h1 := (zx_SC, m)) rfl ?_
    exact zx_ev_sub (L := [some (.ref 0), none, some (.int v2)]) (⟨rfl, ⟨trivial, ⟨rfl, trivial⟩⟩⟩) (e_C_keep_n45 v2 v1 (-1) m hf)
def f_C_keep (v1 : Int32) (v2 : Int32) (m : zx_M) : Option (Int32 × zx_M) := (f_Shelves_isThere v1 m).bind fun r2 => if r2 = 0 then some ((-1), m) else if v2 = (-1) then n_C_keep_n29 v1 v2 m else (f_Acts_isBody v2 m).bind fun r9 => if ¬ r9 = 0 then n_C_keep_n29 v1 v2 m else some ((-1), m)
theorem s_C_keep (v1 : Int32) (v2 : Int32) (m : zx_M) {d : Nat} {y : (Int32 × zx_M)} (hf : f_C_keep v1 v2 m = some y) : zx_Ev (d + 3) 150 0 [some (.ref 0), some (.int v1), some (.int v2)] [] (zx_SC, m) (some (.int y.1), (zx_SC, y.2)) := by
  unfold f_C_keep at hf
  refine zx_ev_blk zk_150 3 (pc1 := 5) (L1 := [some (.ref 0), some (.int v1), some (.int v2)]) (st1 := [.int v1, .ref 15]) (h1 := (zx_SC, m)) rfl ?_
  obtain ⟨r2, hv1, hf⟩ := zx_bind_eq hf
  refine zx_ev_call (d := d + 2) zk_150 (v := some (.int r2)) (h1 := (zx_SC, m)) rfl rfl zt_60 rfl zx_SCn rfl rfl (s_Shelves_isThere _ _ (d := d + 2) hv1) ?_
  by_cases c3 : r2 = 0
  · rw [if_pos c3] at hf
    refine zx_ev_ift zk_150 (P := r2 = 0) (t := 27) (f := 11) rfl rfl c3 ?_
    refine zx_ev_blk zk_150 1 (pc1 := 28) (L1 := [some (.ref 0), some (.int v1), some (.int v2)]) (st1 := [.int (-1)]) (h1 := (zx_SC, m)) rfl ?_
    obtain rfl := Option.some.inj hf
    exact zx_ev_ret zk_150 rfl rfl
  · rw [if_neg c3] at hf
    refine zx_ev_ifn zk_150 (P := r2 = 0) (t := 27) (f := 11) rfl rfl c3 ?_
    refine zx_ev_blk zk_150 2 (pc1 := 13) (L1 := [some (.ref 0), some (.int v1), some (.int v2)]) (st1 := [.int (-1), .int v2]) (h1 := (zx_SC, m)) rfl ?_
    by_cases c4 : v2 = (-1)
    · rw [if_pos c4] at hf
      refine zx_ev_ift zk_150 (P := v2 = (-1)) (t := 29) (f := 16) rfl rfl c4 ?_
      exact zx_ev_sub (L := [some (.ref 0), some (.int v1), some (.int v2)]) (⟨rfl, ⟨rfl, ⟨rfl, trivial⟩⟩⟩) (e_C_keep_n29 v1 v2 m hf)
    · rw [if_neg c4] at hf
      refine zx_ev_ifn zk_150 (P := v2 = (-1)) (t := 29) (f := 16) rfl rfl c4 ?_
      refine zx_ev_blk zk_150 3 (pc1 := 21) (L1 := [some (.ref 0), some (.int v1), some (.int v2)]) (st1 := [.int v2, .ref 38]) (h1 := (zx_SC, m)) rfl ?_
      obtain ⟨r9, hv8, hf⟩ := zx_bind_eq hf
      refine zx_ev_call (d := d + 2) zk_150 (v := some (.int r9)) (h1 := (zx_SC, m)) rfl rfl zt_4 rfl zx_SCn rfl rfl (s_Acts_isBody _ _ (d := d + 2) hv8) ?_
      by_cases c10 : ¬ r9 = 0
      · rw [if_pos c10] at hf
        refine zx_ev_ift zk_150 (P := ¬ r9 = 0) (t := 29) (f := 27) rfl rfl c10 ?_
        exact zx_ev_sub (L := [some (.ref 0), some (.int v1), some (.int v2)]) (⟨rfl, ⟨rfl, ⟨rfl, trivial⟩⟩⟩) (e_C_keep_n29 v1 v2 m hf)
      · rw [if_neg c10] at hf
        refine zx_ev_ifn zk_150 (P := ¬ r9 = 0) (t := 29) (f := 27) rfl rfl c10 ?_
        refine zx_ev_blk zk_150 1 (pc1 := 28) (L1 := [some (.ref 0), some (.int v1), some (.int v2)]) (st1 := [.int (-1)]) (h1 := (zx_SC, m)) rfl ?_
        obtain rfl := Option.some.inj hf
        exact zx_ev_ret zk_150 rfl rfl
def kx_C_last_l60 (v4 : Int32) (m : zx_M) (d : Nat) (out : Option Value × zx_H) : (Int32 × zx_M) → Prop
  | y => out = (some (.int y.1), (zx_SC, y.2))
def kl_C_last_l60 (v4 : Int32) (m : zx_M) (d : Nat) (out : Option Value × zx_H) : (Int32 × Int32 × Int32) ⊕ ((Int32 × zx_M)) → Prop
  | .inl (v5, v6, v7) => zx_Ev (d + 78) 123 60 [some (.ref 0), none, none, none, some (.int v4), some (.int v5), some (.int v6), some (.int v7), none] [] (zx_SC, m) out
  | .inr x => kx_C_last_l60 v4 m d out x
def n_C_last_b60_124 (v4 : Int32) (v5 : Int32) (v6 : Int32) (v7 : Int32) (m : zx_M) : Option ((Int32 × Int32 × Int32) ⊕ ((Int32 × zx_M))) := zx_let (v7 + 1) fun a29 => some (.inl (v5, v6, a29))
theorem e_C_last_b60_124 (v4 : Int32) (v5 : Int32) (v6 : Int32) (v7 : Int32) (m : zx_M) {d : Nat} {out : Option Value × zx_H} {y : (Int32 × Int32 × Int32) ⊕ ((Int32 × zx_M))} (hf : n_C_last_b60_124 v4 v5 v6 v7 m = some y) (hK : kl_C_last_l60 v4 m d out y) : zx_Ev (d + 78) 123 124 [some (.ref 0), none, none, none, some (.int v4), some (.int v5), some (.int v6), some (.int v7), none] [] (zx_SC, m) out := by
  unfold n_C_last_b60_124 at hf
  obtain ⟨a29, ha29, hf⟩ := zx_let_eq hf
  refine zx_ev_blk zk_123 2 (pc1 := 60) (L1 := [some (.ref 0), none, none, none, some (.int v4), some (.int v5), some (.int v6), some (.int a29), none]) (st1 := []) (h1 := (zx_SC, m)) (by subst ha29; rfl) ?_
  obtain rfl := Option.some.inj hf
  exact zx_ev_sub (L := [some (.ref 0), none, none, none, some (.int v4), some (.int v5), some (.int v6), some (.int a29), none]) (⟨rfl, ⟨rfl, ⟨rfl, ⟨rfl, ⟨rfl, trivial⟩⟩⟩⟩⟩) hK
def n_C_last_b60_116 (v4 : Int32) (v7 : Int32) (v8 : Int32) (m : zx_M) : Option ((Int32 × Int32 × Int32) ⊕ ((Int32 × zx_M))) := n_C_last_b60_124 v4 v7 v8 v7 m
theorem e_C_last_b60_116 (v4 : Int32) (v7 : Int32) (v8 : Int32) (m : zx_M) {d : Nat} {out : Option Value × zx_H} {y : (Int32 × Int32 × Int32) ⊕ ((Int32 × zx_M))} (hf : n_C_last_b60_116 v4 v7 v8 m = some y) (hK : kl_C_last_l60 v4 m d out y) : zx_Ev (d + 78) 123 116 [some (.ref 0), none, none, none, some (.int v4), none, none, some (.int v7), some (.int v8)] [] (zx_SC, m) out := by
  unfold n_C_last_b60_116 at hf
  refine zx_ev_blk zk_123 4 (pc1 := 124) (L1 := [some (.ref 0), none, none, none, some (.int v4), some (.int v7), some (.int v8), some (.int v7), some (.int v8)]) (st1 := []) (h1 := (zx_SC, m)) rfl ?_
  exact zx_ev_sub (L := [some (.ref 0), none, none, none, some (.int v4), some (.int v7), some (.int v8), some (.int v7), none]) (⟨rfl, ⟨rfl, ⟨rfl, ⟨rfl, ⟨rfl, ⟨trivial, trivial⟩⟩⟩⟩⟩⟩) (e_C_last_b60_124 v4 v7 v8 v7 m hf hK)
def b_C_last_l60 (v4 : Int32) (v5 : Int32) (v6 : Int32) (v7 : Int32) (m : zx_M) : Option ((Int32 × Int32 × Int32) ⊕ ((Int32 × zx_M))) := (f_Numbers_jumpersThere m).bind fun r20 => if r20 ≤ v7 then some (.inr (v5, m)) else (f_C_carriedOf v7 m).bind fun r23 => (f_Numbers_fromMiddle (v4 + r23) m).bind fun r25 => (f_Order_has v7 m).bind fun r27 => if r27 = 0 then n_C_last_b60_124 v4 v5 v6 v7 m else if v5 = (-2) then n_C_last_b60_116 v4 v7 r25 m else if v6 ≤ r25 then n_C_last_b60_124 v4 v5 v6 v7 m else n_C_last_b60_116 v4 v7 r25 m
theorem eb_C_last_l60 (v4 : Int32) (v5 : Int32) (v6 : Int32) (v7 : Int32) (m : zx_M) {d : Nat} {out : Option Value × zx_H} {y : (Int32 × Int32 × Int32) ⊕ ((Int32 × zx_M))} (hf : b_C_last_l60 v4 v5 v6 v7 m = some y) (hK : kl_C_last_l60 v4 m d out y) : zx_Ev (d + 78) 123 60 [some (.ref 0), none, none, none, some (.int v4), some (.int v5), some (.int v6), some (.int v7), none] [] (zx_SC, m) out := by
  unfold b_C_last_l60 at hf
  refine zx_ev_blk zk_123 3 (pc1 := 66) (L1 := [some (.ref 0), none, none, none, some (.int v4), some (.int v5), some (.int v6), some (.int v7), none]) (st1 := [.ref 1, .int v7]) (h1 := (zx_SC, m)) rfl ?_
  obtain ⟨r20, hv19, hf⟩ := zx_bind_eq hf
  refine zx_ev_call (d := d + 77) zk_123 (v := some (.int r20)) (h1 := (zx_SC, m)) rfl rfl zt_42 rfl zx_SCn rfl rfl (s_Numbers_jumpersThere _ (d := d + 77) hv19) ?_
  by_cases c21 : r20 ≤ v7
  · rw [if_pos c21] at hf
    refine zx_ev_ift zk_123 (P := r20 ≤ v7) (t := 130) (f := 72) rfl rfl c21 ?_
    refine zx_ev_blk zk_123 1 (pc1 := 132) (L1 := [some (.ref 0), none, none, none, some (.int v4), some (.int v5), some (.int v6), some (.int v7), none]) (st1 := [.int v5]) (h1 := (zx_SC, m)) rfl ?_
    obtain rfl := Option.some.inj hf
    rw [show out = _ from hK]
    exact zx_ev_ret zk_123 rfl rfl
  · rw [if_neg c21] at hf
    refine zx_ev_ifn zk_123 (P := r20 ≤ v7) (t := 130) (f := 72) rfl rfl c21 ?_
    refine zx_ev_blk zk_123 5 (pc1 := 81) (L1 := [some (.ref 0), none, none, none, some (.int v4), some (.int v5), some (.int v6), some (.int v7), none]) (st1 := [.int v7, .ref 0, .int v4, .ref 1]) (h1 := (zx_SC, m)) rfl ?_
    obtain ⟨r23, hv22, hf⟩ := zx_bind_eq hf
    refine zx_ev_call (d := d + 77) zk_123 (v := some (.int r23)) (h1 := (zx_SC, m)) rfl rfl zt_105 rfl zx_SCn rfl rfl (s_C_carriedOf _ _ (d := d + 77) hv22) ?_
    refine zx_ev_blk zk_123 1 (pc1 := 85) (L1 := [some (.ref 0), none, none, none, some (.int v4), some (.int v5), some (.int v6), some (.int v7), none]) (st1 := [.int (v4 + r23), .ref 1]) (h1 := (zx_SC, m)) rfl ?_
    obtain ⟨r25, hv24, hf⟩ := zx_bind_eq hf
    refine zx_ev_call (d := d + 77) zk_123 (v := some (.int r25)) (h1 := (zx_SC, m)) rfl rfl zt_49 rfl zx_SCn rfl rfl (s_Numbers_fromMiddle _ _ (d := d + 76) hv24) ?_
    refine zx_ev_blk zk_123 4 (pc1 := 96) (L1 := [some (.ref 0), none, none, none, some (.int v4), some (.int v5), some (.int v6), some (.int v7), some (.int r25)]) (st1 := [.int v7, .ref 19]) (h1 := (zx_SC, m)) rfl ?_
    obtain ⟨r27, hv26, hf⟩ := zx_bind_eq hf
    refine zx_ev_call (d := d + 77) zk_123 (v := some (.int r27)) (h1 := (zx_SC, m)) rfl rfl zt_54 rfl zx_SCn rfl rfl (s_Order_has _ _ (d := d + 76) hv26) ?_
    by_cases c28 : r27 = 0
    · rw [if_pos c28] at hf
      refine zx_ev_ift zk_123 (P := r27 = 0) (t := 124) (f := 102) rfl rfl c28 ?_
      exact zx_ev_sub (L := [some (.ref 0), none, none, none, some (.int v4), some (.int v5), some (.int v6), some (.int v7), none]) (⟨rfl, ⟨rfl, ⟨rfl, ⟨rfl, ⟨rfl, ⟨trivial, trivial⟩⟩⟩⟩⟩⟩) (e_C_last_b60_124 v4 v5 v6 v7 m hf hK)
    · rw [if_neg c28] at hf
      refine zx_ev_ifn zk_123 (P := r27 = 0) (t := 124) (f := 102) rfl rfl c28 ?_
      refine zx_ev_blk zk_123 2 (pc1 := 106) (L1 := [some (.ref 0), none, none, none, some (.int v4), some (.int v5), some (.int v6), some (.int v7), some (.int r25)]) (st1 := [.int (-2), .int v5]) (h1 := (zx_SC, m)) rfl ?_
      by_cases c30 : v5 = (-2)
      · rw [if_pos c30] at hf
        refine zx_ev_ift zk_123 (P := v5 = (-2)) (t := 116) (f := 109) rfl rfl c30 ?_
        exact zx_ev_sub (L := [some (.ref 0), none, none, none, some (.int v4), none, none, some (.int v7), some (.int r25)]) (⟨rfl, ⟨rfl, ⟨trivial, ⟨trivial, ⟨rfl, ⟨rfl, trivial⟩⟩⟩⟩⟩⟩) (e_C_last_b60_116 v4 v7 r25 m hf hK)
      · rw [if_neg c30] at hf
        refine zx_ev_ifn zk_123 (P := v5 = (-2)) (t := 116) (f := 109) rfl rfl c30 ?_
        refine zx_ev_blk zk_123 2 (pc1 := 113) (L1 := [some (.ref 0), none, none, none, some (.int v4), some (.int v5), some (.int v6), some (.int v7), some (.int r25)]) (st1 := [.int v6, .int r25]) (h1 := (zx_SC, m)) rfl ?_
        by_cases c31 : v6 ≤ r25
        · rw [if_pos c31] at hf
          refine zx_ev_ift zk_123 (P := v6 ≤ r25) (t := 124) (f := 116) rfl rfl c31 ?_
          exact zx_ev_sub (L := [some (.ref 0), none, none, none, some (.int v4), some (.int v5), some (.int v6), some (.int v7), none]) (⟨rfl, ⟨rfl, ⟨rfl, ⟨rfl, ⟨rfl, ⟨trivial, trivial⟩⟩⟩⟩⟩⟩) (e_C_last_b60_124 v4 v5 v6 v7 m hf hK)
        · rw [if_neg c31] at hf
          refine zx_ev_ifn zk_123 (P := v6 ≤ r25) (t := 124) (f := 116) rfl rfl c31 ?_
          exact zx_ev_sub (L := [some (.ref 0), none, none, none, some (.int v4), none, none, some (.int v7), some (.int r25)]) (⟨rfl, ⟨rfl, ⟨trivial, ⟨trivial, ⟨rfl, ⟨rfl, trivial⟩⟩⟩⟩⟩⟩) (e_C_last_b60_116 v4 v7 r25 m hf hK)
def l_C_last_l60 (v4 : Int32) (m : zx_M) (s0 : Int32 × Int32 × Int32) : Option ((Int32 × zx_M)) := zx_lp zx_N (fun s : Int32 × Int32 × Int32 => b_C_last_l60 v4 s.1 s.2.1 s.2.2 m) s0
theorem el_C_last_l60 (v4 : Int32) (m : zx_M) {d : Nat} {out : Option Value × zx_H} : ∀ (n : Nat) (s : Int32 × Int32 × Int32) (x : (Int32 × zx_M)), zx_lp n (fun s : Int32 × Int32 × Int32 => b_C_last_l60 v4 s.1 s.2.1 s.2.2 m) s = some x → kx_C_last_l60 v4 m d out x → zx_Ev (d + 78) 123 60 [some (.ref 0), none, none, none, some (.int v4), some (.int s.1), some (.int s.2.1), some (.int s.2.2), none] [] (zx_SC, m) out := by
  intro n
  induction n with
  | zero => intro s x hl _; simp [zx_lp] at hl
  | succ n ih =>
    intro s x hl hx
    unfold zx_lp at hl
    cases hb : b_C_last_l60 v4 s.1 s.2.1 s.2.2 m with
    | none => simp only [hb] at hl; cases hl
    | some z =>
      simp only [hb] at hl
      cases z with
      | inl s1 => exact eb_C_last_l60 v4 s.1 s.2.1 s.2.2 m hb (ih s1 x hl hx)
      | inr t =>
        simp only [Option.some.injEq] at hl
        subst hl
        exact eb_C_last_l60 v4 s.1 s.2.1 s.2.2 m hb hx
def f_C_last (v1 : Int32) (v2 : Int32) (m : zx_M) : Option (Int32 × zx_M) := (f_C_isSpotAndCount v2 m).bind fun r2 => if ¬ r2 = 0 then (f_C_readOrder v1 m).bind fun (r5, m6) => if r5 = 0 then (f_C_spotOf v2 m6).bind fun r9 => (f_Order_size m6).bind fun r11 => (f_C_countOf v2 m6).bind fun r13 => (f_C_way m6).bind fun r15 => (f_C_ahead ((r11 - 1) * r13) r15 m6).bind fun r17 => zx_let (r9 + r17) fun a18 => (l_C_last_l60 a18 m6 ((-2), 0, 0)).bind fun x32 => zx_let x32 fun y33 => some y33 else some (r5, m6) else some ((-1), m)
theorem s_C_last (v1 : Int32) (v2 : Int32) (m : zx_M) {d : Nat} {y : (Int32 × zx_M)} (hf : f_C_last v1 v2 m = some y) : zx_Ev (d + 78) 123 0 [some (.ref 0), some (.int v1), some (.int v2), none, none, none, none, none, none] [] (zx_SC, m) (some (.int y.1), (zx_SC, y.2)) := by
  unfold f_C_last at hf
  refine zx_ev_blk zk_123 1 (pc1 := 1) (L1 := [some (.ref 0), some (.int v1), some (.int v2), none, none, none, none, none, none]) (st1 := [.int v2]) (h1 := (zx_SC, m)) rfl ?_
  obtain ⟨r2, hv1, hf⟩ := zx_bind_eq hf
  refine zx_ev_call (d := d + 77) zk_123 (v := some (.int r2)) (h1 := (zx_SC, m)) rfl rfl zt_99 rfl zx_SCn rfl rfl (s_C_isSpotAndCount _ _ (d := d + 76) hv1) ?_
  by_cases c3 : ¬ r2 = 0
  · rw [if_pos c3] at hf
    refine zx_ev_ift zk_123 (P := ¬ r2 = 0) (t := 9) (f := 7) rfl rfl c3 ?_
    refine zx_ev_blk zk_123 2 (pc1 := 11) (L1 := [some (.ref 0), some (.int v1), some (.int v2), none, none, none, none, none, none]) (st1 := [.int v1, .ref 0]) (h1 := (zx_SC, m)) rfl ?_
    obtain ⟨⟨r5, m6⟩, hv4, hf⟩ := zx_bind_eq hf
    dsimp only at hf
    refine zx_ev_call (d := d + 77) zk_123 (v := some (.int r5)) (h1 := (zx_SC, m6)) rfl rfl zt_103 rfl zx_SCn rfl rfl (s_C_readOrder _ _ (d := d + 0) hv4) ?_
    refine zx_ev_blk zk_123 2 (pc1 := 16) (L1 := [some (.ref 0), some (.int v1), some (.int v2), some (.int r5), none, none, none, none, none]) (st1 := [.int r5]) (h1 := (zx_SC, m6)) rfl ?_
    by_cases c7 : r5 = 0
    · rw [if_pos c7] at hf
      refine zx_ev_ift zk_123 (P := r5 = 0) (t := 21) (f := 19) rfl rfl c7 ?_
      refine zx_ev_blk zk_123 1 (pc1 := 22) (L1 := [some (.ref 0), some (.int v1), some (.int v2), some (.int r5), none, none, none, none, none]) (st1 := [.int v2]) (h1 := (zx_SC, m6)) rfl ?_
      obtain ⟨r9, hv8, hf⟩ := zx_bind_eq hf
      refine zx_ev_call (d := d + 77) zk_123 (v := some (.int r9)) (h1 := (zx_SC, m6)) rfl rfl zt_100 rfl zx_SCn rfl rfl (s_C_spotOf _ _ (d := d + 77) hv8) ?_
      refine zx_ev_blk zk_123 3 (pc1 := 30) (L1 := [some (.ref 0), some (.int v1), some (.int v2), some (.int r5), none, none, none, none, none]) (st1 := [.ref 19, .ref 0, .int r9]) (h1 := (zx_SC, m6)) rfl ?_
      obtain ⟨r11, hv10, hf⟩ := zx_bind_eq hf
      refine zx_ev_call (d := d + 77) zk_123 (v := some (.int r11)) (h1 := (zx_SC, m6)) rfl rfl zt_51 rfl zx_SCn rfl rfl (s_Order_size _ (d := d + 77) hv10) ?_
      refine zx_ev_blk zk_123 3 (pc1 := 36) (L1 := [some (.ref 0), some (.int v1), some (.int v2), some (.int r5), none, none, none, none, none]) (st1 := [.int v2, .int (r11 - 1), .ref 0, .int r9]) (h1 := (zx_SC, m6)) rfl ?_
      obtain ⟨r13, hv12, hf⟩ := zx_bind_eq hf
      refine zx_ev_call (d := d + 77) zk_123 (v := some (.int r13)) (h1 := (zx_SC, m6)) rfl rfl zt_101 rfl zx_SCn rfl rfl (s_C_countOf _ _ (d := d + 77) hv12) ?_
      refine zx_ev_blk zk_123 2 (pc1 := 41) (L1 := [some (.ref 0), some (.int v1), some (.int v2), some (.int r5), none, none, none, none, none]) (st1 := [.ref 0, .int ((r11 - 1) * r13), .ref 0, .int r9]) (h1 := (zx_SC, m6)) rfl ?_
      obtain ⟨r15, hv14, hf⟩ := zx_bind_eq hf
      refine zx_ev_call (d := d + 77) zk_123 (v := some (.int r15)) (h1 := (zx_SC, m6)) rfl rfl zt_106 rfl zx_SCn rfl rfl (s_C_way _ (d := d + 76) hv14) ?_
      obtain ⟨r17, hv16, hf⟩ := zx_bind_eq hf
      refine zx_ev_call (d := d + 77) zk_123 (v := some (.int r17)) (h1 := (zx_SC, m6)) rfl rfl zt_107 rfl zx_SCn rfl rfl (s_C_ahead _ _ _ (d := d + 76) hv16) ?_
      obtain ⟨a18, ha18, hf⟩ := zx_let_eq hf
      refine zx_ev_blk zk_123 8 (pc1 := 60) (L1 := [some (.ref 0), some (.int v1), some (.int v2), some (.int r5), some (.int a18), some (.int (-2)), some (.int 0), some (.int 0), none]) (st1 := []) (h1 := (zx_SC, m6)) (by subst ha18; rfl) ?_
      obtain ⟨x32, hx32, hf⟩ := zx_bind_eq hf
      refine zx_ev_sub (L := [some (.ref 0), none, none, none, some (.int a18), some (.int (-2)), some (.int 0), some (.int 0), none]) (⟨rfl, ⟨trivial, ⟨trivial, ⟨trivial, ⟨rfl, ⟨rfl, ⟨rfl, ⟨rfl, trivial⟩⟩⟩⟩⟩⟩⟩⟩) (el_C_last_l60 a18 m6 zx_N ((-2), 0, 0) x32 hx32 ?_)
      obtain ⟨y33, hy33, hf⟩ := zx_let_eq hf
      subst hy33
      obtain rfl := Option.some.inj hf
      rfl
    · rw [if_neg c7] at hf
      refine zx_ev_ifn zk_123 (P := r5 = 0) (t := 21) (f := 19) rfl rfl c7 ?_
      refine zx_ev_blk zk_123 1 (pc1 := 20) (L1 := [some (.ref 0), some (.int v1), some (.int v2), some (.int r5), none, none, none, none, none]) (st1 := [.int r5]) (h1 := (zx_SC, m6)) rfl ?_
      obtain rfl := Option.some.inj hf
      exact zx_ev_ret zk_123 rfl rfl
  · rw [if_neg c3] at hf
    refine zx_ev_ifn zk_123 (P := ¬ r2 = 0) (t := 9) (f := 7) rfl rfl c3 ?_
    refine zx_ev_blk zk_123 1 (pc1 := 8) (L1 := [some (.ref 0), some (.int v1), some (.int v2), none, none, none, none, none, none]) (st1 := [.int (-1)]) (h1 := (zx_SC, m)) rfl ?_
    obtain rfl := Option.some.inj hf
    exact zx_ev_ret zk_123 rfl rfl
def n_C_law_n25 (v1 : Int32) (m : zx_M) : Option (Int32 × zx_M) := (f_Text_clear_9 m).bind fun m6 => if ¬ v1 = (-2) then some ((-100) - v1, m6) else some (1, m6)
theorem e_C_law_n25 (v1 : Int32) (m : zx_M) {d : Nat} {y : (Int32 × zx_M)} (hf : n_C_law_n25 v1 m = some y) : zx_Ev (d + 75) 93 25 [some (.ref 0), some (.int v1)] [] (zx_SC, m) (some (.int y.1), (zx_SC, y.2)) := by
  unfold n_C_law_n25 at hf
  refine zx_ev_blk zk_93 2 (pc1 := 29) (L1 := [some (.ref 0), some (.int v1)]) (st1 := [.ref 9]) (h1 := (zx_SC, m)) rfl ?_
  obtain ⟨m6, hv5, hf⟩ := zx_bind_eq hf
  refine zx_ev_call (d := d + 74) zk_93 (v := none) (h1 := (zx_SC, m6)) rfl rfl zt_73 rfl zx_SCn rfl rfl (s_Text_clear_9 _ (d := d + 74) hv5) ?_
  refine zx_ev_blk zk_93 2 (pc1 := 35) (L1 := [some (.ref 0), some (.int v1)]) (st1 := [.int (-2), .int v1]) (h1 := (zx_SC, m6)) rfl ?_
  by_cases c7 : ¬ v1 = (-2)
  · rw [if_pos c7] at hf
    refine zx_ev_ift zk_93 (P := ¬ v1 = (-2)) (t := 42) (f := 38) rfl rfl c7 ?_
    refine zx_ev_blk zk_93 3 (pc1 := 46) (L1 := [some (.ref 0), some (.int v1)]) (st1 := [.int ((-100) - v1)]) (h1 := (zx_SC, m6)) rfl ?_
    obtain rfl := Option.some.inj hf
    exact zx_ev_ret zk_93 rfl rfl
  · rw [if_neg c7] at hf
    refine zx_ev_ifn zk_93 (P := ¬ v1 = (-2)) (t := 42) (f := 38) rfl rfl c7 ?_
    refine zx_ev_blk zk_93 2 (pc1 := 46) (L1 := [some (.ref 0), some (.int v1)]) (st1 := [.int 1]) (h1 := (zx_SC, m6)) rfl ?_
    obtain rfl := Option.some.inj hf
    exact zx_ev_ret zk_93 rfl rfl
def f_C_law (m : zx_M) : Option (Int32 × zx_M) := (f_Text_fault_9 m).bind fun (r2, m3) => if ¬ r2 = (-2) then n_C_law_n25 r2 m3 else (f_Text_become_12_9 m3).bind fun m9 => n_C_law_n25 r2 m9
theorem s_C_law (m : zx_M) {d : Nat} {y : (Int32 × zx_M)} (hf : f_C_law m = some y) : zx_Ev (d + 75) 93 0 [some (.ref 0), none] [] (zx_SC, m) (some (.int y.1), (zx_SC, y.2)) := by
  unfold f_C_law at hf
  refine zx_ev_blk zk_93 2 (pc1 := 4) (L1 := [some (.ref 0), none]) (st1 := [.ref 9]) (h1 := (zx_SC, m)) rfl ?_
  obtain ⟨⟨r2, m3⟩, hv1, hf⟩ := zx_bind_eq hf
  dsimp only at hf
  refine zx_ev_call (d := d + 74) zk_93 (v := some (.int r2)) (h1 := (zx_SC, m3)) rfl rfl zt_76 rfl zx_SCn rfl rfl (s_Text_fault_9 _ (d := d + 0) hv1) ?_
  refine zx_ev_blk zk_93 3 (pc1 := 11) (L1 := [some (.ref 0), some (.int r2)]) (st1 := [.int (-2), .int r2]) (h1 := (zx_SC, m3)) rfl ?_
  by_cases c4 : ¬ r2 = (-2)
  · rw [if_pos c4] at hf
    refine zx_ev_ift zk_93 (P := ¬ r2 = (-2)) (t := 25) (f := 14) rfl rfl c4 ?_
    exact zx_ev_sub (L := [some (.ref 0), some (.int r2)]) (⟨rfl, ⟨rfl, trivial⟩⟩) (e_C_law_n25 r2 m3 hf)
  · rw [if_neg c4] at hf
    refine zx_ev_ifn zk_93 (P := ¬ r2 = (-2)) (t := 25) (f := 14) rfl rfl c4 ?_
    refine zx_ev_blk zk_93 4 (pc1 := 22) (L1 := [some (.ref 0), some (.int r2)]) (st1 := [.ref 9, .ref 12]) (h1 := (zx_SC, m3)) rfl ?_
    obtain ⟨m9, hv8, hf⟩ := zx_bind_eq hf
    refine zx_ev_call (d := d + 74) zk_93 (v := none) (h1 := (zx_SC, m9)) rfl rfl zt_75 rfl zx_SCn rfl rfl (s_Text_become_12_9 _ (d := d + 73) hv8) ?_
    exact zx_ev_sub (L := [some (.ref 0), some (.int r2)]) (⟨rfl, ⟨rfl, trivial⟩⟩) (e_C_law_n25 r2 m9 hf)
def f_C_led (v1 : Int32) (m : zx_M) : Option Int32 := (f_Deed_tally_26 v1 m).bind fun r2 => some r2
theorem s_C_led (v1 : Int32) (m : zx_M) {d : Nat} {y : Int32} (hf : f_C_led v1 m = some y) : zx_Ev (d + 1) 142 0 [some (.ref 0), some (.int v1)] [] (zx_SC, m) (some (.int y), (zx_SC, m)) := by
  unfold f_C_led at hf
  refine zx_ev_blk zk_142 3 (pc1 := 5) (L1 := [some (.ref 0), some (.int v1)]) (st1 := [.int v1, .ref 26]) (h1 := (zx_SC, m)) rfl ?_
  obtain ⟨r2, hv1, hf⟩ := zx_bind_eq hf
  refine zx_ev_call (d := d + 0) zk_142 (v := some (.int r2)) (h1 := (zx_SC, m)) rfl rfl zt_30 rfl zx_SCn rfl rfl (s_Deed_tally_26 _ _ (d := d + 0) hv1) ?_
  obtain rfl := Option.some.inj hf
  exact zx_ev_ret zk_142 rfl rfl
def kx_C_twelfths_l5 (v1 : Int32) (v2 : Int32) (m : zx_M) (d : Nat) (out : Option Value × zx_H) : Int64 → Prop
  | y => out = (some (.long y), (zx_SC, m))
def kl_C_twelfths_l5 (v1 : Int32) (v2 : Int32) (m : zx_M) (d : Nat) (out : Option Value × zx_H) : (Int64 × Int32) ⊕ (Int64) → Prop
  | .inl (v3, v5) => zx_Ev (d + 2) 130 5 [some (.ref 0), some (.int v1), some (.int v2), some (.long v3), none, some (.int v5), none] [] (zx_SC, m) out
  | .inr x => kx_C_twelfths_l5 v1 v2 m d out x
def n_C_twelfths_b5_53 (v1 : Int32) (v2 : Int32) (v5 : Int32) (t0 : Int64) (t1 : Int64) (m : zx_M) : Option ((Int64 × Int32) ⊕ (Int64)) := zx_let (t0 * t1) fun a6 => zx_let (v5 + 1) fun a7 => some (.inl (a6, a7))
theorem e_C_twelfths_b5_53 (v1 : Int32) (v2 : Int32) (v5 : Int32) (t0 : Int64) (t1 : Int64) (m : zx_M) {d : Nat} {out : Option Value × zx_H} {y : (Int64 × Int32) ⊕ (Int64)} (hf : n_C_twelfths_b5_53 v1 v2 v5 t0 t1 m = some y) (hK : kl_C_twelfths_l5 v1 v2 m d out y) : zx_Ev (d + 2) 130 53 [some (.ref 0), some (.int v1), some (.int v2), none, none, some (.int v5), none] [.long t1, .long t0] (zx_SC, m) out := by
  unfold n_C_twelfths_b5_53 at hf
  obtain ⟨a6, ha6, hf⟩ := zx_let_eq hf
  obtain ⟨a7, ha7, hf⟩ := zx_let_eq hf
  refine zx_ev_blk zk_130 4 (pc1 := 5) (L1 := [some (.ref 0), some (.int v1), some (.int v2), some (.long a6), none, some (.int a7), none]) (st1 := []) (h1 := (zx_SC, m)) (by subst ha6; subst ha7; rfl) ?_
  obtain rfl := Option.some.inj hf
  exact zx_ev_sub (L := [some (.ref 0), some (.int v1), some (.int v2), some (.long a6), none, some (.int a7), none]) (⟨rfl, ⟨rfl, ⟨rfl, ⟨rfl, ⟨rfl, trivial⟩⟩⟩⟩⟩) hK
def n_C_twelfths_b5_25 (v1 : Int32) (v2 : Int32) (v3 : Int64) (v5 : Int32) (t0 : Int32) (m : zx_M) : Option ((Int64 × Int32) ⊕ (Int64)) := if t0 = 0 then (f_C_sticksOf v5 m).bind fun r5 => n_C_twelfths_b5_53 v1 v2 v5 v3 (Int32.toInt64 (12 - r5)) m else (f_C_sticksOf v5 m).bind fun r9 => n_C_twelfths_b5_53 v1 v2 v5 v3 (Int32.toInt64 r9) m
theorem e_C_twelfths_b5_25 (v1 : Int32) (v2 : Int32) (v3 : Int64) (v5 : Int32) (t0 : Int32) (m : zx_M) {d : Nat} {out : Option Value × zx_H} {y : (Int64 × Int32) ⊕ (Int64)} (hf : n_C_twelfths_b5_25 v1 v2 v3 v5 t0 m = some y) (hK : kl_C_twelfths_l5 v1 v2 m d out y) : zx_Ev (d + 2) 130 25 [some (.ref 0), some (.int v1), some (.int v2), some (.long v3), none, some (.int v5), none] [.int t0] (zx_SC, m) out := by
  unfold n_C_twelfths_b5_25 at hf
  refine zx_ev_blk zk_130 3 (pc1 := 30) (L1 := [some (.ref 0), some (.int v1), some (.int v2), some (.long v3), none, some (.int v5), some (.int t0)]) (st1 := [.int t0, .long v3]) (h1 := (zx_SC, m)) rfl ?_
  by_cases c3 : t0 = 0
  · rw [if_pos c3] at hf
    refine zx_ev_ift zk_130 (P := t0 = 0) (t := 43) (f := 33) rfl rfl c3 ?_
    refine zx_ev_blk zk_130 3 (pc1 := 48) (L1 := [some (.ref 0), some (.int v1), some (.int v2), some (.long v3), none, some (.int v5), some (.int t0)]) (st1 := [.int v5, .ref 0, .int 12, .long v3]) (h1 := (zx_SC, m)) rfl ?_
    obtain ⟨r5, hv4, hf⟩ := zx_bind_eq hf
    refine zx_ev_call (d := d + 1) zk_130 (v := some (.int r5)) (h1 := (zx_SC, m)) rfl rfl zt_126 rfl zx_SCn rfl rfl (s_C_sticksOf _ _ (d := d + 0) hv4) ?_
    refine zx_ev_blk zk_130 2 (pc1 := 53) (L1 := [some (.ref 0), some (.int v1), some (.int v2), some (.long v3), none, some (.int v5), some (.int t0)]) (st1 := [.long (Int32.toInt64 (12 - r5)), .long v3]) (h1 := (zx_SC, m)) rfl ?_
    exact zx_ev_sub (L := [some (.ref 0), some (.int v1), some (.int v2), none, none, some (.int v5), none]) (⟨rfl, ⟨rfl, ⟨rfl, ⟨trivial, ⟨rfl, ⟨trivial, trivial⟩⟩⟩⟩⟩⟩) (e_C_twelfths_b5_53 v1 v2 v5 v3 (Int32.toInt64 (12 - r5)) m hf hK)
  · rw [if_neg c3] at hf
    refine zx_ev_ifn zk_130 (P := t0 = 0) (t := 43) (f := 33) rfl rfl c3 ?_
    refine zx_ev_blk zk_130 2 (pc1 := 36) (L1 := [some (.ref 0), some (.int v1), some (.int v2), some (.long v3), none, some (.int v5), some (.int t0)]) (st1 := [.int v5, .ref 0, .long v3]) (h1 := (zx_SC, m)) rfl ?_
    obtain ⟨r9, hv8, hf⟩ := zx_bind_eq hf
    refine zx_ev_call (d := d + 1) zk_130 (v := some (.int r9)) (h1 := (zx_SC, m)) rfl rfl zt_126 rfl zx_SCn rfl rfl (s_C_sticksOf _ _ (d := d + 0) hv8) ?_
    refine zx_ev_blk zk_130 2 (pc1 := 53) (L1 := [some (.ref 0), some (.int v1), some (.int v2), some (.long v3), none, some (.int v5), some (.int t0)]) (st1 := [.long (Int32.toInt64 r9), .long v3]) (h1 := (zx_SC, m)) rfl ?_
    exact zx_ev_sub (L := [some (.ref 0), some (.int v1), some (.int v2), none, none, some (.int v5), none]) (⟨rfl, ⟨rfl, ⟨rfl, ⟨trivial, ⟨rfl, ⟨trivial, trivial⟩⟩⟩⟩⟩⟩) (e_C_twelfths_b5_53 v1 v2 v5 v3 (Int32.toInt64 r9) m hf hK)
def b_C_twelfths_l5 (v1 : Int32) (v2 : Int32) (v3 : Int64) (v5 : Int32) (m : zx_M) : Option ((Int64 × Int32) ⊕ (Int64)) := if v1 ≤ v5 then some (.inr v3) else if ((zx_shr v2 v5) &&& 1) = 0 then n_C_twelfths_b5_25 v1 v2 v3 v5 0 m else n_C_twelfths_b5_25 v1 v2 v3 v5 1 m
theorem eb_C_twelfths_l5 (v1 : Int32) (v2 : Int32) (v3 : Int64) (v5 : Int32) (m : zx_M) {d : Nat} {out : Option Value × zx_H} {y : (Int64 × Int32) ⊕ (Int64)} (hf : b_C_twelfths_l5 v1 v2 v3 v5 m = some y) (hK : kl_C_twelfths_l5 v1 v2 m d out y) : zx_Ev (d + 2) 130 5 [some (.ref 0), some (.int v1), some (.int v2), some (.long v3), none, some (.int v5), none] [] (zx_SC, m) out := by
  unfold b_C_twelfths_l5 at hf
  refine zx_ev_blk zk_130 2 (pc1 := 8) (L1 := [some (.ref 0), some (.int v1), some (.int v2), some (.long v3), none, some (.int v5), none]) (st1 := [.int v1, .int v5]) (h1 := (zx_SC, m)) rfl ?_
  by_cases c1 : v1 ≤ v5
  · rw [if_pos c1] at hf
    refine zx_ev_ift zk_130 (P := v1 ≤ v5) (t := 61) (f := 11) rfl rfl c1 ?_
    refine zx_ev_blk zk_130 1 (pc1 := 62) (L1 := [some (.ref 0), some (.int v1), some (.int v2), some (.long v3), none, some (.int v5), none]) (st1 := [.long v3]) (h1 := (zx_SC, m)) rfl ?_
    obtain rfl := Option.some.inj hf
    rw [show out = _ from hK]
    exact zx_ev_ret zk_130 rfl rfl
  · rw [if_neg c1] at hf
    refine zx_ev_ifn zk_130 (P := v1 ≤ v5) (t := 61) (f := 11) rfl rfl c1 ?_
    refine zx_ev_blk zk_130 5 (pc1 := 17) (L1 := [some (.ref 0), some (.int v1), some (.int v2), some (.long v3), none, some (.int v5), none]) (st1 := [.int ((zx_shr v2 v5) &&& 1)]) (h1 := (zx_SC, m)) rfl ?_
    by_cases c2 : ((zx_shr v2 v5) &&& 1) = 0
    · rw [if_pos c2] at hf
      refine zx_ev_ift zk_130 (P := ((zx_shr v2 v5) &&& 1) = 0) (t := 24) (f := 20) rfl rfl c2 ?_
      refine zx_ev_blk zk_130 1 (pc1 := 25) (L1 := [some (.ref 0), some (.int v1), some (.int v2), some (.long v3), none, some (.int v5), none]) (st1 := [.int 0]) (h1 := (zx_SC, m)) rfl ?_
      exact zx_ev_sub (L := [some (.ref 0), some (.int v1), some (.int v2), some (.long v3), none, some (.int v5), none]) (⟨rfl, ⟨rfl, ⟨rfl, ⟨rfl, ⟨rfl, trivial⟩⟩⟩⟩⟩) (e_C_twelfths_b5_25 v1 v2 v3 v5 0 m hf hK)
    · rw [if_neg c2] at hf
      refine zx_ev_ifn zk_130 (P := ((zx_shr v2 v5) &&& 1) = 0) (t := 24) (f := 20) rfl rfl c2 ?_
      refine zx_ev_blk zk_130 2 (pc1 := 25) (L1 := [some (.ref 0), some (.int v1), some (.int v2), some (.long v3), none, some (.int v5), none]) (st1 := [.int 1]) (h1 := (zx_SC, m)) rfl ?_
      exact zx_ev_sub (L := [some (.ref 0), some (.int v1), some (.int v2), some (.long v3), none, some (.int v5), none]) (⟨rfl, ⟨rfl, ⟨rfl, ⟨rfl, ⟨rfl, trivial⟩⟩⟩⟩⟩) (e_C_twelfths_b5_25 v1 v2 v3 v5 1 m hf hK)
def l_C_twelfths_l5 (v1 : Int32) (v2 : Int32) (m : zx_M) (s0 : Int64 × Int32) : Option (Int64) := zx_lp zx_N (fun s : Int64 × Int32 => b_C_twelfths_l5 v1 v2 s.1 s.2 m) s0
theorem el_C_twelfths_l5 (v1 : Int32) (v2 : Int32) (m : zx_M) {d : Nat} {out : Option Value × zx_H} : ∀ (n : Nat) (s : Int64 × Int32) (x : Int64), zx_lp n (fun s : Int64 × Int32 => b_C_twelfths_l5 v1 v2 s.1 s.2 m) s = some x → kx_C_twelfths_l5 v1 v2 m d out x → zx_Ev (d + 2) 130 5 [some (.ref 0), some (.int v1), some (.int v2), some (.long s.1), none, some (.int s.2), none] [] (zx_SC, m) out := by
  intro n
  induction n with
  | zero => intro s x hl _; simp [zx_lp] at hl
  | succ n ih =>
    intro s x hl hx
    unfold zx_lp at hl
    cases hb : b_C_twelfths_l5 v1 v2 s.1 s.2 m with
    | none => simp only [hb] at hl; cases hl
    | some z =>
      simp only [hb] at hl
      cases z with
      | inl s1 => exact eb_C_twelfths_l5 v1 v2 s.1 s.2 m hb (ih s1 x hl hx)
      | inr t =>
        simp only [Option.some.injEq] at hl
        subst hl
        exact eb_C_twelfths_l5 v1 v2 s.1 s.2 m hb hx
def f_C_twelfths (v1 : Int32) (v2 : Int32) (m : zx_M) : Option Int64 := (l_C_twelfths_l5 v1 v2 m (1, 0)).bind fun x10 => zx_let x10 fun y11 => some y11
theorem s_C_twelfths (v1 : Int32) (v2 : Int32) (m : zx_M) {d : Nat} {y : Int64} (hf : f_C_twelfths v1 v2 m = some y) : zx_Ev (d + 2) 130 0 [some (.ref 0), some (.int v1), some (.int v2), none, none, none, none] [] (zx_SC, m) (some (.long y), (zx_SC, m)) := by
  unfold f_C_twelfths at hf
  refine zx_ev_blk zk_130 4 (pc1 := 5) (L1 := [some (.ref 0), some (.int v1), some (.int v2), some (.long 1), none, some (.int 0), none]) (st1 := []) (h1 := (zx_SC, m)) rfl ?_
  obtain ⟨x10, hx10, hf⟩ := zx_bind_eq hf
  refine zx_ev_sub (L := [some (.ref 0), some (.int v1), some (.int v2), some (.long 1), none, some (.int 0), none]) (⟨rfl, ⟨rfl, ⟨rfl, ⟨rfl, ⟨rfl, trivial⟩⟩⟩⟩⟩) (el_C_twelfths_l5 v1 v2 m zx_N (1, 0) x10 hx10 ?_)
  obtain ⟨y11, hy11, hf⟩ := zx_let_eq hf
  subst hy11
  obtain rfl := Option.some.inj hf
  rfl
def kx_C_lowest_l9 (v0 : Int64) (v2 : Int64) (v4 : Int32) (m : zx_M) (d : Nat) (out : Option Value × zx_H) : Int64 → Prop
  | x5 => zx_Ev (d) 127 45 [some (.long v0), none, some (.long v2), none, some (.int v4), some (.long x5), none, none, none, none, none, none] [] (zx_SC, m) out
def kl_C_lowest_l9 (v0 : Int64) (v2 : Int64) (v4 : Int32) (m : zx_M) (d : Nat) (out : Option Value × zx_H) : (Int64 × Int64 × Int32) ⊕ (Int64) → Prop
  | .inl (v5, v7, v9) => zx_Ev (d) 127 9 [some (.long v0), none, some (.long v2), none, some (.int v4), some (.long v5), none, some (.long v7), none, some (.int v9), none, none] [] (zx_SC, m) out
  | .inr x => kx_C_lowest_l9 v0 v2 v4 m d out x
def b_C_lowest_l9 (v0 : Int64) (v2 : Int64) (v4 : Int32) (v5 : Int64) (v7 : Int64) (v9 : Int32) (m : zx_M) : Option ((Int64 × Int64 × Int32) ⊕ (Int64)) := if 200 ≤ v9 then some (.inr v5) else if (lg_cmp v7 0) ≤ 0 then some (.inr v5) else if v7 = 0 then none else zx_let (zx_reml v5 v7) fun a4 => zx_let (v9 + 1) fun a5 => some (.inl (v7, a4, a5))
theorem eb_C_lowest_l9 (v0 : Int64) (v2 : Int64) (v4 : Int32) (v5 : Int64) (v7 : Int64) (v9 : Int32) (m : zx_M) {d : Nat} {out : Option Value × zx_H} {y : (Int64 × Int64 × Int32) ⊕ (Int64)} (hf : b_C_lowest_l9 v0 v2 v4 v5 v7 v9 m = some y) (hK : kl_C_lowest_l9 v0 v2 v4 m d out y) : zx_Ev (d) 127 9 [some (.long v0), none, some (.long v2), none, some (.int v4), some (.long v5), none, some (.long v7), none, some (.int v9), none, none] [] (zx_SC, m) out := by
  unfold b_C_lowest_l9 at hf
  refine zx_ev_blk zk_127 2 (pc1 := 14) (L1 := [some (.long v0), none, some (.long v2), none, some (.int v4), some (.long v5), none, some (.long v7), none, some (.int v9), none, none]) (st1 := [.int 200, .int v9]) (h1 := (zx_SC, m)) rfl ?_
  by_cases c1 : 200 ≤ v9
  · rw [if_pos c1] at hf
    refine zx_ev_ift zk_127 (P := 200 ≤ v9) (t := 45) (f := 17) rfl rfl c1 ?_
    obtain rfl := Option.some.inj hf
    exact zx_ev_sub (L := [some (.long v0), none, some (.long v2), none, some (.int v4), some (.long v5), none, none, none, none, none, none]) (⟨rfl, ⟨rfl, ⟨rfl, ⟨rfl, ⟨trivial, ⟨trivial, trivial⟩⟩⟩⟩⟩⟩) hK
  · rw [if_neg c1] at hf
    refine zx_ev_ifn zk_127 (P := 200 ≤ v9) (t := 45) (f := 17) rfl rfl c1 ?_
    refine zx_ev_blk zk_127 3 (pc1 := 21) (L1 := [some (.long v0), none, some (.long v2), none, some (.int v4), some (.long v5), none, some (.long v7), none, some (.int v9), none, none]) (st1 := [.int (lg_cmp v7 0)]) (h1 := (zx_SC, m)) rfl ?_
    by_cases c2 : (lg_cmp v7 0) ≤ 0
    · rw [if_pos c2] at hf
      refine zx_ev_ift zk_127 (P := (lg_cmp v7 0) ≤ 0) (t := 45) (f := 24) rfl rfl c2 ?_
      obtain rfl := Option.some.inj hf
      exact zx_ev_sub (L := [some (.long v0), none, some (.long v2), none, some (.int v4), some (.long v5), none, none, none, none, none, none]) (⟨rfl, ⟨rfl, ⟨rfl, ⟨rfl, ⟨trivial, ⟨trivial, trivial⟩⟩⟩⟩⟩⟩) hK
    · rw [if_neg c2] at hf
      refine zx_ev_ifn zk_127 (P := (lg_cmp v7 0) ≤ 0) (t := 45) (f := 24) rfl rfl c2 ?_
      refine zx_ev_blk zk_127 2 (pc1 := 28) (L1 := [some (.long v0), none, some (.long v2), none, some (.int v4), some (.long v5), none, some (.long v7), none, some (.int v9), none, none]) (st1 := [.long v7, .long v5]) (h1 := (zx_SC, m)) rfl ?_
      by_cases c3 : v7 = 0
      · rw [if_pos c3] at hf; cases hf
      · rw [if_neg c3] at hf
        refine zx_ev_step zk_127 rfl (st_lrem c3) ?_
        obtain ⟨a4, ha4, hf⟩ := zx_let_eq hf
        obtain ⟨a5, ha5, hf⟩ := zx_let_eq hf
        refine zx_ev_blk zk_127 7 (pc1 := 9) (L1 := [some (.long v0), none, some (.long v2), none, some (.int v4), some (.long v7), none, some (.long a4), none, some (.int a5), some (.long a4), none]) (st1 := []) (h1 := (zx_SC, m)) (by subst ha4; subst ha5; rfl) ?_
        obtain rfl := Option.some.inj hf
        exact zx_ev_sub (L := [some (.long v0), none, some (.long v2), none, some (.int v4), some (.long v7), none, some (.long a4), none, some (.int a5), none, none]) (⟨rfl, ⟨rfl, ⟨rfl, ⟨rfl, ⟨rfl, ⟨rfl, ⟨trivial, trivial⟩⟩⟩⟩⟩⟩⟩) hK
def l_C_lowest_l9 (v0 : Int64) (v2 : Int64) (v4 : Int32) (m : zx_M) (s0 : Int64 × Int64 × Int32) : Option (Int64) := zx_lp zx_N (fun s : Int64 × Int64 × Int32 => b_C_lowest_l9 v0 v2 v4 s.1 s.2.1 s.2.2 m) s0
theorem el_C_lowest_l9 (v0 : Int64) (v2 : Int64) (v4 : Int32) (m : zx_M) {d : Nat} {out : Option Value × zx_H} : ∀ (n : Nat) (s : Int64 × Int64 × Int32) (x : Int64), zx_lp n (fun s : Int64 × Int64 × Int32 => b_C_lowest_l9 v0 v2 v4 s.1 s.2.1 s.2.2 m) s = some x → kx_C_lowest_l9 v0 v2 v4 m d out x → zx_Ev (d) 127 9 [some (.long v0), none, some (.long v2), none, some (.int v4), some (.long s.1), none, some (.long s.2.1), none, some (.int s.2.2), none, none] [] (zx_SC, m) out := by
  intro n
  induction n with
  | zero => intro s x hl _; simp [zx_lp] at hl
  | succ n ih =>
    intro s x hl hx
    unfold zx_lp at hl
    cases hb : b_C_lowest_l9 v0 v2 v4 s.1 s.2.1 s.2.2 m with
    | none => simp only [hb] at hl; cases hl
    | some z =>
      simp only [hb] at hl
      cases z with
      | inl s1 => exact eb_C_lowest_l9 v0 v2 v4 s.1 s.2.1 s.2.2 m hb (ih s1 x hl hx)
      | inr t =>
        simp only [Option.some.injEq] at hl
        subst hl
        exact eb_C_lowest_l9 v0 v2 v4 s.1 s.2.1 s.2.2 m hb hx
def n_C_lowest_n45 (v0 : Int64) (v2 : Int64) (v4 : Int32) (v5 : Int64) (m : zx_M) : Option Int64 := if 0 ≤ (lg_cmp v5 1) then if ¬ v4 = 0 then if v5 = 0 then none else some (v2 / v5) else if v5 = 0 then none else some (v0 / v5) else some (-9223372036854775808)
theorem e_C_lowest_n45 (v0 : Int64) (v2 : Int64) (v4 : Int32) (v5 : Int64) (m : zx_M) {d : Nat} {y : Int64} (hf : n_C_lowest_n45 v0 v2 v4 v5 m = some y) : zx_Ev (d) 127 45 [some (.long v0), none, some (.long v2), none, some (.int v4), some (.long v5), none, none, none, none, none, none] [] (zx_SC, m) (some (.long y), (zx_SC, m)) := by
  unfold n_C_lowest_n45 at hf
  refine zx_ev_blk zk_127 3 (pc1 := 49) (L1 := [some (.long v0), none, some (.long v2), none, some (.int v4), some (.long v5), none, none, none, none, none, none]) (st1 := [.int (lg_cmp v5 1)]) (h1 := (zx_SC, m)) rfl ?_
  by_cases c8 : 0 ≤ (lg_cmp v5 1)
  · rw [if_pos c8] at hf
    refine zx_ev_ift zk_127 (P := 0 ≤ (lg_cmp v5 1)) (t := 56) (f := 52) rfl rfl c8 ?_
    refine zx_ev_blk zk_127 1 (pc1 := 58) (L1 := [some (.long v0), none, some (.long v2), none, some (.int v4), some (.long v5), none, none, none, none, none, none]) (st1 := [.int v4]) (h1 := (zx_SC, m)) rfl ?_
    by_cases c9 : ¬ v4 = 0
    · rw [if_pos c9] at hf
      refine zx_ev_ift zk_127 (P := ¬ v4 = 0) (t := 68) (f := 61) rfl rfl c9 ?_
      refine zx_ev_blk zk_127 2 (pc1 := 71) (L1 := [some (.long v0), none, some (.long v2), none, some (.int v4), some (.long v5), none, none, none, none, none, none]) (st1 := [.long v5, .long v2]) (h1 := (zx_SC, m)) rfl ?_
      by_cases c10 : v5 = 0
      · rw [if_pos c10] at hf; cases hf
      · rw [if_neg c10] at hf
        refine zx_ev_step zk_127 rfl (st_ldiv c10) ?_
        obtain rfl := Option.some.inj hf
        exact zx_ev_ret zk_127 rfl rfl
    · rw [if_neg c9] at hf
      refine zx_ev_ifn zk_127 (P := ¬ v4 = 0) (t := 68) (f := 61) rfl rfl c9 ?_
      refine zx_ev_blk zk_127 2 (pc1 := 64) (L1 := [some (.long v0), none, some (.long v2), none, some (.int v4), some (.long v5), none, none, none, none, none, none]) (st1 := [.long v5, .long v0]) (h1 := (zx_SC, m)) rfl ?_
      by_cases c11 : v5 = 0
      · rw [if_pos c11] at hf; cases hf
      · rw [if_neg c11] at hf
        refine zx_ev_step zk_127 rfl (st_ldiv c11) ?_
        refine zx_ev_blk zk_127 1 (pc1 := 72) (L1 := [some (.long v0), none, some (.long v2), none, some (.int v4), some (.long v5), none, none, none, none, none, none]) (st1 := [.long (v0 / v5)]) (h1 := (zx_SC, m)) rfl ?_
        obtain rfl := Option.some.inj hf
        exact zx_ev_ret zk_127 rfl rfl
  · rw [if_neg c8] at hf
    refine zx_ev_ifn zk_127 (P := 0 ≤ (lg_cmp v5 1)) (t := 56) (f := 52) rfl rfl c8 ?_
    refine zx_ev_blk zk_127 1 (pc1 := 55) (L1 := [some (.long v0), none, some (.long v2), none, some (.int v4), some (.long v5), none, none, none, none, none, none]) (st1 := [.long (-9223372036854775808)]) (h1 := (zx_SC, m)) rfl ?_
    obtain rfl := Option.some.inj hf
    exact zx_ev_ret zk_127 rfl rfl
def f_C_lowest (v0 : Int64) (v2 : Int64) (v4 : Int32) (m : zx_M) : Option Int64 := (l_C_lowest_l9 v0 v2 v4 m (v0, v2, 0)).bind fun x6 => zx_let x6 fun w7 => n_C_lowest_n45 v0 v2 v4 w7 m
theorem s_C_lowest (v0 : Int64) (v2 : Int64) (v4 : Int32) (m : zx_M) {d : Nat} {y : Int64} (hf : f_C_lowest v0 v2 v4 m = some y) : zx_Ev (d) 127 0 [some (.long v0), none, some (.long v2), none, some (.int v4), none, none, none, none, none, none, none] [] (zx_SC, m) (some (.long y), (zx_SC, m)) := by
  unfold f_C_lowest at hf
  refine zx_ev_blk zk_127 6 (pc1 := 9) (L1 := [some (.long v0), none, some (.long v2), none, some (.int v4), some (.long v0), none, some (.long v2), none, some (.int 0), none, none]) (st1 := []) (h1 := (zx_SC, m)) rfl ?_
  obtain ⟨x6, hx6, hf⟩ := zx_bind_eq hf
  refine zx_ev_sub (L := [some (.long v0), none, some (.long v2), none, some (.int v4), some (.long v0), none, some (.long v2), none, some (.int 0), none, none]) (⟨rfl, ⟨rfl, ⟨rfl, ⟨rfl, ⟨rfl, ⟨rfl, trivial⟩⟩⟩⟩⟩⟩) (el_C_lowest_l9 v0 v2 v4 m zx_N (v0, v2, 0) x6 hx6 ?_)
  obtain ⟨w7, hw7, hf⟩ := zx_let_eq hf
  subst hw7
  show zx_Ev (d) 127 45 [some (.long v0), none, some (.long v2), none, some (.int v4), some (.long x6), none, none, none, none, none, none] [] (zx_SC, m) _
  exact zx_ev_sub (L := [some (.long v0), none, some (.long v2), none, some (.int v4), some (.long x6), none, none, none, none, none, none]) (⟨rfl, ⟨rfl, ⟨rfl, ⟨rfl, trivial⟩⟩⟩⟩) (e_C_lowest_n45 v0 v2 v4 x6 m hf)
def kx_C_mean_l53 (v2 : Int32) (v3 : Int32) (v4 : Int32) (v5 : Int32) (d : Nat) (out : Option Value × zx_H) : Int64 × zx_M → Prop
  | (x6, m) => zx_Ev (d + 78) 129 104 [some (.ref 0), none, none, none, some (.int v4), some (.int v5), some (.long x6), none, none, none, none] [] (zx_SC, m) out
def kl_C_mean_l53 (v2 : Int32) (v3 : Int32) (v4 : Int32) (v5 : Int32) (d : Nat) (out : Option Value × zx_H) : (Int64 × Int32 × zx_M) ⊕ (Int64 × zx_M) → Prop
  | .inl (v6, v8, m) => zx_Ev (d + 78) 129 53 [some (.ref 0), none, some (.int v2), some (.int v3), some (.int v4), some (.int v5), some (.long v6), none, some (.int v8), none, none] [] (zx_SC, m) out
  | .inr x => kx_C_mean_l53 v2 v3 v4 v5 d out x
def n_C_mean_b53_98 (v2 : Int32) (v3 : Int32) (v4 : Int32) (v5 : Int32) (v6 : Int64) (v8 : Int32) (m : zx_M) : Option ((Int64 × Int32 × zx_M) ⊕ (Int64 × zx_M)) := zx_let (v8 + 1) fun a21 => some (.inl (v6, a21, m))
theorem e_C_mean_b53_98 (v2 : Int32) (v3 : Int32) (v4 : Int32) (v5 : Int32) (v6 : Int64) (v8 : Int32) (m : zx_M) {d : Nat} {out : Option Value × zx_H} {y : (Int64 × Int32 × zx_M) ⊕ (Int64 × zx_M)} (hf : n_C_mean_b53_98 v2 v3 v4 v5 v6 v8 m = some y) (hK : kl_C_mean_l53 v2 v3 v4 v5 d out y) : zx_Ev (d + 78) 129 98 [some (.ref 0), none, some (.int v2), some (.int v3), some (.int v4), some (.int v5), some (.long v6), none, some (.int v8), none, none] [] (zx_SC, m) out := by
  unfold n_C_mean_b53_98 at hf
  obtain ⟨a21, ha21, hf⟩ := zx_let_eq hf
  refine zx_ev_blk zk_129 2 (pc1 := 53) (L1 := [some (.ref 0), none, some (.int v2), some (.int v3), some (.int v4), some (.int v5), some (.long v6), none, some (.int a21), none, none]) (st1 := []) (h1 := (zx_SC, m)) (by subst ha21; rfl) ?_
  obtain rfl := Option.some.inj hf
  exact zx_ev_sub (L := [some (.ref 0), none, some (.int v2), some (.int v3), some (.int v4), some (.int v5), some (.long v6), none, some (.int a21), none, none]) (⟨rfl, ⟨rfl, ⟨rfl, ⟨rfl, ⟨rfl, ⟨rfl, ⟨rfl, trivial⟩⟩⟩⟩⟩⟩⟩) hK
def b_C_mean_l53 (v2 : Int32) (v3 : Int32) (v4 : Int32) (v5 : Int32) (v6 : Int64) (v8 : Int32) (m : zx_M) : Option ((Int64 × Int32 × zx_M) ⊕ (Int64 × zx_M)) := if (zx_shl 1 v5) ≤ v8 then some (.inr (v6, m)) else (f_C_twelfths v5 v8 m).bind fun r19 => if (lg_cmp r19 0) ≤ 0 then n_C_mean_b53_98 v2 v3 v4 v5 v6 v8 m else (f_C_goodIfStopped v5 v8 v3 v2 m).bind fun (r23, m24) => zx_let (v6 + (r19 * (Int32.toInt64 r23))) fun a25 => n_C_mean_b53_98 v2 v3 v4 v5 a25 v8 m24
theorem eb_C_mean_l53 (v2 : Int32) (v3 : Int32) (v4 : Int32) (v5 : Int32) (v6 : Int64) (v8 : Int32) (m : zx_M) {d : Nat} {out : Option Value × zx_H} {y : (Int64 × Int32 × zx_M) ⊕ (Int64 × zx_M)} (hf : b_C_mean_l53 v2 v3 v4 v5 v6 v8 m = some y) (hK : kl_C_mean_l53 v2 v3 v4 v5 d out y) : zx_Ev (d + 78) 129 53 [some (.ref 0), none, some (.int v2), some (.int v3), some (.int v4), some (.int v5), some (.long v6), none, some (.int v8), none, none] [] (zx_SC, m) out := by
  unfold b_C_mean_l53 at hf
  refine zx_ev_blk zk_129 4 (pc1 := 59) (L1 := [some (.ref 0), none, some (.int v2), some (.int v3), some (.int v4), some (.int v5), some (.long v6), none, some (.int v8), none, none]) (st1 := [.int (zx_shl 1 v5), .int v8]) (h1 := (zx_SC, m)) rfl ?_
  by_cases c17 : (zx_shl 1 v5) ≤ v8
  · rw [if_pos c17] at hf
    refine zx_ev_ift zk_129 (P := (zx_shl 1 v5) ≤ v8) (t := 104) (f := 62) rfl rfl c17 ?_
    obtain rfl := Option.some.inj hf
    exact zx_ev_sub (L := [some (.ref 0), none, none, none, some (.int v4), some (.int v5), some (.long v6), none, none, none, none]) (⟨rfl, ⟨trivial, ⟨trivial, ⟨rfl, ⟨rfl, ⟨rfl, ⟨trivial, trivial⟩⟩⟩⟩⟩⟩⟩) hK
  · rw [if_neg c17] at hf
    refine zx_ev_ifn zk_129 (P := (zx_shl 1 v5) ≤ v8) (t := 104) (f := 62) rfl rfl c17 ?_
    refine zx_ev_blk zk_129 3 (pc1 := 67) (L1 := [some (.ref 0), none, some (.int v2), some (.int v3), some (.int v4), some (.int v5), some (.long v6), none, some (.int v8), none, none]) (st1 := [.int v8, .int v5, .ref 0]) (h1 := (zx_SC, m)) rfl ?_
    obtain ⟨r19, hv18, hf⟩ := zx_bind_eq hf
    refine zx_ev_call (d := d + 77) zk_129 (v := some (.long r19)) (h1 := (zx_SC, m)) rfl rfl zt_130 rfl zx_SCn rfl rfl (s_C_twelfths _ _ _ (d := d + 75) hv18) ?_
    refine zx_ev_blk zk_129 4 (pc1 := 76) (L1 := [some (.ref 0), none, some (.int v2), some (.int v3), some (.int v4), some (.int v5), some (.long v6), none, some (.int v8), some (.long r19), none]) (st1 := [.int (lg_cmp r19 0)]) (h1 := (zx_SC, m)) rfl ?_
    by_cases c20 : (lg_cmp r19 0) ≤ 0
    · rw [if_pos c20] at hf
      refine zx_ev_ift zk_129 (P := (lg_cmp r19 0) ≤ 0) (t := 98) (f := 79) rfl rfl c20 ?_
      exact zx_ev_sub (L := [some (.ref 0), none, some (.int v2), some (.int v3), some (.int v4), some (.int v5), some (.long v6), none, some (.int v8), none, none]) (⟨rfl, ⟨rfl, ⟨rfl, ⟨rfl, ⟨rfl, ⟨rfl, ⟨rfl, ⟨trivial, trivial⟩⟩⟩⟩⟩⟩⟩⟩) (e_C_mean_b53_98 v2 v3 v4 v5 v6 v8 m hf hK)
    · rw [if_neg c20] at hf
      refine zx_ev_ifn zk_129 (P := (lg_cmp r19 0) ≤ 0) (t := 98) (f := 79) rfl rfl c20 ?_
      refine zx_ev_blk zk_129 7 (pc1 := 90) (L1 := [some (.ref 0), none, some (.int v2), some (.int v3), some (.int v4), some (.int v5), some (.long v6), none, some (.int v8), some (.long r19), none]) (st1 := [.int v2, .int v3, .int v8, .int v5, .ref 0, .long r19, .long v6]) (h1 := (zx_SC, m)) rfl ?_
      obtain ⟨⟨r23, m24⟩, hv22, hf⟩ := zx_bind_eq hf
      dsimp only at hf
      refine zx_ev_call (d := d + 77) zk_129 (v := some (.int r23)) (h1 := (zx_SC, m24)) rfl rfl zt_110 rfl zx_SCn rfl rfl (s_C_goodIfStopped _ _ _ _ _ (d := d + 74) hv22) ?_
      obtain ⟨a25, ha25, hf⟩ := zx_let_eq hf
      refine zx_ev_blk zk_129 4 (pc1 := 98) (L1 := [some (.ref 0), none, some (.int v2), some (.int v3), some (.int v4), some (.int v5), some (.long a25), none, some (.int v8), some (.long r19), none]) (st1 := []) (h1 := (zx_SC, m24)) (by subst ha25; rfl) ?_
      exact zx_ev_sub (L := [some (.ref 0), none, some (.int v2), some (.int v3), some (.int v4), some (.int v5), some (.long a25), none, some (.int v8), none, none]) (⟨rfl, ⟨rfl, ⟨rfl, ⟨rfl, ⟨rfl, ⟨rfl, ⟨rfl, ⟨trivial, trivial⟩⟩⟩⟩⟩⟩⟩⟩) (e_C_mean_b53_98 v2 v3 v4 v5 a25 v8 m24 hf hK)
def l_C_mean_l53 (v2 : Int32) (v3 : Int32) (v4 : Int32) (v5 : Int32) (s0 : Int64 × Int32 × zx_M) : Option (Int64 × zx_M) := zx_lp zx_N (fun s : Int64 × Int32 × zx_M => b_C_mean_l53 v2 v3 v4 v5 s.1 s.2.1 s.2.2) s0
theorem el_C_mean_l53 (v2 : Int32) (v3 : Int32) (v4 : Int32) (v5 : Int32) {d : Nat} {out : Option Value × zx_H} : ∀ (n : Nat) (s : Int64 × Int32 × zx_M) (x : Int64 × zx_M), zx_lp n (fun s : Int64 × Int32 × zx_M => b_C_mean_l53 v2 v3 v4 v5 s.1 s.2.1 s.2.2) s = some x → kx_C_mean_l53 v2 v3 v4 v5 d out x → zx_Ev (d + 78) 129 53 [some (.ref 0), none, some (.int v2), some (.int v3), some (.int v4), some (.int v5), some (.long s.1), none, some (.int s.2.1), none, none] [] (zx_SC, s.2.2) out := by
  intro n
  induction n with
  | zero => intro s x hl _; simp [zx_lp] at hl
  | succ n ih =>
    intro s x hl hx
    unfold zx_lp at hl
    cases hb : b_C_mean_l53 v2 v3 v4 v5 s.1 s.2.1 s.2.2 with
    | none => simp only [hb] at hl; cases hl
    | some z =>
      simp only [hb] at hl
      cases z with
      | inl s1 => exact eb_C_mean_l53 v2 v3 v4 v5 s.1 s.2.1 s.2.2 hb (ih s1 x hl hx)
      | inr t =>
        simp only [Option.some.injEq] at hl
        subst hl
        exact eb_C_mean_l53 v2 v3 v4 v5 s.1 s.2.1 s.2.2 hb hx
def f_C_mean (v1 : Int32) (v2 : Int32) (v3 : Int32) (v4 : Int32) (m : zx_M) : Option (Int64 × zx_M) := (f_C_isSpotAndCount v2 m).bind fun r2 => if r2 = 0 then some ((-9223372036854775808), m) else (f_C_isCount v3 m).bind fun r5 => if r5 = 0 then some ((-9223372036854775808), m) else (f_C_isPart v4 m).bind fun r8 => if r8 = 0 then some ((-9223372036854775808), m) else (f_C_readOrder v1 m).bind fun (r11, m12) => if r11 = 0 then (f_Order_size m12).bind fun r15 => zx_let (zx_min 5 r15) fun a16 => (l_C_mean_l53 v2 v3 v4 a16 (0, 0, m12)).bind fun x26 => match x26 with | (w27, m28) => (f_Order_power 12 a16 m28).bind fun r30 => (f_C_lowest w27 (Int32.toInt64 r30) v4 m28).bind fun r32 => some (r32, m28) else some ((-9223372036854775808), m12)
theorem s_C_mean (v1 : Int32) (v2 : Int32) (v3 : Int32) (v4 : Int32) (m : zx_M) {d : Nat} {y : (Int64 × zx_M)} (hf : f_C_mean v1 v2 v3 v4 m = some y) : zx_Ev (d + 78) 129 0 [some (.ref 0), some (.int v1), some (.int v2), some (.int v3), some (.int v4), none, none, none, none, none, none] [] (zx_SC, m) (some (.long y.1), (zx_SC, y.2)) := by
  unfold f_C_mean at hf
  refine zx_ev_blk zk_129 1 (pc1 := 1) (L1 := [some (.ref 0), some (.int v1), some (.int v2), some (.int v3), some (.int v4), none, none, none, none, none, none]) (st1 := [.int v2]) (h1 := (zx_SC, m)) rfl ?_
  obtain ⟨r2, hv1, hf⟩ := zx_bind_eq hf
  refine zx_ev_call (d := d + 77) zk_129 (v := some (.int r2)) (h1 := (zx_SC, m)) rfl rfl zt_99 rfl zx_SCn rfl rfl (s_C_isSpotAndCount _ _ (d := d + 76) hv1) ?_
  by_cases c3 : r2 = 0
  · rw [if_pos c3] at hf
    refine zx_ev_ift zk_129 (P := r2 = 0) (t := 30) (f := 7) rfl rfl c3 ?_
    refine zx_ev_blk zk_129 1 (pc1 := 33) (L1 := [some (.ref 0), some (.int v1), some (.int v2), some (.int v3), some (.int v4), none, none, none, none, none, none]) (st1 := [.long (-9223372036854775808)]) (h1 := (zx_SC, m)) rfl ?_
    obtain rfl := Option.some.inj hf
    exact zx_ev_ret zk_129 rfl rfl
  · rw [if_neg c3] at hf
    refine zx_ev_ifn zk_129 (P := r2 = 0) (t := 30) (f := 7) rfl rfl c3 ?_
    refine zx_ev_blk zk_129 1 (pc1 := 8) (L1 := [some (.ref 0), some (.int v1), some (.int v2), some (.int v3), some (.int v4), none, none, none, none, none, none]) (st1 := [.int v3]) (h1 := (zx_SC, m)) rfl ?_
    obtain ⟨r5, hv4, hf⟩ := zx_bind_eq hf
    refine zx_ev_call (d := d + 77) zk_129 (v := some (.int r5)) (h1 := (zx_SC, m)) rfl rfl zt_98 rfl zx_SCn rfl rfl (s_C_isCount _ _ (d := d + 77) hv4) ?_
    by_cases c6 : r5 = 0
    · rw [if_pos c6] at hf
      refine zx_ev_ift zk_129 (P := r5 = 0) (t := 30) (f := 14) rfl rfl c6 ?_
      refine zx_ev_blk zk_129 1 (pc1 := 33) (L1 := [some (.ref 0), some (.int v1), some (.int v2), some (.int v3), some (.int v4), none, none, none, none, none, none]) (st1 := [.long (-9223372036854775808)]) (h1 := (zx_SC, m)) rfl ?_
      obtain rfl := Option.some.inj hf
      exact zx_ev_ret zk_129 rfl rfl
    · rw [if_neg c6] at hf
      refine zx_ev_ifn zk_129 (P := r5 = 0) (t := 30) (f := 14) rfl rfl c6 ?_
      refine zx_ev_blk zk_129 1 (pc1 := 16) (L1 := [some (.ref 0), some (.int v1), some (.int v2), some (.int v3), some (.int v4), none, none, none, none, none, none]) (st1 := [.int v4]) (h1 := (zx_SC, m)) rfl ?_
      obtain ⟨r8, hv7, hf⟩ := zx_bind_eq hf
      refine zx_ev_call (d := d + 77) zk_129 (v := some (.int r8)) (h1 := (zx_SC, m)) rfl rfl zt_102 rfl zx_SCn rfl rfl (s_C_isPart _ _ (d := d + 77) hv7) ?_
      by_cases c9 : r8 = 0
      · rw [if_pos c9] at hf
        refine zx_ev_ift zk_129 (P := r8 = 0) (t := 30) (f := 22) rfl rfl c9 ?_
        refine zx_ev_blk zk_129 1 (pc1 := 33) (L1 := [some (.ref 0), some (.int v1), some (.int v2), some (.int v3), some (.int v4), none, none, none, none, none, none]) (st1 := [.long (-9223372036854775808)]) (h1 := (zx_SC, m)) rfl ?_
        obtain rfl := Option.some.inj hf
        exact zx_ev_ret zk_129 rfl rfl
      · rw [if_neg c9] at hf
        refine zx_ev_ifn zk_129 (P := r8 = 0) (t := 30) (f := 22) rfl rfl c9 ?_
        refine zx_ev_blk zk_129 2 (pc1 := 24) (L1 := [some (.ref 0), some (.int v1), some (.int v2), some (.int v3), some (.int v4), none, none, none, none, none, none]) (st1 := [.int v1, .ref 0]) (h1 := (zx_SC, m)) rfl ?_
        obtain ⟨⟨r11, m12⟩, hv10, hf⟩ := zx_bind_eq hf
        dsimp only at hf
        refine zx_ev_call (d := d + 77) zk_129 (v := some (.int r11)) (h1 := (zx_SC, m12)) rfl rfl zt_103 rfl zx_SCn rfl rfl (s_C_readOrder _ _ (d := d + 0) hv10) ?_
        by_cases c13 : r11 = 0
        · rw [if_pos c13] at hf
          refine zx_ev_ift zk_129 (P := r11 = 0) (t := 34) (f := 30) rfl rfl c13 ?_
          refine zx_ev_blk zk_129 3 (pc1 := 39) (L1 := [some (.ref 0), some (.int v1), some (.int v2), some (.int v3), some (.int v4), none, none, none, none, none, none]) (st1 := [.ref 19, .int 5]) (h1 := (zx_SC, m12)) rfl ?_
          obtain ⟨r15, hv14, hf⟩ := zx_bind_eq hf
          refine zx_ev_call (d := d + 77) zk_129 (v := some (.int r15)) (h1 := (zx_SC, m12)) rfl rfl zt_51 rfl zx_SCn rfl rfl (s_Order_size _ (d := d + 77) hv14) ?_
          obtain ⟨a16, ha16, hf⟩ := zx_let_eq hf
          refine zx_ev_blk zk_129 6 (pc1 := 53) (L1 := [some (.ref 0), some (.int v1), some (.int v2), some (.int v3), some (.int v4), some (.int a16), some (.long 0), none, some (.int 0), none, none]) (st1 := []) (h1 := (zx_SC, m12)) (by subst ha16; rfl) ?_
          obtain ⟨x26, hx26, hf⟩ := zx_bind_eq hf
          refine zx_ev_sub (L := [some (.ref 0), none, some (.int v2), some (.int v3), some (.int v4), some (.int a16), some (.long 0), none, some (.int 0), none, none]) (⟨rfl, ⟨trivial, ⟨rfl, ⟨rfl, ⟨rfl, ⟨rfl, ⟨rfl, ⟨rfl, trivial⟩⟩⟩⟩⟩⟩⟩⟩) (el_C_mean_l53 v2 v3 v4 a16 zx_N (0, 0, m12) x26 hx26 ?_)
          obtain ⟨w27, m28⟩ := x26
          dsimp only at hf
          show zx_Ev (d + 78) 129 104 [some (.ref 0), none, none, none, some (.int v4), some (.int a16), some (.long w27), none, none, none, none] [] (zx_SC, m28) _
          refine zx_ev_blk zk_129 3 (pc1 := 110) (L1 := [some (.ref 0), none, none, none, some (.int v4), some (.int a16), some (.long w27), none, none, none, none]) (st1 := [.int a16, .int 12, .long w27]) (h1 := (zx_SC, m28)) rfl ?_
          obtain ⟨r30, hv29, hf⟩ := zx_bind_eq hf
          refine zx_ev_call (d := d + 77) zk_129 (v := some (.int r30)) (h1 := (zx_SC, m28)) rfl rfl zt_57 rfl zx_SCn rfl rfl (s_Order_power _ _ _ (d := d + 77) hv29) ?_
          refine zx_ev_blk zk_129 2 (pc1 := 116) (L1 := [some (.ref 0), none, none, none, some (.int v4), some (.int a16), some (.long w27), none, none, none, none]) (st1 := [.int v4, .long (Int32.toInt64 r30), .long w27]) (h1 := (zx_SC, m28)) rfl ?_
          obtain ⟨r32, hv31, hf⟩ := zx_bind_eq hf
          refine zx_ev_call (d := d + 77) zk_129 (v := some (.long r32)) (h1 := (zx_SC, m28)) rfl rfl zt_127 rfl zx_SCn rfl rfl (s_C_lowest _ _ _ _ (d := d + 77) hv31) ?_
          obtain rfl := Option.some.inj hf
          exact zx_ev_ret zk_129 rfl rfl
        · rw [if_neg c13] at hf
          refine zx_ev_ifn zk_129 (P := r11 = 0) (t := 34) (f := 30) rfl rfl c13 ?_
          refine zx_ev_blk zk_129 1 (pc1 := 33) (L1 := [some (.ref 0), some (.int v1), some (.int v2), some (.int v3), some (.int v4), none, none, none, none, none, none]) (st1 := [.long (-9223372036854775808)]) (h1 := (zx_SC, m12)) rfl ?_
          obtain rfl := Option.some.inj hf
          exact zx_ev_ret zk_129 rfl rfl
def f_C_mend (v1 : Int32) (v2 : Int32) (v3 : Int32) (m : zx_M) : Option (Int32 × zx_M) := (f_Numbers_isThere v1 v2 m).bind fun r2 => if r2 = 0 then some ((-3000), m) else (f_Numbers_fits v2 v3 m).bind fun r5 => if ¬ r5 = 0 then (f_Numbers_told v1 v2 m).bind fun r8 => if r8 = v3 then some (r8, m) else (f_Changes_note v1 v2 v3 m).bind fun m11 => (f_Numbers_tell v1 v2 v3 m11).bind fun m13 => some (r8, m13) else some ((-3000), m)
theorem s_C_mend (v1 : Int32) (v2 : Int32) (v3 : Int32) (m : zx_M) {d : Nat} {y : (Int32 × zx_M)} (hf : f_C_mend v1 v2 v3 m = some y) : zx_Ev (d + 3) 90 0 [some (.ref 0), some (.int v1), some (.int v2), some (.int v3), none] [] (zx_SC, m) (some (.int y.1), (zx_SC, y.2)) := by
  unfold f_C_mend at hf
  refine zx_ev_blk zk_90 4 (pc1 := 6) (L1 := [some (.ref 0), some (.int v1), some (.int v2), some (.int v3), none]) (st1 := [.int v2, .int v1, .ref 1]) (h1 := (zx_SC, m)) rfl ?_
  obtain ⟨r2, hv1, hf⟩ := zx_bind_eq hf
  refine zx_ev_call (d := d + 2) zk_90 (v := some (.int r2)) (h1 := (zx_SC, m)) rfl rfl zt_44 rfl zx_SCn rfl rfl (s_Numbers_isThere _ _ _ (d := d + 1) hv1) ?_
  by_cases c3 : r2 = 0
  · rw [if_pos c3] at hf
    refine zx_ev_ift zk_90 (P := r2 = 0) (t := 24) (f := 12) rfl rfl c3 ?_
    refine zx_ev_blk zk_90 1 (pc1 := 27) (L1 := [some (.ref 0), some (.int v1), some (.int v2), some (.int v3), none]) (st1 := [.int (-3000)]) (h1 := (zx_SC, m)) rfl ?_
    obtain rfl := Option.some.inj hf
    exact zx_ev_ret zk_90 rfl rfl
  · rw [if_neg c3] at hf
    refine zx_ev_ifn zk_90 (P := r2 = 0) (t := 24) (f := 12) rfl rfl c3 ?_
    refine zx_ev_blk zk_90 4 (pc1 := 18) (L1 := [some (.ref 0), some (.int v1), some (.int v2), some (.int v3), none]) (st1 := [.int v3, .int v2, .ref 1]) (h1 := (zx_SC, m)) rfl ?_
    obtain ⟨r5, hv4, hf⟩ := zx_bind_eq hf
    refine zx_ev_call (d := d + 2) zk_90 (v := some (.int r5)) (h1 := (zx_SC, m)) rfl rfl zt_45 rfl zx_SCn rfl rfl (s_Numbers_fits _ _ _ (d := d + 1) hv4) ?_
    by_cases c6 : ¬ r5 = 0
    · rw [if_pos c6] at hf
      refine zx_ev_ift zk_90 (P := ¬ r5 = 0) (t := 28) (f := 24) rfl rfl c6 ?_
      refine zx_ev_blk zk_90 4 (pc1 := 34) (L1 := [some (.ref 0), some (.int v1), some (.int v2), some (.int v3), none]) (st1 := [.int v2, .int v1, .ref 1]) (h1 := (zx_SC, m)) rfl ?_
      obtain ⟨r8, hv7, hf⟩ := zx_bind_eq hf
      refine zx_ev_call (d := d + 2) zk_90 (v := some (.int r8)) (h1 := (zx_SC, m)) rfl rfl zt_46 rfl zx_SCn rfl rfl (s_Numbers_told _ _ _ (d := d + 2) hv7) ?_
      refine zx_ev_blk zk_90 3 (pc1 := 42) (L1 := [some (.ref 0), some (.int v1), some (.int v2), some (.int v3), some (.int r8)]) (st1 := [.int v3, .int r8]) (h1 := (zx_SC, m)) rfl ?_
      by_cases c9 : r8 = v3
      · rw [if_pos c9] at hf
        refine zx_ev_ift zk_90 (P := r8 = v3) (t := 65) (f := 45) rfl rfl c9 ?_
        refine zx_ev_blk zk_90 1 (pc1 := 67) (L1 := [some (.ref 0), some (.int v1), some (.int v2), some (.int v3), some (.int r8)]) (st1 := [.int r8]) (h1 := (zx_SC, m)) rfl ?_
        obtain rfl := Option.some.inj hf
        exact zx_ev_ret zk_90 rfl rfl
      · rw [if_neg c9] at hf
        refine zx_ev_ifn zk_90 (P := r8 = v3) (t := 65) (f := 45) rfl rfl c9 ?_
        refine zx_ev_blk zk_90 5 (pc1 := 52) (L1 := [some (.ref 0), some (.int v1), some (.int v2), some (.int v3), some (.int r8)]) (st1 := [.int v3, .int v2, .int v1, .ref 4]) (h1 := (zx_SC, m)) rfl ?_
        obtain ⟨m11, hv10, hf⟩ := zx_bind_eq hf
        refine zx_ev_call (d := d + 2) zk_90 (v := none) (h1 := (zx_SC, m11)) rfl rfl zt_19 rfl zx_SCn rfl rfl (s_Changes_note _ _ _ _ (d := d + 0) hv10) ?_
        refine zx_ev_blk zk_90 5 (pc1 := 62) (L1 := [some (.ref 0), some (.int v1), some (.int v2), some (.int v3), some (.int r8)]) (st1 := [.int v3, .int v2, .int v1, .ref 1]) (h1 := (zx_SC, m11)) rfl ?_
        obtain ⟨m13, hv12, hf⟩ := zx_bind_eq hf
        refine zx_ev_call (d := d + 2) zk_90 (v := none) (h1 := (zx_SC, m13)) rfl rfl zt_47 rfl zx_SCn rfl rfl (s_Numbers_tell _ _ _ _ (d := d + 2) hv12) ?_
        refine zx_ev_blk zk_90 1 (pc1 := 67) (L1 := [some (.ref 0), some (.int v1), some (.int v2), some (.int v3), some (.int r8)]) (st1 := [.int r8]) (h1 := (zx_SC, m13)) rfl ?_
        obtain rfl := Option.some.inj hf
        exact zx_ev_ret zk_90 rfl rfl
    · rw [if_neg c6] at hf
      refine zx_ev_ifn zk_90 (P := ¬ r5 = 0) (t := 28) (f := 24) rfl rfl c6 ?_
      refine zx_ev_blk zk_90 1 (pc1 := 27) (L1 := [some (.ref 0), some (.int v1), some (.int v2), some (.int v3), none]) (st1 := [.int (-3000)]) (h1 := (zx_SC, m)) rfl ?_
      obtain rfl := Option.some.inj hf
      exact zx_ev_ret zk_90 rfl rfl
def f_C_of (v1 : Int32) (v2 : Int32) (m : zx_M) : Option Int32 := (f_Numbers_isThere v1 v2 m).bind fun r2 => if r2 = 0 then some (-3000) else (f_Numbers_told v1 v2 m).bind fun r5 => some r5
theorem s_C_of (v1 : Int32) (v2 : Int32) (m : zx_M) {d : Nat} {y : Int32} (hf : f_C_of v1 v2 m = some y) : zx_Ev (d + 2) 91 0 [some (.ref 0), some (.int v1), some (.int v2)] [] (zx_SC, m) (some (.int y), (zx_SC, m)) := by
  unfold f_C_of at hf
  refine zx_ev_blk zk_91 4 (pc1 := 6) (L1 := [some (.ref 0), some (.int v1), some (.int v2)]) (st1 := [.int v2, .int v1, .ref 1]) (h1 := (zx_SC, m)) rfl ?_
  obtain ⟨r2, hv1, hf⟩ := zx_bind_eq hf
  refine zx_ev_call (d := d + 1) zk_91 (v := some (.int r2)) (h1 := (zx_SC, m)) rfl rfl zt_44 rfl zx_SCn rfl rfl (s_Numbers_isThere _ _ _ (d := d + 0) hv1) ?_
  by_cases c3 : r2 = 0
  · rw [if_pos c3] at hf
    refine zx_ev_ift zk_91 (P := r2 = 0) (t := 24) (f := 12) rfl rfl c3 ?_
    refine zx_ev_blk zk_91 1 (pc1 := 27) (L1 := [some (.ref 0), some (.int v1), some (.int v2)]) (st1 := [.int (-3000)]) (h1 := (zx_SC, m)) rfl ?_
    obtain rfl := Option.some.inj hf
    exact zx_ev_ret zk_91 rfl rfl
  · rw [if_neg c3] at hf
    refine zx_ev_ifn zk_91 (P := r2 = 0) (t := 24) (f := 12) rfl rfl c3 ?_
    refine zx_ev_blk zk_91 4 (pc1 := 18) (L1 := [some (.ref 0), some (.int v1), some (.int v2)]) (st1 := [.int v2, .int v1, .ref 1]) (h1 := (zx_SC, m)) rfl ?_
    obtain ⟨r5, hv4, hf⟩ := zx_bind_eq hf
    refine zx_ev_call (d := d + 1) zk_91 (v := some (.int r5)) (h1 := (zx_SC, m)) rfl rfl zt_46 rfl zx_SCn rfl rfl (s_Numbers_told _ _ _ (d := d + 1) hv4) ?_
    refine zx_ev_blk zk_91 1 (pc1 := 27) (L1 := [some (.ref 0), some (.int v1), some (.int v2)]) (st1 := [.int r5]) (h1 := (zx_SC, m)) rfl ?_
    obtain rfl := Option.some.inj hf
    exact zx_ev_ret zk_91 rfl rfl
def kx_C_orderFor_l58 (v1 : Int32) (v2 : Int32) (v3 : Int32) (v6 : Int32) (d : Nat) (out : Option Value × zx_H) : Int32 × Int32 × zx_M → Prop
  | (x4, x5, m) => zx_Ev (d + 77) 117 125 [some (.ref 0), none, some (.int v2), some (.int v3), some (.int x4), some (.int x5), none, none, none] [] (zx_SC, m) out
def kl_C_orderFor_l58 (v1 : Int32) (v2 : Int32) (v3 : Int32) (v6 : Int32) (d : Nat) (out : Option Value × zx_H) : (Int32 × Int32 × Int32 × zx_M) ⊕ (Int32 × Int32 × zx_M) → Prop
  | .inl (v4, v5, v7, m) => zx_Ev (d + 77) 117 58 [some (.ref 0), some (.int v1), some (.int v2), some (.int v3), some (.int v4), some (.int v5), some (.int v6), some (.int v7), none] [] (zx_SC, m) out
  | .inr x => kx_C_orderFor_l58 v1 v2 v3 v6 d out x
def n_C_orderFor_b58_119 (v1 : Int32) (v2 : Int32) (v3 : Int32) (v4 : Int32) (v5 : Int32) (v6 : Int32) (v7 : Int32) (m : zx_M) : Option ((Int32 × Int32 × Int32 × zx_M) ⊕ (Int32 × Int32 × zx_M)) := zx_let (v7 + 1) fun a18 => some (.inl (v4, v5, a18, m))
theorem e_C_orderFor_b58_119 (v1 : Int32) (v2 : Int32) (v3 : Int32) (v4 : Int32) (v5 : Int32) (v6 : Int32) (v7 : Int32) (m : zx_M) {d : Nat} {out : Option Value × zx_H} {y : (Int32 × Int32 × Int32 × zx_M) ⊕ (Int32 × Int32 × zx_M)} (hf : n_C_orderFor_b58_119 v1 v2 v3 v4 v5 v6 v7 m = some y) (hK : kl_C_orderFor_l58 v1 v2 v3 v6 d out y) : zx_Ev (d + 77) 117 119 [some (.ref 0), some (.int v1), some (.int v2), some (.int v3), some (.int v4), some (.int v5), some (.int v6), some (.int v7), none] [] (zx_SC, m) out := by
  unfold n_C_orderFor_b58_119 at hf
  obtain ⟨a18, ha18, hf⟩ := zx_let_eq hf
  refine zx_ev_blk zk_117 2 (pc1 := 58) (L1 := [some (.ref 0), some (.int v1), some (.int v2), some (.int v3), some (.int v4), some (.int v5), some (.int v6), some (.int a18), none]) (st1 := []) (h1 := (zx_SC, m)) (by subst ha18; rfl) ?_
  obtain rfl := Option.some.inj hf
  exact zx_ev_sub (L := [some (.ref 0), some (.int v1), some (.int v2), some (.int v3), some (.int v4), some (.int v5), some (.int v6), some (.int a18), none]) (⟨rfl, ⟨rfl, ⟨rfl, ⟨rfl, ⟨rfl, ⟨rfl, ⟨rfl, ⟨rfl, trivial⟩⟩⟩⟩⟩⟩⟩⟩) hK
def b_C_orderFor_l58 (v1 : Int32) (v2 : Int32) (v3 : Int32) (v4 : Int32) (v5 : Int32) (v6 : Int32) (v7 : Int32) (m : zx_M) : Option ((Int32 × Int32 × Int32 × zx_M) ⊕ (Int32 × Int32 × zx_M)) := if v6 ≤ v7 then some (.inr (v4, v5, m)) else (f_Order_spell v7 v3 v3 m).bind fun (r15, m16) => if r15 = 0 then n_C_orderFor_b58_119 v1 v2 v3 v4 v5 v6 v7 m16 else (f_C_countOf v1 m16).bind fun r20 => (f_C_way m16).bind fun r22 => (f_C_lineUp r20 r22 m16).bind fun m24 => (f_C_spotOf v1 m24).bind fun r26 => (f_Jumps_good_22 r26 m24).bind fun r28 => if r28 ≤ v4 then n_C_orderFor_b58_119 v1 v2 v3 v4 v5 v6 v7 m24 else n_C_orderFor_b58_119 v1 v2 v3 r28 v7 v6 v7 m24
theorem eb_C_orderFor_l58 (v1 : Int32) (v2 : Int32) (v3 : Int32) (v4 : Int32) (v5 : Int32) (v6 : Int32) (v7 : Int32) (m : zx_M) {d : Nat} {out : Option Value × zx_H} {y : (Int32 × Int32 × Int32 × zx_M) ⊕ (Int32 × Int32 × zx_M)} (hf : b_C_orderFor_l58 v1 v2 v3 v4 v5 v6 v7 m = some y) (hK : kl_C_orderFor_l58 v1 v2 v3 v6 d out y) : zx_Ev (d + 77) 117 58 [some (.ref 0), some (.int v1), some (.int v2), some (.int v3), some (.int v4), some (.int v5), some (.int v6), some (.int v7), none] [] (zx_SC, m) out := by
  unfold b_C_orderFor_l58 at hf
  refine zx_ev_blk zk_117 2 (pc1 := 62) (L1 := [some (.ref 0), some (.int v1), some (.int v2), some (.int v3), some (.int v4), some (.int v5), some (.int v6), some (.int v7), none]) (st1 := [.int v6, .int v7]) (h1 := (zx_SC, m)) rfl ?_
  by_cases c13 : v6 ≤ v7
  · rw [if_pos c13] at hf
    refine zx_ev_ift zk_117 (P := v6 ≤ v7) (t := 125) (f := 65) rfl rfl c13 ?_
    obtain rfl := Option.some.inj hf
    exact zx_ev_sub (L := [some (.ref 0), none, some (.int v2), some (.int v3), some (.int v4), some (.int v5), none, none, none]) (⟨rfl, ⟨trivial, ⟨rfl, ⟨rfl, ⟨rfl, ⟨rfl, ⟨trivial, ⟨trivial, trivial⟩⟩⟩⟩⟩⟩⟩⟩) hK
  · rw [if_neg c13] at hf
    refine zx_ev_ifn zk_117 (P := v6 ≤ v7) (t := 125) (f := 65) rfl rfl c13 ?_
    refine zx_ev_blk zk_117 5 (pc1 := 73) (L1 := [some (.ref 0), some (.int v1), some (.int v2), some (.int v3), some (.int v4), some (.int v5), some (.int v6), some (.int v7), none]) (st1 := [.int v3, .int v3, .int v7, .ref 19]) (h1 := (zx_SC, m)) rfl ?_
    obtain ⟨⟨r15, m16⟩, hv14, hf⟩ := zx_bind_eq hf
    dsimp only at hf
    refine zx_ev_call (d := d + 76) zk_117 (v := some (.int r15)) (h1 := (zx_SC, m16)) rfl rfl zt_56 rfl zx_SCn rfl rfl (s_Order_spell _ _ _ _ (d := d + 74) hv14) ?_
    by_cases c17 : r15 = 0
    · rw [if_pos c17] at hf
      refine zx_ev_ift zk_117 (P := r15 = 0) (t := 119) (f := 79) rfl rfl c17 ?_
      exact zx_ev_sub (L := [some (.ref 0), some (.int v1), some (.int v2), some (.int v3), some (.int v4), some (.int v5), some (.int v6), some (.int v7), none]) (⟨rfl, ⟨rfl, ⟨rfl, ⟨rfl, ⟨rfl, ⟨rfl, ⟨rfl, ⟨rfl, trivial⟩⟩⟩⟩⟩⟩⟩⟩) (e_C_orderFor_b58_119 v1 v2 v3 v4 v5 v6 v7 m16 hf hK)
    · rw [if_neg c17] at hf
      refine zx_ev_ifn zk_117 (P := r15 = 0) (t := 119) (f := 79) rfl rfl c17 ?_
      refine zx_ev_blk zk_117 2 (pc1 := 81) (L1 := [some (.ref 0), some (.int v1), some (.int v2), some (.int v3), some (.int v4), some (.int v5), some (.int v6), some (.int v7), none]) (st1 := [.int v1, .ref 0]) (h1 := (zx_SC, m16)) rfl ?_
      obtain ⟨r20, hv19, hf⟩ := zx_bind_eq hf
      refine zx_ev_call (d := d + 76) zk_117 (v := some (.int r20)) (h1 := (zx_SC, m16)) rfl rfl zt_101 rfl zx_SCn rfl rfl (s_C_countOf _ _ (d := d + 76) hv19) ?_
      refine zx_ev_blk zk_117 1 (pc1 := 85) (L1 := [some (.ref 0), some (.int v1), some (.int v2), some (.int v3), some (.int v4), some (.int v5), some (.int v6), some (.int v7), none]) (st1 := [.ref 0, .int r20, .ref 0]) (h1 := (zx_SC, m16)) rfl ?_
      obtain ⟨r22, hv21, hf⟩ := zx_bind_eq hf
      refine zx_ev_call (d := d + 76) zk_117 (v := some (.int r22)) (h1 := (zx_SC, m16)) rfl rfl zt_106 rfl zx_SCn rfl rfl (s_C_way _ (d := d + 75) hv21) ?_
      obtain ⟨m24, hv23, hf⟩ := zx_bind_eq hf
      refine zx_ev_call (d := d + 76) zk_117 (v := none) (h1 := (zx_SC, m24)) rfl rfl zt_109 rfl zx_SCn rfl rfl (s_C_lineUp _ _ _ (d := d + 73) hv23) ?_
      refine zx_ev_blk zk_117 3 (pc1 := 96) (L1 := [some (.ref 0), some (.int v1), some (.int v2), some (.int v3), some (.int v4), some (.int v5), some (.int v6), some (.int v7), none]) (st1 := [.int v1, .ref 22]) (h1 := (zx_SC, m24)) rfl ?_
      obtain ⟨r26, hv25, hf⟩ := zx_bind_eq hf
      refine zx_ev_call (d := d + 76) zk_117 (v := some (.int r26)) (h1 := (zx_SC, m24)) rfl rfl zt_100 rfl zx_SCn rfl rfl (s_C_spotOf _ _ (d := d + 76) hv25) ?_
      obtain ⟨r28, hv27, hf⟩ := zx_bind_eq hf
      refine zx_ev_call (d := d + 76) zk_117 (v := some (.int r28)) (h1 := (zx_SC, m24)) rfl rfl zt_39 rfl zx_SCn rfl rfl (s_Jumps_good_22 _ _ (d := d + 74) hv27) ?_
      refine zx_ev_blk zk_117 3 (pc1 := 108) (L1 := [some (.ref 0), some (.int v1), some (.int v2), some (.int v3), some (.int v4), some (.int v5), some (.int v6), some (.int v7), some (.int r28)]) (st1 := [.int v4, .int r28]) (h1 := (zx_SC, m24)) rfl ?_
      by_cases c29 : r28 ≤ v4
      · rw [if_pos c29] at hf
        refine zx_ev_ift zk_117 (P := r28 ≤ v4) (t := 119) (f := 111) rfl rfl c29 ?_
        exact zx_ev_sub (L := [some (.ref 0), some (.int v1), some (.int v2), some (.int v3), some (.int v4), some (.int v5), some (.int v6), some (.int v7), none]) (⟨rfl, ⟨rfl, ⟨rfl, ⟨rfl, ⟨rfl, ⟨rfl, ⟨rfl, ⟨rfl, ⟨trivial, trivial⟩⟩⟩⟩⟩⟩⟩⟩⟩) (e_C_orderFor_b58_119 v1 v2 v3 v4 v5 v6 v7 m24 hf hK)
      · rw [if_neg c29] at hf
        refine zx_ev_ifn zk_117 (P := r28 ≤ v4) (t := 119) (f := 111) rfl rfl c29 ?_
        refine zx_ev_blk zk_117 4 (pc1 := 119) (L1 := [some (.ref 0), some (.int v1), some (.int v2), some (.int v3), some (.int r28), some (.int v7), some (.int v6), some (.int v7), some (.int r28)]) (st1 := []) (h1 := (zx_SC, m24)) rfl ?_
        exact zx_ev_sub (L := [some (.ref 0), some (.int v1), some (.int v2), some (.int v3), some (.int r28), some (.int v7), some (.int v6), some (.int v7), none]) (⟨rfl, ⟨rfl, ⟨rfl, ⟨rfl, ⟨rfl, ⟨rfl, ⟨rfl, ⟨rfl, ⟨trivial, trivial⟩⟩⟩⟩⟩⟩⟩⟩⟩) (e_C_orderFor_b58_119 v1 v2 v3 r28 v7 v6 v7 m24 hf hK)
def l_C_orderFor_l58 (v1 : Int32) (v2 : Int32) (v3 : Int32) (v6 : Int32) (s0 : Int32 × Int32 × Int32 × zx_M) : Option (Int32 × Int32 × zx_M) := zx_lp zx_N (fun s : Int32 × Int32 × Int32 × zx_M => b_C_orderFor_l58 v1 v2 v3 s.1 s.2.1 v6 s.2.2.1 s.2.2.2) s0
theorem el_C_orderFor_l58 (v1 : Int32) (v2 : Int32) (v3 : Int32) (v6 : Int32) {d : Nat} {out : Option Value × zx_H} : ∀ (n : Nat) (s : Int32 × Int32 × Int32 × zx_M) (x : Int32 × Int32 × zx_M), zx_lp n (fun s : Int32 × Int32 × Int32 × zx_M => b_C_orderFor_l58 v1 v2 v3 s.1 s.2.1 v6 s.2.2.1 s.2.2.2) s = some x → kx_C_orderFor_l58 v1 v2 v3 v6 d out x → zx_Ev (d + 77) 117 58 [some (.ref 0), some (.int v1), some (.int v2), some (.int v3), some (.int s.1), some (.int s.2.1), some (.int v6), some (.int s.2.2.1), none] [] (zx_SC, s.2.2.2) out := by
  intro n
  induction n with
  | zero => intro s x hl _; simp [zx_lp] at hl
  | succ n ih =>
    intro s x hl hx
    unfold zx_lp at hl
    cases hb : b_C_orderFor_l58 v1 v2 v3 s.1 s.2.1 v6 s.2.2.1 s.2.2.2 with
    | none => simp only [hb] at hl; cases hl
    | some z =>
      simp only [hb] at hl
      cases z with
      | inl s1 => exact eb_C_orderFor_l58 v1 v2 v3 s.1 s.2.1 v6 s.2.2.1 s.2.2.2 hb (ih s1 x hl hx)
      | inr t =>
        simp only [Option.some.injEq] at hl
        subst hl
        exact eb_C_orderFor_l58 v1 v2 v3 s.1 s.2.1 v6 s.2.2.1 s.2.2.2 hb hx
def f_C_orderFor (v1 : Int32) (v2 : Int32) (m : zx_M) : Option (Int32 × zx_M) := (f_C_isSpotAndCount v1 m).bind fun r2 => if r2 = 0 then some ((-1), m) else if (-1) ≤ v2 then (f_Numbers_jumpersThere m).bind fun r6 => if r6 ≤ 5 then if v2 < r6 then (f_C_weighAll m).bind fun m10 => (f_Order_power r6 r6 m10).bind fun r12 => (l_C_orderFor_l58 v1 v2 r6 r12 ((-1), 0, 0, m10)).bind fun x30 => match x30 with | (w31, w32, m33) => if ¬ v2 = (-1) then (f_Order_spell w32 r6 r6 m33).bind fun (r36, m37) => (f_Order_at v2 m37).bind fun r39 => some (r39, m37) else some (w31, m33) else some ((-2), m) else some ((-5), m) else some ((-1), m)
theorem s_C_orderFor (v1 : Int32) (v2 : Int32) (m : zx_M) {d : Nat} {y : (Int32 × zx_M)} (hf : f_C_orderFor v1 v2 m = some y) : zx_Ev (d + 77) 117 0 [some (.ref 0), some (.int v1), some (.int v2), none, none, none, none, none, none] [] (zx_SC, m) (some (.int y.1), (zx_SC, y.2)) := by
  unfold f_C_orderFor at hf
  refine zx_ev_blk zk_117 1 (pc1 := 1) (L1 := [some (.ref 0), some (.int v1), some (.int v2), none, none, none, none, none, none]) (st1 := [.int v1]) (h1 := (zx_SC, m)) rfl ?_
  obtain ⟨r2, hv1, hf⟩ := zx_bind_eq hf
  refine zx_ev_call (d := d + 76) zk_117 (v := some (.int r2)) (h1 := (zx_SC, m)) rfl rfl zt_99 rfl zx_SCn rfl rfl (s_C_isSpotAndCount _ _ (d := d + 75) hv1) ?_
  by_cases c3 : r2 = 0
  · rw [if_pos c3] at hf
    refine zx_ev_ift zk_117 (P := r2 = 0) (t := 12) (f := 7) rfl rfl c3 ?_
    refine zx_ev_blk zk_117 1 (pc1 := 13) (L1 := [some (.ref 0), some (.int v1), some (.int v2), none, none, none, none, none, none]) (st1 := [.int (-1)]) (h1 := (zx_SC, m)) rfl ?_
    obtain rfl := Option.some.inj hf
    exact zx_ev_ret zk_117 rfl rfl
  · rw [if_neg c3] at hf
    refine zx_ev_ifn zk_117 (P := r2 = 0) (t := 12) (f := 7) rfl rfl c3 ?_
    refine zx_ev_blk zk_117 2 (pc1 := 9) (L1 := [some (.ref 0), some (.int v1), some (.int v2), none, none, none, none, none, none]) (st1 := [.int (-1), .int v2]) (h1 := (zx_SC, m)) rfl ?_
    by_cases c4 : (-1) ≤ v2
    · rw [if_pos c4] at hf
      refine zx_ev_ift zk_117 (P := (-1) ≤ v2) (t := 14) (f := 12) rfl rfl c4 ?_
      refine zx_ev_blk zk_117 2 (pc1 := 18) (L1 := [some (.ref 0), some (.int v1), some (.int v2), none, none, none, none, none, none]) (st1 := [.ref 1]) (h1 := (zx_SC, m)) rfl ?_
      obtain ⟨r6, hv5, hf⟩ := zx_bind_eq hf
      refine zx_ev_call (d := d + 76) zk_117 (v := some (.int r6)) (h1 := (zx_SC, m)) rfl rfl zt_42 rfl zx_SCn rfl rfl (s_Numbers_jumpersThere _ (d := d + 76) hv5) ?_
      refine zx_ev_blk zk_117 3 (pc1 := 24) (L1 := [some (.ref 0), some (.int v1), some (.int v2), some (.int r6), none, none, none, none, none]) (st1 := [.int 5, .int r6]) (h1 := (zx_SC, m)) rfl ?_
      by_cases c7 : r6 ≤ 5
      · rw [if_pos c7] at hf
        refine zx_ev_ift zk_117 (P := r6 ≤ 5) (t := 30) (f := 27) rfl rfl c7 ?_
        refine zx_ev_blk zk_117 2 (pc1 := 32) (L1 := [some (.ref 0), some (.int v1), some (.int v2), some (.int r6), none, none, none, none, none]) (st1 := [.int r6, .int v2]) (h1 := (zx_SC, m)) rfl ?_
        by_cases c8 : v2 < r6
        · rw [if_pos c8] at hf
          refine zx_ev_ift zk_117 (P := v2 < r6) (t := 38) (f := 35) rfl rfl c8 ?_
          refine zx_ev_blk zk_117 1 (pc1 := 39) (L1 := [some (.ref 0), some (.int v1), some (.int v2), some (.int r6), none, none, none, none, none]) (st1 := [.ref 0]) (h1 := (zx_SC, m)) rfl ?_
          obtain ⟨m10, hv9, hf⟩ := zx_bind_eq hf
          refine zx_ev_call (d := d + 76) zk_117 (v := none) (h1 := (zx_SC, m10)) rfl rfl zt_104 rfl zx_SCn rfl rfl (s_C_weighAll _ (d := d + 0) hv9) ?_
          refine zx_ev_blk zk_117 6 (pc1 := 50) (L1 := [some (.ref 0), some (.int v1), some (.int v2), some (.int r6), some (.int (-1)), some (.int 0), none, none, none]) (st1 := [.int r6, .int r6]) (h1 := (zx_SC, m10)) rfl ?_
          obtain ⟨r12, hv11, hf⟩ := zx_bind_eq hf
          refine zx_ev_call (d := d + 76) zk_117 (v := some (.int r12)) (h1 := (zx_SC, m10)) rfl rfl zt_57 rfl zx_SCn rfl rfl (s_Order_power _ _ _ (d := d + 76) hv11) ?_
          refine zx_ev_blk zk_117 3 (pc1 := 58) (L1 := [some (.ref 0), some (.int v1), some (.int v2), some (.int r6), some (.int (-1)), some (.int 0), some (.int r12), some (.int 0), none]) (st1 := []) (h1 := (zx_SC, m10)) rfl ?_
          obtain ⟨x30, hx30, hf⟩ := zx_bind_eq hf
          refine zx_ev_sub (L := [some (.ref 0), some (.int v1), some (.int v2), some (.int r6), some (.int (-1)), some (.int 0), some (.int r12), some (.int 0), none]) (⟨rfl, ⟨rfl, ⟨rfl, ⟨rfl, ⟨rfl, ⟨rfl, ⟨rfl, ⟨rfl, trivial⟩⟩⟩⟩⟩⟩⟩⟩) (el_C_orderFor_l58 v1 v2 r6 r12 zx_N ((-1), 0, 0, m10) x30 hx30 ?_)
          obtain ⟨w31, w32, m33⟩ := x30
          dsimp only at hf
          show zx_Ev (d + 77) 117 125 [some (.ref 0), none, some (.int v2), some (.int r6), some (.int w31), some (.int w32), none, none, none] [] (zx_SC, m33) _
          refine zx_ev_blk zk_117 2 (pc1 := 127) (L1 := [some (.ref 0), none, some (.int v2), some (.int r6), some (.int w31), some (.int w32), none, none, none]) (st1 := [.int (-1), .int v2]) (h1 := (zx_SC, m33)) rfl ?_
          by_cases c34 : ¬ v2 = (-1)
          · rw [if_pos c34] at hf
            refine zx_ev_ift zk_117 (P := ¬ v2 = (-1)) (t := 133) (f := 130) rfl rfl c34 ?_
            refine zx_ev_blk zk_117 5 (pc1 := 141) (L1 := [some (.ref 0), none, some (.int v2), some (.int r6), some (.int w31), some (.int w32), none, none, none]) (st1 := [.int r6, .int r6, .int w32, .ref 19]) (h1 := (zx_SC, m33)) rfl ?_
            obtain ⟨⟨r36, m37⟩, hv35, hf⟩ := zx_bind_eq hf
            dsimp only at hf
            refine zx_ev_call (d := d + 76) zk_117 (v := some (.int r36)) (h1 := (zx_SC, m37)) rfl rfl zt_56 rfl zx_SCn rfl rfl (s_Order_spell _ _ _ _ (d := d + 74) hv35) ?_
            refine zx_ev_blk zk_117 4 (pc1 := 150) (L1 := [some (.ref 0), none, some (.int v2), some (.int r6), some (.int w31), some (.int w32), none, none, none]) (st1 := [.int v2, .ref 19]) (h1 := (zx_SC, m37)) rfl ?_
            obtain ⟨r39, hv38, hf⟩ := zx_bind_eq hf
            refine zx_ev_call (d := d + 76) zk_117 (v := some (.int r39)) (h1 := (zx_SC, m37)) rfl rfl zt_53 rfl zx_SCn rfl rfl (s_Order_at _ _ (d := d + 76) hv38) ?_
            obtain rfl := Option.some.inj hf
            exact zx_ev_ret zk_117 rfl rfl
          · rw [if_neg c34] at hf
            refine zx_ev_ifn zk_117 (P := ¬ v2 = (-1)) (t := 133) (f := 130) rfl rfl c34 ?_
            refine zx_ev_blk zk_117 1 (pc1 := 132) (L1 := [some (.ref 0), none, some (.int v2), some (.int r6), some (.int w31), some (.int w32), none, none, none]) (st1 := [.int w31]) (h1 := (zx_SC, m33)) rfl ?_
            obtain rfl := Option.some.inj hf
            exact zx_ev_ret zk_117 rfl rfl
        · rw [if_neg c8] at hf
          refine zx_ev_ifn zk_117 (P := v2 < r6) (t := 38) (f := 35) rfl rfl c8 ?_
          refine zx_ev_blk zk_117 1 (pc1 := 37) (L1 := [some (.ref 0), some (.int v1), some (.int v2), some (.int r6), none, none, none, none, none]) (st1 := [.int (-2)]) (h1 := (zx_SC, m)) rfl ?_
          obtain rfl := Option.some.inj hf
          exact zx_ev_ret zk_117 rfl rfl
      · rw [if_neg c7] at hf
        refine zx_ev_ifn zk_117 (P := r6 ≤ 5) (t := 30) (f := 27) rfl rfl c7 ?_
        refine zx_ev_blk zk_117 1 (pc1 := 29) (L1 := [some (.ref 0), some (.int v1), some (.int v2), some (.int r6), none, none, none, none, none]) (st1 := [.int (-5)]) (h1 := (zx_SC, m)) rfl ?_
        obtain rfl := Option.some.inj hf
        exact zx_ev_ret zk_117 rfl rfl
    · rw [if_neg c4] at hf
      refine zx_ev_ifn zk_117 (P := (-1) ≤ v2) (t := 14) (f := 12) rfl rfl c4 ?_
      refine zx_ev_blk zk_117 1 (pc1 := 13) (L1 := [some (.ref 0), some (.int v1), some (.int v2), none, none, none, none, none, none]) (st1 := [.int (-1)]) (h1 := (zx_SC, m)) rfl ?_
      obtain rfl := Option.some.inj hf
      exact zx_ev_ret zk_117 rfl rfl
def f_C_over (m : zx_M) : Option (Int32 × zx_M) := (f_Deed_end_26 m).bind fun (r2, m3) => some (r2, m3)
theorem s_C_over (m : zx_M) {d : Nat} {y : (Int32 × zx_M)} (hf : f_C_over m = some y) : zx_Ev (d + 4) 141 0 [some (.ref 0)] [] (zx_SC, m) (some (.int y.1), (zx_SC, y.2)) := by
  unfold f_C_over at hf
  refine zx_ev_blk zk_141 2 (pc1 := 4) (L1 := [some (.ref 0)]) (st1 := [.ref 26]) (h1 := (zx_SC, m)) rfl ?_
  obtain ⟨⟨r2, m3⟩, hv1, hf⟩ := zx_bind_eq hf
  dsimp only at hf
  refine zx_ev_call (d := d + 3) zk_141 (v := some (.int r2)) (h1 := (zx_SC, m3)) rfl rfl zt_29 rfl zx_SCn rfl rfl (s_Deed_end_26 _ (d := d + 0) hv1) ?_
  obtain rfl := Option.some.inj hf
  exact zx_ev_ret zk_141 rfl rfl
def f_C_paper (v1 : Int32) (m : zx_M) : Option Int32 := (f_C_isYard v1 m).bind fun r2 => if ¬ r2 = 0 then (f_Numbers_told 0 10 m).bind fun r5 => (f_Numbers_told 0 8 m).bind fun r7 => (f_Numbers_told 0 9 m).bind fun r9 => some (v1 + (r5 * (r7 + r9))) else some (-2000000000)
theorem s_C_paper (v1 : Int32) (m : zx_M) {d : Nat} {y : Int32} (hf : f_C_paper v1 m = some y) : zx_Ev (d + 1) 131 0 [some (.ref 0), some (.int v1)] [] (zx_SC, m) (some (.int y), (zx_SC, m)) := by
  unfold f_C_paper at hf
  refine zx_ev_blk zk_131 1 (pc1 := 1) (L1 := [some (.ref 0), some (.int v1)]) (st1 := [.int v1]) (h1 := (zx_SC, m)) rfl ?_
  obtain ⟨r2, hv1, hf⟩ := zx_bind_eq hf
  refine zx_ev_call (d := d + 0) zk_131 (v := some (.int r2)) (h1 := (zx_SC, m)) rfl rfl zt_97 rfl zx_SCn rfl rfl (s_C_isYard _ _ (d := d + 0) hv1) ?_
  by_cases c3 : ¬ r2 = 0
  · rw [if_pos c3] at hf
    refine zx_ev_ift zk_131 (P := ¬ r2 = 0) (t := 10) (f := 7) rfl rfl c3 ?_
    refine zx_ev_blk zk_131 5 (pc1 := 18) (L1 := [some (.ref 0), some (.int v1)]) (st1 := [.int 10, .int 0, .ref 1, .int v1]) (h1 := (zx_SC, m)) rfl ?_
    obtain ⟨r5, hv4, hf⟩ := zx_bind_eq hf
    refine zx_ev_call (d := d + 0) zk_131 (v := some (.int r5)) (h1 := (zx_SC, m)) rfl rfl zt_46 rfl zx_SCn rfl rfl (s_Numbers_told _ _ _ (d := d + 0) hv4) ?_
    refine zx_ev_blk zk_131 4 (pc1 := 28) (L1 := [some (.ref 0), some (.int v1)]) (st1 := [.int 8, .int 0, .ref 1, .int r5, .int v1]) (h1 := (zx_SC, m)) rfl ?_
    obtain ⟨r7, hv6, hf⟩ := zx_bind_eq hf
    refine zx_ev_call (d := d + 0) zk_131 (v := some (.int r7)) (h1 := (zx_SC, m)) rfl rfl zt_46 rfl zx_SCn rfl rfl (s_Numbers_told _ _ _ (d := d + 0) hv6) ?_
    refine zx_ev_blk zk_131 4 (pc1 := 38) (L1 := [some (.ref 0), some (.int v1)]) (st1 := [.int 9, .int 0, .ref 1, .int r7, .int r5, .int v1]) (h1 := (zx_SC, m)) rfl ?_
    obtain ⟨r9, hv8, hf⟩ := zx_bind_eq hf
    refine zx_ev_call (d := d + 0) zk_131 (v := some (.int r9)) (h1 := (zx_SC, m)) rfl rfl zt_46 rfl zx_SCn rfl rfl (s_Numbers_told _ _ _ (d := d + 0) hv8) ?_
    refine zx_ev_blk zk_131 3 (pc1 := 44) (L1 := [some (.ref 0), some (.int v1)]) (st1 := [.int (v1 + (r5 * (r7 + r9)))]) (h1 := (zx_SC, m)) rfl ?_
    obtain rfl := Option.some.inj hf
    exact zx_ev_ret zk_131 rfl rfl
  · rw [if_neg c3] at hf
    refine zx_ev_ifn zk_131 (P := ¬ r2 = 0) (t := 10) (f := 7) rfl rfl c3 ?_
    refine zx_ev_blk zk_131 1 (pc1 := 9) (L1 := [some (.ref 0), some (.int v1)]) (st1 := [.int (-2000000000)]) (h1 := (zx_SC, m)) rfl ?_
    obtain rfl := Option.some.inj hf
    exact zx_ev_ret zk_131 rfl rfl
def kx_C_bestSpot_l13 (m : zx_M) (d : Nat) (out : Option Value × zx_H) : Int32 → Prop
  | y => out = (some (.int y), (zx_SC, m))
def kl_C_bestSpot_l13 (m : zx_M) (d : Nat) (out : Option Value × zx_H) : (Int32 × Int32 × Int32) ⊕ (Int32) → Prop
  | .inl (v1, v2, v3) => zx_Ev (d + 3) 111 13 [some (.ref 0), some (.int v1), some (.int v2), some (.int v3), none, none] [] (zx_SC, m) out
  | .inr x => kx_C_bestSpot_l13 m d out x
def n_C_bestSpot_b13_86 (v1 : Int32) (v2 : Int32) (v3 : Int32) (m : zx_M) : Option ((Int32 × Int32 × Int32) ⊕ (Int32)) := zx_let (v3 + 1) fun a14 => some (.inl (v1, v2, a14))
theorem e_C_bestSpot_b13_86 (v1 : Int32) (v2 : Int32) (v3 : Int32) (m : zx_M) {d : Nat} {out : Option Value × zx_H} {y : (Int32 × Int32 × Int32) ⊕ (Int32)} (hf : n_C_bestSpot_b13_86 v1 v2 v3 m = some y) (hK : kl_C_bestSpot_l13 m d out y) : zx_Ev (d + 3) 111 86 [some (.ref 0), some (.int v1), some (.int v2), some (.int v3), none, none] [] (zx_SC, m) out := by
  unfold n_C_bestSpot_b13_86 at hf
  obtain ⟨a14, ha14, hf⟩ := zx_let_eq hf
  refine zx_ev_blk zk_111 2 (pc1 := 13) (L1 := [some (.ref 0), some (.int v1), some (.int v2), some (.int a14), none, none]) (st1 := []) (h1 := (zx_SC, m)) (by subst ha14; rfl) ?_
  obtain rfl := Option.some.inj hf
  exact zx_ev_sub (L := [some (.ref 0), some (.int v1), some (.int v2), some (.int a14), none, none]) (⟨rfl, ⟨rfl, ⟨rfl, ⟨rfl, trivial⟩⟩⟩⟩) hK
def n_C_bestSpot_b13_77 (v3 : Int32) (v4 : Int32) (v5 : Int32) (t0 : Int32) (m : zx_M) : Option ((Int32 × Int32 × Int32) ⊕ (Int32)) := zx_let (zx_max v5 v4) fun a13 => n_C_bestSpot_b13_86 t0 a13 v3 m
theorem e_C_bestSpot_b13_77 (v3 : Int32) (v4 : Int32) (v5 : Int32) (t0 : Int32) (m : zx_M) {d : Nat} {out : Option Value × zx_H} {y : (Int32 × Int32 × Int32) ⊕ (Int32)} (hf : n_C_bestSpot_b13_77 v3 v4 v5 t0 m = some y) (hK : kl_C_bestSpot_l13 m d out y) : zx_Ev (d + 3) 111 77 [some (.ref 0), none, none, some (.int v3), some (.int v4), some (.int v5)] [.int t0] (zx_SC, m) out := by
  unfold n_C_bestSpot_b13_77 at hf
  obtain ⟨a13, ha13, hf⟩ := zx_let_eq hf
  refine zx_ev_blk zk_111 5 (pc1 := 86) (L1 := [some (.ref 0), some (.int t0), some (.int a13), some (.int v3), some (.int v4), some (.int v5)]) (st1 := []) (h1 := (zx_SC, m)) (by subst ha13; rfl) ?_
  exact zx_ev_sub (L := [some (.ref 0), some (.int t0), some (.int a13), some (.int v3), none, none]) (⟨rfl, ⟨rfl, ⟨rfl, ⟨rfl, ⟨trivial, ⟨trivial, trivial⟩⟩⟩⟩⟩⟩) (e_C_bestSpot_b13_86 t0 a13 v3 m hf hK)
def n_C_bestSpot_b13_64 (v3 : Int32) (v4 : Int32) (v5 : Int32) (m : zx_M) : Option ((Int32 × Int32 × Int32) ⊕ (Int32)) := if v5 ≤ v4 then n_C_bestSpot_b13_77 v3 v4 v5 (-v3) m else n_C_bestSpot_b13_77 v3 v4 v5 v3 m
theorem e_C_bestSpot_b13_64 (v3 : Int32) (v4 : Int32) (v5 : Int32) (m : zx_M) {d : Nat} {out : Option Value × zx_H} {y : (Int32 × Int32 × Int32) ⊕ (Int32)} (hf : n_C_bestSpot_b13_64 v3 v4 v5 m = some y) (hK : kl_C_bestSpot_l13 m d out y) : zx_Ev (d + 3) 111 64 [some (.ref 0), none, none, some (.int v3), some (.int v4), some (.int v5)] [] (zx_SC, m) out := by
  unfold n_C_bestSpot_b13_64 at hf
  refine zx_ev_blk zk_111 2 (pc1 := 68) (L1 := [some (.ref 0), none, none, some (.int v3), some (.int v4), some (.int v5)]) (st1 := [.int v4, .int v5]) (h1 := (zx_SC, m)) rfl ?_
  by_cases c12 : v5 ≤ v4
  · rw [if_pos c12] at hf
    refine zx_ev_ift zk_111 (P := v5 ≤ v4) (t := 75) (f := 71) rfl rfl c12 ?_
    refine zx_ev_blk zk_111 2 (pc1 := 77) (L1 := [some (.ref 0), none, none, some (.int v3), some (.int v4), some (.int v5)]) (st1 := [.int (-v3)]) (h1 := (zx_SC, m)) rfl ?_
    exact zx_ev_sub (L := [some (.ref 0), none, none, some (.int v3), some (.int v4), some (.int v5)]) (⟨rfl, ⟨rfl, ⟨rfl, ⟨rfl, trivial⟩⟩⟩⟩) (e_C_bestSpot_b13_77 v3 v4 v5 (-v3) m hf hK)
  · rw [if_neg c12] at hf
    refine zx_ev_ifn zk_111 (P := v5 ≤ v4) (t := 75) (f := 71) rfl rfl c12 ?_
    refine zx_ev_blk zk_111 2 (pc1 := 77) (L1 := [some (.ref 0), none, none, some (.int v3), some (.int v4), some (.int v5)]) (st1 := [.int v3]) (h1 := (zx_SC, m)) rfl ?_
    exact zx_ev_sub (L := [some (.ref 0), none, none, some (.int v3), some (.int v4), some (.int v5)]) (⟨rfl, ⟨rfl, ⟨rfl, ⟨rfl, trivial⟩⟩⟩⟩) (e_C_bestSpot_b13_77 v3 v4 v5 v3 m hf hK)
def b_C_bestSpot_l13 (v1 : Int32) (v2 : Int32) (v3 : Int32) (m : zx_M) : Option ((Int32 × Int32 × Int32) ⊕ (Int32)) := if 999 < v3 then some (.inr v1) else (f_Jumps_size_22 m).bind fun r5 => if r5 ≤ v2 then some (.inr v1) else (f_Jumps_good_22 (-v3) m).bind fun r8 => (f_Jumps_good_22 v3 m).bind fun r10 => if v2 < r8 then n_C_bestSpot_b13_64 v3 r8 r10 m else if r10 ≤ v2 then n_C_bestSpot_b13_86 v1 v2 v3 m else n_C_bestSpot_b13_64 v3 r8 r10 m
theorem eb_C_bestSpot_l13 (v1 : Int32) (v2 : Int32) (v3 : Int32) (m : zx_M) {d : Nat} {out : Option Value × zx_H} {y : (Int32 × Int32 × Int32) ⊕ (Int32)} (hf : b_C_bestSpot_l13 v1 v2 v3 m = some y) (hK : kl_C_bestSpot_l13 m d out y) : zx_Ev (d + 3) 111 13 [some (.ref 0), some (.int v1), some (.int v2), some (.int v3), none, none] [] (zx_SC, m) out := by
  unfold b_C_bestSpot_l13 at hf
  refine zx_ev_blk zk_111 2 (pc1 := 17) (L1 := [some (.ref 0), some (.int v1), some (.int v2), some (.int v3), none, none]) (st1 := [.int 999, .int v3]) (h1 := (zx_SC, m)) rfl ?_
  by_cases c3 : 999 < v3
  · rw [if_pos c3] at hf
    refine zx_ev_ift zk_111 (P := 999 < v3) (t := 92) (f := 20) rfl rfl c3 ?_
    refine zx_ev_blk zk_111 1 (pc1 := 93) (L1 := [some (.ref 0), some (.int v1), some (.int v2), some (.int v3), none, none]) (st1 := [.int v1]) (h1 := (zx_SC, m)) rfl ?_
    obtain rfl := Option.some.inj hf
    rw [show out = _ from hK]
    exact zx_ev_ret zk_111 rfl rfl
  · rw [if_neg c3] at hf
    refine zx_ev_ifn zk_111 (P := 999 < v3) (t := 92) (f := 20) rfl rfl c3 ?_
    refine zx_ev_blk zk_111 3 (pc1 := 25) (L1 := [some (.ref 0), some (.int v1), some (.int v2), some (.int v3), none, none]) (st1 := [.ref 22, .int v2]) (h1 := (zx_SC, m)) rfl ?_
    obtain ⟨r5, hv4, hf⟩ := zx_bind_eq hf
    refine zx_ev_call (d := d + 2) zk_111 (v := some (.int r5)) (h1 := (zx_SC, m)) rfl rfl zt_32 rfl zx_SCn rfl rfl (s_Jumps_size_22 _ (d := d + 2) hv4) ?_
    by_cases c6 : r5 ≤ v2
    · rw [if_pos c6] at hf
      refine zx_ev_ift zk_111 (P := r5 ≤ v2) (t := 92) (f := 31) rfl rfl c6 ?_
      refine zx_ev_blk zk_111 1 (pc1 := 93) (L1 := [some (.ref 0), some (.int v1), some (.int v2), some (.int v3), none, none]) (st1 := [.int v1]) (h1 := (zx_SC, m)) rfl ?_
      obtain rfl := Option.some.inj hf
      rw [show out = _ from hK]
      exact zx_ev_ret zk_111 rfl rfl
    · rw [if_neg c6] at hf
      refine zx_ev_ifn zk_111 (P := r5 ≤ v2) (t := 92) (f := 31) rfl rfl c6 ?_
      refine zx_ev_blk zk_111 4 (pc1 := 37) (L1 := [some (.ref 0), some (.int v1), some (.int v2), some (.int v3), none, none]) (st1 := [.int (-v3), .ref 22]) (h1 := (zx_SC, m)) rfl ?_
      obtain ⟨r8, hv7, hf⟩ := zx_bind_eq hf
      refine zx_ev_call (d := d + 2) zk_111 (v := some (.int r8)) (h1 := (zx_SC, m)) rfl rfl zt_39 rfl zx_SCn rfl rfl (s_Jumps_good_22 _ _ (d := d + 0) hv7) ?_
      refine zx_ev_blk zk_111 4 (pc1 := 47) (L1 := [some (.ref 0), some (.int v1), some (.int v2), some (.int v3), some (.int r8), none]) (st1 := [.int v3, .ref 22]) (h1 := (zx_SC, m)) rfl ?_
      obtain ⟨r10, hv9, hf⟩ := zx_bind_eq hf
      refine zx_ev_call (d := d + 2) zk_111 (v := some (.int r10)) (h1 := (zx_SC, m)) rfl rfl zt_39 rfl zx_SCn rfl rfl (s_Jumps_good_22 _ _ (d := d + 0) hv9) ?_
      refine zx_ev_blk zk_111 3 (pc1 := 55) (L1 := [some (.ref 0), some (.int v1), some (.int v2), some (.int v3), some (.int r8), some (.int r10)]) (st1 := [.int v2, .int r8]) (h1 := (zx_SC, m)) rfl ?_
      by_cases c11 : v2 < r8
      · rw [if_pos c11] at hf
        refine zx_ev_ift zk_111 (P := v2 < r8) (t := 64) (f := 58) rfl rfl c11 ?_
        exact zx_ev_sub (L := [some (.ref 0), none, none, some (.int v3), some (.int r8), some (.int r10)]) (⟨rfl, ⟨trivial, ⟨trivial, ⟨rfl, ⟨rfl, ⟨rfl, trivial⟩⟩⟩⟩⟩⟩) (e_C_bestSpot_b13_64 v3 r8 r10 m hf hK)
      · rw [if_neg c11] at hf
        refine zx_ev_ifn zk_111 (P := v2 < r8) (t := 64) (f := 58) rfl rfl c11 ?_
        refine zx_ev_blk zk_111 2 (pc1 := 61) (L1 := [some (.ref 0), some (.int v1), some (.int v2), some (.int v3), some (.int r8), some (.int r10)]) (st1 := [.int v2, .int r10]) (h1 := (zx_SC, m)) rfl ?_
        by_cases c15 : r10 ≤ v2
        · rw [if_pos c15] at hf
          refine zx_ev_ift zk_111 (P := r10 ≤ v2) (t := 86) (f := 64) rfl rfl c15 ?_
          exact zx_ev_sub (L := [some (.ref 0), some (.int v1), some (.int v2), some (.int v3), none, none]) (⟨rfl, ⟨rfl, ⟨rfl, ⟨rfl, ⟨trivial, ⟨trivial, trivial⟩⟩⟩⟩⟩⟩) (e_C_bestSpot_b13_86 v1 v2 v3 m hf hK)
        · rw [if_neg c15] at hf
          refine zx_ev_ifn zk_111 (P := r10 ≤ v2) (t := 86) (f := 64) rfl rfl c15 ?_
          exact zx_ev_sub (L := [some (.ref 0), none, none, some (.int v3), some (.int r8), some (.int r10)]) (⟨rfl, ⟨trivial, ⟨trivial, ⟨rfl, ⟨rfl, ⟨rfl, trivial⟩⟩⟩⟩⟩⟩) (e_C_bestSpot_b13_64 v3 r8 r10 m hf hK)
def l_C_bestSpot_l13 (m : zx_M) (s0 : Int32 × Int32 × Int32) : Option (Int32) := zx_lp zx_N (fun s : Int32 × Int32 × Int32 => b_C_bestSpot_l13 s.1 s.2.1 s.2.2 m) s0
theorem el_C_bestSpot_l13 (m : zx_M) {d : Nat} {out : Option Value × zx_H} : ∀ (n : Nat) (s : Int32 × Int32 × Int32) (x : Int32), zx_lp n (fun s : Int32 × Int32 × Int32 => b_C_bestSpot_l13 s.1 s.2.1 s.2.2 m) s = some x → kx_C_bestSpot_l13 m d out x → zx_Ev (d + 3) 111 13 [some (.ref 0), some (.int s.1), some (.int s.2.1), some (.int s.2.2), none, none] [] (zx_SC, m) out := by
  intro n
  induction n with
  | zero => intro s x hl _; simp [zx_lp] at hl
  | succ n ih =>
    intro s x hl hx
    unfold zx_lp at hl
    cases hb : b_C_bestSpot_l13 s.1 s.2.1 s.2.2 m with
    | none => simp only [hb] at hl; cases hl
    | some z =>
      simp only [hb] at hl
      cases z with
      | inl s1 => exact eb_C_bestSpot_l13 s.1 s.2.1 s.2.2 m hb (ih s1 x hl hx)
      | inr t =>
        simp only [Option.some.injEq] at hl
        subst hl
        exact eb_C_bestSpot_l13 s.1 s.2.1 s.2.2 m hb hx
def f_C_bestSpot (m : zx_M) : Option Int32 := (f_Jumps_good_22 0 m).bind fun r2 => (l_C_bestSpot_l13 m (0, r2, 1)).bind fun x16 => zx_let x16 fun y17 => some y17
theorem s_C_bestSpot (m : zx_M) {d : Nat} {y : Int32} (hf : f_C_bestSpot m = some y) : zx_Ev (d + 3) 111 0 [some (.ref 0), none, none, none, none, none] [] (zx_SC, m) (some (.int y), (zx_SC, m)) := by
  unfold f_C_bestSpot at hf
  refine zx_ev_blk zk_111 5 (pc1 := 7) (L1 := [some (.ref 0), some (.int 0), none, none, none, none]) (st1 := [.int 0, .ref 22]) (h1 := (zx_SC, m)) rfl ?_
  obtain ⟨r2, hv1, hf⟩ := zx_bind_eq hf
  refine zx_ev_call (d := d + 2) zk_111 (v := some (.int r2)) (h1 := (zx_SC, m)) rfl rfl zt_39 rfl zx_SCn rfl rfl (s_Jumps_good_22 _ _ (d := d + 0) hv1) ?_
  refine zx_ev_blk zk_111 3 (pc1 := 13) (L1 := [some (.ref 0), some (.int 0), some (.int r2), some (.int 1), none, none]) (st1 := []) (h1 := (zx_SC, m)) rfl ?_
  obtain ⟨x16, hx16, hf⟩ := zx_bind_eq hf
  refine zx_ev_sub (L := [some (.ref 0), some (.int 0), some (.int r2), some (.int 1), none, none]) (⟨rfl, ⟨rfl, ⟨rfl, ⟨rfl, trivial⟩⟩⟩⟩) (el_C_bestSpot_l13 m zx_N (0, r2, 1) x16 hx16 ?_)
  obtain ⟨y17, hy17, hf⟩ := zx_let_eq hf
  subst hy17
  obtain rfl := Option.some.inj hf
  rfl
def f_C_goodByBestSpot (m : zx_M) : Option Int32 := (f_C_bestSpot m).bind fun r2 => (f_Jumps_good_22 r2 m).bind fun r4 => some r4
theorem s_C_goodByBestSpot (m : zx_M) {d : Nat} {y : Int32} (hf : f_C_goodByBestSpot m = some y) : zx_Ev (d + 4) 112 0 [some (.ref 0)] [] (zx_SC, m) (some (.int y), (zx_SC, m)) := by
  unfold f_C_goodByBestSpot at hf
  refine zx_ev_blk zk_112 3 (pc1 := 5) (L1 := [some (.ref 0)]) (st1 := [.ref 0, .ref 22]) (h1 := (zx_SC, m)) rfl ?_
  obtain ⟨r2, hv1, hf⟩ := zx_bind_eq hf
  refine zx_ev_call (d := d + 3) zk_112 (v := some (.int r2)) (h1 := (zx_SC, m)) rfl rfl zt_111 rfl zx_SCn rfl rfl (s_C_bestSpot _ (d := d + 0) hv1) ?_
  obtain ⟨r4, hv3, hf⟩ := zx_bind_eq hf
  refine zx_ev_call (d := d + 3) zk_112 (v := some (.int r4)) (h1 := (zx_SC, m)) rfl rfl zt_39 rfl zx_SCn rfl rfl (s_Jumps_good_22 _ _ (d := d + 1) hv3) ?_
  obtain rfl := Option.some.inj hf
  exact zx_ev_ret zk_112 rfl rfl
def kx_C_inOnePass_l9 (v1 : Int32) (v2 : Int32) (d : Nat) (out : Option Value × zx_H) : (zx_M) ⊕ ((Int32 × zx_M)) → Prop
  | .inl m => zx_Ev (d + 5) 119 68 [some (.ref 0), some (.int v1), none, none] [] (zx_SC, m) out
  | .inr y => out = (some (.int y.1), (zx_SC, y.2))
def kl_C_inOnePass_l9 (v1 : Int32) (v2 : Int32) (d : Nat) (out : Option Value × zx_H) : (Int32 × zx_M) ⊕ ((zx_M) ⊕ ((Int32 × zx_M))) → Prop
  | .inl (v3, m) => zx_Ev (d + 5) 119 9 [some (.ref 0), some (.int v1), some (.int v2), some (.int v3)] [] (zx_SC, m) out
  | .inr x => kx_C_inOnePass_l9 v1 v2 d out x
def b_C_inOnePass_l9 (v1 : Int32) (v2 : Int32) (v3 : Int32) (m : zx_M) : Option ((Int32 × zx_M) ⊕ ((zx_M) ⊕ ((Int32 × zx_M)))) := (f_Order_size m).bind fun r4 => if r4 ≤ v3 then some (.inr (.inl m)) else (f_C_way m).bind fun r7 => (f_C_sendOut v3 ((v3 - v1) * v2) r7 m).bind fun m9 => (f_Jumps_meeting_22 m9).bind fun r11 => if 0 < r11 then some (.inr (.inr (v3 - v1, m9))) else (f_C_goodByBestSpot m9).bind fun r14 => (f_Jumps_size_22 m9).bind fun r16 => if r16 ≤ r14 then zx_let (v3 + 1) fun a18 => some (.inl (a18, m9)) else some (.inr (.inr (v3 - v1, m9)))
theorem eb_C_inOnePass_l9 (v1 : Int32) (v2 : Int32) (v3 : Int32) (m : zx_M) {d : Nat} {out : Option Value × zx_H} {y : (Int32 × zx_M) ⊕ ((zx_M) ⊕ ((Int32 × zx_M)))} (hf : b_C_inOnePass_l9 v1 v2 v3 m = some y) (hK : kl_C_inOnePass_l9 v1 v2 d out y) : zx_Ev (d + 5) 119 9 [some (.ref 0), some (.int v1), some (.int v2), some (.int v3)] [] (zx_SC, m) out := by
  unfold b_C_inOnePass_l9 at hf
  refine zx_ev_blk zk_119 3 (pc1 := 14) (L1 := [some (.ref 0), some (.int v1), some (.int v2), some (.int v3)]) (st1 := [.ref 19, .int v3]) (h1 := (zx_SC, m)) rfl ?_
  obtain ⟨r4, hv3, hf⟩ := zx_bind_eq hf
  refine zx_ev_call (d := d + 4) zk_119 (v := some (.int r4)) (h1 := (zx_SC, m)) rfl rfl zt_51 rfl zx_SCn rfl rfl (s_Order_size _ (d := d + 4) hv3) ?_
  by_cases c5 : r4 ≤ v3
  · rw [if_pos c5] at hf
    refine zx_ev_ift zk_119 (P := r4 ≤ v3) (t := 68) (f := 20) rfl rfl c5 ?_
    obtain rfl := Option.some.inj hf
    exact zx_ev_sub (L := [some (.ref 0), some (.int v1), none, none]) (⟨rfl, ⟨rfl, ⟨trivial, ⟨trivial, trivial⟩⟩⟩⟩) hK
  · rw [if_neg c5] at hf
    refine zx_ev_ifn zk_119 (P := r4 ≤ v3) (t := 68) (f := 20) rfl rfl c5 ?_
    refine zx_ev_blk zk_119 8 (pc1 := 28) (L1 := [some (.ref 0), some (.int v1), some (.int v2), some (.int v3)]) (st1 := [.ref 0, .int ((v3 - v1) * v2), .int v3, .ref 0]) (h1 := (zx_SC, m)) rfl ?_
    obtain ⟨r7, hv6, hf⟩ := zx_bind_eq hf
    refine zx_ev_call (d := d + 4) zk_119 (v := some (.int r7)) (h1 := (zx_SC, m)) rfl rfl zt_106 rfl zx_SCn rfl rfl (s_C_way _ (d := d + 3) hv6) ?_
    obtain ⟨m9, hv8, hf⟩ := zx_bind_eq hf
    refine zx_ev_call (d := d + 4) zk_119 (v := none) (h1 := (zx_SC, m9)) rfl rfl zt_108 rfl zx_SCn rfl rfl (s_C_sendOut _ _ _ _ (d := d + 2) hv8) ?_
    refine zx_ev_blk zk_119 2 (pc1 := 38) (L1 := [some (.ref 0), some (.int v1), some (.int v2), some (.int v3)]) (st1 := [.ref 22]) (h1 := (zx_SC, m9)) rfl ?_
    obtain ⟨r11, hv10, hf⟩ := zx_bind_eq hf
    refine zx_ev_call (d := d + 4) zk_119 (v := some (.int r11)) (h1 := (zx_SC, m9)) rfl rfl zt_37 rfl zx_SCn rfl rfl (s_Jumps_meeting_22 _ (d := d + 4) hv10) ?_
    by_cases c12 : 0 < r11
    · rw [if_pos c12] at hf
      refine zx_ev_ift zk_119 (P := 0 < r11) (t := 58) (f := 44) rfl rfl c12 ?_
      refine zx_ev_blk zk_119 3 (pc1 := 61) (L1 := [some (.ref 0), some (.int v1), some (.int v2), some (.int v3)]) (st1 := [.int (v3 - v1)]) (h1 := (zx_SC, m9)) rfl ?_
      obtain rfl := Option.some.inj hf
      rw [show out = _ from hK]
      exact zx_ev_ret zk_119 rfl rfl
    · rw [if_neg c12] at hf
      refine zx_ev_ifn zk_119 (P := 0 < r11) (t := 58) (f := 44) rfl rfl c12 ?_
      refine zx_ev_blk zk_119 1 (pc1 := 45) (L1 := [some (.ref 0), some (.int v1), some (.int v2), some (.int v3)]) (st1 := [.ref 0]) (h1 := (zx_SC, m9)) rfl ?_
      obtain ⟨r14, hv13, hf⟩ := zx_bind_eq hf
      refine zx_ev_call (d := d + 4) zk_119 (v := some (.int r14)) (h1 := (zx_SC, m9)) rfl rfl zt_112 rfl zx_SCn rfl rfl (s_C_goodByBestSpot _ (d := d + 0) hv13) ?_
      refine zx_ev_blk zk_119 2 (pc1 := 52) (L1 := [some (.ref 0), some (.int v1), some (.int v2), some (.int v3)]) (st1 := [.ref 22, .int r14]) (h1 := (zx_SC, m9)) rfl ?_
      obtain ⟨r16, hv15, hf⟩ := zx_bind_eq hf
      refine zx_ev_call (d := d + 4) zk_119 (v := some (.int r16)) (h1 := (zx_SC, m9)) rfl rfl zt_32 rfl zx_SCn rfl rfl (s_Jumps_size_22 _ (d := d + 4) hv15) ?_
      by_cases c17 : r16 ≤ r14
      · rw [if_pos c17] at hf
        refine zx_ev_ift zk_119 (P := r16 ≤ r14) (t := 62) (f := 58) rfl rfl c17 ?_
        obtain ⟨a18, ha18, hf⟩ := zx_let_eq hf
        refine zx_ev_blk zk_119 2 (pc1 := 9) (L1 := [some (.ref 0), some (.int v1), some (.int v2), some (.int a18)]) (st1 := []) (h1 := (zx_SC, m9)) (by subst ha18; rfl) ?_
        obtain rfl := Option.some.inj hf
        exact zx_ev_sub (L := [some (.ref 0), some (.int v1), some (.int v2), some (.int a18)]) (⟨rfl, ⟨rfl, ⟨rfl, ⟨rfl, trivial⟩⟩⟩⟩) hK
      · rw [if_neg c17] at hf
        refine zx_ev_ifn zk_119 (P := r16 ≤ r14) (t := 62) (f := 58) rfl rfl c17 ?_
        refine zx_ev_blk zk_119 3 (pc1 := 61) (L1 := [some (.ref 0), some (.int v1), some (.int v2), some (.int v3)]) (st1 := [.int (v3 - v1)]) (h1 := (zx_SC, m9)) rfl ?_
        obtain rfl := Option.some.inj hf
        rw [show out = _ from hK]
        exact zx_ev_ret zk_119 rfl rfl
def l_C_inOnePass_l9 (v1 : Int32) (v2 : Int32) (s0 : Int32 × zx_M) : Option ((zx_M) ⊕ ((Int32 × zx_M))) := zx_lp zx_N (fun s : Int32 × zx_M => b_C_inOnePass_l9 v1 v2 s.1 s.2) s0
theorem el_C_inOnePass_l9 (v1 : Int32) (v2 : Int32) {d : Nat} {out : Option Value × zx_H} : ∀ (n : Nat) (s : Int32 × zx_M) (x : (zx_M) ⊕ ((Int32 × zx_M))), zx_lp n (fun s : Int32 × zx_M => b_C_inOnePass_l9 v1 v2 s.1 s.2) s = some x → kx_C_inOnePass_l9 v1 v2 d out x → zx_Ev (d + 5) 119 9 [some (.ref 0), some (.int v1), some (.int v2), some (.int s.1)] [] (zx_SC, s.2) out := by
  intro n
  induction n with
  | zero => intro s x hl _; simp [zx_lp] at hl
  | succ n ih =>
    intro s x hl hx
    unfold zx_lp at hl
    cases hb : b_C_inOnePass_l9 v1 v2 s.1 s.2 with
    | none => simp only [hb] at hl; cases hl
    | some z =>
      simp only [hb] at hl
      cases z with
      | inl s1 => exact eb_C_inOnePass_l9 v1 v2 s.1 s.2 hb (ih s1 x hl hx)
      | inr t =>
        simp only [Option.some.injEq] at hl
        subst hl
        exact eb_C_inOnePass_l9 v1 v2 s.1 s.2 hb hx
def f_C_inOnePass (v1 : Int32) (v2 : Int32) (m : zx_M) : Option (Int32 × zx_M) := (f_Jumps_clear_22 m).bind fun m2 => (l_C_inOnePass_l9 v1 v2 (v1, m2)).bind fun x19 => match x19 with | .inl m20 => ((f_Order_size m20).bind fun r22 => some (r22 - v1, m20)) | .inr y23 => (some y23)
theorem s_C_inOnePass (v1 : Int32) (v2 : Int32) (m : zx_M) {d : Nat} {y : (Int32 × zx_M)} (hf : f_C_inOnePass v1 v2 m = some y) : zx_Ev (d + 5) 119 0 [some (.ref 0), some (.int v1), some (.int v2), none] [] (zx_SC, m) (some (.int y.1), (zx_SC, y.2)) := by
  unfold f_C_inOnePass at hf
  refine zx_ev_blk zk_119 2 (pc1 := 4) (L1 := [some (.ref 0), some (.int v1), some (.int v2), none]) (st1 := [.ref 22]) (h1 := (zx_SC, m)) rfl ?_
  obtain ⟨m2, hv1, hf⟩ := zx_bind_eq hf
  refine zx_ev_call (d := d + 4) zk_119 (v := none) (h1 := (zx_SC, m2)) rfl rfl zt_33 rfl zx_SCn rfl rfl (s_Jumps_clear_22 _ (d := d + 4) hv1) ?_
  refine zx_ev_blk zk_119 2 (pc1 := 9) (L1 := [some (.ref 0), some (.int v1), some (.int v2), some (.int v1)]) (st1 := []) (h1 := (zx_SC, m2)) rfl ?_
  obtain ⟨x19, hx19, hf⟩ := zx_bind_eq hf
  refine zx_ev_sub (L := [some (.ref 0), some (.int v1), some (.int v2), some (.int v1)]) (⟨rfl, ⟨rfl, ⟨rfl, ⟨rfl, trivial⟩⟩⟩⟩) (el_C_inOnePass_l9 v1 v2 zx_N (v1, m2) x19 hx19 ?_)
  rcases x19 with m20 | y23
  · dsimp only at hf
    show zx_Ev (d + 5) 119 68 [some (.ref 0), some (.int v1), none, none] [] (zx_SC, m20) _
    refine zx_ev_blk zk_119 2 (pc1 := 72) (L1 := [some (.ref 0), some (.int v1), none, none]) (st1 := [.ref 19]) (h1 := (zx_SC, m20)) rfl ?_
    obtain ⟨r22, hv21, hf⟩ := zx_bind_eq hf
    refine zx_ev_call (d := d + 4) zk_119 (v := some (.int r22)) (h1 := (zx_SC, m20)) rfl rfl zt_51 rfl zx_SCn rfl rfl (s_Order_size _ (d := d + 4) hv21) ?_
    refine zx_ev_blk zk_119 2 (pc1 := 77) (L1 := [some (.ref 0), some (.int v1), none, none]) (st1 := [.int (r22 - v1)]) (h1 := (zx_SC, m20)) rfl ?_
    obtain rfl := Option.some.inj hf
    exact zx_ev_ret zk_119 rfl rfl
  · dsimp only at hf
    obtain rfl := Option.some.inj hf
    rfl
def kx_C_passes_l4 (v1 : Int32) (d : Nat) (out : Option Value × zx_H) : (Int32 × zx_M) → Prop
  | y => out = (some (.int y.1), (zx_SC, y.2))
def kl_C_passes_l4 (v1 : Int32) (d : Nat) (out : Option Value × zx_H) : (Int32 × Int32 × zx_M) ⊕ ((Int32 × zx_M)) → Prop
  | .inl (v2, v3, m) => zx_Ev (d + 6) 120 4 [some (.ref 0), some (.int v1), some (.int v2), some (.int v3), none] [] (zx_SC, m) out
  | .inr x => kx_C_passes_l4 v1 d out x
def b_C_passes_l4 (v1 : Int32) (v2 : Int32) (v3 : Int32) (m : zx_M) : Option ((Int32 × Int32 × zx_M) ⊕ ((Int32 × zx_M))) := (f_Order_size m).bind fun r2 => if r2 ≤ v2 then some (.inr (v3, m)) else (f_C_inOnePass v2 v1 m).bind fun (r5, m6) => if 1 ≤ r5 then zx_let (v2 + r5) fun a8 => zx_let (v3 + 1) fun a9 => some (.inl (a8, a9, m6)) else some (.inr ((-2), m6))
theorem eb_C_passes_l4 (v1 : Int32) (v2 : Int32) (v3 : Int32) (m : zx_M) {d : Nat} {out : Option Value × zx_H} {y : (Int32 × Int32 × zx_M) ⊕ ((Int32 × zx_M))} (hf : b_C_passes_l4 v1 v2 v3 m = some y) (hK : kl_C_passes_l4 v1 d out y) : zx_Ev (d + 6) 120 4 [some (.ref 0), some (.int v1), some (.int v2), some (.int v3), none] [] (zx_SC, m) out := by
  unfold b_C_passes_l4 at hf
  refine zx_ev_blk zk_120 3 (pc1 := 9) (L1 := [some (.ref 0), some (.int v1), some (.int v2), some (.int v3), none]) (st1 := [.ref 19, .int v2]) (h1 := (zx_SC, m)) rfl ?_
  obtain ⟨r2, hv1, hf⟩ := zx_bind_eq hf
  refine zx_ev_call (d := d + 5) zk_120 (v := some (.int r2)) (h1 := (zx_SC, m)) rfl rfl zt_51 rfl zx_SCn rfl rfl (s_Order_size _ (d := d + 5) hv1) ?_
  by_cases c3 : r2 ≤ v2
  · rw [if_pos c3] at hf
    refine zx_ev_ift zk_120 (P := r2 ≤ v2) (t := 43) (f := 15) rfl rfl c3 ?_
    refine zx_ev_blk zk_120 1 (pc1 := 44) (L1 := [some (.ref 0), some (.int v1), some (.int v2), some (.int v3), none]) (st1 := [.int v3]) (h1 := (zx_SC, m)) rfl ?_
    obtain rfl := Option.some.inj hf
    rw [show out = _ from hK]
    exact zx_ev_ret zk_120 rfl rfl
  · rw [if_neg c3] at hf
    refine zx_ev_ifn zk_120 (P := r2 ≤ v2) (t := 43) (f := 15) rfl rfl c3 ?_
    refine zx_ev_blk zk_120 3 (pc1 := 18) (L1 := [some (.ref 0), some (.int v1), some (.int v2), some (.int v3), none]) (st1 := [.int v1, .int v2, .ref 0]) (h1 := (zx_SC, m)) rfl ?_
    obtain ⟨⟨r5, m6⟩, hv4, hf⟩ := zx_bind_eq hf
    dsimp only at hf
    refine zx_ev_call (d := d + 5) zk_120 (v := some (.int r5)) (h1 := (zx_SC, m6)) rfl rfl zt_119 rfl zx_SCn rfl rfl (s_C_inOnePass _ _ _ (d := d + 0) hv4) ?_
    refine zx_ev_blk zk_120 3 (pc1 := 26) (L1 := [some (.ref 0), some (.int v1), some (.int v2), some (.int v3), some (.int r5)]) (st1 := [.int 1, .int r5]) (h1 := (zx_SC, m6)) rfl ?_
    by_cases c7 : 1 ≤ r5
    · rw [if_pos c7] at hf
      refine zx_ev_ift zk_120 (P := 1 ≤ r5) (t := 32) (f := 29) rfl rfl c7 ?_
      obtain ⟨a8, ha8, hf⟩ := zx_let_eq hf
      obtain ⟨a9, ha9, hf⟩ := zx_let_eq hf
      refine zx_ev_blk zk_120 6 (pc1 := 4) (L1 := [some (.ref 0), some (.int v1), some (.int a8), some (.int a9), some (.int r5)]) (st1 := []) (h1 := (zx_SC, m6)) (by subst ha8; subst ha9; rfl) ?_
      obtain rfl := Option.some.inj hf
      exact zx_ev_sub (L := [some (.ref 0), some (.int v1), some (.int a8), some (.int a9), none]) (⟨rfl, ⟨rfl, ⟨rfl, ⟨rfl, ⟨trivial, trivial⟩⟩⟩⟩⟩) hK
    · rw [if_neg c7] at hf
      refine zx_ev_ifn zk_120 (P := 1 ≤ r5) (t := 32) (f := 29) rfl rfl c7 ?_
      refine zx_ev_blk zk_120 1 (pc1 := 31) (L1 := [some (.ref 0), some (.int v1), some (.int v2), some (.int v3), some (.int r5)]) (st1 := [.int (-2)]) (h1 := (zx_SC, m6)) rfl ?_
      obtain rfl := Option.some.inj hf
      rw [show out = _ from hK]
      exact zx_ev_ret zk_120 rfl rfl
def l_C_passes_l4 (v1 : Int32) (s0 : Int32 × Int32 × zx_M) : Option ((Int32 × zx_M)) := zx_lp zx_N (fun s : Int32 × Int32 × zx_M => b_C_passes_l4 v1 s.1 s.2.1 s.2.2) s0
theorem el_C_passes_l4 (v1 : Int32) {d : Nat} {out : Option Value × zx_H} : ∀ (n : Nat) (s : Int32 × Int32 × zx_M) (x : (Int32 × zx_M)), zx_lp n (fun s : Int32 × Int32 × zx_M => b_C_passes_l4 v1 s.1 s.2.1 s.2.2) s = some x → kx_C_passes_l4 v1 d out x → zx_Ev (d + 6) 120 4 [some (.ref 0), some (.int v1), some (.int s.1), some (.int s.2.1), none] [] (zx_SC, s.2.2) out := by
  intro n
  induction n with
  | zero => intro s x hl _; simp [zx_lp] at hl
  | succ n ih =>
    intro s x hl hx
    unfold zx_lp at hl
    cases hb : b_C_passes_l4 v1 s.1 s.2.1 s.2.2 with
    | none => simp only [hb] at hl; cases hl
    | some z =>
      simp only [hb] at hl
      cases z with
      | inl s1 => exact eb_C_passes_l4 v1 s.1 s.2.1 s.2.2 hb (ih s1 x hl hx)
      | inr t =>
        simp only [Option.some.injEq] at hl
        subst hl
        exact eb_C_passes_l4 v1 s.1 s.2.1 s.2.2 hb hx
def f_C_passes (v1 : Int32) (m : zx_M) : Option (Int32 × zx_M) := (l_C_passes_l4 v1 (0, 0, m)).bind fun x10 => zx_let x10 fun y11 => some y11
theorem s_C_passes (v1 : Int32) (m : zx_M) {d : Nat} {y : (Int32 × zx_M)} (hf : f_C_passes v1 m = some y) : zx_Ev (d + 6) 120 0 [some (.ref 0), some (.int v1), none, none, none] [] (zx_SC, m) (some (.int y.1), (zx_SC, y.2)) := by
  unfold f_C_passes at hf
  refine zx_ev_blk zk_120 4 (pc1 := 4) (L1 := [some (.ref 0), some (.int v1), some (.int 0), some (.int 0), none]) (st1 := []) (h1 := (zx_SC, m)) rfl ?_
  obtain ⟨x10, hx10, hf⟩ := zx_bind_eq hf
  refine zx_ev_sub (L := [some (.ref 0), some (.int v1), some (.int 0), some (.int 0), none]) (⟨rfl, ⟨rfl, ⟨rfl, ⟨rfl, trivial⟩⟩⟩⟩) (el_C_passes_l4 v1 zx_N (0, 0, m) x10 hx10 ?_)
  obtain ⟨y11, hy11, hf⟩ := zx_let_eq hf
  subst hy11
  obtain rfl := Option.some.inj hf
  rfl
def f_C_pass (v1 : Int32) (v2 : Int32) (v3 : Int32) (m : zx_M) : Option (Int32 × zx_M) := (f_C_isCount v2 m).bind fun r2 => if r2 = 0 then some ((-1), m) else (f_C_isPart v3 m).bind fun r5 => if ¬ r5 = 0 then (f_C_readOrder v1 m).bind fun (r8, m9) => if r8 = 0 then if ¬ v3 = 0 then (f_C_passes v2 m9).bind fun (r13, m14) => some (r13, m14) else (f_C_inOnePass 0 v2 m9).bind fun (r16, m17) => some (r16, m17) else some (r8, m9) else some ((-1), m)
theorem s_C_pass (v1 : Int32) (v2 : Int32) (v3 : Int32) (m : zx_M) {d : Nat} {y : (Int32 × zx_M)} (hf : f_C_pass v1 v2 v3 m = some y) : zx_Ev (d + 78) 118 0 [some (.ref 0), some (.int v1), some (.int v2), some (.int v3), none] [] (zx_SC, m) (some (.int y.1), (zx_SC, y.2)) := by
  unfold f_C_pass at hf
  refine zx_ev_blk zk_118 1 (pc1 := 1) (L1 := [some (.ref 0), some (.int v1), some (.int v2), some (.int v3), none]) (st1 := [.int v2]) (h1 := (zx_SC, m)) rfl ?_
  obtain ⟨r2, hv1, hf⟩ := zx_bind_eq hf
  refine zx_ev_call (d := d + 77) zk_118 (v := some (.int r2)) (h1 := (zx_SC, m)) rfl rfl zt_98 rfl zx_SCn rfl rfl (s_C_isCount _ _ (d := d + 77) hv1) ?_
  by_cases c3 : r2 = 0
  · rw [if_pos c3] at hf
    refine zx_ev_ift zk_118 (P := r2 = 0) (t := 14) (f := 7) rfl rfl c3 ?_
    refine zx_ev_blk zk_118 1 (pc1 := 15) (L1 := [some (.ref 0), some (.int v1), some (.int v2), some (.int v3), none]) (st1 := [.int (-1)]) (h1 := (zx_SC, m)) rfl ?_
    obtain rfl := Option.some.inj hf
    exact zx_ev_ret zk_118 rfl rfl
  · rw [if_neg c3] at hf
    refine zx_ev_ifn zk_118 (P := r2 = 0) (t := 14) (f := 7) rfl rfl c3 ?_
    refine zx_ev_blk zk_118 1 (pc1 := 8) (L1 := [some (.ref 0), some (.int v1), some (.int v2), some (.int v3), none]) (st1 := [.int v3]) (h1 := (zx_SC, m)) rfl ?_
    obtain ⟨r5, hv4, hf⟩ := zx_bind_eq hf
    refine zx_ev_call (d := d + 77) zk_118 (v := some (.int r5)) (h1 := (zx_SC, m)) rfl rfl zt_102 rfl zx_SCn rfl rfl (s_C_isPart _ _ (d := d + 77) hv4) ?_
    by_cases c6 : ¬ r5 = 0
    · rw [if_pos c6] at hf
      refine zx_ev_ift zk_118 (P := ¬ r5 = 0) (t := 16) (f := 14) rfl rfl c6 ?_
      refine zx_ev_blk zk_118 2 (pc1 := 18) (L1 := [some (.ref 0), some (.int v1), some (.int v2), some (.int v3), none]) (st1 := [.int v1, .ref 0]) (h1 := (zx_SC, m)) rfl ?_
      obtain ⟨⟨r8, m9⟩, hv7, hf⟩ := zx_bind_eq hf
      dsimp only at hf
      refine zx_ev_call (d := d + 77) zk_118 (v := some (.int r8)) (h1 := (zx_SC, m9)) rfl rfl zt_103 rfl zx_SCn rfl rfl (s_C_readOrder _ _ (d := d + 0) hv7) ?_
      refine zx_ev_blk zk_118 2 (pc1 := 25) (L1 := [some (.ref 0), some (.int v1), some (.int v2), some (.int v3), some (.int r8)]) (st1 := [.int r8]) (h1 := (zx_SC, m9)) rfl ?_
      by_cases c10 : r8 = 0
      · rw [if_pos c10] at hf
        refine zx_ev_ift zk_118 (P := r8 = 0) (t := 31) (f := 28) rfl rfl c10 ?_
        refine zx_ev_blk zk_118 1 (pc1 := 32) (L1 := [some (.ref 0), some (.int v1), some (.int v2), some (.int v3), some (.int r8)]) (st1 := [.int v3]) (h1 := (zx_SC, m9)) rfl ?_
        by_cases c11 : ¬ v3 = 0
        · rw [if_pos c11] at hf
          refine zx_ev_ift zk_118 (P := ¬ v3 = 0) (t := 44) (f := 35) rfl rfl c11 ?_
          refine zx_ev_blk zk_118 2 (pc1 := 46) (L1 := [some (.ref 0), some (.int v1), some (.int v2), some (.int v3), some (.int r8)]) (st1 := [.int v2, .ref 0]) (h1 := (zx_SC, m9)) rfl ?_
          obtain ⟨⟨r13, m14⟩, hv12, hf⟩ := zx_bind_eq hf
          dsimp only at hf
          refine zx_ev_call (d := d + 77) zk_118 (v := some (.int r13)) (h1 := (zx_SC, m14)) rfl rfl zt_120 rfl zx_SCn rfl rfl (s_C_passes _ _ (d := d + 71) hv12) ?_
          obtain rfl := Option.some.inj hf
          exact zx_ev_ret zk_118 rfl rfl
        · rw [if_neg c11] at hf
          refine zx_ev_ifn zk_118 (P := ¬ v3 = 0) (t := 44) (f := 35) rfl rfl c11 ?_
          refine zx_ev_blk zk_118 3 (pc1 := 38) (L1 := [some (.ref 0), some (.int v1), some (.int v2), some (.int v3), some (.int r8)]) (st1 := [.int v2, .int 0, .ref 0]) (h1 := (zx_SC, m9)) rfl ?_
          obtain ⟨⟨r16, m17⟩, hv15, hf⟩ := zx_bind_eq hf
          dsimp only at hf
          refine zx_ev_call (d := d + 77) zk_118 (v := some (.int r16)) (h1 := (zx_SC, m17)) rfl rfl zt_119 rfl zx_SCn rfl rfl (s_C_inOnePass _ _ _ (d := d + 72) hv15) ?_
          refine zx_ev_blk zk_118 1 (pc1 := 49) (L1 := [some (.ref 0), some (.int v1), some (.int v2), some (.int v3), some (.int r8)]) (st1 := [.int r16]) (h1 := (zx_SC, m17)) rfl ?_
          obtain rfl := Option.some.inj hf
          exact zx_ev_ret zk_118 rfl rfl
      · rw [if_neg c10] at hf
        refine zx_ev_ifn zk_118 (P := r8 = 0) (t := 31) (f := 28) rfl rfl c10 ?_
        refine zx_ev_blk zk_118 1 (pc1 := 30) (L1 := [some (.ref 0), some (.int v1), some (.int v2), some (.int v3), some (.int r8)]) (st1 := [.int r8]) (h1 := (zx_SC, m9)) rfl ?_
        obtain rfl := Option.some.inj hf
        exact zx_ev_ret zk_118 rfl rfl
    · rw [if_neg c6] at hf
      refine zx_ev_ifn zk_118 (P := ¬ r5 = 0) (t := 16) (f := 14) rfl rfl c6 ?_
      refine zx_ev_blk zk_118 1 (pc1 := 15) (L1 := [some (.ref 0), some (.int v1), some (.int v2), some (.int v3), none]) (st1 := [.int (-1)]) (h1 := (zx_SC, m)) rfl ?_
      obtain rfl := Option.some.inj hf
      exact zx_ev_ret zk_118 rfl rfl
def f_C_put (v1 : Int32) (v2 : Int32) (v3 : Int64) (m : zx_M) : Option (Int32 × zx_M) := (f_Shelves_refusalOfPlace v1 v2 m).bind fun r2 => if r2 = 0 then (f_Shelves_set v1 v2 v3 m).bind fun m5 => some (1, m5) else some (r2, m)
theorem s_C_put (v1 : Int32) (v2 : Int32) (v3 : Int64) (m : zx_M) {d : Nat} {y : (Int32 × zx_M)} (hf : f_C_put v1 v2 v3 m = some y) : zx_Ev (d + 3) 152 0 [some (.ref 0), some (.int v1), some (.int v2), some (.long v3), none, none] [] (zx_SC, m) (some (.int y.1), (zx_SC, y.2)) := by
  unfold f_C_put at hf
  refine zx_ev_blk zk_152 4 (pc1 := 6) (L1 := [some (.ref 0), some (.int v1), some (.int v2), some (.long v3), none, none]) (st1 := [.int v2, .int v1, .ref 15]) (h1 := (zx_SC, m)) rfl ?_
  obtain ⟨r2, hv1, hf⟩ := zx_bind_eq hf
  refine zx_ev_call (d := d + 2) zk_152 (v := some (.int r2)) (h1 := (zx_SC, m)) rfl rfl zt_64 rfl zx_SCn rfl rfl (s_Shelves_refusalOfPlace _ _ _ (d := d + 1) hv1) ?_
  refine zx_ev_blk zk_152 2 (pc1 := 13) (L1 := [some (.ref 0), some (.int v1), some (.int v2), some (.long v3), none, some (.int r2)]) (st1 := [.int r2]) (h1 := (zx_SC, m)) rfl ?_
  by_cases c3 : r2 = 0
  · rw [if_pos c3] at hf
    refine zx_ev_ift zk_152 (P := r2 = 0) (t := 19) (f := 16) rfl rfl c3 ?_
    refine zx_ev_blk zk_152 5 (pc1 := 26) (L1 := [some (.ref 0), some (.int v1), some (.int v2), some (.long v3), none, some (.int r2)]) (st1 := [.long v3, .int v2, .int v1, .ref 15]) (h1 := (zx_SC, m)) rfl ?_
    obtain ⟨m5, hv4, hf⟩ := zx_bind_eq hf
    refine zx_ev_call (d := d + 2) zk_152 (v := none) (h1 := (zx_SC, m5)) rfl rfl zt_67 rfl zx_SCn rfl rfl (s_Shelves_set _ _ _ _ (d := d + 0) hv4) ?_
    refine zx_ev_blk zk_152 1 (pc1 := 30) (L1 := [some (.ref 0), some (.int v1), some (.int v2), some (.long v3), none, some (.int r2)]) (st1 := [.int 1]) (h1 := (zx_SC, m5)) rfl ?_
    obtain rfl := Option.some.inj hf
    exact zx_ev_ret zk_152 rfl rfl
  · rw [if_neg c3] at hf
    refine zx_ev_ifn zk_152 (P := r2 = 0) (t := 19) (f := 16) rfl rfl c3 ?_
    refine zx_ev_blk zk_152 1 (pc1 := 18) (L1 := [some (.ref 0), some (.int v1), some (.int v2), some (.long v3), none, some (.int r2)]) (st1 := [.int r2]) (h1 := (zx_SC, m)) rfl ?_
    obtain rfl := Option.some.inj hf
    exact zx_ev_ret zk_152 rfl rfl
def f_C_redo (m : zx_M) : Option (Int32 × zx_M) := (f_Changes_makeAgain m).bind fun (r2, m3) => some (r2, m3)
theorem s_C_redo (m : zx_M) {d : Nat} {y : (Int32 × zx_M)} (hf : f_C_redo m = some y) : zx_Ev (d + 2) 146 0 [some (.ref 0)] [] (zx_SC, m) (some (.int y.1), (zx_SC, y.2)) := by
  unfold f_C_redo at hf
  refine zx_ev_blk zk_146 2 (pc1 := 4) (L1 := [some (.ref 0)]) (st1 := [.ref 4]) (h1 := (zx_SC, m)) rfl ?_
  obtain ⟨⟨r2, m3⟩, hv1, hf⟩ := zx_bind_eq hf
  dsimp only at hf
  refine zx_ev_call (d := d + 1) zk_146 (v := some (.int r2)) (h1 := (zx_SC, m3)) rfl rfl zt_22 rfl zx_SCn rfl rfl (s_Changes_makeAgain _ (d := d + 0) hv1) ?_
  obtain rfl := Option.some.inj hf
  exact zx_ev_ret zk_146 rfl rfl
def kx_C_room_l14 (d : Nat) (out : Option Value × zx_H) : (Int32 × zx_M) → Prop
  | y => out = (some (.int y.1), (zx_SC, y.2))
def kl_C_room_l14 (d : Nat) (out : Option Value × zx_H) : (Int32 × zx_M) ⊕ ((Int32 × zx_M)) → Prop
  | .inl (v3, m) => zx_Ev (d + 78) 122 14 [some (.ref 0), none, none, some (.int v3)] [] (zx_SC, m) out
  | .inr x => kx_C_room_l14 d out x
def b_C_room_l14 (v3 : Int32) (m : zx_M) : Option ((Int32 × zx_M) ⊕ ((Int32 × zx_M))) := if 20 < v3 then some (.inr ((-2), m)) else (f_C_way m).bind fun r7 => (f_C_lineUp v3 r7 m).bind fun m9 => (f_Jumps_meeting_22 m9).bind fun r11 => if ¬ r11 = 0 then zx_let (v3 + 1) fun a13 => some (.inl (a13, m9)) else some (.inr (v3, m9))
theorem eb_C_room_l14 (v3 : Int32) (m : zx_M) {d : Nat} {out : Option Value × zx_H} {y : (Int32 × zx_M) ⊕ ((Int32 × zx_M))} (hf : b_C_room_l14 v3 m = some y) (hK : kl_C_room_l14 d out y) : zx_Ev (d + 78) 122 14 [some (.ref 0), none, none, some (.int v3)] [] (zx_SC, m) out := by
  unfold b_C_room_l14 at hf
  refine zx_ev_blk zk_122 2 (pc1 := 17) (L1 := [some (.ref 0), none, none, some (.int v3)]) (st1 := [.int 20, .int v3]) (h1 := (zx_SC, m)) rfl ?_
  by_cases c5 : 20 < v3
  · rw [if_pos c5] at hf
    refine zx_ev_ift zk_122 (P := 20 < v3) (t := 47) (f := 20) rfl rfl c5 ?_
    refine zx_ev_blk zk_122 1 (pc1 := 49) (L1 := [some (.ref 0), none, none, some (.int v3)]) (st1 := [.int (-2)]) (h1 := (zx_SC, m)) rfl ?_
    obtain rfl := Option.some.inj hf
    rw [show out = _ from hK]
    exact zx_ev_ret zk_122 rfl rfl
  · rw [if_neg c5] at hf
    refine zx_ev_ifn zk_122 (P := 20 < v3) (t := 47) (f := 20) rfl rfl c5 ?_
    refine zx_ev_blk zk_122 3 (pc1 := 23) (L1 := [some (.ref 0), none, none, some (.int v3)]) (st1 := [.ref 0, .int v3, .ref 0]) (h1 := (zx_SC, m)) rfl ?_
    obtain ⟨r7, hv6, hf⟩ := zx_bind_eq hf
    refine zx_ev_call (d := d + 77) zk_122 (v := some (.int r7)) (h1 := (zx_SC, m)) rfl rfl zt_106 rfl zx_SCn rfl rfl (s_C_way _ (d := d + 76) hv6) ?_
    obtain ⟨m9, hv8, hf⟩ := zx_bind_eq hf
    refine zx_ev_call (d := d + 77) zk_122 (v := none) (h1 := (zx_SC, m9)) rfl rfl zt_109 rfl zx_SCn rfl rfl (s_C_lineUp _ _ _ (d := d + 74) hv8) ?_
    refine zx_ev_blk zk_122 2 (pc1 := 33) (L1 := [some (.ref 0), none, none, some (.int v3)]) (st1 := [.ref 22]) (h1 := (zx_SC, m9)) rfl ?_
    obtain ⟨r11, hv10, hf⟩ := zx_bind_eq hf
    refine zx_ev_call (d := d + 77) zk_122 (v := some (.int r11)) (h1 := (zx_SC, m9)) rfl rfl zt_37 rfl zx_SCn rfl rfl (s_Jumps_meeting_22 _ (d := d + 77) hv10) ?_
    by_cases c12 : ¬ r11 = 0
    · rw [if_pos c12] at hf
      refine zx_ev_ift zk_122 (P := ¬ r11 = 0) (t := 41) (f := 39) rfl rfl c12 ?_
      obtain ⟨a13, ha13, hf⟩ := zx_let_eq hf
      refine zx_ev_blk zk_122 2 (pc1 := 14) (L1 := [some (.ref 0), none, none, some (.int a13)]) (st1 := []) (h1 := (zx_SC, m9)) (by subst ha13; rfl) ?_
      obtain rfl := Option.some.inj hf
      exact zx_ev_sub (L := [some (.ref 0), none, none, some (.int a13)]) (⟨rfl, ⟨rfl, trivial⟩⟩) hK
    · rw [if_neg c12] at hf
      refine zx_ev_ifn zk_122 (P := ¬ r11 = 0) (t := 41) (f := 39) rfl rfl c12 ?_
      refine zx_ev_blk zk_122 1 (pc1 := 40) (L1 := [some (.ref 0), none, none, some (.int v3)]) (st1 := [.int v3]) (h1 := (zx_SC, m9)) rfl ?_
      obtain rfl := Option.some.inj hf
      rw [show out = _ from hK]
      exact zx_ev_ret zk_122 rfl rfl
def l_C_room_l14 (s0 : Int32 × zx_M) : Option ((Int32 × zx_M)) := zx_lp zx_N (fun s : Int32 × zx_M => b_C_room_l14 s.1 s.2) s0
theorem el_C_room_l14 {d : Nat} {out : Option Value × zx_H} : ∀ (n : Nat) (s : Int32 × zx_M) (x : (Int32 × zx_M)), zx_lp n (fun s : Int32 × zx_M => b_C_room_l14 s.1 s.2) s = some x → kx_C_room_l14 d out x → zx_Ev (d + 78) 122 14 [some (.ref 0), none, none, some (.int s.1)] [] (zx_SC, s.2) out := by
  intro n
  induction n with
  | zero => intro s x hl _; simp [zx_lp] at hl
  | succ n ih =>
    intro s x hl hx
    unfold zx_lp at hl
    cases hb : b_C_room_l14 s.1 s.2 with
    | none => simp only [hb] at hl; cases hl
    | some z =>
      simp only [hb] at hl
      cases z with
      | inl s1 => exact eb_C_room_l14 s.1 s.2 hb (ih s1 x hl hx)
      | inr t =>
        simp only [Option.some.injEq] at hl
        subst hl
        exact eb_C_room_l14 s.1 s.2 hb hx
def f_C_room (v1 : Int32) (m : zx_M) : Option (Int32 × zx_M) := (f_C_readOrder v1 m).bind fun (r2, m3) => if r2 = 0 then (l_C_room_l14 (1, m3)).bind fun x14 => zx_let x14 fun y15 => some y15 else some (r2, m3)
theorem s_C_room (v1 : Int32) (m : zx_M) {d : Nat} {y : (Int32 × zx_M)} (hf : f_C_room v1 m = some y) : zx_Ev (d + 78) 122 0 [some (.ref 0), some (.int v1), none, none] [] (zx_SC, m) (some (.int y.1), (zx_SC, y.2)) := by
  unfold f_C_room at hf
  refine zx_ev_blk zk_122 2 (pc1 := 2) (L1 := [some (.ref 0), some (.int v1), none, none]) (st1 := [.int v1, .ref 0]) (h1 := (zx_SC, m)) rfl ?_
  obtain ⟨⟨r2, m3⟩, hv1, hf⟩ := zx_bind_eq hf
  dsimp only at hf
  refine zx_ev_call (d := d + 77) zk_122 (v := some (.int r2)) (h1 := (zx_SC, m3)) rfl rfl zt_103 rfl zx_SCn rfl rfl (s_C_readOrder _ _ (d := d + 0) hv1) ?_
  refine zx_ev_blk zk_122 2 (pc1 := 7) (L1 := [some (.ref 0), some (.int v1), some (.int r2), none]) (st1 := [.int r2]) (h1 := (zx_SC, m3)) rfl ?_
  by_cases c4 : r2 = 0
  · rw [if_pos c4] at hf
    refine zx_ev_ift zk_122 (P := r2 = 0) (t := 12) (f := 10) rfl rfl c4 ?_
    refine zx_ev_blk zk_122 2 (pc1 := 14) (L1 := [some (.ref 0), some (.int v1), some (.int r2), some (.int 1)]) (st1 := []) (h1 := (zx_SC, m3)) rfl ?_
    obtain ⟨x14, hx14, hf⟩ := zx_bind_eq hf
    refine zx_ev_sub (L := [some (.ref 0), none, none, some (.int 1)]) (⟨rfl, ⟨trivial, ⟨trivial, ⟨rfl, trivial⟩⟩⟩⟩) (el_C_room_l14 zx_N (1, m3) x14 hx14 ?_)
    obtain ⟨y15, hy15, hf⟩ := zx_let_eq hf
    subst hy15
    obtain rfl := Option.some.inj hf
    rfl
  · rw [if_neg c4] at hf
    refine zx_ev_ifn zk_122 (P := r2 = 0) (t := 12) (f := 10) rfl rfl c4 ?_
    refine zx_ev_blk zk_122 1 (pc1 := 11) (L1 := [some (.ref 0), some (.int v1), some (.int r2), none]) (st1 := [.int r2]) (h1 := (zx_SC, m3)) rfl ?_
    obtain rfl := Option.some.inj hf
    exact zx_ev_ret zk_122 rfl rfl
def f_C_row (v1 : Int32) (v2 : Int32) (v3 : Int32) (m : zx_M) : Option (Int32 × zx_M) := (f_Shelves_isThere v1 m).bind fun r2 => if r2 = 0 then some ((-1), m) else if v2 < 0 then some ((-1), m) else if 4 < v2 then some ((-1), m) else if v3 ≤ 60 then if 0 ≤ v3 then (f_Shelves_lay v1 v2 v3 m).bind fun m9 => some (1, m9) else some ((-14), m) else some ((-1), m)
theorem s_C_row (v1 : Int32) (v2 : Int32) (v3 : Int32) (m : zx_M) {d : Nat} {y : (Int32 × zx_M)} (hf : f_C_row v1 v2 v3 m = some y) : zx_Ev (d + 3) 151 0 [some (.ref 0), some (.int v1), some (.int v2), some (.int v3)] [] (zx_SC, m) (some (.int y.1), (zx_SC, y.2)) := by
  unfold f_C_row at hf
  refine zx_ev_blk zk_151 3 (pc1 := 5) (L1 := [some (.ref 0), some (.int v1), some (.int v2), some (.int v3)]) (st1 := [.int v1, .ref 15]) (h1 := (zx_SC, m)) rfl ?_
  obtain ⟨r2, hv1, hf⟩ := zx_bind_eq hf
  refine zx_ev_call (d := d + 2) zk_151 (v := some (.int r2)) (h1 := (zx_SC, m)) rfl rfl zt_60 rfl zx_SCn rfl rfl (s_Shelves_isThere _ _ (d := d + 2) hv1) ?_
  by_cases c3 : r2 = 0
  · rw [if_pos c3] at hf
    refine zx_ev_ift zk_151 (P := r2 = 0) (t := 26) (f := 11) rfl rfl c3 ?_
    refine zx_ev_blk zk_151 1 (pc1 := 27) (L1 := [some (.ref 0), some (.int v1), some (.int v2), some (.int v3)]) (st1 := [.int (-1)]) (h1 := (zx_SC, m)) rfl ?_
    obtain rfl := Option.some.inj hf
    exact zx_ev_ret zk_151 rfl rfl
  · rw [if_neg c3] at hf
    refine zx_ev_ifn zk_151 (P := r2 = 0) (t := 26) (f := 11) rfl rfl c3 ?_
    refine zx_ev_blk zk_151 1 (pc1 := 12) (L1 := [some (.ref 0), some (.int v1), some (.int v2), some (.int v3)]) (st1 := [.int v2]) (h1 := (zx_SC, m)) rfl ?_
    by_cases c4 : v2 < 0
    · rw [if_pos c4] at hf
      refine zx_ev_ift zk_151 (P := v2 < 0) (t := 26) (f := 15) rfl rfl c4 ?_
      refine zx_ev_blk zk_151 1 (pc1 := 27) (L1 := [some (.ref 0), some (.int v1), some (.int v2), some (.int v3)]) (st1 := [.int (-1)]) (h1 := (zx_SC, m)) rfl ?_
      obtain rfl := Option.some.inj hf
      exact zx_ev_ret zk_151 rfl rfl
    · rw [if_neg c4] at hf
      refine zx_ev_ifn zk_151 (P := v2 < 0) (t := 26) (f := 15) rfl rfl c4 ?_
      refine zx_ev_blk zk_151 2 (pc1 := 17) (L1 := [some (.ref 0), some (.int v1), some (.int v2), some (.int v3)]) (st1 := [.int 4, .int v2]) (h1 := (zx_SC, m)) rfl ?_
      by_cases c5 : 4 < v2
      · rw [if_pos c5] at hf
        refine zx_ev_ift zk_151 (P := 4 < v2) (t := 26) (f := 20) rfl rfl c5 ?_
        refine zx_ev_blk zk_151 1 (pc1 := 27) (L1 := [some (.ref 0), some (.int v1), some (.int v2), some (.int v3)]) (st1 := [.int (-1)]) (h1 := (zx_SC, m)) rfl ?_
        obtain rfl := Option.some.inj hf
        exact zx_ev_ret zk_151 rfl rfl
      · rw [if_neg c5] at hf
        refine zx_ev_ifn zk_151 (P := 4 < v2) (t := 26) (f := 20) rfl rfl c5 ?_
        refine zx_ev_blk zk_151 2 (pc1 := 23) (L1 := [some (.ref 0), some (.int v1), some (.int v2), some (.int v3)]) (st1 := [.int 60, .int v3]) (h1 := (zx_SC, m)) rfl ?_
        by_cases c6 : v3 ≤ 60
        · rw [if_pos c6] at hf
          refine zx_ev_ift zk_151 (P := v3 ≤ 60) (t := 28) (f := 26) rfl rfl c6 ?_
          refine zx_ev_blk zk_151 1 (pc1 := 29) (L1 := [some (.ref 0), some (.int v1), some (.int v2), some (.int v3)]) (st1 := [.int v3]) (h1 := (zx_SC, m)) rfl ?_
          by_cases c7 : 0 ≤ v3
          · rw [if_pos c7] at hf
            refine zx_ev_ift zk_151 (P := 0 ≤ v3) (t := 35) (f := 32) rfl rfl c7 ?_
            refine zx_ev_blk zk_151 5 (pc1 := 42) (L1 := [some (.ref 0), some (.int v1), some (.int v2), some (.int v3)]) (st1 := [.int v3, .int v2, .int v1, .ref 15]) (h1 := (zx_SC, m)) rfl ?_
            obtain ⟨m9, hv8, hf⟩ := zx_bind_eq hf
            refine zx_ev_call (d := d + 2) zk_151 (v := none) (h1 := (zx_SC, m9)) rfl rfl zt_65 rfl zx_SCn rfl rfl (s_Shelves_lay _ _ _ _ (d := d + 0) hv8) ?_
            refine zx_ev_blk zk_151 1 (pc1 := 46) (L1 := [some (.ref 0), some (.int v1), some (.int v2), some (.int v3)]) (st1 := [.int 1]) (h1 := (zx_SC, m9)) rfl ?_
            obtain rfl := Option.some.inj hf
            exact zx_ev_ret zk_151 rfl rfl
          · rw [if_neg c7] at hf
            refine zx_ev_ifn zk_151 (P := 0 ≤ v3) (t := 35) (f := 32) rfl rfl c7 ?_
            refine zx_ev_blk zk_151 1 (pc1 := 34) (L1 := [some (.ref 0), some (.int v1), some (.int v2), some (.int v3)]) (st1 := [.int (-14)]) (h1 := (zx_SC, m)) rfl ?_
            obtain rfl := Option.some.inj hf
            exact zx_ev_ret zk_151 rfl rfl
        · rw [if_neg c6] at hf
          refine zx_ev_ifn zk_151 (P := v3 ≤ 60) (t := 28) (f := 26) rfl rfl c6 ?_
          refine zx_ev_blk zk_151 1 (pc1 := 27) (L1 := [some (.ref 0), some (.int v1), some (.int v2), some (.int v3)]) (st1 := [.int (-1)]) (h1 := (zx_SC, m)) rfl ?_
          obtain rfl := Option.some.inj hf
          exact zx_ev_ret zk_151 rfl rfl
def f_C_runIn (v1 : Int32) (v2 : Int32) (m : zx_M) : Option (Int32 × zx_M) := (f_C_isCount v2 m).bind fun r2 => if ¬ r2 = 0 then (f_C_readOrder v1 m).bind fun (r5, m6) => if r5 = 0 then (f_C_lineUp v2 0 m6).bind fun m9 => (f_C_goodByBestSpot m9).bind fun r11 => (f_C_lineUp v2 1 m9).bind fun m13 => (f_C_goodByBestSpot m13).bind fun r15 => if r15 ≤ r11 then some (0, m13) else some (1, m13) else some (r5, m6) else some ((-1), m)
theorem s_C_runIn (v1 : Int32) (v2 : Int32) (m : zx_M) {d : Nat} {y : (Int32 × zx_M)} (hf : f_C_runIn v1 v2 m = some y) : zx_Ev (d + 78) 121 0 [some (.ref 0), some (.int v1), some (.int v2), none, none] [] (zx_SC, m) (some (.int y.1), (zx_SC, y.2)) := by
  unfold f_C_runIn at hf
  refine zx_ev_blk zk_121 1 (pc1 := 1) (L1 := [some (.ref 0), some (.int v1), some (.int v2), none, none]) (st1 := [.int v2]) (h1 := (zx_SC, m)) rfl ?_
  obtain ⟨r2, hv1, hf⟩ := zx_bind_eq hf
  refine zx_ev_call (d := d + 77) zk_121 (v := some (.int r2)) (h1 := (zx_SC, m)) rfl rfl zt_98 rfl zx_SCn rfl rfl (s_C_isCount _ _ (d := d + 77) hv1) ?_
  by_cases c3 : ¬ r2 = 0
  · rw [if_pos c3] at hf
    refine zx_ev_ift zk_121 (P := ¬ r2 = 0) (t := 9) (f := 7) rfl rfl c3 ?_
    refine zx_ev_blk zk_121 2 (pc1 := 11) (L1 := [some (.ref 0), some (.int v1), some (.int v2), none, none]) (st1 := [.int v1, .ref 0]) (h1 := (zx_SC, m)) rfl ?_
    obtain ⟨⟨r5, m6⟩, hv4, hf⟩ := zx_bind_eq hf
    dsimp only at hf
    refine zx_ev_call (d := d + 77) zk_121 (v := some (.int r5)) (h1 := (zx_SC, m6)) rfl rfl zt_103 rfl zx_SCn rfl rfl (s_C_readOrder _ _ (d := d + 0) hv4) ?_
    refine zx_ev_blk zk_121 2 (pc1 := 16) (L1 := [some (.ref 0), some (.int v1), some (.int v2), some (.int r5), none]) (st1 := [.int r5]) (h1 := (zx_SC, m6)) rfl ?_
    by_cases c7 : r5 = 0
    · rw [if_pos c7] at hf
      refine zx_ev_ift zk_121 (P := r5 = 0) (t := 21) (f := 19) rfl rfl c7 ?_
      refine zx_ev_blk zk_121 3 (pc1 := 24) (L1 := [some (.ref 0), some (.int v1), some (.int v2), some (.int r5), none]) (st1 := [.int 0, .int v2, .ref 0]) (h1 := (zx_SC, m6)) rfl ?_
      obtain ⟨m9, hv8, hf⟩ := zx_bind_eq hf
      refine zx_ev_call (d := d + 77) zk_121 (v := none) (h1 := (zx_SC, m9)) rfl rfl zt_109 rfl zx_SCn rfl rfl (s_C_lineUp _ _ _ (d := d + 74) hv8) ?_
      refine zx_ev_blk zk_121 1 (pc1 := 28) (L1 := [some (.ref 0), some (.int v1), some (.int v2), some (.int r5), none]) (st1 := [.ref 0]) (h1 := (zx_SC, m9)) rfl ?_
      obtain ⟨r11, hv10, hf⟩ := zx_bind_eq hf
      refine zx_ev_call (d := d + 77) zk_121 (v := some (.int r11)) (h1 := (zx_SC, m9)) rfl rfl zt_112 rfl zx_SCn rfl rfl (s_C_goodByBestSpot _ (d := d + 73) hv10) ?_
      refine zx_ev_blk zk_121 4 (pc1 := 36) (L1 := [some (.ref 0), some (.int v1), some (.int v2), some (.int r5), some (.int r11)]) (st1 := [.int 1, .int v2, .ref 0]) (h1 := (zx_SC, m9)) rfl ?_
      obtain ⟨m13, hv12, hf⟩ := zx_bind_eq hf
      refine zx_ev_call (d := d + 77) zk_121 (v := none) (h1 := (zx_SC, m13)) rfl rfl zt_109 rfl zx_SCn rfl rfl (s_C_lineUp _ _ _ (d := d + 74) hv12) ?_
      refine zx_ev_blk zk_121 1 (pc1 := 40) (L1 := [some (.ref 0), some (.int v1), some (.int v2), some (.int r5), some (.int r11)]) (st1 := [.ref 0]) (h1 := (zx_SC, m13)) rfl ?_
      obtain ⟨r15, hv14, hf⟩ := zx_bind_eq hf
      refine zx_ev_call (d := d + 77) zk_121 (v := some (.int r15)) (h1 := (zx_SC, m13)) rfl rfl zt_112 rfl zx_SCn rfl rfl (s_C_goodByBestSpot _ (d := d + 73) hv14) ?_
      refine zx_ev_blk zk_121 1 (pc1 := 45) (L1 := [some (.ref 0), some (.int v1), some (.int v2), some (.int r5), some (.int r11)]) (st1 := [.int r11, .int r15]) (h1 := (zx_SC, m13)) rfl ?_
      by_cases c16 : r15 ≤ r11
      · rw [if_pos c16] at hf
        refine zx_ev_ift zk_121 (P := r15 ≤ r11) (t := 52) (f := 48) rfl rfl c16 ?_
        refine zx_ev_blk zk_121 1 (pc1 := 53) (L1 := [some (.ref 0), some (.int v1), some (.int v2), some (.int r5), some (.int r11)]) (st1 := [.int 0]) (h1 := (zx_SC, m13)) rfl ?_
        obtain rfl := Option.some.inj hf
        exact zx_ev_ret zk_121 rfl rfl
      · rw [if_neg c16] at hf
        refine zx_ev_ifn zk_121 (P := r15 ≤ r11) (t := 52) (f := 48) rfl rfl c16 ?_
        refine zx_ev_blk zk_121 2 (pc1 := 53) (L1 := [some (.ref 0), some (.int v1), some (.int v2), some (.int r5), some (.int r11)]) (st1 := [.int 1]) (h1 := (zx_SC, m13)) rfl ?_
        obtain rfl := Option.some.inj hf
        exact zx_ev_ret zk_121 rfl rfl
    · rw [if_neg c7] at hf
      refine zx_ev_ifn zk_121 (P := r5 = 0) (t := 21) (f := 19) rfl rfl c7 ?_
      refine zx_ev_blk zk_121 1 (pc1 := 20) (L1 := [some (.ref 0), some (.int v1), some (.int v2), some (.int r5), none]) (st1 := [.int r5]) (h1 := (zx_SC, m6)) rfl ?_
      obtain rfl := Option.some.inj hf
      exact zx_ev_ret zk_121 rfl rfl
  · rw [if_neg c3] at hf
    refine zx_ev_ifn zk_121 (P := ¬ r2 = 0) (t := 9) (f := 7) rfl rfl c3 ?_
    refine zx_ev_blk zk_121 1 (pc1 := 8) (L1 := [some (.ref 0), some (.int v1), some (.int v2), none, none]) (st1 := [.int (-1)]) (h1 := (zx_SC, m)) rfl ?_
    obtain rfl := Option.some.inj hf
    exact zx_ev_ret zk_121 rfl rfl
def f_C_shift (v1 : Int32) (v2 : Int32) (v3 : Int32) (v4 : Int32) (v5 : Int32) (m : zx_M) : Option (Int32 × zx_M) := (f_Shelves_isThere v1 m).bind fun r2 => if r2 = 0 then some ((-1), m) else (f_Shelves_isThere v3 m).bind fun r5 => if ¬ r5 = 0 then (f_Shelves_holds v1 m).bind fun r8 => if r8 = (-1) then some ((-11), m) else (f_Shelves_holds v3 m).bind fun r11 => if ¬ r11 = (-1) then if r8 = (-2) then some ((-12), m) else (f_Shelves_holds v3 m).bind fun r15 => if r8 = r15 then (f_Shelves_copy v1 v2 v3 v4 v5 m).bind fun (r18, m19) => some (r18, m19) else some ((-12), m) else some ((-11), m) else some ((-1), m)
theorem s_C_shift (v1 : Int32) (v2 : Int32) (v3 : Int32) (v4 : Int32) (v5 : Int32) (m : zx_M) {d : Nat} {y : (Int32 × zx_M)} (hf : f_C_shift v1 v2 v3 v4 v5 m = some y) : zx_Ev (d + 2) 154 0 [some (.ref 0), some (.int v1), some (.int v2), some (.int v3), some (.int v4), some (.int v5), none] [] (zx_SC, m) (some (.int y.1), (zx_SC, y.2)) := by
  unfold f_C_shift at hf
  refine zx_ev_blk zk_154 3 (pc1 := 5) (L1 := [some (.ref 0), some (.int v1), some (.int v2), some (.int v3), some (.int v4), some (.int v5), none]) (st1 := [.int v1, .ref 15]) (h1 := (zx_SC, m)) rfl ?_
  obtain ⟨r2, hv1, hf⟩ := zx_bind_eq hf
  refine zx_ev_call (d := d + 1) zk_154 (v := some (.int r2)) (h1 := (zx_SC, m)) rfl rfl zt_60 rfl zx_SCn rfl rfl (s_Shelves_isThere _ _ (d := d + 1) hv1) ?_
  by_cases c3 : r2 = 0
  · rw [if_pos c3] at hf
    refine zx_ev_ift zk_154 (P := r2 = 0) (t := 22) (f := 11) rfl rfl c3 ?_
    refine zx_ev_blk zk_154 1 (pc1 := 23) (L1 := [some (.ref 0), some (.int v1), some (.int v2), some (.int v3), some (.int v4), some (.int v5), none]) (st1 := [.int (-1)]) (h1 := (zx_SC, m)) rfl ?_
    obtain rfl := Option.some.inj hf
    exact zx_ev_ret zk_154 rfl rfl
  · rw [if_neg c3] at hf
    refine zx_ev_ifn zk_154 (P := r2 = 0) (t := 22) (f := 11) rfl rfl c3 ?_
    refine zx_ev_blk zk_154 3 (pc1 := 16) (L1 := [some (.ref 0), some (.int v1), some (.int v2), some (.int v3), some (.int v4), some (.int v5), none]) (st1 := [.int v3, .ref 15]) (h1 := (zx_SC, m)) rfl ?_
    obtain ⟨r5, hv4, hf⟩ := zx_bind_eq hf
    refine zx_ev_call (d := d + 1) zk_154 (v := some (.int r5)) (h1 := (zx_SC, m)) rfl rfl zt_60 rfl zx_SCn rfl rfl (s_Shelves_isThere _ _ (d := d + 1) hv4) ?_
    by_cases c6 : ¬ r5 = 0
    · rw [if_pos c6] at hf
      refine zx_ev_ift zk_154 (P := ¬ r5 = 0) (t := 24) (f := 22) rfl rfl c6 ?_
      refine zx_ev_blk zk_154 3 (pc1 := 29) (L1 := [some (.ref 0), some (.int v1), some (.int v2), some (.int v3), some (.int v4), some (.int v5), none]) (st1 := [.int v1, .ref 15]) (h1 := (zx_SC, m)) rfl ?_
      obtain ⟨r8, hv7, hf⟩ := zx_bind_eq hf
      refine zx_ev_call (d := d + 1) zk_154 (v := some (.int r8)) (h1 := (zx_SC, m)) rfl rfl zt_61 rfl zx_SCn rfl rfl (s_Shelves_holds _ _ (d := d + 0) hv7) ?_
      refine zx_ev_blk zk_154 3 (pc1 := 37) (L1 := [some (.ref 0), some (.int v1), some (.int v2), some (.int v3), some (.int v4), some (.int v5), some (.int r8)]) (st1 := [.int (-1), .int r8]) (h1 := (zx_SC, m)) rfl ?_
      by_cases c9 : r8 = (-1)
      · rw [if_pos c9] at hf
        refine zx_ev_ift zk_154 (P := r8 = (-1)) (t := 52) (f := 40) rfl rfl c9 ?_
        refine zx_ev_blk zk_154 1 (pc1 := 54) (L1 := [some (.ref 0), some (.int v1), some (.int v2), some (.int v3), some (.int v4), some (.int v5), some (.int r8)]) (st1 := [.int (-11)]) (h1 := (zx_SC, m)) rfl ?_
        obtain rfl := Option.some.inj hf
        exact zx_ev_ret zk_154 rfl rfl
      · rw [if_neg c9] at hf
        refine zx_ev_ifn zk_154 (P := r8 = (-1)) (t := 52) (f := 40) rfl rfl c9 ?_
        refine zx_ev_blk zk_154 3 (pc1 := 45) (L1 := [some (.ref 0), some (.int v1), some (.int v2), some (.int v3), some (.int v4), some (.int v5), some (.int r8)]) (st1 := [.int v3, .ref 15]) (h1 := (zx_SC, m)) rfl ?_
        obtain ⟨r11, hv10, hf⟩ := zx_bind_eq hf
        refine zx_ev_call (d := d + 1) zk_154 (v := some (.int r11)) (h1 := (zx_SC, m)) rfl rfl zt_61 rfl zx_SCn rfl rfl (s_Shelves_holds _ _ (d := d + 0) hv10) ?_
        refine zx_ev_blk zk_154 1 (pc1 := 49) (L1 := [some (.ref 0), some (.int v1), some (.int v2), some (.int v3), some (.int v4), some (.int v5), some (.int r8)]) (st1 := [.int (-1), .int r11]) (h1 := (zx_SC, m)) rfl ?_
        by_cases c12 : ¬ r11 = (-1)
        · rw [if_pos c12] at hf
          refine zx_ev_ift zk_154 (P := ¬ r11 = (-1)) (t := 55) (f := 52) rfl rfl c12 ?_
          refine zx_ev_blk zk_154 2 (pc1 := 59) (L1 := [some (.ref 0), some (.int v1), some (.int v2), some (.int v3), some (.int v4), some (.int v5), some (.int r8)]) (st1 := [.int (-2), .int r8]) (h1 := (zx_SC, m)) rfl ?_
          by_cases c13 : r8 = (-2)
          · rw [if_pos c13] at hf
            refine zx_ev_ift zk_154 (P := r8 = (-2)) (t := 75) (f := 62) rfl rfl c13 ?_
            refine zx_ev_blk zk_154 1 (pc1 := 77) (L1 := [some (.ref 0), some (.int v1), some (.int v2), some (.int v3), some (.int v4), some (.int v5), some (.int r8)]) (st1 := [.int (-12)]) (h1 := (zx_SC, m)) rfl ?_
            obtain rfl := Option.some.inj hf
            exact zx_ev_ret zk_154 rfl rfl
          · rw [if_neg c13] at hf
            refine zx_ev_ifn zk_154 (P := r8 = (-2)) (t := 75) (f := 62) rfl rfl c13 ?_
            refine zx_ev_blk zk_154 4 (pc1 := 69) (L1 := [some (.ref 0), some (.int v1), some (.int v2), some (.int v3), some (.int v4), some (.int v5), some (.int r8)]) (st1 := [.int v3, .ref 15, .int r8]) (h1 := (zx_SC, m)) rfl ?_
            obtain ⟨r15, hv14, hf⟩ := zx_bind_eq hf
            refine zx_ev_call (d := d + 1) zk_154 (v := some (.int r15)) (h1 := (zx_SC, m)) rfl rfl zt_61 rfl zx_SCn rfl rfl (s_Shelves_holds _ _ (d := d + 0) hv14) ?_
            by_cases c16 : r8 = r15
            · rw [if_pos c16] at hf
              refine zx_ev_ift zk_154 (P := r8 = r15) (t := 78) (f := 75) rfl rfl c16 ?_
              refine zx_ev_blk zk_154 7 (pc1 := 89) (L1 := [some (.ref 0), some (.int v1), some (.int v2), some (.int v3), some (.int v4), some (.int v5), some (.int r8)]) (st1 := [.int v5, .int v4, .int v3, .int v2, .int v1, .ref 15]) (h1 := (zx_SC, m)) rfl ?_
              obtain ⟨⟨r18, m19⟩, hv17, hf⟩ := zx_bind_eq hf
              dsimp only at hf
              refine zx_ev_call (d := d + 1) zk_154 (v := some (.int r18)) (h1 := (zx_SC, m19)) rfl rfl zt_69 rfl zx_SCn rfl rfl (s_Shelves_copy _ _ _ _ _ _ (d := d + 0) hv17) ?_
              obtain rfl := Option.some.inj hf
              exact zx_ev_ret zk_154 rfl rfl
            · rw [if_neg c16] at hf
              refine zx_ev_ifn zk_154 (P := r8 = r15) (t := 78) (f := 75) rfl rfl c16 ?_
              refine zx_ev_blk zk_154 1 (pc1 := 77) (L1 := [some (.ref 0), some (.int v1), some (.int v2), some (.int v3), some (.int v4), some (.int v5), some (.int r8)]) (st1 := [.int (-12)]) (h1 := (zx_SC, m)) rfl ?_
              obtain rfl := Option.some.inj hf
              exact zx_ev_ret zk_154 rfl rfl
        · rw [if_neg c12] at hf
          refine zx_ev_ifn zk_154 (P := ¬ r11 = (-1)) (t := 55) (f := 52) rfl rfl c12 ?_
          refine zx_ev_blk zk_154 1 (pc1 := 54) (L1 := [some (.ref 0), some (.int v1), some (.int v2), some (.int v3), some (.int v4), some (.int v5), some (.int r8)]) (st1 := [.int (-11)]) (h1 := (zx_SC, m)) rfl ?_
          obtain rfl := Option.some.inj hf
          exact zx_ev_ret zk_154 rfl rfl
    · rw [if_neg c6] at hf
      refine zx_ev_ifn zk_154 (P := ¬ r5 = 0) (t := 24) (f := 22) rfl rfl c6 ?_
      refine zx_ev_blk zk_154 1 (pc1 := 23) (L1 := [some (.ref 0), some (.int v1), some (.int v2), some (.int v3), some (.int v4), some (.int v5), none]) (st1 := [.int (-1)]) (h1 := (zx_SC, m)) rfl ?_
      obtain rfl := Option.some.inj hf
      exact zx_ev_ret zk_154 rfl rfl
def f_C_spotFor (v1 : Int32) (v2 : Int32) (v3 : Int32) (m : zx_M) : Option (Int32 × zx_M) := (f_C_isCount v2 m).bind fun r2 => if r2 = 0 then some ((-2000000000), m) else (f_C_isPart v3 m).bind fun r5 => if r5 = 0 then some ((-2000000000), m) else (f_C_readOrder v1 m).bind fun (r8, m9) => if r8 = 0 then (f_C_way m9).bind fun r12 => (f_C_lineUp v2 r12 m9).bind fun m14 => (f_C_bestSpot m14).bind fun r16 => if ¬ v3 = 0 then some (r16, m14) else (f_Jumps_good_22 r16 m14).bind fun r19 => some (r19, m14) else some ((-2000000000), m9)
theorem s_C_spotFor (v1 : Int32) (v2 : Int32) (v3 : Int32) (m : zx_M) {d : Nat} {y : (Int32 × zx_M)} (hf : f_C_spotFor v1 v2 v3 m = some y) : zx_Ev (d + 78) 115 0 [some (.ref 0), some (.int v1), some (.int v2), some (.int v3), none] [] (zx_SC, m) (some (.int y.1), (zx_SC, y.2)) := by
  unfold f_C_spotFor at hf
  refine zx_ev_blk zk_115 1 (pc1 := 1) (L1 := [some (.ref 0), some (.int v1), some (.int v2), some (.int v3), none]) (st1 := [.int v2]) (h1 := (zx_SC, m)) rfl ?_
  obtain ⟨r2, hv1, hf⟩ := zx_bind_eq hf
  refine zx_ev_call (d := d + 77) zk_115 (v := some (.int r2)) (h1 := (zx_SC, m)) rfl rfl zt_98 rfl zx_SCn rfl rfl (s_C_isCount _ _ (d := d + 77) hv1) ?_
  by_cases c3 : r2 = 0
  · rw [if_pos c3] at hf
    refine zx_ev_ift zk_115 (P := r2 = 0) (t := 22) (f := 7) rfl rfl c3 ?_
    refine zx_ev_blk zk_115 1 (pc1 := 24) (L1 := [some (.ref 0), some (.int v1), some (.int v2), some (.int v3), none]) (st1 := [.int (-2000000000)]) (h1 := (zx_SC, m)) rfl ?_
    obtain rfl := Option.some.inj hf
    exact zx_ev_ret zk_115 rfl rfl
  · rw [if_neg c3] at hf
    refine zx_ev_ifn zk_115 (P := r2 = 0) (t := 22) (f := 7) rfl rfl c3 ?_
    refine zx_ev_blk zk_115 1 (pc1 := 8) (L1 := [some (.ref 0), some (.int v1), some (.int v2), some (.int v3), none]) (st1 := [.int v3]) (h1 := (zx_SC, m)) rfl ?_
    obtain ⟨r5, hv4, hf⟩ := zx_bind_eq hf
    refine zx_ev_call (d := d + 77) zk_115 (v := some (.int r5)) (h1 := (zx_SC, m)) rfl rfl zt_102 rfl zx_SCn rfl rfl (s_C_isPart _ _ (d := d + 77) hv4) ?_
    by_cases c6 : r5 = 0
    · rw [if_pos c6] at hf
      refine zx_ev_ift zk_115 (P := r5 = 0) (t := 22) (f := 14) rfl rfl c6 ?_
      refine zx_ev_blk zk_115 1 (pc1 := 24) (L1 := [some (.ref 0), some (.int v1), some (.int v2), some (.int v3), none]) (st1 := [.int (-2000000000)]) (h1 := (zx_SC, m)) rfl ?_
      obtain rfl := Option.some.inj hf
      exact zx_ev_ret zk_115 rfl rfl
    · rw [if_neg c6] at hf
      refine zx_ev_ifn zk_115 (P := r5 = 0) (t := 22) (f := 14) rfl rfl c6 ?_
      refine zx_ev_blk zk_115 2 (pc1 := 16) (L1 := [some (.ref 0), some (.int v1), some (.int v2), some (.int v3), none]) (st1 := [.int v1, .ref 0]) (h1 := (zx_SC, m)) rfl ?_
      obtain ⟨⟨r8, m9⟩, hv7, hf⟩ := zx_bind_eq hf
      dsimp only at hf
      refine zx_ev_call (d := d + 77) zk_115 (v := some (.int r8)) (h1 := (zx_SC, m9)) rfl rfl zt_103 rfl zx_SCn rfl rfl (s_C_readOrder _ _ (d := d + 0) hv7) ?_
      by_cases c10 : r8 = 0
      · rw [if_pos c10] at hf
        refine zx_ev_ift zk_115 (P := r8 = 0) (t := 25) (f := 22) rfl rfl c10 ?_
        refine zx_ev_blk zk_115 3 (pc1 := 28) (L1 := [some (.ref 0), some (.int v1), some (.int v2), some (.int v3), none]) (st1 := [.ref 0, .int v2, .ref 0]) (h1 := (zx_SC, m9)) rfl ?_
        obtain ⟨r12, hv11, hf⟩ := zx_bind_eq hf
        refine zx_ev_call (d := d + 77) zk_115 (v := some (.int r12)) (h1 := (zx_SC, m9)) rfl rfl zt_106 rfl zx_SCn rfl rfl (s_C_way _ (d := d + 76) hv11) ?_
        obtain ⟨m14, hv13, hf⟩ := zx_bind_eq hf
        refine zx_ev_call (d := d + 77) zk_115 (v := none) (h1 := (zx_SC, m14)) rfl rfl zt_109 rfl zx_SCn rfl rfl (s_C_lineUp _ _ _ (d := d + 74) hv13) ?_
        refine zx_ev_blk zk_115 1 (pc1 := 35) (L1 := [some (.ref 0), some (.int v1), some (.int v2), some (.int v3), none]) (st1 := [.ref 0]) (h1 := (zx_SC, m14)) rfl ?_
        obtain ⟨r16, hv15, hf⟩ := zx_bind_eq hf
        refine zx_ev_call (d := d + 77) zk_115 (v := some (.int r16)) (h1 := (zx_SC, m14)) rfl rfl zt_111 rfl zx_SCn rfl rfl (s_C_bestSpot _ (d := d + 74) hv15) ?_
        refine zx_ev_blk zk_115 2 (pc1 := 41) (L1 := [some (.ref 0), some (.int v1), some (.int v2), some (.int v3), some (.int r16)]) (st1 := [.int v3]) (h1 := (zx_SC, m14)) rfl ?_
        by_cases c17 : ¬ v3 = 0
        · rw [if_pos c17] at hf
          refine zx_ev_ift zk_115 (P := ¬ v3 = 0) (t := 56) (f := 44) rfl rfl c17 ?_
          refine zx_ev_blk zk_115 1 (pc1 := 58) (L1 := [some (.ref 0), some (.int v1), some (.int v2), some (.int v3), some (.int r16)]) (st1 := [.int r16]) (h1 := (zx_SC, m14)) rfl ?_
          obtain rfl := Option.some.inj hf
          exact zx_ev_ret zk_115 rfl rfl
        · rw [if_neg c17] at hf
          refine zx_ev_ifn zk_115 (P := ¬ v3 = 0) (t := 56) (f := 44) rfl rfl c17 ?_
          refine zx_ev_blk zk_115 3 (pc1 := 50) (L1 := [some (.ref 0), some (.int v1), some (.int v2), some (.int v3), some (.int r16)]) (st1 := [.int r16, .ref 22]) (h1 := (zx_SC, m14)) rfl ?_
          obtain ⟨r19, hv18, hf⟩ := zx_bind_eq hf
          refine zx_ev_call (d := d + 77) zk_115 (v := some (.int r19)) (h1 := (zx_SC, m14)) rfl rfl zt_39 rfl zx_SCn rfl rfl (s_Jumps_good_22 _ _ (d := d + 75) hv18) ?_
          refine zx_ev_blk zk_115 1 (pc1 := 58) (L1 := [some (.ref 0), some (.int v1), some (.int v2), some (.int v3), some (.int r16)]) (st1 := [.int r19]) (h1 := (zx_SC, m14)) rfl ?_
          obtain rfl := Option.some.inj hf
          exact zx_ev_ret zk_115 rfl rfl
      · rw [if_neg c10] at hf
        refine zx_ev_ifn zk_115 (P := r8 = 0) (t := 25) (f := 22) rfl rfl c10 ?_
        refine zx_ev_blk zk_115 1 (pc1 := 24) (L1 := [some (.ref 0), some (.int v1), some (.int v2), some (.int v3), none]) (st1 := [.int (-2000000000)]) (h1 := (zx_SC, m9)) rfl ?_
        obtain rfl := Option.some.inj hf
        exact zx_ev_ret zk_115 rfl rfl
def kx_C_goodWithout_l9 (v1 : Int32) (v2 : Int32) (d : Nat) (out : Option Value × zx_H) : zx_M → Prop
  | m => zx_Ev (d + 3) 125 46 [some (.ref 0), none, some (.int v2), none] [] (zx_SC, m) out
def kl_C_goodWithout_l9 (v1 : Int32) (v2 : Int32) (d : Nat) (out : Option Value × zx_H) : (Int32 × zx_M) ⊕ (zx_M) → Prop
  | .inl (v3, m) => zx_Ev (d + 3) 125 9 [some (.ref 0), some (.int v1), some (.int v2), some (.int v3)] [] (zx_SC, m) out
  | .inr x => kx_C_goodWithout_l9 v1 v2 d out x
def n_C_goodWithout_b9_40 (v1 : Int32) (v2 : Int32) (v3 : Int32) (m : zx_M) : Option ((Int32 × zx_M) ⊕ (zx_M)) := zx_let (v3 + 1) fun a7 => some (.inl (a7, m))
theorem e_C_goodWithout_b9_40 (v1 : Int32) (v2 : Int32) (v3 : Int32) (m : zx_M) {d : Nat} {out : Option Value × zx_H} {y : (Int32 × zx_M) ⊕ (zx_M)} (hf : n_C_goodWithout_b9_40 v1 v2 v3 m = some y) (hK : kl_C_goodWithout_l9 v1 v2 d out y) : zx_Ev (d + 3) 125 40 [some (.ref 0), some (.int v1), some (.int v2), some (.int v3)] [] (zx_SC, m) out := by
  unfold n_C_goodWithout_b9_40 at hf
  obtain ⟨a7, ha7, hf⟩ := zx_let_eq hf
  refine zx_ev_blk zk_125 2 (pc1 := 9) (L1 := [some (.ref 0), some (.int v1), some (.int v2), some (.int a7)]) (st1 := []) (h1 := (zx_SC, m)) (by subst ha7; rfl) ?_
  obtain rfl := Option.some.inj hf
  exact zx_ev_sub (L := [some (.ref 0), some (.int v1), some (.int v2), some (.int a7)]) (⟨rfl, ⟨rfl, ⟨rfl, ⟨rfl, trivial⟩⟩⟩⟩) hK
def b_C_goodWithout_l9 (v1 : Int32) (v2 : Int32) (v3 : Int32) (m : zx_M) : Option ((Int32 × zx_M) ⊕ (zx_M)) := (f_Order_size m).bind fun r4 => if r4 ≤ v3 then some (.inr m) else if v3 = v1 then n_C_goodWithout_b9_40 v1 v2 v3 m else (f_C_countOf v2 m).bind fun r9 => (f_C_way m).bind fun r11 => (f_C_sendOut v3 (v3 * r9) r11 m).bind fun m13 => n_C_goodWithout_b9_40 v1 v2 v3 m13
theorem eb_C_goodWithout_l9 (v1 : Int32) (v2 : Int32) (v3 : Int32) (m : zx_M) {d : Nat} {out : Option Value × zx_H} {y : (Int32 × zx_M) ⊕ (zx_M)} (hf : b_C_goodWithout_l9 v1 v2 v3 m = some y) (hK : kl_C_goodWithout_l9 v1 v2 d out y) : zx_Ev (d + 3) 125 9 [some (.ref 0), some (.int v1), some (.int v2), some (.int v3)] [] (zx_SC, m) out := by
  unfold b_C_goodWithout_l9 at hf
  refine zx_ev_blk zk_125 3 (pc1 := 14) (L1 := [some (.ref 0), some (.int v1), some (.int v2), some (.int v3)]) (st1 := [.ref 19, .int v3]) (h1 := (zx_SC, m)) rfl ?_
  obtain ⟨r4, hv3, hf⟩ := zx_bind_eq hf
  refine zx_ev_call (d := d + 2) zk_125 (v := some (.int r4)) (h1 := (zx_SC, m)) rfl rfl zt_51 rfl zx_SCn rfl rfl (s_Order_size _ (d := d + 2) hv3) ?_
  by_cases c5 : r4 ≤ v3
  · rw [if_pos c5] at hf
    refine zx_ev_ift zk_125 (P := r4 ≤ v3) (t := 46) (f := 20) rfl rfl c5 ?_
    obtain rfl := Option.some.inj hf
    exact zx_ev_sub (L := [some (.ref 0), none, some (.int v2), none]) (⟨rfl, ⟨trivial, ⟨rfl, ⟨trivial, trivial⟩⟩⟩⟩) hK
  · rw [if_neg c5] at hf
    refine zx_ev_ifn zk_125 (P := r4 ≤ v3) (t := 46) (f := 20) rfl rfl c5 ?_
    refine zx_ev_blk zk_125 2 (pc1 := 22) (L1 := [some (.ref 0), some (.int v1), some (.int v2), some (.int v3)]) (st1 := [.int v1, .int v3]) (h1 := (zx_SC, m)) rfl ?_
    by_cases c6 : v3 = v1
    · rw [if_pos c6] at hf
      refine zx_ev_ift zk_125 (P := v3 = v1) (t := 40) (f := 25) rfl rfl c6 ?_
      exact zx_ev_sub (L := [some (.ref 0), some (.int v1), some (.int v2), some (.int v3)]) (⟨rfl, ⟨rfl, ⟨rfl, ⟨rfl, trivial⟩⟩⟩⟩) (e_C_goodWithout_b9_40 v1 v2 v3 m hf hK)
    · rw [if_neg c6] at hf
      refine zx_ev_ifn zk_125 (P := v3 = v1) (t := 40) (f := 25) rfl rfl c6 ?_
      refine zx_ev_blk zk_125 4 (pc1 := 29) (L1 := [some (.ref 0), some (.int v1), some (.int v2), some (.int v3)]) (st1 := [.int v2, .int v3, .int v3, .ref 0]) (h1 := (zx_SC, m)) rfl ?_
      obtain ⟨r9, hv8, hf⟩ := zx_bind_eq hf
      refine zx_ev_call (d := d + 2) zk_125 (v := some (.int r9)) (h1 := (zx_SC, m)) rfl rfl zt_101 rfl zx_SCn rfl rfl (s_C_countOf _ _ (d := d + 2) hv8) ?_
      refine zx_ev_blk zk_125 2 (pc1 := 34) (L1 := [some (.ref 0), some (.int v1), some (.int v2), some (.int v3)]) (st1 := [.ref 0, .int (v3 * r9), .int v3, .ref 0]) (h1 := (zx_SC, m)) rfl ?_
      obtain ⟨r11, hv10, hf⟩ := zx_bind_eq hf
      refine zx_ev_call (d := d + 2) zk_125 (v := some (.int r11)) (h1 := (zx_SC, m)) rfl rfl zt_106 rfl zx_SCn rfl rfl (s_C_way _ (d := d + 1) hv10) ?_
      obtain ⟨m13, hv12, hf⟩ := zx_bind_eq hf
      refine zx_ev_call (d := d + 2) zk_125 (v := none) (h1 := (zx_SC, m13)) rfl rfl zt_108 rfl zx_SCn rfl rfl (s_C_sendOut _ _ _ _ (d := d + 0) hv12) ?_
      exact zx_ev_sub (L := [some (.ref 0), some (.int v1), some (.int v2), some (.int v3)]) (⟨rfl, ⟨rfl, ⟨rfl, ⟨rfl, trivial⟩⟩⟩⟩) (e_C_goodWithout_b9_40 v1 v2 v3 m13 hf hK)
def l_C_goodWithout_l9 (v1 : Int32) (v2 : Int32) (s0 : Int32 × zx_M) : Option (zx_M) := zx_lp zx_N (fun s : Int32 × zx_M => b_C_goodWithout_l9 v1 v2 s.1 s.2) s0
theorem el_C_goodWithout_l9 (v1 : Int32) (v2 : Int32) {d : Nat} {out : Option Value × zx_H} : ∀ (n : Nat) (s : Int32 × zx_M) (x : zx_M), zx_lp n (fun s : Int32 × zx_M => b_C_goodWithout_l9 v1 v2 s.1 s.2) s = some x → kx_C_goodWithout_l9 v1 v2 d out x → zx_Ev (d + 3) 125 9 [some (.ref 0), some (.int v1), some (.int v2), some (.int s.1)] [] (zx_SC, s.2) out := by
  intro n
  induction n with
  | zero => intro s x hl _; simp [zx_lp] at hl
  | succ n ih =>
    intro s x hl hx
    unfold zx_lp at hl
    cases hb : b_C_goodWithout_l9 v1 v2 s.1 s.2 with
    | none => simp only [hb] at hl; cases hl
    | some z =>
      simp only [hb] at hl
      cases z with
      | inl s1 => exact eb_C_goodWithout_l9 v1 v2 s.1 s.2 hb (ih s1 x hl hx)
      | inr t =>
        simp only [Option.some.injEq] at hl
        subst hl
        exact eb_C_goodWithout_l9 v1 v2 s.1 s.2 hb hx
def f_C_goodWithout (v1 : Int32) (v2 : Int32) (m : zx_M) : Option (Int32 × zx_M) := (f_Jumps_clear_22 m).bind fun m2 => (l_C_goodWithout_l9 v1 v2 (0, m2)).bind fun x14 => zx_let x14 fun m15 => (f_C_spotOf v2 m15).bind fun r17 => (f_Jumps_good_22 r17 m15).bind fun r19 => some (r19, m15)
theorem s_C_goodWithout (v1 : Int32) (v2 : Int32) (m : zx_M) {d : Nat} {y : (Int32 × zx_M)} (hf : f_C_goodWithout v1 v2 m = some y) : zx_Ev (d + 3) 125 0 [some (.ref 0), some (.int v1), some (.int v2), none] [] (zx_SC, m) (some (.int y.1), (zx_SC, y.2)) := by
  unfold f_C_goodWithout at hf
  refine zx_ev_blk zk_125 2 (pc1 := 4) (L1 := [some (.ref 0), some (.int v1), some (.int v2), none]) (st1 := [.ref 22]) (h1 := (zx_SC, m)) rfl ?_
  obtain ⟨m2, hv1, hf⟩ := zx_bind_eq hf
  refine zx_ev_call (d := d + 2) zk_125 (v := none) (h1 := (zx_SC, m2)) rfl rfl zt_33 rfl zx_SCn rfl rfl (s_Jumps_clear_22 _ (d := d + 2) hv1) ?_
  refine zx_ev_blk zk_125 2 (pc1 := 9) (L1 := [some (.ref 0), some (.int v1), some (.int v2), some (.int 0)]) (st1 := []) (h1 := (zx_SC, m2)) rfl ?_
  obtain ⟨x14, hx14, hf⟩ := zx_bind_eq hf
  refine zx_ev_sub (L := [some (.ref 0), some (.int v1), some (.int v2), some (.int 0)]) (⟨rfl, ⟨rfl, ⟨rfl, ⟨rfl, trivial⟩⟩⟩⟩) (el_C_goodWithout_l9 v1 v2 zx_N (0, m2) x14 hx14 ?_)
  obtain ⟨m15, hm15, hf⟩ := zx_let_eq hf
  subst hm15
  show zx_Ev (d + 3) 125 46 [some (.ref 0), none, some (.int v2), none] [] (zx_SC, x14) _
  refine zx_ev_blk zk_125 3 (pc1 := 51) (L1 := [some (.ref 0), none, some (.int v2), none]) (st1 := [.int v2, .ref 22]) (h1 := (zx_SC, x14)) rfl ?_
  obtain ⟨r17, hv16, hf⟩ := zx_bind_eq hf
  refine zx_ev_call (d := d + 2) zk_125 (v := some (.int r17)) (h1 := (zx_SC, x14)) rfl rfl zt_100 rfl zx_SCn rfl rfl (s_C_spotOf _ _ (d := d + 2) hv16) ?_
  obtain ⟨r19, hv18, hf⟩ := zx_bind_eq hf
  refine zx_ev_call (d := d + 2) zk_125 (v := some (.int r19)) (h1 := (zx_SC, x14)) rfl rfl zt_39 rfl zx_SCn rfl rfl (s_Jumps_good_22 _ _ (d := d + 0) hv18) ?_
  obtain rfl := Option.some.inj hf
  exact zx_ev_ret zk_125 rfl rfl
def f_C_sticks (v1 : Int32) (v2 : Int32) (v3 : Int32) (v4 : Int32) (m : zx_M) : Option (Int32 × zx_M) := (f_C_isSpotAndCount v2 m).bind fun r2 => if r2 = 0 then some ((-1), m) else if v3 < 0 then some ((-1), m) else (f_C_isCount (zx_rem v3 100) m).bind fun r6 => if r6 = 0 then some ((-1), m) else (f_C_isPart v4 m).bind fun r9 => if ¬ r9 = 0 then (f_C_readOrder v1 m).bind fun (r12, m13) => if r12 = 0 then zx_let (v3 / 100) fun a15 => (f_Order_size m13).bind fun r17 => if a15 < r17 then (f_Order_size m13).bind fun r20 => (f_C_goodIfStopped r20 (zx_shl 1 a15) (zx_rem v3 100) v2 m13).bind fun (r22, m23) => if ¬ v4 = 0 then (f_C_goodWithout a15 v2 m23).bind fun (r26, m27) => if r26 ≤ r22 then some (0, m27) else some (1, m27) else some (r22, m23) else some ((-1), m13) else some (r12, m13) else some ((-1), m)
theorem s_C_sticks (v1 : Int32) (v2 : Int32) (v3 : Int32) (v4 : Int32) (m : zx_M) {d : Nat} {y : (Int32 × zx_M)} (hf : f_C_sticks v1 v2 v3 v4 m = some y) : zx_Ev (d + 78) 124 0 [some (.ref 0), some (.int v1), some (.int v2), some (.int v3), some (.int v4), none, none, none] [] (zx_SC, m) (some (.int y.1), (zx_SC, y.2)) := by
  unfold f_C_sticks at hf
  refine zx_ev_blk zk_124 1 (pc1 := 1) (L1 := [some (.ref 0), some (.int v1), some (.int v2), some (.int v3), some (.int v4), none, none, none]) (st1 := [.int v2]) (h1 := (zx_SC, m)) rfl ?_
  obtain ⟨r2, hv1, hf⟩ := zx_bind_eq hf
  refine zx_ev_call (d := d + 77) zk_124 (v := some (.int r2)) (h1 := (zx_SC, m)) rfl rfl zt_99 rfl zx_SCn rfl rfl (s_C_isSpotAndCount _ _ (d := d + 76) hv1) ?_
  by_cases c3 : r2 = 0
  · rw [if_pos c3] at hf
    refine zx_ev_ift zk_124 (P := r2 = 0) (t := 29) (f := 7) rfl rfl c3 ?_
    refine zx_ev_blk zk_124 1 (pc1 := 30) (L1 := [some (.ref 0), some (.int v1), some (.int v2), some (.int v3), some (.int v4), none, none, none]) (st1 := [.int (-1)]) (h1 := (zx_SC, m)) rfl ?_
    obtain rfl := Option.some.inj hf
    exact zx_ev_ret zk_124 rfl rfl
  · rw [if_neg c3] at hf
    refine zx_ev_ifn zk_124 (P := r2 = 0) (t := 29) (f := 7) rfl rfl c3 ?_
    refine zx_ev_blk zk_124 1 (pc1 := 8) (L1 := [some (.ref 0), some (.int v1), some (.int v2), some (.int v3), some (.int v4), none, none, none]) (st1 := [.int v3]) (h1 := (zx_SC, m)) rfl ?_
    by_cases c4 : v3 < 0
    · rw [if_pos c4] at hf
      refine zx_ev_ift zk_124 (P := v3 < 0) (t := 29) (f := 11) rfl rfl c4 ?_
      refine zx_ev_blk zk_124 1 (pc1 := 30) (L1 := [some (.ref 0), some (.int v1), some (.int v2), some (.int v3), some (.int v4), none, none, none]) (st1 := [.int (-1)]) (h1 := (zx_SC, m)) rfl ?_
      obtain rfl := Option.some.inj hf
      exact zx_ev_ret zk_124 rfl rfl
    · rw [if_neg c4] at hf
      refine zx_ev_ifn zk_124 (P := v3 < 0) (t := 29) (f := 11) rfl rfl c4 ?_
      refine zx_ev_blk zk_124 2 (pc1 := 14) (L1 := [some (.ref 0), some (.int v1), some (.int v2), some (.int v3), some (.int v4), none, none, none]) (st1 := [.int 100, .int v3]) (h1 := (zx_SC, m)) rfl ?_
      refine zx_ev_step zk_124 rfl (st_irem (by decide)) ?_
      obtain ⟨r6, hv5, hf⟩ := zx_bind_eq hf
      refine zx_ev_call (d := d + 77) zk_124 (v := some (.int r6)) (h1 := (zx_SC, m)) rfl rfl zt_98 rfl zx_SCn rfl rfl (s_C_isCount _ _ (d := d + 77) hv5) ?_
      by_cases c7 : r6 = 0
      · rw [if_pos c7] at hf
        refine zx_ev_ift zk_124 (P := r6 = 0) (t := 29) (f := 21) rfl rfl c7 ?_
        refine zx_ev_blk zk_124 1 (pc1 := 30) (L1 := [some (.ref 0), some (.int v1), some (.int v2), some (.int v3), some (.int v4), none, none, none]) (st1 := [.int (-1)]) (h1 := (zx_SC, m)) rfl ?_
        obtain rfl := Option.some.inj hf
        exact zx_ev_ret zk_124 rfl rfl
      · rw [if_neg c7] at hf
        refine zx_ev_ifn zk_124 (P := r6 = 0) (t := 29) (f := 21) rfl rfl c7 ?_
        refine zx_ev_blk zk_124 1 (pc1 := 23) (L1 := [some (.ref 0), some (.int v1), some (.int v2), some (.int v3), some (.int v4), none, none, none]) (st1 := [.int v4]) (h1 := (zx_SC, m)) rfl ?_
        obtain ⟨r9, hv8, hf⟩ := zx_bind_eq hf
        refine zx_ev_call (d := d + 77) zk_124 (v := some (.int r9)) (h1 := (zx_SC, m)) rfl rfl zt_102 rfl zx_SCn rfl rfl (s_C_isPart _ _ (d := d + 77) hv8) ?_
        by_cases c10 : ¬ r9 = 0
        · rw [if_pos c10] at hf
          refine zx_ev_ift zk_124 (P := ¬ r9 = 0) (t := 31) (f := 29) rfl rfl c10 ?_
          refine zx_ev_blk zk_124 2 (pc1 := 33) (L1 := [some (.ref 0), some (.int v1), some (.int v2), some (.int v3), some (.int v4), none, none, none]) (st1 := [.int v1, .ref 0]) (h1 := (zx_SC, m)) rfl ?_
          obtain ⟨⟨r12, m13⟩, hv11, hf⟩ := zx_bind_eq hf
          dsimp only at hf
          refine zx_ev_call (d := d + 77) zk_124 (v := some (.int r12)) (h1 := (zx_SC, m13)) rfl rfl zt_103 rfl zx_SCn rfl rfl (s_C_readOrder _ _ (d := d + 0) hv11) ?_
          refine zx_ev_blk zk_124 2 (pc1 := 40) (L1 := [some (.ref 0), some (.int v1), some (.int v2), some (.int v3), some (.int v4), some (.int r12), none, none]) (st1 := [.int r12]) (h1 := (zx_SC, m13)) rfl ?_
          by_cases c14 : r12 = 0
          · rw [if_pos c14] at hf
            refine zx_ev_ift zk_124 (P := r12 = 0) (t := 46) (f := 43) rfl rfl c14 ?_
            refine zx_ev_blk zk_124 2 (pc1 := 49) (L1 := [some (.ref 0), some (.int v1), some (.int v2), some (.int v3), some (.int v4), some (.int r12), none, none]) (st1 := [.int 100, .int v3]) (h1 := (zx_SC, m13)) rfl ?_
            refine zx_ev_step zk_124 rfl (st_idiv (by decide)) ?_
            obtain ⟨a15, ha15, hf⟩ := zx_let_eq hf
            refine zx_ev_blk zk_124 4 (pc1 := 58) (L1 := [some (.ref 0), some (.int v1), some (.int v2), some (.int v3), some (.int v4), some (.int r12), some (.int a15), none]) (st1 := [.ref 19, .int a15]) (h1 := (zx_SC, m13)) (by subst ha15; rfl) ?_
            obtain ⟨r17, hv16, hf⟩ := zx_bind_eq hf
            refine zx_ev_call (d := d + 77) zk_124 (v := some (.int r17)) (h1 := (zx_SC, m13)) rfl rfl zt_51 rfl zx_SCn rfl rfl (s_Order_size _ (d := d + 77) hv16) ?_
            by_cases c18 : a15 < r17
            · rw [if_pos c18] at hf
              refine zx_ev_ift zk_124 (P := a15 < r17) (t := 66) (f := 64) rfl rfl c18 ?_
              refine zx_ev_blk zk_124 3 (pc1 := 71) (L1 := [some (.ref 0), some (.int v1), some (.int v2), some (.int v3), some (.int v4), some (.int r12), some (.int a15), none]) (st1 := [.ref 19, .ref 0]) (h1 := (zx_SC, m13)) rfl ?_
              obtain ⟨r20, hv19, hf⟩ := zx_bind_eq hf
              refine zx_ev_call (d := d + 77) zk_124 (v := some (.int r20)) (h1 := (zx_SC, m13)) rfl rfl zt_51 rfl zx_SCn rfl rfl (s_Order_size _ (d := d + 77) hv19) ?_
              refine zx_ev_blk zk_124 5 (pc1 := 81) (L1 := [some (.ref 0), some (.int v1), some (.int v2), some (.int v3), some (.int v4), some (.int r12), some (.int a15), none]) (st1 := [.int 100, .int v3, .int (zx_shl 1 a15), .int r20, .ref 0]) (h1 := (zx_SC, m13)) rfl ?_
              refine zx_ev_step zk_124 rfl (st_irem (by decide)) ?_
              refine zx_ev_blk zk_124 1 (pc1 := 83) (L1 := [some (.ref 0), some (.int v1), some (.int v2), some (.int v3), some (.int v4), some (.int r12), some (.int a15), none]) (st1 := [.int v2, .int (zx_rem v3 100), .int (zx_shl 1 a15), .int r20, .ref 0]) (h1 := (zx_SC, m13)) rfl ?_
              obtain ⟨⟨r22, m23⟩, hv21, hf⟩ := zx_bind_eq hf
              dsimp only at hf
              refine zx_ev_call (d := d + 77) zk_124 (v := some (.int r22)) (h1 := (zx_SC, m23)) rfl rfl zt_110 rfl zx_SCn rfl rfl (s_C_goodIfStopped _ _ _ _ _ (d := d + 74) hv21) ?_
              refine zx_ev_blk zk_124 2 (pc1 := 90) (L1 := [some (.ref 0), some (.int v1), some (.int v2), some (.int v3), some (.int v4), some (.int r12), some (.int a15), some (.int r22)]) (st1 := [.int v4]) (h1 := (zx_SC, m23)) rfl ?_
              by_cases c24 : ¬ v4 = 0
              · rw [if_pos c24] at hf
                refine zx_ev_ift zk_124 (P := ¬ v4 = 0) (t := 96) (f := 93) rfl rfl c24 ?_
                refine zx_ev_blk zk_124 3 (pc1 := 100) (L1 := [some (.ref 0), some (.int v1), some (.int v2), some (.int v3), some (.int v4), some (.int r12), some (.int a15), some (.int r22)]) (st1 := [.int v2, .int a15, .ref 0]) (h1 := (zx_SC, m23)) rfl ?_
                obtain ⟨⟨r26, m27⟩, hv25, hf⟩ := zx_bind_eq hf
                dsimp only at hf
                refine zx_ev_call (d := d + 77) zk_124 (v := some (.int r26)) (h1 := (zx_SC, m27)) rfl rfl zt_125 rfl zx_SCn rfl rfl (s_C_goodWithout _ _ _ (d := d + 74) hv25) ?_
                refine zx_ev_blk zk_124 1 (pc1 := 105) (L1 := [some (.ref 0), some (.int v1), some (.int v2), some (.int v3), some (.int v4), some (.int r12), some (.int a15), some (.int r22)]) (st1 := [.int r22, .int r26]) (h1 := (zx_SC, m27)) rfl ?_
                by_cases c28 : r26 ≤ r22
                · rw [if_pos c28] at hf
                  refine zx_ev_ift zk_124 (P := r26 ≤ r22) (t := 112) (f := 108) rfl rfl c28 ?_
                  refine zx_ev_blk zk_124 1 (pc1 := 113) (L1 := [some (.ref 0), some (.int v1), some (.int v2), some (.int v3), some (.int v4), some (.int r12), some (.int a15), some (.int r22)]) (st1 := [.int 0]) (h1 := (zx_SC, m27)) rfl ?_
                  obtain rfl := Option.some.inj hf
                  exact zx_ev_ret zk_124 rfl rfl
                · rw [if_neg c28] at hf
                  refine zx_ev_ifn zk_124 (P := r26 ≤ r22) (t := 112) (f := 108) rfl rfl c28 ?_
                  refine zx_ev_blk zk_124 2 (pc1 := 113) (L1 := [some (.ref 0), some (.int v1), some (.int v2), some (.int v3), some (.int v4), some (.int r12), some (.int a15), some (.int r22)]) (st1 := [.int 1]) (h1 := (zx_SC, m27)) rfl ?_
                  obtain rfl := Option.some.inj hf
                  exact zx_ev_ret zk_124 rfl rfl
              · rw [if_neg c24] at hf
                refine zx_ev_ifn zk_124 (P := ¬ v4 = 0) (t := 96) (f := 93) rfl rfl c24 ?_
                refine zx_ev_blk zk_124 1 (pc1 := 95) (L1 := [some (.ref 0), some (.int v1), some (.int v2), some (.int v3), some (.int v4), some (.int r12), some (.int a15), some (.int r22)]) (st1 := [.int r22]) (h1 := (zx_SC, m23)) rfl ?_
                obtain rfl := Option.some.inj hf
                exact zx_ev_ret zk_124 rfl rfl
            · rw [if_neg c18] at hf
              refine zx_ev_ifn zk_124 (P := a15 < r17) (t := 66) (f := 64) rfl rfl c18 ?_
              refine zx_ev_blk zk_124 1 (pc1 := 65) (L1 := [some (.ref 0), some (.int v1), some (.int v2), some (.int v3), some (.int v4), some (.int r12), some (.int a15), none]) (st1 := [.int (-1)]) (h1 := (zx_SC, m13)) rfl ?_
              obtain rfl := Option.some.inj hf
              exact zx_ev_ret zk_124 rfl rfl
          · rw [if_neg c14] at hf
            refine zx_ev_ifn zk_124 (P := r12 = 0) (t := 46) (f := 43) rfl rfl c14 ?_
            refine zx_ev_blk zk_124 1 (pc1 := 45) (L1 := [some (.ref 0), some (.int v1), some (.int v2), some (.int v3), some (.int v4), some (.int r12), none, none]) (st1 := [.int r12]) (h1 := (zx_SC, m13)) rfl ?_
            obtain rfl := Option.some.inj hf
            exact zx_ev_ret zk_124 rfl rfl
        · rw [if_neg c10] at hf
          refine zx_ev_ifn zk_124 (P := ¬ r9 = 0) (t := 31) (f := 29) rfl rfl c10 ?_
          refine zx_ev_blk zk_124 1 (pc1 := 30) (L1 := [some (.ref 0), some (.int v1), some (.int v2), some (.int v3), some (.int v4), none, none, none]) (st1 := [.int (-1)]) (h1 := (zx_SC, m)) rfl ?_
          obtain rfl := Option.some.inj hf
          exact zx_ev_ret zk_124 rfl rfl
def kx_C_sure_l24 (v2 : Int32) (m : zx_M) (d : Nat) (out : Option Value × zx_H) : Int64 → Prop
  | x3 => zx_Ev (d + 78) 128 55 [some (.ref 0), none, some (.int v2), some (.long x3), none, none] [] (zx_SC, m) out
def kl_C_sure_l24 (v2 : Int32) (m : zx_M) (d : Nat) (out : Option Value × zx_H) : (Int64 × Int32) ⊕ (Int64) → Prop
  | .inl (v3, v5) => zx_Ev (d + 78) 128 24 [some (.ref 0), none, some (.int v2), some (.long v3), none, some (.int v5)] [] (zx_SC, m) out
  | .inr x => kx_C_sure_l24 v2 m d out x
def b_C_sure_l24 (v2 : Int32) (v3 : Int64) (v5 : Int32) (m : zx_M) : Option ((Int64 × Int32) ⊕ (Int64)) := (f_Order_size m).bind fun r9 => if r9 ≤ v5 then some (.inr v3) else (f_C_sticksOf v5 m).bind fun r12 => zx_let (v3 * (Int32.toInt64 (12 - r12))) fun a13 => zx_let (v5 + 1) fun a14 => some (.inl (a13, a14))
theorem eb_C_sure_l24 (v2 : Int32) (v3 : Int64) (v5 : Int32) (m : zx_M) {d : Nat} {out : Option Value × zx_H} {y : (Int64 × Int32) ⊕ (Int64)} (hf : b_C_sure_l24 v2 v3 v5 m = some y) (hK : kl_C_sure_l24 v2 m d out y) : zx_Ev (d + 78) 128 24 [some (.ref 0), none, some (.int v2), some (.long v3), none, some (.int v5)] [] (zx_SC, m) out := by
  unfold b_C_sure_l24 at hf
  refine zx_ev_blk zk_128 3 (pc1 := 30) (L1 := [some (.ref 0), none, some (.int v2), some (.long v3), none, some (.int v5)]) (st1 := [.ref 19, .int v5]) (h1 := (zx_SC, m)) rfl ?_
  obtain ⟨r9, hv8, hf⟩ := zx_bind_eq hf
  refine zx_ev_call (d := d + 77) zk_128 (v := some (.int r9)) (h1 := (zx_SC, m)) rfl rfl zt_51 rfl zx_SCn rfl rfl (s_Order_size _ (d := d + 77) hv8) ?_
  by_cases c10 : r9 ≤ v5
  · rw [if_pos c10] at hf
    refine zx_ev_ift zk_128 (P := r9 ≤ v5) (t := 55) (f := 36) rfl rfl c10 ?_
    obtain rfl := Option.some.inj hf
    exact zx_ev_sub (L := [some (.ref 0), none, some (.int v2), some (.long v3), none, none]) (⟨rfl, ⟨rfl, ⟨rfl, ⟨trivial, trivial⟩⟩⟩⟩) hK
  · rw [if_neg c10] at hf
    refine zx_ev_ifn zk_128 (P := r9 ≤ v5) (t := 55) (f := 36) rfl rfl c10 ?_
    refine zx_ev_blk zk_128 4 (pc1 := 42) (L1 := [some (.ref 0), none, some (.int v2), some (.long v3), none, some (.int v5)]) (st1 := [.int v5, .ref 0, .int 12, .long v3]) (h1 := (zx_SC, m)) rfl ?_
    obtain ⟨r12, hv11, hf⟩ := zx_bind_eq hf
    refine zx_ev_call (d := d + 77) zk_128 (v := some (.int r12)) (h1 := (zx_SC, m)) rfl rfl zt_126 rfl zx_SCn rfl rfl (s_C_sticksOf _ _ (d := d + 76) hv11) ?_
    obtain ⟨a13, ha13, hf⟩ := zx_let_eq hf
    obtain ⟨a14, ha14, hf⟩ := zx_let_eq hf
    refine zx_ev_blk zk_128 6 (pc1 := 24) (L1 := [some (.ref 0), none, some (.int v2), some (.long a13), none, some (.int a14)]) (st1 := []) (h1 := (zx_SC, m)) (by subst ha13; subst ha14; rfl) ?_
    obtain rfl := Option.some.inj hf
    exact zx_ev_sub (L := [some (.ref 0), none, some (.int v2), some (.long a13), none, some (.int a14)]) (⟨rfl, ⟨rfl, ⟨rfl, ⟨rfl, trivial⟩⟩⟩⟩) hK
def l_C_sure_l24 (v2 : Int32) (m : zx_M) (s0 : Int64 × Int32) : Option (Int64) := zx_lp zx_N (fun s : Int64 × Int32 => b_C_sure_l24 v2 s.1 s.2 m) s0
theorem el_C_sure_l24 (v2 : Int32) (m : zx_M) {d : Nat} {out : Option Value × zx_H} : ∀ (n : Nat) (s : Int64 × Int32) (x : Int64), zx_lp n (fun s : Int64 × Int32 => b_C_sure_l24 v2 s.1 s.2 m) s = some x → kx_C_sure_l24 v2 m d out x → zx_Ev (d + 78) 128 24 [some (.ref 0), none, some (.int v2), some (.long s.1), none, some (.int s.2)] [] (zx_SC, m) out := by
  intro n
  induction n with
  | zero => intro s x hl _; simp [zx_lp] at hl
  | succ n ih =>
    intro s x hl hx
    unfold zx_lp at hl
    cases hb : b_C_sure_l24 v2 s.1 s.2 m with
    | none => simp only [hb] at hl; cases hl
    | some z =>
      simp only [hb] at hl
      cases z with
      | inl s1 => exact eb_C_sure_l24 v2 s.1 s.2 m hb (ih s1 x hl hx)
      | inr t =>
        simp only [Option.some.injEq] at hl
        subst hl
        exact eb_C_sure_l24 v2 s.1 s.2 m hb hx
def f_C_sure (v1 : Int32) (v2 : Int32) (m : zx_M) : Option (Int64 × zx_M) := (f_C_isPart v2 m).bind fun r2 => if r2 = 0 then some ((-9223372036854775808), m) else (f_C_readOrder v1 m).bind fun (r5, m6) => if r5 = 0 then (l_C_sure_l24 v2 m6 (1, 0)).bind fun x15 => zx_let x15 fun w16 => (f_Order_size m6).bind fun r18 => (f_Order_power 12 r18 m6).bind fun r20 => (f_C_lowest w16 (Int32.toInt64 r20) v2 m6).bind fun r22 => some (r22, m6) else some ((-9223372036854775808), m6)
theorem s_C_sure (v1 : Int32) (v2 : Int32) (m : zx_M) {d : Nat} {y : (Int64 × zx_M)} (hf : f_C_sure v1 v2 m = some y) : zx_Ev (d + 78) 128 0 [some (.ref 0), some (.int v1), some (.int v2), none, none, none] [] (zx_SC, m) (some (.long y.1), (zx_SC, y.2)) := by
  unfold f_C_sure at hf
  refine zx_ev_blk zk_128 1 (pc1 := 1) (L1 := [some (.ref 0), some (.int v1), some (.int v2), none, none, none]) (st1 := [.int v2]) (h1 := (zx_SC, m)) rfl ?_
  obtain ⟨r2, hv1, hf⟩ := zx_bind_eq hf
  refine zx_ev_call (d := d + 77) zk_128 (v := some (.int r2)) (h1 := (zx_SC, m)) rfl rfl zt_102 rfl zx_SCn rfl rfl (s_C_isPart _ _ (d := d + 77) hv1) ?_
  by_cases c3 : r2 = 0
  · rw [if_pos c3] at hf
    refine zx_ev_ift zk_128 (P := r2 = 0) (t := 15) (f := 7) rfl rfl c3 ?_
    refine zx_ev_blk zk_128 1 (pc1 := 18) (L1 := [some (.ref 0), some (.int v1), some (.int v2), none, none, none]) (st1 := [.long (-9223372036854775808)]) (h1 := (zx_SC, m)) rfl ?_
    obtain rfl := Option.some.inj hf
    exact zx_ev_ret zk_128 rfl rfl
  · rw [if_neg c3] at hf
    refine zx_ev_ifn zk_128 (P := r2 = 0) (t := 15) (f := 7) rfl rfl c3 ?_
    refine zx_ev_blk zk_128 2 (pc1 := 9) (L1 := [some (.ref 0), some (.int v1), some (.int v2), none, none, none]) (st1 := [.int v1, .ref 0]) (h1 := (zx_SC, m)) rfl ?_
    obtain ⟨⟨r5, m6⟩, hv4, hf⟩ := zx_bind_eq hf
    dsimp only at hf
    refine zx_ev_call (d := d + 77) zk_128 (v := some (.int r5)) (h1 := (zx_SC, m6)) rfl rfl zt_103 rfl zx_SCn rfl rfl (s_C_readOrder _ _ (d := d + 0) hv4) ?_
    by_cases c7 : r5 = 0
    · rw [if_pos c7] at hf
      refine zx_ev_ift zk_128 (P := r5 = 0) (t := 19) (f := 15) rfl rfl c7 ?_
      refine zx_ev_blk zk_128 4 (pc1 := 24) (L1 := [some (.ref 0), some (.int v1), some (.int v2), some (.long 1), none, some (.int 0)]) (st1 := []) (h1 := (zx_SC, m6)) rfl ?_
      obtain ⟨x15, hx15, hf⟩ := zx_bind_eq hf
      refine zx_ev_sub (L := [some (.ref 0), none, some (.int v2), some (.long 1), none, some (.int 0)]) (⟨rfl, ⟨trivial, ⟨rfl, ⟨rfl, ⟨rfl, trivial⟩⟩⟩⟩⟩) (el_C_sure_l24 v2 m6 zx_N (1, 0) x15 hx15 ?_)
      obtain ⟨w16, hw16, hf⟩ := zx_let_eq hf
      subst hw16
      show zx_Ev (d + 78) 128 55 [some (.ref 0), none, some (.int v2), some (.long x15), none, none] [] (zx_SC, m6) _
      refine zx_ev_blk zk_128 4 (pc1 := 62) (L1 := [some (.ref 0), none, some (.int v2), some (.long x15), none, none]) (st1 := [.ref 19, .int 12, .long x15]) (h1 := (zx_SC, m6)) rfl ?_
      obtain ⟨r18, hv17, hf⟩ := zx_bind_eq hf
      refine zx_ev_call (d := d + 77) zk_128 (v := some (.int r18)) (h1 := (zx_SC, m6)) rfl rfl zt_51 rfl zx_SCn rfl rfl (s_Order_size _ (d := d + 77) hv17) ?_
      obtain ⟨r20, hv19, hf⟩ := zx_bind_eq hf
      refine zx_ev_call (d := d + 77) zk_128 (v := some (.int r20)) (h1 := (zx_SC, m6)) rfl rfl zt_57 rfl zx_SCn rfl rfl (s_Order_power _ _ _ (d := d + 77) hv19) ?_
      refine zx_ev_blk zk_128 2 (pc1 := 70) (L1 := [some (.ref 0), none, some (.int v2), some (.long x15), none, none]) (st1 := [.int v2, .long (Int32.toInt64 r20), .long x15]) (h1 := (zx_SC, m6)) rfl ?_
      obtain ⟨r22, hv21, hf⟩ := zx_bind_eq hf
      refine zx_ev_call (d := d + 77) zk_128 (v := some (.long r22)) (h1 := (zx_SC, m6)) rfl rfl zt_127 rfl zx_SCn rfl rfl (s_C_lowest _ _ _ _ (d := d + 77) hv21) ?_
      obtain rfl := Option.some.inj hf
      exact zx_ev_ret zk_128 rfl rfl
    · rw [if_neg c7] at hf
      refine zx_ev_ifn zk_128 (P := r5 = 0) (t := 19) (f := 15) rfl rfl c7 ?_
      refine zx_ev_blk zk_128 1 (pc1 := 18) (L1 := [some (.ref 0), some (.int v1), some (.int v2), none, none, none]) (st1 := [.long (-9223372036854775808)]) (h1 := (zx_SC, m6)) rfl ?_
      obtain rfl := Option.some.inj hf
      exact zx_ev_ret zk_128 rfl rfl
def f_C_taken (v1 : Int32) (v2 : Int32) (m : zx_M) : Option Int32 := (f_Shelves_isThere v1 m).bind fun r2 => if r2 = 0 then some (-1) else (f_Acts_isKind v2 m).bind fun r5 => if ¬ r5 = 0 then (f_Shelves_refusal v1 (-2) m).bind fun r8 => if r8 = 0 then (f_Shelves_size v1 m).bind fun r11 => (f_Acts_kindOf r11 m).bind fun r13 => (f_Acts_isUnder r13 v2 m).bind fun r15 => if r15 = 0 then some (-12) else some r13 else some r8 else some (-1)
theorem s_C_taken (v1 : Int32) (v2 : Int32) (m : zx_M) {d : Nat} {y : Int32} (hf : f_C_taken v1 v2 m = some y) : zx_Ev (d + 2) 155 0 [some (.ref 0), some (.int v1), some (.int v2), none, none] [] (zx_SC, m) (some (.int y), (zx_SC, m)) := by
  unfold f_C_taken at hf
  refine zx_ev_blk zk_155 3 (pc1 := 5) (L1 := [some (.ref 0), some (.int v1), some (.int v2), none, none]) (st1 := [.int v1, .ref 15]) (h1 := (zx_SC, m)) rfl ?_
  obtain ⟨r2, hv1, hf⟩ := zx_bind_eq hf
  refine zx_ev_call (d := d + 1) zk_155 (v := some (.int r2)) (h1 := (zx_SC, m)) rfl rfl zt_60 rfl zx_SCn rfl rfl (s_Shelves_isThere _ _ (d := d + 1) hv1) ?_
  by_cases c3 : r2 = 0
  · rw [if_pos c3] at hf
    refine zx_ev_ift zk_155 (P := r2 = 0) (t := 22) (f := 11) rfl rfl c3 ?_
    refine zx_ev_blk zk_155 1 (pc1 := 23) (L1 := [some (.ref 0), some (.int v1), some (.int v2), none, none]) (st1 := [.int (-1)]) (h1 := (zx_SC, m)) rfl ?_
    obtain rfl := Option.some.inj hf
    exact zx_ev_ret zk_155 rfl rfl
  · rw [if_neg c3] at hf
    refine zx_ev_ifn zk_155 (P := r2 = 0) (t := 22) (f := 11) rfl rfl c3 ?_
    refine zx_ev_blk zk_155 3 (pc1 := 16) (L1 := [some (.ref 0), some (.int v1), some (.int v2), none, none]) (st1 := [.int v2, .ref 38]) (h1 := (zx_SC, m)) rfl ?_
    obtain ⟨r5, hv4, hf⟩ := zx_bind_eq hf
    refine zx_ev_call (d := d + 1) zk_155 (v := some (.int r5)) (h1 := (zx_SC, m)) rfl rfl zt_3 rfl zx_SCn rfl rfl (s_Acts_isKind _ _ (d := d + 1) hv4) ?_
    by_cases c6 : ¬ r5 = 0
    · rw [if_pos c6] at hf
      refine zx_ev_ift zk_155 (P := ¬ r5 = 0) (t := 24) (f := 22) rfl rfl c6 ?_
      refine zx_ev_blk zk_155 4 (pc1 := 31) (L1 := [some (.ref 0), some (.int v1), some (.int v2), none, none]) (st1 := [.int (-2), .int v1, .ref 15]) (h1 := (zx_SC, m)) rfl ?_
      obtain ⟨r8, hv7, hf⟩ := zx_bind_eq hf
      refine zx_ev_call (d := d + 1) zk_155 (v := some (.int r8)) (h1 := (zx_SC, m)) rfl rfl zt_63 rfl zx_SCn rfl rfl (s_Shelves_refusal _ _ _ (d := d + 0) hv7) ?_
      refine zx_ev_blk zk_155 2 (pc1 := 36) (L1 := [some (.ref 0), some (.int v1), some (.int v2), some (.int r8), none]) (st1 := [.int r8]) (h1 := (zx_SC, m)) rfl ?_
      by_cases c9 : r8 = 0
      · rw [if_pos c9] at hf
        refine zx_ev_ift zk_155 (P := r8 = 0) (t := 41) (f := 39) rfl rfl c9 ?_
        refine zx_ev_blk zk_155 5 (pc1 := 50) (L1 := [some (.ref 0), some (.int v1), some (.int v2), some (.int r8), none]) (st1 := [.int v1, .ref 15, .ref 38]) (h1 := (zx_SC, m)) rfl ?_
        obtain ⟨r11, hv10, hf⟩ := zx_bind_eq hf
        refine zx_ev_call (d := d + 1) zk_155 (v := some (.int r11)) (h1 := (zx_SC, m)) rfl rfl zt_62 rfl zx_SCn rfl rfl (s_Shelves_size _ _ (d := d + 0) hv10) ?_
        obtain ⟨r13, hv12, hf⟩ := zx_bind_eq hf
        refine zx_ev_call (d := d + 1) zk_155 (v := some (.int r13)) (h1 := (zx_SC, m)) rfl rfl zt_6 rfl zx_SCn rfl rfl (s_Acts_kindOf _ _ (d := d + 0) hv12) ?_
        refine zx_ev_blk zk_155 5 (pc1 := 65) (L1 := [some (.ref 0), some (.int v1), some (.int v2), some (.int r8), some (.int r13)]) (st1 := [.int v2, .int r13, .ref 38]) (h1 := (zx_SC, m)) rfl ?_
        obtain ⟨r15, hv14, hf⟩ := zx_bind_eq hf
        refine zx_ev_call (d := d + 1) zk_155 (v := some (.int r15)) (h1 := (zx_SC, m)) rfl rfl zt_7 rfl zx_SCn rfl rfl (s_Acts_isUnder _ _ _ (d := d + 0) hv14) ?_
        by_cases c16 : r15 = 0
        · rw [if_pos c16] at hf
          refine zx_ev_ift zk_155 (P := r15 = 0) (t := 76) (f := 71) rfl rfl c16 ?_
          refine zx_ev_blk zk_155 1 (pc1 := 78) (L1 := [some (.ref 0), some (.int v1), some (.int v2), some (.int r8), some (.int r13)]) (st1 := [.int (-12)]) (h1 := (zx_SC, m)) rfl ?_
          obtain rfl := Option.some.inj hf
          exact zx_ev_ret zk_155 rfl rfl
        · rw [if_neg c16] at hf
          refine zx_ev_ifn zk_155 (P := r15 = 0) (t := 76) (f := 71) rfl rfl c16 ?_
          refine zx_ev_blk zk_155 2 (pc1 := 78) (L1 := [some (.ref 0), some (.int v1), some (.int v2), some (.int r8), some (.int r13)]) (st1 := [.int r13]) (h1 := (zx_SC, m)) rfl ?_
          obtain rfl := Option.some.inj hf
          exact zx_ev_ret zk_155 rfl rfl
      · rw [if_neg c9] at hf
        refine zx_ev_ifn zk_155 (P := r8 = 0) (t := 41) (f := 39) rfl rfl c9 ?_
        refine zx_ev_blk zk_155 1 (pc1 := 40) (L1 := [some (.ref 0), some (.int v1), some (.int v2), some (.int r8), none]) (st1 := [.int r8]) (h1 := (zx_SC, m)) rfl ?_
        obtain rfl := Option.some.inj hf
        exact zx_ev_ret zk_155 rfl rfl
    · rw [if_neg c6] at hf
      refine zx_ev_ifn zk_155 (P := ¬ r5 = 0) (t := 24) (f := 22) rfl rfl c6 ?_
      refine zx_ev_blk zk_155 1 (pc1 := 23) (L1 := [some (.ref 0), some (.int v1), some (.int v2), none, none]) (st1 := [.int (-1)]) (h1 := (zx_SC, m)) rfl ?_
      obtain rfl := Option.some.inj hf
      exact zx_ev_ret zk_155 rfl rfl
def f_C_trace (v1 : Int32) (m : zx_M) : Option Int32 := (f_Acts_tracedAt v1 m).bind fun r2 => some r2
theorem s_C_trace (v1 : Int32) (m : zx_M) {d : Nat} {y : Int32} (hf : f_C_trace v1 m = some y) : zx_Ev (d + 1) 149 0 [some (.ref 0), some (.int v1)] [] (zx_SC, m) (some (.int y), (zx_SC, m)) := by
  unfold f_C_trace at hf
  refine zx_ev_blk zk_149 3 (pc1 := 5) (L1 := [some (.ref 0), some (.int v1)]) (st1 := [.int v1, .ref 38]) (h1 := (zx_SC, m)) rfl ?_
  obtain ⟨r2, hv1, hf⟩ := zx_bind_eq hf
  refine zx_ev_call (d := d + 0) zk_149 (v := some (.int r2)) (h1 := (zx_SC, m)) rfl rfl zt_8 rfl zx_SCn rfl rfl (s_Acts_tracedAt _ _ (d := d + 0) hv1) ?_
  obtain rfl := Option.some.inj hf
  exact zx_ev_ret zk_149 rfl rfl
def f_C_undo (m : zx_M) : Option (Int32 × zx_M) := (f_Changes_takeBack m).bind fun (r2, m3) => some (r2, m3)
theorem s_C_undo (m : zx_M) {d : Nat} {y : (Int32 × zx_M)} (hf : f_C_undo m = some y) : zx_Ev (d + 2) 145 0 [some (.ref 0)] [] (zx_SC, m) (some (.int y.1), (zx_SC, y.2)) := by
  unfold f_C_undo at hf
  refine zx_ev_blk zk_145 2 (pc1 := 4) (L1 := [some (.ref 0)]) (st1 := [.ref 4]) (h1 := (zx_SC, m)) rfl ?_
  obtain ⟨⟨r2, m3⟩, hv1, hf⟩ := zx_bind_eq hf
  dsimp only at hf
  refine zx_ev_call (d := d + 1) zk_145 (v := some (.int r2)) (h1 := (zx_SC, m3)) rfl rfl zt_21 rfl zx_SCn rfl rfl (s_Changes_takeBack _ (d := d + 0) hv1) ?_
  obtain rfl := Option.some.inj hf
  exact zx_ev_ret zk_145 rfl rfl
def kx_C_which_l81 (v1 : Int32) (v2 : Int32) (v3 : Int32) (v5 : Int32) (v6 : Int32) (v7 : Int32) (d : Nat) (out : Option Value × zx_H) : Int32 × Int32 × zx_M → Prop
  | (x8, x9, m) => zx_Ev (d + 77) 137 160 [some (.ref 0), none, none, some (.int v3), none, none, none, none, some (.int x8), some (.int x9), none] [] (zx_SC, m) out
def kl_C_which_l81 (v1 : Int32) (v2 : Int32) (v3 : Int32) (v5 : Int32) (v6 : Int32) (v7 : Int32) (d : Nat) (out : Option Value × zx_H) : (Int32 × Int32 × Int32 × zx_M) ⊕ (Int32 × Int32 × zx_M) → Prop
  | .inl (v8, v9, v10, m) => zx_Ev (d + 77) 137 81 [some (.ref 0), some (.int v1), some (.int v2), some (.int v3), none, some (.int v5), some (.int v6), some (.int v7), some (.int v8), some (.int v9), some (.int v10)] [] (zx_SC, m) out
  | .inr x => kx_C_which_l81 v1 v2 v3 v5 v6 v7 d out x
def n_C_which_b81_154 (v1 : Int32) (v2 : Int32) (v3 : Int32) (v5 : Int32) (v6 : Int32) (v7 : Int32) (v8 : Int32) (v9 : Int32) (v10 : Int32) (m : zx_M) : Option ((Int32 × Int32 × Int32 × zx_M) ⊕ (Int32 × Int32 × zx_M)) := zx_let (v10 + 1) fun a24 => some (.inl (v8, v9, a24, m))
theorem e_C_which_b81_154 (v1 : Int32) (v2 : Int32) (v3 : Int32) (v5 : Int32) (v6 : Int32) (v7 : Int32) (v8 : Int32) (v9 : Int32) (v10 : Int32) (m : zx_M) {d : Nat} {out : Option Value × zx_H} {y : (Int32 × Int32 × Int32 × zx_M) ⊕ (Int32 × Int32 × zx_M)} (hf : n_C_which_b81_154 v1 v2 v3 v5 v6 v7 v8 v9 v10 m = some y) (hK : kl_C_which_l81 v1 v2 v3 v5 v6 v7 d out y) : zx_Ev (d + 77) 137 154 [some (.ref 0), some (.int v1), some (.int v2), some (.int v3), none, some (.int v5), some (.int v6), some (.int v7), some (.int v8), some (.int v9), some (.int v10)] [] (zx_SC, m) out := by
  unfold n_C_which_b81_154 at hf
  obtain ⟨a24, ha24, hf⟩ := zx_let_eq hf
  refine zx_ev_blk zk_137 2 (pc1 := 81) (L1 := [some (.ref 0), some (.int v1), some (.int v2), some (.int v3), none, some (.int v5), some (.int v6), some (.int v7), some (.int v8), some (.int v9), some (.int a24)]) (st1 := []) (h1 := (zx_SC, m)) (by subst ha24; rfl) ?_
  obtain rfl := Option.some.inj hf
  exact zx_ev_sub (L := [some (.ref 0), some (.int v1), some (.int v2), some (.int v3), none, some (.int v5), some (.int v6), some (.int v7), some (.int v8), some (.int v9), some (.int a24)]) (⟨rfl, ⟨rfl, ⟨rfl, ⟨rfl, ⟨rfl, ⟨rfl, ⟨rfl, ⟨rfl, ⟨rfl, ⟨rfl, trivial⟩⟩⟩⟩⟩⟩⟩⟩⟩⟩) hK
def n_C_which_b81_149 (v1 : Int32) (v2 : Int32) (v3 : Int32) (v5 : Int32) (v6 : Int32) (v7 : Int32) (v8 : Int32) (v10 : Int32) (t0 : Int32) (m : zx_M) : Option ((Int32 × Int32 × Int32 × zx_M) ⊕ (Int32 × Int32 × zx_M)) := zx_let (v8 + 1) fun a37 => n_C_which_b81_154 v1 v2 v3 v5 v6 v7 a37 t0 v10 m
theorem e_C_which_b81_149 (v1 : Int32) (v2 : Int32) (v3 : Int32) (v5 : Int32) (v6 : Int32) (v7 : Int32) (v8 : Int32) (v10 : Int32) (t0 : Int32) (m : zx_M) {d : Nat} {out : Option Value × zx_H} {y : (Int32 × Int32 × Int32 × zx_M) ⊕ (Int32 × Int32 × zx_M)} (hf : n_C_which_b81_149 v1 v2 v3 v5 v6 v7 v8 v10 t0 m = some y) (hK : kl_C_which_l81 v1 v2 v3 v5 v6 v7 d out y) : zx_Ev (d + 77) 137 149 [some (.ref 0), some (.int v1), some (.int v2), some (.int v3), none, some (.int v5), some (.int v6), some (.int v7), some (.int v8), none, some (.int v10)] [.int t0] (zx_SC, m) out := by
  unfold n_C_which_b81_149 at hf
  obtain ⟨a37, ha37, hf⟩ := zx_let_eq hf
  refine zx_ev_blk zk_137 2 (pc1 := 154) (L1 := [some (.ref 0), some (.int v1), some (.int v2), some (.int v3), none, some (.int v5), some (.int v6), some (.int v7), some (.int a37), some (.int t0), some (.int v10)]) (st1 := []) (h1 := (zx_SC, m)) (by subst ha37; rfl) ?_
  exact zx_ev_sub (L := [some (.ref 0), some (.int v1), some (.int v2), some (.int v3), none, some (.int v5), some (.int v6), some (.int v7), some (.int a37), some (.int t0), some (.int v10)]) (⟨rfl, ⟨rfl, ⟨rfl, ⟨rfl, ⟨rfl, ⟨rfl, ⟨rfl, ⟨rfl, ⟨rfl, ⟨rfl, trivial⟩⟩⟩⟩⟩⟩⟩⟩⟩⟩) (e_C_which_b81_154 v1 v2 v3 v5 v6 v7 a37 t0 v10 m hf hK)
def b_C_which_l81 (v1 : Int32) (v2 : Int32) (v3 : Int32) (v5 : Int32) (v6 : Int32) (v7 : Int32) (v8 : Int32) (v9 : Int32) (v10 : Int32) (m : zx_M) : Option ((Int32 × Int32 × Int32 × zx_M) ⊕ (Int32 × Int32 × zx_M)) := if v7 ≤ v10 then some (.inr (v8, v9, m)) else (f_Order_spell v10 v6 v5 m).bind fun (r21, m22) => if r21 = 0 then n_C_which_b81_154 v1 v2 v3 v5 v6 v7 v8 v9 v10 m22 else (f_C_countOf v2 m22).bind fun r26 => (f_C_way m22).bind fun r28 => (f_C_lineUp r26 r28 m22).bind fun m30 => (f_C_spotOf v2 m30).bind fun r32 => (f_C_firstUnlike v1 v6 r32 m30).bind fun r34 => if ¬ r34 = (-2) then n_C_which_b81_154 v1 v2 v3 v5 v6 v7 v8 v9 v10 m30 else if ¬ v8 = 0 then n_C_which_b81_149 v1 v2 v3 v5 v6 v7 v8 v10 v9 m30 else (f_Order_asDigits m30).bind fun r39 => n_C_which_b81_149 v1 v2 v3 v5 v6 v7 v8 v10 r39 m30
theorem eb_C_which_l81 (v1 : Int32) (v2 : Int32) (v3 : Int32) (v5 : Int32) (v6 : Int32) (v7 : Int32) (v8 : Int32) (v9 : Int32) (v10 : Int32) (m : zx_M) {d : Nat} {out : Option Value × zx_H} {y : (Int32 × Int32 × Int32 × zx_M) ⊕ (Int32 × Int32 × zx_M)} (hf : b_C_which_l81 v1 v2 v3 v5 v6 v7 v8 v9 v10 m = some y) (hK : kl_C_which_l81 v1 v2 v3 v5 v6 v7 d out y) : zx_Ev (d + 77) 137 81 [some (.ref 0), some (.int v1), some (.int v2), some (.int v3), none, some (.int v5), some (.int v6), some (.int v7), some (.int v8), some (.int v9), some (.int v10)] [] (zx_SC, m) out := by
  unfold b_C_which_l81 at hf
  refine zx_ev_blk zk_137 2 (pc1 := 85) (L1 := [some (.ref 0), some (.int v1), some (.int v2), some (.int v3), none, some (.int v5), some (.int v6), some (.int v7), some (.int v8), some (.int v9), some (.int v10)]) (st1 := [.int v7, .int v10]) (h1 := (zx_SC, m)) rfl ?_
  by_cases c19 : v7 ≤ v10
  · rw [if_pos c19] at hf
    refine zx_ev_ift zk_137 (P := v7 ≤ v10) (t := 160) (f := 88) rfl rfl c19 ?_
    obtain rfl := Option.some.inj hf
    exact zx_ev_sub (L := [some (.ref 0), none, none, some (.int v3), none, none, none, none, some (.int v8), some (.int v9), none]) (⟨rfl, ⟨trivial, ⟨trivial, ⟨rfl, ⟨trivial, ⟨trivial, ⟨trivial, ⟨rfl, ⟨rfl, ⟨trivial, trivial⟩⟩⟩⟩⟩⟩⟩⟩⟩⟩) hK
  · rw [if_neg c19] at hf
    refine zx_ev_ifn zk_137 (P := v7 ≤ v10) (t := 160) (f := 88) rfl rfl c19 ?_
    refine zx_ev_blk zk_137 5 (pc1 := 98) (L1 := [some (.ref 0), some (.int v1), some (.int v2), some (.int v3), none, some (.int v5), some (.int v6), some (.int v7), some (.int v8), some (.int v9), some (.int v10)]) (st1 := [.int v5, .int v6, .int v10, .ref 19]) (h1 := (zx_SC, m)) rfl ?_
    obtain ⟨⟨r21, m22⟩, hv20, hf⟩ := zx_bind_eq hf
    dsimp only at hf
    refine zx_ev_call (d := d + 76) zk_137 (v := some (.int r21)) (h1 := (zx_SC, m22)) rfl rfl zt_56 rfl zx_SCn rfl rfl (s_Order_spell _ _ _ _ (d := d + 74) hv20) ?_
    by_cases c23 : r21 = 0
    · rw [if_pos c23] at hf
      refine zx_ev_ift zk_137 (P := r21 = 0) (t := 154) (f := 104) rfl rfl c23 ?_
      exact zx_ev_sub (L := [some (.ref 0), some (.int v1), some (.int v2), some (.int v3), none, some (.int v5), some (.int v6), some (.int v7), some (.int v8), some (.int v9), some (.int v10)]) (⟨rfl, ⟨rfl, ⟨rfl, ⟨rfl, ⟨rfl, ⟨rfl, ⟨rfl, ⟨rfl, ⟨rfl, ⟨rfl, trivial⟩⟩⟩⟩⟩⟩⟩⟩⟩⟩) (e_C_which_b81_154 v1 v2 v3 v5 v6 v7 v8 v9 v10 m22 hf hK)
    · rw [if_neg c23] at hf
      refine zx_ev_ifn zk_137 (P := r21 = 0) (t := 154) (f := 104) rfl rfl c23 ?_
      refine zx_ev_blk zk_137 2 (pc1 := 106) (L1 := [some (.ref 0), some (.int v1), some (.int v2), some (.int v3), none, some (.int v5), some (.int v6), some (.int v7), some (.int v8), some (.int v9), some (.int v10)]) (st1 := [.int v2, .ref 0]) (h1 := (zx_SC, m22)) rfl ?_
      obtain ⟨r26, hv25, hf⟩ := zx_bind_eq hf
      refine zx_ev_call (d := d + 76) zk_137 (v := some (.int r26)) (h1 := (zx_SC, m22)) rfl rfl zt_101 rfl zx_SCn rfl rfl (s_C_countOf _ _ (d := d + 76) hv25) ?_
      refine zx_ev_blk zk_137 1 (pc1 := 110) (L1 := [some (.ref 0), some (.int v1), some (.int v2), some (.int v3), none, some (.int v5), some (.int v6), some (.int v7), some (.int v8), some (.int v9), some (.int v10)]) (st1 := [.ref 0, .int r26, .ref 0]) (h1 := (zx_SC, m22)) rfl ?_
      obtain ⟨r28, hv27, hf⟩ := zx_bind_eq hf
      refine zx_ev_call (d := d + 76) zk_137 (v := some (.int r28)) (h1 := (zx_SC, m22)) rfl rfl zt_106 rfl zx_SCn rfl rfl (s_C_way _ (d := d + 75) hv27) ?_
      obtain ⟨m30, hv29, hf⟩ := zx_bind_eq hf
      refine zx_ev_call (d := d + 76) zk_137 (v := none) (h1 := (zx_SC, m30)) rfl rfl zt_109 rfl zx_SCn rfl rfl (s_C_lineUp _ _ _ (d := d + 73) hv29) ?_
      refine zx_ev_blk zk_137 4 (pc1 := 121) (L1 := [some (.ref 0), some (.int v1), some (.int v2), some (.int v3), none, some (.int v5), some (.int v6), some (.int v7), some (.int v8), some (.int v9), some (.int v10)]) (st1 := [.int v2, .int v6, .int v1, .ref 0]) (h1 := (zx_SC, m30)) rfl ?_
      obtain ⟨r32, hv31, hf⟩ := zx_bind_eq hf
      refine zx_ev_call (d := d + 76) zk_137 (v := some (.int r32)) (h1 := (zx_SC, m30)) rfl rfl zt_100 rfl zx_SCn rfl rfl (s_C_spotOf _ _ (d := d + 76) hv31) ?_
      obtain ⟨r34, hv33, hf⟩ := zx_bind_eq hf
      refine zx_ev_call (d := d + 76) zk_137 (v := some (.int r34)) (h1 := (zx_SC, m30)) rfl rfl zt_134 rfl zx_SCn rfl rfl (s_C_firstUnlike _ _ _ _ (d := d + 73) hv33) ?_
      refine zx_ev_blk zk_137 1 (pc1 := 129) (L1 := [some (.ref 0), some (.int v1), some (.int v2), some (.int v3), none, some (.int v5), some (.int v6), some (.int v7), some (.int v8), some (.int v9), some (.int v10)]) (st1 := [.int (-2), .int r34]) (h1 := (zx_SC, m30)) rfl ?_
      by_cases c35 : ¬ r34 = (-2)
      · rw [if_pos c35] at hf
        refine zx_ev_ift zk_137 (P := ¬ r34 = (-2)) (t := 154) (f := 132) rfl rfl c35 ?_
        exact zx_ev_sub (L := [some (.ref 0), some (.int v1), some (.int v2), some (.int v3), none, some (.int v5), some (.int v6), some (.int v7), some (.int v8), some (.int v9), some (.int v10)]) (⟨rfl, ⟨rfl, ⟨rfl, ⟨rfl, ⟨rfl, ⟨rfl, ⟨rfl, ⟨rfl, ⟨rfl, ⟨rfl, trivial⟩⟩⟩⟩⟩⟩⟩⟩⟩⟩) (e_C_which_b81_154 v1 v2 v3 v5 v6 v7 v8 v9 v10 m30 hf hK)
      · rw [if_neg c35] at hf
        refine zx_ev_ifn zk_137 (P := ¬ r34 = (-2)) (t := 154) (f := 132) rfl rfl c35 ?_
        refine zx_ev_blk zk_137 1 (pc1 := 134) (L1 := [some (.ref 0), some (.int v1), some (.int v2), some (.int v3), none, some (.int v5), some (.int v6), some (.int v7), some (.int v8), some (.int v9), some (.int v10)]) (st1 := [.int v8]) (h1 := (zx_SC, m30)) rfl ?_
        by_cases c36 : ¬ v8 = 0
        · rw [if_pos c36] at hf
          refine zx_ev_ift zk_137 (P := ¬ v8 = 0) (t := 147) (f := 137) rfl rfl c36 ?_
          refine zx_ev_blk zk_137 1 (pc1 := 149) (L1 := [some (.ref 0), some (.int v1), some (.int v2), some (.int v3), none, some (.int v5), some (.int v6), some (.int v7), some (.int v8), some (.int v9), some (.int v10)]) (st1 := [.int v9]) (h1 := (zx_SC, m30)) rfl ?_
          exact zx_ev_sub (L := [some (.ref 0), some (.int v1), some (.int v2), some (.int v3), none, some (.int v5), some (.int v6), some (.int v7), some (.int v8), none, some (.int v10)]) (⟨rfl, ⟨rfl, ⟨rfl, ⟨rfl, ⟨rfl, ⟨rfl, ⟨rfl, ⟨rfl, ⟨trivial, ⟨rfl, trivial⟩⟩⟩⟩⟩⟩⟩⟩⟩⟩) (e_C_which_b81_149 v1 v2 v3 v5 v6 v7 v8 v10 v9 m30 hf hK)
        · rw [if_neg c36] at hf
          refine zx_ev_ifn zk_137 (P := ¬ v8 = 0) (t := 147) (f := 137) rfl rfl c36 ?_
          refine zx_ev_blk zk_137 2 (pc1 := 141) (L1 := [some (.ref 0), some (.int v1), some (.int v2), some (.int v3), none, some (.int v5), some (.int v6), some (.int v7), some (.int v8), some (.int v9), some (.int v10)]) (st1 := [.ref 19]) (h1 := (zx_SC, m30)) rfl ?_
          obtain ⟨r39, hv38, hf⟩ := zx_bind_eq hf
          refine zx_ev_call (d := d + 76) zk_137 (v := some (.int r39)) (h1 := (zx_SC, m30)) rfl rfl zt_58 rfl zx_SCn rfl rfl (s_Order_asDigits _ (d := d + 75) hv38) ?_
          refine zx_ev_blk zk_137 1 (pc1 := 149) (L1 := [some (.ref 0), some (.int v1), some (.int v2), some (.int v3), none, some (.int v5), some (.int v6), some (.int v7), some (.int v8), some (.int v9), some (.int v10)]) (st1 := [.int r39]) (h1 := (zx_SC, m30)) rfl ?_
          exact zx_ev_sub (L := [some (.ref 0), some (.int v1), some (.int v2), some (.int v3), none, some (.int v5), some (.int v6), some (.int v7), some (.int v8), none, some (.int v10)]) (⟨rfl, ⟨rfl, ⟨rfl, ⟨rfl, ⟨rfl, ⟨rfl, ⟨rfl, ⟨rfl, ⟨trivial, ⟨rfl, trivial⟩⟩⟩⟩⟩⟩⟩⟩⟩⟩) (e_C_which_b81_149 v1 v2 v3 v5 v6 v7 v8 v10 r39 m30 hf hK)
def l_C_which_l81 (v1 : Int32) (v2 : Int32) (v3 : Int32) (v5 : Int32) (v6 : Int32) (v7 : Int32) (s0 : Int32 × Int32 × Int32 × zx_M) : Option (Int32 × Int32 × zx_M) := zx_lp zx_N (fun s : Int32 × Int32 × Int32 × zx_M => b_C_which_l81 v1 v2 v3 v5 v6 v7 s.1 s.2.1 s.2.2.1 s.2.2.2) s0
theorem el_C_which_l81 (v1 : Int32) (v2 : Int32) (v3 : Int32) (v5 : Int32) (v6 : Int32) (v7 : Int32) {d : Nat} {out : Option Value × zx_H} : ∀ (n : Nat) (s : Int32 × Int32 × Int32 × zx_M) (x : Int32 × Int32 × zx_M), zx_lp n (fun s : Int32 × Int32 × Int32 × zx_M => b_C_which_l81 v1 v2 v3 v5 v6 v7 s.1 s.2.1 s.2.2.1 s.2.2.2) s = some x → kx_C_which_l81 v1 v2 v3 v5 v6 v7 d out x → zx_Ev (d + 77) 137 81 [some (.ref 0), some (.int v1), some (.int v2), some (.int v3), none, some (.int v5), some (.int v6), some (.int v7), some (.int s.1), some (.int s.2.1), some (.int s.2.2.1)] [] (zx_SC, s.2.2.2) out := by
  intro n
  induction n with
  | zero => intro s x hl _; simp [zx_lp] at hl
  | succ n ih =>
    intro s x hl hx
    unfold zx_lp at hl
    cases hb : b_C_which_l81 v1 v2 v3 v5 v6 v7 s.1 s.2.1 s.2.2.1 s.2.2.2 with
    | none => simp only [hb] at hl; cases hl
    | some z =>
      simp only [hb] at hl
      cases z with
      | inl s1 => exact eb_C_which_l81 v1 v2 v3 v5 v6 v7 s.1 s.2.1 s.2.2.1 s.2.2.2 hb (ih s1 x hl hx)
      | inr t =>
        simp only [Option.some.injEq] at hl
        subst hl
        exact eb_C_which_l81 v1 v2 v3 v5 v6 v7 s.1 s.2.1 s.2.2.1 s.2.2.2 hb hx
def f_C_which (v1 : Int32) (v2 : Int32) (v3 : Int32) (m : zx_M) : Option (Int32 × zx_M) := (f_C_isSpotAndCount v2 m).bind fun r2 => if r2 = 0 then some ((-1), m) else (f_C_isPart v3 m).bind fun r5 => if ¬ r5 = 0 then (f_Shelves_refusal v1 1 m).bind fun r8 => if r8 = 0 then (f_C_weighAll m).bind fun m11 => (f_Numbers_jumpersThere m11).bind fun r13 => (f_Shelves_size v1 m11).bind fun r15 => zx_let (zx_min 4 r15) fun a16 => (f_Order_power r13 a16 m11).bind fun r18 => (l_C_which_l81 v1 v2 v3 r13 a16 r18 (0, (-2), 0, m11)).bind fun x40 => match x40 with | (w41, w42, m43) => if ¬ v3 = 0 then some (w42, m43) else some (w41, m43) else some (r8, m) else some ((-1), m)
theorem s_C_which (v1 : Int32) (v2 : Int32) (v3 : Int32) (m : zx_M) {d : Nat} {y : (Int32 × zx_M)} (hf : f_C_which v1 v2 v3 m = some y) : zx_Ev (d + 77) 137 0 [some (.ref 0), some (.int v1), some (.int v2), some (.int v3), none, none, none, none, none, none, none] [] (zx_SC, m) (some (.int y.1), (zx_SC, y.2)) := by
  unfold f_C_which at hf
  refine zx_ev_blk zk_137 1 (pc1 := 1) (L1 := [some (.ref 0), some (.int v1), some (.int v2), some (.int v3), none, none, none, none, none, none, none]) (st1 := [.int v2]) (h1 := (zx_SC, m)) rfl ?_
  obtain ⟨r2, hv1, hf⟩ := zx_bind_eq hf
  refine zx_ev_call (d := d + 76) zk_137 (v := some (.int r2)) (h1 := (zx_SC, m)) rfl rfl zt_99 rfl zx_SCn rfl rfl (s_C_isSpotAndCount _ _ (d := d + 75) hv1) ?_
  by_cases c3 : r2 = 0
  · rw [if_pos c3] at hf
    refine zx_ev_ift zk_137 (P := r2 = 0) (t := 14) (f := 7) rfl rfl c3 ?_
    refine zx_ev_blk zk_137 1 (pc1 := 15) (L1 := [some (.ref 0), some (.int v1), some (.int v2), some (.int v3), none, none, none, none, none, none, none]) (st1 := [.int (-1)]) (h1 := (zx_SC, m)) rfl ?_
    obtain rfl := Option.some.inj hf
    exact zx_ev_ret zk_137 rfl rfl
  · rw [if_neg c3] at hf
    refine zx_ev_ifn zk_137 (P := r2 = 0) (t := 14) (f := 7) rfl rfl c3 ?_
    refine zx_ev_blk zk_137 1 (pc1 := 8) (L1 := [some (.ref 0), some (.int v1), some (.int v2), some (.int v3), none, none, none, none, none, none, none]) (st1 := [.int v3]) (h1 := (zx_SC, m)) rfl ?_
    obtain ⟨r5, hv4, hf⟩ := zx_bind_eq hf
    refine zx_ev_call (d := d + 76) zk_137 (v := some (.int r5)) (h1 := (zx_SC, m)) rfl rfl zt_102 rfl zx_SCn rfl rfl (s_C_isPart _ _ (d := d + 76) hv4) ?_
    by_cases c6 : ¬ r5 = 0
    · rw [if_pos c6] at hf
      refine zx_ev_ift zk_137 (P := ¬ r5 = 0) (t := 16) (f := 14) rfl rfl c6 ?_
      refine zx_ev_blk zk_137 4 (pc1 := 22) (L1 := [some (.ref 0), some (.int v1), some (.int v2), some (.int v3), none, none, none, none, none, none, none]) (st1 := [.int 1, .int v1, .ref 15]) (h1 := (zx_SC, m)) rfl ?_
      obtain ⟨r8, hv7, hf⟩ := zx_bind_eq hf
      refine zx_ev_call (d := d + 76) zk_137 (v := some (.int r8)) (h1 := (zx_SC, m)) rfl rfl zt_63 rfl zx_SCn rfl rfl (s_Shelves_refusal _ _ _ (d := d + 75) hv7) ?_
      refine zx_ev_blk zk_137 2 (pc1 := 29) (L1 := [some (.ref 0), some (.int v1), some (.int v2), some (.int v3), some (.int r8), none, none, none, none, none, none]) (st1 := [.int r8]) (h1 := (zx_SC, m)) rfl ?_
      by_cases c9 : r8 = 0
      · rw [if_pos c9] at hf
        refine zx_ev_ift zk_137 (P := r8 = 0) (t := 35) (f := 32) rfl rfl c9 ?_
        refine zx_ev_blk zk_137 1 (pc1 := 36) (L1 := [some (.ref 0), some (.int v1), some (.int v2), some (.int v3), some (.int r8), none, none, none, none, none, none]) (st1 := [.ref 0]) (h1 := (zx_SC, m)) rfl ?_
        obtain ⟨m11, hv10, hf⟩ := zx_bind_eq hf
        refine zx_ev_call (d := d + 76) zk_137 (v := none) (h1 := (zx_SC, m11)) rfl rfl zt_104 rfl zx_SCn rfl rfl (s_C_weighAll _ (d := d + 0) hv10) ?_
        refine zx_ev_blk zk_137 2 (pc1 := 43) (L1 := [some (.ref 0), some (.int v1), some (.int v2), some (.int v3), some (.int r8), none, none, none, none, none, none]) (st1 := [.ref 1]) (h1 := (zx_SC, m11)) rfl ?_
        obtain ⟨r13, hv12, hf⟩ := zx_bind_eq hf
        refine zx_ev_call (d := d + 76) zk_137 (v := some (.int r13)) (h1 := (zx_SC, m11)) rfl rfl zt_42 rfl zx_SCn rfl rfl (s_Numbers_jumpersThere _ (d := d + 76) hv12) ?_
        refine zx_ev_blk zk_137 5 (pc1 := 54) (L1 := [some (.ref 0), some (.int v1), some (.int v2), some (.int v3), some (.int r8), some (.int r13), none, none, none, none, none]) (st1 := [.int v1, .ref 15, .int 4]) (h1 := (zx_SC, m11)) rfl ?_
        obtain ⟨r15, hv14, hf⟩ := zx_bind_eq hf
        refine zx_ev_call (d := d + 76) zk_137 (v := some (.int r15)) (h1 := (zx_SC, m11)) rfl rfl zt_62 rfl zx_SCn rfl rfl (s_Shelves_size _ _ (d := d + 75) hv14) ?_
        obtain ⟨a16, ha16, hf⟩ := zx_let_eq hf
        refine zx_ev_blk zk_137 4 (pc1 := 66) (L1 := [some (.ref 0), some (.int v1), some (.int v2), some (.int v3), some (.int r8), some (.int r13), some (.int a16), none, none, none, none]) (st1 := [.int a16, .int r13]) (h1 := (zx_SC, m11)) (by subst ha16; rfl) ?_
        obtain ⟨r18, hv17, hf⟩ := zx_bind_eq hf
        refine zx_ev_call (d := d + 76) zk_137 (v := some (.int r18)) (h1 := (zx_SC, m11)) rfl rfl zt_57 rfl zx_SCn rfl rfl (s_Order_power _ _ _ (d := d + 76) hv17) ?_
        refine zx_ev_blk zk_137 7 (pc1 := 81) (L1 := [some (.ref 0), some (.int v1), some (.int v2), some (.int v3), some (.int r8), some (.int r13), some (.int a16), some (.int r18), some (.int 0), some (.int (-2)), some (.int 0)]) (st1 := []) (h1 := (zx_SC, m11)) rfl ?_
        obtain ⟨x40, hx40, hf⟩ := zx_bind_eq hf
        refine zx_ev_sub (L := [some (.ref 0), some (.int v1), some (.int v2), some (.int v3), none, some (.int r13), some (.int a16), some (.int r18), some (.int 0), some (.int (-2)), some (.int 0)]) (⟨rfl, ⟨rfl, ⟨rfl, ⟨rfl, ⟨trivial, ⟨rfl, ⟨rfl, ⟨rfl, ⟨rfl, ⟨rfl, ⟨rfl, trivial⟩⟩⟩⟩⟩⟩⟩⟩⟩⟩⟩) (el_C_which_l81 v1 v2 v3 r13 a16 r18 zx_N (0, (-2), 0, m11) x40 hx40 ?_)
        obtain ⟨w41, w42, m43⟩ := x40
        dsimp only at hf
        show zx_Ev (d + 77) 137 160 [some (.ref 0), none, none, some (.int v3), none, none, none, none, some (.int w41), some (.int w42), none] [] (zx_SC, m43) _
        refine zx_ev_blk zk_137 1 (pc1 := 161) (L1 := [some (.ref 0), none, none, some (.int v3), none, none, none, none, some (.int w41), some (.int w42), none]) (st1 := [.int v3]) (h1 := (zx_SC, m43)) rfl ?_
        by_cases c44 : ¬ v3 = 0
        · rw [if_pos c44] at hf
          refine zx_ev_ift zk_137 (P := ¬ v3 = 0) (t := 169) (f := 164) rfl rfl c44 ?_
          refine zx_ev_blk zk_137 1 (pc1 := 171) (L1 := [some (.ref 0), none, none, some (.int v3), none, none, none, none, some (.int w41), some (.int w42), none]) (st1 := [.int w42]) (h1 := (zx_SC, m43)) rfl ?_
          obtain rfl := Option.some.inj hf
          exact zx_ev_ret zk_137 rfl rfl
        · rw [if_neg c44] at hf
          refine zx_ev_ifn zk_137 (P := ¬ v3 = 0) (t := 169) (f := 164) rfl rfl c44 ?_
          refine zx_ev_blk zk_137 2 (pc1 := 171) (L1 := [some (.ref 0), none, none, some (.int v3), none, none, none, none, some (.int w41), some (.int w42), none]) (st1 := [.int w41]) (h1 := (zx_SC, m43)) rfl ?_
          obtain rfl := Option.some.inj hf
          exact zx_ev_ret zk_137 rfl rfl
      · rw [if_neg c9] at hf
        refine zx_ev_ifn zk_137 (P := r8 = 0) (t := 35) (f := 32) rfl rfl c9 ?_
        refine zx_ev_blk zk_137 1 (pc1 := 34) (L1 := [some (.ref 0), some (.int v1), some (.int v2), some (.int v3), some (.int r8), none, none, none, none, none, none]) (st1 := [.int r8]) (h1 := (zx_SC, m)) rfl ?_
        obtain rfl := Option.some.inj hf
        exact zx_ev_ret zk_137 rfl rfl
    · rw [if_neg c6] at hf
      refine zx_ev_ifn zk_137 (P := ¬ r5 = 0) (t := 16) (f := 14) rfl rfl c6 ?_
      refine zx_ev_blk zk_137 1 (pc1 := 15) (L1 := [some (.ref 0), some (.int v1), some (.int v2), some (.int v3), none, none, none, none, none, none, none]) (st1 := [.int (-1)]) (h1 := (zx_SC, m)) rfl ?_
      obtain rfl := Option.some.inj hf
      exact zx_ev_ret zk_137 rfl rfl
def kx_C_windBy_l38 (v1 : Int32) (v2 : Int32) (v3 : Int32) (m : zx_M) (d : Nat) (out : Option Value × zx_H) : Int32 → Prop
  | y => out = (some (.int y), (zx_SC, m))
def kl_C_windBy_l38 (v1 : Int32) (v2 : Int32) (v3 : Int32) (m : zx_M) (d : Nat) (out : Option Value × zx_H) : (Int32 × Int32 × Int32) ⊕ (Int32) → Prop
  | .inl (v4, v5, v6) => zx_Ev (d + 1) 132 38 [some (.ref 0), some (.int v1), some (.int v2), some (.int v3), some (.int v4), some (.int v5), some (.int v6), none, none] [] (zx_SC, m) out
  | .inr x => kx_C_windBy_l38 v1 v2 v3 m d out x
def kx_C_windBy_lb38_49 (v1 : Int32) (v2 : Int32) (v3 : Int32) (v6 : Int32) (m : zx_M) (d : Nat) (out : Option Value × zx_H) : Int32 × Int32 → Prop
  | (x4, x5) => zx_Ev (d + 1) 132 122 [some (.ref 0), some (.int v1), some (.int v2), some (.int v3), some (.int x4), some (.int x5), some (.int v6), none, none] [] (zx_SC, m) out
def kl_C_windBy_lb38_49 (v1 : Int32) (v2 : Int32) (v3 : Int32) (v6 : Int32) (m : zx_M) (d : Nat) (out : Option Value × zx_H) : (Int32 × Int32 × Int32) ⊕ (Int32 × Int32) → Prop
  | .inl (v4, v5, v7) => zx_Ev (d + 1) 132 49 [some (.ref 0), some (.int v1), some (.int v2), some (.int v3), some (.int v4), some (.int v5), some (.int v6), some (.int v7), none] [] (zx_SC, m) out
  | .inr x => kx_C_windBy_lb38_49 v1 v2 v3 v6 m d out x
def n_C_windBy_b38_b49_116 (v1 : Int32) (v2 : Int32) (v3 : Int32) (v4 : Int32) (v5 : Int32) (v6 : Int32) (v7 : Int32) (m : zx_M) : Option ((Int32 × Int32 × Int32) ⊕ (Int32 × Int32)) := zx_let (v7 + 1) fun a13 => some (.inl (v4, v5, a13))
theorem e_C_windBy_b38_b49_116 (v1 : Int32) (v2 : Int32) (v3 : Int32) (v4 : Int32) (v5 : Int32) (v6 : Int32) (v7 : Int32) (m : zx_M) {d : Nat} {out : Option Value × zx_H} {y : (Int32 × Int32 × Int32) ⊕ (Int32 × Int32)} (hf : n_C_windBy_b38_b49_116 v1 v2 v3 v4 v5 v6 v7 m = some y) (hK : kl_C_windBy_lb38_49 v1 v2 v3 v6 m d out y) : zx_Ev (d + 1) 132 116 [some (.ref 0), some (.int v1), some (.int v2), some (.int v3), some (.int v4), some (.int v5), some (.int v6), some (.int v7), none] [] (zx_SC, m) out := by
  unfold n_C_windBy_b38_b49_116 at hf
  obtain ⟨a13, ha13, hf⟩ := zx_let_eq hf
  refine zx_ev_blk zk_132 2 (pc1 := 49) (L1 := [some (.ref 0), some (.int v1), some (.int v2), some (.int v3), some (.int v4), some (.int v5), some (.int v6), some (.int a13), none]) (st1 := []) (h1 := (zx_SC, m)) (by subst ha13; rfl) ?_
  obtain rfl := Option.some.inj hf
  exact zx_ev_sub (L := [some (.ref 0), some (.int v1), some (.int v2), some (.int v3), some (.int v4), some (.int v5), some (.int v6), some (.int a13), none]) (⟨rfl, ⟨rfl, ⟨rfl, ⟨rfl, ⟨rfl, ⟨rfl, ⟨rfl, ⟨rfl, trivial⟩⟩⟩⟩⟩⟩⟩⟩) hK
def n_C_windBy_b38_b49_96 (v1 : Int32) (v2 : Int32) (v3 : Int32) (v6 : Int32) (v7 : Int32) (v8 : Int32) (m : zx_M) : Option ((Int32 × Int32 × Int32) ⊕ (Int32 × Int32)) := zx_let (((100 * (v6 + 30)) + v7) + 30) fun a15 => n_C_windBy_b38_b49_116 v1 v2 v3 a15 v8 v6 v7 m
theorem e_C_windBy_b38_b49_96 (v1 : Int32) (v2 : Int32) (v3 : Int32) (v6 : Int32) (v7 : Int32) (v8 : Int32) (m : zx_M) {d : Nat} {out : Option Value × zx_H} {y : (Int32 × Int32 × Int32) ⊕ (Int32 × Int32)} (hf : n_C_windBy_b38_b49_96 v1 v2 v3 v6 v7 v8 m = some y) (hK : kl_C_windBy_lb38_49 v1 v2 v3 v6 m d out y) : zx_Ev (d + 1) 132 96 [some (.ref 0), some (.int v1), some (.int v2), some (.int v3), none, none, some (.int v6), some (.int v7), some (.int v8)] [] (zx_SC, m) out := by
  unfold n_C_windBy_b38_b49_96 at hf
  obtain ⟨a15, ha15, hf⟩ := zx_let_eq hf
  refine zx_ev_blk zk_132 12 (pc1 := 116) (L1 := [some (.ref 0), some (.int v1), some (.int v2), some (.int v3), some (.int a15), some (.int v8), some (.int v6), some (.int v7), some (.int v8)]) (st1 := []) (h1 := (zx_SC, m)) (by subst ha15; rfl) ?_
  exact zx_ev_sub (L := [some (.ref 0), some (.int v1), some (.int v2), some (.int v3), some (.int a15), some (.int v8), some (.int v6), some (.int v7), none]) (⟨rfl, ⟨rfl, ⟨rfl, ⟨rfl, ⟨rfl, ⟨rfl, ⟨rfl, ⟨rfl, ⟨trivial, trivial⟩⟩⟩⟩⟩⟩⟩⟩⟩) (e_C_windBy_b38_b49_116 v1 v2 v3 a15 v8 v6 v7 m hf hK)
def b_C_windBy_lb38_49 (v1 : Int32) (v2 : Int32) (v3 : Int32) (v4 : Int32) (v5 : Int32) (v6 : Int32) (v7 : Int32) (m : zx_M) : Option ((Int32 × Int32 × Int32) ⊕ (Int32 × Int32)) := if 30 < v7 then some (.inr (v4, v5)) else zx_let ((zx_abs v6) + (zx_abs v7)) fun a11 => if ¬ (v1 + (v3 * (v6 + v7))) = v2 then n_C_windBy_b38_b49_116 v1 v2 v3 v4 v5 v6 v7 m else if v4 = (-2) then n_C_windBy_b38_b49_96 v1 v2 v3 v6 v7 a11 m else if v5 ≤ a11 then n_C_windBy_b38_b49_116 v1 v2 v3 v4 v5 v6 v7 m else n_C_windBy_b38_b49_96 v1 v2 v3 v6 v7 a11 m
theorem eb_C_windBy_lb38_49 (v1 : Int32) (v2 : Int32) (v3 : Int32) (v4 : Int32) (v5 : Int32) (v6 : Int32) (v7 : Int32) (m : zx_M) {d : Nat} {out : Option Value × zx_H} {y : (Int32 × Int32 × Int32) ⊕ (Int32 × Int32)} (hf : b_C_windBy_lb38_49 v1 v2 v3 v4 v5 v6 v7 m = some y) (hK : kl_C_windBy_lb38_49 v1 v2 v3 v6 m d out y) : zx_Ev (d + 1) 132 49 [some (.ref 0), some (.int v1), some (.int v2), some (.int v3), some (.int v4), some (.int v5), some (.int v6), some (.int v7), none] [] (zx_SC, m) out := by
  unfold b_C_windBy_lb38_49 at hf
  refine zx_ev_blk zk_132 2 (pc1 := 53) (L1 := [some (.ref 0), some (.int v1), some (.int v2), some (.int v3), some (.int v4), some (.int v5), some (.int v6), some (.int v7), none]) (st1 := [.int 30, .int v7]) (h1 := (zx_SC, m)) rfl ?_
  by_cases c10 : 30 < v7
  · rw [if_pos c10] at hf
    refine zx_ev_ift zk_132 (P := 30 < v7) (t := 122) (f := 56) rfl rfl c10 ?_
    obtain rfl := Option.some.inj hf
    exact zx_ev_sub (L := [some (.ref 0), some (.int v1), some (.int v2), some (.int v3), some (.int v4), some (.int v5), some (.int v6), none, none]) (⟨rfl, ⟨rfl, ⟨rfl, ⟨rfl, ⟨rfl, ⟨rfl, ⟨rfl, ⟨trivial, trivial⟩⟩⟩⟩⟩⟩⟩⟩) hK
  · rw [if_neg c10] at hf
    refine zx_ev_ifn zk_132 (P := 30 < v7) (t := 122) (f := 56) rfl rfl c10 ?_
    obtain ⟨a11, ha11, hf⟩ := zx_let_eq hf
    refine zx_ev_blk zk_132 14 (pc1 := 79) (L1 := [some (.ref 0), some (.int v1), some (.int v2), some (.int v3), some (.int v4), some (.int v5), some (.int v6), some (.int v7), some (.int a11)]) (st1 := [.int v2, .int (v1 + (v3 * (v6 + v7)))]) (h1 := (zx_SC, m)) (by subst ha11; rfl) ?_
    by_cases c12 : ¬ (v1 + (v3 * (v6 + v7))) = v2
    · rw [if_pos c12] at hf
      refine zx_ev_ift zk_132 (P := ¬ (v1 + (v3 * (v6 + v7))) = v2) (t := 116) (f := 82) rfl rfl c12 ?_
      exact zx_ev_sub (L := [some (.ref 0), some (.int v1), some (.int v2), some (.int v3), some (.int v4), some (.int v5), some (.int v6), some (.int v7), none]) (⟨rfl, ⟨rfl, ⟨rfl, ⟨rfl, ⟨rfl, ⟨rfl, ⟨rfl, ⟨rfl, ⟨trivial, trivial⟩⟩⟩⟩⟩⟩⟩⟩⟩) (e_C_windBy_b38_b49_116 v1 v2 v3 v4 v5 v6 v7 m hf hK)
    · rw [if_neg c12] at hf
      refine zx_ev_ifn zk_132 (P := ¬ (v1 + (v3 * (v6 + v7))) = v2) (t := 116) (f := 82) rfl rfl c12 ?_
      refine zx_ev_blk zk_132 2 (pc1 := 86) (L1 := [some (.ref 0), some (.int v1), some (.int v2), some (.int v3), some (.int v4), some (.int v5), some (.int v6), some (.int v7), some (.int a11)]) (st1 := [.int (-2), .int v4]) (h1 := (zx_SC, m)) rfl ?_
      by_cases c14 : v4 = (-2)
      · rw [if_pos c14] at hf
        refine zx_ev_ift zk_132 (P := v4 = (-2)) (t := 96) (f := 89) rfl rfl c14 ?_
        exact zx_ev_sub (L := [some (.ref 0), some (.int v1), some (.int v2), some (.int v3), none, none, some (.int v6), some (.int v7), some (.int a11)]) (⟨rfl, ⟨rfl, ⟨rfl, ⟨rfl, ⟨trivial, ⟨trivial, ⟨rfl, ⟨rfl, ⟨rfl, trivial⟩⟩⟩⟩⟩⟩⟩⟩⟩) (e_C_windBy_b38_b49_96 v1 v2 v3 v6 v7 a11 m hf hK)
      · rw [if_neg c14] at hf
        refine zx_ev_ifn zk_132 (P := v4 = (-2)) (t := 96) (f := 89) rfl rfl c14 ?_
        refine zx_ev_blk zk_132 2 (pc1 := 93) (L1 := [some (.ref 0), some (.int v1), some (.int v2), some (.int v3), some (.int v4), some (.int v5), some (.int v6), some (.int v7), some (.int a11)]) (st1 := [.int v5, .int a11]) (h1 := (zx_SC, m)) rfl ?_
        by_cases c16 : v5 ≤ a11
        · rw [if_pos c16] at hf
          refine zx_ev_ift zk_132 (P := v5 ≤ a11) (t := 116) (f := 96) rfl rfl c16 ?_
          exact zx_ev_sub (L := [some (.ref 0), some (.int v1), some (.int v2), some (.int v3), some (.int v4), some (.int v5), some (.int v6), some (.int v7), none]) (⟨rfl, ⟨rfl, ⟨rfl, ⟨rfl, ⟨rfl, ⟨rfl, ⟨rfl, ⟨rfl, ⟨trivial, trivial⟩⟩⟩⟩⟩⟩⟩⟩⟩) (e_C_windBy_b38_b49_116 v1 v2 v3 v4 v5 v6 v7 m hf hK)
        · rw [if_neg c16] at hf
          refine zx_ev_ifn zk_132 (P := v5 ≤ a11) (t := 116) (f := 96) rfl rfl c16 ?_
          exact zx_ev_sub (L := [some (.ref 0), some (.int v1), some (.int v2), some (.int v3), none, none, some (.int v6), some (.int v7), some (.int a11)]) (⟨rfl, ⟨rfl, ⟨rfl, ⟨rfl, ⟨trivial, ⟨trivial, ⟨rfl, ⟨rfl, ⟨rfl, trivial⟩⟩⟩⟩⟩⟩⟩⟩⟩) (e_C_windBy_b38_b49_96 v1 v2 v3 v6 v7 a11 m hf hK)
def l_C_windBy_lb38_49 (v1 : Int32) (v2 : Int32) (v3 : Int32) (v6 : Int32) (m : zx_M) (s0 : Int32 × Int32 × Int32) : Option (Int32 × Int32) := zx_lp zx_N (fun s : Int32 × Int32 × Int32 => b_C_windBy_lb38_49 v1 v2 v3 s.1 s.2.1 v6 s.2.2 m) s0
theorem el_C_windBy_lb38_49 (v1 : Int32) (v2 : Int32) (v3 : Int32) (v6 : Int32) (m : zx_M) {d : Nat} {out : Option Value × zx_H} : ∀ (n : Nat) (s : Int32 × Int32 × Int32) (x : Int32 × Int32), zx_lp n (fun s : Int32 × Int32 × Int32 => b_C_windBy_lb38_49 v1 v2 v3 s.1 s.2.1 v6 s.2.2 m) s = some x → kx_C_windBy_lb38_49 v1 v2 v3 v6 m d out x → zx_Ev (d + 1) 132 49 [some (.ref 0), some (.int v1), some (.int v2), some (.int v3), some (.int s.1), some (.int s.2.1), some (.int v6), some (.int s.2.2), none] [] (zx_SC, m) out := by
  intro n
  induction n with
  | zero => intro s x hl _; simp [zx_lp] at hl
  | succ n ih =>
    intro s x hl hx
    unfold zx_lp at hl
    cases hb : b_C_windBy_lb38_49 v1 v2 v3 s.1 s.2.1 v6 s.2.2 m with
    | none => simp only [hb] at hl; cases hl
    | some z =>
      simp only [hb] at hl
      cases z with
      | inl s1 => exact eb_C_windBy_lb38_49 v1 v2 v3 s.1 s.2.1 v6 s.2.2 m hb (ih s1 x hl hx)
      | inr t =>
        simp only [Option.some.injEq] at hl
        subst hl
        exact eb_C_windBy_lb38_49 v1 v2 v3 s.1 s.2.1 v6 s.2.2 m hb hx
def b_C_windBy_l38 (v1 : Int32) (v2 : Int32) (v3 : Int32) (v4 : Int32) (v5 : Int32) (v6 : Int32) (m : zx_M) : Option ((Int32 × Int32 × Int32) ⊕ (Int32)) := if 30 < v6 then some (.inr v4) else (l_C_windBy_lb38_49 v1 v2 v3 v6 m (v4, v5, (-30))).bind fun x17 => match x17 with | (w18, w19) => zx_let (v6 + 1) fun a20 => some (.inl (w18, w19, a20))
theorem eb_C_windBy_l38 (v1 : Int32) (v2 : Int32) (v3 : Int32) (v4 : Int32) (v5 : Int32) (v6 : Int32) (m : zx_M) {d : Nat} {out : Option Value × zx_H} {y : (Int32 × Int32 × Int32) ⊕ (Int32)} (hf : b_C_windBy_l38 v1 v2 v3 v4 v5 v6 m = some y) (hK : kl_C_windBy_l38 v1 v2 v3 m d out y) : zx_Ev (d + 1) 132 38 [some (.ref 0), some (.int v1), some (.int v2), some (.int v3), some (.int v4), some (.int v5), some (.int v6), none, none] [] (zx_SC, m) out := by
  unfold b_C_windBy_l38 at hf
  refine zx_ev_blk zk_132 2 (pc1 := 42) (L1 := [some (.ref 0), some (.int v1), some (.int v2), some (.int v3), some (.int v4), some (.int v5), some (.int v6), none, none]) (st1 := [.int 30, .int v6]) (h1 := (zx_SC, m)) rfl ?_
  by_cases c9 : 30 < v6
  · rw [if_pos c9] at hf
    refine zx_ev_ift zk_132 (P := 30 < v6) (t := 128) (f := 45) rfl rfl c9 ?_
    refine zx_ev_blk zk_132 1 (pc1 := 130) (L1 := [some (.ref 0), some (.int v1), some (.int v2), some (.int v3), some (.int v4), some (.int v5), some (.int v6), none, none]) (st1 := [.int v4]) (h1 := (zx_SC, m)) rfl ?_
    obtain rfl := Option.some.inj hf
    rw [show out = _ from hK]
    exact zx_ev_ret zk_132 rfl rfl
  · rw [if_neg c9] at hf
    refine zx_ev_ifn zk_132 (P := 30 < v6) (t := 128) (f := 45) rfl rfl c9 ?_
    refine zx_ev_blk zk_132 2 (pc1 := 49) (L1 := [some (.ref 0), some (.int v1), some (.int v2), some (.int v3), some (.int v4), some (.int v5), some (.int v6), some (.int (-30)), none]) (st1 := []) (h1 := (zx_SC, m)) rfl ?_
    obtain ⟨x17, hx17, hf⟩ := zx_bind_eq hf
    refine zx_ev_sub (L := [some (.ref 0), some (.int v1), some (.int v2), some (.int v3), some (.int v4), some (.int v5), some (.int v6), some (.int (-30)), none]) (⟨rfl, ⟨rfl, ⟨rfl, ⟨rfl, ⟨rfl, ⟨rfl, ⟨rfl, ⟨rfl, trivial⟩⟩⟩⟩⟩⟩⟩⟩) (el_C_windBy_lb38_49 v1 v2 v3 v6 m zx_N (v4, v5, (-30)) x17 hx17 ?_)
    obtain ⟨w18, w19⟩ := x17
    dsimp only at hf
    show zx_Ev (d + 1) 132 122 [some (.ref 0), some (.int v1), some (.int v2), some (.int v3), some (.int w18), some (.int w19), some (.int v6), none, none] [] (zx_SC, m) out
    obtain ⟨a20, ha20, hf⟩ := zx_let_eq hf
    refine zx_ev_blk zk_132 2 (pc1 := 38) (L1 := [some (.ref 0), some (.int v1), some (.int v2), some (.int v3), some (.int w18), some (.int w19), some (.int a20), none, none]) (st1 := []) (h1 := (zx_SC, m)) (by subst ha20; rfl) ?_
    obtain rfl := Option.some.inj hf
    exact zx_ev_sub (L := [some (.ref 0), some (.int v1), some (.int v2), some (.int v3), some (.int w18), some (.int w19), some (.int a20), none, none]) (⟨rfl, ⟨rfl, ⟨rfl, ⟨rfl, ⟨rfl, ⟨rfl, ⟨rfl, trivial⟩⟩⟩⟩⟩⟩⟩) hK
def l_C_windBy_l38 (v1 : Int32) (v2 : Int32) (v3 : Int32) (m : zx_M) (s0 : Int32 × Int32 × Int32) : Option (Int32) := zx_lp zx_N (fun s : Int32 × Int32 × Int32 => b_C_windBy_l38 v1 v2 v3 s.1 s.2.1 s.2.2 m) s0
theorem el_C_windBy_l38 (v1 : Int32) (v2 : Int32) (v3 : Int32) (m : zx_M) {d : Nat} {out : Option Value × zx_H} : ∀ (n : Nat) (s : Int32 × Int32 × Int32) (x : Int32), zx_lp n (fun s : Int32 × Int32 × Int32 => b_C_windBy_l38 v1 v2 v3 s.1 s.2.1 s.2.2 m) s = some x → kx_C_windBy_l38 v1 v2 v3 m d out x → zx_Ev (d + 1) 132 38 [some (.ref 0), some (.int v1), some (.int v2), some (.int v3), some (.int s.1), some (.int s.2.1), some (.int s.2.2), none, none] [] (zx_SC, m) out := by
  intro n
  induction n with
  | zero => intro s x hl _; simp [zx_lp] at hl
  | succ n ih =>
    intro s x hl hx
    unfold zx_lp at hl
    cases hb : b_C_windBy_l38 v1 v2 v3 s.1 s.2.1 s.2.2 m with
    | none => simp only [hb] at hl; cases hl
    | some z =>
      simp only [hb] at hl
      cases z with
      | inl s1 => exact eb_C_windBy_l38 v1 v2 v3 s.1 s.2.1 s.2.2 m hb (ih s1 x hl hx)
      | inr t =>
        simp only [Option.some.injEq] at hl
        subst hl
        exact eb_C_windBy_l38 v1 v2 v3 s.1 s.2.1 s.2.2 m hb hx
def f_C_windBy (v1 : Int32) (v2 : Int32) (m : zx_M) : Option Int32 := (f_C_isYard v1 m).bind fun r2 => if r2 = 0 then some (-1) else (f_C_isYard v2 m).bind fun r5 => if ¬ r5 = 0 then (f_Numbers_told 0 10 m).bind fun r8 => (l_C_windBy_l38 v1 v2 r8 m ((-2), 0, (-30))).bind fun x21 => zx_let x21 fun y22 => some y22 else some (-1)
theorem s_C_windBy (v1 : Int32) (v2 : Int32) (m : zx_M) {d : Nat} {y : Int32} (hf : f_C_windBy v1 v2 m = some y) : zx_Ev (d + 1) 132 0 [some (.ref 0), some (.int v1), some (.int v2), none, none, none, none, none, none] [] (zx_SC, m) (some (.int y), (zx_SC, m)) := by
  unfold f_C_windBy at hf
  refine zx_ev_blk zk_132 1 (pc1 := 1) (L1 := [some (.ref 0), some (.int v1), some (.int v2), none, none, none, none, none, none]) (st1 := [.int v1]) (h1 := (zx_SC, m)) rfl ?_
  obtain ⟨r2, hv1, hf⟩ := zx_bind_eq hf
  refine zx_ev_call (d := d + 0) zk_132 (v := some (.int r2)) (h1 := (zx_SC, m)) rfl rfl zt_97 rfl zx_SCn rfl rfl (s_C_isYard _ _ (d := d + 0) hv1) ?_
  by_cases c3 : r2 = 0
  · rw [if_pos c3] at hf
    refine zx_ev_ift zk_132 (P := r2 = 0) (t := 14) (f := 7) rfl rfl c3 ?_
    refine zx_ev_blk zk_132 1 (pc1 := 15) (L1 := [some (.ref 0), some (.int v1), some (.int v2), none, none, none, none, none, none]) (st1 := [.int (-1)]) (h1 := (zx_SC, m)) rfl ?_
    obtain rfl := Option.some.inj hf
    exact zx_ev_ret zk_132 rfl rfl
  · rw [if_neg c3] at hf
    refine zx_ev_ifn zk_132 (P := r2 = 0) (t := 14) (f := 7) rfl rfl c3 ?_
    refine zx_ev_blk zk_132 1 (pc1 := 8) (L1 := [some (.ref 0), some (.int v1), some (.int v2), none, none, none, none, none, none]) (st1 := [.int v2]) (h1 := (zx_SC, m)) rfl ?_
    obtain ⟨r5, hv4, hf⟩ := zx_bind_eq hf
    refine zx_ev_call (d := d + 0) zk_132 (v := some (.int r5)) (h1 := (zx_SC, m)) rfl rfl zt_97 rfl zx_SCn rfl rfl (s_C_isYard _ _ (d := d + 0) hv4) ?_
    by_cases c6 : ¬ r5 = 0
    · rw [if_pos c6] at hf
      refine zx_ev_ift zk_132 (P := ¬ r5 = 0) (t := 16) (f := 14) rfl rfl c6 ?_
      refine zx_ev_blk zk_132 4 (pc1 := 23) (L1 := [some (.ref 0), some (.int v1), some (.int v2), none, none, none, none, none, none]) (st1 := [.int 10, .int 0, .ref 1]) (h1 := (zx_SC, m)) rfl ?_
      obtain ⟨r8, hv7, hf⟩ := zx_bind_eq hf
      refine zx_ev_call (d := d + 0) zk_132 (v := some (.int r8)) (h1 := (zx_SC, m)) rfl rfl zt_46 rfl zx_SCn rfl rfl (s_Numbers_told _ _ _ (d := d + 0) hv7) ?_
      refine zx_ev_blk zk_132 7 (pc1 := 38) (L1 := [some (.ref 0), some (.int v1), some (.int v2), some (.int r8), some (.int (-2)), some (.int 0), some (.int (-30)), none, none]) (st1 := []) (h1 := (zx_SC, m)) rfl ?_
      obtain ⟨x21, hx21, hf⟩ := zx_bind_eq hf
      refine zx_ev_sub (L := [some (.ref 0), some (.int v1), some (.int v2), some (.int r8), some (.int (-2)), some (.int 0), some (.int (-30)), none, none]) (⟨rfl, ⟨rfl, ⟨rfl, ⟨rfl, ⟨rfl, ⟨rfl, ⟨rfl, trivial⟩⟩⟩⟩⟩⟩⟩) (el_C_windBy_l38 v1 v2 r8 m zx_N ((-2), 0, (-30)) x21 hx21 ?_)
      obtain ⟨y22, hy22, hf⟩ := zx_let_eq hf
      subst hy22
      obtain rfl := Option.some.inj hf
      rfl
    · rw [if_neg c6] at hf
      refine zx_ev_ifn zk_132 (P := ¬ r5 = 0) (t := 16) (f := 14) rfl rfl c6 ?_
      refine zx_ev_blk zk_132 1 (pc1 := 15) (L1 := [some (.ref 0), some (.int v1), some (.int v2), none, none, none, none, none, none]) (st1 := [.int (-1)]) (h1 := (zx_SC, m)) rfl ?_
      obtain rfl := Option.some.inj hf
      exact zx_ev_ret zk_132 rfl rfl
