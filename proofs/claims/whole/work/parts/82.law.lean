/-! the law's cases -/
section ZK82
variable {p : Program} {l : Launch} {e : Env} {R : Room} {s : State} {m : MethodId} {args : Array Value} {below : List Frame} {meth : Method} {c : Code} {H : Heap} {locs : List Loc} {cells slots b L : Nat} {Q : State → Prop} {D : va_G} {κ : Nat → ClassId} {A : Nat → Prop} {ρ σ : Nat → Nat} {ls : Array Slot} {C M : zx_M} {x : Int32} {xs : Nat → Int32}
theorem zl_j33 (X : zl_X l p R s m args c D κ A b L xs) (Y : zl_Y s D κ A ρ σ C M H locs) (R0 : zm_R zq_V C M) (hc : cells ≤ R.cells) (hs : slots ≤ R.slots) (hl : lv_has ls 4 [(0, .ref b), (1, .ref (ρ 0)), (2, .ref (σ 0)), (3, .int x)]) (hin : ∀ i : Int32, 0 ≤ i → i ≤ 5 → vp_in (x + i) L)
    (kk : ∀ (ρ1 σ1 : Nat → Nat) (C1 M1 : zx_M) (H1 : Heap) (locs1 : List Loc), ρ1 0 = ρ 0 → σ1 0 = σ 0 → zl_Y s D κ A ρ1 σ1 C1 M1 H1 locs1 → zm_R zq_V C1 M1 → W p l e R s m args below meth c H1 locs1 cells slots Q (F0 m 1662 ls [])) : W p l e R s m args below meth c H locs cells slots Q (F0 m 1271 ls []) := by
  obtain ⟨r, C1, M1, e1, e2, R1⟩ := zl_r_body R0 (xs (x + 1).toNatClampNeg)
  refine zl_ld X (lv_at hl 1 rfl) rfl (zl_d zl_c33 rfl) ?_
  refine zl_a X Y hl (kn := 1) (i := 1) (by decide) (zl_d zl_c33 rfl) (zl_d zl_c33 rfl) (zl_d zl_c33 rfl) (zl_d zl_c33 rfl) (zl_d zl_c33 rfl) (hin 1 (by decide) (by decide)) ?_
  refine zl_callC X Y hl.1 hc hs zt_147 rfl e1 rfl zl_w152 rfl (zl_d zl_c33 rfl) rfl (Nat.le_of_ble_eq_true rfl) (fun u H1 locs1 hu Y1 => ?_)
  clear Y
  have Y := Y1
  refine zl_ld X (lv_at hl 2 rfl) rfl (zl_d zl_c33 rfl) ?_
  refine zl_a X Y hl (kn := 1) (i := 1) (by decide) (zl_d zl_c33 rfl) (zl_d zl_c33 rfl) (zl_d zl_c33 rfl) (zl_d zl_c33 rfl) (zl_d zl_c33 rfl) (hin 1 (by decide) (by decide)) ?_
  refine zl_callM X Y hl.1 hc hs zt_241 rfl e2 rfl zl_w155 rfl (zl_d zl_c33 rfl) rfl (Nat.le_of_ble_eq_true rfl) (fun u2 H2 locs2 hu2 Y2 => ?_)
  refine zl_eq X (tgt := 1662) (zl_d zl_c33 rfl) (by decide) ?_
  exact kk _ _ _ _ _ _ hu hu2 Y2 R1
theorem zl_j34 (X : zl_X l p R s m args c D κ A b L xs) (Y : zl_Y s D κ A ρ σ C M H locs) (R0 : zm_R zq_V C M) (hc : cells ≤ R.cells) (hs : slots ≤ R.slots) (hl : lv_has ls 4 [(0, .ref b), (1, .ref (ρ 0)), (2, .ref (σ 0)), (3, .int x)]) (hin : ∀ i : Int32, 0 ≤ i → i ≤ 5 → vp_in (x + i) L)
    (kk : ∀ (ρ1 σ1 : Nat → Nat) (C1 M1 : zx_M) (H1 : Heap) (locs1 : List Loc), ρ1 0 = ρ 0 → σ1 0 = σ 0 → zl_Y s D κ A ρ1 σ1 C1 M1 H1 locs1 → zm_R zq_V C1 M1 → W p l e R s m args below meth c H1 locs1 cells slots Q (F0 m 1662 ls [])) : W p l e R s m args below meth c H locs cells slots Q (F0 m 1294 ls []) := by
  obtain ⟨r, C1, M1, e1, e2, R1⟩ := zl_r_act R0 (xs (x + 1).toNatClampNeg) (xs (x + 2).toNatClampNeg) (xs (x + 3).toNatClampNeg)
  refine zl_ld X (lv_at hl 1 rfl) rfl (zl_d zl_c34 rfl) ?_
  refine zl_a X Y hl (kn := 1) (i := 1) (by decide) (zl_d zl_c34 rfl) (zl_d zl_c34 rfl) (zl_d zl_c34 rfl) (zl_d zl_c34 rfl) (zl_d zl_c34 rfl) (hin 1 (by decide) (by decide)) ?_
  refine zl_a X Y hl (kn := 2) (i := 2) (by decide) (zl_d zl_c34 rfl) (zl_d zl_c34 rfl) (zl_d zl_c34 rfl) (zl_d zl_c34 rfl) (zl_d zl_c34 rfl) (hin 2 (by decide) (by decide)) ?_
  refine zl_a X Y hl (kn := 3) (i := 3) (by decide) (zl_d zl_c34 rfl) (zl_d zl_c34 rfl) (zl_d zl_c34 rfl) (zl_d zl_c34 rfl) (zl_d zl_c34 rfl) (hin 3 (by decide) (by decide)) ?_
  refine zl_callC X Y hl.1 hc hs zt_148 rfl e1 rfl zl_w156 rfl (zl_d zl_c34 rfl) rfl (Nat.le_of_ble_eq_true rfl) (fun u H1 locs1 hu Y1 => ?_)
  clear Y
  have Y := Y1
  refine zl_ld X (lv_at hl 2 rfl) rfl (zl_d zl_c34 rfl) ?_
  refine zl_a X Y hl (kn := 1) (i := 1) (by decide) (zl_d zl_c34 rfl) (zl_d zl_c34 rfl) (zl_d zl_c34 rfl) (zl_d zl_c34 rfl) (zl_d zl_c34 rfl) (hin 1 (by decide) (by decide)) ?_
  refine zl_a X Y hl (kn := 2) (i := 2) (by decide) (zl_d zl_c34 rfl) (zl_d zl_c34 rfl) (zl_d zl_c34 rfl) (zl_d zl_c34 rfl) (zl_d zl_c34 rfl) (hin 2 (by decide) (by decide)) ?_
  refine zl_a X Y hl (kn := 3) (i := 3) (by decide) (zl_d zl_c34 rfl) (zl_d zl_c34 rfl) (zl_d zl_c34 rfl) (zl_d zl_c34 rfl) (zl_d zl_c34 rfl) (hin 3 (by decide) (by decide)) ?_
  refine zl_callM X Y hl.1 hc hs zt_248 rfl e2 rfl zl_w159 rfl (zl_d zl_c34 rfl) rfl (Nat.le_of_ble_eq_true rfl) (fun u2 H2 locs2 hu2 Y2 => ?_)
  refine zl_eq X (tgt := 1662) (zl_d zl_c34 rfl) (by decide) ?_
  exact kk _ _ _ _ _ _ hu hu2 Y2 R1
theorem zl_j35 (X : zl_X l p R s m args c D κ A b L xs) (Y : zl_Y s D κ A ρ σ C M H locs) (R0 : zm_R zq_V C M) (hc : cells ≤ R.cells) (hs : slots ≤ R.slots) (hl : lv_has ls 4 [(0, .ref b), (1, .ref (ρ 0)), (2, .ref (σ 0)), (3, .int x)]) (hin : ∀ i : Int32, 0 ≤ i → i ≤ 5 → vp_in (x + i) L)
    (kk : ∀ (ρ1 σ1 : Nat → Nat) (C1 M1 : zx_M) (H1 : Heap) (locs1 : List Loc), ρ1 0 = ρ 0 → σ1 0 = σ 0 → zl_Y s D κ A ρ1 σ1 C1 M1 H1 locs1 → zm_R zq_V C1 M1 → W p l e R s m args below meth c H1 locs1 cells slots Q (F0 m 1662 ls [])) : W p l e R s m args below meth c H locs cells slots Q (F0 m 1337 ls []) := by
  obtain ⟨r, C1, M1, e1, e2, R1⟩ := zl_r_trace R0 (xs (x + 1).toNatClampNeg)
  refine zl_ld X (lv_at hl 1 rfl) rfl (zl_d zl_c35 rfl) ?_
  refine zl_a X Y hl (kn := 1) (i := 1) (by decide) (zl_d zl_c35 rfl) (zl_d zl_c35 rfl) (zl_d zl_c35 rfl) (zl_d zl_c35 rfl) (zl_d zl_c35 rfl) (hin 1 (by decide) (by decide)) ?_
  refine zl_callC X Y hl.1 hc hs zt_149 rfl e1 rfl zl_w160 rfl (zl_d zl_c35 rfl) rfl (Nat.le_of_ble_eq_true rfl) (fun u H1 locs1 hu Y1 => ?_)
  clear Y
  have Y := Y1
  refine zl_ld X (lv_at hl 2 rfl) rfl (zl_d zl_c35 rfl) ?_
  refine zl_a X Y hl (kn := 1) (i := 1) (by decide) (zl_d zl_c35 rfl) (zl_d zl_c35 rfl) (zl_d zl_c35 rfl) (zl_d zl_c35 rfl) (zl_d zl_c35 rfl) (hin 1 (by decide) (by decide)) ?_
  refine zl_callM X Y hl.1 hc hs zt_249 rfl e2 rfl zl_w163 rfl (zl_d zl_c35 rfl) rfl (Nat.le_of_ble_eq_true rfl) (fun u2 H2 locs2 hu2 Y2 => ?_)
  refine zl_eq X (tgt := 1662) (zl_d zl_c35 rfl) (by decide) ?_
  exact kk _ _ _ _ _ _ hu hu2 Y2 R1
theorem zl_j36 (X : zl_X l p R s m args c D κ A b L xs) (Y : zl_Y s D κ A ρ σ C M H locs) (R0 : zm_R zq_V C M) (hc : cells ≤ R.cells) (hs : slots ≤ R.slots) (hl : lv_has ls 4 [(0, .ref b), (1, .ref (ρ 0)), (2, .ref (σ 0)), (3, .int x)]) (hin : ∀ i : Int32, 0 ≤ i → i ≤ 5 → vp_in (x + i) L)
    (kk : ∀ (ρ1 σ1 : Nat → Nat) (C1 M1 : zx_M) (H1 : Heap) (locs1 : List Loc), ρ1 0 = ρ 0 → σ1 0 = σ 0 → zl_Y s D κ A ρ1 σ1 C1 M1 H1 locs1 → zm_R zq_V C1 M1 → W p l e R s m args below meth c H1 locs1 cells slots Q (F0 m 1662 ls [])) : W p l e R s m args below meth c H locs cells slots Q (F0 m 1360 ls []) := by
  obtain ⟨r, C1, M1, e1, e2, R1⟩ := zl_r_keep R0 (xs (x + 1).toNatClampNeg) (xs (x + 2).toNatClampNeg)
  refine zl_ld X (lv_at hl 1 rfl) rfl (zl_d zl_c36 rfl) ?_
  refine zl_a X Y hl (kn := 1) (i := 1) (by decide) (zl_d zl_c36 rfl) (zl_d zl_c36 rfl) (zl_d zl_c36 rfl) (zl_d zl_c36 rfl) (zl_d zl_c36 rfl) (hin 1 (by decide) (by decide)) ?_
  refine zl_a X Y hl (kn := 2) (i := 2) (by decide) (zl_d zl_c36 rfl) (zl_d zl_c36 rfl) (zl_d zl_c36 rfl) (zl_d zl_c36 rfl) (zl_d zl_c36 rfl) (hin 2 (by decide) (by decide)) ?_
  refine zl_callC X Y hl.1 hc hs zt_150 rfl e1 rfl zl_w164 rfl (zl_d zl_c36 rfl) rfl (Nat.le_of_ble_eq_true rfl) (fun u H1 locs1 hu Y1 => ?_)
  clear Y
  have Y := Y1
  refine zl_ld X (lv_at hl 2 rfl) rfl (zl_d zl_c36 rfl) ?_
  refine zl_a X Y hl (kn := 1) (i := 1) (by decide) (zl_d zl_c36 rfl) (zl_d zl_c36 rfl) (zl_d zl_c36 rfl) (zl_d zl_c36 rfl) (zl_d zl_c36 rfl) (hin 1 (by decide) (by decide)) ?_
  refine zl_a X Y hl (kn := 2) (i := 2) (by decide) (zl_d zl_c36 rfl) (zl_d zl_c36 rfl) (zl_d zl_c36 rfl) (zl_d zl_c36 rfl) (zl_d zl_c36 rfl) (hin 2 (by decide) (by decide)) ?_
  refine zl_callM X Y hl.1 hc hs zt_251 rfl e2 rfl zl_w167 rfl (zl_d zl_c36 rfl) rfl (Nat.le_of_ble_eq_true rfl) (fun u2 H2 locs2 hu2 Y2 => ?_)
  refine zl_eq X (tgt := 1662) (zl_d zl_c36 rfl) (by decide) ?_
  exact kk _ _ _ _ _ _ hu hu2 Y2 R1
theorem zl_j37 (X : zl_X l p R s m args c D κ A b L xs) (Y : zl_Y s D κ A ρ σ C M H locs) (R0 : zm_R zq_V C M) (hc : cells ≤ R.cells) (hs : slots ≤ R.slots) (hl : lv_has ls 4 [(0, .ref b), (1, .ref (ρ 0)), (2, .ref (σ 0)), (3, .int x)]) (hin : ∀ i : Int32, 0 ≤ i → i ≤ 5 → vp_in (x + i) L)
    (kk : ∀ (ρ1 σ1 : Nat → Nat) (C1 M1 : zx_M) (H1 : Heap) (locs1 : List Loc), ρ1 0 = ρ 0 → σ1 0 = σ 0 → zl_Y s D κ A ρ1 σ1 C1 M1 H1 locs1 → zm_R zq_V C1 M1 → W p l e R s m args below meth c H1 locs1 cells slots Q (F0 m 1662 ls [])) : W p l e R s m args below meth c H locs cells slots Q (F0 m 1393 ls []) := by
  obtain ⟨r, C1, M1, e1, e2, R1⟩ := zl_r_row R0 (xs (x + 1).toNatClampNeg) (xs (x + 2).toNatClampNeg) (xs (x + 3).toNatClampNeg)
  refine zl_ld X (lv_at hl 1 rfl) rfl (zl_d zl_c37 rfl) ?_
  refine zl_a X Y hl (kn := 1) (i := 1) (by decide) (zl_d zl_c37 rfl) (zl_d zl_c37 rfl) (zl_d zl_c37 rfl) (zl_d zl_c37 rfl) (zl_d zl_c37 rfl) (hin 1 (by decide) (by decide)) ?_
  refine zl_a X Y hl (kn := 2) (i := 2) (by decide) (zl_d zl_c37 rfl) (zl_d zl_c37 rfl) (zl_d zl_c37 rfl) (zl_d zl_c37 rfl) (zl_d zl_c37 rfl) (hin 2 (by decide) (by decide)) ?_
  refine zl_a X Y hl (kn := 3) (i := 3) (by decide) (zl_d zl_c37 rfl) (zl_d zl_c37 rfl) (zl_d zl_c37 rfl) (zl_d zl_c37 rfl) (zl_d zl_c37 rfl) (hin 3 (by decide) (by decide)) ?_
  refine zl_callC X Y hl.1 hc hs zt_151 rfl e1 rfl zl_w168 rfl (zl_d zl_c37 rfl) rfl (Nat.le_of_ble_eq_true rfl) (fun u H1 locs1 hu Y1 => ?_)
  clear Y
  have Y := Y1
  refine zl_ld X (lv_at hl 2 rfl) rfl (zl_d zl_c37 rfl) ?_
  refine zl_a X Y hl (kn := 1) (i := 1) (by decide) (zl_d zl_c37 rfl) (zl_d zl_c37 rfl) (zl_d zl_c37 rfl) (zl_d zl_c37 rfl) (zl_d zl_c37 rfl) (hin 1 (by decide) (by decide)) ?_
  refine zl_a X Y hl (kn := 2) (i := 2) (by decide) (zl_d zl_c37 rfl) (zl_d zl_c37 rfl) (zl_d zl_c37 rfl) (zl_d zl_c37 rfl) (zl_d zl_c37 rfl) (hin 2 (by decide) (by decide)) ?_
  refine zl_a X Y hl (kn := 3) (i := 3) (by decide) (zl_d zl_c37 rfl) (zl_d zl_c37 rfl) (zl_d zl_c37 rfl) (zl_d zl_c37 rfl) (zl_d zl_c37 rfl) (hin 3 (by decide) (by decide)) ?_
  refine zl_callM X Y hl.1 hc hs zt_252 rfl e2 rfl zl_w171 rfl (zl_d zl_c37 rfl) rfl (Nat.le_of_ble_eq_true rfl) (fun u2 H2 locs2 hu2 Y2 => ?_)
  refine zl_eq X (tgt := 1662) (zl_d zl_c37 rfl) (by decide) ?_
  exact kk _ _ _ _ _ _ hu hu2 Y2 R1
theorem zl_j38 (X : zl_X l p R s m args c D κ A b L xs) (Y : zl_Y s D κ A ρ σ C M H locs) (R0 : zm_R zq_V C M) (hc : cells ≤ R.cells) (hs : slots ≤ R.slots) (hl : lv_has ls 4 [(0, .ref b), (1, .ref (ρ 0)), (2, .ref (σ 0)), (3, .int x)]) (hin : ∀ i : Int32, 0 ≤ i → i ≤ 5 → vp_in (x + i) L)
    (kk : ∀ (ρ1 σ1 : Nat → Nat) (C1 M1 : zx_M) (H1 : Heap) (locs1 : List Loc), ρ1 0 = ρ 0 → σ1 0 = σ 0 → zl_Y s D κ A ρ1 σ1 C1 M1 H1 locs1 → zm_R zq_V C1 M1 → W p l e R s m args below meth c H1 locs1 cells slots Q (F0 m 1662 ls [])) : W p l e R s m args below meth c H locs cells slots Q (F0 m 1436 ls []) := by
  obtain ⟨r, C1, M1, e1, e2, R1⟩ := zl_r_put R0 (xs (x + 1).toNatClampNeg) (xs (x + 2).toNatClampNeg) (zl_z (xs (x + 3).toNatClampNeg) (xs (x + 4).toNatClampNeg))
  refine zl_ld X (lv_at hl 1 rfl) rfl (zl_d zl_c38 rfl) ?_
  refine zl_a X Y hl (kn := 1) (i := 1) (by decide) (zl_d zl_c38 rfl) (zl_d zl_c38 rfl) (zl_d zl_c38 rfl) (zl_d zl_c38 rfl) (zl_d zl_c38 rfl) (hin 1 (by decide) (by decide)) ?_
  refine zl_a X Y hl (kn := 2) (i := 2) (by decide) (zl_d zl_c38 rfl) (zl_d zl_c38 rfl) (zl_d zl_c38 rfl) (zl_d zl_c38 rfl) (zl_d zl_c38 rfl) (hin 2 (by decide) (by decide)) ?_
  refine zl_lg X Y hl zl_k172 (zl_d zl_c38 rfl) (zl_d zl_c38 rfl) (zl_d zl_c38 rfl) (zl_d zl_c38 rfl) (zl_d zl_c38 rfl) (hin 3 (by decide) (by decide)) (zl_d zl_c38 rfl) (zl_d zl_c38 rfl) (zl_d zl_c38 rfl) (zl_d zl_c38 rfl) (zl_d zl_c38 rfl) (zl_d zl_c38 rfl) (zl_d zl_c38 rfl) (zl_d zl_c38 rfl) (hin 4 (by decide) (by decide)) (zl_d zl_c38 rfl) (zl_d zl_c38 rfl) (zl_d zl_c38 rfl) (zl_d zl_c38 rfl) ?_
  refine zl_callC X Y hl.1 hc hs zt_152 rfl e1 rfl zl_w174 rfl (zl_d zl_c38 rfl) rfl (Nat.le_of_ble_eq_true rfl) (fun u H1 locs1 hu Y1 => ?_)
  clear Y
  have Y := Y1
  refine zl_ld X (lv_at hl 2 rfl) rfl (zl_d zl_c38 rfl) ?_
  refine zl_a X Y hl (kn := 1) (i := 1) (by decide) (zl_d zl_c38 rfl) (zl_d zl_c38 rfl) (zl_d zl_c38 rfl) (zl_d zl_c38 rfl) (zl_d zl_c38 rfl) (hin 1 (by decide) (by decide)) ?_
  refine zl_a X Y hl (kn := 2) (i := 2) (by decide) (zl_d zl_c38 rfl) (zl_d zl_c38 rfl) (zl_d zl_c38 rfl) (zl_d zl_c38 rfl) (zl_d zl_c38 rfl) (hin 2 (by decide) (by decide)) ?_
  refine zl_lg X Y hl zl_k172 (zl_d zl_c38 rfl) (zl_d zl_c38 rfl) (zl_d zl_c38 rfl) (zl_d zl_c38 rfl) (zl_d zl_c38 rfl) (hin 3 (by decide) (by decide)) (zl_d zl_c38 rfl) (zl_d zl_c38 rfl) (zl_d zl_c38 rfl) (zl_d zl_c38 rfl) (zl_d zl_c38 rfl) (zl_d zl_c38 rfl) (zl_d zl_c38 rfl) (zl_d zl_c38 rfl) (hin 4 (by decide) (by decide)) (zl_d zl_c38 rfl) (zl_d zl_c38 rfl) (zl_d zl_c38 rfl) (zl_d zl_c38 rfl) ?_
  refine zl_callM X Y hl.1 hc hs zt_255 rfl e2 rfl zl_w178 rfl (zl_d zl_c38 rfl) rfl (Nat.le_of_ble_eq_true rfl) (fun u2 H2 locs2 hu2 Y2 => ?_)
  refine zl_eq X (tgt := 1662) (zl_d zl_c38 rfl) (by decide) ?_
  exact kk _ _ _ _ _ _ hu hu2 Y2 R1
theorem zl_j39 (X : zl_X l p R s m args c D κ A b L xs) (Y : zl_Y s D κ A ρ σ C M H locs) (R0 : zm_R zq_V C M) (hc : cells ≤ R.cells) (hs : slots ≤ R.slots) (hl : lv_has ls 4 [(0, .ref b), (1, .ref (ρ 0)), (2, .ref (σ 0)), (3, .int x)]) (hin : ∀ i : Int32, 0 ≤ i → i ≤ 5 → vp_in (x + i) L)
    (kk : ∀ (ρ1 σ1 : Nat → Nat) (C1 M1 : zx_M) (H1 : Heap) (locs1 : List Loc), ρ1 0 = ρ 0 → σ1 0 = σ 0 → zl_Y s D κ A ρ1 σ1 C1 M1 H1 locs1 → zm_R zq_V C1 M1 → W p l e R s m args below meth c H1 locs1 cells slots Q (F0 m 1662 ls [])) : W p l e R s m args below meth c H locs cells slots Q (F0 m 1509 ls []) := by
  obtain ⟨r, C1, M1, e1, e2, R1⟩ := zl_r_element R0 (xs (x + 1).toNatClampNeg) (xs (x + 2).toNatClampNeg)
  refine zl_ld X (lv_at hl 1 rfl) rfl (zl_d zl_c39 rfl) ?_
  refine zl_a X Y hl (kn := 1) (i := 1) (by decide) (zl_d zl_c39 rfl) (zl_d zl_c39 rfl) (zl_d zl_c39 rfl) (zl_d zl_c39 rfl) (zl_d zl_c39 rfl) (hin 1 (by decide) (by decide)) ?_
  refine zl_a X Y hl (kn := 2) (i := 2) (by decide) (zl_d zl_c39 rfl) (zl_d zl_c39 rfl) (zl_d zl_c39 rfl) (zl_d zl_c39 rfl) (zl_d zl_c39 rfl) (hin 2 (by decide) (by decide)) ?_
  refine zl_callC X Y hl.1 hc hs zt_153 rfl e1 rfl zl_w179 rfl (zl_d zl_c39 rfl) rfl (Nat.le_of_ble_eq_true rfl) (fun u H1 locs1 hu Y1 => ?_)
  clear Y
  have Y := Y1
  refine zl_ld X (lv_at hl 2 rfl) rfl (zl_d zl_c39 rfl) ?_
  refine zl_a X Y hl (kn := 1) (i := 1) (by decide) (zl_d zl_c39 rfl) (zl_d zl_c39 rfl) (zl_d zl_c39 rfl) (zl_d zl_c39 rfl) (zl_d zl_c39 rfl) (hin 1 (by decide) (by decide)) ?_
  refine zl_a X Y hl (kn := 2) (i := 2) (by decide) (zl_d zl_c39 rfl) (zl_d zl_c39 rfl) (zl_d zl_c39 rfl) (zl_d zl_c39 rfl) (zl_d zl_c39 rfl) (hin 2 (by decide) (by decide)) ?_
  refine zl_callM X Y hl.1 hc hs zt_256 rfl e2 rfl zl_w182 rfl (zl_d zl_c39 rfl) rfl (Nat.le_of_ble_eq_true rfl) (fun u2 H2 locs2 hu2 Y2 => ?_)
  refine zl_eql X (tgt := 1662) (zl_d zl_c39 rfl) (zl_d zl_c39 rfl) (by decide) ?_
  exact kk _ _ _ _ _ _ hu hu2 Y2 R1
theorem zl_j40 (X : zl_X l p R s m args c D κ A b L xs) (Y : zl_Y s D κ A ρ σ C M H locs) (R0 : zm_R zq_V C M) (hc : cells ≤ R.cells) (hs : slots ≤ R.slots) (hl : lv_has ls 4 [(0, .ref b), (1, .ref (ρ 0)), (2, .ref (σ 0)), (3, .int x)]) (hin : ∀ i : Int32, 0 ≤ i → i ≤ 5 → vp_in (x + i) L)
    (kk : ∀ (ρ1 σ1 : Nat → Nat) (C1 M1 : zx_M) (H1 : Heap) (locs1 : List Loc), ρ1 0 = ρ 0 → σ1 0 = σ 0 → zl_Y s D κ A ρ1 σ1 C1 M1 H1 locs1 → zm_R zq_V C1 M1 → W p l e R s m args below meth c H1 locs1 cells slots Q (F0 m 1662 ls [])) : W p l e R s m args below meth c H locs cells slots Q (F0 m 1543 ls []) := by
  obtain ⟨r, C1, M1, e1, e2, R1⟩ := zl_r_shift R0 (xs (x + 1).toNatClampNeg) (xs (x + 2).toNatClampNeg) (xs (x + 3).toNatClampNeg) (xs (x + 4).toNatClampNeg) (xs (x + 5).toNatClampNeg)
  refine zl_ld X (lv_at hl 1 rfl) rfl (zl_d zl_c40 rfl) ?_
  refine zl_a X Y hl (kn := 1) (i := 1) (by decide) (zl_d zl_c40 rfl) (zl_d zl_c40 rfl) (zl_d zl_c40 rfl) (zl_d zl_c40 rfl) (zl_d zl_c40 rfl) (hin 1 (by decide) (by decide)) ?_
  refine zl_a X Y hl (kn := 2) (i := 2) (by decide) (zl_d zl_c40 rfl) (zl_d zl_c40 rfl) (zl_d zl_c40 rfl) (zl_d zl_c40 rfl) (zl_d zl_c40 rfl) (hin 2 (by decide) (by decide)) ?_
  refine zl_a X Y hl (kn := 3) (i := 3) (by decide) (zl_d zl_c40 rfl) (zl_d zl_c40 rfl) (zl_d zl_c40 rfl) (zl_d zl_c40 rfl) (zl_d zl_c40 rfl) (hin 3 (by decide) (by decide)) ?_
  refine zl_a X Y hl (kn := 4) (i := 4) (by decide) (zl_d zl_c40 rfl) (zl_d zl_c40 rfl) (zl_d zl_c40 rfl) (zl_d zl_c40 rfl) (zl_d zl_c40 rfl) (hin 4 (by decide) (by decide)) ?_
  refine zl_a X Y hl (kn := 5) (i := 5) (by decide) (zl_d zl_c40 rfl) (zl_d zl_c40 rfl) (zl_d zl_c40 rfl) (zl_d zl_c40 rfl) (zl_d zl_c40 rfl) (hin 5 (by decide) (by decide)) ?_
  refine zl_callC X Y hl.1 hc hs zt_154 rfl e1 rfl zl_w183 rfl (zl_d zl_c40 rfl) rfl (Nat.le_of_ble_eq_true rfl) (fun u H1 locs1 hu Y1 => ?_)
  clear Y
  have Y := Y1
  refine zl_ld X (lv_at hl 2 rfl) rfl (zl_d zl_c40 rfl) ?_
  refine zl_a X Y hl (kn := 1) (i := 1) (by decide) (zl_d zl_c40 rfl) (zl_d zl_c40 rfl) (zl_d zl_c40 rfl) (zl_d zl_c40 rfl) (zl_d zl_c40 rfl) (hin 1 (by decide) (by decide)) ?_
  refine zl_a X Y hl (kn := 2) (i := 2) (by decide) (zl_d zl_c40 rfl) (zl_d zl_c40 rfl) (zl_d zl_c40 rfl) (zl_d zl_c40 rfl) (zl_d zl_c40 rfl) (hin 2 (by decide) (by decide)) ?_
  refine zl_a X Y hl (kn := 3) (i := 3) (by decide) (zl_d zl_c40 rfl) (zl_d zl_c40 rfl) (zl_d zl_c40 rfl) (zl_d zl_c40 rfl) (zl_d zl_c40 rfl) (hin 3 (by decide) (by decide)) ?_
  refine zl_a X Y hl (kn := 4) (i := 4) (by decide) (zl_d zl_c40 rfl) (zl_d zl_c40 rfl) (zl_d zl_c40 rfl) (zl_d zl_c40 rfl) (zl_d zl_c40 rfl) (hin 4 (by decide) (by decide)) ?_
  refine zl_a X Y hl (kn := 5) (i := 5) (by decide) (zl_d zl_c40 rfl) (zl_d zl_c40 rfl) (zl_d zl_c40 rfl) (zl_d zl_c40 rfl) (zl_d zl_c40 rfl) (hin 5 (by decide) (by decide)) ?_
  refine zl_callM X Y hl.1 hc hs zt_257 rfl e2 rfl zl_w187 rfl (zl_d zl_c40 rfl) rfl (Nat.le_of_ble_eq_true rfl) (fun u2 H2 locs2 hu2 Y2 => ?_)
  refine zl_eq X (tgt := 1662) (zl_d zl_c40 rfl) (by decide) ?_
  exact kk _ _ _ _ _ _ hu hu2 Y2 R1
theorem zl_j41 (X : zl_X l p R s m args c D κ A b L xs) (Y : zl_Y s D κ A ρ σ C M H locs) (R0 : zm_R zq_V C M) (hc : cells ≤ R.cells) (hs : slots ≤ R.slots) (hl : lv_has ls 4 [(0, .ref b), (1, .ref (ρ 0)), (2, .ref (σ 0)), (3, .int x)]) (hin : ∀ i : Int32, 0 ≤ i → i ≤ 5 → vp_in (x + i) L)
    (kk : ∀ (ρ1 σ1 : Nat → Nat) (C1 M1 : zx_M) (H1 : Heap) (locs1 : List Loc), ρ1 0 = ρ 0 → σ1 0 = σ 0 → zl_Y s D κ A ρ1 σ1 C1 M1 H1 locs1 → zm_R zq_V C1 M1 → W p l e R s m args below meth c H1 locs1 cells slots Q (F0 m 1662 ls [])) : W p l e R s m args below meth c H locs cells slots Q (F0 m 1606 ls []) := by
  obtain ⟨r, C1, M1, e1, e2, R1⟩ := zl_r_taken R0 (xs (x + 1).toNatClampNeg) (xs (x + 2).toNatClampNeg)
  refine zl_ld X (lv_at hl 1 rfl) rfl (zl_d zl_c41 rfl) ?_
  refine zl_a X Y hl (kn := 1) (i := 1) (by decide) (zl_d zl_c41 rfl) (zl_d zl_c41 rfl) (zl_d zl_c41 rfl) (zl_d zl_c41 rfl) (zl_d zl_c41 rfl) (hin 1 (by decide) (by decide)) ?_
  refine zl_a X Y hl (kn := 2) (i := 2) (by decide) (zl_d zl_c41 rfl) (zl_d zl_c41 rfl) (zl_d zl_c41 rfl) (zl_d zl_c41 rfl) (zl_d zl_c41 rfl) (hin 2 (by decide) (by decide)) ?_
  refine zl_callC X Y hl.1 hc hs zt_155 rfl e1 rfl zl_w188 rfl (zl_d zl_c41 rfl) rfl (Nat.le_of_ble_eq_true rfl) (fun u H1 locs1 hu Y1 => ?_)
  clear Y
  have Y := Y1
  refine zl_ld X (lv_at hl 2 rfl) rfl (zl_d zl_c41 rfl) ?_
  refine zl_a X Y hl (kn := 1) (i := 1) (by decide) (zl_d zl_c41 rfl) (zl_d zl_c41 rfl) (zl_d zl_c41 rfl) (zl_d zl_c41 rfl) (zl_d zl_c41 rfl) (hin 1 (by decide) (by decide)) ?_
  refine zl_a X Y hl (kn := 2) (i := 2) (by decide) (zl_d zl_c41 rfl) (zl_d zl_c41 rfl) (zl_d zl_c41 rfl) (zl_d zl_c41 rfl) (zl_d zl_c41 rfl) (hin 2 (by decide) (by decide)) ?_
  refine zl_callM X Y hl.1 hc hs zt_258 rfl e2 rfl zl_w191 rfl (zl_d zl_c41 rfl) rfl (Nat.le_of_ble_eq_true rfl) (fun u2 H2 locs2 hu2 Y2 => ?_)
  refine zl_eq X (tgt := 1662) (zl_d zl_c41 rfl) (by decide) ?_
  exact kk _ _ _ _ _ _ hu hu2 Y2 R1
theorem zl_j42 (X : zl_X l p R s m args c D κ A b L xs) (Y : zl_Y s D κ A ρ σ C M H locs) (R0 : zm_R zq_V C M) (hc : cells ≤ R.cells) (hs : slots ≤ R.slots) (hl : lv_has ls 4 [(0, .ref b), (1, .ref (ρ 0)), (2, .ref (σ 0)), (3, .int x)]) (hin : ∀ i : Int32, 0 ≤ i → i ≤ 5 → vp_in (x + i) L)
    (kk : ∀ (ρ1 σ1 : Nat → Nat) (C1 M1 : zx_M) (H1 : Heap) (locs1 : List Loc), ρ1 0 = ρ 0 → σ1 0 = σ 0 → zl_Y s D κ A ρ1 σ1 C1 M1 H1 locs1 → zm_R zq_V C1 M1 → W p l e R s m args below meth c H1 locs1 cells slots Q (F0 m 1662 ls [])) : W p l e R s m args below meth c H locs cells slots Q (F0 m 1639 ls []) := by
  obtain ⟨r, C1, M1, e1, e2, R1⟩ := zl_r_count R0 (xs (x + 1).toNatClampNeg)
  refine zl_ld X (lv_at hl 1 rfl) rfl (zl_d zl_c42 rfl) ?_
  refine zl_a X Y hl (kn := 1) (i := 1) (by decide) (zl_d zl_c42 rfl) (zl_d zl_c42 rfl) (zl_d zl_c42 rfl) (zl_d zl_c42 rfl) (zl_d zl_c42 rfl) (hin 1 (by decide) (by decide)) ?_
  refine zl_callC X Y hl.1 hc hs zt_156 rfl e1 rfl zl_w192 rfl (zl_d zl_c42 rfl) rfl (Nat.le_of_ble_eq_true rfl) (fun u H1 locs1 hu Y1 => ?_)
  clear Y
  have Y := Y1
  refine zl_ld X (lv_at hl 2 rfl) rfl (zl_d zl_c42 rfl) ?_
  refine zl_a X Y hl (kn := 1) (i := 1) (by decide) (zl_d zl_c42 rfl) (zl_d zl_c42 rfl) (zl_d zl_c42 rfl) (zl_d zl_c42 rfl) (zl_d zl_c42 rfl) (hin 1 (by decide) (by decide)) ?_
  refine zl_callM X Y hl.1 hc hs zt_259 rfl e2 rfl zl_w195 rfl (zl_d zl_c42 rfl) rfl (Nat.le_of_ble_eq_true rfl) (fun u2 H2 locs2 hu2 Y2 => ?_)
  refine zl_eq X (tgt := 1662) (zl_d zl_c42 rfl) (by decide) ?_
  exact kk _ _ _ _ _ _ hu hu2 Y2 R1
end ZK82
