/-! acts: both do the same, note for note -/
theorem zk_eight {k : Nat} (hk : k < 8) : k = 0 ∨ k = 1 ∨ k = 2 ∨ k = 3 ∨ k = 4 ∨ k = 5 ∨ k = 6 ∨ k = 7 := by omega
theorem za_seqN {c0 m0 : zx_M} {L : Nat} {o : Int32} {hc hm : zx_M → Option (Int32 × zx_M)} (h : za_S c0 m0 L hc hm) : za_S c0 m0 (L + 1) (fun c => (f_Acts_note o c).bind hc) (fun m => (f_M_begins o m).bind hm) := by
  intro c m r hr T
  obtain ⟨c1, m1, e1, e2, T1⟩ := za_note T (by omega) o
  obtain ⟨v, c2, m2, r2, f1, f2, T2, h2⟩ := h c1 m1 (r + 1) (by omega) T1
  refine ⟨v, c2, m2, r2, ?_, ?_, T2, by omega⟩
  · show (f_Acts_note o c).bind hc = _
    rw [e1, zm_bs, f1]
  · show (f_M_begins o m).bind hm = _
    rw [e2, zm_bs, f2]
theorem za_map {c0 m0 : zx_M} {L : Nat} {hc hm : zx_M → Option (Int32 × zx_M)} (h : za_S c0 m0 L hc hm) (f : Int32 → Int32) : za_S c0 m0 L (fun c => (hc c).bind fun p => some (f p.1, p.2)) (fun m => (hm m).bind fun p => some (f p.1, p.2)) := by
  intro c m r hr T
  obtain ⟨v, c2, m2, r2, f1, f2, T2, h2⟩ := h c m r hr T
  refine ⟨f v, c2, m2, r2, ?_, ?_, T2, h2⟩
  · show (hc c).bind _ = _
    rw [f1, zm_bs]
  · show (hm m).bind _ = _
    rw [f2, zm_bs]
theorem za_two {c0 m0 : zx_M} {L L2 : Nat} {hc hm hc2 hm2 : zx_M → Option (Int32 × zx_M)} (h : za_S c0 m0 L hc hm) (h2 : za_S c0 m0 L2 hc2 hm2) (f : Int32 → Int32 → Int32) : za_S c0 m0 (L + L2) (fun c => (hc c).bind fun p => (hc2 p.2).bind fun q => some (f p.1 q.1, q.2)) (fun m => (hm m).bind fun p => (hm2 p.2).bind fun q => some (f p.1 q.1, q.2)) := by
  intro c m r hr T
  obtain ⟨v, c1, m1, r1, f1, f2, T1, h1⟩ := h c m r (by omega) T
  obtain ⟨w, c2, m2, r2, g1, g2, T2, h3⟩ := h2 c1 m1 r1 (by omega) T1
  refine ⟨f v w, c2, m2, r2, ?_, ?_, T2, by omega⟩
  · show (hc c).bind _ = _
    rw [f1, zm_bs]
    show (hc2 c1).bind _ = _
    rw [g1, zm_bs]
  · show (hm m).bind _ = _
    rw [f2, zm_bs]
    show (hm2 m1).bind _ = _
    rw [g2, zm_bs]
theorem za_num {c0 m0 : zx_M} (h : c0.1 38 4 = m0.1 0 48) (f : Int32 → Int32) : za_S c0 m0 0 (fun c => some (f (c.1 38 4), c)) (fun m => some (f (m.1 0 48), m)) := by
  intro c m r hr T
  have e1 : c.1 38 4 = c0.1 38 4 := T.2.2.1 4 (by omega)
  have e2 : m.1 0 48 = m0.1 0 48 := T.2.2.2.2.2.2.1 48 (by omega)
  exact ⟨f (c.1 38 4), c, m, r, rfl, by rw [e1, h, ← e2], T, by omega⟩
theorem za_ownS {c0 m0 : zx_M} {L K : Nat} {g : GT_from_more_own_plain} {w x d : Int32} {hm : Int32 → zx_M → Option (Int32 × zx_M)} (h1 : c0.1 38 5 = Int32.ofNat K) (h2 : m0.1 0 47 = Int32.ofNat K) (h : za_S c0 m0 L (g.2.1 (Int32.ofNat K) w x d) (hm (Int32.ofNat K))) : za_S c0 m0 L (fun c => F_Acts_own g w x d c) (fun m => hm (m.1 0 47) m) := by
  intro c m r hr T
  obtain ⟨v, c2, m2, r2, f1, f2, T2, h3⟩ := h c m r hr T
  have e1 : c.1 38 5 = Int32.ofNat K := by rw [T.2.2.1 5 (by omega)]; exact h1
  have e2 : m.1 0 47 = Int32.ofNat K := by rw [T.2.2.2.2.2.2.1 47 (by omega)]; exact h2
  refine ⟨v, c2, m2, r2, ?_, ?_, T2, h3⟩
  · show F_Acts_own g w x d c = _
    unfold F_Acts_own
    rw [e1, f1, zm_bs]
  · show hm (m.1 0 47) m = _
    rw [e2, f2]
theorem za_eq {c0 m0 : zx_M} {L L2 : Nat} {hc hm hc2 hm2 : zx_M → Option (Int32 × zx_M)} (h : za_S c0 m0 L hc hm) (e1 : ∀ c, hc2 c = hc c) (e2 : ∀ m, hm2 m = hm m) (hL : L ≤ L2) : za_S c0 m0 L2 hc2 hm2 := by
  intro c m r hr T
  obtain ⟨v, c2, m2, r2, f1, f2, T2, h3⟩ := h c m r (by omega) T
  exact ⟨v, c2, m2, r2, by rw [e1, f1], by rw [e2, f2], T2, by omega⟩
/-- goes -/
theorem za_goes {c0 m0 : zx_M} (hn : c0.1 38 4 = m0.1 0 48) {k j j2 d : Nat} (hk : k < 8) (hj : 4 ≤ j) (hj2 : 2 ≤ j2) (hd : d ≤ 38) (x : Int32) : za_S c0 m0 2 ((g_from_more_own_plain j).2.1 (Int32.ofNat k) 0 x (Int32.ofNat d)) (g_goesAs_m j2 (Int32.ofNat k) x) := by
  have base : ∀ (k i i2 e : Nat), (k = 0 ∨ k = 2 ∨ k = 3 ∨ k = 5) → 2 ≤ i → 1 ≤ i2 → e ≤ 40 → za_S c0 m0 1 ((g_from_more_own_plain i).2.1 (Int32.ofNat k) 0 x (Int32.ofNat e)) (g_goesAs_m i2 (Int32.ofNat k) x) := by
    intro k i i2 e hk hi hi2 he
    obtain ⟨i', rfl⟩ : ∃ i', i = i' + 2 := ⟨i - 2, by omega⟩
    obtain ⟨i2', rfl⟩ : ∃ i', i2 = i' + 1 := ⟨i2 - 1, by omega⟩
    refine za_eq (za_seqN (o := 1) (za_num hn (fun v => x + v))) (fun c => ?_) (fun m => ?_) (Nat.le_refl _)
    · show F_Acts_from (g_from_more_own_plain (i' + 1)) (Int32.ofNat k) (Int32.ofNat 0) x (Int32.ofNat e) c = _
      have hK : za_K 0 8 k = 0 := by rcases hk with rfl | rfl | rfl | rfl <;> decide +kernel
      rw [za_from (k' := 0) (o := 1) (by omega) (by omega) he hK (by decide +kernel)]
      congr 1
    · rcases hk with rfl | rfl | rfl | rfl <;> rfl
  obtain ⟨j', rfl⟩ : ∃ i', j = i' + 2 := ⟨j - 2, by omega⟩
  obtain ⟨j2', rfl⟩ : ∃ i', j2 = i' + 1 := ⟨j2 - 1, by omega⟩
  have c20 : ∀ k, (k = 1 ∨ k = 4 ∨ k = 7) → za_S c0 m0 2 ((g_from_more_own_plain (j' + 2)).2.1 (Int32.ofNat k) 0 x (Int32.ofNat d)) (g_goesAs_m (j2' + 1) (Int32.ofNat k) x) := by
    intro k hk
    refine za_eq (za_seqN (o := 20) (za_map (base 0 j' j2' (d + 1) (Or.inl rfl) (by omega) (by omega) (by omega)) (fun v => v + 3))) (fun c => ?_) (fun m => ?_) (Nat.le_refl _)
    · show F_Acts_from (g_from_more_own_plain (j' + 1)) (Int32.ofNat k) (Int32.ofNat 0) x (Int32.ofNat d) c = _
      have hK : za_K 0 8 k = 1 := by rcases hk with rfl | rfl | rfl <;> decide +kernel
      rw [za_from (k' := 1) (o := 20) (by omega) (by omega) (by omega) hK (by decide +kernel)]
      congr 1
    · rcases hk with rfl | rfl | rfl <;> rfl
  rcases zk_eight hk with rfl | rfl | rfl | rfl | rfl | rfl | rfl | rfl
  · exact za_eq (base 0 _ _ d (Or.inl rfl) (by omega) (by omega) (by omega)) (fun _ => rfl) (fun _ => rfl) (by omega)
  · exact c20 1 (Or.inl rfl)
  · exact za_eq (base 2 _ _ d (by omega) (by omega) (by omega) (by omega)) (fun _ => rfl) (fun _ => rfl) (by omega)
  · exact za_eq (base 3 _ _ d (by omega) (by omega) (by omega) (by omega)) (fun _ => rfl) (fun _ => rfl) (by omega)
  · exact c20 4 (Or.inr (Or.inl rfl))
  · exact za_eq (base 5 _ _ d (by omega) (by omega) (by omega) (by omega)) (fun _ => rfl) (fun _ => rfl) (by omega)
  · refine za_eq (za_seqN (o := 70) (za_map (base 0 j' j2' (d + 1) (Or.inl rfl) (by omega) (by omega) (by omega)) (fun v => v * 2))) (fun c => ?_) (fun m => rfl) (Nat.le_refl _)
    show F_Acts_from (g_from_more_own_plain (j' + 1)) (Int32.ofNat 6) (Int32.ofNat 0) x (Int32.ofNat d) c = _
    rw [za_from (k' := 6) (o := 70) (by omega) (by omega) (by omega) (by decide +kernel) (by decide +kernel)]
    congr 1
  · exact c20 7 (Or.inr (Or.inr rfl))
/-- steers -/
theorem za_steers {c0 m0 : zx_M} {K : Nat} (hn : c0.1 38 4 = m0.1 0 48) (hk1 : c0.1 38 5 = Int32.ofNat K) (hk2 : m0.1 0 47 = Int32.ofNat K) (hK8 : K < 8) {k j j2 d : Nat} (hk : k < 8) (hj : 7 ≤ j) (hj2 : 2 ≤ j2) (hd : d ≤ 35) (x : Int32) : za_S c0 m0 4 ((g_from_more_own_plain j).2.1 (Int32.ofNat k) 2 x (Int32.ofNat d)) (g_steersAs_m j2 (Int32.ofNat k) x) := by
  have base : ∀ (k i i2 e : Nat), (k = 0 ∨ k = 1 ∨ k = 2 ∨ k = 6) → 2 ≤ i → 1 ≤ i2 → e ≤ 40 → za_S c0 m0 1 ((g_from_more_own_plain i).2.1 (Int32.ofNat k) 2 x (Int32.ofNat e)) (g_steersAs_m i2 (Int32.ofNat k) x) := by
    intro k i i2 e hk hi hi2 he
    obtain ⟨i', rfl⟩ : ∃ i', i = i' + 2 := ⟨i - 2, by omega⟩
    obtain ⟨i2', rfl⟩ : ∃ i', i2 = i' + 1 := ⟨i2 - 1, by omega⟩
    refine za_eq (za_seqN (o := 11) (za_num hn (fun v => x ^^^ v))) (fun c => ?_) (fun m => ?_) (Nat.le_refl _)
    · show F_Acts_from (g_from_more_own_plain (i' + 1)) (Int32.ofNat k) (Int32.ofNat 2) x (Int32.ofNat e) c = _
      have hK : za_K 2 8 k = 0 := by rcases hk with rfl | rfl | rfl | rfl <;> decide +kernel
      rw [za_from (k' := 0) (o := 11) (by omega) (by omega) he hK (by decide +kernel)]
      congr 1
    · rcases hk with rfl | rfl | rfl | rfl <;> rfl
  obtain ⟨j', rfl⟩ : ∃ i', j = i' + 2 := ⟨j - 2, by omega⟩
  obtain ⟨j2', rfl⟩ : ∃ i', j2 = i' + 1 := ⟨j2 - 1, by omega⟩
  have c40 : ∀ k, (k = 3 ∨ k = 5) → za_S c0 m0 4 ((g_from_more_own_plain (j' + 2)).2.1 (Int32.ofNat k) 2 x (Int32.ofNat d)) (g_steersAs_m (j2' + 1) (Int32.ofNat k) x) := by
    intro k hk
    refine za_eq (za_seqN (o := 40) (za_map (base 2 j' j2' (d + 1) (by omega) (by omega) (by omega) (by omega)) (fun v => v * 3))) (fun c => ?_) (fun m => ?_) (by omega)
    · show F_Acts_from (g_from_more_own_plain (j' + 1)) (Int32.ofNat k) (Int32.ofNat 2) x (Int32.ofNat d) c = _
      have hK : za_K 2 8 k = 3 := by rcases hk with rfl | rfl <;> decide +kernel
      rw [za_from (k' := 3) (o := 40) (by omega) (by omega) (by omega) hK (by decide +kernel)]
      congr 1
    · rcases hk with rfl | rfl <;> rfl
  have c50 : ∀ k, (k = 4 ∨ k = 7) → za_S c0 m0 4 ((g_from_more_own_plain (j' + 2)).2.1 (Int32.ofNat k) 2 x (Int32.ofNat d)) (g_steersAs_m (j2' + 1) (Int32.ofNat k) x) := by
    intro k hk
    obtain ⟨j3, rfl⟩ : ∃ i', j' = i' + 1 := ⟨j' - 1, by omega⟩
    have own : za_S c0 m0 2 (fun c => F_Acts_own (g_from_more_own_plain j3) 0 2 (Int32.ofNat (d + 1)) c) (fun m => g_goesAs_m 12 (m.1 0 47) 2 m) := za_ownS (hm := fun v m => g_goesAs_m 12 v 2 m) hk1 hk2 (za_goes hn hK8 (by omega) (by omega) (by omega) 2)
    refine za_eq (za_seqN (o := 50) (za_two (base 1 (j3 + 1) j2' (d + 1) (by omega) (by omega) (by omega) (by omega)) own (fun v w => v - w))) (fun c => ?_) (fun m => ?_) (by omega)
    · show F_Acts_from (g_from_more_own_plain (j3 + 1 + 1)) (Int32.ofNat k) (Int32.ofNat 2) x (Int32.ofNat d) c = _
      have hK : za_K 2 8 k = 4 := by rcases hk with rfl | rfl <;> decide +kernel
      rw [za_from (k' := 4) (o := 50) (by omega) (by omega) (by omega) hK (by decide +kernel)]
      congr 1
    · rcases hk with rfl | rfl <;> rfl
  rcases zk_eight hk with rfl | rfl | rfl | rfl | rfl | rfl | rfl | rfl
  · exact za_eq (base 0 _ _ d (by omega) (by omega) (by omega) (by omega)) (fun _ => rfl) (fun _ => rfl) (by omega)
  · exact za_eq (base 1 _ _ d (by omega) (by omega) (by omega) (by omega)) (fun _ => rfl) (fun _ => rfl) (by omega)
  · exact za_eq (base 2 _ _ d (by omega) (by omega) (by omega) (by omega)) (fun _ => rfl) (fun _ => rfl) (by omega)
  · exact c40 3 (by omega)
  · exact c50 4 (by omega)
  · exact c40 5 (by omega)
  · exact za_eq (base 6 _ _ d (by omega) (by omega) (by omega) (by omega)) (fun _ => rfl) (fun _ => rfl) (by omega)
  · exact c50 7 (by omega)
/-- falls -/
theorem za_falls {c0 m0 : zx_M} {K : Nat} (hn : c0.1 38 4 = m0.1 0 48) (hk1 : c0.1 38 5 = Int32.ofNat K) (hk2 : m0.1 0 47 = Int32.ofNat K) (hK8 : K < 8) {k j j2 d : Nat} (hk : k < 8) (hj : 12 ≤ j) (hj2 : 4 ≤ j2) (hd : d ≤ 30) (x : Int32) : za_S c0 m0 8 ((g_from_more_own_plain j).2.1 (Int32.ofNat k) 1 x (Int32.ofNat d)) (g_fallsAs_m j2 (Int32.ofNat k) x) := by
  have base : ∀ (x : Int32) (k i i2 e : Nat), (k = 0 ∨ k = 1 ∨ k = 4 ∨ k = 6) → 7 ≤ i → 1 ≤ i2 → e ≤ 36 → za_S c0 m0 3 ((g_from_more_own_plain i).2.1 (Int32.ofNat k) 1 x (Int32.ofNat e)) (g_fallsAs_m i2 (Int32.ofNat k) x) := by
    intro x k i i2 e hk hi hi2 he
    obtain ⟨i', rfl⟩ : ∃ i', i = i' + 3 := ⟨i - 3, by omega⟩
    obtain ⟨i2', rfl⟩ : ∃ i', i2 = i' + 1 := ⟨i2 - 1, by omega⟩
    have own : za_S c0 m0 2 (fun c => F_Acts_own (g_from_more_own_plain i') 0 x (Int32.ofNat (e + 1)) c) (fun m => g_goesAs_m 12 (m.1 0 47) x m) := za_ownS (hm := fun v m => g_goesAs_m 12 v x m) hk1 hk2 (za_goes hn hK8 (by omega) (by omega) (by omega) x)
    refine za_eq (za_seqN (o := 10) (za_map own (fun v => v * 2))) (fun c => ?_) (fun m => ?_) (Nat.le_refl _)
    · show F_Acts_from (g_from_more_own_plain (i' + 2)) (Int32.ofNat k) (Int32.ofNat 1) x (Int32.ofNat e) c = _
      have hK : za_K 1 8 k = 0 := by rcases hk with rfl | rfl | rfl | rfl <;> decide +kernel
      rw [za_from (k' := 0) (o := 10) (by omega) (by omega) (by omega) hK (by decide +kernel)]
      congr 1
    · rcases hk with rfl | rfl | rfl | rfl <;> rfl
  have two : ∀ (x : Int32) (i i2 e : Nat), 9 ≤ i → 2 ≤ i2 → e ≤ 34 → za_S c0 m0 4 ((g_from_more_own_plain i).2.1 (Int32.ofNat 2) 1 x (Int32.ofNat e)) (g_fallsAs_m i2 (Int32.ofNat 2) x) := by
    intro x i i2 e hi hi2 he
    obtain ⟨i', rfl⟩ : ∃ i', i = i' + 2 := ⟨i - 2, by omega⟩
    obtain ⟨i2', rfl⟩ : ∃ i', i2 = i' + 1 := ⟨i2 - 1, by omega⟩
    refine za_eq (za_seqN (o := 30) (za_map (base x 0 i' i2' (e + 1) (by omega) (by omega) (by omega) (by omega)) (fun v => -v))) (fun c => ?_) (fun m => rfl) (Nat.le_refl _)
    show F_Acts_from (g_from_more_own_plain (i' + 1)) (Int32.ofNat 2) (Int32.ofNat 1) x (Int32.ofNat e) c = _
    rw [za_from (k' := 2) (o := 30) (by omega) (by omega) (by omega) (by decide +kernel) (by decide +kernel)]
    congr 1
  obtain ⟨j', rfl⟩ : ∃ i', j = i' + 2 := ⟨j - 2, by omega⟩
  obtain ⟨j2', rfl⟩ : ∃ i', j2 = i' + 1 := ⟨j2 - 1, by omega⟩
  have c41 : ∀ k, (k = 3 ∨ k = 5) → za_S c0 m0 8 ((g_from_more_own_plain (j' + 2)).2.1 (Int32.ofNat k) 1 x (Int32.ofNat d)) (g_fallsAs_m (j2' + 1) (Int32.ofNat k) x) := by
    intro k hk
    refine za_eq (za_seqN (o := 41) (za_map (two (x + 1) j' j2' (d + 1) (by omega) (by omega) (by omega)) (fun v => v))) (fun c => ?_) (fun m => ?_) (by omega)
    · show F_Acts_from (g_from_more_own_plain (j' + 1)) (Int32.ofNat k) (Int32.ofNat 1) x (Int32.ofNat d) c = _
      have hK : za_K 1 8 k = 3 := by rcases hk with rfl | rfl <;> decide +kernel
      rw [za_from (k' := 3) (o := 41) (by omega) (by omega) (by omega) hK (by decide +kernel)]
      congr 1
    · rcases hk with rfl | rfl <;> rfl
  rcases zk_eight hk with rfl | rfl | rfl | rfl | rfl | rfl | rfl | rfl
  · exact za_eq (base x 0 _ _ d (by omega) (by omega) (by omega) (by omega)) (fun _ => rfl) (fun _ => rfl) (by omega)
  · exact za_eq (base x 1 _ _ d (by omega) (by omega) (by omega) (by omega)) (fun _ => rfl) (fun _ => rfl) (by omega)
  · exact za_eq (two x _ _ d (by omega) (by omega) (by omega)) (fun _ => rfl) (fun _ => rfl) (by omega)
  · exact c41 3 (by omega)
  · exact za_eq (base x 4 _ _ d (by omega) (by omega) (by omega) (by omega)) (fun _ => rfl) (fun _ => rfl) (by omega)
  · exact c41 5 (by omega)
  · exact za_eq (base x 6 _ _ d (by omega) (by omega) (by omega) (by omega)) (fun _ => rfl) (fun _ => rfl) (by omega)
  · obtain ⟨j3, rfl⟩ : ∃ i', j' = i' + 1 := ⟨j' - 1, by omega⟩
    have own : za_S c0 m0 4 (fun c => F_Acts_own (g_from_more_own_plain j3) 2 2 (Int32.ofNat (d + 1)) c) (fun m => g_steersAs_m 12 (m.1 0 47) 2 m) := za_ownS (hm := fun v m => g_steersAs_m 12 v 2 m) hk1 hk2 (za_steers hn hk1 hk2 hK8 hK8 (by omega) (by omega) (by omega) 2)
    refine za_eq (za_seqN (o := 80) (za_two (base x 4 (j3 + 1) j2' (d + 1) (by omega) (by omega) (by omega) (by omega)) own (fun v w => v + w))) (fun c => ?_) (fun m => rfl) (by omega)
    show F_Acts_from (g_from_more_own_plain (j3 + 1 + 1)) (Int32.ofNat 7) (Int32.ofNat 1) x (Int32.ofNat d) c = _
    rw [za_from (k' := 7) (o := 80) (by omega) (by omega) (by omega) (by decide +kernel) (by decide +kernel)]
    congr 1
/-- tells -/
theorem za_tells {c0 m0 : zx_M} {K : Nat} (hn : c0.1 38 4 = m0.1 0 48) (hk1 : c0.1 38 5 = Int32.ofNat K) (hk2 : m0.1 0 47 = Int32.ofNat K) (hK8 : K < 8) {k j j2 d : Nat} (hk : k < 8) (hj : 20 ≤ j) (hj2 : 4 ≤ j2) (hd : d ≤ 20) (x : Int32) : za_S c0 m0 20 ((g_from_more_own_plain j).2.1 (Int32.ofNat k) 3 x (Int32.ofNat d)) (g_tellsAs_m j2 (Int32.ofNat k) x) := by
  have base : ∀ (k i i2 e : Nat), (k = 0 ∨ k = 1 ∨ k = 2 ∨ k = 3 ∨ k = 4 ∨ k = 6) → 16 ≤ i → 1 ≤ i2 → e ≤ 26 → za_S c0 m0 13 ((g_from_more_own_plain i).2.1 (Int32.ofNat k) 3 x (Int32.ofNat e)) (g_tellsAs_m i2 (Int32.ofNat k) x) := by
    intro k i i2 e hk hi hi2 he
    obtain ⟨i', rfl⟩ : ∃ i', i = i' + 3 := ⟨i - 3, by omega⟩
    obtain ⟨i2', rfl⟩ : ∃ i', i2 = i' + 1 := ⟨i2 - 1, by omega⟩
    have own1 : za_S c0 m0 8 (fun c => F_Acts_own (g_from_more_own_plain i') 1 x (Int32.ofNat (e + 1)) c) (fun m => g_fallsAs_m 12 (m.1 0 47) x m) := za_ownS (hm := fun v m => g_fallsAs_m 12 v x m) hk1 hk2 (za_falls hn hk1 hk2 hK8 hK8 (by omega) (by omega) (by omega) x)
    have own2 : za_S c0 m0 4 (fun c => F_Acts_own (g_from_more_own_plain i') 2 1 (Int32.ofNat (e + 1)) c) (fun m => g_steersAs_m 12 (m.1 0 47) 1 m) := za_ownS (hm := fun v m => g_steersAs_m 12 v 1 m) hk1 hk2 (za_steers hn hk1 hk2 hK8 hK8 (by omega) (by omega) (by omega) 1)
    refine za_eq (za_seqN (o := 2) (za_two own1 own2 (fun v w => v - w))) (fun c => ?_) (fun m => ?_) (Nat.le_refl _)
    · show F_Acts_from (g_from_more_own_plain (i' + 2)) (Int32.ofNat k) (Int32.ofNat 3) x (Int32.ofNat e) c = _
      have hK : za_K 3 8 k = 0 := by rcases hk with rfl | rfl | rfl | rfl | rfl | rfl <;> decide +kernel
      rw [za_from (k' := 0) (o := 2) (by omega) (by omega) (by omega) hK (by decide +kernel)]
      congr 1
    · rcases hk with rfl | rfl | rfl | rfl | rfl | rfl <;> rfl
  obtain ⟨j', rfl⟩ : ∃ i', j = i' + 2 := ⟨j - 2, by omega⟩
  obtain ⟨j2', rfl⟩ : ∃ i', j2 = i' + 1 := ⟨j2 - 1, by omega⟩
  have low : ∀ k, (k = 0 ∨ k = 1 ∨ k = 2 ∨ k = 3 ∨ k = 4 ∨ k = 6) → za_S c0 m0 20 ((g_from_more_own_plain (j' + 2)).2.1 (Int32.ofNat k) 3 x (Int32.ofNat d)) (g_tellsAs_m (j2' + 1) (Int32.ofNat k) x) := fun k hk => za_eq (base k _ _ d hk (by omega) (by omega) (by omega)) (fun _ => rfl) (fun _ => rfl) (by omega)
  rcases zk_eight hk with rfl | rfl | rfl | rfl | rfl | rfl | rfl | rfl
  · exact low 0 (by omega)
  · exact low 1 (by omega)
  · exact low 2 (by omega)
  · exact low 3 (by omega)
  · exact low 4 (by omega)
  · refine za_eq (za_seqN (o := 60) (za_map (base 3 j' j2' (d + 1) (by omega) (by omega) (by omega) (by omega)) (fun v => v ^^^ 5))) (fun c => ?_) (fun m => rfl) (by omega)
    show F_Acts_from (g_from_more_own_plain (j' + 1)) (Int32.ofNat 5) (Int32.ofNat 3) x (Int32.ofNat d) c = _
    rw [za_from (k' := 5) (o := 60) (by omega) (by omega) (by omega) (by decide +kernel) (by decide +kernel)]
    congr 1
  · exact low 6 (by omega)
  · refine za_eq (za_seqN (o := 81) (za_map (base 4 j' j2' (d + 1) (by omega) (by omega) (by omega) (by omega)) (fun v => v - 1))) (fun c => ?_) (fun m => rfl) (by omega)
    show F_Acts_from (g_from_more_own_plain (j' + 1)) (Int32.ofNat 7) (Int32.ofNat 3) x (Int32.ofNat d) c = _
    rw [za_from (k' := 7) (o := 81) (by omega) (by omega) (by omega) (by decide +kernel) (by decide +kernel)]
    congr 1
