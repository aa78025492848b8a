/-! the machine of the own classes over shapes: cells by number, their rows as functions; what it does is none wherever the Java machine would throw -/
abbrev zx_Sh : Type := (Nat × List (Option (Option Nat))) ⊕ (Nat × Nat)
abbrev zx_M : Type := (Nat → Nat → Int32) × (Nat → Nat → Int64)
abbrev zx_H : Type := List zx_Sh × zx_M
abbrev zx_L : Type := List (Option Value)
abbrev zx_K : Type := Nat × zx_L × List Value × zx_H
def zx_at : zx_C → Nat → Option (Instr × Nat)
  | [], _ => none
  | (q, i, n) :: t, pc => bif Nat.beq q pc then some (i, n) else zx_at t pc
def zx_nth {α : Type} : List α → Nat → Option α
  | [], _ => none
  | a :: _, 0 => some a
  | _ :: t, n + 1 => zx_nth t n
def zx_put {α : Type} : List α → Nat → α → List α
  | [], _, _ => []
  | _ :: t, 0, v => v :: t
  | a :: t, n + 1, v => a :: zx_put t n v
def zx_find {α : Type} : List (Nat × α) → Nat → Option α
  | [], _ => none
  | (k, a) :: t, i => bif Nat.beq k i then some a else zx_find t i
def zx_w1 (m : zx_M) (q : Nat) (f : Nat → Int32) : zx_M := (fun r => bif Nat.beq r q then f else m.1 r, m.2)
def zx_w2 (m : zx_M) (q : Nat) (f : Nat → Int64) : zx_M := (m.1, fun r => bif Nat.beq r q then f else m.2 r)
def zx_u1 (m : zx_M) (q k : Nat) (x : Int32) : zx_M := zx_w1 m q (upd (m.1 q) k x)
def zx_u2 (m : zx_M) (q k : Nat) (x : Int64) : zx_M := zx_w2 m q (vp_updL (m.2 q) k x)
/-- a method's data -/
def zx_tm (k : Nat) : Option zx_T := zx_nth zx_mt k
def zx_own (k : Nat) : Nat := match zx_tm k with
  | some (_, _, _, _, o, _) => o
  | none => 99
def zx_ml (k : Nat) : Nat := match zx_tm k with
  | some (_, _, n, _, _, _) => n
  | none => 0
def zx_na (k : Nat) : Nat := match zx_tm k with
  | some (_, _, _, _, _, n) => n
  | none => 0
def zx_rt (k : Nat) : Option FieldType := match zx_tm k with
  | some (_, _, _, r, _, _) => r
  | none => none
def zx_ini (k : Nat) : Bool := match zx_tm k with
  | some (y, _, _, _, _, _) => decide (y.name = "<init>")
  | none => false
/-- fields' types and whether they're final -/
def zx_ty : Nat → Nat → FieldType := fun ci => match ci with
  | 0 => tyX0 | 1 => tyX1 | 2 => tyX2 | 3 => tyX3 | 4 => tyX4 | 5 => tyX5 | 6 => tyX6 | 7 => tyX7 | 8 => tyX8 | _ => tyX9
def zx_fin : Nat → Nat → Bool := fun ci k => match ci with
  | 0 => (TX0 k).2.2.2 | 1 => (TX1 k).2.2.2 | 2 => (TX2 k).2.2.2 | 3 => (TX3 k).2.2.2 | 4 => (TX4 k).2.2.2 | 5 => (TX5 k).2.2.2 | 6 => (TX6 k).2.2.2 | 7 => (TX7 k).2.2.2 | 8 => (TX8 k).2.2.2 | _ => (TX9 k).2.2.2
def zx_fN : Nat → Nat := fun ci => match ci with
  | 0 => 6 | 1 => 7 | 2 => 11 | 3 => 5 | 4 => 3 | 5 => 2 | 6 => 3 | 7 => 5 | 8 => 12 | _ => 53
def zx_dv (t : FieldType) : Option (Option Nat) := match t with
  | .int => none
  | .boolean => none
  | _ => some none
def zx_df (ci : Nat) : List (Option (Option Nat)) := (List.range (zx_fN ci)).map (fun k => zx_dv (zx_ty ci k))
/-- the static arrays -/
def zx_sa : List (List Int32) := [[1, 0, 0, 0, -999, -999, -999, 1, -30, -30, 1, 0], [9, 9, 1, 12, 999, 999, 999, 99, 30, 30, 9, 1], [-1, 0, 0, 2, 1, 3, 0, 4], [1, 10, 11, 2, 20, 0, 0, 0, 0, 30, 0, 0, 0, 41, 40, 0, 0, 0, 50, 0, 0, 0, 0, 60, 70, 0, 0, 0, 0, 80, 0, 81]]
/-- indexOf on the one text, wsqabh -/
def zx_io (c : Int32) : Int32 := if c = 119 then 0 else if c = 115 then 1 else if c = 113 then 2 else if c = 97 then 3 else if c = 98 then 4 else if c = 104 then 5 else -1
/-- references within: cells below n, statics from 1000 on -/
def zx_kq (n q : Nat) : Bool := Nat.blt q n || Nat.ble 1000 q
def zx_kv (n : Nat) (v : Value) : Bool := match v with
  | .ref q => zx_kq n q
  | _ => true
def zx_kV (n : Nat) : List Value → Bool
  | [] => true
  | v :: t => zx_kv n v && zx_kV n t
def zx_kL (n : Nat) : zx_L → Bool
  | [] => true
  | none :: t => zx_kL n t
  | some v :: t => zx_kv n v && zx_kL n t
def zx_kr (n : Nat) : List (Option (Option Nat)) → Bool
  | [] => true
  | some (some q) :: t => zx_kq n q && zx_kr n t
  | _ :: t => zx_kr n t
def zx_kS (n : Nat) : List zx_Sh → Bool
  | [] => true
  | .inl (_, rs) :: t => zx_kr n rs && zx_kS n t
  | .inr _ :: t => zx_kS n t
def zx_ok (L : zx_L) (st : List Value) (S : List zx_Sh) : Bool := Nat.blt S.length 999 && (zx_kL S.length L && (zx_kV S.length st && zx_kS S.length S))
def zx_cat : List Value → Nat
  | [] => 0
  | v :: t => v.category + zx_cat t
/-- locals -/
def zx_c2 (L : zx_L) (i : Nat) : Bool := match zx_nth L i with
  | some (some (.long _)) => true
  | some (some (.double _)) => true
  | _ => false
/-- a long ahead is gone when its second half is written -/
def zx_k2 (L : zx_L) (i : Nat) : zx_L := match i with
  | 0 => L
  | j + 1 => bif zx_c2 L j then zx_put L j none else L
def zx_s1 (L : zx_L) (i : Nat) (v : Value) : Option zx_L := bif Nat.blt i L.length then some (zx_put (zx_k2 L i) i (some v)) else none
def zx_s2 (L : zx_L) (i : Nat) (v : Value) : Option zx_L := bif Nat.blt (i + 1) L.length then some (zx_put (zx_put (zx_k2 L i) i (some v)) (i + 1) none) else none
def zx_lda (L : zx_L) (i len pc : Nat) (st : List Value) (h : zx_H) : Option zx_K := match zx_nth L i with
  | some (some (.ref x)) => some (pc + len, L, .ref x :: st, h)
  | _ => none
def zx_ldi (L : zx_L) (i len pc : Nat) (st : List Value) (h : zx_H) : Option zx_K := match zx_nth L i with
  | some (some (.int x)) => some (pc + len, L, .int x :: st, h)
  | _ => none
def zx_ldl (L : zx_L) (i len pc : Nat) (st : List Value) (h : zx_H) : Option zx_K := match zx_nth L i with
  | some (some (.long x)) => some (pc + len, L, .long x :: st, h)
  | _ => none
def zx_sta (L : zx_L) (i len pc : Nat) (st : List Value) (h : zx_H) : Option zx_K := match st with
  | .ref x :: r => match zx_s1 L i (.ref x) with
    | some L' => some (pc + len, L', r, h)
    | none => none
  | _ => none
def zx_sti (L : zx_L) (i len pc : Nat) (st : List Value) (h : zx_H) : Option zx_K := match st with
  | .int x :: r => match zx_s1 L i (.int x) with
    | some L' => some (pc + len, L', r, h)
    | none => none
  | _ => none
def zx_stl (L : zx_L) (i len pc : Nat) (st : List Value) (h : zx_H) : Option zx_K := match st with
  | .long x :: r => match zx_s2 L i (.long x) with
    | some L' => some (pc + len, L', r, h)
    | none => none
  | _ => none
def zx_i1 (f : Int32 → Int32) (pc : Nat) (L : zx_L) (st : List Value) (h : zx_H) : Option zx_K := match st with
  | .int x :: r => some (pc + 1, L, .int (f x) :: r, h)
  | _ => none
def zx_i2 (f : Int32 → Int32 → Int32) (pc : Nat) (L : zx_L) (st : List Value) (h : zx_H) : Option zx_K := match st with
  | .int y :: .int x :: r => some (pc + 1, L, .int (f x y) :: r, h)
  | _ => none
def zx_l2 (f : Int64 → Int64 → Int64) (pc : Nat) (L : zx_L) (st : List Value) (h : zx_H) : Option zx_K := match st with
  | .long y :: .long x :: r => some (pc + 1, L, .long (f x y) :: r, h)
  | _ => none
/-- division, remainder: none by 0 -/
def zx_di (f : Int32 → Int32 → Int32) (pc : Nat) (L : zx_L) (st : List Value) (h : zx_H) : Option zx_K := match st with
  | .int y :: .int x :: r => if y = 0 then none else some (pc + 1, L, .int (f x y) :: r, h)
  | _ => none
def zx_dl (f : Int64 → Int64 → Int64) (pc : Nat) (L : zx_L) (st : List Value) (h : zx_H) : Option zx_K := match st with
  | .long y :: .long x :: r => if y = 0 then none else some (pc + 1, L, .long (f x y) :: r, h)
  | _ => none
def zx_rem (x y : Int32) : Int32 := x - x / y * y
def zx_reml (x y : Int64) : Int64 := x - x / y * y
def zx_shl (x y : Int32) : Int32 := x <<< (y &&& 31)
def zx_shr (x y : Int32) : Int32 := x >>> (y &&& 31)
def zx_ushr (x y : Int32) : Int32 := (x.toUInt32 >>> (y.toUInt32 &&& Int32.toUInt32 31)).toInt32
def zx_i2c (x : Int32) : Int32 := (x.toUInt32 % 65536).toInt32
def zx_i2b (x : Int32) : Int32 := x.toInt8.toInt32
def zx_i2s (x : Int32) : Int32 := x.toInt16.toInt32
/-- branches -/
def zx_tg (pc : Nat) (off : Int) : Option Nat := match (pc : Int) + off with
  | .ofNat n => some n
  | .negSucc _ => none
def zx_br (c : Prop) [Decidable c] (pc : Nat) (off : Int) (L : zx_L) (st : List Value) (h : zx_H) : Option zx_K := match zx_tg pc off with
  | some t => some (if c then t else pc + 3, L, st, h)
  | none => none
def zx_if (cd : ClassFile.Cond) (x : Int32) (pc : Nat) (off : Int) (L : zx_L) (st : List Value) (h : zx_H) : Option zx_K := match cd with
  | .eq => zx_br (x = 0) pc off L st h
  | .ne => zx_br (¬ x = 0) pc off L st h
  | .lt => zx_br (x < 0) pc off L st h
  | .ge => zx_br (0 ≤ x) pc off L st h
  | .gt => zx_br (0 < x) pc off L st h
  | .le => zx_br (x ≤ 0) pc off L st h
def zx_ic (cd : ClassFile.Cond) (x y : Int32) (pc : Nat) (off : Int) (L : zx_L) (st : List Value) (h : zx_H) : Option zx_K := match cd with
  | .eq => zx_br (x = y) pc off L st h
  | .ne => zx_br (¬ x = y) pc off L st h
  | .lt => zx_br (x < y) pc off L st h
  | .ge => zx_br (y ≤ x) pc off L st h
  | .gt => zx_br (y < x) pc off L st h
  | .le => zx_br (x ≤ y) pc off L st h
def zx_pick : List (Int × Int) → Int → Int32 → Int
  | [], d, _ => d
  | (k, o) :: t, d, x => if x = Int32.ofInt k then o else zx_pick t d x
def zx_rng : Nat → Int → List Int → List (Int × Int)
  | 0, _, _ => []
  | _ + 1, _, [] => []
  | n + 1, lo, o :: t => (lo, o) :: zx_rng n (lo + 1) t
def zx_keys : List (Int × Int) → Bool
  | [] => true
  | (k, _) :: t => decide ((Int32.ofInt k).toInt = k) && zx_keys t
def zx_sw (ps : List (Int × Int)) (d : Int) (pc : Nat) (L : zx_L) (st : List Value) (h : zx_H) : Option zx_K := match st with
  | .int x :: r => bif zx_keys ps then match zx_tg pc (zx_pick ps d x) with
      | some t => some (t, L, r, h)
      | none => none
    else none
  | _ => none
/-- arrays -/
def zx_aln (pc : Nat) (L : zx_L) (st : List Value) (h : zx_H) : Option zx_K := match st with
  | .ref q :: r => bif Nat.blt q 1000 then match zx_nth h.1 q with
      | some (.inr (kk, n)) => bif Nat.blt kk 3 then some (pc + 1, L, .int (Int32.ofNat n) :: r, h) else none
      | _ => none
    else match zx_nth zx_sa (q - 1000) with
      | some l => some (pc + 1, L, .int (Int32.ofNat l.length) :: r, h)
      | none => none
  | _ => none
/-- int arrays are of kind 0, longs 1, booleans 2 -/
def zx_ild (kd pc : Nat) (L : zx_L) (st : List Value) (h : zx_H) : Option zx_K := match st with
  | .int i :: .ref q :: r => bif Nat.blt q 1000 then match zx_nth h.1 q with
      | some (.inr (kk, n)) => bif Nat.beq kk kd then if i < 0 ∨ n ≤ i.toNatClampNeg then none else some (pc + 1, L, .int (h.2.1 q i.toNatClampNeg) :: r, h) else none
      | _ => none
    else bif Nat.beq kd 0 then match zx_nth zx_sa (q - 1000) with
      | some l => if i < 0 ∨ l.length ≤ i.toNatClampNeg then none else some (pc + 1, L, .int (l.getD i.toNatClampNeg 0) :: r, h)
      | none => none
    else none
  | _ => none
def zx_lld (pc : Nat) (L : zx_L) (st : List Value) (h : zx_H) : Option zx_K := match st with
  | .int i :: .ref q :: r => match zx_nth h.1 q with
      | some (.inr (kk, n)) => bif Nat.beq kk 1 then if i < 0 ∨ n ≤ i.toNatClampNeg then none else some (pc + 1, L, .long (h.2.2 q i.toNatClampNeg) :: r, h) else none
      | _ => none
  | _ => none
def zx_ist (pc : Nat) (L : zx_L) (st : List Value) (h : zx_H) : Option zx_K := match st with
  | .int x :: .int i :: .ref q :: r => match zx_nth h.1 q with
      | some (.inr (kk, n)) => bif Nat.beq kk 0 then if i < 0 ∨ n ≤ i.toNatClampNeg then none else some (pc + 1, L, r, (h.1, zx_u1 h.2 q i.toNatClampNeg x)) else none
      | _ => none
  | _ => none
def zx_zst (pc : Nat) (L : zx_L) (st : List Value) (h : zx_H) : Option zx_K := match st with
  | .int x :: .int i :: .ref q :: r => match zx_nth h.1 q with
      | some (.inr (kk, n)) => bif Nat.beq kk 2 then if i < 0 ∨ n ≤ i.toNatClampNeg then none else if x = 0 ∨ x = 1 then some (pc + 1, L, r, (h.1, zx_u1 h.2 q i.toNatClampNeg x)) else none else none
      | _ => none
  | _ => none
def zx_lst (pc : Nat) (L : zx_L) (st : List Value) (h : zx_H) : Option zx_K := match st with
  | .long x :: .int i :: .ref q :: r => match zx_nth h.1 q with
      | some (.inr (kk, n)) => bif Nat.beq kk 1 then if i < 0 ∨ n ≤ i.toNatClampNeg then none else some (pc + 1, L, r, (h.1, zx_u2 h.2 q i.toNatClampNeg x)) else none
      | _ => none
  | _ => none
/-- fields -/
def zx_gf (own ix pc : Nat) (L : zx_L) (st : List Value) (h : zx_H) : Option zx_K := match st with
  | .ref q :: r => match zx_find (zx_flt own) ix with
    | some (ci, k) => match zx_nth h.1 q with
      | some (.inl (cj, rs)) => bif Nat.beq ci cj then match zx_nth rs k with
          | some none => some (pc + 3, L, .int (h.2.1 q k) :: r, h)
          | some (some none) => some (pc + 3, L, .null :: r, h)
          | some (some (some t)) => some (pc + 3, L, .ref t :: r, h)
          | none => none
        else none
      | _ => none
    | none => none
  | _ => none
def zx_mayf (own : Nat) (ini : Bool) (ci k : Nat) : Bool := bif zx_fin ci k then ini && Nat.beq own ci else true
def zx_pf (own : Nat) (ini : Bool) (ix pc : Nat) (L : zx_L) (st : List Value) (h : zx_H) : Option zx_K := match st with
  | .int x :: .ref q :: r => match zx_find (zx_flt own) ix with
    | some (ci, k) => match zx_nth h.1 q with
      | some (.inl (cj, rs)) => bif Nat.beq ci cj && zx_mayf own ini ci k then match zx_nth rs k with
          | some none => match zx_ty ci k with
            | .int => some (pc + 3, L, r, (h.1, zx_u1 h.2 q k x))
            | .boolean => if x = 0 ∨ x = 1 then some (pc + 3, L, r, (h.1, zx_u1 h.2 q k x)) else none
            | _ => none
          | _ => none
        else none
      | _ => none
    | none => none
  | .ref t :: .ref q :: r => match zx_find (zx_flt own) ix with
    | some (ci, k) => match zx_nth h.1 q with
      | some (.inl (cj, rs)) => bif Nat.beq ci cj && zx_mayf own ini ci k then match zx_nth rs k with
          | some (some _) => match zx_ty ci k with
            | .object _ => some (pc + 3, L, r, (zx_put h.1 q (.inl (cj, zx_put rs k (some (some t)))), h.2))
            | .array _ => some (pc + 3, L, r, (zx_put h.1 q (.inl (cj, zx_put rs k (some (some t)))), h.2))
            | _ => none
          | _ => none
        else none
      | _ => none
    | none => none
  | _ => none
/-- makings -/
def zx_new (own ix pc : Nat) (L : zx_L) (st : List Value) (h : zx_H) : Option zx_K := match zx_find (zx_clt own) ix with
  | some ci => bif zx_ok L st h.1 then some (pc + 3, L, .ref h.1.length :: st, (h.1 ++ [.inl (ci, zx_df ci)], zx_w1 h.2 h.1.length (fun _ => 0))) else none
  | none => none
def zx_nwa (t : ArrayType) (pc : Nat) (L : zx_L) (st : List Value) (h : zx_H) : Option zx_K := match st with
  | .int n :: r => if n < 0 ∨ 1000 < n.toNatClampNeg then none else bif zx_ok L r h.1 then match t with
      | .int => some (pc + 2, L, .ref h.1.length :: r, (h.1 ++ [.inr (0, n.toNatClampNeg)], zx_w1 h.2 h.1.length (fun _ => 0)))
      | .boolean => some (pc + 2, L, .ref h.1.length :: r, (h.1 ++ [.inr (2, n.toNatClampNeg)], zx_w1 h.2 h.1.length (fun _ => 0)))
      | .long => some (pc + 2, L, .ref h.1.length :: r, (h.1 ++ [.inr (1, n.toNatClampNeg)], zx_w2 h.2 h.1.length (fun _ => 0)))
      | _ => none
    else none
  | _ => none
/-- members of the library that are no code here -/
def zx_cpy (L : zx_L) (pc n dp q1 sp q0 : Nat) (r : List Value) (h : zx_H) : Option zx_K := match zx_nth h.1 q0, zx_nth h.1 q1 with
  | some (.inr (k0, n0)), some (.inr (k1, n1)) => bif Nat.beq k0 k1 && (Nat.ble (sp + n) n0 && Nat.ble (dp + n) n1) then
      bif Nat.beq k0 0 then some (pc + 3, L, r, (h.1, zx_w1 h.2 q1 (va_cpy (h.2.1 q0) (h.2.1 q1) sp dp n)))
      else bif Nat.beq k0 1 then some (pc + 3, L, r, (h.1, zx_w2 h.2 q1 (va_cpy (h.2.2 q0) (h.2.2 q1) sp dp n)))
      else none
    else none
  | _, _ => none
/-- booleans are copied as they are: each is 0 or 1 -/
def zx_01 (f : Nat → Int32) : Nat → Bool
  | 0 => true
  | n + 1 => (decide (f n = 0) || decide (f n = 1)) && zx_01 f n
def zx_cpz (L : zx_L) (pc n dp q1 sp q0 : Nat) (r : List Value) (h : zx_H) : Option zx_K := match zx_nth h.1 q0, zx_nth h.1 q1 with
  | some (.inr (k0, n0)), some (.inr (k1, n1)) => bif Nat.beq k0 2 && (Nat.beq k1 2 && (Nat.ble (sp + n) n0 && Nat.ble (dp + n) n1)) then
      bif zx_01 (fun i => h.2.1 q0 (sp + i)) n then some (pc + 3, L, r, (h.1, zx_w1 h.2 q1 (va_cpy (h.2.1 q0) (h.2.1 q1) sp dp n))) else none
    else none
  | _, _ => none
def zx_cp (pc : Nat) (L : zx_L) (st : List Value) (h : zx_H) : Option zx_K := match st with
  | .int n :: .int dp :: .ref q1 :: .int sp :: .ref q0 :: r => if sp < 0 ∨ dp < 0 ∨ n < 0 ∨ 8 < zx_cat r then none else match zx_nth h.1 q0 with
      | some (.inr (2, _)) => zx_cpz L pc n.toNatClampNeg dp.toNatClampNeg q1 sp.toNatClampNeg q0 r h
      | _ => zx_cpy L pc n.toNatClampNeg dp.toNatClampNeg q1 sp.toNatClampNeg q0 r h
  | _ => none
def zx_abs (x : Int32) : Int32 := if 0 ≤ x then x else 0 - x
def zx_max (x y : Int32) : Int32 := if x < y then y else x
def zx_min (x y : Int32) : Int32 := if y < x then y else x
def zx_nS (_ kd pc : Nat) (L : zx_L) (st : List Value) (h : zx_H) : Option zx_K := match kd with
  | 10 => match st with
    | .int x :: r => bif Nat.ble (zx_cat r) 8 then some (pc + 3, L, .int (zx_abs x) :: r, h) else none
    | _ => none
  | 11 => match st with
    | .int y :: .int x :: r => bif Nat.ble (zx_cat r) 8 then some (pc + 3, L, .int (zx_max x y) :: r, h) else none
    | _ => none
  | 12 => match st with
    | .int y :: .int x :: r => bif Nat.ble (zx_cat r) 8 then some (pc + 3, L, .int (zx_min x y) :: r, h) else none
    | _ => none
  | 13 => zx_cp pc L st h
  | _ => none
def zx_nV (d kd pc : Nat) (L : zx_L) (st : List Value) (h : zx_H) : Option zx_K := match kd with
  | 14 => match st with
    | .int x :: .ref q :: r => bif Nat.ble 9 d && (Nat.beq q 2000 && Nat.ble (zx_cat r) 8) then some (pc + 3, L, .int (zx_io x) :: r, h) else none
    | _ => none
  | _ => none
def zx_nI (_ kd pc : Nat) (L : zx_L) (st : List Value) (h : zx_H) : Option zx_K := match kd with
  | 15 => match st with
    | .ref _ :: r => bif Nat.ble (zx_cat r) 8 then some (pc + 3, L, r, h) else none
    | _ => none
  | _ => none
def zx_nat (f : Nat → Nat → Nat → zx_L → List Value → zx_H → Option zx_K) (d own ix pc : Nat) (L : zx_L) (st : List Value) (h : zx_H) : Option zx_K := match zx_find (zx_mlt own) ix with
  | some (kd, _) => match d with
    | 0 => none
    | d + 1 => f (d + 1) kd pc L st h
  | none => none
def zx_ldc (own ix len pc : Nat) (L : zx_L) (st : List Value) (h : zx_H) : Option zx_K := match zx_find (zx_ict own) ix with
  | some v => some (pc + len, L, .int (Int32.ofInt v) :: st, h)
  | none => bif Nat.beq own 7 && (Nat.beq ix 60 && Nat.beq len 2) then some (pc + 2, L, .ref 2000 :: st, h) else none
def zx_step (d own : Nat) (ini : Bool) (pc : Nat) (i : Instr) (L : zx_L) (st : List Value) (h : zx_H) : Option zx_K := match i with
  | .aload k => zx_lda L k 2 pc st h
  | .aload_n k => zx_lda L k.val 1 pc st h
  | .iload k => zx_ldi L k 2 pc st h
  | .iload_n k => zx_ldi L k.val 1 pc st h
  | .lload k => zx_ldl L k 2 pc st h
  | .lload_n k => zx_ldl L k.val 1 pc st h
  | .astore_n k => zx_sta L k.val 1 pc st h
  | .istore k => zx_sti L k 2 pc st h
  | .istore_n k => zx_sti L k.val 1 pc st h
  | .lstore k => zx_stl L k 2 pc st h
  | .lstore_n k => zx_stl L k.val 1 pc st h
  | .iinc k n => match zx_nth L k with
    | some (some (.int x)) => match zx_s1 L k (.int (x + Int32.ofInt n)) with
      | some L' => some (pc + 3, L', st, h)
      | none => none
    | _ => none
  | .iconst n => some (pc + 1, L, .int (Int32.ofInt n) :: st, h)
  | .bipush n => some (pc + 2, L, .int (Int8.ofInt n).toInt32 :: st, h)
  | .sipush n => some (pc + 3, L, .int (Int16.ofInt n).toInt32 :: st, h)
  | .lconst n => some (pc + 1, L, .long (Int64.ofNat n.val) :: st, h)
  | .ldc ix => zx_ldc own ix 2 pc L st h
  | .ldc_w ix => match zx_find (zx_ict own) ix with
    | some v => some (pc + 3, L, .int (Int32.ofInt v) :: st, h)
    | none => none
  | .ldc2_w ix => match zx_find (zx_lct own) ix with
    | some v => some (pc + 3, L, .long (Int64.ofInt v) :: st, h)
    | none => none
  | .iadd => zx_i2 (fun x y => x + y) pc L st h
  | .isub => zx_i2 (fun x y => x - y) pc L st h
  | .imul => zx_i2 (fun x y => x * y) pc L st h
  | .idiv => zx_di (fun x y => x / y) pc L st h
  | .irem => zx_di zx_rem pc L st h
  | .ineg => zx_i1 (fun x => -x) pc L st h
  | .iand => zx_i2 (fun x y => x &&& y) pc L st h
  | .ior => zx_i2 (fun x y => x ||| y) pc L st h
  | .ixor => zx_i2 (fun x y => x ^^^ y) pc L st h
  | .ishl => zx_i2 zx_shl pc L st h
  | .ishr => zx_i2 zx_shr pc L st h
  | .iushr => zx_i2 zx_ushr pc L st h
  | .ladd => zx_l2 (fun x y => x + y) pc L st h
  | .lmul => zx_l2 (fun x y => x * y) pc L st h
  | .ldiv => zx_dl (fun x y => x / y) pc L st h
  | .lrem => zx_dl zx_reml pc L st h
  | .i2c => zx_i1 zx_i2c pc L st h
  | .i2b => zx_i1 zx_i2b pc L st h
  | .i2s => zx_i1 zx_i2s pc L st h
  | .i2l => match st with
    | .int x :: r => some (pc + 1, L, .long x.toInt64 :: r, h)
    | _ => none
  | .l2i => match st with
    | .long x :: r => some (pc + 1, L, .int x.toInt32 :: r, h)
    | _ => none
  | .lcmp => match st with
    | .long y :: .long x :: r => some (pc + 1, L, .int (lg_cmp x y) :: r, h)
    | _ => none
  | .dup => match st with
    | .int x :: r => some (pc + 1, L, .int x :: .int x :: r, h)
    | .ref x :: r => some (pc + 1, L, .ref x :: .ref x :: r, h)
    | _ => none
  | .pop => match st with
    | .int _ :: r => some (pc + 1, L, r, h)
    | .ref _ :: r => some (pc + 1, L, r, h)
    | _ => none
  | .dup2 => match st with
    | .int x :: .ref y :: r => some (pc + 1, L, .int x :: .ref y :: .int x :: .ref y :: r, h)
    | _ => none
  | .ifCond cd off => match st with
    | .int x :: r => zx_if cd x pc off L r h
    | _ => none
  | .if_icmp cd off => match st with
    | .int y :: .int x :: r => zx_ic cd x y pc off L r h
    | _ => none
  | .ifnonnull off => match st with
    | .ref _ :: r => match zx_tg pc off with
      | some t => some (t, L, r, h)
      | none => none
    | _ => none
  | .goto off => match zx_tg pc off with
    | some t => some (t, L, st, h)
    | none => none
  | .tableswitch dflt lo hi offs => bif decide (lo ≤ hi) && decide ((offs.size : Int) = hi - lo + 1) then zx_sw (zx_rng offs.size lo offs.toList) dflt pc L st h else none
  | .lookupswitch dflt ps => bif (ps.toList.zip (ps.toList.drop 1)).all (fun q => q.1.1 < q.2.1) then zx_sw ps.toList dflt pc L st h else none
  | .arraylength => zx_aln pc L st h
  | .iaload => zx_ild 0 pc L st h
  | .baload => zx_ild 2 pc L st h
  | .laload => zx_lld pc L st h
  | .iastore => zx_ist pc L st h
  | .bastore => zx_zst pc L st h
  | .lastore => zx_lst pc L st h
  | .getfield ix => zx_gf own ix pc L st h
  | .putfield ix => zx_pf own ini ix pc L st h
  | .getstatic ix => match zx_find (zx_slt own) ix with
    | some k => some (pc + 3, L, .ref (1000 + k) :: st, h)
    | none => none
  | .new ix => zx_new own ix pc L st h
  | .newarray t => zx_nwa t pc L st h
  | .invokestatic ix => zx_nat zx_nS d own ix pc L st h
  | .invokevirtual ix => zx_nat zx_nV d own ix pc L st h
  | .invokespecial ix => zx_nat zx_nI d own ix pc L st h
  | _ => none
/-- answers -/
def zx_ret (rt : Option FieldType) (i : Instr) (st : List Value) : Option (Option Value) := match i with
  | .ireturn => match st with
    | [.int x] => match rt with
      | some .int => some (some (.int x))
      | some .boolean => if x = 0 ∨ x = 1 then some (some (.int x)) else none
      | _ => none
    | _ => none
  | .lreturn => match st with
    | [.long x] => match rt with
      | some .long => some (some (.long x))
      | _ => none
    | _ => none
  | .return_ => match st with
    | [] => match rt with
      | none => some none
      | _ => none
    | _ => none
  | _ => none
/-- calls: kind, method -/
def zx_inv (own : Nat) (i : Instr) : Option (Nat × Nat) := match i with
  | .invokevirtual ix => match zx_find (zx_mlt own) ix with
    | some (0, k) => some (0, k)
    | _ => none
  | .invokestatic ix => match zx_find (zx_mlt own) ix with
    | some (1, k) => some (1, k)
    | _ => none
  | .invokespecial ix => match zx_find (zx_mlt own) ix with
    | some (2, k) => some (2, k)
    | some (3, k) => some (3, k)
    | _ => none
  | _ => none
def zx_sl : List Value → zx_L
  | [] => []
  | v :: t => match v with
    | .long _ => some v :: none :: zx_sl t
    | .double _ => some v :: none :: zx_sl t
    | _ => some v :: zx_sl t
def zx_pad : Nat → zx_L
  | 0 => []
  | n + 1 => none :: zx_pad n
def zx_en (ml : Nat) (as : List Value) : zx_L := zx_sl as ++ zx_pad (ml - (zx_sl as).length)
def zx_take : Nat → List Value → List Value → Option (List Value × List Value)
  | 0, as, st => some (as, st)
  | _ + 1, _, [] => none
  | n + 1, as, v :: t => zx_take n (v :: as) t
def zx_rcv (kd own : Nat) (as : List Value) (S : List zx_Sh) : Bool := match kd with
  | 0 => match as with
    | .ref q :: _ => match zx_nth S q with
      | some (.inl (ci, _)) => Nat.beq ci own
      | _ => false
    | _ => false
  | 1 => true
  | _ => match as with
    | .ref _ :: _ => true
    | _ => false
def zx_args (kd k : Nat) (L : zx_L) (st : List Value) (h : zx_H) : Option (List Value × List Value) := match zx_take (zx_na k) [] st with
  | some (as, r) => bif zx_rcv kd (zx_own k) as h.1 && (Nat.ble (zx_sl as).length (zx_ml k) && (zx_kL h.1.length L && (zx_kV h.1.length r && (Nat.ble (zx_cat r) 8 && Nat.blt h.1.length 999)))) then some (as, r) else none
  | none => none
def zx_run : Nat → Nat → Nat → Nat → zx_L → List Value → zx_H → Option (Option Value × zx_H)
  | 0, _, _, _, _, _, _ => none
  | n + 1, d, mid, pc, L, st, h =>
    match zx_at (zx_cd mid) pc with
    | none => none
    | some (i, _) =>
      match zx_step d (zx_own mid) (zx_ini mid) pc i L st h with
      | some (pc', L', st', h') => zx_run n d mid pc' L' st' h'
      | none =>
        match zx_ret (zx_rt mid) i st with
        | some r => some (r, h)
        | none =>
          match d with
          | 0 => none
          | d' + 1 =>
            match zx_inv (zx_own mid) i with
            | none => none
            | some (kd, k) =>
              match zx_args kd k L st h with
              | none => none
              | some (as, r) =>
                match zx_run n d' k 0 (zx_en (zx_ml k) as) [] h with
                | none => none
                | some (v, h') => zx_run n (d' + 1) mid (pc + 3) L (v.toList ++ r) h'
