/-! THE EVALUATOR: the bytecode over an abstract heap; ints are linear forms over the script's ints -/
abbrev qT : Type := List (Nat × Nat)
abbrev qI : Type := Nat × qT
abbrev qV : Type := qI ⊕ (Option Nat ⊕ Nat)
abbrev qA : Type := Nat × (List qI ⊕ (List Nat ⊕ List (Option Nat)))
abbrev qC : Type := qA ⊕ (Nat × List qV)
abbrev qHp : Type := Bool × List qC
abbrev qRow : Type := Nat × Nat × Nat × Nat × Nat × Instr × Nat
abbrev qHd : Type := Nat × Nat × Nat × Nat
abbrev qM : Type := Nat × List qRow × List qHd
abbrev qRes : Type := (Option qV × qHp × Nat × Nat) ⊕ ((Nat × qHp × Nat × Nat) ⊕ Option (qT × Nat))
abbrev qEnv : Type := List (qT × Nat × Nat)
abbrev qL : Type := List (Option qV)
abbrev qKk : Type := List qRow → qL → List qV → qHp → qRes
abbrev qIh : Type := Nat → List qRow → List qHd → qKk
abbrev qOp : Type := List qM → qEnv → qIh → qKk → Nat → List qRow → List qHd → Nat → Nat → Nat → Nat → qKk
noncomputable def q_no : qRes := .inr (.inr none)
noncomputable def q_sp (t : qT) (u : Nat) : qRes := .inr (.inr (some (t, u)))
noncomputable def q_nth {α : Type} (l : List α) : Nat → Option α := List.rec (motive := fun _ => Nat → Option α) (fun _ => none) (fun x _ ih n => Nat.rec (motive := fun _ => Option α) (some x) (fun m _ => ih m) n) l
noncomputable def q_drop {α : Type} (l : List α) : Nat → List α := List.rec (motive := fun _ => Nat → List α) (fun _ => []) (fun x t ih n => Nat.rec (motive := fun _ => List α) (x :: t) (fun m _ => ih m) n) l
noncomputable def q_set {α : Type} (l : List α) : Nat → α → List α := List.rec (motive := fun _ => Nat → α → List α) (fun _ _ => []) (fun x t ih n v => Nat.rec (motive := fun _ => List α) (v :: t) (fun m _ => x :: ih m v) n) l
/-- a number, worked out before it is handed on -/
noncomputable def q_fz {α : Type} (x : Nat) (f : Nat → α) : α := Nat.rec (motive := fun _ => α) (f 0) (fun n _ => f (Nat.succ n)) x
/-- is there a place n -/
noncomputable def q_has {α : Type} (l : List α) (n : Nat) : Bool := match q_nth l n with
  | some _ => true
  | none => false
noncomputable def q_ln {α : Type} (l : List α) : Nat := List.rec (motive := fun _ => Nat → Nat) (fun a => a) (fun _ _ ih a => q_fz (Nat.succ a) ih) l 0
noncomputable def q_teq : qT → qT → Bool
  | [], [] => true
  | [], _ :: _ => false
  | _ :: _, [] => false
  | x :: a, y :: b => Nat.beq x.1 y.1 && (Nat.beq x.2 y.2 && q_teq a b)
noncomputable def q_neg (t : qT) : qT := t.map (fun x => (x.1, (4294967296 - x.2 % 4294967296) % 4294967296))
noncomputable def q_scale (k : Nat) (t : qT) : qT := t.map (fun x => (x.1, x.2 * k % 4294967296))
noncomputable def q_find (t : qT) (E : qEnv) : Option (Nat × Nat) := List.rec (motive := fun _ => Option (Nat × Nat)) none (fun x _ ih => match q_teq t x.1 with
  | true => some x.2
  | false => ih) E
noncomputable def q_er (t : qT) (E : qEnv) : qEnv := List.rec (motive := fun _ => qEnv) [] (fun x _ ih => match q_teq t x.1 with
  | true => ih
  | false => x :: ih) E
noncomputable def q_base (E : qEnv) (t : qT) : Nat × Nat := match q_find t E with
  | some r => r
  | none => match q_find (q_neg t) E with
    | some r => match Nat.ble 1 r.1 with
      | true => (4294967296 - r.2, 4294967296 - r.1)
      | false => (0, 4294967295)
    | none => (0, 4294967295)
noncomputable def q_sh (r : Nat × Nat) (c : Nat) : Nat × Nat := match Nat.beq ((r.1 + c) / 4294967296) ((r.2 + c) / 4294967296) with
  | true => ((r.1 + c) % 4294967296, (r.2 + c) % 4294967296)
  | false => (0, 4294967295)
/-- an int's interval, biased by 2 ^ 31 -/
noncomputable def q_iv (E : qEnv) (x : qI) : Nat × Nat := match x.2 with
  | [] => ((x.1 + 2147483648) % 4294967296, (x.1 + 2147483648) % 4294967296)
  | _ :: _ => q_sh (q_base E x.2) x.1
noncomputable def q_ask (E : qEnv) (x : qI) (u : Nat) : qRes := match x.2 with
  | [] => q_no
  | _ :: _ => match q_find x.2 E with
    | some _ => q_sp x.2 ((u + (4294967296 - x.1 % 4294967296)) % 4294967296)
    | none => match q_find (q_neg x.2) E with
      | some _ => q_sp (q_neg x.2) ((4294967296 - (u + (4294967296 - x.1 % 4294967296)) % 4294967296 + 1) % 4294967296)
      | none => q_sp x.2 ((u + (4294967296 - x.1 % 4294967296)) % 4294967296)
noncomputable def q_lt (p q : Nat × Nat) : Option Bool := match Nat.blt p.2 q.1 with
  | true => some true
  | false => match Nat.ble q.2 p.1 with
    | true => some false
    | false => none
noncomputable def q_eq (p q : Nat × Nat) : Option Bool := match Nat.beq p.1 p.2 && (Nat.beq q.1 q.2 && Nat.beq p.1 q.1) with
  | true => some true
  | false => match Nat.blt p.2 q.1 || Nat.blt q.2 p.1 with
    | true => some false
    | false => none
noncomputable def q_not : Option Bool → Option Bool
  | some true => some false
  | some false => some true
  | none => none
/-- 0 eq, 1 ne, 2 lt, 3 ge, 4 gt, 5 le -/
noncomputable def q_cc (cc : Nat) (p q : Nat × Nat) : Option Bool := match cc with
  | 0 => q_eq p q
  | 1 => q_not (q_eq p q)
  | 2 => q_lt p q
  | 3 => q_not (q_lt p q)
  | 4 => q_lt q p
  | 5 => q_not (q_lt q p)
  | _ => none
/-- which cut settles x < y -/
noncomputable def q_askl (E : qEnv) (x y : qI) : qRes := match Nat.beq (q_iv E y).1 (q_iv E y).2 with
  | true => q_ask E x (q_iv E y).1
  | false => match Nat.beq (q_iv E x).1 (q_iv E x).2 with
    | true => q_ask E y ((q_iv E x).1 + 1)
    | false => q_no
/-- which cut settles x = y -/
noncomputable def q_aske (E : qEnv) (x y : qI) : qRes := match Nat.beq (q_iv E y).1 (q_iv E y).2 with
  | true => match Nat.blt (q_iv E x).1 (q_iv E y).1 with
    | true => q_ask E x (q_iv E y).1
    | false => q_ask E x ((q_iv E y).1 + 1)
  | false => match Nat.beq (q_iv E x).1 (q_iv E x).2 with
    | true => match Nat.blt (q_iv E y).1 (q_iv E x).1 with
      | true => q_ask E y (q_iv E x).1
      | false => q_ask E y ((q_iv E x).1 + 1)
    | false => q_no
noncomputable def q_askc (E : qEnv) (cc : Nat) (x y : qI) : qRes := match cc with
  | 0 => q_aske E x y
  | 1 => q_aske E x y
  | 2 => q_askl E x y
  | 3 => q_askl E x y
  | _ => q_askl E y x
noncomputable def q_nar (E : qEnv) (x : qI) : Bool := match x.2 with
  | [] => false
  | _ :: _ => Nat.ble ((q_iv E x).2 - (q_iv E x).1) 16
noncomputable def q_add1 (dc ds : Nat) : qRes → qRes
  | .inl (v, h, mc, ms) => .inl (v, h, dc + mc, ds + ms)
  | .inr (.inl (X, h, mc, ms)) => .inr (.inl (X, h, dc + mc, ds + ms))
  | .inr (.inr x) => .inr (.inr x)
noncomputable def q_add (dc ds : Nat) (r : qRes) : qRes := match dc with
  | 0 => match ds with
    | 0 => r
    | _ + 1 => q_add1 dc ds r
  | _ + 1 => q_add1 dc ds r
noncomputable def q_lng : qV → Bool
  | .inl _ => false
  | .inr (.inl _) => false
  | .inr (.inr _) => true
noncomputable def q_cat : List qV → Nat
  | [] => 0
  | v :: S => (match q_lng v with | true => 2 | false => 1) + q_cat S
noncomputable def q_sv (E : qEnv) (i : Nat) : qI := match q_find [(i, 1)] E with
  | some r => match Nat.beq r.1 r.2 with
    | true => ((r.1 + 2147483648) % 4294967296, [])
    | false => (0, [(i, 1)])
  | none => (0, [(i, 1)])
noncomputable def q_svk {α : Type} (E : qEnv) (i : Nat) (f : qI → α) : α := match q_find [(i, 1)] E with
  | some r => match Nat.beq r.1 r.2 with
    | true => q_fz ((r.1 + 2147483648) % 4294967296) fun c => f (c, [])
    | false => f (0, [(i, 1)])
  | none => f (0, [(i, 1)])
noncomputable def q_ix (E : qEnv) (x : qI) : Option (Nat × Nat) := match Nat.ble 2147483648 (q_iv E x).1 with
  | true => some ((q_iv E x).1 - 2147483648, (q_iv E x).2 - 2147483648)
  | false => none
noncomputable def q_all {α : Type} (p : α → Bool) (n : Nat) (l : List α) : Bool := List.rec (motive := fun _ => Nat → Bool) (fun n => Nat.rec (motive := fun _ => Bool) true (fun _ _ => false) n) (fun x _ ih n => Nat.rec (motive := fun _ => Bool) true (fun m _ => p x && ih m) n) l n
noncomputable def q_ieq (x y : qI) : Bool := Nat.beq x.1 y.1 && q_teq x.2 y.2
noncomputable def q_oeq : Option Nat → Option Nat → Bool
  | none, none => true
  | some i, some j => Nat.beq i j
  | none, some _ => false
  | some _, none => false
/-- the one element at all places l to u; none none: not all alike -/
noncomputable def q_rd {α : Type} (eq : α → α → Bool) (xs : List α) (l u : Nat) : Option (Option α) := match q_drop xs l with
  | [] => none
  | v :: r => match Nat.beq l u with
    | true => some (some v)
    | false => match q_nth xs u with
      | none => none
      | some _ => match q_all (eq v) (u - l) r with
        | true => some (some v)
        | false => some none
-- ===== the ops =====
noncomputable def qo_const : qOp := fun _ _ _ kk _ _ _ _ a _ _ K L S h => kk K L (.inl (a, []) :: S) h
noncomputable def qo_iload : qOp := fun _ _ _ kk _ _ _ _ a _ _ K L S h => match q_nth L a with
  | some (some (.inl x)) => kk K L (.inl x :: S) h
  | _ => q_no
noncomputable def qo_aload : qOp := fun _ _ _ kk _ _ _ _ a _ _ K L S h => match q_nth L a with
  | some (some (.inr (.inl r))) => kk K L (.inr (.inl r) :: S) h
  | _ => q_no
noncomputable def qo_istore : qOp := fun _ _ _ kk _ _ _ _ a _ _ K L S h => match S with
  | .inl x :: S' => kk K (q_set L a (some (.inl x))) S' h
  | _ => q_no
noncomputable def qo_astore : qOp := fun _ _ _ kk _ _ _ _ a _ _ K L S h => match S with
  | .inr (.inl r) :: S' => kk K (q_set L a (some (.inr (.inl r)))) S' h
  | _ => q_no
noncomputable def qo_iinc : qOp := fun _ _ _ kk _ _ _ _ a b _ K L S h => match q_nth L a with
  | some (some (.inl x)) => q_fz ((x.1 + b) % 4294967296) fun z => kk K (q_set L a (some (.inl (z, x.2)))) S h
  | _ => q_no
noncomputable def q_isc : qT → Bool
  | [] => true
  | _ :: _ => false
noncomputable def qo_add : qOp := fun _ E _ kk _ _ _ _ _ _ _ K L S h => match S with
  | .inl y :: .inl x :: S' => match q_isc x.2 || q_isc y.2 with
    | true => q_fz ((x.1 + y.1) % 4294967296) fun z => kk K L (.inl (z, x.2 ++ y.2) :: S') h
    | false => match q_nar E y with
      | true => q_ask E y ((q_iv E y).1 + 1)
      | false => match q_nar E x with
        | true => q_ask E x ((q_iv E x).1 + 1)
        | false => kk K L (.inl ((x.1 + y.1) % 4294967296, x.2 ++ y.2) :: S') h
  | _ => q_no
noncomputable def qo_sub : qOp := fun _ _ _ kk _ _ _ _ _ _ _ K L S h => match S with
  | .inl y :: .inl x :: S' => q_fz ((x.1 + (4294967296 - y.1 % 4294967296)) % 4294967296) fun z => kk K L (.inl (z, x.2 ++ q_neg y.2) :: S') h
  | _ => q_no
noncomputable def qo_mul : qOp := fun _ E _ kk _ _ _ _ _ _ _ K L S h => match S with
  | .inl y :: .inl x :: S' => match q_isc y.2 with
    | true => kk K L (.inl (x.1 * y.1 % 4294967296, q_scale y.1 x.2) :: S') h
    | false => match q_isc x.2 with
      | true => kk K L (.inl (x.1 * y.1 % 4294967296, q_scale x.1 y.2) :: S') h
      | false => match q_nar E y with
        | true => q_ask E y ((q_iv E y).1 + 1)
        | false => match q_nar E x with
          | true => q_ask E x ((q_iv E x).1 + 1)
          | false => q_no
  | _ => q_no
noncomputable def qo_and : qOp := fun _ _ _ kk _ _ _ _ _ _ _ K L S h => match S with
  | .inl y :: .inl x :: S' => match q_isc x.2 && q_isc y.2 with
    | true => kk K L (.inl (Nat.land x.1 y.1, []) :: S') h
    | false => match q_ieq x (0, [(1, 1)]) && q_ieq y (31, []) with
      | true => kk K L (.inl (0, [(9, 1)]) :: S') h
      | false => q_no
  | _ => q_no
noncomputable def q_bin (f : Nat → Nat → Nat) : qOp := fun _ _ _ kk _ _ _ _ _ _ _ K L S h => match S with
  | .inl y :: .inl x :: S' => match q_isc x.2 && q_isc y.2 with
    | true => kk K L (.inl (f x.1 y.1, []) :: S') h
    | false => q_no
  | _ => q_no
noncomputable def qo_or : qOp := q_bin Nat.lor
noncomputable def qo_xor : qOp := q_bin Nat.xor
noncomputable def qo_shl : qOp := q_bin (fun x y => Nat.shiftLeft x (y % 32) % 4294967296)
noncomputable def qo_rem : qOp := fun _ _ _ kk _ _ _ _ _ _ _ K L S h => match S with
  | .inl y :: .inl x :: S' => match q_isc x.2 && (q_isc y.2 && (Nat.blt x.1 2147483648 && (Nat.blt y.1 2147483648 && Nat.blt 0 y.1))) with
    | true => kk K L (.inl (x.1 % y.1, []) :: S') h
    | false => q_no
  | _ => q_no
noncomputable def qo_null : qOp := fun _ _ _ kk _ _ _ _ _ _ _ K L S h => kk K L (.inr (.inl none) :: S) h
noncomputable def qo_dup : qOp := fun _ _ _ kk _ _ _ _ _ _ _ K L S h => match S with
  | [] => q_no
  | v :: S' => match q_lng v with
    | true => q_no
    | false => kk K L (v :: v :: S') h
noncomputable def qo_pop : qOp := fun _ _ _ kk _ _ _ _ _ _ _ K L S h => match S with
  | [] => q_no
  | v :: S' => match q_lng v with
    | true => q_no
    | false => kk K L S' h
noncomputable def q_br (E : qEnv) (kk : qKk) (R : List qRow) (cc t : Nat) (x y : qI) (K : List qRow) (L : qL) (S : List qV) (h : qHp) : qRes := match q_cc cc (q_iv E x) (q_iv E y) with
  | some true => kk (q_drop R t) L S h
  | some false => kk K L S h
  | none => q_askc E cc x y
noncomputable def qo_if : qOp := fun _ E _ kk _ R _ _ a b _ K L S h => match S with
  | .inl x :: S' => q_br E kk R a b x (0, []) K L S' h
  | _ => q_no
noncomputable def qo_icmp : qOp := fun _ E _ kk _ R _ _ a b _ K L S h => match S with
  | .inl y :: .inl x :: S' => q_br E kk R a b x y K L S' h
  | _ => q_no
noncomputable def qo_ifnull : qOp := fun _ _ _ kk _ R _ _ a _ _ K L S h => match S with
  | .inr (.inl none) :: S' => kk (q_drop R a) L S' h
  | .inr (.inl (some _)) :: S' => kk K L S' h
  | _ => q_no
noncomputable def qo_ifnonnull : qOp := fun _ _ _ kk _ R _ _ a _ _ K L S h => match S with
  | .inr (.inl none) :: S' => kk K L S' h
  | .inr (.inl (some _)) :: S' => kk (q_drop R a) L S' h
  | _ => q_no
noncomputable def qo_acmpeq : qOp := fun _ _ _ kk _ R _ _ a _ _ K L S h => match S with
  | .inr (.inl y) :: .inr (.inl x) :: S' => match q_oeq x y with
    | true => kk (q_drop R a) L S' h
    | false => kk K L S' h
  | _ => q_no
noncomputable def qo_acmpne : qOp := fun _ _ _ kk _ R _ _ a _ _ K L S h => match S with
  | .inr (.inl y) :: .inr (.inl x) :: S' => match q_oeq x y with
    | true => kk K L S' h
    | false => kk (q_drop R a) L S' h
  | _ => q_no
noncomputable def qo_goto : qOp := fun _ _ _ kk _ R _ _ a _ _ _ L S h => kk (q_drop R a) L S h
noncomputable def qo_getf : qOp := fun _ _ _ kk _ _ _ _ a b _ K L S h => match S with
  | .inr (.inl (some (r + 1))) :: S' => match q_nth h.2 r with
    | some (.inr o) => match Nat.beq o.1 a with
      | true => match q_nth o.2 b with
        | some v => kk K L (v :: S') h
        | none => q_no
      | false => q_no
    | _ => q_no
  | _ => q_no
/-- a value fits a field: 0 int, 1 boolean, 2 a reference -/
noncomputable def q_fit (tc : Nat) (v : qV) : Bool := match v with
  | .inl x => match tc with
    | 0 => true
    | 1 => q_isc x.2 && Nat.blt x.1 2
    | _ => false
  | .inr (.inl _) => Nat.beq tc 2
  | .inr (.inr _) => false
noncomputable def qo_putf : qOp := fun _ _ _ kk _ _ _ _ a b c K L S h => match S with
  | v :: .inr (.inl (some (r + 1))) :: S' => match q_nth h.2 r with
    | some (.inr o) => match Nat.beq o.1 a && (q_fit (c % 4) v && q_has o.2 b) with
      | true => kk K L S' (h.1, q_set h.2 r (.inr (o.1, q_set o.2 b v)))
      | false => q_no
    | _ => q_no
  | _ => q_no
noncomputable def q_len : List qI ⊕ (List Nat ⊕ List (Option Nat)) → Nat
  | .inl l => l.length
  | .inr (.inl l) => l.length
  | .inr (.inr l) => l.length
noncomputable def q_lenf : List qI ⊕ (List Nat ⊕ List (Option Nat)) → Nat
  | .inl l => q_ln l
  | .inr (.inl l) => q_ln l
  | .inr (.inr l) => q_ln l
noncomputable def qo_alen : qOp := fun _ E _ kk _ _ _ _ _ _ _ K L S h => match S with
  | .inr (.inl (some 0)) :: S' => q_svk E 0 fun z => kk K L (.inl z :: S') h
  | .inr (.inl (some (r + 1))) :: S' => match q_nth h.2 r with
    | some (.inl o) => match Nat.blt (q_lenf o.2) 2147483648 && Nat.blt o.1 7 with
      | true => q_fz (q_lenf o.2) fun z => kk K L (.inl (z, []) :: S') h
      | false => q_no
    | _ => q_no
  | _ => q_no
noncomputable def qo_iald : qOp := fun _ E _ kk _ _ _ _ _ _ _ K L S h => match S with
  | .inl x :: .inr (.inl (some 0)) :: S' => match q_ix E x with
    | some p => match Nat.beq p.1 p.2 && (Nat.blt p.1 8 && Nat.blt (p.1 + 2147483648) (q_iv E (0, [(0, 1)])).1) with
      | true => q_fz p.1 fun i => q_svk E (i + 1) fun z => kk K L (.inl z :: S') h
      | false => q_no
    | none => q_no
  | .inl x :: .inr (.inl (some (r + 1))) :: S' => match q_nth h.2 r with
    | some (.inl (0, .inl l)) => match q_ix E x with
      | some p => match q_rd q_ieq l p.1 p.2 with
        | some (some v) => kk K L (.inl v :: S') h
        | some none => q_ask E x ((q_iv E x).1 + 1)
        | none => q_no
      | none => q_no
    | _ => q_no
  | _ => q_no
noncomputable def qo_iast : qOp := fun _ E _ kk _ _ _ _ _ _ _ K L S h => match S with
  | .inl v :: .inl x :: .inr (.inl (some (r + 1))) :: S' => match q_nth h.2 r with
    | some (.inl (0, .inl l)) => match q_ix E x with
      | some p => match Nat.beq p.1 p.2 with
        | true => match q_has l p.1 with
          | true => q_fz p.1 fun i => kk K L S' (h.1, q_set h.2 r (.inl (0, .inl (q_set l i v))))
          | false => q_no
        | false => q_ask E x ((q_iv E x).1 + 1)
      | none => q_no
    | _ => q_no
  | _ => q_no
noncomputable def qo_lald : qOp := fun _ E _ kk _ _ _ _ _ _ _ K L S h => match S with
  | .inl x :: .inr (.inl (some (r + 1))) :: S' => match q_nth h.2 r with
    | some (.inl (1, .inr (.inl l))) => match q_ix E x with
      | some p => match Nat.beq p.1 p.2 with
        | true => match q_nth l p.1 with
          | some v => kk K L (.inr (.inr v) :: S') h
          | none => q_no
        | false => q_no
      | none => q_no
    | _ => q_no
  | _ => q_no
noncomputable def qo_last : qOp := fun _ E _ kk _ _ _ _ _ _ _ K L S h => match S with
  | .inr (.inr v) :: .inl x :: .inr (.inl (some (r + 1))) :: S' => match q_nth h.2 r with
    | some (.inl (1, .inr (.inl l))) => match q_ix E x with
      | some p => match Nat.beq p.1 p.2 && q_has l p.1 with
        | true => q_fz p.1 fun i => kk K L S' (h.1, q_set h.2 r (.inl (1, .inr (.inl (q_set l i v)))))
        | false => q_no
      | none => q_no
    | _ => q_no
  | _ => q_no
noncomputable def qo_aald : qOp := fun _ E _ kk _ _ _ _ _ _ _ K L S h => match S with
  | .inl x :: .inr (.inl (some (r + 1))) :: S' => match q_nth h.2 r with
    | some (.inl (t, .inr (.inr l))) => match q_ix E x with
      | some p => match Nat.blt 1 t && Nat.blt t 6 with
        | true => match q_rd q_oeq l p.1 p.2 with
          | some (some v) => kk K L (.inr (.inl v) :: S') h
          | some none => q_ask E x ((q_iv E x).1 + 1)
          | none => q_no
        | false => q_no
      | none => q_no
    | _ => q_no
  | _ => q_no
/-- the class of the elements of the reference arrays, by their type's place -/
noncomputable def q_elem (t : Nat) : Nat := match t with
  | 2 => 1
  | 3 => 7
  | 4 => 2
  | 5 => 3
  | _ => 99
noncomputable def q_isE (h : List qC) (t : Nat) (v : Option Nat) : Bool := match v with
  | some (r + 1) => match q_nth h r with
    | some (.inr o) => Nat.beq o.1 (q_elem t)
    | _ => false
  | some 0 => false
  | none => Nat.blt 1 t && Nat.blt t 6
noncomputable def qo_aast : qOp := fun _ E _ kk _ _ _ _ _ _ _ K L S h => match S with
  | .inr (.inl v) :: .inl x :: .inr (.inl (some (r + 1))) :: S' => match q_nth h.2 r with
    | some (.inl (t, .inr (.inr l))) => match q_ix E x with
      | some p => match q_isE h.2 t v && q_has l p.1 with
        | true => match Nat.beq p.1 p.2 with
          | true => q_fz p.1 fun i => kk K L S' (h.1, q_set h.2 r (.inl (t, .inr (.inr (q_set l i v)))))
          | false => q_ask E x ((q_iv E x).1 + 1)
        | false => q_no
      | none => q_no
    | _ => q_no
  | _ => q_no
noncomputable def qo_newa : qOp := fun _ _ _ kk _ _ _ _ a _ _ K L S h => match S with
  | .inl n :: S' => match q_isc n.2 && (h.1 && Nat.blt n.1 65536) with
    | true => match a with
      | 0 => q_add 1 n.1 (kk K L (.inr (.inl (some (h.2.length + 1))) :: S') (true, h.2 ++ [.inl (0, .inl (List.replicate n.1 (0, [])))]))
      | 1 => q_add 1 n.1 (kk K L (.inr (.inl (some (h.2.length + 1))) :: S') (true, h.2 ++ [.inl (1, .inr (.inl (List.replicate n.1 0)))]))
      | _ => q_no
    | false => q_no
  | _ => q_no
noncomputable def qo_anew : qOp := fun _ _ _ kk _ _ _ _ a _ _ K L S h => match S with
  | .inl n :: S' => match q_isc n.2 && (h.1 && Nat.blt n.1 65536) with
    | true => q_add 1 n.1 (kk K L (.inr (.inl (some (h.2.length + 1))) :: S') (true, h.2 ++ [.inl (a, .inr (.inr (List.replicate n.1 none)))]))
    | false => q_no
  | _ => q_no
noncomputable def qo_multi : qOp := fun _ _ _ kk _ _ _ _ _ _ _ K L S h => match S with
  | .inl k :: .inl n :: S' => match q_isc n.2 && (q_isc k.2 && (h.1 && (Nat.blt n.1 65536 && Nat.blt k.1 65536))) with
    | true => q_add (1 + n.1) (n.1 + n.1 * k.1) (kk K L (.inr (.inl (some (h.2.length + 1))) :: S') (true, (h.2 ++ [.inl (6, .inr (.inr ((List.range n.1).map (fun i => some (h.2.length + 2 + i)))))]) ++ List.replicate n.1 (.inl (0, .inl (List.replicate k.1 (0, []))))))
    | false => q_no
  | _ => q_no
/-- the default values of an object's fields, by type codes 0 int, 1 boolean, 2 a reference -/
noncomputable def q_dv (tc : Nat) : qV := match tc with
  | 2 => .inr (.inl none)
  | _ => .inl (0, [])
noncomputable def q_fty : List (List Nat) := [[2, 2, 0, 0, 0, 0], [2, 0, 0, 0, 0, 0, 0], [0, 0, 0, 2], [0, 2, 0], [2, 2], [2, 0], [2, 2, 2, 0, 1], [2, 1, 0, 0], [0, 0], [2, 2, 2, 2, 0, 2, 2, 0, 0, 2, 2, 2, 2], [2, 2, 2, 2, 2, 0, 2, 2, 0, 2, 2, 2, 2, 2, 2, 2, 2, 2, 0, 1, 2, 2, 2, 0, 0, 0, 0, 2, 2, 2, 0, 2, 2, 2, 2, 2]]
noncomputable def qo_new : qOp := fun _ _ _ kk _ _ _ _ a _ _ K L S h => match h.1 with
  | true => match q_nth q_fty a with
    | some l => q_add 1 l.length (kk K L (.inr (.inl (some (h.2.length + 1))) :: S) (true, h.2 ++ [.inr (a, l.map q_dv)]))
    | none => q_no
  | false => q_no
noncomputable def qo_objinit : qOp := fun _ _ _ kk d _ _ _ _ _ _ K L S h => match S with
  | .inr (.inl (some _)) :: S' => match Nat.ble (q_cat S') 8 && Nat.blt 0 d with
    | true => kk K L S' h
    | false => q_no
  | _ => q_no
noncomputable def q_pop : Nat → List qV → List qV → Option (List qV × List qV)
  | 0, S, acc => some (acc, S)
  | _ + 1, [], _ => none
  | n + 1, v :: S, acc => match q_lng v with
    | true => none
    | false => q_pop n S (v :: acc)
noncomputable def q_loc (nL : Nat) (args : List qV) : qL := args.map some ++ List.replicate (nL - args.length) none
noncomputable def q_hd : List qHd → Nat → Nat → Option Nat
  | [], _, _ => none
  | x :: l, pc, X => match Nat.ble x.1 pc && (Nat.blt pc x.2.1 && Nat.beq x.2.2.2 X) with
    | true => some x.2.2.1
    | false => q_hd l pc X
noncomputable def q_after (kk : qKk) (R : List qRow) (hs : List qHd) (pc : Nat) (K : List qRow) (L : qL) (S : List qV) (r : qRes) : qRes := match r with
  | .inl (some v, h', mc, ms) => q_add mc ms (kk K L (v :: S) h')
  | .inl (none, h', mc, ms) => q_add mc ms (kk K L S h')
  | .inr (.inl (X, h', mc, ms)) => match hs with
    | [] => .inr (.inl (X, h', mc, ms))
    | _ :: _ => match q_hd hs pc X with
      | none => q_no
      | some t => match q_drop R t with
        | (_, 50, a', _, _, _, _) :: K' => q_add mc ms (kk K' (q_set L a' none) [] h')
        | _ => q_no
  | .inr (.inr x) => .inr (.inr x)
noncomputable def qo_callr : qOp := fun P _ ih kk d R hs pc a b _ K L S h => match d with
  | 0 => q_no
  | d' + 1 => match q_nth P a with
    | none => q_no
    | some M => match q_pop (b % 32 + 1) S [] with
      | some (.inr (.inl (some (r + 1))) :: As, S') => match q_nth h.2 r with
        | some (.inr o) => match Nat.beq o.1 (b / 32) && (Nat.ble (q_cat S') 8 && Nat.blt As.length M.1) with
          | true => q_after kk R hs pc K L S' (ih d' M.2.1 M.2.2 M.2.1 (q_loc M.1 (.inr (.inl (some (r + 1))) :: As)) [] h)
          | false => q_no
        | _ => q_no
      | _ => q_no
noncomputable def qo_calls : qOp := fun P _ ih kk d R hs pc a b _ K L S h => match d with
  | 0 => q_no
  | d' + 1 => match q_nth P a with
    | none => q_no
    | some M => match q_pop b S [] with
      | some (As, S') => match Nat.ble (q_cat S') 8 && Nat.ble As.length M.1 with
        | true => q_after kk R hs pc K L S' (ih d' M.2.1 M.2.2 M.2.1 (q_loc M.1 As) [] h)
        | false => q_no
      | none => q_no
noncomputable def qo_iret : qOp := fun _ _ _ _ _ _ _ _ a _ _ _ _ S h => match S with
  | [.inl x] => match a with
    | 0 => .inl (some (.inl x), h, 0, 0)
    | 1 => match q_isc x.2 && Nat.blt x.1 2 with
      | true => .inl (some (.inl x), h, 0, 0)
      | false => q_no
    | _ => q_no
  | _ => q_no
noncomputable def qo_aret : qOp := fun _ _ _ _ _ _ _ _ _ _ _ _ _ S h => match S with
  | [.inr (.inl r)] => .inl (some (.inr (.inl r)), h, 0, 0)
  | _ => q_no
noncomputable def qo_vret : qOp := fun _ _ _ _ _ _ _ _ _ _ _ _ _ S h => match S with
  | [] => .inl (none, h, 0, 0)
  | _ => q_no
noncomputable def qo_throw : qOp := fun _ _ _ _ d _ hs _ a _ _ _ _ S h => match Nat.ble 6 d && Nat.ble (q_cat S) 8 with
  | true => match hs with
    | [] => .inr (.inl (a, (false, h.2), 1, 6))
    | _ :: _ => q_no
  | false => q_no
noncomputable def qo_switch (sw : List Nat) : qOp := fun _ E _ kk _ R _ _ _ b _ _ L S h => match S with
  | .inl x :: S' => match q_ix E x with
    | some p => match Nat.beq p.1 p.2 with
      | true => match q_nth sw p.1 with
        | some t => kk (q_drop R t) L S' h
        | none => kk (q_drop R b) L S' h
      | false => q_ask E x ((q_iv E x).1 + 1)
    | none => q_no
  | _ => q_no
noncomputable def qo_i2l : qOp := fun _ _ _ kk _ _ _ _ _ _ _ K L S h => match S with
  | .inl x :: S' => match q_isc x.2 with
    | true => kk K L (.inr (.inr x.1) :: S') h
    | false => q_no
  | _ => q_no
noncomputable def qo_lcmp : qOp := fun _ _ _ kk _ _ _ _ _ _ _ K L S h => match S with
  | .inr (.inr y) :: .inr (.inr x) :: S' => match Nat.beq x y with
    | true => kk K L (.inl (0, []) :: S') h
    | false => q_no
  | _ => q_no
noncomputable def qo_lconst : qOp := fun _ _ _ kk _ _ _ _ a _ _ K L S h => kk K L (.inr (.inr a) :: S) h
noncomputable def qo_bad : qOp := fun _ _ _ _ _ _ _ _ _ _ _ _ _ _ _ => q_no
