/-! WHAT A ROW MUST BE: its bytes, the words of the tables that it needs -/
abbrev qInf : Type := MethodName × ByteArray × Option FieldType × List (Nat × Nat × Nat × Nat) × Nat × Nat × Nat × Nat
noncomputable def q_TBL : List Jvm.Cond := lw_tbl.filter goodWord
noncomputable def q_w (j : Nat) (w : Jvm.Cond) : Bool := decide (lw_tbl[j]? = some w) && goodWord w
noncomputable def q_ini : List Nat := [76, 77, 92, 89, 80, 82, 79, 78, 81, 75, 83, 87, 91, 88]
noncomputable def q_exc : List String := ["java/lang/IndexOutOfBoundsException", "java/lang/IllegalArgumentException", "java/lang/IllegalStateException"]
noncomputable def q_nests : List (String × Nat × MethodName) := [("Treebark", 39, ⟨"Treebark$Stream", "<init>", "()V"⟩), ("Treebark", 55, ⟨"Treebark$Places", "<init>", "()V"⟩), ("Treebark", 66, ⟨"Treebark$Weight", "<init>", "()V"⟩), ("Treebark", 76, ⟨"Treebark$Root", "<init>", "()V"⟩), ("Treebark$Disks", 34, ⟨"Treebark$Extent", "<init>", "()V"⟩), ("Treebark", 383, ⟨"Treebark$Tree", "<init>", "()V"⟩), ("Treebark$Node", 9, ⟨"Treebark$Places", "<init>", "()V"⟩)]
noncomputable def q_tys : List FieldType := [.int, .long, .object "Treebark$Extent", .object "Treebark$Tree", .object "Treebark$Logged", .object "Treebark$Node", .array .int]
noncomputable def q_tc (t : FieldType) : Nat := match t with
  | .int => 0
  | .boolean => 1
  | .object _ => 2
  | .array _ => 2
  | _ => 9
noncomputable def q_nx (pc len : Nat) (K : List qRow) : Bool := match K with
  | [] => true
  | x :: _ => Nat.beq x.1 (pc + len)
noncomputable def q_tg (R : List qRow) (t pc : Nat) (off : Int) : Bool := match q_drop R t with
  | [] => false
  | x :: _ => decide ((pc : Int) + off = (x.1 : Int))
noncomputable def q_ccI (c : ClassFile.Cond) : Nat := match c with
  | .eq => 0
  | .ne => 1
  | .lt => 2
  | .ge => 3
  | .gt => 4
  | .le => 5
noncomputable def q_np (y : MethodName) (n : Nat) : Bool := decide ((parseMethodDescriptor y.desc).map (fun d => d.parameters.length) = some n)
noncomputable def q_names : List String := ["java/lang/RuntimeException", "java/lang/Exception"]
noncomputable def q_decl : List MethodName := [⟨"java/lang/RuntimeException", "<init>", "()V"⟩, ⟨"java/lang/Exception", "<init>", "()V"⟩, ⟨"java/lang/Throwable", "<init>", "()V"⟩]
/-- the words of a throw, those of its own that aren't good apart -/
noncomputable def q_thr (own : String) (ic : Nat) (X : String) : Bool := ((vx_at0 own ic X q_names).filter goodWord).all (fun w => decide (w ∈ lw_tbl)) && ((vx_at0 own ic X q_names).filter (fun w => !goodWord w)).all (fun w => decide (w = .castable X X) || q_decl.any (fun y => decide (w = .declares y))) && (vx_at0 own ic X q_names).all vx_ot
noncomputable def q_opok (P : List qM) (I : List qInf) (sw : List Nat) (own nm : String) (cc : ByteArray) (nL : Nat) (ret : Option FieldType) (R : List qRow) (K : List qRow) (pc op a b c : Nat) (ins : Instr) (len : Nat) : Bool := match op with
  | 0 => q_nx pc len K && (match ins with
    | .iconst n => Nat.beq len 1 && decide (Int32.ofInt n = nI a)
    | .bipush n => Nat.beq len 2 && decide ((Int8.ofInt n).toInt32 = nI a)
    | .sipush n => Nat.beq len 3 && decide ((Int16.ofInt n).toInt32 = nI a)
    | _ => false)
  | 1 => q_nx pc len K && (match ins with
    | .iload_n k => Nat.beq len 1 && Nat.beq k.val a
    | .iload k => Nat.beq len 2 && Nat.beq k a
    | _ => false)
  | 2 => q_nx pc len K && (Nat.blt a nL && (match ins with
    | .istore_n k => Nat.beq len 1 && Nat.beq k.val a
    | .istore k => Nat.beq len 2 && Nat.beq k a
    | _ => false))
  | 3 => q_nx pc len K && (Nat.blt a nL && (match ins with
    | .iinc i n => Nat.beq len 3 && (Nat.beq i a && decide (Int32.ofInt n = nI b))
    | _ => false))
  | 4 => q_nx pc len K && (Nat.beq len 1 && decide (ins = .iadd))
  | 5 => q_nx pc len K && (Nat.beq len 1 && decide (ins = .isub))
  | 6 => q_nx pc len K && (Nat.beq len 1 && decide (ins = .imul))
  | 7 => q_nx pc len K && (Nat.beq len 1 && decide (ins = .iand))
  | 8 => q_nx pc len K && (Nat.beq len 1 && decide (ins = .ior))
  | 9 => q_nx pc len K && (Nat.beq len 1 && decide (ins = .ixor))
  | 10 => q_nx pc len K && (Nat.beq len 1 && decide (ins = .ishl))
  | 11 => q_nx pc len K && (Nat.beq len 1 && decide (ins = .aconst_null))
  | 12 => q_nx pc len K && (Nat.beq len 1 && decide (ins = .dup))
  | 13 => q_nx pc len K && (Nat.beq len 1 && decide (ins = .pop))
  | 14 => q_nx pc len K && (match ins with
    | .ifCond cd off => Nat.beq len 3 && (Nat.beq (q_ccI cd) a && q_tg R b pc off)
    | _ => false)
  | 15 => q_nx pc len K && (match ins with
    | .if_icmp cd off => Nat.beq len 3 && (Nat.beq (q_ccI cd) a && q_tg R b pc off)
    | _ => false)
  | 16 => q_nx pc len K && (match ins with
    | .ifnull off => Nat.beq len 3 && q_tg R a pc off
    | _ => false)
  | 17 => q_nx pc len K && (match ins with
    | .ifnonnull off => Nat.beq len 3 && q_tg R a pc off
    | _ => false)
  | 18 => q_nx pc len K && (match ins with
    | .if_acmp .eq off => Nat.beq len 3 && q_tg R a pc off
    | _ => false)
  | 19 => q_nx pc len K && (match ins with
    | .if_acmp .ne off => Nat.beq len 3 && q_tg R a pc off
    | _ => false)
  | 20 => match ins with
    | .goto off => Nat.beq len 3 && q_tg R a pc off
    | _ => false
  | 21 => q_nx pc len K && (match ins with
    | .getfield idx => Nat.beq len 3 && (match q_nth vwCl a with
      | some (C, T, N) => Nat.blt b N && q_w c (.fieldLink own idx (T b).1 (T b).2.1 (T b).2.2.1)
      | none => false)
    | _ => false)
  | 22 => q_nx pc len K && (match ins with
    | .putfield idx => Nat.beq len 3 && (match q_nth vwCl a with
      | some (C, T, N) => Nat.blt b N && (q_w (c / 4) (.fieldLink own idx (T b).1 (T b).2.1 (T b).2.2.1) && (match parseFieldDescriptor (T b).2.2.1 with
        | some ty => Nat.beq (q_tc ty) (c % 4) && (!(T b).2.2.2 || (decide ((T b).1 = own) && decide (nm = "<init>")))
        | none => false))
      | none => false)
    | _ => false)
  | 23 => q_nx pc len K && (Nat.beq len 1 && decide (ins = .arraylength))
  | 24 => q_nx pc len K && (Nat.beq len 1 && decide (ins = .iaload))
  | 25 => q_nx pc len K && (Nat.beq len 1 && decide (ins = .iastore))
  | 26 => q_nx pc len K && (Nat.beq len 1 && decide (ins = .laload))
  | 27 => q_nx pc len K && (Nat.beq len 1 && decide (ins = .lastore))
  | 28 => q_nx pc len K && (Nat.beq len 1 && decide (ins = .aaload))
  | 29 => q_nx pc len K && (Nat.beq len 1 && decide (ins = .aastore))
  | 30 => q_nx pc len K && (Nat.beq len 2 && (match a with
    | 0 => decide (ins = .newarray .int) && q_w b (.arrayClass .int)
    | 1 => decide (ins = .newarray .long) && q_w b (.arrayClass .long)
    | _ => false))
  | 31 => q_nx pc len K && (match ins with
    | .anewarray idx => Nat.beq len 3 && (Nat.blt 1 a && (Nat.blt a 6 && (match q_nth q_tys a with
      | some (.object C) => q_w b (.classLink own idx C)
      | _ => false)))
    | _ => false)
  | 32 => q_nx pc len K && (match ins with
    | .multianewarray idx dim => Nat.beq len 4 && (Nat.beq dim 2 && (q_w b (.classLink own idx "[[I") && q_w c (.arrayClass .int)))
    | _ => false)
  | 33 => q_nx pc len K && (match ins with
    | .new idx => Nat.beq len 3 && (match q_nth vwCl a with
      | some (C, T, N) => match q_nth q_fty a with
        | some fl => match q_nth q_ini a with
          | some ji => decide ((List.range N).map (fun k => (parseFieldDescriptor (T k).2.2.1).map q_tc) = fl.map some) && (q_w b (.classLink own idx C) && (q_w c (.instantiable C N) && q_w ji (.initialized C)))
          | none => false
        | none => false
      | none => false)
    | _ => false)
  | 34 => q_nx pc len K && (match ins with
    | .invokespecial idx => Nat.beq len 3 && (q_w c (.methodLink own idx objectInit) && (q_w a (.instanceMethod objectInit) && q_w b (.code objectInit ⟨#[0xb1]⟩ 1 none)))
    | _ => false)
  | 35 => q_nx pc len K && (match ins with
    | .invokevirtual idx => Nat.beq len 3 && (match q_nth I a with
      | some (y, cy, ry, hy, j1, j2, j3, j4) => hy.isEmpty && (match q_nth vwCl (b / 32) with
        | some (C, _, _) => decide (C = y.cls) && (q_np y (b % 32) && (q_w c (.methodLink own idx y) && (q_w j2 (.instanceMethod y) && (q_w j3 (.selects y.cls y y) && q_w j4 (.initialized y.cls)))))
        | none => false)
      | none => false)
    | _ => false)
  | 36 => q_nx pc len K && (match ins with
    | .invokestatic idx => Nat.beq len 3 && (match q_nth I a with
      | some (y, cy, ry, hy, j1, j2, j3, j4) => hy.isEmpty && (q_np y b && (q_w c (.methodLink own idx y) && (q_w j2 (.static y) && q_w j4 (.initialized y.cls))))
      | none => false)
    | _ => false)
  | 37 => q_nx pc len K && (match ins with
    | .invokespecial idx => Nat.beq len 3 && (match q_nth I a with
      | some (y, cy, ry, hy, j1, j2, j3, j4) => hy.isEmpty && (decide (y.name = "<init>") && (decide (ry = none) && (q_np y (b % 32) && (q_w c (.methodLink own idx y) && (q_w j2 (.instanceMethod y) && q_w j4 (.initialized y.cls))))))
      | none => false)
    | _ => false)
  | 38 => q_nx pc len K && (match ins with
    | .invokespecial idx => Nat.beq len 3 && (match q_nth I a with
      | some (y, cy, ry, hy, j1, j2, j3, j4) => hy.isEmpty && (decide (y.name = "<init>") && (decide (ry = none) && (q_np y (b % 32) && (decide (q_nth q_nests c = some (own, idx, y)) && (q_w j2 (.instanceMethod y) && q_w j4 (.initialized y.cls))))))
      | none => false)
    | _ => false)
  | 39 => q_nx pc len K && (match ins with
    | .invokestatic idx => Nat.beq len 3 && (match q_nth I a with
      | some (y, cy, ry, hy, j1, j2, j3, j4) => !hy.isEmpty && (q_np y b && (q_w c (.methodLink own idx y) && (q_w j2 (.static y) && q_w j4 (.initialized y.cls))))
      | none => false)
    | _ => false)
  | 40 => Nat.beq len 1 && (decide (ins = .ireturn) && (match a with
    | 0 => decide (ret = some .int)
    | 1 => decide (ret = some .boolean)
    | _ => false))
  | 41 => Nat.beq len 1 && (decide (ins = .areturn) && (match ret with
    | some (.object _) => true
    | some (.array _) => true
    | _ => false))
  | 42 => Nat.beq len 1 && (decide (ins = .return_) && decide (ret = none))
  | 43 => match ins with
    | .new ik => Nat.beq len 3 && (match q_nth q_exc a with
      | some X => match q_nth q_ini (11 + a) with
        | some ji => decide (decode cc (pc + 3) = .ok (.dup, 1)) && (decide (decode cc (pc + 4) = .ok (.invokespecial c, 3)) && (decide (decode cc (pc + 7) = .ok (.athrow, 1)) && (q_w b (.classLink own ik X) && (q_w ji (.initialized X) && q_thr own c X))))
        | none => false
      | none => false)
    | _ => false
  | 44 => match ins with
    | .tableswitch dflt lo hi offs => decide (lo = 0) && (decide (hi = 30) && (q_tg R b pc dflt && (decide (sw.length = 31) && (List.range 31).all (fun k => match q_nth sw k with
      | some t => match offs[k]? with
        | some off => q_tg R t pc off
        | none => false
      | none => false))))
    | _ => false
  | 45 => q_nx pc len K && (Nat.beq len 1 && decide (ins = .i2l))
  | 46 => q_nx pc len K && (Nat.beq len 1 && decide (ins = .lcmp))
  | 47 => q_nx pc len K && (Nat.beq len 1 && (match ins with
    | .lconst k => Nat.beq k.val a
    | _ => false))
  | 48 => q_nx pc len K && (Nat.beq len 1 && decide (ins = .irem))
  | 49 => q_nx pc len K && (match ins with
    | .aload_n k => Nat.beq len 1 && Nat.beq k.val a
    | .aload k => Nat.beq len 2 && Nat.beq k a
    | _ => false)
  | 50 => q_nx pc len K && (Nat.blt a nL && (match ins with
    | .astore_n k => Nat.beq len 1 && Nat.beq k.val a
    | .astore k => Nat.beq len 2 && Nat.beq k a
    | _ => false))
  | _ => true
noncomputable def q_rok (P : List qM) (I : List qInf) (sw : List Nat) (own nm : String) (cc : ByteArray) (nL : Nat) (ret : Option FieldType) (R : List qRow) (r : qRow) (K : List qRow) : Bool := match Nat.blt r.2.1 51 with
  | true => decide (decode cc r.1 = .ok (r.2.2.2.2.2.1, r.2.2.2.2.2.2)) && q_opok P I sw own nm cc nL ret R K r.1 r.2.1 r.2.2.1 r.2.2.2.1 r.2.2.2.2.1 r.2.2.2.2.2.1 r.2.2.2.2.2.2
  | false => true
noncomputable def q_roks (P : List qM) (I : List qInf) (sw : List Nat) (own nm : String) (cc : ByteArray) (nL : Nat) (ret : Option FieldType) (R : List qRow) : List qRow → Bool
  | [] => true
  | r :: K => q_rok P I sw own nm cc nL ret R r K && q_roks P I sw own nm cc nL ret R K
/-- the handlers: those of the evaluator beside those of the file -/
noncomputable def q_hok (own : String) (R : List qRow) : List qHd → List (Nat × Nat × Nat × Nat) → List Nat → Bool
  | [], [], _ => true
  | x :: l, y :: m, j :: js => Nat.beq x.1 y.1 && (Nat.beq x.2.1 y.2.1 && ((match q_drop R x.2.2.1 with
    | r :: _ => Nat.beq r.1 y.2.2.1
    | [] => false) && ((match q_nth q_exc x.2.2.2 with
    | some X => q_w j (.classLink own y.2.2.2 X)
    | none => false) && (!Nat.beq y.2.2.2 0 && q_hok own R l m js))))
  | _, _, _ => false
noncomputable def q_ops (sw : List Nat) : List qOp := [qo_const, qo_iload, qo_istore, qo_iinc, qo_add, qo_sub, qo_mul, qo_and, qo_or, qo_xor, qo_shl, qo_null, qo_dup, qo_pop, qo_if, qo_icmp, qo_ifnull, qo_ifnonnull, qo_acmpeq, qo_acmpne, qo_goto, qo_getf, qo_putf, qo_alen, qo_iald, qo_iast, qo_lald, qo_last, qo_aald, qo_aast, qo_newa, qo_anew, qo_multi, qo_new, qo_objinit, qo_callr, qo_calls, qo_callr, qo_callr, qo_calls, qo_iret, qo_aret, qo_vret, qo_throw, qo_switch sw, qo_i2l, qo_lcmp, qo_lconst, qo_rem, qo_aload, qo_astore]
noncomputable def q_step (sw : List Nat) (op : Nat) : qOp := match q_nth (q_ops sw) op with
  | some f => f
  | none => qo_bad
noncomputable def qRun (sw : List Nat) (P : List qM) (E : qEnv) (n : Nat) : qIh := Nat.rec (motive := fun _ => qIh) (fun _ _ _ _ _ _ _ => q_no) (fun _ ih d R hs K L S h => match K with
  | [] => q_no
  | r :: K' => q_step sw r.2.1 P E ih (ih d R hs) d R hs r.1 r.2.2.1 r.2.2.2.1 r.2.2.2.2.1 K' L S h) n
