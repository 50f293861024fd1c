/-! EACH OP IS SOUND -/
def qScr (rho : Nat → Nat) (Lx : Nat) (xs : Nat → Int32) : Prop := rho 0 = Lx ∧ Lx ≤ 8 ∧ (∀ i, i < 8 → nI (rho (i + 1)) = xs i) ∧ nI (rho 9) = xs 0 &&& 31
def qKok (p : Program) (l : Launch) (e : Env) (R : Room) (s : State) (m : MethodId) (args : Array Value) (below : List Frame) (meth : Method) (c : Code) (N0 b : Nat) (H0 : Heap) (rho : Nat → Nat) (tys : List (ClassId × FieldType)) (D : va_G) (nL : Nat) (Rw : List qRow) (Qf : State → Prop) (Rel : qRes → Nat → Nat → Prop) (kk : qKk) : Prop :=
  ∀ (j : Nat) (L : qL) (S : List qV) (h : qHp) (nc ns : Nat), Rel (kk (q_drop Rw j) L S h) nc ns → qSt p l e R s m args below meth c N0 b H0 rho tys D nL Rw Qf j L S h nc ns
def qAddR (R : Room) (Rel : qRes → Nat → Nat → Prop) : Prop := ∀ (dc ds : Nat) (r : qRes) (nc ns : Nat), Rel (q_add1 dc ds r) nc ns → Rel r (nc + dc) (ns + ds) ∧ nc + dc ≤ R.cells ∧ ns + ds ≤ R.slots

/-! rows of the ops -/
theorem q_nI_and (x y : Nat) : nI x &&& nI y = nI (Nat.land x y) := by
  apply Int32.toBitVec_inj.mp
  apply BitVec.eq_of_toNat_eq
  rw [Int32.toBitVec_and, BitVec.toNat_and, q_tn, q_tn, q_tn]
  show x % 2 ^ 32 &&& y % 2 ^ 32 = (x &&& y) % 2 ^ 32
  rw [Nat.and_mod_two_pow]
theorem q_nI_or (x y : Nat) : nI x ||| nI y = nI (Nat.lor x y) := by
  apply Int32.toBitVec_inj.mp
  apply BitVec.eq_of_toNat_eq
  rw [Int32.toBitVec_or, BitVec.toNat_or, q_tn, q_tn, q_tn]
  show x % 2 ^ 32 ||| y % 2 ^ 32 = (x ||| y) % 2 ^ 32
  rw [Nat.or_mod_two_pow]
theorem q_nI_xor (x y : Nat) : nI x ^^^ nI y = nI (Nat.xor x y) := by
  apply Int32.toBitVec_inj.mp
  apply BitVec.eq_of_toNat_eq
  rw [Int32.toBitVec_xor, BitVec.toNat_xor, q_tn, q_tn, q_tn]
  show x % 2 ^ 32 ^^^ y % 2 ^ 32 = (x ^^^ y) % 2 ^ 32
  rw [Nat.xor_mod_two_pow]
theorem q_cnt : ∀ k, k < 32 → ((nI k).toBitVec.smod 32).toNat = k := by decide +kernel
theorem q_nI_shl (x y : Nat) : nI x <<< (nI y &&& 31) = nI (Nat.shiftLeft x (y % 32) % 4294967296) := by
  have e : nI y &&& 31 = nI (y % 32) := by
    have h := q_nI_and y 31
    have h2 : Nat.land y 31 = y % 32 := Nat.and_two_pow_sub_one_eq_mod y 5
    rw [h2] at h
    exact h
  rw [e]
  apply Int32.toBitVec_inj.mp
  apply BitVec.eq_of_toNat_eq
  rw [pk_shl (nI x) (nI (y % 32)) (y % 32) (q_cnt _ (Nat.mod_lt _ (by omega))), q_tn, q_tn]
  show _ = (x <<< (y % 32)) % 4294967296 % 4294967296
  rw [Nat.shiftLeft_eq, Nat.mod_mod, Nat.mod_mul_mod]
theorem q_lcmp0 (x : Int64) (rho : Nat → Nat) : lg_cmp x x = q_i rho (0, []) := by
  have h : ¬ x < x := Int64.lt_irrefl
  unfold lg_cmp
  rw [if_neg h, if_pos rfl]
  rfl
theorem q_l01 : ∀ k : Fin 2, Int64.ofNat k.val = q_l k.val := by decide +kernel
theorem q_tgE {R : List qRow} {t pc : Nat} {off : Int} (h : q_tg R t pc off = true) : ∃ tgt : Nat, (pc : Int) + off = (tgt : Int) := by
  unfold q_tg at h
  split at h
  · cases h
  · next x _ _ => exact ⟨x.1, of_decide_eq_true h⟩
theorem q_ad_inj {b N0 : Nat} (h : b < N0) {i j : Nat} (hij : q_ad N0 b i = q_ad N0 b j) : i = j := by
  cases i <;> cases j <;> simp only [q_ad] at hij <;> omega
theorem q_r_inj {b N0 : Nat} (h : b < N0) {x y : Option Nat} (hxy : q_r N0 b x = q_r N0 b y) : x = y := by
  cases x with
  | none => cases y with
    | none => rfl
    | some j => cases hxy
  | some i => cases y with
    | none => cases hxy
    | some j => rw [q_ad_inj h (Option.some.inj hxy)]
section QB
variable {p : Program} {l : Launch} {e : Env} {R : Room} {s : State} {m : MethodId} {args : Array Value} {below : List Frame} {meth : Method} {c : Code} {H : Heap} {locs : List Loc} {cells slots : Nat} {Q : State → Prop}
variable {cc : ByteArray} {pc tgt : Nat} {ls : Array Slot} {rest : List Value} {a0 : Nat} {cd : ClassFile.Cond} {off : Int} {x y : Int32}
theorem q_if_t (hx : p.tables.exec = Jvm.exec) (hb : c.code = cc) (hd : decode cc pc = .ok (.ifCond cd off, 3)) (oc : Nat.beq (q_ccI cd) a0 = true) (ht : (pc : Int) + off = (tgt : Int)) (hP : q_ccP a0 x 0) (hn : W p l e R s m args below meth c H locs cells slots Q (F0 m tgt ls rest)) : W p l e R s m args below meth c H locs cells slots Q (F0 m pc ls (.int x :: rest)) := by
  have oc := Nat.eq_of_beq_eq_true oc
  subst oc
  cases cd
  · exact lv_if_eq hx hb hd ht (fun _ => hn) (fun z => absurd hP z)
  · exact lv_if_ne hx hb hd ht (fun _ => hn) (fun z => absurd (by first | exact z | exact Classical.not_not.mp z) hP)
  · exact lv_if_lt hx hb hd ht (fun _ => hn) (fun z => absurd hP z)
  · exact lv_if_ge hx hb hd ht (fun _ => hn) (fun z => absurd (Int32.not_lt.mp hP) z)
  · exact lv_if_gt hx hb hd ht (fun _ => hn) (fun z => absurd hP z)
  · exact lv_if_le hx hb hd ht (fun _ => hn) (fun z => absurd (Int32.not_lt.mp hP) z)
theorem q_if_f (hx : p.tables.exec = Jvm.exec) (hb : c.code = cc) (hd : decode cc pc = .ok (.ifCond cd off, 3)) (oc : Nat.beq (q_ccI cd) a0 = true) (ht : (pc : Int) + off = (tgt : Int)) (hP : ¬ q_ccP a0 x 0) (hn : W p l e R s m args below meth c H locs cells slots Q (F0 m (pc + 3) ls rest)) : W p l e R s m args below meth c H locs cells slots Q (F0 m pc ls (.int x :: rest)) := by
  have oc := Nat.eq_of_beq_eq_true oc
  subst oc
  cases cd
  · exact lv_if_eq hx hb hd ht (fun z => absurd z hP) (fun _ => hn)
  · exact lv_if_ne hx hb hd ht (fun z => absurd z hP) (fun _ => hn)
  · exact lv_if_lt hx hb hd ht (fun z => absurd z hP) (fun _ => hn)
  · exact lv_if_ge hx hb hd ht (fun z => absurd (Int32.not_lt.mpr z) hP) (fun _ => hn)
  · exact lv_if_gt hx hb hd ht (fun z => absurd z hP) (fun _ => hn)
  · exact lv_if_le hx hb hd ht (fun z => absurd (Int32.not_lt.mpr z) hP) (fun _ => hn)
theorem q_icmp_t (hx : p.tables.exec = Jvm.exec) (hb : c.code = cc) (hd : decode cc pc = .ok (.if_icmp cd off, 3)) (oc : Nat.beq (q_ccI cd) a0 = true) (ht : (pc : Int) + off = (tgt : Int)) (hP : q_ccP a0 x y) (hn : W p l e R s m args below meth c H locs cells slots Q (F0 m tgt ls rest)) : W p l e R s m args below meth c H locs cells slots Q (F0 m pc ls (.int y :: .int x :: rest)) := by
  have oc := Nat.eq_of_beq_eq_true oc
  subst oc
  cases cd
  · exact lv_icmp_eq hx hb hd ht (fun _ => hn) (fun z => absurd hP z)
  · exact lv_icmp_ne hx hb hd ht (fun _ => hn) (fun z => absurd (by first | exact z | exact Classical.not_not.mp z) hP)
  · exact lv_icmp_lt hx hb hd ht (fun _ => hn) (fun z => absurd hP z)
  · exact lv_icmp_ge hx hb hd ht (fun _ => hn) (fun z => absurd (Int32.not_lt.mp hP) z)
  · exact lv_icmp_gt hx hb hd ht (fun _ => hn) (fun z => absurd hP z)
  · exact lv_icmp_le hx hb hd ht (fun _ => hn) (fun z => absurd (Int32.not_lt.mp hP) z)
theorem q_icmp_f (hx : p.tables.exec = Jvm.exec) (hb : c.code = cc) (hd : decode cc pc = .ok (.if_icmp cd off, 3)) (oc : Nat.beq (q_ccI cd) a0 = true) (ht : (pc : Int) + off = (tgt : Int)) (hP : ¬ q_ccP a0 x y) (hn : W p l e R s m args below meth c H locs cells slots Q (F0 m (pc + 3) ls rest)) : W p l e R s m args below meth c H locs cells slots Q (F0 m pc ls (.int y :: .int x :: rest)) := by
  have oc := Nat.eq_of_beq_eq_true oc
  subst oc
  cases cd
  · exact lv_icmp_eq hx hb hd ht (fun z => absurd z hP) (fun _ => hn)
  · exact lv_icmp_ne hx hb hd ht (fun z => absurd z hP) (fun _ => hn)
  · exact lv_icmp_lt hx hb hd ht (fun z => absurd z hP) (fun _ => hn)
  · exact lv_icmp_ge hx hb hd ht (fun z => absurd (Int32.not_lt.mpr z) hP) (fun _ => hn)
  · exact lv_icmp_gt hx hb hd ht (fun z => absurd z hP) (fun _ => hn)
  · exact lv_icmp_le hx hb hd ht (fun z => absurd (Int32.not_lt.mpr z) hP) (fun _ => hn)
end QB
section QO
variable {p : Program} {l : Launch} {e : Env} {R : Room} {s : State} {m : MethodId} {args : Array Value} {below : List Frame} {meth : Method} {c : Code}
variable {N0 b : Nat} {H0 : Heap} {rho : Nat → Nat} {tys : List (ClassId × FieldType)} {D : va_G} {Lx : Nat} {xs : Nat → Int32}
variable {own nm : String} {cc : ByteArray} {nL : Nat} {ret : Option FieldType} {hh : List (Nat × Nat × Nat × Nat)} {d : Nat}
variable {Rw : List qRow} {hs : List qHd} {P : List qM} {I : List qInf} {sw : List Nat} {E : qEnv} {ih : qIh} {kk : qKk}
variable {Qf : State → Prop} {Rel : qRes → Nat → Nat → Prop}
variable {j pc op a0 b0 c0 len : Nat} {ins : Instr} {K : List qRow} {L : qL} {S : List qV} {h : qHp} {nc ns : Nat} {H : Heap} {locs : List Loc} {ls : Array Slot}

theorem q_next (hk : qKok p l e R s m args below meth c N0 b H0 rho tys D nL Rw Qf Rel kk) {x : qRow} (hj : q_drop Rw j = x :: K) {len : Nat} (hx : q_nx x.1 len K = true) (hr : Rel (kk K L S h) nc ns) (hJ : qJ N0 b H0 rho tys D h H) (hl : ∀ z ∈ locs, N0 ≤ z.base) (hL : qLoc N0 b rho ls nL L) : W p l e R s m args below meth c H locs nc ns Qf (F0 m (x.1 + len) ls (S.map (q_v N0 b rho))) := by
  have hK : q_drop Rw (j + 1) = K := by
    rw [q_drop_eq] at hj ⊢
    rw [← List.drop_drop, hj]
    rfl
  rw [← hK] at hr
  obtain ⟨r, K', e1, hW⟩ := hk (j + 1) _ _ _ _ _ hr
  rw [hK] at e1
  subst e1
  have e2 : r.1 = x.1 + len := Nat.eq_of_beq_eq_true hx
  rw [← e2]
  exact hW H locs ls hJ hl hL
theorem q_jump (hk : qKok p l e R s m args below meth c N0 b H0 rho tys D nL Rw Qf Rel kk) {t pc : Nat} {off : Int} (ht : q_tg Rw t pc off = true) (hr : Rel (kk (q_drop Rw t) L S h) nc ns) (hJ : qJ N0 b H0 rho tys D h H) (hl : ∀ z ∈ locs, N0 ≤ z.base) (hL : qLoc N0 b rho ls nL L) : ∃ tgt : Nat, (pc : Int) + off = (tgt : Int) ∧ W p l e R s m args below meth c H locs nc ns Qf (F0 m tgt ls (S.map (q_v N0 b rho))) := by
  obtain ⟨r, K', e1, hW⟩ := hk t _ _ _ _ _ hr
  refine ⟨r.1, ?_, hW H locs ls hJ hl hL⟩
  unfold q_tg at ht
  rw [e1] at ht
  exact of_decide_eq_true ht
theorem q_ask_no (hno : ∀ x nc ns, ¬ Rel (.inr (.inr x)) nc ns) {x : qI} {u : Nat} : ¬ Rel (q_ask E x u) nc ns := by
  unfold q_ask q_no q_sp
  repeat' split
  all_goals exact hno _ _ _
theorem q_askl_no (hno : ∀ x nc ns, ¬ Rel (.inr (.inr x)) nc ns) {x y : qI} : ¬ Rel (q_askl E x y) nc ns := by
  unfold q_askl
  repeat' split
  all_goals first | exact q_ask_no hno | exact hno _ _ _
theorem q_aske_no (hno : ∀ x nc ns, ¬ Rel (.inr (.inr x)) nc ns) {x y : qI} : ¬ Rel (q_aske E x y) nc ns := by
  unfold q_aske
  repeat' split
  all_goals first | exact q_ask_no hno | exact hno _ _ _
theorem q_askc_no (hno : ∀ x nc ns, ¬ Rel (.inr (.inr x)) nc ns) {cc : Nat} {x y : qI} : ¬ Rel (q_askc E cc x y) nc ns := by
  unfold q_askc
  split
  · exact q_aske_no hno
  · exact q_aske_no hno
  · exact q_askl_no hno
  · exact q_askl_no hno
  · exact q_askl_no hno

theorem qs_const (C : qCtx p l R s m args meth c own nm cc nL ret hh d) (Wd : qWd N0 b H0 tys D Lx xs s) (hE : qEok E rho) (hX : qScr rho Lx xs) (hk : qKok p l e R s m args below meth c N0 b H0 rho tys D nL Rw Qf Rel kk) (hno : ∀ x nc ns, ¬ Rel (.inr (.inr x)) nc ns) (hadd : qAddR R Rel) (hj : q_drop Rw j = (pc, op, a0, b0, c0, ins, len) :: K) (hd : decode cc pc = .ok (ins, len))
    (ok : q_opok P I sw own nm cc nL ret Rw K pc 0 a0 b0 c0 ins len = true) (hr : Rel (qo_const P E ih kk d Rw hs pc a0 b0 c0 K L S h) nc ns) (hJ : qJ N0 b H0 rho tys D h H) (hl : ∀ z ∈ locs, N0 ≤ z.base) (hL : qLoc N0 b rho ls nL L) : W p l e R s m args below meth c H locs nc ns Qf (F0 m pc ls (S.map (q_v N0 b rho))) := by
  obtain ⟨hx, hb, hml, hown, hts, hret, hlocks, hnm, htab, hfr, hlo, htr⟩ := id C
  replace hr : Rel (kk K L (.inl (a0, []) :: S) h) nc ns := hr
  simp only [q_opok, Bool.and_eq_true] at ok
  obtain ⟨ox, ok⟩ := ok
  have hn := q_next hk hj ox hr hJ hl hL
  split at ok
  all_goals first | (cases ok; done) | skip
  all_goals simp only [Bool.and_eq_true, decide_eq_true_eq] at ok
  all_goals obtain ⟨o1, o2⟩ := ok
  all_goals have o1 := Nat.eq_of_beq_eq_true o1
  all_goals subst o1
  · exact lv_iconst hx hb hd o2 hn
  · exact lv_bipush hx hb hd o2 hn
  · exact lv_sipush hx hb hd o2 hn

theorem qs_iload (C : qCtx p l R s m args meth c own nm cc nL ret hh d) (Wd : qWd N0 b H0 tys D Lx xs s) (hE : qEok E rho) (hX : qScr rho Lx xs) (hk : qKok p l e R s m args below meth c N0 b H0 rho tys D nL Rw Qf Rel kk) (hno : ∀ x nc ns, ¬ Rel (.inr (.inr x)) nc ns) (hadd : qAddR R Rel) (hj : q_drop Rw j = (pc, op, a0, b0, c0, ins, len) :: K) (hd : decode cc pc = .ok (ins, len))
    (ok : q_opok P I sw own nm cc nL ret Rw K pc 1 a0 b0 c0 ins len = true) (hr : Rel (qo_iload P E ih kk d Rw hs pc a0 b0 c0 K L S h) nc ns) (hJ : qJ N0 b H0 rho tys D h H) (hl : ∀ z ∈ locs, N0 ≤ z.base) (hL : qLoc N0 b rho ls nL L) : W p l e R s m args below meth c H locs nc ns Qf (F0 m pc ls (S.map (q_v N0 b rho))) := by
  obtain ⟨hx, hb, hml, hown, hts, hret, hlocks, hnm, htab, hfr, hlo, htr⟩ := id C
  unfold qo_iload at hr
  simp only [q_nth_eq, q_set_eq, q_fz_eq] at hr
  split at hr
  · next x hv =>
    simp only [q_opok, Bool.and_eq_true] at ok
    obtain ⟨ox, ok⟩ := ok
    have hn := q_next hk hj ox hr hJ hl hL
    obtain ⟨hv1, hv2⟩ := hL.2.2 a0 _ hv
    split at ok
    all_goals first | (cases ok; done) | skip
    all_goals simp only [Bool.and_eq_true] at ok
    all_goals obtain ⟨o1, o2⟩ := ok
    all_goals have o1 := Nat.eq_of_beq_eq_true o1
    all_goals have o2 := Nat.eq_of_beq_eq_true o2
    all_goals subst o1
    · exact lv_iload_n hx hb hd o2 hv1 hn
    · subst o2; exact lv_iload hx hb hd hv1 hn
  · exact absurd hr (hno _ _ _)

theorem qs_aload (C : qCtx p l R s m args meth c own nm cc nL ret hh d) (Wd : qWd N0 b H0 tys D Lx xs s) (hE : qEok E rho) (hX : qScr rho Lx xs) (hk : qKok p l e R s m args below meth c N0 b H0 rho tys D nL Rw Qf Rel kk) (hno : ∀ x nc ns, ¬ Rel (.inr (.inr x)) nc ns) (hadd : qAddR R Rel) (hj : q_drop Rw j = (pc, op, a0, b0, c0, ins, len) :: K) (hd : decode cc pc = .ok (ins, len))
    (ok : q_opok P I sw own nm cc nL ret Rw K pc 49 a0 b0 c0 ins len = true) (hr : Rel (qo_aload P E ih kk d Rw hs pc a0 b0 c0 K L S h) nc ns) (hJ : qJ N0 b H0 rho tys D h H) (hl : ∀ z ∈ locs, N0 ≤ z.base) (hL : qLoc N0 b rho ls nL L) : W p l e R s m args below meth c H locs nc ns Qf (F0 m pc ls (S.map (q_v N0 b rho))) := by
  obtain ⟨hx, hb, hml, hown, hts, hret, hlocks, hnm, htab, hfr, hlo, htr⟩ := id C
  unfold qo_aload at hr
  simp only [q_nth_eq, q_set_eq, q_fz_eq] at hr
  split at hr
  · next r hv =>
    simp only [q_opok, Bool.and_eq_true] at ok
    obtain ⟨ox, ok⟩ := ok
    have hn := q_next hk hj ox hr hJ hl hL
    obtain ⟨hv1, hv2⟩ := hL.2.2 a0 _ hv
    split at ok
    all_goals first | (cases ok; done) | skip
    all_goals simp only [Bool.and_eq_true] at ok
    all_goals obtain ⟨o1, o2⟩ := ok
    all_goals have o1 := Nat.eq_of_beq_eq_true o1
    all_goals have o2 := Nat.eq_of_beq_eq_true o2
    all_goals subst o1
    · cases r with
      | none => exact lv_aload_nN hx hb hd o2 hv1 hn
      | some r => exact lv_aload_n hx hb hd o2 hv1 hn
    · subst o2
      cases r with
      | none => exact lv_aloadN hx hb hd hv1 hn
      | some r => exact lv_aload hx hb hd hv1 hn
  · exact absurd hr (hno _ _ _)

theorem qs_istore (C : qCtx p l R s m args meth c own nm cc nL ret hh d) (Wd : qWd N0 b H0 tys D Lx xs s) (hE : qEok E rho) (hX : qScr rho Lx xs) (hk : qKok p l e R s m args below meth c N0 b H0 rho tys D nL Rw Qf Rel kk) (hno : ∀ x nc ns, ¬ Rel (.inr (.inr x)) nc ns) (hadd : qAddR R Rel) (hj : q_drop Rw j = (pc, op, a0, b0, c0, ins, len) :: K) (hd : decode cc pc = .ok (ins, len))
    (ok : q_opok P I sw own nm cc nL ret Rw K pc 2 a0 b0 c0 ins len = true) (hr : Rel (qo_istore P E ih kk d Rw hs pc a0 b0 c0 K L S h) nc ns) (hJ : qJ N0 b H0 rho tys D h H) (hl : ∀ z ∈ locs, N0 ≤ z.base) (hL : qLoc N0 b rho ls nL L) : W p l e R s m args below meth c H locs nc ns Qf (F0 m pc ls (S.map (q_v N0 b rho))) := by
  obtain ⟨hx, hb, hml, hown, hts, hret, hlocks, hnm, htab, hfr, hlo, htr⟩ := id C
  unfold qo_istore at hr
  simp only [q_set_eq] at hr
  split at hr
  · next x S' =>
    simp only [q_opok, Bool.and_eq_true] at ok
    obtain ⟨ox, on, ok⟩ := ok
    have on := Nat.blt_eq.mp on
    have hst : ∀ ls' : Array Slot, lv_has ls' nL ((a0, q_v N0 b rho (.inl x)) :: (q_lv N0 b rho nL L).filter (fun q => !(q.1 == a0) && !(q.1 + 1 == a0 && q.2.category == 2))) → W p l e R s m args below meth c H locs nc ns Qf (F0 m (pc + len) ls' (S'.map (q_v N0 b rho))) := fun ls' h' => q_next hk hj ox hr hJ hl (hL.st h' _ (fun v hv => by cases hv; exact ⟨rfl, rfl⟩))
    split at ok
    all_goals first | (cases ok; done) | skip
    all_goals simp only [Bool.and_eq_true] at ok
    all_goals obtain ⟨o1, o2⟩ := ok
    all_goals have o1 := Nat.eq_of_beq_eq_true o1
    all_goals have o2 := Nat.eq_of_beq_eq_true o2
    all_goals subst o1
    · exact lv_istore_n hx hb hd o2 hL.lv on rfl hst
    · subst o2; exact lv_istore hx hb hd hL.lv on rfl hst
  · exact absurd hr (hno _ _ _)

theorem qs_astore (C : qCtx p l R s m args meth c own nm cc nL ret hh d) (Wd : qWd N0 b H0 tys D Lx xs s) (hE : qEok E rho) (hX : qScr rho Lx xs) (hk : qKok p l e R s m args below meth c N0 b H0 rho tys D nL Rw Qf Rel kk) (hno : ∀ x nc ns, ¬ Rel (.inr (.inr x)) nc ns) (hadd : qAddR R Rel) (hj : q_drop Rw j = (pc, op, a0, b0, c0, ins, len) :: K) (hd : decode cc pc = .ok (ins, len))
    (ok : q_opok P I sw own nm cc nL ret Rw K pc 50 a0 b0 c0 ins len = true) (hr : Rel (qo_astore P E ih kk d Rw hs pc a0 b0 c0 K L S h) nc ns) (hJ : qJ N0 b H0 rho tys D h H) (hl : ∀ z ∈ locs, N0 ≤ z.base) (hL : qLoc N0 b rho ls nL L) : W p l e R s m args below meth c H locs nc ns Qf (F0 m pc ls (S.map (q_v N0 b rho))) := by
  obtain ⟨hx, hb, hml, hown, hts, hret, hlocks, hnm, htab, hfr, hlo, htr⟩ := id C
  unfold qo_astore at hr
  simp only [q_set_eq] at hr
  split at hr
  · next r S' =>
    simp only [q_opok, Bool.and_eq_true] at ok
    obtain ⟨ox, on, ok⟩ := ok
    have on := Nat.blt_eq.mp on
    have hst : ∀ ls' : Array Slot, lv_has ls' nL ((a0, q_v N0 b rho (.inr (.inl r))) :: (q_lv N0 b rho nL L).filter (fun q => !(q.1 == a0) && !(q.1 + 1 == a0 && q.2.category == 2))) → W p l e R s m args below meth c H locs nc ns Qf (F0 m (pc + len) ls' (S'.map (q_v N0 b rho))) := fun ls' h' => q_next hk hj ox hr hJ hl (hL.st h' _ (fun v hv => by cases hv; exact ⟨rfl, rfl⟩))
    split at ok
    all_goals first | (cases ok; done) | skip
    all_goals simp only [Bool.and_eq_true] at ok
    all_goals obtain ⟨o1, o2⟩ := ok
    all_goals have o1 := Nat.eq_of_beq_eq_true o1
    all_goals have o2 := Nat.eq_of_beq_eq_true o2
    all_goals subst o1
    · cases r with
      | none => exact lv_astore_nN hx hb hd o2 hL.lv on rfl hst
      | some r => exact lv_astore_n hx hb hd o2 hL.lv on rfl hst
    · subst o2
      cases r with
      | none => exact lv_astoreN hx hb hd hL.lv on rfl hst
      | some r => exact lv_astore hx hb hd hL.lv on rfl hst
  · exact absurd hr (hno _ _ _)

theorem qs_iinc (C : qCtx p l R s m args meth c own nm cc nL ret hh d) (Wd : qWd N0 b H0 tys D Lx xs s) (hE : qEok E rho) (hX : qScr rho Lx xs) (hk : qKok p l e R s m args below meth c N0 b H0 rho tys D nL Rw Qf Rel kk) (hno : ∀ x nc ns, ¬ Rel (.inr (.inr x)) nc ns) (hadd : qAddR R Rel) (hj : q_drop Rw j = (pc, op, a0, b0, c0, ins, len) :: K) (hd : decode cc pc = .ok (ins, len))
    (ok : q_opok P I sw own nm cc nL ret Rw K pc 3 a0 b0 c0 ins len = true) (hr : Rel (qo_iinc P E ih kk d Rw hs pc a0 b0 c0 K L S h) nc ns) (hJ : qJ N0 b H0 rho tys D h H) (hl : ∀ z ∈ locs, N0 ≤ z.base) (hL : qLoc N0 b rho ls nL L) : W p l e R s m args below meth c H locs nc ns Qf (F0 m pc ls (S.map (q_v N0 b rho))) := by
  obtain ⟨hx, hb, hml, hown, hts, hret, hlocks, hnm, htab, hfr, hlo, htr⟩ := id C
  unfold qo_iinc at hr
  simp only [q_nth_eq, q_set_eq, q_fz_eq] at hr
  split at hr
  · next x hv =>
    simp only [q_opok, Bool.and_eq_true] at ok
    obtain ⟨ox, on, ok⟩ := ok
    have on := Nat.blt_eq.mp on
    split at ok
    all_goals first | (cases ok; done) | skip
    next i n =>
    simp only [Bool.and_eq_true, decide_eq_true_eq] at ok
    obtain ⟨o1, o2, o3⟩ := ok
    have o1 := Nat.eq_of_beq_eq_true o1
    have o2 := Nat.eq_of_beq_eq_true o2
    subst o1; subst o2
    obtain ⟨hv1, hv2⟩ := hL.2.2 i _ hv
    have hm : (i, Value.int (q_i rho x)) ∈ q_lv N0 b rho nL L := List.mem_filterMap.mpr ⟨i, List.mem_range.mpr on, by rw [hv]; rfl⟩
    obtain ⟨k, hk1⟩ := List.getElem?_of_mem hm
    have hv3 : q_i rho x + Int32.ofInt n = q_i rho ((x.1 + b0) % 4294967296, x.2) := by
      rw [o3]
      have := q_i_add rho x (b0, [])
      rw [List.append_nil] at this
      exact this
    refine lv_iinc hx hb hd hL.lv hk1 hv3 on rfl (fun ls' h' => ?_)
    exact q_next hk hj ox hr hJ hl (hL.st h' _ (fun v hv => by cases hv; exact ⟨rfl, rfl⟩))
  · exact absurd hr (hno _ _ _)

theorem qs_add (C : qCtx p l R s m args meth c own nm cc nL ret hh d) (Wd : qWd N0 b H0 tys D Lx xs s) (hE : qEok E rho) (hX : qScr rho Lx xs) (hk : qKok p l e R s m args below meth c N0 b H0 rho tys D nL Rw Qf Rel kk) (hno : ∀ x nc ns, ¬ Rel (.inr (.inr x)) nc ns) (hadd : qAddR R Rel) (hj : q_drop Rw j = (pc, op, a0, b0, c0, ins, len) :: K) (hd : decode cc pc = .ok (ins, len))
    (ok : q_opok P I sw own nm cc nL ret Rw K pc 4 a0 b0 c0 ins len = true) (hr : Rel (qo_add P E ih kk d Rw hs pc a0 b0 c0 K L S h) nc ns) (hJ : qJ N0 b H0 rho tys D h H) (hl : ∀ z ∈ locs, N0 ≤ z.base) (hL : qLoc N0 b rho ls nL L) : W p l e R s m args below meth c H locs nc ns Qf (F0 m pc ls (S.map (q_v N0 b rho))) := by
  obtain ⟨hx, hb, hml, hown, hts, hret, hlocks, hnm, htab, hfr, hlo, htr⟩ := id C
  unfold qo_add at hr
  simp only [q_fz_eq] at hr
  split at hr
  · next y x S' =>
    have hr2 : Rel (kk K L (.inl ((x.1 + y.1) % 4294967296, x.2 ++ y.2) :: S') h) nc ns := by
      split at hr
      · exact hr
      · split at hr
        · exact absurd hr (q_ask_no hno)
        · split at hr
          · exact absurd hr (q_ask_no hno)
          · exact hr
    simp only [q_opok, Bool.and_eq_true, decide_eq_true_eq] at ok
    obtain ⟨ox, o1, o2⟩ := ok
    have o1 := Nat.eq_of_beq_eq_true o1
    subst o1; subst o2
    refine lv_iadd hx hb hd ?_
    rw [show q_i rho x + q_i rho y = _ from q_i_add rho x y]
    exact q_next hk hj ox hr2 hJ hl hL
  · exact absurd hr (hno _ _ _)

theorem qs_sub (C : qCtx p l R s m args meth c own nm cc nL ret hh d) (Wd : qWd N0 b H0 tys D Lx xs s) (hE : qEok E rho) (hX : qScr rho Lx xs) (hk : qKok p l e R s m args below meth c N0 b H0 rho tys D nL Rw Qf Rel kk) (hno : ∀ x nc ns, ¬ Rel (.inr (.inr x)) nc ns) (hadd : qAddR R Rel) (hj : q_drop Rw j = (pc, op, a0, b0, c0, ins, len) :: K) (hd : decode cc pc = .ok (ins, len))
    (ok : q_opok P I sw own nm cc nL ret Rw K pc 5 a0 b0 c0 ins len = true) (hr : Rel (qo_sub P E ih kk d Rw hs pc a0 b0 c0 K L S h) nc ns) (hJ : qJ N0 b H0 rho tys D h H) (hl : ∀ z ∈ locs, N0 ≤ z.base) (hL : qLoc N0 b rho ls nL L) : W p l e R s m args below meth c H locs nc ns Qf (F0 m pc ls (S.map (q_v N0 b rho))) := by
  obtain ⟨hx, hb, hml, hown, hts, hret, hlocks, hnm, htab, hfr, hlo, htr⟩ := id C
  unfold qo_sub at hr
  simp only [q_fz_eq] at hr
  split at hr
  · next y x S' =>
    simp only [q_opok, Bool.and_eq_true, decide_eq_true_eq] at ok
    obtain ⟨ox, o1, o2⟩ := ok
    have o1 := Nat.eq_of_beq_eq_true o1
    subst o1; subst o2
    refine lv_isub hx hb hd ?_
    rw [show q_i rho x - q_i rho y = _ from q_i_sub rho x y]
    exact q_next hk hj ox hr hJ hl hL
  · exact absurd hr (hno _ _ _)

theorem qs_mul (C : qCtx p l R s m args meth c own nm cc nL ret hh d) (Wd : qWd N0 b H0 tys D Lx xs s) (hE : qEok E rho) (hX : qScr rho Lx xs) (hk : qKok p l e R s m args below meth c N0 b H0 rho tys D nL Rw Qf Rel kk) (hno : ∀ x nc ns, ¬ Rel (.inr (.inr x)) nc ns) (hadd : qAddR R Rel) (hj : q_drop Rw j = (pc, op, a0, b0, c0, ins, len) :: K) (hd : decode cc pc = .ok (ins, len))
    (ok : q_opok P I sw own nm cc nL ret Rw K pc 6 a0 b0 c0 ins len = true) (hr : Rel (qo_mul P E ih kk d Rw hs pc a0 b0 c0 K L S h) nc ns) (hJ : qJ N0 b H0 rho tys D h H) (hl : ∀ z ∈ locs, N0 ≤ z.base) (hL : qLoc N0 b rho ls nL L) : W p l e R s m args below meth c H locs nc ns Qf (F0 m pc ls (S.map (q_v N0 b rho))) := by
  obtain ⟨hx, hb, hml, hown, hts, hret, hlocks, hnm, htab, hfr, hlo, htr⟩ := id C
  unfold qo_mul at hr
  split at hr
  · next y x S' =>
    simp only [q_opok, Bool.and_eq_true, decide_eq_true_eq] at ok
    obtain ⟨ox, o1, o2⟩ := ok
    have o1 := Nat.eq_of_beq_eq_true o1
    subst o1; subst o2
    refine lv_imul hx hb hd ?_
    split at hr
    · next hc =>
      rw [show q_i rho x * q_i rho y = _ from q_i_mul1 rho x y (q_isc_eq hc)]
      exact q_next hk hj ox hr hJ hl hL
    · split at hr
      · next hc =>
        rw [show q_i rho x * q_i rho y = _ from q_i_mul2 rho x y (q_isc_eq hc)]
        exact q_next hk hj ox hr hJ hl hL
      · split at hr
        · exact absurd hr (q_ask_no hno)
        · split at hr
          · exact absurd hr (q_ask_no hno)
          · exact absurd hr (hno _ _ _)
  · exact absurd hr (hno _ _ _)

theorem qs_and (C : qCtx p l R s m args meth c own nm cc nL ret hh d) (Wd : qWd N0 b H0 tys D Lx xs s) (hE : qEok E rho) (hX : qScr rho Lx xs) (hk : qKok p l e R s m args below meth c N0 b H0 rho tys D nL Rw Qf Rel kk) (hno : ∀ x nc ns, ¬ Rel (.inr (.inr x)) nc ns) (hadd : qAddR R Rel) (hj : q_drop Rw j = (pc, op, a0, b0, c0, ins, len) :: K) (hd : decode cc pc = .ok (ins, len))
    (ok : q_opok P I sw own nm cc nL ret Rw K pc 7 a0 b0 c0 ins len = true) (hr : Rel (qo_and P E ih kk d Rw hs pc a0 b0 c0 K L S h) nc ns) (hJ : qJ N0 b H0 rho tys D h H) (hl : ∀ z ∈ locs, N0 ≤ z.base) (hL : qLoc N0 b rho ls nL L) : W p l e R s m args below meth c H locs nc ns Qf (F0 m pc ls (S.map (q_v N0 b rho))) := by
  obtain ⟨hx, hb, hml, hown, hts, hret, hlocks, hnm, htab, hfr, hlo, htr⟩ := id C
  unfold qo_and at hr
  split at hr
  · next y x S' =>
    simp only [q_opok, Bool.and_eq_true, decide_eq_true_eq] at ok
    obtain ⟨ox, o1, o2⟩ := ok
    have o1 := Nat.eq_of_beq_eq_true o1
    subst o1; subst o2
    refine lv_iand hx hb hd ?_
    split at hr
    · next hc =>
      simp only [Bool.and_eq_true] at hc
      have e1 := q_isc_eq hc.1
      have e2 := q_isc_eq hc.2
      have e : q_i rho x &&& q_i rho y = q_i rho (Nat.land x.1 y.1, []) := by
        unfold q_i
        rw [e1, e2]
        exact q_nI_and x.1 y.1
      rw [e]
      exact q_next hk hj ox hr hJ hl hL
    · split at hr
      · next hc =>
        simp only [Bool.and_eq_true] at hc
        have e1 := q_ieq_eq hc.1
        have e2 := q_ieq_eq hc.2
        subst e1; subst e2
        have e : q_i rho (0, [(1, 1)]) &&& q_i rho (31, []) = q_i rho (0, [(9, 1)]) := by
          have e3 : q_i rho (0, [(1, 1)]) = nI (rho 1) := by
            show nI (0 + (rho 1 * 1 + 0)) = _
            congr 1; omega
          have e4 : q_i rho (0, [(9, 1)]) = nI (rho 9) := by
            show nI (0 + (rho 9 * 1 + 0)) = _
            congr 1; omega
          rw [e3, e4, hX.2.2.1 0 (by omega), hX.2.2.2]
          rfl
        rw [e]
        exact q_next hk hj ox hr hJ hl hL
      · exact absurd hr (hno _ _ _)
  · exact absurd hr (hno _ _ _)

theorem qs_or (C : qCtx p l R s m args meth c own nm cc nL ret hh d) (Wd : qWd N0 b H0 tys D Lx xs s) (hE : qEok E rho) (hX : qScr rho Lx xs) (hk : qKok p l e R s m args below meth c N0 b H0 rho tys D nL Rw Qf Rel kk) (hno : ∀ x nc ns, ¬ Rel (.inr (.inr x)) nc ns) (hadd : qAddR R Rel) (hj : q_drop Rw j = (pc, op, a0, b0, c0, ins, len) :: K) (hd : decode cc pc = .ok (ins, len))
    (ok : q_opok P I sw own nm cc nL ret Rw K pc 8 a0 b0 c0 ins len = true) (hr : Rel (qo_or P E ih kk d Rw hs pc a0 b0 c0 K L S h) nc ns) (hJ : qJ N0 b H0 rho tys D h H) (hl : ∀ z ∈ locs, N0 ≤ z.base) (hL : qLoc N0 b rho ls nL L) : W p l e R s m args below meth c H locs nc ns Qf (F0 m pc ls (S.map (q_v N0 b rho))) := by
  obtain ⟨hx, hb, hml, hown, hts, hret, hlocks, hnm, htab, hfr, hlo, htr⟩ := id C
  unfold qo_or q_bin at hr
  split at hr
  · next y x S' =>
    simp only [q_opok, Bool.and_eq_true, decide_eq_true_eq] at ok
    obtain ⟨ox, o1, o2⟩ := ok
    have o1 := Nat.eq_of_beq_eq_true o1
    subst o1; subst o2
    refine lv_ior hx hb hd ?_
    split at hr
    · next hc =>
      simp only [Bool.and_eq_true] at hc
      have e1 := q_isc_eq hc.1
      have e2 := q_isc_eq hc.2
      obtain ⟨x1, x2⟩ := x
      obtain ⟨y1, y2⟩ := y
      dsimp only at e1 e2
      subst e1; subst e2
      have e : q_i rho (x1, []) ||| q_i rho (y1, []) = q_i rho (Nat.lor x1 y1, []) := q_nI_or x1 y1
      rw [show q_i rho (x1, []) ||| q_i rho (y1, []) = _ from e]
      exact q_next hk hj ox hr hJ hl hL
    · exact absurd hr (hno _ _ _)
  · exact absurd hr (hno _ _ _)

theorem qs_xor (C : qCtx p l R s m args meth c own nm cc nL ret hh d) (Wd : qWd N0 b H0 tys D Lx xs s) (hE : qEok E rho) (hX : qScr rho Lx xs) (hk : qKok p l e R s m args below meth c N0 b H0 rho tys D nL Rw Qf Rel kk) (hno : ∀ x nc ns, ¬ Rel (.inr (.inr x)) nc ns) (hadd : qAddR R Rel) (hj : q_drop Rw j = (pc, op, a0, b0, c0, ins, len) :: K) (hd : decode cc pc = .ok (ins, len))
    (ok : q_opok P I sw own nm cc nL ret Rw K pc 9 a0 b0 c0 ins len = true) (hr : Rel (qo_xor P E ih kk d Rw hs pc a0 b0 c0 K L S h) nc ns) (hJ : qJ N0 b H0 rho tys D h H) (hl : ∀ z ∈ locs, N0 ≤ z.base) (hL : qLoc N0 b rho ls nL L) : W p l e R s m args below meth c H locs nc ns Qf (F0 m pc ls (S.map (q_v N0 b rho))) := by
  obtain ⟨hx, hb, hml, hown, hts, hret, hlocks, hnm, htab, hfr, hlo, htr⟩ := id C
  unfold qo_xor q_bin at hr
  split at hr
  · next y x S' =>
    simp only [q_opok, Bool.and_eq_true, decide_eq_true_eq] at ok
    obtain ⟨ox, o1, o2⟩ := ok
    have o1 := Nat.eq_of_beq_eq_true o1
    subst o1; subst o2
    refine lv_ixor hx hb hd ?_
    split at hr
    · next hc =>
      simp only [Bool.and_eq_true] at hc
      have e1 := q_isc_eq hc.1
      have e2 := q_isc_eq hc.2
      obtain ⟨x1, x2⟩ := x
      obtain ⟨y1, y2⟩ := y
      dsimp only at e1 e2
      subst e1; subst e2
      have e : q_i rho (x1, []) ^^^ q_i rho (y1, []) = q_i rho (Nat.xor x1 y1, []) := q_nI_xor x1 y1
      rw [show q_i rho (x1, []) ^^^ q_i rho (y1, []) = _ from e]
      exact q_next hk hj ox hr hJ hl hL
    · exact absurd hr (hno _ _ _)
  · exact absurd hr (hno _ _ _)

theorem qs_shl (C : qCtx p l R s m args meth c own nm cc nL ret hh d) (Wd : qWd N0 b H0 tys D Lx xs s) (hE : qEok E rho) (hX : qScr rho Lx xs) (hk : qKok p l e R s m args below meth c N0 b H0 rho tys D nL Rw Qf Rel kk) (hno : ∀ x nc ns, ¬ Rel (.inr (.inr x)) nc ns) (hadd : qAddR R Rel) (hj : q_drop Rw j = (pc, op, a0, b0, c0, ins, len) :: K) (hd : decode cc pc = .ok (ins, len))
    (ok : q_opok P I sw own nm cc nL ret Rw K pc 10 a0 b0 c0 ins len = true) (hr : Rel (qo_shl P E ih kk d Rw hs pc a0 b0 c0 K L S h) nc ns) (hJ : qJ N0 b H0 rho tys D h H) (hl : ∀ z ∈ locs, N0 ≤ z.base) (hL : qLoc N0 b rho ls nL L) : W p l e R s m args below meth c H locs nc ns Qf (F0 m pc ls (S.map (q_v N0 b rho))) := by
  obtain ⟨hx, hb, hml, hown, hts, hret, hlocks, hnm, htab, hfr, hlo, htr⟩ := id C
  unfold qo_shl q_bin at hr
  split at hr
  · next y x S' =>
    simp only [q_opok, Bool.and_eq_true, decide_eq_true_eq] at ok
    obtain ⟨ox, o1, o2⟩ := ok
    have o1 := Nat.eq_of_beq_eq_true o1
    subst o1; subst o2
    refine lv_ishl hx hb hd ?_
    split at hr
    · next hc =>
      simp only [Bool.and_eq_true] at hc
      have e1 := q_isc_eq hc.1
      have e2 := q_isc_eq hc.2
      obtain ⟨x1, x2⟩ := x
      obtain ⟨y1, y2⟩ := y
      dsimp only at e1 e2
      subst e1; subst e2
      have e : q_i rho (x1, []) <<< (q_i rho (y1, []) &&& 31) = q_i rho (Nat.shiftLeft x1 (y1 % 32) % 4294967296, []) := q_nI_shl x1 y1
      rw [show q_i rho (x1, []) <<< (q_i rho (y1, []) &&& 31) = _ from e]
      exact q_next hk hj ox hr hJ hl hL
    · exact absurd hr (hno _ _ _)
  · exact absurd hr (hno _ _ _)

theorem qs_rem (C : qCtx p l R s m args meth c own nm cc nL ret hh d) (Wd : qWd N0 b H0 tys D Lx xs s) (hE : qEok E rho) (hX : qScr rho Lx xs) (hk : qKok p l e R s m args below meth c N0 b H0 rho tys D nL Rw Qf Rel kk) (hno : ∀ x nc ns, ¬ Rel (.inr (.inr x)) nc ns) (hadd : qAddR R Rel) (hj : q_drop Rw j = (pc, op, a0, b0, c0, ins, len) :: K) (hd : decode cc pc = .ok (ins, len))
    (ok : q_opok P I sw own nm cc nL ret Rw K pc 48 a0 b0 c0 ins len = true) (hr : Rel (qo_rem P E ih kk d Rw hs pc a0 b0 c0 K L S h) nc ns) (hJ : qJ N0 b H0 rho tys D h H) (hl : ∀ z ∈ locs, N0 ≤ z.base) (hL : qLoc N0 b rho ls nL L) : W p l e R s m args below meth c H locs nc ns Qf (F0 m pc ls (S.map (q_v N0 b rho))) := by
  obtain ⟨hx, hb, hml, hown, hts, hret, hlocks, hnm, htab, hfr, hlo, htr⟩ := id C
  unfold qo_rem at hr
  split at hr
  · next y x S' =>
    simp only [q_opok, Bool.and_eq_true, decide_eq_true_eq] at ok
    obtain ⟨ox, o1, o2⟩ := ok
    have o1 := Nat.eq_of_beq_eq_true o1
    subst o1; subst o2
    split at hr
    · next hc =>
      simp only [Bool.and_eq_true] at hc
      obtain ⟨c1, c2, c3, c4, c5⟩ := hc
      have e1 := q_isc_eq c1
      have e2 := q_isc_eq c2
      clear c1 c2
      replace c3 := Nat.blt_eq.mp c3
      replace c4 := Nat.blt_eq.mp c4
      replace c5 := Nat.blt_eq.mp c5
      obtain ⟨x1, x2⟩ := x
      obtain ⟨y1, y2⟩ := y
      dsimp only at e1 e2 c3 c4 c5
      subst e1; subst e2
      refine lv_irem (x := nI x1) (y := nI y1) hx hb hd (nI_ne0 c5 c4) ?_
      rw [pk_rem c3 c5 c4]
      exact q_next hk hj ox hr hJ hl hL
    · exact absurd hr (hno _ _ _)
  · exact absurd hr (hno _ _ _)

theorem qs_null (C : qCtx p l R s m args meth c own nm cc nL ret hh d) (Wd : qWd N0 b H0 tys D Lx xs s) (hE : qEok E rho) (hX : qScr rho Lx xs) (hk : qKok p l e R s m args below meth c N0 b H0 rho tys D nL Rw Qf Rel kk) (hno : ∀ x nc ns, ¬ Rel (.inr (.inr x)) nc ns) (hadd : qAddR R Rel) (hj : q_drop Rw j = (pc, op, a0, b0, c0, ins, len) :: K) (hd : decode cc pc = .ok (ins, len))
    (ok : q_opok P I sw own nm cc nL ret Rw K pc 11 a0 b0 c0 ins len = true) (hr : Rel (qo_null P E ih kk d Rw hs pc a0 b0 c0 K L S h) nc ns) (hJ : qJ N0 b H0 rho tys D h H) (hl : ∀ z ∈ locs, N0 ≤ z.base) (hL : qLoc N0 b rho ls nL L) : W p l e R s m args below meth c H locs nc ns Qf (F0 m pc ls (S.map (q_v N0 b rho))) := by
  obtain ⟨hx, hb, hml, hown, hts, hret, hlocks, hnm, htab, hfr, hlo, htr⟩ := id C
  replace hr : Rel (kk K L (.inr (.inl none) :: S) h) nc ns := hr
  simp only [q_opok, Bool.and_eq_true, decide_eq_true_eq] at ok
  obtain ⟨ox, o1, o2⟩ := ok
  have o1 := Nat.eq_of_beq_eq_true o1
  subst o1; subst o2
  exact lv_null hx hb hd (q_next hk hj ox hr hJ hl hL)

theorem qs_dup (C : qCtx p l R s m args meth c own nm cc nL ret hh d) (Wd : qWd N0 b H0 tys D Lx xs s) (hE : qEok E rho) (hX : qScr rho Lx xs) (hk : qKok p l e R s m args below meth c N0 b H0 rho tys D nL Rw Qf Rel kk) (hno : ∀ x nc ns, ¬ Rel (.inr (.inr x)) nc ns) (hadd : qAddR R Rel) (hj : q_drop Rw j = (pc, op, a0, b0, c0, ins, len) :: K) (hd : decode cc pc = .ok (ins, len))
    (ok : q_opok P I sw own nm cc nL ret Rw K pc 12 a0 b0 c0 ins len = true) (hr : Rel (qo_dup P E ih kk d Rw hs pc a0 b0 c0 K L S h) nc ns) (hJ : qJ N0 b H0 rho tys D h H) (hl : ∀ z ∈ locs, N0 ≤ z.base) (hL : qLoc N0 b rho ls nL L) : W p l e R s m args below meth c H locs nc ns Qf (F0 m pc ls (S.map (q_v N0 b rho))) := by
  obtain ⟨hx, hb, hml, hown, hts, hret, hlocks, hnm, htab, hfr, hlo, htr⟩ := id C
  unfold qo_dup at hr
  split at hr
  · exact absurd hr (hno _ _ _)
  · next v S' =>
    split at hr
    · exact absurd hr (hno _ _ _)
    · next hv =>
      simp only [q_opok, Bool.and_eq_true, decide_eq_true_eq] at ok
      obtain ⟨ox, o1, o2⟩ := ok
      have o1 := Nat.eq_of_beq_eq_true o1
      subst o1; subst o2
      exact lv_dup hx hb hd (q_lngc hv) (q_next hk hj ox hr hJ hl hL)

theorem qs_pop (C : qCtx p l R s m args meth c own nm cc nL ret hh d) (Wd : qWd N0 b H0 tys D Lx xs s) (hE : qEok E rho) (hX : qScr rho Lx xs) (hk : qKok p l e R s m args below meth c N0 b H0 rho tys D nL Rw Qf Rel kk) (hno : ∀ x nc ns, ¬ Rel (.inr (.inr x)) nc ns) (hadd : qAddR R Rel) (hj : q_drop Rw j = (pc, op, a0, b0, c0, ins, len) :: K) (hd : decode cc pc = .ok (ins, len))
    (ok : q_opok P I sw own nm cc nL ret Rw K pc 13 a0 b0 c0 ins len = true) (hr : Rel (qo_pop P E ih kk d Rw hs pc a0 b0 c0 K L S h) nc ns) (hJ : qJ N0 b H0 rho tys D h H) (hl : ∀ z ∈ locs, N0 ≤ z.base) (hL : qLoc N0 b rho ls nL L) : W p l e R s m args below meth c H locs nc ns Qf (F0 m pc ls (S.map (q_v N0 b rho))) := by
  obtain ⟨hx, hb, hml, hown, hts, hret, hlocks, hnm, htab, hfr, hlo, htr⟩ := id C
  unfold qo_pop at hr
  split at hr
  · exact absurd hr (hno _ _ _)
  · next v S' =>
    split at hr
    · exact absurd hr (hno _ _ _)
    · next hv =>
      simp only [q_opok, Bool.and_eq_true, decide_eq_true_eq] at ok
      obtain ⟨ox, o1, o2⟩ := ok
      have o1 := Nat.eq_of_beq_eq_true o1
      subst o1; subst o2
      exact lv_pop hx hb hd (q_lngc hv) (q_next hk hj ox hr hJ hl hL)

theorem qs_if (C : qCtx p l R s m args meth c own nm cc nL ret hh d) (Wd : qWd N0 b H0 tys D Lx xs s) (hE : qEok E rho) (hX : qScr rho Lx xs) (hk : qKok p l e R s m args below meth c N0 b H0 rho tys D nL Rw Qf Rel kk) (hno : ∀ x nc ns, ¬ Rel (.inr (.inr x)) nc ns) (hadd : qAddR R Rel) (hj : q_drop Rw j = (pc, op, a0, b0, c0, ins, len) :: K) (hd : decode cc pc = .ok (ins, len))
    (ok : q_opok P I sw own nm cc nL ret Rw K pc 14 a0 b0 c0 ins len = true) (hr : Rel (qo_if P E ih kk d Rw hs pc a0 b0 c0 K L S h) nc ns) (hJ : qJ N0 b H0 rho tys D h H) (hl : ∀ z ∈ locs, N0 ≤ z.base) (hL : qLoc N0 b rho ls nL L) : W p l e R s m args below meth c H locs nc ns Qf (F0 m pc ls (S.map (q_v N0 b rho))) := by
  obtain ⟨hx, hb, hml, hown, hts, hret, hlocks, hnm, htab, hfr, hlo, htr⟩ := id C
  unfold qo_if at hr
  split at hr
  · next x S' =>
    simp only [q_opok, Bool.and_eq_true] at ok
    obtain ⟨ox, ok⟩ := ok
    split at ok
    all_goals first | (cases ok; done) | skip
    next cd off =>
    simp only [Bool.and_eq_true] at ok
    obtain ⟨o1, oc, ot⟩ := ok
    have o1 := Nat.eq_of_beq_eq_true o1
    subst o1
    unfold q_br at hr
    split at hr
    · next hc =>
      have hP := (q_cc_ok hE a0 x (0, []) hc).mp rfl
      obtain ⟨tgt, ht, hn⟩ := q_jump hk ot hr hJ hl hL
      exact q_if_t hx hb hd oc ht hP hn
    · next hc =>
      have hP : ¬ q_ccP a0 (q_i rho x) (q_i rho (0, [])) := fun z => absurd ((q_cc_ok hE a0 x (0, []) hc).mpr z) (by decide)
      have hn := q_next hk hj ox hr hJ hl hL
      obtain ⟨tgt, ht⟩ := q_tgE ot
      exact q_if_f hx hb hd oc ht hP hn
    · exact absurd hr (q_askc_no hno)
  · exact absurd hr (hno _ _ _)

theorem qs_icmp (C : qCtx p l R s m args meth c own nm cc nL ret hh d) (Wd : qWd N0 b H0 tys D Lx xs s) (hE : qEok E rho) (hX : qScr rho Lx xs) (hk : qKok p l e R s m args below meth c N0 b H0 rho tys D nL Rw Qf Rel kk) (hno : ∀ x nc ns, ¬ Rel (.inr (.inr x)) nc ns) (hadd : qAddR R Rel) (hj : q_drop Rw j = (pc, op, a0, b0, c0, ins, len) :: K) (hd : decode cc pc = .ok (ins, len))
    (ok : q_opok P I sw own nm cc nL ret Rw K pc 15 a0 b0 c0 ins len = true) (hr : Rel (qo_icmp P E ih kk d Rw hs pc a0 b0 c0 K L S h) nc ns) (hJ : qJ N0 b H0 rho tys D h H) (hl : ∀ z ∈ locs, N0 ≤ z.base) (hL : qLoc N0 b rho ls nL L) : W p l e R s m args below meth c H locs nc ns Qf (F0 m pc ls (S.map (q_v N0 b rho))) := by
  obtain ⟨hx, hb, hml, hown, hts, hret, hlocks, hnm, htab, hfr, hlo, htr⟩ := id C
  unfold qo_icmp at hr
  split at hr
  · next y x S' =>
    simp only [q_opok, Bool.and_eq_true] at ok
    obtain ⟨ox, ok⟩ := ok
    split at ok
    all_goals first | (cases ok; done) | skip
    next cd off =>
    simp only [Bool.and_eq_true] at ok
    obtain ⟨o1, oc, ot⟩ := ok
    have o1 := Nat.eq_of_beq_eq_true o1
    subst o1
    unfold q_br at hr
    split at hr
    · next hc =>
      have hP := (q_cc_ok hE a0 x y hc).mp rfl
      obtain ⟨tgt, ht, hn⟩ := q_jump hk ot hr hJ hl hL
      exact q_icmp_t hx hb hd oc ht hP hn
    · next hc =>
      have hP : ¬ q_ccP a0 (q_i rho x) (q_i rho y) := fun z => absurd ((q_cc_ok hE a0 x y hc).mpr z) (by decide)
      have hn := q_next hk hj ox hr hJ hl hL
      obtain ⟨tgt, ht⟩ := q_tgE ot
      exact q_icmp_f hx hb hd oc ht hP hn
    · exact absurd hr (q_askc_no hno)
  · exact absurd hr (hno _ _ _)

theorem qs_ifnull (C : qCtx p l R s m args meth c own nm cc nL ret hh d) (Wd : qWd N0 b H0 tys D Lx xs s) (hE : qEok E rho) (hX : qScr rho Lx xs) (hk : qKok p l e R s m args below meth c N0 b H0 rho tys D nL Rw Qf Rel kk) (hno : ∀ x nc ns, ¬ Rel (.inr (.inr x)) nc ns) (hadd : qAddR R Rel) (hj : q_drop Rw j = (pc, op, a0, b0, c0, ins, len) :: K) (hd : decode cc pc = .ok (ins, len))
    (ok : q_opok P I sw own nm cc nL ret Rw K pc 16 a0 b0 c0 ins len = true) (hr : Rel (qo_ifnull P E ih kk d Rw hs pc a0 b0 c0 K L S h) nc ns) (hJ : qJ N0 b H0 rho tys D h H) (hl : ∀ z ∈ locs, N0 ≤ z.base) (hL : qLoc N0 b rho ls nL L) : W p l e R s m args below meth c H locs nc ns Qf (F0 m pc ls (S.map (q_v N0 b rho))) := by
  obtain ⟨hx, hb, hml, hown, hts, hret, hlocks, hnm, htab, hfr, hlo, htr⟩ := id C
  simp only [q_opok, Bool.and_eq_true] at ok
  obtain ⟨ox, ok⟩ := ok
  split at ok
  all_goals first | (cases ok; done) | skip
  next off =>
  simp only [Bool.and_eq_true] at ok
  obtain ⟨o1, o2⟩ := ok
  have o1 := Nat.eq_of_beq_eq_true o1
  subst o1
  unfold qo_ifnull at hr
  split at hr
  · obtain ⟨tgt, ht, hn⟩ := q_jump hk o2 hr hJ hl hL
    exact lv_ifnullN hx hb hd ht hn
  · exact lv_ifnull hx hb hd (q_next hk hj ox hr hJ hl hL)
  · exact absurd hr (hno _ _ _)

theorem qs_ifnonnull (C : qCtx p l R s m args meth c own nm cc nL ret hh d) (Wd : qWd N0 b H0 tys D Lx xs s) (hE : qEok E rho) (hX : qScr rho Lx xs) (hk : qKok p l e R s m args below meth c N0 b H0 rho tys D nL Rw Qf Rel kk) (hno : ∀ x nc ns, ¬ Rel (.inr (.inr x)) nc ns) (hadd : qAddR R Rel) (hj : q_drop Rw j = (pc, op, a0, b0, c0, ins, len) :: K) (hd : decode cc pc = .ok (ins, len))
    (ok : q_opok P I sw own nm cc nL ret Rw K pc 17 a0 b0 c0 ins len = true) (hr : Rel (qo_ifnonnull P E ih kk d Rw hs pc a0 b0 c0 K L S h) nc ns) (hJ : qJ N0 b H0 rho tys D h H) (hl : ∀ z ∈ locs, N0 ≤ z.base) (hL : qLoc N0 b rho ls nL L) : W p l e R s m args below meth c H locs nc ns Qf (F0 m pc ls (S.map (q_v N0 b rho))) := by
  obtain ⟨hx, hb, hml, hown, hts, hret, hlocks, hnm, htab, hfr, hlo, htr⟩ := id C
  simp only [q_opok, Bool.and_eq_true] at ok
  obtain ⟨ox, ok⟩ := ok
  split at ok
  all_goals first | (cases ok; done) | skip
  next off =>
  simp only [Bool.and_eq_true] at ok
  obtain ⟨o1, o2⟩ := ok
  have o1 := Nat.eq_of_beq_eq_true o1
  subst o1
  unfold qo_ifnonnull at hr
  split at hr
  · exact lv_ifnonnullN hx hb hd (q_next hk hj ox hr hJ hl hL)
  · obtain ⟨tgt, ht, hn⟩ := q_jump hk o2 hr hJ hl hL
    exact lv_ifnonnull hx hb hd ht hn
  · exact absurd hr (hno _ _ _)

theorem qs_acmpeq (C : qCtx p l R s m args meth c own nm cc nL ret hh d) (Wd : qWd N0 b H0 tys D Lx xs s) (hE : qEok E rho) (hX : qScr rho Lx xs) (hk : qKok p l e R s m args below meth c N0 b H0 rho tys D nL Rw Qf Rel kk) (hno : ∀ x nc ns, ¬ Rel (.inr (.inr x)) nc ns) (hadd : qAddR R Rel) (hj : q_drop Rw j = (pc, op, a0, b0, c0, ins, len) :: K) (hd : decode cc pc = .ok (ins, len))
    (ok : q_opok P I sw own nm cc nL ret Rw K pc 18 a0 b0 c0 ins len = true) (hr : Rel (qo_acmpeq P E ih kk d Rw hs pc a0 b0 c0 K L S h) nc ns) (hJ : qJ N0 b H0 rho tys D h H) (hl : ∀ z ∈ locs, N0 ≤ z.base) (hL : qLoc N0 b rho ls nL L) : W p l e R s m args below meth c H locs nc ns Qf (F0 m pc ls (S.map (q_v N0 b rho))) := by
  obtain ⟨hx, hb, hml, hown, hts, hret, hlocks, hnm, htab, hfr, hlo, htr⟩ := id C
  simp only [q_opok, Bool.and_eq_true] at ok
  obtain ⟨ox, ok⟩ := ok
  split at ok
  all_goals first | (cases ok; done) | skip
  next off =>
  simp only [Bool.and_eq_true] at ok
  obtain ⟨o1, o2⟩ := ok
  have o1 := Nat.eq_of_beq_eq_true o1
  subst o1
  have hinj : ∀ {x y : Option Nat}, q_r N0 b x = q_r N0 b y → x = y := fun z => q_r_inj Wd.2.2.2.1 z
  unfold qo_acmpeq at hr
  split at hr
  · next y x S' =>
    split at hr
    · next hc =>
      have hxy := q_oeq_iff.mp hc
      obtain ⟨tgt, ht, hn⟩ := q_jump hk o2 hr hJ hl hL
      exact lv_acmp_eq (rx := q_r N0 b x) (ry := q_r N0 b y) hx hb hd ht (fun _ => hn) (fun z => absurd (by rw [hxy]) z)
    · next hc =>
      have hxy : ¬ x = y := fun z => absurd (q_oeq_iff.mpr z) (by rw [hc]; decide)
      obtain ⟨tgt, ht⟩ := q_tgE o2
      exact lv_acmp_eq (rx := q_r N0 b x) (ry := q_r N0 b y) hx hb hd ht (fun z => absurd (hinj z) hxy) (fun _ => q_next hk hj ox hr hJ hl hL)
  · exact absurd hr (hno _ _ _)

theorem qs_acmpne (C : qCtx p l R s m args meth c own nm cc nL ret hh d) (Wd : qWd N0 b H0 tys D Lx xs s) (hE : qEok E rho) (hX : qScr rho Lx xs) (hk : qKok p l e R s m args below meth c N0 b H0 rho tys D nL Rw Qf Rel kk) (hno : ∀ x nc ns, ¬ Rel (.inr (.inr x)) nc ns) (hadd : qAddR R Rel) (hj : q_drop Rw j = (pc, op, a0, b0, c0, ins, len) :: K) (hd : decode cc pc = .ok (ins, len))
    (ok : q_opok P I sw own nm cc nL ret Rw K pc 19 a0 b0 c0 ins len = true) (hr : Rel (qo_acmpne P E ih kk d Rw hs pc a0 b0 c0 K L S h) nc ns) (hJ : qJ N0 b H0 rho tys D h H) (hl : ∀ z ∈ locs, N0 ≤ z.base) (hL : qLoc N0 b rho ls nL L) : W p l e R s m args below meth c H locs nc ns Qf (F0 m pc ls (S.map (q_v N0 b rho))) := by
  obtain ⟨hx, hb, hml, hown, hts, hret, hlocks, hnm, htab, hfr, hlo, htr⟩ := id C
  simp only [q_opok, Bool.and_eq_true] at ok
  obtain ⟨ox, ok⟩ := ok
  split at ok
  all_goals first | (cases ok; done) | skip
  next off =>
  simp only [Bool.and_eq_true] at ok
  obtain ⟨o1, o2⟩ := ok
  have o1 := Nat.eq_of_beq_eq_true o1
  subst o1
  have hinj : ∀ {x y : Option Nat}, q_r N0 b x = q_r N0 b y → x = y := fun z => q_r_inj Wd.2.2.2.1 z
  unfold qo_acmpne at hr
  split at hr
  · next y x S' =>
    split at hr
    · next hc =>
      have hxy := q_oeq_iff.mp hc
      obtain ⟨tgt, ht⟩ := q_tgE o2
      exact lv_acmp_ne (rx := q_r N0 b x) (ry := q_r N0 b y) hx hb hd ht (fun z => absurd (by rw [hxy]) z) (fun _ => q_next hk hj ox hr hJ hl hL)
    · next hc =>
      have hxy : ¬ x = y := fun z => absurd (q_oeq_iff.mpr z) (by rw [hc]; decide)
      obtain ⟨tgt, ht, hn⟩ := q_jump hk o2 hr hJ hl hL
      exact lv_acmp_ne (rx := q_r N0 b x) (ry := q_r N0 b y) hx hb hd ht (fun _ => hn) (fun z => absurd (hinj z) hxy)
  · exact absurd hr (hno _ _ _)

theorem qs_goto (C : qCtx p l R s m args meth c own nm cc nL ret hh d) (Wd : qWd N0 b H0 tys D Lx xs s) (hE : qEok E rho) (hX : qScr rho Lx xs) (hk : qKok p l e R s m args below meth c N0 b H0 rho tys D nL Rw Qf Rel kk) (hno : ∀ x nc ns, ¬ Rel (.inr (.inr x)) nc ns) (hadd : qAddR R Rel) (hj : q_drop Rw j = (pc, op, a0, b0, c0, ins, len) :: K) (hd : decode cc pc = .ok (ins, len))
    (ok : q_opok P I sw own nm cc nL ret Rw K pc 20 a0 b0 c0 ins len = true) (hr : Rel (qo_goto P E ih kk d Rw hs pc a0 b0 c0 K L S h) nc ns) (hJ : qJ N0 b H0 rho tys D h H) (hl : ∀ z ∈ locs, N0 ≤ z.base) (hL : qLoc N0 b rho ls nL L) : W p l e R s m args below meth c H locs nc ns Qf (F0 m pc ls (S.map (q_v N0 b rho))) := by
  obtain ⟨hx, hb, hml, hown, hts, hret, hlocks, hnm, htab, hfr, hlo, htr⟩ := id C
  replace hr : Rel (kk (q_drop Rw a0) L S h) nc ns := hr
  simp only [q_opok] at ok
  split at ok
  all_goals first | (cases ok; done) | skip
  simp only [Bool.and_eq_true] at ok
  obtain ⟨o1, o2⟩ := ok
  have o1 := Nat.eq_of_beq_eq_true o1
  subst o1
  obtain ⟨tgt, ht, hn⟩ := q_jump hk o2 hr hJ hl hL
  exact lv_goto hx hb hd ht hn

theorem qs_i2l (C : qCtx p l R s m args meth c own nm cc nL ret hh d) (Wd : qWd N0 b H0 tys D Lx xs s) (hE : qEok E rho) (hX : qScr rho Lx xs) (hk : qKok p l e R s m args below meth c N0 b H0 rho tys D nL Rw Qf Rel kk) (hno : ∀ x nc ns, ¬ Rel (.inr (.inr x)) nc ns) (hadd : qAddR R Rel) (hj : q_drop Rw j = (pc, op, a0, b0, c0, ins, len) :: K) (hd : decode cc pc = .ok (ins, len))
    (ok : q_opok P I sw own nm cc nL ret Rw K pc 45 a0 b0 c0 ins len = true) (hr : Rel (qo_i2l P E ih kk d Rw hs pc a0 b0 c0 K L S h) nc ns) (hJ : qJ N0 b H0 rho tys D h H) (hl : ∀ z ∈ locs, N0 ≤ z.base) (hL : qLoc N0 b rho ls nL L) : W p l e R s m args below meth c H locs nc ns Qf (F0 m pc ls (S.map (q_v N0 b rho))) := by
  obtain ⟨hx, hb, hml, hown, hts, hret, hlocks, hnm, htab, hfr, hlo, htr⟩ := id C
  unfold qo_i2l at hr
  split at hr
  · next x S' =>
    simp only [q_opok, Bool.and_eq_true, decide_eq_true_eq] at ok
    obtain ⟨ox, o1, o2⟩ := ok
    have o1 := Nat.eq_of_beq_eq_true o1
    subst o1; subst o2
    obtain ⟨x1, x2⟩ := x
    split at hr
    · next hc =>
      have e1 : x2 = [] := q_isc_eq hc
      subst e1
      exact lv_i2l (x := nI x1) (v := q_l x1) hx hb hd rfl (q_next hk hj ox hr hJ hl hL)
    · exact absurd hr (hno _ _ _)
  · exact absurd hr (hno _ _ _)

theorem qs_lcmp (C : qCtx p l R s m args meth c own nm cc nL ret hh d) (Wd : qWd N0 b H0 tys D Lx xs s) (hE : qEok E rho) (hX : qScr rho Lx xs) (hk : qKok p l e R s m args below meth c N0 b H0 rho tys D nL Rw Qf Rel kk) (hno : ∀ x nc ns, ¬ Rel (.inr (.inr x)) nc ns) (hadd : qAddR R Rel) (hj : q_drop Rw j = (pc, op, a0, b0, c0, ins, len) :: K) (hd : decode cc pc = .ok (ins, len))
    (ok : q_opok P I sw own nm cc nL ret Rw K pc 46 a0 b0 c0 ins len = true) (hr : Rel (qo_lcmp P E ih kk d Rw hs pc a0 b0 c0 K L S h) nc ns) (hJ : qJ N0 b H0 rho tys D h H) (hl : ∀ z ∈ locs, N0 ≤ z.base) (hL : qLoc N0 b rho ls nL L) : W p l e R s m args below meth c H locs nc ns Qf (F0 m pc ls (S.map (q_v N0 b rho))) := by
  obtain ⟨hx, hb, hml, hown, hts, hret, hlocks, hnm, htab, hfr, hlo, htr⟩ := id C
  unfold qo_lcmp at hr
  split at hr
  · next y x S' =>
    simp only [q_opok, Bool.and_eq_true, decide_eq_true_eq] at ok
    obtain ⟨ox, o1, o2⟩ := ok
    have o1 := Nat.eq_of_beq_eq_true o1
    subst o1; subst o2
    split at hr
    · next hc =>
      have e1 := Nat.eq_of_beq_eq_true hc
      subst e1
      refine W.lcmp (x := q_l x) (y := q_l x) hx hb hd ?_
      rw [q_lcmp0 (q_l x) rho]
      exact q_next hk hj ox hr hJ hl hL
    · exact absurd hr (hno _ _ _)
  · exact absurd hr (hno _ _ _)

theorem qs_lconst (C : qCtx p l R s m args meth c own nm cc nL ret hh d) (Wd : qWd N0 b H0 tys D Lx xs s) (hE : qEok E rho) (hX : qScr rho Lx xs) (hk : qKok p l e R s m args below meth c N0 b H0 rho tys D nL Rw Qf Rel kk) (hno : ∀ x nc ns, ¬ Rel (.inr (.inr x)) nc ns) (hadd : qAddR R Rel) (hj : q_drop Rw j = (pc, op, a0, b0, c0, ins, len) :: K) (hd : decode cc pc = .ok (ins, len))
    (ok : q_opok P I sw own nm cc nL ret Rw K pc 47 a0 b0 c0 ins len = true) (hr : Rel (qo_lconst P E ih kk d Rw hs pc a0 b0 c0 K L S h) nc ns) (hJ : qJ N0 b H0 rho tys D h H) (hl : ∀ z ∈ locs, N0 ≤ z.base) (hL : qLoc N0 b rho ls nL L) : W p l e R s m args below meth c H locs nc ns Qf (F0 m pc ls (S.map (q_v N0 b rho))) := by
  obtain ⟨hx, hb, hml, hown, hts, hret, hlocks, hnm, htab, hfr, hlo, htr⟩ := id C
  replace hr : Rel (kk K L (.inr (.inr a0) :: S) h) nc ns := hr
  simp only [q_opok, Bool.and_eq_true] at ok
  obtain ⟨ox, o1, ok⟩ := ok
  have o1 := Nat.eq_of_beq_eq_true o1
  subst o1
  split at ok
  all_goals first | (cases ok; done) | skip
  next k =>
  have o2 := Nat.eq_of_beq_eq_true ok
  exact lv_lconst (v := q_l a0) hx hb hd (by rw [← o2]; exact q_l01 k) (q_next hk hj ox hr hJ hl hL)

end QO