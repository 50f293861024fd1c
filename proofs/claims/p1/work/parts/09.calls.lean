/-! CALLS, RETURNS, THROWS -/
def q_core : qRes → Option ((Option qV × qHp) ⊕ (Nat × qHp))
  | .inl (v, h, _, _) => some (.inl (v, h))
  | .inr (.inl (X, h, _, _)) => some (.inr (X, h))
  | .inr (.inr _) => none
def q_mc : qRes → Nat
  | .inl (_, _, a, _) => a
  | .inr (.inl (_, _, a, _)) => a
  | .inr (.inr _) => 0
def q_ms : qRes → Nat
  | .inl (_, _, _, a) => a
  | .inr (.inl (_, _, _, a)) => a
  | .inr (.inr _) => 0
def q_Qc (N0 b : Nat) (H0 : Heap) (rho : Nat → Nat) (tys : List (ClassId × FieldType)) (D : va_G) (r : qRes) : Array Value → State → Outcome → State → Prop := fun _ _ o t =>
  ∃ (v : Option qV) (h : qHp), q_core r = some (.inl (v, h)) ∧ o = .returned (v.map (q_v N0 b rho)) ∧ qJ N0 b H0 rho tys D h t.heap
def q_XC (N0 b : Nat) (H0 : Heap) (rho : Nat → Nat) (tys : List (ClassId × FieldType)) (D : va_G) (r : qRes) : String → State → State → Prop := fun E _ t =>
  ∃ (X : Nat) (h : qHp), q_core r = some (.inr (X, h)) ∧ q_exc[X]? = some E ∧ qJ N0 b H0 rho tys D h t.heap
def q_Pc (N0 b : Nat) (H0 : Heap) (rho : Nat → Nat) (tys : List (ClassId × FieldType)) (D : va_G) (Lx : Nat) (xs : Nat → Int32) (As : List qV) (h : qHp) : Array Value → State → Prop := fun v U =>
  v = (As.map (q_v N0 b rho)).toArray ∧ qWd N0 b H0 tys D Lx xs U ∧ qJ N0 b H0 rho tys D h U.heap
def q_code (y : MethodName) (cy : ByteArray) (nY : Nat) (ry : Option FieldType) (hy : List (Nat × Nat × Nat × Nat)) : Jvm.Cond := match hy with
  | [] => .code y cy nY ry
  | _ :: _ => .codeWith y cy nY ry hy
def q_rm (d : Nat) (r : qRes) : Room := { frames := d, cells := q_mc r, slots := q_ms r, locals := 32 * d }
/-- the contract of a callee, out of a run of the evaluator -/
def qMet (l : Launch) (N0 b : Nat) (H0 : Heap) (rho : Nat → Nat) (tys : List (ClassId × FieldType)) (D : va_G) (Lx : Nat) (xs : Nat → Int32) (d : Nat) (nY : Nat) (i : qInf) (As : List qV) (h : qHp) (r : qRes) : Prop :=
  vx_Met l i.1 (q_code i.1 i.2.1 nY i.2.2.1 i.2.2.2.1 :: q_TBL) (q_rm d r) (q_Pc N0 b H0 rho tys D Lx xs As h) (q_Qc N0 b H0 rho tys D r) (q_XC N0 b H0 rho tys D r) (q_mc r) (q_ms r) (fun q => N0 ≤ q)
/-- what the list of methods says of one: its code is a word of the tables -/
def qMok (nY : Nat) (i : qInf) : Prop := q_code i.1 i.2.1 nY i.2.2.1 i.2.2.2.1 ∈ q_TBL ∧ nY ≤ 13 ∧ i.1.cls ≠ "java/lang/invoke/MethodHandle" ∧ i.1.cls ≠ "java/lang/invoke/VarHandle"
def qCalls (l : Launch) (N0 b : Nat) (H0 : Heap) (rho : Nat → Nat) (tys : List (ClassId × FieldType)) (D : va_G) (Lx : Nat) (xs : Nat → Int32) (P : List qM) (I : List qInf) (ih : qIh) : Prop :=
  ∀ (k : Nat) (M : qM) (i : qInf), P[k]? = some M → I[k]? = some i → qMok M.1 i ∧ ∀ (d : Nat) (As : List qV) (h : qHp) (r : qRes), As.length ≤ M.1 → (∀ v ∈ As, q_lng v = false) → ih d M.2.1 M.2.2 M.2.1 (q_loc M.1 As) [] h = r → (∃ z, q_core r = some z) → qMet l N0 b H0 rho tys D Lx xs d M.1 i As h r
def q_RR (N0 b : Nat) (H0 : Heap) (rho : Nat → Nat) (tys : List (ClassId × FieldType)) (D : va_G) (R : Room) (s : State) (args : Array Value) (Rel : qRes → Nat → Nat → Prop) (Qc : Array Value → State → Outcome → State → Prop) : Prop :=
  ∀ (v : Option qV) (h : qHp) (nc ns : Nat), Rel (.inl (v, h, 0, 0)) nc ns → nc ≤ R.cells ∧ ns ≤ R.slots ∧ ∀ t : State, qJ N0 b H0 rho tys D h t.heap → Qc args s (.returned (v.map (q_v N0 b rho))) t
def q_RT (N0 b : Nat) (H0 : Heap) (rho : Nat → Nat) (tys : List (ClassId × FieldType)) (D : va_G) (R : Room) (s : State) (c : Code) (hh : List (Nat × Nat × Nat × Nat)) (Rel : qRes → Nat → Nat → Prop) (XC : String → State → State → Prop) : Prop :=
  ∀ (X : Nat) (h : qHp) (mc ms nc ns : Nat), Rel (.inr (.inl (X, h, mc, ms))) nc ns → nc + mc ≤ R.cells ∧ ns + ms ≤ R.slots ∧ (hh = [] → c.exceptionTable.toList = []) ∧ ∀ (t : State) (E : String), q_exc[X]? = some E → qJ N0 b H0 rho tys D h t.heap → XC E s t
theorem q_hd_ok {own : String} {Rw : List qRow} : ∀ {hs : List qHd} {hh : List (Nat × Nat × Nat × Nat)} {js : List Nat} {pc X t : Nat}, q_hok own Rw hs hh js = true → q_hd hs pc X = some t →
    ∃ (pre : List (Nat × Nat × Nat × Nat)) (x : Nat × Nat × Nat × Nat) (suf : List (Nat × Nat × Nat × Nat)) (j : Nat) (E : String), hh = pre ++ x :: suf ∧ q_exc[X]? = some E ∧ x.1 ≤ pc ∧ pc < x.2.1 ∧ x.2.2.2 ≠ 0 ∧ q_w j (.classLink own x.2.2.2 E) = true ∧ (∃ r K, q_drop Rw t = r :: K ∧ r.1 = x.2.2.1) ∧
      ∀ z ∈ pre, ¬ (z.1 ≤ pc ∧ pc < z.2.1) ∨ (z.2.2.2 ≠ 0 ∧ ∃ (j : Nat) (E2 : String), q_w j (.classLink own z.2.2.2 E2) = true ∧ E2 ∈ q_exc ∧ E2 ≠ E)
  | [], _, _, _, _, _, _, h => by cases h
  | x :: l, [], _, _, _, _, h, _ => by cases h
  | x :: l, y :: m, [], _, _, _, h, _ => by cases h
  | x :: l, y :: m, j :: js, pc, X, t, h, h2 => by
    simp only [q_hok, Bool.and_eq_true] at h
    obtain ⟨a1, a2, a3, a4, a5, a6⟩ := h
    have a1 := Nat.eq_of_beq_eq_true a1
    have a2 := Nat.eq_of_beq_eq_true a2
    simp only [q_nth_eq] at a4
    have a5 : y.2.2.2 ≠ 0 := fun z => by rw [z] at a5; cases a5
    simp only [q_hd] at h2
    split at h2
    · next hc =>
      cases h2
      simp only [Bool.and_eq_true] at hc
      obtain ⟨c1, c2, c3⟩ := hc
      have c1 := Nat.le_of_ble_eq_true c1
      have c2 := Nat.blt_eq.mp c2
      have c3 := Nat.eq_of_beq_eq_true c3
      split at a4
      · next E hE =>
        split at a3
        · next r K hrK =>
          exact ⟨[], y, m, j, E, rfl, by rw [← c3]; exact hE, by rw [← a1]; exact c1, by rw [← a2]; exact c2, a5, a4, ⟨r, K, hrK, Nat.eq_of_beq_eq_true a3⟩, fun z hz => by cases hz⟩
        · cases a3
      · cases a4
    · next hc =>
      obtain ⟨pre, x2, suf, j2, E, g1, g2, g3, g4, g5, g6, g7, g8⟩ := q_hd_ok a6 h2
      refine ⟨y :: pre, x2, suf, j2, E, by rw [g1]; rfl, g2, g3, g4, g5, g6, g7, fun z hz => ?_⟩
      rcases List.mem_cons.mp hz with rfl | hz
      · split at a4
        · next E2 hE2 =>
          by_cases hcov : z.1 ≤ pc ∧ pc < z.2.1
          · refine Or.inr ⟨a5, j, E2, a4, List.mem_of_getElem? hE2, fun e => ?_⟩
            subst e
            have : x.2.2.2 = X := by
              have i1 := (List.getElem?_eq_some_iff.mp hE2)
              have i2 := (List.getElem?_eq_some_iff.mp g2)
              obtain ⟨i1, i3⟩ := i1
              obtain ⟨i2, i4⟩ := i2
              have hl : q_exc.length = 3 := rfl
              rw [hl] at i1 i2
              have hinj : ∀ a b : Fin 3, q_exc[a.val]? = q_exc[b.val]? → a = b := by decide
              exact congrArg Fin.val (hinj ⟨_, i1⟩ ⟨_, i2⟩ (by show q_exc[_]? = q_exc[_]?; rw [hE2, g2]))
            rw [Bool.eq_false_iff] at hc
            refine hc ?_
            simp only [Bool.and_eq_true]
            exact ⟨Nat.ble_eq.mpr (by rw [a1]; exact hcov.1), Nat.blt_eq.mpr (by rw [a2]; exact hcov.2), Nat.beq_eq.mpr this⟩
          · exact Or.inl hcov
        · cases a4
      · exact g8 z hz
section QC0
variable {p : Program} {l : Launch} {e : Env} {R : Room} {s : State} {m : MethodId} {args : Array Value} {below : List Frame} {meth : Method} {c : Code} {H : Heap} {locs : List Loc} {nc ns mc ms : Nat} {Qf : State → Prop}
variable {N0 b pc : Nat} {ls : Array Slot} {st0 rest : List Value} {Qa : State → Outcome → State → Prop} {XC : String → State → State → Prop}
theorem q_call (hr : vx_Run p l e R s m args below meth c H locs nc ns mc ms (F0 m pc ls st0) rest Qa XC (fun q => N0 ≤ q)) (hl : ∀ z ∈ locs, N0 ≤ z.base)
    (kv : ∀ (v : Option Value) (st t : State) (H1 : Heap) (locs1 : List Loc), Qa st (.returned v) t → t.heap = H1 → (∀ z ∈ locs1, N0 ≤ z.base) → W p l e R s m args below meth c H1 locs1 (nc + mc) (ns + ms) Qf (F0 m (pc + 3) ls (v.toList ++ rest)))
    (kx : ∀ (q : Addr) (E : String) (ce : Cell) (st t : State) (H1 : Heap) (locs1 : List Loc), XC E st t → t.heap = H1 → (∀ z ∈ locs1, N0 ≤ z.base) → H1[q]? = some ce → ce.vm = .none → s.vm.findClass E = some ce.cls → vx_W p l e R s m args below meth c H1 locs1 (nc + mc) (ns + ms) Qf (F0 m pc ls rest) q) : W p l e R s m args below meth c H locs nc ns Qf (F0 m pc ls st0) := by
  intro T hT X
  rcases hr T hT X with ⟨v, st₀, t, T', L, h0, X', hL, e1, e2, hq, st⟩ | ⟨q, st₀, t, T', L, E, ce, h0, X', hL, e1, e2, hq, hce, hcv, hcl, st⟩
  · obtain ⟨t2, a1, b1⟩ := kv v st₀ t T'.heap (locs ++ L) hq e1.symm (fun z hz => (List.mem_append.mp hz).elim (hl z) (hL z)) T' rfl X'
    exact ⟨t2, st t2 a1, b1⟩
  · obtain ⟨t2, a1, b1⟩ := kx q E ce st₀ t T'.heap (locs ++ L) hq e1.symm (fun z hz => (List.mem_append.mp hz).elim (hl z) (hL z)) (by rw [e1]; exact hce) hcv hcl T' rfl X'
    exact ⟨t2, st.trans a1, b1⟩
end QC0
theorem q_blind {N0 b : Nat} {H0 : Heap} {rho : Nat → Nat} {tys : List (ClassId × FieldType)} {D : va_G} {Lx : Nat} {xs : Nat → Int32} {As : List qV} {h : qHp} : FrameBlind (q_Pc N0 b H0 rho tys D Lx xs As h) := fun a U g mk q => ⟨q.1, qWd.moved (s := U) (U := U.calling g mk a) (State.WarmedH.refl U) q.2.1, q.2.2⟩
theorem q_goodTBL {y : MethodName} {cy : ByteArray} {nY : Nat} {ry : Option FieldType} {hy : List (Nat × Nat × Nat × Nat)} (h : q_code y cy nY ry hy ∈ q_TBL) : GoodIn q_TBL (q_code y cy nY ry hy :: q_TBL) := fun w hw => by
  rcases List.mem_cons.mp hw with rfl | hw
  · exact ⟨h, good_of_word (q_TBL_good h)⟩
  · exact ⟨hw, good_of_word (q_TBL_good hw)⟩
section QC
variable {p : Program} {l : Launch} {e : Env} {R : Room} {s : State} {m : MethodId} {args : Array Value} {below : List Frame} {meth : Method} {c : Code}
variable {N0 b : Nat} {H0 : Heap} {rho : Nat → Nat} {tys : List (ClassId × FieldType)} {D : va_G} {Lx : Nat} {xs : Nat → Int32}
variable {own nm : String} {cc : ByteArray} {nL : Nat} {ret : Option FieldType} {hh : List (Nat × Nat × Nat × Nat)} {d : Nat}
variable {Rw : List qRow} {hs : List qHd} {P : List qM} {I : List qInf} {sw : List Nat} {E : qEnv} {ih : qIh} {kk : qKk}
variable {Qf : State → Prop} {Rel : qRes → Nat → Nat → Prop}
variable {j pc op a0 b0 c0 len : Nat} {ins : Instr} {K : List qRow} {L : qL} {S : List qV} {h : qHp} {nc ns : Nat} {H : Heap} {locs : List Loc} {ls : Array Slot}
variable {Qc : Array Value → State → Outcome → State → Prop} {XC : String → State → State → Prop} {js : List Nat}

/-- behind a call: the answer goes on, what was thrown is caught or goes out -/
theorem q_after_ok (C : qCtx p l R s m args meth c own nm cc nL ret hh d) (Wd : qWd N0 b H0 tys D Lx xs s) (hk : qKok p l e R s m args below meth c N0 b H0 rho tys D nL Rw Qf Rel kk) (hno : ∀ x nc ns, ¬ Rel (.inr (.inr x)) nc ns) (hadd : qAddR R Rel) (hQf : Qf = vx_MQ below Qc XC args s R.cells R.slots (fun q => N0 ≤ q)) (hRthr : q_RT N0 b H0 rho tys D R s c hh Rel XC) (hhs : q_hok own Rw hs hh js = true) (hj : q_drop Rw j = (pc, op, a0, b0, c0, ins, len) :: K) (ox : q_nx pc 3 K = true)
    (okr : ∀ t r K', q_hd hs pc t = some r → q_drop Rw r = K' → True) (hrw : ∀ (k : Nat) (x : qRow) (K' : List qRow), q_drop Rw k = x :: K' → x.2.1 = 50 → decode cc x.1 = .ok (x.2.2.2.2.2.1, x.2.2.2.2.2.2) ∧ q_opok P I sw own nm cc nL ret Rw K' x.1 50 x.2.2.1 x.2.2.2.1 x.2.2.2.2.1 x.2.2.2.2.2.1 x.2.2.2.2.2.2 = true)
    {r : qRes} (hr : Rel (q_after kk Rw hs pc K L S r) nc ns) (hl : ∀ z ∈ locs, N0 ≤ z.base) (hL : qLoc N0 b rho ls nL L) {st0 : List Value} {ar : Array Value}
    (hrun : nc + q_mc r ≤ R.cells → ns + q_ms r ≤ R.slots → (∃ z, q_core r = some z) → vx_Run p l e R s m args below meth c H locs nc ns (q_mc r) (q_ms r) (F0 m pc ls st0) (S.map (q_v N0 b rho)) (q_Qc N0 b H0 rho tys D r ar) (q_XC N0 b H0 rho tys D r) (fun q => N0 ≤ q)) : W p l e R s m args below meth c H locs nc ns Qf (F0 m pc ls st0) := by
  obtain ⟨hx, hb, hml, hown, hts, hret, hlocks, hnm, htab, hfr, hlo, htr⟩ := id C
  rcases r with ⟨v, h', mc, ms⟩ | ⟨X, h', mc, ms⟩ | x
  · have hr2 : Rel (q_add1 mc ms (kk K L (v.toList ++ S) h')) nc ns := by
      cases v with
      | none => simp only [q_after, q_add_eq] at hr; exact hr
      | some v => simp only [q_after, q_add_eq] at hr; exact hr
    obtain ⟨hr3, g1, g2⟩ := hadd _ _ _ _ _ hr2
    refine q_call (hrun g1 g2 ⟨_, rfl⟩) hl (fun v1 st t H1 locs1 hq ht hl1 => ?_) (fun q E ce st t H1 locs1 hq ht hl1 _ _ _ => ?_)
    · obtain ⟨v2, h2, e1, e2, e3⟩ := hq
      simp only [q_core, Option.some.injEq, Sum.inl.injEq, Prod.mk.injEq] at e1
      obtain ⟨rfl, rfl⟩ := e1
      have e2 : v1 = v.map (q_v N0 b rho) := by injection e2
      subst e2
      rw [ht] at e3
      have hn := q_next (locs := locs1) (ls := ls) hk hj ox hr3 e3 hl1 hL
      cases v <;> exact hn
    · obtain ⟨X, h2, e1, -⟩ := hq
      simp [q_core] at e1
  · cases hs with
    | nil =>
      have hr2 : Rel (.inr (.inl (X, h', mc, ms))) nc ns := hr
      obtain ⟨g1, g2, gT, g3⟩ := hRthr X h' mc ms nc ns hr2
      refine q_call (hrun g1 g2 ⟨_, rfl⟩) hl (fun v1 st t H1 locs1 hq ht hl1 => ?_) (fun q E ce st t H1 locs1 hq ht hl1 y1 y2 y3 => ?_)
      · obtain ⟨v2, h2, e1, -⟩ := hq
        simp [q_core] at e1
      · obtain ⟨X2, h2, e1, e2, e3⟩ := hq
        simp only [q_core, Option.some.injEq, Sum.inr.injEq, Prod.mk.injEq] at e1
        obtain ⟨rfl, rfl⟩ := e1
        rw [ht] at e3
        subst hQf
        have hh0 : hh = [] := by cases hh with
          | nil => rfl
          | cons y z => cases hhs
        refine vx_out (E := E) (ce := ce) (fun x hx => ?_) hlocks y1 y2 y3 (fun t ht2 _ => g3 t E e2 (by rw [ht2]; exact e3)) hl1 g1 g2
        rw [gT hh0] at hx
        cases hx
    | cons hd0 hs0 =>
      simp only [q_after, q_set_eq] at hr
      split at hr
      · exact absurd hr (hno _ _ _)
      · next t ht0 =>
        split at hr
        · next pch ah bh chh inh lenh K' hdr =>
          rw [q_add_eq] at hr
          obtain ⟨hr3, g1, g2⟩ := hadd _ _ _ _ _ hr
          refine q_call (hrun g1 g2 ⟨_, rfl⟩) hl (fun v1 st t H1 locs1 hq ht hl1 => ?_) (fun q E ce st t1 H1 locs1 hq ht hl1 y1 y2 y3 => ?_)
          · obtain ⟨v2, h2, e1, -⟩ := hq
            simp [q_core] at e1
          · obtain ⟨X2, h2, e1, e2, e3⟩ := hq
            simp only [q_core, Option.some.injEq, Sum.inr.injEq, Prod.mk.injEq] at e1
            obtain ⟨rfl, rfl⟩ := e1
            rw [ht] at e3
            obtain ⟨pre, x, suf, j2, E3, k1, k2, k3, k4, k5, k6, ⟨rr, KK, k7, k8⟩, k9⟩ := q_hd_ok hhs ht0
            cases Option.some.inj (k2.symm.trans e2)
            rw [hdr] at k7
            cases k7
            have hE : E ∈ q_exc := List.mem_of_getElem? e2
            refine vx_catch (name := E) hown (tableOf pre) ⟨x.1, x.2.1, x.2.2.1, x.2.2.2⟩ (tableOf suf) (by rw [htab (by rw [k1]; simp), k1]; simp [tableOf]) (fun z hz => ?_) (by simp only [covers]; simp; exact ⟨k3, k4⟩) k5 (hts _ (q_w_in k6).1) (va_Nw.use rfl (Wd.2.2.2.2.2.2.2.2.1.1 E hE)) y1 y2 y3 ?_
            · obtain ⟨z0, hz0, rfl⟩ := List.mem_map.mp hz
              rcases k9 z0 hz0 with h9 | ⟨h9, j3, E2, w1, w2, w3⟩
              · left
                simp only [covers]
                simp
                intro h10
                exact Nat.not_lt.mp (fun h11 => h9 ⟨h10, h11⟩)
              · exact Or.inr ⟨h9, E2, hts _ (q_w_in w1).1, Wd.2.2.2.2.2.2.2.2.2.1 E hE E2 w2 (Ne.symm w3)⟩
            · obtain ⟨od, ok⟩ := hrw t _ _ hdr rfl
              simp only [q_opok, Bool.and_eq_true] at ok
              obtain ⟨oy, on, ok⟩ := ok
              have on := Nat.blt_eq.mp on
              have hst : ∀ ls' : Array Slot, lv_has ls' nL ((ah, Value.ref q) :: (q_lv N0 b rho nL L).filter (fun q => !(q.1 == ah) && !(q.1 + 1 == ah && q.2.category == 2))) → W p l e R s m args below meth c H1 locs1 (nc + mc) (ns + ms) Qf (F0 m (pch + lenh) ls' []) := fun ls' h' => q_next (S := []) hk hdr oy hr3 e3 hl1 (hL.st h' none (fun v hv => by cases hv))
              show W p l e R s m args below meth c H1 locs1 (nc + mc) (ns + ms) Qf (F0 m x.2.2.1 ls [.ref q])
              rw [← k8]
              split at ok
              all_goals first | (cases ok; done) | skip
              all_goals simp only [Bool.and_eq_true] at ok
              all_goals obtain ⟨o1, o2⟩ := ok
              all_goals have o1 := Nat.eq_of_beq_eq_true o1
              all_goals have o2 := Nat.eq_of_beq_eq_true o2
              all_goals subst o1
              · exact lv_astore_n hx hb od o2 hL.lv on rfl hst
              · subst o2; exact lv_astore hx hb od hL.lv on rfl hst
        · exact absurd hr (hno _ _ _)
  · exact absurd hr (hno _ _ _)

theorem qs_callv (C : qCtx p l R s m args meth c own nm cc nL ret hh d) (Wd : qWd N0 b H0 tys D Lx xs s) (hE : qEok E rho) (hX : qScr rho Lx xs) (hk : qKok p l e R s m args below meth c N0 b H0 rho tys D nL Rw Qf Rel kk) (hno : ∀ x nc ns, ¬ Rel (.inr (.inr x)) nc ns) (hadd : qAddR R Rel) (hQf : Qf = vx_MQ below Qc XC args s R.cells R.slots (fun q => N0 ≤ q)) (hRret : q_RR N0 b H0 rho tys D R s args Rel Qc) (hRthr : q_RT N0 b H0 rho tys D R s c hh Rel XC) (hB : ∀ q, q < N0 → s.heap[q]? = H0[q]?) (hhs : q_hok own Rw hs hh js = true) (hcs : qCalls l N0 b H0 rho tys D Lx xs P I ih) (hrw : ∀ (k : Nat) (x : qRow) (K' : List qRow), q_drop Rw k = x :: K' → x.2.1 = 50 → decode cc x.1 = .ok (x.2.2.2.2.2.1, x.2.2.2.2.2.2) ∧ q_opok P I sw own nm cc nL ret Rw K' x.1 50 x.2.2.1 x.2.2.2.1 x.2.2.2.2.1 x.2.2.2.2.2.1 x.2.2.2.2.2.2 = true) (hj : q_drop Rw j = (pc, op, a0, b0, c0, ins, len) :: K) (hd : decode cc pc = .ok (ins, len))
    (ok : q_opok P I sw own nm cc nL ret Rw K pc 35 a0 b0 c0 ins len = true) (hr : Rel (qo_callr P E ih kk d Rw hs pc a0 b0 c0 K L S h) nc ns) (hJ : qJ N0 b H0 rho tys D h H) (hl : ∀ z ∈ locs, N0 ≤ z.base) (hL : qLoc N0 b rho ls nL L) : W p l e R s m args below meth c H locs nc ns Qf (F0 m pc ls (S.map (q_v N0 b rho))) := by
  obtain ⟨hx, hb, hml, hown, hts, hret, hlocks, hnm, htab, hfr, hlo, htr⟩ := id C
  unfold qo_callr at hr
  simp only [q_nth_eq] at hr
  split at hr
  · exact absurd hr (hno _ _ _)
  · next d' =>
    split at hr
    · exact absurd hr (hno _ _ _)
    · next M hM =>
      split at hr
      · next r As S' hpop =>
        split at hr
        · next o ho =>
          split at hr
          · next hc =>
            simp only [Bool.and_eq_true] at hc
            obtain ⟨c1, c2, c3⟩ := hc
            have c1 := Nat.eq_of_beq_eq_true c1
            have c2 := Nat.le_of_ble_eq_true c2
            have c3 := Nat.blt_eq.mp c3
            simp only [q_opok, Bool.and_eq_true] at ok
            obtain ⟨ox, ok⟩ := ok
            split at ok
            all_goals first | (cases ok; done) | skip
            next idx =>
            simp only [Bool.and_eq_true] at ok
            obtain ⟨o1, ok⟩ := ok
            have o1 := Nat.eq_of_beq_eq_true o1
            subst o1
            split at ok
            all_goals first | (cases ok; done) | skip
            next y cy ry hy j1 j2 j3 j4 hi =>
            rw [q_nth_eq] at hi
            obtain ⟨hmok, hmet⟩ := hcs a0 M _ hM hi
            obtain ⟨m1, m2, m3, m4⟩ := hmok
            obtain ⟨B, b1, b2, b3, b4⟩ := q_pop_ok hpop
            rw [List.append_nil] at b1
            have hBr : B = As.reverse ++ [.inr (.inl (some (r + 1)))] := by
              have := congrArg List.reverse b1
              simpa using this.symm
            have hlen : As.length = b0 % 32 := by
              rw [hBr] at b3
              simp at b3
              exact b3
            have hstk : S.map (q_v N0 b rho) = (As.map (q_v N0 b rho)).reverse ++ Value.ref (N0 + r) :: S'.map (q_v N0 b rho) := by
              rw [b2, hBr]
              simp [q_v, q_r, q_ad, va_rf]
            have hln : ∀ v ∈ (.inr (.inl (some (r + 1))) :: As : List qV), q_lng v = false := fun v hv => b4 v (by
              rw [hBr]
              rcases List.mem_cons.mp hv with rfl | hv
              · simp
              · simp [hv])
            refine q_after_ok (S := S') C Wd hk hno hadd hQf hRthr hhs hj ox (fun _ _ _ _ _ => trivial) hrw hr hl hL (ar := (Value.ref (N0 + r) :: As.map (q_v N0 b rho)).toArray) (fun g1 g2 g3 => ?_)
            have hm := hmet d' (.inr (.inl (some (r + 1))) :: As) h _ (by simp; omega) hln rfl g3
            have hpre : ∀ U : State, U.heap = H → s.WarmedH U.vm → q_Pc N0 b H0 rho tys D Lx xs (.inr (.inl (some (r + 1))) :: As) h (Value.ref (N0 + r) :: As.map (q_v N0 b rho)).toArray U := fun U hU hW => ⟨rfl, qWd.moved hW Wd, by rw [hU]; exact hJ⟩
            have hcf : CallFix p m c cc nL s args q_TBL own := ⟨hx, hb, hml, hown, hts⟩
            have hroom : (q_rm d' (ih d' M.2.1 M.2.2 M.2.1 (q_loc M.1 (.inr (.inl (some (r + 1))) :: As)) [] h)).frames + 1 ≤ R.frames ∧ 8 + (M.1 + 11) + (q_rm d' (ih d' M.2.1 M.2.2 M.2.1 (q_loc M.1 (.inr (.inl (some (r + 1))) :: As)) [] h)).locals ≤ R.locals := ⟨by show d' + 1 ≤ R.frames; omega, by show 8 + (M.1 + 11) + 32 * d' ≤ R.locals; omega⟩
            have hst8 : 2 * (F0 m pc ls (S.map (q_v N0 b rho))).monitorRoom + ((S'.map (q_v N0 b rho)).map fun v => v.category).sum ≤ 8 := by
              show 0 + _ ≤ 8
              rw [q_cats]; omega
            simp only [Bool.and_eq_true] at ok
            obtain ⟨oh, ok⟩ := ok
            split at ok
            · next C0 T0 N9 hcl =>
              simp only [Bool.and_eq_true, decide_eq_true_eq] at ok
              obtain ⟨oC, onp, ow1, ow2, ow3, ow4⟩ := ok
              rw [q_nth_eq] at hcl
              have onp := of_decide_eq_true onp
              have hcells : ∃ cellB : Cell, H[N0 + r]? = some cellB ∧ cellB.vm.isStatics = false ∧ s.vm.findClass y.cls = some cellB.cls := by
                obtain ⟨ci, fs⟩ := o
                dsimp only at c1
                subst c1
                obtain ⟨cell, e1, e2, e3⟩ := va_recv (q0 := 0) Wd.1 (hJ.one ho) hcl (show [(N0 + r, q_c N0 b rho tys (Sum.inr (b0 / 32, fs)))][0]? = some (N0 + r, Sum.inr (b0 / 32, fs.map (q_v N0 b rho))) from rfl)
                exact ⟨cell, e1, e2, by rw [← oC]; exact e3⟩
              match hy, m1, hm, oh with
              | [], m1, hm, _ =>
                exact vx_runV (C := y.cls) hcf hm ⟨callB_of (b0 % 32) hts (q_goodTBL m1) rfl rfl rfl (hts _ (q_w_in ow4).1) (hts _ (q_w_in ow1).1) ⟨m3, m4, onp⟩ hroom, hts _ (q_w_in ow2).1, hts _ (q_w_in ow3).1⟩ ⟨q_blind, hcells, hpre⟩ rfl (by rw [List.length_map]; exact hlen) hL.1 hstk hst8 hd ⟨g1, g2⟩
              | z :: w, m1, hm, oh => cases oh
            · cases ok
          · exact absurd hr (hno _ _ _)
        · exact absurd hr (hno _ _ _)
      · exact absurd hr (hno _ _ _)

theorem qs_calli (C : qCtx p l R s m args meth c own nm cc nL ret hh d) (Wd : qWd N0 b H0 tys D Lx xs s) (hE : qEok E rho) (hX : qScr rho Lx xs) (hk : qKok p l e R s m args below meth c N0 b H0 rho tys D nL Rw Qf Rel kk) (hno : ∀ x nc ns, ¬ Rel (.inr (.inr x)) nc ns) (hadd : qAddR R Rel) (hQf : Qf = vx_MQ below Qc XC args s R.cells R.slots (fun q => N0 ≤ q)) (hRret : q_RR N0 b H0 rho tys D R s args Rel Qc) (hRthr : q_RT N0 b H0 rho tys D R s c hh Rel XC) (hB : ∀ q, q < N0 → s.heap[q]? = H0[q]?) (hhs : q_hok own Rw hs hh js = true) (hcs : qCalls l N0 b H0 rho tys D Lx xs P I ih) (hrw : ∀ (k : Nat) (x : qRow) (K' : List qRow), q_drop Rw k = x :: K' → x.2.1 = 50 → decode cc x.1 = .ok (x.2.2.2.2.2.1, x.2.2.2.2.2.2) ∧ q_opok P I sw own nm cc nL ret Rw K' x.1 50 x.2.2.1 x.2.2.2.1 x.2.2.2.2.1 x.2.2.2.2.2.1 x.2.2.2.2.2.2 = true) (hj : q_drop Rw j = (pc, op, a0, b0, c0, ins, len) :: K) (hd : decode cc pc = .ok (ins, len))
    (ok : q_opok P I sw own nm cc nL ret Rw K pc 37 a0 b0 c0 ins len = true) (hr : Rel (qo_callr P E ih kk d Rw hs pc a0 b0 c0 K L S h) nc ns) (hJ : qJ N0 b H0 rho tys D h H) (hl : ∀ z ∈ locs, N0 ≤ z.base) (hL : qLoc N0 b rho ls nL L) : W p l e R s m args below meth c H locs nc ns Qf (F0 m pc ls (S.map (q_v N0 b rho))) := by
  obtain ⟨hx, hb, hml, hown, hts, hret, hlocks, hnm, htab, hfr, hlo, htr⟩ := id C
  unfold qo_callr at hr
  simp only [q_nth_eq] at hr
  split at hr
  · exact absurd hr (hno _ _ _)
  · next d' =>
    split at hr
    · exact absurd hr (hno _ _ _)
    · next M hM =>
      split at hr
      · next r As S' hpop =>
        split at hr
        · next o ho =>
          split at hr
          · next hc =>
            simp only [Bool.and_eq_true] at hc
            obtain ⟨c1, c2, c3⟩ := hc
            have c1 := Nat.eq_of_beq_eq_true c1
            have c2 := Nat.le_of_ble_eq_true c2
            have c3 := Nat.blt_eq.mp c3
            simp only [q_opok, Bool.and_eq_true] at ok
            obtain ⟨ox, ok⟩ := ok
            split at ok
            all_goals first | (cases ok; done) | skip
            next idx =>
            simp only [Bool.and_eq_true] at ok
            obtain ⟨o1, ok⟩ := ok
            have o1 := Nat.eq_of_beq_eq_true o1
            subst o1
            split at ok
            all_goals first | (cases ok; done) | skip
            next y cy ry hy j1 j2 j3 j4 hi =>
            rw [q_nth_eq] at hi
            obtain ⟨hmok, hmet⟩ := hcs a0 M _ hM hi
            obtain ⟨m1, m2, m3, m4⟩ := hmok
            obtain ⟨B, b1, b2, b3, b4⟩ := q_pop_ok hpop
            rw [List.append_nil] at b1
            have hBr : B = As.reverse ++ [.inr (.inl (some (r + 1)))] := by
              have := congrArg List.reverse b1
              simpa using this.symm
            have hlen : As.length = b0 % 32 := by
              rw [hBr] at b3
              simp at b3
              exact b3
            have hstk : S.map (q_v N0 b rho) = (As.map (q_v N0 b rho)).reverse ++ Value.ref (N0 + r) :: S'.map (q_v N0 b rho) := by
              rw [b2, hBr]
              simp [q_v, q_r, q_ad, va_rf]
            have hln : ∀ v ∈ (.inr (.inl (some (r + 1))) :: As : List qV), q_lng v = false := fun v hv => b4 v (by
              rw [hBr]
              rcases List.mem_cons.mp hv with rfl | hv
              · simp
              · simp [hv])
            refine q_after_ok (S := S') C Wd hk hno hadd hQf hRthr hhs hj ox (fun _ _ _ _ _ => trivial) hrw hr hl hL (ar := (Value.ref (N0 + r) :: As.map (q_v N0 b rho)).toArray) (fun g1 g2 g3 => ?_)
            have hm := hmet d' (.inr (.inl (some (r + 1))) :: As) h _ (by simp; omega) hln rfl g3
            have hpre : ∀ U : State, U.heap = H → s.WarmedH U.vm → q_Pc N0 b H0 rho tys D Lx xs (.inr (.inl (some (r + 1))) :: As) h (Value.ref (N0 + r) :: As.map (q_v N0 b rho)).toArray U := fun U hU hW => ⟨rfl, qWd.moved hW Wd, by rw [hU]; exact hJ⟩
            have hcf : CallFix p m c cc nL s args q_TBL own := ⟨hx, hb, hml, hown, hts⟩
            have hroom : (q_rm d' (ih d' M.2.1 M.2.2 M.2.1 (q_loc M.1 (.inr (.inl (some (r + 1))) :: As)) [] h)).frames + 1 ≤ R.frames ∧ 8 + (M.1 + 11) + (q_rm d' (ih d' M.2.1 M.2.2 M.2.1 (q_loc M.1 (.inr (.inl (some (r + 1))) :: As)) [] h)).locals ≤ R.locals := ⟨by show d' + 1 ≤ R.frames; omega, by show 8 + (M.1 + 11) + 32 * d' ≤ R.locals; omega⟩
            have hst8 : 2 * (F0 m pc ls (S.map (q_v N0 b rho))).monitorRoom + ((S'.map (q_v N0 b rho)).map fun v => v.category).sum ≤ 8 := by
              show 0 + _ ≤ 8
              rw [q_cats]; omega
            simp only [Bool.and_eq_true, decide_eq_true_eq] at ok
            obtain ⟨oh, on, or, onp, ow1, ow2, ow3⟩ := ok
            have onp := of_decide_eq_true onp
            subst or
            match hy, m1, hm, oh with
            | [], m1, hm, _ =>
              exact vx_runI hcf hm ⟨callB_of (b0 % 32) hts (q_goodTBL m1) rfl rfl rfl (hts _ (q_w_in ow3).1) (hts _ (q_w_in ow1).1) ⟨m3, m4, onp⟩ hroom, on, hts _ (q_w_in ow2).1⟩ ⟨q_blind, hpre⟩ rfl (by rw [List.length_map]; exact hlen) hL.1 hstk hst8 hd ⟨g1, g2⟩
            | z :: w, m1, hm, oh => cases oh
          · exact absurd hr (hno _ _ _)
        · exact absurd hr (hno _ _ _)
      · exact absurd hr (hno _ _ _)

theorem qs_callin (C : qCtx p l R s m args meth c own nm cc nL ret hh d) (Wd : qWd N0 b H0 tys D Lx xs s) (hE : qEok E rho) (hX : qScr rho Lx xs) (hk : qKok p l e R s m args below meth c N0 b H0 rho tys D nL Rw Qf Rel kk) (hno : ∀ x nc ns, ¬ Rel (.inr (.inr x)) nc ns) (hadd : qAddR R Rel) (hQf : Qf = vx_MQ below Qc XC args s R.cells R.slots (fun q => N0 ≤ q)) (hRret : q_RR N0 b H0 rho tys D R s args Rel Qc) (hRthr : q_RT N0 b H0 rho tys D R s c hh Rel XC) (hB : ∀ q, q < N0 → s.heap[q]? = H0[q]?) (hhs : q_hok own Rw hs hh js = true) (hcs : qCalls l N0 b H0 rho tys D Lx xs P I ih) (hrw : ∀ (k : Nat) (x : qRow) (K' : List qRow), q_drop Rw k = x :: K' → x.2.1 = 50 → decode cc x.1 = .ok (x.2.2.2.2.2.1, x.2.2.2.2.2.2) ∧ q_opok P I sw own nm cc nL ret Rw K' x.1 50 x.2.2.1 x.2.2.2.1 x.2.2.2.2.1 x.2.2.2.2.2.1 x.2.2.2.2.2.2 = true) (hj : q_drop Rw j = (pc, op, a0, b0, c0, ins, len) :: K) (hd : decode cc pc = .ok (ins, len))
    (ok : q_opok P I sw own nm cc nL ret Rw K pc 38 a0 b0 c0 ins len = true) (hr : Rel (qo_callr P E ih kk d Rw hs pc a0 b0 c0 K L S h) nc ns) (hJ : qJ N0 b H0 rho tys D h H) (hl : ∀ z ∈ locs, N0 ≤ z.base) (hL : qLoc N0 b rho ls nL L) : W p l e R s m args below meth c H locs nc ns Qf (F0 m pc ls (S.map (q_v N0 b rho))) := by
  obtain ⟨hx, hb, hml, hown, hts, hret, hlocks, hnm, htab, hfr, hlo, htr⟩ := id C
  unfold qo_callr at hr
  simp only [q_nth_eq] at hr
  split at hr
  · exact absurd hr (hno _ _ _)
  · next d' =>
    split at hr
    · exact absurd hr (hno _ _ _)
    · next M hM =>
      split at hr
      · next r As S' hpop =>
        split at hr
        · next o ho =>
          split at hr
          · next hc =>
            simp only [Bool.and_eq_true] at hc
            obtain ⟨c1, c2, c3⟩ := hc
            have c1 := Nat.eq_of_beq_eq_true c1
            have c2 := Nat.le_of_ble_eq_true c2
            have c3 := Nat.blt_eq.mp c3
            simp only [q_opok, Bool.and_eq_true] at ok
            obtain ⟨ox, ok⟩ := ok
            split at ok
            all_goals first | (cases ok; done) | skip
            next idx =>
            simp only [Bool.and_eq_true] at ok
            obtain ⟨o1, ok⟩ := ok
            have o1 := Nat.eq_of_beq_eq_true o1
            subst o1
            split at ok
            all_goals first | (cases ok; done) | skip
            next y cy ry hy j1 j2 j3 j4 hi =>
            rw [q_nth_eq] at hi
            obtain ⟨hmok, hmet⟩ := hcs a0 M _ hM hi
            obtain ⟨m1, m2, m3, m4⟩ := hmok
            obtain ⟨B, b1, b2, b3, b4⟩ := q_pop_ok hpop
            rw [List.append_nil] at b1
            have hBr : B = As.reverse ++ [.inr (.inl (some (r + 1)))] := by
              have := congrArg List.reverse b1
              simpa using this.symm
            have hlen : As.length = b0 % 32 := by
              rw [hBr] at b3
              simp at b3
              exact b3
            have hstk : S.map (q_v N0 b rho) = (As.map (q_v N0 b rho)).reverse ++ Value.ref (N0 + r) :: S'.map (q_v N0 b rho) := by
              rw [b2, hBr]
              simp [q_v, q_r, q_ad, va_rf]
            have hln : ∀ v ∈ (.inr (.inl (some (r + 1))) :: As : List qV), q_lng v = false := fun v hv => b4 v (by
              rw [hBr]
              rcases List.mem_cons.mp hv with rfl | hv
              · simp
              · simp [hv])
            refine q_after_ok (S := S') C Wd hk hno hadd hQf hRthr hhs hj ox (fun _ _ _ _ _ => trivial) hrw hr hl hL (ar := (Value.ref (N0 + r) :: As.map (q_v N0 b rho)).toArray) (fun g1 g2 g3 => ?_)
            have hm := hmet d' (.inr (.inl (some (r + 1))) :: As) h _ (by simp; omega) hln rfl g3
            have hpre : ∀ U : State, U.heap = H → s.WarmedH U.vm → q_Pc N0 b H0 rho tys D Lx xs (.inr (.inl (some (r + 1))) :: As) h (Value.ref (N0 + r) :: As.map (q_v N0 b rho)).toArray U := fun U hU hW => ⟨rfl, qWd.moved hW Wd, by rw [hU]; exact hJ⟩
            have hcf : CallFix p m c cc nL s args q_TBL own := ⟨hx, hb, hml, hown, hts⟩
            have hroom : (q_rm d' (ih d' M.2.1 M.2.2 M.2.1 (q_loc M.1 (.inr (.inl (some (r + 1))) :: As)) [] h)).frames + 1 ≤ R.frames ∧ 8 + (M.1 + 11) + (q_rm d' (ih d' M.2.1 M.2.2 M.2.1 (q_loc M.1 (.inr (.inl (some (r + 1))) :: As)) [] h)).locals ≤ R.locals := ⟨by show d' + 1 ≤ R.frames; omega, by show 8 + (M.1 + 11) + 32 * d' ≤ R.locals; omega⟩
            have hst8 : 2 * (F0 m pc ls (S.map (q_v N0 b rho))).monitorRoom + ((S'.map (q_v N0 b rho)).map fun v => v.category).sum ≤ 8 := by
              show 0 + _ ≤ 8
              rw [q_cats]; omega
            simp only [Bool.and_eq_true, decide_eq_true_eq] at ok
            obtain ⟨oh, on, or, onp, ow1, ow2, ow3⟩ := ok
            have onp := of_decide_eq_true onp
            subst or
            match hy, m1, hm, oh with
            | [], m1, hm, _ =>
              exact vx_runIN (host := "Treebark") hcf hm ⟨va_cnB (b0 % 32) hts (q_goodTBL m1) rfl rfl rfl (Wd.2.2.2.2.2.2.2.1 (own, idx, y) (List.mem_of_getElem? (by rw [← q_nth_eq]; exact ow1))) (hts _ (q_w_in ow3).1) ⟨m3, m4, onp⟩ hroom, on, hts _ (q_w_in ow2).1⟩ ⟨q_blind, hpre⟩ rfl (by rw [List.length_map]; exact hlen) hL.1 hstk hst8 hd ⟨g1, g2⟩
            | z :: w, m1, hm, oh => cases oh
          · exact absurd hr (hno _ _ _)
        · exact absurd hr (hno _ _ _)
      · exact absurd hr (hno _ _ _)

theorem qs_calls (C : qCtx p l R s m args meth c own nm cc nL ret hh d) (Wd : qWd N0 b H0 tys D Lx xs s) (hE : qEok E rho) (hX : qScr rho Lx xs) (hk : qKok p l e R s m args below meth c N0 b H0 rho tys D nL Rw Qf Rel kk) (hno : ∀ x nc ns, ¬ Rel (.inr (.inr x)) nc ns) (hadd : qAddR R Rel) (hQf : Qf = vx_MQ below Qc XC args s R.cells R.slots (fun q => N0 ≤ q)) (hRret : q_RR N0 b H0 rho tys D R s args Rel Qc) (hRthr : q_RT N0 b H0 rho tys D R s c hh Rel XC) (hB : ∀ q, q < N0 → s.heap[q]? = H0[q]?) (hhs : q_hok own Rw hs hh js = true) (hcs : qCalls l N0 b H0 rho tys D Lx xs P I ih) (hrw : ∀ (k : Nat) (x : qRow) (K' : List qRow), q_drop Rw k = x :: K' → x.2.1 = 50 → decode cc x.1 = .ok (x.2.2.2.2.2.1, x.2.2.2.2.2.2) ∧ q_opok P I sw own nm cc nL ret Rw K' x.1 50 x.2.2.1 x.2.2.2.1 x.2.2.2.2.1 x.2.2.2.2.2.1 x.2.2.2.2.2.2 = true) (hj : q_drop Rw j = (pc, op, a0, b0, c0, ins, len) :: K) (hd : decode cc pc = .ok (ins, len))
    (ok : q_opok P I sw own nm cc nL ret Rw K pc 36 a0 b0 c0 ins len = true) (hr : Rel (qo_calls P E ih kk d Rw hs pc a0 b0 c0 K L S h) nc ns) (hJ : qJ N0 b H0 rho tys D h H) (hl : ∀ z ∈ locs, N0 ≤ z.base) (hL : qLoc N0 b rho ls nL L) : W p l e R s m args below meth c H locs nc ns Qf (F0 m pc ls (S.map (q_v N0 b rho))) := by
  obtain ⟨hx, hb, hml, hown, hts, hret, hlocks, hnm, htab, hfr, hlo, htr⟩ := id C
  unfold qo_calls at hr
  simp only [q_nth_eq] at hr
  split at hr
  · exact absurd hr (hno _ _ _)
  · next d' =>
    split at hr
    · exact absurd hr (hno _ _ _)
    · next M hM =>
      split at hr
      · next As S' hpop =>
        split at hr
        · next hc =>
          simp only [Bool.and_eq_true] at hc
          obtain ⟨c2, c3⟩ := hc
          have c2 := Nat.le_of_ble_eq_true c2
          have c3 := Nat.le_of_ble_eq_true c3
          simp only [q_opok, Bool.and_eq_true] at ok
          obtain ⟨ox, ok⟩ := ok
          split at ok
          all_goals first | (cases ok; done) | skip
          next idx =>
          simp only [Bool.and_eq_true] at ok
          obtain ⟨o1, ok⟩ := ok
          have o1 := Nat.eq_of_beq_eq_true o1
          subst o1
          split at ok
          all_goals first | (cases ok; done) | skip
          next y cy ry hy j1 j2 j3 j4 hi =>
          rw [q_nth_eq] at hi
          obtain ⟨hmok, hmet⟩ := hcs a0 M _ hM hi
          obtain ⟨m1, m2, m3, m4⟩ := hmok
          obtain ⟨B, b1, b2, b3, b4⟩ := q_pop_ok hpop
          rw [List.append_nil] at b1
          have hlen : As.length = b0 := by rw [b1, List.length_reverse]; exact b3
          have hstk : S.map (q_v N0 b rho) = (As.map (q_v N0 b rho)).reverse ++ S'.map (q_v N0 b rho) := by
            rw [b2, b1]
            simp
          have hln : ∀ v ∈ As, q_lng v = false := fun v hv => b4 v (by rw [b1] at hv; exact List.mem_reverse.mp hv)
          refine q_after_ok (S := S') C Wd hk hno hadd hQf hRthr hhs hj ox (fun _ _ _ _ _ => trivial) hrw hr hl hL (ar := (As.map (q_v N0 b rho)).toArray) (fun g1 g2 g3 => ?_)
          have hm := hmet d' As h _ c3 hln rfl g3
          have hpre : ∀ U : State, U.heap = H → s.WarmedH U.vm → q_Pc N0 b H0 rho tys D Lx xs As h (As.map (q_v N0 b rho)).toArray U := fun U hU hW => ⟨rfl, qWd.moved hW Wd, by rw [hU]; exact hJ⟩
          have hcf : CallFix p m c cc nL s args q_TBL own := ⟨hx, hb, hml, hown, hts⟩
          have hroom : (q_rm d' (ih d' M.2.1 M.2.2 M.2.1 (q_loc M.1 As) [] h)).frames + 1 ≤ R.frames ∧ 8 + (M.1 + 11) + (q_rm d' (ih d' M.2.1 M.2.2 M.2.1 (q_loc M.1 As) [] h)).locals ≤ R.locals := ⟨by show d' + 1 ≤ R.frames; omega, by show 8 + (M.1 + 11) + 32 * d' ≤ R.locals; omega⟩
          have hst8 : 2 * (F0 m pc ls (S.map (q_v N0 b rho))).monitorRoom + ((S'.map (q_v N0 b rho)).map fun v => v.category).sum ≤ 8 := by
            show 0 + _ ≤ 8
            rw [q_cats]; omega
          simp only [Bool.and_eq_true, decide_eq_true_eq] at ok
          obtain ⟨oh, onp, ow1, ow2, ow3⟩ := ok
          have onp := of_decide_eq_true onp
          match hy, m1, hm, oh with
          | [], m1, hm, _ =>
            exact vx_runS hcf hm ⟨callB_of b0 hts (q_goodTBL m1) rfl rfl rfl (hts _ (q_w_in ow3).1) (hts _ (q_w_in ow1).1) ⟨m3, m4, onp⟩ hroom, hts _ (q_w_in ow2).1⟩ ⟨q_blind, hpre⟩ rfl (by rw [List.length_map]; exact hlen) hL.1 hstk hst8 hd ⟨g1, g2⟩
          | z :: w, m1, hm, oh => cases oh
        · exact absurd hr (hno _ _ _)
      · exact absurd hr (hno _ _ _)

theorem qs_callsw (C : qCtx p l R s m args meth c own nm cc nL ret hh d) (Wd : qWd N0 b H0 tys D Lx xs s) (hE : qEok E rho) (hX : qScr rho Lx xs) (hk : qKok p l e R s m args below meth c N0 b H0 rho tys D nL Rw Qf Rel kk) (hno : ∀ x nc ns, ¬ Rel (.inr (.inr x)) nc ns) (hadd : qAddR R Rel) (hQf : Qf = vx_MQ below Qc XC args s R.cells R.slots (fun q => N0 ≤ q)) (hRret : q_RR N0 b H0 rho tys D R s args Rel Qc) (hRthr : q_RT N0 b H0 rho tys D R s c hh Rel XC) (hB : ∀ q, q < N0 → s.heap[q]? = H0[q]?) (hhs : q_hok own Rw hs hh js = true) (hcs : qCalls l N0 b H0 rho tys D Lx xs P I ih) (hrw : ∀ (k : Nat) (x : qRow) (K' : List qRow), q_drop Rw k = x :: K' → x.2.1 = 50 → decode cc x.1 = .ok (x.2.2.2.2.2.1, x.2.2.2.2.2.2) ∧ q_opok P I sw own nm cc nL ret Rw K' x.1 50 x.2.2.1 x.2.2.2.1 x.2.2.2.2.1 x.2.2.2.2.2.1 x.2.2.2.2.2.2 = true) (hj : q_drop Rw j = (pc, op, a0, b0, c0, ins, len) :: K) (hd : decode cc pc = .ok (ins, len))
    (ok : q_opok P I sw own nm cc nL ret Rw K pc 39 a0 b0 c0 ins len = true) (hr : Rel (qo_calls P E ih kk d Rw hs pc a0 b0 c0 K L S h) nc ns) (hJ : qJ N0 b H0 rho tys D h H) (hl : ∀ z ∈ locs, N0 ≤ z.base) (hL : qLoc N0 b rho ls nL L) : W p l e R s m args below meth c H locs nc ns Qf (F0 m pc ls (S.map (q_v N0 b rho))) := by
  obtain ⟨hx, hb, hml, hown, hts, hret, hlocks, hnm, htab, hfr, hlo, htr⟩ := id C
  unfold qo_calls at hr
  simp only [q_nth_eq] at hr
  split at hr
  · exact absurd hr (hno _ _ _)
  · next d' =>
    split at hr
    · exact absurd hr (hno _ _ _)
    · next M hM =>
      split at hr
      · next As S' hpop =>
        split at hr
        · next hc =>
          simp only [Bool.and_eq_true] at hc
          obtain ⟨c2, c3⟩ := hc
          have c2 := Nat.le_of_ble_eq_true c2
          have c3 := Nat.le_of_ble_eq_true c3
          simp only [q_opok, Bool.and_eq_true] at ok
          obtain ⟨ox, ok⟩ := ok
          split at ok
          all_goals first | (cases ok; done) | skip
          next idx =>
          simp only [Bool.and_eq_true] at ok
          obtain ⟨o1, ok⟩ := ok
          have o1 := Nat.eq_of_beq_eq_true o1
          subst o1
          split at ok
          all_goals first | (cases ok; done) | skip
          next y cy ry hy j1 j2 j3 j4 hi =>
          rw [q_nth_eq] at hi
          obtain ⟨hmok, hmet⟩ := hcs a0 M _ hM hi
          obtain ⟨m1, m2, m3, m4⟩ := hmok
          obtain ⟨B, b1, b2, b3, b4⟩ := q_pop_ok hpop
          rw [List.append_nil] at b1
          have hlen : As.length = b0 := by rw [b1, List.length_reverse]; exact b3
          have hstk : S.map (q_v N0 b rho) = (As.map (q_v N0 b rho)).reverse ++ S'.map (q_v N0 b rho) := by
            rw [b2, b1]
            simp
          have hln : ∀ v ∈ As, q_lng v = false := fun v hv => b4 v (by rw [b1] at hv; exact List.mem_reverse.mp hv)
          refine q_after_ok (S := S') C Wd hk hno hadd hQf hRthr hhs hj ox (fun _ _ _ _ _ => trivial) hrw hr hl hL (ar := (As.map (q_v N0 b rho)).toArray) (fun g1 g2 g3 => ?_)
          have hm := hmet d' As h _ c3 hln rfl g3
          have hpre : ∀ U : State, U.heap = H → s.WarmedH U.vm → q_Pc N0 b H0 rho tys D Lx xs As h (As.map (q_v N0 b rho)).toArray U := fun U hU hW => ⟨rfl, qWd.moved hW Wd, by rw [hU]; exact hJ⟩
          have hcf : CallFix p m c cc nL s args q_TBL own := ⟨hx, hb, hml, hown, hts⟩
          have hroom : (q_rm d' (ih d' M.2.1 M.2.2 M.2.1 (q_loc M.1 As) [] h)).frames + 1 ≤ R.frames ∧ 8 + (M.1 + 11) + (q_rm d' (ih d' M.2.1 M.2.2 M.2.1 (q_loc M.1 As) [] h)).locals ≤ R.locals := ⟨by show d' + 1 ≤ R.frames; omega, by show 8 + (M.1 + 11) + 32 * d' ≤ R.locals; omega⟩
          have hst8 : 2 * (F0 m pc ls (S.map (q_v N0 b rho))).monitorRoom + ((S'.map (q_v N0 b rho)).map fun v => v.category).sum ≤ 8 := by
            show 0 + _ ≤ 8
            rw [q_cats]; omega
          simp only [Bool.and_eq_true, decide_eq_true_eq] at ok
          obtain ⟨oh, onp, ow1, ow2, ow3⟩ := ok
          have onp := of_decide_eq_true onp
          match hy, m1, hm, oh with
          | [], m1, hm, oh => cases oh
          | z :: w, m1, hm, _ =>
            refine vx_runSX (hh := z :: w) hcf hm ⟨⟨rfl, rfl, hroom.1, hroom.2, pay_in hts (q_goodTBL m1), List.mem_cons_self⟩, hts _ m1, hts _ (q_w_in ow3).1, ⟨m3, m4⟩, fun sig h => ?_, hts _ (q_w_in ow1).1, hts _ (q_w_in ow2).1⟩ ⟨q_blind, hpre⟩ rfl (by rw [List.length_map]) hL.1 hstk hst8 hd ⟨g1, g2⟩
            rw [h] at onp
            exact hlen.trans (Option.some.inj onp).symm
        · exact absurd hr (hno _ _ _)
      · exact absurd hr (hno _ _ _)

theorem qs_iret (C : qCtx p l R s m args meth c own nm cc nL ret hh d) (Wd : qWd N0 b H0 tys D Lx xs s) (hE : qEok E rho) (hX : qScr rho Lx xs) (hk : qKok p l e R s m args below meth c N0 b H0 rho tys D nL Rw Qf Rel kk) (hno : ∀ x nc ns, ¬ Rel (.inr (.inr x)) nc ns) (hadd : qAddR R Rel) (hQf : Qf = vx_MQ below Qc XC args s R.cells R.slots (fun q => N0 ≤ q)) (hRret : q_RR N0 b H0 rho tys D R s args Rel Qc) (hRthr : q_RT N0 b H0 rho tys D R s c hh Rel XC) (hB : ∀ q, q < N0 → s.heap[q]? = H0[q]?) (hhs : q_hok own Rw hs hh js = true) (hcs : qCalls l N0 b H0 rho tys D Lx xs P I ih) (hj : q_drop Rw j = (pc, op, a0, b0, c0, ins, len) :: K) (hd : decode cc pc = .ok (ins, len))
    (ok : q_opok P I sw own nm cc nL ret Rw K pc 40 a0 b0 c0 ins len = true) (hr : Rel (qo_iret P E ih kk d Rw hs pc a0 b0 c0 K L S h) nc ns) (hJ : qJ N0 b H0 rho tys D h H) (hl : ∀ z ∈ locs, N0 ≤ z.base) (hL : qLoc N0 b rho ls nL L) : W p l e R s m args below meth c H locs nc ns Qf (F0 m pc ls (S.map (q_v N0 b rho))) := by
  obtain ⟨hx, hb, hml, hown, hts, hret, hlocks, hnm, htab, hfr, hlo, htr⟩ := id C
  simp only [q_opok, Bool.and_eq_true, decide_eq_true_eq] at ok
  obtain ⟨o1, o2, ok⟩ := ok
  have o1 := Nat.eq_of_beq_eq_true o1
  subst o1; subst o2
  unfold qo_iret at hr
  subst hQf
  split at hr
  · next x =>
    split at hr
    · obtain ⟨g1, g2, g3⟩ := hRret _ _ _ _ hr
      have hrt : meth.sig.returnType = some .int := hret.trans (of_decide_eq_true ok)
      refine W.widen (k := R.cells) (n := R.slots) g1 g2 ?_
      exact vx_ret (W.iret hx hb hrt (fun t ht _ => g3 t (by rw [ht]; exact hJ)) hl hd hlocks)
    · split at hr
      · next hc =>
        obtain ⟨g1, g2, g3⟩ := hRret _ _ _ _ hr
        have hrt : meth.sig.returnType = some .boolean := hret.trans (of_decide_eq_true ok)
        refine W.widen (k := R.cells) (n := R.slots) g1 g2 ?_
        refine vx_ret (W.zret hx hb hrt ?_ (fun t ht _ => g3 t (by rw [ht]; exact hJ)) hl hd hlocks)
        exact (q_fit_ok (N0 := N0) (b := b) (rho := rho) (ty := .boolean) (tc := 1) (v := .inl x) rfl hc).1
      · exact absurd hr (hno _ _ _)
    · exact absurd hr (hno _ _ _)
  · exact absurd hr (hno _ _ _)

theorem qs_aret (C : qCtx p l R s m args meth c own nm cc nL ret hh d) (Wd : qWd N0 b H0 tys D Lx xs s) (hE : qEok E rho) (hX : qScr rho Lx xs) (hk : qKok p l e R s m args below meth c N0 b H0 rho tys D nL Rw Qf Rel kk) (hno : ∀ x nc ns, ¬ Rel (.inr (.inr x)) nc ns) (hadd : qAddR R Rel) (hQf : Qf = vx_MQ below Qc XC args s R.cells R.slots (fun q => N0 ≤ q)) (hRret : q_RR N0 b H0 rho tys D R s args Rel Qc) (hRthr : q_RT N0 b H0 rho tys D R s c hh Rel XC) (hB : ∀ q, q < N0 → s.heap[q]? = H0[q]?) (hhs : q_hok own Rw hs hh js = true) (hcs : qCalls l N0 b H0 rho tys D Lx xs P I ih) (hj : q_drop Rw j = (pc, op, a0, b0, c0, ins, len) :: K) (hd : decode cc pc = .ok (ins, len))
    (ok : q_opok P I sw own nm cc nL ret Rw K pc 41 a0 b0 c0 ins len = true) (hr : Rel (qo_aret P E ih kk d Rw hs pc a0 b0 c0 K L S h) nc ns) (hJ : qJ N0 b H0 rho tys D h H) (hl : ∀ z ∈ locs, N0 ≤ z.base) (hL : qLoc N0 b rho ls nL L) : W p l e R s m args below meth c H locs nc ns Qf (F0 m pc ls (S.map (q_v N0 b rho))) := by
  obtain ⟨hx, hb, hml, hown, hts, hret, hlocks, hnm, htab, hfr, hlo, htr⟩ := id C
  simp only [q_opok, Bool.and_eq_true, decide_eq_true_eq] at ok
  obtain ⟨o1, o2, ok⟩ := ok
  have o1 := Nat.eq_of_beq_eq_true o1
  subst o1; subst o2
  unfold qo_aret at hr
  subst hQf
  split at hr
  · next r =>
    obtain ⟨g1, g2, g3⟩ := hRret _ _ _ _ hr
    refine W.widen (k := R.cells) (n := R.slots) g1 g2 ?_
    have hv : va_rf (q_r N0 b r) = .null ∨ ∃ a, va_rf (q_r N0 b r) = .ref a := by cases r <;> simp [q_r, va_rf]
    split at ok
    · exact vx_ret (W.aret hx hb hret (Or.inl ⟨_, rfl⟩) hv (fun t ht _ => g3 t (by rw [ht]; exact hJ)) hl hd hlocks)
    · exact vx_ret (W.aret hx hb hret (Or.inr ⟨_, rfl⟩) hv (fun t ht _ => g3 t (by rw [ht]; exact hJ)) hl hd hlocks)
    · cases ok
  · exact absurd hr (hno _ _ _)

theorem qs_vret (C : qCtx p l R s m args meth c own nm cc nL ret hh d) (Wd : qWd N0 b H0 tys D Lx xs s) (hE : qEok E rho) (hX : qScr rho Lx xs) (hk : qKok p l e R s m args below meth c N0 b H0 rho tys D nL Rw Qf Rel kk) (hno : ∀ x nc ns, ¬ Rel (.inr (.inr x)) nc ns) (hadd : qAddR R Rel) (hQf : Qf = vx_MQ below Qc XC args s R.cells R.slots (fun q => N0 ≤ q)) (hRret : q_RR N0 b H0 rho tys D R s args Rel Qc) (hRthr : q_RT N0 b H0 rho tys D R s c hh Rel XC) (hB : ∀ q, q < N0 → s.heap[q]? = H0[q]?) (hhs : q_hok own Rw hs hh js = true) (hcs : qCalls l N0 b H0 rho tys D Lx xs P I ih) (hj : q_drop Rw j = (pc, op, a0, b0, c0, ins, len) :: K) (hd : decode cc pc = .ok (ins, len))
    (ok : q_opok P I sw own nm cc nL ret Rw K pc 42 a0 b0 c0 ins len = true) (hr : Rel (qo_vret P E ih kk d Rw hs pc a0 b0 c0 K L S h) nc ns) (hJ : qJ N0 b H0 rho tys D h H) (hl : ∀ z ∈ locs, N0 ≤ z.base) (hL : qLoc N0 b rho ls nL L) : W p l e R s m args below meth c H locs nc ns Qf (F0 m pc ls (S.map (q_v N0 b rho))) := by
  obtain ⟨hx, hb, hml, hown, hts, hret, hlocks, hnm, htab, hfr, hlo, htr⟩ := id C
  simp only [q_opok, Bool.and_eq_true, decide_eq_true_eq] at ok
  obtain ⟨o1, o2, ok⟩ := ok
  have o1 := Nat.eq_of_beq_eq_true o1
  subst o1; subst o2
  unfold qo_vret at hr
  subst hQf
  split at hr
  · obtain ⟨g1, g2, g3⟩ := hRret _ _ _ _ hr
    refine W.widen (k := R.cells) (n := R.slots) g1 g2 ?_
    exact vx_ret (W.vret hx hb (hret.trans ok) (fun t ht _ => g3 t (by rw [ht]; exact hJ)) hl hd hlocks)
  · exact absurd hr (hno _ _ _)

theorem qs_throw (C : qCtx p l R s m args meth c own nm cc nL ret hh d) (Wd : qWd N0 b H0 tys D Lx xs s) (hE : qEok E rho) (hX : qScr rho Lx xs) (hk : qKok p l e R s m args below meth c N0 b H0 rho tys D nL Rw Qf Rel kk) (hno : ∀ x nc ns, ¬ Rel (.inr (.inr x)) nc ns) (hadd : qAddR R Rel) (hQf : Qf = vx_MQ below Qc XC args s R.cells R.slots (fun q => N0 ≤ q)) (hRret : q_RR N0 b H0 rho tys D R s args Rel Qc) (hRthr : q_RT N0 b H0 rho tys D R s c hh Rel XC) (hB : ∀ q, q < N0 → s.heap[q]? = H0[q]?) (hhs : q_hok own Rw hs hh js = true) (hcs : qCalls l N0 b H0 rho tys D Lx xs P I ih) (hj : q_drop Rw j = (pc, op, a0, b0, c0, ins, len) :: K) (hd : decode cc pc = .ok (ins, len))
    (ok : q_opok P I sw own nm cc nL ret Rw K pc 43 a0 b0 c0 ins len = true) (hr : Rel (qo_throw P E ih kk d Rw hs pc a0 b0 c0 K L S h) nc ns) (hJ : qJ N0 b H0 rho tys D h H) (hl : ∀ z ∈ locs, N0 ≤ z.base) (hL : qLoc N0 b rho ls nL L) : W p l e R s m args below meth c H locs nc ns Qf (F0 m pc ls (S.map (q_v N0 b rho))) := by
  obtain ⟨hx, hb, hml, hown, hts, hret, hlocks, hnm, htab, hfr, hlo, htr⟩ := id C
  simp only [q_opok] at ok
  split at ok
  all_goals first | (cases ok; done) | skip
  next ik =>
  simp only [Bool.and_eq_true] at ok
  obtain ⟨o1, ok⟩ := ok
  have o1 := Nat.eq_of_beq_eq_true o1
  subst o1
  split at ok
  all_goals first | (cases ok; done) | skip
  next X0 hX0 =>
  split at ok
  all_goals first | (cases ok; done) | skip
  next ji hji =>
  simp only [Bool.and_eq_true, decide_eq_true_eq] at ok
  obtain ⟨od3, od4, od7, ow1, ow2, ow3⟩ := ok
  rw [q_nth_eq] at hX0
  have hXm : X0 ∈ q_exc := List.mem_of_getElem? hX0
  unfold qo_throw at hr
  split at hr
  · next hc =>
    simp only [Bool.and_eq_true] at hc
    have c1 := Nat.le_of_ble_eq_true hc.1
    have c2 := Nat.le_of_ble_eq_true hc.2
    split at hr
    · obtain ⟨g1, g2, gT, g3⟩ := hRthr _ _ _ _ _ _ hr
      have hh0 : hh = [] := by cases hh with
        | nil => rfl
        | cons y z => cases hhs
      subst hQf
      intro T hT XS
      have hsz : s.heap.size ≤ H.size := by rw [← hT]; exact XS.same.2.1
      have hZ : ∀ {n dd : String}, vx_Zq Bundle.tN n dd (fun q => N0 ≤ q) s H0 → vx_Zq Bundle.tN n dd (fun q => N0 ≤ q) s s.heap := fun hz => hz.kept (fun a ha hna => hB a (by have := Wd.2.2.2.2.1; omega))
      unfold q_thr at ow3
      simp only [Bool.and_eq_true] at ow3
      obtain ⟨⟨t1, t2⟩, t3⟩ := ow3
      have hat : ∀ w ∈ vx_at0 own c0 X0 q_names, w.before args s = true := fun w hw => by
        by_cases hg : goodWord w = true
        · have h1 := List.all_eq_true.mp t1 w (List.mem_filter.mpr ⟨hw, hg⟩)
          exact hts w (List.mem_filter.mpr ⟨of_decide_eq_true h1, hg⟩)
        · have h1 := List.all_eq_true.mp t2 w (List.mem_filter.mpr ⟨hw, by simpa using hg⟩)
          rcases Bool.or_eq_true_iff.mp h1 with h1 | h1
          · rw [of_decide_eq_true h1]
            exact va_Nw.use rfl (Wd.2.2.2.2.2.2.2.2.1.1 X0 hXm)
          · obtain ⟨y, hy, h2⟩ := List.any_eq_true.mp h1
            rw [of_decide_eq_true h2]
            exact va_Nw.use rfl (Wd.2.2.2.2.2.2.2.2.1.2 y hy)
      have hgd : ∀ w ∈ Jvm.Cond.classLink own ik X0 :: Jvm.Cond.initialized X0 :: vx_at0 own c0 X0 q_names, vx_ot w = true := fun w hw => by
        rcases List.mem_cons.mp hw with rfl | hw
        · rfl
        · rcases List.mem_cons.mp hw with rfl | hw
          · rfl
          · exact List.all_eq_true.mp t3 w hw
      have hfit : Bundle.fit X0 = true := by
        have : q_exc.all Bundle.fit = true := by decide +kernel
        exact List.all_eq_true.mp this X0 hXm
      refine vx_throw0 (cls := X0) (names := q_names) (A := fun q => N0 ≤ q) hx hb htr hown hfit (by decide +kernel) (hts _ (q_w_in ow1).1) (hts _ (q_w_in ow2).1) hat hgd (hZ Wd.2.2.2.2.2.1) (hZ Wd.2.2.2.2.2.2.1) ⟨hsz, fun q h1 h2 => (hJ.1 q (Nat.not_le.mp h2)).trans (hB q (Nat.not_le.mp h2)).symm, hl⟩ (by rw [hml]; exact hL.1) hd od3 od4 od7 (fun x hx => by rw [gT hh0] at hx; cases hx) (by show 2 + 3 < R.frames; omega) ?_ g1 g2 hlocks (fun t _ k1 k2 => g3 t X0 hX0 (hJ.grow k1 k2)) hl g1 g2 T hT XS
      rw [q_cats]
      show _ + (13 * (2 + 1) + 42) ≤ R.locals
      omega
    · exact absurd hr (hno _ _ _)
  · exact absurd hr (hno _ _ _)

theorem qs_switch (C : qCtx p l R s m args meth c own nm cc nL ret hh d) (Wd : qWd N0 b H0 tys D Lx xs s) (hE : qEok E rho) (hX : qScr rho Lx xs) (hk : qKok p l e R s m args below meth c N0 b H0 rho tys D nL Rw Qf Rel kk) (hno : ∀ x nc ns, ¬ Rel (.inr (.inr x)) nc ns) (hadd : qAddR R Rel) (hQf : Qf = vx_MQ below Qc XC args s R.cells R.slots (fun q => N0 ≤ q)) (hRret : q_RR N0 b H0 rho tys D R s args Rel Qc) (hRthr : q_RT N0 b H0 rho tys D R s c hh Rel XC) (hB : ∀ q, q < N0 → s.heap[q]? = H0[q]?) (hhs : q_hok own Rw hs hh js = true) (hcs : qCalls l N0 b H0 rho tys D Lx xs P I ih) (hj : q_drop Rw j = (pc, op, a0, b0, c0, ins, len) :: K) (hd : decode cc pc = .ok (ins, len))
    (ok : q_opok P I sw own nm cc nL ret Rw K pc 44 a0 b0 c0 ins len = true) (hr : Rel (qo_switch sw P E ih kk d Rw hs pc a0 b0 c0 K L S h) nc ns) (hJ : qJ N0 b H0 rho tys D h H) (hl : ∀ z ∈ locs, N0 ≤ z.base) (hL : qLoc N0 b rho ls nL L) : W p l e R s m args below meth c H locs nc ns Qf (F0 m pc ls (S.map (q_v N0 b rho))) := by
  obtain ⟨hx, hb, hml, hown, hts, hret, hlocks, hnm, htab, hfr, hlo, htr⟩ := id C
  simp only [q_opok] at ok
  split at ok
  all_goals first | (cases ok; done) | skip
  next dflt lo hi offs =>
  simp only [Bool.and_eq_true, decide_eq_true_eq] at ok
  obtain ⟨o1, o2, o3, o4, o5⟩ := ok
  subst o1; subst o2
  unfold qo_switch at hr
  simp only [q_nth_eq] at hr
  split at hr
  · next x S' =>
    split at hr
    · next q hq =>
      obtain ⟨j0, g1, g2, g3, g4⟩ := q_ix_ok hE x hq
      show W p l e R s m args below meth c H locs nc ns Qf (F0 m pc ls (.int (q_i rho x) :: S'.map (q_v N0 b rho)))
      rw [g1]
      split at hr
      · next hc =>
        have hc := Nat.eq_of_beq_eq_true hc
        have hj0 : j0 = q.1 := by omega
        subst hj0
        have hti : (nI q.1).toInt = (q.1 : Int) := nI_toInt g4
        split at hr
        · next t ht =>
          have hlt : q.1 < 31 := by rw [← o4]; exact (List.getElem?_eq_some_iff.mp ht).1
          have h5 := List.all_eq_true.mp o5 q.1 (List.mem_range.mpr hlt)
          rw [q_nth_eq, ht] at h5
          dsimp only at h5
          split at h5
          · next off hoff =>
            obtain ⟨tgt, ht2, hn⟩ := q_jump hk h5 hr hJ hl hL
            exact lv_tableIn hx hb hd (by rw [hti]; omega) (by rw [hti]; omega) (off := off) (by rw [hti]; simpa using hoff) ht2 hn
          · cases h5
        · next ht =>
          have hge : 31 ≤ q.1 := by rw [← o4]; exact List.getElem?_eq_none_iff.mp ht
          obtain ⟨tgt, ht2, hn⟩ := q_jump hk o3 hr hJ hl hL
          exact lv_tableOut hx hb hd (by rw [hti]; omega) ht2 hn
      · exact absurd hr (q_ask_no hno)
    · exact absurd hr (hno _ _ _)
  · exact absurd hr (hno _ _ _)
end QC
