/-! THE EVALUATOR IS SOUND -/
theorem q_roks_at {P : List qM} {I : List qInf} {sw : List Nat} {own nm : String} {cc : ByteArray} {nL : Nat} {ret : Option FieldType} {R : List qRow} : ∀ {Rw : List qRow}, q_roks P I sw own nm cc nL ret R Rw = true → ∀ {j : Nat} {r : qRow} {K : List qRow}, q_drop Rw j = r :: K → q_rok P I sw own nm cc nL ret R r K = true
  | [], _, j, r, K, hj => by cases j <;> cases hj
  | x :: Rw, h, j, r, K, hj => by
    simp only [q_roks, Bool.and_eq_true] at h
    cases j with
    | zero =>
      cases hj
      exact h.1
    | succ j => exact q_roks_at h.2 hj
def qFacts (P : List qM) (I : List qInf) (sw : List Nat) : Prop := ∀ (k : Nat) (M : qM) (i : qInf), P[k]? = some M → I[k]? = some i →
  qMok M.1 i ∧ q_roks P I sw i.1.cls i.1.name i.2.1 M.1 i.2.2.1 M.2.1 M.2.1 = true ∧ (∃ js, q_hok i.1.cls M.2.1 M.2.2 i.2.2.2.1 js = true) ∧ plainName i.1.cls = true ∧ ∃ r K, M.2.1 = r :: K ∧ r.1 = 0
def qFrame (l : Launch) (N0 b : Nat) (H0 : Heap) (rho : Nat → Nat) (tys : List (ClassId × FieldType)) (D : va_G) (Lx : Nat) (xs : Nat → Int32) (P : List qM) (I : List qInf) (sw : List Nat) (E : qEnv) (n : Nat) : Prop :=
  ∀ (p : Program) (e : Env) (R : Room) (s : State) (m : MethodId) (args : Array Value) (below : List Frame) (meth : Method) (c : Code) (own nm : String) (cc : ByteArray) (nL : Nat) (ret : Option FieldType) (hh : List (Nat × Nat × Nat × Nat)) (d : Nat) (Rw : List qRow) (hs : List qHd) (js : List Nat) (Qf : State → Prop) (Qc : Array Value → State → Outcome → State → Prop) (XC : String → State → State → Prop) (Rel : qRes → Nat → Nat → Prop),
    qCtx p l R s m args meth c own nm cc nL ret hh d → qWd N0 b H0 tys D Lx xs s → (∀ q, q < N0 → s.heap[q]? = H0[q]?) → q_roks P I sw own nm cc nL ret Rw Rw = true → q_hok own Rw hs hh js = true → (∀ x nc ns, ¬ Rel (.inr (.inr x)) nc ns) → qAddR R Rel → Qf = vx_MQ below Qc XC args s R.cells R.slots (fun q => N0 ≤ q) → q_RR N0 b H0 rho tys D R s args Rel Qc → q_RT N0 b H0 rho tys D R s c hh Rel XC →
    qKok p l e R s m args below meth c N0 b H0 rho tys D nL Rw Qf Rel (qRun sw P E n d Rw hs)
def q_RelT (R : Room) (r0 : qRes) (r : qRes) (nc ns : Nat) : Prop := (∃ z, q_core r = some z) ∧ q_core r = q_core r0 ∧ nc + q_mc r ≤ R.cells ∧ ns + q_ms r ≤ R.slots
theorem q_core_add (dc ds : Nat) (r : qRes) : q_core (q_add1 dc ds r) = q_core r := by
  rcases r with ⟨v, h, a, b⟩ | ⟨X, h, a, b⟩ | x <;> rfl
theorem q_mc_add (dc ds : Nat) (r : qRes) (h : ∃ z, q_core r = some z) : q_mc (q_add1 dc ds r) = dc + q_mc r ∧ q_ms (q_add1 dc ds r) = ds + q_ms r := by
  rcases r with ⟨v, h, a, b⟩ | ⟨X, h, a, b⟩ | x
  · exact ⟨rfl, rfl⟩
  · exact ⟨rfl, rfl⟩
  · obtain ⟨z, hz⟩ := h; cases hz
theorem lv_args_at : ∀ (vs : List Value) (k : Nat), (∀ v ∈ vs, v.category = 1) → ∀ (i : Nat) (w : Value), vs[i]? = some w → (k + i, w) ∈ lv_args k vs
  | [], _, _, i, w, h => by simp at h
  | v :: vs, k, hc, i, w, h => by
    have h1 : ¬ v.category = 2 := by rw [hc v List.mem_cons_self]; decide
    simp only [lv_args, h1, if_false]
    cases i with
    | zero => cases h; exact List.mem_cons_self
    | succ i =>
      rw [List.getElem?_cons_succ] at h
      have := lv_args_at vs (k + 1) (fun v hv => hc v (List.mem_cons_of_mem _ hv)) i w h
      rw [show k + 1 + i = k + (i + 1) by omega] at this
      exact List.mem_cons_of_mem _ this
theorem lg_sl_len : ∀ (vs : List Value), (∀ v ∈ vs, v.category = 1) → (lg_sl vs).length = vs.length
  | [], _ => rfl
  | v :: vs, hc => by
    have h1 : ¬ v.category = 2 := by rw [hc v List.mem_cons_self]; decide
    have := lg_sl_len vs (fun v hv => hc v (List.mem_cons_of_mem _ hv))
    unfold lg_sl at this ⊢
    simp only [List.flatMap_cons, h1, if_false, List.length_append, this, List.length_cons]
    simp; omega
theorem q_loc_ok {N0 b : Nat} {rho : Nat → Nat} {nL : Nat} {As : List qV} (hn : As.length ≤ nL) (hc : ∀ v ∈ As, q_lng v = false) : qLoc N0 b rho ((lg_sl (As.map (q_v N0 b rho)) ++ List.replicate (nL - (lg_sl (As.map (q_v N0 b rho))).length) Slot.unset).toArray) nL (q_loc nL As) := by
  have hc1 : ∀ v ∈ As.map (q_v N0 b rho), v.category = 1 := fun v hv => by
    obtain ⟨w, hw, rfl⟩ := List.mem_map.mp hv
    exact q_lngc (hc w hw)
  have hlen := lg_sl_len _ hc1
  rw [List.length_map] at hlen
  have hl := lv_entry (As.map (q_v N0 b rho)) (n := nL) (by rw [hlen]; exact hn)
  refine ⟨hl.1, hl.2.1, fun i v hi => ?_⟩
  have h1 : As[i]? = some v := by
    unfold q_loc at hi
    by_cases hlt : i < As.length
    · rw [List.getElem?_append_left (by rw [List.length_map]; exact hlt), List.getElem?_map] at hi
      cases hA : As[i]? with
      | none => rw [hA] at hi; cases hi
      | some w => rw [hA] at hi; exact Option.some.inj hi
    · rw [List.getElem?_append_right (by rw [List.length_map]; omega), List.getElem?_replicate] at hi
      split at hi <;> cases hi
  have h2 : (As.map (q_v N0 b rho))[i]? = some (q_v N0 b rho v) := by rw [List.getElem?_map, h1]; rfl
  have h3 := lv_args_at _ 0 hc1 i _ h2
  rw [Nat.zero_add] at h3
  exact ⟨hl.2.2 (i, q_v N0 b rho v) h3, hc v (List.mem_of_getElem? h1)⟩
section QONE
variable {p : Program} {l : Launch} {e : Env} {R : Room} {s : State} {m : MethodId} {args : Array Value} {below : List Frame} {meth : Method} {c : Code}
variable {N0 b : Nat} {H0 : Heap} {rho : Nat → Nat} {tys : List (ClassId × FieldType)} {D : va_G} {Lx : Nat} {xs : Nat → Int32}
variable {own nm : String} {cc : ByteArray} {nL : Nat} {ret : Option FieldType} {hh : List (Nat × Nat × Nat × Nat)} {d : Nat}
variable {Rw : List qRow} {hs : List qHd} {P : List qM} {I : List qInf} {sw : List Nat} {E : qEnv} {ih : qIh} {kk : qKk}
variable {Qf : State → Prop} {Rel : qRes → Nat → Nat → Prop}
variable {j pc op a0 b0 c0 len : Nat} {ins : Instr} {K : List qRow} {L : qL} {S : List qV} {h : qHp} {nc ns : Nat} {H : Heap} {locs : List Loc} {ls : Array Slot}
variable {Qc : Array Value → State → Outcome → State → Prop} {XC : String → State → State → Prop} {js : List Nat}
set_option maxHeartbeats 4000000 in
theorem q_one (C : qCtx p l R s m args meth c own nm cc nL ret hh d) (Wd : qWd N0 b H0 tys D Lx xs s) (hE : qEok E rho) (hX : qScr rho Lx xs) (hkk : qKok p l e R s m args below meth c N0 b H0 rho tys D nL Rw Qf Rel kk) (hno : ∀ x nc ns, ¬ Rel (.inr (.inr x)) nc ns) (hadd : qAddR R Rel) (hQf : Qf = vx_MQ below Qc XC args s R.cells R.slots (fun q => N0 ≤ q)) (hRret : q_RR N0 b H0 rho tys D R s args Rel Qc) (hRthr : q_RT N0 b H0 rho tys D R s c hh Rel XC) (hB : ∀ q, q < N0 → s.heap[q]? = H0[q]?) (hhs : q_hok own Rw hs hh js = true) (hcs : qCalls l N0 b H0 rho tys D Lx xs P I ih) (hroks : q_roks P I sw own nm cc nL ret Rw Rw = true) {r : qRow} (hK : q_drop Rw j = r :: K) (hr : Rel (q_step sw r.2.1 P E ih kk d Rw hs r.1 r.2.2.1 r.2.2.2.1 r.2.2.2.2.1 K L S h) nc ns) (hJ : qJ N0 b H0 rho tys D h H) (hl : ∀ z ∈ locs, N0 ≤ z.base) (hL : qLoc N0 b rho ls nL L) : W p l e R s m args below meth c H locs nc ns Qf (F0 m r.1 ls (S.map (q_v N0 b rho))) := by
  have hrw : ∀ (k : Nat) (x : qRow) (K' : List qRow), q_drop Rw k = x :: K' → x.2.1 = 50 → decode cc x.1 = .ok (x.2.2.2.2.2.1, x.2.2.2.2.2.2) ∧ q_opok P I sw own nm cc nL ret Rw K' x.1 50 x.2.2.1 x.2.2.2.1 x.2.2.2.2.1 x.2.2.2.2.2.1 x.2.2.2.2.2.2 = true := by
    intro k x K' hk h50
    have h1 := q_roks_at hroks hk
    unfold q_rok at h1
    rw [h50] at h1
    simp only [show Nat.blt 50 51 = true from rfl, Bool.and_eq_true, decide_eq_true_eq] at h1
    exact h1
  obtain ⟨pc, op, a0, b0, c0, ins, len⟩ := r
  have hrow := q_roks_at hroks hK
  have hr : Rel (q_step sw op P E ih kk d Rw hs pc a0 b0 c0 K L S h) nc ns := hr
  show W p l e R s m args below meth c H locs nc ns Qf (F0 m pc ls (S.map (q_v N0 b rho)))
  rcases Nat.lt_or_ge op 51 with hop | hop
  · unfold q_rok at hrow
    dsimp only at hrow
    rw [Nat.blt_eq.mpr hop] at hrow
    simp only [Bool.and_eq_true, decide_eq_true_eq] at hrow
    obtain ⟨hd, ok⟩ := hrow
    match op, hop, ok, hr, hK with
    | 0, _, ok, hr, hK => exact qs_const (ih := ih) (hs := hs) C Wd hE hX hkk hno hadd hK hd ok hr hJ hl hL
    | 1, _, ok, hr, hK => exact qs_iload (ih := ih) (hs := hs) C Wd hE hX hkk hno hadd hK hd ok hr hJ hl hL
    | 2, _, ok, hr, hK => exact qs_istore (ih := ih) (hs := hs) C Wd hE hX hkk hno hadd hK hd ok hr hJ hl hL
    | 3, _, ok, hr, hK => exact qs_iinc (ih := ih) (hs := hs) C Wd hE hX hkk hno hadd hK hd ok hr hJ hl hL
    | 4, _, ok, hr, hK => exact qs_add (ih := ih) (hs := hs) C Wd hE hX hkk hno hadd hK hd ok hr hJ hl hL
    | 5, _, ok, hr, hK => exact qs_sub (ih := ih) (hs := hs) C Wd hE hX hkk hno hadd hK hd ok hr hJ hl hL
    | 6, _, ok, hr, hK => exact qs_mul (ih := ih) (hs := hs) C Wd hE hX hkk hno hadd hK hd ok hr hJ hl hL
    | 7, _, ok, hr, hK => exact qs_and (ih := ih) (hs := hs) C Wd hE hX hkk hno hadd hK hd ok hr hJ hl hL
    | 8, _, ok, hr, hK => exact qs_or (ih := ih) (hs := hs) C Wd hE hX hkk hno hadd hK hd ok hr hJ hl hL
    | 9, _, ok, hr, hK => exact qs_xor (ih := ih) (hs := hs) C Wd hE hX hkk hno hadd hK hd ok hr hJ hl hL
    | 10, _, ok, hr, hK => exact qs_shl (ih := ih) (hs := hs) C Wd hE hX hkk hno hadd hK hd ok hr hJ hl hL
    | 11, _, ok, hr, hK => exact qs_null (ih := ih) (hs := hs) C Wd hE hX hkk hno hadd hK hd ok hr hJ hl hL
    | 12, _, ok, hr, hK => exact qs_dup (ih := ih) (hs := hs) C Wd hE hX hkk hno hadd hK hd ok hr hJ hl hL
    | 13, _, ok, hr, hK => exact qs_pop (ih := ih) (hs := hs) C Wd hE hX hkk hno hadd hK hd ok hr hJ hl hL
    | 14, _, ok, hr, hK => exact qs_if (ih := ih) (hs := hs) C Wd hE hX hkk hno hadd hK hd ok hr hJ hl hL
    | 15, _, ok, hr, hK => exact qs_icmp (ih := ih) (hs := hs) C Wd hE hX hkk hno hadd hK hd ok hr hJ hl hL
    | 16, _, ok, hr, hK => exact qs_ifnull (ih := ih) (hs := hs) C Wd hE hX hkk hno hadd hK hd ok hr hJ hl hL
    | 17, _, ok, hr, hK => exact qs_ifnonnull (ih := ih) (hs := hs) C Wd hE hX hkk hno hadd hK hd ok hr hJ hl hL
    | 18, _, ok, hr, hK => exact qs_acmpeq (ih := ih) (hs := hs) C Wd hE hX hkk hno hadd hK hd ok hr hJ hl hL
    | 19, _, ok, hr, hK => exact qs_acmpne (ih := ih) (hs := hs) C Wd hE hX hkk hno hadd hK hd ok hr hJ hl hL
    | 20, _, ok, hr, hK => exact qs_goto (ih := ih) (hs := hs) C Wd hE hX hkk hno hadd hK hd ok hr hJ hl hL
    | 21, _, ok, hr, hK => exact qs_getf (ih := ih) (hs := hs) C Wd hE hX hkk hno hadd hK hd ok hr hJ hl hL
    | 22, _, ok, hr, hK => exact qs_putf (ih := ih) (hs := hs) C Wd hE hX hkk hno hadd hK hd ok hr hJ hl hL
    | 23, _, ok, hr, hK => exact qs_alen (ih := ih) (hs := hs) C Wd hE hX hkk hno hadd hK hd ok hr hJ hl hL
    | 24, _, ok, hr, hK => exact qs_iald (ih := ih) (hs := hs) C Wd hE hX hkk hno hadd hK hd ok hr hJ hl hL
    | 25, _, ok, hr, hK => exact qs_iast (ih := ih) (hs := hs) C Wd hE hX hkk hno hadd hK hd ok hr hJ hl hL
    | 26, _, ok, hr, hK => exact qs_lald (ih := ih) (hs := hs) C Wd hE hX hkk hno hadd hK hd ok hr hJ hl hL
    | 27, _, ok, hr, hK => exact qs_last (ih := ih) (hs := hs) C Wd hE hX hkk hno hadd hK hd ok hr hJ hl hL
    | 28, _, ok, hr, hK => exact qs_aald (ih := ih) (hs := hs) C Wd hE hX hkk hno hadd hK hd ok hr hJ hl hL
    | 29, _, ok, hr, hK => exact qs_aast (ih := ih) (hs := hs) C Wd hE hX hkk hno hadd hK hd ok hr hJ hl hL
    | 30, _, ok, hr, hK => exact qs_newa (ih := ih) (hs := hs) C Wd hE hX hkk hno hadd hK hd ok hr hJ hl hL
    | 31, _, ok, hr, hK => exact qs_anew (ih := ih) (hs := hs) C Wd hE hX hkk hno hadd hK hd ok hr hJ hl hL
    | 32, _, ok, hr, hK => exact qs_multi (ih := ih) (hs := hs) C Wd hE hX hkk hno hadd hK hd ok hr hJ hl hL
    | 33, _, ok, hr, hK => exact qs_new (ih := ih) (hs := hs) C Wd hE hX hkk hno hadd hK hd ok hr hJ hl hL
    | 34, _, ok, hr, hK => exact qs_objinit (ih := ih) (hs := hs) C Wd hE hX hkk hno hadd hK hd ok hr hJ hl hL
    | 35, _, ok, hr, hK => exact qs_callv (ih := ih) (hs := hs) C Wd hE hX hkk hno hadd hQf hRret hRthr hB hhs hcs hrw hK hd ok hr hJ hl hL
    | 36, _, ok, hr, hK => exact qs_calls (ih := ih) (hs := hs) C Wd hE hX hkk hno hadd hQf hRret hRthr hB hhs hcs hrw hK hd ok hr hJ hl hL
    | 37, _, ok, hr, hK => exact qs_calli (ih := ih) (hs := hs) C Wd hE hX hkk hno hadd hQf hRret hRthr hB hhs hcs hrw hK hd ok hr hJ hl hL
    | 38, _, ok, hr, hK => exact qs_callin (ih := ih) (hs := hs) C Wd hE hX hkk hno hadd hQf hRret hRthr hB hhs hcs hrw hK hd ok hr hJ hl hL
    | 39, _, ok, hr, hK => exact qs_callsw (ih := ih) (hs := hs) C Wd hE hX hkk hno hadd hQf hRret hRthr hB hhs hcs hrw hK hd ok hr hJ hl hL
    | 40, _, ok, hr, hK => exact qs_iret (ih := ih) (hs := hs) C Wd hE hX hkk hno hadd hQf hRret hRthr hB hhs hcs hK hd ok hr hJ hl hL
    | 41, _, ok, hr, hK => exact qs_aret (ih := ih) (hs := hs) C Wd hE hX hkk hno hadd hQf hRret hRthr hB hhs hcs hK hd ok hr hJ hl hL
    | 42, _, ok, hr, hK => exact qs_vret (ih := ih) (hs := hs) C Wd hE hX hkk hno hadd hQf hRret hRthr hB hhs hcs hK hd ok hr hJ hl hL
    | 43, _, ok, hr, hK => exact qs_throw (ih := ih) (hs := hs) C Wd hE hX hkk hno hadd hQf hRret hRthr hB hhs hcs hK hd ok hr hJ hl hL
    | 44, _, ok, hr, hK => exact qs_switch (ih := ih) (hs := hs) C Wd hE hX hkk hno hadd hQf hRret hRthr hB hhs hcs hK hd ok hr hJ hl hL
    | 45, _, ok, hr, hK => exact qs_i2l (ih := ih) (hs := hs) C Wd hE hX hkk hno hadd hK hd ok hr hJ hl hL
    | 46, _, ok, hr, hK => exact qs_lcmp (ih := ih) (hs := hs) C Wd hE hX hkk hno hadd hK hd ok hr hJ hl hL
    | 47, _, ok, hr, hK => exact qs_lconst (ih := ih) (hs := hs) C Wd hE hX hkk hno hadd hK hd ok hr hJ hl hL
    | 48, _, ok, hr, hK => exact qs_rem (ih := ih) (hs := hs) C Wd hE hX hkk hno hadd hK hd ok hr hJ hl hL
    | 49, _, ok, hr, hK => exact qs_aload (ih := ih) (hs := hs) C Wd hE hX hkk hno hadd hK hd ok hr hJ hl hL
    | 50, _, ok, hr, hK => exact qs_astore (ih := ih) (hs := hs) C Wd hE hX hkk hno hadd hK hd ok hr hJ hl hL
    | n + 51, hop, _, _, _ => exact absurd hop (by omega)
  · have : q_step sw op = qo_bad := by
      obtain ⟨k, rfl⟩ : ∃ k, op = k + 51 := ⟨op - 51, by omega⟩
      rfl
    rw [this] at hr
    exact absurd hr (hno _ _ _)
end QONE
section QMN
variable {l : Launch} {N0 b : Nat} {H0 : Heap} {rho : Nat → Nat} {tys : List (ClassId × FieldType)} {D : va_G} {Lx : Nat} {xs : Nat → Int32} {P : List qM} {I : List qInf} {sw : List Nat} {E : qEnv} {n : Nat}
theorem q_calls_of (htr : l.stackTraces = false) (hPI : qFacts P I sw) (IH : qFrame l N0 b H0 rho tys D Lx xs P I sw E n) : qCalls l N0 b H0 rho tys D Lx xs P I (qRun sw P E n) := by
  intro k M i hM hi
  obtain ⟨hok, hroks, ⟨js, hhok⟩, hpl, r0, K0, hR0, hr0⟩ := hPI k M i hM hi
  refine ⟨hok, fun d As h r hAs hAc hrun hgood => ?_⟩
  obtain ⟨y, cy, ry, hy, j1, j2, j3, j4⟩ := i
  obtain ⟨nL, Rw, hs⟩ := M
  dsimp only at hok hroks hhok hpl hR0 hrun hAs
  have main : ∀ (p : Program) (e : Env) (s : State) (m : MethodId) (args : Array Value) (below : List Frame) (meth : Method) (c : Code) (s₁ : State), BodyLoose p l y (headSpec (q_code y cy nL ry hy :: q_TBL) (q_rm d r)) cy nL ry e s m args below meth c s₁ → c.maxLocals = nL → (hy ≠ [] → c.exceptionTable.toList = tableOf hy) → (hy = [] → c.exceptionTable.toList = []) → q_Pc N0 b H0 rho tys D Lx xs As h args s →
      W p l e (headSpec (q_code y cy nL ry hy :: q_TBL) (q_rm d r)).room s m args below meth c s.heap [] 0 0 (vx_MQ below (q_Qc N0 b H0 rho tys D r) (q_XC N0 b H0 rho tys D r) args s (q_mc r) (q_ms r) (fun q => N0 ≤ q)) (entryFrame m args nL) := by
    intro p e s m args below meth c s₁ B hml ht1 ht2 hPc
    obtain ⟨rfl, hWd, hJ⟩ := hPc
    have hpre := atoms_spec (ws := q_code y cy nL ry hy :: q_TBL) B.pre
    have C : qCtx p l (q_rm d r) s m (As.map (q_v N0 b rho)).toArray meth c y.cls y.name cy nL ry hy d := ⟨B.exec, B.bytes, hml, findClass_of_methodNamed B.named, fun w hw => hpre w (List.mem_cons_of_mem _ hw), B.returns, B.notSynchronized, Or.inl (name_of_methodNamed B.named B.method).1, ht1, Nat.le_refl _, Nat.le_refl _, htr⟩
    have hkk := IH p e (q_rm d r) s m (As.map (q_v N0 b rho)).toArray below meth c y.cls y.name cy nL ry hy d Rw hs js _ (q_Qc N0 b H0 rho tys D r) (q_XC N0 b H0 rho tys D r) (q_RelT (q_rm d r) r) C hWd hJ.1 hroks hhok
      (fun x nc ns hx => by obtain ⟨⟨z, hz⟩, -⟩ := hx; cases hz)
      (fun dc ds r1 nc ns hx => by
        obtain ⟨hg, hc, h1, h2⟩ := hx
        rw [q_core_add] at hg hc
        obtain ⟨e1, e2⟩ := q_mc_add dc ds r1 hg
        rw [e1] at h1
        rw [e2] at h2
        exact ⟨⟨hg, hc, by omega, by omega⟩, by omega, by omega⟩)
      rfl
      (fun v h1 nc ns hx => by
        obtain ⟨-, hc, h2, h3⟩ := hx
        exact ⟨by have : q_mc (.inl (v, h1, 0, 0)) = 0 := rfl; omega, by have : q_ms (.inl (v, h1, 0, 0)) = 0 := rfl; omega, fun t ht => ⟨v, h1, hc.symm.trans rfl, rfl, ht⟩⟩)
      (fun X h1 mc ms nc ns hx => by
        obtain ⟨-, hc, h2, h3⟩ := hx
        exact ⟨h2, h3, ht2, fun t E2 hE2 ht => ⟨X, h1, hc.symm.trans rfl, hE2, ht⟩⟩)
    have hst := hkk 0 (q_loc nL As) [] h 0 0 (by
      show q_RelT (q_rm d r) r (qRun sw P E n d Rw hs (q_drop Rw 0) (q_loc nL As) [] h) 0 0
      have e0 : q_drop Rw 0 = Rw := by cases Rw <;> rfl
      rw [e0, hrun]
      exact ⟨hgood, rfl, by show 0 + q_mc r ≤ q_mc r; omega, by show 0 + q_ms r ≤ q_ms r; omega⟩)
    obtain ⟨r1, K1, hd1, hW⟩ := hst
    have e0 : q_drop Rw 0 = Rw := by cases Rw <;> rfl
    rw [e0, hR0] at hd1
    cases hd1
    rw [lg_entry_eq]
    have := hW s.heap [] _ hJ (fun z hz => by cases hz) (q_loc_ok (N0 := N0) (b := b) (rho := rho) hAs hAc)
    rw [hr0] at this
    exact this
  show vx_Met l y (q_code y cy nL ry hy :: q_TBL) (q_rm d r) _ _ _ _ _ _
  match hy, main with
  | [], main =>
    refine vx_ofW (cc := cy) (maxL := nL) (ret := ry) hpl rfl (fun p e s m args below meth c s₁ B hml ht hPc => main p e s m args below meth c s₁ B hml (fun z => absurd rfl z) (fun _ => ?_) hPc)
    cases hx : c.exceptionTable.toList with
    | nil => rfl
    | cons a t => exact (ht a (by rw [hx]; exact List.mem_cons_self)).elim
  | z :: w, main =>
    refine vx_ofWH (cc := cy) (maxL := nL) (ret := ry) (hh := z :: w) hpl rfl (fun p e s m args below meth c s₁ B hml hPc => main p e s m args below meth c s₁ B hml (fun _ => ?_) (fun z => by cases z) hPc)
    exact vx_table (x := y) B (atoms_spec (ws := q_code y cy nL ry (z :: w) :: q_TBL) B.pre _ List.mem_cons_self)
set_option maxHeartbeats 4000000 in
theorem q_frame (htr : l.stackTraces = false) (hPI : qFacts P I sw) (hE : qEok E rho) (hX : qScr rho Lx xs) : ∀ n, qFrame l N0 b H0 rho tys D Lx xs P I sw E n := by
  intro n
  induction n with
  | zero =>
    intro p e R s m args below meth c own nm cc nL ret hh d Rw hs js Qf Qc XC Rel C Wd hB hroks hhs hno hadd hQf hRret hRthr j L S h nc ns hr
    exact absurd hr (hno _ _ _)
  | succ n IH =>
    intro p e R s m args below meth c own nm cc nL ret hh d Rw hs js Qf Qc XC Rel C Wd hB hroks hhs hno hadd hQf hRret hRthr j L S h nc ns hr
    have hkk := IH p e R s m args below meth c own nm cc nL ret hh d Rw hs js Qf Qc XC Rel C Wd hB hroks hhs hno hadd hQf hRret hRthr
    have hcs := q_calls_of htr hPI IH
    cases hK : q_drop Rw j with
    | nil =>
      rw [hK] at hr
      exact absurd hr (hno _ _ _)
    | cons r K =>
      refine ⟨r, K, hK, fun H locs ls hJ hl hL => ?_⟩
      rw [hK] at hr
      exact q_one C Wd hE hX hkk hno hadd hQf hRret hRthr hB hhs hcs hroks hK hr hJ hl hL
end QMN
