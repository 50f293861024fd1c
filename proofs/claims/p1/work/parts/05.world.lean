/-! WHAT THE EVALUATOR'S WORDS MEAN: values, cells, heaps, locals -/
def q_ad (N0 b : Nat) (k : Nat) : Nat := match k with
  | 0 => b
  | k + 1 => N0 + k
def q_l (n : Nat) : Int64 := (nI n).toInt64
def q_r (N0 b : Nat) (r : Option Nat) : Option Nat := r.map (q_ad N0 b)
def q_v (N0 b : Nat) (rho : Nat → Nat) (v : qV) : Value := match v with
  | .inl x => .int (q_i rho x)
  | .inr (.inl r) => va_rf (q_r N0 b r)
  | .inr (.inr n) => .long (q_l n)
def q_cA (tys : List (ClassId × FieldType)) (t : Nat) : ClassId := (tys.getD t (0, .int)).1
def q_c (N0 b : Nat) (rho : Nat → Nat) (tys : List (ClassId × FieldType)) (x : qC) : va_E := match x with
  | .inl (t, .inl l) => .inl (q_cA tys t, l.length, .inl (fun j => q_i rho (l.getD j (0, []))))
  | .inl (t, .inr (.inl l)) => .inl (q_cA tys t, l.length, .inr (.inl (fun j => q_l (l.getD j 0))))
  | .inl (t, .inr (.inr l)) => .inl (q_cA tys t, l.length, .inr (.inr (.inr (.inr (fun j => q_r N0 b (l.getD j none))))))
  | .inr (ci, fs) => .inr (ci, fs.map (q_v N0 b rho))
def qJ (N0 b : Nat) (H0 : Heap) (rho : Nat → Nat) (tys : List (ClassId × FieldType)) (D : va_G) (h : qHp) (H : Heap) : Prop :=
  (∀ q : Nat, q < N0 → H[q]? = H0[q]?) ∧ N0 + h.2.length ≤ H.size ∧ (h.1 = true → H.size = N0 + h.2.length) ∧ ∀ (k : Nat) (x : qC), h.2[k]? = some x → va_at D vwCl (N0 + k, q_c N0 b rho tys x) H
theorem q_lngc {N0 b : Nat} {rho : Nat → Nat} {v : qV} (h : q_lng v = false) : (q_v N0 b rho v).category = 1 := by
  rcases v with x | r | n
  · rfl
  · cases r <;> rfl
  · cases h
theorem q_catc {N0 b : Nat} {rho : Nat → Nat} (v : qV) : (q_v N0 b rho v).category = (match q_lng v with | true => 2 | false => 1) := by
  rcases v with x | r | n
  · rfl
  · cases r <;> rfl
  · rfl
theorem q_cats {N0 b : Nat} {rho : Nat → Nat} : ∀ (S : List qV), ((S.map (q_v N0 b rho)).map fun v => v.category).sum = q_cat S
  | [] => rfl
  | v :: S => by
    show (q_v N0 b rho v).category + ((S.map (q_v N0 b rho)).map fun v => v.category).sum = _
    rw [q_cats S, q_catc v]
    rfl
section QJ
variable {N0 b : Nat} {H0 : Heap} {rho : Nat → Nat} {tys : List (ClassId × FieldType)} {D : va_G} {h : qHp} {H H1 : Heap}
theorem qJ.one (hJ : qJ N0 b H0 rho tys D h H) {k : Nat} {x : qC} (hk : h.2[k]? = some x) : va_P D vwCl [(N0 + k, q_c N0 b rho tys x)] H := by
  intro i q hq
  cases i with
  | zero => cases hq; exact hJ.2.2.2 k x hk
  | succ i => simp at hq
theorem qJ.set (hJ : qJ N0 b H0 rho tys D h H) {k : Nat} {x0 x1 : qC} (hk : h.2[k]? = some x0) (z : H1.size = H.size) (oq : ∀ q : Nat, q ≠ N0 + k → H1[q]? = H[q]?) (hat : va_at D vwCl (N0 + k, q_c N0 b rho tys x1) H1) : qJ N0 b H0 rho tys D (h.1, h.2.set k x1) H1 := by
  obtain ⟨h1, h2, h3, h4⟩ := hJ
  have hl := (List.getElem?_eq_some_iff.mp hk).1
  refine ⟨fun q hq => by rw [oq q (by omega)]; exact h1 q hq, by rw [z, List.length_set]; exact h2, fun ht => by rw [z, List.length_set]; exact h3 ht, fun i x hi => ?_⟩
  by_cases e : i = k
  · subst e
    rw [List.getElem?_set_self hl] at hi
    cases hi
    exact hat
  · rw [List.getElem?_set_ne (Ne.symm e)] at hi
    exact (h4 i x hi).kept (oq _ (by show N0 + i ≠ N0 + k; omega))
theorem qJ.push (hJ : qJ N0 b H0 rho tys D h H) (hf : h.1 = true) {x : qC} (z : H1.size = H.size + 1) (o : ∀ q : Nat, q < H.size → H1[q]? = H[q]?) (hat : va_at D vwCl (H.size, q_c N0 b rho tys x) H1) : qJ N0 b H0 rho tys D (true, h.2 ++ [x]) H1 := by
  obtain ⟨h1, h2, h3, h4⟩ := hJ
  have e := h3 hf
  refine ⟨fun q hq => by rw [o q (by omega)]; exact h1 q hq, by rw [z, List.length_append]; simp; omega, fun _ => by rw [z, List.length_append]; simp; omega, fun i y hi => ?_⟩
  by_cases hl : i < h.2.length
  · rw [List.getElem?_append_left hl] at hi
    exact (h4 i y hi).kept (o _ (by show N0 + i < H.size; omega))
  · rw [List.getElem?_append_right (by omega)] at hi
    have hz : i - h.2.length < 1 := (List.getElem?_eq_some_iff.mp hi).1
    rw [show i - h.2.length = 0 by omega] at hi
    cases hi
    rw [show N0 + i = H.size by omega]
    exact hat
/-- what was thrown lies behind -/
theorem qJ.grow (hJ : qJ N0 b H0 rho tys D h H) (z : H.size ≤ H1.size) (o : ∀ q : Nat, q < H.size → H1[q]? = H[q]?) : qJ N0 b H0 rho tys D (false, h.2) H1 := by
  obtain ⟨h1, h2, h3, h4⟩ := hJ
  exact ⟨fun q hq => by rw [o q (by omega)]; exact h1 q hq, Nat.le_trans h2 z, fun ht => (by cases ht), fun i x hi => (h4 i x hi).kept (o _ (by have h9 : i < h.2.length := (List.getElem?_eq_some_iff.mp hi).1; show N0 + i < H.size; omega))⟩
end QJ
def qLoc (N0 b : Nat) (rho : Nat → Nat) (ls : Array Slot) (nL : Nat) (L : qL) : Prop := ls.size = nL ∧ lv_wf ls ∧ ∀ (i : Nat) (v : qV), L[i]? = some (some v) → ls[i]? = some (.val (q_v N0 b rho v)) ∧ q_lng v = false
def q_lv (N0 b : Nat) (rho : Nat → Nat) (nL : Nat) (L : qL) : List (Nat × Value) := (List.range nL).filterMap fun i => match L[i]? with
  | some (some v) => some (i, q_v N0 b rho v)
  | _ => none
section QL
variable {N0 b : Nat} {rho : Nat → Nat} {ls ls' : Array Slot} {nL : Nat} {L : qL}
theorem q_lv_mem {q : Nat × Value} (hq : q ∈ q_lv N0 b rho nL L) : ∃ v, L[q.1]? = some (some v) ∧ q.2 = q_v N0 b rho v := by
  obtain ⟨i, -, hi⟩ := List.mem_filterMap.mp hq
  split at hi
  · next v hv =>
    cases hi
    exact ⟨v, hv, rfl⟩
  · cases hi
theorem qLoc.lv (h : qLoc N0 b rho ls nL L) : lv_has ls nL (q_lv N0 b rho nL L) := by
  refine ⟨h.1, h.2.1, fun q hq => ?_⟩
  obtain ⟨v, h1, h2⟩ := q_lv_mem hq
  rw [h2]
  exact (h.2.2 q.1 v h1).1
theorem qLoc.st (h : qLoc N0 b rho ls nL L) {i : Nat} {val : Value} (h' : lv_has ls' nL ((i, val) :: (q_lv N0 b rho nL L).filter (fun q => !(q.1 == i) && !(q.1 + 1 == i && q.2.category == 2)))) (o : Option qV) (ho : ∀ v, o = some v → val = q_v N0 b rho v ∧ q_lng v = false) : qLoc N0 b rho ls' nL (L.set i o) := by
  refine ⟨h'.1, h'.2.1, fun j v hj => ?_⟩
  by_cases e : j = i
  · subst e
    have hl : j < L.length := by
      have := (List.getElem?_eq_some_iff.mp hj).1
      rwa [List.length_set] at this
    rw [List.getElem?_set_self hl] at hj
    have hj := Option.some.inj hj
    obtain ⟨h1, h2⟩ := ho v hj
    exact ⟨by rw [← h1]; exact h'.2.2 (j, val) List.mem_cons_self, h2⟩
  · rw [List.getElem?_set_ne (Ne.symm e)] at hj
    obtain ⟨h1, h2⟩ := h.2.2 j v hj
    have hjn : j < nL := by rw [← h.1]; exact (Array.getElem?_eq_some_iff.mp h1).1
    refine ⟨h'.2.2 (j, q_v N0 b rho v) (List.mem_cons_of_mem _ (List.mem_filter.mpr ⟨List.mem_filterMap.mpr ⟨j, List.mem_range.mpr hjn, by rw [hj]⟩, ?_⟩)), h2⟩
    have hc := q_lngc (N0 := N0) (b := b) (rho := rho) h2
    simp [e, hc]
end QL
def q_nestP (q : String × Nat × MethodName) : Jvm.Cond := .methodLinkNest q.1 q.2.1 q.2.2 "Treebark"
/-- what holds of the machine's tables and of the old heap, at every method's start -/
def qWd (N0 b : Nat) (H0 : Heap) (tys : List (ClassId × FieldType)) (D : va_G) (Lx : Nat) (xs : Nat → Int32) (s : State) : Prop :=
  va_K D vwCl tys s ∧ tys.map (fun q => q.2) = q_tys ∧ va_X b Lx xs s H0 ∧ b < N0 ∧ H0.size = N0 ∧
  vx_Zq Bundle.tN "UNASSIGNED_STACK" Bundle.steD (fun q => N0 ≤ q) s H0 ∧ vx_Zq Bundle.tN "SUPPRESSED_SENTINEL" Bundle.listD (fun q => N0 ≤ q) s H0 ∧
  (∀ q ∈ q_nests, va_Nw (q_nestP q) s) ∧ ((∀ X ∈ q_exc, va_Nw (.castable X X) s) ∧ ∀ y ∈ q_decl, va_Nw (.declares y) s) ∧ (∀ X ∈ q_exc, ∀ Y ∈ q_exc, X ≠ Y → va_Nc X Y s) ∧
  (∀ (t : Nat) (C : String), 1 < t → q_tys[t]? = some (.object C) → va_AO C s) ∧ va_Nw (.arrayOver (.array .int)) s
theorem q_ao6_moved {s U : State} (hW : s.WarmedH U.vm) (h : va_Nw (.arrayOver (.array .int)) s) : va_Nw (.arrayOver (.array .int)) U := Jvm.Stand.arrayOver_alikeB hW.alike h
theorem qWd.moved {N0 b : Nat} {H0 : Heap} {tys : List (ClassId × FieldType)} {D : va_G} {Lx : Nat} {xs : Nat → Int32} {s U : State} (hW : s.WarmedH U.vm) (h : qWd N0 b H0 tys D Lx xs s) : qWd N0 b H0 tys D Lx xs U := by
  obtain ⟨h1, h2, h3, h4, h5, h6, h7, h8, h9, h10, h11, h12⟩ := h
  exact ⟨va_K.moved hW.alike h1, h2, va_X.moved hW.alike h3, h4, h5, vx_Zq.moved hW.alike h6, vx_Zq.moved hW.alike h7, fun q hq => va_Nw.warmM hW (h8 q hq), ⟨fun X hX => va_Nw.warmC hW (h9.1 X hX), fun y hy => va_Nw.warmD hW (h9.2 y hy)⟩, fun X hX Y hY hn => va_Nc.moved hW.alike (h10 X hX Y hY hn), fun t C ht hC => va_AO.moved hW.alike (h11 t C ht hC), q_ao6_moved hW h12⟩
/-- a method at work: the machine, its code, the tables' words, its room -/
def qCtx (p : Program) (l : Launch) (R : Room) (s : State) (m : MethodId) (args : Array Value) (meth : Method) (c : Code) (own nm : String) (cc : ByteArray) (nL : Nat) (ret : Option FieldType) (hh : List (Nat × Nat × Nat × Nat)) (d : Nat) : Prop :=
  p.tables.exec = Jvm.exec ∧ c.code = cc ∧ c.maxLocals = nL ∧ s.vm.findClass own = some m.cls ∧ (∀ w ∈ q_TBL, w.before args s = true) ∧ meth.sig.returnType = ret ∧ meth.locks = false ∧ (meth.name = nm ∨ nm = "") ∧ (hh ≠ [] → c.exceptionTable.toList = tableOf hh) ∧ d ≤ R.frames ∧ 32 * d ≤ R.locals ∧ l.stackTraces = false
theorem q_w_in {j : Nat} {w : Jvm.Cond} (h : q_w j w = true) : w ∈ q_TBL ∧ goodWord w = true := by
  simp only [q_w, Bool.and_eq_true, decide_eq_true_eq] at h
  exact ⟨List.mem_filter.mpr ⟨List.mem_of_getElem? h.1, h.2⟩, h.2⟩
theorem q_TBL_good {w : Jvm.Cond} (h : w ∈ q_TBL) : goodWord w = true := (List.mem_filter.mp h).2
/-- the continuation's state: the row where it stands, the walk from there -/
def qSt (p : Program) (l : Launch) (e : Env) (R : Room) (s : State) (m : MethodId) (args : Array Value) (below : List Frame) (meth : Method) (c : Code) (N0 b : Nat) (H0 : Heap) (rho : Nat → Nat) (tys : List (ClassId × FieldType)) (D : va_G) (nL : Nat) (Rw : List qRow) (Qf : State → Prop) (j : Nat) (L : qL) (S : List qV) (h : qHp) (nc ns : Nat) : Prop :=
  ∃ (r : qRow) (K : List qRow), q_drop Rw j = r :: K ∧ ∀ (H : Heap) (locs : List Loc) (ls : Array Slot), qJ N0 b H0 rho tys D h H → (∀ z ∈ locs, N0 ≤ z.base) → qLoc N0 b rho ls nL L → W p l e R s m args below meth c H locs nc ns Qf (F0 m r.1 ls (S.map (q_v N0 b rho)))
