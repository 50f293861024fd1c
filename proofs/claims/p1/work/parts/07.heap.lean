/-! THE OPS ON THE HEAP -/
theorem q_cl0 : GoodIn lw_tbl (u_ws RX0 TX0 6) := goodIn_r _ [156, 158, 160, 162, 164, 166] (by decide +kernel) (by decide +kernel)
theorem q_cl1 : GoodIn lw_tbl (u_ws RX1 TX1 7) := goodIn_r _ [131, 133, 135, 137, 139, 141, 143] (by decide +kernel) (by decide +kernel)
theorem q_cl2 : GoodIn lw_tbl (u_ws RX2 TX2 4) := goodIn_r _ [903, 905, 907, 909] (by decide +kernel) (by decide +kernel)
theorem q_cl3 : GoodIn lw_tbl (u_ws RX3 TX3 3) := goodIn_r _ [412, 414, 416] (by decide +kernel) (by decide +kernel)
theorem q_cl4 : GoodIn lw_tbl (u_ws RX4 TX4 2) := goodIn_r _ [237, 239] (by decide +kernel) (by decide +kernel)
theorem q_cl5 : GoodIn lw_tbl (u_ws RX5 TX5 2) := goodIn_r _ [269, 271] (by decide +kernel) (by decide +kernel)
theorem q_cl6 : GoodIn lw_tbl (u_ws RX6 TX6 5) := goodIn_r _ [216, 218, 220, 222, 224] (by decide +kernel) (by decide +kernel)
theorem q_cl7 : GoodIn lw_tbl (u_ws RX7 TX7 4) := goodIn_r _ [187, 189, 191, 193] (by decide +kernel) (by decide +kernel)
theorem q_cl8 : GoodIn lw_tbl (u_ws RX8 TX8 2) := goodIn_r _ [252, 254] (by decide +kernel) (by decide +kernel)
theorem q_cl9 : GoodIn lw_tbl (u_ws RX9 TX9 13) := goodIn_r _ [320, 322, 324, 326, 328, 330, 332, 334, 336, 338, 340, 342, 344] (by decide +kernel) (by decide +kernel)
theorem q_cl10 : GoodIn lw_tbl (u_ws RX10 TX10 36) := goodIn_r _ [1069, 1071, 1073, 1075, 1077, 1079, 1081, 1083, 1085, 1087, 1089, 1091, 1093, 1095, 1097, 1099, 1101, 1103, 1105, 1107, 1109, 1111, 1113, 1115, 1117, 1119, 1121, 1123, 1125, 1127, 1129, 1131, 1133, 1135, 1137, 1139] (by decide +kernel) (by decide +kernel)
theorem q_cl : ∀ (a : Nat) (q : vw_C), vwCl[a]? = some q → GoodIn lw_tbl (u_ws q.1 q.2.1 q.2.2) ∧ (∀ a, a < q.2.2 → ∀ b, b < q.2.2 → a ≠ b → (q.2.1 a).2.1 ≠ (q.2.1 b).2.1) ∧ ∃ ty0 : Nat → FieldType, ∀ k, k < q.2.2 → parseFieldDescriptor (q.2.1 k).2.2.1 = some (ty0 k) := by
  intro a q h
  match a, h with
  | 0, h => cases h; exact ⟨q_cl0, nmX0, tyX0, tyX0_ok⟩
  | 1, h => cases h; exact ⟨q_cl1, nmX1, tyX1, tyX1_ok⟩
  | 2, h => cases h; exact ⟨q_cl2, nmX2, tyX2, tyX2_ok⟩
  | 3, h => cases h; exact ⟨q_cl3, nmX3, tyX3, tyX3_ok⟩
  | 4, h => cases h; exact ⟨q_cl4, nmX4, tyX4, tyX4_ok⟩
  | 5, h => cases h; exact ⟨q_cl5, nmX5, tyX5, tyX5_ok⟩
  | 6, h => cases h; exact ⟨q_cl6, nmX6, tyX6, tyX6_ok⟩
  | 7, h => cases h; exact ⟨q_cl7, nmX7, tyX7, tyX7_ok⟩
  | 8, h => cases h; exact ⟨q_cl8, nmX8, tyX8, tyX8_ok⟩
  | 9, h => cases h; exact ⟨q_cl9, nmX9, tyX9, tyX9_ok⟩
  | 10, h => cases h; exact ⟨q_cl10, nmX10, tyX10, tyX10_ok⟩
  | n + 11, h => simp [vwCl] at h


theorem q_goodB {w : Jvm.Cond} (h : (w.onTables && w.keeps) = true ∨ ∃ ty, w = .arrayClass ty) : goodWord w = true := by
  rcases h with h | ⟨ty, rfl⟩
  · cases w <;> first | rfl | exact h
  · rfl
theorem q_sv_ok {E : qEnv} {rho : Nat → Nat} (hE : qEok E rho) (i : Nat) : q_i rho (q_sv E i) = nI (rho i) := by
  have h0 : q_ev rho [(i, 1)] = rho i := by
    show rho i * 1 + 0 = rho i
    omega
  have h1 : q_i rho (0, [(i, 1)]) = nI (rho i) := by
    show nI (0 + q_ev rho [(i, 1)]) = _
    rw [h0, Nat.zero_add]
  unfold q_sv
  split
  · next r hr =>
    split
    · next hc =>
      have hc := Nat.eq_of_beq_eq_true hc
      have h2 := q_find_ok hE hr
      rw [h0] at h2
      apply q_nImod
      unfold q_bz at h2
      show ((r.1 + 2147483648) % 4294967296 + 0) % 4294967296 = _
      omega
    · exact h1
  · exact h1
theorem q_tys_obj {t : Nat} (h1 : 1 < t) (h2 : t < 6) : ∃ C, q_tys[t]? = some (.object C) := by
  match t, h1, h2 with
  | 2, _, _ => exact ⟨_, rfl⟩
  | 3, _, _ => exact ⟨_, rfl⟩
  | 4, _, _ => exact ⟨_, rfl⟩
  | 5, _, _ => exact ⟨_, rfl⟩
theorem q_isE_ok {h : List qC} {t : Nat} {v : Option Nat} (hv : q_isE h t v = true) : (v = none ∧ 1 < t ∧ t < 6) ∨ ∃ (r ci : Nat) (vs : List qV), v = some (r + 1) ∧ h[r]? = some (.inr (ci, vs)) ∧ ci = q_elem t := by
  unfold q_isE at hv
  split at hv
  · next r =>
    simp only [q_nth_eq] at hv
    split at hv
    · next o ho =>
      obtain ⟨ci, vs⟩ := o
      exact Or.inr ⟨r, ci, vs, rfl, ho, Nat.eq_of_beq_eq_true hv⟩
    · cases hv
  · cases hv
  · simp only [Bool.and_eq_true] at hv
    exact Or.inl ⟨rfl, Nat.blt_eq.mp hv.1, Nat.blt_eq.mp hv.2⟩
theorem q_tyO {t : Nat} (h1 : 1 < t) (h2 : t < 6) : ∃ C, q_tys[t]? = some (.object C) := by
  match t, h1, h2 with
  | 0, h, _ => exact absurd h (by decide)
  | 1, h, _ => exact absurd h (by decide)
  | 2, _, _ => exact ⟨_, rfl⟩
  | 3, _, _ => exact ⟨_, rfl⟩
  | 4, _, _ => exact ⟨_, rfl⟩
  | 5, _, _ => exact ⟨_, rfl⟩
  | n + 6, _, h => exact absurd h (by omega)
theorem q_elem_ok {t ci : Nat} (h : ci = q_elem t) (hc : ∃ r : vw_C, vwCl[ci]? = some r) : ∃ r : vw_C, vwCl[ci]? = some r ∧ q_tys[t]? = some (.object r.1) := by
  subst h
  unfold q_elem at hc ⊢
  split
  · exact ⟨_, rfl, rfl⟩
  · exact ⟨_, rfl, rfl⟩
  · exact ⟨_, rfl, rfl⟩
  · exact ⟨_, rfl, rfl⟩
  · obtain ⟨r, hr⟩ := hc
    exfalso
    split at hr <;> first | contradiction | (simp [vwCl] at hr)
theorem q_dv_ok {N0 b : Nat} {rho : Nat → Nat} (ty : FieldType) (h : q_tc ty < 3) : defaultValue ty = q_v N0 b rho (q_dv (q_tc ty)) := by
  cases ty <;> first | rfl | (exact absurd h (by decide))
theorem q_fty_ok {a : Nat} {fl : List Nat} (h : q_nth q_fty a = some fl) {k : Nat} (hk : k < fl.length) : fl[k] < 3 := by
  rw [q_nth_eq] at h
  have hall : q_fty.all (fun l => l.all (fun x => Nat.blt x 3)) = true := by decide +kernel
  have h1 := List.all_eq_true.mp hall fl (List.mem_of_getElem? h)
  exact Nat.blt_eq.mp (List.all_eq_true.mp h1 _ (List.getElem_mem hk))
theorem q_bool01 : ∀ k : Fin 2, narrow .boolean (.int (nI k.val)) = .int (nI k.val) ∧ fits .boolean (.int (nI k.val)) = true := by decide +kernel
theorem q_fit_ok {N0 b : Nat} {rho : Nat → Nat} {ty : FieldType} {tc : Nat} {v : qV} (ht : q_tc ty = tc) (hv : q_fit tc v = true) : narrow ty (q_v N0 b rho v) = q_v N0 b rho v ∧ fits ty (q_v N0 b rho v) = true := by
  subst ht
  rcases v with x | r | n
  · simp only [q_fit] at hv
    cases ty
    all_goals first | (exact absurd (show false = true from hv) (by decide)) | skip
    all_goals simp only [q_tc] at hv
    all_goals first | exact ⟨rfl, rfl⟩ | skip
    all_goals
      simp only [Bool.and_eq_true] at hv
      have e1 := q_isc_eq hv.1
      have e2 := Nat.blt_eq.mp hv.2
      obtain ⟨x1, x2⟩ := x
      dsimp only at e1 e2
      subst e1
      rcases (by omega : x1 = 0 ∨ x1 = 1) with rfl | rfl
      · exact q_bool01 0
      · exact q_bool01 1
  · have h2 : q_tc ty = 2 := Nat.eq_of_beq_eq_true hv
    cases ty
    all_goals first | (exact absurd h2 (by decide)) | skip
    all_goals cases r <;> exact ⟨rfl, rfl⟩
  · cases hv
section QH0
variable {p : Program} {l : Launch} {e : Env} {R : Room} {s : State} {m : MethodId} {args : Array Value} {below : List Frame} {meth : Method} {c : Code} {H : Heap} {locs : List Loc} {cells slots : Nat} {Q : State → Prop}
variable {cc : ByteArray} {pc : Nat} {ls : Array Slot} {rest : List Value} {D : va_G} {tys : List (ClassId × FieldType)} {ws : va_W} {a : Nat}
variable {N0 b : Nat} {H0 : Heap} {rho : Nat → Nat} {Lx : Nat} {xs : Nat → Int32}
theorem q_TBLin {own C : String} {T : u_T} {N : Nat} (h : GoodIn lw_tbl (u_ws C T N)) : ∀ w ∈ u_ws C T N, w ∈ q_TBL := fun w hw => List.mem_filter.mpr ⟨(h w hw).1, q_goodB (h w hw).2⟩
theorem q_inN {n j : Nat} (h : j < n) (hj : j < 2147483648) : vp_in (nI j) n := by
  intro z
  rcases z with z | z
  · exact nI_pos hj z
  · rw [nI_clamp hj] at z; omega
theorem q_ty (Wd : qWd N0 b H0 tys D Lx xs s) {t : Nat} {ty : FieldType} (ht : q_tys[t]? = some ty) : tys[t]? = some (q_cA tys t, ty) := by
  have h1 : (tys.map (fun q => q.2))[t]? = some ty := by rw [Wd.2.1]; exact ht
  rw [List.getElem?_map] at h1
  cases hq : tys[t]? with
  | none => rw [hq] at h1; cases h1
  | some q =>
    rw [hq] at h1
    have h2 : q.2 = ty := Option.some.inj h1
    have h3 : q_cA tys t = q.1 := by
      unfold q_cA
      rw [List.getD_eq_getElem?_getD, hq]
      rfl
    rw [h3, ← h2]
/-- putfield, with what stays of the heap's size -/
theorem q_put (hexec : p.tables.exec = Jvm.exec) (hb : c.code = cc) {own C : String} {T : u_T} {N ci index : Nat} {Ts : List Jvm.Cond} (hts : ∀ w ∈ Ts, w.before args s = true) (hin : ∀ w ∈ u_ws C T N, w ∈ Ts) (ty0 : Nat → FieldType) (hty : ∀ k, k < N → parseFieldDescriptor (T k).2.2.1 = some (ty0 k)) (hnm : ∀ a, a < N → ∀ b, b < N → a ≠ b → (T a).2.1 ≠ (T b).2.1) (hown : s.vm.findClass own = some m.cls) (hK : va_K D vwCl tys s) {fs : List Value} (hP : va_at D vwCl (a, .inr (ci, fs)) H) (hc : vwCl[ci]? = some (C, T, N)) (k : Nat) (hk : k < N) (hlink : (Jvm.Cond.fieldLink own index (T k).1 (T k).2.1 (T k).2.2.1).before args s = true)
    (hfin : (T k).2.2.2 = false ∨ ((T k).1 = own ∧ meth.name = "<init>")) {ty : FieldType} {v : Value} (hd : parseFieldDescriptor (T k).2.2.1 = some ty) (hn : narrow ty v = v) (hfit : fits ty v = true) (hl : k < fs.length) (hdg : decode cc pc = .ok (.putfield index, 3))
    (kk : ∀ (H1 : Heap) (locs1 : List Loc), va_at D vwCl (a, .inr (ci, fs.set k v)) H1 → H1.size = H.size → (∀ q : Nat, q ≠ a → H1[q]? = H[q]?) → (∀ z ∈ locs1, z ∈ locs ∨ z.base = a) → W p l e R s m args below meth c H1 locs1 cells slots Q (F0 m (pc + 3) ls rest)) : W p l e R s m args below meth c H locs cells slots Q (F0 m pc ls (v :: .ref a :: rest)) := by
  have hap := va_apart (own := own) hts hin ty0 hty hnm hK hc
  obtain ⟨r, h1, cell, q1, q2, q3, q4⟩ := hP
  have hr : r = (C, T, N) := Option.some.inj (h1.symm.trans hc)
  subst hr
  obtain ⟨hS, hfc, kC, hkC, hkind⟩ := hK.1 ci _ hc
  obtain ⟨cf, kf, fi, f, hi, hsl⟩ := hS k hk
  have hst := (u_facts hfc hkC (u_lays hts hin hk) hi).1
  have hlay := hts _ (hin _ (u_in_lay hk))
  have hlm : ∀ z ∈ locs ++ [(⟨a, f.slot⟩ : Loc)], z ∈ locs ∨ z.base = a := fun z hz => by
    rcases List.mem_append.mp hz with h | h
    · exact Or.inl h
    · rw [List.mem_singleton.mp h]; exact Or.inr rfl
  unfold u_lay at hlay
  by_cases hf0 : (T k).2.2.2 = true
  · obtain ⟨hdecl, hin2⟩ := hfin.resolve_left (by rw [hf0]; decide)
    rw [if_pos hf0] at hlay
    have hcf : m.cls = cf := by
      obtain ⟨_, _, c', _, _, _, -, -, hf', -, -, -, hown2, -⟩ := Cond.laysFinal_spec hlay
      have e1 : c' = cf := by have := hi.symm.trans hf'; simp at this; exact this.1.symm
      rw [hdecl] at hown2
      rw [← e1]; exact Option.some.inj (hown.symm.trans hown2)
    have h6 := u_fits hfc hkC hkind (Or.inr hlay) hi hd hn hfit
    refine W.putFinK hexec hb hown hlink hi hst hcf hin2 (by rw [q2]; exact h6) q1 q3 (by rw [hsl]; exact k2_hasslot (q4 k hk)) rfl rfl hdg fun H' e1 e2 e3 => ?_
    refine kk H' _ ?_ e2 e3 hlm
    rw [hsl] at e1
    exact ⟨_, hc, t_OB.to (V := updV (vp_V fs) k v) ⟨_, e1, q2, q3, t_set q4 hap hk v⟩ (fun j _ => vp_updV_set hl v j)⟩
  · rw [if_neg hf0] at hlay
    have h6 := u_store hfc hkC hkind hlay hi hd hn hfit
    refine W.putK hexec hb (f := f) ⟨hown, hlink, ⟨_, _, _, hi⟩, hst⟩ (by rw [q2]; exact h6) q1 q3 (by rw [hsl]; exact k2_hasslot (q4 k hk)) rfl rfl hdg fun H' e1 e2 e3 => ?_
    refine kk H' _ ?_ e2 e3 hlm
    rw [hsl] at e1
    exact ⟨_, hc, t_OB.to (V := updV (vp_V fs) k v) ⟨_, e1, q2, q3, t_set q4 hap hk v⟩ (fun j _ => vp_updV_set hl v j)⟩
theorem q_bases {locs : List Loc} {k : Nat} {x : Loc} (hl : ∀ z ∈ locs, N0 ≤ z.base) (hx : x.base = N0 + k) : ∀ z ∈ locs ++ [x], N0 ≤ z.base := fun z hz => by
  rcases List.mem_append.mp hz with h | h
  · exact hl z h
  · rw [List.mem_singleton.mp h, hx]; omega
theorem q_getD_set {α : Type} {l : List α} {i : Nat} {v d : α} (hi : i < l.length) (j : Nat) : (l.set i v).getD j d = if j = i then v else l.getD j d := by
  rw [List.getD_eq_getElem?_getD, List.getD_eq_getElem?_getD, List.getElem?_set]
  by_cases h : j = i
  · subst h; simp [hi]
  · simp [h, Ne.symm h]
theorem q_getD_rep {α : Type} (n : Nat) (d : α) (j : Nat) : (List.replicate n d).getD j d = d := by
  rw [List.getD_eq_getElem?_getD, List.getElem?_replicate]
  split <;> rfl
theorem q_getD_some {α : Type} {l : List α} {j : Nat} {v d : α} (h : l[j]? = some v) : l.getD j d = v := by
  rw [List.getD_eq_getElem?_getD, h]; rfl
end QH0
section QH
variable {p : Program} {l : Launch} {e : Env} {R : Room} {s : State} {m : MethodId} {args : Array Value} {below : List Frame} {meth : Method} {c : Code}
variable {N0 b : Nat} {H0 : Heap} {rho : Nat → Nat} {tys : List (ClassId × FieldType)} {D : va_G} {Lx : Nat} {xs : Nat → Int32}
variable {own nm : String} {cc : ByteArray} {nL : Nat} {ret : Option FieldType} {hh : List (Nat × Nat × Nat × Nat)} {d : Nat}
variable {Rw : List qRow} {hs : List qHd} {P : List qM} {I : List qInf} {sw : List Nat} {E : qEnv} {ih : qIh} {kk : qKk}
variable {Qf : State → Prop} {Rel : qRes → Nat → Nat → Prop}
variable {j pc op a0 b0 c0 len : Nat} {ins : Instr} {K : List qRow} {L : qL} {S : List qV} {h : qHp} {nc ns : Nat} {H : Heap} {locs : List Loc} {ls : Array Slot}
theorem qs_getf (C : qCtx p l R s m args meth c own nm cc nL ret hh d) (Wd : qWd N0 b H0 tys D Lx xs s) (hE : qEok E rho) (hX : qScr rho Lx xs) (hk : qKok p l e R s m args below meth c N0 b H0 rho tys D nL Rw Qf Rel kk) (hno : ∀ x nc ns, ¬ Rel (.inr (.inr x)) nc ns) (hadd : qAddR R Rel) (hj : q_drop Rw j = (pc, op, a0, b0, c0, ins, len) :: K) (hd : decode cc pc = .ok (ins, len))
    (ok : q_opok P I sw own nm cc nL ret Rw K pc 21 a0 b0 c0 ins len = true) (hr : Rel (qo_getf P E ih kk d Rw hs pc a0 b0 c0 K L S h) nc ns) (hJ : qJ N0 b H0 rho tys D h H) (hl : ∀ z ∈ locs, N0 ≤ z.base) (hL : qLoc N0 b rho ls nL L) : W p l e R s m args below meth c H locs nc ns Qf (F0 m pc ls (S.map (q_v N0 b rho))) := by
  obtain ⟨hx, hb, hml, hown, hts, hret, hlocks, hnm, htab, hfr, hlo, htr⟩ := id C
  unfold qo_getf at hr
  simp only [q_nth_eq, q_set_eq, q_has_eq, q_ln_eq, q_len_eq, q_fz_eq, q_svk_eq] at hr
  split at hr
  · next r S' =>
    split at hr
    · next o ho =>
      split at hr
      · next hc =>
        have hc := Nat.eq_of_beq_eq_true hc
        split at hr
        · next v hv =>
          simp only [q_opok, Bool.and_eq_true] at ok
          obtain ⟨ox, ok⟩ := ok
          split at ok
          all_goals first | (cases ok; done) | skip
          next idx =>
          simp only [Bool.and_eq_true] at ok
          obtain ⟨o1, ok⟩ := ok
          have o1 := Nat.eq_of_beq_eq_true o1
          subst o1
          split at ok
          · next C T N hcl =>
            simp only [Bool.and_eq_true] at ok
            obtain ⟨ob, ow⟩ := ok
            have ob := Nat.blt_eq.mp ob
            rw [q_nth_eq] at hcl
            obtain ⟨g1, g2, ty0, g3⟩ := q_cl a0 _ hcl
            obtain ⟨ci, fs⟩ := o
            dsimp only at hc hv
            subst hc
            have hP := hJ.one ho
            exact va_get hx hb hts (q_TBLin (own := own) g1) hown Wd.1 hP 0 rfl hcl b0 ob (hts _ (q_w_in ow).1) (fun _ z => z) (by rw [List.getElem?_map, hv]; rfl) hd (q_next hk hj ox hr hJ hl hL)
          · cases ok
        · exact absurd hr (hno _ _ _)
      · exact absurd hr (hno _ _ _)
    · exact absurd hr (hno _ _ _)
  · exact absurd hr (hno _ _ _)

theorem qs_putf (C : qCtx p l R s m args meth c own nm cc nL ret hh d) (Wd : qWd N0 b H0 tys D Lx xs s) (hE : qEok E rho) (hX : qScr rho Lx xs) (hk : qKok p l e R s m args below meth c N0 b H0 rho tys D nL Rw Qf Rel kk) (hno : ∀ x nc ns, ¬ Rel (.inr (.inr x)) nc ns) (hadd : qAddR R Rel) (hj : q_drop Rw j = (pc, op, a0, b0, c0, ins, len) :: K) (hd : decode cc pc = .ok (ins, len))
    (ok : q_opok P I sw own nm cc nL ret Rw K pc 22 a0 b0 c0 ins len = true) (hr : Rel (qo_putf P E ih kk d Rw hs pc a0 b0 c0 K L S h) nc ns) (hJ : qJ N0 b H0 rho tys D h H) (hl : ∀ z ∈ locs, N0 ≤ z.base) (hL : qLoc N0 b rho ls nL L) : W p l e R s m args below meth c H locs nc ns Qf (F0 m pc ls (S.map (q_v N0 b rho))) := by
  obtain ⟨hx, hb, hml, hown, hts, hret, hlocks, hnm, htab, hfr, hlo, htr⟩ := id C
  unfold qo_putf at hr
  simp only [q_nth_eq, q_set_eq, q_has_eq, q_ln_eq, q_len_eq, q_fz_eq, q_svk_eq] at hr
  split at hr
  · next v r S' =>
    split at hr
    · next o ho =>
      split at hr
      · next hc =>
        simp only [Bool.and_eq_true] at hc
        obtain ⟨hc, hv, hlen⟩ := hc
        have hc := Nat.eq_of_beq_eq_true hc
        have hlen := Nat.blt_eq.mp hlen
        simp only [q_opok, Bool.and_eq_true] at ok
        obtain ⟨ox, ok⟩ := ok
        split at ok
        all_goals first | (cases ok; done) | skip
        next idx =>
        simp only [Bool.and_eq_true] at ok
        obtain ⟨o1, ok⟩ := ok
        have o1 := Nat.eq_of_beq_eq_true o1
        subst o1
        split at ok
        · next C T N hcl =>
          simp only [Bool.and_eq_true] at ok
          obtain ⟨ob, ow, ok⟩ := ok
          have ob := Nat.blt_eq.mp ob
          rw [q_nth_eq] at hcl
          obtain ⟨g1, g2, ty0, g3⟩ := q_cl a0 _ hcl
          split at ok
          · next ty hty =>
            simp only [Bool.and_eq_true, Bool.or_eq_true, Bool.not_eq_true', decide_eq_true_eq] at ok
            obtain ⟨otc, ofin⟩ := ok
            have otc := Nat.eq_of_beq_eq_true otc
            obtain ⟨ci, fs⟩ := o
            dsimp only at hc hv hlen hr
            subst hc
            have hfit := q_fit_ok (N0 := N0) (b := b) (rho := rho) otc hv
            refine q_put (C := C) hx hb hts (q_TBLin (own := own) g1) ty0 g3 g2 hown Wd.1 (hJ.2.2.2 r _ ho) hcl b0 ob (hts _ (q_w_in ow).1) (ofin.imp id (fun z => ⟨z.1, (hnm.resolve_right (by rw [z.2]; decide)).trans z.2⟩)) hty hfit.1 hfit.2 (by rw [List.length_map]; exact hlen) hd (fun H1 locs1 e1 e2 e3 e4 => ?_)
            refine q_next hk hj ox hr (hJ.set ho e2 e3 ?_) (fun z hz => (e4 z hz).elim (hl z) (fun y => by rw [y]; omega)) hL
            rw [← List.map_set] at e1
            exact e1
          · cases ok
        · cases ok
      · exact absurd hr (hno _ _ _)
    · exact absurd hr (hno _ _ _)
  · exact absurd hr (hno _ _ _)

theorem qs_alen (C : qCtx p l R s m args meth c own nm cc nL ret hh d) (Wd : qWd N0 b H0 tys D Lx xs s) (hE : qEok E rho) (hX : qScr rho Lx xs) (hk : qKok p l e R s m args below meth c N0 b H0 rho tys D nL Rw Qf Rel kk) (hno : ∀ x nc ns, ¬ Rel (.inr (.inr x)) nc ns) (hadd : qAddR R Rel) (hj : q_drop Rw j = (pc, op, a0, b0, c0, ins, len) :: K) (hd : decode cc pc = .ok (ins, len))
    (ok : q_opok P I sw own nm cc nL ret Rw K pc 23 a0 b0 c0 ins len = true) (hr : Rel (qo_alen P E ih kk d Rw hs pc a0 b0 c0 K L S h) nc ns) (hJ : qJ N0 b H0 rho tys D h H) (hl : ∀ z ∈ locs, N0 ≤ z.base) (hL : qLoc N0 b rho ls nL L) : W p l e R s m args below meth c H locs nc ns Qf (F0 m pc ls (S.map (q_v N0 b rho))) := by
  obtain ⟨hx, hb, hml, hown, hts, hret, hlocks, hnm, htab, hfr, hlo, htr⟩ := id C
  have hS : va_S (fun q => N0 ≤ q) H0 H locs := ⟨by have := hJ.2.1; have := Wd.2.2.2.2.1; omega, fun q h1 h2 => hJ.1 q (Nat.not_le.mp h2), hl⟩
  unfold qo_alen at hr
  simp only [q_nth_eq, q_set_eq, q_has_eq, q_ln_eq, q_len_eq, q_fz_eq, q_svk_eq] at hr
  split at hr
  · next S' =>
    simp only [q_opok, Bool.and_eq_true, decide_eq_true_eq] at ok
    obtain ⟨ox, o1, o2⟩ := ok
    have o1 := Nat.eq_of_beq_eq_true o1
    subst o1; subst o2
    refine va_slen (A := fun q => N0 ≤ q) hx hb Wd.2.2.1 (by rw [Wd.2.2.2.2.1]; exact Wd.2.2.2.1) (Nat.not_le.mpr Wd.2.2.2.1) hS hd ?_
    have e1 : Int32.ofNat Lx = q_i rho (q_sv E 0) := by
      rw [q_sv_ok hE 0, hX.1]; rfl
    rw [e1]
    exact q_next hk hj ox hr hJ hl hL
  · next r S' =>
    split at hr
    · next o ho =>
      split at hr
      · next hc =>
        simp only [Bool.and_eq_true] at hc
        have hc := Nat.blt_eq.mp hc.2
        simp only [q_opok, Bool.and_eq_true, decide_eq_true_eq] at ok
        obtain ⟨ox, o1, o2⟩ := ok
        have o1 := Nat.eq_of_beq_eq_true o1
        subst o1; subst o2
        obtain ⟨t, o⟩ := o
        dsimp only at hc hr
        obtain ⟨ty, hty⟩ : ∃ ty, q_tys[t]? = some ty := ⟨_, List.getElem?_eq_getElem (show t < q_tys.length from hc)⟩
        have hP := hJ.one ho
        rcases o with f | f | f
        · exact va_alen hx hb Wd.1 hP 0 t rfl (q_ty Wd hty) rfl hd (q_next hk hj ox hr hJ hl hL)
        · exact va_alen hx hb Wd.1 hP 0 t rfl (q_ty Wd hty) rfl hd (q_next hk hj ox hr hJ hl hL)
        · exact va_alen hx hb Wd.1 hP 0 t rfl (q_ty Wd hty) rfl hd (q_next hk hj ox hr hJ hl hL)
      · exact absurd hr (hno _ _ _)
    · exact absurd hr (hno _ _ _)
  · exact absurd hr (hno _ _ _)

theorem qs_iald (C : qCtx p l R s m args meth c own nm cc nL ret hh d) (Wd : qWd N0 b H0 tys D Lx xs s) (hE : qEok E rho) (hX : qScr rho Lx xs) (hk : qKok p l e R s m args below meth c N0 b H0 rho tys D nL Rw Qf Rel kk) (hno : ∀ x nc ns, ¬ Rel (.inr (.inr x)) nc ns) (hadd : qAddR R Rel) (hj : q_drop Rw j = (pc, op, a0, b0, c0, ins, len) :: K) (hd : decode cc pc = .ok (ins, len))
    (ok : q_opok P I sw own nm cc nL ret Rw K pc 24 a0 b0 c0 ins len = true) (hr : Rel (qo_iald P E ih kk d Rw hs pc a0 b0 c0 K L S h) nc ns) (hJ : qJ N0 b H0 rho tys D h H) (hl : ∀ z ∈ locs, N0 ≤ z.base) (hL : qLoc N0 b rho ls nL L) : W p l e R s m args below meth c H locs nc ns Qf (F0 m pc ls (S.map (q_v N0 b rho))) := by
  obtain ⟨hx, hb, hml, hown, hts, hret, hlocks, hnm, htab, hfr, hlo, htr⟩ := id C
  have hS : va_S (fun q => N0 ≤ q) H0 H locs := ⟨by have := hJ.2.1; have := Wd.2.2.2.2.1; omega, fun q h1 h2 => hJ.1 q (Nat.not_le.mp h2), hl⟩
  unfold qo_iald at hr
  simp only [q_nth_eq, q_set_eq, q_has_eq, q_ln_eq, q_len_eq, q_fz_eq, q_svk_eq] at hr
  split at hr
  · next x S' =>
    split at hr
    · next q hq =>
      obtain ⟨j0, g1, g2, g3, g4⟩ := q_ix_ok hE x hq
      split at hr
      · next hc =>
        simp only [Bool.and_eq_true] at hc
        obtain ⟨c1, c2, c3⟩ := hc
        have c1 := Nat.eq_of_beq_eq_true c1
        have c2 := Nat.blt_eq.mp c2
        have c3 := Nat.blt_eq.mp c3
        have hLx : j0 < Lx := by
          have h1 := (q_iv_ok hE (0, [(0, 1)])).1
          have h2 : q_ev rho [(0, 1)] = Lx := by
            show rho 0 * 1 + 0 = Lx
            rw [hX.1]; omega
          rw [h2] at h1
          have h3 := hX.2.1
          unfold q_bz at h1
          omega
        simp only [q_opok, Bool.and_eq_true, decide_eq_true_eq] at ok
        obtain ⟨ox, o1, o2⟩ := ok
        have o1 := Nat.eq_of_beq_eq_true o1
        subst o1; subst o2
        rw [List.map_cons, List.map_cons]
        show W p l e R s m args below meth c H locs nc ns Qf (F0 m pc ls (.int (q_i rho x) :: .ref b :: S'.map (q_v N0 b rho)))
        rw [g1]
        refine va_sld (A := fun q => N0 ≤ q) hx hb Wd.2.2.1 (by rw [Wd.2.2.2.2.1]; exact Wd.2.2.2.1) (Nat.not_le.mpr Wd.2.2.2.1) hS (q_inN hLx g4) hd ?_
        have e1 : xs (nI j0).toNatClampNeg = q_i rho (q_sv E (q.1 + 1)) := by
          rw [nI_clamp g4, q_sv_ok hE (q.1 + 1), ← hX.2.2.1 j0 (by omega)]
          congr 2; omega
        rw [e1]
        exact q_next hk hj ox hr hJ hl hL
      · exact absurd hr (hno _ _ _)
    · exact absurd hr (hno _ _ _)
  · next x r S' =>
    split at hr
    · next v0 ho =>
      split at hr
      · next q hq =>
        obtain ⟨j0, g1, g2, g3, g4⟩ := q_ix_ok hE x hq
        split at hr
        · next v hv =>
          have hv := q_rd_ok (fun z => q_ieq_eq z) hv g2 g3
          simp only [q_opok, Bool.and_eq_true, decide_eq_true_eq] at ok
          obtain ⟨ox, o1, o2⟩ := ok
          have o1 := Nat.eq_of_beq_eq_true o1
          subst o1; subst o2
          show W p l e R s m args below meth c H locs nc ns Qf (F0 m pc ls (.int (q_i rho x) :: .ref (N0 + r) :: S'.map (q_v N0 b rho)))
          rw [g1]
          refine va_iald hx hb Wd.1 (hJ.one ho) 0 0 rfl (q_ty Wd (t := 0) rfl) (q_inN (List.getElem?_eq_some_iff.mp hv).1 g4) hd ?_
          rw [nI_clamp g4, q_getD_some hv]
          exact q_next hk hj ox hr hJ hl hL
        · exact absurd hr (q_ask_no hno)
        · exact absurd hr (hno _ _ _)
      · exact absurd hr (hno _ _ _)
    · exact absurd hr (hno _ _ _)
  · exact absurd hr (hno _ _ _)

theorem qs_aald (C : qCtx p l R s m args meth c own nm cc nL ret hh d) (Wd : qWd N0 b H0 tys D Lx xs s) (hE : qEok E rho) (hX : qScr rho Lx xs) (hk : qKok p l e R s m args below meth c N0 b H0 rho tys D nL Rw Qf Rel kk) (hno : ∀ x nc ns, ¬ Rel (.inr (.inr x)) nc ns) (hadd : qAddR R Rel) (hj : q_drop Rw j = (pc, op, a0, b0, c0, ins, len) :: K) (hd : decode cc pc = .ok (ins, len))
    (ok : q_opok P I sw own nm cc nL ret Rw K pc 28 a0 b0 c0 ins len = true) (hr : Rel (qo_aald P E ih kk d Rw hs pc a0 b0 c0 K L S h) nc ns) (hJ : qJ N0 b H0 rho tys D h H) (hl : ∀ z ∈ locs, N0 ≤ z.base) (hL : qLoc N0 b rho ls nL L) : W p l e R s m args below meth c H locs nc ns Qf (F0 m pc ls (S.map (q_v N0 b rho))) := by
  obtain ⟨hx, hb, hml, hown, hts, hret, hlocks, hnm, htab, hfr, hlo, htr⟩ := id C
  unfold qo_aald at hr
  simp only [q_nth_eq, q_set_eq, q_has_eq, q_ln_eq, q_len_eq, q_fz_eq, q_svk_eq] at hr
  split at hr
  · next x r S' =>
    split at hr
    · next t l0 ho =>
      split at hr
      · next q hq =>
        obtain ⟨j0, g1, g2, g3, g4⟩ := q_ix_ok hE x hq
        split at hr
        · next hc =>
          simp only [Bool.and_eq_true] at hc
          obtain ⟨C, hC⟩ := q_tys_obj (Nat.blt_eq.mp hc.1) (Nat.blt_eq.mp hc.2)
          split at hr
          · next v hv =>
            have hv := q_rd_ok (fun z => q_oeq_iff.mp z) hv g2 g3
            simp only [q_opok, Bool.and_eq_true, decide_eq_true_eq] at ok
            obtain ⟨ox, o1, o2⟩ := ok
            have o1 := Nat.eq_of_beq_eq_true o1
            subst o1; subst o2
            show W p l e R s m args below meth c H locs nc ns Qf (F0 m pc ls (.int (q_i rho x) :: .ref (N0 + r) :: S'.map (q_v N0 b rho)))
            rw [g1]
            refine va_aldq hx hb Wd.1 (hJ.one ho) 0 t rfl (q_ty Wd hC) (q_inN (List.getElem?_eq_some_iff.mp hv).1 g4) hd ?_
            rw [nI_clamp g4, q_getD_some hv]
            exact q_next hk hj ox hr hJ hl hL
          · exact absurd hr (q_ask_no hno)
          · exact absurd hr (hno _ _ _)
        · exact absurd hr (hno _ _ _)
      · exact absurd hr (hno _ _ _)
    · exact absurd hr (hno _ _ _)
  · exact absurd hr (hno _ _ _)

theorem qs_lald (C : qCtx p l R s m args meth c own nm cc nL ret hh d) (Wd : qWd N0 b H0 tys D Lx xs s) (hE : qEok E rho) (hX : qScr rho Lx xs) (hk : qKok p l e R s m args below meth c N0 b H0 rho tys D nL Rw Qf Rel kk) (hno : ∀ x nc ns, ¬ Rel (.inr (.inr x)) nc ns) (hadd : qAddR R Rel) (hj : q_drop Rw j = (pc, op, a0, b0, c0, ins, len) :: K) (hd : decode cc pc = .ok (ins, len))
    (ok : q_opok P I sw own nm cc nL ret Rw K pc 26 a0 b0 c0 ins len = true) (hr : Rel (qo_lald P E ih kk d Rw hs pc a0 b0 c0 K L S h) nc ns) (hJ : qJ N0 b H0 rho tys D h H) (hl : ∀ z ∈ locs, N0 ≤ z.base) (hL : qLoc N0 b rho ls nL L) : W p l e R s m args below meth c H locs nc ns Qf (F0 m pc ls (S.map (q_v N0 b rho))) := by
  obtain ⟨hx, hb, hml, hown, hts, hret, hlocks, hnm, htab, hfr, hlo, htr⟩ := id C
  unfold qo_lald at hr
  simp only [q_nth_eq, q_set_eq, q_has_eq, q_ln_eq, q_len_eq, q_fz_eq, q_svk_eq] at hr
  split at hr
  · next x r S' =>
    split at hr
    · next l0 ho =>
      split at hr
      · next q hq =>
        obtain ⟨j0, g1, g2, g3, g4⟩ := q_ix_ok hE x hq
        split at hr
        · next hc =>
          have hc := Nat.eq_of_beq_eq_true hc
          split at hr
          · next v hv =>
            have hj0 : j0 = q.1 := by omega
            subst hj0
            simp only [q_opok, Bool.and_eq_true, decide_eq_true_eq] at ok
            obtain ⟨ox, o1, o2⟩ := ok
            have o1 := Nat.eq_of_beq_eq_true o1
            subst o1; subst o2
            show W p l e R s m args below meth c H locs nc ns Qf (F0 m pc ls (.int (q_i rho x) :: .ref (N0 + r) :: S'.map (q_v N0 b rho)))
            rw [g1]
            refine va_lald hx hb Wd.1 (hJ.one ho) 0 1 rfl (q_ty Wd (t := 1) rfl) (q_inN (List.getElem?_eq_some_iff.mp hv).1 g4) hd ?_
            rw [nI_clamp g4, q_getD_some hv]
            exact q_next hk hj ox hr hJ hl hL
          · exact absurd hr (hno _ _ _)
        · exact absurd hr (hno _ _ _)
      · exact absurd hr (hno _ _ _)
    · exact absurd hr (hno _ _ _)
  · exact absurd hr (hno _ _ _)

theorem qs_iast (C : qCtx p l R s m args meth c own nm cc nL ret hh d) (Wd : qWd N0 b H0 tys D Lx xs s) (hE : qEok E rho) (hX : qScr rho Lx xs) (hk : qKok p l e R s m args below meth c N0 b H0 rho tys D nL Rw Qf Rel kk) (hno : ∀ x nc ns, ¬ Rel (.inr (.inr x)) nc ns) (hadd : qAddR R Rel) (hj : q_drop Rw j = (pc, op, a0, b0, c0, ins, len) :: K) (hd : decode cc pc = .ok (ins, len))
    (ok : q_opok P I sw own nm cc nL ret Rw K pc 25 a0 b0 c0 ins len = true) (hr : Rel (qo_iast P E ih kk d Rw hs pc a0 b0 c0 K L S h) nc ns) (hJ : qJ N0 b H0 rho tys D h H) (hl : ∀ z ∈ locs, N0 ≤ z.base) (hL : qLoc N0 b rho ls nL L) : W p l e R s m args below meth c H locs nc ns Qf (F0 m pc ls (S.map (q_v N0 b rho))) := by
  obtain ⟨hx, hb, hml, hown, hts, hret, hlocks, hnm, htab, hfr, hlo, htr⟩ := id C
  unfold qo_iast at hr
  simp only [q_nth_eq, q_set_eq, q_has_eq, q_ln_eq, q_len_eq, q_fz_eq, q_svk_eq] at hr
  split at hr
  · next v x r S' =>
    split at hr
    · next l0 ho =>
      split at hr
      · next q hq =>
        obtain ⟨j0, g1, g2, g3, g4⟩ := q_ix_ok hE x hq
        split at hr
        · next hc =>
          have hc := Nat.eq_of_beq_eq_true hc
          split at hr
          · next hlen =>
            have hlen := Nat.blt_eq.mp hlen
            have hj0 : j0 = q.1 := by omega
            subst hj0
            simp only [q_opok, Bool.and_eq_true, decide_eq_true_eq] at ok
            obtain ⟨ox, o1, o2⟩ := ok
            have o1 := Nat.eq_of_beq_eq_true o1
            subst o1; subst o2
            show W p l e R s m args below meth c H locs nc ns Qf (F0 m pc ls (.int (q_i rho v) :: .int (q_i rho x) :: .ref (N0 + r) :: S'.map (q_v N0 b rho)))
            rw [g1]
            have hcell := hJ.2.2.2 r _ ho
            have hty := q_ty Wd (t := 0) rfl
            refine W.iast hx hb hcell ((Wd.1.2 0 _ hty).1 l0.length (fun j => .int (q_i rho (l0.getD j (0, []))))) (fun q => by cases q) (by show ¬ (_ ∨ (arrV _ _ _).slots.size ≤ _); rw [arrV_size]; exact q_inN hlen g4) rfl rfl hd fun H1 e1 z oq => ?_
            refine q_next hk hj ox hr (hJ.set ho z oq ?_) (q_bases hl rfl) hL
            rw [nI_clamp g4] at e1
            refine Eq.trans e1 (congrArg some ?_)
            show (vp_cell _ _).setSlot _ _ = vp_cell _ _
            rw [vp_cell_i, vp_cell_i, arrV_store, List.length_set]
            congr 1
            funext j1
            rw [q_getD_set hlen]
            by_cases hq : j1 = q.1
            · subst hq; simp [updV]
            · simp [updV, hq]
          · exact absurd hr (hno _ _ _)
        · exact absurd hr (q_ask_no hno)
      · exact absurd hr (hno _ _ _)
    · exact absurd hr (hno _ _ _)
  · exact absurd hr (hno _ _ _)

theorem qs_last (C : qCtx p l R s m args meth c own nm cc nL ret hh d) (Wd : qWd N0 b H0 tys D Lx xs s) (hE : qEok E rho) (hX : qScr rho Lx xs) (hk : qKok p l e R s m args below meth c N0 b H0 rho tys D nL Rw Qf Rel kk) (hno : ∀ x nc ns, ¬ Rel (.inr (.inr x)) nc ns) (hadd : qAddR R Rel) (hj : q_drop Rw j = (pc, op, a0, b0, c0, ins, len) :: K) (hd : decode cc pc = .ok (ins, len))
    (ok : q_opok P I sw own nm cc nL ret Rw K pc 27 a0 b0 c0 ins len = true) (hr : Rel (qo_last P E ih kk d Rw hs pc a0 b0 c0 K L S h) nc ns) (hJ : qJ N0 b H0 rho tys D h H) (hl : ∀ z ∈ locs, N0 ≤ z.base) (hL : qLoc N0 b rho ls nL L) : W p l e R s m args below meth c H locs nc ns Qf (F0 m pc ls (S.map (q_v N0 b rho))) := by
  obtain ⟨hx, hb, hml, hown, hts, hret, hlocks, hnm, htab, hfr, hlo, htr⟩ := id C
  unfold qo_last at hr
  simp only [q_nth_eq, q_set_eq, q_has_eq, q_ln_eq, q_len_eq, q_fz_eq, q_svk_eq] at hr
  split at hr
  · next v x r S' =>
    split at hr
    · next l0 ho =>
      split at hr
      · next q hq =>
        obtain ⟨j0, g1, g2, g3, g4⟩ := q_ix_ok hE x hq
        split at hr
        · next hc =>
          simp only [Bool.and_eq_true] at hc
          have hlen := Nat.blt_eq.mp hc.2
          have hc := Nat.eq_of_beq_eq_true hc.1
          have hj0 : j0 = q.1 := by omega
          subst hj0
          simp only [q_opok, Bool.and_eq_true, decide_eq_true_eq] at ok
          obtain ⟨ox, o1, o2⟩ := ok
          have o1 := Nat.eq_of_beq_eq_true o1
          subst o1; subst o2
          show W p l e R s m args below meth c H locs nc ns Qf (F0 m pc ls (.long (q_l v) :: .int (q_i rho x) :: .ref (N0 + r) :: S'.map (q_v N0 b rho)))
          rw [g1]
          have hcell := hJ.2.2.2 r _ ho
          have hty := q_ty Wd (t := 1) rfl
          refine W.last hx hb hcell ((Wd.1.2 1 _ hty).1 l0.length (fun j => .long (q_l (l0.getD j 0)))) (fun q => by cases q) (by show ¬ (_ ∨ (arrV _ _ _).slots.size ≤ _); rw [arrV_size]; exact q_inN hlen g4) rfl rfl hd fun H1 e1 z oq => ?_
          refine q_next hk hj ox hr (hJ.set ho z oq ?_) (q_bases hl rfl) hL
          rw [nI_clamp g4] at e1
          refine Eq.trans e1 (congrArg some ?_)
          show (vp_cell _ _).setSlot _ _ = vp_cell _ _
          rw [vp_cell_l, vp_cell_l, arrV_store, List.length_set]
          congr 1
          funext j1
          rw [q_getD_set hlen]
          by_cases hq : j1 = q.1
          · subst hq; simp [updV]
          · simp [updV, hq]
        · exact absurd hr (hno _ _ _)
      · exact absurd hr (hno _ _ _)
    · exact absurd hr (hno _ _ _)
  · exact absurd hr (hno _ _ _)

theorem qs_aast (C : qCtx p l R s m args meth c own nm cc nL ret hh d) (Wd : qWd N0 b H0 tys D Lx xs s) (hE : qEok E rho) (hX : qScr rho Lx xs) (hk : qKok p l e R s m args below meth c N0 b H0 rho tys D nL Rw Qf Rel kk) (hno : ∀ x nc ns, ¬ Rel (.inr (.inr x)) nc ns) (hadd : qAddR R Rel) (hj : q_drop Rw j = (pc, op, a0, b0, c0, ins, len) :: K) (hd : decode cc pc = .ok (ins, len))
    (ok : q_opok P I sw own nm cc nL ret Rw K pc 29 a0 b0 c0 ins len = true) (hr : Rel (qo_aast P E ih kk d Rw hs pc a0 b0 c0 K L S h) nc ns) (hJ : qJ N0 b H0 rho tys D h H) (hl : ∀ z ∈ locs, N0 ≤ z.base) (hL : qLoc N0 b rho ls nL L) : W p l e R s m args below meth c H locs nc ns Qf (F0 m pc ls (S.map (q_v N0 b rho))) := by
  obtain ⟨hx, hb, hml, hown, hts, hret, hlocks, hnm, htab, hfr, hlo, htr⟩ := id C
  unfold qo_aast at hr
  simp only [q_nth_eq, q_set_eq, q_has_eq, q_ln_eq, q_len_eq, q_fz_eq, q_svk_eq] at hr
  split at hr
  · next v x r S' =>
    split at hr
    · next t l0 ho =>
      split at hr
      · next q hq =>
        obtain ⟨j0, g1, g2, g3, g4⟩ := q_ix_ok hE x hq
        split at hr
        · next hc =>
          simp only [Bool.and_eq_true] at hc
          have hlen := Nat.blt_eq.mp hc.2
          have hE9 := q_isE_ok hc.1
          split at hr
          · next hc =>
            have hc := Nat.eq_of_beq_eq_true hc
            have hj0 : j0 = q.1 := by omega
            subst hj0
            simp only [q_opok, Bool.and_eq_true, decide_eq_true_eq] at ok
            obtain ⟨ox, o1, o2⟩ := ok
            have o1 := Nat.eq_of_beq_eq_true o1
            subst o1; subst o2
            rcases hE9 with ⟨hvn, ht1, ht2⟩ | ⟨rv, ci, vs, hv1, hv2, hv3⟩
            · subst hvn
              show W p l e R s m args below meth c H locs nc ns Qf (F0 m pc ls (.null :: .int (q_i rho x) :: .ref (N0 + r) :: S'.map (q_v N0 b rho)))
              rw [g1]
              have hcell := hJ.2.2.2 r _ ho
              obtain ⟨C9, hC9⟩ := q_tyO ht1 ht2
              have hty := q_ty Wd hC9
              refine va_WaastN hx hb hcell ((Wd.1.2 t _ hty).1 l0.length (fun j => va_rf (q_r N0 b (l0.getD j none)))) (fun q => by cases q) (by show ¬ (_ ∨ (arrV _ _ _).slots.size ≤ _); rw [arrV_size]; exact q_inN hlen g4) rfl rfl hd fun H1 e1 z oq => ?_
              refine q_next hk hj ox hr (hJ.set ho z oq ?_) (q_bases hl rfl) hL
              rw [nI_clamp g4] at e1
              refine Eq.trans e1 (congrArg some ?_)
              show (vp_cell _ _).setSlot _ _ = vp_cell _ _
              rw [vp_cell_q, vp_cell_q, arrV_store, List.length_set]
              congr 1
              funext j1
              rw [q_getD_set hlen]
              by_cases hq : j1 = q.1
              · subst hq; simp [updV, q_r, q_ad, va_rf]
              · simp [updV, hq]
            · subst hv1
              show W p l e R s m args below meth c H locs nc ns Qf (F0 m pc ls (.ref (N0 + rv) :: .int (q_i rho x) :: .ref (N0 + r) :: S'.map (q_v N0 b rho)))
              rw [g1]
              have hcell := hJ.2.2.2 r _ ho
              obtain ⟨r', hr', cellV, k1, k2, k3, -⟩ := hJ.2.2.2 rv _ hv2
              obtain ⟨rc, hrc, hty0⟩ := q_elem_ok hv3 ⟨r', hr'⟩
              have hty := q_ty Wd hty0
              have hcls := (Wd.1.1 ci rc hrc).2
              obtain ⟨kA, comp, m1, m2, m3, -⟩ := (Wd.1.2 t _ hty).2
              have hcomp : comp = D.1 ci := Option.some.inj (m3.symm.trans hcls.1)
              subst hcomp
              obtain ⟨kC, hkC, -⟩ := hcls.2
              refine W.aast hx hb hcell (fun q h => by cases h) (fun h => by cases h) m1 m2 rfl hkC ⟨nI_pos g4, by show _ < (arrV _ _ _).slots.size; rw [arrV_size, nI_clamp g4]; exact hlen⟩ k1 (fun q h => by rw [k3] at h; cases h) (by rw [k2]; exact hkC) (by rw [k2]; exact va_assign hcls) rfl rfl hd fun H1 e1 z oq => ?_
              refine q_next hk hj ox hr (hJ.set ho z oq ?_) (q_bases hl rfl) hL
              rw [nI_clamp g4] at e1
              refine Eq.trans e1 (congrArg some ?_)
              show (vp_cell _ _).setSlot _ _ = vp_cell _ _
              rw [vp_cell_q, vp_cell_q, arrV_store, List.length_set]
              congr 1
              funext j1
              rw [q_getD_set hlen]
              by_cases hq : j1 = q.1
              · subst hq; simp [updV, q_r, q_ad, va_rf]
              · simp [updV, hq]
          · exact absurd hr (q_ask_no hno)
        · exact absurd hr (hno _ _ _)
      · exact absurd hr (hno _ _ _)
    · exact absurd hr (hno _ _ _)
  · exact absurd hr (hno _ _ _)

theorem qs_newa (C : qCtx p l R s m args meth c own nm cc nL ret hh d) (Wd : qWd N0 b H0 tys D Lx xs s) (hE : qEok E rho) (hX : qScr rho Lx xs) (hk : qKok p l e R s m args below meth c N0 b H0 rho tys D nL Rw Qf Rel kk) (hno : ∀ x nc ns, ¬ Rel (.inr (.inr x)) nc ns) (hadd : qAddR R Rel) (hj : q_drop Rw j = (pc, op, a0, b0, c0, ins, len) :: K) (hd : decode cc pc = .ok (ins, len))
    (ok : q_opok P I sw own nm cc nL ret Rw K pc 30 a0 b0 c0 ins len = true) (hr : Rel (qo_newa P E ih kk d Rw hs pc a0 b0 c0 K L S h) nc ns) (hJ : qJ N0 b H0 rho tys D h H) (hl : ∀ z ∈ locs, N0 ≤ z.base) (hL : qLoc N0 b rho ls nL L) : W p l e R s m args below meth c H locs nc ns Qf (F0 m pc ls (S.map (q_v N0 b rho))) := by
  obtain ⟨hx, hb, hml, hown, hts, hret, hlocks, hnm, htab, hfr, hlo, htr⟩ := id C
  simp only [q_opok, Bool.and_eq_true] at ok
  obtain ⟨ox, o1, ok⟩ := ok
  have o1 := Nat.eq_of_beq_eq_true o1
  subst o1
  unfold qo_newa at hr
  split at hr
  · next n S' =>
    split at hr
    · next hc =>
      simp only [Bool.and_eq_true] at hc
      obtain ⟨hc0, hc1, hc2⟩ := hc
      have hc0 := q_isc_eq hc0
      have hc2 := Nat.blt_eq.mp hc2
      show W p l e R s m args below meth c H locs nc ns Qf (F0 m pc ls (.int (q_i rho n) :: S'.map (q_v N0 b rho)))
      have hni : q_i rho n = nI n.1 := by unfold q_i; rw [hc0]; rfl
      rw [hni]
      split at hr
      · rw [q_add_eq] at hr
        obtain ⟨hr, h1, h2⟩ := hadd _ _ _ _ _ hr
        simp only [Bool.and_eq_true, decide_eq_true_eq] at ok
        obtain ⟨ok1, ok2⟩ := ok
        subst ok1
        have hcb : componentBytes (newarray.typeOf .int) ≤ 8 := by decide
        refine va_newaK (atype := .int) (N := n.1) hx hb (hts _ (q_w_in ok2).1) rfl hd rfl (nI_pos (by omega)) (nI_clamp (by omega)) (Nat.le_trans (Nat.mul_le_mul_left _ hcb) (by omega)) h1 h2 rfl fun H1 cA e1 z o _ hfc => ?_
        have hcA : cA = q_cA tys 0 := by
          have h3 := (Wd.1.2 0 _ (q_ty Wd (t := 0) rfl)).2
          exact Option.some.inj (hfc.symm.trans h3)
        have hn := q_next (locs := locs) (ls := ls) hk hj ox hr (hJ.push (x := .inl (0, .inl (List.replicate n.1 (0, [])))) hc1 z o ?_) hl hL
        · have hsz := hJ.2.2.1 hc1
          rw [hsz]
          exact hn
        · rw [hcA] at e1
          refine e1.trans (congrArg some ?_)
          show _ = vp_cell _ _
          rw [vp_cell_i, List.length_replicate]
          congr 1
          funext j1
          rw [q_getD_rep]
          rfl
      · rw [q_add_eq] at hr
        obtain ⟨hr, h1, h2⟩ := hadd _ _ _ _ _ hr
        simp only [Bool.and_eq_true, decide_eq_true_eq] at ok
        obtain ⟨ok1, ok2⟩ := ok
        subst ok1
        have hcb : componentBytes (newarray.typeOf .long) ≤ 8 := by decide
        refine va_newaK (atype := .long) (N := n.1) hx hb (hts _ (q_w_in ok2).1) rfl hd rfl (nI_pos (by omega)) (nI_clamp (by omega)) (Nat.le_trans (Nat.mul_le_mul_left _ hcb) (by omega)) h1 h2 rfl fun H1 cA e1 z o _ hfc => ?_
        have hcA : cA = q_cA tys 1 := by
          have h3 := (Wd.1.2 1 _ (q_ty Wd (t := 1) rfl)).2
          exact Option.some.inj (hfc.symm.trans h3)
        have hn := q_next (locs := locs) (ls := ls) hk hj ox hr (hJ.push (x := .inl (1, .inr (.inl (List.replicate n.1 0)))) hc1 z o ?_) hl hL
        · have hsz := hJ.2.2.1 hc1
          rw [hsz]
          exact hn
        · rw [hcA] at e1
          refine e1.trans (congrArg some ?_)
          show _ = vp_cell _ _
          rw [vp_cell_l, List.length_replicate]
          congr 1
          funext j1
          rw [q_getD_rep]
          rfl
      · exact absurd hr (hno _ _ _)
    · exact absurd hr (hno _ _ _)
  · exact absurd hr (hno _ _ _)

theorem qs_anew (C : qCtx p l R s m args meth c own nm cc nL ret hh d) (Wd : qWd N0 b H0 tys D Lx xs s) (hE : qEok E rho) (hX : qScr rho Lx xs) (hk : qKok p l e R s m args below meth c N0 b H0 rho tys D nL Rw Qf Rel kk) (hno : ∀ x nc ns, ¬ Rel (.inr (.inr x)) nc ns) (hadd : qAddR R Rel) (hj : q_drop Rw j = (pc, op, a0, b0, c0, ins, len) :: K) (hd : decode cc pc = .ok (ins, len))
    (ok : q_opok P I sw own nm cc nL ret Rw K pc 31 a0 b0 c0 ins len = true) (hr : Rel (qo_anew P E ih kk d Rw hs pc a0 b0 c0 K L S h) nc ns) (hJ : qJ N0 b H0 rho tys D h H) (hl : ∀ z ∈ locs, N0 ≤ z.base) (hL : qLoc N0 b rho ls nL L) : W p l e R s m args below meth c H locs nc ns Qf (F0 m pc ls (S.map (q_v N0 b rho))) := by
  obtain ⟨hx, hb, hml, hown, hts, hret, hlocks, hnm, htab, hfr, hlo, htr⟩ := id C
  simp only [q_opok, Bool.and_eq_true] at ok
  obtain ⟨ox, ok⟩ := ok
  split at ok
  all_goals first | (cases ok; done) | skip
  next idx =>
  simp only [Bool.and_eq_true] at ok
  obtain ⟨o1, oa, oa2, ok⟩ := ok
  have o1 := Nat.eq_of_beq_eq_true o1
  subst o1
  have oa := Nat.blt_eq.mp oa
  split at ok
  all_goals first | (cases ok; done) | skip
  next C hC =>
  rw [q_nth_eq] at hC
  unfold qo_anew at hr
  split at hr
  · next n S' =>
    split at hr
    · next hc =>
      simp only [Bool.and_eq_true] at hc
      obtain ⟨hc0, hc1, hc2⟩ := hc
      have hc0 := q_isc_eq hc0
      have hc2 := Nat.blt_eq.mp hc2
      show W p l e R s m args below meth c H locs nc ns Qf (F0 m pc ls (.int (q_i rho n) :: S'.map (q_v N0 b rho)))
      have hni : q_i rho n = nI n.1 := by unfold q_i; rw [hc0]; rfl
      rw [hni]
      rw [q_add_eq] at hr
      obtain ⟨hr, h1, h2⟩ := hadd _ _ _ _ _ hr
      have hcl : (nI n.1).toNatClampNeg = n.1 := nI_clamp (by omega)
      refine W.anew (n := nI n.1) hx hb hown (hts _ (q_w_in ok).1) ((Wd.2.2.2.2.2.2.2.2.2.2.1 a0 C oa hC).use) rfl hd rfl (nI_pos (by omega)) (by rw [hcl]; omega) h1 (by rw [hcl]; exact h2) fun cA kA comp f1 f2 f3 f4 => ?_
      rw [hcl]
      have hcA : cA = q_cA tys a0 := by
        obtain ⟨kA', comp', _, _, _, h3⟩ := (Wd.1.2 a0 _ (q_ty Wd hC)).2
        exact Option.some.inj (f1.symm.trans h3)
      have hn := q_next (locs := locs) (ls := ls) hk hj ox hr (hJ.push (H1 := H.push { cls := cA, slots := Array.replicate n.1 .null, vm := .none }) (x := .inl (a0, .inr (.inr (List.replicate n.1 none)))) hc1 (Array.size_push ..) (fun q hq => by rw [Array.getElem?_push, if_neg (Nat.ne_of_lt hq)]) ?_) hl hL
      · have hsz := hJ.2.2.1 hc1
        rw [hsz]
        exact hn
      · show (H.push _)[H.size]? = _
        rw [Array.getElem?_push_size, hcA]
        refine congrArg some ?_
        show _ = vp_cell _ _
        rw [vp_cell_q, List.length_replicate, arrV_new]
        congr 1
        funext j1
        rw [q_getD_rep]
        rfl
    · exact absurd hr (hno _ _ _)
  · exact absurd hr (hno _ _ _)

theorem qs_new (C : qCtx p l R s m args meth c own nm cc nL ret hh d) (Wd : qWd N0 b H0 tys D Lx xs s) (hE : qEok E rho) (hX : qScr rho Lx xs) (hk : qKok p l e R s m args below meth c N0 b H0 rho tys D nL Rw Qf Rel kk) (hno : ∀ x nc ns, ¬ Rel (.inr (.inr x)) nc ns) (hadd : qAddR R Rel) (hj : q_drop Rw j = (pc, op, a0, b0, c0, ins, len) :: K) (hd : decode cc pc = .ok (ins, len))
    (ok : q_opok P I sw own nm cc nL ret Rw K pc 33 a0 b0 c0 ins len = true) (hr : Rel (qo_new P E ih kk d Rw hs pc a0 b0 c0 K L S h) nc ns) (hJ : qJ N0 b H0 rho tys D h H) (hl : ∀ z ∈ locs, N0 ≤ z.base) (hL : qLoc N0 b rho ls nL L) : W p l e R s m args below meth c H locs nc ns Qf (F0 m pc ls (S.map (q_v N0 b rho))) := by
  obtain ⟨hx, hb, hml, hown, hts, hret, hlocks, hnm, htab, hfr, hlo, htr⟩ := id C
  simp only [q_opok, Bool.and_eq_true] at ok
  obtain ⟨ox, ok⟩ := ok
  split at ok
  all_goals first | (cases ok; done) | skip
  next idx =>
  simp only [Bool.and_eq_true] at ok
  obtain ⟨o1, ok⟩ := ok
  have o1 := Nat.eq_of_beq_eq_true o1
  subst o1
  split at ok
  all_goals first | (cases ok; done) | skip
  next C T N hcl =>
  split at ok
  all_goals first | (cases ok; done) | skip
  next fl hfl =>
  split at ok
  all_goals first | (cases ok; done) | skip
  next ji hji =>
  simp only [Bool.and_eq_true, decide_eq_true_eq] at ok
  obtain ⟨oty, ow1, ow2, ow3⟩ := ok
  rw [q_nth_eq] at hcl
  obtain ⟨g1, g2, ty0, g3⟩ := q_cl a0 _ hcl
  have hlen : fl.length = N := by
    have := congrArg List.length oty
    simpa using this.symm
  unfold qo_new at hr
  rw [hfl] at hr
  split at hr
  · next hc1 =>
    dsimp only at hr
    rw [q_add_eq] at hr
    obtain ⟨hr, h1, h2⟩ := hadd _ _ _ _ _ hr
    have hKn := Wd.1.1 a0 _ hcl
    rw [hlen] at hr h2
    refine W.newcK hx hb hown (hts _ (q_w_in ow1).1) (hts _ (q_w_in ow2).1) (hts _ (q_w_in ow3).1) rfl hd h1 h2 hKn.2.1 rfl fun H1 kC hkC e1 z o => ?_
    have hn := q_next (locs := locs) (ls := ls) hk hj ox hr (hJ.push (x := .inr (a0, fl.map q_dv)) hc1 z o ?_) hl hL
    · have hsz := hJ.2.2.1 hc1
      rw [hsz]
      exact hn
    · refine ⟨_, hcl, (u_born ty0 hts (q_TBLin (own := own) g1) hKn hkC e1 g3).to (fun k hk => ?_)⟩
      have h5 := congrArg (fun z : List (Option Nat) => z[k]?) oty
      simp only [List.getElem?_map, List.getElem?_range hk, Option.map_some] at h5
      have h6 : k < fl.length := by rw [hlen]; exact hk
      rw [List.getElem?_eq_getElem h6, Option.map_some, g3 k hk, Option.map_some] at h5
      have h7 : q_tc (ty0 k) = fl[k] := Option.some.inj (Option.some.inj h5)
      have h8 : vp_V ((fl.map q_dv).map (q_v N0 b rho)) k = q_v N0 b rho (q_dv fl[k]) := by
        unfold vp_V
        rw [List.getD_eq_getElem?_getD, List.getElem?_map, List.getElem?_map, List.getElem?_eq_getElem h6]
        rfl
      show defaultValue (ty0 k) = _
      rw [h8, ← h7]
      exact q_dv_ok _ (by rw [h7]; exact q_fty_ok hfl h6)
  · exact absurd hr (hno _ _ _)

theorem qs_objinit (C : qCtx p l R s m args meth c own nm cc nL ret hh d) (Wd : qWd N0 b H0 tys D Lx xs s) (hE : qEok E rho) (hX : qScr rho Lx xs) (hk : qKok p l e R s m args below meth c N0 b H0 rho tys D nL Rw Qf Rel kk) (hno : ∀ x nc ns, ¬ Rel (.inr (.inr x)) nc ns) (hadd : qAddR R Rel) (hj : q_drop Rw j = (pc, op, a0, b0, c0, ins, len) :: K) (hd : decode cc pc = .ok (ins, len))
    (ok : q_opok P I sw own nm cc nL ret Rw K pc 34 a0 b0 c0 ins len = true) (hr : Rel (qo_objinit P E ih kk d Rw hs pc a0 b0 c0 K L S h) nc ns) (hJ : qJ N0 b H0 rho tys D h H) (hl : ∀ z ∈ locs, N0 ≤ z.base) (hL : qLoc N0 b rho ls nL L) : W p l e R s m args below meth c H locs nc ns Qf (F0 m pc ls (S.map (q_v N0 b rho))) := by
  obtain ⟨hx, hb, hml, hown, hts, hret, hlocks, hnm, htab, hfr, hlo, htr⟩ := id C
  simp only [q_opok, Bool.and_eq_true] at ok
  obtain ⟨ox, ok⟩ := ok
  split at ok
  all_goals first | (cases ok; done) | skip
  next idx =>
  simp only [Bool.and_eq_true] at ok
  obtain ⟨o1, ow1, ow2, ow3⟩ := ok
  have o1 := Nat.eq_of_beq_eq_true o1
  subst o1
  unfold qo_objinit at hr
  split at hr
  · next r S' =>
    split at hr
    · next hc =>
      simp only [Bool.and_eq_true] at hc
      have h1 := Nat.le_of_ble_eq_true hc.1
      have h2 := Nat.blt_eq.mp hc.2
      refine W.objInit hx hb hown (hts _ (q_w_in ow1).1) (hts _ (q_w_in ow2).1) (hts _ (q_w_in ow3).1) rfl (by rw [hml]; exact hL.1) rfl hd (by omega) ?_ ?_
      · show 0 + ((S'.map (q_v N0 b rho)).map fun v => v.category).sum + 12 ≤ R.locals
        rw [q_cats]
        omega
      · exact q_next hk hj ox hr hJ hl hL
    · exact absurd hr (hno _ _ _)
  · exact absurd hr (hno _ _ _)
end QH
