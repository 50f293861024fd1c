/-! ARRAYS OF ARRAYS -/
theorem q_outer (cA N h0 : Nat) : ∀ i, Jvm.Free.Multi.outerC cA N h0 i = arrV cA N (fun j => if j < i then .ref (h0 + 1 + j) else .null)
  | 0 => by
    show ({ cls := cA, slots := Array.replicate N .null, vm := .none } : Cell) = _
    rw [arrV_new]
    rfl
  | i + 1 => by
    show (Jvm.Free.Multi.outerC cA N h0 i).setSlot i (.ref (h0 + 1 + i)) = _
    rw [q_outer cA N h0 i, arrV_store]
    congr 1
    funext j
    unfold updV
    by_cases h1 : j = i
    · subst h1
      rw [if_pos rfl, if_pos (Nat.lt_succ_self j)]
    · rw [if_neg h1]
      dsimp only
      by_cases h2 : j < i
      · rw [if_pos h2, if_pos (Nat.lt_succ_of_lt h2)]
      · rw [if_neg h2, if_neg (by omega)]
section QM
variable {p : Program} {l : Launch} {e : Env} {R : Room} {s : State} {m : MethodId} {args : Array Value} {below : List Frame} {meth : Method} {c : Code}
variable {N0 b : Nat} {H0 : Heap} {rho : Nat → Nat} {tys : List (ClassId × FieldType)} {D : va_G} {Lx : Nat} {xs : Nat → Int32}
variable {own nm : String} {cc : ByteArray} {nL : Nat} {ret : Option FieldType} {hh : List (Nat × Nat × Nat × Nat)} {d : Nat}
variable {Rw : List qRow} {hs : List qHd} {P : List qM} {I : List qInf} {sw : List Nat} {E : qEnv} {ih : qIh} {kk : qKk}
variable {Qf : State → Prop} {Rel : qRes → Nat → Nat → Prop}
variable {j pc op a0 b0 c0 len : Nat} {ins : Instr} {K : List qRow} {L : qL} {S : List qV} {h : qHp} {nc ns : Nat} {H : Heap} {locs : List Loc} {ls : Array Slot}

theorem qs_multi (C : qCtx p l R s m args meth c own nm cc nL ret hh d) (Wd : qWd N0 b H0 tys D Lx xs s) (hE : qEok E rho) (hX : qScr rho Lx xs) (hk : qKok p l e R s m args below meth c N0 b H0 rho tys D nL Rw Qf Rel kk) (hno : ∀ x nc ns, ¬ Rel (.inr (.inr x)) nc ns) (hadd : qAddR R Rel) (hj : q_drop Rw j = (pc, op, a0, b0, c0, ins, len) :: K) (hd : decode cc pc = .ok (ins, len))
    (ok : q_opok P I sw own nm cc nL ret Rw K pc 32 a0 b0 c0 ins len = true) (hr : Rel (qo_multi P E ih kk d Rw hs pc a0 b0 c0 K L S h) nc ns) (hJ : qJ N0 b H0 rho tys D h H) (hl : ∀ z ∈ locs, N0 ≤ z.base) (hL : qLoc N0 b rho ls nL L) : W p l e R s m args below meth c H locs nc ns Qf (F0 m pc ls (S.map (q_v N0 b rho))) := by
  obtain ⟨hx, hb, hml, hown, hts, hret, hlocks, hnm, htab, hfr, hlo, htr⟩ := id C
  simp only [q_opok, Bool.and_eq_true] at ok
  obtain ⟨ox, ok⟩ := ok
  split at ok
  all_goals first | (cases ok; done) | skip
  next idx dim =>
  simp only [Bool.and_eq_true] at ok
  obtain ⟨o1, o2, ow1, ow2⟩ := ok
  have o1 := Nat.eq_of_beq_eq_true o1
  have o2 := Nat.eq_of_beq_eq_true o2
  subst o1; subst o2
  unfold qo_multi at hr
  split at hr
  · next k n S' =>
    split at hr
    · next hc =>
      simp only [Bool.and_eq_true] at hc
      obtain ⟨c1, c2, c3, c4, c5⟩ := hc
      have c1 := q_isc_eq c1
      have c2 := q_isc_eq c2
      have c4 := Nat.blt_eq.mp c4
      have c5 := Nat.blt_eq.mp c5
      obtain ⟨k1, k2⟩ := k
      obtain ⟨n1, n2⟩ := n
      dsimp only at c1 c2 c4 c5 hr
      subst c1; subst c2
      rw [q_add_eq] at hr
      obtain ⟨hr, h1, h2⟩ := hadd _ _ _ _ _ hr
      show W p l e R s m args below meth c H locs nc ns Qf (F0 m pc ls (.int (nI k1) :: .int (nI n1) :: S'.map (q_v N0 b rho)))
      have hcn : (nI n1).toNatClampNeg = n1 := nI_clamp (by omega)
      have hck : (nI k1).toNatClampNeg = k1 := nI_clamp (by omega)
      intro T hT Xs
      obtain ⟨vm₁, cA, comp, -, fA, fC, hO, -, X', step⟩ := Xs.multianewarray2F (ty := .int) hx hown (hts _ (q_w_in ow1).1) (Jvm.Stand.arrayOver_alikeB (Vm.Alike.refl _) Wd.2.2.2.2.2.2.2.2.2.2.2) (hts _ (q_w_in ow2).1) (g := F0 m pc ls (.int (nI k1) :: .int (nI n1) :: S'.map (q_v N0 b rho))) rfl (by rw [hb]; exact hd) rfl (nI_pos (by omega)) (nI_pos (by omega)) (by rw [hcn]; omega) (by rw [hck]; show k1 * 4 ≤ _; omega) (by rw [hck]; omega) rfl rfl (by rw [hcn]; exact h1) (by rw [hcn, hck]; exact h2)
      rw [hcn, hck] at X' step
      generalize hF : Jvm.Free.Multi.fill (T.setVm vm₁) cA comp n1 k1 (defaultValue .int) n1 = F at X' step
      have hTh : (T.setVm vm₁).heap = H := hT
      obtain ⟨f1, f2, -, -⟩ := Jvm.Free.Multi.fill_facts (T.setVm vm₁) cA comp n1 k1 (defaultValue .int) n1
      rw [hF, hTh] at f1 f2
      have hold : ∀ x : Nat, x < H.size → F.heap[x]? = H[x]? := fun x hx => by
        have := Jvm.Free.Multi.fill_old (T.setVm vm₁) cA comp n1 k1 (defaultValue .int) (a := x) (by rw [hTh]; exact hx) n1
        rw [hF, hTh] at this
        exact this
      have hrow : ∀ j : Nat, j < n1 → F.heap[H.size + 1 + j]? = some (Jvm.Free.Multi.innerC comp k1 (defaultValue .int)) := fun j hj => by
        have := Jvm.Free.Multi.fill_inner (T.setVm vm₁) cA comp n1 k1 (defaultValue .int) n1 j hj
        rw [hF, hTh] at this
        exact this
      have hsz := hJ.2.2.1 c3
      have hcA : cA = q_cA tys 6 := Option.some.inj (fA.symm.trans (Wd.1.2 6 _ (q_ty Wd (t := 6) rfl)).2)
      have hcI : comp = q_cA tys 0 := Option.some.inj (fC.symm.trans (Wd.1.2 0 _ (q_ty Wd (t := 0) rfl)).2)
      have hJ2 : qJ N0 b H0 rho tys D (true, (h.2 ++ [.inl (6, .inr (.inr ((List.range n1).map (fun i => some (h.2.length + 2 + i)))))]) ++ List.replicate n1 (.inl (0, .inl (List.replicate k1 (0, []))))) F.heap := by
        refine ⟨fun q hq => by rw [hold q (by omega)]; exact hJ.1 q hq, by simp; omega, fun _ => by simp; omega, fun i x hi => ?_⟩
        dsimp only at hi
        by_cases hl1 : i < h.2.length
        · rw [List.append_assoc, List.getElem?_append_left hl1] at hi
          exact (hJ.2.2.2 i x hi).kept (hold _ (by show N0 + i < H.size; omega))
        · rw [List.append_assoc, List.getElem?_append_right (by omega)] at hi
          by_cases hi0 : i = h.2.length
          · subst hi0
            rw [Nat.sub_self] at hi
            cases hi
            show F.heap[N0 + h.2.length]? = some (vp_cell _ _)
            rw [show N0 + h.2.length = H.size by omega, f2, q_outer, vp_cell_q, hcA]
            refine congrArg some ?_
            rw [List.length_map, List.length_range]
            congr 1
            funext j1
            rw [List.getD_eq_getElem?_getD, List.getElem?_map]
            by_cases hj1 : j1 < n1
            · rw [List.getElem?_range hj1]
              have e9 : q_ad N0 b (h.2.length + 2 + j1) = H.size + 1 + j1 := by
                rw [show h.2.length + 2 + j1 = (h.2.length + 1 + j1) + 1 by omega]
                show N0 + _ = _
                omega
              simp only [hj1, if_true, Option.map_some, Option.getD_some, q_r, va_rf, e9]
            · rw [List.getElem?_eq_none (by simpa using hj1)]
              simp [hj1, q_r, va_rf]
          · obtain ⟨i2, hi2⟩ : ∃ i2, i - h.2.length = i2 + 1 := ⟨i - h.2.length - 1, by omega⟩
            rw [hi2] at hi
            rw [List.singleton_append, List.getElem?_cons_succ, List.getElem?_replicate] at hi
            split at hi
            · next hlt =>
              cases hi
              show F.heap[N0 + i]? = some (vp_cell _ _)
              rw [show N0 + i = H.size + 1 + i2 by omega, hrow i2 hlt, vp_cell_i, hcI]
              refine congrArg some ?_
              show ({ cls := _, slots := Array.replicate k1 _, vm := .none } : Cell) = _
              rw [arrV_new, List.length_replicate]
              congr 1
              funext j1
              rw [q_getD_rep]
              rfl
            · cases hi
      have hn := q_next (locs := locs) (ls := ls) hk hj ox hr hJ2 hl hL
      obtain ⟨t, a1, b1⟩ := hn F rfl (by
        have e1 : nc + 1 + n1 = nc + (1 + n1) := by omega
        have e2 : ns + n1 + n1 * k1 = ns + (n1 + n1 * k1) := by omega
        rw [e1, e2] at X'
        exact X')
      refine ⟨t, step t ?_, b1⟩
      have hT9 : T.heap.size = N0 + h.2.length := by rw [hT]; exact hsz
      rw [hT9]
      exact a1
    · exact absurd hr (hno _ _ _)
  · exact absurd hr (hno _ _ _)
end QM
