/-! THE LAW -/
theorem q_inst : ∀ (a : Nat) (q : vw_C), vwCl[a]? = some q → ∃ n, Jvm.Cond.instantiable q.1 n ∈ lw_tbl := by
  intro a q h
  match a, h with
  | 0, h => cases h; exact ⟨6, List.mem_of_getElem? (i := 102) (by decide +kernel)⟩
  | 1, h => cases h; exact ⟨7, List.mem_of_getElem? (i := 109) (by decide +kernel)⟩
  | 2, h => cases h; exact ⟨4, List.mem_of_getElem? (i := 888) (by decide +kernel)⟩
  | 3, h => cases h; exact ⟨3, List.mem_of_getElem? (i := 395) (by decide +kernel)⟩
  | 4, h => cases h; exact ⟨2, List.mem_of_getElem? (i := 228) (by decide +kernel)⟩
  | 5, h => cases h; exact ⟨2, List.mem_of_getElem? (i := 258) (by decide +kernel)⟩
  | 6, h => cases h; exact ⟨5, List.mem_of_getElem? (i := 199) (by decide +kernel)⟩
  | 7, h => cases h; exact ⟨4, List.mem_of_getElem? (i := 174) (by decide +kernel)⟩
  | 8, h => cases h; exact ⟨2, List.mem_of_getElem? (i := 243) (by decide +kernel)⟩
  | 9, h => cases h; exact ⟨13, List.mem_of_getElem? (i := 94) (by decide +kernel)⟩
  | 10, h => cases h; exact ⟨36, List.mem_of_getElem? (i := 1028) (by decide +kernel)⟩
  | n + 11, h => simp [vwCl] at h

theorem q_gk (k : Nat) (hk : k < 32) : q_wo (q_Ek k) := by
  match k, hk with
  | 0, _ => exact q_gw0
  | 1, _ => exact q_gw1
  | 2, _ => exact q_gw2
  | 3, _ => exact q_gw3
  | 4, _ => exact q_gw4
  | 5, _ => exact q_gw5
  | 6, _ => exact q_gw6
  | 7, _ => exact q_gw7
  | 8, _ => exact q_gw8
  | 9, _ => exact q_gw9
  | 10, _ => exact q_gw10
  | 11, _ => exact q_gw11
  | 12, _ => exact q_gw12
  | 13, _ => exact q_gw13
  | 14, _ => exact q_gw14
  | 15, _ => exact q_gw15
  | 16, _ => exact q_gw16
  | 17, _ => exact q_gw17
  | 18, _ => exact q_gw18
  | 19, _ => exact q_gw19
  | 20, _ => exact q_gw20
  | 21, _ => exact q_gw21
  | 22, _ => exact q_gw22
  | 23, _ => exact q_gw23
  | 24, _ => exact q_gw24
  | 25, _ => exact q_gw25
  | 26, _ => exact q_gw26
  | 27, _ => exact q_gw27
  | 28, _ => exact q_gw28
  | 29, _ => exact q_gw29
  | 30, _ => exact q_gw30
  | 31, _ => exact q_gw31
  | n + 32, h => exact absurd h (by omega)
def q_rho (L : Nat) (xs : Nat → Int32) : Nat → Nat := fun i => if i = 0 then L else if i = 9 then (xs 0 &&& 31).toBitVec.toNat else (xs (i - 1)).toBitVec.toNat
theorem q_nIself (x : Int32) : nI x.toBitVec.toNat = x := by
  apply Int32.toBitVec_inj.mp
  apply BitVec.eq_of_toNat_eq
  rw [q_tn]
  exact Nat.mod_eq_of_lt x.toBitVec.isLt
theorem q_scr (L : Nat) (xs : Nat → Int32) (hL : L ≤ 8) : qScr (q_rho L xs) L xs := by
  refine ⟨rfl, hL, fun i hi => ?_, ?_⟩
  · have h1 : q_rho L xs (i + 1) = (xs i).toBitVec.toNat := by
      unfold q_rho
      rw [if_neg (by omega), if_neg (by omega)]
      rfl
    rw [h1, q_nIself]
  · have h1 : q_rho L xs 9 = (xs 0 &&& 31).toBitVec.toNat := rfl
    rw [h1, q_nIself]
def q_RelTop (r : qRes) (nc ns : Nat) : Prop := ∃ (h : qHp) (mc ms : Nat), r = .inl (some (.inl (1, [])), h, mc, ms) ∧ nc + mc ≤ 600002 ∧ ns + ms ≤ 7302232
def q_QTop : Array Value → State → Outcome → State → Prop := fun _ _ o _ => o = .returned (some (.int 1))
theorem q_top_no : ∀ x nc ns, ¬ q_RelTop (.inr (.inr x)) nc ns := fun x nc ns h => by
  obtain ⟨h1, mc, ms, e, -⟩ := h
  cases e
theorem q_top_add : qAddR room_1 q_RelTop := by
  intro dc ds r nc ns h
  obtain ⟨h1, mc, ms, e, g1, g2⟩ := h
  rcases r with ⟨v, h', a, b⟩ | ⟨X, h', a, b⟩ | x
  · simp only [q_add1, Sum.inl.injEq, Prod.mk.injEq] at e
    obtain ⟨rfl, rfl, rfl, rfl⟩ := e
    exact ⟨⟨_, _, _, rfl, by omega, by omega⟩, by show nc + dc ≤ 600002; omega, by show ns + ds ≤ 7302232; omega⟩
  · simp [q_add1] at e
  · simp [q_add1] at e
section QTOP
variable {p : Program} {l : Launch} {e : Env} {s : State} {m : MethodId} {below : List Frame} {meth : Method} {c : Code} {b L : Nat} {xs : Nat → Int32}
theorem q_top_mono {H : Heap} {g : JFrame} (h : W p l e room_1 s m #[Value.ref b] below meth c H [] 0 0 (vx_MQ below q_QTop (fun _ _ _ => False) #[Value.ref b] s room_1.cells room_1.slots (fun q => s.heap.size ≤ q)) g) : W p l e room_1 s m #[Value.ref b] below meth c H [] 0 0 (lw_Z below #[Value.ref b] s) g := by
  intro T hT X
  obtain ⟨t, a1, o, b1, b2, b3⟩ := h T hT X
  refine ⟨t, a1, o, b1, b2, ?_⟩
  rcases b3 with ⟨ho, Ls, hF, hL⟩ | ⟨q, -, E, ce, Ls, hXC, -⟩
  · obtain ⟨f1, f2, f3, f4, f5, f6, f7, f8⟩ := hF
    refine ⟨ho, f1, f2, f3, f4, f5, f6, f7, fun a c hc => ?_⟩
    obtain ⟨c', k1, k2, k3, k4⟩ := f8 a c hc
    refine ⟨c', k1, k2, k3, fun i _ => k4 i (fun hm => ?_)⟩
    have := hL _ hm
    have h2 := (Array.getElem?_eq_some_iff.mp hc).1
    have h3 : s.heap.size ≤ a := this
    omega
  · exact hXC.elim
theorem q_worlds (C0 : lw_At p s m meth c b L xs) : ∃ (D : va_G) (tys : List (ClassId × FieldType)), qWd s.heap.size b s.heap tys D L xs s := by
  obtain ⟨hx, hb, hr, hml, hown, hts, hX, hbl, hlocks, hgv⟩ := C0
  have hs := flat_of_before _ hgv
  have hcl : ∀ a : Nat, ∃ z : ClassId × (Nat → Nat), ∀ q, vwCl[a]? = some q → u_Kn s q.1 q.2.1 q.2.2 z.1 z.2 := by
    intro a
    cases hq : vwCl[a]? with
    | none => exact ⟨(0, fun _ => 0), fun q h => by cases h⟩
    | some q =>
      obtain ⟨n, hn⟩ := q_inst a q hq
      obtain ⟨cC, iS, hK⟩ := u_known (C := q.1) (T := q.2.1) (N := q.2.2) (n := n) hts (fun w hw => ((q_cl a q hq).1 w hw).1) (hts _ hn)
      exact ⟨(cC, iS), fun q2 h2 => by cases h2; exact hK⟩
  have hD : ∃ D : va_G, ∀ (a : Nat) (q : vw_C), vwCl[a]? = some q → u_Kn s q.1 q.2.1 q.2.2 (D.1 a) (D.2 a) := ⟨(fun a => (Classical.choose (hcl a)).1, fun a => (Classical.choose (hcl a)).2), fun a q h => Classical.choose_spec (hcl a) q h⟩
  obtain ⟨D, hD⟩ := hD
  obtain ⟨cI, kI, pI, i1, i2, i3⟩ := Cond.arrayClass_spec (hts (.arrayClass .int) (List.mem_of_getElem? (i := 146) (by decide +kernel)))
  obtain ⟨cJ, kJ, pJ, j1, j2, j3⟩ := Cond.arrayClass_spec (hts (.arrayClass .long) (List.mem_of_getElem? (i := 1466) (by decide +kernel)))
  have hao : ∀ (C : String), Jvm.Cond.arrayOver (.object C) ∈ lw_tbl → va_AO C s ∧ ∃ cA, ArrOfT s cA (.object C) ∧ va_RA s cA (.object C) := by
    intro C hC
    have h0 := hts _ hC
    obtain ⟨comp, c1, k, h1, -, h3, h4, h5⟩ := Cond.arrayOver_spec h0
    exact ⟨va_AO.of h0, c1, fun n z => ⟨fun k h => (by cases h), k, h3, comp, h4⟩, k, comp, h3, h4, h1, h5⟩
  obtain ⟨w2, c2, a2, r2⟩ := hao "Treebark$Extent" (List.mem_of_getElem? (i := 108) (by decide +kernel))
  obtain ⟨w3, c3, a3, r3⟩ := hao "Treebark$Tree" (List.mem_of_getElem? (i := 173) (by decide +kernel))
  obtain ⟨w4, c4, a4, r4⟩ := hao "Treebark$Logged" (List.mem_of_getElem? (i := 197) (by decide +kernel))
  obtain ⟨w5, c5, a5, r5⟩ := hao "Treebark$Node" (List.mem_of_getElem? (i := 264) (by decide +kernel))
  have hw6 := hts (.arrayOver (.array .int)) (List.mem_of_getElem? (i := 205) (by decide +kernel))
  obtain ⟨comp6, c6, k6, -, -, l3, l4, l5⟩ := Jvm.Stand.arrayOver_specB hw6
  refine ⟨D, [(cI, .int), (cJ, .long), (c2, .object "Treebark$Extent"), (c3, .object "Treebark$Tree"), (c4, .object "Treebark$Logged"), (c5, .object "Treebark$Node"), (c6, .array .int)], ⟨hD, fun k q hk => ?_⟩, rfl, hX, hbl, rfl, ?_, ?_, ?_, ?_, ?_, ?_, ?_⟩
  · match k, hk with
    | 0, hk => cases hk; exact ⟨fun n z => ⟨fun k h => (by cases h), kI, i2, pI, i3⟩, i1⟩
    | 1, hk => cases hk; exact ⟨fun n z => ⟨fun k h => (by cases h), kJ, j2, pJ, j3⟩, j1⟩
    | 2, hk => cases hk; exact ⟨a2, r2⟩
    | 3, hk => cases hk; exact ⟨a3, r3⟩
    | 4, hk => cases hk; exact ⟨a4, r4⟩
    | 5, hk => cases hk; exact ⟨a5, r5⟩
    | 6, hk => cases hk; exact ⟨fun n z => ⟨fun k h => (by cases h), k6, l3, comp6, l4⟩, l5⟩
    | n + 7, hk => simp at hk
  · exact vx_Zqof (hts _ (List.mem_of_getElem? (i := 519) (by decide +kernel))) (hts _ (List.mem_of_getElem? (i := 84) (by decide +kernel))) (hs _ (by decide +kernel)) (fun a h => Nat.not_le.mpr h)
  · exact vx_Zqof (hts _ (List.mem_of_getElem? (i := 521) (by decide +kernel))) (hts _ (List.mem_of_getElem? (i := 84) (by decide +kernel))) (hs _ (by decide +kernel)) (fun a h => Nat.not_le.mpr h)
  · have h1 : q_nests.all (fun q => decide (q_nestP q ∈ lw_tbl)) = true := by decide +kernel
    intro q hq
    exact va_Nw.of rfl (hts _ (of_decide_eq_true (List.all_eq_true.mp h1 q hq)))
  · have h1 : q_exc.all (fun X => decide (Jvm.Cond.castable X X ∈ lw_tbl)) = true := by decide +kernel
    have h2 : q_decl.all (fun y => decide (Jvm.Cond.declares y ∈ lw_tbl)) = true := by decide +kernel
    exact ⟨fun X hX => va_Nw.of rfl (hts _ (of_decide_eq_true (List.all_eq_true.mp h1 X hX))), fun y hy => va_Nw.of rfl (hts _ (of_decide_eq_true (List.all_eq_true.mp h2 y hy)))⟩
  · intro X hX Y hY hn
    simp only [q_exc, List.mem_cons, List.not_mem_nil, or_false] at hX hY
    rcases hX with rfl | rfl | rfl <;> rcases hY with rfl | rfl | rfl <;> first | exact absurd rfl hn | exact va_Nc.of (hs _ (by decide +kernel))
  · intro t C ht hC
    match t, ht, hC with
    | 2, _, hC => cases hC; exact w2
    | 3, _, hC => cases hC; exact w3
    | 4, _, hC => cases hC; exact w4
    | 5, _, hC => cases hC; exact w5
    | 6, _, hC => cases hC
    | n + 7, _, hC => simp [q_tys] at hC
  · exact Jvm.Stand.arrayOver_alikeB (Vm.Alike.refl _) hw6
end QTOP
set_option maxHeartbeats 4000000 in
/-- THE LAW, from its entry -/
theorem whole_start {p : Program} {e : Env} {s : State} {m : MethodId} {below : List Frame} {meth : Method} {c : Code} (l : Launch) (hflags : l.flags = flags0) {b L : Nat} {xs : Nat → Int32} (hL : L ≤ 8) (C0 : lw_At p s m meth c b L xs) : W p l e room_1 s m #[Value.ref b] below meth c s.heap [] 0 0 (lw_Z below #[Value.ref b] s) (entryFrame m ([Value.ref b] : List Value).toArray 7) := by
  obtain ⟨D, tys, Wd⟩ := q_worlds C0
  obtain ⟨hx, hb, hr, hml, hown, hts, hX, hbl, hlocks, hgv⟩ := id C0
  have htr : l.stackTraces = false := by
    unfold Launch.stackTraces
    rw [hflags]
    decide +kernel
  refine q_top_mono ?_
  have hsc := q_scr L xs hL
  have C : qCtx p l room_1 s m #[Value.ref b] meth c R_law "" code 7 ret [] 14 := ⟨hx, hb, hml, hown, fun w hw => hts w (List.mem_filter.mp hw).1, hr, hlocks, Or.inr rfl, fun z => absurd rfl z, Nat.le_of_ble_eq_true rfl, Nat.le_of_ble_eq_true rfl, htr⟩
  have hRret : q_RR s.heap.size b s.heap (q_rho L xs) tys D room_1 s #[Value.ref b] q_RelTop q_QTop := by
    intro v h nc ns hrel
    obtain ⟨h1, mc, ms, e1, g1, g2⟩ := hrel
    simp only [Sum.inl.injEq, Prod.mk.injEq] at e1
    obtain ⟨rfl, -, rfl, rfl⟩ := e1
    exact ⟨g1, g2, fun t _ => rfl⟩
  have hRthr : q_RT s.heap.size b s.heap (q_rho L xs) tys D room_1 s c [] q_RelTop (fun _ _ _ => False) := by
    intro X h mc ms nc ns hrel
    obtain ⟨h1, mc, ms, e1, -⟩ := hrel
    cases e1
  have hE : ∃ (E2 : qEnv) (h : qHp) (mc ms : Nat), qEok E2 (q_rho L xs) ∧ q_leaf E2 = .inl (some (.inl (1, [])), h, mc, ms) ∧ mc ≤ 500000 ∧ ms ≤ 7000000 := by
    have h0 : q_ev (q_rho L xs) [(0, 1)] = L := by
      show L * 1 + 0 = L
      omega
    rcases Nat.lt_or_ge L 8 with hlt | hge
    · refine q_go_ok 60 q_E0 q_g0 _ (fun x hx => ?_)
      rw [List.mem_singleton.mp hx]
      show _ ≤ q_bz (q_ev (q_rho L xs) [(0, 1)]) ∧ _
      rw [h0]
      unfold q_bz
      dsimp only
      omega
    · have h9 : q_ev (q_rho L xs) [(9, 1)] = (xs 0 &&& 31).toBitVec.toNat := by
        show (xs 0 &&& 31).toBitVec.toNat * 1 + 0 = _
        omega
      have hk : (xs 0 &&& 31).toBitVec.toNat < 32 := by
        rw [Int32.toBitVec_and, BitVec.toNat_and]
        exact Nat.lt_succ_of_le Nat.and_le_right
      refine q_gk _ hk _ (fun x hx => ?_)
      rcases List.mem_cons.mp hx with rfl | hx
      · show _ ≤ q_bz (q_ev (q_rho L xs) [(9, 1)]) ∧ _
        rw [h9]
        unfold q_bz
        dsimp only
        omega
      · rw [List.mem_singleton.mp hx]
        show _ ≤ q_bz (q_ev (q_rho L xs) [(0, 1)]) ∧ _
        rw [h0]
        unfold q_bz
        dsimp only
        omega
  obtain ⟨E2, h2, mc2, ms2, hE2, hleaf, hmc2, hms2⟩ := hE
  have hhead : ∃ r K, q_drop q_law 13 = r :: K ∧ r.1 = 23 := by
    have h1 : (match q_drop q_law 13 with
      | r :: _ => Nat.beq r.1 23
      | [] => false) = true := by decide +kernel
    split at h1
    · next r K hK => exact ⟨r, K, hK, Nat.eq_of_beq_eq_true h1⟩
    · cases h1
  have phase2 : ∀ (nc ns : Nat) (H : Heap) (locs : List Loc) (ls : Array Slot), nc + 500000 ≤ 600002 → ns + 7000000 ≤ 7302232 → qJ s.heap.size b s.heap (q_rho L xs) tys D q_h1 H → (∀ z ∈ locs, s.heap.size ≤ z.base) → qLoc s.heap.size b (q_rho L xs) ls 7 q_L1 →
      W p l e room_1 s m #[Value.ref b] below meth c H locs nc ns (vx_MQ below q_QTop (fun _ _ _ => False) #[Value.ref b] s room_1.cells room_1.slots (fun q => s.heap.size ≤ q)) (F0 m 23 ls []) := by
    intro nc ns H locs ls g1 g2 hJ hl hL2
    have hk := q_frame (n := q_N) (D := D) (tys := tys) (N0 := s.heap.size) (b := b) (H0 := s.heap) htr q_facts hE2 hsc p e room_1 s m #[Value.ref b] below meth c R_law "" code 7 ret [] 14 q_law [] [] _ q_QTop (fun _ _ _ => False) q_RelTop C Wd (fun _ _ => rfl) q_lawok rfl q_top_no q_top_add rfl hRret hRthr
    obtain ⟨r, K, hK, hr23⟩ := hhead
    obtain ⟨r1, K1, hK1, hW⟩ := hk 13 q_L1 [] q_h1 nc ns ⟨h2, mc2, ms2, hleaf, by omega, by omega⟩
    rw [hK] at hK1
    cases hK1
    have := hW H locs ls hJ hl hL2
    rw [hr23] at this
    exact this
  have hpre : ∀ n, qKok p l e room_1 s m #[Value.ref b] below meth c s.heap.size b s.heap (q_rho L xs) tys D 7 q_law (vx_MQ below q_QTop (fun _ _ _ => False) #[Value.ref b] s room_1.cells room_1.slots (fun q => s.heap.size ≤ q)) q_RelTop (q_pre n) := by
    intro n
    induction n with
    | zero =>
      intro j L2 S2 h3 nc ns hrel
      replace hrel : q_RelTop (q_kf (q_drop q_law j) L2 S2 h3) nc ns := hrel
      unfold q_kf at hrel
      split at hrel
      · exact absurd hrel (q_top_no _ _ _)
      · next r K hK =>
        split at hrel
        · next hc =>
          simp only [Bool.and_eq_true, decide_eq_true_eq] at hc
          obtain ⟨hc1, rfl, rfl, rfl⟩ := hc
          have hc1 := Nat.eq_of_beq_eq_true hc1
          obtain ⟨h4, mc, ms, e1, g1, g2⟩ := hrel
          have e1 : (Sum.inl (some (.inl (1, [])), (false, []), 500000, 7000000) : qRes) = .inl (some (.inl (1, [])), h4, mc, ms) := e1
          cases e1
          refine ⟨r, K, hK, fun H locs ls hJ hl hL2 => ?_⟩
          rw [hc1]
          exact phase2 nc ns H locs ls g1 g2 hJ hl hL2
        · exact absurd hrel (q_top_no _ _ _)
    | succ n ih =>
      intro j L2 S2 h3 nc ns hrel
      cases hK : q_drop q_law j with
      | nil =>
        rw [hK] at hrel
        exact absurd hrel (q_top_no _ _ _)
      | cons r K =>
        refine ⟨r, K, hK, fun H locs ls hJ hl hL2 => ?_⟩
        rw [hK] at hrel
        have hE0 : qEok [] (q_rho L xs) := fun x hx => by cases hx
        exact q_one (ih := qRun q_sw q_prog [] q_N) (kk := q_pre n) (hs := []) (js := []) C Wd hE0 hsc ih q_top_no q_top_add rfl hRret hRthr (fun _ _ => rfl) rfl (q_calls_of htr q_facts (q_frame htr q_facts hE0 hsc q_N)) q_lawok hK hrel hJ hl hL2
  obtain ⟨r, K, hK, hW⟩ := hpre 13 0 (q_loc 7 [.inr (.inl (some 0))]) [] (true, []) 0 0 (by
    have h1 := q_prefix
    have e0 : q_drop q_law 0 = q_law := rfl
    rw [e0]
    generalize q_pre 13 q_law (q_loc 7 [.inr (.inl (some 0))]) [] (true, []) = z at h1
    unfold q_isR at h1
    split at h1
    · next v h3 mc ms =>
      simp only [Bool.and_eq_true] at h1
      obtain ⟨h1, h4, h5⟩ := h1
      have h1 := Nat.eq_of_beq_eq_true h1
      have h4 := Nat.le_of_ble_eq_true h4
      have h5 := Nat.le_of_ble_eq_true h5
      subst h1
      exact ⟨_, _, _, rfl, by omega, by omega⟩
    · cases h1)
  have hK0 : ∃ r K, q_drop q_law 0 = r :: K ∧ r.1 = 0 := ⟨_, _, rfl, rfl⟩
  obtain ⟨r9, K9, hK9, hr9⟩ := hK0
  rw [hK9] at hK
  cases hK
  rw [lg_entry_eq]
  have := hW s.heap [] _ ⟨fun _ _ => rfl, Nat.le_refl _, fun _ => rfl, fun k x hk => by simp at hk⟩ (fun z hz => by cases hz) (q_loc_ok (N0 := s.heap.size) (b := b) (rho := q_rho L xs) (nL := 7) (As := [.inr (.inl (some 0))]) (by decide) (fun v hv => by rw [List.mem_singleton.mp hv]; rfl))
  rw [hr9] at this
  exact this
