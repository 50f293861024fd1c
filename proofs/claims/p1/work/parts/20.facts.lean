/-! THE PROGRAM KEEPS WHAT THE EVALUATOR NEEDS -/
noncomputable def q_mok (M : qM) (i : qInf) (js : List Nat) : Bool := q_w i.2.2.2.2.1 (q_code i.1 i.2.1 M.1 i.2.2.1 i.2.2.2.1) && (Nat.ble M.1 13 && (decide (i.1.cls ≠ "java/lang/invoke/MethodHandle") && (decide (i.1.cls ≠ "java/lang/invoke/VarHandle") && (q_roks q_prog q_info q_sw i.1.cls i.1.name i.2.1 M.1 i.2.2.1 M.2.1 M.2.1 && (q_hok i.1.cls M.2.1 M.2.2 i.2.2.2.1 js && (plainName i.1.cls && (match M.2.1 with
  | r :: _ => Nat.beq r.1 0
  | [] => false)))))))
noncomputable def q_moks (a n : Nat) : Bool := (List.range n).all fun k => match q_nth q_prog (a + k) with
  | some M => match q_nth q_info (a + k) with
    | some i => match q_nth q_js (a + k) with
      | some js => q_mok M i js
      | none => false
    | none => false
  | none => false
noncomputable def q_roksn (P : List qM) (I : List qInf) (sw : List Nat) (own nm : String) (cc : ByteArray) (nL : Nat) (ret : Option FieldType) (R : List qRow) : Nat → List qRow → Bool
  | 0, _ => true
  | _ + 1, [] => true
  | n + 1, r :: K => q_rok P I sw own nm cc nL ret R r K && q_roksn P I sw own nm cc nL ret R n K
theorem q_roks_cut {P : List qM} {I : List qInf} {sw : List Nat} {own nm : String} {cc : ByteArray} {nL : Nat} {ret : Option FieldType} {R : List qRow} : ∀ (n : Nat) (K : List qRow), q_roksn P I sw own nm cc nL ret R n K = true → q_roks P I sw own nm cc nL ret R (q_drop K n) = true → q_roks P I sw own nm cc nL ret R K = true
  | 0, K, _, h => by rwa [q_drop_eq, List.drop_zero] at h
  | n + 1, [], _, _ => rfl
  | n + 1, r :: K, h1, h2 => by
    simp only [q_roksn, Bool.and_eq_true] at h1
    have h2 : q_roks P I sw own nm cc nL ret R (q_drop K n) = true := h2
    show (q_rok P I sw own nm cc nL ret R r K && q_roks P I sw own nm cc nL ret R K) = true
    rw [h1.1, q_roks_cut n K h1.2 h2]
    rfl
noncomputable def q_K0 : List qRow := q_law
noncomputable def q_K1 : List qRow := q_drop q_K0 60
noncomputable def q_K2 : List qRow := q_drop q_K1 60
noncomputable def q_K3 : List qRow := q_drop q_K2 60
noncomputable def q_K4 : List qRow := q_drop q_K3 60
noncomputable def q_K5 : List qRow := q_drop q_K4 60
noncomputable def q_K6 : List qRow := q_drop q_K5 60
noncomputable def q_K7 : List qRow := q_drop q_K6 60
noncomputable def q_K8 : List qRow := q_drop q_K7 60
noncomputable def q_K9 : List qRow := q_drop q_K8 60
noncomputable def q_K10 : List qRow := q_drop q_K9 60
noncomputable def q_K11 : List qRow := q_drop q_K10 60
noncomputable def q_K12 : List qRow := q_drop q_K11 60
noncomputable def q_K13 : List qRow := q_drop q_K12 60
noncomputable def q_K14 : List qRow := q_drop q_K13 60
noncomputable def q_K15 : List qRow := q_drop q_K14 60
noncomputable def q_K16 : List qRow := q_drop q_K15 60
noncomputable def q_K17 : List qRow := q_drop q_K16 60
noncomputable def q_K18 : List qRow := q_drop q_K17 60
noncomputable def q_K19 : List qRow := q_drop q_K18 60
noncomputable def q_K20 : List qRow := q_drop q_K19 60
noncomputable def q_K21 : List qRow := q_drop q_K20 60
noncomputable def q_K22 : List qRow := q_drop q_K21 60
noncomputable def q_K23 : List qRow := q_drop q_K22 60
noncomputable def q_K24 : List qRow := q_drop q_K23 60
