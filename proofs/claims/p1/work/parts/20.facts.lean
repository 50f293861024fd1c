/-! THE PROGRAM KEEPS WHAT THE EVALUATOR NEEDS -/
noncomputable def q_mok (M : qM) (i : qInf) (js : List Nat) : Bool := q_w i.2.2.2.2.1 (q_code i.1 i.2.1 M.1 i.2.2.1 i.2.2.2.1) && (Nat.ble M.1 13 && (decide (i.1.cls ≠ "java/lang/invoke/MethodHandle") && (decide (i.1.cls ≠ "java/lang/invoke/VarHandle") && (q_roks q_prog q_info q_sw i.1.cls i.1.name i.2.1 M.1 i.2.2.1 M.2.1 M.2.1 && (q_hok i.1.cls M.2.1 M.2.2 i.2.2.2.1 js && (plainName i.1.cls && (match M.2.1 with
  | r :: _ => Nat.beq r.1 0
  | [] => false)))))))
noncomputable def q_moks (a n : Nat) : Bool := (List.range n).all fun k => match q_nth q_prog (a + k) with
  | some M => match q_nth q_info (a + k) with
    | some i => match q_nth q_js (a + k) with
      | some js => q_mok M i js
      | none => false
    | none => false
  | none => false
