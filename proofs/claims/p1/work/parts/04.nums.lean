/-! NUMBERS AND LISTS OF THE EVALUATOR -/
theorem q_nth_eq {α : Type} : ∀ (l : List α) (n : Nat), q_nth l n = l[n]?
  | [], n => by rw [List.getElem?_nil]; rfl
  | x :: l, 0 => rfl
  | x :: l, n + 1 => by
    show q_nth l n = _
    rw [q_nth_eq l n, List.getElem?_cons_succ]
theorem q_drop_eq {α : Type} : ∀ (l : List α) (n : Nat), q_drop l n = l.drop n
  | [], n => by rw [List.drop_nil]; rfl
  | x :: l, 0 => rfl
  | x :: l, n + 1 => by
    show q_drop l n = _
    rw [q_drop_eq l n]; rfl
theorem q_set_eq {α : Type} : ∀ (l : List α) (n : Nat) (v : α), q_set l n v = l.set n v
  | [], n, v => by rw [List.set_nil]; rfl
  | x :: l, 0, v => rfl
  | x :: l, n + 1, v => by
    show x :: q_set l n v = _
    rw [q_set_eq l n v]; rfl
theorem q_fz_eq {α : Type} (x : Nat) (f : Nat → α) : q_fz x f = f x := by cases x <;> rfl
theorem q_has_eq {α : Type} (l : List α) (n : Nat) : q_has l n = Nat.blt n l.length := by
  unfold q_has
  rw [q_nth_eq]
  rcases Nat.lt_or_ge n l.length with h | h
  · rw [List.getElem?_eq_getElem h, Nat.blt_eq.mpr h]
  · rw [List.getElem?_eq_none h]
    cases hb : Nat.blt n l.length with
    | false => rfl
    | true => exact absurd (Nat.blt_eq.mp hb) (by omega)
theorem q_ln_eq {α : Type} (l : List α) : q_ln l = l.length := by
  have h : ∀ (l : List α) (a : Nat), (List.rec (motive := fun _ => Nat → Nat) (fun a => a) (fun _ _ ih a => q_fz (Nat.succ a) ih) l : Nat → Nat) a = a + l.length := by
    intro l
    induction l with
    | nil => exact fun a => rfl
    | cons x l ih =>
      intro a
      show q_fz (Nat.succ a) _ = _
      rw [q_fz_eq, ih (Nat.succ a), List.length_cons]
      omega
  have := h l 0
  rw [Nat.zero_add] at this
  exact this
theorem q_len_eq (o : List qI ⊕ (List Nat ⊕ List (Option Nat))) : q_lenf o = q_len o := by
  rcases o with l | l | l <;> exact q_ln_eq l
theorem q_svk_eq {α : Type} (E : qEnv) (i : Nat) (f : qI → α) : q_svk E i f = f (q_sv E i) := by
  unfold q_svk q_sv
  simp only [q_fz_eq]
  split
  · split <;> rfl
  · rfl
theorem q_teq_eq : ∀ {a b : qT}, q_teq a b = true → a = b
  | [], [], _ => rfl
  | [], _ :: _, h => by cases h
  | _ :: _, [], h => by cases h
  | x :: a, y :: b, h => by
    simp only [q_teq, Bool.and_eq_true] at h
    obtain ⟨h1, h2, h3⟩ := h
    have e1 := Nat.eq_of_beq_eq_true h1
    have e2 := Nat.eq_of_beq_eq_true h2
    have e3 := q_teq_eq h3
    obtain ⟨x1, x2⟩ := x
    obtain ⟨y1, y2⟩ := y
    dsimp only at e1 e2
    subst e1; subst e2; subst e3
    rfl
theorem q_isc_eq {t : qT} (h : q_isc t = true) : t = [] := by
  cases t with
  | nil => rfl
  | cons x l => cases h
theorem q_ieq_eq {x y : qI} (h : q_ieq x y = true) : x = y := by
  simp only [q_ieq, Bool.and_eq_true] at h
  obtain ⟨x1, x2⟩ := x
  obtain ⟨y1, y2⟩ := y
  have e1 := Nat.eq_of_beq_eq_true h.1
  have e2 := q_teq_eq h.2
  dsimp only at e1 e2
  subst e1; subst e2
  rfl
theorem q_oeq_iff {x y : Option Nat} : q_oeq x y = true ↔ x = y := by
  cases x <;> cases y <;> simp [q_oeq, Nat.beq_eq]
def q_bz (n : Nat) : Nat := (n + 2147483648) % 4294967296
def q_ev (rho : Nat → Nat) : qT → Nat
  | [] => 0
  | x :: t => rho x.1 * x.2 + q_ev rho t
def q_i (rho : Nat → Nat) (x : qI) : Int32 := nI (x.1 + q_ev rho x.2)
theorem q_tn (n : Nat) : (nI n).toBitVec.toNat = n % 4294967296 := by
  show (Int32.ofNat n).toBitVec.toNat = _
  simp
theorem q_nImod {a b : Nat} (h : a % 4294967296 = b % 4294967296) : nI a = nI b := by
  apply Int32.toBitVec_inj.mp
  apply BitVec.eq_of_toNat_eq
  rw [q_tn, q_tn, h]
theorem q_toInt (n : Nat) : (nI n).toInt = (q_bz n : Int) - 2147483648 := by
  have h := q_tn n
  rw [← Int32.toInt_toBitVec, BitVec.toInt_eq_toNat_cond, h]
  unfold q_bz
  split <;> omega
theorem q_lt_iff (a b : Nat) : nI a < nI b ↔ q_bz a < q_bz b := by
  rw [Int32.lt_iff_toInt_lt, q_toInt, q_toInt]
  omega
theorem q_eq_iff (a b : Nat) : nI a = nI b ↔ q_bz a = q_bz b := by
  rw [← Int32.toInt_inj, q_toInt, q_toInt]
  omega
theorem q_bz_lt (n : Nat) : q_bz n < 4294967296 := Nat.mod_lt _ (by omega)
theorem q_ev_app (rho : Nat → Nat) : ∀ (a b : qT), q_ev rho (a ++ b) = q_ev rho a + q_ev rho b
  | [], b => by simp [q_ev]
  | x :: a, b => by
    show rho x.1 * x.2 + q_ev rho (a ++ b) = _
    rw [q_ev_app rho a b]
    simp only [q_ev]
    omega
theorem q_ev_neg (rho : Nat → Nat) : ∀ (t : qT), (q_ev rho (q_neg t) + q_ev rho t) % 4294967296 = 0
  | [] => rfl
  | x :: t => by
    have ih := q_ev_neg rho t
    show (rho x.1 * ((4294967296 - x.2 % 4294967296) % 4294967296) + q_ev rho (q_neg t) + (rho x.1 * x.2 + q_ev rho t)) % 4294967296 = 0
    have h2 : (rho x.1 * ((4294967296 - x.2 % 4294967296) % 4294967296) + rho x.1 * x.2) % 4294967296 = 0 := by
      rw [← Nat.mul_add, Nat.mul_mod]
      have : ((4294967296 - x.2 % 4294967296) % 4294967296 + x.2) % 4294967296 = 0 := by omega
      rw [this, Nat.mul_zero, Nat.zero_mod]
    generalize rho x.1 * ((4294967296 - x.2 % 4294967296) % 4294967296) = u at h2 ⊢
    generalize rho x.1 * x.2 = v at h2 ⊢
    omega
theorem q_ev_scale (rho : Nat → Nat) (k : Nat) : ∀ (t : qT), q_ev rho (q_scale k t) % 4294967296 = (q_ev rho t * k) % 4294967296
  | [] => by simp [q_scale, q_ev]
  | x :: t => by
    have ih := q_ev_scale rho k t
    show (rho x.1 * (x.2 * k % 4294967296) + q_ev rho (q_scale k t)) % 4294967296 = ((rho x.1 * x.2 + q_ev rho t) * k) % 4294967296
    rw [Nat.add_mul, Nat.add_mod, ih, Nat.mul_mod, Nat.mod_mod, ← Nat.mul_mod, ← Nat.add_mod, Nat.mul_assoc]
theorem q_i_add (rho : Nat → Nat) (x y : qI) : q_i rho x + q_i rho y = q_i rho ((x.1 + y.1) % 4294967296, x.2 ++ y.2) := by
  unfold q_i
  rw [nI_add]
  apply q_nImod
  dsimp only
  rw [q_ev_app]
  omega
theorem q_i_sub (rho : Nat → Nat) (x y : qI) : q_i rho x - q_i rho y = q_i rho ((x.1 + (4294967296 - y.1 % 4294967296)) % 4294967296, x.2 ++ q_neg y.2) := by
  have h : q_i rho x = q_i rho ((x.1 + (4294967296 - y.1 % 4294967296)) % 4294967296, x.2 ++ q_neg y.2) + q_i rho y := by
    unfold q_i
    rw [nI_add]
    apply q_nImod
    dsimp only
    rw [q_ev_app]
    have := q_ev_neg rho y.2
    omega
  rw [h, Int32.add_sub_cancel]
theorem q_i_mul1 (rho : Nat → Nat) (x y : qI) (h : y.2 = []) : q_i rho x * q_i rho y = q_i rho (x.1 * y.1 % 4294967296, q_scale y.1 x.2) := by
  unfold q_i
  rw [pk_mul, h]
  apply q_nImod
  have h2 := q_ev_scale rho y.1 x.2
  show (x.1 + q_ev rho x.2) * (y.1 + 0) % 4294967296 = (x.1 * y.1 % 4294967296 + q_ev rho (q_scale y.1 x.2)) % 4294967296
  rw [Nat.add_zero, Nat.add_mul, Nat.add_mod, ← h2, ← Nat.add_mod, Nat.add_mod (x.1 * y.1 % 4294967296), Nat.mod_mod, ← Nat.add_mod]
theorem q_i_mul2 (rho : Nat → Nat) (x y : qI) (h : x.2 = []) : q_i rho x * q_i rho y = q_i rho (x.1 * y.1 % 4294967296, q_scale x.1 y.2) := by
  rw [Int32.mul_comm, q_i_mul1 rho y x h, Nat.mul_comm]
theorem q_i_c (rho : Nat → Nat) (c : Nat) : q_i rho (c, []) = nI c := rfl
/-- what an environment says -/
def qEok (E : qEnv) (rho : Nat → Nat) : Prop := ∀ x ∈ E, x.2.1 ≤ q_bz (q_ev rho x.1) ∧ q_bz (q_ev rho x.1) ≤ x.2.2
theorem q_find_ok {E : qEnv} {rho : Nat → Nat} (hE : qEok E rho) {t : qT} {r : Nat × Nat} (h : q_find t E = some r) : r.1 ≤ q_bz (q_ev rho t) ∧ q_bz (q_ev rho t) ≤ r.2 := by
  induction E with
  | nil => cases h
  | cons x E ih =>
    have h : (match q_teq t x.1 with
      | true => some x.2
      | false => q_find t E) = some r := h
    split at h
    · next hq =>
      have e := q_teq_eq hq
      cases h
      rw [e]
      exact hE x List.mem_cons_self
    · exact ih (fun y hy => hE y (List.mem_cons_of_mem _ hy)) h
theorem q_er_sub {t : qT} {x : qT × Nat × Nat} : ∀ {E : qEnv}, x ∈ q_er t E → x ∈ E
  | [], h => h
  | y :: E, h => by
    have h : x ∈ (match q_teq t y.1 with
      | true => q_er t E
      | false => y :: q_er t E) := h
    split at h
    · exact List.mem_cons_of_mem _ (q_er_sub h)
    · rcases List.mem_cons.mp h with rfl | h
      · exact List.mem_cons_self
      · exact List.mem_cons_of_mem _ (q_er_sub h)
theorem q_base_ok {E : qEnv} {rho : Nat → Nat} (hE : qEok E rho) (t : qT) : (q_base E t).1 ≤ q_bz (q_ev rho t) ∧ q_bz (q_ev rho t) ≤ (q_base E t).2 := by
  have hb := q_bz_lt (q_ev rho t)
  unfold q_base
  split
  · next r h => exact q_find_ok hE h
  · split
    · next r h =>
      have h1 := q_find_ok hE h
      have h2 := q_ev_neg rho t
      split
      · next h3 =>
        have h4 : 1 ≤ r.1 := Nat.le_of_ble_eq_true h3
        unfold q_bz at h1 hb ⊢
        dsimp only
        omega
      · dsimp only; omega
    · dsimp only; omega
theorem q_sh_ok {r : Nat × Nat} {c n : Nat} (h : r.1 ≤ q_bz n ∧ q_bz n ≤ r.2) : (q_sh r c).1 ≤ q_bz (c + n) ∧ q_bz (c + n) ≤ (q_sh r c).2 := by
  have hb := q_bz_lt (c + n)
  unfold q_sh
  split
  · next h1 =>
    have h2 := Nat.eq_of_beq_eq_true h1
    unfold q_bz at h ⊢
    dsimp only
    omega
  · dsimp only; omega
theorem q_iv_ok {E : qEnv} {rho : Nat → Nat} (hE : qEok E rho) (x : qI) : (q_iv E x).1 ≤ q_bz (x.1 + q_ev rho x.2) ∧ q_bz (x.1 + q_ev rho x.2) ≤ (q_iv E x).2 := by
  obtain ⟨c, t⟩ := x
  cases t with
  | nil =>
    simp only [q_iv, q_ev, q_bz, Nat.add_zero]
    exact ⟨Nat.le_refl _, Nat.le_refl _⟩
  | cons y t =>
    have h := q_sh_ok (c := c) (q_base_ok hE (y :: t))
    simp only [q_iv]
    exact h
theorem q_lt_ok {p q : Nat × Nat} {a b : Nat} (ha : p.1 ≤ q_bz a ∧ q_bz a ≤ p.2) (hb : q.1 ≤ q_bz b ∧ q_bz b ≤ q.2) {r : Bool} (h : q_lt p q = some r) : r = true ↔ nI a < nI b := by
  rw [q_lt_iff]
  unfold q_lt at h
  split at h
  · next h1 =>
    cases h
    have := Nat.blt_eq.mp h1
    simp; omega
  · split at h
    · next h2 =>
      cases h
      have := Nat.le_of_ble_eq_true h2
      simp; omega
    · cases h
theorem q_eq_ok {p q : Nat × Nat} {a b : Nat} (ha : p.1 ≤ q_bz a ∧ q_bz a ≤ p.2) (hb : q.1 ≤ q_bz b ∧ q_bz b ≤ q.2) {r : Bool} (h : q_eq p q = some r) : r = true ↔ nI a = nI b := by
  rw [q_eq_iff]
  unfold q_eq at h
  split at h
  · next h1 =>
    cases h
    simp only [Bool.and_eq_true, Nat.beq_eq] at h1
    simp; omega
  · split at h
    · next h2 =>
      cases h
      simp only [Bool.or_eq_true, Nat.blt_eq] at h2
      simp; omega
    · cases h
def q_ccP (cc : Nat) (x y : Int32) : Prop := match cc with
  | 0 => x = y
  | 1 => ¬ x = y
  | 2 => x < y
  | 3 => ¬ x < y
  | 4 => y < x
  | 5 => ¬ y < x
  | _ => False
theorem q_not_ok {o : Option Bool} {P : Prop} {r : Bool} (h0 : ∀ r, o = some r → (r = true ↔ P)) (h : q_not o = some r) : r = true ↔ ¬ P := by
  match o, h, h0 with
  | some true, h, h0 => cases h; simpa using (h0 true rfl)
  | some false, h, h0 => cases h; simpa using (h0 false rfl)
theorem q_cc_ok {E : qEnv} {rho : Nat → Nat} (hE : qEok E rho) (cc : Nat) (x y : qI) {r : Bool} (h : q_cc cc (q_iv E x) (q_iv E y) = some r) : r = true ↔ q_ccP cc (q_i rho x) (q_i rho y) := by
  have hx := q_iv_ok hE x
  have hy := q_iv_ok hE y
  unfold q_cc at h
  unfold q_ccP q_i
  split at h
  · exact q_eq_ok hx hy h
  · exact q_not_ok (fun r hr => q_eq_ok hx hy hr) h
  · exact q_lt_ok hx hy h
  · exact q_not_ok (fun r hr => q_lt_ok hx hy hr) h
  · exact q_lt_ok hy hx h
  · exact q_not_ok (fun r hr => q_lt_ok hy hx hr) h
  · cases h
/-- an index in its interval -/
theorem q_ix_ok {E : qEnv} {rho : Nat → Nat} (hE : qEok E rho) (x : qI) {q : Nat × Nat} (h : q_ix E x = some q) : ∃ j : Nat, q_i rho x = nI j ∧ q.1 ≤ j ∧ j ≤ q.2 ∧ j < 2147483648 := by
  have hx := q_iv_ok hE x
  unfold q_ix at h
  split at h
  · next h1 =>
    have h := Option.some.inj h
    subst h
    have h2 := Nat.le_of_ble_eq_true h1
    have hb := q_bz_lt (x.1 + q_ev rho x.2)
    refine ⟨q_bz (x.1 + q_ev rho x.2) - 2147483648, ?_, ?_, ?_, ?_⟩
    · unfold q_i
      apply q_nImod
      unfold q_bz at hx hb ⊢
      omega
    · dsimp only; omega
    · dsimp only; omega
    · omega
  · cases h
theorem q_all_ok {α : Type} {p : α → Bool} : ∀ {n : Nat} {l : List α}, q_all p n l = true → ∀ i, i < n → ∃ x, l[i]? = some x ∧ p x = true
  | 0, _, _, i, hi => absurd hi (Nat.not_lt_zero i)
  | n + 1, [], h, _, _ => absurd (show false = true from h) (by decide)
  | n + 1, x :: l, h, i, hi => by
    have h : (p x && q_all p n l) = true := h
    simp only [Bool.and_eq_true] at h
    cases i with
    | zero => exact ⟨x, rfl, h.1⟩
    | succ i =>
      obtain ⟨y, h1, h2⟩ := q_all_ok h.2 i (by omega)
      exact ⟨y, by rw [List.getElem?_cons_succ]; exact h1, h2⟩
theorem q_rd_ok {α : Type} {eq : α → α → Bool} (heq : ∀ {x y}, eq x y = true → x = y) {xs : List α} {l u j : Nat} {v : α} (h : q_rd eq xs l u = some (some v)) (h1 : l ≤ j) (h2 : j ≤ u) : xs[j]? = some v := by
  unfold q_rd at h
  split at h
  · cases h
  · next w r hd =>
    rw [q_drop_eq] at hd
    have hw : ∀ i, xs[l + i]? = (w :: r)[i]? := fun i => by rw [← hd, List.getElem?_drop]
    split at h
    · next hb =>
      cases h
      have hlu := Nat.eq_of_beq_eq_true hb
      have : j = l := by omega
      subst this
      have := hw 0
      simpa using this
    · split at h
      · cases h
      · split at h
        · next ha =>
          cases h
          have hj := hw (j - l)
          rw [show l + (j - l) = j by omega] at hj
          rw [hj]
          rcases Nat.eq_zero_or_pos (j - l) with z | z
          · rw [z]; rfl
          · obtain ⟨x, g1, g2⟩ := q_all_ok ha (j - l - 1) (by omega)
            rw [show j - l = (j - l - 1) + 1 by omega, List.getElem?_cons_succ, g1, heq g2]
        · cases h
theorem q_pop_ok : ∀ {n : Nat} {S acc As S' : List qV}, q_pop n S acc = some (As, S') → ∃ B, As = B.reverse ++ acc ∧ S = B ++ S' ∧ B.length = n ∧ ∀ v ∈ B, q_lng v = false
  | 0, S, acc, As, S', h => by
    simp only [q_pop, Option.some.injEq, Prod.mk.injEq] at h
    obtain ⟨rfl, rfl⟩ := h
    exact ⟨[], rfl, rfl, rfl, fun _ h => by cases h⟩
  | n + 1, [], acc, As, S', h => by cases h
  | n + 1, v :: S, acc, As, S', h => by
    simp only [q_pop] at h
    split at h
    · cases h
    · next hv =>
      obtain ⟨B, h1, h2, h3, h4⟩ := q_pop_ok h
      refine ⟨v :: B, by rw [h1]; simp, by rw [h2]; rfl, by rw [List.length_cons, h3], fun w hw => ?_⟩
      rcases List.mem_cons.mp hw with rfl | hw
      · exact hv
      · exact h4 w hw
theorem q_add_eq (dc ds : Nat) (r : qRes) : q_add dc ds r = q_add1 dc ds r := by
  have h0 : ∀ r : qRes, q_add1 0 0 r = r := fun r => by
    rcases r with ⟨v, h, a, b⟩ | ⟨X, h, a, b⟩ | x <;> simp [q_add1]
  unfold q_add
  split
  · split
    · exact (h0 r).symm
    · rfl
  · rfl
