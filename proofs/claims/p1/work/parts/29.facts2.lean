theorem q_mok_at {k : Nat} (hk : k < 160) : ∃ a n, a ≤ k ∧ k < a + n ∧ q_moks a n = true := by
  rcases Nat.lt_or_ge k 4 with h | h
  · exact ⟨0, 4, by omega, by omega, q_mk0⟩
  rcases Nat.lt_or_ge k 8 with h | h
  · exact ⟨4, 4, by omega, by omega, q_mk4⟩
  rcases Nat.lt_or_ge k 12 with h | h
  · exact ⟨8, 4, by omega, by omega, q_mk8⟩
  rcases Nat.lt_or_ge k 16 with h | h
  · exact ⟨12, 4, by omega, by omega, q_mk12⟩
  rcases Nat.lt_or_ge k 20 with h | h
  · exact ⟨16, 4, by omega, by omega, q_mk16⟩
  rcases Nat.lt_or_ge k 24 with h | h
  · exact ⟨20, 4, by omega, by omega, q_mk20⟩
  rcases Nat.lt_or_ge k 28 with h | h
  · exact ⟨24, 4, by omega, by omega, q_mk24⟩
  rcases Nat.lt_or_ge k 32 with h | h
  · exact ⟨28, 4, by omega, by omega, q_mk28⟩
  rcases Nat.lt_or_ge k 36 with h | h
  · exact ⟨32, 4, by omega, by omega, q_mk32⟩
  rcases Nat.lt_or_ge k 40 with h | h
  · exact ⟨36, 4, by omega, by omega, q_mk36⟩
  rcases Nat.lt_or_ge k 44 with h | h
  · exact ⟨40, 4, by omega, by omega, q_mk40⟩
  rcases Nat.lt_or_ge k 48 with h | h
  · exact ⟨44, 4, by omega, by omega, q_mk44⟩
  rcases Nat.lt_or_ge k 52 with h | h
  · exact ⟨48, 4, by omega, by omega, q_mk48⟩
  rcases Nat.lt_or_ge k 56 with h | h
  · exact ⟨52, 4, by omega, by omega, q_mk52⟩
  rcases Nat.lt_or_ge k 60 with h | h
  · exact ⟨56, 4, by omega, by omega, q_mk56⟩
  rcases Nat.lt_or_ge k 64 with h | h
  · exact ⟨60, 4, by omega, by omega, q_mk60⟩
  rcases Nat.lt_or_ge k 68 with h | h
  · exact ⟨64, 4, by omega, by omega, q_mk64⟩
  rcases Nat.lt_or_ge k 72 with h | h
  · exact ⟨68, 4, by omega, by omega, q_mk68⟩
  rcases Nat.lt_or_ge k 76 with h | h
  · exact ⟨72, 4, by omega, by omega, q_mk72⟩
  rcases Nat.lt_or_ge k 80 with h | h
  · exact ⟨76, 4, by omega, by omega, q_mk76⟩
  rcases Nat.lt_or_ge k 84 with h | h
  · exact ⟨80, 4, by omega, by omega, q_mk80⟩
  rcases Nat.lt_or_ge k 88 with h | h
  · exact ⟨84, 4, by omega, by omega, q_mk84⟩
  rcases Nat.lt_or_ge k 92 with h | h
  · exact ⟨88, 4, by omega, by omega, q_mk88⟩
  rcases Nat.lt_or_ge k 96 with h | h
  · exact ⟨92, 4, by omega, by omega, q_mk92⟩
  rcases Nat.lt_or_ge k 100 with h | h
  · exact ⟨96, 4, by omega, by omega, q_mk96⟩
  rcases Nat.lt_or_ge k 104 with h | h
  · exact ⟨100, 4, by omega, by omega, q_mk100⟩
  rcases Nat.lt_or_ge k 108 with h | h
  · exact ⟨104, 4, by omega, by omega, q_mk104⟩
  rcases Nat.lt_or_ge k 112 with h | h
  · exact ⟨108, 4, by omega, by omega, q_mk108⟩
  rcases Nat.lt_or_ge k 116 with h | h
  · exact ⟨112, 4, by omega, by omega, q_mk112⟩
  rcases Nat.lt_or_ge k 120 with h | h
  · exact ⟨116, 4, by omega, by omega, q_mk116⟩
  rcases Nat.lt_or_ge k 124 with h | h
  · exact ⟨120, 4, by omega, by omega, q_mk120⟩
  rcases Nat.lt_or_ge k 128 with h | h
  · exact ⟨124, 4, by omega, by omega, q_mk124⟩
  rcases Nat.lt_or_ge k 132 with h | h
  · exact ⟨128, 4, by omega, by omega, q_mk128⟩
  rcases Nat.lt_or_ge k 136 with h | h
  · exact ⟨132, 4, by omega, by omega, q_mk132⟩
  rcases Nat.lt_or_ge k 140 with h | h
  · exact ⟨136, 4, by omega, by omega, q_mk136⟩
  rcases Nat.lt_or_ge k 144 with h | h
  · exact ⟨140, 4, by omega, by omega, q_mk140⟩
  rcases Nat.lt_or_ge k 148 with h | h
  · exact ⟨144, 4, by omega, by omega, q_mk144⟩
  rcases Nat.lt_or_ge k 152 with h | h
  · exact ⟨148, 4, by omega, by omega, q_mk148⟩
  rcases Nat.lt_or_ge k 156 with h | h
  · exact ⟨152, 4, by omega, by omega, q_mk152⟩
  rcases Nat.lt_or_ge k 160 with h | h
  · exact ⟨156, 4, by omega, by omega, q_mk156⟩
  omega
theorem q_facts : qFacts q_prog q_info q_sw := by
  intro k M i hM hi
  have hk : k < 160 := (List.getElem?_eq_some_iff.mp hM).1
  obtain ⟨a, n, h1, h2, h3⟩ := q_mok_at hk
  have h4 := List.all_eq_true.mp h3 (k - a) (List.mem_range.mpr (by omega))
  rw [show a + (k - a) = k by omega] at h4
  simp only [q_nth_eq, hM, hi] at h4
  split at h4
  · next js _ =>
    simp only [q_mok, Bool.and_eq_true, decide_eq_true_eq] at h4
    obtain ⟨g1, g2, g3, g4, g5, g6, g7, g8⟩ := h4
    refine ⟨⟨(q_w_in g1).1, Nat.le_of_ble_eq_true g2, g3, g4⟩, g5, ⟨js, g6⟩, g7, ?_⟩
    split at g8
    · next r K hr => exact ⟨r, K, hr, Nat.eq_of_beq_eq_true g8⟩
    · cases g8
  · cases h4
theorem q_lawok : q_roks q_prog q_info q_sw R_law "" code 7 ret q_law q_law = true := q_roks_cut 60 q_K0 q_lk0 (q_roks_cut 60 q_K1 q_lk1 (q_roks_cut 60 q_K2 q_lk2 (q_roks_cut 60 q_K3 q_lk3 (q_roks_cut 60 q_K4 q_lk4 (q_roks_cut 60 q_K5 q_lk5 (q_roks_cut 60 q_K6 q_lk6 (q_roks_cut 60 q_K7 q_lk7 (q_roks_cut 60 q_K8 q_lk8 (q_roks_cut 60 q_K9 q_lk9 (q_roks_cut 60 q_K10 q_lk10 (q_roks_cut 60 q_K11 q_lk11 (q_roks_cut 60 q_K12 q_lk12 (q_roks_cut 60 q_K13 q_lk13 (q_roks_cut 60 q_K14 q_lk14 (q_roks_cut 60 q_K15 q_lk15 (q_roks_cut 60 q_K16 q_lk16 (q_roks_cut 60 q_K17 q_lk17 (q_roks_cut 60 q_K18 q_lk18 (q_roks_cut 60 q_K19 q_lk19 (q_roks_cut 60 q_K20 q_lk20 (q_roks_cut 60 q_K21 q_lk21 (q_roks_cut 60 q_K22 q_lk22 (q_roks_cut 60 q_K23 q_lk23 q_lk24)))))))))))))))))))))))
