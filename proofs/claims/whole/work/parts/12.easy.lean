theorem kT_i (k : Nat) : i32 (kT k) := by unfold kT i32; split <;> (try split) <;> omega
theorem kN_i (k : Nat) : i32 (kN k) := by unfold kN i32; split <;> (try split) <;> omega
theorem hm_set : HM_set REL := by
  intro cs ms h v1 v2 v3
  obtain ⟨k, us, hk, hu, hnet, ht, hn, hm, hr⟩ := h
  have key : ∃ p q, f_X7_set (a_reg cs) v1 v2 v3 = some p ∧ f_X8_set (a_regA ms) (a_regB ms) v1 v2 v3 = some q ∧ p.1 = q.1 ∧ RG p.2 q.2.1 q.2.2 := by
    rcases reg_cases v1 with ⟨h1, h2⟩ | ⟨j, hj, h1, h2, h3, h4⟩
    · have e7 : f_X7_set (a_reg cs) v1 v2 v3 = some (-1, a_reg cs) := by unfold f_X7_set; rw [if_pos h1]
      have e8 : f_X8_set (a_regA ms) (a_regB ms) v1 v2 v3 = some (-1, a_regA ms, a_regB ms) := by unfold f_X8_set; rw [if_pos h2]
      exact ⟨_, _, e7, e8, rfl, hr⟩
    · rcases near_cases v2.toInt64 with ⟨a1, a2⟩ | ⟨a1, a2⟩
      · have e7 : f_X7_set (a_reg cs) v1 v2 v3 = some (-1, a_reg cs) := by unfold f_X7_set; rw [if_neg h1, if_pos a1]
        have e8 : f_X8_set (a_regA ms) (a_regB ms) v1 v2 v3 = some (-1, a_regA ms, a_regB ms) := by unfold f_X8_set; rw [if_neg h2, in_near, if_pos a1]
        exact ⟨_, _, e7, e8, rfl, hr⟩
      · rcases near_cases v3.toInt64 with ⟨b1, b2⟩ | ⟨b1, b2⟩
        · have e7 : f_X7_set (a_reg cs) v1 v2 v3 = some (-1, a_reg cs) := by unfold f_X7_set; rw [if_neg h1, if_neg a1, if_pos b1]
          have e8 : f_X8_set (a_regA ms) (a_regB ms) v1 v2 v3 = some (-1, a_regA ms, a_regB ms) := by unfold f_X8_set; rw [if_neg h2, in_near, if_neg a1, in_near, if_pos b1]
          exact ⟨_, _, e7, e8, rfl, hr⟩
        · have e7 : f_X7_set (a_reg cs) v1 v2 v3 = some (0, vp_updL (a_reg cs) v1.toNatClampNeg (f_X4_number v2.toInt64 v3.toInt64)) := by unfold f_X7_set; rw [if_neg h1, if_neg a1, if_neg b1, if_neg h3]
          have e8 : f_X8_set (a_regA ms) (a_regB ms) v1 v2 v3 = some (0, vp_updL (a_regA ms) v1.toNatClampNeg v2.toInt64, vp_updL (a_regB ms) v1.toNatClampNeg v3.toInt64) := by unfold f_X8_set; rw [if_neg h2, in_near, if_neg a1, in_near, if_neg b1, if_neg h3]
          refine ⟨_, _, e7, e8, rfl, ?_⟩
          rw [lo_of v2.toInt64, lo_of v3.toInt64]
          exact hr.set _ a2 b2
  obtain ⟨p, q, e1, e2, e3, e4⟩ := key
  exact ⟨p, q, e1, e2, e3, k, us, hk, hu, hnet, ht, hn, hm, e4⟩
theorem hm_size : HM_size REL := by
  intro cs ms h v1
  obtain ⟨k, us, hk, hu, hnet, ht, hn, hm, hr⟩ := id h
  rcases reg_cases v1 with ⟨h1, h2⟩ | ⟨j, hj, h1, h2, h3, h4⟩
  · have e7 : f_X7_size (a_net_t cs) (a_net_n cs) (a_reg cs) v1 = some (-1) := by unfold f_X7_size; rw [if_pos h1]
    have e8 : f_X8_size (a_mod_t ms) (a_mod_n ms) (a_regA ms) (a_regB ms) v1 = some (-1) := by unfold f_X8_size; rw [if_pos h2]
    exact ⟨_, _, e7, e8, rfl, h⟩
  · obtain ⟨a, b, ha, hb, r1, r2, r3⟩ := hr j hj
    have e7 : f_X7_size (a_net_t cs) (a_net_n cs) (a_reg cs) v1 = some (lo (sz (kT k) (kN k) a b)) := by unfold f_X7_size; rw [if_neg h1, if_neg h3, h4, r1, hnet.1, hnet.2.1, sizeOf_pk (kT_i k) (kN_i k) ha.i hb.i]
    have e8 : f_X8_size (a_mod_t ms) (a_mod_n ms) (a_regA ms) (a_regB ms) v1 = some (lo (sz (kT k) (kN k) a b)) := by unfold f_X8_size; rw [if_neg h2, if_neg h3, h4, r2, r3, ht, hn, sizeOf_m]
    exact ⟨_, _, e7, e8, rfl, h⟩
theorem hm_get : HM_get REL := by
  intro cs ms h v1 v2
  obtain ⟨k, us, hk, hu, hnet, ht, hn, hm, hr⟩ := id h
  rcases reg_cases v1 with ⟨h1, h2⟩ | ⟨j, hj, h1, h2, h3, h4⟩
  · have e7 : f_X7_get (a_reg cs) v1 v2 = some (-100000) := by unfold f_X7_get; rw [if_pos h1]
    have e8 : f_X8_get (a_regA ms) (a_regB ms) v1 v2 = some (-100000) := by unfold f_X8_get; rw [if_pos h2]
    exact ⟨_, _, e7, e8, rfl, h⟩
  · obtain ⟨a, b, ha, hb, r1, r2, r3⟩ := hr j hj
    obtain ⟨z, hz, rfl⟩ : ∃ z, i32 z ∧ v2 = io z := ⟨v2.toInt, io_rng v2, io_of v2⟩
    have c1 : io z < 0 ↔ z < 0 := io_lt (b := 0) hz (by unfold i32; omega)
    have c2 : io z ≤ (1 : Int32) ↔ z ≤ 1 := io_le (b := 1) hz (by unfold i32; omega)
    have c3 : f_X8_in (lo z) 0 1 = 0 ↔ ¬ (0 ≤ z ∧ z ≤ 1) := in_lo (l := 0) (u := 1) hz.w (by unfold i64; omega) (by unfold i64; omega)
    have c5 : io z = 0 ↔ z = 0 := io_eq (b := 0) hz (by unfold i32; omega)
    by_cases d1 : z < 0
    · have e7 : f_X7_get (a_reg cs) v1 (io z) = some (-100000) := by unfold f_X7_get; rw [if_neg h1, if_pos (c1.mpr d1)]
      have e8 : f_X8_get (a_regA ms) (a_regB ms) v1 (io z) = some (-100000) := by unfold f_X8_get; rw [if_neg h2, io_w hz, if_pos (c3.mpr (by omega))]
      exact ⟨_, _, e7, e8, rfl, h⟩
    · by_cases d2 : z ≤ 1
      · by_cases d3 : z = 0
        · have e7 : f_X7_get (a_reg cs) v1 (io z) = some (io a) := by unfold f_X7_get; rw [if_neg h1, if_neg (fun q => d1 (c1.mp q)), if_pos (c2.mpr d2), if_pos (c5.mpr d3), if_neg h3, h4, r1, first_pk b ha.i, lo_n]
          have e8 : f_X8_get (a_regA ms) (a_regB ms) v1 (io z) = some (io a) := by unfold f_X8_get; rw [if_neg h2, io_w hz, if_neg (fun q => c3.mp q (by omega)), if_pos (c5.mpr d3), if_neg h3, h4, r2, lo_n]
          exact ⟨_, _, e7, e8, rfl, h⟩
        · have e7 : f_X7_get (a_reg cs) v1 (io z) = some (io b) := by unfold f_X7_get; rw [if_neg h1, if_neg (fun q => d1 (c1.mp q)), if_pos (c2.mpr d2), if_neg (fun q => d3 (c5.mp q)), if_neg h3, h4, r1, second_pk a hb.i, lo_n]
          have e8 : f_X8_get (a_regA ms) (a_regB ms) v1 (io z) = some (io b) := by unfold f_X8_get; rw [if_neg h2, io_w hz, if_neg (fun q => c3.mp q (by omega)), if_neg (fun q => d3 (c5.mp q)), if_neg h3, h4, r3, lo_n]
          exact ⟨_, _, e7, e8, rfl, h⟩
      · have e7 : f_X7_get (a_reg cs) v1 (io z) = some (-100000) := by unfold f_X7_get; rw [if_neg h1, if_neg (fun q => d1 (c1.mp q)), if_neg (fun q => d2 (c2.mp q))]
        have e8 : f_X8_get (a_regA ms) (a_regB ms) v1 (io z) = some (-100000) := by unfold f_X8_get; rw [if_neg h2, io_w hz, if_pos (c3.mpr (by omega))]
        exact ⟨_, _, e7, e8, rfl, h⟩
