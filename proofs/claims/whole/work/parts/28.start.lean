theorem m01 : ¬ (0 : Int64) = 1 := by decide
theorem m21 : ¬ (2 : Int64) = 1 := by decide
theorem m31 : ¬ (3 : Int64) = 1 := by decide
theorem m41 : ¬ (4 : Int64) = 1 := by decide
theorem m51 : ¬ (5 : Int64) = 1 := by decide
theorem m61 : ¬ (6 : Int64) = 1 := by decide
theorem m71 : ¬ (7 : Int64) = 1 := by decide
theorem lay_0 (m : Int32) (uA uB : Nat → Int64) : ∃ m' a b, f_X8_layUnits 0 1 m uA uB = some (m', a, b) ∧ MU (unitsL 0) m' a b := by
  refine ⟨_, _, _, by
    simp only [f_X8_layUnits, f_X8_layUnits_K9_80, f_X8_layUnits_K19_73, whl_eq, f_X8_layUnits_L9, f_X8_layUnits_L19, f_X8_sizeOf, Int64.reduceLT, m01, m21, m31, m41, m51, m61, m71, Int64.reduceAdd, Int64.reduceMul, Int32.reduceAdd, Int32.reduceLT, Int32.reduceToNatClampNeg, Nat.reduceLeDiff, or_self, or_false, ↓reduceIte, Option.bind_some, Sum.elim_inl, Sum.elim_inr]
    rfl, rfl, ?_⟩
  intro i q h
  rcases i with _ | _ | _ | _ | i <;> simp [unitsL] at h <;> subst h <;> exact ⟨rfl, rfl⟩
theorem lay_1 (m : Int32) (uA uB : Nat → Int64) : ∃ m' a b, f_X8_layUnits (-1) 1 m uA uB = some (m', a, b) ∧ MU (unitsL 1) m' a b := by
  refine ⟨_, _, _, by
    simp only [f_X8_layUnits, f_X8_layUnits_K9_80, f_X8_layUnits_K19_73, whl_eq, f_X8_layUnits_L9, f_X8_layUnits_L19, f_X8_sizeOf, Int64.reduceLT, m01, m21, m31, m41, m51, m61, m71, Int64.reduceAdd, Int64.reduceMul, Int32.reduceAdd, Int32.reduceLT, Int32.reduceToNatClampNeg, Nat.reduceLeDiff, or_self, or_false, ↓reduceIte, Option.bind_some, Sum.elim_inl, Sum.elim_inr]
    rfl, rfl, ?_⟩
  intro i q h
  rcases i with _ | _ | _ | _ | _ | _ | i <;> simp [unitsL] at h <;> subst h <;> exact ⟨rfl, rfl⟩
theorem lay_2 (m : Int32) (uA uB : Nat → Int64) : ∃ m' a b, f_X8_layUnits 0 2 m uA uB = some (m', a, b) ∧ MU (unitsL 2) m' a b := by
  refine ⟨_, _, _, by
    simp only [f_X8_layUnits, f_X8_layUnits_K9_80, f_X8_layUnits_K19_73, whl_eq, f_X8_layUnits_L9, f_X8_layUnits_L19, f_X8_sizeOf, Int64.reduceLT, m01, m21, m31, m41, m51, m61, m71, Int64.reduceAdd, Int64.reduceMul, Int32.reduceAdd, Int32.reduceLT, Int32.reduceToNatClampNeg, Nat.reduceLeDiff, or_self, or_false, ↓reduceIte, Option.bind_some, Sum.elim_inl, Sum.elim_inr]
    rfl, rfl, ?_⟩
  intro i q h
  rcases i with _ | _ | i <;> simp [unitsL] at h <;> subst h <;> exact ⟨rfl, rfl⟩
theorem lay_3 (m : Int32) (uA uB : Nat → Int64) : ∃ m' a b, f_X8_layUnits 1 2 m uA uB = some (m', a, b) ∧ MU (unitsL 3) m' a b := by
  refine ⟨_, _, _, by
    simp only [f_X8_layUnits, f_X8_layUnits_K9_80, f_X8_layUnits_K19_73, whl_eq, f_X8_layUnits_L9, f_X8_layUnits_L19, f_X8_sizeOf, Int64.reduceLT, m01, m21, m31, m41, m51, m61, m71, Int64.reduceAdd, Int64.reduceMul, Int32.reduceAdd, Int32.reduceLT, Int32.reduceToNatClampNeg, Nat.reduceLeDiff, or_self, or_false, ↓reduceIte, Option.bind_some, Sum.elim_inl, Sum.elim_inr]
    rfl, rfl, ?_⟩
  intro i q h
  rcases i with _ | _ | i <;> simp [unitsL] at h <;> subst h <;> exact ⟨rfl, rfl⟩
theorem lay_4 (m : Int32) (uA uB : Nat → Int64) : ∃ m' a b, f_X8_layUnits 1 3 m uA uB = some (m', a, b) ∧ MU (unitsL 4) m' a b := by
  refine ⟨_, _, _, by
    simp only [f_X8_layUnits, f_X8_layUnits_K9_80, f_X8_layUnits_K19_73, whl_eq, f_X8_layUnits_L9, f_X8_layUnits_L19, f_X8_sizeOf, Int64.reduceLT, m01, m21, m31, m41, m51, m61, m71, Int64.reduceAdd, Int64.reduceMul, Int32.reduceAdd, Int32.reduceLT, Int32.reduceToNatClampNeg, Nat.reduceLeDiff, or_self, or_false, ↓reduceIte, Option.bind_some, Sum.elim_inl, Sum.elim_inr]
    rfl, rfl, ?_⟩
  intro i q h
  rcases i with _ | _ | i <;> simp [unitsL] at h <;> subst h <;> exact ⟨rfl, rfl⟩
theorem bec {k : Nat} (hk : k < 5) (x1 x2 x3 : Int32) (x4 : Int64) : f_X4_become x1 x2 x3 x4 (io (k : Int)) = some (io (kT k), io (kN k), io (kU k), pk (kSa k) (kSb k)) := by
  have : k = 0 ∨ k = 1 ∨ k = 2 ∨ k = 3 ∨ k = 4 := by omega
  rcases this with rfl | rfl | rfl | rfl | rfl <;> rfl
theorem kind8 {k : Nat} (hk : k < 5) (t n : Int64) (m : Int32) (rA rB uA uB : Nat → Int64) : ∃ m' rA' rB' uA' uB', f_X8_kind t n m rA rB uA uB (io (k : Int)) = some (m', lo (kT k), lo (kN k), m', rA', rB', uA', uB') ∧ MU (unitsL k) m' uA' uB' ∧ ∀ j : Nat, j < 8 → rA' j = 0 ∧ rB' j = 0 := by
  obtain ⟨z, hz, hz2⟩ := zero8 rA rB
  have : k = 0 ∨ k = 1 ∨ k = 2 ∨ k = 3 ∨ k = 4 := by omega
  rcases this with rfl | rfl | rfl | rfl | rfl
  · obtain ⟨m', a, b, e, hm⟩ := lay_0 m uA uB
    refine ⟨m', z.1, z.2, a, b, ?_, hm, hz2⟩
    unfold f_X8_kind
    rw [if_neg (by decide), if_neg (by decide), if_pos (by decide), if_neg (by decide), e]
    simp only [Option.bind_some]
    rw [hz]
    rfl
  · obtain ⟨m', a, b, e, hm⟩ := lay_1 m uA uB
    refine ⟨m', z.1, z.2, a, b, ?_, hm, hz2⟩
    unfold f_X8_kind
    rw [if_neg (by decide), if_pos (by decide), if_neg (by decide), e]
    simp only [Option.bind_some]
    rw [hz]
    rfl
  · obtain ⟨m', a, b, e, hm⟩ := lay_2 m uA uB
    refine ⟨m', z.1, z.2, a, b, ?_, hm, hz2⟩
    unfold f_X8_kind
    rw [if_neg (by decide), if_neg (by decide), if_pos (by decide), if_pos (by decide), if_neg (by decide), e]
    simp only [Option.bind_some]
    rw [hz]
    rfl
  · obtain ⟨m', a, b, e, hm⟩ := lay_3 m uA uB
    refine ⟨m', z.1, z.2, a, b, ?_, hm, hz2⟩
    unfold f_X8_kind
    rw [if_neg (by decide), if_neg (by decide), if_neg (by decide), if_pos (by decide), if_neg (by decide), e]
    simp only [Option.bind_some]
    rw [hz]
    rfl
  · obtain ⟨m', a, b, e, hm⟩ := lay_4 m uA uB
    refine ⟨m', z.1, z.2, a, b, ?_, hm, hz2⟩
    unfold f_X8_kind
    rw [if_neg (by decide), if_neg (by decide), if_neg (by decide), if_pos (by decide), if_pos (by decide), e]
    simp only [Option.bind_some]
    rw [hz]
    rfl
theorem RG_0 {r rA rB : Nat → Int64} (h1 : ∀ j : Nat, j < 8 → r j = 0) (h2 : ∀ j : Nat, j < 8 → rA j = 0 ∧ rB j = 0) : RG r rA rB := by
  intro j hj
  have z : rng 0 := by unfold rng; omega
  exact ⟨0, 0, z, z, (h1 j hj).trans pk_0, (h2 j hj).1, (h2 j hj).2⟩
theorem hm_kind : HM_kind REL := by
  intro cs ms h v1
  obtain ⟨k, us, hk, hu, hnet, ht, hn, hm, hr⟩ := id h
  by_cases a1 : v1 < 0
  · have z8 : f_X8_in v1.toInt64 0 4 = 0 := (in_i (l := 0) (u := 4) (by unfold i32; omega) (by unfold i32; omega) v1).mpr (Or.inl a1)
    exact ⟨(-1, a_net_t cs, a_net_n cs, a_net_units cs, a_net_spin cs, a_reg cs), (-1, a_mod_t ms, a_mod_n ms, a_mod_unitMany ms, a_regA ms, a_regB ms, a_unitA ms, a_unitB ms), by simp only [f_X7_kind, a1, ↓reduceIte], by simp only [f_X8_kind, z8, ↓reduceIte], rfl, k, us, hk, hu, hnet, ht, hn, hm, hr⟩
  obtain ⟨z, hz, rfl⟩ : ∃ z, i32 z ∧ v1 = io z := ⟨v1.toInt, io_rng v1, io_of v1⟩
  have c1 : io z < 0 ↔ z < 0 := io_lt (b := 0) hz (by unfold i32; omega)
  have c2 : io z < (5 : Int32) ↔ z < 5 := io_lt (b := 5) hz (by unfold i32; omega)
  have c3 : f_X8_in (io z).toInt64 0 4 = 0 ↔ io z < 0 ∨ (4 : Int32) < io z := in_i (l := 0) (u := 4) (by unfold i32; omega) (by unfold i32; omega) _
  have c4 : (4 : Int32) < io z ↔ 4 < z := io_lt (a := 4) (by unfold i32; omega) hz
  by_cases a2 : z < 5
  · have a0 : 0 ≤ z := by rw [c1] at a1; omega
    have ez : z = ((z.toNat : Nat) : Int) := by omega
    have hj : z.toNat < 5 := by omega
    generalize z.toNat = j at *
    obtain ⟨m', rA', rB', uA', uB', e8, hm', hr8⟩ := kind8 hj (a_mod_t ms) (a_mod_n ms) (a_mod_unitMany ms) (a_regA ms) (a_regB ms) (a_unitA ms) (a_unitB ms)
    obtain ⟨r', f7, hr7⟩ := fill7 (a_reg cs)
    have e7 := bec hj (a_net_t cs) (a_net_n cs) (a_net_units cs) (a_net_spin cs)
    rw [← ez] at e7 e8
    have hU : m' = io (kU j) := by
      rw [hm'.1, UN_len hj (Or.inl rfl), kUn_k]
    refine ⟨(io (kU j), io (kT j), io (kN j), io (kU j), pk (kSa j) (kSb j), r'), _, ?_, e8, hU.symm, j, unitsL j, hj, Or.inl rfl, ⟨rfl, rfl, rfl, rfl⟩, rfl, rfl, hm', RG_0 hr7 hr8⟩
    unfold f_X7_kind
    rw [if_neg a1, if_pos (c2.mpr a2), e7]
    simp only [Option.bind_some]
    rw [f7]
    rfl
  · have z8 : f_X8_in (io z).toInt64 0 4 = 0 := c3.mpr (Or.inr (c4.mpr (by omega)))
    have a2' := fun e => a2 (c2.mp e)
    refine ⟨(-1, a_net_t cs, a_net_n cs, a_net_units cs, a_net_spin cs, a_reg cs), (-1, a_mod_t ms, a_mod_n ms, a_mod_unitMany ms, a_regA ms, a_regB ms, a_unitA ms, a_unitB ms), ?_, by simp only [f_X8_kind, z8, ↓reduceIte], rfl, k, us, hk, hu, hnet, ht, hn, hm, hr⟩
    unfold f_X7_kind
    rw [if_neg a1, if_neg a2']
theorem rel_start : HM_start REL := by
  refine ⟨_, bec (k := 0) (by omega) 0 0 0 0, 0, [(1, 0), (-1, 0), (0, 1), (0, -1)], by omega, Or.inr ⟨rfl, rfl⟩, ⟨rfl, rfl, rfl, rfl⟩, rfl, rfl, ⟨rfl, ?_⟩, RG_0 (fun _ _ => rfl) (fun _ _ => ⟨rfl, rfl⟩)⟩
  intro i q h
  rcases i with _ | _ | _ | _ | i <;> simp at h <;> subst h <;> exact ⟨rfl, rfl⟩
