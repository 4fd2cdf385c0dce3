/-! parts, part -/
theorem SB_reg {k : Nat} (hk : k < 5) {a b : Int} (ha : rng a) (hb : rng b) : SB (kT k) (kN k) (a, b) := sz_rng (TN_k hk) ha hb
theorem zs_pos {k : Nat} (hk : k < 5) {a b : Int} (h0 : ¬ (a = 0 ∧ b = 0)) : 1 ≤ zs (kT k) (kN k) (a, b) := by
  have nn := zs_nn (TN_k hk) (a, b)
  rcases Int.lt_or_le 0 (zs (kT k) (kN k) (a, b)) with q | q
  · omega
  · have := zs_0 (TN_k hk) (x := (a, b)) (by omega)
    rw [Prod.mk.injEq] at this
    exact absurd this h0
theorem hm_parts : HM_parts REL := by
  intro cs ms hrel v1
  obtain ⟨k, us, hk, hu, hnet, ht, hn, hm, hr⟩ := id hrel
  have h := TN_k hk
  have key : ∃ p q, f_X7_parts (io (kT k)) (io (kN k)) (io (kU k)) (pk (kSa k) (kSb k)) (a_reg cs) (a_fac_count cs) (a_fac_left cs) (a_pri cs) v1 = some p ∧ f_X8_parts (lo (kT k)) (lo (kN k)) (a_mod_a ms) (a_mod_b ms) (a_mod_unitMany ms) (a_mod_quotA ms) (a_mod_quotB ms) (a_mod_unitUsed ms) (a_mod_partMany ms) (a_mod_leftA ms) (a_mod_leftB ms) (a_regA ms) (a_regB ms) (a_unitA ms) (a_unitB ms) (a_partA ms) (a_partB ms) v1 = some q ∧ p.1 = q.1 := by
    rcases reg2 hr v1 with ⟨g1, g2⟩ | ⟨a, b, ha, hb, s1, s2, s3, s4, s5, s6⟩
    · exact ⟨(-1, _, _, _), (-1, _, _, _, _, _, _, _, _, _, _), by
        simp only [f_X7_parts, g1, ↓reduceIte]
        try rfl, by
        simp only [f_X8_parts, g2, ↓reduceIte]
        try rfl, rfl⟩
    have nz := pk_z ha.i hb.i
    rcases nought8 s3 ha.y hb.y s5 s6 with ⟨zz, n8⟩ | ⟨zz, n8⟩
    · have n7 := nz.mpr zz
      exact ⟨(-2, _, _, _), (-2, _, _, _, _, _, _, _, _, _, _), by
        simp only [f_X7_parts, s1, s3, s4, n7, ↓reduceIte]
        try rfl, by
        simp only [f_X8_parts, s2, n8, Option.bind_some, n10, ↓reduceIte]
        try rfl, rfl⟩
    · have n7 : ¬ pk a b = 0 := fun e => zz (nz.mp e)
      obtain ⟨S, pri', y1, y2, y3, y4, o3, pA', pB', -, -, F7, -, F8, -⟩ := fac_both hk hu hm (SB_reg hk ha hb) (zs_pos hk zz) (a_fac_count cs) (a_fac_left cs) (a_pri cs) (a_mod_a ms) (a_mod_b ms) (a_mod_quotA ms) (a_mod_quotB ms) (a_mod_unitUsed ms) (a_mod_partMany ms) (a_mod_leftA ms) (a_mod_leftB ms) (a_partA ms) (a_partB ms)
      dsimp only at F7 F8
      exact ⟨(io (S.2.1 : Int), _, _, _), (io (S.2.1 : Int), _, _, _, _, _, _, _, _, _, _), by
        simp only [f_X7_parts, s1, s3, s4, n7, F7, Option.bind_some, ↓reduceIte]
        try rfl, by
        simp only [f_X8_parts, s2, n8, s3, s5, s6, F8, Option.bind_some, ↓reduceIte]
        try rfl, rfl⟩
  obtain ⟨p, q, e1, e2, e3⟩ := key
  refine ⟨p, q, ?_, ?_, e3, k, us, hk, hu, hnet, ht, hn, hm, hr⟩
  · rw [hnet.1, hnet.2.1, hnet.2.2.1, hnet.2.2.2]; exact e1
  · rw [ht, hn]; exact e2
theorem hm_part : HM_part REL := by
  intro cs ms hrel v1 v2 v3
  obtain ⟨k, us, hk, hu, hnet, ht, hn, hm, hr⟩ := id hrel
  have h := TN_k hk
  have key : ∃ p q, f_X7_part (io (kT k)) (io (kN k)) (io (kU k)) (pk (kSa k) (kSb k)) (a_reg cs) (a_fac_count cs) (a_fac_left cs) (a_pri cs) v1 v2 v3 = some p ∧ f_X8_part (lo (kT k)) (lo (kN k)) (a_mod_a ms) (a_mod_b ms) (a_mod_unitMany ms) (a_mod_quotA ms) (a_mod_quotB ms) (a_mod_unitUsed ms) (a_mod_partMany ms) (a_mod_leftA ms) (a_mod_leftB ms) (a_regA ms) (a_regB ms) (a_unitA ms) (a_unitB ms) (a_partA ms) (a_partB ms) v1 v2 v3 = some q ∧ p.1 = q.1 ∧ RG p.2.1 q.2.2.2.2.2.2.2.2.2.1 q.2.2.2.2.2.2.2.2.2.2.1 := by
    rcases reg2 hr v1 with ⟨g1, g2⟩ | ⟨a1, b1, -, -, p1, p2, p3, -⟩
    · exact ⟨(-1, a_reg cs, _, _, _), (-1, _, _, _, _, _, _, _, _, a_regA ms, a_regB ms, _, _), by
        simp only [f_X7_part, g1, ↓reduceIte]
        try rfl, by
        simp only [f_X8_part, g2, ↓reduceIte]
        try rfl, rfl, hr⟩
    rcases reg2 hr v2 with ⟨g1, g2⟩ | ⟨a, b, ha, hb, s1, s2, s3, s4, s5, s6⟩
    · exact ⟨(-1, a_reg cs, _, _, _), (-1, _, _, _, _, _, _, _, _, a_regA ms, a_regB ms, _, _), by
        simp only [f_X7_part, p1, g1, ↓reduceIte]
        try rfl, by
        simp only [f_X8_part, p2, g2, ↓reduceIte]
        try rfl, rfl, hr⟩
    by_cases i0 : 0 ≤ v3
    rotate_left
    · exact ⟨(-1, a_reg cs, _, _, _), (-1, _, _, _, _, _, _, _, _, a_regA ms, a_regB ms, _, _), by
        simp only [f_X7_part, p1, s1, i0, ↓reduceIte]
        try rfl, by
        simp only [f_X8_part, p2, s2, i0, ↓reduceIte]
        try rfl, rfl, hr⟩
    have nz := pk_z ha.i hb.i
    rcases nought8 s3 ha.y hb.y s5 s6 with ⟨zz, n8⟩ | ⟨zz, n8⟩
    · have n7 := nz.mpr zz
      exact ⟨(-2, a_reg cs, _, _, _), (-2, _, _, _, _, _, _, _, _, a_regA ms, a_regB ms, _, _), by
        simp only [f_X7_part, p1, s1, i0, s3, s4, n7, ↓reduceIte]
        try rfl, by
        simp only [f_X8_part, p2, s2, i0, n8, Option.bind_some, n10, ↓reduceIte]
        try rfl, rfl, hr⟩
    have n7 : ¬ pk a b = 0 := fun e => zz (nz.mp e)
    obtain ⟨S, pri', y1, y2, y3, y4, o3, pA', pB', G, zl, F7, cp, F8, mp⟩ := fac_both hk hu hm (SB_reg hk ha hb) (zs_pos hk zz) (a_fac_count cs) (a_fac_left cs) (a_pri cs) (a_mod_a ms) (a_mod_b ms) (a_mod_quotA ms) (a_mod_quotB ms) (a_mod_unitUsed ms) (a_mod_partMany ms) (a_mod_leftA ms) (a_mod_leftB ms) (a_partA ms) (a_partB ms)
    dsimp only at F7 F8
    obtain ⟨m31, sbl, sbs⟩ := GD2_b G
    obtain ⟨z, hz, rfl⟩ : ∃ z, i32 z ∧ v3 = io z := ⟨v3.toInt, io_rng v3, io_of v3⟩
    have z0 : 0 ≤ z := (io_le (a := 0) (by unfold i32; omega) hz).mp i0
    have cl : io z ≤ io (S.2.1 : Int) ↔ z ≤ (S.2.1 : Int) := io_le hz (by unfold i32; omega)
    have ce : io z = io (S.2.1 : Int) ↔ z = (S.2.1 : Int) := io_eq hz (by unfold i32; omega)
    by_cases g1 : z ≤ (S.2.1 : Int)
    rotate_left
    · have g2 : ¬ io z ≤ io (S.2.1 : Int) := fun q => g1 (cl.mp q)
      exact ⟨(-4, a_reg cs, _, _, _), (-4, _, _, _, _, _, _, _, _, a_regA ms, a_regB ms, _, _), by
        simp only [f_X7_part, p1, s1, i0, s3, s4, n7, F7, g2, Option.bind_some, ↓reduceIte]
        try rfl, by
        simp only [f_X8_part, p2, s2, i0, n8, s3, s5, s6, F8, g2, Option.bind_some, ↓reduceIte]
        try rfl, rfl, hr⟩
    have g2 := cl.mpr g1
    by_cases g3 : z = (S.2.1 : Int)
    · have g4 := ce.mpr g3
      obtain ⟨l1, l2⟩ := yb_zs h sbl
      obtain ⟨w, r', gA', gB', P7, P8, hr'⟩ := put_both p1 p3 hr l1.i l2.i
      rw [g4] at i0
      rw [g4]
      exact ⟨(w, r', _, _, _), (w, _, _, _, _, _, _, _, _, gA', gB', _, _), by
        simp only [f_X7_part, p1, s1, i0, s3, s4, n7, F7, P7, Int32.le_refl, Option.bind_some, ↓reduceIte]
        try rfl, by
        simp only [f_X8_part, p2, s2, i0, n8, s3, s5, s6, F8, P8, f_X8_put_mod_a, f_X8_put_mod_b, Int32.le_refl, Option.bind_some, ↓reduceIte]
        try rfl, rfl, hr'⟩
    · have g4 : ¬ io z = io (S.2.1 : Int) := fun q => g3 (ce.mp q)
      obtain ⟨j, rfl⟩ : ∃ j : Nat, z = (j : Int) := ⟨z.toNat, by omega⟩
      have hj : j < S.2.1 := by omega
      have q1 := cp j hj
      obtain ⟨q2, q3⟩ := mp j hj
      obtain ⟨d1, d2⟩ := nat40 (i := j) (by omega)
      have d3 := d1
      rw [d2] at d3
      obtain ⟨l1, l2⟩ := yb_zs h (SO_mem (t := kT k) (n := kN k) (P := SB (kT k) (kN k)) S.2.1 sbs j hj)
      obtain ⟨w, r', gA', gB', P7, P8, hr'⟩ := put_both p1 p3 hr l1.i l2.i
      have a0 : ¬ io (j : Int) < 0 := fun q => d1 (Or.inl q)
      have a1 : ¬ io (S.2.1 : Int) ≤ io (j : Int) := fun q => by
        have := (io_le (by unfold i32; omega) (by unfold i32; omega)).mp q
        omega
      have a2 : ¬ (40 : Int32) ≤ io (j : Int) := fun q => by
        have := (io_le (a := 40) (by unfold i32; omega) (by unfold i32; omega)).mp q
        omega
      have at7 : f_X0_at (io (S.2.1 : Int)) pri' (io (j : Int)) = some (pk (SO (kT k) (kN k) S.2.2 S.2.1 j).1 (SO (kT k) (kN k) S.2.2 S.2.1 j).2) := by
        unfold f_X0_at
        rw [if_neg a0, if_neg a1, if_neg a2, if_neg d1, d2, q1]
      exact ⟨(w, r', _, _, _), (w, _, _, _, _, _, _, _, _, gA', gB', _, _), by
        simp only [f_X7_part, p1, s1, i0, s3, s4, n7, F7, g2, g4, at7, P7, Option.bind_some, ↓reduceIte]
        try rfl, by
        simp only [f_X8_part, p2, s2, i0, n8, s3, s5, s6, F8, g2, g4, d3, d2, q2, q3, P8, f_X8_put_mod_a, f_X8_put_mod_b, Option.bind_some, ↓reduceIte]
        try rfl, rfl, hr'⟩
  obtain ⟨p, q, e1, e2, e3, e4⟩ := key
  refine ⟨p, q, ?_, ?_, e3, k, us, hk, hu, hnet, ht, hn, hm, e4⟩
  · rw [hnet.1, hnet.2.1, hnet.2.2.1, hnet.2.2.2]; exact e1
  · rw [ht, hn]; exact e2
