theorem lis_of {k : Nat} {x : G2} {S : ST} (G : GD2 k x S) (z1 : zs (kT k) (kN k) S.1 = 1) (hM : zs (kT k) (kN k) x ≤ 100000) : lis (kT k) (kN k) (SO (kT k) (kN k) S.2.2 S.2.1) S.2.1 ∧ zs (kT k) (kN k) (PROD (kT k) (kN k) (SO (kT k) (kN k) S.2.2 S.2.1) S.2.1) = zs (kT k) (kN k) x := by
  obtain ⟨b1, b2, b3⟩ := GD2_b G
  have e : zs (kT k) (kN k) (PROD (kT k) (kN k) (SO (kT k) (kN k) S.2.2 S.2.1) S.2.1) = zs (kT k) (kN k) x := by
    rw [PROD_SO]
    have := zs_mu (kT k) (kN k) S.1 (PROD (kT k) (kN k) S.2.2 S.2.1)
    rw [← G.2.2.2, z1, Int.one_mul] at this
    exact this.symm
  exact ⟨⟨b1, SO_mem (P := fun z => SB (kT k) (kN k) z ∧ 2 ≤ zs (kT k) (kN k) z) S.2.1 (fun j hj => ⟨b3 j hj, (G.2.2.1 j hj).1.1⟩), by rw [e]; exact hM⟩, e⟩
theorem hm_single : HM_single REL := by
  intro cs ms hrel v1
  obtain ⟨k, us, hk, hu, hnet, ht, hn, hm, hr⟩ := id hrel
  have h := TN_k hk
  have key : ∃ p q, f_X7_single (io (kT k)) (io (kN k)) (io (kU k)) (pk (kSa k) (kSb k)) (a_reg cs) (a_fac_count cs) (a_fac_left cs) (a_pri cs) v1 = some p ∧ f_X8_single (lo (kT k)) (lo (kN k)) (a_mod_a ms) (a_mod_b ms) (a_mod_unitMany ms) (a_mod_quotA ms) (a_mod_quotB ms) (a_mod_unitUsed ms) (a_mod_partMany ms) (a_mod_leftA ms) (a_mod_leftB ms) (a_regA ms) (a_regB ms) (a_unitA ms) (a_unitB ms) (a_partA ms) (a_partB ms) v1 = some q ∧ p.1 = q.1 := by
    rcases reg2 hr v1 with ⟨g1, g2⟩ | ⟨a, b, ha, hb, s1, s2, s3, s4, s5, s6⟩
    · exact ⟨(-1, _, _, _), (-1, _, _, _, _, _, _, _, _, _, _), by
        simp only [f_X7_single, g1, ↓reduceIte]
        try rfl, by
        simp only [f_X8_single, g2, ↓reduceIte]
        try rfl, rfl⟩
    rcases size_both hk ha hb s3 s5 s6 (m := 100000) (by unfold i32; omega) with ⟨-, g7, g8⟩ | ⟨hsz, g7, z, hz, g8⟩
    · have g7' : f_X7_isOfSize (io (kT k)) (io (kN k)) (pk a b) (100000 : Int32) = 0 := g7
      have g8' : f_X8_isModulus (lo (kT k)) (lo (kN k)) (a_regA ms) (a_regB ms) v1 100000 = some 0 := g8
      exact ⟨(-2, _, _, _), (-2, _, _, _, _, _, _, _, _, _, _), by
        simp only [f_X7_single, s1, s3, s4, g7', ↓reduceIte]
        try rfl, by
        simp only [f_X8_single, s2, g8', Option.bind_some, ↓reduceIte]
        try rfl, rfl⟩
    have g7' : ¬ f_X7_isOfSize (io (kT k)) (io (kN k)) (pk a b) (100000 : Int32) = 0 := g7
    have g8' : f_X8_isModulus (lo (kT k)) (lo (kN k)) (a_regA ms) (a_regB ms) v1 100000 = some z := g8
    have hzs : 2 ≤ zs (kT k) (kN k) (a, b) ∧ zs (kT k) (kN k) (a, b) ≤ 100000 := hsz
    obtain ⟨S, pri', y1, y2, y3, y4, o3, pA', pB', G, zl, F7, cp, F8, mp⟩ := fac_both hk hu hm (SB_reg hk ha hb) (show 1 ≤ zs (kT k) (kN k) (a, b) by omega) (a_fac_count cs) (a_fac_left cs) (a_pri cs) (a_mod_a ms) (a_mod_b ms) (a_mod_quotA ms) (a_mod_quotB ms) (a_mod_unitUsed ms) (a_mod_partMany ms) (a_mod_leftA ms) (a_mod_leftB ms) (a_partA ms) (a_partB ms)
    obtain ⟨L, eL⟩ := lis_of G zl hzs.2
    have S7 := single7 h L cp
    have S8 := single8 h L mp
    rw [eL] at S8
    have eS : f_X8_sizeOf (lo (kT k)) (lo (kN k)) (lo a) (lo b) = lo (zs (kT k) (kN k) (a, b)) := sizeOf_m _ _ _ _
    dsimp only at F7 F8
    exact ⟨(io (phn (kT k) (kN k) (SO (kT k) (kN k) S.2.2 S.2.1) S.2.1), _, _, _), ((lo (phn (kT k) (kN k) (SO (kT k) (kN k) S.2.2 S.2.1) S.2.1)).toInt32, _, _, _, _, _, _, _, _, _, _), by
      simp only [f_X7_single, s1, s3, s4, g7', F7, S7, Option.bind_some, ↓reduceIte]
      try rfl, by
      simp only [f_X8_single, s2, g8', hz, s3, s5, s6, F8, eS, S8, f_X8_single_K59_165, Option.bind_some, ↓reduceIte]
      try rfl, (lo_n _).symm⟩
  obtain ⟨p, q, e1, e2, e3⟩ := key
  refine ⟨p, q, ?_, ?_, e3, k, us, hk, hu, hnet, ht, hn, hm, hr⟩
  · rw [hnet.1, hnet.2.1, hnet.2.2.1, hnet.2.2.2]; exact e1
  · rw [ht, hn]; exact e2
