theorem hm_leaps : HM_leaps REL := by
  intro cs ms hrel v1 v2
  obtain ⟨k, us, hk, hu, hnet, ht, hn, hm, hr⟩ := id hrel
  have h := TN_k hk
  have key : ∃ p q, f_X7_leaps (io (kT k)) (io (kN k)) (io (kU k)) (pk (kSa k) (kSb k)) (a_reg cs) (a_lea_count cs) (a_lps cs) (a_sen cs) (a_edg cs) (a_nxt cs) v1 v2 = some p ∧ f_X8_leaps (lo (kT k)) (lo (kN k)) (a_mod_a ms) (a_mod_b ms) (a_mod_unitMany ms) (a_mod_leapMany ms) (a_regA ms) (a_regB ms) (a_unitA ms) (a_unitB ms) (a_leapA ms) (a_leapB ms) (a_fars ms) (a_queue ms) v1 v2 = some q ∧ p.1 = q.1 := by
    rcases reg2 hr v1 with ⟨g1, g2⟩ | ⟨a, b, ha, hb, s1, s2, s3, s4, s5, s6⟩
    · exact ⟨(-1, _, _, _, _, _), (-1, _, _, _, _, _, _, _), by
        simp only [f_X7_leaps, g1, ↓reduceIte]
        try rfl, by
        simp only [f_X8_leaps, g2, ↓reduceIte]
        try rfl, rfl⟩
    rcases reg2 hr v2 with ⟨g1, g2⟩ | ⟨c, d, hc, hd, q1, q2, q3, q4, q5, q6⟩
    · exact ⟨(-1, _, _, _, _, _), (-1, _, _, _, _, _, _, _), by
        simp only [f_X7_leaps, s1, g1, ↓reduceIte]
        try rfl, by
        simp only [f_X8_leaps, s2, g2, ↓reduceIte]
        try rfl, rfl⟩
    have nz := pk_z ha.i hb.i
    rcases nought8 s3 ha.y hb.y s5 s6 with ⟨zz, n8⟩ | ⟨zz, n8⟩
    · have n7 := nz.mpr zz
      exact ⟨(-2, _, _, _, _, _), (-2, _, _, _, _, _, _, _), by
        simp only [f_X7_leaps, s1, q1, s3, s4, n7, ↓reduceIte]
        try rfl, by
        simp only [f_X8_leaps, s2, q2, n8, Option.bind_some, n10, ↓reduceIte]
        try rfl, rfl⟩
    · have n7 : ¬ pk a b = 0 := fun e => zz (nz.mp e)
      have hU := kUn_b k
      have hl := UN_len hk hu
      obtain ⟨l', c7, d7⟩ := collect7 hk ha hb (a_lea_count cs) (a_lps cs)
      obtain ⟨y1, y2, lA, lB, c8, d8'⟩ := leaps8 hk hu hm s3 s5 s6 (a_mod_a ms) (a_mod_b ms) (a_mod_leapMany ms) (a_leapA ms) (a_leapB ms)
      have i1 : f_X8_in (lo c) (-30) 30 = 0 ↔ ¬ (-30 ≤ c ∧ c ≤ 30) := by
        rw [show (-30 : Int64) = lo (-30) by decide]
        exact in_lo (u := 30) hc.i.w (by unfold i64; omega) (by unfold i64; omega)
      have i2 : f_X8_in (lo d) (-30) 30 = 0 ↔ ¬ (-30 ≤ d ∧ d ≤ 30) := by
        rw [show (-30 : Int64) = lo (-30) by decide]
        exact in_lo (u := 30) hd.i.w (by unfold i64; omega) (by unfold i64; omega)
      have f1 : f_X4_first (pk c d) + (30 : Int64) = lo (c + 30) := by
        rw [first_pk d hc.i]
        exact lo_add c 30
      have f2 : f_X4_second (pk c d) + (30 : Int64) = lo (d + 30) := by
        rw [second_pk c hd.i]
        exact lo_add d 30
      have cb := hc
      have db := hd
      unfold rng at cb db
      have t1 : lo (c + 30) < (0 : Int64) ↔ c + 30 < 0 := lo_lt (b := 0) (by unfold i64; omega) (by unfold i64; omega)
      have t2 : (61 : Int64) ≤ lo (c + 30) ↔ 61 ≤ c + 30 := lo_le (a := 61) (by unfold i64; omega) (by unfold i64; omega)
      have t3 : lo (d + 30) < (0 : Int64) ↔ d + 30 < 0 := lo_lt (b := 0) (by unfold i64; omega) (by unfold i64; omega)
      have t4 : lo (d + 30) < (61 : Int64) ↔ d + 30 < 61 := lo_lt (b := 61) (by unfold i64; omega) (by unfold i64; omega)
      have out7 : (¬ (-30 ≤ c ∧ c ≤ 30) ∨ ¬ (-30 ≤ d ∧ d ≤ 30)) → f_X2_fewest (io ((2 * kUn k : Nat) : Int)) l' (a_sen cs) (a_edg cs) (a_nxt cs) (pk c d) = some (-4, a_sen cs, a_edg cs, a_nxt cs) := by
        intro ho
        unfold f_X2_fewest
        rw [f1, f2]
        by_cases w1 : c + 30 < 0
        · rw [if_pos (t1.mpr w1)]
        · rw [if_neg (fun x => w1 (t1.mp x))]
          by_cases w2 : 61 ≤ c + 30
          · rw [if_pos (t2.mpr w2)]
          · rw [if_neg (fun x => w2 (t2.mp x))]
            by_cases w3 : d + 30 < 0
            · rw [if_pos (t3.mpr w3)]
            · rw [if_neg (fun x => w3 (t3.mp x)), if_neg (fun x => by have := t4.mp x; omega)]
      by_cases w1 : -30 ≤ c ∧ c ≤ 30
      · have e1 : ¬ f_X8_in (lo c) (-30) 30 = 0 := fun x => i1.mp x w1
        by_cases w2 : -30 ≤ d ∧ d ≤ 30
        · have e2 : ¬ f_X8_in (lo d) (-30) 30 = 0 := fun x => i2.mp x w2
          obtain ⟨E1, E2⟩ := lp_78 hk hu a b
          have B7 : ∀ j, j < 2 * kUn k → ((leapC k a b j).1.natAbs : Int) ≤ 160000 ∧ ((leapC k a b j).2.natAbs : Int) ≤ 160000 := fun j hj => lp7_b hk ha hb hj
          have B8 : ∀ j, j < 2 * kUn k → ((leapM us k a b j).1.natAbs : Int) ≤ 160000 ∧ ((leapM us k a b j).2.natAbs : Int) ≤ 160000 := by
            intro j hj
            obtain ⟨i, hi, e⟩ := E2 j hj
            rw [e]
            exact B7 i hi
          have L7 : ∀ j, j < 2 * kUn k → l' j = pk (leapC k a b j).1 (leapC k a b j).2 := by
            intro j hj
            obtain ⟨r1, r2⟩ := d7 (j / 2) (by omega)
            unfold leapC
            by_cases g : j % 2 = 0
            · rw [if_pos g, ← r1]
              congr 1
              omega
            · rw [if_neg g, ← r2]
              congr 1
              omega
          have L8 : ∀ j, j < 2 * kUn k → lA j = lo (leapM us k a b j).1 ∧ lB j = lo (leapM us k a b j).2 := by
            intro j hj
            obtain ⟨⟨r1, r2⟩, r3, r4⟩ := d8' (j / 2) _ (us_get (us := us) (i := j / 2) (by omega))
            unfold leapM
            by_cases g : j % 2 = 0
            · rw [if_pos g, ← r1, ← r2, show 2 * (j / 2) = j by omega]
              exact ⟨rfl, rfl⟩
            · rw [if_neg g, ← r3, ← r4, show 2 * (j / 2) + 1 = j by omega]
              exact ⟨rfl, rfl⟩
          obtain ⟨v, s', e', n', F7, R7⟩ := fewest7 (N := 2 * kUn k) (by omega) B7 L7 (a_sen cs) (a_edg cs) (a_nxt cs) w1 w2
          obtain ⟨fl, ffl, zf⟩ := fill3721 (a_fars ms)
          obtain ⟨fr, qu, F8, R8⟩ := bfs8 (N := 2 * kUn k) (by omega) B8 L8 (c := c + 30) (w := d + 30) (by unfold inb; omega) (by unfold inb; omega) zf (queue := a_queue ms)
          have ev := FAR_eq E1 E2 R7 R8
          have due : ((((61 : Int64) * (lo c + (30 : Int64))) + lo d) + (30 : Int64)).toInt32 = io (61 * (c + 30) + (d + 30)) := by
            have a1 : lo c + (30 : Int64) = lo (c + 30) := lo_add c 30
            have a2 : (61 : Int64) * lo (c + 30) = lo (61 * (c + 30)) := lo_mul 61 _
            have a3 : lo (61 * (c + 30) + d) + (30 : Int64) = lo (61 * (c + 30) + d + 30) := lo_add _ 30
            rw [a1, a2, lo_add, a3, lo_n]
            congr 1
            omega
          obtain ⟨d1, d2⟩ := nat3721 (i := (61 * (c + 30) + (d + 30)).toNat) (by omega)
          rw [show (((61 * (c + 30) + (d + 30)).toNat : Nat) : Int) = 61 * (c + 30) + (d + 30) by omega] at d1 d2
          have F8' : whl (f_X8_leaps_L145 (io ((2 * kUn k : Nat) : Int)) lA lB (io (61 * (c + 30) + (d + 30)))) ((1 : Int32), (0 : Int32), upd fl (1860 : Int32).toNatClampNeg (0 : Int32), upd (a_queue ms) (0 : Int32).toNatClampNeg (1860 : Int32)) = some (fr, qu) := F8
          have k1 : ¬ ((1860 : Int32) < 0 ∨ 3721 ≤ (1860 : Int32).toNatClampNeg) := by decide
          have k2 : ¬ ((0 : Int32) < 0 ∨ 3721 ≤ (0 : Int32).toNatClampNeg) := by decide
          refine ⟨(v, _, _, _, _, _), (fr (io (61 * (c + 30) + (d + 30))).toNatClampNeg, _, _, _, _, _, _, _), by
            simp only [f_X7_leaps, s1, q1, s3, s4, n7, c7, q3, q4, F7, Option.bind_some, ↓reduceIte]
            try rfl, by
            simp only [f_X8_leaps, s2, q2, n8, q3, q5, q6, e1, e2, c8, ffl, Option.bind_some, ↓reduceIte]
            unfold f_X8_leaps_K73_94
            rw [if_neg q3, if_neg k1, if_neg k2, q5, q6, due, F8']
            simp only [Option.bind_some]
            unfold f_X8_leaps_K145_318
            rw [if_neg d1], ?_⟩
          rw [d2]
          exact ev
        · have e2 := i2.mpr w2
          have F7 := out7 (Or.inr w2)
          exact ⟨(-4, _, _, _, _, _), (-4, _, _, _, _, _, _, _), by
            simp only [f_X7_leaps, s1, q1, s3, s4, n7, c7, q3, q4, F7, Option.bind_some, ↓reduceIte]
            try rfl, by
            simp only [f_X8_leaps, s2, q2, n8, q3, q5, q6, e1, e2, Option.bind_some, ↓reduceIte]
            try rfl, rfl⟩
      · have e1 := i1.mpr w1
        have F7 := out7 (Or.inl w1)
        exact ⟨(-4, _, _, _, _, _), (-4, _, _, _, _, _, _, _), by
          simp only [f_X7_leaps, s1, q1, s3, s4, n7, c7, q3, q4, F7, Option.bind_some, ↓reduceIte]
          try rfl, by
          simp only [f_X8_leaps, s2, q2, n8, q3, q5, e1, Option.bind_some, ↓reduceIte]
          try rfl, rfl⟩
  obtain ⟨p, q, e1, e2, e3⟩ := key
  refine ⟨p, q, ?_, ?_, e3, k, us, hk, hu, hnet, ht, hn, hm, hr⟩
  · rw [hnet.1, hnet.2.1, hnet.2.2.1, hnet.2.2.2]; exact e1
  · rw [ht, hn]; exact e2
