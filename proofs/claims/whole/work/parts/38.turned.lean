/-! turned, where -/
theorem mul_ab_le {x v y : Int} (e : x = v * y) (hv : ¬ v = 0) : (y.natAbs : Int) ≤ (x.natAbs : Int) := by
  have h := ab_mul v y
  rw [← e] at h
  have := Int.mul_le_mul_of_nonneg_right (show 1 ≤ (v.natAbs : Int) by omega) (show 0 ≤ (y.natAbs : Int) by omega)
  omega
theorem mul_ab_le' {x v y : Int} (e : x = v * y) (hx : ¬ x = 0) : (y.natAbs : Int) ≤ (x.natAbs : Int) := by
  refine mul_ab_le e ?_
  rintro rfl
  rw [Int.zero_mul] at e
  exact hx e
theorem add_nb {p q r a b p' q' r' : Int} (hn : NF p q r) (hn' : NF p' q' r') (hm : ∀ x y, LM p' q' r' x y ↔ ∃ u v w : Int, x = u * p + v * r + w * a ∧ y = v * q + w * b) : (q'.natAbs : Int) ≤ (if q = 0 then (b.natAbs : Int) else (q.natAbs : Int)) ∧ (¬ p = 0 → p' ≤ p) ∧ (p' = 0 → (r'.natAbs : Int) ≤ (if q = 0 then (a.natAbs : Int) else (r.natAbs : Int))) := by
  obtain ⟨u1, v1, a1, a2⟩ := (hm p 0).mpr ⟨1, 0, 0, by omega, by omega⟩
  obtain ⟨u2, v2, b1, b2⟩ := (hm r q).mpr ⟨0, 1, 0, by omega, by omega⟩
  obtain ⟨u3, v3, c1, c2⟩ := (hm a b).mpr ⟨0, 0, 1, by omega, by omega⟩
  obtain ⟨u4, v4, w4, d1, d2⟩ := (hm r' q').mp (LM_r p' q' r')
  refine ⟨?_, ?_, ?_⟩
  · by_cases hq : q = 0
    · rw [if_pos hq]
      by_cases hb : b = 0
      · have : q' = 0 := by rw [d2, hq, hb, Int.mul_zero, Int.mul_zero]; rfl
        omega
      · exact mul_ab_le' c2 hb
    · rw [if_neg hq]
      exact mul_ab_le' b2 hq
  · intro hp
    obtain ⟨u, e⟩ := LM_x0 hn' ((hm p 0).mpr ⟨1, 0, 0, by omega, by omega⟩)
    have := mul_ab_le' e hp
    have := hn.1
    have := hn'.1
    omega
  · intro hp'
    by_cases hq : q = 0
    · rw [if_pos hq]
      by_cases hv : v3 = 0
      · have hb : b = 0 := by rw [c2, hv, Int.zero_mul]
        have : q' = 0 := by rw [d2, hq, hb, Int.mul_zero, Int.mul_zero]; rfl
        have := hn'.2.2.1 this
        omega
      · refine mul_ab_le (v := v3) ?_ hv
        rw [hp', Int.mul_zero] at c1
        omega
    · rw [if_neg hq]
      refine mul_ab_le (v := v2) ?_ ?_
      · rw [hp', Int.mul_zero] at b1
        omega
      · rintro rfl
        rw [Int.zero_mul] at b2
        exact hq b2
theorem addN {P Q R : Int64} {a b : Int} (ha : i32 a) (hb : i32 b) : f_X1_addNumber P Q R (pk a b) = f_X1_add P Q R (lo a) (lo b) := by
  unfold f_X1_addNumber
  rw [first_pk b ha, second_pk a hb]
  cases f_X1_add P Q R (lo a) (lo b) <;> rfl
theorem mA_s {k : Nat} {a b c d X Y : Int} (hX : 0 ≤ X) (hY : 0 ≤ Y) (ha : -X ≤ a ∧ a ≤ X) (hb : -X ≤ b ∧ b ≤ X) (hc : -Y ≤ c ∧ c ≤ Y) (hd : -Y ≤ d ∧ d ≤ Y) : ((mA (kN k) a b c d).natAbs : Int) ≤ 4 * (X * Y) ∧ ((mB (kT k) a b c d).natAbs : Int) ≤ 3 * (X * Y) := by
  have m1 := mul_b ha.1 ha.2 hc.1 hc.2
  have m2 := mul_b hb.1 hb.2 hd.1 hd.2
  have m3 := mul_b ha.1 ha.2 hd.1 hd.2
  have m4 := mul_b hb.1 hb.2 hc.1 hc.2
  obtain ⟨⟨t1, t2⟩, n1, n2⟩ := kTN_b k
  have ht : kT k = -1 ∨ kT k = 0 ∨ kT k = 1 := by omega
  have hn : kN k = 1 ∨ kN k = 2 ∨ kN k = 3 := by omega
  have hxy := Int.mul_nonneg hX hY
  unfold mA mB
  generalize kT k = t at *
  generalize kN k = n at *
  generalize X * Y = XY at *
  generalize a * c = A at *
  generalize b * d = B at *
  generalize a * d = C at *
  generalize b * c = D at *
  rcases ht with rfl | rfl | rfl <;> rcases hn with rfl | rfl | rfl <;> omega
theorem NF_0 : NF 0 0 0 := ⟨by omega, by omega, fun _ => rfl, fun h => by omega⟩
/-- told, or NO where it is above -/
theorem above7 {p q : Int} (hp : big p) (hq : big q) : f_X1_isAbove (lo p) (lo q) 200 = 0 ↔ p ≤ 200 ∧ q ≤ 200 := by
  have c1 : (200 : Int64) < lo p ↔ 200 < p := lo_lt (a := 200) (by unfold i64; omega) hp.l
  have c2 : lo q ≤ (200 : Int64) ↔ q ≤ 200 := lo_le (b := 200) hq.l (by unfold i64; omega)
  have e : (200 : Int32).toInt64 = (200 : Int64) := by decide
  unfold f_X1_isAbove
  rw [e]
  by_cases g1 : 200 < p
  · rw [if_pos (c1.mpr g1)]
    exact ⟨fun e => absurd e (by decide), fun e => by omega⟩
  · rw [if_neg (fun e => g1 (c1.mp e))]
    by_cases g2 : q ≤ 200
    · rw [if_pos (c2.mpr g2)]
      exact ⟨fun _ => by omega, fun _ => rfl⟩
    · rw [if_neg (fun e => g2 (c2.mp e))]
      exact ⟨fun e => absurd e (by decide), fun e => by omega⟩
theorem told_eq (P Q R : Int64) (v : Int32) : f_X1_told P Q R v = f_X8_told P Q R v := rfl
theorem LMs_1 {a b p q r : Int} (hm : ∀ x y, LM p q r x y ↔ ∃ u v w : Int, x = u * 0 + v * 0 + w * a ∧ y = v * 0 + w * b) (hn : NF p q r) : (p = 0 ∨ (q = 0 ∧ r = 0)) := by
  obtain ⟨u1, v1, w1, e1, e2⟩ := (hm p 0).mp (LM_p p q r)
  obtain ⟨u2, v2, w2, f1, f2⟩ := (hm r q).mp (LM_r p q r)
  by_cases hp : p = 0
  · exact Or.inl hp
  · right
    have hb : b = 0 := by
      have : w1 * b = 0 := by omega
      rcases Int.mul_eq_zero.mp this with g | g
      · subst g; omega
      · exact g
    have : q = 0 := by rw [f2, hb]; omega
    exact ⟨this, hn.2.2.1 this⟩
theorem two_adds {a b c d Q : Int} (hQ : Q ≤ 20000000) (ha : (a.natAbs : Int) ≤ Q) (hb : (b.natAbs : Int) ≤ Q) (hc : (c.natAbs : Int) ≤ Q) (hd : (d.natAbs : Int) ≤ Q) : ∃ p1 q1 r1 p q r : Int, f_X1_add (lo 0) (lo 0) (lo 0) (lo a) (lo b) = some (lo p1, lo q1, lo r1) ∧ f_X8_grow (lo 0) (lo 0) (lo 0) (lo a) (lo b) = some (lo p1, lo q1, lo r1) ∧ f_X1_add (lo p1) (lo q1) (lo r1) (lo c) (lo d) = some (lo p, lo q, lo r) ∧ f_X8_grow (lo p1) (lo q1) (lo r1) (lo c) (lo d) = some (lo p, lo q, lo r) ∧ NF p q r ∧ big p ∧ big q := by
  have mab := Int.mul_le_mul (show (a.natAbs : Int) ≤ 20000000 by omega) (show (b.natAbs : Int) ≤ 20000000 by omega) (by omega) (by omega)
  have mcd := Int.mul_le_mul (show (c.natAbs : Int) ≤ 20000000 by omega) (show (d.natAbs : Int) ≤ 20000000 by omega) (by omega) (by omega)
  obtain ⟨p1, q1, r1, e1, e2, n1, m1, x1⟩ := add_both (X := 1000000000000000) NF_0 (a := a) (b := b) (by unfold big; omega) (by unfold big; omega) (by unfold big; omega) (by omega) (by omega) (by omega) (by
    rw [show ((0 : Int).natAbs : Int) = 0 by omega, Int.zero_mul, Int.mul_zero]
    omega)
  obtain ⟨g1, g2, g3⟩ := add_nb NF_0 n1 m1
  rw [if_pos rfl] at g1 g3
  have hs := LMs_1 m1 n1
  have hr1 : (r1.natAbs : Int) ≤ 20000000 := by
    rcases hs with hs | ⟨-, hs⟩
    · have := g3 hs; omega
    · omega
  have hp1 := x1 rfl
  have mrd := Int.mul_le_mul hr1 (show (d.natAbs : Int) ≤ 20000000 by omega) (by omega) (by omega)
  have mcq := Int.mul_le_mul (show (c.natAbs : Int) ≤ 20000000 by omega) (show (q1.natAbs : Int) ≤ 20000000 by omega) (by omega) (by omega)
  have hn1 := n1.1
  obtain ⟨p, q, r, e3, e4, n2, m2, x2⟩ := add_both (X := 10000000000000000) n1 (a := c) (b := d) (by unfold big; omega) (by unfold big; omega) (by unfold big; omega) (by omega) (by omega) (by omega) (by omega)
  obtain ⟨h1, h2, h3⟩ := add_nb n1 n2 m2
  have hn2 := n2.1
  refine ⟨p1, q1, r1, p, q, r, e1, e2, e3, e4, n2, ?_, ?_⟩
  · by_cases z : p1 = 0
    · have := x2 z; unfold big; omega
    · have := h2 z; unfold big; omega
  · unfold big
    split at h1 <;> omega
theorem hm_turned : HM_turned REL := by
  intro cs ms hrel v1 v2 v3 v4 v5
  obtain ⟨k, us, hk, hu, hnet, ht, hn, hm, hr⟩ := id hrel
  have h := TN_k hk
  have key : ∃ p q, f_X7_turned (io (kT k)) (io (kN k)) (a_reg cs) (a_fl_p cs) (a_fl_q cs) (a_fl_r cs) v1 v2 v3 v4 v5 = some p ∧ f_X8_turned (lo (kT k)) (lo (kN k)) (a_mod_a ms) (a_mod_b ms) (a_mod_netP ms) (a_mod_netQ ms) (a_mod_netR ms) (a_regA ms) (a_regB ms) v1 v2 v3 v4 v5 = some q ∧ p.1 = q.1 := by
    rcases flock_cases v1 v2 v3 with ⟨h1, h2⟩ | ⟨p, q, r, hp, hq, hr', rfl, rfl, rfl, h1, h2⟩
    · exact ⟨(-1, _, _, _), (-1, _, _, _, _, _), by
        simp only [f_X7_turned, h1, ↓reduceIte]
        try rfl, by
        simp only [f_X8_turned, h2, ↓reduceIte]
        try rfl, rfl⟩
    rcases reg2 hr v4 with ⟨g1, g2⟩ | ⟨a, b, ha, hb, s1, s2, s3, s4, s5, s6⟩
    · exact ⟨(-1, _, _, _), (-1, _, _, _, _, _), by
        simp only [f_X7_turned, h1, g1, ↓reduceIte]
        try rfl, by
        simp only [f_X8_turned, h2, g2, ↓reduceIte]
        try rfl, rfl⟩
    have z8 : f_X8_in v5.toInt64 0 2 = 0 ↔ v5 < 0 ∨ 2 < v5 := in_i (l := 0) (u := 2) (by unfold i32; omega) (by unfold i32; omega) v5
    by_cases y1 : v5 < 0
    · have z9 := z8.mpr (Or.inl y1)
      exact ⟨(-1, _, _, _), (-1, _, _, _, _, _), by
        simp only [f_X7_turned, h1, s1, y1, ↓reduceIte]
        try rfl, by
        simp only [f_X8_turned, h2, s2, z9, ↓reduceIte]
        try rfl, rfl⟩
    by_cases y2 : v5 ≤ 2
    · have z9 : ¬ f_X8_in v5.toInt64 0 2 = 0 := fun e => (z8.mp e).elim y1 (fun g => absurd y2 (Int32.not_le.mpr g))
      have nz := pk_z ha.i hb.i
      rcases nought8 s3 ha.y hb.y s5 s6 with ⟨zz, n8⟩ | ⟨zz, n8⟩
      · have n7 := nz.mpr zz
        exact ⟨(-2, _, _, _), (-2, _, _, _, _, _), by
          simp only [f_X7_turned, h1, s1, y1, y2, s3, s4, n7, ↓reduceIte]
          try rfl, by
          simp only [f_X8_turned, h2, s2, z9, n8, Option.bind_some, n10, ↓reduceIte]
          try rfl, rfl⟩
      · have n7 : ¬ pk a b = 0 := fun e => zz (nz.mp e)
        have b1 := mA_s (k := k) (a := p) (b := 0) (c := a) (d := b) (X := 200) (Y := 20000) (by omega) (by omega) (by omega) (by omega) ha hb
        have b2 := mA_s (k := k) (a := r) (b := q) (c := a) (d := b) (X := 200) (Y := 20000) (by omega) (by omega) (by omega) (by omega) ha hb
        obtain ⟨p1, q1, r1, p2, q2, r2, e1, e2, e3, e4, n2, bp, bq⟩ := two_adds (a := mA (kN k) p 0 a b) (b := mB (kT k) p 0 a b) (c := mA (kN k) r q a b) (d := mB (kT k) r q a b) (Q := 16000000) (by omega) (by omega) (by omega) (by omega) (by omega)
        have T1 : f_X4_times (io (kT k)) (io (kN k)) (f_X4_number (io p).toInt64 0) (pk a b) = pk (mA (kN k) p 0 a b) (mB (kT k) p 0 a b) := by
          rw [io_w (z := p) (by unfold i32; omega), show (0 : Int64) = lo 0 from rfl, pk_def]
          exact times_k (kT_i k) (kN_i k) (by unfold i32; omega) (by unfold i32; omega) ha.i hb.i
        have T2 : f_X4_times (io (kT k)) (io (kN k)) (f_X4_number (io r).toInt64 (io q).toInt64) (pk a b) = pk (mA (kN k) r q a b) (mB (kT k) r q a b) := by
          rw [io_w (z := r) (by unfold i32; omega), io_w (z := q) (by unfold i32; omega), pk_def]
          exact times_k (kT_i k) (kN_i k) (by unfold i32; omega) (by unfold i32; omega) ha.i hb.i
        have A1 : f_X8_times_mod_a (lo (kN k)) (io p).toInt64 0 (lo a) (lo b) = lo (mA (kN k) p 0 a b) := by
          rw [io_w (z := p) (by unfold i32; omega), show (0 : Int64) = lo 0 from rfl, timesA_k]
        have B1 : f_X8_times_mod_b (lo (kT k)) (io p).toInt64 0 (lo a) (lo b) = lo (mB (kT k) p 0 a b) := by
          rw [io_w (z := p) (by unfold i32; omega), show (0 : Int64) = lo 0 from rfl, timesB_k]
        have A2 : f_X8_times_mod_a (lo (kN k)) (io r).toInt64 (io q).toInt64 (lo a) (lo b) = lo (mA (kN k) r q a b) := by
          rw [io_w (z := r) (by unfold i32; omega), io_w (z := q) (by unfold i32; omega), timesA_k]
        have B2 : f_X8_times_mod_b (lo (kT k)) (io r).toInt64 (io q).toInt64 (lo a) (lo b) = lo (mB (kT k) r q a b) := by
          rw [io_w (z := r) (by unfold i32; omega), io_w (z := q) (by unfold i32; omega), timesB_k]
        have N1 : f_X1_addNumber (f_X1_become_fl_p 0) (f_X1_become_fl_q 0) (f_X1_become_fl_r 0) (pk (mA (kN k) p 0 a b) (mB (kT k) p 0 a b)) = some (lo p1, lo q1, lo r1) := (addN (by unfold i32; omega) (by unfold i32; omega)).trans e1
        have N2 : f_X1_addNumber (lo p1) (lo q1) (lo r1) (pk (mA (kN k) r q a b) (mB (kT k) r q a b)) = some (lo p2, lo q2, lo r2) := (addN (by unfold i32; omega) (by unfold i32; omega)).trans e3
        have G1 : f_X8_grow f_X8_begin_mod_netP f_X8_begin_mod_netQ f_X8_begin_mod_netR (lo (mA (kN k) p 0 a b)) (lo (mB (kT k) p 0 a b)) = some (lo p1, lo q1, lo r1) := e2
        have ab7 := above7 bp bq
        have c1 : (200 : Int64) < lo p2 ↔ 200 < p2 := lo_lt (a := 200) (by unfold i64; omega) bp.l
        have c2 : lo q2 ≤ (200 : Int64) ↔ q2 ≤ 200 := lo_le (b := 200) bq.l (by unfold i64; omega)
        by_cases w1 : p2 ≤ 200 ∧ q2 ≤ 200
        · have u1 := ab7.mpr w1
          have u2 : ¬ (200 : Int64) < lo p2 := fun e => by have := c1.mp e; omega
          have u3 := c2.mpr w1.2
          exact ⟨(_, _, _, _), (_, _, _, _, _, _), by
            simp only [f_X7_turned, h1, s1, y1, y2, s3, s4, n7, T1, T2, N1, N2, u1, Option.bind_some, ↓reduceIte]
            try rfl, by
            simp only [f_X8_turned, h2, s2, z9, n8, s3, s5, s6, A1, B1, A2, B2, G1, e4, u2, u3, Option.bind_some, ↓reduceIte]
            try rfl, rfl⟩
        · have u1 : ¬ f_X1_isAbove (lo p2) (lo q2) 200 = 0 := fun e => w1 (ab7.mp e)
          by_cases w2 : 200 < p2
          · have u2 := c1.mpr w2
            exact ⟨(-2, _, _, _), (-2, _, _, _, _, _), by
              simp only [f_X7_turned, h1, s1, y1, y2, s3, s4, n7, T1, T2, N1, N2, u1, Option.bind_some, ↓reduceIte]
              try rfl, by
              simp only [f_X8_turned, h2, s2, z9, n8, s3, s5, s6, A1, B1, A2, B2, G1, e4, u2, Option.bind_some, ↓reduceIte]
              try rfl, rfl⟩
          · have u2 : ¬ (200 : Int64) < lo p2 := fun e => w2 (c1.mp e)
            have u3 : ¬ lo q2 ≤ (200 : Int64) := fun e => by have := c2.mp e; omega
            exact ⟨(-2, _, _, _), (-2, _, _, _, _, _), by
              simp only [f_X7_turned, h1, s1, y1, y2, s3, s4, n7, T1, T2, N1, N2, u1, Option.bind_some, ↓reduceIte]
              try rfl, by
              simp only [f_X8_turned, h2, s2, z9, n8, s3, s5, s6, A1, B1, A2, B2, G1, e4, u2, u3, Option.bind_some, ↓reduceIte]
              try rfl, rfl⟩
    · have z9 := z8.mpr (Or.inr (Int32.not_le.mp y2))
      exact ⟨(-1, _, _, _), (-1, _, _, _, _, _), by
        simp only [f_X7_turned, h1, s1, y1, y2, ↓reduceIte]
        try rfl, by
        simp only [f_X8_turned, h2, s2, z9, ↓reduceIte]
        try rfl, rfl⟩
  obtain ⟨p, q, e1, e2, e3⟩ := key
  refine ⟨p, q, ?_, ?_, e3, k, us, hk, hu, hnet, ht, hn, hm, hr⟩
  · rw [hnet.1, hnet.2.1]; exact e1
  · rw [ht, hn]; exact e2
