/-! digit, digits -/
theorem digitAt7 {t n m1 m2 w : Int} (h : BS t n m1 m2 w) {x : Int × Int} (hx : sz t n x.1 x.2 ≤ 2000000000) {T R : Nat} (hT : T ≤ 945) (hR : R ≤ 945) {e : Int} (he : i32 e) (e0 : 0 ≤ e) : (¬ e < (T : Int) ∧ R = 0 ∧ f_X5_digitAt (io t) (io n) (pk m1 m2) (io (sz t n m1 m2)) (io w) (io (T : Int)) (io (R : Int)) (pk x.1 x.2) (io e) = some 0) ∨ ((e < (T : Int) ∧ f_X5_digitAt (io t) (io n) (pk m1 m2) (io (sz t n m1 m2)) (io w) (io (T : Int)) (io (R : Int)) (pk x.1 x.2) (io e) = some (io (dg t n m1 m2 w (XO (nx t n m1 m2 w) x e.toNat)))) ∨ (¬ e < (T : Int) ∧ 1 ≤ R ∧ f_X5_digitAt (io t) (io n) (pk m1 m2) (io (sz t n m1 m2)) (io w) (io (T : Int)) (io (R : Int)) (pk x.1 x.2) (io e) = some (io (dg t n m1 m2 w (XO (nx t n m1 m2 w) x (T + (e.toNat - T) % R)))))) := by
  have e00 : pk x.1 x.2 = xp t n m1 m2 w x 0 := rfl
  have c1 : io e < io (T : Int) ↔ e < (T : Int) := io_lt he (by unfold i32; omega)
  have c2 : io (R : Int) = (0 : Int32) ↔ (R : Int) = 0 := io_eq (b := 0) (by unfold i32; omega) (by unfold i32; omega)
  have ld : ∀ i, f_X5_lastDigit (io (sz t n m1 m2)) (io w) (xp t n m1 m2 w x i) = some (io (dg t n m1 m2 w (XO (nx t n m1 m2 w) x i))) := fun i => last7 h (XO_b h hx i)
  by_cases g : e < (T : Int)
  · right; left
    refine ⟨g, ?_⟩
    have w6 := w60 h hx e.toNat (by omega)
    rw [show ((e.toNat : Nat) : Int) = e by omega] at w6
    unfold f_X5_digitAt
    rw [if_pos (c1.mpr g), if_pos (c1.mpr g), e00, w6]
    simp only [Option.bind_some]
    unfold f_X5_digitAt_K60_81
    rw [ld]
    rfl
  · have g' := fun q => g (c1.mp q)
    by_cases r : (R : Int) = 0
    · left
      refine ⟨g, by omega, ?_⟩
      unfold f_X5_digitAt
      rw [if_neg g', if_pos (c2.mpr r)]
    · right; right
      have r' := fun q => r (c2.mp q)
      refine ⟨g, by omega, ?_⟩
      have s1 : io e - io (T : Int) = io (e - (T : Int)) := io_sub _ _
      have s2 := io_rem (a := e - (T : Int)) (b := (R : Int)) (by unfold i32 at *; omega) (by unfold i32; omega) (by omega) (by omega)
      have s3 : io (T : Int) + io ((e - (T : Int)) % (R : Int)) = io ((T + (e.toNat - T) % R : Nat) : Int) := by
        rw [io_add]
        congr 1
        rw [Int.natCast_add, Int.natCast_emod]
        congr 2
        omega
      have lt := Nat.mod_lt (e.toNat - T) (show 0 < R by omega)
      have w6 := w60 h hx (T + (e.toNat - T) % R) (by omega)
      unfold f_X5_digitAt
      rw [if_neg g', if_neg r', if_neg g', if_neg r', if_neg r', s1, s2, s3, e00, w6]
      simp only [Option.bind_some]
      unfold f_X5_digitAt_K60_81
      rw [ld]
      rfl
theorem hm_digit : HM_digit REL := by
  intro cs ms hrel v1 v2 v3
  obtain ⟨k, us, hk, hu, hnet, ht, hn, hm, hr⟩ := id hrel
  have h := TN_k hk
  have key : ∃ p q, f_X7_digit (io (kT k)) (io (kN k)) (a_reg cs) (a_num_base cs) (a_num_size cs) (a_num_digitOfW cs) (a_num_tail cs) (a_num_round cs) v1 v2 v3 = some p ∧ f_X8_digit (lo (kT k)) (lo (kN k)) (a_mod_a ms) (a_mod_b ms) (a_mod_quotA ms) (a_mod_quotB ms) (a_mod_tail ms) (a_mod_round ms) (a_mod_sum ms) (a_mod_rowMany ms) (a_regA ms) (a_regB ms) (a_rowA ms) (a_rowB ms) (a_rowDigit ms) v1 v2 v3 = some q ∧ p.1 = q.1 := by
    rcases reg2 hr v1 with ⟨g1, g2⟩ | ⟨a, b, ha, hb, p1, p2, p3, p4, p5, p6⟩
    · exact ⟨(-1, _, _, _, _, _), (-1, _, _, _, _, _, _, _, _, _, _, _), by
        simp only [f_X7_digit, g1, ↓reduceIte]
        try rfl, by
        simp only [f_X8_digit, g2, ↓reduceIte]
        try rfl, rfl⟩
    rcases reg2 hr v2 with ⟨g1, g2⟩ | ⟨m1, m2, h1, h2, s1, s2, s3, s4, s5, s6⟩
    · exact ⟨(-1, _, _, _, _, _), (-1, _, _, _, _, _, _, _, _, _, _, _), by
        simp only [f_X7_digit, p1, g1, ↓reduceIte]
        try rfl, by
        simp only [f_X8_digit, p2, g2, ↓reduceIte]
        try rfl, rfl⟩
    by_cases y1 : 0 ≤ v3
    · obtain ⟨z1, z2, B8⟩ := isBase8 hk h1 h2 s3 s5 s6 (a_mod_a ms) (a_mod_b ms)
      rcases takeBase7 hk h1 h2 (a_num_base cs) (a_num_size cs) (a_num_digitOfW cs) with ⟨nb, o1, o2, o3, B7⟩ | ⟨w, hw, B7⟩
      · rcases B8 with ⟨yb, -⟩ | ⟨-, B8⟩
        · exact absurd yb nb
        · exact ⟨(-2, _, _, _, _, _), (-2, _, _, _, _, _, _, _, _, _, _, _), by
            simp only [f_X7_digit, p1, s1, y1, s3, s4, B7, Option.bind_some, ↓reduceIte]
            try rfl, by
            simp only [f_X8_digit, p2, s2, y1, B8, Option.bind_some, ↓reduceIte]
            try rfl, rfl⟩
      · rcases B8 with ⟨-, B8⟩ | ⟨nb, -⟩
        · have hx : sz (kT k) (kN k) (a, b).1 (a, b).2 ≤ 2000000000 := sz_rng h ha hb
          obtain ⟨T, L, hrho, hTL⟩ := rho_ex hw hx
          have hL1 := hrho.1
          have hRL : RND (nx (kT k) (kN k) m1 m2 w) (a, b) T L ≤ L := by unfold RND; split <;> omega
          have M7 := measure7 hw hx hrho hTL (a_num_tail cs) (a_num_round cs)
          obtain ⟨y11, y2, y3, y4, rA', rB', rD', L8, dig, -⟩ := lay8d hw hx hrho hTL s3 s5 s6 z1 z2 (a_mod_quotA ms) (a_mod_quotB ms) (a_mod_tail ms) (a_mod_round ms) (a_mod_sum ms) (a_mod_rowMany ms) (a_rowA ms) (a_rowB ms) (a_rowDigit ms)
          obtain ⟨e, he, rfl⟩ : ∃ z, i32 z ∧ v3 = io z := ⟨v3.toInt, io_rng v3, io_of v3⟩
          have e0 : 0 ≤ e := (io_le (a := 0) (by unfold i32; omega) he).mp y1
          generalize RND (nx (kT k) (kN k) m1 m2 w) (a, b) T L = R at *
          have D7 := digitAt7 hw hx (T := T) (R := R) (by omega) (by omega) he e0
          dsimp only at M7 D7 L8
          have c3 : io ((T + R : Nat) : Int) ≤ io e ↔ ((T + R : Nat) : Int) ≤ e := io_le (by unfold i32; omega) he
          have c4 : io (R : Int) = (0 : Int32) ↔ (R : Int) = 0 := io_eq (b := 0) (by unfold i32; omega) (by unfold i32; omega)
          by_cases g : ((T + R : Nat) : Int) ≤ e
          · have g' := c3.mpr g
            by_cases r : (R : Int) = 0
            · have r' := c4.mpr r
              rcases D7 with ⟨q1, q2, D7⟩ | ⟨q1, D7⟩ | ⟨q1, q2, D7⟩
              · exact ⟨(0, _, _, _, _, _), (0, _, _, _, _, _, _, _, _, _, _, _), by
                  simp only [f_X7_digit, p1, s1, y1, s3, s4, B7, n10, p3, p4, M7, D7, Option.bind_some, ↓reduceIte]
                  try rfl, by
                  simp only [f_X8_digit, p2, s2, y1, B8, n10, p3, p5, p6, L8, g', r', Option.bind_some, ↓reduceIte]
                  try rfl, rfl⟩
              · omega
              · omega
            · have r' : ¬ io (R : Int) = (0 : Int32) := fun q => r (c4.mp q)
              rcases D7 with ⟨q1, q2, D7⟩ | ⟨q1, D7⟩ | ⟨q1, q2, D7⟩
              · omega
              · omega
              · have s1' : io e - io (T : Int) = io (e - (T : Int)) := io_sub _ _
                have s2' := io_rem (a := e - (T : Int)) (b := (R : Int)) (by unfold i32 at *; omega) (by unfold i32; omega) (by omega) (by omega)
                have s3' : io (T : Int) + io ((e - (T : Int)) % (R : Int)) = io ((T + (e.toNat - T) % R : Nat) : Int) := by
                  rw [io_add]
                  congr 1
                  rw [Int.natCast_add, Int.natCast_emod]
                  congr 2
                  omega
                have lt := Nat.mod_lt (e.toNat - T) (show 0 < R by omega)
                obtain ⟨d1, d2⟩ := nat1000 (i := T + (e.toNat - T) % R) (by omega)
                have dd := dig (T + (e.toNat - T) % R) (by omega)
                have idx : io (T : Int) + (io e - io (T : Int) - (io e - io (T : Int)) / io (R : Int) * io (R : Int)) = io ((T + (e.toNat - T) % R : Nat) : Int) := by
                  rw [s1', s2', s3']
                exact ⟨(_, _, _, _, _, _), (_, _, _, _, _, _, _, _, _, _, _, _), by
                  simp only [f_X7_digit, p1, s1, y1, s3, s4, B7, n10, p3, p4, M7, D7, Option.bind_some, ↓reduceIte]
                  try rfl, by
                  simp only [f_X8_digit, p2, s2, y1, B8, n10, p3, p5, p6, L8, g', r', idx, d1, Option.bind_some, ↓reduceIte]
                  rw [d2, dd]
                  try rfl, rfl⟩
          · have g' : ¬ io ((T + R : Nat) : Int) ≤ io e := fun q => g (c3.mp q)
            obtain ⟨d1, d2⟩ := nat1000 (i := e.toNat) (by omega)
            rw [show ((e.toNat : Nat) : Int) = e by omega] at d1 d2
            have dd := dig e.toNat (by omega)
            have D7' : f_X5_digitAt (io (kT k)) (io (kN k)) (pk m1 m2) (io (sz (kT k) (kN k) m1 m2)) (io w) (io (T : Int)) (io (R : Int)) (pk a b) (io e) = some (io (dg (kT k) (kN k) m1 m2 w (XO (nx (kT k) (kN k) m1 m2 w) (a, b) e.toNat))) := by
              rcases D7 with ⟨q1, q2, D7⟩ | ⟨q1, D7⟩ | ⟨q1, q2, D7⟩
              · omega
              · exact D7
              · rw [D7, Nat.mod_eq_of_lt (by omega), show T + (e.toNat - T) = e.toNat by omega]
            exact ⟨(_, _, _, _, _, _), (_, _, _, _, _, _, _, _, _, _, _, _), by
              simp only [f_X7_digit, p1, s1, y1, s3, s4, B7, n10, p3, p4, M7, D7', Option.bind_some, ↓reduceIte]
              try rfl, by
              simp only [f_X8_digit, p2, s2, y1, B8, n10, p3, p5, p6, L8, g', d1, Option.bind_some, ↓reduceIte]
              rw [d2, dd]
              try rfl, rfl⟩
        · exact absurd ⟨hw.2.2.2.1, hw.2.2.2.2.1⟩ nb
    · exact ⟨(-1, _, _, _, _, _), (-1, _, _, _, _, _, _, _, _, _, _, _), by
        simp only [f_X7_digit, p1, s1, y1, ↓reduceIte]
        try rfl, by
        simp only [f_X8_digit, p2, s2, y1, ↓reduceIte]
        try rfl, rfl⟩
  obtain ⟨p, q, e1, e2, e3⟩ := key
  refine ⟨p, q, ?_, ?_, e3, k, us, hk, hu, hnet, ht, hn, hm, hr⟩
  · rw [hnet.1, hnet.2.1]; exact e1
  · rw [ht, hn]; exact e2
theorem hm_digits : HM_digits REL := by
  intro cs ms hrel v1 v2 v3
  obtain ⟨k, us, hk, hu, hnet, ht, hn, hm, hr⟩ := id hrel
  have h := TN_k hk
  have key : ∃ p q, f_X7_digits (io (kT k)) (io (kN k)) (a_reg cs) (a_num_base cs) (a_num_size cs) (a_num_digitOfW cs) (a_num_tail cs) (a_num_round cs) v1 v2 v3 = some p ∧ f_X8_digits (lo (kT k)) (lo (kN k)) (a_mod_a ms) (a_mod_b ms) (a_mod_quotA ms) (a_mod_quotB ms) (a_mod_tail ms) (a_mod_round ms) (a_mod_sum ms) (a_mod_rowMany ms) (a_regA ms) (a_regB ms) (a_rowA ms) (a_rowB ms) (a_rowDigit ms) v1 v2 v3 = some q ∧ p.1 = q.1 := by
    rcases reg2 hr v1 with ⟨g1, g2⟩ | ⟨a, b, ha, hb, p1, p2, p3, p4, p5, p6⟩
    · exact ⟨(-1, _, _, _, _, _), (-1, _, _, _, _, _, _, _, _, _, _, _), by
        simp only [f_X7_digits, g1, ↓reduceIte]
        try rfl, by
        simp only [f_X8_digits, g2, ↓reduceIte]
        try rfl, rfl⟩
    rcases reg2 hr v2 with ⟨g1, g2⟩ | ⟨m1, m2, h1, h2, s1, s2, s3, s4, s5, s6⟩
    · exact ⟨(-1, _, _, _, _, _), (-1, _, _, _, _, _, _, _, _, _, _, _), by
        simp only [f_X7_digits, p1, g1, ↓reduceIte]
        try rfl, by
        simp only [f_X8_digits, p2, g2, ↓reduceIte]
        try rfl, rfl⟩
    have z8 : f_X8_in v3.toInt64 0 2 = 0 ↔ v3 < 0 ∨ 2 < v3 := in_i (l := 0) (u := 2) (by unfold i32; omega) (by unfold i32; omega) v3
    by_cases y1 : v3 < 0
    · have z9 := z8.mpr (Or.inl y1)
      exact ⟨(-1, _, _, _, _, _), (-1, _, _, _, _, _, _, _, _, _, _, _), by
        simp only [f_X7_digits, p1, s1, y1, ↓reduceIte]
        try rfl, by
        simp only [f_X8_digits, p2, s2, z9, ↓reduceIte]
        try rfl, rfl⟩
    by_cases y2 : v3 ≤ 2
    · have z9 : ¬ f_X8_in v3.toInt64 0 2 = 0 := fun e => (z8.mp e).elim y1 (fun g => absurd y2 (Int32.not_le.mpr g))
      obtain ⟨z1, z2, B8⟩ := isBase8 hk h1 h2 s3 s5 s6 (a_mod_a ms) (a_mod_b ms)
      rcases takeBase7 hk h1 h2 (a_num_base cs) (a_num_size cs) (a_num_digitOfW cs) with ⟨nb, o1, o2, o3, B7⟩ | ⟨w, hw, B7⟩
      · rcases B8 with ⟨yb, -⟩ | ⟨-, B8⟩
        · exact absurd yb nb
        · exact ⟨(-2, _, _, _, _, _), (-2, _, _, _, _, _, _, _, _, _, _, _), by
            simp only [f_X7_digits, p1, s1, y1, y2, s3, s4, B7, Option.bind_some, ↓reduceIte]
            try rfl, by
            simp only [f_X8_digits, p2, s2, z9, B8, Option.bind_some, ↓reduceIte]
            try rfl, rfl⟩
      · rcases B8 with ⟨-, B8⟩ | ⟨nb, -⟩
        · have hx : sz (kT k) (kN k) (a, b).1 (a, b).2 ≤ 2000000000 := sz_rng h ha hb
          obtain ⟨T, L, hrho, hTL⟩ := rho_ex hw hx
          have hL1 := hrho.1
          have hRL : RND (nx (kT k) (kN k) m1 m2 w) (a, b) T L ≤ L := by unfold RND; split <;> omega
          have M7 := measure7 hw hx hrho hTL (a_num_tail cs) (a_num_round cs)
          obtain ⟨y11, y22, y3, y4, rA', rB', rD', L8, dig, -⟩ := lay8d hw hx hrho hTL s3 s5 s6 z1 z2 (a_mod_quotA ms) (a_mod_quotB ms) (a_mod_tail ms) (a_mod_round ms) (a_mod_sum ms) (a_mod_rowMany ms) (a_rowA ms) (a_rowB ms) (a_rowDigit ms)
          generalize RND (nx (kT k) (kN k) m1 m2 w) (a, b) T L = R at *
          have S7 := sum7 hw hx T R (by omega) (by omega)
          dsimp only at M7 S7 L8
          by_cases w2 : v3 = 2
          · exact ⟨(_, _, _, _, _, _), (_, _, _, _, _, _, _, _, _, _, _, _), by
              simp only [f_X7_digits, p1, s1, y1, y2, s3, s4, B7, n10, p3, p4, M7, w2, S7, Option.bind_some, ↓reduceIte]
              try rfl, by
              simp only [f_X8_digits, p2, s2, z9, B8, n10, n20, n21, p3, p5, p6, L8, w2, Option.bind_some, ↓reduceIte]
              try rfl, rfl⟩
          · by_cases w0 : v3 = 0
            · exact ⟨(_, _, _, _, _, _), (_, _, _, _, _, _, _, _, _, _, _, _), by
                simp only [f_X7_digits, p1, s1, y1, y2, s3, s4, B7, n10, n02, p3, p4, M7, w0, Option.bind_some, ↓reduceIte]
                try rfl, by
                simp only [f_X8_digits, p2, s2, z9, B8, n10, p3, p5, p6, L8, w0, Option.bind_some, ↓reduceIte]
                try rfl, rfl⟩
            · have w1 : v3 = 1 := by
                rcases what5 y1 (fun g => by
                  have q1 := Int32.lt_iff_toInt_lt.mp g
                  have q2 := Int32.le_iff_toInt_le.mp y2
                  have q3 : (5 : Int32).toInt = 5 := by decide
                  have q4 : (2 : Int32).toInt = 2 := by decide
                  omega) with e | e | e | e | e | e
                · exact absurd e w0
                · exact e
                · exact absurd e w2
                · subst e; exact absurd y2 (by decide)
                · subst e; exact absurd y2 (by decide)
                · subst e; exact absurd y2 (by decide)
              exact ⟨(_, _, _, _, _, _), (_, _, _, _, _, _, _, _, _, _, _, _), by
                simp only [f_X7_digits, p1, s1, y1, y2, s3, s4, B7, n10, n12, p3, p4, M7, w1, Option.bind_some, ↓reduceIte]
                try rfl, by
                simp only [f_X8_digits, p2, s2, z9, B8, n10, p3, p5, p6, L8, w1, Option.bind_some, ↓reduceIte]
                try rfl, rfl⟩
        · exact absurd ⟨hw.2.2.2.1, hw.2.2.2.2.1⟩ nb
    · have z9 := z8.mpr (Or.inr (Int32.not_le.mp y2))
      exact ⟨(-1, _, _, _, _, _), (-1, _, _, _, _, _, _, _, _, _, _, _), by
        simp only [f_X7_digits, p1, s1, y1, y2, ↓reduceIte]
        try rfl, by
        simp only [f_X8_digits, p2, s2, z9, ↓reduceIte]
        try rfl, rfl⟩
  obtain ⟨p, q, e1, e2, e3⟩ := key
  refine ⟨p, q, ?_, ?_, e3, k, us, hk, hu, hnet, ht, hn, hm, hr⟩
  · rw [hnet.1, hnet.2.1]; exact e1
  · rw [ht, hn]; exact e2
