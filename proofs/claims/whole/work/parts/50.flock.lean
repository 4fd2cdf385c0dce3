/-! flock -/
theorem shortest_both {k : Nat} (hk : k < 5) {p q r : Int} (hp : 1 ≤ p ∧ p ≤ 200) (hq : 1 ≤ q ∧ q ≤ 200) (hr : 0 ≤ r ∧ r < p) (x1 : Int64) (x2 : Int32) : ∃ A c : Int, f_X1_shortest (io (kT k)) (io (kN k)) (lo p) (lo q) (lo r) 0 = some (io A) ∧ f_X1_shortest (io (kT k)) (io (kN k)) (lo p) (lo q) (lo r) 1 = some (io c) ∧ f_X8_layShortest (lo (kT k)) (lo (kN k)) x1 x2 (lo p) (lo q) (lo r) = some (lo A, io c) := by
  have h := TN_k hk
  have pp := mul3_b (x := p) (y := p) (X := 200) (Y := 200) (by omega) (by omega)
  have psz : sz (kT k) (kN k) p 0 = p * p := by unfold sz; grind
  have ppos : 1 ≤ p * p := by
    have := Int.mul_le_mul hp.1 hp.1 (by omega) (by omega)
    omega
  have s2 := sz_le h (a := r) (b := q) (X := 200) (by omega) (by omega) (by omega) (by omega)
  have h0 : 0 < sz (kT k) (kN k) r q := sz_pos h (fun e => by omega)
  have det : ¬ p * q - 0 * r = 0 := by
    have := Int.mul_pos (show 0 < p by omega) (show 0 < q by omega)
    omega
  have f1 : FLG (kT k) (kN k) p 0 r q ≤ 1 := by unfold FLG; split <;> omega
  obtain ⟨a, b, c, d, w7, hred, hsp, hs, hdet⟩ := red7 h 500000 p 0 r q 0 (by omega) h0 det (by omega) (by omega) (by omega) (by omega) (by omega) (Or.inl (by omega))
  have lm : ∀ x y, SP a b c d x y ↔ LM p q r x y := by
    intro x y
    rw [hsp]
    constructor
    · rintro ⟨v, w, rfl, rfl⟩; exact ⟨v, w, rfl, by omega⟩
    · rintro ⟨u, v, rfl, rfl⟩; exact ⟨u, v, rfl, by omega⟩
  have hA0 := hred.1
  have hsle := hred.2.1
  have hmin : ∀ x y, LM p q r x y → 0 < sz (kT k) (kN k) x y → sz (kT k) (kN k) a b ≤ sz (kT k) (kN k) x y := by
    intro x y hxy hpos
    obtain ⟨i, j, rfl, rfl⟩ := (lm x y).mpr hxy
    refine (red_min hred i j ?_).1
    rintro ⟨rfl, rfl⟩
    rw [show (0 : Int) * a + 0 * c = 0 by omega, show (0 : Int) * b + 0 * d = 0 by omega] at hpos
    have : sz (kT k) (kN k) 0 0 = 0 := by unfold sz; grind
    omega
  have hab : LM p q r a b := (lm a b).mp ⟨1, 0, by omega, by omega⟩
  have Ap : sz (kT k) (kN k) a b ≤ 40000 := by
    have := hmin p 0 (LM_p p q r) (by omega)
    omega
  have L8 := least_v hk (A := sz (kT k) (kN k) a b) hp hq hr rfl (by omega) hab hmin
  -- the list of the shortest
  have mem : ∀ x y, (∃ v ∈ VL (decide (sz (kT k) (kN k) c d = sz (kT k) (kN k) a b)) (decide (sz (kT k) (kN k) (a + c) (b + d) = sz (kT k) (kN k) a b)) (decide (sz (kT k) (kN k) (a - c) (b - d) = sz (kT k) (kN k) a b)), phi a b c d v = (x, y)) ↔ LM p q r x y ∧ sz (kT k) (kN k) x y = sz (kT k) (kN k) a b := by
    intro x y
    constructor
    · rintro ⟨⟨i, j⟩, hv, e⟩
      have ne : ¬ (i = 0 ∧ j = 0) := by
        rintro ⟨rfl, rfl⟩
        rw [VL_in] at hv
        omega
      rw [VL_in] at hv
      simp only [decide_eq_true_eq] at hv
      injection e with e1 e2
      dsimp only at e1 e2
      have := (red_min hred i j ne).2.mpr hv
      rw [e1, e2] at this
      exact ⟨(lm x y).mp ⟨i, j, e1.symm, e2.symm⟩, this⟩
    · rintro ⟨hxy, hsz⟩
      obtain ⟨i, j, rfl, rfl⟩ := (lm x y).mpr hxy
      have ne : ¬ (i = 0 ∧ j = 0) := by
        rintro ⟨rfl, rfl⟩
        rw [show (0 : Int) * a + 0 * c = 0 by omega, show (0 : Int) * b + 0 * d = 0 by omega] at hsz
        have : sz (kT k) (kN k) 0 0 = 0 := by unfold sz; grind
        omega
      refine ⟨(i, j), ?_, rfl⟩
      rw [VL_in]
      simp only [decide_eq_true_eq]
      exact (red_min hred i j ne).2.mp hsz
  have C8 := count8 hk (A := sz (kT k) (kN k) a b) hp hq hr ⟨by omega, Ap⟩ (phi_inj hdet) (VL_nd _ _ _) mem
  obtain ⟨ya, yB⟩ := yb_600 h (show sz (kT k) (kN k) a b ≤ 300000 by omega)
  obtain ⟨yc, yd⟩ := yb_600 h hs
  have w7' : whl (f_X1_shortest_L25 (io (kT k)) (io (kN k))) (f_X4_number (lo p) 0, f_X4_number (lo r) (lo q), (0 : Int32)) = some (Sum.inl (pk a b, pk c d)) := w7
  refine ⟨sz (kT k) (kN k) a b, ((VL (decide (sz (kT k) (kN k) c d = sz (kT k) (kN k) a b)) (decide (sz (kT k) (kN k) (a + c) (b + d) = sz (kT k) (kN k) a b)) (decide (sz (kT k) (kN k) (a - c) (b - d) = sz (kT k) (kN k) a b))).length : Int), ?_, ?_, ?_⟩
  · unfold f_X1_shortest
    rw [w7']
    simp only [Option.bind_some, Sum.elim_inl]
    unfold f_X1_shortest_K25_73
    rw [if_pos (show (0 : Int32) = 0 from rfl), sizeOf_pk (kT_i k) (kN_i k) ya.i yB.i, lo_n]
  · unfold f_X1_shortest
    rw [w7']
    simp only [Option.bind_some, Sum.elim_inl]
    unfold f_X1_shortest_K25_73
    rw [if_neg n10]
    congr 1
    have b1 := sz_lam1 h a b c d
    have b2 := sz_lam1 h a b (-c) (-d)
    have e0 : sz (kT k) (kN k) (-c) (-d) = sz (kT k) (kN k) c d := by unfold sz; grind
    rw [e0, show a + -c = a - c by omega, show b + -d = b - d by omega] at b2
    have n1 := sz_nn h c d
    have n2 := sz_nn h (a + c) (b + d)
    have n3 := sz_nn h (a - c) (b - d)
    have c1 : lo (sz (kT k) (kN k) c d) = lo (sz (kT k) (kN k) a b) ↔ _ := lo_eq (by unfold i64; omega) (by unfold i64; omega)
    have c2 : lo (sz (kT k) (kN k) (a + c) (b + d)) = lo (sz (kT k) (kN k) a b) ↔ _ := lo_eq (by unfold i64; omega) (by unfold i64; omega)
    have c3 : lo (sz (kT k) (kN k) (a - c) (b - d)) = lo (sz (kT k) (kN k) a b) ↔ _ := lo_eq (by unfold i64; omega) (by unfold i64; omega)
    unfold f_X1_countShortest
    rw [plus_pk ya.i yB.i yc.i yd.i, less_pk ya.i yB.i yc.i yd.i, sizeOf_pk (kT_i k) (kN_i k) ya.i yB.i, sizeOf_pk (kT_i k) (kN_i k) yc.i yd.i, sizeOf_pk (kT_i k) (kN_i k) (by unfold yb i32 at *; omega) (by unfold yb i32 at *; omega), sizeOf_pk (kT_i k) (kN_i k) (by unfold yb i32 at *; omega) (by unfold yb i32 at *; omega)]
    by_cases g1 : sz (kT k) (kN k) c d = sz (kT k) (kN k) a b
    · by_cases g2 : sz (kT k) (kN k) (a + c) (b + d) = sz (kT k) (kN k) a b
      · by_cases g3 : sz (kT k) (kN k) (a - c) (b - d) = sz (kT k) (kN k) a b
        · rw [if_pos (c1.mpr g1), if_pos (c2.mpr g2), if_pos (c3.mpr g3), decide_eq_true g1, decide_eq_true g2, decide_eq_true g3]; rfl
        · rw [if_pos (c1.mpr g1), if_pos (c2.mpr g2), if_neg (fun e => g3 (c3.mp e)), decide_eq_true g1, decide_eq_true g2, decide_eq_false g3]; rfl
      · by_cases g3 : sz (kT k) (kN k) (a - c) (b - d) = sz (kT k) (kN k) a b
        · rw [if_pos (c1.mpr g1), if_neg (fun e => g2 (c2.mp e)), if_pos (c3.mpr g3), decide_eq_true g1, decide_eq_false g2, decide_eq_true g3]; rfl
        · rw [if_pos (c1.mpr g1), if_neg (fun e => g2 (c2.mp e)), if_neg (fun e => g3 (c3.mp e)), decide_eq_true g1, decide_eq_false g2, decide_eq_false g3]; rfl
    · by_cases g2 : sz (kT k) (kN k) (a + c) (b + d) = sz (kT k) (kN k) a b
      · by_cases g3 : sz (kT k) (kN k) (a - c) (b - d) = sz (kT k) (kN k) a b
        · rw [if_neg (fun e => g1 (c1.mp e)), if_pos (c2.mpr g2), if_pos (c3.mpr g3), decide_eq_false g1, decide_eq_true g2, decide_eq_true g3]; rfl
        · rw [if_neg (fun e => g1 (c1.mp e)), if_pos (c2.mpr g2), if_neg (fun e => g3 (c3.mp e)), decide_eq_false g1, decide_eq_true g2, decide_eq_false g3]; rfl
      · by_cases g3 : sz (kT k) (kN k) (a - c) (b - d) = sz (kT k) (kN k) a b
        · rw [if_neg (fun e => g1 (c1.mp e)), if_neg (fun e => g2 (c2.mp e)), if_pos (c3.mpr g3), decide_eq_false g1, decide_eq_false g2, decide_eq_true g3]; rfl
        · rw [if_neg (fun e => g1 (c1.mp e)), if_neg (fun e => g2 (c2.mp e)), if_neg (fun e => g3 (c3.mp e)), decide_eq_false g1, decide_eq_false g2, decide_eq_false g3]; rfl
  · unfold f_X8_layShortest
    rw [L8]
    simp only [Option.bind_some]
    unfold f_X8_layShortest_K10_166 f_X8_layShortest_K176_361
    rw [C8]
    rfl
/-- the flock of that rank, on both sides -/
theorem rank_both {N e : Int} (hN : 1 ≤ N ∧ N ≤ 200) (he : 0 ≤ e ∧ e < 2147483648) : ((∃ y, whl (f_X7_takeRanked_L5 (io N) (io e)) ((0 : Int32), (1 : Int32)) = some (Sum.inr y)) ∧ ∃ z, whl (f_X8_flock_L36 (io N)) (io e, (1 : Int32)) = some (z, io (N + 1))) ∨ ∃ a p q r : Int, whl (f_X7_takeRanked_L5 (io N) (io e)) ((0 : Int32), (1 : Int32)) = some (Sum.inl (io a, io q, io p)) ∧ whl (f_X8_flock_L36 (io N)) (io e, (1 : Int32)) = some (io r, io q) ∧ r = e - a ∧ (0 ≤ r ∧ r < p) ∧ p = N / q ∧ (1 ≤ q ∧ q ≤ N) ∧ (1 ≤ p ∧ p ≤ 200) := by
  have key : ∀ (f : Nat) (q a : Int), 1 ≤ q → q ≤ N + 1 → N + 1 - q ≤ (f : Int) → 0 ≤ a → a ≤ e → a ≤ (q - 1) * 200 → ((∃ y, whl (f_X7_takeRanked_L5 (io N) (io e)) (io a, io q) = some (Sum.inr y)) ∧ ∃ z, whl (f_X8_flock_L36 (io N)) (io (e - a), io q) = some (z, io (N + 1))) ∨ ∃ a' p q' r : Int, whl (f_X7_takeRanked_L5 (io N) (io e)) (io a, io q) = some (Sum.inl (io a', io q', io p)) ∧ whl (f_X8_flock_L36 (io N)) (io (e - a), io q) = some (io r, io q') ∧ r = e - a' ∧ (0 ≤ r ∧ r < p) ∧ p = N / q' ∧ (1 ≤ q' ∧ q' ≤ N) ∧ (1 ≤ p ∧ p ≤ 200) := by
    intro f
    have endc : ∀ (a : Int), ((∃ y, whl (f_X7_takeRanked_L5 (io N) (io e)) (io a, io (N + 1)) = some (Sum.inr y)) ∧ ∃ z, whl (f_X8_flock_L36 (io N)) (io (e - a), io (N + 1)) = some (z, io (N + 1))) := by
      intro a
      have c1 : io N < io (N + 1) := (io_lt (by unfold i32; omega) (by unfold i32; omega)).mpr (by omega)
      refine ⟨⟨(), whl_r ?_⟩, io (e - a), whl_r ?_⟩
      · unfold f_X7_takeRanked_L5
        dsimp only
        rw [if_pos c1]
      · unfold f_X8_flock_L36
        dsimp only
        rw [if_pos c1]
    induction f with
    | zero =>
      intro q a h1 h2 h3 h4 h5 h6
      have : q = N + 1 := by omega
      subst this
      exact Or.inl (endc a)
    | succ f ih =>
      intro q a h1 h2 h3 h4 h5 h6
      by_cases hq : q = N + 1
      · subst hq; exact Or.inl (endc a)
      · have iN : i32 N := by unfold i32; omega
        have iq : i32 q := by unfold i32; omega
        have c1 : ¬ io N < io q := fun x => by
          have := (io_lt iN iq).mp x
          omega
        have hq0 : ¬ io q = 0 := fun x => by
          have := (io_eq (b := 0) iq (by unfold i32; omega)).mp x
          omega
        have hrem := io_rem iN iq (by omega) (by omega)
        have hdiv := io_div iN iq (by omega) (by omega)
        have hM := quo_b (q := q) hN ⟨h1, by omega⟩
        have hz : i32 (N % q) := by
          have := Int.emod_nonneg N (show q ≠ 0 by omega)
          have := Int.emod_lt_of_pos N (show 0 < q by omega)
          unfold i32; omega
        have hz0 : io (N % q) = (0 : Int32) ↔ N % q = 0 := io_eq (b := 0) hz (by unfold i32; omega)
        have es : io e - io a = io (e - a) := io_sub e a
        by_cases d : N % q = 0
        · have d' := hz0.mpr d
          by_cases g : e - a < N / q
          · right
            have g7 : ¬ io (N / q) ≤ io (e - a) := fun x => by
              have := (io_le (by unfold i32; omega) (by unfold i32; omega)).mp x
              omega
            have g8 : io (e - a) < io (N / q) := (io_lt (by unfold i32; omega) (by unfold i32; omega)).mpr g
            refine ⟨a, N / q, q, e - a, whl_r ?_, whl_r ?_, rfl, by omega, rfl, by omega, hM⟩
            · unfold f_X7_takeRanked_L5
              dsimp only
              rw [if_neg c1, if_neg hq0, hrem, if_pos d', hdiv, es, if_neg g7]
            · unfold f_X8_flock_L36
              dsimp only
              rw [if_neg c1, if_neg hq0, hrem, if_pos d', hdiv, if_pos g8]
          · have g7 : io (N / q) ≤ io (e - a) := (io_le (by unfold i32; omega) (by unfold i32; omega)).mpr (by omega)
            have g8 : ¬ io (e - a) < io (N / q) := fun x => by
              have := (io_lt (by unfold i32; omega) (by unfold i32; omega)).mp x
              omega
            have s7 : whl (f_X7_takeRanked_L5 (io N) (io e)) (io a, io q) = whl (f_X7_takeRanked_L5 (io N) (io e)) (io (a + N / q), io (q + 1)) := by
              refine whl_l ?_
              unfold f_X7_takeRanked_L5
              dsimp only
              rw [if_neg c1, if_neg hq0, hrem, if_pos d', hdiv, es, if_pos g7, io_1, io_add]
            have s8 : whl (f_X8_flock_L36 (io N)) (io (e - a), io q) = whl (f_X8_flock_L36 (io N)) (io (e - (a + N / q)), io (q + 1)) := by
              refine whl_l ?_
              unfold f_X8_flock_L36
              dsimp only
              rw [if_neg c1, if_neg hq0, hrem, if_pos d', hdiv, if_neg g8, if_pos d', io_1, io_sub, show e - a - N / q = e - (a + N / q) by omega]
            rw [s7, s8]
            exact ih (q + 1) (a + N / q) (by omega) (by omega) (by omega) (by omega) (by omega) (by omega)
        · have d' := fun x => d (hz0.mp x)
          have s7 : whl (f_X7_takeRanked_L5 (io N) (io e)) (io a, io q) = whl (f_X7_takeRanked_L5 (io N) (io e)) (io a, io (q + 1)) := by
            refine whl_l ?_
            unfold f_X7_takeRanked_L5
            dsimp only
            rw [if_neg c1, if_neg hq0, hrem, if_neg d', io_1]
          have s8 : whl (f_X8_flock_L36 (io N)) (io (e - a), io q) = whl (f_X8_flock_L36 (io N)) (io (e - a), io (q + 1)) := by
            refine whl_l ?_
            have z : io (e - a) - (0 : Int32) = io (e - a) := by
              have : io (e - a) - (0 : Int32) = io (e - a - 0) := io_sub _ 0
              rw [this, Int.sub_zero]
            unfold f_X8_flock_L36
            dsimp only
            rw [if_neg c1, if_neg hq0, hrem, if_neg d', if_neg d', io_1, z]
          rw [s7, s8]
          exact ih (q + 1) a (by omega) (by omega) (by omega) (by omega) (by omega) (by omega)
  have := key 300 1 0 (by omega) (by omega) (by omega) (by omega) (by omega) (by omega)
  rw [Int.sub_zero] at this
  exact this
theorem flock_core {k : Nat} (hk : k < 5) (v1 v2 v3 : Int32) (c1 c2 c3 : Int64) (m1 : Int64) (m2 : Int32) : ∃ p q, f_X7_flock (io (kT k)) (io (kN k)) c1 c2 c3 v1 v2 v3 = some p ∧ f_X8_flock (lo (kT k)) (lo (kN k)) m1 m2 v1 v2 v3 = some q ∧ p.1 = q.1 := by
  have a8 : f_X8_in v1.toInt64 1 200 = 0 ↔ v1 < 1 ∨ 200 < v1 := in_i (l := 1) (u := 200) (by unfold i32; omega) (by unfold i32; omega) v1
  have b8 : f_X8_in v3.toInt64 0 5 = 0 ↔ v3 < 0 ∨ 5 < v3 := in_i (l := 0) (u := 5) (by unfold i32; omega) (by unfold i32; omega) v3
  by_cases a1 : v1 < 1
  · have z := a8.mpr (Or.inl a1)
    exact ⟨(-1, _, _, _), (-1, _, _), by
      simp only [f_X7_flock, a1, ↓reduceIte]
      try rfl, by
      simp only [f_X8_flock, z, ↓reduceIte]
      try rfl, rfl⟩
  by_cases a2 : 200 < v1
  · have z := a8.mpr (Or.inr a2)
    exact ⟨(-1, _, _, _), (-1, _, _), by
      simp only [f_X7_flock, a1, a2, ↓reduceIte]
      try rfl, by
      simp only [f_X8_flock, z, ↓reduceIte]
      try rfl, rfl⟩
  have za : ¬ f_X8_in v1.toInt64 1 200 = 0 := fun e => (a8.mp e).elim a1 a2
  by_cases a3 : v2 < 0
  · exact ⟨(-1, _, _, _), (-1, _, _), by
      simp only [f_X7_flock, a1, a2, a3, ↓reduceIte]
      try rfl, by
      simp only [f_X8_flock, za, a3, ↓reduceIte]
      try rfl, rfl⟩
  by_cases a4 : v3 < 0
  · have z := b8.mpr (Or.inl a4)
    exact ⟨(-1, _, _, _), (-1, _, _), by
      simp only [f_X7_flock, a1, a2, a3, a4, ↓reduceIte]
      try rfl, by
      simp only [f_X8_flock, za, a3, z, ↓reduceIte]
      try rfl, rfl⟩
  by_cases a5 : v3 ≤ 5
  · have zb : ¬ f_X8_in v3.toInt64 0 5 = 0 := fun e => (b8.mp e).elim a4 (fun g => absurd a5 (Int32.not_le.mpr g))
    obtain ⟨N, hN, rfl⟩ : ∃ z, i32 z ∧ v1 = io z := ⟨v1.toInt, io_rng v1, io_of v1⟩
    obtain ⟨e, he, rfl⟩ : ∃ z, i32 z ∧ v2 = io z := ⟨v2.toInt, io_rng v2, io_of v2⟩
    have N1 : ¬ N < 1 := fun g => a1 ((io_lt (b := 1) hN (by unfold i32; omega)).mpr g)
    have N2 : ¬ 200 < N := fun g => a2 ((io_lt (a := 200) (by unfold i32; omega) hN).mpr g)
    have e0 : ¬ e < 0 := fun g => a3 ((io_lt (b := 0) he (by unfold i32; omega)).mpr g)
    rcases rank_both (N := N) (e := e) ⟨by omega, by omega⟩ ⟨by omega, he.2⟩ with ⟨⟨y, w7⟩, z, w8⟩ | ⟨a, p, q, r, w7, w8, hra, hr, hp, hq, hp2⟩
    · have c : ¬ io (N + 1) ≤ io N := fun g => by
        have := (io_le (by unfold i32; omega) (by unfold i32; omega)).mp g
        omega
      exact ⟨(-4, _, _, _), (-4, _, _), by
        simp only [f_X7_flock, a1, a2, a3, a4, a5, f_X7_takeRanked, w7, Sum.elim_inr, f_X7_takeRanked_K5_62, Option.bind_some, ↓reduceIte]
        try rfl, by
        simp only [f_X8_flock, za, a3, zb, w8, f_X8_flock_K36_84, c, Option.bind_some, ↓reduceIte]
        try rfl, rfl⟩
    · have c : io q ≤ io N := (io_le (by unfold i32; omega) hN).mpr hq.2
      have nq : ¬ io q = 0 := fun g => by
        have := (io_eq (b := 0) (by unfold i32; omega) (by unfold i32; omega)).mp g
        omega
      have dv : io N / io q = io p := by rw [io_div hN (by unfold i32; omega) (by omega) (by omega), hp]
      have wp := io_w (z := p) (by unfold i32; omega)
      have wq := io_w (z := q) (by unfold i32; omega)
      have wr := io_w (z := r) (by unfold i32; omega)
      have er : io e - io a = io r := by rw [io_sub, hra]
      have hq2 : 1 ≤ q ∧ q ≤ 200 := by omega
      rcases what5 a4 (fun g => absurd a5 (Int32.not_le.mpr g)) with rfl | rfl | rfl | rfl | rfl | rfl
      · exact ⟨(io p, _, _, _), (io p, _, _), by
          simp only [f_X7_flock, a1, a2, a3, a4, a5, f_X7_takeRanked, w7, Sum.elim_inl, f_X7_takeRanked_K5_32, er, wp, wq, wr, n10, n03, n04, f_X1_become_fl_p, f_X1_become_fl_q, f_X1_become_fl_r, f_X1_told, lo_n, Option.bind_some, ↓reduceIte]
          try rfl, by
          simp only [f_X8_flock, za, a3, zb, w8, f_X8_flock_K36_84, c, nq, dv, show (0 : Int32) ≤ 3 by decide, Option.bind_some, ↓reduceIte]
          try rfl, rfl⟩
      · exact ⟨(io q, _, _, _), (io q, _, _), by
          simp only [f_X7_flock, a1, a2, a3, a4, a5, f_X7_takeRanked, w7, Sum.elim_inl, f_X7_takeRanked_K5_32, er, wp, wq, wr, n10, n13, n14, f_X1_become_fl_p, f_X1_become_fl_q, f_X1_become_fl_r, f_X1_told, lo_n, Option.bind_some, ↓reduceIte]
          try rfl, by
          simp only [f_X8_flock, za, a3, zb, w8, f_X8_flock_K36_84, c, nq, n10, show (1 : Int32) ≤ 3 by decide, Option.bind_some, ↓reduceIte]
          try rfl, rfl⟩
      · exact ⟨(io r, _, _, _), (io r, _, _), by
          simp only [f_X7_flock, a1, a2, a3, a4, a5, f_X7_takeRanked, w7, Sum.elim_inl, f_X7_takeRanked_K5_32, er, wp, wq, wr, n10, n20, n21, n23, n24, show ¬ (2 : Int32) = 5 by decide, f_X1_become_fl_p, f_X1_become_fl_q, f_X1_become_fl_r, f_X1_told, lo_n, Option.bind_some, ↓reduceIte]
          try rfl, by
          simp only [f_X8_flock, za, a3, zb, w8, f_X8_flock_K36_84, c, nq, n20, n21, show (2 : Int32) ≤ 3 by decide, Option.bind_some, ↓reduceIte]
          try rfl, rfl⟩
      · obtain ⟨z, f7, f8⟩ := closed_ex (k := k) (p := p) (q := q) (r := r) hp2 hq2 hr
        by_cases y : z = 0
        · exact ⟨(0, _, _, _), (0, _, _), by
            simp only [f_X7_flock, a1, a2, a3, a4, a5, f_X7_takeRanked, w7, Sum.elim_inl, f_X7_takeRanked_K5_32, er, wp, wq, wr, n10, f_X1_become_fl_p, f_X1_become_fl_q, f_X1_become_fl_r, f7, y, Option.bind_some, ↓reduceIte]
            try rfl, by
            simp only [f_X8_flock, za, a3, zb, w8, f_X8_flock_K36_84, c, nq, dv, wp, wq, wr, n30, n31, n32, f8, y, Int32.le_refl, Option.bind_some, ↓reduceIte]
            try rfl, rfl⟩
        · exact ⟨(1, _, _, _), (1, _, _), by
            simp only [f_X7_flock, a1, a2, a3, a4, a5, f_X7_takeRanked, w7, Sum.elim_inl, f_X7_takeRanked_K5_32, er, wp, wq, wr, n10, f_X1_become_fl_p, f_X1_become_fl_q, f_X1_become_fl_r, f7, y, Option.bind_some, ↓reduceIte]
            try rfl, by
            simp only [f_X8_flock, za, a3, zb, w8, f_X8_flock_K36_84, c, nq, dv, wp, wq, wr, n30, n31, n32, f8, y, Int32.le_refl, Option.bind_some, ↓reduceIte]
            try rfl, rfl⟩
      · obtain ⟨A, cc, f7, -, f8⟩ := shortest_both hk hp2 hq2 hr m1 m2
        exact ⟨(io A, _, _, _), (io A, _, _), by
          simp only [f_X7_flock, a1, a2, a3, a4, a5, f_X7_takeRanked, w7, Sum.elim_inl, f_X7_takeRanked_K5_32, er, wp, wq, wr, n10, n43, f_X1_become_fl_p, f_X1_become_fl_q, f_X1_become_fl_r, f7, Option.bind_some, ↓reduceIte]
          try rfl, by
          simp only [f_X8_flock, za, a3, zb, w8, f_X8_flock_K36_84, c, nq, dv, wp, wq, wr, n40, n41, n42, n43, show ¬ (4 : Int32) ≤ 3 by decide, f8, lo_n, Option.bind_some, ↓reduceIte]
          try rfl, rfl⟩
      · obtain ⟨A, cc, -, f7, f8⟩ := shortest_both hk hp2 hq2 hr m1 m2
        exact ⟨(io cc, _, _, _), (io cc, _, _), by
          simp only [f_X7_flock, a1, a2, a3, a4, a5, f_X7_takeRanked, w7, Sum.elim_inl, f_X7_takeRanked_K5_32, er, wp, wq, wr, n10, show ¬ (5 : Int32) = 3 by decide, n54, f_X1_become_fl_p, f_X1_become_fl_q, f_X1_become_fl_r, f7, Option.bind_some, ↓reduceIte]
          try rfl, by
          simp only [f_X8_flock, za, a3, zb, w8, f_X8_flock_K36_84, c, nq, dv, wp, wq, wr, n50, n51, n52, show ¬ (5 : Int32) = 3 by decide, n54, show ¬ (5 : Int32) ≤ 3 by decide, f8, Option.bind_some, ↓reduceIte]
          try rfl, rfl⟩
  · have z := b8.mpr (Or.inr (Int32.not_le.mp a5))
    exact ⟨(-1, _, _, _), (-1, _, _), by
      simp only [f_X7_flock, a1, a2, a3, a4, a5, ↓reduceIte]
      try rfl, by
      simp only [f_X8_flock, za, a3, z, ↓reduceIte]
      try rfl, rfl⟩
theorem hm_flock : HM_flock REL := by
  intro cs ms hrel v1 v2 v3
  obtain ⟨k, us, hk, hu, hnet, ht, hn, hm, hr⟩ := id hrel
  obtain ⟨p, q, e1, e2, e3⟩ := flock_core hk v1 v2 v3 (a_fl_p cs) (a_fl_q cs) (a_fl_r cs) (a_mod_least ms) (a_mod_leastMany ms)
  refine ⟨p, q, ?_, ?_, e3, k, us, hk, hu, hnet, ht, hn, hm, hr⟩
  · rw [hnet.1, hnet.2.1]; exact e1
  · rw [ht, hn]; exact e2
