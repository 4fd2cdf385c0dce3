/-! the reference's search for the shortest, and its count -/
theorem four_sz (t n x y : Int) : 4 * sz t n x y = (4 * n - t * t) * y * y + (2 * x + t * y) * (2 * x + t * y) := by unfold sz; grind
theorem L88_v {k : Nat} (hk : k < 5) {p r v y u l : Int} (hp : 1 ≤ p ∧ p ≤ 200) (hr : 0 ≤ r ∧ r ≤ 200) (hv : 0 ≤ v ∧ v ≤ 300) (hy : -100000 ≤ y ∧ y ≤ 100000) (hu : -1000000 ≤ u ∧ u ≤ 1000000) (hl : 1 ≤ l ∧ l ≤ 40000) : ∃ l' : Int, whl (f_X8_layShortest_L88 (lo (kT k)) (lo (kN k)) (lo p) (lo r) (lo v) (lo y) (lo u)) (lo (u - 1), lo l) = some (lo l') ∧ 1 ≤ l' ∧ l' ≤ l ∧ (l' = l ∨ ∃ j : Int, l' = sz (kT k) (kN k) (v * r + j * p) y) ∧ ∀ j : Int, u - 1 ≤ j → j ≤ u + 2 → 0 < sz (kT k) (kN k) (v * r + j * p) y → l' ≤ sz (kT k) (kN k) (v * r + j * p) y := by
  have h := TN_k hk
  have hvr := mul3_b (x := v) (y := r) (X := 300) (Y := 200) hv hr
  have key : ∃ z, whl (f_X8_layShortest_L88 (lo (kT k)) (lo (kN k)) (lo p) (lo r) (lo v) (lo y) (lo u)) (lo (u - 1), lo l) = some z ∧ ∃ l' : Int, z = lo l' ∧ 1 ≤ l' ∧ l' ≤ l ∧ (l' = l ∨ ∃ j : Int, l' = sz (kT k) (kN k) (v * r + j * p) y) ∧ ∀ j : Int, u - 1 ≤ j → j ≤ u + 2 → 0 < sz (kT k) (kN k) (v * r + j * p) y → l' ≤ sz (kT k) (kN k) (v * r + j * p) y := by
    refine whl_for (b := f_X8_layShortest_L88 (lo (kT k)) (lo (kN k)) (lo p) (lo r) (lo v) (lo y) (lo u)) 4 (fun i s => ∃ l' : Int, s = (lo (u - 1 + (i : Int)), lo l') ∧ 1 ≤ l' ∧ l' ≤ l ∧ (l' = l ∨ ∃ j : Int, l' = sz (kT k) (kN k) (v * r + j * p) y) ∧ ∀ j : Int, u - 1 ≤ j → j < u - 1 + (i : Int) → 0 < sz (kT k) (kN k) (v * r + j * p) y → l' ≤ sz (kT k) (kN k) (v * r + j * p) y) _ ?_ ?_ 0 _ (by omega) ⟨l, by rw [show ((0 : Nat) : Int) = 0 from rfl, Int.add_zero], hl.1, Int.le_refl _, Or.inl rfl, fun j a b => by omega⟩
    · rintro i s hi ⟨l', rfl, l1, l2, l3, l4⟩
      have e2 : lo u + (2 : Int64) = lo (u + 2) := lo_add u 2
      have c1 : ¬ lo (u + 2) < lo (u - 1 + (i : Int)) := fun e => by
        have := (lo_lt (by unfold i64; omega) (by unfold i64; omega)).mp e
        omega
      have hjp := mul_b (x := u - 1 + (i : Int)) (y := p) (X := 2000000) (Y := 200) (by omega) (by omega) (by omega) (by omega)
      have es : lo v * lo r + lo (u - 1 + (i : Int)) * lo p = lo (v * r + (u - 1 + (i : Int)) * p) := by rw [lo_mul, lo_mul, lo_add]
      have sb := sz_le h (a := v * r + (u - 1 + (i : Int)) * p) (b := y) (X := 500000000) (by omega) (by omega) (by omega) (by omega)
      have s0 := sz_nn h (v * r + (u - 1 + (i : Int)) * p) y
      have c2 : lo (sz (kT k) (kN k) (v * r + (u - 1 + (i : Int)) * p) y) ≤ (0 : Int64) ↔ sz (kT k) (kN k) (v * r + (u - 1 + (i : Int)) * p) y ≤ 0 := lo_le (b := 0) (by unfold i64; omega) (by unfold i64; omega)
      have c3 : lo l' ≤ lo (sz (kT k) (kN k) (v * r + (u - 1 + (i : Int)) * p) y) ↔ l' ≤ sz (kT k) (kN k) (v * r + (u - 1 + (i : Int)) * p) y := lo_le (by unfold i64; omega) (by unfold i64; omega)
      have e1 := lo_of_sum (u - 1) i
      have last : ∀ l'' : Int, l'' ≤ l' → (0 < sz (kT k) (kN k) (v * r + (u - 1 + (i : Int)) * p) y → l'' ≤ sz (kT k) (kN k) (v * r + (u - 1 + (i : Int)) * p) y) → ∀ j : Int, u - 1 ≤ j → j < u - 1 + ((i + 1 : Nat) : Int) → 0 < sz (kT k) (kN k) (v * r + j * p) y → l'' ≤ sz (kT k) (kN k) (v * r + j * p) y := by
        intro l'' hle hlast j j1 j2 hj
        by_cases z : j = u - 1 + (i : Int)
        · subst z; exact hlast hj
        · have := l4 j j1 (by omega) hj
          omega
      unfold f_X8_layShortest_L88
      dsimp only
      rw [e2, if_neg c1, es, sizeOf_m, e1]
      by_cases g1 : sz (kT k) (kN k) (v * r + (u - 1 + (i : Int)) * p) y ≤ 0
      · rw [if_pos (c2.mpr g1)]
        exact ⟨_, rfl, l', rfl, l1, l2, l3, last l' (Int.le_refl _) (fun q => by omega)⟩
      · rw [if_neg (fun e => g1 (c2.mp e))]
        by_cases g2 : l' ≤ sz (kT k) (kN k) (v * r + (u - 1 + (i : Int)) * p) y
        · rw [if_pos (c3.mpr g2)]
          exact ⟨_, rfl, l', rfl, l1, l2, l3, last l' (Int.le_refl _) (fun _ => g2)⟩
        · rw [if_neg (fun e => g2 (c3.mp e))]
          exact ⟨_, rfl, _, rfl, by omega, by omega, Or.inr ⟨_, rfl⟩, last _ (by omega) (fun _ => Int.le_refl _)⟩
    · rintro s ⟨l', rfl, l1, l2, l3, l4⟩
      have e2 : lo u + (2 : Int64) = lo (u + 2) := lo_add u 2
      have c1 : lo (u + 2) < lo (u - 1 + ((4 : Nat) : Int)) := (lo_lt (by unfold i64; omega) (by unfold i64; omega)).mpr (by omega)
      refine ⟨_, ?_, l', rfl, l1, l2, l3, fun j j1 j2 hj => l4 j j1 (by omega) hj⟩
      unfold f_X8_layShortest_L88
      dsimp only
      rw [e2, if_pos c1]
  obtain ⟨z, e, l', rfl, hl'⟩ := key
  exact ⟨l', e, hl'⟩
/-- in a row the nearest are u and u + 1 -/
theorem row_min {k : Nat} (hk : k < 5) {p r v y u j : Int} (hp : 1 ≤ p) (hu : u = (-kT k * y / 2 - v * r) / p) : (j ≤ u → sz (kT k) (kN k) (v * r + u * p) y ≤ sz (kT k) (kN k) (v * r + j * p) y) ∧ (u + 1 ≤ j → sz (kT k) (kN k) (v * r + (u + 1) * p) y ≤ sz (kT k) (kN k) (v * r + j * p) y) := by
  have m1 := Int.emod_add_mul_ediv (-kT k * y / 2 - v * r) p
  have m2 := Int.emod_nonneg (-kT k * y / 2 - v * r) (show p ≠ 0 by omega)
  have m3 := Int.emod_lt_of_pos (-kT k * y / 2 - v * r) (show 0 < p by omega)
  rw [← hu, Int.mul_comm p u] at m1
  have e1 := four_sz (kT k) (kN k) (v * r + u * p) y
  have e2 := four_sz (kT k) (kN k) (v * r + j * p) y
  have e3 := four_sz (kT k) (kN k) (v * r + (u + 1) * p) y
  have em : (u + 1) * p = u * p + p := by rw [Int.add_mul, Int.one_mul]
  have ety : -kT k * y = -(kT k * y) := by grind
  rw [em] at e3 ⊢
  rw [ety] at m1 m2 m3
  generalize kT k * y = z at *
  generalize (-z / 2 - v * r) % p = ρ at *
  constructor
  · intro hj
    have q1 := Int.mul_le_mul_of_nonneg_right hj (show 0 ≤ p by omega)
    have q2 := sq_mono (a := -(2 * (v * r + u * p) + z)) (b := -(2 * (v * r + j * p) + z)) (by omega) (by omega)
    have q3 : -(2 * (v * r + u * p) + z) * -(2 * (v * r + u * p) + z) = (2 * (v * r + u * p) + z) * (2 * (v * r + u * p) + z) := by grind
    have q4 : -(2 * (v * r + j * p) + z) * -(2 * (v * r + j * p) + z) = (2 * (v * r + j * p) + z) * (2 * (v * r + j * p) + z) := by grind
    omega
  · intro hj
    have q1 := Int.mul_le_mul_of_nonneg_right hj (show 0 ≤ p by omega)
    rw [em] at q1
    have q2 := sq_mono (a := 2 * (v * r + (u * p + p)) + z) (b := 2 * (v * r + j * p) + z) (by omega) (by omega)
    omega
theorem least_v {k : Nat} (hk : k < 5) {p q r A a b : Int} (hp : 1 ≤ p ∧ p ≤ 200) (hq : 1 ≤ q ∧ q ≤ 200) (hr : 0 ≤ r ∧ r < p) (hA : A = sz (kT k) (kN k) a b) (hA0 : 1 ≤ A) (hm : LM p q r a b) (hmin : ∀ x y, LM p q r x y → 0 < sz (kT k) (kN k) x y → A ≤ sz (kT k) (kN k) x y) : whl (f_X8_layShortest_L10 (lo (kT k)) (lo (kN k)) (lo p) (lo q) (lo r)) ((0 : Int64), lo p * lo p) = some (lo A) := by
  have h := TN_k hk
  obtain ⟨w1, w2⟩ := W_b hk
  obtain ⟨⟨t1, t2⟩, n1, n2⟩ := kTN_b k
  have pp := mul3_b (x := p) (y := p) (X := 200) (Y := 200) (by omega) (by omega)
  have psz : sz (kT k) (kN k) p 0 = p * p := by unfold sz; grind
  have ppos : 1 ≤ p * p := by
    have := Int.mul_le_mul hp.1 hp.1 (by omega) (by omega)
    omega
  have Ap : A ≤ p * p := by
    have := hmin p 0 (LM_p p q r) (by rw [psz]; omega)
    rw [psz] at this
    exact this
  -- a number of the net is at some v and k
  have at_ : ∀ v j : Int, LM p q r (v * r + j * p) (v * q) := fun v j => ⟨j, v, by omega, rfl⟩
  have wq : ∀ v : Int, (4 * kN k - kT k * kT k) * v * v * q * q = (4 * kN k - kT k * kT k) * (v * q) * (v * q) := fun v => by grind
  have E10 : ∀ v l : Int, 0 ≤ v → v ≤ 231 → 1 ≤ l → l ≤ p * p → ((4 : Int64) * lo l < ((4 : Int64) * lo (kN k) - lo (kT k) * lo (kT k)) * lo v * lo v * lo q * lo q ↔ 4 * l < (4 * kN k - kT k * kT k) * (v * q) * (v * q)) := by
    intro v l v0 v1 l0 l1
    have e1 : (4 : Int64) * lo l = lo (4 * l) := lo_mul 4 l
    have e2 : (4 : Int64) * lo (kN k) = lo (4 * kN k) := lo_mul 4 _
    have b1 := mul3_b (x := v) (y := q) (X := 231) (Y := 200) ⟨v0, v1⟩ (by omega)
    have b2 := mul3_b (x := v * q) (y := v * q) (X := 46200) (Y := 46200) (by omega) (by omega)
    have b3 := mul3_b (x := 4 * kN k - kT k * kT k) (y := v * q * (v * q)) (X := 11) (Y := 2134440000) (by omega) (by omega)
    have e3 : (4 * kN k - kT k * kT k) * (v * q) * (v * q) = (4 * kN k - kT k * kT k) * (v * q * (v * q)) := by grind
    rw [e1, e2, lo_mul, lo_sub, lo_mul, lo_mul, lo_mul, lo_mul, wq v, e3]
    exact lo_lt (by unfold i64; omega) (by unfold i64; omega)
  have key : ∃ z, whl (f_X8_layShortest_L10 (lo (kT k)) (lo (kN k)) (lo p) (lo q) (lo r)) ((0 : Int64), lo p * lo p) = some z ∧ ∃ (l v : Int), z = lo l ∧ 0 ≤ v ∧ A ≤ l ∧ l ≤ p * p ∧ (∀ v' j : Int, 0 ≤ v' → v' < v → 0 < sz (kT k) (kN k) (v' * r + j * p) (v' * q) → l ≤ sz (kT k) (kN k) (v' * r + j * p) (v' * q)) ∧ 4 * l < (4 * kN k - kT k * kT k) * (v * q) * (v * q) := by
    refine whl_fe (b := f_X8_layShortest_L10 (lo (kT k)) (lo (kN k)) (lo p) (lo q) (lo r)) 231 (fun i s => ∃ l : Int, s = (lo (i : Int), lo l) ∧ A ≤ l ∧ l ≤ p * p ∧ ∀ v' j : Int, 0 ≤ v' → v' < (i : Int) → 0 < sz (kT k) (kN k) (v' * r + j * p) (v' * q) → l ≤ sz (kT k) (kN k) (v' * r + j * p) (v' * q)) _ ?_ ?_ 0 _ (by omega) ⟨p * p, by rw [lo_mul]; rfl, Ap, Int.le_refl _, fun v' j a b => by omega⟩
    · rintro i s hi ⟨l, rfl, l1, l2, l3⟩
      have ex := E10 (i : Int) l (by omega) (by omega) (by omega) l2
      by_cases g : 4 * l < (4 * kN k - kT k * kT k) * ((i : Int) * q) * ((i : Int) * q)
      · left
        refine ⟨_, ?_, l, (i : Int), rfl, by omega, l1, l2, l3, g⟩
        unfold f_X8_layShortest_L10
        dsimp only
        rw [if_pos (ex.mpr g)]
      · right
        have b1 := mul3_b (x := (i : Int)) (y := q) (X := 231) (Y := 200) (by omega) (by omega)
        have b2 := mul3_b (x := (i : Int)) (y := r) (X := 231) (Y := 200) (by omega) (by omega)
        have tb := mul_b (x := -kT k) (y := (i : Int) * q) (X := 1) (Y := 46200) (by omega) (by omega) (by omega) (by omega)
        have f1 : f_X8_floor (-lo (kT k) * (lo (i : Int) * lo q)) (2 : Int64) = some (lo (-kT k * ((i : Int) * q) / 2)) := by
          rw [lo_neg, lo_mul, lo_mul]
          exact fl8 (b := 2) (by unfold i64; omega) (by unfold i64; omega) (by omega)
        have f2 : f_X8_floor (lo (-kT k * ((i : Int) * q) / 2) - lo (i : Int) * lo r) (lo p) = some (lo ((-kT k * ((i : Int) * q) / 2 - (i : Int) * r) / p)) := by
          rw [lo_mul, lo_sub]
          exact fl8 (by unfold i64; omega) (by unfold i64; omega) (by omega)
        have m1 := Int.emod_add_mul_ediv (-kT k * ((i : Int) * q) / 2 - (i : Int) * r) p
        have m2 := Int.emod_nonneg (-kT k * ((i : Int) * q) / 2 - (i : Int) * r) (show p ≠ 0 by omega)
        have m3 := Int.emod_lt_of_pos (-kT k * ((i : Int) * q) / 2 - (i : Int) * r) (show 0 < p by omega)
        have rm := fun j => row_min (j := j) hk (p := p) (r := r) (v := (i : Int)) (y := (i : Int) * q) (u := (-kT k * ((i : Int) * q) / 2 - (i : Int) * r) / p) hp.1 rfl
        generalize hu : (-kT k * ((i : Int) * q) / 2 - (i : Int) * r) / p = u at *
        have ub : -1000000 ≤ u ∧ u ≤ 1000000 := by
          rcases Int.lt_or_le 0 u with z | z
          · have := Int.mul_le_mul_of_nonneg_right hp.1 (show 0 ≤ u by omega)
            omega
          · have := Int.mul_le_mul_of_nonneg_right hp.1 (show 0 ≤ -u by omega)
            have e : p * -u = -(p * u) := by grind
            omega
        obtain ⟨l', w, k1, k2, k3, k4⟩ := L88_v hk (p := p) (r := r) (v := (i : Int)) (y := (i : Int) * q) (u := u) (l := l) hp (by omega) (by omega) (by omega) ub (by omega)
        have eu : lo u - (1 : Int64) = lo (u - 1) := lo_sub u 1
        have ey : lo (i : Int) * lo q = lo ((i : Int) * q) := lo_mul _ _
        refine ⟨(lo ((i + 1 : Nat) : Int), lo l'), ?_, l', rfl, ?_, by omega, ?_⟩
        · unfold f_X8_layShortest_L10
          dsimp only
          rw [if_neg (fun q => g (ex.mp q)), f1]
          simp only [Option.bind_some]
          rw [f2]
          simp only [Option.bind_some]
          rw [ey, eu, w]
          simp only [Option.bind_some]
          unfold f_X8_layShortest_K88_157
          have : lo (i : Int) + (1 : Int64) = lo ((i + 1 : Nat) : Int) := lo_add _ 1
          rw [this]
        · rcases k3 with e | ⟨j, e⟩
          · omega
          · have := hmin _ _ (at_ (i : Int) j) (by omega)
            omega
        · intro v' j v0 v1 hpos
          by_cases z : v' = (i : Int)
          · subst z
            rcases Int.lt_or_le u j with y | y
            · have q1 := (rm j).2 (by omega)
              rcases Int.lt_or_le 0 (sz (kT k) (kN k) ((i : Int) * r + (u + 1) * p) ((i : Int) * q)) with z1 | z1
              · have := k4 (u + 1) (by omega) (by omega) z1
                omega
              · -- the nought itself: then i = 0
                have s0 := sz_nn h ((i : Int) * r + (u + 1) * p) ((i : Int) * q)
                obtain ⟨z2, z3⟩ := sz_0 h (show sz (kT k) (kN k) ((i : Int) * r + (u + 1) * p) ((i : Int) * q) = 0 by omega)
                have hi0 : (i : Int) = 0 := by
                  rcases Int.mul_eq_zero.mp z3 with y | y <;> omega
                rw [hi0] at hpos z2 z3 ⊢
                have u1 : u + 1 = 0 := by
                  rcases Int.mul_eq_zero.mp (show (u + 1) * p = 0 by omega) with y | y <;> omega
                exfalso
                have hx0 : -kT k * ((i : Int) * q) / 2 - (i : Int) * r = 0 := by rw [hi0, Int.zero_mul, Int.mul_zero, Int.zero_mul]; rfl
                rw [hx0, Int.zero_emod] at m1
                have : u = -1 := by omega
                rw [this] at m1
                omega
            · have q1 := (rm j).1 y
              rcases Int.lt_or_le 0 (sz (kT k) (kN k) ((i : Int) * r + u * p) ((i : Int) * q)) with z1 | z1
              · have := k4 u (by omega) (by omega) z1
                omega
              · have s0 := sz_nn h ((i : Int) * r + u * p) ((i : Int) * q)
                obtain ⟨z2, z3⟩ := sz_0 h (show sz (kT k) (kN k) ((i : Int) * r + u * p) ((i : Int) * q) = 0 by omega)
                have hi0 : (i : Int) = 0 := by
                  rcases Int.mul_eq_zero.mp z3 with y | y <;> omega
                have u0 : u = 0 := by
                  rw [hi0, Int.zero_mul] at z2
                  rcases Int.mul_eq_zero.mp (show u * p = 0 by omega) with y | y <;> omega
                have s1 : sz (kT k) (kN k) ((i : Int) * r + j * p) ((i : Int) * q) = j * j * (p * p) := by
                  rw [hi0]; unfold sz; grind
                rw [s1] at hpos ⊢
                have j1 : 1 ≤ j * j := by
                  rcases Int.lt_or_le 0 (j * j) with z | z
                  · omega
                  · have := sq_nn j
                    have : j * j = 0 := by omega
                    rw [this, Int.zero_mul] at hpos
                    omega
                have := Int.mul_le_mul_of_nonneg_right j1 (show 0 ≤ p * p by omega)
                omega
          · have := l3 v' j v0 (by omega) hpos
            omega
    · rintro s ⟨l, rfl, l1, l2, l3⟩
      have ex := E10 231 l (by omega) (by omega) (by omega) l2
      have g : 4 * l < (4 * kN k - kT k * kT k) * (231 * q) * (231 * q) := by
        have q1 := sq_mono (a := 231) (b := 231 * q) (by omega) (by omega)
        have q2 := Int.mul_le_mul w1 q1 (by omega) (by omega)
        have e3 : (4 * kN k - kT k * kT k) * (231 * q) * (231 * q) = (4 * kN k - kT k * kT k) * (231 * q * (231 * q)) := by grind
        omega
      refine ⟨_, ?_, l, 231, rfl, by omega, l1, l2, l3, g⟩
      unfold f_X8_layShortest_L10
      dsimp only
      rw [show ((231 : Nat) : Int) = 231 from rfl, if_pos (ex.mpr g)]
  obtain ⟨z, e, l, v, rfl, v0, l1, l2, l3, l4⟩ := key
  rw [e]
  -- the shortest itself was looked at
  obtain ⟨u, w, ea, eb⟩ := hm
  have ga := sq_nn (2 * a + kT k * b)
  have e4 := four_sz (kT k) (kN k) a b
  have inside : (w.natAbs : Int) < v := by
    rcases Int.lt_or_le ((w.natAbs : Int)) v with z | z
    · exact z
    · exfalso
      have q1 := Int.mul_le_mul_of_nonneg_right z (show 0 ≤ q by omega)
      have q2 := sq_mono (a := v * q) (b := (w.natAbs : Int) * q) (Int.mul_nonneg v0 (by omega)) q1
      have q3 := Int.mul_le_mul_of_nonneg_left q2 (show 0 ≤ 4 * kN k - kT k * kT k by omega)
      have q4 : (w.natAbs : Int) * (w.natAbs : Int) = w * w := by
        rcases Int.le_total 0 w with y | y
        · rw [show (w.natAbs : Int) = w by omega]
        · rw [show (w.natAbs : Int) = -w by omega]; grind
      have q5 : (w.natAbs : Int) * q * ((w.natAbs : Int) * q) = b * b := by
        have : (w.natAbs : Int) * q * ((w.natAbs : Int) * q) = (w.natAbs : Int) * (w.natAbs : Int) * (q * q) := by grind
        rw [this, q4, eb]; grind
      rw [q5] at q3
      have e3 : (4 * kN k - kT k * kT k) * (v * q) * (v * q) = (4 * kN k - kT k * kT k) * (v * q * (v * q)) := by grind
      have e5 : (4 * kN k - kT k * kT k) * b * b = (4 * kN k - kT k * kT k) * (b * b) := by grind
      omega
  have : l ≤ A := by
    rcases Int.le_total 0 w with y | y
    · have := l3 w u y (by omega) (by rw [show w * r + u * p = a by omega, ← eb]; omega)
      rw [show w * r + u * p = a by omega, ← eb] at this
      omega
    · have e6 : -w * r + -u * p = -a := by rw [ea]; grind
      have e7 : -w * q = -b := by rw [eb]; grind
      have e8 : sz (kT k) (kN k) (-a) (-b) = sz (kT k) (kN k) a b := by unfold sz; grind
      have := l3 (-w) (-u) (by omega) (by omega) (by rw [e6, e7, e8]; omega)
      rw [e6, e7, e8] at this
      omega
  rw [show l = A by omega]
