theorem DD_8 (t n s b : Int) : (4 : Int64) * lo s - ((4 : Int64) * lo n - lo t * lo t) * lo b * lo b = lo (DD t n s b) := by
  have e1 : (4 : Int64) * lo s = lo (4 * s) := lo_mul 4 s
  have e2 : (4 : Int64) * lo n = lo (4 * n) := lo_mul 4 n
  rw [e1, e2, lo_mul, lo_sub, lo_mul, lo_mul, lo_sub]
  rfl
theorem DD_b {k : Nat} (hk : k < 5) {s b : Int} (h0 : -1 ≤ s) (h1 : s ≤ 1000000) (hb : -1200 ≤ b ∧ b ≤ 1200) : -100000000 ≤ DD (kT k) (kN k) s b ∧ DD (kT k) (kN k) s b ≤ 4000000 := by
  obtain ⟨w1, w2⟩ := W_b hk
  have m := mul_b hb.1 hb.2 hb.1 hb.2
  have m0 := sq_nn b
  have m2 := Int.mul_le_mul w2 m.2 m0 (by omega)
  have m3 := Int.mul_nonneg (show 0 ≤ 4 * kN k - kT k * kT k by omega) m0
  unfold DD
  rw [Int.mul_assoc]
  omega
theorem isq_b {x : Int} (h : 0 ≤ x) (g : x ≤ 4000000) : 0 ≤ isq x ∧ isq x ≤ 2000 := by
  obtain ⟨q0, q1, q2⟩ := isq_spec h
  refine ⟨q0, ?_⟩
  rcases Int.lt_or_le 2000 (isq x) with z | z
  · have := sq_mono (a := 2001) (b := isq x) (by omega) (by omega)
    omega
  · exact z
theorem within8 {k : Nat} (hk : k < 5) {s : Int} (h0 : 0 ≤ s) (h1 : s ≤ 1000000) : whl (f_X8_within_L20 (lo (kT k)) (lo (kN k)) (io s)) ((0 : Int32), (-1200 : Int64)) = some (io (rowF (kT k) (kN k) s 0 + 2 * SM (rowF (kT k) (kN k) s) 1200)) := by
  have key : ∃ r, whl (f_X8_within_L20 (lo (kT k)) (lo (kN k)) (io s)) ((0 : Int32), (-1200 : Int64)) = some r ∧ r = io (rowF (kT k) (kN k) s 0 + 2 * SM (rowF (kT k) (kN k) s) 1200) := by
    refine whl_for (b := f_X8_within_L20 (lo (kT k)) (lo (kN k)) (io s)) 2401 (fun i z => z.1 = io (GG (rowF (kT k) (kN k) s) 1200 i) ∧ z.2 = lo (-1200 + (i : Int))) (fun r => r = io (rowF (kT k) (kN k) s 0 + 2 * SM (rowF (kT k) (kN k) s) 1200)) ?_ ?_ 0 _ (by omega) ⟨?_, rfl⟩
    · rintro i ⟨z1, z2⟩ hi ⟨e1, e2⟩
      dsimp only at e1 e2
      have hst := GG_step (rowF_neg (kT k) (kN k) s) 1200 i
      rw [show -((1200 : Nat) : Int) + (i : Int) = -1200 + (i : Int) from rfl] at hst
      have c1 : ¬ ((1200 : Int64) < lo (-1200 + (i : Int))) := fun e => by
        have := (lo_lt (a := 1200) (by unfold i64; omega) (by unfold i64; omega)).mp e
        omega
      have hb : -1200 ≤ -1200 + (i : Int) ∧ -1200 + (i : Int) ≤ 1200 := by omega
      have eb := lo_of_sum (-1200) i
      rw [← eb]
      generalize -1200 + (i : Int) = b at *
      have hD := DD_b hk (s := s) (by omega) h1 hb
      have c2 : lo (DD (kT k) (kN k) s b) < (0 : Int64) ↔ DD (kT k) (kN k) s b < 0 := lo_lt (b := 0) (by unfold i64; omega) (by unfold i64; omega)
      obtain ⟨⟨t1, t2⟩, -⟩ := kTN_b k
      have tb := mul_b t1 t2 hb.1 hb.2
      unfold f_X8_within_L20
      dsimp only
      rw [e1, e2, if_neg c1, io_w (z := s) (by unfold i32; omega), DD_8]
      by_cases q : 0 ≤ DD (kT k) (kN k) s b
      · have hr := isq_b q hD.2
        have f1 : f_X8_floor (lo (isq (DD (kT k) (kN k) s b)) - lo (kT k) * lo b) (2 : Int64) = some (lo ((isq (DD (kT k) (kN k) s b) - kT k * b) / 2)) := by
          rw [lo_mul, lo_sub]
          exact fl8 (b := 2) (by unfold i64; omega) (by unfold i64; omega) (by omega)
        have f2 : f_X8_floor (lo (isq (DD (kT k) (kN k) s b)) + lo (kT k) * lo b) (2 : Int64) = some (lo ((isq (DD (kT k) (kN k) s b) + kT k * b) / 2)) := by
          rw [lo_mul, lo_add]
          exact fl8 (b := 2) (by unfold i64; omega) (by unfold i64; omega) (by omega)
        rw [if_neg (fun e => by have := c2.mp e; omega), under8 q (by omega)]
        simp only [Option.bind_some]
        rw [f1, f2]
        simp only [Option.bind_some]
        refine ⟨_, rfl, ?_, rfl⟩
        have e3 : lo ((isq (DD (kT k) (kN k) s b) - kT k * b) / 2) + lo ((isq (DD (kT k) (kN k) s b) + kT k * b) / 2) + (1 : Int64) = lo (cw (kT k) b (isq (DD (kT k) (kN k) s b))) := by
          rw [lo_add, ← cw_8]
          exact lo_add _ 1
        dsimp only
        rw [e3, lo_n, io_add, hst]
        congr 2
        unfold rowF
        rw [if_pos q]
      · rw [if_pos (c2.mpr (by omega))]
        refine ⟨_, rfl, ?_, rfl⟩
        dsimp only
        rw [hst]
        unfold rowF
        rw [if_neg q, Int.add_zero]
    · rintro ⟨z1, z2⟩ ⟨e1, e2⟩
      dsimp only at e1 e2
      unfold f_X8_within_L20
      dsimp only
      rw [e1, e2, if_pos (by decide)]
      refine ⟨_, rfl, ?_⟩
      exact congrArg io (GG_end _ 1200)
    · dsimp only
      unfold GG
      rw [if_pos (by omega), Nat.sub_zero, Int.sub_self]
      rfl
  obtain ⟨r, e, hr⟩ := key
  rw [e, hr]
theorem hm_within : HM_within REL := by
  intro cs ms hrel v1
  obtain ⟨k, us, hk, hu, hnet, ht, hn, hm, hr⟩ := id hrel
  have z8 : f_X8_in v1.toInt64 0 1000000 = 0 ↔ v1 < 0 ∨ 1000000 < v1 := in_i (l := 0) (u := 1000000) (by unfold i32; omega) (by unfold i32; omega) v1
  have key : ∃ p q, f_X7_within (a_net_t cs) (a_net_n cs) v1 = some p ∧ f_X8_within (a_mod_t ms) (a_mod_n ms) v1 = some q ∧ p = q := by
    by_cases a1 : v1 < 0
    · exact ⟨-1, -1, by simp only [f_X7_within, a1, ↓reduceIte], by simp only [f_X8_within, z8.mpr (Or.inl a1), ↓reduceIte], rfl⟩
    by_cases a2 : v1 ≤ 1000000
    · have z9 : ¬ f_X8_in v1.toInt64 0 1000000 = 0 := fun e => (z8.mp e).elim a1 (fun g => absurd a2 (Int32.not_le.mpr g))
      obtain ⟨s, hs, rfl⟩ : ∃ z, i32 z ∧ v1 = io z := ⟨v1.toInt, io_rng v1, io_of v1⟩
      have s0 : 0 ≤ s := by
        have c1 : io s < 0 ↔ s < 0 := io_lt (b := 0) hs (by unfold i32; omega)
        have : ¬ s < 0 := fun g => a1 (c1.mpr g)
        omega
      have s1 : s ≤ 1000000 := (io_le (b := 1000000) hs (by unfold i32; omega)).mp a2
      refine ⟨io (rowF (kT k) (kN k) s 0 + 2 * SM (rowF (kT k) (kN k) s) 1200), _, ?_, ?_, rfl⟩
      · unfold f_X7_within
        rw [if_neg a1, if_pos a2, io_w hs, hnet.1, hnet.2.1, circle7 hk (by omega) s1]
        simp only [Option.bind_some]
        rw [lo_n]
      · unfold f_X8_within f_X8_within_K20_117
        rw [if_neg z9, ht, hn, within8 hk s0 s1]
        rfl
    · have a3 : 1000000 < v1 := Int32.not_le.mp a2
      exact ⟨-1, -1, by simp only [f_X7_within, a1, a2, ↓reduceIte], by simp only [f_X8_within, z8.mpr (Or.inr a3), ↓reduceIte], rfl⟩
  obtain ⟨p, q, e1, e2, e3⟩ := key
  exact ⟨p, q, e1, e2, e3, hrel⟩
/-! ofSize: the next row less the one before -/
theorem even_q {r D M : Int} (hr : 0 ≤ r) (h1 : r * r ≤ D) (h2 : D < (r + 1) * (r + 1)) (hD : D = 4 * M) : r / 2 = isq M := by
  have : r = 2 * (r / 2) ∨ r = 2 * (r / 2) + 1 := by omega
  have g0 : 0 ≤ r / 2 := by omega
  generalize r / 2 = q at *
  have e1 : 2 * q * (2 * q) = 4 * (q * q) := by grind
  have e2 : (2 * q + 1) * (2 * q + 1) = 4 * (q * q) + 4 * q + 1 := by grind
  have e3 : (2 * q + 1 + 1) * (2 * q + 1 + 1) = 4 * (q * q) + 8 * q + 4 := by grind
  have e4 : (q + 1) * (q + 1) = q * q + 2 * q + 1 := by grind
  rcases this with rfl | rfl <;> exact isq_uniq g0 (by omega) (by omega)
theorem odd_q {r D M : Int} (hr : 0 ≤ r) (h1 : r * r ≤ D) (h2 : D < (r + 1) * (r + 1)) (hD : D = 4 * M + 1) (hM : 0 ≤ M) : 1 ≤ (r + 1) / 2 ∧ (r + 1) / 2 * ((r + 1) / 2) - (r + 1) / 2 ≤ M ∧ M < (r + 1) / 2 * ((r + 1) / 2) + (r + 1) / 2 := by
  have hr1 : 1 ≤ r := by
    rcases Int.lt_or_le r 1 with g | g
    · have : r = 0 := by omega
      subst this
      omega
    · exact g
  have : r = 2 * ((r + 1) / 2) - 1 ∨ r = 2 * ((r + 1) / 2) := by omega
  have g0 : 1 ≤ (r + 1) / 2 := by omega
  generalize (r + 1) / 2 = q at *
  have e1 : (2 * q - 1) * (2 * q - 1) = 4 * (q * q) - 4 * q + 1 := by grind
  have e2 : (2 * q - 1 + 1) * (2 * q - 1 + 1) = 4 * (q * q) := by grind
  have e3 : 2 * q * (2 * q) = 4 * (q * q) := by grind
  have e4 : (2 * q + 1) * (2 * q + 1) = 4 * (q * q) + 4 * q + 1 := by grind
  rcases this with rfl | rfl <;> exact ⟨g0, by omega, by omega⟩
theorem odd_uniq {q p M : Int} (hq : 1 ≤ q) (hp : 1 ≤ p) (q1 : q * q - q ≤ M) (q2 : M < q * q + q) (p1 : p * p - p ≤ M) (p2 : M < p * p + p) : q = p := by
  rcases Int.lt_trichotomy q p with g | g | g
  · have := Int.mul_nonneg (show 0 ≤ p - q - 1 by omega) (show 0 ≤ p + q by omega)
    have e : (p - q - 1) * (p + q) = p * p - p - (q * q + q) := by grind
    omega
  · exact g
  · have := Int.mul_nonneg (show 0 ≤ q - p - 1 by omega) (show 0 ≤ q + p by omega)
    have e : (q - p - 1) * (q + p) = q * q - q - (p * p + p) := by grind
    omega
def oF (t n s b : Int) : Int := if 0 ≤ DD t n s b ∧ isq (DD t n s b) * isq (DD t n s b) = DD t n s b ∧ (isq (DD t n s b) - t * b) % 2 = 0 then (if isq (DD t n s b) = 0 then 1 else 2) else 0
theorem oF_eq (t n s b : Int) : oF t n s b = rowF t n s b - rowF t n (s - 1) b := by
  have e1 : DD t n s b = 4 * (s - n * b * b) + t * b * (t * b) := by unfold DD; grind
  have e2 : DD t n (s - 1) b = DD t n s b - 4 := by unfold DD; grind
  unfold oF rowF cw
  rw [e2]
  generalize DD t n s b = D at *
  generalize s - n * b * b = m at *
  generalize t * b = z at *
  by_cases hD : 0 ≤ D
  · obtain ⟨r0, r1, r2⟩ := isq_spec hD
    rw [if_pos hD]
    have hz : z = 2 * (z / 2) ∨ z = 2 * (z / 2) + 1 := by omega
    rcases hz with hz | hz
    · -- even
      have ez : z * z = 4 * (z / 2 * (z / 2)) := by
        generalize z / 2 = w at *
        subst hz; grind
      have hp : z % 2 = 0 := by omega
      have hM : D = 4 * (m + z / 2 * (z / 2)) := by omega
      generalize m + z / 2 * (z / 2) = M at *
      have q1 := even_q r0 r1 r2 hM
      obtain ⟨s0, s1, s2⟩ := isq_spec (x := M) (by omega)
      rw [if_pos hp, if_pos hp]
      by_cases hsq : isq M * isq M = M
      · -- a square
        have er : isq D = 2 * isq M := by
          refine (isq_uniq (by omega) ?_ ?_).symm
          · have : 2 * isq M * (2 * isq M) = 4 * (isq M * isq M) := by grind
            omega
          · have : (2 * isq M + 1) * (2 * isq M + 1) = 4 * (isq M * isq M) + 4 * isq M + 1 := by grind
            omega
        have hc : 0 ≤ D ∧ isq D * isq D = D ∧ (isq D - z) % 2 = 0 := by
          refine ⟨hD, ?_, by omega⟩
          rw [er]
          have : 2 * isq M * (2 * isq M) = 4 * (isq M * isq M) := by grind
          omega
        rw [if_pos hc]
        by_cases h0 : isq D = 0
        · have m0 : isq M = 0 := by omega
          rw [m0] at hsq
          rw [if_pos h0, if_neg (by omega), h0]
          omega
        · have m1 : 1 ≤ isq M := by omega
          have hM1 : 1 ≤ M := by have := sq_mono (a := 1) (b := isq M) (by omega) m1; omega
          obtain ⟨p0, p1, p2⟩ := isq_spec (x := D - 4) (by omega)
          have q2 := even_q (M := M - 1) p0 p1 p2 (by omega)
          have e5 : isq M - 1 = isq (M - 1) := by
            have e6 : (isq M - 1) * (isq M - 1) = isq M * isq M - 2 * isq M + 1 := by grind
            have e7 : (isq M - 1 + 1) * (isq M - 1 + 1) = isq M * isq M := by grind
            exact isq_uniq (by omega) (by omega) (by omega)
          rw [if_neg h0, if_pos (by omega), q1, q2]
          omega
      · have hc : ¬ (0 ≤ D ∧ isq D * isq D = D ∧ (isq D - z) % 2 = 0) := by
          rintro ⟨-, g1, g2⟩
          have er : isq D = 2 * isq M := by omega
          rw [er] at g1
          have : 2 * isq M * (2 * isq M) = 4 * (isq M * isq M) := by grind
          omega
        have hM1 : 1 ≤ M := by have := sq_nn (isq M); omega
        obtain ⟨p0, p1, p2⟩ := isq_spec (x := D - 4) (by omega)
        have q2 := even_q (M := M - 1) p0 p1 p2 (by omega)
        have e5 : isq M = isq (M - 1) := isq_uniq s0 (by omega) (by omega)
        rw [if_neg hc, if_pos (by omega), q1, q2, ← e5]
        omega
    · -- odd
      have ez : z * z = 4 * (z / 2 * (z / 2) + z / 2) + 1 := by
        generalize z / 2 = w at *
        subst hz; grind
      have hp : ¬ z % 2 = 0 := by omega
      have hM : D = 4 * (m + (z / 2 * (z / 2) + z / 2)) + 1 := by omega
      generalize m + (z / 2 * (z / 2) + z / 2) = M at *
      have hM0 : 0 ≤ M := by omega
      obtain ⟨q0, q1, q2⟩ := odd_q r0 r1 r2 hM hM0
      rw [if_neg hp, if_neg hp]
      generalize eq : (isq D + 1) / 2 = q at *
      by_cases hsq : q * q - q = M
      · have er : isq D = 2 * q - 1 := by
          refine (isq_uniq (by omega) ?_ ?_).symm
          · have : (2 * q - 1) * (2 * q - 1) = 4 * (q * q) - 4 * q + 1 := by grind
            omega
          · have : (2 * q - 1 + 1) * (2 * q - 1 + 1) = 4 * (q * q) := by grind
            omega
        have hc : 0 ≤ D ∧ isq D * isq D = D ∧ (isq D - z) % 2 = 0 := by
          refine ⟨hD, ?_, by omega⟩
          rw [er]
          have : (2 * q - 1) * (2 * q - 1) = 4 * (q * q) - 4 * q + 1 := by grind
          omega
        rw [if_pos hc, if_neg (by omega)]
        by_cases h1 : q = 1
        · subst h1
          rw [if_neg (by omega)]
          omega
        · have hM1 : 1 ≤ M := by
            have := sq_mono (a := 2) (b := q) (by omega) (by omega)
            have e6 : (q - 1) * (q - 1) = q * q - 2 * q + 1 := by grind
            have := sq_mono (a := 1) (b := q - 1) (by omega) (by omega)
            omega
          obtain ⟨p0, p1, p2⟩ := isq_spec (x := D - 4) (by omega)
          obtain ⟨o0, o1, o2⟩ := odd_q (M := M - 1) p0 p1 p2 (by omega) (by omega)
          have e6 : (q - 1) * (q - 1) = q * q - 2 * q + 1 := by grind
          have e5 : (isq (D - 4) + 1) / 2 = q - 1 := odd_uniq o0 (by omega) o1 o2 (by omega) (by omega)
          rw [if_pos (by omega), e5]
          omega
      · have hc : ¬ (0 ≤ D ∧ isq D * isq D = D ∧ (isq D - z) % 2 = 0) := by
          rintro ⟨-, g1, g2⟩
          have er : isq D = 2 * q - 1 := by omega
          rw [er] at g1
          have : (2 * q - 1) * (2 * q - 1) = 4 * (q * q) - 4 * q + 1 := by grind
          omega
        have hM1 : 1 ≤ M := by
          have := sq_mono (a := 1) (b := q) (by omega) (by omega)
          have := Int.mul_nonneg (show 0 ≤ q by omega) (show 0 ≤ q - 1 by omega)
          have e6 : q * (q - 1) = q * q - q := by grind
          omega
        obtain ⟨p0, p1, p2⟩ := isq_spec (x := D - 4) (by omega)
        obtain ⟨o0, o1, o2⟩ := odd_q (M := M - 1) p0 p1 p2 (by omega) (by omega)
        have e5 : (isq (D - 4) + 1) / 2 = q := odd_uniq o0 q0 o1 o2 (by omega) (by omega)
        rw [if_neg hc, if_pos (by omega), e5]
        omega
  · rw [if_neg hD, if_neg (show ¬ 0 ≤ D - 4 by omega), if_neg (fun e => hD e.1)]
    rfl
theorem oF_neg (t n s b : Int) : oF t n s (-b) = oF t n s b := by rw [oF_eq, oF_eq, rowF_neg, rowF_neg]
theorem SM_sub (t n s : Int) : ∀ N : Nat, SM (oF t n s) N = SM (rowF t n s) N - SM (rowF t n (s - 1)) N := by
  intro N
  induction N with
  | zero => rfl
  | succ N ih =>
    show SM (oF t n s) N + oF t n s ((N : Int) + 1) = SM (rowF t n s) N + rowF t n s ((N : Int) + 1) - (SM (rowF t n (s - 1)) N + rowF t n (s - 1) ((N : Int) + 1))
    rw [ih, oF_eq]
    omega
theorem ofSize8 {k : Nat} (hk : k < 5) {s : Int} (h0 : 0 ≤ s) (h1 : s ≤ 100000) : whl (f_X8_ofSize_L20 (lo (kT k)) (lo (kN k)) (io s)) ((0 : Int32), (-400 : Int64)) = some (io (oF (kT k) (kN k) s 0 + 2 * SM (oF (kT k) (kN k) s) 400)) := by
  have key : ∃ r, whl (f_X8_ofSize_L20 (lo (kT k)) (lo (kN k)) (io s)) ((0 : Int32), (-400 : Int64)) = some r ∧ r = io (oF (kT k) (kN k) s 0 + 2 * SM (oF (kT k) (kN k) s) 400) := by
    refine whl_for (b := f_X8_ofSize_L20 (lo (kT k)) (lo (kN k)) (io s)) 801 (fun i z => z.1 = io (GG (oF (kT k) (kN k) s) 400 i) ∧ z.2 = lo (-400 + (i : Int))) (fun r => r = io (oF (kT k) (kN k) s 0 + 2 * SM (oF (kT k) (kN k) s) 400)) ?_ ?_ 0 _ (by omega) ⟨?_, rfl⟩
    · rintro i ⟨z1, z2⟩ hi ⟨e1, e2⟩
      dsimp only at e1 e2
      have hst := GG_step (oF_neg (kT k) (kN k) s) 400 i
      rw [show -((400 : Nat) : Int) + (i : Int) = -400 + (i : Int) from rfl] at hst
      have c1 : ¬ ((400 : Int64) < lo (-400 + (i : Int))) := fun e => by
        have := (lo_lt (a := 400) (by unfold i64; omega) (by unfold i64; omega)).mp e
        omega
      have hb : -1200 ≤ -400 + (i : Int) ∧ -400 + (i : Int) ≤ 1200 := by omega
      have eb := lo_of_sum (-400) i
      rw [← eb]
      generalize -400 + (i : Int) = b at *
      have hD := DD_b hk (s := s) (by omega) (by omega) hb
      have c2 : lo (DD (kT k) (kN k) s b) < (0 : Int64) ↔ DD (kT k) (kN k) s b < 0 := lo_lt (b := 0) (by unfold i64; omega) (by unfold i64; omega)
      obtain ⟨⟨t1, t2⟩, -⟩ := kTN_b k
      have tb := mul_b t1 t2 hb.1 hb.2
      unfold f_X8_ofSize_L20
      dsimp only
      rw [e1, e2, if_neg c1, io_w (z := s) (by unfold i32; omega), DD_8, hst]
      by_cases q : 0 ≤ DD (kT k) (kN k) s b
      · have hr := isq_b q hD.2
        have hrr := sq_mono hr.1 hr.2
        have hr0 := sq_nn (isq (DD (kT k) (kN k) s b))
        rw [under8 q (by omega)]
        simp only [Option.bind_some]
        rw [if_neg (fun e => by have := c2.mp e; omega), lo_mul, lo_mul, lo_sub]
        have c3 : lo (isq (DD (kT k) (kN k) s b) * isq (DD (kT k) (kN k) s b)) = lo (DD (kT k) (kN k) s b) ↔ _ := lo_eq (by unfold i64; omega) (by unfold i64; omega)
        have c4 : lo (isq (DD (kT k) (kN k) s b) - kT k * b) - lo (isq (DD (kT k) (kN k) s b) - kT k * b) / (2 : Int64) * (2 : Int64) = 0 ↔ _ := dvd_lo (b := 2) (by unfold i64; omega) (by unfold i64; omega) (by omega)
        have c5 : lo (isq (DD (kT k) (kN k) s b)) = (0 : Int64) ↔ isq (DD (kT k) (kN k) s b) = 0 := lo_eq (b := 0) (by unfold i64; omega) (by unfold i64; omega)
        unfold oF
        by_cases g1 : isq (DD (kT k) (kN k) s b) * isq (DD (kT k) (kN k) s b) = DD (kT k) (kN k) s b
        · rw [if_pos (c3.mpr g1)]
          by_cases g2 : (isq (DD (kT k) (kN k) s b) - kT k * b) % 2 = 0
          · rw [if_pos (c4.mpr (Int.dvd_of_emod_eq_zero g2))]
            have hc : 0 ≤ DD (kT k) (kN k) s b ∧ isq (DD (kT k) (kN k) s b) * isq (DD (kT k) (kN k) s b) = DD (kT k) (kN k) s b ∧ (isq (DD (kT k) (kN k) s b) - kT k * b) % 2 = 0 := ⟨q, g1, g2⟩
            rw [if_pos hc]
            by_cases g3 : isq (DD (kT k) (kN k) s b) = 0
            · rw [if_pos (c5.mpr g3), if_pos g3]
              exact ⟨_, rfl, io_add _ 1, rfl⟩
            · rw [if_neg (fun e => g3 (c5.mp e)), if_neg g3]
              exact ⟨_, rfl, io_add _ 2, rfl⟩
          · rw [if_neg (fun e => g2 (Int.emod_eq_zero_of_dvd (c4.mp e))), if_neg (fun e => g2 e.2.2), Int.add_zero]
            exact ⟨_, rfl, rfl, rfl⟩
        · rw [if_neg (fun e => g1 (c3.mp e)), if_neg (fun e => g1 e.2.1), Int.add_zero]
          exact ⟨_, rfl, rfl, rfl⟩
      · rw [under8n (by omega) (by omega)]
        simp only [Option.bind_some]
        rw [if_pos (c2.mpr (by omega))]
        unfold oF
        rw [if_neg (fun e => q e.1), Int.add_zero]
        exact ⟨_, rfl, rfl, rfl⟩
    · rintro ⟨z1, z2⟩ ⟨e1, e2⟩
      dsimp only at e1 e2
      unfold f_X8_ofSize_L20
      dsimp only
      rw [e1, e2, if_pos (by decide)]
      refine ⟨_, rfl, ?_⟩
      exact congrArg io (GG_end _ 400)
    · dsimp only
      unfold GG
      rw [if_pos (by omega), Nat.sub_zero, Int.sub_self]
      rfl
  obtain ⟨r, e, hr⟩ := key
  rw [e, hr]
theorem oF_far {k : Nat} (hk : k < 5) {s b : Int} (h1 : s ≤ 100000) (hb : 401 ≤ b) : oF (kT k) (kN k) s b = 0 := by
  obtain ⟨w1, w2⟩ := W_b hk
  have m := sq_mono (a := 401) (b := b) (by omega) hb
  have m2 := Int.mul_le_mul w1 m (by omega) (by omega)
  unfold oF
  rw [if_neg]
  rintro ⟨e, -⟩
  unfold DD at e
  rw [Int.mul_assoc] at e
  omega
theorem hm_ofSize : HM_ofSize REL := by
  intro cs ms hrel v1
  obtain ⟨k, us, hk, hu, hnet, ht, hn, hm, hr⟩ := id hrel
  have z8 : f_X8_in v1.toInt64 0 100000 = 0 ↔ v1 < 0 ∨ 100000 < v1 := in_i (l := 0) (u := 100000) (by unfold i32; omega) (by unfold i32; omega) v1
  have key : ∃ p q, f_X7_ofSize (a_net_t cs) (a_net_n cs) v1 = some p ∧ f_X8_ofSize (a_mod_t ms) (a_mod_n ms) v1 = some q ∧ p = q := by
    by_cases a1 : v1 < 0
    · exact ⟨-1, -1, by simp only [f_X7_ofSize, a1, ↓reduceIte], by simp only [f_X8_ofSize, z8.mpr (Or.inl a1), ↓reduceIte], rfl⟩
    by_cases a2 : v1 ≤ 100000
    · have z9 : ¬ f_X8_in v1.toInt64 0 100000 = 0 := fun e => (z8.mp e).elim a1 (fun g => absurd a2 (Int32.not_le.mpr g))
      obtain ⟨s, hs, rfl⟩ : ∃ z, i32 z ∧ v1 = io z := ⟨v1.toInt, io_rng v1, io_of v1⟩
      have s0 : 0 ≤ s := by
        have c1 : io s < 0 ↔ s < 0 := io_lt (b := 0) hs (by unfold i32; omega)
        have : ¬ s < 0 := fun g => a1 (c1.mpr g)
        omega
      have s1 : s ≤ 100000 := (io_le (b := 100000) hs (by unfold i32; omega)).mp a2
      have e1 : io s - (1 : Int32) = io (s - 1) := io_sub s 1
      refine ⟨io (oF (kT k) (kN k) s 0 + 2 * SM (oF (kT k) (kN k) s) 400), _, ?_, ?_, rfl⟩
      · unfold f_X7_ofSize
        rw [if_neg a1, if_pos a2, e1, io_w hs, io_w (z := s - 1) (by unfold i32; omega), hnet.1, hnet.2.1, circle7 hk (by omega) (by omega), circle7 hk (by omega) (by omega)]
        simp only [Option.bind_some]
        rw [lo_sub, lo_n]
        congr 2
        have e2 := SM_sub (kT k) (kN k) s 1200
        have e3 := SM_zero (f := oF (kT k) (kN k) s) 401 (fun j hj => oF_far hk s1 (by omega)) 1200 (by omega)
        have e4 := oF_eq (kT k) (kN k) s 0
        rw [show (401 : Nat) - 1 = 400 from rfl] at e3
        omega
      · unfold f_X8_ofSize f_X8_ofSize_K20_124
        rw [if_neg z9, ht, hn, ofSize8 hk s0 s1]
        rfl
    · have a3 : 100000 < v1 := Int32.not_le.mp a2
      exact ⟨-1, -1, by simp only [f_X7_ofSize, a1, a2, ↓reduceIte], by simp only [f_X8_ofSize, z8.mpr (Or.inr a3), ↓reduceIte], rfl⟩
  obtain ⟨p, q, e1, e2, e3⟩ := key
  exact ⟨p, q, e1, e2, e3, hrel⟩
