/-! how small a rest is -/
theorem corner {t n S p q : Int} (h : TN t n) (hp : 0 ≤ p) (hp2 : p < S) (hq : 0 ≤ q) (hq2 : q < S) : ∃ i j : Int, -2 ≤ i ∧ i ≤ 3 ∧ -2 ≤ j ∧ j ≤ 3 ∧ 16 * sz t n (p - i * S) (q - j * S) ≤ 15 * (S * S) := by
  obtain ⟨j, hj, y1, y2⟩ : ∃ j : Int, (j = 0 ∨ j = 1) ∧ -S ≤ 2 * (q - j * S) ∧ 2 * (q - j * S) ≤ S := by
    by_cases g : 2 * q ≤ S
    · exact ⟨0, Or.inl rfl, by omega, by omega⟩
    · exact ⟨1, Or.inr rfl, by omega, by omega⟩
  generalize ey : q - j * S = y at *
  obtain ⟨i, hi, z1, z2⟩ : ∃ i : Int, (i = 0 ∨ i = 1) ∧ -S ≤ 2 * (p - i * S) + t * y ∧ 2 * (p - i * S) + t * y ≤ S := by
    by_cases g : 2 * p + t * y ≤ S
    · refine ⟨0, Or.inl rfl, ?_, by omega⟩
      rcases h with ⟨rfl, rfl⟩ | ⟨rfl, rfl⟩ | ⟨rfl, rfl⟩ | ⟨rfl, rfl⟩ | ⟨rfl, rfl⟩ <;> omega
    · refine ⟨1, Or.inr rfl, by omega, ?_⟩
      rcases h with ⟨rfl, rfl⟩ | ⟨rfl, rfl⟩ | ⟨rfl, rfl⟩ | ⟨rfl, rfl⟩ | ⟨rfl, rfl⟩ <;> omega
  refine ⟨i, j, by omega, by omega, by omega, by omega, ?_⟩
  rw [ey]
  have e := sz_4b t n (p - i * S) y
  have m0 := sq_nn S
  have m1 := (mul_b y1 y2 y1 y2).2
  have m2 := (mul_b z1 z2 z1 z2).2
  have m3 : 2 * y * (2 * y) = 4 * (y * y) := by grind
  rw [m3] at m1
  generalize (2 * (p - i * S) + t * y) * (2 * (p - i * S) + t * y) = Z at *
  generalize sz t n (p - i * S) y = N at *
  generalize y * y = Y at *
  generalize S * S = SS at *
  rcases h with ⟨rfl, rfl⟩ | ⟨rfl, rfl⟩ | ⟨rfl, rfl⟩ | ⟨rfl, rfl⟩ | ⟨rfl, rfl⟩ <;> omega
/-- the rest's size -/
def rS (t n a b c d : Int) : Int := rsz t n a b c d (NQ t n a b c d).1 (NQ t n a b c d).2
theorem rS_le {t n a b c d : Int} (h : TN t n) (hS : 0 < sz t n c d) : 16 * rS t n a b c d ≤ 15 * sz t n c d := by
  have p1 := Int.emod_nonneg (acA t n a b c d) (show sz t n c d ≠ 0 by omega)
  have p2 := Int.emod_lt_of_pos (acA t n a b c d) hS
  have q1 := Int.emod_nonneg (acB a b c d) (show sz t n c d ≠ 0 by omega)
  have q2 := Int.emod_lt_of_pos (acB a b c d) hS
  obtain ⟨i, j, i1, i2, j1, j2, hc⟩ := corner h p1 p2 q1 q2
  have hb := NQ_bef (a := a) (b := b) h hS i1 i2 j1 j2
  have e1 := sz_scale t n a b c d (NQ t n a b c d).1 (NQ t n a b c d).2
  have e2 := near_pq (A := acA t n a b c d) (i := (NQc t n (sz t n c d) (acA t n a b c d % sz t n c d) (acB a b c d % sz t n c d)).1) hS
  have e3 := near_pq (A := acB a b c d) (i := (NQc t n (sz t n c d) (acA t n a b c d % sz t n c d) (acB a b c d % sz t n c d)).2) hS
  have e4 := sz_shift t n (sz t n c d) (acA t n a b c d % sz t n c d) (acB a b c d % sz t n c d) i j
  have e5 := sz_shift t n (sz t n c d) (acA t n a b c d % sz t n c d) (acB a b c d % sz t n c d) (NQc t n (sz t n c d) (acA t n a b c d % sz t n c d) (acB a b c d % sz t n c d)).1 (NQc t n (sz t n c d) (acA t n a b c d % sz t n c d) (acB a b c d % sz t n c d)).2
  have e6 : sz t n c d * rS t n a b c d = sz t n (acA t n a b c d - (NQ t n a b c d).1 * sz t n c d) (acB a b c d - (NQ t n a b c d).2 * sz t n c d) := by
    unfold rS rsz rsA rsB
    have : acA t n a b c d = a * (c + t * d) + n * b * d := rfl
    rw [this]
    have : acB a b c d = b * c - a * d := rfl
    rw [this, ← e1]
    congr 2 <;> grind
  unfold NQ at e6
  dsimp only at e6
  rw [e2, e3, e5] at e6
  have hle : eE t n (sz t n c d) (acA t n a b c d % sz t n c d) (acB a b c d % sz t n c d) (NQc t n (sz t n c d) (acA t n a b c d % sz t n c d) (acB a b c d % sz t n c d)).1 (NQc t n (sz t n c d) (acA t n a b c d % sz t n c d) (acB a b c d % sz t n c d)).2 ≤ eE t n (sz t n c d) (acA t n a b c d % sz t n c d) (acB a b c d % sz t n c d) i j := by
    unfold bef at hb
    omega
  have hm := Int.mul_le_mul_of_nonneg_left hle (Int.le_of_lt hS)
  have k : sz t n c d * (16 * rS t n a b c d) ≤ sz t n c d * (15 * sz t n c d) := by
    have k1 : sz t n c d * (16 * rS t n a b c d) = 16 * (sz t n c d * rS t n a b c d) := by grind
    have k2 : sz t n c d * (15 * sz t n c d) = 15 * (sz t n c d * sz t n c d) := by grind
    omega
  exact Int.le_of_mul_le_mul_left k hS
/-- a number of small size has small parts -/
theorem yb_of {t n a b : Int} (h : TN t n) (hs : sz t n a b ≤ 7000000000) : yb a ∧ yb b := by
  have e := sz_4 t n a b
  have f := sz_4b t n a b
  have g1 := sq_nn (t * a + 2 * n * b)
  have g2 := sq_nn (2 * a + t * b)
  have ka : a * a ≤ 100000 * 100000 := by
    generalize (t * a + 2 * n * b) * (t * a + 2 * n * b) = Z at *
    generalize sz t n a b = N at *
    generalize a * a = A at *
    rcases h with ⟨rfl, rfl⟩ | ⟨rfl, rfl⟩ | ⟨rfl, rfl⟩ | ⟨rfl, rfl⟩ | ⟨rfl, rfl⟩ <;> omega
  have kb : b * b ≤ 100000 * 100000 := by
    generalize (2 * a + t * b) * (2 * a + t * b) = Z at *
    generalize sz t n a b = N at *
    generalize b * b = A at *
    rcases h with ⟨rfl, rfl⟩ | ⟨rfl, rfl⟩ | ⟨rfl, rfl⟩ | ⟨rfl, rfl⟩ | ⟨rfl, rfl⟩ <;> omega
  exact ⟨sq_le (by omega) ka, sq_le (by omega) kb⟩
theorem yb.x {z : Int} (h : yb z) : xb z := ⟨by have := h.1; omega, by have := h.2; omega⟩
theorem rng.y {z : Int} (h : rng z) : yb z := ⟨by have := h.1; omega, by have := h.2; omega⟩
theorem sz_rng {t n a b : Int} (h : TN t n) (ha : rng a) (hb : rng b) : sz t n a b ≤ 2000000000 := by
  have := sz_le h ha.1 ha.2 hb.1 hb.2
  omega
theorem TN_k {k : Nat} (hk : k < 5) : TN (kT k) (kN k) := by
  unfold TN kT kN
  have : k = 0 ∨ k = 1 ∨ k = 2 ∨ k = 3 ∨ k = 4 := by omega
  rcases this with rfl | rfl | rfl | rfl | rfl <;> decide
theorem sz_pos {t n a b : Int} (h : TN t n) (e : ¬ (a = 0 ∧ b = 0)) : 0 < sz t n a b := by
  have h1 := sz_nn h a b
  rcases Int.lt_or_eq_of_le h1 with g | g
  · exact g
  · exact absurd (sz_0 h g.symm) e
