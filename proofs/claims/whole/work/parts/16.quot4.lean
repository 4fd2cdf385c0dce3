/-! the class' quotient and rest, as values -/
theorem TN.it {t n : Int} (h : TN t n) : i32 t := by rcases h with ⟨rfl, rfl⟩ | ⟨rfl, rfl⟩ | ⟨rfl, rfl⟩ | ⟨rfl, rfl⟩ | ⟨rfl, rfl⟩ <;> unfold i32 <;> omega
theorem TN.in {t n : Int} (h : TN t n) : i32 n := by rcases h with ⟨rfl, rfl⟩ | ⟨rfl, rfl⟩ | ⟨rfl, rfl⟩ | ⟨rfl, rfl⟩ | ⟨rfl, rfl⟩ <;> unfold i32 <;> omega
def NQ (t n a b c d : Int) : Int × Int := (acA t n a b c d / sz t n c d + (NQc t n (sz t n c d) (acA t n a b c d % sz t n c d) (acB a b c d % sz t n c d)).1, acB a b c d / sz t n c d + (NQc t n (sz t n c d) (acA t n a b c d % sz t n c d) (acB a b c d % sz t n c d)).2)
/-- the rest by u + v w, its a and b; its size -/
def rsA (n a c d u v : Int) : Int := a - (u * c - n * (v * d))
def rsB (t b c d u v : Int) : Int := b - (u * d + v * c + t * (v * d))
def rsz (t n a b c d u v : Int) : Int := sz t n (rsA n a c d u v) (rsB t b c d u v)
theorem near_pq {A S i : Int} (hS : 0 < S) : A - (A / S + i) * S = A % S - i * S := by
  have h := Int.emod_add_mul_ediv A S
  have e : (A / S + i) * S = S * (A / S) + i * S := by grind
  omega
/-- a quotient about the floor: its parts fit, its rest is small -/
theorem near_ok {t n a b c d i j : Int} (h : TN t n) (ha : xb a) (hb : xb b) (hc : yb c) (hd : yb d) (hS : 0 < sz t n c d) (hi : -3 ≤ i) (hi2 : i ≤ 4) (hj : -3 ≤ j) (hj2 : j ≤ 4) : (-100000010 ≤ acA t n a b c d / sz t n c d + i ∧ acA t n a b c d / sz t n c d + i ≤ 100000010) ∧ (-100000010 ≤ acB a b c d / sz t n c d + j ∧ acB a b c d / sz t n c d + j ≤ 100000010) ∧ (-2000000 ≤ rsA n a c d (acA t n a b c d / sz t n c d + i) (acB a b c d / sz t n c d + j) ∧ rsA n a c d (acA t n a b c d / sz t n c d + i) (acB a b c d / sz t n c d + j) ≤ 2000000) ∧ (-2000000 ≤ rsB t b c d (acA t n a b c d / sz t n c d + i) (acB a b c d / sz t n c d + j) ∧ rsB t b c d (acA t n a b c d / sz t n c d + i) (acB a b c d / sz t n c d + j) ≤ 2000000) ∧ sz t n c d * rsz t n a b c d (acA t n a b c d / sz t n c d + i) (acB a b c d / sz t n c d + j) = sz t n (acA t n a b c d % sz t n c d) (acB a b c d % sz t n c d) + sz t n c d * eE t n (sz t n c d) (acA t n a b c d % sz t n c d) (acB a b c d % sz t n c d) i j := by
  obtain ⟨⟨A1, A2⟩, ⟨B1, B2⟩⟩ := ac_b h ha hb hS
  have eP := near_pq (A := acA t n a b c d) (i := i) hS
  have eQ := near_pq (A := acB a b c d) (i := j) hS
  have p1 := Int.emod_nonneg (acA t n a b c d) (show sz t n c d ≠ 0 by omega)
  have p2 := Int.emod_lt_of_pos (acA t n a b c d) hS
  have q1 := Int.emod_nonneg (acB a b c d) (show sz t n c d ≠ 0 by omega)
  have q2 := Int.emod_lt_of_pos (acB a b c d) hS
  have hu1 : acA t n a b c d / sz t n c d ≤ 100000000 := Int.ediv_le_of_le_mul hS A2
  have hu2 : -100000000 ≤ acA t n a b c d / sz t n c d := (Int.le_ediv_iff_mul_le hS).mpr (by omega)
  have hv1 : acB a b c d / sz t n c d ≤ 100000000 := Int.ediv_le_of_le_mul hS B2
  have hv2 : -100000000 ≤ acB a b c d / sz t n c d := (Int.le_ediv_iff_mul_le hS).mpr (by omega)
  have ei : i * sz t n c d = -3 * sz t n c d ∨ i * sz t n c d = -2 * sz t n c d ∨ i * sz t n c d = -1 * sz t n c d ∨ i * sz t n c d = 0 ∨ i * sz t n c d = 1 * sz t n c d ∨ i * sz t n c d = 2 * sz t n c d ∨ i * sz t n c d = 3 * sz t n c d ∨ i * sz t n c d = 4 * sz t n c d := by
    rcases (show i = -3 ∨ i = -2 ∨ i = -1 ∨ i = 0 ∨ i = 1 ∨ i = 2 ∨ i = 3 ∨ i = 4 by omega) with rfl | rfl | rfl | rfl | rfl | rfl | rfl | rfl <;> simp
  have ej : j * sz t n c d = -3 * sz t n c d ∨ j * sz t n c d = -2 * sz t n c d ∨ j * sz t n c d = -1 * sz t n c d ∨ j * sz t n c d = 0 ∨ j * sz t n c d = 1 * sz t n c d ∨ j * sz t n c d = 2 * sz t n c d ∨ j * sz t n c d = 3 * sz t n c d ∨ j * sz t n c d = 4 * sz t n c d := by
    rcases (show j = -3 ∨ j = -2 ∨ j = -1 ∨ j = 0 ∨ j = 1 ∨ j = 2 ∨ j = 3 ∨ j = 4 by omega) with rfl | rfl | rfl | rfl | rfl | rfl | rfl | rfl <;> simp
  obtain ⟨r1, r2⟩ := rest_bd h (a := a) (b := b) (u := acA t n a b c d / sz t n c d + i) (v := acB a b c d / sz t n c d + j) hc hd hS (by omega) (by omega) (by omega) (by omega)
  refine ⟨by omega, by omega, r1, r2, ?_⟩
  unfold rsz rsA rsB
  rw [rest_sz, eP, eQ, sz_shift]
