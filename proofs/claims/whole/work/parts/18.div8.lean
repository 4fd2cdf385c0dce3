/-! the reference's division: the same quotient, the same rest -/
theorem rA8 (n a c d u v : Int) : lo a - f_X8_times_mod_a (lo n) (lo u) (lo v) (lo c) (lo d) = lo (rsA n a c d u v) := by
  rw [timesA_m, lo_sub]
  unfold rsA
  rw [Int.mul_assoc]
theorem rB8 (t b c d u v : Int) : lo b - f_X8_times_mod_b (lo t) (lo u) (lo v) (lo c) (lo d) = lo (rsB t b c d u v) := by
  rw [timesB_m, lo_sub]
  unfold rsB
  rw [Int.mul_assoc t]
theorem acA8 (t n a b c d : Int) : f_X8_times_mod_a (lo n) (lo a) (lo b) (lo c + lo t * lo d) (-lo d) = lo (acA t n a b c d) := by
  rw [lo_mul, lo_add, lo_neg, timesA_m]
  congr 1
  unfold acA
  grind
theorem acB8 (t a b c d : Int) : f_X8_times_mod_b (lo t) (lo a) (lo b) (lo c + lo t * lo d) (-lo d) = lo (acB a b c d) := by
  rw [lo_mul, lo_add, lo_neg, timesB_m]
  congr 1
  unfold acB
  grind
/-- what has been tried: all up to (i, j) -/
def Pd (i j i' j' : Int) : Prop := -2 ≤ i' ∧ i' ≤ 3 ∧ -2 ≤ j' ∧ j' ≤ 3 ∧ (i' < i ∨ (i' = i ∧ j' < j))
def MBI (t n a b c d : Int) (P : Int → Int → Prop) (best ra rb qa qb : Int64) : Prop := (best = lo (-1) ∧ ∀ i j, ¬ P i j) ∨ ∃ i j, P i j ∧ -2 ≤ i ∧ i ≤ 3 ∧ -2 ≤ j ∧ j ≤ 3 ∧ (∀ i' j', P i' j' → bef t n (sz t n c d) (acA t n a b c d % sz t n c d) (acB a b c d % sz t n c d) i j i' j') ∧ best = lo (rsz t n a b c d (acA t n a b c d / sz t n c d + i) (acB a b c d / sz t n c d + j)) ∧ ra = lo (rsA n a c d (acA t n a b c d / sz t n c d + i) (acB a b c d / sz t n c d + j)) ∧ rb = lo (rsB t b c d (acA t n a b c d / sz t n c d + i) (acB a b c d / sz t n c d + j)) ∧ qa = lo (acA t n a b c d / sz t n c d + i) ∧ qb = lo (acB a b c d / sz t n c d + j)
theorem MBI.mono {t n a b c d : Int} {P Q : Int → Int → Prop} {best ra rb qa qb : Int64} (h : MBI t n a b c d P best ra rb qa qb) (e : ∀ i j, P i j ↔ Q i j) : MBI t n a b c d Q best ra rb qa qb := by
  rcases h with ⟨h1, h2⟩ | ⟨i, j, h1, h2, h3, h4, h5, h6, h7⟩
  · exact Or.inl ⟨h1, fun i j q => h2 i j ((e i j).mpr q)⟩
  · exact Or.inr ⟨i, j, (e i j).mp h1, h2, h3, h4, h5, fun i' j' q => h6 i' j' ((e i' j').mpr q), h7⟩
theorem d8_in {t n a b c d : Int} (h : TN t n) (ha : xb a) (hb : xb b) (hc : yb c) (hd : yb d) (hS : 0 < sz t n c d) {i j : Int} (hi : -2 ≤ i) (hi2 : i ≤ 3) (hj : -2 ≤ j) (hj2 : j ≤ 3) (b0 ra rb xa xB qa qb : Int64) (hm : MBI t n a b c d (Pd i j) b0 ra rb qa qb) :
    ∃ b1 ra1 rb1 xa1 xb1 qa1 qb1, f_X8_divide_L90 (lo t) (lo n) (lo a) (lo b) (lo c) (lo d) (lo (acB a b c d / sz t n c d - 2)) (lo (acA t n a b c d / sz t n c d + i)) (b0, ra, rb, lo (acB a b c d / sz t n c d + j), xa, xB, qa, qb) = some (Sum.inl (b1, ra1, rb1, lo (acB a b c d / sz t n c d + (j + 1)), xa1, xb1, qa1, qb1)) ∧ MBI t n a b c d (Pd i (j + 1)) b1 ra1 rb1 qa1 qb1 := by
  obtain ⟨u1, v1, r1, r2, e1⟩ := near_ok (i := i) (j := j) h ha hb hc hd hS (by omega) (by omega) (by omega) (by omega)
  obtain ⟨z1, z2⟩ := rsz_i h r1 r2
  have e6 : lo (acB a b c d / sz t n c d - 2) + (6 : Int64) = lo (acB a b c d / sz t n c d - 2 + 6) := lo_add _ 6
  have e7 : lo (acB a b c d / sz t n c d + j) + (1 : Int64) = lo (acB a b c d / sz t n c d + (j + 1)) := by
    have : lo (acB a b c d / sz t n c d + j) + (1 : Int64) = lo (acB a b c d / sz t n c d + j + 1) := lo_add _ 1
    rw [this, Int.add_assoc]
  have c1 : ¬ lo (acB a b c d / sz t n c d - 2 + 6) ≤ lo (acB a b c d / sz t n c d + j) := fun e => by
    have := (lo_le (by unfold i64; omega) (by unfold i64; omega)).mp e
    omega
  have rf : ∀ i' j', Pd i (j + 1) i' j' → Pd i j i' j' ∨ (i' = i ∧ j' = j) := fun i' j' q => by unfold Pd at *; omega
  unfold f_X8_divide_L90
  dsimp only
  rw [e6, if_neg c1, rA8, rB8, sizeOf_m, e7]
  rcases hm with ⟨h1, h2⟩ | ⟨zi, zj, h1, h2, h3, h4, h5, h6, h7, h8, h9, h10, h11⟩
  · rw [h1, if_pos (by decide)]
    refine ⟨_, _, _, _, _, _, _, rfl, Or.inr ⟨i, j, by unfold Pd; omega, hi, hi2, hj, hj2, fun i' j' q => ?_, rfl, rfl, rfl, rfl, rfl⟩⟩
    rcases rf i' j' q with g | ⟨rfl, rfl⟩
    · exact absurd g (h2 i' j')
    · exact bef_rf ..
  · obtain ⟨-, -, g1, g2, e2⟩ := near_ok (i := zi) (j := zj) h ha hb hc hd hS (by omega) (by omega) (by omega) (by omega)
    obtain ⟨z3, z4⟩ := rsz_i h g1 g2
    have hcmp := rsz_cmp hS e1 e2
    have hle := lo_le (a := rsz t n a b c d (acA t n a b c d / sz t n c d + zi) (acB a b c d / sz t n c d + zj)) (b := rsz t n a b c d (acA t n a b c d / sz t n c d + i) (acB a b c d / sz t n c d + j)) (by unfold i64; omega) (by unfold i64; omega)
    have hlt := lo_lt (a := rsz t n a b c d (acA t n a b c d / sz t n c d + zi) (acB a b c d / sz t n c d + zj)) (b := 0) (by unfold i64; omega) (by unfold i64; omega)
    rw [h7, if_neg (fun e => by have := hlt.mp e; omega)]
    have esz : sz t n (rsA n a c d (acA t n a b c d / sz t n c d + i) (acB a b c d / sz t n c d + j)) (rsB t b c d (acA t n a b c d / sz t n c d + i) (acB a b c d / sz t n c d + j)) = rsz t n a b c d (acA t n a b c d / sz t n c d + i) (acB a b c d / sz t n c d + j) := rfl
    rw [esz]
    by_cases q : rsz t n a b c d (acA t n a b c d / sz t n c d + zi) (acB a b c d / sz t n c d + zj) ≤ rsz t n a b c d (acA t n a b c d / sz t n c d + i) (acB a b c d / sz t n c d + j)
    · rw [if_pos (hle.mpr q)]
      refine ⟨_, _, _, _, _, _, _, rfl, Or.inr ⟨zi, zj, by unfold Pd at *; omega, h2, h3, h4, h5, fun i' j' g => ?_, rfl, h8, h9, h10, h11⟩⟩
      rcases rf i' j' g with g | ⟨rfl, rfl⟩
      · exact h6 i' j' g
      · unfold bef
        unfold Pd at h1
        omega
    · rw [if_neg (fun e => q (hle.mp e))]
      refine ⟨_, _, _, _, _, _, _, rfl, Or.inr ⟨i, j, by unfold Pd; omega, hi, hi2, hj, hj2, fun i' j' g => ?_, rfl, rfl, rfl, rfl, rfl⟩⟩
      rcases rf i' j' g with g | ⟨rfl, rfl⟩
      · exact bef_trans (Or.inl (by omega)) (h6 i' j' g)
      · exact bef_rf ..
