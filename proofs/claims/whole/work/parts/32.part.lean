/-! when a number is a part of another; quotients moved; sharper rests -/
theorem dvd_lo {a b : Int} (ha : i64 a) (hb : i64 b) (h : 0 < b) : lo a - lo a / lo b * lo b = (0 : Int64) ↔ b ∣ a := by
  have e1 : a - a.tdiv b * b = a.tmod b := by rw [Int.tmod_def, Int.mul_comm b]
  have e2 := Int.natAbs_tmod a b
  have e3 : a.natAbs % b.natAbs < b.natAbs := Nat.mod_lt _ (by omega)
  rw [lo_div ha hb h, lo_mul, lo_sub, e1, Int.dvd_iff_tmod_eq_zero]
  exact lo_eq (b := 0) (by unfold i64 at *; omega) (by unfold i64; omega)
theorem div7 {a b : Int} (ha : i64 a) (hb : i64 b) (h : 0 < b) : (b ∣ a ∧ f_X7_divides (lo b) (lo a) = some 1) ∨ (¬ b ∣ a ∧ f_X7_divides (lo b) (lo a) = some 0) := by
  have d := dvd_lo ha hb h
  have n0 := lo_nz hb (show ¬ b = 0 by omega)
  unfold f_X7_divides
  rw [if_neg n0, if_neg n0]
  by_cases g : b ∣ a
  · left; rw [if_pos (d.mpr g)]; exact ⟨g, rfl⟩
  · right; rw [if_neg (fun e => g (d.mp e))]; exact ⟨g, rfl⟩
theorem ac_i {t n a b c d : Int} (h : TN t n) (ha : xb a) (hb : xb b) (hc : yb c) (hd : yb d) (hS : 0 < sz t n c d) : i64 (sz t n c d) ∧ i64 (acA t n a b c d) ∧ i64 (acB a b c d) := by
  obtain ⟨⟨A1, A2⟩, ⟨B1, B2⟩⟩ := ac_b h ha hb hS
  have hSb : sz t n c d ≤ 50000000000 := by have := sz_le h hc.1 hc.2 hd.1 hd.2; omega
  unfold i64
  exact ⟨by omega, by omega, by omega⟩
def PT (t n a b c d : Int) : Prop := sz t n c d ∣ acA t n a b c d ∧ sz t n c d ∣ acB a b c d
theorem part7 {t n a b c d : Int} (h : TN t n) (ha : xb a) (hb : xb b) (hc : yb c) (hd : yb d) (hS : 0 < sz t n c d) : (PT t n a b c d ∧ f_X4_isPart (io t) (io n) (pk c d) (pk a b) = some 1) ∨ (¬ PT t n a b c d ∧ f_X4_isPart (io t) (io n) (pk c d) (pk a b) = some 0) := by
  obtain ⟨iS, iA, iB⟩ := ac_i h ha hb hc hd hS
  unfold PT f_X4_isPart
  rw [sizeOf_pk h.it h.in hc.i hd.i, acrossA_pk h.it h.in ha.i hb.i hc.i hd.i, acrossB_pk ha.i hb.i hc.i hd.i]
  have eA : a * (c + t * d) + n * b * d = acA t n a b c d := rfl
  have eB : b * c - a * d = acB a b c d := rfl
  rw [eA, eB]
  rcases div7 iA iS hS with ⟨g1, e1⟩ | ⟨g1, e1⟩
  · rw [e1]
    simp only [Option.bind_some]
    rw [if_neg (by decide)]
    rcases div7 iB iS hS with ⟨g2, e2⟩ | ⟨g2, e2⟩
    · left; rw [e2]; exact ⟨⟨g1, g2⟩, rfl⟩
    · right; rw [e2]; exact ⟨fun e => g2 e.2, rfl⟩
  · right
    rw [e1]
    exact ⟨fun e => g1 e.1, rfl⟩
theorem part8 {t n a b c d : Int} (h : TN t n) (ha : xb a) (hb : xb b) (hc : yb c) (hd : yb d) (hS : 0 < sz t n c d) (x1 x2 : Int64) : (PT t n a b c d ∧ f_X8_isPart (lo t) (lo n) x1 x2 (lo a) (lo b) (lo c) (lo d) = some (1, lo (acA t n a b c d), lo (acB a b c d))) ∨ (¬ PT t n a b c d ∧ f_X8_isPart (lo t) (lo n) x1 x2 (lo a) (lo b) (lo c) (lo d) = some (0, lo (acA t n a b c d), lo (acB a b c d))) := by
  obtain ⟨iS, iA, iB⟩ := ac_i h ha hb hc hd hS
  have nS := lo_nz iS (show ¬ sz t n c d = 0 by omega)
  have dA := dvd_lo iA iS hS
  have dB := dvd_lo iB iS hS
  have h0 : ¬ (c = 0 ∧ d = 0) := by
    rintro ⟨rfl, rfl⟩
    have : sz t n 0 0 = 0 := by unfold sz; grind
    omega
  have key : (if lo (acA t n a b c d) - lo (acA t n a b c d) / lo (sz t n c d) * lo (sz t n c d) = (0 : Int64) then (if lo (acB a b c d) - lo (acB a b c d) / lo (sz t n c d) * lo (sz t n c d) = (0 : Int64) then some ((1 : Int32), lo (acA t n a b c d), lo (acB a b c d)) else some ((0 : Int32), lo (acA t n a b c d), lo (acB a b c d))) else some ((0 : Int32), lo (acA t n a b c d), lo (acB a b c d))) = f_X8_isPart (lo t) (lo n) x1 x2 (lo a) (lo b) (lo c) (lo d) := by
    unfold f_X8_isPart
    rw [acA8, acB8, sizeOf_m]
    by_cases z1 : c = 0
    · have z2 : ¬ d = 0 := fun e => h0 ⟨z1, e⟩
      rw [if_pos ((lo_z hc).mpr z1), if_neg (fun e => z2 ((lo_z hd).mp e)), if_neg nS]
    · rw [if_neg (fun e => z1 ((lo_z hc).mp e)), if_neg nS]
  rw [← key]
  unfold PT
  by_cases g1 : sz t n c d ∣ acA t n a b c d
  · rw [if_pos (dA.mpr g1)]
    by_cases g2 : sz t n c d ∣ acB a b c d
    · left; rw [if_pos (dB.mpr g2)]; exact ⟨⟨g1, g2⟩, rfl⟩
    · right; rw [if_neg (fun e => g2 (dB.mp e))]; exact ⟨fun e => g2 e.2, rfl⟩
  · right; rw [if_neg (fun e => g1 (dA.mp e))]; exact ⟨fun e => g1 e.1, rfl⟩
theorem PT_iff {t n a b c d : Int} (hS : 0 < sz t n c d) : PT t n a b c d ↔ ∃ z1 z2 : Int, a = mA n z1 z2 c d ∧ b = mB t z1 z2 c d := by
  constructor
  · rintro ⟨⟨z1, e1⟩, z2, e2⟩
    refine ⟨z1, z2, ?_, ?_⟩
    · have e : sz t n c d * a = sz t n c d * mA n z1 z2 c d := by
        have i1 : a * sz t n c d = mA n (acA t n a b c d) (acB a b c d) c d := by unfold sz mA acA acB; grind
        have i2 : mA n (sz t n c d * z1) (sz t n c d * z2) c d = sz t n c d * mA n z1 z2 c d := by unfold mA; grind
        rw [e1, e2, i2] at i1
        rw [← i1, Int.mul_comm]
      exact Int.eq_of_mul_eq_mul_left (by omega) e
    · have e : sz t n c d * b = sz t n c d * mB t z1 z2 c d := by
        have i1 : b * sz t n c d = mB t (acA t n a b c d) (acB a b c d) c d := by unfold sz mB acA acB; grind
        have i2 : mB t (sz t n c d * z1) (sz t n c d * z2) c d = sz t n c d * mB t z1 z2 c d := by unfold mB; grind
        rw [e1, e2, i2] at i1
        rw [← i1, Int.mul_comm]
      exact Int.eq_of_mul_eq_mul_left (by omega) e
  · rintro ⟨z1, z2, rfl, rfl⟩
    exact ⟨⟨z1, by unfold sz mA mB acA; grind⟩, ⟨z2, by unfold sz mA mB acB; grind⟩⟩
theorem NQ_tr {t n a b c d : Int} (hS : 0 < sz t n c d) (z1 z2 : Int) : NQ t n (a + mA n z1 z2 c d) (b + mB t z1 z2 c d) c d = ((NQ t n a b c d).1 + z1, (NQ t n a b c d).2 + z2) := by
  have e1 : acA t n (a + mA n z1 z2 c d) (b + mB t z1 z2 c d) c d = acA t n a b c d + z1 * sz t n c d := by unfold sz mA mB acA; grind
  have e2 : acB (a + mA n z1 z2 c d) (b + mB t z1 z2 c d) c d = acB a b c d + z2 * sz t n c d := by unfold sz mA mB acB; grind
  unfold NQ
  rw [e1, e2, Int.add_mul_emod_self_right, Int.add_mul_emod_self_right, Int.add_mul_ediv_right _ _ (by omega), Int.add_mul_ediv_right _ _ (by omega)]
  refine Prod.ext ?_ ?_ <;> dsimp only <;> omega
theorem mA_add (n a b c d x y : Int) : mA n (a + c) (b + d) x y = mA n a b x y + mA n c d x y := by unfold mA; grind
theorem mB_add (t a b c d x y : Int) : mB t (a + c) (b + d) x y = mB t a b x y + mB t c d x y := by unfold mB; grind
theorem rA_def (t n a b c d : Int) : rA t n a b c d = a - mA n (NQ t n a b c d).1 (NQ t n a b c d).2 c d := rfl
theorem rB_def (t n a b c d : Int) : rB t n a b c d = b - mB t (NQ t n a b c d).1 (NQ t n a b c d).2 c d := rfl
theorem rest_tr {t n a b c d : Int} (hS : 0 < sz t n c d) (z1 z2 : Int) : rA t n (a + mA n z1 z2 c d) (b + mB t z1 z2 c d) c d = rA t n a b c d ∧ rB t n (a + mA n z1 z2 c d) (b + mB t z1 z2 c d) c d = rB t n a b c d := by
  rw [rA_def, rB_def, rA_def, rB_def, NQ_tr hS]
  dsimp only
  rw [mA_add, mB_add]
  omega
/-- two numbers have one rest just when their difference is a multiple -/
theorem same_rest {t n a b x y c d : Int} (hS : 0 < sz t n c d) : PT t n (a - x) (b - y) c d ↔ rA t n a b c d = rA t n x y c d ∧ rB t n a b c d = rB t n x y c d := by
  rw [PT_iff hS]
  constructor
  · rintro ⟨z1, z2, e1, e2⟩
    have := rest_tr (a := x) (b := y) hS z1 z2
    rw [← e1, ← e2] at this
    rw [show x + (a - x) = a by omega, show y + (b - y) = b by omega] at this
    exact this
  · rintro ⟨e1, e2⟩
    rw [rA_def, rA_def] at e1
    rw [rB_def, rB_def] at e2
    refine ⟨(NQ t n a b c d).1 + -(NQ t n x y c d).1, (NQ t n a b c d).2 + -(NQ t n x y c d).2, ?_, ?_⟩
    · rw [mA_add]
      have : mA n (-(NQ t n x y c d).1) (-(NQ t n x y c d).2) c d = -mA n (NQ t n x y c d).1 (NQ t n x y c d).2 c d := by unfold mA; grind
      rw [this]
      omega
    · rw [mB_add]
      have : mB t (-(NQ t n x y c d).1) (-(NQ t n x y c d).2) c d = -mB t (NQ t n x y c d).1 (NQ t n x y c d).2 c d := by unfold mB; grind
      rw [this]
      omega
theorem self_rest {t n a b c d : Int} (h : TN t n) (hS : 0 < sz t n c d) : (NQ t n a b c d).1 = 0 ∧ (NQ t n a b c d).2 = 0 ↔ rA t n a b c d = a ∧ rB t n a b c d = b := by
  rw [rA_def, rB_def]
  constructor
  · rintro ⟨e1, e2⟩
    rw [e1, e2]
    unfold mA mB
    constructor <;> grind
  · rintro ⟨e1, e2⟩
    have z1 : mA n (NQ t n a b c d).1 (NQ t n a b c d).2 c d = 0 := by omega
    have z2 : mB t (NQ t n a b c d).1 (NQ t n a b c d).2 c d = 0 := by omega
    have e := sz_mulm t n (NQ t n a b c d).1 (NQ t n a b c d).2 c d
    rw [z1, z2] at e
    have e0 : sz t n 0 0 = 0 := by unfold sz; grind
    rw [e0] at e
    rcases Int.mul_eq_zero.mp e.symm with g | g
    · exact sz_0 h g
    · omega
theorem corner2 {t n S p q : Int} (h : TN t n) (hp : 0 ≤ p) (hp2 : p < S) (hq : 0 ≤ q) (hq2 : q < S) : ∃ i j : Int, -2 ≤ i ∧ i ≤ 3 ∧ -2 ≤ j ∧ j ≤ 3 ∧ 16 * sz t n (p - i * S) (q - j * S) ≤ (4 + 4 * n - t * t) * (S * S) := by
  obtain ⟨j, hj, y1, y2⟩ : ∃ j : Int, (j = 0 ∨ j = 1) ∧ -S ≤ 2 * (q - j * S) ∧ 2 * (q - j * S) ≤ S := by
    by_cases g : 2 * q ≤ S
    · exact ⟨0, Or.inl rfl, by omega, by omega⟩
    · exact ⟨1, Or.inr rfl, by omega, by omega⟩
  generalize ey : q - j * S = y at *
  obtain ⟨i, hi, z1, z2⟩ : ∃ i : Int, (i = 0 ∨ i = 1) ∧ -S ≤ 2 * (p - i * S) + t * y ∧ 2 * (p - i * S) + t * y ≤ S := by
    by_cases g : 2 * p + t * y ≤ S
    · refine ⟨0, Or.inl rfl, ?_, by omega⟩
      rcases h with ⟨rfl, rfl⟩ | ⟨rfl, rfl⟩ | ⟨rfl, rfl⟩ | ⟨rfl, rfl⟩ | ⟨rfl, rfl⟩ <;> omega
    · refine ⟨1, Or.inr rfl, by omega, ?_⟩
      rcases h with ⟨rfl, rfl⟩ | ⟨rfl, rfl⟩ | ⟨rfl, rfl⟩ | ⟨rfl, rfl⟩ | ⟨rfl, rfl⟩ <;> omega
  refine ⟨i, j, by omega, by omega, by omega, by omega, ?_⟩
  rw [ey]
  have e := sz_4b t n (p - i * S) y
  have m0 := sq_nn S
  have m1 := (mul_b y1 y2 y1 y2).2
  have m2 := (mul_b z1 z2 z1 z2).2
  have m3 : 2 * y * (2 * y) = 4 * (y * y) := by grind
  rw [m3] at m1
  generalize (2 * (p - i * S) + t * y) * (2 * (p - i * S) + t * y) = Z at *
  generalize sz t n (p - i * S) y = N at *
  generalize y * y = Y at *
  generalize S * S = SS at *
  rcases h with ⟨rfl, rfl⟩ | ⟨rfl, rfl⟩ | ⟨rfl, rfl⟩ | ⟨rfl, rfl⟩ | ⟨rfl, rfl⟩ <;> omega
theorem rS_le2 {t n a b c d : Int} (h : TN t n) (hS : 0 < sz t n c d) : 16 * rS t n a b c d ≤ (4 + 4 * n - t * t) * sz t n c d := by
  have p1 := Int.emod_nonneg (acA t n a b c d) (show sz t n c d ≠ 0 by omega)
  have p2 := Int.emod_lt_of_pos (acA t n a b c d) hS
  have q1 := Int.emod_nonneg (acB a b c d) (show sz t n c d ≠ 0 by omega)
  have q2 := Int.emod_lt_of_pos (acB a b c d) hS
  obtain ⟨i, j, i1, i2, j1, j2, hc⟩ := corner2 h p1 p2 q1 q2
  have hb := NQ_bef (a := a) (b := b) h hS i1 i2 j1 j2
  have e1 := sz_scale t n a b c d (NQ t n a b c d).1 (NQ t n a b c d).2
  have e2 := near_pq (A := acA t n a b c d) (i := (NQc t n (sz t n c d) (acA t n a b c d % sz t n c d) (acB a b c d % sz t n c d)).1) hS
  have e3 := near_pq (A := acB a b c d) (i := (NQc t n (sz t n c d) (acA t n a b c d % sz t n c d) (acB a b c d % sz t n c d)).2) hS
  have e4 := sz_shift t n (sz t n c d) (acA t n a b c d % sz t n c d) (acB a b c d % sz t n c d) i j
  have e5 := sz_shift t n (sz t n c d) (acA t n a b c d % sz t n c d) (acB a b c d % sz t n c d) (NQc t n (sz t n c d) (acA t n a b c d % sz t n c d) (acB a b c d % sz t n c d)).1 (NQc t n (sz t n c d) (acA t n a b c d % sz t n c d) (acB a b c d % sz t n c d)).2
  have e6 : sz t n c d * rS t n a b c d = sz t n (acA t n a b c d - (NQ t n a b c d).1 * sz t n c d) (acB a b c d - (NQ t n a b c d).2 * sz t n c d) := by
    unfold rS rsz rsA rsB
    have : acA t n a b c d = a * (c + t * d) + n * b * d := rfl
    rw [this]
    have : acB a b c d = b * c - a * d := rfl
    rw [this, ← e1]
    congr 2 <;> grind
  unfold NQ at e6
  dsimp only at e6
  rw [e2, e3, e5] at e6
  have hle : eE t n (sz t n c d) (acA t n a b c d % sz t n c d) (acB a b c d % sz t n c d) (NQc t n (sz t n c d) (acA t n a b c d % sz t n c d) (acB a b c d % sz t n c d)).1 (NQc t n (sz t n c d) (acA t n a b c d % sz t n c d) (acB a b c d % sz t n c d)).2 ≤ eE t n (sz t n c d) (acA t n a b c d % sz t n c d) (acB a b c d % sz t n c d) i j := by
    unfold bef at hb
    omega
  have hm := Int.mul_le_mul_of_nonneg_left hle (Int.le_of_lt hS)
  generalize 4 + 4 * n - t * t = C at *
  have k : sz t n c d * (16 * rS t n a b c d) ≤ sz t n c d * (C * sz t n c d) := by
    have k1 : sz t n c d * (16 * rS t n a b c d) = 16 * (sz t n c d * rS t n a b c d) := by grind
    have k2 : sz t n c d * (C * sz t n c d) = C * (sz t n c d * sz t n c d) := by grind
    omega
  exact Int.le_of_mul_le_mul_left k hS
theorem sq_lt {x y : Int} (hy : 0 ≤ y) (h : x * x < y * y) : -y < x ∧ x < y := by
  constructor
  · rcases Int.lt_or_le (-y) x with g | g
    · exact g
    · have := Int.mul_nonneg (show 0 ≤ -x - y by omega) (show 0 ≤ -x + y by omega)
      have e : (-x - y) * (-x + y) = x * x - y * y := by grind
      omega
  · rcases Int.lt_or_le x y with g | g
    · exact g
    · have := Int.mul_nonneg (show 0 ≤ x - y by omega) (show 0 ≤ x + y by omega)
      have e : (x - y) * (x + y) = x * x - y * y := by grind
      omega
theorem rest_20 {t n a b c d : Int} (h : TN t n) (hS : 0 < sz t n c d) (hm : sz t n c d ≤ 400) : (-20 ≤ rA t n a b c d ∧ rA t n a b c d ≤ 20) ∧ -20 ≤ rB t n a b c d ∧ rB t n a b c d ≤ 20 := by
  have h1 := rS_le2 (a := a) (b := b) h hS
  rw [← rS_def] at h1
  generalize rA t n a b c d = x at *
  generalize rB t n a b c d = y at *
  have e := sz_4 t n x y
  have f := sz_4b t n x y
  have g1 := sq_nn (t * x + 2 * n * y)
  have g2 := sq_nn (2 * x + t * y)
  have ka : x * x < 21 * 21 := by
    generalize (t * x + 2 * n * y) * (t * x + 2 * n * y) = Z at *
    generalize sz t n x y = N at *
    generalize sz t n c d = M at *
    generalize x * x = A at *
    rcases h with ⟨rfl, rfl⟩ | ⟨rfl, rfl⟩ | ⟨rfl, rfl⟩ | ⟨rfl, rfl⟩ | ⟨rfl, rfl⟩ <;> omega
  have kb : y * y < 21 * 21 := by
    generalize (2 * x + t * y) * (2 * x + t * y) = Z at *
    generalize sz t n x y = N at *
    generalize sz t n c d = M at *
    generalize y * y = A at *
    rcases h with ⟨rfl, rfl⟩ | ⟨rfl, rfl⟩ | ⟨rfl, rfl⟩ | ⟨rfl, rfl⟩ | ⟨rfl, rfl⟩ <;> omega
  have s1 := sq_lt (by omega) ka
  have s2 := sq_lt (by omega) kb
  omega
