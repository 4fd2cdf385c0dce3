/-! the class' quotient: its value -/
theorem fl_ediv (a b : Int) (h : 0 < b) : a.tdiv b = if 0 ≤ a ∨ b ∣ a then a / b else a / b + 1 := by
  rw [Int.tdiv_eq_ediv]
  by_cases q : 0 ≤ a ∨ b ∣ a
  · rw [if_pos q, if_pos q]; omega
  · rw [if_neg q, if_neg q, Int.sign_eq_one_of_pos h]
theorem neg_msb (x : Int64) : x < 0 ↔ x.toBitVec.msb = true := by
  rw [Int64.lt_iff_toInt_lt, BitVec.msb_eq_toInt, decide_eq_true_eq]
  exact Iff.rfl
theorem xor_sign (x y : Int64) (hy : ¬ y < 0) : (0 : Int64) ≤ (x ^^^ y) ↔ ¬ x < 0 := by
  have h1 : (0 : Int64) ≤ (x ^^^ y) ↔ ¬ (x ^^^ y) < 0 := by
    rw [Int64.le_iff_toInt_le, Int64.lt_iff_toInt_lt]; omega
  rw [h1, neg_msb, neg_msb, Int64.toBitVec_xor, BitVec.msb_xor]
  rw [neg_msb] at hy
  have hy2 : y.toBitVec.msb = false := by simpa using hy
  rw [hy2]
  simp
theorem fl7 {a b : Int} (ha : i64 a) (hb : i64 b) (h : 0 < b) : f_J9_floorDiv_f86c9 (lo a) (lo b) = some (lo (a / b)) := by
  have h0 : ¬ lo b = 0 := fun e => by have := (lo_eq (b := 0) hb (by unfold i64; omega)).mp e; omega
  have hb0 : ¬ lo b < 0 := fun e => by have := (lo_lt (b := 0) hb (by unfold i64; omega)).mp e; omega
  have ha0 : lo a < 0 ↔ a < 0 := lo_lt (b := 0) ha (by unfold i64; omega)
  have hd := Int.emod_add_mul_ediv a b
  have hm := Int.emod_nonneg a (show b ≠ 0 by omega)
  have hm2 := Int.emod_lt_of_pos a h
  unfold f_J9_floorDiv_f86c9
  rw [if_neg h0, lo_div ha hb h]
  by_cases q : a < 0
  · rw [if_neg (fun e => (xor_sign _ _ hb0).mp e (ha0.mpr q))]
    by_cases d : b ∣ a
    · have ht : a.tdiv b = a / b := by rw [fl_ediv a b h, if_pos (Or.inr d)]
      rw [ht, lo_mul, if_pos (by rw [Int.ediv_mul_cancel d])]
    · have ht : a.tdiv b = a / b + 1 := by rw [fl_ediv a b h, if_neg (fun x => x.elim (fun y => by omega) d)]
      have hr : (a / b + 1) * b = a + b - a % b := by
        have : (a / b + 1) * b = b * (a / b) + b := by grind
        omega
      have hne : a % b ≠ 0 := fun e => d (Int.dvd_of_emod_eq_zero e)
      have hi : i64 ((a / b + 1) * b) := by rw [hr]; have := ha.1; have := hb.2; constructor <;> omega
      rw [ht, lo_mul, if_neg (fun e => by have := (lo_eq hi ha).mp e; omega)]
      have e1 : lo (a / b + 1) - (1 : Int64) = lo (a / b + 1 - 1) := lo_sub _ 1
      rw [e1, Int.add_sub_cancel]
  · have ht : a.tdiv b = a / b := by rw [fl_ediv a b h, if_pos (Or.inl (by omega))]
    rw [if_pos ((xor_sign _ _ hb0).mpr (fun e => q (ha0.mp e))), ht]
theorem fl8 {a b : Int} (ha : i64 a) (hb : i64 b) (h : 0 < b) : f_X8_floor (lo a) (lo b) = some (lo (a / b)) := by
  have h0 : ¬ lo b = 0 := fun e => by have := (lo_eq (b := 0) hb (by unfold i64; omega)).mp e; omega
  have hb1 : (0 : Int64) ≤ lo b := (lo_le (a := 0) (by unfold i64; omega) hb).mpr (by omega)
  have ha1 : (0 : Int64) ≤ lo a ↔ 0 ≤ a := lo_le (a := 0) (by unfold i64; omega) ha
  have hd := Int.emod_add_mul_ediv a b
  have hm := Int.emod_nonneg a (show b ≠ 0 by omega)
  have hm2 := Int.emod_lt_of_pos a h
  unfold f_X8_floor
  rw [if_neg h0, lo_div ha hb h]
  by_cases q : 0 ≤ a
  · have ht : a.tdiv b = a / b := by rw [fl_ediv a b h, if_pos (Or.inl q)]
    rw [ht, lo_mul, lo_sub, if_pos (ha1.mpr q), if_pos hb1, if_pos rfl]
    split <;> rfl
  · by_cases d : b ∣ a
    · have ht : a.tdiv b = a / b := by rw [fl_ediv a b h, if_pos (Or.inr d)]
      have e1 : a - a / b * b = 0 := by rw [Int.ediv_mul_cancel d]; omega
      have e2 : lo 0 = (0 : Int64) := rfl
      rw [ht, lo_mul, lo_sub, e1, if_pos e2]
    · have ht : a.tdiv b = a / b + 1 := by rw [fl_ediv a b h, if_neg (fun x => x.elim q d)]
      have hne : a % b ≠ 0 := fun e => d (Int.dvd_of_emod_eq_zero e)
      have hr : a - (a / b + 1) * b = a % b - b := by
        have : (a / b + 1) * b = b * (a / b) + b := by grind
        omega
      have hi : i64 (a % b - b) := by have := hb.2; constructor <;> omega
      have e1 : lo (a / b + 1) - (1 : Int64) = lo (a / b + 1 - 1) := lo_sub _ 1
      rw [ht, lo_mul, lo_sub, hr, if_neg (fun e => by have := (lo_eq (b := 0) hi (by unfold i64; omega)).mp e; omega), if_neg (fun e => q (ha1.mp e)), if_pos hb1, if_neg (by decide), e1, Int.add_sub_cancel]
def stp (t n S p q : Int) (b c : Int × Int) : Int × Int := if eE t n S p q c.1 c.2 < eE t n S p q b.1 b.2 then c else b
def NQc (t n S p q : Int) : Int × Int := stp t n S p q (stp t n S p q (stp t n S p q (0, 0) (0, 1)) (1, 0)) (1, 1)
theorem bef_trans {t n S p q a b c d e f : Int} (h : bef t n S p q a b c d) (g : bef t n S p q c d e f) : bef t n S p q a b e f := by
  unfold bef at *
  omega
theorem bef_anti {t n S p q a b c d : Int} (h : bef t n S p q a b c d) (g : bef t n S p q c d a b) : a = c ∧ b = d := by
  unfold bef at *
  omega
theorem bef_rf (t n S p q a b : Int) : bef t n S p q a b a b := Or.inr ⟨rfl, Or.inr ⟨rfl, Int.le_refl b⟩⟩
theorem stp_spec (t n S p q : Int) (b c : Int × Int) (h : b.1 < c.1 ∨ (b.1 = c.1 ∧ b.2 ≤ c.2)) : bef t n S p q (stp t n S p q b c).1 (stp t n S p q b c).2 b.1 b.2 ∧ bef t n S p q (stp t n S p q b c).1 (stp t n S p q b c).2 c.1 c.2 ∧ (stp t n S p q b c = b ∨ stp t n S p q b c = c) := by
  unfold stp
  by_cases g : eE t n S p q c.1 c.2 < eE t n S p q b.1 b.2
  · rw [if_pos g]
    exact ⟨Or.inl g, bef_rf .., Or.inr rfl⟩
  · rw [if_neg g]
    refine ⟨bef_rf .., ?_, Or.inl rfl⟩
    unfold bef
    omega
theorem NQc_spec (t n S p q : Int) : ((NQc t n S p q).1 = 0 ∨ (NQc t n S p q).1 = 1) ∧ ((NQc t n S p q).2 = 0 ∨ (NQc t n S p q).2 = 1) ∧ bef t n S p q (NQc t n S p q).1 (NQc t n S p q).2 0 0 ∧ bef t n S p q (NQc t n S p q).1 (NQc t n S p q).2 0 1 ∧ bef t n S p q (NQc t n S p q).1 (NQc t n S p q).2 1 0 ∧ bef t n S p q (NQc t n S p q).1 (NQc t n S p q).2 1 1 := by
  unfold NQc
  obtain ⟨a1, a2, a3⟩ := stp_spec t n S p q (0, 0) (0, 1) (by decide)
  generalize stp t n S p q (0, 0) (0, 1) = b1 at *
  have l1 : b1.1 < (1, 0).1 ∨ (b1.1 = (1, 0).1 ∧ b1.2 ≤ (1, 0).2) := by rcases a3 with rfl | rfl <;> decide
  obtain ⟨c1, c2, c3⟩ := stp_spec t n S p q b1 (1, 0) l1
  generalize stp t n S p q b1 (1, 0) = b2 at *
  have l2 : b2.1 < (1, 1).1 ∨ (b2.1 = (1, 1).1 ∧ b2.2 ≤ (1, 1).2) := by rcases c3 with rfl | rfl <;> first | decide | (rcases a3 with rfl | rfl <;> decide)
  obtain ⟨d1, d2, d3⟩ := stp_spec t n S p q b2 (1, 1) l2
  generalize stp t n S p q b2 (1, 1) = b3 at *
  refine ⟨?_, ?_, bef_trans d1 (bef_trans c1 a1), bef_trans d1 (bef_trans c1 a2), bef_trans d1 c2, d2⟩
  · rcases d3 with rfl | rfl <;> first | decide | (rcases c3 with rfl | rfl <;> first | decide | (rcases a3 with rfl | rfl <;> decide))
  · rcases d3 with rfl | rfl <;> first | decide | (rcases c3 with rfl | rfl <;> first | decide | (rcases a3 with rfl | rfl <;> decide))
