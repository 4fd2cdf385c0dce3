theorem pk_def (x y : Int) : f_X4_number (lo x) (lo y) = pk x y := rfl
theorem rsz_cmp {S r1 r2 C E1 E2 : Int} (hS : 0 < S) (h1 : S * r1 = C + S * E1) (h2 : S * r2 = C + S * E2) : r1 - r2 = E1 - E2 := by
  apply Int.eq_of_mul_eq_mul_left (a := S) (by omega)
  have e1 : S * (r1 - r2) = S * r1 - S * r2 := by grind
  have e2 : S * (E1 - E2) = S * E1 - S * E2 := by grind
  omega
theorem rsz_i {t n a b c d u v : Int} (h : TN t n) (h1 : -2000000 ≤ rsA n a c d u v ∧ rsA n a c d u v ≤ 2000000) (h2 : -2000000 ≤ rsB t b c d u v ∧ rsB t b c d u v ≤ 2000000) : 0 ≤ rsz t n a b c d u v ∧ rsz t n a b c d u v ≤ 20000000000000 := by
  have e := sz_le h h1.1 h1.2 h2.1 h2.2
  exact ⟨sz_nn h _ _, by unfold rsz; omega⟩
theorem szv7 {t n a b c d i j : Int} (h : TN t n) (ha : xb a) (hb : xb b) (hc : yb c) (hd : yb d) (hS : 0 < sz t n c d) (hi : -3 ≤ i) (hi2 : i ≤ 4) (hj : -3 ≤ j) (hj2 : j ≤ 4) : f_X4_less (pk a b) (f_X4_times (io t) (io n) (pk (acA t n a b c d / sz t n c d + i) (acB a b c d / sz t n c d + j)) (pk c d)) = pk (rsA n a c d (acA t n a b c d / sz t n c d + i) (acB a b c d / sz t n c d + j)) (rsB t b c d (acA t n a b c d / sz t n c d + i) (acB a b c d / sz t n c d + j)) := by
  obtain ⟨u1, v1, r1, r2, -⟩ := near_ok h ha hb hc hd hS hi hi2 hj hj2
  generalize acA t n a b c d / sz t n c d + i = u at *
  generalize acB a b c d / sz t n c d + j = v at *
  have e1 : u * c - n * (v * d) = a - rsA n a c d u v := by unfold rsA; omega
  have e2 : u * d + v * c + t * (v * d) = b - rsB t b c d u v := by unfold rsB; omega
  rw [times_pk h.it h.in (by unfold i32; omega) (by unfold i32; omega) hc.i hd.i, less_pk ha.i hb.i (by rw [e1]; unfold i32 xb at *; omega) (by rw [e2]; unfold i32 xb at *; omega)]
  rfl
theorem szs7 {t n a b c d i j : Int} (h : TN t n) (ha : xb a) (hb : xb b) (hc : yb c) (hd : yb d) (hS : 0 < sz t n c d) (hi : -3 ≤ i) (hi2 : i ≤ 4) (hj : -3 ≤ j) (hj2 : j ≤ 4) : f_X4_sizeOf (io t) (io n) (f_X4_less (pk a b) (f_X4_times (io t) (io n) (pk (acA t n a b c d / sz t n c d + i) (acB a b c d / sz t n c d + j)) (pk c d))) = lo (rsz t n a b c d (acA t n a b c d / sz t n c d + i) (acB a b c d / sz t n c d + j)) := by
  obtain ⟨-, -, r1, r2, -⟩ := near_ok h ha hb hc hd hS hi hi2 hj hj2
  rw [szv7 h ha hb hc hd hS hi hi2 hj hj2, sizeOf_pk h.it h.in (by unfold i32; omega) (by unfold i32; omega)]
  rfl
theorem q7_step {t n a b c d : Int} {cc : Int32} {i j : Int} {w : Int × Int} (h : TN t n) (ha : xb a) (hb : xb b) (hc : yb c) (hd : yb d) (hS : 0 < sz t n c d) (h1 : ¬ (4 : Int32) ≤ cc) (h2 : (cc / (2 : Int32)).toInt64 = lo i) (h3 : (cc - cc / (2 : Int32) * (2 : Int32)).toInt64 = lo j) (hi : i = 0 ∨ i = 1) (hj : j = 0 ∨ j = 1) (hw1 : w.1 = 0 ∨ w.1 = 1) (hw2 : w.2 = 0 ∨ w.2 = 1) :
    f_X4_quotient_L70 (io t) (io n) (pk a b) (pk c d) (lo (acA t n a b c d / sz t n c d)) (lo (acB a b c d / sz t n c d)) (pk (acA t n a b c d / sz t n c d + w.1) (acB a b c d / sz t n c d + w.2), lo (rsz t n a b c d (acA t n a b c d / sz t n c d + w.1) (acB a b c d / sz t n c d + w.2)), cc) = some (Sum.inl (pk (acA t n a b c d / sz t n c d + (stp t n (sz t n c d) (acA t n a b c d % sz t n c d) (acB a b c d % sz t n c d) w (i, j)).1) (acB a b c d / sz t n c d + (stp t n (sz t n c d) (acA t n a b c d % sz t n c d) (acB a b c d % sz t n c d) w (i, j)).2), lo (rsz t n a b c d (acA t n a b c d / sz t n c d + (stp t n (sz t n c d) (acA t n a b c d % sz t n c d) (acB a b c d % sz t n c d) w (i, j)).1) (acB a b c d / sz t n c d + (stp t n (sz t n c d) (acA t n a b c d % sz t n c d) (acB a b c d % sz t n c d) w (i, j)).2)), cc + 1)) := by
  obtain ⟨-, -, r1, r2, e1⟩ := near_ok (i := i) (j := j) h ha hb hc hd hS (by omega) (by omega) (by omega) (by omega)
  obtain ⟨-, -, g1, g2, e2⟩ := near_ok (i := w.1) (j := w.2) h ha hb hc hd hS (by omega) (by omega) (by omega) (by omega)
  have hcmp := rsz_cmp hS e1 e2
  obtain ⟨z1, z2⟩ := rsz_i h r1 r2
  obtain ⟨z3, z4⟩ := rsz_i h g1 g2
  unfold f_X4_quotient_L70
  dsimp only
  rw [if_neg h1, h2, h3, lo_add, lo_add, pk_def, szs7 h ha hb hc hd hS (by omega) (by omega) (by omega) (by omega)]
  unfold stp
  have hle := lo_le (a := rsz t n a b c d (acA t n a b c d / sz t n c d + w.1) (acB a b c d / sz t n c d + w.2)) (b := rsz t n a b c d (acA t n a b c d / sz t n c d + i) (acB a b c d / sz t n c d + j)) (by unfold i64; omega) (by unfold i64; omega)
  by_cases q : eE t n (sz t n c d) (acA t n a b c d % sz t n c d) (acB a b c d % sz t n c d) i j < eE t n (sz t n c d) (acA t n a b c d % sz t n c d) (acB a b c d % sz t n c d) w.1 w.2
  · rw [if_neg (fun x => by have := hle.mp x; omega), if_pos q]
  · rw [if_pos (hle.mpr (by omega)), if_neg q]
theorem stp_01 {t n S p q : Int} {b c : Int × Int} (h1 : b.1 = 0 ∨ b.1 = 1) (h2 : b.2 = 0 ∨ b.2 = 1) (h3 : c.1 = 0 ∨ c.1 = 1) (h4 : c.2 = 0 ∨ c.2 = 1) : ((stp t n S p q b c).1 = 0 ∨ (stp t n S p q b c).1 = 1) ∧ ((stp t n S p q b c).2 = 0 ∨ (stp t n S p q b c).2 = 1) := by
  unfold stp
  split
  · exact ⟨h3, h4⟩
  · exact ⟨h1, h2⟩
theorem q7 {t n a b c d : Int} (h : TN t n) (ha : xb a) (hb : xb b) (hc : yb c) (hd : yb d) (hS : 0 < sz t n c d) : f_X4_quotient (io t) (io n) (pk a b) (pk c d) = some (pk (NQ t n a b c d).1 (NQ t n a b c d).2) := by
  obtain ⟨⟨A1, A2⟩, ⟨B1, B2⟩⟩ := ac_b h ha hb hS
  have hSb : sz t n c d ≤ 50000000000 := by have := sz_le h hc.1 hc.2 hd.1 hd.2; omega
  have iS : i64 (sz t n c d) := by unfold i64; omega
  have iA : i64 (acA t n a b c d) := by unfold i64; omega
  have iB : i64 (acB a b c d) := by unfold i64; omega
  have eA : a * (c + t * d) + n * b * d = acA t n a b c d := rfl
  have eB : b * c - a * d = acB a b c d := rfl
  obtain ⟨s1, s2⟩ := stp_01 (t := t) (n := n) (S := sz t n c d) (p := acA t n a b c d % sz t n c d) (q := acB a b c d % sz t n c d) (b := (0, 0)) (c := (0, 1)) (Or.inl rfl) (Or.inl rfl) (Or.inl rfl) (Or.inr rfl)
  obtain ⟨s3, s4⟩ := stp_01 (t := t) (n := n) (S := sz t n c d) (p := acA t n a b c d % sz t n c d) (q := acB a b c d % sz t n c d) (c := (1, 0)) s1 s2 (Or.inr rfl) (Or.inl rfl)
  have k : whl (f_X4_quotient_L70 (io t) (io n) (pk a b) (pk c d) (lo (acA t n a b c d / sz t n c d)) (lo (acB a b c d / sz t n c d))) (pk (acA t n a b c d / sz t n c d + 0) (acB a b c d / sz t n c d + 0), lo (rsz t n a b c d (acA t n a b c d / sz t n c d + 0) (acB a b c d / sz t n c d + 0)), (1 : Int32)) = some (pk (NQ t n a b c d).1 (NQ t n a b c d).2) := by
    refine (whl_l (q7_step (cc := 1) (i := 0) (j := 1) (w := (0, 0)) h ha hb hc hd hS (by decide) (by decide) (by decide) (Or.inl rfl) (Or.inr rfl) (Or.inl rfl) (Or.inl rfl))).trans ?_
    refine (whl_l (q7_step (cc := 1 + 1) (i := 1) (j := 0) h ha hb hc hd hS (by decide) (by decide) (by decide) (Or.inr rfl) (Or.inl rfl) s1 s2)).trans ?_
    refine (whl_l (q7_step (cc := 1 + 1 + 1) (i := 1) (j := 1) h ha hb hc hd hS (by decide) (by decide) (by decide) (Or.inr rfl) (Or.inr rfl) s3 s4)).trans ?_
    refine whl_r ?_
    unfold f_X4_quotient_L70
    dsimp only
    rw [if_pos (by decide)]
    rfl
  unfold f_X4_quotient
  rw [sizeOf_pk h.it h.in hc.i hd.i, if_neg (fun e => by have := (lo_eq (b := 0) iS (by unfold i64; omega)).mp e; omega), acrossA_pk h.it h.in ha.i hb.i hc.i hd.i, acrossB_pk ha.i hb.i hc.i hd.i, eA, eB, fl7 iA iS hS, fl7 iB iS hS]
  simp only [Option.bind_some]
  rw [pk_def, show pk (acA t n a b c d / sz t n c d) (acB a b c d / sz t n c d) = pk (acA t n a b c d / sz t n c d + 0) (acB a b c d / sz t n c d + 0) by rw [Int.add_zero, Int.add_zero], szs7 h ha hb hc hd hS (by decide) (by decide) (by decide) (by decide), k]
  rfl
/-- NQ is a corner of its floor, the first least among 36 -/
theorem NQ_bef {t n a b c d : Int} (h : TN t n) (hS : 0 < sz t n c d) {i j : Int} (hi : -2 ≤ i) (hi2 : i ≤ 3) (hj : -2 ≤ j) (hj2 : j ≤ 3) : bef t n (sz t n c d) (acA t n a b c d % sz t n c d) (acB a b c d % sz t n c d) (NQc t n (sz t n c d) (acA t n a b c d % sz t n c d) (acB a b c d % sz t n c d)).1 (NQc t n (sz t n c d) (acA t n a b c d % sz t n c d) (acB a b c d % sz t n c d)).2 i j := by
  obtain ⟨-, -, b1, b2, b3, b4⟩ := NQc_spec t n (sz t n c d) (acA t n a b c d % sz t n c d) (acB a b c d % sz t n c d)
  rcases dom h hS (Int.emod_nonneg _ (by omega)) (Int.emod_lt_of_pos _ hS) (Int.emod_nonneg _ (by omega)) (Int.emod_lt_of_pos _ hS) hi hi2 hj hj2 with g | g | g | g
  · exact bef_trans b1 g
  · exact bef_trans b2 g
  · exact bef_trans b3 g
  · exact bef_trans b4 g
theorem r7 {t n a b c d : Int} (h : TN t n) (ha : xb a) (hb : xb b) (hc : yb c) (hd : yb d) (hS : 0 < sz t n c d) : f_X4_rest (io t) (io n) (pk a b) (pk c d) = some (pk (rsA n a c d (NQ t n a b c d).1 (NQ t n a b c d).2) (rsB t b c d (NQ t n a b c d).1 (NQ t n a b c d).2)) := by
  obtain ⟨h1, h2, -⟩ := NQc_spec t n (sz t n c d) (acA t n a b c d % sz t n c d) (acB a b c d % sz t n c d)
  unfold f_X4_rest
  rw [q7 h ha hb hc hd hS]
  simp only [Option.bind_some]
  unfold NQ
  dsimp only
  rw [szv7 h ha hb hc hd hS (by omega) (by omega) (by omega) (by omega)]
