theorem d8_whl {t n a b c d : Int} (h : TN t n) (ha : xb a) (hb : xb b) (hc : yb c) (hd : yb d) (hS : 0 < sz t n c d) {i : Int} (hi : -2 ≤ i) (hi2 : i ≤ 3) (b0 ra rb xa xB qa qb : Int64) (hm : MBI t n a b c d (Pd i (-2)) b0 ra rb qa qb) :
    ∃ r, whl (f_X8_divide_L90 (lo t) (lo n) (lo a) (lo b) (lo c) (lo d) (lo (acB a b c d / sz t n c d - 2)) (lo (acA t n a b c d / sz t n c d + i))) (b0, ra, rb, lo (acB a b c d / sz t n c d - 2), xa, xB, qa, qb) = some r ∧ MBI t n a b c d (Pd (i + 1) (-2)) r.1 r.2.1 r.2.2.1 r.2.2.2.2.2.1 r.2.2.2.2.2.2 := by
  have hV := (near_ok (i := -2) (j := -2) h ha hb hc hd hS (by omega) (by omega) (by omega) (by omega)).2.1
  refine whl_for (b := f_X8_divide_L90 (lo t) (lo n) (lo a) (lo b) (lo c) (lo d) (lo (acB a b c d / sz t n c d - 2)) (lo (acA t n a b c d / sz t n c d + i))) 6 (fun k s => s.2.2.2.1 = lo (acB a b c d / sz t n c d + ((k : Int) - 2)) ∧ MBI t n a b c d (Pd i ((k : Int) - 2)) s.1 s.2.1 s.2.2.1 s.2.2.2.2.2.2.1 s.2.2.2.2.2.2.2) (fun r => MBI t n a b c d (Pd (i + 1) (-2)) r.1 r.2.1 r.2.2.1 r.2.2.2.2.2.1 r.2.2.2.2.2.2) ?_ ?_ 0 _ (by omega) ⟨?_, ?_⟩
  · rintro k ⟨s1, s2, s3, s4, s5, s6, s7, s8⟩ hk ⟨e1, e2⟩
    dsimp only at e1 e2
    obtain ⟨b1, ra1, rb1, xa1, xb1, qa1, qb1, g1, g2⟩ := d8_in h ha hb hc hd hS hi hi2 (j := (k : Int) - 2) (by omega) (by omega) s1 s2 s3 s5 s6 s7 s8 e2
    rw [e1]
    refine ⟨_, g1, ?_, ?_⟩
    · dsimp only
      congr 2
      omega
    · dsimp only
      have : ((k + 1 : Nat) : Int) - 2 = (k : Int) - 2 + 1 := by omega
      rw [this]
      exact g2
  · rintro ⟨s1, s2, s3, s4, s5, s6, s7, s8⟩ ⟨e1, e2⟩
    dsimp only at e1 e2
    have e6 : lo (acB a b c d / sz t n c d - 2) + (6 : Int64) = lo (acB a b c d / sz t n c d - 2 + 6) := lo_add _ 6
    have c1 : lo (acB a b c d / sz t n c d - 2 + 6) ≤ lo (acB a b c d / sz t n c d + (((6 : Nat) : Int) - 2)) := (lo_le (by unfold i64; omega) (by unfold i64; omega)).mpr (by omega)
    unfold f_X8_divide_L90
    dsimp only
    rw [e1, e6, if_pos c1]
    refine ⟨_, rfl, ?_⟩
    dsimp only
    exact e2.mono (fun i' j' => by unfold Pd; omega)
  · dsimp only
    congr 1
  · dsimp only
    exact hm
theorem d8_out {t n a b c d : Int} (h : TN t n) (ha : xb a) (hb : xb b) (hc : yb c) (hd : yb d) (hS : 0 < sz t n c d) (xa xB qa qb : Int64) :
    ∃ r, whl (f_X8_divide_L74 (lo t) (lo n) (lo a) (lo b) (lo c) (lo d) (lo (acA t n a b c d / sz t n c d - 2)) (lo (acB a b c d / sz t n c d - 2))) ((-1 : Int64), (0 : Int64), (0 : Int64), lo (acA t n a b c d / sz t n c d - 2), xa, xB, qa, qb) = some r ∧ ∃ bst, MBI t n a b c d (Pd 4 (-2)) bst r.1 r.2.1 r.2.2.2.2.1 r.2.2.2.2.2 := by
  have hV := (near_ok (i := -2) (j := -2) h ha hb hc hd hS (by omega) (by omega) (by omega) (by omega)).1
  refine whl_for (b := f_X8_divide_L74 (lo t) (lo n) (lo a) (lo b) (lo c) (lo d) (lo (acA t n a b c d / sz t n c d - 2)) (lo (acB a b c d / sz t n c d - 2))) 6 (fun k s => s.2.2.2.1 = lo (acA t n a b c d / sz t n c d + ((k : Int) - 2)) ∧ MBI t n a b c d (Pd ((k : Int) - 2) (-2)) s.1 s.2.1 s.2.2.1 s.2.2.2.2.2.2.1 s.2.2.2.2.2.2.2) (fun r => ∃ bst, MBI t n a b c d (Pd 4 (-2)) bst r.1 r.2.1 r.2.2.2.2.1 r.2.2.2.2.2) ?_ ?_ 0 _ (by omega) ⟨?_, ?_⟩
  · rintro k ⟨s1, s2, s3, s4, s5, s6, s7, s8⟩ hk ⟨e1, e2⟩
    dsimp only at e1 e2
    have e6 : lo (acA t n a b c d / sz t n c d - 2) + (6 : Int64) = lo (acA t n a b c d / sz t n c d - 2 + 6) := lo_add _ 6
    have c1 : ¬ lo (acA t n a b c d / sz t n c d - 2 + 6) ≤ lo (acA t n a b c d / sz t n c d + ((k : Int) - 2)) := fun e => by
      have := (lo_le (by unfold i64; omega) (by unfold i64; omega)).mp e
      omega
    have e7 : lo (acA t n a b c d / sz t n c d + ((k : Int) - 2)) + (1 : Int64) = lo (acA t n a b c d / sz t n c d + (((k + 1 : Nat) : Int) - 2)) := by
      have : lo (acA t n a b c d / sz t n c d + ((k : Int) - 2)) + (1 : Int64) = lo (acA t n a b c d / sz t n c d + ((k : Int) - 2) + 1) := lo_add _ 1
      rw [this]
      congr 1
      omega
    obtain ⟨r, g1, g2⟩ := d8_whl h ha hb hc hd hS (i := (k : Int) - 2) (by omega) (by omega) s1 s2 s3 s5 s6 s7 s8 e2
    unfold f_X8_divide_L74
    dsimp only
    rw [e1, e6, if_neg c1, g1]
    simp only [Option.bind_some]
    unfold f_X8_divide_K90_188
    refine ⟨_, rfl, ?_⟩
    dsimp only
    refine ⟨e7, ?_⟩
    have : ((k + 1 : Nat) : Int) - 2 = (k : Int) - 2 + 1 := by omega
    rw [this]
    exact g2
  · rintro ⟨s1, s2, s3, s4, s5, s6, s7, s8⟩ ⟨e1, e2⟩
    dsimp only at e1 e2
    have e6 : lo (acA t n a b c d / sz t n c d - 2) + (6 : Int64) = lo (acA t n a b c d / sz t n c d - 2 + 6) := lo_add _ 6
    have c1 : lo (acA t n a b c d / sz t n c d - 2 + 6) ≤ lo (acA t n a b c d / sz t n c d + (((6 : Nat) : Int) - 2)) := (lo_le (by unfold i64; omega) (by unfold i64; omega)).mpr (by omega)
    unfold f_X8_divide_L74
    dsimp only
    rw [e1, e6, if_pos c1]
    exact ⟨_, rfl, _, e2⟩
  · dsimp only
    congr 1
  · dsimp only
    exact Or.inl ⟨rfl, fun i j => by unfold Pd; omega⟩
/-- the reference's divide -/
theorem d8 {t n a b c d : Int} (h : TN t n) (ha : xb a) (hb : xb b) (hc : yb c) (hd : yb d) (hS : 0 < sz t n c d) (xa xB qa qb : Int64) : f_X8_divide (lo t) (lo n) xa xB qa qb (lo a) (lo b) (lo c) (lo d) = some (lo (rsA n a c d (NQ t n a b c d).1 (NQ t n a b c d).2), lo (rsB t b c d (NQ t n a b c d).1 (NQ t n a b c d).2), lo (NQ t n a b c d).1, lo (NQ t n a b c d).2) := by
  obtain ⟨⟨A1, A2⟩, ⟨B1, B2⟩⟩ := ac_b h ha hb hS
  have hSb : sz t n c d ≤ 50000000000 := by have := sz_le h hc.1 hc.2 hd.1 hd.2; omega
  have iS : i64 (sz t n c d) := by unfold i64; omega
  have iA : i64 (acA t n a b c d) := by unfold i64; omega
  have iB : i64 (acB a b c d) := by unfold i64; omega
  have m1 : lo (acA t n a b c d / sz t n c d) - (2 : Int64) = lo (acA t n a b c d / sz t n c d - 2) := lo_sub _ 2
  have m2 : lo (acB a b c d / sz t n c d) - (2 : Int64) = lo (acB a b c d / sz t n c d - 2) := lo_sub _ 2
  unfold f_X8_divide
  rw [acA8, acB8, sizeOf_m, fl8 iA iS hS, fl8 iB iS hS]
  simp only [Option.bind_some]
  rw [m1, m2]
  obtain ⟨r, g1, bst, g2⟩ := d8_out h ha hb hc hd hS (lo (acA t n a b c d)) (lo (acB a b c d)) qa qb
  rw [g1]
  simp only [Option.bind_some]
  unfold f_X8_divide_K74_197 f_X8_put_mod_a f_X8_put_mod_b
  rcases g2 with ⟨-, g⟩ | ⟨zi, zj, h1, h2, h3, h4, h5, h6, h7, h8, h9, h10, h11⟩
  · exact absurd (by unfold Pd; omega : Pd 4 (-2) 0 0) (g 0 0)
  · obtain ⟨k1, k2, -⟩ := NQc_spec t n (sz t n c d) (acA t n a b c d % sz t n c d) (acB a b c d % sz t n c d)
    have w1 := NQ_bef (a := a) (b := b) h hS h2 h3 h4 h5
    have w2 := h6 (NQc t n (sz t n c d) (acA t n a b c d % sz t n c d) (acB a b c d % sz t n c d)).1 (NQc t n (sz t n c d) (acA t n a b c d % sz t n c d) (acB a b c d % sz t n c d)).2 (by unfold Pd; omega)
    obtain ⟨w3, w4⟩ := bef_anti w1 w2
    rw [h8, h9, h10, h11, ← w3, ← w4]
    rfl
