theorem mv_c (k : Nat) (a b : Int) (q : Int × Int) : mA (kN k) a b q.1 q.2 = (mv k a b q).1 ∧ mB (kT k) a b q.1 q.2 = (mv k a b q).2 := by
  unfold mv mA mB
  dsimp only
  constructor <;> grind
theorem io_nat6 {i : Nat} (hi : i < 6) : ¬ (io (i : Int) < 0 ∨ 6 ≤ (io (i : Int)).toNatClampNeg) ∧ (io (i : Int)).toNatClampNeg = i := by
  have e : (io (i : Int)).toNatClampNeg = i := by
    rw [Int32.toNatClampNeg, io_toInt (by unfold i32; omega)]
    omega
  refine ⟨?_, e⟩
  rw [e]
  rintro (h | h)
  · have := (io_lt (b := 0) (by unfold i32; omega) (by unfold i32; omega)).mp h
    omega
  · omega
def SI (k : Nat) (a b : Int) (us : List (Int × Int)) (i : Nat) (x y : Int64) (idx : Int32) : Prop := (i = 0 ∧ idx = -4) ∨ ∃ j q, j < i ∧ us[j]? = some q ∧ x = lo (mv k a b q).1 ∧ y = lo (mv k a b q).2 ∧ idx = io j ∧ ∀ j' q', j' < i → us[j']? = some q' → lex (mv k a b q') (mv k a b q)
theorem us_mv {k : Nat} (hk : k < 5) {us : List (Int × Int)} (hu : UN k us) {a b : Int} (ha : ub a) (hb : ub b) {i : Nat} {q : Int × Int} (h : us[i]? = some q) : i32 (mv k a b q).1 ∧ i32 (mv k a b q).2 := by
  obtain ⟨j, hj, rfl⟩ := uC_all k hk q ((UN_mem hu q).mp (List.mem_of_getElem? h))
  have := kUn_b k
  exact mv_b hk (by omega) ha hb
theorem sh8 {k : Nat} (hk : k < 5) {us : List (Int × Int)} (hu : UN k us) {m : Int32} {uA uB : Nat → Int64} (hm : MU us m uA uB) {a b : Int} (ha : ub a) (hb : ub b) (x1 x2 : Int64) (x3 : Int32) : ∃ (j : Nat) (q : Int × Int), us[j]? = some q ∧ f_X8_shape (lo (kT k)) (lo (kN k)) x1 x2 m x3 uA uB (lo a) (lo b) = some (lo (mv k a b q).1, lo (mv k a b q).2, io (j : Int)) ∧ ∀ (j' : Nat) (q' : Int × Int), us[j']? = some q' → lex (mv k a b q') (mv k a b q) := by
  have hU := kUn_b k
  have hl := UN_len hk hu
  obtain ⟨hm1, hm2⟩ := hm
  have key : ∃ r, whl (f_X8_shape_L15 (lo (kT k)) (lo (kN k)) m uA uB (lo a) (lo b)) (lo a, lo b, (0 : Int32), x1, x2, (-4 : Int32)) = some r ∧ SI k a b us us.length r.1 r.2.1 r.2.2.2.2 := by
    refine whl_for (b := f_X8_shape_L15 (lo (kT k)) (lo (kN k)) m uA uB (lo a) (lo b)) us.length (fun i s => s.2.2.1 = io (i : Int) ∧ SI k a b us i s.1 s.2.1 s.2.2.2.2.2) (fun r => SI k a b us us.length r.1 r.2.1 r.2.2.2.2) ?_ ?_ 0 _ (by omega) ⟨rfl, Or.inl ⟨rfl, rfl⟩⟩
    · rintro i ⟨s1, s2, s3, s4, s5, s6⟩ hi ⟨e1, e2⟩
      dsimp only at e1 e2
      obtain ⟨q, hq⟩ : ∃ q, us[i]? = some q := ⟨us[i], List.getElem?_eq_getElem hi⟩
      obtain ⟨g1, g2⟩ := hm2 i q hq
      obtain ⟨d1, d2⟩ := io_nat6 (i := i) (by omega)
      have c1 : ¬ (m ≤ io (i : Int)) := fun e => by
        rw [hm1] at e
        have := (io_le (by unfold i32; omega) (by unfold i32; omega)).mp e
        omega
      have hA : f_X8_times_mod_a (lo (kN k)) (lo a) (lo b) (uA i) (uB i) = lo (mv k a b q).1 := by rw [g1, g2, timesA_k, (mv_c k a b q).1]
      have hB : f_X8_times_mod_b (lo (kT k)) (lo a) (lo b) (uA i) (uB i) = lo (mv k a b q).2 := by rw [g1, g2, timesB_k, (mv_c k a b q).2]
      obtain ⟨w1, w2⟩ := us_mv hk hu ha hb hq
      have new : (∀ j' q', j' < i → us[j']? = some q' → lex (mv k a b q') (mv k a b q)) → SI k a b us (i + 1) (lo (mv k a b q).1) (lo (mv k a b q).2) (io (i : Int)) := fun h => Or.inr ⟨i, q, by omega, hq, rfl, rfl, rfl, fun j' q' h1 h2 => by
        by_cases z : j' = i
        · rw [z, hq] at h2
          have : q = q' := by injection h2
          rw [this]
          exact lex_rf _
        · exact h j' q' (by omega) h2⟩
      unfold f_X8_shape_L15
      dsimp only
      rw [e1, d2, if_neg c1, hA, hB, io_1]
      rw [if_neg (by rw [← d2]; rw [d2]; exact (by rw [d2] at d1; exact d1))]
      rcases e2 with ⟨z1, z2⟩ | ⟨j, qj, hj, hqj, h3, h4, h5, h6⟩
      · rw [z2, if_pos rfl]
        exact ⟨_, rfl, rfl, new (fun j' q' h1 => by omega)⟩
      · obtain ⟨w3, w4⟩ := us_mv hk hu ha hb hqj
        have c4 : ¬ (s6 = (-4 : Int32)) := fun e => by
          rw [h5, show (-4 : Int32) = io (-4) by decide] at e
          have := (io_eq (by unfold i32; omega) (by unfold i32; omega)).mp e
          omega
        have hlt := lo_lt w3.w w1.w
        have heq := lo_eq w1.w w3.w
        have hle := lo_le w2.w w4.w
        have old : lex (mv k a b q) (mv k a b qj) → SI k a b us (i + 1) (lo (mv k a b qj).1) (lo (mv k a b qj).2) s6 := fun h => Or.inr ⟨j, qj, by omega, hqj, rfl, rfl, h5, fun j' q' h1 h2 => by
          by_cases z : j' = i
          · rw [z, hq] at h2
            have : q = q' := by injection h2
            rw [← this]
            exact h
          · exact h6 j' q' (by omega) h2⟩
        have nw : lex (mv k a b qj) (mv k a b q) → SI k a b us (i + 1) (lo (mv k a b q).1) (lo (mv k a b q).2) (io (i : Int)) := fun h => new (fun j' q' h1 h2 => lex_tr (h6 j' q' h1 h2) h)
        rw [if_neg c4, h3, h4]
        by_cases q1 : (mv k a b qj).1 < (mv k a b q).1
        · rw [if_pos (hlt.mpr q1)]
          exact ⟨_, rfl, rfl, nw (Or.inl q1)⟩
        · rw [if_neg (fun e => q1 (hlt.mp e))]
          by_cases q2 : (mv k a b q).1 = (mv k a b qj).1
          · rw [if_pos (heq.mpr q2)]
            by_cases q3 : (mv k a b q).2 ≤ (mv k a b qj).2
            · rw [if_pos (hle.mpr q3)]
              exact ⟨_, rfl, rfl, old (Or.inr ⟨q2, q3⟩)⟩
            · rw [if_neg (fun e => q3 (hle.mp e))]
              exact ⟨_, rfl, rfl, nw (Or.inr ⟨q2.symm, by omega⟩)⟩
          · rw [if_neg (fun e => q2 (heq.mp e))]
            exact ⟨_, rfl, rfl, old (Or.inl (by omega))⟩
    · rintro ⟨s1, s2, s3, s4, s5, s6⟩ ⟨e1, e2⟩
      dsimp only at e1 e2
      unfold f_X8_shape_L15
      dsimp only
      rw [e1, if_pos (by rw [hm1]; exact Int32.le_refl _)]
      exact ⟨_, rfl, e2⟩
  obtain ⟨r, h1, h2⟩ := key
  rcases h2 with ⟨z, -⟩ | ⟨j, q, hj, hq, h3, h4, h5, h6⟩
  · omega
  · refine ⟨j, q, hq, ?_, fun j' q' g => h6 j' q' ?_ g⟩
    · unfold f_X8_shape
      rw [h1]
      simp only [Option.bind_some]
      unfold f_X8_shape_K15_107 f_X8_put_mod_a f_X8_put_mod_b
      rw [h3, h4, h5]
    · rcases Nat.lt_or_ge j' us.length with z | z
      · exact z
      · rw [List.getElem?_eq_none z] at g
        exact absurd g (by simp)
