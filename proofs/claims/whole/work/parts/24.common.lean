theorem yb.u {z : Int} (h : yb z) : ub z := ⟨by have := h.1; omega, by have := h.2; omega⟩
theorem mv_sz (k : Nat) (a b : Int) (u : Int × Int) : sz (kT k) (kN k) (mv k a b u).1 (mv k a b u).2 = sz (kT k) (kN k) u.1 u.2 * sz (kT k) (kN k) a b := sz_mul (kT k) (kN k) u.1 u.2 a b
theorem mv_sub (k : Nat) (a b : Int) (p q : Int × Int) (e : mv k a b p = mv k a b q) : mv k a b (p.1 - q.1, p.2 - q.2) = (0, 0) := by
  have e1 : (mv k a b p).1 = (mv k a b q).1 := by rw [e]
  have e2 : (mv k a b p).2 = (mv k a b q).2 := by rw [e]
  unfold mv mA mB at *
  dsimp only at *
  refine Prod.ext ?_ ?_ <;> dsimp only <;> grind
theorem mv_inj {k : Nat} (hk : k < 5) {a b : Int} (h0 : ¬ (a = 0 ∧ b = 0)) {p q : Int × Int} (e : mv k a b p = mv k a b q) : p = q := by
  have h := TN_k hk
  have e1 := mv_sub k a b p q e
  have e2 := mv_sz k a b (p.1 - q.1, p.2 - q.2)
  rw [e1] at e2
  have e3 : sz (kT k) (kN k) (0, 0).1 (0, 0).2 = 0 := by unfold sz; dsimp only; grind
  rw [e3] at e2
  have e4 := sz_pos h h0
  rcases Int.mul_eq_zero.mp e2.symm with g | g
  · obtain ⟨g1, g2⟩ := sz_0 h g
    dsimp only at g1 g2
    exact Prod.ext (by omega) (by omega)
  · omega
/-- shape on both sides: by a unit u -/
theorem sh_both {k : Nat} (hk : k < 5) {us : List (Int × Int)} (hu : UN k us) {m : Int32} {uA uB : Nat → Int64} (hm : MU us m uA uB) {a b : Int} (ha : ub a) (hb : ub b) (x1 x2 : Int64) (x3 : Int32) : ∃ (i : Nat) (j : Nat) (q : Int × Int), i < kUn k ∧ us[j]? = some q ∧ f_X4_shaper (io (kT k)) (io (kN k)) (io (kU k)) (pk (kSa k) (kSb k)) (pk a b) = some (pk (uC k i).1 (uC k i).2) ∧ f_X4_shape (io (kT k)) (io (kN k)) (io (kU k)) (pk (kSa k) (kSb k)) (pk a b) = some (pk (mv k a b (uC k i)).1 (mv k a b (uC k i)).2) ∧ f_X8_shape (lo (kT k)) (lo (kN k)) x1 x2 m x3 uA uB (lo a) (lo b) = some (lo (mv k a b (uC k i)).1, lo (mv k a b (uC k i)).2, io (j : Int)) ∧ (¬ (a = 0 ∧ b = 0) → q = uC k i) ∧ ∀ i', i' < kUn k → lex (mv k a b (uC k i')) (mv k a b (uC k i)) := by
  have hU := kUn_b k
  obtain ⟨i, hi, h1, h2⟩ := sh7 hk ha hb
  obtain ⟨hb1, hb2, -⟩ := uC_b k hk i (by omega)
  have key : ∀ x1 x2 x3, ∃ (j : Nat) (q : Int × Int), us[j]? = some q ∧ mv k a b q = mv k a b (uC k i) ∧ f_X8_shape (lo (kT k)) (lo (kN k)) x1 x2 m x3 uA uB (lo a) (lo b) = some (lo (mv k a b q).1, lo (mv k a b q).2, io (j : Int)) ∧ (∀ (j' : Nat) (q' : Int × Int), us[j']? = some q' → lex (mv k a b q') (mv k a b q)) := by
    intro x1 x2 x3
    obtain ⟨j, q, hq, h3, h4⟩ := sh8 hk hu hm ha hb x1 x2 x3
    refine ⟨j, q, hq, lex_an ?_ ?_, h3, h4⟩
    · obtain ⟨i', hi', e⟩ := uC_all k hk q ((UN_mem hu q).mp (List.mem_of_getElem? hq))
      rw [e]
      exact h2 i' hi'
    · obtain ⟨j', hj'⟩ := List.mem_iff_getElem?.mp ((UN_mem hu (uC k i)).mpr (uC_in k hk i hi))
      exact h4 j' _ hj'
  have hsh : f_X4_shape (io (kT k)) (io (kN k)) (io (kU k)) (pk (kSa k) (kSb k)) (pk a b) = some (pk (mv k a b (uC k i)).1 (mv k a b (uC k i)).2) := by
    unfold f_X4_shape
    rw [h1]
    simp only [Option.bind_some]
    rw [times_k (kT_i k) (kN_i k) (by unfold i32; omega) (by unfold i32; omega) ha.i hb.i]
    rfl
  obtain ⟨j, q, hq, e1, e2, e3⟩ := key x1 x2 x3
  refine ⟨i, j, q, hi, hq, h1, hsh, ?_, fun h0 => mv_inj hk h0 e1, h2⟩
  rw [e2, e1]
theorem mv_y {k : Nat} (hk : k < 5) {i : Nat} (hi : i < kUn k) {a b : Int} (hs : sz (kT k) (kN k) a b ≤ 7000000000) : yb (mv k a b (uC k i)).1 ∧ yb (mv k a b (uC k i)).2 := by
  have hU := kUn_b k
  refine yb_of (TN_k hk) ?_
  rw [mv_sz, (uC_b k hk i (by omega)).2.2]
  omega
theorem mv_sz1 {k : Nat} (hk : k < 5) {i : Nat} (hi : i < kUn k) (a b : Int) : sz (kT k) (kN k) (mv k a b (uC k i)).1 (mv k a b (uC k i)).2 = sz (kT k) (kN k) a b := by
  have hU := kUn_b k
  rw [mv_sz, (uC_b k hk i (by omega)).2.2]
  omega
/-- common on both sides -/
theorem cm_both {k : Nat} (hk : k < 5) {us : List (Int × Int)} (hu : UN k us) {m : Int32} {uA uB : Nat → Int64} (hm : MU us m uA uB) {a b c d : Int} (h1 : sz (kT k) (kN k) a b ≤ 7000000000) (h2 : sz (kT k) (kN k) c d ≤ 7000000000) (x1 x2 x3 x4 : Int64) (x5 : Int32) : ∃ x y : Int, ∃ y1 y2 y3, yb x ∧ yb y ∧ f_X4_common (io (kT k)) (io (kN k)) (io (kU k)) (pk (kSa k) (kSb k)) (pk a b) (pk c d) = some (pk x y) ∧ f_X8_common (lo (kT k)) (lo (kN k)) x1 x2 m x3 x4 x5 uA uB (lo a) (lo b) (lo c) (lo d) = some (lo x, lo y, y1, y2, y3) := by
  have h := TN_k hk
  obtain ⟨ya, yB⟩ := yb_of h h1
  have hT : sz (kT k) (kN k) c d ≤ TT 400 := Int.le_trans h2 TT_400
  have e7 := cm7 h 400 a b c d 0 ya.x yB.x h2 hT (by omega) (by omega)
  obtain ⟨z1, z2, z3, z4, e8⟩ := cm8 h 400 a b c d x1 x2 x3 x4 ya.x yB.x h2 hT
  have hs := GC_le h (X := 7000000000) (by omega) 400 a b c d h1 h2
  obtain ⟨g1, g2⟩ := yb_of h hs
  generalize GC (kT k) (kN k) 400 a b c d = g at *
  obtain ⟨i, j, q, hi, hq, s1, s2, s3, -, -⟩ := sh_both hk hu hm (a := g.1) (b := g.2) g1.u g2.u z1 z2 x5
  obtain ⟨w1, w2⟩ := mv_y hk hi hs
  refine ⟨_, _, z3, z4, io (j : Int), w1, w2, ?_, ?_⟩
  · unfold f_X4_common f_X4_common_K9_47
    have : (0 : Int32) = io 0 := rfl
    rw [this, e7]
    simp only [Option.bind_some]
    rw [s2]
    rfl
  · unfold f_X8_common f_X8_common_K14_63
    rw [e8]
    simp only [Option.bind_some]
    rw [s3]
    rfl
