/-! the leaps on both sides; where -/
theorem nat12 {i : Nat} (hi : i < 12) : ¬ (io (i : Int) < 0 ∨ 12 ≤ (io (i : Int)).toNatClampNeg) ∧ (io (i : Int)).toNatClampNeg = i := by
  have e : (io (i : Int)).toNatClampNeg = i := by
    rw [Int32.toNatClampNeg, io_toInt (by unfold i32; omega)]
    omega
  refine ⟨?_, e⟩
  rw [e]
  rintro (h | h)
  · have := (io_lt (b := 0) (by unfold i32; omega) (by unfold i32; omega)).mp h
    omega
  · omega
theorem mv_spin (k : Nat) (a b : Int) (i : Nat) : (mA (kN k) (mv k a b (uC k i)).1 (mv k a b (uC k i)).2 (kSa k) (kSb k), mB (kT k) (mv k a b (uC k i)).1 (mv k a b (uC k i)).2 (kSa k) (kSb k)) = mv k a b (uC k (i + 1)) := by
  have e : uC k (i + 1) = (mA (kN k) (uC k i).1 (uC k i).2 (kSa k) (kSb k), mB (kT k) (uC k i).1 (uC k i).2 (kSa k) (kSb k)) := rfl
  rw [e]
  generalize uC k i = u
  unfold mv mA mB
  refine Prod.ext ?_ ?_ <;> dsimp only <;> grind
theorem collect7 {k : Nat} (hk : k < 5) {a b : Int} (ha : rng a) (hb : rng b) (c : Int32) (l : Nat → Int64) : ∃ l', f_X2_collect (io (kT k)) (io (kN k)) (io (kU k)) (pk (kSa k) (kSb k)) c l (pk a b) = some (io ((2 * kUn k : Nat) : Int), l') ∧ ∀ i : Nat, i < kUn k → l' (2 * i) = pk (mv k a b (uC k i)).1 (mv k a b (uC k i)).2 ∧ l' (2 * i + 1) = pk (mv k (a + kT k * b) (-b) (uC k i)).1 (mv k (a + kT k * b) (-b) (uC k i)).2 := by
  have hU := kUn_b k
  obtain ⟨⟨t1, t2⟩, -⟩ := kTN_b k
  have tb := mul_b t1 t2 hb.1 hb.2
  have um : ub (a + kT k * b) ∧ ub (-b) := by unfold ub rng at *; omega
  have key : ∃ r, whl (f_X2_collect_L20 (io (kT k)) (io (kN k)) (io (kU k)) (pk (kSa k) (kSb k))) (pk a b, pk (a + kT k * b) (-b), (0 : Int32), (0 : Int32), l) = some r ∧ (r.1 = io ((2 * kUn k : Nat) : Int) ∧ ∀ i : Nat, i < kUn k → r.2 (2 * i) = pk (mv k a b (uC k i)).1 (mv k a b (uC k i)).2 ∧ r.2 (2 * i + 1) = pk (mv k (a + kT k * b) (-b) (uC k i)).1 (mv k (a + kT k * b) (-b) (uC k i)).2) := by
    refine whl_for (b := f_X2_collect_L20 (io (kT k)) (io (kN k)) (io (kU k)) (pk (kSa k) (kSb k))) (kUn k) (fun j s => s.1 = pk (mv k a b (uC k j)).1 (mv k a b (uC k j)).2 ∧ s.2.1 = pk (mv k (a + kT k * b) (-b) (uC k j)).1 (mv k (a + kT k * b) (-b) (uC k j)).2 ∧ s.2.2.1 = io (j : Int) ∧ s.2.2.2.1 = io ((2 * j : Nat) : Int) ∧ ∀ i : Nat, i < j → s.2.2.2.2 (2 * i) = pk (mv k a b (uC k i)).1 (mv k a b (uC k i)).2 ∧ s.2.2.2.2 (2 * i + 1) = pk (mv k (a + kT k * b) (-b) (uC k i)).1 (mv k (a + kT k * b) (-b) (uC k i)).2) (fun r => r.1 = io ((2 * kUn k : Nat) : Int) ∧ ∀ i : Nat, i < kUn k → r.2 (2 * i) = pk (mv k a b (uC k i)).1 (mv k a b (uC k i)).2 ∧ r.2 (2 * i + 1) = pk (mv k (a + kT k * b) (-b) (uC k i)).1 (mv k (a + kT k * b) (-b) (uC k i)).2) ?_ ?_ 0 _ (by omega) ⟨?_, ?_, rfl, rfl, fun i h => by omega⟩
    · rintro j ⟨s1, s2, s3, s4, s5⟩ hj ⟨e1, e2, e3, e4, e5⟩
      dsimp only at e1 e2 e3 e4 e5
      obtain ⟨d1, d2⟩ := nat12 (i := 2 * j) (by omega)
      obtain ⟨d3, d4⟩ := nat12 (i := 2 * j + 1) (by omega)
      have c1 : ¬ (io (kU k) ≤ io (j : Int)) := fun e => by
        rw [kUn_k] at e
        have := (io_le (by unfold i32; omega) (by unfold i32; omega)).mp e
        omega
      have p2 : io ((2 * j : Nat) : Int) + (2 : Int32) = io ((2 * (j + 1) : Nat) : Int) := by
        have : io ((2 * j : Nat) : Int) + (2 : Int32) = io (((2 * j : Nat) : Int) + 2) := io_add _ 2
        rw [this]
        congr 1
      have p1 : io ((2 * j : Nat) : Int) + (1 : Int32) = io ((2 * j + 1 : Nat) : Int) := io_1 _
      have c2 : ¬ ((12 : Int32) < io ((2 * (j + 1) : Nat) : Int)) := fun e => by
        have := (io_lt (a := 12) (by unfold i32; omega) (by unfold i32; omega)).mp e
        omega
      obtain ⟨m1, m2⟩ := mv_b hk (j := j) (by omega) ha.y.u hb.y.u
      obtain ⟨m3, m4⟩ := mv_b hk (j := j) (by omega) um.1 um.2
      have T1 : f_X4_times (io (kT k)) (io (kN k)) (pk (mv k a b (uC k j)).1 (mv k a b (uC k j)).2) (pk (kSa k) (kSb k)) = pk (mv k a b (uC k (j + 1))).1 (mv k a b (uC k (j + 1))).2 := by
        rw [times_k (kT_i k) (kN_i k) m1 m2 (sp_b k).1 (sp_b k).2, ← mv_spin]
      have T2 : f_X4_times (io (kT k)) (io (kN k)) (pk (mv k (a + kT k * b) (-b) (uC k j)).1 (mv k (a + kT k * b) (-b) (uC k j)).2) (pk (kSa k) (kSb k)) = pk (mv k (a + kT k * b) (-b) (uC k (j + 1))).1 (mv k (a + kT k * b) (-b) (uC k (j + 1))).2 := by
        rw [times_k (kT_i k) (kN_i k) m3 m4 (sp_b k).1 (sp_b k).2, ← mv_spin]
      unfold f_X2_collect_L20
      dsimp only
      rw [e1, e2, e3, e4, if_neg c1, p2, if_neg c2, if_neg d1, p1, if_neg d3, T1, T2, io_1, d2, d4]
      refine ⟨_, rfl, rfl, rfl, rfl, rfl, fun i hi => ?_⟩
      dsimp only
      unfold vp_updL
      by_cases g : i = j
      · subst g
        rw [if_neg (by omega), if_pos rfl, if_pos rfl]
        exact ⟨rfl, rfl⟩
      · rw [if_neg (by omega), if_neg (by omega), if_neg (by omega), if_neg (by omega)]
        exact e5 i (by omega)
    · rintro ⟨s1, s2, s3, s4, s5⟩ ⟨e1, e2, e3, e4, e5⟩
      dsimp only at e1 e2 e3 e4 e5
      unfold f_X2_collect_L20
      dsimp only
      rw [e3, e4, if_pos (by rw [kUn_k]; exact Int32.le_refl _)]
      exact ⟨_, rfl, rfl, e5⟩
    · dsimp only
      rw [show uC k 0 = (1, 0) from rfl, mv_1]
    · dsimp only
      rw [show uC k 0 = (1, 0) from rfl, mv_1]
  obtain ⟨⟨r1, r2⟩, e, h1, h2⟩ := key
  dsimp only at h1 h2
  refine ⟨r2, ?_, h2⟩
  unfold f_X2_collect f_X2_collect_K20_119
  rw [mirror_pk (kT_i k) ha.i hb.i, e, h1]
  rfl
theorem leaps8 {k : Nat} (hk : k < 5) {us : List (Int × Int)} (hu : UN k us) {m : Int32} {uA uB : Nat → Int64} (hm : MU us m uA uB) {rA' rB' : Nat → Int64} {a b : Int} {v : Int32} (s3 : ¬ (v < 0 ∨ 8 ≤ v.toNatClampNeg)) (s5 : rA' v.toNatClampNeg = lo a) (s6 : rB' v.toNatClampNeg = lo b) (x1 x2 : Int64) (x3 : Int32) (l1 l2 : Nat → Int64) : ∃ y1 y2 lA lB, f_X8_layLeaps (lo (kT k)) (lo (kN k)) x1 x2 m x3 rA' rB' uA uB l1 l2 v = some (y1, y2, io ((2 * kUn k : Nat) : Int), lA, lB) ∧ ∀ (i : Nat) q, us[i]? = some q → (lA (2 * i) = lo (mv k a b q).1 ∧ lB (2 * i) = lo (mv k a b q).2) ∧ lA (2 * i + 1) = lo (mv k (a + kT k * b) (-b) q).1 ∧ lB (2 * i + 1) = lo (mv k (a + kT k * b) (-b) q).2 := by
  have hU := kUn_b k
  have hl := UN_len hk hu
  obtain ⟨hm1, hm2⟩ := hm
  have key : ∃ r, whl (f_X8_layLeaps_L7 (lo (kT k)) (lo (kN k)) m rA' rB' uA uB v) ((0 : Int32), x1, x2, (0 : Int32), l1, l2) = some r ∧ (r.2.2.1 = io ((2 * kUn k : Nat) : Int) ∧ ∀ (i : Nat) q, i < kUn k → us[i]? = some q → (r.2.2.2.1 (2 * i) = lo (mv k a b q).1 ∧ r.2.2.2.2 (2 * i) = lo (mv k a b q).2) ∧ r.2.2.2.1 (2 * i + 1) = lo (mv k (a + kT k * b) (-b) q).1 ∧ r.2.2.2.2 (2 * i + 1) = lo (mv k (a + kT k * b) (-b) q).2) := by
    refine whl_for (b := f_X8_layLeaps_L7 (lo (kT k)) (lo (kN k)) m rA' rB' uA uB v) (kUn k) (fun j s => s.1 = io (j : Int) ∧ s.2.2.2.1 = io ((2 * j : Nat) : Int) ∧ ∀ (i : Nat) q, i < j → us[i]? = some q → (s.2.2.2.2.1 (2 * i) = lo (mv k a b q).1 ∧ s.2.2.2.2.2 (2 * i) = lo (mv k a b q).2) ∧ s.2.2.2.2.1 (2 * i + 1) = lo (mv k (a + kT k * b) (-b) q).1 ∧ s.2.2.2.2.2 (2 * i + 1) = lo (mv k (a + kT k * b) (-b) q).2) (fun r => r.2.2.1 = io ((2 * kUn k : Nat) : Int) ∧ ∀ (i : Nat) q, i < kUn k → us[i]? = some q → (r.2.2.2.1 (2 * i) = lo (mv k a b q).1 ∧ r.2.2.2.2 (2 * i) = lo (mv k a b q).2) ∧ r.2.2.2.1 (2 * i + 1) = lo (mv k (a + kT k * b) (-b) q).1 ∧ r.2.2.2.2 (2 * i + 1) = lo (mv k (a + kT k * b) (-b) q).2) ?_ ?_ 0 _ (by omega) ⟨rfl, rfl, fun i q h => by omega⟩
    · rintro j ⟨s1, s2, s4, s7, s8, s9⟩ hj ⟨e1, e2, e3⟩
      dsimp only at e1 e2 e3
      obtain ⟨q, hq⟩ : ∃ q, us[j]? = some q := ⟨us[j], List.getElem?_eq_getElem (by omega)⟩
      obtain ⟨g1, g2⟩ := hm2 j q hq
      obtain ⟨d1, d2⟩ := nat12 (i := 2 * j) (by omega)
      obtain ⟨d3, d4⟩ := nat12 (i := 2 * j + 1) (by omega)
      obtain ⟨d5, d6⟩ := io_nat6 (i := j) (by omega)
      have c1 : ¬ (m ≤ io (j : Int)) := fun e => by
        rw [hm1] at e
        have := (io_le (by unfold i32; omega) (by unfold i32; omega)).mp e
        omega
      have p2 : io ((2 * j : Nat) : Int) + (2 : Int32) = io ((2 * (j + 1) : Nat) : Int) := by
        have : io ((2 * j : Nat) : Int) + (2 : Int32) = io (((2 * j : Nat) : Int) + 2) := io_add _ 2
        rw [this]
        congr 1
      have p1 : io ((2 * j : Nat) : Int) + (1 : Int32) = io ((2 * j + 1 : Nat) : Int) := io_1 _
      have A1 : f_X8_times_mod_a (lo (kN k)) (lo a) (lo b) (uA j) (uB j) = lo (mv k a b q).1 := by rw [g1, g2, timesA_k, (mv_c k a b q).1]
      have B1 : f_X8_times_mod_b (lo (kT k)) (lo a) (lo b) (uA j) (uB j) = lo (mv k a b q).2 := by rw [g1, g2, timesB_k, (mv_c k a b q).2]
      have A2 : f_X8_times_mod_a (lo (kN k)) (lo a + lo (kT k) * lo b) (-lo b) (uA j) (uB j) = lo (mv k (a + kT k * b) (-b) q).1 := by rw [g1, g2, lo_mul, lo_add, lo_neg, timesA_k, (mv_c k (a + kT k * b) (-b) q).1]
      have B2 : f_X8_times_mod_b (lo (kT k)) (lo a + lo (kT k) * lo b) (-lo b) (uA j) (uB j) = lo (mv k (a + kT k * b) (-b) q).2 := by rw [g1, g2, lo_mul, lo_add, lo_neg, timesB_k, (mv_c k (a + kT k * b) (-b) q).2]
      unfold f_X8_layLeaps_L7
      dsimp only
      rw [e1, e2, if_neg c1, if_neg s3, if_neg d5, if_neg d1, p1, if_neg d3, s5, s6, d6, A1, B1, A2, B2, p2, io_1, d2, d4]
      refine ⟨_, rfl, rfl, rfl, fun i q' hi hq' => ?_⟩
      dsimp only
      unfold vp_updL
      by_cases g : i = j
      · subst g
        rw [hq] at hq'
        have : q = q' := by injection hq'
        subst this
        rw [if_neg (by omega), if_pos rfl, if_neg (by omega), if_pos rfl, if_pos rfl, if_pos rfl]
        exact ⟨⟨rfl, rfl⟩, rfl, rfl⟩
      · rw [if_neg (by omega), if_neg (by omega), if_neg (by omega), if_neg (by omega), if_neg (by omega), if_neg (by omega), if_neg (by omega), if_neg (by omega)]
        exact e3 i q' (by omega) hq'
    · rintro ⟨s1, s2, s4, s7, s8, s9⟩ ⟨e1, e2, e3⟩
      dsimp only at e1 e2 e3
      unfold f_X8_layLeaps_L7
      dsimp only
      rw [e1, e2, if_pos (by rw [hm1, hl]; exact Int32.le_refl _)]
      exact ⟨_, rfl, rfl, e3⟩
  obtain ⟨⟨r1, r2, r3, r4, r5⟩, e, h1, h2⟩ := key
  dsimp only at h1 h2
  refine ⟨r1, r2, r4, r5, ?_, fun i q hq => h2 i q ?_ hq⟩
  · unfold f_X8_layLeaps f_X8_layLeaps_K7_156
    rw [e, h1]
    rfl
  · rw [← hl]
    rcases Nat.lt_or_ge i us.length with z | z
    · exact z
    · rw [List.getElem?_eq_none z] at hq
      exact absurd hq (by simp)
def WH (p q r : Int) : Prop := NF p q r ∧ q ≤ 160000 ∧ p ≤ 102400000000 ∧ (p = 0 → (r.natAbs : Int) ≤ 160000)
theorem wh_step {p q r a b : Int} (hw : WH p q r) (ha : (a.natAbs : Int) ≤ 160000) (hb : (b.natAbs : Int) ≤ 160000) : ∃ p' q' r' : Int, f_X1_add (lo p) (lo q) (lo r) (lo a) (lo b) = some (lo p', lo q', lo r') ∧ f_X8_grow (lo p) (lo q) (lo r) (lo a) (lo b) = some (lo p', lo q', lo r') ∧ WH p' q' r' ∧ (∀ x y, LM p' q' r' x y ↔ ∃ u v w : Int, x = u * p + v * r + w * a ∧ y = v * q + w * b) := by
  obtain ⟨hn, h1, h2, h3⟩ := hw
  have n1 := hn.1
  have n2 := hn.2.1
  have n4 := hn.2.2.2
  have hr : (r.natAbs : Int) ≤ 102400000000 := by
    by_cases z : p = 0
    · have := h3 z; omega
    · have := n4 (by omega); omega
  have mab := Int.mul_le_mul ha hb (by omega) (by omega)
  have maq := Int.mul_le_mul ha (show (q.natAbs : Int) ≤ 160000 by omega) (by omega) (by omega)
  have mrb := Int.mul_le_mul hr hb (by omega) (by omega)
  have fin : ∀ p' q' r' : Int, NF p' q' r' → (∀ x y, LM p' q' r' x y ↔ ∃ u v w : Int, x = u * p + v * r + w * a ∧ y = v * q + w * b) → p' ≤ 102400000000 → WH p' q' r' := by
    intro p' q' r' hn' hm hp'
    obtain ⟨g1, g2, g3⟩ := add_nb hn hn' hm
    have := hn'.2.1
    refine ⟨hn', ?_, hp', fun z => ?_⟩
    · split at g1 <;> omega
    · have g4 := g3 z
      by_cases hq : q = 0
      · rw [if_pos hq] at g4; omega
      · rw [if_neg hq] at g4
        by_cases z2 : p = 0
        · have := h3 z2; omega
        · exfalso
          obtain ⟨u, e⟩ := LM_x0 hn' ((hm p 0).mpr ⟨1, 0, 0, by omega, by omega⟩)
          rw [z, Int.mul_zero] at e
          exact z2 e
  by_cases z : p = 0
  · have hr2 := h3 z
    have mrb2 := Int.mul_le_mul hr2 hb (by omega) (by omega)
    obtain ⟨p', q', r', e1, e2, e3, e4, e5⟩ := add_both (X := 102400000000) hn (a := a) (b := b) (by unfold big; omega) (by unfold big; omega) (by unfold big; omega) hr (by omega) (by omega) (by omega)
    exact ⟨p', q', r', e1, e2, fin p' q' r' e3 e4 (e5 z), e4⟩
  · obtain ⟨p', q', r', e1, e2, e3, e4, -⟩ := add_both (X := 1000000000000000000) hn (a := a) (b := b) (by unfold big; omega) (by unfold big; omega) (by unfold big; omega) (by omega) (by omega) (by omega) (by omega)
    have := (add_nb hn e3 e4).2.1 z
    exact ⟨p', q', r', e1, e2, fin p' q' r' e3 e4 (by omega), e4⟩
/-- least among the nets that hold the first i of the g -/
def LST (g : Nat → Int × Int) (i : Nat) (p q r : Int) : Prop := (∀ j, j < i → LM p q r (g j).1 (g j).2) ∧ ∀ P Q R : Int, (∀ j, j < i → LM P Q R (g j).1 (g j).2) → ∀ x y, LM p q r x y → LM P Q R x y
theorem LM_lin {p q r x y x' y' : Int} (h : LM p q r x y) (h' : LM p q r x' y') (v w : Int) : LM p q r (v * x + w * x') (v * y + w * y') := by
  obtain ⟨u1, v1, rfl, rfl⟩ := h
  obtain ⟨u2, v2, rfl, rfl⟩ := h'
  exact ⟨v * u1 + w * u2, v * v1 + w * v2, by grind, by grind⟩
theorem LST_0 (g : Nat → Int × Int) : LST g 0 0 0 0 := by
  refine ⟨fun j h => by omega, fun P Q R _ x y h => ?_⟩
  obtain ⟨u, v, rfl, rfl⟩ := h
  exact ⟨0, 0, by omega, by omega⟩
theorem LST_1 {g : Nat → Int × Int} {i : Nat} {p q r p' q' r' : Int} (h : LST g i p q r) (hm : ∀ x y, LM p' q' r' x y ↔ ∃ u v w : Int, x = u * p + v * r + w * (g i).1 ∧ y = v * q + w * (g i).2) : LST g (i + 1) p' q' r' := by
  obtain ⟨h1, h2⟩ := h
  constructor
  · intro j hj
    by_cases e : j = i
    · subst e
      exact (hm _ _).mpr ⟨0, 0, 1, by omega, by omega⟩
    · obtain ⟨u, v, e1, e2⟩ := h1 j (by omega)
      exact (hm _ _).mpr ⟨u, v, 0, by omega, by omega⟩
  · intro P Q R hP x y hx
    obtain ⟨u, v, w, rfl, rfl⟩ := (hm x y).mp hx
    have b1 := h2 P Q R (fun j hj => hP j (by omega)) _ _ (show LM p q r (u * p + v * r) (v * q) from ⟨u, v, rfl, rfl⟩)
    have b2 := LM_lin b1 (hP i (by omega)) 1 w
    rw [Int.one_mul, Int.one_mul] at b2
    exact b2
theorem where7 {N : Nat} (hN : N ≤ 12) (g : Nat → Int × Int) (hg : ∀ j, j < N → ((g j).1.natAbs : Int) ≤ 160000 ∧ ((g j).2.natAbs : Int) ≤ 160000) {l : Nat → Int64} (hl : ∀ j, j < N → l j = pk (g j).1 (g j).2) : ∃ p q r : Int, whl (f_X7_where_L51 (io (N : Int)) l) ((0 : Int32), (0 : Int64), (0 : Int64), (0 : Int64)) = some (lo p, lo q, lo r) ∧ WH p q r ∧ LST g N p q r := by
  have key : ∃ z, whl (f_X7_where_L51 (io (N : Int)) l) ((0 : Int32), (0 : Int64), (0 : Int64), (0 : Int64)) = some z ∧ ∃ p q r : Int, z = (lo p, lo q, lo r) ∧ WH p q r ∧ LST g N p q r := by
    refine whl_for (b := f_X7_where_L51 (io (N : Int)) l) N (fun j s => ∃ p q r : Int, s = (io (j : Int), lo p, lo q, lo r) ∧ WH p q r ∧ LST g j p q r) (fun z => ∃ p q r : Int, z = (lo p, lo q, lo r) ∧ WH p q r ∧ LST g N p q r) ?_ ?_ 0 _ (by omega) ⟨0, 0, 0, rfl, ⟨NF_0, by omega, by omega, fun _ => by omega⟩, LST_0 g⟩
    · rintro j s hj ⟨p, q, r, rfl, hw, hs⟩
      obtain ⟨d1, d2⟩ := nat12 (i := j) (by omega)
      obtain ⟨a1, a2⟩ := hg j hj
      obtain ⟨p', q', r', e1, -, w', m'⟩ := wh_step hw a1 a2
      have c1 : ¬ (io (N : Int) ≤ io (j : Int)) := fun e => by
        have := (io_le (by unfold i32; omega) (by unfold i32; omega)).mp e
        omega
      refine ⟨_, ?_, p', q', r', rfl, w', LST_1 hs m'⟩
      unfold f_X7_where_L51
      dsimp only
      rw [if_neg c1, if_neg d1, d2, hl j hj, addN (by unfold i32; omega) (by unfold i32; omega), e1, io_1]
      rfl
    · rintro s ⟨p, q, r, rfl, hw, hs⟩
      refine ⟨_, ?_, p, q, r, rfl, hw, hs⟩
      unfold f_X7_where_L51
      dsimp only
      rw [if_pos (Int32.le_refl _)]
  obtain ⟨z, e, p, q, r, rfl, h⟩ := key
  exact ⟨p, q, r, e, h⟩
theorem where8 {N : Nat} (hN : N ≤ 12) (g : Nat → Int × Int) (hg : ∀ j, j < N → ((g j).1.natAbs : Int) ≤ 160000 ∧ ((g j).2.natAbs : Int) ≤ 160000) {lA lB : Nat → Int64} (hl : ∀ j, j < N → lA j = lo (g j).1 ∧ lB j = lo (g j).2) : ∃ p q r : Int, whl (f_X8_where_L34 (io (N : Int)) lA lB) ((0 : Int32), (0 : Int64), (0 : Int64), (0 : Int64)) = some (lo p, lo q, lo r) ∧ WH p q r ∧ LST g N p q r := by
  have key : ∃ z, whl (f_X8_where_L34 (io (N : Int)) lA lB) ((0 : Int32), (0 : Int64), (0 : Int64), (0 : Int64)) = some z ∧ ∃ p q r : Int, z = (lo p, lo q, lo r) ∧ WH p q r ∧ LST g N p q r := by
    refine whl_for (b := f_X8_where_L34 (io (N : Int)) lA lB) N (fun j s => ∃ p q r : Int, s = (io (j : Int), lo p, lo q, lo r) ∧ WH p q r ∧ LST g j p q r) (fun z => ∃ p q r : Int, z = (lo p, lo q, lo r) ∧ WH p q r ∧ LST g N p q r) ?_ ?_ 0 _ (by omega) ⟨0, 0, 0, rfl, ⟨NF_0, by omega, by omega, fun _ => by omega⟩, LST_0 g⟩
    · rintro j s hj ⟨p, q, r, rfl, hw, hs⟩
      obtain ⟨d1, d2⟩ := nat12 (i := j) (by omega)
      obtain ⟨a1, a2⟩ := hg j hj
      obtain ⟨p', q', r', -, e1, w', m'⟩ := wh_step hw a1 a2
      have c1 : ¬ (io (N : Int) ≤ io (j : Int)) := fun e => by
        have := (io_le (by unfold i32; omega) (by unfold i32; omega)).mp e
        omega
      refine ⟨_, ?_, p', q', r', rfl, w', LST_1 hs m'⟩
      unfold f_X8_where_L34
      dsimp only
      rw [if_neg c1, if_neg d1, d2, (hl j hj).1, (hl j hj).2, e1, io_1]
      rfl
    · rintro s ⟨p, q, r, rfl, hw, hs⟩
      refine ⟨_, ?_, p, q, r, rfl, hw, hs⟩
      unfold f_X8_where_L34
      dsimp only
      rw [if_pos (Int32.le_refl _)]
  obtain ⟨z, e, p, q, r, rfl, h⟩ := key
  exact ⟨p, q, r, e, h⟩
theorem LST_eq {g g' : Nat → Int × Int} {N : Nat} {p q r p' q' r' : Int} (h : LST g N p q r) (h' : LST g' N p' q' r') (hn : NF p q r) (hn' : NF p' q' r') (e1 : ∀ j, j < N → ∃ i, i < N ∧ g j = g' i) (e2 : ∀ j, j < N → ∃ i, i < N ∧ g' j = g i) : p = p' ∧ q = q' ∧ r = r' := by
  refine NF_uniq hn hn' (fun x y => ⟨h.2 p' q' r' (fun j hj => ?_) x y, h'.2 p q r (fun j hj => ?_) x y⟩)
  · obtain ⟨i, hi, e⟩ := e1 j hj
    rw [e]
    exact h'.1 i hi
  · obtain ⟨i, hi, e⟩ := e2 j hj
    rw [e]
    exact h.1 i hi
/-- the leaps of either side, by place -/
def leapC (k : Nat) (a b : Int) (j : Nat) : Int × Int := if j % 2 = 0 then mv k a b (uC k (j / 2)) else mv k (a + kT k * b) (-b) (uC k (j / 2))
def leapM (us : List (Int × Int)) (k : Nat) (a b : Int) (j : Nat) : Int × Int := if j % 2 = 0 then mv k a b (us.getD (j / 2) (0, 0)) else mv k (a + kT k * b) (-b) (us.getD (j / 2) (0, 0))
theorem us_get {us : List (Int × Int)} {i : Nat} (h : i < us.length) : us[i]? = some (us.getD i (0, 0)) := by
  rw [List.getElem?_eq_getElem h, List.getD_eq_getElem?_getD, List.getElem?_eq_getElem h]
  rfl
theorem lp_78 {k : Nat} (hk : k < 5) {us : List (Int × Int)} (hu : UN k us) (a b : Int) : (∀ j, j < 2 * kUn k → ∃ i, i < 2 * kUn k ∧ leapC k a b j = leapM us k a b i) ∧ ∀ j, j < 2 * kUn k → ∃ i, i < 2 * kUn k ∧ leapM us k a b j = leapC k a b i := by
  have hl := UN_len hk hu
  have f1 : ∀ i, i < kUn k → ∃ i', i' < kUn k ∧ uC k i = us.getD i' (0, 0) := by
    intro i hi
    obtain ⟨i', hi'⟩ := List.mem_iff_getElem?.mp ((UN_mem hu (uC k i)).mpr (uC_in k hk i hi))
    have : i' < us.length := by
      rcases Nat.lt_or_ge i' us.length with z | z
      · exact z
      · rw [List.getElem?_eq_none z] at hi'
        exact absurd hi' (by simp)
    refine ⟨i', by omega, ?_⟩
    rw [us_get this] at hi'
    injection hi' with e
    exact e.symm
  have f2 : ∀ i, i < kUn k → ∃ i', i' < kUn k ∧ us.getD i (0, 0) = uC k i' := by
    intro i hi
    exact uC_all k hk _ ((UN_mem hu _).mp (List.mem_of_getElem? (us_get (us := us) (i := i) (by omega))))
  constructor
  · intro j hj
    obtain ⟨i', h1, h2⟩ := f1 (j / 2) (by omega)
    refine ⟨2 * i' + j % 2, by omega, ?_⟩
    unfold leapC leapM
    rw [h2, show (2 * i' + j % 2) % 2 = j % 2 by omega, show (2 * i' + j % 2) / 2 = i' by omega]
  · intro j hj
    obtain ⟨i', h1, h2⟩ := f2 (j / 2) (by omega)
    refine ⟨2 * i' + j % 2, by omega, ?_⟩
    unfold leapC leapM
    rw [h2, show (2 * i' + j % 2) % 2 = j % 2 by omega, show (2 * i' + j % 2) / 2 = i' by omega]
theorem mv_s {k : Nat} {a b : Int} (ha : -40000 ≤ a ∧ a ≤ 40000) (hb : -40000 ≤ b ∧ b ≤ 40000) {u : Int × Int} (h1 : -1 ≤ u.1 ∧ u.1 ≤ 1) (h2 : -1 ≤ u.2 ∧ u.2 ≤ 1) : ((mv k a b u).1.natAbs : Int) ≤ 160000 ∧ ((mv k a b u).2.natAbs : Int) ≤ 160000 := by
  have := mA_s (k := k) (a := u.1) (b := u.2) (c := a) (d := b) (X := 1) (Y := 40000) (by omega) (by omega) h1 h2 ha hb
  unfold mv
  dsimp only
  omega
theorem lp7_b {k : Nat} (hk : k < 5) {a b : Int} (ha : rng a) (hb : rng b) {j : Nat} (hj : j < 2 * kUn k) : ((leapC k a b j).1.natAbs : Int) ≤ 160000 ∧ ((leapC k a b j).2.natAbs : Int) ≤ 160000 := by
  have hU := kUn_b k
  obtain ⟨b1, b2, -⟩ := uC_b k hk (j / 2) (by omega)
  obtain ⟨⟨t1, t2⟩, -⟩ := kTN_b k
  have tb := mul_b t1 t2 hb.1 hb.2
  unfold rng at *
  unfold leapC
  by_cases g : j % 2 = 0
  · rw [if_pos g]
    exact mv_s (by omega) (by omega) b1 b2
  · rw [if_neg g]
    exact mv_s (by omega) (by omega) b1 b2
theorem hm_where : HM_where REL := by
  intro cs ms hrel v1
  obtain ⟨k, us, hk, hu, hnet, ht, hn, hm, hr⟩ := id hrel
  have h := TN_k hk
  have key : ∃ p q, f_X7_where (io (kT k)) (io (kN k)) (io (kU k)) (pk (kSa k) (kSb k)) (a_reg cs) (a_fl_p cs) (a_fl_q cs) (a_fl_r cs) (a_lea_count cs) (a_lps cs) v1 = some p ∧ f_X8_where (lo (kT k)) (lo (kN k)) (a_mod_a ms) (a_mod_b ms) (a_mod_unitMany ms) (a_mod_netP ms) (a_mod_netQ ms) (a_mod_netR ms) (a_mod_leapMany ms) (a_regA ms) (a_regB ms) (a_unitA ms) (a_unitB ms) (a_leapA ms) (a_leapB ms) v1 = some q ∧ p.1 = q.1 := by
    rcases reg2 hr v1 with ⟨g1, g2⟩ | ⟨a, b, ha, hb, s1, s2, s3, s4, s5, s6⟩
    · exact ⟨(-1, _, _, _, _, _), (-1, _, _, _, _, _, _, _, _), by
        simp only [f_X7_where, g1, ↓reduceIte]
        try rfl, by
        simp only [f_X8_where, g2, ↓reduceIte]
        try rfl, rfl⟩
    have nz := pk_z ha.i hb.i
    rcases nought8 s3 ha.y hb.y s5 s6 with ⟨zz, n8⟩ | ⟨zz, n8⟩
    · have n7 := nz.mpr zz
      exact ⟨(-2, _, _, _, _, _), (-2, _, _, _, _, _, _, _, _), by
        simp only [f_X7_where, s1, s3, s4, n7, ↓reduceIte]
        try rfl, by
        simp only [f_X8_where, s2, n8, Option.bind_some, n10, ↓reduceIte]
        try rfl, rfl⟩
    · have n7 : ¬ pk a b = 0 := fun e => zz (nz.mp e)
      have hU := kUn_b k
      have hl := UN_len hk hu
      obtain ⟨l', c7, d7⟩ := collect7 hk ha hb (a_lea_count cs) (a_lps cs)
      obtain ⟨y1, y2, lA, lB, c8, d8'⟩ := leaps8 hk hu hm s3 s5 s6 (a_mod_a ms) (a_mod_b ms) (a_mod_leapMany ms) (a_leapA ms) (a_leapB ms)
      obtain ⟨E1, E2⟩ := lp_78 hk hu a b
      have B7 : ∀ j, j < 2 * kUn k → ((leapC k a b j).1.natAbs : Int) ≤ 160000 ∧ ((leapC k a b j).2.natAbs : Int) ≤ 160000 := fun j hj => lp7_b hk ha hb hj
      have B8 : ∀ j, j < 2 * kUn k → ((leapM us k a b j).1.natAbs : Int) ≤ 160000 ∧ ((leapM us k a b j).2.natAbs : Int) ≤ 160000 := by
        intro j hj
        obtain ⟨i, hi, e⟩ := E2 j hj
        rw [e]
        exact B7 i hi
      have L7 : ∀ j, j < 2 * kUn k → l' j = pk (leapC k a b j).1 (leapC k a b j).2 := by
        intro j hj
        obtain ⟨q1, q2⟩ := d7 (j / 2) (by omega)
        unfold leapC
        by_cases g : j % 2 = 0
        · rw [if_pos g, ← q1]
          congr 1
          omega
        · rw [if_neg g, ← q2]
          congr 1
          omega
      have L8 : ∀ j, j < 2 * kUn k → lA j = lo (leapM us k a b j).1 ∧ lB j = lo (leapM us k a b j).2 := by
        intro j hj
        obtain ⟨⟨q1, q2⟩, q3, q4⟩ := d8' (j / 2) _ (us_get (us := us) (i := j / 2) (by omega))
        unfold leapM
        by_cases g : j % 2 = 0
        · rw [if_pos g, ← q1, ← q2, show 2 * (j / 2) = j by omega]
          exact ⟨rfl, rfl⟩
        · rw [if_neg g, ← q3, ← q4, show 2 * (j / 2) + 1 = j by omega]
          exact ⟨rfl, rfl⟩
      obtain ⟨p, q, r, w7, wh7, ls7⟩ := where7 (N := 2 * kUn k) (by omega) (leapC k a b) B7 L7
      obtain ⟨p', q', r', w8, wh8, ls8⟩ := where8 (N := 2 * kUn k) (by omega) (leapM us k a b) B8 L8
      obtain ⟨rfl, rfl, rfl⟩ := LST_eq ls7 ls8 wh7.1 wh8.1 E1 E2
      have w7' : whl (f_X7_where_L51 (io ((2 * kUn k : Nat) : Int)) l') ((0 : Int32), f_X1_become_fl_p 0, f_X1_become_fl_q 0, f_X1_become_fl_r 0) = some (lo p, lo q, lo r) := w7
      have w8' : whl (f_X8_where_L34 (io ((2 * kUn k : Nat) : Int)) lA lB) ((0 : Int32), f_X8_begin_mod_netP, f_X8_begin_mod_netQ, f_X8_begin_mod_netR) = some (lo p, lo q, lo r) := w8
      obtain ⟨hn', q1, q2, -⟩ := wh7
      have m := Int.mul_le_mul q2 q1 hn'.2.1 (by omega)
      have m0 := Int.mul_nonneg hn'.1 hn'.2.1
      have hp0 := hn'.1
      have hq0 := hn'.2.1
      have z1 : lo p = (0 : Int64) ↔ p = 0 := lo_eq (b := 0) (by unfold i64; omega) (by unfold i64; omega)
      have z2 : lo q = (0 : Int64) ↔ q = 0 := lo_eq (b := 0) (by unfold i64; omega) (by unfold i64; omega)
      have z3 : lo (p * q) = (0 : Int64) ↔ p * q = 0 := lo_eq (b := 0) (by unfold i64; omega) (by unfold i64; omega)
      by_cases g1 : p = 0
      · have u1 := z1.mpr g1
        have u3 := z3.mpr (by rw [g1, Int.zero_mul])
        exact ⟨(-4, _, _, _, _, _), (-4, _, _, _, _, _, _, _, _), by
          simp only [f_X7_where, s1, s3, s4, n7, c7, w7', f_X7_where_K51_84, lo_mul, u3, Option.bind_some, ↓reduceIte]
          try rfl, by
          simp only [f_X8_where, s2, n8, c8, w8', f_X8_where_K34_64, u1, Option.bind_some, ↓reduceIte]
          try rfl, rfl⟩
      · have u1 : ¬ lo p = (0 : Int64) := fun e => g1 (z1.mp e)
        by_cases g2 : q = 0
        · have u2 := z2.mpr g2
          have u3 := z3.mpr (by rw [g2, Int.mul_zero])
          exact ⟨(-4, _, _, _, _, _), (-4, _, _, _, _, _, _, _, _), by
            simp only [f_X7_where, s1, s3, s4, n7, c7, w7', f_X7_where_K51_84, lo_mul, u3, Option.bind_some, ↓reduceIte]
            try rfl, by
            simp only [f_X8_where, s2, n8, c8, w8', f_X8_where_K34_64, u1, u2, Option.bind_some, ↓reduceIte]
            try rfl, rfl⟩
        · have u2 : ¬ lo q = (0 : Int64) := fun e => g2 (z2.mp e)
          have u3 : ¬ lo (p * q) = (0 : Int64) := fun e => (Int.mul_eq_zero.mp (z3.mp e)).elim g1 g2
          exact ⟨(lo (p * q), _, _, _, _, _), (lo (p * q), _, _, _, _, _, _, _, _), by
            simp only [f_X7_where, s1, s3, s4, n7, c7, w7', f_X7_where_K51_84, lo_mul, u3, Option.bind_some, ↓reduceIte]
            try rfl, by
            simp only [f_X8_where, s2, n8, c8, w8', f_X8_where_K34_64, lo_mul, u1, u2, Option.bind_some, ↓reduceIte]
            try rfl, rfl⟩
  obtain ⟨p, q, e1, e2, e3⟩ := key
  refine ⟨p, q, ?_, ?_, e3, k, us, hk, hu, hnet, ht, hn, hm, hr⟩
  · rw [hnet.1, hnet.2.1, hnet.2.2.1, hnet.2.2.2]; exact e1
  · rw [ht, hn]; exact e2
