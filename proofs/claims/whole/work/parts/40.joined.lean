/-! joined: sums and meets -/
theorem holds_v {p q r x y : Int} (hp : 0 < p) (hq : 0 < q) (bp : big p) (bq : big q) (bY : big y) (bx : big (x - y.tdiv q * r)) : ((q ∣ y ∧ p ∣ x - y.tdiv q * r) ∧ f_X1_holds (lo p) (lo q) (lo r) (lo x) (lo y) = some 1 ∧ f_X8_hasIn (lo p) (lo q) (lo r) (lo x) (lo y) = some 1) ∨ (¬ (q ∣ y ∧ p ∣ x - y.tdiv q * r) ∧ f_X1_holds (lo p) (lo q) (lo r) (lo x) (lo y) = some 0 ∧ f_X8_hasIn (lo p) (lo q) (lo r) (lo x) (lo y) = some 0) := by
  have nP := lo_nz bp.l (show ¬ p = 0 by omega)
  have nQ := lo_nz bq.l (show ¬ q = 0 by omega)
  have c1 := dvd_lo bY.l bq.l hq
  have c2 := dvd_lo bx.l bp.l hp
  have e : lo x - lo y / lo q * lo r = lo (x - y.tdiv q * r) := by rw [lo_tdiv bY bq (by omega), lo_mul, lo_sub]
  rw [← e] at c2
  by_cases g1 : q ∣ y
  · have h1 := c1.mpr g1
    by_cases g2 : p ∣ x - y.tdiv q * r
    · have h2 := c2.mpr g2
      left
      exact ⟨⟨g1, g2⟩, by simp only [f_X1_holds, f_X7_divides, f_X7_ratio, nP, nQ, h1, h2, ↓reduceIte, Option.bind_some, n10], by simp only [f_X8_hasIn, nP, nQ, h1, h2, ↓reduceIte]⟩
    · have h2 : ¬ lo x - lo y / lo q * lo r - (lo x - lo y / lo q * lo r) / lo p * lo p = 0 := fun z => g2 (c2.mp z)
      right
      exact ⟨fun z => g2 z.2, by simp only [f_X1_holds, f_X7_divides, f_X7_ratio, nP, nQ, h1, h2, ↓reduceIte, Option.bind_some, n10], by simp only [f_X8_hasIn, nP, nQ, h1, h2, ↓reduceIte]⟩
  · have h1 : ¬ lo y - lo y / lo q * lo q = 0 := fun z => g1 (c1.mp z)
    right
    exact ⟨fun z => g1 z.1, by simp only [f_X1_holds, f_X7_divides, nQ, h1, ↓reduceIte, Option.bind_some], by simp only [f_X8_hasIn, nQ, h1, ↓reduceIte]⟩
theorem GD_dvd {x y : Int} (hy : big y) : GD x y ∣ x ∧ GD x y ∣ y := by
  obtain ⟨-, -, s⟩ := GD_spec (x := x) hy
  constructor
  · obtain ⟨u, e⟩ := (s x).mp ⟨1, 0, by omega⟩
    exact ⟨u, by rw [Int.mul_comm]; exact e⟩
  · obtain ⟨u, e⟩ := (s y).mp ⟨0, 1, by omega⟩
    exact ⟨u, by rw [Int.mul_comm]; exact e⟩
theorem GD_bez {x y : Int} (hy : big y) : ∃ u w : Int, GD x y = u * x + w * y := (GD_spec (x := x) hy).2.2 (GD x y) |>.mpr ⟨1, by omega⟩
theorem GD_pos {x y : Int} (hy : big y) (hx : ¬ x = 0) : 1 ≤ GD x y := by
  have h0 := (GD_spec (x := x) hy).1
  obtain ⟨u, e⟩ := (GD_dvd (x := x) hy).1
  rcases Int.lt_or_le 0 (GD x y) with g | g
  · omega
  · have : GD x y = 0 := by omega
    rw [this, Int.zero_mul] at e
    exact absurd e hx
theorem ratio7 {x y : Int} (hx : big x) (hy : big y) (h : ¬ y = 0) : f_X7_ratio (lo x) (lo y) = some (lo (x.tdiv y)) := by
  have n := lo_nz hy.l h
  unfold f_X7_ratio
  rw [if_neg n, if_neg n, lo_tdiv hx hy h]
def MT (p A p2 B x : Int) : Prop := p ∣ x - A ∧ p2 ∣ x - B
theorem crt {p p2 g A B b1 b2 u w : Int} (hp : 0 < p) (hp2 : 0 < p2) (e1 : p = b1 * g) (e2 : p2 = b2 * g) (hg : 0 < g) (bz : g = u * p + w * p2) (hd : g ∣ A - B) : 0 < b1 * p2 ∧ ∃ x, 0 ≤ x ∧ x < b1 * p2 ∧ MT p A p2 B x := by
  have hb1 : 0 < b1 := by
    rcases Int.lt_or_le 0 b1 with z | z
    · exact z
    · have := Int.mul_le_mul_of_nonneg_right z (Int.le_of_lt hg)
      omega
  have hP : 0 < b1 * p2 := Int.mul_pos hb1 hp2
  refine ⟨hP, ?_⟩
  obtain ⟨m, hm⟩ := hd
  have e3 : b1 * p2 = b2 * p := by rw [e1, e2]; grind
  refine ⟨(A - m * u * p) % (b1 * p2), Int.emod_nonneg _ (by omega), Int.emod_lt_of_pos _ hP, ?_, ?_⟩
  · refine ⟨-(m * u) - b2 * ((A - m * u * p) / (b1 * p2)), ?_⟩
    have := Int.emod_add_mul_ediv (A - m * u * p) (b1 * p2)
    have h2 : p * (-(m * u) - b2 * ((A - m * u * p) / (b1 * p2))) = -(m * u * p) - b2 * p * ((A - m * u * p) / (b1 * p2)) := by grind
    rw [h2, ← e3]
    omega
  · refine ⟨m * w - b1 * ((A - m * u * p) / (b1 * p2)), ?_⟩
    have := Int.emod_add_mul_ediv (A - m * u * p) (b1 * p2)
    have h2 : p2 * (m * w - b1 * ((A - m * u * p) / (b1 * p2))) = m * w * p2 - b1 * p2 * ((A - m * u * p) / (b1 * p2)) := by grind
    have h3 : A - B = m * (u * p + w * p2) := by rw [← bz, hm, Int.mul_comm]
    have h4 : m * (u * p + w * p2) = m * u * p + m * w * p2 := by grind
    rw [h2]
    omega
theorem dvd_shift {p x y z : Int} (h : p ∣ x - y) (g : p ∣ x - z) : p ∣ y - z := by
  have := Int.dvd_sub g h
  rw [show x - z - (x - y) = y - z by omega] at this
  exact this
/-- the class: the least of all -/
theorem least7 {p q r p2 q2 r2 P Q A B x0 : Int} (hp : 1 ≤ p ∧ p ≤ 200) (hq : 1 ≤ q ∧ q ≤ 200) (hp2 : 1 ≤ p2 ∧ p2 ≤ 200) (hq2 : 1 ≤ q2 ∧ q2 ≤ 200) (hQ : 0 ≤ Q ∧ Q ≤ 100000000) (hP : P ≤ 100000000) (d1 : q ∣ Q) (d2 : q2 ∣ Q) (eA : Q.tdiv q * r = A) (eB : Q.tdiv q2 * r2 = B) (bA : (A.natAbs : Int) ≤ 1000000000000) (bB : (B.natAbs : Int) ≤ 1000000000000) (h0 : 0 ≤ x0) (h1 : x0 < P) (hm : MT p A p2 B x0) : ∃ x, whl (f_X1_meet_L119 (lo p) (lo q) (lo r) (lo p2) (lo q2) (lo r2) (lo P) (lo Q)) (0 : Int64) = some (lo x) ∧ 0 ≤ x ∧ x ≤ x0 ∧ MT p A p2 B x ∧ ∀ j, 0 ≤ j → j < x → ¬ MT p A p2 B j := by
  have key : ∃ z, whl (f_X1_meet_L119 (lo p) (lo q) (lo r) (lo p2) (lo q2) (lo r2) (lo P) (lo Q)) (0 : Int64) = some z ∧ ∃ x, z = lo x ∧ 0 ≤ x ∧ x ≤ x0 ∧ MT p A p2 B x ∧ ∀ j, 0 ≤ j → j < x → ¬ MT p A p2 B j := by
    have step : ∀ i : Int, 0 ≤ i → i ≤ x0 → (MT p A p2 B i ∧ f_X1_meet_L119 (lo p) (lo q) (lo r) (lo p2) (lo q2) (lo r2) (lo P) (lo Q) (lo i) = some (Sum.inr (lo i))) ∨ (¬ MT p A p2 B i ∧ f_X1_meet_L119 (lo p) (lo q) (lo r) (lo p2) (lo q2) (lo r2) (lo P) (lo Q) (lo i) = some (Sum.inl (lo (i + 1)))) := by
      intro i hi hi2
      have c1 : ¬ lo P ≤ lo i := fun e => by
        have := (lo_le (by unfold i64; omega) (by unfold i64; omega)).mp e
        omega
      have e1 : lo i + (1 : Int64) = lo (i + 1) := lo_add i 1
      have k1 := holds_v (p := p) (q := q) (r := r) (x := i) (y := Q) (by omega) (by omega) (by unfold big; omega) (by unfold big; omega) (by unfold big; omega) (by rw [eA]; unfold big; omega)
      have k2 := holds_v (p := p2) (q := q2) (r := r2) (x := i) (y := Q) (by omega) (by omega) (by unfold big; omega) (by unfold big; omega) (by unfold big; omega) (by rw [eB]; unfold big; omega)
      rw [eA] at k1
      rw [eB] at k2
      unfold f_X1_meet_L119 MT
      rw [if_neg c1]
      rcases k1 with ⟨⟨-, g1⟩, f1, -⟩ | ⟨g1, f1, -⟩
      · rw [f1]
        simp only [Option.bind_some, n10, ↓reduceIte]
        rcases k2 with ⟨⟨-, g2⟩, f2, -⟩ | ⟨g2, f2, -⟩
        · rw [f2]
          simp only [Option.bind_some, n10, ↓reduceIte]
          exact Or.inl ⟨⟨g1, g2⟩, trivial⟩
        · rw [f2]
          simp only [Option.bind_some, ↓reduceIte]
          rw [e1]
          exact Or.inr ⟨fun e => g2 ⟨d2, e.2⟩, rfl⟩
      · rw [f1]
        simp only [Option.bind_some, ↓reduceIte]
        rw [e1]
        exact Or.inr ⟨fun e => g1 ⟨d1, e.1⟩, rfl⟩
    refine whl_fe (b := f_X1_meet_L119 (lo p) (lo q) (lo r) (lo p2) (lo q2) (lo r2) (lo P) (lo Q)) x0.toNat (fun i s => s = lo (i : Int) ∧ ∀ j : Int, 0 ≤ j → j < (i : Int) → ¬ MT p A p2 B j) (fun z => ∃ x, z = lo x ∧ 0 ≤ x ∧ x ≤ x0 ∧ MT p A p2 B x ∧ ∀ j, 0 ≤ j → j < x → ¬ MT p A p2 B j) ?_ ?_ 0 _ (by omega) ⟨rfl, fun j h g => by omega⟩
    · rintro i s hi ⟨rfl, hs⟩
      rcases step (i : Int) (by omega) (by omega) with ⟨g, e⟩ | ⟨g, e⟩
      · left
        exact ⟨_, e, (i : Int), rfl, by omega, by omega, g, hs⟩
      · right
        refine ⟨_, e, rfl, fun j hj hj2 => ?_⟩
        by_cases z : j = (i : Int)
        · rw [z]; exact g
        · exact hs j hj (by omega)
    · rintro s ⟨rfl, hs⟩
      rcases step ((x0.toNat : Nat) : Int) (by omega) (by omega) with ⟨g, e⟩ | ⟨g, e⟩
      · exact ⟨_, e, ((x0.toNat : Nat) : Int), rfl, by omega, by omega, g, hs⟩
      · rw [show ((x0.toNat : Nat) : Int) = x0 by omega] at g
        exact absurd hm g
  obtain ⟨z, e, x, rfl, h⟩ := key
  exact ⟨x, e, h⟩
/-- the reference: by steps of p from the rest -/
theorem least8 {p p2 q2 r2 Q A B x0 : Int} (hp : 1 ≤ p ∧ p ≤ 200) (hp2 : 1 ≤ p2 ∧ p2 ≤ 200) (hq2 : 1 ≤ q2 ∧ q2 ≤ 200) (hQ : 0 ≤ Q ∧ Q ≤ 100000000) (d2 : q2 ∣ Q) (eB : Q.tdiv q2 * r2 = B) (bB : (B.natAbs : Int) ≤ 1000000000000) (h0 : 0 ≤ x0) (h1 : x0 ≤ 100000000) (hm : MT p A p2 B x0) : ∃ x, whl (f_X8_meet_L89 (lo p) (lo p2) (lo q2) (lo r2) (lo Q)) (lo (A % p)) = some (lo x) ∧ 0 ≤ x ∧ x ≤ x0 ∧ MT p A p2 B x ∧ ∀ j, 0 ≤ j → j < x → ¬ MT p A p2 B j := by
  have a0 := Int.emod_nonneg A (show p ≠ 0 by omega)
  have a1 := Int.emod_lt_of_pos A (show 0 < p by omega)
  have a2 := Int.emod_add_mul_ediv A p
  -- all that are A by p, from 0 on
  have form : ∀ j : Int, 0 ≤ j → p ∣ j - A → ∃ i : Nat, j = A % p + (i : Int) * p := by
    rintro j hj ⟨m, e⟩
    have e2 : j = A % p + (m + A / p) * p := by
      have : (m + A / p) * p = p * m + p * (A / p) := by grind
      omega
    have hn : 0 ≤ m + A / p := by
      rcases Int.lt_or_le (m + A / p) 0 with z | z
      · have := Int.mul_le_mul_of_nonneg_right (show m + A / p ≤ -1 by omega) (show 0 ≤ p by omega)
        omega
      · exact z
    exact ⟨(m + A / p).toNat, by rw [show (((m + A / p).toNat : Nat) : Int) = m + A / p by omega]; exact e2⟩
  have mod1 : ∀ i : Nat, p ∣ A % p + (i : Int) * p - A := by
    intro i
    refine ⟨(i : Int) - A / p, ?_⟩
    have : p * ((i : Int) - A / p) = (i : Int) * p - p * (A / p) := by grind
    omega
  obtain ⟨N, hN⟩ := form x0 h0 hm.1
  have lt_of : ∀ i j : Nat, A % p + (i : Int) * p < A % p + (j : Int) * p → i < j := by
    intro i j h
    rcases Nat.lt_or_ge i j with z | z
    · exact z
    · have := Int.mul_le_mul_of_nonneg_right (show (j : Int) ≤ (i : Int) by omega) (show 0 ≤ p by omega)
      omega
  have le_of : ∀ i j : Nat, i ≤ j → (i : Int) * p ≤ (j : Int) * p := by
    intro i j h
    exact Int.mul_le_mul_of_nonneg_right (by omega) (by omega)
  have step : ∀ i : Nat, i ≤ N → (MT p A p2 B (A % p + (i : Int) * p) ∧ f_X8_meet_L89 (lo p) (lo p2) (lo q2) (lo r2) (lo Q) (lo (A % p + (i : Int) * p)) = some (Sum.inr (lo (A % p + (i : Int) * p)))) ∨ (¬ MT p A p2 B (A % p + (i : Int) * p) ∧ f_X8_meet_L89 (lo p) (lo p2) (lo q2) (lo r2) (lo Q) (lo (A % p + (i : Int) * p)) = some (Sum.inl (lo (A % p + ((i + 1 : Nat) : Int) * p)))) := by
    intro i hi
    have l1 := le_of i N hi
    have l2 := le_of 0 i (by omega)
    have e3 : A % p + ((i + 1 : Nat) : Int) * p = A % p + (i : Int) * p + p := by
      have : ((i + 1 : Nat) : Int) = (i : Int) + 1 := rfl
      rw [this, Int.add_mul]
      omega
    have m1 := mod1 i
    rw [e3]
    have hb : 0 ≤ A % p + (i : Int) * p ∧ A % p + (i : Int) * p ≤ x0 := by omega
    generalize A % p + (i : Int) * p = x at *
    have k2 := holds_v (p := p2) (q := q2) (r := r2) (x := x) (y := Q) (by omega) (by omega) (by unfold big; omega) (by unfold big; omega) (by unfold big; omega) (by rw [eB]; unfold big; omega)
    rw [eB] at k2
    unfold f_X8_meet_L89 MT
    rcases k2 with ⟨⟨-, g2⟩, -, f2⟩ | ⟨g2, -, f2⟩
    · rw [f2]
      simp only [Option.bind_some, n10, ↓reduceIte]
      exact Or.inl ⟨⟨m1, g2⟩, trivial⟩
    · rw [f2]
      simp only [Option.bind_some, ↓reduceIte]
      rw [lo_add]
      exact Or.inr ⟨fun e => g2 ⟨d2, e.2⟩, rfl⟩
  have min_of : ∀ i : Nat, (∀ i' : Nat, i' < i → ¬ MT p A p2 B (A % p + (i' : Int) * p)) → ∀ j, 0 ≤ j → j < A % p + (i : Int) * p → ¬ MT p A p2 B j := by
    intro i h j hj hj2 hmj
    obtain ⟨i', e⟩ := form j hj hmj.1
    rw [e] at hmj hj2
    exact h i' (lt_of i' i hj2) hmj
  have key : ∃ z, whl (f_X8_meet_L89 (lo p) (lo p2) (lo q2) (lo r2) (lo Q)) (lo (A % p)) = some z ∧ ∃ x, z = lo x ∧ 0 ≤ x ∧ x ≤ x0 ∧ MT p A p2 B x ∧ ∀ j, 0 ≤ j → j < x → ¬ MT p A p2 B j := by
    refine whl_fe (b := f_X8_meet_L89 (lo p) (lo p2) (lo q2) (lo r2) (lo Q)) N (fun i s => s = lo (A % p + (i : Int) * p) ∧ ∀ i' : Nat, i' < i → ¬ MT p A p2 B (A % p + (i' : Int) * p)) (fun z => ∃ x, z = lo x ∧ 0 ≤ x ∧ x ≤ x0 ∧ MT p A p2 B x ∧ ∀ j, 0 ≤ j → j < x → ¬ MT p A p2 B j) ?_ ?_ 0 _ (by omega) ⟨?_, fun i' h => by omega⟩
    · rintro i s hi ⟨rfl, hs⟩
      have l1 := le_of i N (by omega)
      have l2 := le_of 0 i (by omega)
      rcases step i (by omega) with ⟨g, e⟩ | ⟨g, e⟩
      · left
        exact ⟨_, e, _, rfl, by omega, by omega, g, min_of i hs⟩
      · right
        refine ⟨_, e, rfl, fun i' hi' => ?_⟩
        by_cases z : i' = i
        · rw [z]; exact g
        · exact hs i' (by omega)
    · rintro s ⟨rfl, hs⟩
      have l2 := le_of 0 N (by omega)
      rcases step N (by omega) with ⟨g, e⟩ | ⟨g, e⟩
      · exact ⟨_, e, _, rfl, by omega, by omega, g, min_of N hs⟩
      · rw [← hN] at g
        exact absurd hm g
    · congr 1
      have : ((0 : Nat) : Int) * p = 0 := Int.zero_mul p
      rw [this, Int.add_zero]
  obtain ⟨z, e, x, rfl, h⟩ := key
  exact ⟨x, e, h⟩
theorem mul3_b {x y X Y : Int} (hx : 0 ≤ x ∧ x ≤ X) (hy : 0 ≤ y ∧ y ≤ Y) : 0 ≤ x * y ∧ x * y ≤ X * Y := ⟨Int.mul_nonneg hx.1 hy.1, Int.mul_le_mul hx.2 hy.2 hy.1 (by omega)⟩
theorem quot_pos {x y g : Int} (e : x = y * g) (hx : 0 < x) (hg : 0 < g) : 1 ≤ y ∧ y ≤ x := by
  have h1 : 1 ≤ y := by
    rcases Int.lt_or_le 0 y with z | z
    · omega
    · have := Int.mul_le_mul_of_nonneg_right z (Int.le_of_lt hg)
      omega
  have := Int.mul_le_mul_of_nonneg_left (show 1 ≤ g by omega) (show 0 ≤ y by omega)
  omega
theorem meet_both {p q r p2 q2 r2 : Int} (hp : 1 ≤ p ∧ p ≤ 200) (hq : 1 ≤ q ∧ q ≤ 200) (hr : 0 ≤ r ∧ r < p) (hp2 : 1 ≤ p2 ∧ p2 ≤ 200) (hq2 : 1 ≤ q2 ∧ q2 ≤ 200) (hr2 : 0 ≤ r2 ∧ r2 < p2) (x1 x2 x3 : Int64) : ∃ P Q R R7 : Int, f_X1_meet (lo p) (lo q) (lo r) (lo p2) (lo q2) (lo r2) = some (lo P, lo Q, lo R7) ∧ f_X8_meet x1 x2 x3 (lo p) (lo q) (lo r) (lo p2) (lo q2) (lo r2) = some (lo P, lo Q, lo R) ∧ (P ≤ 200 → Q ≤ 200 → R7 = R) ∧ big P ∧ big Q := by
  have sm : ∀ z : Int, 0 ≤ z → z ≤ 200 → big z := by intro z h1 h2; unfold big; omega
  have bp := sm p (by omega) (by omega)
  have bq := sm q (by omega) (by omega)
  have bp2 := sm p2 (by omega) (by omega)
  have bq2 := sm q2 (by omega) (by omega)
  have g7 := gcd7_v bp bp2
  have G7 := gcd7_v bq bq2
  have g8 := shared8_v bp bp2
  have G8 := shared8_v bq bq2
  have gp := GD_pos (x := p) bp2 (by omega)
  have Gp := GD_pos (x := q) bq2 (by omega)
  obtain ⟨⟨b1, e1⟩, b2, e2⟩ := GD_dvd (x := p) bp2
  obtain ⟨⟨a1, f1⟩, a2, f2⟩ := GD_dvd (x := q) bq2
  obtain ⟨u, w, bz⟩ := GD_bez (x := p) bp2
  generalize GD p p2 = g at *
  generalize GD q q2 = G at *
  rw [Int.mul_comm] at e1 e2 f1 f2
  obtain ⟨b1a, b1b⟩ := quot_pos e1 (by omega) (by omega)
  obtain ⟨b2a, b2b⟩ := quot_pos e2 (by omega) (by omega)
  obtain ⟨a1a, a1b⟩ := quot_pos f1 (by omega) (by omega)
  obtain ⟨a2a, a2b⟩ := quot_pos f2 (by omega) (by omega)
  have gle : g ≤ 200 := by
    have := Int.mul_le_mul_of_nonneg_right b1a (show 0 ≤ g by omega)
    omega
  have Gle : G ≤ 200 := by
    have := Int.mul_le_mul_of_nonneg_right a1a (show 0 ≤ G by omega)
    omega
  have t1 : q.tdiv G = a1 := by rw [f1]; exact Int.mul_tdiv_cancel _ (by omega)
  have t2 : p.tdiv g = b1 := by rw [e1]; exact Int.mul_tdiv_cancel _ (by omega)
  have lev2 : a1 * q2 = a2 * q := by rw [f1, f2]; grind
  have t3 : (a1 * q2).tdiv q = a2 := by rw [lev2]; exact Int.mul_tdiv_cancel _ (by omega)
  have t4 : (a1 * q2).tdiv q2 = a1 := Int.mul_tdiv_cancel _ (by omega)
  have lb := mul3_b (x := a1) (y := q2) (X := 200) (Y := 200) (by omega) (by omega)
  have lpos : 0 < a1 * q2 := Int.mul_pos (by omega) (by omega)
  have o1 := mul3_b (x := r) (y := a2) (X := 200) (Y := 200) (by omega) (by omega)
  have o2 := mul3_b (x := r2) (y := a1) (X := 200) (Y := 200) (by omega) (by omega)
  have Pb := mul3_b (x := b1) (y := p2) (X := 200) (Y := 200) (by omega) (by omega)
  have bo : big (r * a2 - r2 * a1) := by unfold big; omega
  have bg : big g := sm g (by omega) gle
  have h7 := gcd7_v bg bo
  have hp3 := GD_pos (x := g) bo (by omega)
  obtain ⟨⟨h, e3⟩, o', e4⟩ := GD_dvd (x := g) bo
  obtain ⟨u2, w2, bz2⟩ := GD_bez (x := g) bo
  generalize GD g (r * a2 - r2 * a1) = e at *
  rw [Int.mul_comm] at e3
  obtain ⟨ha, hb⟩ := quot_pos e3 (by omega) (by omega)
  have ele : e ≤ 200 := by
    have := Int.mul_le_mul_of_nonneg_right ha (show 0 ≤ e by omega)
    omega
  have t5 : g.tdiv e = h := by rw [e3]; exact Int.mul_tdiv_cancel _ (by omega)
  have Qb := mul3_b (x := a1 * q2) (y := h) (X := 40000) (Y := 200) (by omega) (by omega)
  -- how often the level is taken
  have often : ∀ j : Int, g ∣ j * (r * a2 - r2 * a1) ↔ h ∣ j := by
    intro j
    constructor
    · rintro ⟨m, hm⟩
      refine ⟨u2 * j + w2 * m, ?_⟩
      have q1 : j * e = e * (h * (u2 * j + w2 * m)) := by
        have q2 : j * e = u2 * j * g + w2 * (j * (r * a2 - r2 * a1)) := by rw [bz2]; grind
        rw [q2, hm, e3]; grind
      have q3 : e * j = e * (h * (u2 * j + w2 * m)) := by rw [Int.mul_comm]; exact q1
      exact Int.eq_of_mul_eq_mul_left (by omega) q3
    · rintro ⟨m, rfl⟩
      refine ⟨m * o', ?_⟩
      rw [e4, e3]; grind
  have A1 : (a1 * q2 * h).tdiv q = h * a2 := by
    rw [lev2, show a2 * q * h = h * a2 * q by grind]
    exact Int.mul_tdiv_cancel _ (by omega)
  have B1 : (a1 * q2 * h).tdiv q2 = h * a1 := by
    rw [show a1 * q2 * h = h * a1 * q2 by grind]
    exact Int.mul_tdiv_cancel _ (by omega)
  have dq : q ∣ a1 * q2 * h := ⟨a2 * h, by rw [lev2]; grind⟩
  have dq2 : q2 ∣ a1 * q2 * h := ⟨a1 * h, by grind⟩
  have ha2 := mul3_b (x := h) (y := a2) (X := 200) (Y := 200) (by omega) (by omega)
  have ha1 := mul3_b (x := h) (y := a1) (X := 200) (Y := 200) (by omega) (by omega)
  have bA := mul3_b (x := h * a2) (y := r) (X := 40000) (Y := 200) (by omega) (by omega)
  have bB := mul3_b (x := h * a1) (y := r2) (X := 40000) (Y := 200) (by omega) (by omega)
  have dAB : g ∣ h * a2 * r - h * a1 * r2 := by
    have := (often h).mpr ⟨1, by omega⟩
    rw [show h * (r * a2 - r2 * a1) = h * a2 * r - h * a1 * r2 by grind] at this
    exact this
  obtain ⟨Ppos, x0, x00, x01, hm⟩ := crt (A := h * a2 * r) (B := h * a1 * r2) (show 0 < p by omega) (show 0 < p2 by omega) e1 e2 (by omega) bz dAB
  -- the reference
  have y8 : whl (f_X8_meet_L25 (lo q) (lo r) (lo q2) (lo r2) (lo g) (lo (a1 * q2))) (lo (a1 * q2)) = some (lo (a1 * q2 * h)) := by
    have key : ∃ z, whl (f_X8_meet_L25 (lo q) (lo r) (lo q2) (lo r2) (lo g) (lo (a1 * q2))) (lo (a1 * q2)) = some z ∧ z = lo (a1 * q2 * h) := by
      have nq := lo_nz bq.l (show ¬ q = 0 by omega)
      have nq2 := lo_nz bq2.l (show ¬ q2 = 0 by omega)
      have ng := lo_nz bg.l (show ¬ g = 0 by omega)
      have val : ∀ j : Int, 1 ≤ j → j ≤ h → (lo (j * (a1 * q2)) / lo q * lo r - lo (j * (a1 * q2)) / lo q2 * lo r2 - (lo (j * (a1 * q2)) / lo q * lo r - lo (j * (a1 * q2)) / lo q2 * lo r2) / lo g * lo g = (0 : Int64) ↔ h ∣ j) := by
        intro j j1 j2
        have jb := mul3_b (x := j) (y := a1 * q2) (X := 200) (Y := 40000) (by omega) (by omega)
        have bj : big (j * (a1 * q2)) := by unfold big; omega
        have k1 : (j * (a1 * q2)).tdiv q = j * a2 := by
          rw [lev2, show j * (a2 * q) = j * a2 * q by grind]
          exact Int.mul_tdiv_cancel _ (by omega)
        have k2 : (j * (a1 * q2)).tdiv q2 = j * a1 := by
          rw [show j * (a1 * q2) = j * a1 * q2 by grind]
          exact Int.mul_tdiv_cancel _ (by omega)
        have k3 := mul3_b (x := j) (y := r * a2) (X := 200) (Y := 40000) (by omega) (by omega)
        have k4 := mul3_b (x := j) (y := r2 * a1) (X := 200) (Y := 40000) (by omega) (by omega)
        rw [lo_tdiv bj bq (by omega), lo_tdiv bj bq2 (by omega), k1, k2, lo_mul, lo_mul, lo_sub, show j * a2 * r - j * a1 * r2 = j * (r * a2 - r2 * a1) by grind, ← often j]
        have k5 : j * (r * a2 - r2 * a1) = j * (r * a2) - j * (r2 * a1) := by grind
        exact dvd_lo (by rw [k5]; unfold i64; omega) bg.l (by omega)
      refine whl_for (b := f_X8_meet_L25 (lo q) (lo r) (lo q2) (lo r2) (lo g) (lo (a1 * q2))) (h - 1).toNat (fun i s => s = lo (((i : Int) + 1) * (a1 * q2))) (fun z => z = lo (a1 * q2 * h)) ?_ ?_ 0 _ (by omega) ?_
      · rintro i s hi rfl
        have v := val ((i : Int) + 1) (by omega) (by omega)
        have no : ¬ h ∣ (i : Int) + 1 := fun d => by
          have := Int.le_of_dvd (by omega) d
          omega
        unfold f_X8_meet_L25
        rw [if_neg nq, if_neg nq2, if_neg ng, if_neg (fun z => no (v.mp z)), lo_add]
        refine ⟨_, rfl, ?_⟩
        congr 1
        have : ((i + 1 : Nat) : Int) + 1 = (i : Int) + 1 + 1 := rfl
        rw [this]
        grind
      · rintro s rfl
        have e5 : (((h - 1).toNat : Nat) : Int) + 1 = h := by omega
        have v := val h (by omega) (by omega)
        rw [e5]
        unfold f_X8_meet_L25
        rw [if_neg nq, if_neg nq2, if_neg ng, if_pos (v.mpr ⟨1, by omega⟩)]
        refine ⟨_, rfl, ?_⟩
        rw [Int.mul_comm]
      · congr 1
        have : ((0 : Nat) : Int) + 1 = 1 := rfl
        rw [this, Int.one_mul]
    obtain ⟨z, k1, k2⟩ := key
    rw [k1, k2]
  have bQ : big (a1 * q2 * h) := by unfold big; omega
  have bP : big (b1 * p2) := by unfold big; omega
  obtain ⟨X8, l8, m80, m81, m82, m83⟩ := least8 (p := p) (p2 := p2) (q2 := q2) (r2 := r2) (Q := a1 * q2 * h) (A := h * a2 * r) (B := h * a1 * r2) (x0 := x0) hp hp2 hq2 (by omega) dq2 (by rw [B1]) (by omega) x00 (by omega) hm
  have E8 : f_X8_meet x1 x2 x3 (lo p) (lo q) (lo r) (lo p2) (lo q2) (lo r2) = some (lo (b1 * p2), lo (a1 * q2 * h), lo X8) := by
    have nG := lo_nz (z := G) (by unfold i64; omega) (by omega)
    have nq := lo_nz bq.l (show ¬ q = 0 by omega)
    have ng := lo_nz bg.l (show ¬ g = 0 by omega)
    have r1 := rest8 (a := h * a2 * r) (b := p) (by unfold i64; omega) bp.l (by omega)
    have r2' := rest8 (a := X8) (b := b1 * p2) (by unfold i64; omega) bP.l Ppos
    rw [Int.emod_eq_of_lt m80 (by omega)] at r2'
    unfold f_X8_meet
    rw [g8, G8]
    simp only [Option.bind_some]
    rw [if_neg nG, lo_tdiv bq (sm G (by omega) Gle) (by omega), t1, lo_mul, y8]
    simp only [Option.bind_some]
    unfold f_X8_meet_K25_59
    rw [if_neg ng, if_neg nq, lo_tdiv bQ bq (by omega), A1, lo_mul, r1]
    simp only [Option.bind_some]
    rw [l8]
    simp only [Option.bind_some]
    unfold f_X8_meet_K89_114
    rw [lo_tdiv bp bg (by omega), t2, lo_mul, r2']
    rfl
  -- the class
  have c1 : (200 : Int64) < lo (b1 * p2) ↔ 200 < b1 * p2 := lo_lt (a := 200) (by unfold i64; omega) bP.l
  have c2 : (200 : Int64) < lo (a1 * q2 * h) ↔ 200 < a1 * q2 * h := lo_lt (a := 200) (by unfold i64; omega) bQ.l
  have C7 : f_X1_meet (lo p) (lo q) (lo r) (lo p2) (lo q2) (lo r2) = (if (200 : Int64) < lo (b1 * p2) then some (lo (b1 * p2), lo (a1 * q2 * h), lo 0) else if (200 : Int64) < lo (a1 * q2 * h) then some (lo (b1 * p2), lo (a1 * q2 * h), lo 0) else Option.bind (whl (f_X1_meet_L119 (lo p) (lo q) (lo r) (lo p2) (lo q2) (lo r2) (lo (b1 * p2)) (lo (a1 * q2 * h))) (0 : Int64)) (fun y119 => f_X1_meet_K119_158 (lo (b1 * p2)) (lo (a1 * q2 * h)) y119)) := by
    have s1 := ratio7 bq (sm G (by omega) Gle) (show ¬ G = 0 by omega)
    have s2 := ratio7 (x := a1 * q2) (y := q) (by unfold big; omega) bq (by omega)
    have s3 := ratio7 (x := a1 * q2) (y := q2) (by unfold big; omega) bq2 (by omega)
    have s4 := ratio7 bp bg (show ¬ g = 0 by omega)
    have s5 := ratio7 bg (sm e (by omega) ele) (show ¬ e = 0 by omega)
    rw [t1] at s1
    rw [t3] at s2
    rw [t4] at s3
    rw [t2] at s4
    rw [t5] at s5
    unfold f_X1_meet
    rw [g7, G7]
    simp only [Option.bind_some]
    rw [s1]
    simp only [Option.bind_some]
    rw [lo_mul, s2, s3]
    simp only [Option.bind_some]
    rw [s4]
    simp only [Option.bind_some]
    rw [lo_mul, lo_mul, lo_sub, h7]
    simp only [Option.bind_some]
    rw [s5]
    simp only [Option.bind_some]
    rw [lo_mul, lo_mul]
    rfl
  rw [C7]
  by_cases w1 : 200 < b1 * p2
  · rw [if_pos (c1.mpr w1)]
    exact ⟨_, _, X8, 0, rfl, E8, fun z _ => by omega, bP, bQ⟩
  · rw [if_neg (fun z => w1 (c1.mp z))]
    by_cases w2 : 200 < a1 * q2 * h
    · rw [if_pos (c2.mpr w2)]
      exact ⟨_, _, X8, 0, rfl, E8, fun _ z => by omega, bP, bQ⟩
    · rw [if_neg (fun z => w2 (c2.mp z))]
      obtain ⟨X7, l7, m70, m71, m72, m73⟩ := least7 (p := p) (q := q) (r := r) (p2 := p2) (q2 := q2) (r2 := r2) (P := b1 * p2) (Q := a1 * q2 * h) (A := h * a2 * r) (B := h * a1 * r2) (x0 := x0) hp hq hp2 hq2 (by omega) (by omega) dq dq2 (by rw [A1]) (by rw [B1]) (by omega) (by omega) x00 x01 hm
      rw [l7]
      refine ⟨_, _, X8, X7, rfl, E8, fun _ _ => ?_, bP, bQ⟩
      rcases Int.lt_trichotomy X7 X8 with z | z | z
      · exact absurd m72 (m83 X7 m70 z)
      · exact z
      · exact absurd m82 (m73 X8 m80 z)
