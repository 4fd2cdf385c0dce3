/-! the reference's count of all rings -/
theorem wide {z : Int} (h : i32 z) : i64 z := by unfold i32 at h; unfold i64; omega
theorem per_T {f : Int × Int → Int × Int} {x : Int × Int} {T L : Nat} (h : RHO f x T L) (hp : PER f x) : T = 0 := by
  obtain ⟨L', h1, h2⟩ := hp
  by_cases g : T = 0
  · exact g
  · exfalso
    have le : T ≤ L' * T := Nat.le_mul_of_pos_left T (by omega)
    have e := per_mul h2 T
    have e2 := rho_mod h (L' * T - T)
    rw [show T + (L' * T - T) = L' * T by omega, e] at e2
    have hL := h.1
    have m := Nat.mod_lt (L' * T - T) (show 0 < L by omega)
    exact h.2.2 0 (T + (L' * T - T) % L) (by omega) (by omega) e2
theorem per_iff {f : Int × Int → Int × Int} {x : Int × Int} {T L : Nat} (h : RHO f x T L) : PER f x ↔ T = 0 := by
  refine ⟨per_T h, fun e => ⟨L, h.1, ?_⟩⟩
  have := h.2.1
  rw [e, Nat.zero_add] at this
  exact this
/-- is x the first of its ring -/
theorem first8 {t n m1 m2 w : Int} (h : BS t n m1 m2 w) {x : Int × Int} (hx : sz t n x.1 x.2 ≤ 2000000000) {L : Nat} (hr : RHO (nx t n m1 m2 w) x 0 L) (hL : L ≤ 945) {rA' rB' : Nat → Int64} (hrow : ROW t n m1 m2 w x L rA' rB') : ∃ v : Int32, whl (f_X8_rounds_L124 (io (L : Int)) rA' rB' (lo x.1) (lo x.2)) ((1 : Int32), (1 : Int32)) = some v ∧ ((v = 1 ∧ PM (nx t n m1 m2 w) x) ∨ (v = 0 ∧ ¬ PM (nx t n m1 m2 w) x)) := by
  have hL1 := hr.1
  have ix := XO_i h hx 0
  have key : ∃ z, whl (f_X8_rounds_L124 (io (L : Int)) rA' rB' (lo x.1) (lo x.2)) ((1 : Int32), (1 : Int32)) = some z ∧ ((z = 1 ∧ ∀ j, j < L → lex x (XO (nx t n m1 m2 w) x j)) ∨ (z = 0 ∧ ∃ j, ¬ lex x (XO (nx t n m1 m2 w) x j))) := by
    refine whl_for (b := f_X8_rounds_L124 (io (L : Int)) rA' rB' (lo x.1) (lo x.2)) (L - 1) (fun i s => s.2 = io ((i : Int) + 1) ∧ ((s.1 = 1 ∧ ∀ j, j < i + 1 → lex x (XO (nx t n m1 m2 w) x j)) ∨ (s.1 = 0 ∧ ∃ j, ¬ lex x (XO (nx t n m1 m2 w) x j)))) _ ?_ ?_ 0 _ (by omega) ⟨rfl, Or.inl ⟨rfl, ?_⟩⟩
    · rintro i ⟨s1, s2⟩ hi ⟨e1, e2⟩
      dsimp only at e1 e2
      have c1 : ¬ (io (L : Int) ≤ io ((i : Int) + 1)) := fun e => by
        have := (io_le (by unfold i32; omega) (by unfold i32; omega)).mp e
        omega
      obtain ⟨d1, d2⟩ := nat1000 (i := i + 1) (by omega)
      rw [show ((i + 1 : Nat) : Int) = (i : Int) + 1 from rfl] at d1 d2
      rw [d2] at d1
      obtain ⟨r1, r2⟩ := hrow (i + 1) (by omega)
      have iy := XO_i h hx (i + 1)
      have ne := hr.2.2 0 (i + 1) (by omega) (by omega)
      have ne' : ¬ x = XO (nx t n m1 m2 w) x (i + 1) := ne
      have k1 : lo x.1 < lo (XO (nx t n m1 m2 w) x (i + 1)).1 ↔ x.1 < (XO (nx t n m1 m2 w) x (i + 1)).1 := lo_lt (wide ix.1) (wide iy.1)
      have k2 : lo (XO (nx t n m1 m2 w) x (i + 1)).1 = lo x.1 ↔ (XO (nx t n m1 m2 w) x (i + 1)).1 = x.1 := lo_eq (wide iy.1) (wide ix.1)
      have k3 : lo (XO (nx t n m1 m2 w) x (i + 1)).2 ≤ lo x.2 ↔ (XO (nx t n m1 m2 w) x (i + 1)).2 ≤ x.2 := lo_le (wide iy.2) (wide ix.2)
      have more : lex x (XO (nx t n m1 m2 w) x (i + 1)) → (∀ j, j < i + 1 → lex x (XO (nx t n m1 m2 w) x j)) → ∀ j, j < i + 1 + 1 → lex x (XO (nx t n m1 m2 w) x j) := by
        intro g q j hj
        by_cases z : j = i + 1
        · rw [z]; exact g
        · exact q j (by omega)
      unfold f_X8_rounds_L124
      dsimp only
      rw [e1, if_neg c1, d2, io_1]
      rcases e2 with ⟨z, e2⟩ | ⟨z, e2⟩
      · rw [if_neg (by rw [z]; decide), if_neg d1, r1, r2]
        by_cases g1 : x.1 < (XO (nx t n m1 m2 w) x (i + 1)).1
        · rw [if_pos (k1.mpr g1)]
          exact ⟨_, rfl, rfl, Or.inl ⟨rfl, more (Or.inl g1) e2⟩⟩
        · rw [if_neg (fun e => g1 (k1.mp e))]
          by_cases g2 : (XO (nx t n m1 m2 w) x (i + 1)).1 = x.1
          · rw [if_pos (k2.mpr g2)]
            by_cases g3 : (XO (nx t n m1 m2 w) x (i + 1)).2 ≤ x.2
            · rw [if_pos (k3.mpr g3)]
              refine ⟨_, rfl, rfl, Or.inr ⟨rfl, i + 1, fun l => ?_⟩⟩
              refine ne' (Prod.ext g2.symm ?_)
              unfold lex at l
              omega
            · rw [if_neg (fun e => g3 (k3.mp e))]
              exact ⟨_, rfl, rfl, Or.inl ⟨rfl, more (Or.inr ⟨g2.symm, by omega⟩) e2⟩⟩
          · rw [if_neg (fun e => g2 (k2.mp e))]
            refine ⟨_, rfl, rfl, Or.inr ⟨rfl, i + 1, fun l => ?_⟩⟩
            unfold lex at l
            omega
      · rw [if_pos z]
        exact ⟨_, rfl, rfl, Or.inr ⟨rfl, e2⟩⟩
    · rintro ⟨s1, s2⟩ ⟨e1, e2⟩
      dsimp only at e1 e2
      have c1 : io (L : Int) ≤ io (((L - 1 : Nat) : Int) + 1) := (io_le (by unfold i32; omega) (by unfold i32; omega)).mpr (by omega)
      unfold f_X8_rounds_L124
      dsimp only
      rw [e1, if_pos c1]
      refine ⟨_, rfl, ?_⟩
      rw [show L - 1 + 1 = L by omega] at e2
      exact e2
    · intro j hj
      have : j = 0 := by omega
      rw [this]
      exact lex_rf _
  obtain ⟨z, e, hz⟩ := key
  refine ⟨z, e, ?_⟩
  rcases hz with ⟨z1, g⟩ | ⟨z0, j, g⟩
  · left
    refine ⟨z1, (per_iff hr).mpr rfl, fun m => ?_⟩
    have := rho_mod hr m
    rw [Nat.zero_add, Nat.zero_add] at this
    rw [this]
    exact g _ (Nat.mod_lt _ (by omega))
  · right
    exact ⟨z0, fun q => g (q.2 j)⟩
abbrev R11 := Int64 × Int64 × Int64 × Int64 × Int32 × Int32 × Int32 × Int32 × (Nat → Int64) × (Nat → Int64) × (Nat → Int32)
def Q1 (t n m1 m2 w : Int) (a b : Int) : Prop := PM (nx t n m1 m2 w) (a, b) ∧ ¬ (a = 0 ∧ b = 0)
def Q2 (t n m1 m2 w : Int) (a b : Int) : Prop := PER (nx t n m1 m2 w) (a, b) ∧ ¬ (a = 0 ∧ b = 0)
theorem round_pt {t n m1 m2 w : Int} (h : BS t n m1 m2 w) {a b : Int} (ha : -40 ≤ a ∧ a ≤ 40) (hb : -40 ≤ b ∧ b ≤ 40) {v : Int32} (s3 : ¬ (v < 0 ∨ 8 ≤ v.toNatClampNeg)) {gA gB : Nat → Int64} (s5 : gA v.toNatClampNeg = lo m1) (s6 : gB v.toNatClampNeg = lo m2) (u1 u2 : Int) (R : R11) : ∃ R' : R11, f_X8_rounds_L54 (lo t) (lo n) gA gB v (lo a) (io u1, io u2, lo b, R) = some (Sum.inl (io (u1 + one_ (Q1 t n m1 m2 w a b)), io (u2 + one_ (Q2 t n m1 m2 w a b)), lo (b + 1), R')) := by
  obtain ⟨x1, x2, x3, x4, o1, o2, o3, o4, l1, l2, l3⟩ := R
  have hT := h.1
  have hN := h.2.2.2.1
  have S0 := sz_nn h.1 a b
  have c0 : ¬ ((40 : Int64) < lo b) := fun e => by
    have := (lo_lt (a := 40) (by unfold i64; omega) (by unfold i64; omega)).mp e
    omega
  have ca : lo a = (0 : Int64) ↔ a = 0 := lo_eq (b := 0) (by unfold i64; omega) (by unfold i64; omega)
  have cb : lo b = (0 : Int64) ↔ b = 0 := lo_eq (b := 0) (by unfold i64; omega) (by unfold i64; omega)
  have i1 : lo b + (1 : Int64) = lo (b + 1) := lo_add _ 1
  have hs : sz t n a b ≤ 1000000 := by
    have e1 : a * a ≤ 1600 := by
      rcases Int.lt_or_le a 0 with z | z
      · have := Int.mul_le_mul (show -a ≤ 40 by omega) (show -a ≤ 40 by omega) (by omega) (by omega)
        rw [Int.neg_mul_neg] at this; omega
      · have := Int.mul_le_mul (show a ≤ 40 by omega) (show a ≤ 40 by omega) (by omega) (by omega); omega
    have e2 : b * b ≤ 1600 := by
      rcases Int.lt_or_le b 0 with z | z
      · have := Int.mul_le_mul (show -b ≤ 40 by omega) (show -b ≤ 40 by omega) (by omega) (by omega)
        rw [Int.neg_mul_neg] at this; omega
      · have := Int.mul_le_mul (show b ≤ 40 by omega) (show b ≤ 40 by omega) (by omega) (by omega); omega
    have e3 : 2 * (a * b) ≤ a * a + b * b := by
      have := sq_nn (a - b)
      have e : (a - b) * (a - b) = a * a + b * b - 2 * (a * b) := by grind
      omega
    have e4 : -(2 * (a * b)) ≤ a * a + b * b := by
      have := sq_nn (a + b)
      have e : (a + b) * (a + b) = a * a + b * b + 2 * (a * b) := by grind
      omega
    have e5 : sz t n a b = a * a + t * (a * b) + n * (b * b) := by unfold sz; grind
    rw [e5]
    generalize a * a = A at *
    generalize b * b = B at *
    generalize a * b = C at *
    rcases hT with ⟨rfl, rfl⟩ | ⟨rfl, rfl⟩ | ⟨rfl, rfl⟩ | ⟨rfl, rfl⟩ | ⟨rfl, rfl⟩ <;> omega
  have c150 : (150 : Int64) < f_X8_sizeOf (lo t) (lo n) (lo a) (lo b) ↔ 150 < sz t n a b := by
    rw [sizeOf_m]
    exact lo_lt (a := 150) (by unfold i64; omega) (by unfold i64; omega)
  -- nothing is added
  have none_ : (¬ Q2 t n m1 m2 w a b) → one_ (Q1 t n m1 m2 w a b) = 0 ∧ one_ (Q2 t n m1 m2 w a b) = 0 := fun g => ⟨one_f (fun q => g ⟨q.1.1, q.2⟩), one_f g⟩
  have far : 150 < sz t n a b → ¬ Q2 t n m1 m2 w a b := by
    intro g q
    have := per_in h q.1
    have := MR_b hN
    dsimp only at *
    omega
  -- the walk
  have go : ¬ (a = 0 ∧ b = 0) → ∃ R' : R11, (Option.bind (f_X8_layDigits (lo t) (lo n) x1 x2 x3 x4 o1 o2 o3 o4 gA gB l1 l2 l3 (lo a) (lo b) v) fun p12 =>
          if p12.2.2.2.2.2.1 ≤ 0 then
            (some (Sum.inl (io u1, io u2, (lo b + (1 : Int64)), p12.1, p12.2.1, p12.2.2.1, p12.2.2.2.1, p12.2.2.2.2.1, p12.2.2.2.2.2.1, p12.2.2.2.2.2.2.1, p12.2.2.2.2.2.2.2.1, p12.2.2.2.2.2.2.2.2.1, p12.2.2.2.2.2.2.2.2.2.1, p12.2.2.2.2.2.2.2.2.2.2)) : Option ((Int32 × Int32 × Int64 × R11) ⊕ (Int32 × Int32 × R11)))
          else
            if p12.2.2.2.2.1 = 0 then
              Option.bind (whl (f_X8_rounds_L124 p12.2.2.2.2.2.1 p12.2.2.2.2.2.2.2.2.1 p12.2.2.2.2.2.2.2.2.2.1 (lo a) (lo b)) ((1 : Int32), (1 : Int32))) (fun y124 => f_X8_rounds_K124_190 p12.1 p12.2.1 p12.2.2.1 p12.2.2.2.1 p12.2.2.2.2.1 p12.2.2.2.2.2.1 p12.2.2.2.2.2.2.1 p12.2.2.2.2.2.2.2.1 p12.2.2.2.2.2.2.2.2.1 p12.2.2.2.2.2.2.2.2.2.1 p12.2.2.2.2.2.2.2.2.2.2 (io u1) (io u2 + (1 : Int32)) (lo b) y124)
            else
              some (Sum.inl (io u1, io u2, (lo b + (1 : Int64)), p12.1, p12.2.1, p12.2.2.1, p12.2.2.2.1, p12.2.2.2.2.1, p12.2.2.2.2.2.1, p12.2.2.2.2.2.2.1, p12.2.2.2.2.2.2.2.1, p12.2.2.2.2.2.2.2.2.1, p12.2.2.2.2.2.2.2.2.2.1, p12.2.2.2.2.2.2.2.2.2.2))) = some (Sum.inl (io (u1 + one_ (Q1 t n m1 m2 w a b)), io (u2 + one_ (Q2 t n m1 m2 w a b)), lo (b + 1), R')) := by
    intro nz
    have hx : sz t n (a, b).1 (a, b).2 ≤ 2000000000 := by dsimp only; omega
    obtain ⟨T, L, hrho, hTL⟩ := rho_ex h hx
    have hL1 := hrho.1
    obtain ⟨y1, y2, y3, y4, rA', rB', rD', L8, -, hrow⟩ := lay8d h hx hrho hTL s3 s5 s6 x1 x2 x3 x4 o1 o2 o3 o4 l1 l2 l3
    dsimp only at L8
    rw [L8, i1]
    simp only [Option.bind_some]
    have P := per_iff hrho
    unfold RND at hrow ⊢
    by_cases hz : T = 0
    · subst hz
      have nz' : ¬ XO (nx t n m1 m2 w) (a, b) 0 = (0, 0) := fun e => by
        have e' : (a, b) = ((0 : Int), (0 : Int)) := e
        rw [Prod.mk.injEq] at e'
        exact nz e'
      rw [if_neg nz', Nat.zero_add] at hrow
      rw [if_neg nz']
      have c1 : ¬ (io ((L : Nat) : Int) ≤ 0) := fun e => by
        have := (io_le (b := 0) (by unfold i32; omega) (by unfold i32; omega)).mp e
        omega
      rw [if_neg c1, if_pos (show io ((0 : Nat) : Int) = 0 from rfl)]
      obtain ⟨z, F, hz⟩ := first8 h hx hrho (by omega) hrow
      dsimp only at F
      rw [F]
      simp only [Option.bind_some]
      have q2 : one_ (Q2 t n m1 m2 w a b) = 1 := one_t ⟨P.mpr rfl, nz⟩
      unfold f_X8_rounds_K124_190
      rw [q2, io_1, i1]
      rcases hz with ⟨z1, g⟩ | ⟨z0, g⟩
      · rw [one_t (P := Q1 t n m1 m2 w a b) ⟨g, nz⟩, if_neg (by rw [z1]; decide), io_1]
        exact ⟨_, rfl⟩
      · rw [one_f (P := Q1 t n m1 m2 w a b) (fun q => g q.1), if_pos z0, show io u1 + (0 : Int32) = io (u1 + 0) from io_add u1 0]
        exact ⟨_, rfl⟩
    · obtain ⟨q1, q2⟩ := none_ (fun q => hz (P.mp q.1))
      rw [q1, q2, Int.add_zero, Int.add_zero]
      have c2 : ¬ (io ((T : Nat) : Int) = 0) := fun e => by
        have := (io_eq (b := 0) (by unfold i32; omega) (by unfold i32; omega)).mp e
        omega
      rw [if_neg c2]
      split
      · split
        · exact ⟨_, rfl⟩
        · exact ⟨_, rfl⟩
      · split
        · exact ⟨_, rfl⟩
        · exact ⟨_, rfl⟩
  unfold f_X8_rounds_L54
  dsimp only
  rw [if_neg c0]
  by_cases a0 : a = 0
  · rw [if_pos (ca.mpr a0)]
    by_cases b0 : b = 0
    · obtain ⟨q1, q2⟩ := none_ (fun q => q.2 ⟨a0, b0⟩)
      rw [if_pos (cb.mpr b0), q1, q2, Int.add_zero, Int.add_zero, i1]
      exact ⟨_, rfl⟩
    · rw [if_neg (fun e => b0 (cb.mp e))]
      by_cases g : 150 < sz t n a b
      · obtain ⟨q1, q2⟩ := none_ (far g)
        rw [if_pos (c150.mpr g), q1, q2, Int.add_zero, Int.add_zero, i1]
        exact ⟨_, rfl⟩
      · rw [if_neg (fun e => g (c150.mp e))]
        exact go (fun q => b0 q.2)
  · rw [if_neg (fun e => a0 (ca.mp e))]
    by_cases g : 150 < sz t n a b
    · obtain ⟨q1, q2⟩ := none_ (far g)
      rw [if_pos (c150.mpr g), q1, q2, Int.add_zero, Int.add_zero, i1]
      exact ⟨_, rfl⟩
    · rw [if_neg (fun e => g (c150.mp e))]
      exact go (fun q => a0 q.1)
theorem rounds8 {t n m1 m2 w : Int} (h : BS t n m1 m2 w) {v : Int32} (s3 : ¬ (v < 0 ∨ 8 ≤ v.toNatClampNeg)) {gA gB : Nat → Int64} (s5 : gA v.toNatClampNeg = lo m1) (s6 : gB v.toNatClampNeg = lo m2) (R : R11) : ∃ R' : R11, whl (f_X8_rounds_L40 (lo t) (lo n) gA gB v) ((1 : Int32), (1 : Int32), (-40 : Int64), R) = some (io (CG (fun a b => PM (nx t n m1 m2 w) (a, b)) 81), io (CG (fun a b => PER (nx t n m1 m2 w) (a, b)) 81), R') := by
  have row : ∀ (a u1 u2 : Int) (R : R11), (-40 ≤ a ∧ a ≤ 40) → ∃ z, whl (f_X8_rounds_L54 (lo t) (lo n) gA gB v (lo a)) (io u1, io u2, (-40 : Int64), R) = some z ∧ (z.1 = io (u1 + CR (Q1 t n m1 m2 w a) 81) ∧ z.2.1 = io (u2 + CR (Q2 t n m1 m2 w a) 81)) := by
    intro a u1 u2 R ha
    refine whl_for (b := f_X8_rounds_L54 (lo t) (lo n) gA gB v (lo a)) 81 (fun i s => s.2.2.1 = lo (-40 + (i : Int)) ∧ s.1 = io (u1 + CR (Q1 t n m1 m2 w a) i) ∧ s.2.1 = io (u2 + CR (Q2 t n m1 m2 w a) i)) _ ?_ ?_ 0 _ (by omega) ⟨show (-40 : Int64) = lo (-40 + ((0 : Nat) : Int)) by decide, congrArg io (Int.add_zero u1).symm, congrArg io (Int.add_zero u2).symm⟩
    · rintro i ⟨s1, s2, s3', s4⟩ hi ⟨e1, e2, e3⟩
      dsimp only at e1 e2 e3
      rw [e1, e2, e3]
      obtain ⟨R', F⟩ := round_pt h ha (b := -40 + (i : Int)) (by omega) s3 s5 s6 (u1 + CR (Q1 t n m1 m2 w a) i) (u2 + CR (Q2 t n m1 m2 w a) i) s4
      rw [show -40 + (i : Int) + 1 = -40 + ((i + 1 : Nat) : Int) by omega] at F
      refine ⟨_, F, rfl, ?_, ?_⟩
      · exact congrArg io (Int.add_assoc _ _ _)
      · exact congrArg io (Int.add_assoc _ _ _)
    · rintro ⟨s1, s2, s3', s4⟩ ⟨e1, e2, e3⟩
      dsimp only at e1 e2 e3
      unfold f_X8_rounds_L54
      dsimp only
      rw [e1, if_pos (by decide)]
      exact ⟨_, rfl, e2, e3⟩
  have key : ∃ z, whl (f_X8_rounds_L40 (lo t) (lo n) gA gB v) ((1 : Int32), (1 : Int32), (-40 : Int64), R) = some z ∧ (z.1 = io (1 + CG (Q1 t n m1 m2 w) 81) ∧ z.2.1 = io (1 + CG (Q2 t n m1 m2 w) 81)) := by
    refine whl_for (b := f_X8_rounds_L40 (lo t) (lo n) gA gB v) 81 (fun i s => s.2.2.1 = lo (-40 + (i : Int)) ∧ s.1 = io (1 + CG (Q1 t n m1 m2 w) i) ∧ s.2.1 = io (1 + CG (Q2 t n m1 m2 w) i)) _ ?_ ?_ 0 _ (by omega) ⟨show (-40 : Int64) = lo (-40 + ((0 : Nat) : Int)) by decide, rfl, rfl⟩
    · rintro i ⟨s1, s2, s3', s4⟩ hi ⟨e1, e2, e3⟩
      dsimp only at e1 e2 e3
      obtain ⟨⟨z1, z2, z3⟩, F, f1, f2⟩ := row (-40 + (i : Int)) (1 + CG (Q1 t n m1 m2 w) i) (1 + CG (Q2 t n m1 m2 w) i) s4 (by omega)
      have c0 : ¬ ((40 : Int64) < lo (-40 + (i : Int))) := fun e => by
        have := (lo_lt (a := 40) (by unfold i64; omega) (by unfold i64; omega)).mp e
        omega
      have i1 : lo (-40 + (i : Int)) + (1 : Int64) = lo (-40 + ((i + 1 : Nat) : Int)) := by
        rw [show -40 + ((i + 1 : Nat) : Int) = -40 + (i : Int) + 1 by omega]
        exact lo_add _ 1
      dsimp only at f1 f2
      unfold f_X8_rounds_L40 f_X8_rounds_K54_212
      dsimp only
      rw [e1, e2, e3, if_neg c0, F]
      simp only [Option.bind_some]
      rw [i1, f1, f2]
      refine ⟨_, rfl, rfl, ?_, ?_⟩
      · exact congrArg io (Int.add_assoc _ _ _)
      · exact congrArg io (Int.add_assoc _ _ _)
    · rintro ⟨s1, s2, s3', s4⟩ ⟨e1, e2, e3⟩
      dsimp only at e1 e2 e3
      unfold f_X8_rounds_L40
      dsimp only
      rw [e1, if_pos (by decide)]
      exact ⟨_, rfl, e2, e3⟩
  obtain ⟨⟨z1, z2, z3⟩, F, f1, f2⟩ := key
  dsimp only at f1 f2
  have per0 : PER (nx t n m1 m2 w) (0, 0) := ⟨1, by omega, nx_0 h⟩
  have pm0 : PM (nx t n m1 m2 w) (0, 0) := by
    refine ⟨per0, fun m => ?_⟩
    have : XO (nx t n m1 m2 w) (0, 0) m = (0, 0) := by
      induction m with
      | zero => rfl
      | succ m ih =>
        show nx t n m1 m2 w (XO (nx t n m1 m2 w) (0, 0) m) = _
        rw [ih]; exact nx_0 h
    rw [this]
    exact lex_rf _
  have k1 : CG (fun a b => PM (nx t n m1 m2 w) (a, b)) 81 = CG (Q1 t n m1 m2 w) 81 + 1 := by
    refine CG_one (c := 0) (d := 0) (fun x y => ?_) (fun g => g.2 ⟨rfl, rfl⟩) (by omega) (by omega)
    by_cases z : x = 0 ∧ y = 0
    · obtain ⟨rfl, rfl⟩ := z
      exact ⟨fun _ => Or.inr ⟨rfl, rfl⟩, fun _ => pm0⟩
    · exact ⟨fun g => Or.inl ⟨g, z⟩, fun g => (g.resolve_right z).1⟩
  have k2 : CG (fun a b => PER (nx t n m1 m2 w) (a, b)) 81 = CG (Q2 t n m1 m2 w) 81 + 1 := by
    refine CG_one (c := 0) (d := 0) (fun x y => ?_) (fun g => g.2 ⟨rfl, rfl⟩) (by omega) (by omega)
    by_cases z : x = 0 ∧ y = 0
    · obtain ⟨rfl, rfl⟩ := z
      exact ⟨fun _ => Or.inr ⟨rfl, rfl⟩, fun _ => per0⟩
    · exact ⟨fun g => Or.inl ⟨g, z⟩, fun g => (g.resolve_right z).1⟩
  refine ⟨z3, ?_⟩
  rw [F, f1, f2, k1, k2, Int.add_comm 1, Int.add_comm 1]
theorem hm_rounds : HM_rounds REL := by
  intro cs ms hrel v1 v2
  obtain ⟨k, us, hk, hu, hnet, ht, hn, hm, hr⟩ := id hrel
  have h := TN_k hk
  have key : ∃ p q, f_X7_rounds (io (kT k)) (io (kN k)) (a_reg cs) (a_num_base cs) (a_num_size cs) (a_num_digitOfW cs) (a_num_rings cs) (a_num_ringed cs) (a_mrk cs) v1 v2 = some p ∧ f_X8_rounds (lo (kT k)) (lo (kN k)) (a_mod_a ms) (a_mod_b ms) (a_mod_quotA ms) (a_mod_quotB ms) (a_mod_tail ms) (a_mod_round ms) (a_mod_sum ms) (a_mod_rowMany ms) (a_regA ms) (a_regB ms) (a_rowA ms) (a_rowB ms) (a_rowDigit ms) v1 v2 = some q ∧ p.1 = q.1 := by
    rcases reg2 hr v1 with ⟨g1, g2⟩ | ⟨m1, m2, h1, h2, s1, s2, s3, s4, s5, s6⟩
    · exact ⟨(-1, _, _, _, _, _, _), (-1, _, _, _, _, _, _, _, _, _, _, _), by
        simp only [f_X7_rounds, g1, ↓reduceIte]
        try rfl, by
        simp only [f_X8_rounds, g2, ↓reduceIte]
        try rfl, rfl⟩
    have z8 : f_X8_in v2.toInt64 0 1 = 0 ↔ v2 < 0 ∨ 1 < v2 := in_i (l := 0) (u := 1) (by unfold i32; omega) (by unfold i32; omega) v2
    by_cases y1 : v2 < 0
    · have z9 := z8.mpr (Or.inl y1)
      exact ⟨(-1, _, _, _, _, _, _), (-1, _, _, _, _, _, _, _, _, _, _, _), by
        simp only [f_X7_rounds, s1, y1, ↓reduceIte]
        try rfl, by
        simp only [f_X8_rounds, s2, z9, ↓reduceIte]
        try rfl, rfl⟩
    by_cases y2 : v2 ≤ 1
    · have z9 : ¬ f_X8_in v2.toInt64 0 1 = 0 := fun e => (z8.mp e).elim y1 (fun g => absurd y2 (Int32.not_le.mpr g))
      obtain ⟨z1, z2, B8⟩ := isBase8 hk h1 h2 s3 s5 s6 (a_mod_a ms) (a_mod_b ms)
      rcases takeBase7 hk h1 h2 (a_num_base cs) (a_num_size cs) (a_num_digitOfW cs) with ⟨nb, o1, o2, o3, B7⟩ | ⟨w, hw, B7⟩
      · rcases B8 with ⟨yb, -⟩ | ⟨-, B8⟩
        · exact absurd yb nb
        · exact ⟨(-2, _, _, _, _, _, _), (-2, _, _, _, _, _, _, _, _, _, _, _), by
            simp only [f_X7_rounds, s1, y1, y2, s3, s4, B7, Option.bind_some, ↓reduceIte]
            try rfl, by
            simp only [f_X8_rounds, s2, z9, B8, Option.bind_some, ↓reduceIte]
            try rfl, rfl⟩
      · rcases B8 with ⟨-, B8⟩ | ⟨nb, -⟩
        · obtain ⟨mrk', F7⟩ := findRings7 hw (a_num_rings cs) (a_num_ringed cs) (a_mrk cs)
          obtain ⟨R', F8⟩ := rounds8 hw s3 s5 s6 (z1, z2, a_mod_quotA ms, a_mod_quotB ms, a_mod_tail ms, a_mod_round ms, a_mod_sum ms, a_mod_rowMany ms, a_rowA ms, a_rowB ms, a_rowDigit ms)
          by_cases w0 : v2 = 0
          · exact ⟨(_, _, _, _, _, _, _), (_, _, _, _, _, _, _, _, _, _, _, _), by
              simp only [f_X7_rounds, s1, y1, y2, s3, s4, B7, n10, F7, w0, Option.bind_some, ↓reduceIte]
              try rfl, by
              simp only [f_X8_rounds, f_X8_rounds_K40_221, s2, z9, B8, n10, F8, w0, Option.bind_some, ↓reduceIte]
              try rfl, rfl⟩
          · exact ⟨(_, _, _, _, _, _, _), (_, _, _, _, _, _, _, _, _, _, _, _), by
              simp only [f_X7_rounds, s1, y1, y2, s3, s4, B7, n10, F7, w0, Option.bind_some, ↓reduceIte]
              try rfl, by
              simp only [f_X8_rounds, f_X8_rounds_K40_221, s2, z9, B8, n10, F8, w0, Option.bind_some, ↓reduceIte]
              try rfl, rfl⟩
        · exact absurd ⟨hw.2.2.2.1, hw.2.2.2.2.1⟩ nb
    · have z9 := z8.mpr (Or.inr (Int32.not_le.mp y2))
      exact ⟨(-1, _, _, _, _, _, _), (-1, _, _, _, _, _, _, _, _, _, _, _), by
        simp only [f_X7_rounds, s1, y1, y2, ↓reduceIte]
        try rfl, by
        simp only [f_X8_rounds, s2, z9, ↓reduceIte]
        try rfl, rfl⟩
  obtain ⟨p, q, e1, e2, e3⟩ := key
  refine ⟨p, q, ?_, ?_, e3, k, us, hk, hu, hnet, ht, hn, hm, hr⟩
  · rw [hnet.1, hnet.2.1]; exact e1
  · rw [ht, hn]; exact e2
