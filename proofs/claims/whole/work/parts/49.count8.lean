/-! how many are as short -/
def VL (f1 f2 f3 : Bool) : List (Int × Int) := [(1, 0), (-1, 0)] ++ (if f1 then [(0, 1), (0, -1)] else []) ++ (if f2 then [(1, 1), (-1, -1)] else []) ++ (if f3 then [(1, -1), (-1, 1)] else [])
theorem VL_nd : ∀ f1 f2 f3, (VL f1 f2 f3).Nodup := by decide
theorem VL_in (f1 f2 f3 : Bool) (i j : Int) : (i, j) ∈ VL f1 f2 f3 ↔ (j = 0 ∧ (i = 1 ∨ i = -1)) ∨ (f1 = true ∧ i = 0 ∧ (j = 1 ∨ j = -1)) ∨ (f2 = true ∧ ((i = 1 ∧ j = 1) ∨ (i = -1 ∧ j = -1))) ∨ (f3 = true ∧ ((i = 1 ∧ j = -1) ∨ (i = -1 ∧ j = 1))) := by
  unfold VL
  cases f1 <;> cases f2 <;> cases f3 <;> simp <;> omega
def phi (a b c d : Int) (p : Int × Int) : Int × Int := (p.1 * a + p.2 * c, p.1 * b + p.2 * d)
theorem phi_inj {a b c d : Int} (h : ¬ a * d - b * c = 0) (p q : Int × Int) (e : phi a b c d p = phi a b c d q) : p = q := by
  unfold phi at e
  injection e with e1 e2
  have k1 : (p.1 - q.1) * (a * d - b * c) = 0 := by
    have : (p.1 - q.1) * (a * d - b * c) = d * (p.1 * a + p.2 * c - (q.1 * a + q.2 * c)) - c * (p.1 * b + p.2 * d - (q.1 * b + q.2 * d)) := by grind
    rw [this, e1, e2]; omega
  have k2 : (p.2 - q.2) * (a * d - b * c) = 0 := by
    have : (p.2 - q.2) * (a * d - b * c) = a * (p.1 * b + p.2 * d - (q.1 * b + q.2 * d)) - b * (p.1 * a + p.2 * c - (q.1 * a + q.2 * c)) := by grind
    rw [this, e1, e2]; omega
  refine Prod.ext ?_ ?_
  · rcases Int.mul_eq_zero.mp k1 with z | z
    · omega
    · exact absurd z h
  · rcases Int.mul_eq_zero.mp k2 with z | z
    · omega
    · exact absurd z h
def cP (L : List (Int × Int)) (f : Int × Int → Int × Int) (y : Int) : Nat := L.countP (fun p => decide ((f p).2 = y))
theorem cP_cons (p : Int × Int) (L : List (Int × Int)) (f : Int × Int → Int × Int) (y : Int) : cP (p :: L) f y = cP L f y + (if (f p).2 = y then 1 else 0) := by
  unfold cP
  rw [List.countP_cons]
  by_cases g : (f p).2 = y <;> simp [g]
theorem cP_0 {L : List (Int × Int)} {f : Int × Int → Int × Int} {y : Int} (h : ∀ p ∈ L, ¬ (f p).2 = y) : cP L f y = 0 := by
  induction L with
  | nil => rfl
  | cons p L ih =>
    rw [cP_cons, ih (fun q hq => h q (List.mem_cons_of_mem _ hq)), if_neg (h p (List.mem_cons_self ..))]
theorem cP_1 {f : Int × Int → Int × Int} (inj : ∀ p q, f p = f q → p = q) {y x1 : Int} : ∀ (L : List (Int × Int)), L.Nodup → (∀ p ∈ L, (f p).2 = y → (f p).1 = x1) → ((∃ p ∈ L, f p = (x1, y)) ∧ cP L f y = 1) ∨ ((¬ ∃ p ∈ L, f p = (x1, y)) ∧ cP L f y = 0) := by
  intro L
  induction L with
  | nil => intro _ _; right; exact ⟨(fun ⟨p, hp, _⟩ => nomatch hp), rfl⟩
  | cons p L ih =>
    intro nd hx
    obtain ⟨n1, n2⟩ := List.nodup_cons.mp nd
    have ih' := ih n2 (fun q hq => hx q (List.mem_cons_of_mem _ hq))
    rw [cP_cons]
    by_cases g : (f p).2 = y
    · have e1 : f p = (x1, y) := Prod.ext (hx p (List.mem_cons_self ..) g) g
      left
      refine ⟨⟨p, List.mem_cons_self .., e1⟩, ?_⟩
      rw [if_pos g]
      rcases ih' with ⟨⟨q, hq, e2⟩, -⟩ | ⟨-, e2⟩
      · exact absurd (inj p q (e1.trans e2.symm) ▸ hq) n1
      · omega
    · rw [if_neg g]
      rcases ih' with ⟨⟨q, hq, e2⟩, e3⟩ | ⟨e2, e3⟩
      · exact Or.inl ⟨⟨q, List.mem_cons_of_mem _ hq, e2⟩, e3⟩
      · right
        refine ⟨?_, e3⟩
        rintro ⟨q, hq, e4⟩
        rcases List.mem_cons.mp hq with rfl | hq
        · exact g (by rw [e4])
        · exact e2 ⟨q, hq, e4⟩
theorem cP_2 {f : Int × Int → Int × Int} (inj : ∀ p q, f p = f q → p = q) {y x1 x2 : Int} (hne : ¬ x1 = x2) : ∀ (L : List (Int × Int)), L.Nodup → (∀ p ∈ L, (f p).2 = y → (f p).1 = x1 ∨ (f p).1 = x2) → ∃ n1 n2 : Nat, cP L f y = n1 + n2 ∧ (((∃ p ∈ L, f p = (x1, y)) ∧ n1 = 1) ∨ ((¬ ∃ p ∈ L, f p = (x1, y)) ∧ n1 = 0)) ∧ (((∃ p ∈ L, f p = (x2, y)) ∧ n2 = 1) ∨ ((¬ ∃ p ∈ L, f p = (x2, y)) ∧ n2 = 0)) := by
  intro L
  induction L with
  | nil => intro _ _; exact ⟨0, 0, rfl, Or.inr ⟨(fun ⟨p, hp, _⟩ => nomatch hp), rfl⟩, Or.inr ⟨(fun ⟨p, hp, _⟩ => nomatch hp), rfl⟩⟩
  | cons p L ih =>
    intro nd hx
    obtain ⟨m1, m2⟩ := List.nodup_cons.mp nd
    obtain ⟨n1, n2, e, h1, h2⟩ := ih m2 (fun q hq => hx q (List.mem_cons_of_mem _ hq))
    have keep : ∀ (z : Int × Int) (c : Nat), ¬ f p = z → (((∃ q ∈ L, f q = z) ∧ c = 1) ∨ ((¬ ∃ q ∈ L, f q = z) ∧ c = 0)) → (((∃ q ∈ p :: L, f q = z) ∧ c = 1) ∨ ((¬ ∃ q ∈ p :: L, f q = z) ∧ c = 0)) := by
      rintro z c hz (⟨⟨q, hq, e2⟩, e3⟩ | ⟨e2, e3⟩)
      · exact Or.inl ⟨⟨q, List.mem_cons_of_mem _ hq, e2⟩, e3⟩
      · refine Or.inr ⟨?_, e3⟩
        rintro ⟨q, hq, e4⟩
        rcases List.mem_cons.mp hq with rfl | hq
        · exact hz e4
        · exact e2 ⟨q, hq, e4⟩
    have fresh : ∀ (z : Int × Int) (c : Nat), f p = z → (((∃ q ∈ L, f q = z) ∧ c = 1) ∨ ((¬ ∃ q ∈ L, f q = z) ∧ c = 0)) → c = 0 := by
      rintro z c hz (⟨⟨q, hq, e2⟩, -⟩ | ⟨-, e3⟩)
      · exact absurd (inj p q (hz.trans e2.symm) ▸ hq) m1
      · exact e3
    rw [cP_cons]
    by_cases g : (f p).2 = y
    · rw [if_pos g]
      rcases hx p (List.mem_cons_self ..) g with z | z
      · have e1 : f p = (x1, y) := Prod.ext z g
        have := fresh _ _ e1 h1
        exact ⟨1, n2, by omega, Or.inl ⟨⟨p, List.mem_cons_self .., e1⟩, rfl⟩, keep _ _ (fun q => by rw [e1] at q; injection q with q1 _; exact hne q1) h2⟩
      · have e1 : f p = (x2, y) := Prod.ext z g
        have := fresh _ _ e1 h2
        exact ⟨n1, 1, by omega, keep _ _ (fun q => by rw [e1] at q; injection q with q1 _; exact hne q1.symm) h1, Or.inl ⟨⟨p, List.mem_cons_self .., e1⟩, rfl⟩⟩
    · rw [if_neg g]
      exact ⟨n1, n2, e, keep _ _ (fun q => g (by rw [q])) h1, keep _ _ (fun q => g (by rw [q])) h2⟩
def SUc (g : Int → Nat) : Nat → Nat
  | 0 => 0
  | m + 1 => SUc g m + g (-600 + (m : Int))
theorem SUc_len {f : Int × Int → Int × Int} : ∀ (L : List (Int × Int)), (∀ p ∈ L, -600 ≤ (f p).2 ∧ (f p).2 ≤ 600) → SUc (cP L f) 1201 = L.length := by
  have add : ∀ (p : Int × Int) (L : List (Int × Int)), -600 ≤ (f p).2 → ∀ m, SUc (cP (p :: L) f) m = SUc (cP L f) m + (if (f p).2 < -600 + (m : Int) then 1 else 0) := by
    intro p L hp m
    induction m with
    | zero =>
      rw [if_neg (by omega)]
      rfl
    | succ m ih =>
      show SUc (cP (p :: L) f) m + cP (p :: L) f (-600 + (m : Int)) = SUc (cP L f) m + cP L f (-600 + (m : Int)) + _
      rw [ih, cP_cons]
      by_cases g1 : (f p).2 < -600 + (m : Int)
      · rw [if_pos g1, if_neg (by omega), if_pos (by omega)]
        omega
      · by_cases g2 : (f p).2 = -600 + (m : Int)
        · rw [if_neg g1, if_pos g2, if_pos (by omega)]
          omega
        · rw [if_neg g1, if_neg g2, if_neg (by omega)]
          omega
  have nil : ∀ m, SUc (cP [] f) m = 0 := by
    intro m
    induction m with
    | zero => rfl
    | succ m ih =>
      show SUc (cP [] f) m + cP [] f (-600 + (m : Int)) = 0
      rw [ih]
      rfl
  intro L
  induction L with
  | nil => intro _; exact nil 1201
  | cons p L ih =>
    intro h
    have hp := h p (List.mem_cons_self ..)
    rw [add p L hp.1 1201, ih (fun q hq => h q (List.mem_cons_of_mem _ hq)), if_pos (by omega)]
    rfl
theorem hasIn_LM {p q r x y : Int} (hp : 1 ≤ p ∧ p ≤ 200) (hq : 1 ≤ q ∧ q ≤ 200) (hr : 0 ≤ r ∧ r < p) (hx : -1000000 ≤ x ∧ x ≤ 1000000) (hy : -1000000 ≤ y ∧ y ≤ 1000000) : (LM p q r x y ∧ f_X8_hasIn (lo p) (lo q) (lo r) (lo x) (lo y) = some 1) ∨ (¬ LM p q r x y ∧ f_X8_hasIn (lo p) (lo q) (lo r) (lo x) (lo y) = some 0) := by
  have t := Int.natAbs_tdiv_le_natAbs y q
  have tb := mul_b (x := y.tdiv q) (y := r) (X := 1000000) (Y := 200) (by omega) (by omega) (by omega) (by omega)
  have iff : (q ∣ y ∧ p ∣ x - y.tdiv q * r) ↔ LM p q r x y := by
    constructor
    · rintro ⟨⟨v, e1⟩, u, e2⟩
      have e3 : y.tdiv q = v := by rw [e1]; exact Int.mul_tdiv_cancel_left _ (by omega)
      rw [e3] at e2
      exact ⟨u, v, by rw [Int.mul_comm u p]; omega, by rw [e1, Int.mul_comm]⟩
    · rintro ⟨u, v, e1, e2⟩
      have e3 : y.tdiv q = v := by rw [e2]; exact Int.mul_tdiv_cancel _ (by omega)
      rw [e3]
      exact ⟨⟨v, by rw [e2, Int.mul_comm]⟩, ⟨u, by rw [e1, Int.mul_comm p u]; omega⟩⟩
  rcases holds_v (p := p) (q := q) (r := r) (x := x) (y := y) (by omega) (by omega) (by unfold big; omega) (by unfold big; omega) (by unfold big; omega) (by unfold big; omega) with ⟨g, -, e⟩ | ⟨g, -, e⟩
  · exact Or.inl ⟨iff.mp g, e⟩
  · exact Or.inr ⟨fun z => g (iff.mpr z), e⟩
theorem count8 {k : Nat} (hk : k < 5) {p q r A : Int} (hp : 1 ≤ p ∧ p ≤ 200) (hq : 1 ≤ q ∧ q ≤ 200) (hr : 0 ≤ r ∧ r < p) (hA : 1 ≤ A ∧ A ≤ 40000) {L : List (Int × Int)} {f : Int × Int → Int × Int} (inj : ∀ p q, f p = f q → p = q) (nd : L.Nodup) (mem : ∀ x y, (∃ v ∈ L, f v = (x, y)) ↔ LM p q r x y ∧ sz (kT k) (kN k) x y = A) : whl (f_X8_layShortest_L176 (lo (kT k)) (lo (kN k)) (lo A) (lo p) (lo q) (lo r)) ((-600 : Int64), (0 : Int32)) = some (io (L.length : Int)) := by
  have h := TN_k hk
  have four : ∀ x y : Int, 4 * sz (kT k) (kN k) x y = (4 * kN k - kT k * kT k) * y * y + (2 * x + kT k * y) * (2 * x + kT k * y) := fun x y => four_sz _ _ x y
  have hb : ∀ v ∈ L, -600 ≤ (f v).2 ∧ (f v).2 ≤ 600 := by
    intro v hv
    obtain ⟨-, e⟩ := (mem (f v).1 (f v).2).mp ⟨v, hv, rfl⟩
    have e2 := sz_4b (kT k) (kN k) (f v).1 (f v).2
    have g2 := sq_nn (2 * (f v).1 + kT k * (f v).2)
    obtain ⟨w1, w2⟩ := W_b hk
    have m := Int.mul_le_mul_of_nonneg_right w1 (sq_nn (f v).2)
    have : (f v).2 * (f v).2 < 601 * 601 := by omega
    have := sq_lt (by omega) this
    omega
  have key : ∃ z, whl (f_X8_layShortest_L176 (lo (kT k)) (lo (kN k)) (lo A) (lo p) (lo q) (lo r)) ((-600 : Int64), (0 : Int32)) = some z ∧ z = io ((SUc (cP L f) 1201 : Nat) : Int) := by
    refine whl_for (b := f_X8_layShortest_L176 (lo (kT k)) (lo (kN k)) (lo A) (lo p) (lo q) (lo r)) 1201 (fun i s => s = (lo (-600 + (i : Int)), io ((SUc (cP L f) i : Nat) : Int))) _ ?_ ?_ 0 _ (by omega) rfl
    · rintro i s hi rfl
      have c1 : ¬ ((600 : Int64) < lo (-600 + (i : Int))) := fun e => by
        have := (lo_lt (a := 600) (by unfold i64; omega) (by unfold i64; omega)).mp e
        omega
      have hst : SUc (cP L f) (i + 1) = SUc (cP L f) i + cP L f (-600 + (i : Int)) := rfl
      have e1 := lo_of_sum (-600) i
      rw [← e1, hst]
      have hy : -1200 ≤ -600 + (i : Int) ∧ -600 + (i : Int) ≤ 1200 := by omega
      generalize -600 + (i : Int) = y at *
      generalize SUc (cP L f) i = C at *
      have hD := DD_b hk (s := A) (by omega) (by omega) hy
      have c2 : lo (DD (kT k) (kN k) A y) < (0 : Int64) ↔ DD (kT k) (kN k) A y < 0 := lo_lt (b := 0) (by unfold i64; omega) (by unfold i64; omega)
      obtain ⟨⟨t1, t2⟩, -⟩ := kTN_b k
      have tb := mul_b t1 t2 hy.1 hy.2
      -- what stands in this row
      have inrow : ∀ v ∈ L, (f v).2 = y → (2 * (f v).1 + kT k * y) * (2 * (f v).1 + kT k * y) = DD (kT k) (kN k) A y := by
        intro v hv e
        obtain ⟨-, e2⟩ := (mem (f v).1 (f v).2).mp ⟨v, hv, rfl⟩
        have e3 := four (f v).1 (f v).2
        rw [e2, e] at e3
        unfold DD
        omega
      unfold f_X8_layShortest_L176
      dsimp only
      rw [if_neg c1, DD_8]
      by_cases g0 : 0 ≤ DD (kT k) (kN k) A y
      · have hr' := isq_b g0 (by omega)
        obtain ⟨q0, q1, q2⟩ := isq_spec g0
        have hrr := sq_mono hr'.1 hr'.2
        have hr0 := sq_nn (isq (DD (kT k) (kN k) A y))
        have root : ∀ v ∈ L, (f v).2 = y → (2 * (f v).1 + kT k * y = isq (DD (kT k) (kN k) A y) ∨ 2 * (f v).1 + kT k * y = -isq (DD (kT k) (kN k) A y)) ∧ isq (DD (kT k) (kN k) A y) * isq (DD (kT k) (kN k) A y) = DD (kT k) (kN k) A y := by
          intro v hv e
          have e2 := inrow v hv e
          generalize 2 * (f v).1 + kT k * y = Z at *
          rcases Int.le_total 0 Z with z | z
          · have e3 : Z = isq (DD (kT k) (kN k) A y) := isq_uniq z (by omega) (by
              have : (Z + 1) * (Z + 1) = Z * Z + 2 * Z + 1 := by grind
              omega)
            exact ⟨Or.inl e3, by rw [← e3]; exact e2⟩
          · have e3 : -Z = isq (DD (kT k) (kN k) A y) := isq_uniq (by omega) (by
              have : -Z * -Z = Z * Z := by grind
              omega) (by
              have : (-Z + 1) * (-Z + 1) = Z * Z - 2 * Z + 1 := by grind
              omega)
            refine ⟨Or.inr (by omega), ?_⟩
            rw [← e3]
            have : -Z * -Z = Z * Z := by grind
            omega
        rw [under8 g0 (by omega)]
        simp only [Option.bind_some]
        rw [if_neg (fun e => by have := c2.mp e; omega), lo_mul, lo_mul, lo_sub, lo_neg, lo_sub]
        have c3 : lo (isq (DD (kT k) (kN k) A y) * isq (DD (kT k) (kN k) A y)) = lo (DD (kT k) (kN k) A y) ↔ _ := lo_eq (by unfold i64; omega) (by unfold i64; omega)
        have c4 : lo (isq (DD (kT k) (kN k) A y) - kT k * y) - lo (isq (DD (kT k) (kN k) A y) - kT k * y) / (2 : Int64) * (2 : Int64) = 0 ↔ _ := dvd_lo (b := 2) (by unfold i64; omega) (by unfold i64; omega) (by omega)
        have c5 : lo (isq (DD (kT k) (kN k) A y)) ≤ (0 : Int64) ↔ isq (DD (kT k) (kN k) A y) ≤ 0 := lo_le (b := 0) (by unfold i64; omega) (by unfold i64; omega)
        have none_ : (∀ v ∈ L, ¬ (f v).2 = y) → ∃ t, (some (Sum.inl (lo y + (1 : Int64), io ((C : Nat) : Int))) : Option ((Int64 × Int32) ⊕ Int32)) = some (Sum.inl t) ∧ t = (lo y + (1 : Int64), io ((C + cP L f y : Nat) : Int)) := by
          intro hn
          rw [cP_0 hn]
          exact ⟨_, rfl, rfl⟩
        by_cases g1 : isq (DD (kT k) (kN k) A y) * isq (DD (kT k) (kN k) A y) = DD (kT k) (kN k) A y
        · rw [if_pos (c3.mpr g1)]
          by_cases g2 : (isq (DD (kT k) (kN k) A y) - kT k * y) % 2 = 0
          · rw [if_pos (c4.mpr (Int.dvd_of_emod_eq_zero g2))]
            obtain ⟨x1, hx1⟩ : ∃ x1 : Int, isq (DD (kT k) (kN k) A y) - kT k * y = 2 * x1 := ⟨(isq (DD (kT k) (kN k) A y) - kT k * y) / 2, by omega⟩
            obtain ⟨x2, hx2⟩ : ∃ x2 : Int, -isq (DD (kT k) (kN k) A y) - kT k * y = 2 * x2 := ⟨(-isq (DD (kT k) (kN k) A y) - kT k * y) / 2, by omega⟩
            have d1 : lo (isq (DD (kT k) (kN k) A y) - kT k * y) / (2 : Int64) = lo x1 := by
              have : lo (isq (DD (kT k) (kN k) A y) - kT k * y) / (2 : Int64) = lo ((isq (DD (kT k) (kN k) A y) - kT k * y).tdiv 2) := lo_tdiv (b := 2) (by unfold big; omega) (by unfold big; omega) (by omega)
              rw [this, hx1, Int.mul_tdiv_cancel_left _ (by omega)]
            have d2 : lo (-isq (DD (kT k) (kN k) A y) - kT k * y) / (2 : Int64) = lo x2 := by
              have : lo (-isq (DD (kT k) (kN k) A y) - kT k * y) / (2 : Int64) = lo ((-isq (DD (kT k) (kN k) A y) - kT k * y).tdiv 2) := lo_tdiv (b := 2) (by unfold big; omega) (by unfold big; omega) (by omega)
              rw [this, hx2, Int.mul_tdiv_cancel_left _ (by omega)]
            rw [d1, d2]
            have s1 : sz (kT k) (kN k) x1 y = A := by
              have e3 := four x1 y
              rw [show 2 * x1 + kT k * y = isq (DD (kT k) (kN k) A y) by omega, g1] at e3
              unfold DD at e3
              omega
            have s2 : sz (kT k) (kN k) x2 y = A := by
              have e3 := four x2 y
              rw [show 2 * x2 + kT k * y = -isq (DD (kT k) (kN k) A y) by omega, show -isq (DD (kT k) (kN k) A y) * -isq (DD (kT k) (kN k) A y) = isq (DD (kT k) (kN k) A y) * isq (DD (kT k) (kN k) A y) by grind, g1] at e3
              unfold DD at e3
              omega
            have m1 := mem x1 y
            have m2 := mem x2 y
            have H1 := hasIn_LM (x := x1) (y := y) hp hq hr (by omega) (by omega)
            have H2 := hasIn_LM (x := x2) (y := y) hp hq hr (by omega) (by omega)
            have ones : ∀ (z : Int32) (m : Nat), (z = 0 ∧ m = 0) ∨ (z = 1 ∧ m = 1) → io ((C : Nat) : Int) + z = io ((C + m : Nat) : Int) := by
              rintro z m (⟨rfl, rfl⟩ | ⟨rfl, rfl⟩)
              · exact io_add _ 0
              · exact io_add _ 1
            by_cases g3 : isq (DD (kT k) (kN k) A y) ≤ 0
            · -- one number at most
              have e12 : x1 = x2 := by omega
              have K := cP_1 (x1 := x1) (y := y) inj L nd (fun v hv e => by have := (root v hv e).1; omega)
              have g3' := c5.mpr g3
              rcases H1 with ⟨l1, h1⟩ | ⟨l1, h1⟩
              · have kk : cP L f y = 1 := by
                  rcases K with ⟨-, e⟩ | ⟨e, -⟩
                  · exact e
                  · exact absurd (m1.mpr ⟨l1, s1⟩) e
                rw [h1, kk]
                simp only [Option.bind_some, n10, g3', ↓reduceIte]
                refine ⟨_, rfl, ?_⟩
                have a1 : io ((C : Nat) : Int) + (1 : Int32) = io ((C + 1 : Nat) : Int) := io_add _ 1
                have a2 : io ((C + 1 : Nat) : Int) + (0 : Int32) = io ((C + 1 : Nat) : Int) := by
                  have : io ((C + 1 : Nat) : Int) + (0 : Int32) = io (((C + 1 : Nat) : Int) + 0) := io_add _ 0
                  rw [this, Int.add_zero]
                rw [a1, a2]
              · have kk : cP L f y = 0 := by
                  rcases K with ⟨e, -⟩ | ⟨-, e⟩
                  · exact absurd (m1.mp e).1 l1
                  · exact e
                rw [h1, kk]
                simp only [Option.bind_some, g3', ↓reduceIte]
                refine ⟨_, rfl, ?_⟩
                have a1 : io ((C : Nat) : Int) + (0 : Int32) = io ((C : Nat) : Int) := by
                  have : io ((C : Nat) : Int) + (0 : Int32) = io (((C : Nat) : Int) + 0) := io_add _ 0
                  rw [this, Int.add_zero]
                rw [a1, a1]
                rfl
            · have g3' : ¬ lo (isq (DD (kT k) (kN k) A y)) ≤ (0 : Int64) := fun e => g3 (c5.mp e)
              obtain ⟨c6, c7, K, K1, K2⟩ := cP_2 (x1 := x1) (x2 := x2) (y := y) inj (by omega) L nd (fun v hv e => by have := (root v hv e).1; omega)
              have a0 : ∀ m : Nat, io ((m : Nat) : Int) + (0 : Int32) = io ((m : Nat) : Int) := by
                intro m
                have : io ((m : Nat) : Int) + (0 : Int32) = io (((m : Nat) : Int) + 0) := io_add _ 0
                rw [this, Int.add_zero]
              have a1 : ∀ m : Nat, io ((m : Nat) : Int) + (1 : Int32) = io ((m + 1 : Nat) : Int) := fun m => io_add _ 1
              have v1 : (LM p q r x1 y → c6 = 1) ∧ (¬ LM p q r x1 y → c6 = 0) := by
                rcases K1 with ⟨e, z⟩ | ⟨e, z⟩
                · exact ⟨fun _ => z, fun y' => absurd (m1.mp e).1 y'⟩
                · exact ⟨fun y' => absurd (m1.mpr ⟨y', s1⟩) e, fun _ => z⟩
              have v2 : (LM p q r x2 y → c7 = 1) ∧ (¬ LM p q r x2 y → c7 = 0) := by
                rcases K2 with ⟨e, z⟩ | ⟨e, z⟩
                · exact ⟨fun _ => z, fun y' => absurd (m2.mp e).1 y'⟩
                · exact ⟨fun y' => absurd (m2.mpr ⟨y', s2⟩) e, fun _ => z⟩
              rw [K]
              rcases H1 with ⟨l1, h1⟩ | ⟨l1, h1⟩
              · have q1' := v1.1 l1
                rcases H2 with ⟨l2, h2⟩ | ⟨l2, h2⟩
                · have q2' := v2.1 l2
                  rw [h1]
                  simp only [Option.bind_some, n10, g3', h2, ↓reduceIte]
                  rw [a1, a1, q1', q2']
                  exact ⟨_, rfl, rfl⟩
                · have q2' := v2.2 l2
                  rw [h1]
                  simp only [Option.bind_some, n10, g3', h2, ↓reduceIte]
                  rw [a1, a0, q1', q2']
                  exact ⟨_, rfl, rfl⟩
              · have q1' := v1.2 l1
                rcases H2 with ⟨l2, h2⟩ | ⟨l2, h2⟩
                · have q2' := v2.1 l2
                  rw [h1]
                  simp only [Option.bind_some, n10, g3', h2, ↓reduceIte]
                  rw [a0, a1, q1', q2', Nat.zero_add]
                  exact ⟨_, rfl, rfl⟩
                · have q2' := v2.2 l2
                  rw [h1]
                  simp only [Option.bind_some, g3', h2, ↓reduceIte]
                  rw [a0, a0, q1', q2']
                  exact ⟨_, rfl, rfl⟩
          · rw [if_neg (fun e => g2 (Int.emod_eq_zero_of_dvd (c4.mp e)))]
            exact none_ (fun v hv e => by have := (root v hv e).1; omega)
        · rw [if_neg (fun e => g1 (c3.mp e))]
          exact none_ (fun v hv e => g1 (root v hv e).2)
      · rw [under8n (by omega) (by omega)]
        simp only [Option.bind_some]
        rw [if_pos (c2.mpr (by omega)), cP_0 (fun v hv e => by
          have := inrow v hv e
          have := sq_nn (2 * (f v).1 + kT k * y)
          omega)]
        exact ⟨_, rfl, rfl⟩
    · rintro s rfl
      unfold f_X8_layShortest_L176
      dsimp only
      rw [if_pos (by decide)]
      exact ⟨_, rfl, rfl⟩
  obtain ⟨z, e, rfl⟩ := key
  rw [e, SUc_len L hb]
