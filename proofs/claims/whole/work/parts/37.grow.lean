/-! the normal form of a net within the net; add and grow -/
theorem bt_big : 1000000000000000000000000000000000000 < bt 129 := by decide +kernel
theorem big_sq {z : Int} (h : big z) : (z.natAbs : Int) * (z.natAbs : Int) < bt 129 := by
  have h1 : (z.natAbs : Int) ≤ 1000000000000000000 := by unfold big at h; omega
  have := Int.mul_le_mul h1 h1 (by omega) (by omega)
  have := bt_big
  omega
theorem ES_z : ∀ (f : Nat) (B D : Int), (ES f 0 B 0 D).1 = 0 ∧ (ES f 0 B 0 D).2.2 = 0 := by
  intro f
  induction f with
  | zero => intro B D; exact ⟨rfl, rfl⟩
  | succ f ih =>
    intro B D
    unfold ES
    by_cases hD : D = 0
    · rw [if_pos hD]; exact ⟨rfl, rfl⟩
    · rw [if_neg hD, show (0 : Int) - B.tdiv D * 0 = 0 by omega]
      exact ih D _
theorem ES_nn : ∀ (f : Nat) (A B C D : Int), 0 ≤ B → 0 ≤ D → 0 ≤ (ES f A B C D).2.1 := by
  intro f
  induction f with
  | zero => intro A B C D h1 h2; exact h1
  | succ f ih =>
    intro A B C D h1 h2
    unfold ES
    by_cases hD : D = 0
    · rw [if_pos hD]; exact h1
    · rw [if_neg hD]
      exact ih C D _ _ h2 ((td_sign hD).1 h1)
theorem gcd7_l : ∀ (f : Nat) (B D i : Int), big B → big D → (D = 0 ∨ (D.natAbs : Int) < (B.natAbs : Int)) → (B.natAbs : Int) * (D.natAbs : Int) < bt f → 0 ≤ i → i + f < 1000000 → whl f_X7_gcd_L15 (lo B, lo D, io i) = some (lo (ES f 0 B 0 D).2.1) := by
  intro f
  have endc : ∀ (f : Nat) (B D i : Int), D = 0 → 0 ≤ i → i < 1000000 → whl f_X7_gcd_L15 (lo B, lo D, io i) = some (lo (ES f 0 B 0 D).2.1) := by
    rintro f B D i rfl hi hi2
    rw [ES_0]
    have c1 : ¬ ((1000000 : Int32) ≤ io i) := fun e => by
      have := (io_le (a := 1000000) (by unfold i32; omega) (by unfold i32; omega)).mp e
      omega
    refine whl_r ?_
    unfold f_X7_gcd_L15
    dsimp only
    rw [if_neg c1, if_pos (show lo 0 = (0 : Int64) from rfl)]
  induction f with
  | zero =>
    intro B D i hB hD h1 h2 hi hi2
    refine endc 0 B D i ?_ hi (by omega)
    rcases h1 with h1 | h1
    · exact h1
    · have hb : bt 0 = 1 := rfl
      rw [hb] at h2
      rcases Int.lt_or_le ((D.natAbs : Int)) 1 with g | g
      · omega
      · have := Int.mul_le_mul (show 1 ≤ (B.natAbs : Int) by omega) g (by omega) (by omega)
        omega
  | succ f ih =>
    intro B D i hB hD h1 h2 hi hi2
    by_cases g : D = 0
    · exact endc (f + 1) B D i g hi (by omega)
    · have hlt : (D.natAbs : Int) < (B.natAbs : Int) := h1.resolve_left g
      obtain ⟨t1, t2⟩ := td (x := B) g
      have hk : 1 ≤ ((B.tdiv D).natAbs : Int) := by
        rcases Int.lt_or_le (((B.tdiv D).natAbs : Int)) 1 with g | g
        · have : ((B.tdiv D).natAbs : Int) = 0 := by omega
          rw [this] at t2
          omega
        · exact g
      have hk2 := Int.mul_le_mul_of_nonneg_right hk (show 0 ≤ (D.natAbs : Int) by omega)
      have hm : (D.natAbs : Int) * ((B - B.tdiv D * D).natAbs : Int) < bt f := by
        have hb : bt (f + 1) = 2 * bt f := rfl
        rw [hb] at h2
        refine bt_half (y := (B.natAbs : Int) * (D.natAbs : Int)) ?_ h2
        have m1 := Int.mul_le_mul_of_nonneg_right (show 2 * ((B - B.tdiv D * D).natAbs : Int) ≤ (B.natAbs : Int) by omega) (show 0 ≤ (D.natAbs : Int) by omega)
        have m2 : 2 * ((B - B.tdiv D * D).natAbs : Int) * (D.natAbs : Int) = 2 * ((D.natAbs : Int) * ((B - B.tdiv D * D).natAbs : Int)) := by grind
        omega
      have c1 : ¬ ((1000000 : Int32) ≤ io i) := fun e => by
        have := (io_le (a := 1000000) (by unfold i32; omega) (by unfold i32; omega)).mp e
        omega
      have nD := lo_nz hD.l g
      rw [ES_1 f 0 B 0 D g, show (0 : Int) - B.tdiv D * 0 = 0 by omega]
      refine (whl_l ?_).trans (ih D (B - B.tdiv D * D) (i + 1) hD (by unfold big at *; omega) (Or.inr t1) hm (by omega) (by omega))
      unfold f_X7_gcd_L15
      dsimp only
      rw [if_neg c1, if_neg nD, if_neg nD, lo_tdiv hB hD g, lo_mul, lo_sub, io_1]
theorem shared8_l : ∀ (f : Nat) (B D : Int), big B → big D → (D = 0 ∨ (D.natAbs : Int) < (B.natAbs : Int)) → (B.natAbs : Int) * (D.natAbs : Int) < bt f → whl f_X8_shared_L28 (lo B, lo D) = some (lo (ES f 0 B 0 D).2.1) := by
  intro f
  have endc : ∀ (f : Nat) (B D : Int), D = 0 → whl f_X8_shared_L28 (lo B, lo D) = some (lo (ES f 0 B 0 D).2.1) := by
    rintro f B D rfl
    rw [ES_0]
    refine whl_r ?_
    unfold f_X8_shared_L28
    dsimp only
    rw [if_pos (show lo 0 = (0 : Int64) from rfl)]
  induction f with
  | zero =>
    intro B D hB hD h1 h2
    refine endc 0 B D ?_
    rcases h1 with h1 | h1
    · exact h1
    · have hb : bt 0 = 1 := rfl
      rw [hb] at h2
      rcases Int.lt_or_le ((D.natAbs : Int)) 1 with g | g
      · omega
      · have := Int.mul_le_mul (show 1 ≤ (B.natAbs : Int) by omega) g (by omega) (by omega)
        omega
  | succ f ih =>
    intro B D hB hD h1 h2
    by_cases g : D = 0
    · exact endc (f + 1) B D g
    · have hlt : (D.natAbs : Int) < (B.natAbs : Int) := h1.resolve_left g
      obtain ⟨t1, t2⟩ := td (x := B) g
      have hk : 1 ≤ ((B.tdiv D).natAbs : Int) := by
        rcases Int.lt_or_le (((B.tdiv D).natAbs : Int)) 1 with g | g
        · have : ((B.tdiv D).natAbs : Int) = 0 := by omega
          rw [this] at t2
          omega
        · exact g
      have hk2 := Int.mul_le_mul_of_nonneg_right hk (show 0 ≤ (D.natAbs : Int) by omega)
      have hm : (D.natAbs : Int) * ((B - B.tdiv D * D).natAbs : Int) < bt f := by
        have hb : bt (f + 1) = 2 * bt f := rfl
        rw [hb] at h2
        refine bt_half (y := (B.natAbs : Int) * (D.natAbs : Int)) ?_ h2
        have m1 := Int.mul_le_mul_of_nonneg_right (show 2 * ((B - B.tdiv D * D).natAbs : Int) ≤ (B.natAbs : Int) by omega) (show 0 ≤ (D.natAbs : Int) by omega)
        have m2 : 2 * ((B - B.tdiv D * D).natAbs : Int) * (D.natAbs : Int) = 2 * ((D.natAbs : Int) * ((B - B.tdiv D * D).natAbs : Int)) := by grind
        omega
      have nD := lo_nz hD.l g
      rw [ES_1 f 0 B 0 D g, show (0 : Int) - B.tdiv D * 0 = 0 by omega]
      refine (whl_l ?_).trans (ih D (B - B.tdiv D * D) hD (by unfold big at *; omega) (Or.inr t1) hm)
      unfold f_X8_shared_L28
      dsimp only
      rw [if_neg nD, if_neg nD, lo_tdiv hB hD g, lo_mul, lo_sub]
def GD (x y : Int) : Int := (ES 130 0 ((x.natAbs : Int)) 0 ((y.natAbs : Int))).2.1
theorem big_abs {z : Int} (h : big z) : big ((z.natAbs : Int)) := by unfold big at *; omega
theorem abs_abs (z : Int) : (((z.natAbs : Int)).natAbs : Int) = (z.natAbs : Int) := by omega
theorem gcd7_v {x y : Int} (hx : big x) (hy : big y) : f_X7_gcd (lo x) (lo y) = some (lo (GD x y)) := by
  have a7 : ∀ z, big z → (if 0 < lo z then lo z else -lo z) = lo ((z.natAbs : Int)) := by
    intro z hz
    have c : (0 : Int64) < lo z ↔ 0 < z := lo_lt (a := 0) (by unfold i64; omega) hz.l
    by_cases g : 0 < z
    · rw [if_pos (c.mpr g), show (z.natAbs : Int) = z by omega]
    · rw [if_neg (fun e => g (c.mp e)), lo_neg, show (z.natAbs : Int) = -z by omega]
  unfold f_X7_gcd f_X7_gcd_K15_50 GD
  rw [a7 x hx, a7 y hy]
  have hX := big_abs hx
  have hY := big_abs hy
  have hsq := big_sq hY
  generalize (x.natAbs : Int) = B at *
  generalize (y.natAbs : Int) = D at *
  by_cases g : D = 0
  · subst g
    rw [ES_0]
    have e : whl f_X7_gcd_L15 (lo B, lo 0, (0 : Int32)) = some (lo B) := by
      refine whl_r ?_
      unfold f_X7_gcd_L15
      dsimp only
      rw [if_neg (by decide), if_pos (show lo 0 = (0 : Int64) from rfl)]
    rw [e]
    rfl
  · obtain ⟨t1, t2⟩ := td (x := B) g
    have nD := lo_nz hY.l g
    have e := gcd7_l 129 D (B - B.tdiv D * D) 1 hY (by unfold big at *; omega) (Or.inr t1) (sq_bt g hsq) (by omega) (by omega)
    rw [show (130 : Nat) = 129 + 1 from rfl, ES_1 129 0 B 0 D g, show (0 : Int) - B.tdiv D * 0 = 0 by omega]
    have e2 : whl f_X7_gcd_L15 (lo B, lo D, (0 : Int32)) = whl f_X7_gcd_L15 (lo D, lo (B - B.tdiv D * D), io 1) := by
      refine whl_l ?_
      unfold f_X7_gcd_L15
      dsimp only
      rw [if_neg (by decide), if_neg nD, if_neg nD, lo_tdiv hX hY g, lo_mul, lo_sub]
      rfl
    rw [e2, e]
    rfl
theorem shared8_v {x y : Int} (hx : big x) (hy : big y) : f_X8_shared (lo x) (lo y) = some (lo (GD x y)) := by
  have key : Option.bind (whl f_X8_shared_L28 (lo ((x.natAbs : Int)), lo ((y.natAbs : Int)))) (fun y28 => f_X8_shared_K28_53 y28) = some (lo (GD x y)) := by
    unfold f_X8_shared_K28_53 GD
    have hX := big_abs hx
    have hY := big_abs hy
    have hsq := big_sq hY
    generalize (x.natAbs : Int) = B at *
    generalize (y.natAbs : Int) = D at *
    by_cases g : D = 0
    · subst g
      rw [ES_0]
      have e : whl f_X8_shared_L28 (lo B, lo 0) = some (lo B) := by
        refine whl_r ?_
        unfold f_X8_shared_L28
        dsimp only
        rw [if_pos (show lo 0 = (0 : Int64) from rfl)]
      rw [e]
      rfl
    · obtain ⟨t1, t2⟩ := td (x := B) g
      have nD := lo_nz hY.l g
      have e := shared8_l 129 D (B - B.tdiv D * D) hY (by unfold big at *; omega) (Or.inr t1) (sq_bt g hsq)
      rw [show (130 : Nat) = 129 + 1 from rfl, ES_1 129 0 B 0 D g, show (0 : Int) - B.tdiv D * 0 = 0 by omega]
      have e2 : whl f_X8_shared_L28 (lo B, lo D) = whl f_X8_shared_L28 (lo D, lo (B - B.tdiv D * D)) := by
        refine whl_l ?_
        unfold f_X8_shared_L28
        dsimp only
        rw [if_neg nD, if_neg nD, lo_tdiv hX hY g, lo_mul, lo_sub]
      rw [e2, e]
      rfl
  have c1 : (0 : Int64) ≤ lo x ↔ 0 ≤ x := lo_le (a := 0) (by unfold i64; omega) hx.l
  have c2 : (0 : Int64) ≤ lo y ↔ 0 ≤ y := lo_le (a := 0) (by unfold i64; omega) hy.l
  unfold f_X8_shared
  by_cases g1 : 0 ≤ x
  · rw [if_pos (c1.mpr g1)]
    rw [show (x.natAbs : Int) = x by omega] at key
    by_cases g2 : 0 ≤ y
    · rw [if_pos (c2.mpr g2)]
      rw [show (y.natAbs : Int) = y by omega] at key
      exact key
    · rw [if_neg (fun e => g2 (c2.mp e)), lo_neg]
      rw [show (y.natAbs : Int) = -y by omega] at key
      exact key
  · rw [if_neg (fun e => g1 (c1.mp e)), lo_neg]
    rw [show (x.natAbs : Int) = -x by omega] at key
    by_cases g2 : 0 ≤ y
    · rw [if_pos (c2.mpr g2)]
      rw [show (y.natAbs : Int) = y by omega] at key
      exact key
    · rw [if_neg (fun e => g2 (c2.mp e)), lo_neg]
      rw [show (y.natAbs : Int) = -y by omega] at key
      exact key
theorem abs_mul_ex (u x : Int) : ∃ u' : Int, u * x = u' * (x.natAbs : Int) := by
  rcases Int.le_total 0 x with h | h
  · exact ⟨u, by rw [show (x.natAbs : Int) = x by omega]⟩
  · exact ⟨-u, by rw [show (x.natAbs : Int) = -x by omega]; grind⟩
theorem abs_mul_ex' (u x : Int) : ∃ u' : Int, u * (x.natAbs : Int) = u' * x := by
  rcases Int.le_total 0 x with h | h
  · exact ⟨u, by rw [show (x.natAbs : Int) = x by omega]⟩
  · exact ⟨-u, by rw [show (x.natAbs : Int) = -x by omega]; grind⟩
theorem GD_spec {x y : Int} (hy : big y) : 0 ≤ GD x y ∧ GD x y ≤ (if (x.natAbs : Int) ≤ (y.natAbs : Int) then (y.natAbs : Int) else (x.natAbs : Int)) ∧ ∀ z : Int, (∃ u w : Int, z = u * x + w * y) ↔ ∃ u : Int, z = u * GD x y := by
  have h1 := (ES_ok1 (f := 129) (A := 0) (B := (x.natAbs : Int)) (C := 0) (D := (y.natAbs : Int)) (big_sq (big_abs hy))).1
  have h2 := ES_z 130 ((x.natAbs : Int)) ((y.natAbs : Int))
  have h3 := ES_nn 130 0 ((x.natAbs : Int)) 0 ((y.natAbs : Int)) (by omega) (by omega)
  have h4 := ES_b 130 0 ((x.natAbs : Int)) 0 ((y.natAbs : Int))
  rw [abs_abs, abs_abs] at h4
  rw [show (129 : Nat) + 1 = 130 from rfl] at h1
  have e : GD x y = (ES 130 0 ((x.natAbs : Int)) 0 ((y.natAbs : Int))).2.1 := rfl
  rw [h2.1, h2.2, ← e] at h1
  rw [← e] at h3 h4
  refine ⟨h3, by omega, fun z => ?_⟩
  have hz := h1 0 z
  constructor
  · rintro ⟨u, w, rfl⟩
    obtain ⟨u', e1⟩ := abs_mul_ex u x
    obtain ⟨w', e2⟩ := abs_mul_ex w y
    obtain ⟨v, w2, -, g⟩ := hz.mpr ⟨u', w', by omega, by rw [e1, e2]⟩
    exact ⟨v, by omega⟩
  · rintro ⟨v, rfl⟩
    obtain ⟨u, w, -, g⟩ := hz.mp ⟨v, 0, by omega, by omega⟩
    obtain ⟨u', e1⟩ := abs_mul_ex' u x
    obtain ⟨w', e2⟩ := abs_mul_ex' w y
    exact ⟨u', w', by rw [g, e1, e2]⟩
def LM (p q r x y : Int) : Prop := ∃ u v : Int, x = u * p + v * r ∧ y = v * q
def NF (p q r : Int) : Prop := 0 ≤ p ∧ 0 ≤ q ∧ (q = 0 → r = 0) ∧ (0 < p → 0 ≤ r ∧ r < p)
theorem LM_p (p q r : Int) : LM p q r p 0 := ⟨1, 0, by omega, by omega⟩
theorem LM_r (p q r : Int) : LM p q r r q := ⟨0, 1, by omega, by omega⟩
theorem LM_x0 {p q r x : Int} (hn : NF p q r) (h : LM p q r x 0) : ∃ u, x = u * p := by
  obtain ⟨u, v, e1, e2⟩ := h
  rcases Int.mul_eq_zero.mp e2.symm with g | g
  · subst g; exact ⟨u, by omega⟩
  · have := hn.2.2.1 g
    subst this; exact ⟨u, by omega⟩
theorem NF_uniq {p q r p' q' r' : Int} (h : NF p q r) (h' : NF p' q' r') (e : ∀ x y, LM p q r x y ↔ LM p' q' r' x y) : p = p' ∧ q = q' ∧ r = r' := by
  have eq : q = q' := by
    obtain ⟨u1, v1, -, a1⟩ := (e r q).mp (LM_r p q r)
    obtain ⟨u2, v2, -, a2⟩ := (e r' q').mpr (LM_r p' q' r')
    exact Int.dvd_antisymm h.2.1 h'.2.1 ⟨v2, by rw [a2, Int.mul_comm]⟩ ⟨v1, by rw [a1, Int.mul_comm]⟩
  have ep : p = p' := by
    obtain ⟨u1, a1⟩ := LM_x0 h' ((e p 0).mp (LM_p p q r))
    obtain ⟨u2, a2⟩ := LM_x0 h ((e p' 0).mpr (LM_p p' q' r'))
    exact Int.dvd_antisymm h.1 h'.1 ⟨u2, by rw [a2, Int.mul_comm]⟩ ⟨u1, by rw [a1, Int.mul_comm]⟩
  subst eq
  subst ep
  refine ⟨rfl, rfl, ?_⟩
  by_cases q0 : q = 0
  · rw [h.2.2.1 q0, h'.2.2.1 q0]
  · obtain ⟨u, v, a1, a2⟩ := (e r q).mp (LM_r p q r)
    have hv : v = 1 := by
      have : (v - 1) * q = 0 := by rw [Int.sub_mul, ← a2]; omega
      rcases Int.mul_eq_zero.mp this with g | g
      · omega
      · exact absurd g q0
    subst hv
    rw [Int.one_mul] at a1
    by_cases p0 : p = 0
    · subst p0; omega
    · have h1 := h.2.2.2 (by have := h.1; omega)
      have h2 := h'.2.2.2 (by have := h.1; omega)
      rcases Int.lt_trichotomy u 0 with g | g | g
      · have := Int.mul_le_mul_of_nonneg_right (show u ≤ -1 by omega) h.1
        omega
      · subst g; omega
      · have := Int.mul_le_mul_of_nonneg_right (show 1 ≤ u by omega) h.1
        omega
/-- what both do with Euclid's end -/
def NRM (p A B C : Int) : Int × Int × Int := (GD p C, if 0 ≤ B then B else -B, if GD p C = 0 then (if 0 ≤ B then A else -A) else (if 0 ≤ B then A else -A) % GD p C)
theorem GD_big {p C : Int} (hp : big p) (hC : big C) : big (GD p C) := by
  obtain ⟨g1, g2, -⟩ := GD_spec (x := p) hC
  unfold big at *
  split at g2 <;> omega
theorem k9 {p A B C : Int} (hp : big p) (hA : big A) (hB : big B) (hC : big C) : f_X1_add_K9_82 (lo p) (lo B) (lo A) (lo C) = some (lo (NRM p A B C).1, lo (NRM p A B C).2.1, lo (NRM p A B C).2.2) := by
  have gb := GD_big hp hC
  have g0 := (GD_spec (x := p) hC).1
  have c1 : (0 : Int64) ≤ lo B ↔ 0 ≤ B := lo_le (a := 0) (by unfold i64; omega) hB.l
  have c2 : lo (GD p C) ≤ (0 : Int64) ↔ GD p C ≤ 0 := lo_le (b := 0) gb.l (by unfold i64; omega)
  have hnA : big (-A) := by unfold big at *; omega
  unfold f_X1_add_K9_82 NRM
  rw [gcd7_v hp hC]
  simp only [Option.bind_some]
  generalize GD p C = G at *
  by_cases b0 : 0 ≤ B
  · rw [if_pos (c1.mpr b0), if_pos b0, if_pos b0]
    by_cases z : G = 0
    · rw [if_pos (c2.mpr (by omega)), if_pos z]
    · rw [if_neg (fun e => by have := c2.mp e; omega), if_neg z, fm7 hA.l gb.l (by omega)]
      rfl
  · rw [if_neg (fun e => b0 (c1.mp e)), if_neg b0, if_neg b0, lo_neg, lo_neg]
    by_cases z : G = 0
    · rw [if_pos (c2.mpr (by omega)), if_pos z]
    · rw [if_neg (fun e => by have := c2.mp e; omega), if_neg z, fm7 hnA.l gb.l (by omega)]
      rfl
theorem k18 {p A B C : Int} (hp : big p) (hA : big A) (hB : big B) (hC : big C) : f_X8_grow_K18_73 (lo p) (lo A) (lo B) (lo C) = some (lo (NRM p A B C).1, lo (NRM p A B C).2.1, lo (NRM p A B C).2.2) := by
  have gb := GD_big hp hC
  have g0 := (GD_spec (x := p) hC).1
  have c1 : (0 : Int64) ≤ lo B ↔ 0 ≤ B := lo_le (a := 0) (by unfold i64; omega) hB.l
  have c2 : lo (GD p C) = (0 : Int64) ↔ GD p C = 0 := lo_eq (b := 0) gb.l (by unfold i64; omega)
  have hnA : big (-A) := by unfold big at *; omega
  unfold f_X8_grow_K18_73 NRM
  rw [shared8_v hp hC]
  simp only [Option.bind_some]
  generalize GD p C = G at *
  by_cases b0 : 0 ≤ B
  · rw [if_pos (c1.mpr b0), if_pos (c1.mpr b0), if_pos b0, if_pos b0]
    by_cases z : G = 0
    · rw [if_pos (c2.mpr z), if_pos z]
    · rw [if_neg (fun e => z (c2.mp e)), if_neg z, rest8 hA.l gb.l (by omega)]
      rfl
  · rw [if_neg (fun e => b0 (c1.mp e)), if_neg (fun e => b0 (c1.mp e)), if_neg b0, if_neg b0, lo_neg, lo_neg]
    by_cases z : G = 0
    · rw [if_pos (c2.mpr z), if_pos z]
    · rw [if_neg (fun e => z (c2.mp e)), if_neg z, rest8 hnA.l gb.l (by omega)]
      rfl
theorem LM_neg (p q r x y : Int) : LM p (-q) (-r) x y ↔ LM p q r x y := by
  constructor
  · rintro ⟨u, v, rfl, rfl⟩
    exact ⟨u, -v, by grind, by grind⟩
  · rintro ⟨u, v, rfl, rfl⟩
    exact ⟨u, -v, by grind, by grind⟩
theorem LM_mod (p q r x y : Int) : LM p q (r % p) x y ↔ LM p q r x y := by
  have e := Int.emod_add_mul_ediv r p
  constructor
  · rintro ⟨u, v, rfl, rfl⟩
    refine ⟨u - v * (r / p), v, ?_, rfl⟩
    have e2 : v * r = v * (r % p) + v * (p * (r / p)) := by rw [← Int.mul_add, e]
    rw [e2]; grind
  · rintro ⟨u, v, rfl, rfl⟩
    refine ⟨u + v * (r / p), v, ?_, rfl⟩
    have e2 : v * r = v * (r % p) + v * (p * (r / p)) := by rw [← Int.mul_add, e]
    rw [e2]; grind
theorem NRM_ok {p A B C : Int} (hC : big C) (h0 : B = 0 → A = 0) : NF (NRM p A B C).1 (NRM p A B C).2.1 (NRM p A B C).2.2 ∧ ∀ x y, LM (NRM p A B C).1 (NRM p A B C).2.1 (NRM p A B C).2.2 x y ↔ ∃ u v w : Int, x = u * p + v * A + w * C ∧ y = v * B := by
  obtain ⟨g0, -, gs⟩ := GD_spec (x := p) hC
  have base : ∀ x y, LM (GD p C) B A x y ↔ ∃ u v w : Int, x = u * p + v * A + w * C ∧ y = v * B := by
    intro x y
    constructor
    · rintro ⟨u, v, rfl, rfl⟩
      obtain ⟨u', w', e⟩ := (gs (u * GD p C)).mpr ⟨u, rfl⟩
      exact ⟨u', v, w', by omega, rfl⟩
    · rintro ⟨u, v, w, rfl, rfl⟩
      obtain ⟨u', e⟩ := (gs (u * p + w * C)).mp ⟨u, w, rfl⟩
      exact ⟨u', v, by omega, rfl⟩
  unfold NRM
  dsimp only
  generalize GD p C = G at *
  constructor
  · refine ⟨g0, by split <;> omega, ?_, ?_⟩
    · intro hq
      have hB : B = 0 := by split at hq <;> omega
      have hA := h0 hB
      subst hA
      split
      · split <;> omega
      · rw [show (if 0 ≤ B then (0 : Int) else -0) = 0 by split <;> omega, Int.zero_emod]
    · intro hp
      rw [if_neg (by omega)]
      exact ⟨Int.emod_nonneg _ (by omega), Int.emod_lt_of_pos _ hp⟩
  · intro x y
    rw [← base x y]
    by_cases b0 : 0 ≤ B
    · rw [if_pos b0, if_pos b0]
      by_cases z : G = 0
      · rw [if_pos z]
      · rw [if_neg z]; exact LM_mod G B A x y
    · rw [if_neg b0, if_neg b0]
      by_cases z : G = 0
      · rw [if_pos z]; exact LM_neg G B A x y
      · rw [if_neg z]; exact (LM_mod G (-B) (-A) x y).trans (LM_neg G B A x y)
theorem grow8_1 {f : Nat} {A B C D : Int} (hB : big B) (hD : big D) (hs : sgn2 B D) (h : (D.natAbs : Int) * (D.natAbs : Int) < bt f) : whl f_X8_grow_L18 (lo A, lo B, lo C, lo D) = some (lo (ES (f + 1) A B C D).2.2, lo (ES (f + 1) A B C D).2.1, lo (ES (f + 1) A B C D).1) := by
  by_cases g : D = 0
  · subst g
    rw [ES_0]
    refine whl_r ?_
    unfold f_X8_grow_L18
    dsimp only
    rw [if_pos (show lo 0 = (0 : Int64) from rfl)]
  · obtain ⟨t1, t2⟩ := td (x := B) g
    obtain ⟨u1, u2⟩ := td_sign (x := B) g
    have nD := lo_nz hD.l g
    rw [ES_1 f A B C D g]
    refine (whl_l ?_).trans (grow8_l f C D (A - B.tdiv D * C) (B - B.tdiv D * D) hD (by unfold big at *; omega) ?_ (Or.inr t1) (sq_bt g h))
    · unfold f_X8_grow_L18
      dsimp only
      rw [if_neg nD, floor_same hB hD g (by unfold sgn2 at hs; omega)]
      simp only [Option.bind_some]
      rw [lo_mul, lo_mul, lo_sub, lo_sub]
    · unfold sgn2 at *
      rcases hs with ⟨s1, s2⟩ | ⟨s1, s2⟩
      · exact Or.inl ⟨s2, u1 s1⟩
      · exact Or.inr ⟨s2, u2 s1⟩
theorem ES_phi1 {X : Int} {f : Nat} {A B C D : Int} (hA : (A.natAbs : Int) ≤ X) (hC : (C.natAbs : Int) ≤ X) (h0 : B = 0 → A = 0) (h : (A.natAbs : Int) * (D.natAbs : Int) + (C.natAbs : Int) * (B.natAbs : Int) ≤ X) : ((ES (f + 1) A B C D).1.natAbs : Int) ≤ X ∧ ((ES (f + 1) A B C D).2.2.natAbs : Int) ≤ X := by
  by_cases hB : B = 0
  · have := h0 hB
    subst hB
    subst this
    by_cases hD : D = 0
    · subst hD; rw [ES_0]; exact ⟨hC, hA⟩
    · rw [ES_1 f 0 0 C D hD, Int.zero_tdiv, Int.zero_mul, Int.zero_mul, Int.sub_zero, ES_0]
      exact ⟨hA, hC⟩
  · exact ES_phi (f + 1) A B C D hA hB h
theorem span_of {p q r a b : Int} {R : Int × Int × Int} (h : ∀ x y, SP R.2.2 R.2.1 R.1 0 x y ↔ SP r q a b x y) (x y : Int) : (∃ u v w : Int, x = u * p + v * R.2.2 + w * R.1 ∧ y = v * R.2.1) ↔ ∃ u v w : Int, x = u * p + v * r + w * a ∧ y = v * q + w * b := by
  constructor
  · rintro ⟨u, v, w, rfl, rfl⟩
    obtain ⟨v', w', e1, e2⟩ := (h (v * R.2.2 + w * R.1) (v * R.2.1)).mp ⟨v, w, rfl, by omega⟩
    exact ⟨u, v', w', by omega, e2⟩
  · rintro ⟨u, v, w, rfl, rfl⟩
    obtain ⟨v', w', e1, e2⟩ := (h (v * r + w * a) (v * q + w * b)).mpr ⟨v, w, rfl, rfl⟩
    exact ⟨u, v', w', by omega, by omega⟩
/-- add and grow do the same -/
theorem add_both {p q r a b X : Int} (hn : NF p q r) (hp : big p) (hq : big q) (hb : big b) (hr : (r.natAbs : Int) ≤ X) (ha : (a.natAbs : Int) ≤ X) (hX : X ≤ 1000000000000000000) (hphi : (r.natAbs : Int) * (b.natAbs : Int) + (a.natAbs : Int) * (q.natAbs : Int) + 2 * ((a.natAbs : Int) * (b.natAbs : Int)) ≤ X) :
    ∃ p' q' r' : Int, f_X1_add (lo p) (lo q) (lo r) (lo a) (lo b) = some (lo p', lo q', lo r') ∧ f_X8_grow (lo p) (lo q) (lo r) (lo a) (lo b) = some (lo p', lo q', lo r') ∧ NF p' q' r' ∧ (∀ x y, LM p' q' r' x y ↔ ∃ u v w : Int, x = u * p + v * r + w * a ∧ y = v * q + w * b) ∧ (p = 0 → p' ≤ X) := by
  have hsq := big_sq hb
  have nab := Int.mul_nonneg (show 0 ≤ (a.natAbs : Int) by omega) (show 0 ≤ (b.natAbs : Int) by omega)
  have h0 : q = 0 → r = 0 := hn.2.2.1
  obtain ⟨k1, k2⟩ := ES_ok1 (A := r) (B := q) (C := a) (D := b) hsq
  obtain ⟨f1, f2⟩ := ES_phi1 (X := X) (f := 129) (A := r) (B := q) (C := a) (D := b) hr ha h0 (by omega)
  have fb := ES_b (129 + 1) r q a b
  have e7 : f_X1_add (lo p) (lo q) (lo r) (lo a) (lo b) = some (lo (NRM p (ES (129 + 1) r q a b).2.2 (ES (129 + 1) r q a b).2.1 (ES (129 + 1) r q a b).1).1, lo (NRM p (ES (129 + 1) r q a b).2.2 (ES (129 + 1) r q a b).2.1 (ES (129 + 1) r q a b).1).2.1, lo (NRM p (ES (129 + 1) r q a b).2.2 (ES (129 + 1) r q a b).2.1 (ES (129 + 1) r q a b).1).2.2) := by
    unfold f_X1_add
    rw [add7_1 hq hb hsq (by omega)]
    simp only [Option.bind_some]
    refine k9 hp (big_ab f2 hX) ?_ (big_ab f1 hX)
    unfold big at *
    split at fb <;> omega
  have z7 : (ES (129 + 1) r q a b).2.1 = 0 → (ES (129 + 1) r q a b).2.2 = 0 := by
    intro e
    obtain ⟨c1, c2, c3⟩ := k2 e
    rw [c3]
    exact h0 c1
  obtain ⟨n1, n2⟩ := NRM_ok (p := p) (C := (ES (129 + 1) r q a b).1) (big_ab f1 hX) z7
  have m1 := fun x y => (n2 x y).trans (span_of (p := p) k1 x y)
  have pX : p = 0 → (NRM p (ES (129 + 1) r q a b).2.2 (ES (129 + 1) r q a b).2.1 (ES (129 + 1) r q a b).1).1 ≤ X := by
    intro hp0
    have := (GD_spec (x := p) (y := (ES (129 + 1) r q a b).1) (big_ab f1 hX)).2.1
    show GD p (ES (129 + 1) r q a b).1 ≤ X
    rw [hp0] at this ⊢
    split at this <;> omega
  refine ⟨_, _, _, e7, ?_, n1, m1, pX⟩
  by_cases hs : 0 ≤ b
  · unfold f_X8_grow
    rw [grow8_1 hq hb (Or.inl ⟨hn.2.1, hs⟩) hsq]
    simp only [Option.bind_some]
    refine k18 hp (big_ab f2 hX) ?_ (big_ab f1 hX)
    unfold big at *
    split at fb <;> omega
  · have b0 : ¬ b = 0 := by omega
    have nD := lo_nz hb.l b0
    obtain ⟨k, g1, ⟨g2, g3⟩, g4⟩ := floor_opp hq hb hn.2.1 (by omega)
    have hB' : big (q - k * b) := by unfold big at *; omega
    have hm : (b.natAbs : Int) * ((q - k * b).natAbs : Int) < bt 129 := by
      have := Int.mul_le_mul_of_nonneg_left (show ((q - k * b).natAbs : Int) ≤ (b.natAbs : Int) by omega) (show 0 ≤ (b.natAbs : Int) by omega)
      omega
    have w8 : whl f_X8_grow_L18 (lo r, lo q, lo a, lo b) = some (lo (ES 129 a b (r - k * a) (q - k * b)).2.2, lo (ES 129 a b (r - k * a) (q - k * b)).2.1, lo (ES 129 a b (r - k * a) (q - k * b)).1) := by
      refine (whl_l ?_).trans (grow8_l 129 a b (r - k * a) (q - k * b) hb hB' (Or.inr ⟨by omega, g3⟩) (Or.inr (by omega)) hm)
      unfold f_X8_grow_L18
      dsimp only
      rw [if_neg nD, g1]
      simp only [Option.bind_some]
      rw [lo_mul, lo_mul, lo_sub, lo_sub]
    obtain ⟨l1, l2⟩ := ES_ok 129 a b (r - k * a) (q - k * b) (Or.inr (by omega)) hm
    have phi : (a.natAbs : Int) * ((q - k * b).natAbs : Int) + ((r - k * a).natAbs : Int) * (b.natAbs : Int) ≤ X := by
      have t0 : ((r - k * a).natAbs : Int) ≤ (r.natAbs : Int) + (k.natAbs : Int) * (a.natAbs : Int) := by
        rw [← ab_mul]
        omega
      have t1 := Int.mul_le_mul_of_nonneg_right t0 (show 0 ≤ (b.natAbs : Int) by omega)
      have t2 : ((r.natAbs : Int) + (k.natAbs : Int) * (a.natAbs : Int)) * (b.natAbs : Int) = (r.natAbs : Int) * (b.natAbs : Int) + (a.natAbs : Int) * ((k.natAbs : Int) * (b.natAbs : Int)) := by grind
      have t3 := Int.mul_le_mul_of_nonneg_left g4 (show 0 ≤ (a.natAbs : Int) by omega)
      have t4 := Int.mul_le_mul_of_nonneg_left (show ((q - k * b).natAbs : Int) ≤ (b.natAbs : Int) by omega) (show 0 ≤ (a.natAbs : Int) by omega)
      rw [Int.mul_add] at t3
      omega
    obtain ⟨f3, f4⟩ := ES_phi (X := X) 129 a b (r - k * a) (q - k * b) ha b0 phi
    have fb2 := ES_b 129 a b (r - k * a) (q - k * b)
    rw [if_neg (by omega)] at fb2
    have k1' : ∀ x y, SP (ES 129 a b (r - k * a) (q - k * b)).2.2 (ES 129 a b (r - k * a) (q - k * b)).2.1 (ES 129 a b (r - k * a) (q - k * b)).1 0 x y ↔ SP r q a b x y := fun x y => (l1 x y).trans (SP_step r q a b k x y)
    have z8 : (ES 129 a b (r - k * a) (q - k * b)).2.1 = 0 → (ES 129 a b (r - k * a) (q - k * b)).2.2 = 0 := fun e => absurd (l2 e).1 b0
    obtain ⟨n3, n4⟩ := NRM_ok (p := p) (C := (ES 129 a b (r - k * a) (q - k * b)).1) (big_ab f3 hX) z8
    have m2 := fun x y => (n4 x y).trans (span_of (p := p) k1' x y)
    obtain ⟨u1, u2, u3⟩ := NF_uniq n1 n3 (fun x y => (m1 x y).trans (m2 x y).symm)
    unfold f_X8_grow
    rw [w8]
    simp only [Option.bind_some]
    rw [u1, u2, u3]
    refine k18 hp (big_ab f4 hX) ?_ (big_ab f3 hX)
    unfold big at *
    omega
