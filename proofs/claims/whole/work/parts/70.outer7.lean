/-! the class' outer loop -/
theorem find7_step {k : Nat} (hk : k < 5) {us : List (Int × Int)} (hu : UN k us) {mm : Int32} {uA uB : Nat → Int64} (hm : MU us mm uA uB) {x : G2} {d : Nat} (h2 : 2 ≤ d) (hd2 : d ≤ 60000) (J : JJ k x d) {pri : Nat → Int64} (cp : CP (RS k x d).2.1 (SO (kT k) (kN k) (RS k x d).2.2 (RS k x d).2.1) pri) : (zs (kT k) (kN k) (RS k x d).1 < (d : Int) * (d : Int) ∧ f_X0_find_L24 (io (kT k)) (io (kN k)) (io (kU k)) (pk (kSa k) (kSb k)) (lo (zs (kT k) (kN k) (RS k x d).1), lo (d : Int), io ((RS k x d).2.1 : Int), pk (RS k x d).1.1 (RS k x d).1.2, pri) = some (Sum.inr (lo (zs (kT k) (kN k) (RS k x d).1), io ((RS k x d).2.1 : Int), pk (RS k x d).1.1 (RS k x d).1.2, pri))) ∨ ((d : Int) * (d : Int) ≤ zs (kT k) (kN k) (RS k x d).1 ∧ JJ k x (d + 1) ∧ ∃ pri', f_X0_find_L24 (io (kT k)) (io (kN k)) (io (kU k)) (pk (kSa k) (kSb k)) (lo (zs (kT k) (kN k) (RS k x d).1), lo (d : Int), io ((RS k x d).2.1 : Int), pk (RS k x d).1.1 (RS k x d).1.2, pri) = some (Sum.inl (lo (zs (kT k) (kN k) (RS k x (d + 1)).1), lo ((if d = 2 then d + 1 else d + 2 : Nat) : Int), io ((RS k x (d + 1)).2.1 : Int), pk (RS k x (d + 1)).1.1 (RS k x (d + 1)).1.2, pri')) ∧ CP (RS k x (d + 1)).2.1 (SO (kT k) (kN k) (RS k x (d + 1)).2.2 (RS k x (d + 1)).2.1) pri') := by
  have b := (GD2_b J.1).2.1
  have g0 := J.1.2.1
  unfold SB at b
  have sq := Int.mul_le_mul (show (d : Int) ≤ 60000 by omega) (show (d : Int) ≤ 60000 by omega) (by omega) (by omega)
  have sq0 := Int.mul_nonneg (show 0 ≤ (d : Int) by omega) (show 0 ≤ (d : Int) by omega)
  have c0 : ¬ ((1000000 : Int64) ≤ lo (d : Int)) := fun e => by
    have := (lo_le (a := 1000000) (by unfold i64; omega) (by unfold i64; omega)).mp e
    omega
  have c1 : lo (zs (kT k) (kN k) (RS k x d).1) < lo ((d : Int) * (d : Int)) ↔ zs (kT k) (kN k) (RS k x d).1 < (d : Int) * (d : Int) := lo_lt (by unfold i64; omega) (by unfold i64; omega)
  have c3 : lo (d : Int) = (2 : Int64) ↔ (d : Int) = 2 := lo_eq (b := 2) (by unfold i64; omega) (by unfold i64; omega)
  have i1 : lo (d : Int) + (1 : Int64) = lo ((d + 1 : Nat) : Int) := lo_add (d : Int) 1
  have i2 : lo (d : Int) + (2 : Int64) = lo ((d + 2 : Nat) : Int) := lo_add (d : Int) 2
  have K : ∀ (m : Int32) (l : Int64) (pr : Nat → Int64) (v : Int64), f_X0_find_K70_141 m l pr v (lo (d : Int)) = some (Sum.inl (v, lo ((if d = 2 then d + 1 else d + 2 : Nat) : Int), m, l, pr)) := by
    intro m l pr v
    unfold f_X0_find_K70_141
    by_cases q : d = 2
    · rw [if_pos (c3.mpr (by omega)), if_pos q, i1]
    · rw [if_neg (fun e => q (by have := c3.mp e; omega)), if_neg q, i2]
  by_cases g : zs (kT k) (kN k) (RS k x d).1 < (d : Int) * (d : Int)
  · left
    refine ⟨g, ?_⟩
    unfold f_X0_find_L24
    dsimp only
    rw [if_neg c0, lo_mul, if_pos (c1.mpr g)]
  · right
    rcases div7 (a := zs (kT k) (kN k) (RS k x d).1) (b := (d : Int)) (by unfold i64; omega) (by unfold i64; omega) (by omega) with ⟨hd, e⟩ | ⟨hd, e⟩
    · obtain ⟨hy, A, er, J'⟩ := JJ_take hk hu hm h2 J (by omega) hd
      obtain ⟨y, hy2, P⟩ := prim7 (TN_k hk) (d := (d : Int)) (by omega)
      have ey := LY_u hy2 hy
      rw [← ey] at hy A er
      obtain ⟨pri', F, -, cp'⟩ := take70 hk hu hm A 40 0 (RS k x d) pri (by omega) J.1 cp
      rw [← er] at F cp'
      refine ⟨by omega, J', pri', ?_, cp'⟩
      unfold f_X0_find_L24
      dsimp only
      rw [if_neg c0, lo_mul, if_neg (fun q => g (c1.mp q)), e]
      simp only [Option.bind_some]
      rw [if_neg n10, P]
      simp only [Option.bind_some]
      rw [show (0 : Int32) = io ((0 : Nat) : Int) from rfl, F]
      simp only [Option.bind_some]
      exact K _ _ _ _
    · obtain ⟨er, J'⟩ := JJ_no h2 J hd
      refine ⟨by omega, J', pri, ?_, by rw [er]; exact cp⟩
      unfold f_X0_find_L24
      dsimp only
      rw [if_neg c0, lo_mul, if_neg (fun q => g (c1.mp q)), e]
      simp only [Option.bind_some, ↓reduceIte]
      rw [take70_no (by omega) (by omega) hd, er]
      simp only [Option.bind_some]
      exact K _ _ _ _
