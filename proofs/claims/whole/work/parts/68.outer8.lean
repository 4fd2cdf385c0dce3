/-! the reference's outer loop -/
theorem lay8_step {k : Nat} (hk : k < 5) {us : List (Int × Int)} (hu : UN k us) {mm : Int32} {uA uB : Nat → Int64} (hm : MU us mm uA uB) {x : G2} {d : Nat} (h2 : 2 ≤ d) (hd2 : d ≤ 50000) (J : JJ k x d) {pA pB : Nat → Int64} (mp : MP (RS k x d).2.1 (RS k x d).2.2 pA pB) (x1 x2 x3 x4 : Int64) (o1 : Int32) : (zs (kT k) (kN k) (RS k x d).1 < (d : Int) * (d : Int) ∧ f_X8_layParts_L20 (lo (kT k)) (lo (kN k)) mm uA uB (lo (d : Int), x1, x2, x3, x4, o1, io ((RS k x d).2.1 : Int), lo (RS k x d).1.1, lo (RS k x d).1.2, pA, pB) = some (Sum.inr (x1, x2, x3, x4, o1, io ((RS k x d).2.1 : Int), lo (RS k x d).1.1, lo (RS k x d).1.2, pA, pB))) ∨ ((d : Int) * (d : Int) ≤ zs (kT k) (kN k) (RS k x d).1 ∧ JJ k x (d + 1) ∧ ∃ (y1 y2 y3 y4 : Int64) (o2 : Int32) (pA' pB' : Nat → Int64), f_X8_layParts_L20 (lo (kT k)) (lo (kN k)) mm uA uB (lo (d : Int), x1, x2, x3, x4, o1, io ((RS k x d).2.1 : Int), lo (RS k x d).1.1, lo (RS k x d).1.2, pA, pB) = some (Sum.inl (lo ((d + 1 : Nat) : Int), y1, y2, y3, y4, o2, io ((RS k x (d + 1)).2.1 : Int), lo (RS k x (d + 1)).1.1, lo (RS k x (d + 1)).1.2, pA', pB')) ∧ MP (RS k x (d + 1)).2.1 (RS k x (d + 1)).2.2 pA' pB') := by
  have b := (GD2_b J.1).2.1
  have g0 := J.1.2.1
  unfold SB at b
  have sq := Int.mul_le_mul (show (d : Int) ≤ 50000 by omega) (show (d : Int) ≤ 50000 by omega) (by omega) (by omega)
  have sq0 := Int.mul_nonneg (show 0 ≤ (d : Int) by omega) (show 0 ≤ (d : Int) by omega)
  have eS : f_X8_sizeOf (lo (kT k)) (lo (kN k)) (lo (RS k x d).1.1) (lo (RS k x d).1.2) = lo (zs (kT k) (kN k) (RS k x d).1) := sizeOf_m _ _ _ _
  have c1 : lo (zs (kT k) (kN k) (RS k x d).1) < lo ((d : Int) * (d : Int)) ↔ zs (kT k) (kN k) (RS k x d).1 < (d : Int) * (d : Int) := lo_lt (by unfold i64; omega) (by unfold i64; omega)
  have nz := lo_nz (z := (d : Int)) (by unfold i64; omega) (by omega)
  have c2 := dvd_lo (a := zs (kT k) (kN k) (RS k x d).1) (b := (d : Int)) (by unfold i64; omega) (by unfold i64; omega) (by omega)
  have i1 : lo (d : Int) + (1 : Int64) = lo ((d + 1 : Nat) : Int) := lo_add (d : Int) 1
  by_cases g : zs (kT k) (kN k) (RS k x d).1 < (d : Int) * (d : Int)
  · left
    refine ⟨g, ?_⟩
    unfold f_X8_layParts_L20
    dsimp only
    rw [eS, lo_mul, if_pos (c1.mpr g)]
  · right
    by_cases hd : (d : Int) ∣ zs (kT k) (kN k) (RS k x d).1
    · obtain ⟨hy, A, e, J'⟩ := JJ_take hk hu hm h2 J (by omega) hd
      obtain ⟨y1, y2, y3, y4, o2, pA', pB', F, -, mp', -, -⟩ := takeOver8 hk hu hm hy A J.1 mp x1 x2 x3 x4 o1
      refine ⟨by omega, J', y1, y2, y3, y4, o2, pA', pB', ?_, by rw [e]; exact mp'⟩
      unfold f_X8_layParts_L20
      dsimp only
      rw [eS, lo_mul, if_neg (fun q => g (c1.mp q)), if_neg nz, if_pos (c2.mpr hd), F, i1, e]
      rfl
    · obtain ⟨e, J'⟩ := JJ_no h2 J hd
      refine ⟨by omega, J', x1, x2, x3, x4, o1, pA, pB, ?_, by rw [e]; exact mp⟩
      unfold f_X8_layParts_L20
      dsimp only
      rw [eS, lo_mul, if_neg (fun q => g (c1.mp q)), if_neg nz, if_neg (fun q => hd (c2.mp q)), i1, e]
