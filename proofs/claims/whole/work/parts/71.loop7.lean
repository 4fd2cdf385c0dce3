/-! the class' outer loop to its end -/
theorem RS_even {k : Nat} {x : G2} {d : Nat} (h3 : 3 ≤ d) (ev : d % 2 = 0) (J : JJ k x d) : RS k x (d + 1) = RS k x d ∧ JJ k x (d + 1) :=
  JJ_no (by omega) J (fun q => J.2 2 (by omega) (by omega) (Int.dvd_trans ⟨((d / 2 : Nat) : Int), by omega⟩ q))
theorem find7_loop {k : Nat} (hk : k < 5) {us : List (Int × Int)} (hu : UN k us) {mm : Int32} {uA uB : Nat → Int64} (hm : MU us mm uA uB) {x : G2} {D : Nat} (hD : DE k x D) (hD2 : D ≤ 50000) : ∀ (n d : Nat) (pri : Nat → Int64), D + 1 < d + n → 2 ≤ d → (d = 2 ∨ d % 2 = 1) → JJ k x d → (d ≤ D ∨ (d = D + 1 ∧ RS k x d = RS k x D)) → CP (RS k x d).2.1 (SO (kT k) (kN k) (RS k x d).2.2 (RS k x d).2.1) pri → ∃ pri', whl (f_X0_find_L24 (io (kT k)) (io (kN k)) (io (kU k)) (pk (kSa k) (kSb k))) (lo (zs (kT k) (kN k) (RS k x d).1), lo (d : Int), io ((RS k x d).2.1 : Int), pk (RS k x d).1.1 (RS k x d).1.2, pri) = some (lo (zs (kT k) (kN k) (RS k x D).1), io ((RS k x D).2.1 : Int), pk (RS k x D).1.1 (RS k x D).1.2, pri') ∧ CP (RS k x D).2.1 (SO (kT k) (kN k) (RS k x D).2.2 (RS k x D).2.1) pri' := by
  intro n
  induction n with
  | zero => intro d pri hn h2 ev J hd cp; omega
  | succ n ih =>
    intro d pri hn h2 ev J hd cp
    rcases find7_step hk hu hm h2 (by omega) J cp with ⟨g, e⟩ | ⟨g, J', pri', e, cp'⟩
    · have eD : RS k x d = RS k x D := by
        rcases hd with hd | ⟨_, hd⟩
        · by_cases q : d = D
          · rw [q]
          · have := hD.2.2 d h2 (by omega)
            omega
        · exact hd
      rw [eD] at e cp
      rw [eD]
      exact ⟨pri, whl_r e, cp⟩
    · have dD : d < D := by
        have hz := hD.2.1
        rcases hd with hd | ⟨q, e2⟩
        · by_cases q : d = D
          · rw [q] at g
            omega
          · omega
        · rw [e2, q] at g
          have m1 := Int.mul_le_mul (show (D : Int) ≤ ((D + 1 : Nat) : Int) by omega) (show (D : Int) ≤ ((D + 1 : Nat) : Int) by omega) (by omega) (by omega)
          omega
      rw [whl_l e]
      by_cases q : d = 2
      · subst q
        rw [if_pos rfl]
        exact ih 3 pri' (by omega) (by omega) (Or.inr rfl) J' (Or.inl (by omega)) cp'
      · rw [if_neg q]
        obtain ⟨r1, J2⟩ := RS_even (d := d + 1) (by omega) (by omega) J'
        rw [← r1] at cp'
        rw [← r1]
        refine ih (d + 2) pri' (by omega) (by omega) (Or.inr (by omega)) J2 ?_ cp'
        by_cases q2 : d + 2 ≤ D
        · exact Or.inl q2
        · right
          have e1 : d + 1 = D := by omega
          refine ⟨by omega, ?_⟩
          rw [← e1]
          exact r1
