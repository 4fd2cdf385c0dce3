/-! the least bound; the reference's loop to its end -/
def DE (k : Nat) (x : G2) (D : Nat) : Prop := 2 ≤ D ∧ zs (kT k) (kN k) (RS k x D).1 < (D : Int) * (D : Int) ∧ ∀ d : Nat, 2 ≤ d → d < D → (d : Int) * (d : Int) ≤ zs (kT k) (kN k) (RS k x d).1
theorem lay8_loop {k : Nat} (hk : k < 5) {us : List (Int × Int)} (hu : UN k us) {mm : Int32} {uA uB : Nat → Int64} (hm : MU us mm uA uB) {x : G2} (hb : SB (kT k) (kN k) x) (hx1 : 1 ≤ zs (kT k) (kN k) x) (x1 x2 x3 x4 : Int64) (o1 : Int32) (pA pB : Nat → Int64) : ∃ (D : Nat) (y1 y2 y3 y4 : Int64) (o2 : Int32) (pA' pB' : Nat → Int64), whl (f_X8_layParts_L20 (lo (kT k)) (lo (kN k)) mm uA uB) ((2 : Int64), x1, x2, x3, x4, o1, (0 : Int32), lo x.1, lo x.2, pA, pB) = some (y1, y2, y3, y4, o2, io ((RS k x D).2.1 : Int), lo (RS k x D).1.1, lo (RS k x D).1.2, pA', pB') ∧ DE k x D ∧ D ≤ 50000 ∧ (∀ d : Nat, 2 ≤ d → d ≤ D → JJ k x d) ∧ MP (RS k x D).2.1 (RS k x D).2.2 pA' pB' := by
  have key : ∃ r, whl (f_X8_layParts_L20 (lo (kT k)) (lo (kN k)) mm uA uB) ((2 : Int64), x1, x2, x3, x4, o1, (0 : Int32), lo x.1, lo x.2, pA, pB) = some r ∧ ∃ (D : Nat) (y1 y2 y3 y4 : Int64) (o2 : Int32) (pA' pB' : Nat → Int64), r = (y1, y2, y3, y4, o2, io ((RS k x D).2.1 : Int), lo (RS k x D).1.1, lo (RS k x D).1.2, pA', pB') ∧ DE k x D ∧ D ≤ 50000 ∧ (∀ d : Nat, 2 ≤ d → d ≤ D → JJ k x d) ∧ MP (RS k x D).2.1 (RS k x D).2.2 pA' pB' := by
    refine whl_fe (b := f_X8_layParts_L20 (lo (kT k)) (lo (kN k)) mm uA uB) 44998 (fun i S => ∃ (y1 y2 y3 y4 : Int64) (o2 : Int32) (pA' pB' : Nat → Int64), S = (lo ((i + 2 : Nat) : Int), y1, y2, y3, y4, o2, io ((RS k x (i + 2)).2.1 : Int), lo (RS k x (i + 2)).1.1, lo (RS k x (i + 2)).1.2, pA', pB') ∧ (∀ d : Nat, 2 ≤ d → d ≤ i + 2 → JJ k x d) ∧ (∀ d : Nat, 2 ≤ d → d < i + 2 → (d : Int) * (d : Int) ≤ zs (kT k) (kN k) (RS k x d).1) ∧ MP (RS k x (i + 2)).2.1 (RS k x (i + 2)).2.2 pA' pB') _ ?_ ?_ 0 _ (by omega) ⟨x1, x2, x3, x4, o1, pA, pB, rfl, fun d h1 h2 => ?_, fun d h1 h2 => by omega, fun j hj => ?_⟩
    · rintro i S hi ⟨y1, y2, y3, y4, o2, pA', pB', rfl, hJ, hD, mp⟩
      rcases lay8_step hk hu hm (d := i + 2) (by omega) (by omega) (hJ _ (by omega) (Nat.le_refl _)) mp y1 y2 y3 y4 o2 with ⟨g, e⟩ | ⟨g, J', z1, z2, z3, z4, o3, pA2, pB2, e, mp2⟩
      · exact Or.inl ⟨_, e, i + 2, y1, y2, y3, y4, o2, pA', pB', rfl, ⟨by omega, g, hD⟩, by omega, hJ, mp⟩
      · refine Or.inr ⟨_, e, z1, z2, z3, z4, o3, pA2, pB2, rfl, fun d h1 h2 => ?_, fun d h1 h2 => ?_, mp2⟩
        · by_cases q : d = i + 2 + 1
          · rw [q]; exact J'
          · exact hJ d h1 (by omega)
        · by_cases q : d = i + 2
          · rw [q]; exact g
          · exact hD d h1 (by omega)
    · rintro S ⟨y1, y2, y3, y4, o2, pA', pB', rfl, hJ, hD, mp⟩
      have J := hJ (44998 + 2) (by omega) (by omega)
      have b := (GD2_b J.1).2.1
      unfold SB at b
      rcases lay8_step hk hu hm (d := 44998 + 2) (by omega) (by omega) J mp y1 y2 y3 y4 o2 with ⟨g, e⟩ | ⟨g, J', z1, z2, z3, z4, o3, pA2, pB2, e, mp2⟩
      · exact ⟨_, e, 44998 + 2, y1, y2, y3, y4, o2, pA', pB', rfl, ⟨by omega, g, hD⟩, by omega, hJ, mp⟩
      · exfalso
        omega
    · have : d = 2 := by omega
      rw [this]
      exact JJ_2 hb hx1
    · exact absurd hj (Nat.not_lt_zero j)
  obtain ⟨r, e, D, y1, y2, y3, y4, o2, pA', pB', rfl, h1, h2, h3, h4⟩ := key
  exact ⟨D, y1, y2, y3, y4, o2, pA', pB', e, h1, h2, h3, h4⟩
