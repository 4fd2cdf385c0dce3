theorem JJ_take {k : Nat} (hk : k < 5) {us : List (Int × Int)} (hu : UN k us) {mm : Int32} {uA uB : Nat → Int64} (hm : MU us mm uA uB) {x : G2} {d : Nat} (h2 : 2 ≤ d) (J : JJ k x d) (hle : (d : Int) * (d : Int) ≤ zs (kT k) (kN k) (RS k x d).1) (hd : (d : Int) ∣ zs (kT k) (kN k) (RS k x d).1) : LY (kT k) (kN k) (d : Int) (LYf (kT k) (kN k) (d : Int)) ∧ ABV k (d : Int) (LYf (kT k) (kN k) (d : Int)) ∧ RS k x (d + 1) = TKs k (d : Int) (LYf (kT k) (kN k) (d : Int)) 40 (RS k x d) ∧ JJ k x (d + 1) := by
  have h := TN_k hk
  have b := (GD2_b J.1).2.1
  unfold SB at b
  have sq := Int.mul_le_mul (show (1 : Int) ≤ (d : Int) by omega) (Int.le_refl (d : Int)) (by omega) (by omega)
  have pn : PN (d : Int) := ⟨by omega, fun e h1 h3 h4 => J.2 e h1 h3 (Int.dvd_trans h4 hd)⟩
  obtain ⟨y, hy, -⟩ := prim7 h (d := (d : Int)) (by omega)
  have ey := LYf_eq hy
  rw [ey]
  have A := ABV_of hk pn (by omega) hy (Or.inr (by omega))
  have e : RS k x (d + 1) = TKs k (d : Int) y 40 (RS k x d) := by
    show (if 2 ≤ d then TKs k (d : Int) (LYf (kT k) (kN k) (d : Int)) 40 (RS k x d) else RS k x d) = _
    rw [if_pos h2, ey]
  obtain ⟨-, -, -, -, -, -, -, -, g1, -, g2, g3⟩ := takeOver8 hk hu hm hy A J.1 (pA := fun j => lo ((RS k x d).2.2 j).1) (pB := fun j => lo ((RS k x d).2.2 j).2) (fun j _ => ⟨rfl, rfl⟩) 0 0 0 0 0
  refine ⟨hy, A, e, ?_⟩
  unfold JJ
  rw [e]
  refine ⟨g1, fun e' h1 h3 => ?_⟩
  by_cases q : e' = (d : Int)
  · rw [q]; exact g2
  · exact fun z => J.2 e' h1 (by omega) (Int.dvd_trans z (DV_zs g3))
