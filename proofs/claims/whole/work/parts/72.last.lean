/-! the last prime -/
theorem PN_end {k : Nat} {x : G2} {D : Nat} (J : JJ k x D) (hlt : zs (kT k) (kN k) (RS k x D).1 < (D : Int) * (D : Int)) (h2 : 2 ≤ zs (kT k) (kN k) (RS k x D).1) : PN (zs (kT k) (kN k) (RS k x D).1) := by
  refine ⟨h2, fun e h1 h3 h4 => ?_⟩
  obtain ⟨c, hc⟩ := h4
  rcases Int.lt_or_le e (D : Int) with q | q
  · exact J.2 e h1 q ⟨c, hc⟩
  · have c2 : 2 ≤ c := by
      rcases Int.lt_or_le c 2 with g | g
      · have := Int.mul_le_mul_of_nonneg_left (show c ≤ 1 by omega) (show 0 ≤ e by omega)
        omega
      · exact g
    have cD : c < (D : Int) := by
      rcases Int.lt_or_le c (D : Int) with g | g
      · exact g
      · have := Int.mul_le_mul q g (by omega) (by omega)
        omega
    exact J.2 c c2 cD ⟨e, by rw [hc, Int.mul_comm]⟩
theorem last_tk {k : Nat} (hk : k < 5) {S : ST} {y : G2} (hs : SHR k y (shp k y)) (hp : 2 ≤ zs (kT k) (kN k) S.1) (e : zs (kT k) (kN k) y = zs (kT k) (kN k) S.1) (hd : DV (kT k) (kN k) y S.1) : shp k S.1 = shp k y ∧ zs (kT k) (kN k) (tk k (shp k y) S).1 = 1 := by
  have one : ∀ a b : Int, b = a * b → 2 ≤ b → a = 1 := fun a b h1 h2 => by
    have : (a - 1) * b = 0 := by grind
    rcases Int.mul_eq_zero.mp this with q | q <;> omega
  constructor
  · obtain ⟨w, hw⟩ := hd
    have hz := zs_mu (kT k) (kN k) w y
    rw [← hw, e] at hz
    rw [hw]
    exact shp_as hk hs (one _ _ hz hp)
  · have ez := shp_zs hk hs
    have hS : 0 < zs (kT k) (kN k) (shp k y) := by omega
    have b := qo_back hS ((shp_DV hk hs S.1).mpr hd)
    have hz := zs_mu (kT k) (kN k) (qo (kT k) (kN k) S.1 (shp k y)) (shp k y)
    rw [← b, ez, e] at hz
    exact one _ _ hz hp
theorem end_state {k : Nat} (hk : k < 5) {us : List (Int × Int)} (hu : UN k us) {mm : Int32} {uA uB : Nat → Int64} (hm : MU us mm uA uB) {x : G2} {S : ST} (G : GD2 k x S) (pn : PN (zs (kT k) (kN k) S.1)) : ∃ y, LY (kT k) (kN k) (zs (kT k) (kN k) S.1) y ∧ ABV k (zs (kT k) (kN k) S.1) y ∧ TKs k (zs (kT k) (kN k) S.1) y 40 S = tk k (shp k S.1) S ∧ zs (kT k) (kN k) (tk k (shp k S.1) S).1 = 1 := by
  have h := TN_k hk
  have b := (GD2_b G).2.1
  unfold SB at b
  have p2 := pn.1
  obtain ⟨y, hy, -⟩ := prim7 h (d := zs (kT k) (kN k) S.1) (by omega)
  have e : zs (kT k) (kN k) y = zs (kT k) (kN k) S.1 := by
    rcases LY_cases hy with e | ⟨-, no⟩
    · exact e
    · exact absurd rfl (no S.1)
  have A := ABV_of hk pn b hy (Or.inl e)
  have no1 : ¬ zs (kT k) (kN k) S.1 ∣ 1 := fun q => by
    have := Int.le_of_dvd (by omega) q
    omega
  have ub' : ∀ y' : G2, zs (kT k) (kN k) y' = zs (kT k) (kN k) S.1 → SHR k y' (shp k y') := fun y' e' => by
    obtain ⟨y1, y2⟩ := yb_zs h (x := y') (by omega)
    exact (shp_both hk hu hm y1.u y2.u 0 0 0).1
  refine ⟨y, hy, A, ?_⟩
  by_cases g : DV (kT k) (kN k) y S.1
  · obtain ⟨r1, r2⟩ := last_tk hk (ub' y e) p2 e g
    rw [TKs_y (Int.dvd_refl _) g 39, r1]
    refine ⟨TKs_no ?_ 39, r2⟩
    rw [r2]
    exact no1
  · have g2 := (A.2.2.2.2 S.1 (Int.dvd_refl _)).resolve_left g
    have e2 : zs (kT k) (kN k) (cj (kT k) y) = zs (kT k) (kN k) S.1 := by rw [zs_cj]; exact e
    obtain ⟨r1, r2⟩ := last_tk hk (ub' _ e2) p2 e2 g2
    rw [TKs_c (Int.dvd_refl _) g 39, r1]
    refine ⟨TKs_no ?_ 39, r2⟩
    rw [r2]
    exact no1
/-- both sides to the end -/
theorem fac_both {k : Nat} (hk : k < 5) {us : List (Int × Int)} (hu : UN k us) {mm : Int32} {uA uB : Nat → Int64} (hm : MU us mm uA uB) {x : G2} (hb : SB (kT k) (kN k) x) (h1 : 1 ≤ zs (kT k) (kN k) x) (c0 : Int32) (l0 : Int64) (pri : Nat → Int64) (x1 x2 x3 x4 : Int64) (o1 o2 : Int32) (x5 x6 : Int64) (pA pB : Nat → Int64) : ∃ (S : ST) (pri' : Nat → Int64) (y1 y2 y3 y4 : Int64) (o3 : Int32) (pA' pB' : Nat → Int64), GD2 k x S ∧ zs (kT k) (kN k) S.1 = 1 ∧ f_X0_find (io (kT k)) (io (kN k)) (io (kU k)) (pk (kSa k) (kSb k)) c0 l0 pri (pk x.1 x.2) = some (io (S.2.1 : Int), pk S.1.1 S.1.2, pri') ∧ CP S.2.1 (SO (kT k) (kN k) S.2.2 S.2.1) pri' ∧ f_X8_layParts (lo (kT k)) (lo (kN k)) x1 x2 mm x3 x4 o1 o2 x5 x6 uA uB pA pB (lo x.1) (lo x.2) = some (y1, y2, y3, y4, o3, io (S.2.1 : Int), lo S.1.1, lo S.1.2, pA', pB') ∧ MP S.2.1 (SO (kT k) (kN k) S.2.2 S.2.1) pA' pB' := by
  have h := TN_k hk
  obtain ⟨D, y1, y2, y3, y4, o3, pA1, pB1, F8, hD, hD2, hJ, mp⟩ := lay8_loop hk hu hm hb h1 x1 x2 x3 x4 o1 pA pB
  have J := hJ D hD.1 (Nat.le_refl D)
  obtain ⟨pri1, F7, cp⟩ := find7_loop hk hu hm hD hD2 D 2 pri (by omega) (Nat.le_refl 2) (Or.inl rfl) (JJ_2 hb h1) (Or.inl hD.1) (fun j hj => absurd hj (Nat.not_lt_zero j))
  have sx : f_X4_sizeOf (io (kT k)) (io (kN k)) (pk x.1 x.2) = lo (zs (kT k) (kN k) x) := size7 hk hb
  have F7' : whl (f_X0_find_L24 (io (kT k)) (io (kN k)) (io (kU k)) (pk (kSa k) (kSb k))) (f_X4_sizeOf (io (kT k)) (io (kN k)) (pk x.1 x.2), (2 : Int64), (0 : Int32), pk x.1 x.2, pri) = some (lo (zs (kT k) (kN k) (RS k x D).1), io ((RS k x D).2.1 : Int), pk (RS k x D).1.1 (RS k x D).1.2, pri1) := by
    rw [sx]; exact F7
  have b := (GD2_b J.1).2.1
  have g0 := J.1.2.1
  have m31 := (GD2_b J.1).1
  have eS : f_X8_sizeOf (lo (kT k)) (lo (kN k)) (lo (RS k x D).1.1) (lo (RS k x D).1.2) = lo (zs (kT k) (kN k) (RS k x D).1) := sizeOf_m _ _ _ _
  unfold SB at b
  have c1 : lo (zs (kT k) (kN k) (RS k x D).1) ≤ (1 : Int64) ↔ zs (kT k) (kN k) (RS k x D).1 ≤ 1 := lo_le (b := 1) (by unfold i64; omega) (by unfold i64; omega)
  by_cases g : zs (kT k) (kN k) (RS k x D).1 ≤ 1
  · obtain ⟨pA2, pB2, F9, mp2⟩ := sort8 h (m := (RS k x D).2.1) (by omega) (GD2_b J.1).2.2 mp
    refine ⟨RS k x D, pri1, y1, y2, y3, y4, o3, pA2, pB2, J.1, by omega, ?_, cp, ?_, mp2⟩
    · unfold f_X0_find
      rw [F7']
      simp only [Option.bind_some]
      unfold f_X0_find_K24_165
      rw [if_pos (c1.mpr g)]
    · unfold f_X8_layParts
      rw [F8]
      simp only [Option.bind_some]
      unfold f_X8_layParts_K20_76
      rw [eS, if_pos (c1.mpr g), F9]
      rfl
  · have pn := PN_end J hD.2.1 (by omega)
    obtain ⟨y, hy, A, e1, e2⟩ := end_state hk hu hm J.1 pn
    obtain ⟨pri2, T7, cp2, G2', -⟩ := take7 hk hu hm J.1 (y := (RS k x D).1) (GD2_b J.1).2.1 (pri_norm h pn rfl) (DV_rf _ _ _) cp
    obtain ⟨z1, z2, z3, z4, o4, pA2, pB2, T8, -, mp2, -, -⟩ := takeOver8 hk hu hm hy A J.1 mp y1 y2 y3 y4 o3
    rw [e1] at T8 mp2
    obtain ⟨pA3, pB3, F9, mp3⟩ := sort8 h (m := (tk k (shp k (RS k x D).1) (RS k x D)).2.1) (by have := (GD2_b G2').1; omega) (GD2_b G2').2.2 mp2
    refine ⟨tk k (shp k (RS k x D).1) (RS k x D), pri2, z1, z2, z3, z4, o4, pA3, pB3, G2', e2, ?_, cp2, ?_, mp3⟩
    · unfold f_X0_find
      rw [F7']
      simp only [Option.bind_some]
      unfold f_X0_find_K24_165
      rw [if_neg (fun q => g (c1.mp q)), T7]
      rfl
    · unfold f_X8_layParts
      rw [F8]
      simp only [Option.bind_some]
      unfold f_X8_layParts_K20_76
      rw [eS, if_neg (fun q => g (c1.mp q)), T8]
      simp only [Option.bind_some]
      rw [F9]
      rfl
