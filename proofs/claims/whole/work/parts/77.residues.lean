/-! as many residues as the size -/
theorem nat_least {P : Nat → Prop} : ∀ m : Nat, P m → ∃ q, P q ∧ ∀ r, r < q → ¬ P r := by
  have key : ∀ k m : Nat, m < k → P m → ∃ q, P q ∧ ∀ r, r < q → ¬ P r := by
    intro k
    induction k with
    | zero => intro m h; omega
    | succ k ih =>
      intro m hm hp
      rcases Classical.em (∃ r, r < m ∧ P r) with ⟨r, h1, h2⟩ | no
      · exact ih r (by omega) h2
      · exact ⟨m, hp, fun r h1 h2 => no ⟨r, h1, h2⟩⟩
  exact fun m => key (m + 1) m (by omega)
theorem nat_bez : ∀ a b : Nat, ∃ u v : Int, ((Nat.gcd a b : Nat) : Int) = u * (a : Int) + v * (b : Int) := by
  intro a b
  induction a, b using Nat.gcd.induction with
  | H0 b => exact ⟨0, 1, by rw [Nat.gcd_zero_left]; omega⟩
  | H1 a b h ih =>
    obtain ⟨u, v, e⟩ := ih
    refine ⟨v - u * ((b / a : Nat) : Int), u, ?_⟩
    rw [Nat.gcd_rec, e]
    have d : (b : Int) = (a : Int) * ((b / a : Nat) : Int) + ((b % a : Nat) : Int) := by
      have := Nat.div_add_mod b a
      rw [← Int.natCast_mul, ← Int.natCast_add, this]
    generalize ((b / a : Nat) : Int) = q at *
    generalize ((b % a : Nat) : Int) = r at *
    rw [d]
    grind
/-- the least whole number that z is a part of -/
def lwn (t n : Int) (z : G2) (p : Nat) : Prop := PN (p : Int) ∧ ∀ q : Int, DV t n z (q, 0) ↔ (p : Int) ∣ q
theorem mu_d (t n a b : Int) : mu t n (a, 0) (b, 0) = (a * b, 0) := by
  refine Prod.ext ?_ ?_ <;> (unfold mu mA mB; dsimp only; grind)
theorem lwn_ex {t n : Int} (h : TN t n) {z : G2} (hz : PRI t n z) : ∃ p, lwn t n z p := by
  have z2 := hz.1
  have w : DV t n z (zs t n z, 0) := ⟨cj t z, by rw [mu_comm, mu_cj]⟩
  obtain ⟨p, ⟨p1, p2⟩, p3⟩ := nat_least (P := fun q => 1 ≤ q ∧ DV t n z ((q : Int), 0)) (zs t n z).toNat ⟨by omega, by rw [show (((zs t n z).toNat : Nat) : Int) = zs t n z by omega]; exact w⟩
  have pp : ∀ q : Int, DV t n z (q, 0) ↔ (p : Int) ∣ q := by
    intro q
    constructor
    · intro hd
      have e : sb (q, 0) (mu t n (q / (p : Int), 0) ((p : Int), 0)) = (q % (p : Int), 0) := by
        rw [mu_d]
        have := Int.mul_ediv_add_emod q (p : Int)
        unfold sb
        refine Prod.ext ?_ ?_
        · dsimp only
          rw [Int.mul_comm]
          omega
        · rfl
      have d := DV_sb hd (DV_mu p2 (q / (p : Int), 0))
      rw [e] at d
      have nn := Int.emod_nonneg q (show (p : Int) ≠ 0 by omega)
      have lt := Int.emod_lt_of_pos q (show (0 : Int) < (p : Int) by omega)
      by_cases g : q % (p : Int) = 0
      · exact Int.dvd_of_emod_eq_zero g
      · refine absurd ⟨by omega, ?_⟩ (p3 (q % (p : Int)).toNat (by omega))
        rw [show (((q % (p : Int)).toNat : Nat) : Int) = q % (p : Int) by omega]
        exact d
    · rintro ⟨c, rfl⟩
      have := DV_mu p2 (c, 0)
      rw [mu_d, Int.mul_comm] at this
      exact this
  refine ⟨p, ⟨?_, fun e h1 h2 h3 => ?_⟩, pp⟩
  · by_cases g : p = 1
    · rw [g] at p2
      exact absurd p2 (pri_1 hz)
    · omega
  · obtain ⟨c, hc⟩ := h3
    have d : DV t n z (mu t n (e, 0) (c, 0)) := by
      rw [mu_d, ← hc]
      exact p2
    have c1 : 1 ≤ c := by
      rcases Int.lt_or_le 0 c with g | g
      · omega
      · have := Int.mul_nonpos_of_nonneg_of_nonpos (show 0 ≤ e by omega) g
        omega
    have c2 : c < (p : Int) := by
      have := Int.mul_le_mul_of_nonneg_right h1 (show 0 ≤ c by omega)
      omega
    rcases pri_dv h hz d with q | q
    · have := Int.le_of_dvd (by omega) ((pp e).mp q)
      omega
    · have := Int.le_of_dvd (by omega) ((pp c).mp q)
      omega
theorem lwn_zs {t n : Int} (h : TN t n) {z : G2} (hz : PRI t n z) {p : Nat} (w : lwn t n z p) : zs t n z = (p : Int) ∨ zs t n z = (p : Int) * (p : Int) := by
  have d := DV_zs ((w.2 (p : Int)).mpr (Int.dvd_refl _))
  rw [zs_d] at d
  rcases pn_sq w.1 d (zs_nn h z) with q | q | q
  · have := hz.1; omega
  · exact Or.inl q
  · exact Or.inr q
theorem DV_int {t n d : Int} {x : G2} : DV t n (d, 0) x ↔ d ∣ x.1 ∧ d ∣ x.2 := by
  constructor
  · rintro ⟨y, rfl⟩
    refine ⟨⟨y.1, ?_⟩, ⟨y.2, ?_⟩⟩ <;> (unfold mu mA mB; dsimp only; grind)
  · rintro ⟨⟨a, ha⟩, b, hb⟩
    refine ⟨(a, b), Prod.ext ?_ ?_⟩ <;> (unfold mu mA mB; dsimp only; grind)
theorem mod_eq {a b : Int} {p : Nat} (ha : 0 ≤ a ∧ a < (p : Int)) (hb : 0 ≤ b ∧ b < (p : Int)) (hd : (p : Int) ∣ a - b) : a = b := by
  obtain ⟨c, hc⟩ := hd
  rcases Int.lt_trichotomy c 0 with g | g | g
  · have := Int.mul_le_mul_of_nonneg_left (show c ≤ -1 by omega) (show (0 : Int) ≤ (p : Int) by omega)
    omega
  · rw [g, Int.mul_zero] at hc
    omega
  · have := Int.mul_le_mul_of_nonneg_left (show 1 ≤ c by omega) (show (0 : Int) ≤ (p : Int) by omega)
    omega
theorem rsy_sq {t n : Int} (h : TN t n) {z : G2} {p : Nat} (w : lwn t n z p) (e : zs t n z = (p : Int) * (p : Int)) : ∃ g, rsy t n z (p * p) g := by
  have p2 := w.1.1
  have d0 : DV t n z ((p : Int), 0) := (w.2 (p : Int)).mpr (Int.dvd_refl _)
  have pos : 0 < (p : Int) * (p : Int) := Int.mul_pos (by omega) (by omega)
  have d1 : DV t n ((p : Int), 0) z := DV_back h d0 (by rw [e, zs_d]) (by rw [zs_d]; omega)
  have cg : ∀ x y : G2, cgr t n z x y ↔ (p : Int) ∣ x.1 - y.1 ∧ (p : Int) ∣ x.2 - y.2 := fun x y => by
    have : cgr t n z x y ↔ DV t n ((p : Int), 0) (sb x y) := ⟨fun q => DV_tr d1 q, fun q => DV_tr d0 q⟩
    rw [this, DV_int]
    exact Iff.rfl
  refine ⟨fun i => (((i % p : Nat) : Int), ((i / p : Nat) : Int)), ?_, ?_, ?_, ?_⟩
  · intro x
    have n1 := Int.emod_nonneg x.1 (show (p : Int) ≠ 0 by omega)
    have l1 := Int.emod_lt_of_pos x.1 (show (0 : Int) < (p : Int) by omega)
    have n2 := Int.emod_nonneg x.2 (show (p : Int) ≠ 0 by omega)
    have l2 := Int.emod_lt_of_pos x.2 (show (0 : Int) < (p : Int) by omega)
    have k1 : (x.1 % (p : Int)).toNat < p := by omega
    have k2 : (x.2 % (p : Int)).toNat < p := by omega
    refine ⟨(x.1 % (p : Int)).toNat + p * (x.2 % (p : Int)).toNat, ?_, ?_⟩
    · have := Nat.mul_le_mul_left p (show (x.2 % (p : Int)).toNat ≤ p - 1 by omega)
      have e2 : p * (p - 1) + p = p * p := by
        rw [← Nat.mul_succ, show (p - 1).succ = p by omega]
      omega
    · rw [cg]
      dsimp only
      rw [Nat.add_mul_mod_self_left, Nat.mod_eq_of_lt k1, Nat.add_mul_div_left _ _ (by omega), Nat.div_eq_of_lt k1, Nat.zero_add]
      constructor
      · rw [show (((x.1 % (p : Int)).toNat : Nat) : Int) = x.1 % (p : Int) by omega]
        exact Int.dvd_self_sub_emod
      · rw [show (((x.2 % (p : Int)).toNat : Nat) : Int) = x.2 % (p : Int) by omega]
        exact Int.dvd_self_sub_emod
  · intro i j hi hj hc
    rw [cg] at hc
    dsimp only at hc
    have i1 := Nat.mod_lt i (show 0 < p by omega)
    have j1 := Nat.mod_lt j (show 0 < p by omega)
    have i2 := Nat.div_lt_of_lt_mul hi
    have j2 := Nat.div_lt_of_lt_mul hj
    have e1 := mod_eq (p := p) (by omega) (by omega) hc.1
    have i3 := Int.natCast_nonneg (i / p)
    have j3 := Int.natCast_nonneg (j / p)
    have e2 := mod_eq (p := p) (by omega) (by omega) hc.2
    rw [← Nat.div_add_mod i p, ← Nat.div_add_mod j p, show i % p = j % p by omega, show i / p = j / p by omega]
  · show (((0 % p : Nat) : Int), ((0 / p : Nat) : Int)) = (0, 0)
    rw [Nat.zero_mod, Nat.zero_div]
    rfl
  · have := Nat.mul_pos (show 0 < p by omega) (show 0 < p by omega)
    omega
theorem rsy_p {t n : Int} {z : G2} {p : Nat} (w : lwn t n z p) (e : zs t n z = (p : Int)) : ∃ g, rsy t n z p g := by
  have p2 := w.1.1
  have nf : ¬ (p : Int) ∣ z.2 := by
    rintro ⟨c, hc⟩
    have e1 : zs t n z = z.1 * z.1 + (p : Int) * (t * z.1 * c + n * c * z.2) := by
      unfold zs sz
      rw [hc]
      grind
    have d : (p : Int) ∣ z.1 * z.1 := ⟨1 - (t * z.1 * c + n * c * z.2), by rw [e] at e1; grind⟩
    have d1 : (p : Int) ∣ z.1 := by
      have a : ((Int.gcd (p : Int) z.1 : Nat) : Int) ∣ (p : Int) := Int.gcd_dvd_left ..
      have b : ((Int.gcd (p : Int) z.1 : Nat) : Int) ∣ z.1 := Int.gcd_dvd_right ..
      rcases pn_dv w.1 a (by omega) with q | q
      · have c : Nat.Coprime (p : Int).natAbs z.1.natAbs := by
          have : Int.gcd (p : Int) z.1 = 1 := by omega
          exact this
        have e2 := Int.natAbs_dvd_natAbs.mpr d
        rw [Int.natAbs_mul] at e2
        exact Int.natAbs_dvd_natAbs.mp (c.dvd_of_dvd_mul_left e2)
      · rw [q] at b
        exact b
    obtain ⟨b, hb⟩ := d1
    have e3 : (p : Int) * ((p : Int) * (b * b + t * b * c + n * c * c)) = (p : Int) * 1 := by
      rw [Int.mul_one]
      conv => rhs; rw [← e]
      unfold zs sz
      rw [hb, hc]
      grind
    have e4 := Int.eq_of_mul_eq_mul_left (by omega) e3
    have e5 : (p : Int) ∣ 1 := ⟨_, e4.symm⟩
    have := Int.le_of_dvd (by omega) e5
    omega
  obtain ⟨u, v, uv⟩ : ∃ u v : Int, u * z.2 + v * (p : Int) = 1 := by
    obtain ⟨u, v, e1⟩ := nat_bez z.2.natAbs p
    have g1 : Nat.gcd z.2.natAbs p = 1 := by
      have a : ((Nat.gcd z.2.natAbs p : Nat) : Int) ∣ (p : Int) := Int.natCast_dvd_natCast.mpr (Nat.gcd_dvd_right _ _)
      rcases pn_dv w.1 a (by omega) with q | q
      · omega
      · exfalso
        have b : Nat.gcd z.2.natAbs p ∣ z.2.natAbs := Nat.gcd_dvd_left _ _
        rw [show Nat.gcd z.2.natAbs p = p by omega] at b
        exact nf (Int.ofNat_dvd_left.mpr b)
    rw [g1] at e1
    rcases Int.natAbs_eq z.2 with q | q
    · exact ⟨u, v, by rw [q]; exact e1.symm⟩
    · exact ⟨-u, v, by rw [q, Int.neg_mul_neg]; exact e1.symm⟩
  have d0 : DV t n z ((p : Int), 0) := (w.2 (p : Int)).mpr (Int.dvd_refl _)
  have dw : DV t n z (u * z.1, 1) := by
    have a := DV_ad (DV_mu (DV_rf t n z) (u, 0)) (DV_mu d0 (0, v))
    have e1 : ad (mu t n (u, 0) z) (mu t n (0, v) ((p : Int), 0)) = (u * z.1, 1) := by
      refine Prod.ext ?_ ?_
      · unfold ad mu mA; dsimp only; grind
      · unfold ad mu mB; dsimp only; grind
    rw [e1] at a
    exact a
  refine ⟨fun i => ((i : Int), 0), ?_, ?_, rfl, by omega⟩
  · intro x
    have n1 := Int.emod_nonneg (x.1 - x.2 * (u * z.1)) (show (p : Int) ≠ 0 by omega)
    have l1 := Int.emod_lt_of_pos (x.1 - x.2 * (u * z.1)) (show (0 : Int) < (p : Int) by omega)
    have dd : (p : Int) ∣ (x.1 - x.2 * (u * z.1)) - (x.1 - x.2 * (u * z.1)) % (p : Int) := Int.dvd_self_sub_emod
    have a := DV_ad (DV_mu dw (x.2, 0)) ((w.2 _).mpr dd)
    refine ⟨((x.1 - x.2 * (u * z.1)) % (p : Int)).toNat, by omega, ?_⟩
    dsimp only
    rw [show ((((x.1 - x.2 * (u * z.1)) % (p : Int)).toNat : Nat) : Int) = (x.1 - x.2 * (u * z.1)) % (p : Int) by omega]
    unfold cgr
    generalize (x.1 - x.2 * (u * z.1)) % (p : Int) = r at *
    have e1 : ad (mu t n (x.2, 0) (u * z.1, 1)) (x.1 - x.2 * (u * z.1) - r, 0) = sb x (r, 0) := by
      refine Prod.ext ?_ ?_
      · unfold ad sb mu mA; dsimp only; grind
      · unfold ad sb mu mB; dsimp only; grind
    rw [e1] at a
    exact a
  · intro i j hi hj hc
    have e1 : sb ((i : Int), 0) ((j : Int), 0) = ((i : Int) - (j : Int), 0) := by
      unfold sb
      exact Prod.ext rfl rfl
    unfold cgr at hc
    rw [e1] at hc
    have := mod_eq (p := p) (a := (i : Int)) (b := (j : Int)) (by omega) (by omega) ((w.2 _).mp hc)
    omega
theorem little {t n : Int} (h : TN t n) {z : G2} (hz : PRI t n z) {y : G2} (hy : ¬ DV t n z y) : cgr t n z (pwr t n y ((zs t n z).toNat - 1)) (1, 0) := by
  obtain ⟨p, w⟩ := lwn_ex h hz
  rcases lwn_zs h hz w with e | e
  · obtain ⟨g, r⟩ := rsy_p w e
    rw [show (zs t n z).toNat = p by omega]
    exact fermat h hz r hy
  · obtain ⟨g, r⟩ := rsy_sq h w e
    have e2 : (zs t n z).toNat = p * p := by
      rw [e, ← Int.natCast_mul]
      rfl
    rw [e2]
    exact fermat h hz r hy
