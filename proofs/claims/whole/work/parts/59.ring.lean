/-! numbers as pairs: products, parts, common parts, primes -/
abbrev G2 := Int × Int
def mu (t n : Int) (x y : G2) : G2 := (mA n x.1 x.2 y.1 y.2, mB t x.1 x.2 y.1 y.2)
def zs (t n : Int) (x : G2) : Int := sz t n x.1 x.2
def cj (t : Int) (x : G2) : G2 := (x.1 + t * x.2, -x.2)
def ad (x y : G2) : G2 := (x.1 + y.1, x.2 + y.2)
def sb (x y : G2) : G2 := (x.1 - y.1, x.2 - y.2)
def DV (t n : Int) (y x : G2) : Prop := ∃ z, x = mu t n z y
theorem mu_comm (t n : Int) (x y : G2) : mu t n x y = mu t n y x := by
  refine Prod.ext ?_ ?_ <;> (unfold mu mA mB; dsimp only; grind)
theorem mu_assoc (t n : Int) (x y z : G2) : mu t n (mu t n x y) z = mu t n x (mu t n y z) := by
  refine Prod.ext ?_ ?_ <;> (unfold mu mA mB; dsimp only; grind)
theorem mu_1 (t n : Int) (x : G2) : mu t n (1, 0) x = x := by
  refine Prod.ext ?_ ?_ <;> (unfold mu mA mB; dsimp only; grind)
theorem mu_0 (t n : Int) (x : G2) : mu t n (0, 0) x = (0, 0) := by
  refine Prod.ext ?_ ?_ <;> (unfold mu mA mB; dsimp only; grind)
theorem mu_ad (t n : Int) (x y z : G2) : mu t n (ad x y) z = ad (mu t n x z) (mu t n y z) := by
  refine Prod.ext ?_ ?_ <;> (unfold mu ad mA mB; dsimp only; grind)
theorem mu_sb (t n : Int) (x y z : G2) : mu t n (sb x y) z = sb (mu t n x z) (mu t n y z) := by
  refine Prod.ext ?_ ?_ <;> (unfold mu sb mA mB; dsimp only; grind)
theorem mu_cj (t n : Int) (x : G2) : mu t n x (cj t x) = (zs t n x, 0) := by
  refine Prod.ext ?_ ?_ <;> (unfold mu cj zs sz mA mB; dsimp only; grind)
theorem cj_mu (t n : Int) (x y : G2) : cj t (mu t n x y) = mu t n (cj t x) (cj t y) := by
  refine Prod.ext ?_ ?_ <;> (unfold mu cj mA mB; dsimp only; grind)
theorem cj_cj (t : Int) (x : G2) : cj t (cj t x) = x := by
  refine Prod.ext ?_ ?_ <;> (unfold cj; dsimp only; grind)
theorem zs_cj (t n : Int) (x : G2) : zs t n (cj t x) = zs t n x := by unfold zs cj sz; dsimp only; grind
theorem zs_mu (t n : Int) (x y : G2) : zs t n (mu t n x y) = zs t n x * zs t n y := sz_mulm t n x.1 x.2 y.1 y.2
theorem zs_nn {t n : Int} (h : TN t n) (x : G2) : 0 ≤ zs t n x := sz_nn h x.1 x.2
theorem zs_0 {t n : Int} (h : TN t n) {x : G2} (e : zs t n x = 0) : x = (0, 0) := by
  have := sz_0 h e
  exact Prod.ext this.1 this.2
theorem zs_00 (t n : Int) : zs t n (0, 0) = 0 := by unfold zs sz; dsimp only; grind
theorem DV_rf (t n : Int) (x : G2) : DV t n x x := ⟨(1, 0), (mu_1 t n x).symm⟩
theorem DV_tr {t n : Int} {x y z : G2} (h : DV t n x y) (g : DV t n y z) : DV t n x z := by
  obtain ⟨p, rfl⟩ := h
  obtain ⟨q, rfl⟩ := g
  exact ⟨mu t n q p, (mu_assoc t n q p x).symm⟩
theorem DV_mu {t n : Int} {y x : G2} (h : DV t n y x) (z : G2) : DV t n y (mu t n z x) := by
  obtain ⟨p, rfl⟩ := h
  exact ⟨mu t n z p, (mu_assoc t n z p y).symm⟩
theorem DV_mu' {t n : Int} {y x : G2} (h : DV t n y x) (z : G2) : DV t n y (mu t n x z) := by
  rw [mu_comm]; exact DV_mu h z
theorem DV_ad {t n : Int} {y a b : G2} (h : DV t n y a) (g : DV t n y b) : DV t n y (ad a b) := by
  obtain ⟨p, rfl⟩ := h
  obtain ⟨q, rfl⟩ := g
  exact ⟨ad p q, (mu_ad t n p q y).symm⟩
theorem DV_sb {t n : Int} {y a b : G2} (h : DV t n y a) (g : DV t n y b) : DV t n y (sb a b) := by
  obtain ⟨p, rfl⟩ := h
  obtain ⟨q, rfl⟩ := g
  exact ⟨sb p q, (mu_sb t n p q y).symm⟩
theorem DV_0 (t n : Int) (y : G2) : DV t n y (0, 0) := ⟨(0, 0), (mu_0 t n y).symm⟩
theorem DV_cj {t n : Int} {y x : G2} (h : DV t n y x) : DV t n (cj t y) (cj t x) := by
  obtain ⟨p, rfl⟩ := h
  exact ⟨cj t p, cj_mu t n p y⟩
theorem DV_zs {t n : Int} {y x : G2} (h : DV t n y x) : zs t n y ∣ zs t n x := by
  obtain ⟨p, rfl⟩ := h
  rw [zs_mu]
  exact Int.dvd_mul_left _ _
theorem mu_can {t n : Int} {x y z : G2} (h : TN t n) (hz : ¬ zs t n z = 0) (e : mu t n x z = mu t n y z) : x = y := by
  have e1 : mu t n (sb x y) z = (0, 0) := by
    rw [mu_sb, e]
    unfold sb
    exact Prod.ext (Int.sub_self _) (Int.sub_self _)
  have e2 := zs_mu t n (sb x y) z
  rw [e1, zs_00] at e2
  rcases Int.mul_eq_zero.mp e2.symm with g | g
  · have := zs_0 h g
    unfold sb at this
    rw [Prod.mk.injEq] at this
    exact Prod.ext (by omega) (by omega)
  · exact absurd g hz
theorem unit_mu {t n : Int} {u : G2} (hu : zs t n u = 1) : mu t n (cj t u) u = (1, 0) := by
  rw [mu_comm, mu_cj, hu]
theorem DV_unit {t n : Int} {u : G2} (hu : zs t n u = 1) (x : G2) : DV t n u x := by
  refine ⟨mu t n x (cj t u), ?_⟩
  rw [mu_assoc, unit_mu hu, mu_comm, mu_1]
theorem DV_back {t n : Int} (h : TN t n) {g z : G2} (hd : DV t n g z) (e : zs t n g = zs t n z) (h0 : ¬ zs t n z = 0) : DV t n z g := by
  obtain ⟨w, rfl⟩ := hd
  rw [zs_mu] at e h0
  have hw : zs t n w = 1 := by
    have g0 : ¬ zs t n g = 0 := fun q => by rw [q, Int.mul_zero] at h0; exact h0 rfl
    have : (zs t n w - 1) * zs t n g = 0 := by grind
    rcases Int.mul_eq_zero.mp this with q | q
    · omega
    · exact absurd q g0
  refine ⟨cj t w, ?_⟩
  rw [← mu_assoc, unit_mu hw, mu_1]
theorem PT_DV {t n : Int} {x y : G2} (hS : 0 < zs t n y) : PT t n x.1 x.2 y.1 y.2 ↔ DV t n y x := by
  rw [PT_iff hS]
  constructor
  · rintro ⟨z1, z2, e1, e2⟩
    exact ⟨(z1, z2), Prod.ext e1 e2⟩
  · rintro ⟨z, e⟩
    exact ⟨z.1, z.2, congrArg Prod.fst e, congrArg Prod.snd e⟩
/-- a common part that two numbers make -/
theorem bez {t n : Int} (h : TN t n) : ∀ (f : Nat) (a b : G2), zs t n b < (f : Int) → ∃ g u v : G2, DV t n g a ∧ DV t n g b ∧ g = ad (mu t n u a) (mu t n v b) := by
  intro f
  induction f with
  | zero => intro a b hf; have := zs_nn h b; omega
  | succ f ih =>
    intro a b hf
    by_cases z : zs t n b = 0
    · have e := zs_0 h z
      refine ⟨a, (1, 0), (0, 0), DV_rf t n a, by rw [e]; exact DV_0 t n a, ?_⟩
      rw [mu_1, mu_0]
      unfold ad
      exact Prod.ext (Int.add_zero _).symm (Int.add_zero _).symm
    · have nn := zs_nn h b
      have r := rS_le h (a := a.1) (b := a.2) (c := b.1) (d := b.2) (show 0 < sz t n b.1 b.2 by unfold zs at *; omega)
      have hr : zs t n (sb a (mu t n (NQ t n a.1 a.2 b.1 b.2) b)) = rS t n a.1 a.2 b.1 b.2 := rfl
      obtain ⟨g, u, v, g1, g2, g3⟩ := ih b (sb a (mu t n (NQ t n a.1 a.2 b.1 b.2) b)) (by rw [hr]; unfold zs at *; omega)
      generalize NQ t n a.1 a.2 b.1 b.2 = q at *
      have e : a = ad (sb a (mu t n q b)) (mu t n q b) := by
        unfold ad sb
        exact Prod.ext (by dsimp only; omega) (by dsimp only; omega)
      refine ⟨g, v, sb u (mu t n v q), ?_, g1, ?_⟩
      · rw [e]
        exact DV_ad g2 (DV_mu g1 q)
      · rw [g3]
        refine Prod.ext ?_ ?_ <;> (unfold ad sb mu mA mB; dsimp only; grind)
/-- a prime: its parts are as small or as great as can be -/
def PRI (t n : Int) (z : G2) : Prop := 2 ≤ zs t n z ∧ ∀ g, DV t n g z → zs t n g = 1 ∨ zs t n g = zs t n z
theorem pri_dv {t n : Int} (h : TN t n) {z : G2} (hz : PRI t n z) {u v : G2} (hd : DV t n z (mu t n u v)) : DV t n z u ∨ DV t n z v := by
  obtain ⟨g, p, q, g1, g2, g3⟩ := bez h ((zs t n u).toNat + 1) z u (by have := zs_nn h u; omega)
  rcases hz.2 g g1 with e | e
  · right
    have e1 : DV t n z (mu t n g v) := by
      rw [g3, mu_ad]
      refine DV_ad ?_ ?_
      · rw [mu_assoc, mu_comm t n z v, ← mu_assoc]
        exact DV_mu (DV_rf t n z) _
      · rw [mu_assoc]
        exact DV_mu hd q
    have e2 := DV_mu e1 (cj t g)
    rw [← mu_assoc, unit_mu e, mu_1] at e2
    exact e2
  · left
    exact DV_tr (DV_back h g1 e (by have := hz.1; omega)) g2
theorem pri_cj {t n : Int} {z : G2} (hz : PRI t n z) : PRI t n (cj t z) := by
  refine ⟨by rw [zs_cj]; exact hz.1, fun g hg => ?_⟩
  have := DV_cj hg
  rw [cj_cj] at this
  have := hz.2 _ this
  rw [zs_cj] at this ⊢
  exact this
/-- d has no part between -/
def PN (d : Int) : Prop := 2 ≤ d ∧ ∀ e : Int, 2 ≤ e → e < d → ¬ e ∣ d
theorem pn_dv {d k : Int} (h : PN d) (hk : k ∣ d) (k0 : 0 ≤ k) : k = 1 ∨ k = d := by
  have h2 := h.1
  have le := Int.le_of_dvd (by omega) hk
  have k1 : ¬ k = 0 := fun e => by
    rw [e] at hk
    have := Int.zero_dvd.mp hk
    omega
  by_cases z : k = d
  · exact Or.inr z
  · by_cases q : k = 1
    · exact Or.inl q
    · exact absurd hk (h.2 k (by omega) (by omega))
theorem pri_norm {t n : Int} (h : TN t n) {z : G2} {d : Int} (hd : PN d) (e : zs t n z = d) : PRI t n z := by
  refine ⟨by rw [e]; exact hd.1, fun g hg => ?_⟩
  have := DV_zs hg
  rw [e] at this ⊢
  exact pn_dv hd this (zs_nn h g)
theorem zs_d (t n d : Int) : zs t n (d, 0) = d * d := by unfold zs sz; dsimp only; grind
theorem pn_sq {d k : Int} (h : PN d) (hk : k ∣ d * d) (k0 : 0 ≤ k) : k = 1 ∨ k = d ∨ k = d * d := by
  have h2 := h.1
  have e1 : ((Int.gcd k d : Nat) : Int) ∣ d := Int.gcd_dvd_right ..
  have e0 : ((Int.gcd k d : Nat) : Int) ∣ k := Int.gcd_dvd_left ..
  rcases pn_dv h e1 (by omega) with g | g
  · have : k ∣ d := by
      have c : Nat.Coprime k.natAbs d.natAbs := by
        have : Int.gcd k d = 1 := by omega
        exact this
      have e2 := Int.natAbs_dvd_natAbs.mpr hk
      rw [Int.natAbs_mul] at e2
      exact Int.natAbs_dvd_natAbs.mp (c.dvd_of_dvd_mul_left e2)
    rcases pn_dv h this k0 with q | q
    · exact Or.inl q
    · exact Or.inr (Or.inl q)
  · rw [g] at e0
    obtain ⟨k', rfl⟩ := e0
    have : k' ∣ d := Int.dvd_of_mul_dvd_mul_left (by omega) hk
    have k0' : 0 ≤ k' := by
      rcases Int.lt_or_le k' 0 with q | q
      · have := Int.mul_neg_of_pos_of_neg (show 0 < d by omega) q
        omega
      · exact q
    rcases pn_dv h this k0' with q | q
    · right; left; rw [q, Int.mul_one]
    · right; right; rw [q]
theorem pri_inert {t n : Int} (h : TN t n) {d : Int} (hd : PN d) (no : ∀ x : G2, ¬ zs t n x = d) : PRI t n (d, 0) := by
  have h2 := hd.1
  refine ⟨?_, fun g hg => ?_⟩
  · rw [zs_d]
    have := Int.mul_le_mul (show 2 ≤ d by omega) (show 1 ≤ d by omega) (by omega) (by omega)
    omega
  · have := DV_zs hg
    rw [zs_d] at this ⊢
    rcases pn_sq hd this (zs_nn h g) with q | q | q
    · exact Or.inl q
    · exact absurd q (no g)
    · exact Or.inr q
theorem above_norm {t n : Int} (h : TN t n) {y l : G2} {d : Int} (hd : PN d) (e : zs t n y = d) (hl : d ∣ zs t n l) : DV t n y l ∨ DV t n (cj t y) l := by
  obtain ⟨k, hk⟩ := hl
  have e1 : DV t n y (mu t n l (cj t l)) := by
    refine ⟨mu t n (k, 0) (cj t y), ?_⟩
    rw [mu_assoc, mu_comm t n (cj t y) y, mu_cj, mu_cj, e, hk]
    refine Prod.ext ?_ ?_ <;> (unfold mu mA mB; dsimp only; grind)
  rcases pri_dv h (pri_norm h hd e) e1 with g | g
  · exact Or.inl g
  · right
    have := DV_cj g
    rw [cj_cj] at this
    exact this
theorem cj_d (t d : Int) : cj t (d, 0) = (d, 0) := by
  unfold cj
  exact Prod.ext (by dsimp only; grind) (by dsimp only; grind)
theorem above_inert {t n : Int} (h : TN t n) {l : G2} {d : Int} (hd : PN d) (no : ∀ x : G2, ¬ zs t n x = d) (hl : d ∣ zs t n l) : DV t n (d, 0) l := by
  obtain ⟨k, hk⟩ := hl
  have e1 : DV t n (d, 0) (mu t n l (cj t l)) := by
    refine ⟨(k, 0), ?_⟩
    rw [mu_cj, hk]
    refine Prod.ext ?_ ?_ <;> (unfold mu mA mB; dsimp only; grind)
  rcases pri_dv h (pri_inert h hd no) e1 with g | g
  · exact g
  · have := DV_cj g
    rw [cj_cj, cj_d] at this
    exact this
