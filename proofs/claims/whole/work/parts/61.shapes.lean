/-! the told shape and exact quotients, on both sides -/
def SHR (k : Nat) (x z : G2) : Prop := ∃ i, i < kUn k ∧ z = mv k x.1 x.2 (uC k i) ∧ ∀ i', i' < kUn k → lex (mv k x.1 x.2 (uC k i')) z
theorem SHR_u {k : Nat} {x z z' : G2} (h : SHR k x z) (h' : SHR k x z') : z = z' := by
  obtain ⟨i, hi, e, m⟩ := h
  obtain ⟨i', hi', e', m'⟩ := h'
  have a1 := m' i hi
  have a2 := m i' hi'
  rw [← e] at a1
  rw [← e'] at a2
  exact lex_an a1 a2
noncomputable def shp (k : Nat) (x : G2) : G2 := @dite G2 (∃ z, SHR k x z) (Classical.propDecidable _) (fun h => h.choose) (fun _ => x)
theorem shp_eq {k : Nat} {x z : G2} (h : SHR k x z) : shp k x = z := by
  have h2 : ∃ z, SHR k x z := ⟨z, h⟩
  unfold shp
  rw [dif_pos h2]
  exact SHR_u h2.choose_spec h
theorem shp_both {k : Nat} (hk : k < 5) {us : List (Int × Int)} (hu : UN k us) {m : Int32} {uA uB : Nat → Int64} (hm : MU us m uA uB) {x : G2} (hx : ub x.1) (hy : ub x.2) (x1 x2 : Int64) (x3 : Int32) : SHR k x (shp k x) ∧ f_X4_shape (io (kT k)) (io (kN k)) (io (kU k)) (pk (kSa k) (kSb k)) (pk x.1 x.2) = some (pk (shp k x).1 (shp k x).2) ∧ ∃ y3, f_X8_shape (lo (kT k)) (lo (kN k)) x1 x2 m x3 uA uB (lo x.1) (lo x.2) = some (lo (shp k x).1, lo (shp k x).2, y3) := by
  obtain ⟨i, j, q, hi, hq, -, s2, s3, -, s4⟩ := sh_both hk hu hm hx hy x1 x2 x3
  have S : SHR k x (mv k x.1 x.2 (uC k i)) := ⟨i, hi, rfl, s4⟩
  rw [shp_eq S]
  exact ⟨S, s2, _, s3⟩
theorem mv_mu (k : Nat) (x u : G2) : mv k x.1 x.2 u = mu (kT k) (kN k) u x := rfl
theorem SHR_mu {k : Nat} (hk : k < 5) {x z : G2} (h : SHR k x z) : ∃ u, zs (kT k) (kN k) u = 1 ∧ z = mu (kT k) (kN k) u x := by
  obtain ⟨i, hi, e, -⟩ := h
  have hU := kUn_b k
  exact ⟨uC k i, (uC_b k hk i (by omega)).2.2, e⟩
theorem unit_fin : ∀ k < 5, ∀ i < 3, ∀ j < 3, ¬ sz (kT k) (kN k) (Int.ofNat i - 1) (Int.ofNat j - 1) = 1 ∨ ∃ l, l < kUn k ∧ (Int.ofNat i - 1, Int.ofNat j - 1) = uC k l := by decide +kernel
theorem unit_all {k : Nat} (hk : k < 5) {u : G2} (hu : zs (kT k) (kN k) u = 1) : ∃ j, j < kUn k ∧ u = uC k j := by
  obtain ⟨b1, b2⟩ := one_small (TN_k hk) hu
  have f := unit_fin k hk (u.1 + 1).toNat (by omega) (u.2 + 1).toNat (by omega)
  have e1 : Int.ofNat (u.1 + 1).toNat - 1 = u.1 := by
    show (((u.1 + 1).toNat : Nat) : Int) - 1 = u.1
    omega
  have e2 : Int.ofNat (u.2 + 1).toNat - 1 = u.2 := by
    show (((u.2 + 1).toNat : Nat) : Int) - 1 = u.2
    omega
  rw [e1, e2] at f
  rcases f with f | f
  · exact absurd hu f
  · exact f
theorem SHR_as {k : Nat} (hk : k < 5) {x z w : G2} (h : SHR k x z) (hw : zs (kT k) (kN k) w = 1) : SHR k (mu (kT k) (kN k) w x) z := by
  obtain ⟨i, hi, e, m⟩ := h
  have hU := kUn_b k
  have u1 := (uC_b k hk i (by omega)).2.2
  obtain ⟨j, hj, ej⟩ := unit_all hk (u := mu (kT k) (kN k) (uC k i) (cj (kT k) w)) (by
    rw [zs_mu, zs_cj, hw, Int.mul_one]; exact u1)
  refine ⟨j, hj, ?_, fun i' hi' => ?_⟩
  · show z = mu (kT k) (kN k) (uC k j) (mu (kT k) (kN k) w x)
    rw [← ej, mu_assoc, ← mu_assoc (kT k) (kN k) (cj (kT k) w) w x, unit_mu hw, mu_1]
    exact e
  · have u2 := (uC_b k hk i' (by omega)).2.2
    obtain ⟨j', hj', ej'⟩ := unit_all hk (u := mu (kT k) (kN k) (uC k i') w) (by
      rw [zs_mu, hw, Int.mul_one]; exact u2)
    have := m j' hj'
    rw [mv_mu, ← ej', mu_assoc] at this
    exact this
theorem shp_as {k : Nat} (hk : k < 5) {x w : G2} (h : SHR k x (shp k x)) (hw : zs (kT k) (kN k) w = 1) : shp k (mu (kT k) (kN k) w x) = shp k x := shp_eq (SHR_as hk h hw)
theorem SHR_self {k : Nat} (hk : k < 5) {x z : G2} (h : SHR k x z) : SHR k z z := by
  obtain ⟨u, hu, e⟩ := SHR_mu hk h
  have := SHR_as hk h hu
  rw [← e] at this
  exact this
theorem shp_zs {k : Nat} (hk : k < 5) {x z : G2} (h : SHR k x z) : zs (kT k) (kN k) z = zs (kT k) (kN k) x := by
  obtain ⟨u, hu, e⟩ := SHR_mu hk h
  rw [e, zs_mu, hu, Int.one_mul]
theorem shp_DV {k : Nat} (hk : k < 5) {x z : G2} (h : SHR k x z) (l : G2) : DV (kT k) (kN k) z l ↔ DV (kT k) (kN k) x l := by
  obtain ⟨u, hu, e⟩ := SHR_mu hk h
  constructor
  · intro g
    refine DV_tr ⟨u, e⟩ g
  · intro g
    refine DV_tr ⟨cj (kT k) u, ?_⟩ g
    rw [e, ← mu_assoc, unit_mu hu, mu_1]
theorem shp_pri {k : Nat} (hk : k < 5) {x z : G2} (h : SHR k x z) (hp : PRI (kT k) (kN k) x) : PRI (kT k) (kN k) z := by
  have e := shp_zs hk h
  refine ⟨by rw [e]; exact hp.1, fun g hg => ?_⟩
  obtain ⟨u, hu, e2⟩ := SHR_mu hk h
  rw [e]
  refine hp.2 g (DV_tr hg ⟨cj (kT k) u, ?_⟩)
  rw [e2, ← mu_assoc, unit_mu hu, mu_1]
/-- the exact quotient -/
def qo (t n : Int) (l z : G2) : G2 := (acA t n l.1 l.2 z.1 z.2 / zs t n z, acB l.1 l.2 z.1 z.2 / zs t n z)
theorem qo_mu {t n : Int} {q z : G2} (hS : 0 < zs t n z) : qo t n (mu t n q z) z = q := by
  have e1 : acA t n (mu t n q z).1 (mu t n q z).2 z.1 z.2 = zs t n z * q.1 := by unfold acA mu mA mB zs sz; dsimp only; grind
  have e2 : acB (mu t n q z).1 (mu t n q z).2 z.1 z.2 = zs t n z * q.2 := by unfold acB mu mA mB zs sz; dsimp only; grind
  unfold qo
  rw [e1, e2, Int.mul_ediv_cancel_left _ (by omega), Int.mul_ediv_cancel_left _ (by omega)]
theorem qo_back {t n : Int} {l z : G2} (hS : 0 < zs t n z) (hd : DV t n z l) : l = mu t n (qo t n l z) z := by
  obtain ⟨q, rfl⟩ := hd
  rw [qo_mu hS]
theorem yb_zs {t n : Int} (h : TN t n) {x : G2} (hx : zs t n x ≤ 2000000000) : yb x.1 ∧ yb x.2 := yb_of h (show sz t n x.1 x.2 ≤ 7000000000 by unfold zs at hx; omega)
theorem div7q {t n : Int} (h : TN t n) {l z : G2} (hl : zs t n l ≤ 2000000000) (hz : zs t n z ≤ 2000000000) (hS : 0 < zs t n z) (hd : DV t n z l) : f_X4_dividedBy (io t) (io n) (pk l.1 l.2) (pk z.1 z.2) = some (pk (qo t n l z).1 (qo t n l z).2) := by
  obtain ⟨l1, l2⟩ := yb_zs h hl
  obtain ⟨z1, z2⟩ := yb_zs h hz
  have hS' : 0 < sz t n z.1 z.2 := hS
  obtain ⟨iS, iA, iB⟩ := ac_i (a := l.1) (b := l.2) h l1.x l2.x z1 z2 hS'
  obtain ⟨p1, p2⟩ := (PT_DV hS).mpr hd
  have q : ∀ a : Int, i64 a → sz t n z.1 z.2 ∣ a → f_X7_ratio (lo a) (lo (sz t n z.1 z.2)) = some (lo (a / sz t n z.1 z.2)) := by
    intro a ia hd'
    have nS := lo_nz iS (show ¬ sz t n z.1 z.2 = 0 by omega)
    unfold f_X7_ratio
    rw [if_neg nS, if_neg nS, lo_div ia iS hS']
    obtain ⟨c, rfl⟩ := hd'
    rw [Int.mul_tdiv_cancel_left _ (by omega), Int.mul_ediv_cancel_left _ (by omega)]
  unfold f_X4_dividedBy
  rw [acrossA_pk h.it h.in l1.i l2.i z1.i z2.i, acrossB_pk l1.i l2.i z1.i z2.i, sizeOf_pk h.it h.in z1.i z2.i]
  have qA := q (acA t n l.1 l.2 z.1 z.2) iA p1
  have qB := q (acB l.1 l.2 z.1 z.2) iB p2
  unfold acA at qA
  unfold acB at qB
  rw [qA, qB]
  rfl
theorem NQ_mu {t n : Int} (h : TN t n) {q z : G2} (hS : 0 < zs t n z) : NQ t n (mu t n q z).1 (mu t n q z).2 z.1 z.2 = q := by
  have e := NQ_tr (t := t) (n := n) (a := 0) (b := 0) (c := z.1) (d := z.2) hS q.1 q.2
  rw [Int.zero_add, Int.zero_add, NQ_00 h hS] at e
  show NQ t n (mA n q.1 q.2 z.1 z.2) (mB t q.1 q.2 z.1 z.2) z.1 z.2 = q
  rw [e]
  exact Prod.ext (Int.zero_add _) (Int.zero_add _)
theorem div8q {t n : Int} (h : TN t n) {l z : G2} (hl : zs t n l ≤ 2000000000) (hz : zs t n z ≤ 2000000000) (hS : 0 < zs t n z) (hd : DV t n z l) (xa xB qa qb : Int64) : ∃ y1 y2, f_X8_divide (lo t) (lo n) xa xB qa qb (lo l.1) (lo l.2) (lo z.1) (lo z.2) = some (y1, y2, lo (qo t n l z).1, lo (qo t n l z).2) := by
  obtain ⟨l1, l2⟩ := yb_zs h hl
  obtain ⟨z1, z2⟩ := yb_zs h hz
  have hS' : 0 < sz t n z.1 z.2 := hS
  have D := d8 h l1.x l2.x z1 z2 hS' xa xB qa qb
  have e : NQ t n l.1 l.2 z.1 z.2 = qo t n l z := by
    have e1 := qo_back hS hd
    have e2 := NQ_mu h (q := qo t n l z) hS
    rw [← e1] at e2
    exact e2
  rw [e] at D
  exact ⟨_, _, D⟩
theorem isp7 {t n : Int} (h : TN t n) {l z : G2} (hl : zs t n l ≤ 2000000000) (hz : zs t n z ≤ 2000000000) (hS : 0 < zs t n z) : (DV t n z l ∧ f_X4_isPart (io t) (io n) (pk z.1 z.2) (pk l.1 l.2) = some 1) ∨ (¬ DV t n z l ∧ f_X4_isPart (io t) (io n) (pk z.1 z.2) (pk l.1 l.2) = some 0) := by
  obtain ⟨l1, l2⟩ := yb_zs h hl
  obtain ⟨z1, z2⟩ := yb_zs h hz
  rcases part7 h l1.x l2.x z1 z2 hS with ⟨g, e⟩ | ⟨g, e⟩
  · exact Or.inl ⟨(PT_DV hS).mp g, e⟩
  · exact Or.inr ⟨fun q => g ((PT_DV hS).mpr q), e⟩
theorem isp8 {t n : Int} (h : TN t n) {l z : G2} (hl : zs t n l ≤ 2000000000) (hz : zs t n z ≤ 2000000000) (hS : 0 < zs t n z) (x1 x2 : Int64) : ∃ y1 y2, (DV t n z l ∧ f_X8_isPart (lo t) (lo n) x1 x2 (lo l.1) (lo l.2) (lo z.1) (lo z.2) = some (1, y1, y2)) ∨ (¬ DV t n z l ∧ f_X8_isPart (lo t) (lo n) x1 x2 (lo l.1) (lo l.2) (lo z.1) (lo z.2) = some (0, y1, y2)) := by
  obtain ⟨l1, l2⟩ := yb_zs h hl
  obtain ⟨z1, z2⟩ := yb_zs h hz
  rcases part8 h l1.x l2.x z1 z2 hS x1 x2 with ⟨g, e⟩ | ⟨g, e⟩
  · exact ⟨_, _, Or.inl ⟨(PT_DV hS).mp g, e⟩⟩
  · exact ⟨_, _, Or.inr ⟨fun q => g ((PT_DV hS).mpr q), e⟩⟩
