/-! one comes again after as many steps as there are single rests -/
theorem cgr_ad {t n : Int} {z x y a b : G2} (h : cgr t n z x y) (g : cgr t n z a b) : cgr t n z (ad x a) (ad y b) := by
  have e : sb (ad x a) (ad y b) = ad (sb x y) (sb a b) := by
    unfold sb ad
    exact Prod.ext (by dsimp only; omega) (by dsimp only; omega)
  unfold cgr
  rw [e]
  exact DV_ad h g
def gsm (t n : Int) (y : G2) : Nat → G2
  | 0 => (0, 0)
  | k + 1 => ad (1, 0) (mu t n y (gsm t n y k))
theorem gsm_eq (t n : Int) (y : G2) (k : Nat) : mu t n (sb y (1, 0)) (gsm t n y k) = sb (pwr t n y k) (1, 0) := by
  induction k with
  | zero =>
    show mu t n (sb y (1, 0)) (0, 0) = sb (1, 0) (1, 0)
    rw [mu_comm, mu_0]
    rfl
  | succ k ih =>
    show mu t n (sb y (1, 0)) (ad (1, 0) (mu t n y (gsm t n y k))) = sb (mu t n y (pwr t n y k)) (1, 0)
    have e1 : mu t n (sb y (1, 0)) (ad (1, 0) (mu t n y (gsm t n y k))) = ad (sb y (1, 0)) (mu t n y (mu t n (sb y (1, 0)) (gsm t n y k))) := by
      generalize gsm t n y k = G
      refine Prod.ext ?_ ?_ <;> (unfold sb ad mu mA mB; dsimp only; grind)
    rw [e1, ih]
    generalize pwr t n y k = G
    refine Prod.ext ?_ ?_ <;> (unfold sb ad mu mA mB; dsimp only; grind)
theorem gsm_cg {t n : Int} {z y : G2} (h : cgr t n z y (1, 0)) (k : Nat) : cgr t n z (gsm t n y k) ((k : Int), 0) := by
  induction k with
  | zero => exact cgr_rf t n z _
  | succ k ih =>
    have a := cgr_ad (cgr_rf t n z (1, 0)) (cgr_mu h ih)
    have e : ad (1, 0) (mu t n (1, 0) ((k : Int), 0)) = (((k + 1 : Nat) : Int), 0) := by
      rw [mu_1]
      unfold ad
      exact Prod.ext (by dsimp only; omega) rfl
    rw [e] at a
    exact a
theorem zs_dv (t n : Int) (z : G2) : DV t n z (zs t n z, 0) := ⟨cj t z, by rw [mu_comm, mu_cj]⟩
theorem lift_same {t n : Int} (h : TN t n) {z P y : G2} (hy : cgr t n P y (1, 0)) (hd : DV t n z P) : cgr t n (mu t n z P) (pwr t n y (zs t n z).toNat) (1, 0) := by
  have nn := zs_nn h z
  have g1 := gsm_cg (z := z) (y := y) (DV_tr hd hy) (zs t n z).toNat
  rw [show (((zs t n z).toNat : Nat) : Int) = zs t n z by omega] at g1
  obtain ⟨b, hb⟩ := cgr_DV g1 (zs_dv t n z)
  obtain ⟨a, ha⟩ := hy
  have e := gsm_eq t n y (zs t n z).toNat
  refine ⟨mu t n a b, ?_⟩
  rw [← e, hb, ha]
  rw [mu_assoc, mu_assoc, ← mu_assoc t n P b z, mu_comm t n P b, mu_assoc t n b P z, mu_comm t n P z]
theorem lift_new {t n : Int} (h : TN t n) {z P y : G2} (hz : PRI t n z) (hy : cgr t n P y (1, 0)) (hP : ¬ DV t n z P) (hzy : ¬ DV t n z y) : cgr t n (mu t n z P) (pwr t n y ((zs t n z).toNat - 1)) (1, 0) := by
  have a1 := cgr_pw hy ((zs t n z).toNat - 1)
  rw [pwr_1] at a1
  have a2 := little h hz hzy
  obtain ⟨u, hu⟩ := a1
  unfold cgr at a2
  rw [hu] at a2
  rcases pri_dv h hz a2 with q | q
  · obtain ⟨c, rfl⟩ := q
    exact ⟨c, by rw [hu, mu_assoc]⟩
  · exact absurd q hP
theorem prod_dv {t n : Int} (h : TN t n) {z : G2} (hz : PRI t n z) {f : Nat → G2} : ∀ i, DV t n z (PROD t n f i) → ∃ j, j < i ∧ DV t n z (f j) := by
  intro i
  induction i with
  | zero => exact fun hd => absurd hd (pri_1 hz)
  | succ i ih =>
    intro hd
    rcases pri_dv h hz hd with q | q
    · exact ⟨i, by omega, q⟩
    · obtain ⟨j, h1, h2⟩ := ih q
      exact ⟨j, by omega, h2⟩
theorem same_pri {k : Nat} {z w : G2} (hk : k < 5) (hz : PRI (kT k) (kN k) z) (hw : PRI (kT k) (kN k) w) (sz' : SHR k z z) (sw : SHR k w w) (hd : DV (kT k) (kN k) z w) : z = w := by
  have z2 := hz.1
  rcases hw.2 z hd with q | q
  · omega
  · obtain ⟨u, hu⟩ := hd
    have e := zs_mu (kT k) (kN k) u z
    rw [← hu, ← q] at e
    have u1 : zs (kT k) (kN k) u = 1 := by
      have : (zs (kT k) (kN k) u - 1) * zs (kT k) (kN k) z = 0 := by grind
      rcases Int.mul_eq_zero.mp this with g | g <;> omega
    have a := SHR_as hk sz' u1
    rw [← hu] at a
    exact SHR_u a sw
/-- the list in order -/
theorem lexx_tr {a b c : G2} (h : lex a b) (g : lex b c) : lex a c := by unfold lex at *; omega
theorem AH_tr {t n : Int} {a b c : G2} (h : ¬ AH t n b a) (g : ¬ AH t n c b) : ¬ AH t n c a := by
  unfold AH lex at *
  generalize zs t n a = A at *
  generalize zs t n b = B at *
  generalize zs t n c = C at *
  omega
theorem AH_an {t n : Int} {a b : G2} (h : ¬ AH t n b a) (g : ¬ AH t n a b) : a = b := by
  unfold AH lex at *
  generalize zs t n a = A at *
  generalize zs t n b = B at *
  exact Prod.ext (by omega) (by omega)
theorem AH_as {t n : Int} {a b : G2} (h : AH t n a b) : ¬ AH t n b a := by
  unfold AH lex at *
  generalize zs t n a = A at *
  generalize zs t n b = B at *
  omega
def SRT (t n : Int) (f : Nat → G2) (m : Nat) : Prop := ∀ i j, i < j → j < m → ¬ AH t n (f j) (f i)
theorem AH_ir (t n : Int) (a : G2) : ¬ AH t n a a := by unfold AH lex; omega
theorem ins_srt {t n : Int} {z : G2} {f : Nat → G2} {m : Nat} (s : SRT t n f m) : SRT t n (ins t n z f m) (m + 1) := by
  obtain ⟨g1, g2, g3⟩ := posn_ok t n z f m
  intro i j hij hj
  unfold ins
  generalize posn t n z f m = p at *
  have low : ∀ x, x < p → ¬ AH t n z (f x) := fun x hx => by
    rcases g3 with g3 | g3
    · omega
    · by_cases q : x = p - 1
      · rw [q]; exact g3
      · exact AH_tr (s x (p - 1) (by omega) (by omega)) g3
  by_cases a1 : i < p
  · rw [if_pos a1]
    by_cases b1 : j < p
    · rw [if_pos b1]; exact s i j hij (by omega)
    · rw [if_neg b1]
      by_cases b2 : j = p
      · rw [if_pos b2]; exact low i a1
      · rw [if_neg b2]; exact s i (j - 1) (by omega) (by omega)
  · rw [if_neg a1, if_neg (show ¬ j < p by omega), if_neg (show ¬ j = p by omega)]
    by_cases a2 : i = p
    · rw [if_pos a2]
      exact AH_as (g2 (j - 1) (by omega) (by omega))
    · rw [if_neg a2]
      exact s (i - 1) (j - 1) (by omega) (by omega)
theorem SO_srt {t n : Int} {s : Nat → G2} : ∀ m, SRT t n (SO t n s m) m := by
  intro m
  induction m with
  | zero => intro i j _ hj; omega
  | succ m ih => exact ins_srt ih
theorem fresh_no {k : Nat} (hk : k < 5) {f : Nat → G2} {m : Nat} (hp : ∀ j, j < m → PRI (kT k) (kN k) (f j) ∧ SHR k (f j) (f j)) (so : SRT (kT k) (kN k) f m) {i : Nat} (hi : i < m) (h0 : i = 0 ∨ ¬ f i = f (i - 1)) : ¬ DV (kT k) (kN k) (f i) (PROD (kT k) (kN k) f i) := by
  intro hd
  obtain ⟨j, h1, h2⟩ := prod_dv (TN_k hk) (hp i hi).1 i hd
  have e := same_pri hk (hp i hi).1 (hp j (by omega)).1 (hp i hi).2 (hp j (by omega)).2 h2
  rcases h0 with q | q
  · omega
  · by_cases g : j = i - 1
    · exact q (by rw [e, g])
    · have a1 := so j (i - 1) (by omega) (by omega)
      have a2 := so (i - 1) i (by omega) hi
      rw [e] at a2
      exact q (by rw [e]; exact AH_an a1 a2)
theorem eul {k : Nat} (hk : k < 5) {f : Nat → G2} {m : Nat} (hp : ∀ j, j < m → PRI (kT k) (kN k) (f j) ∧ SHR k (f j) (f j)) (so : SRT (kT k) (kN k) f m) {x : G2} (hx : ∀ j, j < m → ¬ DV (kT k) (kN k) (f j) x) : ∀ i, i ≤ m → cgr (kT k) (kN k) (PROD (kT k) (kN k) f i) (pwr (kT k) (kN k) x (phn (kT k) (kN k) f i).toNat) (1, 0) := by
  have h := TN_k hk
  intro i
  induction i with
  | zero => intro _; exact DV_unit (zs_1 _ _) _
  | succ i ih =>
    intro hi
    have a := ih (by omega)
    have z2 := (hp i (by omega)).1.1
    have p0 := (phn_b (t := kT k) (n := kN k) (f := f) i (fun j hj => (hp j (by omega)).1.1)).1
    have c := ag_b f i
    have e : (phn (kT k) (kN k) f (i + 1)).toNat = (phn (kT k) (kN k) f i).toNat * (zs (kT k) (kN k) (f i) - ag f i).toNat := by
      show (phn (kT k) (kN k) f i * (zs (kT k) (kN k) (f i) - ag f i)).toNat = _
      obtain ⟨A, hA⟩ : ∃ A : Nat, phn (kT k) (kN k) f i = (A : Int) := ⟨(phn (kT k) (kN k) f i).toNat, by omega⟩
      obtain ⟨B, hB⟩ : ∃ B : Nat, zs (kT k) (kN k) (f i) - ag f i = (B : Int) := ⟨(zs (kT k) (kN k) (f i) - ag f i).toNat, by omega⟩
      rw [hA, hB, ← Int.natCast_mul]
      rfl
    rw [e, pwr_pw]
    show cgr (kT k) (kN k) (mu (kT k) (kN k) (f i) (PROD (kT k) (kN k) f i)) _ _
    by_cases g : i = 0 ∨ ¬ f i = f (i - 1)
    · have a1 : ag f i = 1 := by unfold ag; rw [if_pos g]
      rw [a1, show (zs (kT k) (kN k) (f i) - 1).toNat = (zs (kT k) (kN k) (f i)).toNat - 1 by omega]
      exact lift_new h (hp i (by omega)).1 a (fresh_no hk hp so (by omega) g) (fun q => hx i (by omega) (pri_pw h (hp i (by omega)).1 _ q))
    · have a1 : ag f i = 0 := by unfold ag; rw [if_neg g]
      rw [a1, Int.sub_zero]
      refine lift_same h a ?_
      obtain ⟨j, rfl⟩ : ∃ j, i = j + 1 := ⟨i - 1, by omega⟩
      have e2 : f (j + 1) = f j := by
        rcases Classical.em (f (j + 1) = f j) with q | q
        · exact q
        · exact absurd (Or.inr q) g
      rw [e2]
      exact DV_mu' (DV_rf _ _ _) _
