/-! taking primes out, on both sides -/
abbrev ST := G2 × Nat × (Nat → G2)
def PROD (t n : Int) (s : Nat → G2) : Nat → G2
  | 0 => (1, 0)
  | m + 1 => mu t n (s m) (PROD t n s m)
theorem PROD_c {t n : Int} {s s' : Nat → G2} : ∀ m, (∀ j, j < m → s j = s' j) → PROD t n s m = PROD t n s' m := by
  intro m
  induction m with
  | zero => intro _; rfl
  | succ m ih =>
    intro h
    show mu t n (s m) (PROD t n s m) = mu t n (s' m) (PROD t n s' m)
    rw [h m (by omega), ih (fun j hj => h j (by omega))]
def GD2 (k : Nat) (x : G2) (S : ST) : Prop := SB (kT k) (kN k) x ∧ 1 ≤ zs (kT k) (kN k) S.1 ∧ (∀ j, j < S.2.1 → PRI (kT k) (kN k) (S.2.2 j) ∧ SHR k (S.2.2 j) (S.2.2 j)) ∧ x = mu (kT k) (kN k) S.1 (PROD (kT k) (kN k) S.2.2 S.2.1)
theorem PROD_b {t n : Int} {s : Nat → G2} : ∀ m, (∀ j, j < m → 2 ≤ zs t n (s j)) → (2 : Int) ^ m ≤ zs t n (PROD t n s m) ∧ ∀ j, j < m → zs t n (s j) ≤ zs t n (PROD t n s m) := by
  intro m
  induction m with
  | zero =>
    intro _
    refine ⟨?_, fun j hj => by omega⟩
    show (1 : Int) ≤ zs t n (1, 0)
    unfold zs sz
    dsimp only
    omega
  | succ m ih =>
    intro h
    obtain ⟨g1, g2⟩ := ih (fun j hj => h j (by omega))
    have g3 := h m (by omega)
    have p0 : (1 : Int) ≤ 2 ^ m := by
      have : (0 : Int) < 2 ^ m := Int.pow_pos (by omega)
      omega
    have e : zs t n (PROD t n s (m + 1)) = zs t n (s m) * zs t n (PROD t n s m) := zs_mu t n _ _
    have m1 := Int.mul_le_mul g3 g1 (by omega) (by omega)
    have m2 := Int.mul_le_mul (show 1 ≤ zs t n (s m) by omega) (Int.le_refl (zs t n (PROD t n s m))) (by omega) (by omega)
    have m3 := Int.mul_le_mul (Int.le_refl (zs t n (s m))) (show 1 ≤ zs t n (PROD t n s m) by omega) (by omega) (by omega)
    refine ⟨?_, fun j hj => ?_⟩
    · rw [e, Int.pow_succ, Int.mul_comm]
      exact m1
    · rw [e]
      by_cases q : j = m
      · rw [q]; omega
      · have := g2 j (by omega); omega
theorem GD2_b {k : Nat} {x : G2} {S : ST} (h : GD2 k x S) : S.2.1 ≤ 31 ∧ SB (kT k) (kN k) S.1 ∧ (∀ j, j < S.2.1 → SB (kT k) (kN k) (S.2.2 j)) := by
  obtain ⟨h1, h2, h3, h4⟩ := h
  obtain ⟨p1, p2⟩ := PROD_b (t := kT k) (n := kN k) (s := S.2.2) S.2.1 (fun j hj => (h3 j hj).1.1)
  have e : zs (kT k) (kN k) x = zs (kT k) (kN k) S.1 * zs (kT k) (kN k) (PROD (kT k) (kN k) S.2.2 S.2.1) := by
    rw [h4, zs_mu]
  have p0 : (1 : Int) ≤ 2 ^ S.2.1 := by
    have : (0 : Int) < 2 ^ S.2.1 := Int.pow_pos (by omega)
    omega
  have m2 := Int.mul_le_mul h2 (Int.le_refl (zs (kT k) (kN k) (PROD (kT k) (kN k) S.2.2 S.2.1))) (by omega) (by omega)
  have m3 := Int.mul_le_mul (Int.le_refl (zs (kT k) (kN k) S.1)) (show 1 ≤ zs (kT k) (kN k) (PROD (kT k) (kN k) S.2.2 S.2.1) by omega) (by omega) (by omega)
  unfold SB at *
  refine ⟨?_, by omega, fun j hj => ?_⟩
  · rcases Nat.lt_or_ge 31 S.2.1 with q | q
    · exfalso
      have : (2 : Int) ^ 32 ≤ 2 ^ S.2.1 := by
        obtain ⟨c, hc⟩ : ∃ c, S.2.1 = 32 + c := ⟨S.2.1 - 32, by omega⟩
        rw [hc, Int.pow_add]
        have c0 : (0 : Int) < 2 ^ c := Int.pow_pos (by omega)
        have := Int.mul_le_mul (Int.le_refl ((2 : Int) ^ 32)) (show (1 : Int) ≤ 2 ^ c by omega) (by omega) (by omega)
        omega
      have e32 : (2 : Int) ^ 32 = 4294967296 := by decide
      omega
    · exact q
  · have := p2 j hj
    omega
def tk (k : Nat) (z : G2) (S : ST) : ST := (qo (kT k) (kN k) S.1 z, S.2.1 + 1, fun j => if j = S.2.1 then z else S.2.2 j)
theorem tk_ok {k : Nat} (hk : k < 5) {x z : G2} {S : ST} (h : GD2 k x S) (hz : PRI (kT k) (kN k) z) (hs : SHR k z z) (hd : DV (kT k) (kN k) z S.1) : GD2 k x (tk k z S) ∧ zs (kT k) (kN k) (tk k z S).1 < zs (kT k) (kN k) S.1 ∧ DV (kT k) (kN k) (tk k z S).1 S.1 := by
  obtain ⟨h1, h2, h3, h4⟩ := h
  have hS : 0 < zs (kT k) (kN k) z := by have := hz.1; omega
  have e := qo_back hS hd
  have e2 : zs (kT k) (kN k) S.1 = zs (kT k) (kN k) (qo (kT k) (kN k) S.1 z) * zs (kT k) (kN k) z := by
    have := zs_mu (kT k) (kN k) (qo (kT k) (kN k) S.1 z) z
    rw [← e] at this
    exact this
  have nn := zs_nn (TN_k hk) (qo (kT k) (kN k) S.1 z)
  have ge : 1 ≤ zs (kT k) (kN k) (qo (kT k) (kN k) S.1 z) := by
    rcases Int.lt_or_le 0 (zs (kT k) (kN k) (qo (kT k) (kN k) S.1 z)) with q | q
    · omega
    · rw [show zs (kT k) (kN k) (qo (kT k) (kN k) S.1 z) = 0 by omega, Int.zero_mul] at e2
      omega
  refine ⟨⟨h1, ge, ?_, ?_⟩, ?_, ?_⟩
  · intro j hj
    unfold tk
    dsimp only
    by_cases q : j = S.2.1
    · rw [if_pos q]; exact ⟨hz, hs⟩
    · rw [if_neg q]
      exact h3 j (by unfold tk at hj; dsimp only at hj; omega)
  · show x = mu (kT k) (kN k) (qo (kT k) (kN k) S.1 z) (mu (kT k) (kN k) ((fun j => if j = S.2.1 then z else S.2.2 j) S.2.1) (PROD (kT k) (kN k) (fun j => if j = S.2.1 then z else S.2.2 j) S.2.1))
    rw [PROD_c (s' := S.2.2) S.2.1 (fun j hj => if_neg (by omega))]
    dsimp only
    rw [if_pos rfl, ← mu_assoc, ← e]
    exact h4
  · show zs (kT k) (kN k) (qo (kT k) (kN k) S.1 z) < zs (kT k) (kN k) S.1
    have := Int.mul_le_mul (Int.le_refl (zs (kT k) (kN k) (qo (kT k) (kN k) S.1 z))) hz.1 (by omega) (by omega)
    omega
  · exact ⟨z, by rw [mu_comm]; exact e⟩
noncomputable def TKs (k : Nat) (d : Int) (y : G2) : Nat → ST → ST
  | 0, S => S
  | f + 1, S => @ite ST (d ∣ zs (kT k) (kN k) S.1) (Classical.propDecidable _) (@ite ST (DV (kT k) (kN k) y S.1) (Classical.propDecidable _) (TKs k d y f (tk k (shp k y) S)) (TKs k d y f (tk k (shp k (cj (kT k) y)) S))) S
theorem TKs_no {k : Nat} {d : Int} {y : G2} {S : ST} (h : ¬ d ∣ zs (kT k) (kN k) S.1) (f : Nat) : TKs k d y f S = S := by
  cases f with
  | zero => rfl
  | succ f =>
    show @ite ST (d ∣ zs (kT k) (kN k) S.1) (Classical.propDecidable _) _ _ = _
    rw [if_neg h]
theorem TKs_y {k : Nat} {d : Int} {y : G2} {S : ST} (h : d ∣ zs (kT k) (kN k) S.1) (g : DV (kT k) (kN k) y S.1) (f : Nat) : TKs k d y (f + 1) S = TKs k d y f (tk k (shp k y) S) := by
  show @ite ST (d ∣ zs (kT k) (kN k) S.1) (Classical.propDecidable _) (@ite ST (DV (kT k) (kN k) y S.1) (Classical.propDecidable _) _ _) _ = _
  rw [if_pos h, if_pos g]
theorem TKs_c {k : Nat} {d : Int} {y : G2} {S : ST} (h : d ∣ zs (kT k) (kN k) S.1) (g : ¬ DV (kT k) (kN k) y S.1) (f : Nat) : TKs k d y (f + 1) S = TKs k d y f (tk k (shp k (cj (kT k) y)) S) := by
  show @ite ST (d ∣ zs (kT k) (kN k) S.1) (Classical.propDecidable _) (@ite ST (DV (kT k) (kN k) y S.1) (Classical.propDecidable _) _ _) _ = _
  rw [if_pos h, if_neg g]
/-- y stands above d -/
def ABV (k : Nat) (d : Int) (y : G2) : Prop := (2 ≤ d ∧ d ≤ 2000000000) ∧ SB (kT k) (kN k) y ∧ PRI (kT k) (kN k) y ∧ d ∣ zs (kT k) (kN k) y ∧ ∀ l, d ∣ zs (kT k) (kN k) l → DV (kT k) (kN k) y l ∨ DV (kT k) (kN k) (cj (kT k) y) l
theorem ABV_of {k : Nat} (hk : k < 5) {d : Int} {y : G2} (hd : PN d) (hd2 : d ≤ 2000000000) (hy : LY (kT k) (kN k) d y) (hs : zs (kT k) (kN k) y = d ∨ d * d ≤ 2000000000) : ABV k d y := by
  have h := TN_k hk
  rcases LY_cases hy with e | ⟨rfl, no⟩
  · refine ⟨⟨hd.1, hd2⟩, ?_, pri_norm h hd e, ?_, fun l hl => above_norm h hd e hl⟩
    · unfold SB; omega
    · rw [e]; exact Int.dvd_refl d
  · refine ⟨⟨hd.1, hd2⟩, ?_, pri_inert h hd no, ?_, fun l hl => Or.inl (above_inert h hd no hl)⟩
    · rcases hs with e | e
      · exact absurd e (no _)
      · unfold SB; rw [zs_d]; exact e
    · rw [zs_d]; exact ⟨d, rfl⟩
