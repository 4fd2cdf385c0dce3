/-! the order of a number; what stripping primes keeps -/
def odr (t n : Int) (M x : G2) (o : Nat) : Prop := 1 ≤ o ∧ cgr t n M (pwr t n x o) (1, 0) ∧ ∀ k, 1 ≤ k → k < o → ¬ cgr t n M (pwr t n x k) (1, 0)
theorem odr_ex {t n : Int} {M x : G2} {N : Nat} (hN : 1 ≤ N) (h : cgr t n M (pwr t n x N) (1, 0)) : ∃ o, odr t n M x o ∧ o ≤ N := by
  obtain ⟨o, ⟨o1, o2⟩, o3⟩ := nat_least (P := fun q => 1 ≤ q ∧ cgr t n M (pwr t n x q) (1, 0)) N ⟨hN, h⟩
  refine ⟨o, ⟨o1, o2, fun k h1 h2 h3 => o3 k h2 ⟨h1, h3⟩⟩, ?_⟩
  rcases Nat.lt_or_ge N o with q | q
  · exact absurd ⟨hN, h⟩ (o3 N q)
  · exact q
theorem odr_dv {t n : Int} {M x : G2} {o : Nat} (h : odr t n M x o) (k : Nat) : cgr t n M (pwr t n x k) (1, 0) ↔ o ∣ k := by
  obtain ⟨o1, o2, o3⟩ := h
  have mult : ∀ q, cgr t n M (pwr t n x (o * q)) (1, 0) := fun q => by
    rw [pwr_pw]
    have := cgr_pw o2 q
    rw [pwr_1] at this
    exact this
  constructor
  · intro hc
    have e := Nat.div_add_mod k o
    have lt := Nat.mod_lt k (show 0 < o by omega)
    have a := cgr_mu (mult (k / o)) (cgr_rf t n M (pwr t n x (k % o)))
    rw [← pwr_ad, e, mu_1] at a
    have b := cgr_tr (cgr_sy a) hc
    by_cases g : k % o = 0
    · exact Nat.dvd_of_mod_eq_zero g
    · exact absurd b (o3 _ (by omega) lt)
  · rintro ⟨q, rfl⟩
    exact mult q
/-- what the stripping keeps: A the order so far, L what is left to strip -/
def siv (o A L : Nat) : Prop := (1 ≤ L ∧ 1 ≤ A ∧ A ≤ 100000) ∧ L ∣ A ∧ ∃ c, A = o * c ∧ c ∣ L
theorem siv_b {o A L : Nat} (h : siv o A L) : L ≤ 100000 := by
  obtain ⟨⟨h1, h2, h3⟩, h4, -⟩ := h
  have := Nat.le_of_dvd (by omega) h4
  omega
theorem siv_yes {o A L d : Nat} (h : siv o A L) (hd : 2 ≤ d) (hL : d ∣ L) (hy : o ∣ A / d) : siv o (A / d) (L / d) := by
  obtain ⟨⟨h1, h2, h3⟩, ⟨a, ha⟩, c, hc, hcL⟩ := h
  obtain ⟨L1, rfl⟩ := hL
  have dp : 0 < d := by omega
  have eA : A = d * (L1 * a) := by rw [ha, Nat.mul_assoc]
  have eA2 : A / d = L1 * a := by rw [eA, Nat.mul_div_cancel_left _ dp]
  have eL : d * L1 / d = L1 := Nat.mul_div_cancel_left _ dp
  have l0 : 1 ≤ L1 := by
    rcases Nat.eq_zero_or_pos L1 with q | q
    · rw [q, Nat.mul_zero] at h1
      omega
    · exact q
  have a0 : 1 ≤ L1 * a := by
    rcases Nat.eq_zero_or_pos (L1 * a) with q | q
    · rw [q, Nat.mul_zero] at eA
      omega
    · exact q
  rw [eA2, eL]
  rw [eA2] at hy
  obtain ⟨c', hc'⟩ := hy
  have le := Nat.mul_le_mul_right (L1 * a) (show 1 ≤ d by omega)
  refine ⟨⟨l0, a0, by omega⟩, ⟨a, rfl⟩, c', hc', ?_⟩
  have op : 0 < o := by
    rcases Nat.eq_zero_or_pos o with q | q
    · rw [q, Nat.zero_mul] at hc'
      omega
    · exact q
  have e2 : o * c = o * (d * c') := by
    rw [← hc, eA, hc', ← Nat.mul_assoc, ← Nat.mul_assoc, Nat.mul_comm d o]
  have e3 := Nat.eq_of_mul_eq_mul_left op e2
  rw [e3] at hcL
  exact Nat.dvd_of_mul_dvd_mul_left dp hcL
theorem siv_no {o A L d : Nat} (h : siv o A L) (hd : 2 ≤ d) (hL : d ∣ L) (hp : ∀ e, 2 ≤ e → e < d → ¬ e ∣ L) (hn : ¬ o ∣ A / d) : siv o A (L / d) := by
  obtain ⟨⟨h1, h2, h3⟩, ⟨a, ha⟩, c, hc, hcL⟩ := h
  obtain ⟨L1, rfl⟩ := hL
  have dp : 0 < d := by omega
  have eL : d * L1 / d = L1 := Nat.mul_div_cancel_left _ dp
  have l0 : 1 ≤ L1 := by
    rcases Nat.eq_zero_or_pos L1 with q | q
    · rw [q, Nat.mul_zero] at h1
      omega
    · exact q
  rw [eL]
  have cop : Nat.Coprime c d := by
    have g1 := Nat.gcd_dvd_right c d
    have g2 := Nat.le_of_dvd dp g1
    have g3 := Nat.gcd_pos_of_pos_right c dp
    by_cases q : Nat.gcd c d = d
    · exfalso
      have g4 := Nat.gcd_dvd_left c d
      rw [q] at g4
      obtain ⟨c', rfl⟩ := g4
      refine hn ⟨c', ?_⟩
      rw [hc, ← Nat.mul_assoc, Nat.mul_comm o d, Nat.mul_assoc, Nat.mul_div_cancel_left _ dp]
    · by_cases q1 : Nat.gcd c d = 1
      · exact q1
      · exact absurd (Nat.dvd_trans g1 (Nat.dvd_mul_right d L1)) (hp _ (by omega) (by omega))
  refine ⟨⟨l0, h2, h3⟩, ⟨d * a, by rw [ha, Nat.mul_comm d L1, Nat.mul_assoc]⟩, c, hc, cop.dvd_of_dvd_mul_left hcL⟩
theorem siv_end {o A : Nat} (h : siv o A 1) : A = o := by
  obtain ⟨-, -, c, hc, h1⟩ := h
  rw [Nat.dvd_one.mp h1, Nat.mul_one] at hc
  exact hc
