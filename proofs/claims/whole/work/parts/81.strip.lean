/-! the class' stripping of primes -/
theorem RT_cb_i {t n : Int} (h : TN t n) {M : G2} (hS : 0 < zs t n M) (hM : zs t n M ≤ 100000) (x : G2) : i32 (rts t n M x).1 ∧ i32 (rts t n M x).2 := ⟨(rts_c h hS hM x).1.i, (rts_c h hS hM x).2.i⟩
theorem strip_in {k : Nat} (hk : k < 5) {x M : G2} (hx1 : rng x.1) (hx2 : rng x.2) (h1 : rng M.1) (h2 : rng M.2) (hS : 0 < zs (kT k) (kN k) M) (hM : zs (kT k) (kN k) M ≤ 100000) {o : Nat} (O : odr (kT k) (kN k) M x o) {d : Nat} (hd : 2 ≤ d) (hd2 : d ≤ 100000) : ∀ (f A L : Nat), L ≤ f → siv o A L → (∀ e, 2 ≤ e → e < d → ¬ e ∣ L) → ∃ A' L' : Nat, whl (f_X6_leastOrder_L55 (io (kT k)) (io (kN k)) (pk x.1 x.2) (pk M.1 M.2) (pk (rts (kT k) (kN k) M (1, 0)).1 (rts (kT k) (kN k) M (1, 0)).2) (io (d : Int))) (io (A : Int), io (L : Int)) = some (io (A' : Int), io (L' : Int)) ∧ siv o A' L' ∧ ∀ e, 2 ≤ e → e < d + 1 → ¬ e ∣ L' := by
  have h := TN_k hk
  intro f
  induction f with
  | zero =>
    intro A L hL s
    have := s.1.1
    omega
  | succ f ih =>
    intro A L hL s hp
    have Lb := siv_b s
    obtain ⟨⟨s1, s2, s3⟩, -, -⟩ := id s
    have c1 : io (L : Int) ≤ (1 : Int32) ↔ (L : Int) ≤ 1 := io_le (b := 1) (by unfold i32; omega) (by unfold i32; omega)
    have c2 : io (d : Int) = 0 ↔ (d : Int) = 0 := io_eq (b := 0) (by unfold i32; omega) (by unfold i32; omega)
    have nz : ¬ io (d : Int) = 0 := fun q => by have := c2.mp q; omega
    have rem := io_rem (a := (L : Int)) (b := (d : Int)) (by unfold i32; omega) (by unfold i32; omega) (by omega) (by omega)
    have dvL := io_div (a := (L : Int)) (b := (d : Int)) (by unfold i32; omega) (by unfold i32; omega) (by omega) (by omega)
    have dvA := io_div (a := (A : Int)) (b := (d : Int)) (by unfold i32; omega) (by unfold i32; omega) (by omega) (by omega)
    rw [← Int.natCast_ediv] at dvL dvA
    rw [← Int.natCast_emod] at rem
    have mlt := Nat.mod_le L d
    have c3 : io ((L % d : Nat) : Int) = (0 : Int32) ↔ ((L % d : Nat) : Int) = 0 := io_eq (b := 0) (by unfold i32; omega) (by unfold i32; omega)
    by_cases g : L ≤ 1
    · refine ⟨A, L, whl_r ?_, s, fun e e1 e2 e3 => ?_⟩
      · unfold f_X6_leastOrder_L55
        dsimp only
        rw [if_pos (c1.mpr (by omega))]
      · have := Nat.le_of_dvd (by omega) e3
        omega
    · have g' : ¬ io (L : Int) ≤ (1 : Int32) := fun q => by have := c1.mp q; omega
      by_cases hdL : d ∣ L
      · have r0 : L % d = 0 := Nat.mod_eq_zero_of_dvd hdL
        have Ad : A / d ≤ A := Nat.div_le_self A d
        have R7 := raised_v hk hx1 hx2 h1 h2 hS hM (e := A / d) (by omega)
        have lt : L / d < L := Nat.div_lt_self (by omega) (by omega)
        have sub : ∀ e, 2 ≤ e → e < d → ¬ e ∣ L / d := fun e e1 e2 e3 => by
          refine hp e e1 e2 (Nat.dvd_trans e3 ?_)
          exact ⟨d, (Nat.div_mul_cancel hdL).symm⟩
        have i1 := RT_cb_i h hS hM (pwr (kT k) (kN k) x (A / d))
        have i2 := RT_cb_i h hS hM (1, 0)
        have c4 : pk (rts (kT k) (kN k) M (pwr (kT k) (kN k) x (A / d))).1 (rts (kT k) (kN k) M (pwr (kT k) (kN k) x (A / d))).2 = pk (rts (kT k) (kN k) M (1, 0)).1 (rts (kT k) (kN k) M (1, 0)).2 ↔ o ∣ A / d := by
          rw [pk_inj i1.1 i1.2 i2.1 i2.2, ← Prod.ext_iff, rts_eq hS, odr_dv O]
        by_cases y : o ∣ A / d
        · obtain ⟨A', L', F, r1, r2⟩ := ih (A / d) (L / d) (by omega) (siv_yes s hd hdL y) sub
          refine ⟨A', L', ?_, r1, r2⟩
          rw [← F]
          refine whl_l ?_
          unfold f_X6_leastOrder_L55
          dsimp only
          rw [if_neg g', if_neg nz, rem, if_pos (c3.mpr (by omega)), dvA, R7]
          simp only [Option.bind_some]
          rw [if_pos (c4.mpr y), dvL]
        · obtain ⟨A', L', F, r1, r2⟩ := ih A (L / d) (by omega) (siv_no s hd hdL hp y) sub
          refine ⟨A', L', ?_, r1, r2⟩
          rw [← F]
          refine whl_l ?_
          unfold f_X6_leastOrder_L55
          dsimp only
          rw [if_neg g', if_neg nz, rem, if_pos (c3.mpr (by omega)), dvA, R7]
          simp only [Option.bind_some]
          rw [if_neg (fun q => y (c4.mp q)), dvL]
      · have r0 : ¬ L % d = 0 := fun q => hdL (Nat.dvd_of_mod_eq_zero q)
        refine ⟨A, L, whl_r ?_, s, fun e e1 e2 e3 => ?_⟩
        · unfold f_X6_leastOrder_L55
          dsimp only
          rw [if_neg g', if_neg nz, rem, if_neg (fun q => r0 (by have := c3.mp q; omega))]
        · by_cases q : e = d
          · rw [q] at e3
            exact hdL e3
          · exact hp e e1 (by omega) e3
theorem strip_out {k : Nat} (hk : k < 5) {x M : G2} (hx1 : rng x.1) (hx2 : rng x.2) (h1 : rng M.1) (h2 : rng M.2) (hS : 0 < zs (kT k) (kN k) M) (hM : zs (kT k) (kN k) M ≤ 100000) {o : Nat} (O : odr (kT k) (kN k) M x o) : ∀ (f d A L : Nat), 100002 ≤ d + f → 2 ≤ d → siv o A L → (∀ e, 2 ≤ e → e < d → ¬ e ∣ L) → d ≤ 100001 → whl (f_X6_leastOrder_L48 (io (kT k)) (io (kN k)) (pk x.1 x.2) (pk M.1 M.2) (pk (rts (kT k) (kN k) M (1, 0)).1 (rts (kT k) (kN k) M (1, 0)).2)) (io (A : Int), io (L : Int), io (d : Int)) = some (io (o : Int)) := by
  intro f
  induction f with
  | zero => intro d A L hf h2 s hp hd; omega
  | succ f ih =>
    intro d A L hf hd s hp hd2
    have Lb := siv_b s
    have s1 := s.1.1
    have c1 : io (L : Int) < io (d : Int) ↔ (L : Int) < (d : Int) := io_lt (by unfold i32; omega) (by unfold i32; omega)
    by_cases g : L < d
    · have L1 : L = 1 := by
        by_cases q : L = 1
        · exact q
        · exact absurd (Nat.dvd_refl L) (hp L (by omega) g)
      rw [L1] at s
      have e := siv_end s
      refine whl_r ?_
      unfold f_X6_leastOrder_L48
      dsimp only
      rw [if_pos (c1.mpr (by omega)), e]
    · obtain ⟨A', L', F, r1, r2⟩ := strip_in hk hx1 hx2 h1 h2 hS hM O hd (by omega) L A L (Nat.le_refl L) s hp
      have I := ih (d + 1) A' L' (by omega) (by omega) r1 r2 (by omega)
      rw [← I]
      refine whl_l ?_
      unfold f_X6_leastOrder_L48 f_X6_leastOrder_K55_103
      dsimp only
      rw [if_neg (fun q => g (by have := c1.mp q; omega)), F, io_1]
      rfl
/-! the reference's steps -/
theorem step8 {k : Nat} (hk : k < 5) {x M : G2} (h1 : rng M.1) (h2 : rng M.2) (hS : 0 < zs (kT k) (kN k) M) (hM : zs (kT k) (kN k) M ≤ 100000) {v : Int32} (s3 : ¬ (v < 0 ∨ 8 ≤ v.toNatClampNeg)) {gA gB : Nat → Int64} (s5 : gA v.toNatClampNeg = lo M.1) (s6 : gB v.toNatClampNeg = lo M.2) {o : Nat} (O : odr (kT k) (kN k) M x o) (ho : o ≤ 100000) (x1 x2 : Int64) : ∃ y1 y2 y3 y4, whl (f_X8_order_L94 (lo (kT k)) (lo (kN k)) gA gB v (lo (rts (kT k) (kN k) M (1, 0)).1) (lo (rts (kT k) (kN k) M (1, 0)).2) (lo (rts (kT k) (kN k) M x).1) (lo (rts (kT k) (kN k) M x).2)) ((1 : Int32), lo (rts (kT k) (kN k) M x).1, lo (rts (kT k) (kN k) M x).2, x1, x2) = some (io (o : Int), y1, y2, y3, y4) := by
  have h := TN_k hk
  have o1 := O.1
  have i2 := RT_cb_i h hS hM (1, 0)
  have cc : ∀ j : Nat, (lo (rts (kT k) (kN k) M (pwr (kT k) (kN k) x j)).1 = lo (rts (kT k) (kN k) M (1, 0)).1 ∧ lo (rts (kT k) (kN k) M (pwr (kT k) (kN k) x j)).2 = lo (rts (kT k) (kN k) M (1, 0)).2) ↔ o ∣ j := fun j => by
    have i1 := RT_cb_i h hS hM (pwr (kT k) (kN k) x j)
    rw [lo_eq (wide i1.1) (wide i2.1), lo_eq (wide i1.2) (wide i2.2), ← Prod.ext_iff, rts_eq hS, odr_dv O]
  have key : ∃ r, whl (f_X8_order_L94 (lo (kT k)) (lo (kN k)) gA gB v (lo (rts (kT k) (kN k) M (1, 0)).1) (lo (rts (kT k) (kN k) M (1, 0)).2) (lo (rts (kT k) (kN k) M x).1) (lo (rts (kT k) (kN k) M x).2)) ((1 : Int32), lo (rts (kT k) (kN k) M x).1, lo (rts (kT k) (kN k) M x).2, x1, x2) = some r ∧ r.1 = io (o : Int) := by
    refine whl_for (b := f_X8_order_L94 (lo (kT k)) (lo (kN k)) gA gB v (lo (rts (kT k) (kN k) M (1, 0)).1) (lo (rts (kT k) (kN k) M (1, 0)).2) (lo (rts (kT k) (kN k) M x).1) (lo (rts (kT k) (kN k) M x).2)) (o - 1) (fun i s => ∃ y1 y2, s = (io ((i + 1 : Nat) : Int), lo (rts (kT k) (kN k) M (pwr (kT k) (kN k) x (i + 1))).1, lo (rts (kT k) (kN k) M (pwr (kT k) (kN k) x (i + 1))).2, y1, y2)) _ ?_ ?_ 0 _ (by omega) ⟨x1, x2, ?_⟩
    · rintro i s hi ⟨y1, y2, rfl⟩
      have no : ¬ o ∣ i + 1 := fun q => by
        have := Nat.le_of_dvd (by omega) q
        omega
      have c := cc (i + 1)
      obtain ⟨a1, a2⟩ := rts_c h hS hM (pwr (kT k) (kN k) x (i + 1))
      obtain ⟨b1, b2⟩ := rts_c h hS hM x
      obtain ⟨z1, z2, T⟩ := tr8 hk a1 a2 b1 b2 h1 h2 hS s3 s5 s6 y1 y2
      have T' : f_X8_reduce (lo (kT k)) (lo (kN k)) (f_X8_times_mod_a (lo (kN k)) (lo (rts (kT k) (kN k) M (pwr (kT k) (kN k) x (i + 1))).1) (lo (rts (kT k) (kN k) M (pwr (kT k) (kN k) x (i + 1))).2) (lo (rts (kT k) (kN k) M x).1) (lo (rts (kT k) (kN k) M x).2)) (f_X8_times_mod_b (lo (kT k)) (lo (rts (kT k) (kN k) M (pwr (kT k) (kN k) x (i + 1))).1) (lo (rts (kT k) (kN k) M (pwr (kT k) (kN k) x (i + 1))).2) (lo (rts (kT k) (kN k) M x).1) (lo (rts (kT k) (kN k) M x).2)) y1 y2 gA gB v = some (lo (rts (kT k) (kN k) M (pwr (kT k) (kN k) x (i + 1 + 1))).1, lo (rts (kT k) (kN k) M (pwr (kT k) (kN k) x (i + 1 + 1))).2, z1, z2) := by
        have e : rts (kT k) (kN k) M (mu (kT k) (kN k) (rts (kT k) (kN k) M (pwr (kT k) (kN k) x (i + 1))) (rts (kT k) (kN k) M x)) = rts (kT k) (kN k) M (pwr (kT k) (kN k) x (i + 1 + 1)) := by
          rw [rts_eq hS]
          have a := cgr_mu (rts_cg (kT k) (kN k) M x) (rts_cg (kT k) (kN k) M (pwr (kT k) (kN k) x (i + 1)))
          rw [mu_comm] at a
          exact a
        rw [← e]
        exact T
      refine ⟨_, ?_, z1, z2, rfl⟩
      unfold f_X8_order_L94
      dsimp only
      rw [T']
      simp only [Option.bind_some]
      rw [io_1]
      by_cases q1 : lo (rts (kT k) (kN k) M (pwr (kT k) (kN k) x (i + 1))).1 = lo (rts (kT k) (kN k) M (1, 0)).1
      · rw [if_pos q1]
        by_cases q2 : lo (rts (kT k) (kN k) M (pwr (kT k) (kN k) x (i + 1))).2 = lo (rts (kT k) (kN k) M (1, 0)).2
        · exact absurd (c.mp ⟨q1, q2⟩) no
        · rw [if_neg q2]
          rfl
      · rw [if_neg q1]
        rfl
    · rintro s ⟨y1, y2, rfl⟩
      have e : o - 1 + 1 = o := by omega
      rw [e]
      obtain ⟨c1, c2⟩ := (cc o).mpr (Nat.dvd_refl o)
      unfold f_X8_order_L94
      dsimp only
      rw [if_pos c1, if_pos c2]
      exact ⟨_, rfl, rfl⟩
    · rw [show pwr (kT k) (kN k) x (0 + 1) = x from pwr_one _ _ _]
      rfl
  obtain ⟨⟨r1, r2, r3, r4, r5⟩, e, er⟩ := key
  dsimp only at er
  rw [er] at e
  exact ⟨r2, r3, r4, r5, e⟩
