/-! rests as numbers of two parts; powers -/
def rts (t n : Int) (M x : G2) : G2 := (rA t n x.1 x.2 M.1 M.2, rB t n x.1 x.2 M.1 M.2)
theorem rts_cg (t n : Int) (M x : G2) : cgr t n M (rts t n M x) x := by
  apply cgr_sy
  refine ⟨NQ t n x.1 x.2 M.1 M.2, ?_⟩
  unfold sb rts mu
  dsimp only
  rw [rA_def, rB_def]
  exact Prod.ext (by dsimp only; omega) (by dsimp only; omega)
theorem rts_eq {t n : Int} {M : G2} (hS : 0 < zs t n M) (x y : G2) : rts t n M x = rts t n M y ↔ cgr t n M x y := by
  have e := same_rest (a := x.1) (b := x.2) (x := y.1) (y := y.2) (c := M.1) (d := M.2) (t := t) (n := n) hS
  have e2 : PT t n (x.1 - y.1) (x.2 - y.2) M.1 M.2 ↔ DV t n M (sb x y) := PT_DV (x := sb x y) (y := M) hS
  unfold cgr
  rw [← e2, e]
  unfold rts
  rw [Prod.mk.injEq]
theorem rts_c {t n : Int} (h : TN t n) {M : G2} (hS : 0 < zs t n M) (hM : zs t n M ≤ 100000) (x : G2) : cb (rts t n M x).1 ∧ cb (rts t n M x).2 := rest_c h hS hM
theorem raised_l {k : Nat} (hk : k < 5) {M : G2} (h1 : rng M.1) (h2 : rng M.2) (hS : 0 < zs (kT k) (kN k) M) (hM : zs (kT k) (kN k) M ≤ 100000) : ∀ (f e : Nat) (p b : G2), e ≤ f → e < 2147483648 → cb p.1 → cb p.2 → cb b.1 → cb b.2 → rts (kT k) (kN k) M p = p → whl (f_X6_raised_L29 (io (kT k)) (io (kN k)) (pk M.1 M.2)) (pk p.1 p.2, pk b.1 b.2, io (e : Int)) = some (pk (rts (kT k) (kN k) M (mu (kT k) (kN k) p (pwr (kT k) (kN k) b e))).1 (rts (kT k) (kN k) M (mu (kT k) (kN k) p (pwr (kT k) (kN k) b e))).2) := by
  have h := TN_k hk
  have stop : ∀ p b : G2, rts (kT k) (kN k) M p = p → whl (f_X6_raised_L29 (io (kT k)) (io (kN k)) (pk M.1 M.2)) (pk p.1 p.2, pk b.1 b.2, io ((0 : Nat) : Int)) = some (pk (rts (kT k) (kN k) M (mu (kT k) (kN k) p (pwr (kT k) (kN k) b 0))).1 (rts (kT k) (kN k) M (mu (kT k) (kN k) p (pwr (kT k) (kN k) b 0))).2) := by
    intro p b hp
    have e1 : mu (kT k) (kN k) p (pwr (kT k) (kN k) b 0) = p := by
      show mu (kT k) (kN k) p (1, 0) = p
      rw [mu_comm, mu_1]
    rw [e1, hp]
    refine whl_r ?_
    unfold f_X6_raised_L29
    dsimp only
    rw [if_pos (show io ((0 : Nat) : Int) ≤ 0 by decide)]
  intro f
  induction f with
  | zero =>
    intro e p b he e1 p1 p2 b1 b2 hp
    have : e = 0 := by omega
    subst this
    exact stop p b hp
  | succ f ih =>
    intro e p b he e1 p1 p2 b1 b2 hp
    by_cases g : e = 0
    · subst g
      exact stop p b hp
    · have hc : io (e : Int) ≤ 0 ↔ (e : Int) ≤ 0 := io_le (b := 0) (by unfold i32; omega) (by unfold i32; omega)
      have g' : ¬ io (e : Int) ≤ 0 := fun q => by have := hc.mp q; omega
      obtain ⟨sq1, sq2⟩ := rts_c h hS hM (mu (kT k) (kN k) b b)
      have S7 : f_X4_rest (io (kT k)) (io (kN k)) (f_X4_times (io (kT k)) (io (kN k)) (pk b.1 b.2) (pk b.1 b.2)) (pk M.1 M.2) = some (pk (rts (kT k) (kN k) M (mu (kT k) (kN k) b b)).1 (rts (kT k) (kN k) M (mu (kT k) (kN k) b b)).2) := tr7 hk b1 b2 b1 b2 h1 h2 hS
      have c1 : io ((e : Int) % 2) = (0 : Int32) ↔ (e : Int) % 2 = 0 := io_eq (b := 0) (by unfold i32; omega) (by unfold i32; omega)
      have a1 := and1 (z := (e : Int)) (by omega) (by omega)
      have sh := shr1 (z := (e : Int)) (by omega) (by omega)
      have half : (e : Int) / 2 = ((e / 2 : Nat) : Int) := by omega
      rw [half] at sh
      have tw : mu (kT k) (kN k) b b = pwr (kT k) (kN k) b 2 := by
        show mu (kT k) (kN k) b b = mu (kT k) (kN k) b (pwr (kT k) (kN k) b 1)
        rw [pwr_one]
      by_cases ev : (e : Int) % 2 = 0
      · have I := ih (e / 2) p (rts (kT k) (kN k) M (mu (kT k) (kN k) b b)) (by omega) (by omega) p1 p2 sq1 sq2 hp
        have eq : rts (kT k) (kN k) M (mu (kT k) (kN k) p (pwr (kT k) (kN k) (rts (kT k) (kN k) M (mu (kT k) (kN k) b b)) (e / 2))) = rts (kT k) (kN k) M (mu (kT k) (kN k) p (pwr (kT k) (kN k) b e)) := by
          rw [rts_eq hS]
          refine cgr_mu (cgr_rf _ _ _ _) ?_
          have a := cgr_pw (rts_cg (kT k) (kN k) M (mu (kT k) (kN k) b b)) (e / 2)
          rw [tw, ← pwr_pw, show 2 * (e / 2) = e by omega, ← tw] at a
          exact a
        rw [eq] at I
        rw [← I]
        refine whl_l ?_
        unfold f_X6_raised_L29
        dsimp only
        rw [if_neg g', a1, if_pos (c1.mpr ev), S7, sh]
        rfl
      · have P7 : f_X4_rest (io (kT k)) (io (kN k)) (f_X4_times (io (kT k)) (io (kN k)) (pk p.1 p.2) (pk b.1 b.2)) (pk M.1 M.2) = some (pk (rts (kT k) (kN k) M (mu (kT k) (kN k) p b)).1 (rts (kT k) (kN k) M (mu (kT k) (kN k) p b)).2) := tr7 hk p1 p2 b1 b2 h1 h2 hS
        obtain ⟨q1, q2⟩ := rts_c h hS hM (mu (kT k) (kN k) p b)
        have rr : rts (kT k) (kN k) M (rts (kT k) (kN k) M (mu (kT k) (kN k) p b)) = rts (kT k) (kN k) M (mu (kT k) (kN k) p b) := (rts_eq hS _ _).mpr (rts_cg _ _ _ _)
        have I := ih (e / 2) (rts (kT k) (kN k) M (mu (kT k) (kN k) p b)) (rts (kT k) (kN k) M (mu (kT k) (kN k) b b)) (by omega) (by omega) q1 q2 sq1 sq2 rr
        have eq : rts (kT k) (kN k) M (mu (kT k) (kN k) (rts (kT k) (kN k) M (mu (kT k) (kN k) p b)) (pwr (kT k) (kN k) (rts (kT k) (kN k) M (mu (kT k) (kN k) b b)) (e / 2))) = rts (kT k) (kN k) M (mu (kT k) (kN k) p (pwr (kT k) (kN k) b e)) := by
          rw [rts_eq hS]
          have a := cgr_pw (rts_cg (kT k) (kN k) M (mu (kT k) (kN k) b b)) (e / 2)
          rw [tw, ← pwr_pw, ← tw] at a
          have c := cgr_mu (rts_cg (kT k) (kN k) M (mu (kT k) (kN k) p b)) a
          have e3 : pwr (kT k) (kN k) b e = mu (kT k) (kN k) b (pwr (kT k) (kN k) b (2 * (e / 2))) := by
            show _ = pwr (kT k) (kN k) b (2 * (e / 2) + 1)
            rw [show 2 * (e / 2) + 1 = e by omega]
          rw [e3, ← mu_assoc]
          exact c
        rw [eq] at I
        rw [← I]
        refine whl_l ?_
        unfold f_X6_raised_L29
        dsimp only
        rw [if_neg g', a1, if_neg (fun q => ev (c1.mp q)), P7, sh]
        simp only [Option.bind_some]
        rw [S7]
        rfl
theorem raised_v {k : Nat} (hk : k < 5) {x M : G2} (hx1 : rng x.1) (hx2 : rng x.2) (h1 : rng M.1) (h2 : rng M.2) (hS : 0 < zs (kT k) (kN k) M) (hM : zs (kT k) (kN k) M ≤ 100000) {e : Nat} (he : e < 2147483648) : f_X6_raised (io (kT k)) (io (kN k)) (pk x.1 x.2) (io (e : Int)) (pk M.1 M.2) = some (pk (rts (kT k) (kN k) M (pwr (kT k) (kN k) x e)).1 (rts (kT k) (kN k) M (pwr (kT k) (kN k) x e)).2) := by
  have h := TN_k hk
  rw [raised7 hk hx1 hx2 h1 h2 hS]
  obtain ⟨o1, o2⟩ := rts_c h hS hM (1, 0)
  obtain ⟨o3, o4⟩ := rts_c h hS hM x
  have I := raised_l hk h1 h2 hS hM e e (rts (kT k) (kN k) M (1, 0)) (rts (kT k) (kN k) M x) (Nat.le_refl _) he o1 o2 o3 o4 ((rts_eq hS _ _).mpr (rts_cg _ _ _ _))
  have eq : rts (kT k) (kN k) M (mu (kT k) (kN k) (rts (kT k) (kN k) M (1, 0)) (pwr (kT k) (kN k) (rts (kT k) (kN k) M x) e)) = rts (kT k) (kN k) M (pwr (kT k) (kN k) x e) := by
    rw [rts_eq hS]
    have a := cgr_mu (rts_cg (kT k) (kN k) M (1, 0)) (cgr_pw (rts_cg (kT k) (kN k) M x) e)
    rw [mu_1] at a
    exact a
  rw [eq] at I
  exact I
