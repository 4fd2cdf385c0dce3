/-! the count of single rests, on both sides -/
theorem PROD_ins {t n : Int} {z : G2} {f : Nat → G2} : ∀ (m p : Nat), p ≤ m → PROD t n (GGi p z f) (m + 1) = mu t n z (PROD t n f m) := by
  intro m
  induction m with
  | zero =>
    intro p hp
    have : p = 0 := by omega
    subst this
    rfl
  | succ m ih =>
    intro p hp
    show mu t n (GGi p z f (m + 1)) (PROD t n (GGi p z f) (m + 1)) = mu t n z (mu t n (f m) (PROD t n f m))
    by_cases g : p = m + 1
    · have e1 : GGi p z f (m + 1) = z := by
        unfold GGi
        rw [if_neg (by omega), if_pos g.symm]
      have e2 : PROD t n (GGi p z f) (m + 1) = PROD t n f (m + 1) := PROD_c (m + 1) (fun j hj => by
        unfold GGi
        rw [if_pos (by omega)])
      rw [e1, e2]
      rfl
    · have e1 : GGi p z f (m + 1) = f m := by
        unfold GGi
        rw [if_neg (by omega), if_neg (by omega), Nat.add_sub_cancel]
      rw [e1, ih p (by omega), ← mu_assoc, mu_comm t n (f m) z, mu_assoc]
theorem PROD_SO {t n : Int} {s : Nat → G2} : ∀ m, PROD t n (SO t n s m) m = PROD t n s m := by
  intro m
  induction m with
  | zero => rfl
  | succ m ih =>
    have := (posn_ok t n (s m) (SO t n s m) m).1
    have e : PROD t n (SO t n s (m + 1)) (m + 1) = mu t n (s m) (PROD t n (SO t n s m) m) := PROD_ins (z := s m) (f := SO t n s m) m (posn t n (s m) (SO t n s m) m) this
    rw [e, ih]
    rfl
noncomputable def ag (f : Nat → G2) (i : Nat) : Int := @ite Int (i = 0 ∨ ¬ f i = f (i - 1)) (Classical.propDecidable _) 1 0
noncomputable def phn (t n : Int) (f : Nat → G2) : Nat → Int
  | 0 => 1
  | i + 1 => phn t n f i * (zs t n (f i) - ag f i)
def tln (t n : Int) (f : Nat → G2) : Nat → Nat → Int
  | _, 0 => 1
  | i, r + 1 => zs t n (f i) * tln t n f (i + 1) r
theorem tln_P {t n : Int} {f : Nat → G2} : ∀ (r i : Nat), zs t n (PROD t n f i) * tln t n f i r = zs t n (PROD t n f (i + r)) := by
  intro r
  induction r with
  | zero => intro i; exact Int.mul_one _
  | succ r ih =>
    intro i
    have e := ih (i + 1)
    have e2 : zs t n (PROD t n f (i + 1)) = zs t n (f i) * zs t n (PROD t n f i) := zs_mu t n _ _
    rw [e2] at e
    show zs t n (PROD t n f i) * (zs t n (f i) * tln t n f (i + 1) r) = _
    rw [show i + (r + 1) = i + 1 + r by omega, ← e]
    grind
theorem tln_1 {t n : Int} {f : Nat → G2} : ∀ (r i : Nat), (∀ j, i ≤ j → j < i + r → 2 ≤ zs t n (f j)) → 1 ≤ tln t n f i r := by
  intro r
  induction r with
  | zero => intro i _; exact Int.le_refl _
  | succ r ih =>
    intro i hz
    have a := ih (i + 1) (fun j h1 h2 => hz j (by omega) (by omega))
    have b := hz i (Nat.le_refl _) (by omega)
    have := Int.mul_le_mul (show 1 ≤ zs t n (f i) by omega) a (by omega) (by omega)
    show 1 ≤ zs t n (f i) * tln t n f (i + 1) r
    omega
theorem ag_b (f : Nat → G2) (i : Nat) : 0 ≤ ag f i ∧ ag f i ≤ 1 := by
  unfold ag
  by_cases g : i = 0 ∨ ¬ f i = f (i - 1)
  · rw [if_pos g]; omega
  · rw [if_neg g]; omega
theorem phn_b {t n : Int} {f : Nat → G2} : ∀ i, (∀ j, j < i → 2 ≤ zs t n (f j)) → 1 ≤ phn t n f i ∧ phn t n f i ≤ zs t n (PROD t n f i) := by
  intro i
  induction i with
  | zero =>
    intro _
    refine ⟨Int.le_refl _, ?_⟩
    show 1 ≤ zs t n (1, 0)
    unfold zs sz
    dsimp only
    omega
  | succ i ih =>
    intro hz
    obtain ⟨a1, a2⟩ := ih (fun j hj => hz j (by omega))
    have b := hz i (by omega)
    have c := ag_b f i
    have e : zs t n (PROD t n f (i + 1)) = zs t n (f i) * zs t n (PROD t n f i) := zs_mu t n _ _
    rw [e, Int.mul_comm]
    show 1 ≤ phn t n f i * (zs t n (f i) - ag f i) ∧ phn t n f i * (zs t n (f i) - ag f i) ≤ _
    have m1 := Int.mul_le_mul a1 (show 1 ≤ zs t n (f i) - ag f i by omega) (by omega) (by omega)
    have m2 := Int.mul_le_mul a2 (show zs t n (f i) - ag f i ≤ zs t n (f i) by omega) (by omega) (by omega)
    omega
/-- what holds of the list -/
def lis (t n : Int) (f : Nat → G2) (m : Nat) : Prop := m ≤ 31 ∧ (∀ j, j < m → SB t n (f j) ∧ 2 ≤ zs t n (f j)) ∧ zs t n (PROD t n f m) ≤ 100000
theorem lis_b {t n : Int} {f : Nat → G2} {m i : Nat} (L : lis t n f m) (hi : i ≤ m) : 1 ≤ phn t n f i ∧ 1 ≤ tln t n f i (m - i) ∧ phn t n f i * tln t n f i (m - i) ≤ 100000 ∧ phn t n f i ≤ 100000 := by
  obtain ⟨l1, l2, l3⟩ := L
  obtain ⟨a1, a2⟩ := phn_b (t := t) (n := n) (f := f) i (fun j hj => (l2 j (by omega)).2)
  have b := tln_1 (t := t) (n := n) (f := f) (m - i) i (fun j h1 h2 => (l2 j (by omega)).2)
  have c := tln_P (t := t) (n := n) (f := f) (m - i) i
  rw [show i + (m - i) = m by omega] at c
  have m1 := Int.mul_le_mul a2 (Int.le_refl (tln t n f i (m - i))) (by omega) (by omega)
  have m2 := Int.mul_le_mul (Int.le_refl (phn t n f i)) b (by omega) (by omega)
  exact ⟨a1, b, by omega, by omega⟩
theorem i32_1 : (1 : Int32).toInt64 = lo 1 := by decide
theorem i32_0 : (0 : Int32).toInt64 = lo 0 := by decide
theorem single7 {t n : Int} (h : TN t n) {f : Nat → G2} {m : Nat} (L : lis t n f m) {pri : Nat → Int64} (cp : CP m f pri) : f_X0_singles (io t) (io n) (io (m : Int)) pri = some (io (phn t n f m)) := by
  have key : ∃ r, whl (f_X0_singles_L4 (io t) (io n) (io (m : Int)) pri) ((1 : Int64), (0 : Int32)) = some r ∧ r = lo (phn t n f m) := by
    refine whl_for (b := f_X0_singles_L4 (io t) (io n) (io (m : Int)) pri) m (fun i s => s = (lo (phn t n f i), io (i : Int))) _ ?_ ?_ 0 _ (by omega) rfl
    · rintro i s hi rfl
      obtain ⟨l1, l2, l3⟩ := id L
      have c1 : ¬ (io (m : Int) ≤ io (i : Int)) := fun e => by
        have := (io_le (by unfold i32; omega) (by unfold i32; omega)).mp e
        omega
      obtain ⟨d1, d2⟩ := nat40 (i := i) (by omega)
      obtain ⟨y1, y2⟩ := yb_zs h (l2 i hi).1
      have eS : f_X4_sizeOf (io t) (io n) (pri i) = lo (zs t n (f i)) := by
        rw [cp i hi]
        exact sizeOf_pk h.it h.in y1.i y2.i
      rw [d2] at d1
      unfold f_X0_singles_L4
      dsimp only
      rw [if_neg c1, d2, eS, io_1]
      by_cases g : i = 0
      · have a1 : ag f i = 1 := by unfold ag; rw [if_pos (Or.inl g)]
        have c2 : io (i : Int) ≤ 0 := by rw [g]; decide
        have e3 : phn t n f (i + 1) = phn t n f i * (zs t n (f i) - 1) := by
          show phn t n f i * (zs t n (f i) - ag f i) = _
          rw [a1]
        rw [if_pos c2, if_neg d1, i32_1, lo_sub, lo_mul, ← e3]
        exact ⟨_, rfl, rfl⟩
      · have c2 : ¬ io (i : Int) ≤ 0 := fun e => by
          have := (io_le (b := 0) (by unfold i32; omega) (by unfold i32; omega)).mp e
          omega
        obtain ⟨e1, e2⟩ := nat40 (i := i - 1) (by omega)
        obtain ⟨z1, z2⟩ := yb_zs h (l2 (i - 1) (by omega)).1
        have P1 := io_pred (j := i) (by omega)
        have c3 : pri i = pri (i - 1) ↔ f i = f (i - 1) := by
          rw [cp i hi, cp (i - 1) (by omega), pk_inj y1.i y2.i z1.i z2.i, Prod.ext_iff]
        rw [e2] at e1
        rw [if_neg c2, if_neg d1, P1, e2, if_neg e1]
        by_cases g2 : f i = f (i - 1)
        · have a1 : ag f i = 0 := by unfold ag; rw [if_neg (fun q => q.elim g (fun q => q g2))]
          have e3 : phn t n f (i + 1) = phn t n f i * (zs t n (f i) - 0) := by
            show phn t n f i * (zs t n (f i) - ag f i) = _
            rw [a1]
          rw [if_pos (c3.mpr g2), i32_0, lo_sub, lo_mul, ← e3]
          exact ⟨_, rfl, rfl⟩
        · have a1 : ag f i = 1 := by unfold ag; rw [if_pos (Or.inr g2)]
          have e3 : phn t n f (i + 1) = phn t n f i * (zs t n (f i) - 1) := by
            show phn t n f i * (zs t n (f i) - ag f i) = _
            rw [a1]
          rw [if_neg (fun q => g2 (c3.mp q)), i32_1, lo_sub, lo_mul, ← e3]
          exact ⟨_, rfl, rfl⟩
    · rintro s rfl
      unfold f_X0_singles_L4
      dsimp only
      rw [if_pos (Int32.le_refl _)]
      exact ⟨_, rfl, rfl⟩
  obtain ⟨r, e, rfl⟩ := key
  unfold f_X0_singles f_X0_singles_K4_75
  rw [e]
  simp only [Option.bind_some]
  rw [lo_n]
theorem single8_v {t n : Int} {f : Nat → G2} {m i : Nat} (L : lis t n f m) (hi : i < m) : lo (phn t n f i * tln t n f i (m - i)) / lo (zs t n (f i)) * (lo (zs t n (f i)) - (1 : Int64)) = lo (phn t n f i * (zs t n (f i) - 1) * tln t n f (i + 1) (m - (i + 1))) := by
  obtain ⟨a1, a2, a3, a4⟩ := lis_b L (Nat.le_of_lt hi)
  obtain ⟨l1, l2, l3⟩ := L
  have z2 := (l2 i hi).2
  have zb := (l2 i hi).1
  unfold SB at zb
  have e : tln t n f i (m - i) = zs t n (f i) * tln t n f (i + 1) (m - (i + 1)) := by
    rw [show m - i = m - (i + 1) + 1 by omega]
    rfl
  have p0 := Int.mul_nonneg (show 0 ≤ phn t n f i by omega) (show 0 ≤ tln t n f i (m - i) by omega)
  rw [lo_div (by unfold i64; omega) (by unfold i64; omega) (by omega), e, show phn t n f i * (zs t n (f i) * tln t n f (i + 1) (m - (i + 1))) = zs t n (f i) * (phn t n f i * tln t n f (i + 1) (m - (i + 1))) by grind, Int.mul_tdiv_cancel_left _ (by omega), show (1 : Int64) = lo 1 from rfl, lo_sub, lo_mul]
  congr 1
  grind
theorem single8 {t n : Int} (h : TN t n) {f : Nat → G2} {m : Nat} (L : lis t n f m) {pA pB : Nat → Int64} (mp : MP m f pA pB) : whl (f_X8_single_L59 (lo t) (lo n) (io (m : Int)) pA pB) (lo (zs t n (PROD t n f m)), (0 : Int32)) = some (lo (phn t n f m)) := by
  have key : ∃ r, whl (f_X8_single_L59 (lo t) (lo n) (io (m : Int)) pA pB) (lo (zs t n (PROD t n f m)), (0 : Int32)) = some r ∧ r = lo (phn t n f m) := by
    refine whl_for (b := f_X8_single_L59 (lo t) (lo n) (io (m : Int)) pA pB) m (fun i s => s = (lo (phn t n f i * tln t n f i (m - i)), io (i : Int))) _ ?_ ?_ 0 _ (by omega) ?_
    · rintro i s hi rfl
      obtain ⟨l1, l2, l3⟩ := id L
      have c1 : ¬ (io (m : Int) ≤ io (i : Int)) := fun e => by
        have := (io_le (by unfold i32; omega) (by unfold i32; omega)).mp e
        omega
      obtain ⟨d1, d2⟩ := nat40 (i := i) (by omega)
      obtain ⟨y1, y2⟩ := yb_zs h (l2 i hi).1
      have zb := (l2 i hi).1
      have z2 := (l2 i hi).2
      unfold SB at zb
      obtain ⟨q1, q2⟩ := mp i hi
      have eS : f_X8_sizeOf (lo t) (lo n) (pA i) (pB i) = lo (zs t n (f i)) := by
        rw [q1, q2]
        exact sizeOf_m _ _ _ _
      have nz : ¬ lo (zs t n (f i)) = 0 := lo_nz (by unfold i64; omega) (by omega)
      have V := single8_v L hi
      have fresh : ag f i = 1 → lo (phn t n f i * (zs t n (f i) - 1) * tln t n f (i + 1) (m - (i + 1))) = lo (phn t n f (i + 1) * tln t n f (i + 1) (m - (i + 1))) := fun a1 => by
        show _ = lo (phn t n f i * (zs t n (f i) - ag f i) * tln t n f (i + 1) (m - (i + 1)))
        rw [a1]
      rw [d2] at d1
      unfold f_X8_single_L59
      dsimp only
      rw [if_neg c1, d2, eS, io_1]
      by_cases g : i = 0
      · have a1 : ag f i = 1 := by unfold ag; rw [if_pos (Or.inl g)]
        have c2 : io (i : Int) = 0 := by rw [g]; rfl
        rw [if_pos c2, if_neg d1, if_neg nz, V, fresh a1]
        exact ⟨_, rfl, rfl⟩
      · have c2 : ¬ io (i : Int) = 0 := fun e => by
          have := (io_eq (b := 0) (by unfold i32; omega) (by unfold i32; omega)).mp e
          omega
        obtain ⟨e1, e2⟩ := nat40 (i := i - 1) (by omega)
        obtain ⟨z1, z2'⟩ := yb_zs h (l2 (i - 1) (by omega)).1
        have P1 := io_pred (j := i) (by omega)
        obtain ⟨r1, r2⟩ := mp (i - 1) (by omega)
        have c3 : pA i = pA (i - 1) ↔ (f i).1 = (f (i - 1)).1 := by
          rw [q1, r1]
          exact lo_eq (wide y1.i) (wide z1.i)
        have c4 : pB i = pB (i - 1) ↔ (f i).2 = (f (i - 1)).2 := by
          rw [q2, r2]
          exact lo_eq (wide y2.i) (wide z2'.i)
        rw [e2] at e1
        rw [if_neg c2, if_neg d1, P1, e2, if_neg e1, if_neg nz, V]
        by_cases g2 : (f i).1 = (f (i - 1)).1
        · rw [if_pos (c3.mpr g2)]
          by_cases g3 : (f i).2 = (f (i - 1)).2
          · have a1 : ag f i = 0 := by
              unfold ag
              rw [if_neg (fun q => q.elim g (fun q => q (Prod.ext g2 g3)))]
            rw [if_pos (c4.mpr g3)]
            refine ⟨_, rfl, ?_⟩
            have e : tln t n f i (m - i) = zs t n (f i) * tln t n f (i + 1) (m - (i + 1)) := by
              rw [show m - i = m - (i + 1) + 1 by omega]
              rfl
            have e3 : phn t n f (i + 1) = phn t n f i * (zs t n (f i) - ag f i) := rfl
            rw [e, e3, a1, Int.sub_zero, Int.mul_assoc]
            rfl
          · have a1 : ag f i = 1 := by
              unfold ag
              rw [if_pos (Or.inr (fun q => g3 (by rw [q])))]
            rw [if_neg (fun q => g3 (c4.mp q)), fresh a1]
            exact ⟨_, rfl, rfl⟩
        · have a1 : ag f i = 1 := by
            unfold ag
            rw [if_pos (Or.inr (fun q => g2 (by rw [q])))]
          rw [if_neg (fun q => g2 (c3.mp q)), fresh a1]
          exact ⟨_, rfl, rfl⟩
    · rintro s rfl
      unfold f_X8_single_L59
      dsimp only
      rw [if_pos (Int32.le_refl _), Nat.sub_self]
      exact ⟨_, rfl, congrArg lo (Int.mul_one _)⟩
    · have c := tln_P (t := t) (n := n) (f := f) m 0
      have e1 : zs t n (PROD t n f 0) = 1 := by
        show zs t n (1, 0) = 1
        unfold zs sz
        dsimp only
        omega
      rw [e1, Nat.zero_add] at c
      show (lo (zs t n (PROD t n f m)), (0 : Int32)) = (lo (1 * tln t n f 0 (m - 0)), io ((0 : Nat) : Int))
      rw [Nat.sub_zero, c]
      rfl
  obtain ⟨r, e, rfl⟩ := key
  exact e
