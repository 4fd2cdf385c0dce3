/-! the class' walk -/
theorem BS_b {t n m1 m2 w : Int} (h : BS t n m1 m2 w) : 0 < sz t n m1 m2 ∧ sz t n m1 m2 ≤ 100 ∧ 0 ≤ w ∧ w < 100 ∧ rng m1 ∧ rng m2 := by
  obtain ⟨-, h1, h2, ⟨s1, s2⟩, -, -, w1, w2⟩ := h
  exact ⟨by omega, s2, w1, by omega, h1, h2⟩
theorem last7 {t n m1 m2 w : Int} (h : BS t n m1 m2 w) {x : Int × Int} (hx : sz t n x.1 x.2 ≤ 2000000000) : f_X5_lastDigit (io (sz t n m1 m2)) (io w) (pk x.1 x.2) = some (io (dg t n m1 m2 w x)) := by
  obtain ⟨s1, s2, w1, w2, -, -⟩ := BS_b h
  obtain ⟨y1, y2⟩ := yb_of h.1 (show sz t n x.1 x.2 ≤ 7000000000 by omega)
  have c1 : (1 : Int32) ≤ io (sz t n m1 m2) := (io_le (a := 1) (by unfold i32; omega) (by unfold i32; omega)).mpr (by omega)
  have mb := mul_b (x := x.2) (y := w) (X := 100000) (Y := 100) y2.1 y2.2 (by omega) (by omega)
  have fm := fm7 (a := x.1 + x.2 * w) (b := sz t n m1 m2) (by unfold i64 yb at *; omega) (by unfold i64; omega) s1
  unfold f_X5_lastDigit
  rw [if_pos c1, first_pk _ y1.i, second_pk _ y2.i, io_w (z := w) (by unfold i32; omega), io_w (z := sz t n m1 m2) (by unfold i32; omega), lo_mul, lo_add, fm]
  simp only [Option.bind_some]
  rw [lo_n]
  rfl
theorem after7 {t n m1 m2 w : Int} (h : BS t n m1 m2 w) {x : Int × Int} (hx : sz t n x.1 x.2 ≤ 2000000000) : f_X5_after (io t) (io n) (pk m1 m2) (io (sz t n m1 m2)) (io w) (pk x.1 x.2) = some (pk (nx t n m1 m2 w x).1 (nx t n m1 m2 w x).2) := by
  obtain ⟨s1, s2, w1, w2, r1, r2⟩ := BS_b h
  obtain ⟨y1, y2⟩ := yb_of h.1 (show sz t n x.1 x.2 ≤ 7000000000 by omega)
  have hd := dg_b h x
  obtain ⟨iS, iA, iB⟩ := ac_i (a := x.1 - dg t n m1 m2 w x) (b := x.2) h.1 (by unfold yb xb at *; omega) y2.x r1.y r2.y s1
  obtain ⟨p1, p2⟩ := (dg_iff h x hd.1 hd.2).mpr rfl
  have L7 : f_X4_less (pk x.1 x.2) (f_X4_number (io (dg t n m1 m2 w x)).toInt64 (0 : Int64)) = pk (x.1 - dg t n m1 m2 w x) x.2 := by
    have : f_X4_number (io (dg t n m1 m2 w x)).toInt64 (0 : Int64) = pk (dg t n m1 m2 w x) 0 := by
      rw [io_w (z := dg t n m1 m2 w x) (by unfold i32; omega)]
      rfl
    rw [this, less_pk y1.i y2.i (by unfold i32; omega) (by unfold i32; omega), Int.sub_zero]
  have q : ∀ a : Int, i64 a → sz t n m1 m2 ∣ a → f_X7_ratio (lo a) (lo (sz t n m1 m2)) = some (lo (a / sz t n m1 m2)) := by
    intro a ia hd'
    have nS := lo_nz iS (show ¬ sz t n m1 m2 = 0 by omega)
    unfold f_X7_ratio
    rw [if_neg nS, if_neg nS, lo_div ia iS s1]
    obtain ⟨c, rfl⟩ := hd'
    rw [Int.mul_tdiv_cancel_left _ (by omega), Int.mul_ediv_cancel_left _ (by omega)]
  unfold f_X5_after
  rw [last7 h hx]
  simp only [Option.bind_some]
  rw [L7]
  unfold f_X4_dividedBy
  rw [acrossA_pk h.1.it h.1.in (by unfold i32 yb at *; omega) y2.i r1.i r2.i, acrossB_pk (by unfold i32 yb at *; omega) y2.i r1.i r2.i, sizeOf_pk h.1.it h.1.in r1.i r2.i]
  have qA := q (acA t n (x.1 - dg t n m1 m2 w x) x.2 m1 m2) iA p1
  have qB := q (acB (x.1 - dg t n m1 m2 w x) x.2 m1 m2) iB p2
  unfold acA at qA
  unfold acB at qB
  rw [qA, qB]
  rfl
theorem XO_i {t n m1 m2 w : Int} (h : BS t n m1 m2 w) {x : Int × Int} (hx : sz t n x.1 x.2 ≤ 2000000000) (i : Nat) : i32 (XO (nx t n m1 m2 w) x i).1 ∧ i32 (XO (nx t n m1 m2 w) x i).2 := by
  obtain ⟨y1, y2⟩ := yb_of h.1 (show sz t n (XO (nx t n m1 m2 w) x i).1 (XO (nx t n m1 m2 w) x i).2 ≤ 7000000000 by have := XO_b h hx i; omega)
  exact ⟨y1.i, y2.i⟩
def xp (t n m1 m2 w : Int) (x : Int × Int) (i : Nat) : Int64 := pk (XO (nx t n m1 m2 w) x i).1 (XO (nx t n m1 m2 w) x i).2
theorem xp_1 {t n m1 m2 w : Int} (h : BS t n m1 m2 w) {x : Int × Int} (hx : sz t n x.1 x.2 ≤ 2000000000) (i : Nat) : f_X5_after (io t) (io n) (pk m1 m2) (io (sz t n m1 m2)) (io w) (xp t n m1 m2 w x i) = some (xp t n m1 m2 w x (i + 1)) := after7 h (XO_b h hx i)
theorem xp_eq {t n m1 m2 w : Int} (h : BS t n m1 m2 w) {x : Int × Int} (hx : sz t n x.1 x.2 ≤ 2000000000) (i j : Nat) : xp t n m1 m2 w x i = xp t n m1 m2 w x j ↔ XO (nx t n m1 m2 w) x i = XO (nx t n m1 m2 w) x j := by
  obtain ⟨a1, a2⟩ := XO_i h hx i
  obtain ⟨b1, b2⟩ := XO_i h hx j
  unfold xp
  rw [pk_inj a1 a2 b1 b2]
  exact ⟨fun e => Prod.ext e.1 e.2, fun e => by rw [e]; exact ⟨rfl, rfl⟩⟩
theorem w5 {t n m1 m2 w : Int} (h : BS t n m1 m2 w) {x : Int × Int} (hx : sz t n x.1 x.2 ≤ 2000000000) : whl (f_X5_measure_L5 (io t) (io n) (pk m1 m2) (io (sz t n m1 m2)) (io w)) (xp t n m1 m2 w x 0, (0 : Int32)) = some (xp t n m1 m2 w x 1000) := by
  have key : ∃ r, whl (f_X5_measure_L5 (io t) (io n) (pk m1 m2) (io (sz t n m1 m2)) (io w)) (xp t n m1 m2 w x 0, (0 : Int32)) = some r ∧ r = xp t n m1 m2 w x 1000 := by
    refine whl_for (b := f_X5_measure_L5 (io t) (io n) (pk m1 m2) (io (sz t n m1 m2)) (io w)) 1000 (fun i s => s = (xp t n m1 m2 w x i, io (i : Int))) _ ?_ ?_ 0 _ (by omega) rfl
    · rintro i s hi rfl
      have c1 : ¬ ((1000 : Int32) ≤ io (i : Int)) := fun e => by
        have := (io_le (a := 1000) (by unfold i32; omega) (by unfold i32; omega)).mp e
        omega
      unfold f_X5_measure_L5
      dsimp only
      rw [if_neg c1, xp_1 h hx, io_1]
      exact ⟨_, rfl, rfl⟩
    · rintro s rfl
      unfold f_X5_measure_L5
      dsimp only
      rw [if_pos (by decide)]
      exact ⟨_, rfl, rfl⟩
  obtain ⟨r, e, hr⟩ := key
  rw [e, hr]
theorem w41 {t n m1 m2 w : Int} (h : BS t n m1 m2 w) {x : Int × Int} (hx : sz t n x.1 x.2 ≤ 2000000000) (c : Nat) (hc : c ≤ 1000000) : whl (f_X5_measure_L41 (io t) (io n) (pk m1 m2) (io (sz t n m1 m2)) (io w) (io (c : Int))) (xp t n m1 m2 w x 0, (0 : Int32)) = some (xp t n m1 m2 w x c) := by
  have key : ∃ r, whl (f_X5_measure_L41 (io t) (io n) (pk m1 m2) (io (sz t n m1 m2)) (io w) (io (c : Int))) (xp t n m1 m2 w x 0, (0 : Int32)) = some r ∧ r = xp t n m1 m2 w x c := by
    refine whl_for (b := f_X5_measure_L41 (io t) (io n) (pk m1 m2) (io (sz t n m1 m2)) (io w) (io (c : Int))) c (fun i s => s = (xp t n m1 m2 w x i, io (i : Int))) _ ?_ ?_ 0 _ (by omega) rfl
    · rintro i s hi rfl
      have c1 : ¬ (io (c : Int) ≤ io (i : Int)) := fun e => by
        have := (io_le (by unfold i32; omega) (by unfold i32; omega)).mp e
        omega
      unfold f_X5_measure_L41
      dsimp only
      rw [if_neg c1, xp_1 h hx, io_1]
      exact ⟨_, rfl, rfl⟩
    · rintro s rfl
      unfold f_X5_measure_L41
      dsimp only
      rw [if_pos (Int32.le_refl _)]
      exact ⟨_, rfl, rfl⟩
  obtain ⟨r, e, hr⟩ := key
  rw [e, hr]
theorem w60 {t n m1 m2 w : Int} (h : BS t n m1 m2 w) {x : Int × Int} (hx : sz t n x.1 x.2 ≤ 2000000000) (c : Nat) (hc : c ≤ 1000000) : whl (f_X5_digitAt_L60 (io t) (io n) (pk m1 m2) (io (sz t n m1 m2)) (io w) (io (c : Int))) (xp t n m1 m2 w x 0, (0 : Int32)) = some (xp t n m1 m2 w x c) := by
  have key : ∃ r, whl (f_X5_digitAt_L60 (io t) (io n) (pk m1 m2) (io (sz t n m1 m2)) (io w) (io (c : Int))) (xp t n m1 m2 w x 0, (0 : Int32)) = some r ∧ r = xp t n m1 m2 w x c := by
    refine whl_for (b := f_X5_digitAt_L60 (io t) (io n) (pk m1 m2) (io (sz t n m1 m2)) (io w) (io (c : Int))) c (fun i s => s = (xp t n m1 m2 w x i, io (i : Int))) _ ?_ ?_ 0 _ (by omega) rfl
    · rintro i s hi rfl
      have c1 : ¬ (io (c : Int) ≤ io (i : Int)) := fun e => by
        have := (io_le (by unfold i32; omega) (by unfold i32; omega)).mp e
        omega
      unfold f_X5_digitAt_L60
      dsimp only
      rw [if_neg c1, xp_1 h hx, io_1]
      exact ⟨_, rfl, rfl⟩
    · rintro s rfl
      unfold f_X5_digitAt_L60
      dsimp only
      rw [if_pos (Int32.le_refl _)]
      exact ⟨_, rfl, rfl⟩
  obtain ⟨r, e, hr⟩ := key
  rw [e, hr]
/-- the ring's length, from any number past T -/
theorem ring7 {t n m1 m2 w : Int} (h : BS t n m1 m2 w) {x : Int × Int} (hx : sz t n x.1 x.2 ≤ 2000000000) {T L : Nat} (hr : RHO (nx t n m1 m2 w) x T L) (hL : T + L ≤ 945) : f_X5_ringLength (io t) (io n) (pk m1 m2) (io (sz t n m1 m2)) (io w) (xp t n m1 m2 w x 1000) = some (io (L : Int)) := by
  have key : ∃ r, whl (f_X5_ringLength_L9 (io t) (io n) (pk m1 m2) (io (sz t n m1 m2)) (io w) (xp t n m1 m2 w x 1000)) ((1 : Int32), xp t n m1 m2 w x 1001) = some r ∧ r = io (L : Int) := by
    have hL1 := hr.1
    refine whl_for (b := f_X5_ringLength_L9 (io t) (io n) (pk m1 m2) (io (sz t n m1 m2)) (io w) (xp t n m1 m2 w x 1000)) (L - 1) (fun i s => s = (io ((i : Int) + 1), xp t n m1 m2 w x (1000 + i + 1))) _ ?_ ?_ 0 _ (by omega) rfl
    · rintro i s hi rfl
      have c1 : ¬ ((1000 : Int32) ≤ io ((i : Int) + 1)) := fun e => by
        have := (io_le (a := 1000) (by unfold i32; omega) (by unfold i32; omega)).mp e
        omega
      have ne : ¬ xp t n m1 m2 w x (1000 + i + 1) = xp t n m1 m2 w x 1000 := fun e => by
        have := (xp_eq h hx _ _).mp e
        have n2 := rho_new hr (1000 - T) (i + 1) (by omega) (by omega)
        rw [show T + (1000 - T) + (i + 1) = 1000 + i + 1 by omega, show T + (1000 - T) = 1000 by omega] at n2
        exact n2 this
      unfold f_X5_ringLength_L9
      dsimp only
      rw [if_neg c1, if_neg ne, xp_1 h hx, io_1]
      exact ⟨_, rfl, rfl⟩
    · rintro s rfl
      have e5 : ((L - 1 : Nat) : Int) + 1 = (L : Int) := by omega
      have eq : xp t n m1 m2 w x (1000 + (L - 1) + 1) = xp t n m1 m2 w x 1000 := by
        rw [xp_eq h hx, show 1000 + (L - 1) + 1 = 1000 + L by omega]
        exact rho_per hr 1000 (by omega)
      have c1 : ¬ ((1000 : Int32) ≤ io (L : Int)) := fun e => by
        have := (io_le (a := 1000) (by unfold i32; omega) (by unfold i32; omega)).mp e
        omega
      unfold f_X5_ringLength_L9
      dsimp only
      rw [e5, if_neg c1, if_pos eq]
      exact ⟨_, rfl, rfl⟩
  obtain ⟨r, e, hr⟩ := key
  unfold f_X5_ringLength f_X5_ringLength_K9_37
  rw [xp_1 h hx]
  simp only [Option.bind_some]
  rw [e, hr]
  rfl
theorem w67 {t n m1 m2 w : Int} (h : BS t n m1 m2 w) {x : Int × Int} (hx : sz t n x.1 x.2 ≤ 2000000000) {T L : Nat} (hr : RHO (nx t n m1 m2 w) x T L) (hL : T + L ≤ 945) : whl (f_X5_measure_L67 (io t) (io n) (pk m1 m2) (io (sz t n m1 m2)) (io w)) (xp t n m1 m2 w x 0, xp t n m1 m2 w x L, (0 : Int32)) = some (io (T : Int)) := by
  have hL1 := hr.1
  have key : ∃ r, whl (f_X5_measure_L67 (io t) (io n) (pk m1 m2) (io (sz t n m1 m2)) (io w)) (xp t n m1 m2 w x 0, xp t n m1 m2 w x L, (0 : Int32)) = some r ∧ r = io (T : Int) := by
    refine whl_for (b := f_X5_measure_L67 (io t) (io n) (pk m1 m2) (io (sz t n m1 m2)) (io w)) T (fun i s => s = (xp t n m1 m2 w x i, xp t n m1 m2 w x (i + L), io (i : Int))) _ ?_ ?_ 0 _ (by omega) (by rw [Nat.zero_add]; rfl)
    · rintro i s hi rfl
      have c1 : ¬ ((1000 : Int32) ≤ io (i : Int)) := fun e => by
        have := (io_le (a := 1000) (by unfold i32; omega) (by unfold i32; omega)).mp e
        omega
      have ne : ¬ xp t n m1 m2 w x i = xp t n m1 m2 w x (i + L) := fun e => hr.2.2 i (i + L) (by omega) (by omega) ((xp_eq h hx _ _).mp e)
      unfold f_X5_measure_L67
      dsimp only
      rw [if_neg c1, if_neg ne, xp_1 h hx, xp_1 h hx, io_1, show i + L + 1 = i + 1 + L by omega]
      exact ⟨_, rfl, rfl⟩
    · rintro s rfl
      have c1 : ¬ ((1000 : Int32) ≤ io (T : Int)) := fun e => by
        have := (io_le (a := 1000) (by unfold i32; omega) (by unfold i32; omega)).mp e
        omega
      unfold f_X5_measure_L67
      dsimp only
      rw [if_neg c1, if_pos ((xp_eq h hx _ _).mpr (rho_per hr T (Nat.le_refl _)).symm)]
      exact ⟨_, rfl, rfl⟩
  obtain ⟨r, e, hr⟩ := key
  rw [e, hr]
/-- what is told: the tail, and the round or 0 -/
def RND (f : Int × Int → Int × Int) (x : Int × Int) (T L : Nat) : Nat := if XO f x T = (0, 0) then 0 else L
theorem measure7 {t n m1 m2 w : Int} (h : BS t n m1 m2 w) {x : Int × Int} (hx : sz t n x.1 x.2 ≤ 2000000000) {T L : Nat} (hr : RHO (nx t n m1 m2 w) x T L) (hL : T + L ≤ 945) (a b : Int32) : f_X5_measure (io t) (io n) (pk m1 m2) (io (sz t n m1 m2)) (io w) a b (pk x.1 x.2) = some (io (T : Int), io ((RND (nx t n m1 m2 w) x T L : Nat) : Int)) := by
  have e0 : pk x.1 x.2 = xp t n m1 m2 w x 0 := rfl
  obtain ⟨i1, i2⟩ := XO_i h hx 1000
  have z := pk_z i1 i2
  have z' : xp t n m1 m2 w x 1000 = 0 ↔ (XO (nx t n m1 m2 w) x 1000).1 = 0 ∧ (XO (nx t n m1 m2 w) x 1000).2 = 0 := z
  have e1000 : XO (nx t n m1 m2 w) x 1000 = (0, 0) ↔ XO (nx t n m1 m2 w) x T = (0, 0) := by
    rcases rho_zero h hr with ⟨g1, -, g2, -⟩ | g
    · exact ⟨fun _ => g1, fun _ => g2 1000 (by omega)⟩
    · exact ⟨fun e => absurd e (g 1000), fun e => absurd e (g T)⟩
  unfold f_X5_measure
  rw [e0, w5 h hx]
  simp only [Option.bind_some]
  unfold f_X5_measure_K5_25
  rw [ring7 h hx hr hL]
  simp only [Option.bind_some]
  rw [w41 h hx L (by omega)]
  simp only [Option.bind_some]
  unfold f_X5_measure_K41_62
  rw [w67 h hx hr hL]
  simp only [Option.bind_some]
  unfold f_X5_measure_K67_114 RND
  by_cases g : XO (nx t n m1 m2 w) x T = (0, 0)
  · have e2 := e1000.mpr g
    rw [if_pos (z'.mpr (by rw [e2]; exact ⟨rfl, rfl⟩)), if_pos g]
    rfl
  · have e2 : ¬ xp t n m1 m2 w x 1000 = 0 := fun e => g (e1000.mp (Prod.ext (z'.mp e).1 (z'.mp e).2))
    rw [if_neg e2, if_neg g]
def SD (t n m1 m2 w : Int) (x : Int × Int) : Nat → Int
  | 0 => 0
  | i + 1 => SD t n m1 m2 w x i + dg t n m1 m2 w (XO (nx t n m1 m2 w) x i)
theorem sum7 {t n m1 m2 w : Int} (h : BS t n m1 m2 w) {x : Int × Int} (hx : sz t n x.1 x.2 ≤ 2000000000) (T R : Nat) (hT : T ≤ 1000) (hR : R ≤ 1000) : f_X5_sum (io t) (io n) (pk m1 m2) (io (sz t n m1 m2)) (io w) (io (T : Int)) (io (R : Int)) (pk x.1 x.2) = some (io (SD t n m1 m2 w x (T + R))) := by
  have e0 : pk x.1 x.2 = xp t n m1 m2 w x 0 := rfl
  have eTR : io (T : Int) + io (R : Int) = io ((T + R : Nat) : Int) := by rw [io_add, Int.natCast_add]
  have key : ∃ r, whl (f_X5_sum_L8 (io t) (io n) (pk m1 m2) (io (sz t n m1 m2)) (io w) (io (T : Int)) (io (R : Int))) ((0 : Int32), xp t n m1 m2 w x 0, (0 : Int32)) = some r ∧ r = io (SD t n m1 m2 w x (T + R)) := by
    refine whl_for (b := f_X5_sum_L8 (io t) (io n) (pk m1 m2) (io (sz t n m1 m2)) (io w) (io (T : Int)) (io (R : Int))) (T + R) (fun i s => s = (io (SD t n m1 m2 w x i), xp t n m1 m2 w x i, io (i : Int))) _ ?_ ?_ 0 _ (by omega) rfl
    · rintro i s hi rfl
      have c1 : ¬ (io ((T + R : Nat) : Int) ≤ io (i : Int)) := fun e => by
        have := (io_le (by unfold i32; omega) (by unfold i32; omega)).mp e
        omega
      have ld : f_X5_lastDigit (io (sz t n m1 m2)) (io w) (xp t n m1 m2 w x i) = _ := last7 h (XO_b h hx i)
      unfold f_X5_sum_L8
      dsimp only
      rw [eTR, if_neg c1, ld, xp_1 h hx]
      simp only [Option.bind_some]
      rw [io_1, io_add]
      exact ⟨_, rfl, rfl⟩
    · rintro s rfl
      unfold f_X5_sum_L8
      dsimp only
      rw [eTR, if_pos (Int32.le_refl _)]
      exact ⟨_, rfl, rfl⟩
  obtain ⟨r, e, hr⟩ := key
  unfold f_X5_sum f_X5_sum_K8_45
  rw [e0, e, hr]
  rfl
