/-! the reference's walk -/
theorem nat1000 {i : Nat} (hi : i < 1000) : ¬ (io (i : Int) < 0 ∨ 1000 ≤ (io (i : Int)).toNatClampNeg) ∧ (io (i : Int)).toNatClampNeg = i := by
  have e : (io (i : Int)).toNatClampNeg = i := by
    rw [Int32.toNatClampNeg, io_toInt (by unfold i32; omega)]
    omega
  refine ⟨?_, e⟩
  rw [e]
  rintro (h | h)
  · have := (io_lt (b := 0) (by unfold i32; omega) (by unfold i32; omega)).mp h
    omega
  · omega
theorem take8 {t n m1 m2 w : Int} (h : BS t n m1 m2 w) {x : Int × Int} (hx : sz t n x.1 x.2 ≤ 2000000000) {v : Int32} (s3 : ¬ (v < 0 ∨ 8 ≤ v.toNatClampNeg)) {gA gB : Nat → Int64} (s5 : gA v.toNatClampNeg = lo m1) (s6 : gB v.toNatClampNeg = lo m2) (x1 x2 : Int64) : ∃ y1 y2, f_X8_take (lo t) (lo n) (lo x.1) (lo x.2) x1 x2 gA gB v = some (io (dg t n m1 m2 w x), lo (nx t n m1 m2 w x).1, lo (nx t n m1 m2 w x).2, y1, y2) := by
  obtain ⟨s1, s2, w1, w2, r1, r2⟩ := BS_b h
  obtain ⟨y1, y2⟩ := yb_of h.1 (show sz t n x.1 x.2 ≤ 7000000000 by omega)
  have hd := dg_b h x
  have key : ∃ z, whl (f_X8_take_L14 (lo t) (lo n) gA gB v (lo x.1) (lo x.2)) ((0 : Int32), lo x.1, lo x.2) = some z ∧ z.1 = io (dg t n m1 m2 w x) := by
    refine whl_for (b := f_X8_take_L14 (lo t) (lo n) gA gB v (lo x.1) (lo x.2)) (dg t n m1 m2 w x).toNat (fun i s => s.1 = io (i : Int)) _ ?_ ?_ 0 _ (by omega) rfl
    · rintro i ⟨a1, a2, a3⟩ hi e1
      dsimp only at e1
      have P1 := part8 (a := x.1 - (i : Int)) (b := x.2) h.1 (by unfold xb yb at *; omega) y2.x r1.y r2.y s1 a2 a3
      have no : ¬ PT t n (x.1 - (i : Int)) x.2 m1 m2 := fun g => by
        have := (dg_iff h x (show 0 ≤ (i : Int) by omega) (by omega)).mp g
        omega
      unfold f_X8_take_L14
      dsimp only
      rw [if_neg s3, e1, io_w (z := (i : Int)) (by unfold i32; omega), lo_sub, s5, s6]
      rcases P1 with ⟨g, e⟩ | ⟨g, e⟩
      · exact absurd g no
      · rw [e]
        simp only [Option.bind_some, ↓reduceIte]
        exact ⟨_, rfl, io_1 _⟩
    · rintro ⟨a1, a2, a3⟩ e1
      dsimp only at e1
      rw [show (((dg t n m1 m2 w x).toNat : Nat) : Int) = dg t n m1 m2 w x by omega] at e1
      have P1 := part8 (a := x.1 - dg t n m1 m2 w x) (b := x.2) h.1 (by unfold xb yb at *; omega) y2.x r1.y r2.y s1 a2 a3
      have yes := (dg_iff h x hd.1 hd.2).mpr rfl
      unfold f_X8_take_L14
      dsimp only
      rw [if_neg s3, e1, io_w (z := dg t n m1 m2 w x) (by unfold i32; omega), lo_sub, s5, s6]
      rcases P1 with ⟨g, e⟩ | ⟨g, e⟩
      · rw [e]
        simp only [Option.bind_some, n10, ↓reduceIte]
        exact ⟨_, rfl, rfl⟩
      · exact absurd yes g
  obtain ⟨⟨z1, z2, z3⟩, e, hz⟩ := key
  dsimp only at hz
  have D8 := d8 (a := x.1 - dg t n m1 m2 w x) (b := x.2) h.1 (by unfold xb yb at *; omega) y2.x r1.y r2.y s1 z2 z3 x1 x2
  rw [NQ_nx h x] at D8
  refine ⟨lo (nx t n m1 m2 w x).1, lo (nx t n m1 m2 w x).2, ?_⟩
  unfold f_X8_take
  rw [e, hz]
  simp only [Option.bind_some]
  unfold f_X8_take_K14_46 f_X8_put_mod_a f_X8_put_mod_b
  rw [if_neg s3, io_w (z := dg t n m1 m2 w x) (by unfold i32; omega), lo_sub, s5, s6, D8]
  rfl
def ROW (t n m1 m2 w : Int) (x : Int × Int) (i : Nat) (rA' rB' : Nat → Int64) : Prop := ∀ j, j < i → rA' j = lo (XO (nx t n m1 m2 w) x j).1 ∧ rB' j = lo (XO (nx t n m1 m2 w) x j).2
theorem lo_pair {a b c d : Int} (ha : i32 a) (hb : i32 b) (hc : i32 c) (hd : i32 d) : (lo a = lo c ∧ lo b = lo d) ↔ (a, b) = (c, d) := by
  rw [lo_eq ha.w hc.w, lo_eq hb.w hd.w]
  exact ⟨fun e => Prod.ext e.1 e.2, fun e => by injection e with e1 e2; exact ⟨e1, e2⟩⟩
theorem seen_no {t n m1 m2 w : Int} (h : BS t n m1 m2 w) {x : Int × Int} (hx : sz t n x.1 x.2 ≤ 2000000000) {i : Nat} (hi : i ≤ 1000) {rA' rB' : Nat → Int64} (hrow : ROW t n m1 m2 w x i rA' rB') (no : ∀ j, j < i → ¬ XO (nx t n m1 m2 w) x j = XO (nx t n m1 m2 w) x i) : f_X8_seenAt (lo (XO (nx t n m1 m2 w) x i).1) (lo (XO (nx t n m1 m2 w) x i).2) (io (i : Int)) rA' rB' = some (-4) := by
  have key : ∃ z, whl (f_X8_seenAt_L2 (lo (XO (nx t n m1 m2 w) x i).1) (lo (XO (nx t n m1 m2 w) x i).2) (io (i : Int)) rA' rB') (0 : Int32) = some z ∧ z = Sum.inr () := by
    refine whl_for (b := f_X8_seenAt_L2 (lo (XO (nx t n m1 m2 w) x i).1) (lo (XO (nx t n m1 m2 w) x i).2) (io (i : Int)) rA' rB') i (fun j s => s = io (j : Int)) _ ?_ ?_ 0 _ (by omega) rfl
    · rintro j s hj rfl
      obtain ⟨d1, d2⟩ := nat1000 (i := j) (by omega)
      obtain ⟨a1, a2⟩ := XO_i h hx j
      obtain ⟨b1, b2⟩ := XO_i h hx i
      have lp := lo_pair a1 a2 b1 b2
      have c1 : ¬ (io (i : Int) ≤ io (j : Int)) := fun e => by
        have := (io_le (by unfold i32; omega) (by unfold i32; omega)).mp e
        omega
      unfold f_X8_seenAt_L2
      rw [if_neg c1, if_neg d1, d2, (hrow j hj).1, (hrow j hj).2]
      by_cases g1 : lo (XO (nx t n m1 m2 w) x j).1 = lo (XO (nx t n m1 m2 w) x i).1
      · have g2 : ¬ lo (XO (nx t n m1 m2 w) x j).2 = lo (XO (nx t n m1 m2 w) x i).2 := fun e => no j hj (lp.mp ⟨g1, e⟩)
        rw [if_pos g1, if_neg g2]
        exact ⟨_, rfl, io_1 _⟩
      · rw [if_neg g1]
        exact ⟨_, rfl, io_1 _⟩
    · rintro s rfl
      unfold f_X8_seenAt_L2
      rw [if_pos (Int32.le_refl _)]
      exact ⟨_, rfl, rfl⟩
  obtain ⟨z, e, rfl⟩ := key
  unfold f_X8_seenAt
  rw [e]
  rfl
theorem seen_at {t n m1 m2 w : Int} (h : BS t n m1 m2 w) {x : Int × Int} (hx : sz t n x.1 x.2 ≤ 2000000000) {i T : Nat} (hi : i ≤ 1000) (hT : T < i) {rA' rB' : Nat → Int64} (hrow : ROW t n m1 m2 w x i rA' rB') (yes : XO (nx t n m1 m2 w) x T = XO (nx t n m1 m2 w) x i) (no : ∀ j, j < T → ¬ XO (nx t n m1 m2 w) x j = XO (nx t n m1 m2 w) x i) : f_X8_seenAt (lo (XO (nx t n m1 m2 w) x i).1) (lo (XO (nx t n m1 m2 w) x i).2) (io (i : Int)) rA' rB' = some (io (T : Int)) := by
  have key : ∃ z, whl (f_X8_seenAt_L2 (lo (XO (nx t n m1 m2 w) x i).1) (lo (XO (nx t n m1 m2 w) x i).2) (io (i : Int)) rA' rB') (0 : Int32) = some z ∧ z = Sum.inl (io (T : Int)) := by
    refine whl_for (b := f_X8_seenAt_L2 (lo (XO (nx t n m1 m2 w) x i).1) (lo (XO (nx t n m1 m2 w) x i).2) (io (i : Int)) rA' rB') T (fun j s => s = io (j : Int)) _ ?_ ?_ 0 _ (by omega) rfl
    · rintro j s hj rfl
      obtain ⟨d1, d2⟩ := nat1000 (i := j) (by omega)
      obtain ⟨a1, a2⟩ := XO_i h hx j
      obtain ⟨b1, b2⟩ := XO_i h hx i
      have lp := lo_pair a1 a2 b1 b2
      have c1 : ¬ (io (i : Int) ≤ io (j : Int)) := fun e => by
        have := (io_le (by unfold i32; omega) (by unfold i32; omega)).mp e
        omega
      unfold f_X8_seenAt_L2
      rw [if_neg c1, if_neg d1, d2, (hrow j (by omega)).1, (hrow j (by omega)).2]
      by_cases g1 : lo (XO (nx t n m1 m2 w) x j).1 = lo (XO (nx t n m1 m2 w) x i).1
      · have g2 : ¬ lo (XO (nx t n m1 m2 w) x j).2 = lo (XO (nx t n m1 m2 w) x i).2 := fun e => no j hj (lp.mp ⟨g1, e⟩)
        rw [if_pos g1, if_neg g2]
        exact ⟨_, rfl, io_1 _⟩
      · rw [if_neg g1]
        exact ⟨_, rfl, io_1 _⟩
    · rintro s rfl
      obtain ⟨d1, d2⟩ := nat1000 (i := T) (by omega)
      have c1 : ¬ (io (i : Int) ≤ io (T : Int)) := fun e => by
        have := (io_le (by unfold i32; omega) (by unfold i32; omega)).mp e
        omega
      unfold f_X8_seenAt_L2
      rw [if_neg c1, if_neg d1, d2, (hrow T hT).1, (hrow T hT).2, yes, if_pos rfl, if_pos rfl]
      exact ⟨_, rfl, rfl⟩
  obtain ⟨z, e, rfl⟩ := key
  unfold f_X8_seenAt
  rw [e]
  rfl
theorem lay8d {t n m1 m2 w : Int} (h : BS t n m1 m2 w) {x : Int × Int} (hx : sz t n x.1 x.2 ≤ 2000000000) {T L : Nat} (hr : RHO (nx t n m1 m2 w) x T L) (hL : T + L ≤ 945) {v : Int32} (s3 : ¬ (v < 0 ∨ 8 ≤ v.toNatClampNeg)) {gA gB : Nat → Int64} (s5 : gA v.toNatClampNeg = lo m1) (s6 : gB v.toNatClampNeg = lo m2) (x1 x2 x3 x4 : Int64) (o1 o2 o3 o4 : Int32) (l1 l2 : Nat → Int64) (l3 : Nat → Int32) : ∃ y1 y2 y3 y4 rA' rB' rD', f_X8_layDigits (lo t) (lo n) x1 x2 x3 x4 o1 o2 o3 o4 gA gB l1 l2 l3 (lo x.1) (lo x.2) v = some (y1, y2, y3, y4, io (T : Int), io ((RND (nx t n m1 m2 w) x T L : Nat) : Int), io (SD t n m1 m2 w x (T + RND (nx t n m1 m2 w) x T L)), io ((T + RND (nx t n m1 m2 w) x T L : Nat) : Int), rA', rB', rD') ∧ (∀ j, j < T + RND (nx t n m1 m2 w) x T L → rD' j = io (dg t n m1 m2 w (XO (nx t n m1 m2 w) x j))) ∧ ROW t n m1 m2 w x (T + RND (nx t n m1 m2 w) x T L) rA' rB' := by
  have hL1 := hr.1
  -- what stands at the stop
  have stop : (XO (nx t n m1 m2 w) x T = (0, 0) ∧ RND (nx t n m1 m2 w) x T L = 0 ∧ ∀ i, i < T → ¬ XO (nx t n m1 m2 w) x i = (0, 0)) ∨ (RND (nx t n m1 m2 w) x T L = L ∧ ∀ i, ¬ XO (nx t n m1 m2 w) x i = (0, 0)) := by
    unfold RND
    rcases rho_zero h hr with ⟨g1, -, -, g2⟩ | g
    · left; rw [if_pos g1]; exact ⟨g1, rfl, g2⟩
    · right; rw [if_neg (g T)]; exact ⟨rfl, g⟩
  have hK : T + RND (nx t n m1 m2 w) x T L ≤ T + L := by rcases stop with ⟨-, e, -⟩ | ⟨e, -⟩ <;> omega
  have nz : ∀ i, i < T + RND (nx t n m1 m2 w) x T L → ¬ XO (nx t n m1 m2 w) x i = (0, 0) := by
    intro i hi
    rcases stop with ⟨-, e, g⟩ | ⟨-, g⟩
    · exact g i (by omega)
    · exact g i
  have zc : ∀ i, (lo (XO (nx t n m1 m2 w) x i).1 = (0 : Int64) ∧ lo (XO (nx t n m1 m2 w) x i).2 = (0 : Int64)) ↔ XO (nx t n m1 m2 w) x i = (0, 0) := fun i => lo_pair (c := 0) (d := 0) (XO_i h hx i).1 (XO_i h hx i).2 (by unfold i32; omega) (by unfold i32; omega)
  have key : ∃ z, whl (f_X8_layDigits_L16 (lo t) (lo n) gA gB v) (lo x.1, lo x.2, x3, x4, (0 : Int32), (0 : Int32), l1, l2, l3) = some z ∧ (z.1 = lo (XO (nx t n m1 m2 w) x (T + RND (nx t n m1 m2 w) x T L)).1 ∧ z.2.1 = lo (XO (nx t n m1 m2 w) x (T + RND (nx t n m1 m2 w) x T L)).2 ∧ z.2.2.2.2.1 = io (SD t n m1 m2 w x (T + RND (nx t n m1 m2 w) x T L)) ∧ z.2.2.2.2.2.1 = io ((T + RND (nx t n m1 m2 w) x T L : Nat) : Int) ∧ ROW t n m1 m2 w x (T + RND (nx t n m1 m2 w) x T L) z.2.2.2.2.2.2.1 z.2.2.2.2.2.2.2.1 ∧ ∀ j, j < T + RND (nx t n m1 m2 w) x T L → z.2.2.2.2.2.2.2.2 j = io (dg t n m1 m2 w (XO (nx t n m1 m2 w) x j))) := by
    generalize hKd : T + RND (nx t n m1 m2 w) x T L = K at *
    refine whl_for (b := f_X8_layDigits_L16 (lo t) (lo n) gA gB v) K (fun i z => z.1 = lo (XO (nx t n m1 m2 w) x i).1 ∧ z.2.1 = lo (XO (nx t n m1 m2 w) x i).2 ∧ z.2.2.2.2.1 = io (SD t n m1 m2 w x i) ∧ z.2.2.2.2.2.1 = io (i : Int) ∧ ROW t n m1 m2 w x i z.2.2.2.2.2.2.1 z.2.2.2.2.2.2.2.1 ∧ ∀ j, j < i → z.2.2.2.2.2.2.2.2 j = io (dg t n m1 m2 w (XO (nx t n m1 m2 w) x j))) _ ?_ ?_ 0 _ (by omega) ⟨rfl, rfl, rfl, rfl, fun j hj => by omega, fun j hj => by omega⟩
    · rintro i ⟨a1, a2, a3, a4, a5, a6, a7, a8, a9⟩ hi ⟨e1, e2, e3, e4, e5, e6⟩
      dsimp only at e1 e2 e3 e4 e5 e6
      obtain ⟨d1, d2⟩ := nat1000 (i := i) (by omega)
      have sn := seen_no h hx (i := i) (by omega) e5 (fun j hj => hr.2.2 j i hj (by omega))
      obtain ⟨y1, y2, T8⟩ := take8 h (XO_b h hx i) s3 s5 s6 a3 a4
      have new : ∀ (q : Int32), q = io (dg t n m1 m2 w (XO (nx t n m1 m2 w) x i)) → ROW t n m1 m2 w x (i + 1) (vp_updL a7 i (lo (XO (nx t n m1 m2 w) x i).1)) (vp_updL a8 i (lo (XO (nx t n m1 m2 w) x i).2)) ∧ ∀ j, j < i + 1 → (upd a9 i q) j = io (dg t n m1 m2 w (XO (nx t n m1 m2 w) x j)) := by
        intro q hq
        constructor
        · intro j hj
          unfold vp_updL
          by_cases g : j = i
          · rw [if_pos g, if_pos g, g]; exact ⟨rfl, rfl⟩
          · rw [if_neg g, if_neg g]; exact e5 j (by omega)
        · intro j hj
          unfold upd
          by_cases g : j = i
          · rw [if_pos g, g]; exact hq
          · rw [if_neg g]; exact e6 j (by omega)
      have self : ∀ q : Int32, (upd a9 i q) i = q := by intro q; unfold upd; rw [if_pos rfl]
      obtain ⟨n1, n2⟩ := new _ rfl
      unfold f_X8_layDigits_L16
      dsimp only
      rw [d2] at d1
      rw [e1, e2, e3, e4, sn, d2]
      simp only [Option.bind_some, d1, T8, self, io_add, ↓reduceIte]
      rw [io_1]
      have nz' := nz i hi
      by_cases z1 : lo (XO (nx t n m1 m2 w) x i).1 = (0 : Int64)
      · have z2 : ¬ lo (XO (nx t n m1 m2 w) x i).2 = (0 : Int64) := fun e => nz' ((zc i).mp ⟨z1, e⟩)
        rw [if_pos z1, if_neg z2]
        exact ⟨_, rfl, rfl, rfl, rfl, rfl, n1, n2⟩
      · rw [if_neg z1]
        exact ⟨_, rfl, rfl, rfl, rfl, rfl, n1, n2⟩
    · rintro ⟨a1, a2, a3, a4, a5, a6, a7, a8, a9⟩ ⟨e1, e2, e3, e4, e5, e6⟩
      dsimp only at e1 e2 e3 e4 e5 e6
      unfold f_X8_layDigits_L16
      dsimp only
      rw [e1, e2, e3, e4]
      rcases stop with ⟨g1, g2, g3⟩ | ⟨g2, g3⟩
      · have hKT : K = T := by omega
        have zz := (zc K).mpr (by rw [hKT]; exact g1)
        rw [if_pos zz.1, if_pos zz.2]
        exact ⟨_, rfl, rfl, rfl, rfl, rfl, e5, e6⟩
      · have hKT : K = T + L := by omega
        have yes : XO (nx t n m1 m2 w) x T = XO (nx t n m1 m2 w) x K := by rw [hKT]; exact hr.2.1.symm
        have sa := seen_at h hx (i := K) (T := T) (by omega) (by omega) e5 yes (fun j hj => by rw [← yes]; exact hr.2.2 j T hj (by omega))
        have ne : ¬ (io (T : Int) = (-4 : Int32)) := fun e => by
          have := (io_eq (b := -4) (by unfold i32; omega) (by unfold i32; omega)).mp e
          omega
        rw [sa]
        simp only [Option.bind_some, ne, ↓reduceIte]
        by_cases z1 : lo (XO (nx t n m1 m2 w) x K).1 = (0 : Int64)
        · have z2 : ¬ lo (XO (nx t n m1 m2 w) x K).2 = (0 : Int64) := fun e => g3 K ((zc K).mp ⟨z1, e⟩)
          rw [if_pos z1, if_neg z2]
          exact ⟨_, rfl, rfl, rfl, rfl, rfl, e5, e6⟩
        · rw [if_neg z1]
          exact ⟨_, rfl, rfl, rfl, rfl, rfl, e5, e6⟩
  obtain ⟨⟨a1, a2, a3, a4, a5, a6, a7, a8, a9⟩, e, e1, e2, e3, e4, e5, e6⟩ := key
  dsimp only at e1 e2 e3 e4 e5 e6
  refine ⟨a1, a2, a3, a4, a7, a8, a9, ?_, e6, e5⟩
  unfold f_X8_layDigits f_X8_put_mod_a f_X8_put_mod_b
  rw [e]
  simp only [Option.bind_some]
  unfold f_X8_layDigits_K16_115
  rw [e1, e2, e3, e4]
  rcases stop with ⟨g1, g2, g3⟩ | ⟨g2, g3⟩
  · have zz := (zc (T + RND (nx t n m1 m2 w) x T L)).mpr (by rw [g2]; exact g1)
    rw [if_pos zz.1, if_pos zz.2, g2, Nat.add_zero, io_sub, Int.sub_self]
    rfl
  · have yes : XO (nx t n m1 m2 w) x T = XO (nx t n m1 m2 w) x (T + RND (nx t n m1 m2 w) x T L) := by rw [g2]; exact hr.2.1.symm
    have sa := seen_at h hx (i := T + RND (nx t n m1 m2 w) x T L) (T := T) (by omega) (by omega) e5 yes (fun j hj => by rw [← yes]; exact hr.2.2 j T hj (by omega))
    have er : io ((T + RND (nx t n m1 m2 w) x T L : Nat) : Int) - io (T : Int) = io ((RND (nx t n m1 m2 w) x T L : Nat) : Int) := by
      rw [io_sub, Int.natCast_add]
      congr 1
      omega
    rw [sa]
    simp only [Option.bind_some]
    rw [er]
    by_cases z1 : lo (XO (nx t n m1 m2 w) x (T + RND (nx t n m1 m2 w) x T L)).1 = (0 : Int64)
    · have z2 : ¬ lo (XO (nx t n m1 m2 w) x (T + RND (nx t n m1 m2 w) x T L)).2 = (0 : Int64) := fun e => g3 _ ((zc _).mp ⟨z1, e⟩)
      rw [if_pos z1, if_neg z2]
    · rw [if_neg z1]
