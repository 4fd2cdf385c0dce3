/-! the number above d, on both sides -/
def Dq (t n d b : Int) : Int := 4 * d - (4 * n - t * t) * b * b
def QD (t n d b : Int) : Prop := 0 ≤ Dq t n d b ∧ isq (Dq t n d b) * isq (Dq t n d b) = Dq t n d b ∧ (2 : Int) ∣ isq (Dq t n d b) - t * b
def LY (t n d : Int) (y : G2) : Prop := (0 ≤ y.2 ∧ QD t n d y.2 ∧ isq (Dq t n d y.2) - t * y.2 = 2 * y.1 ∧ ∀ b, 0 ≤ b → b < y.2 → ¬ QD t n d b) ∨ ((∀ b, 0 ≤ b → ¬ QD t n d b) ∧ y = (d, 0))
theorem LY_u {t n d : Int} {y y' : G2} (h : LY t n d y) (h' : LY t n d y') : y = y' := by
  rcases h with ⟨a1, a2, a3, a4⟩ | ⟨a1, a2⟩ <;> rcases h' with ⟨b1, b2, b3, b4⟩ | ⟨b1, b2⟩
  · rcases Int.lt_trichotomy y.2 y'.2 with g | g | g
    · exact absurd a2 (b4 _ a1 g)
    · refine Prod.ext ?_ g
      rw [g] at a3
      omega
    · exact absurd b2 (a4 _ b1 g)
  · exact absurd a2 (b1 _ a1)
  · exact absurd b2 (a1 _ b1)
  · rw [a2, b2]
theorem LY_norm {t n d : Int} {y : G2} (h : 0 ≤ y.2 ∧ QD t n d y.2 ∧ isq (Dq t n d y.2) - t * y.2 = 2 * y.1 ∧ ∀ b, 0 ≤ b → b < y.2 → ¬ QD t n d b) : zs t n y = d := by
  obtain ⟨a1, ⟨b1, b2, b3⟩, a3, a4⟩ := h
  have f := four_sz t n y.1 y.2
  have e : 2 * y.1 + t * y.2 = isq (Dq t n d y.2) := by omega
  rw [e, b2] at f
  unfold Dq at f
  unfold zs
  omega
theorem isq_sq {x : Int} (h : 0 ≤ x) : isq (x * x) = x := (isq_uniq h (Int.le_refl _) (by
  have e : (x + 1) * (x + 1) = x * x + (2 * x + 1) := by grind
  omega)).symm
theorem QD_of {t n d : Int} {x : G2} (hx : zs t n x = d) (hb : 0 ≤ x.2) : QD t n d x.2 := by
  have f := four_sz t n x.1 x.2
  have e : Dq t n d x.2 = (2 * x.1 + t * x.2) * (2 * x.1 + t * x.2) := by
    unfold Dq
    unfold zs at hx
    omega
  have q : isq (Dq t n d x.2) = 2 * x.1 + t * x.2 ∨ isq (Dq t n d x.2) = -(2 * x.1 + t * x.2) := by
    rcases Int.lt_or_le (2 * x.1 + t * x.2) 0 with g | g
    · right
      rw [e, ← Int.neg_mul_neg]
      exact isq_sq (by omega)
    · left
      rw [e]
      exact isq_sq g
  refine ⟨by rw [e]; exact sq_nn _, ?_, ?_⟩
  · rcases q with q | q
    · rw [q, e]
    · rw [q, e, Int.neg_mul_neg]
  · rcases q with q | q
    · rw [q]; exact ⟨x.1, by omega⟩
    · rw [q]; exact ⟨-x.1 - t * x.2, by omega⟩
theorem zs_neg (t n : Int) (x : G2) : zs t n (-x.1, -x.2) = zs t n x := by unfold zs sz; dsimp only; grind
theorem LY_none {t n d : Int} (h : ∀ b, 0 ≤ b → ¬ QD t n d b) (x : G2) : ¬ zs t n x = d := by
  intro e
  rcases Int.lt_or_le x.2 0 with g | g
  · exact h (-x.2) (by omega) (QD_of (x := (-x.1, -x.2)) (by rw [zs_neg]; exact e) (by dsimp only; omega))
  · exact h x.2 g (QD_of e g)
theorem kD_b {t n : Int} (h : TN t n) : 3 ≤ 4 * n - t * t ∧ 4 * n - t * t ≤ 12 := by
  rcases h with ⟨rfl, rfl⟩ | ⟨rfl, rfl⟩ | ⟨rfl, rfl⟩ | ⟨rfl, rfl⟩ | ⟨rfl, rfl⟩ <;> omega
theorem TN_i {t n : Int} (h : TN t n) : (-1 ≤ t ∧ t ≤ 1) ∧ 1 ≤ n ∧ n ≤ 3 := by
  rcases h with ⟨rfl, rfl⟩ | ⟨rfl, rfl⟩ | ⟨rfl, rfl⟩ | ⟨rfl, rfl⟩ | ⟨rfl, rfl⟩ <;> omega
theorem Dbb {t n b : Int} (h : TN t n) (hb : 0 ≤ b ∧ b ≤ 100000) : 3 * (b * b) ≤ (4 * n - t * t) * b * b ∧ (4 * n - t * t) * b * b ≤ 120000000000 ∧ (4 * n - t * t) * b ≤ 1200000 ∧ 0 ≤ (4 * n - t * t) * b := by
  have k := kD_b h
  have m1 := Int.mul_le_mul_of_nonneg_right k.1 (sq_nn b)
  have m2 := Int.mul_le_mul_of_nonneg_right k.2 (sq_nn b)
  have m3 := Int.mul_le_mul hb.2 hb.2 hb.1 (by omega)
  have m4 := Int.mul_le_mul_of_nonneg_right k.1 hb.1
  have m5 := Int.mul_le_mul_of_nonneg_right k.2 hb.1
  rw [Int.mul_assoc]
  generalize b * b = B at *
  omega
theorem tb_b {t n b : Int} (h : TN t n) (hb : 0 ≤ b ∧ b ≤ 100000) : -100000 ≤ t * b ∧ t * b ≤ 100000 := by
  rcases h with ⟨rfl, rfl⟩ | ⟨rfl, rfl⟩ | ⟨rfl, rfl⟩ | ⟨rfl, rfl⟩ | ⟨rfl, rfl⟩ <;> omega
theorem isq_100 {x : Int} (h : 0 ≤ x) (g : x ≤ 8000000000) : 0 ≤ isq x ∧ isq x ≤ 100000 := by
  obtain ⟨q0, q1, q2⟩ := isq_spec h
  refine ⟨q0, ?_⟩
  rcases Int.lt_or_le 100000 (isq x) with z | z
  · have := sq_mono (a := 100001) (b := isq x) (by omega) (by omega)
    omega
  · exact z
theorem prim7_step {t n d : Int} (h : TN t n) (hd : 1 ≤ d ∧ d ≤ 2000000000) {b : Int} (hb : 0 ≤ b ∧ b ≤ 100000) : (Dq t n d b < 0 ∧ f_X4_primeAbove_L21 (io t) (lo d) (lo (4 * n - t * t)) (lo b) = some (Sum.inr (Sum.inr ()))) ∨ (QD t n d b ∧ f_X4_primeAbove_L21 (io t) (lo d) (lo (4 * n - t * t)) (lo b) = some (Sum.inr (Sum.inl (lo b, lo (isq (Dq t n d b)))))) ∨ (0 ≤ Dq t n d b ∧ ¬ QD t n d b ∧ f_X4_primeAbove_L21 (io t) (lo d) (lo (4 * n - t * t)) (lo b) = some (Sum.inl (lo (b + 1)))) := by
  have hT := TN_i h
  obtain ⟨m1, m2, m3, m4⟩ := Dbb h hb
  have s0 := sq_nn b
  have tb := tb_b h hb
  have c0 : ¬ ((1000000 : Int64) ≤ lo b) := fun e => by
    have := (lo_le (a := 1000000) (by unfold i64; omega) (by unfold i64; omega)).mp e
    omega
  have e1 : (4 : Int64) * lo d = lo (4 * d) := lo_mul 4 d
  have e2 : lo (4 * n - t * t) * lo b * lo b = lo ((4 * n - t * t) * b * b) := by rw [lo_mul, lo_mul]
  have c1 : lo (4 * d) < lo ((4 * n - t * t) * b * b) ↔ 4 * d < (4 * n - t * t) * b * b := lo_lt (by unfold i64; omega) (by unfold i64; omega)
  have e3 : lo (4 * d) - lo ((4 * n - t * t) * b * b) = lo (Dq t n d b) := lo_sub _ _
  have i1 : lo b + (1 : Int64) = lo (b + 1) := lo_add b 1
  have wt : (io t).toInt64 = lo t := io_w (z := t) (by unfold i32; omega)
  unfold f_X4_primeAbove_L21
  rw [if_neg c0, e1, e2]
  by_cases g : 4 * d < (4 * n - t * t) * b * b
  · left
    rw [if_pos (c1.mpr g)]
    exact ⟨by unfold Dq; omega, rfl⟩
  · right
    have hD : 0 ≤ Dq t n d b := by unfold Dq; omega
    have hD2 : Dq t n d b ≤ 8000000000 := by unfold Dq; omega
    have q := isq_100 hD hD2
    obtain ⟨q0, q1, q2⟩ := isq_spec hD
    rw [if_neg (fun e => g (c1.mp e)), e3, sqrt7 hD (by omega)]
    simp only [Option.bind_some]
    have c2 : lo (isq (Dq t n d b)) * lo (isq (Dq t n d b)) = lo (Dq t n d b) ↔ isq (Dq t n d b) * isq (Dq t n d b) = Dq t n d b := by
      rw [lo_mul]
      exact lo_eq (by unfold i64; have := sq_nn (isq (Dq t n d b)); omega) (by unfold i64; omega)
    have e4 : lo (isq (Dq t n d b)) - (io t).toInt64 * lo b = lo (isq (Dq t n d b) - t * b) := by rw [wt, lo_mul, lo_sub]
    have c3 : lo (isq (Dq t n d b) - t * b) - lo (isq (Dq t n d b) - t * b) / (2 : Int64) * (2 : Int64) = (0 : Int64) ↔ (2 : Int) ∣ isq (Dq t n d b) - t * b := dvd_lo (b := 2) (by unfold i64; omega) (by unfold i64; omega) (by omega)
    by_cases g1 : isq (Dq t n d b) * isq (Dq t n d b) = Dq t n d b
    · rw [if_pos (c2.mpr g1), e4]
      by_cases g2 : (2 : Int) ∣ isq (Dq t n d b) - t * b
      · left
        rw [if_pos (c3.mpr g2)]
        exact ⟨⟨hD, g1, g2⟩, rfl⟩
      · right
        rw [if_neg (fun e => g2 (c3.mp e)), i1]
        exact ⟨hD, fun x => g2 x.2.2, rfl⟩
    · right
      rw [if_neg (fun e => g1 (c2.mp e)), i1]
      exact ⟨hD, fun x => g1 x.2.1, rfl⟩
theorem Dq_mono {t n d b b' : Int} (h : TN t n) (hb : 0 ≤ b) (hb' : b ≤ b') (g : Dq t n d b < 0) : Dq t n d b' < 0 := by
  have k := kD_b h
  have m := Int.mul_le_mul_of_nonneg_left (sq_mono hb hb') (show 0 ≤ 4 * n - t * t by omega)
  unfold Dq at *
  rw [Int.mul_assoc] at g ⊢
  omega
theorem Dq_far {t n d b : Int} (h : TN t n) (hd : d ≤ 2000000000) (hb : 100000 ≤ b) : Dq t n d b < 0 := by
  refine Dq_mono h (b := 100000) (by omega) hb ?_
  have := (Dbb h (b := 100000) (by omega)).1
  unfold Dq
  omega
theorem prim7 {t n d : Int} (h : TN t n) (hd : 1 ≤ d ∧ d ≤ 2000000000) : ∃ y : G2, LY t n d y ∧ f_X4_primeAbove (io t) (io n) (lo d) = some (pk y.1 y.2) := by
  have hT := TN_i h
  have kb := kD_b h
  have eD : (((4 : Int32) * io n) - (io t * io t)).toInt64 = lo (4 * n - t * t) := by
    have : (4 : Int32) * io n = io (4 * n) := io_mul 4 n
    rw [this, io_mul, io_sub]
    exact io_w (z := 4 * n - t * t) (by unfold i32; omega)
  have key : ∃ z, whl (f_X4_primeAbove_L21 (io t) (lo d) (lo (4 * n - t * t))) (0 : Int64) = some z ∧ ((∃ b, 0 ≤ b ∧ b ≤ 100000 ∧ QD t n d b ∧ (∀ b', 0 ≤ b' → b' < b → ¬ QD t n d b') ∧ z = Sum.inl (lo b, lo (isq (Dq t n d b)))) ∨ ((∀ b', 0 ≤ b' → ¬ QD t n d b') ∧ z = Sum.inr ())) := by
    refine whl_fe (b := f_X4_primeAbove_L21 (io t) (lo d) (lo (4 * n - t * t))) 100000 (fun i s => s = lo (i : Int) ∧ ∀ b', 0 ≤ b' → b' < (i : Int) → ¬ QD t n d b') _ ?_ ?_ 0 _ (by omega) ⟨rfl, fun b' h1 h2 => by omega⟩
    · rintro i s hi ⟨rfl, hq⟩
      rcases prim7_step h hd (b := (i : Int)) (by omega) with ⟨g, e⟩ | ⟨g, e⟩ | ⟨g0, g, e⟩
      · left
        refine ⟨_, e, Or.inr ⟨fun b' h1 => ?_, rfl⟩⟩
        rcases Int.lt_or_le b' (i : Int) with q | q
        · exact hq b' h1 q
        · intro x
          have := Dq_mono h (by omega) q g
          have := x.1
          omega
      · left
        exact ⟨_, e, Or.inl ⟨(i : Int), by omega, by omega, g, hq, rfl⟩⟩
      · right
        refine ⟨_, e, rfl, fun b' h1 h2 => ?_⟩
        by_cases q : b' = (i : Int)
        · rw [q]; exact g
        · exact hq b' h1 (by omega)
    · rintro s ⟨rfl, hq⟩
      have far := Dq_far (d := d) h (by omega) (b := ((100000 : Nat) : Int)) (by omega)
      rcases prim7_step h hd (b := ((100000 : Nat) : Int)) (by omega) with ⟨g, e⟩ | ⟨g, e⟩ | ⟨g0, g, e⟩
      · refine ⟨_, e, Or.inr ⟨fun b' h1 => ?_, rfl⟩⟩
        rcases Int.lt_or_le b' ((100000 : Nat) : Int) with q | q
        · exact hq b' h1 q
        · intro x
          have := Dq_mono h (by omega) q g
          have := x.1
          omega
      · exact absurd g.1 (by omega)
      · omega
  obtain ⟨z, e, hz⟩ := key
  unfold f_X4_primeAbove
  rw [eD, e]
  simp only [Option.bind_some]
  rcases hz with ⟨b, b0, b1, b2, b3, rfl⟩ | ⟨g, rfl⟩
  · obtain ⟨y1, hy⟩ := b2.2.2
    refine ⟨(y1, b), Or.inl ⟨b0, b2, hy, b3⟩, ?_⟩
    have tb := tb_b h (b := b) (by omega)
    have q := isq_100 b2.1 (by have := (Dbb h (b := b) (by omega)).1; have := sq_nn b; unfold Dq; omega)
    have wt : (io t).toInt64 = lo t := io_w (z := t) (by unfold i32; omega)
    have e4 : lo (isq (Dq t n d b)) - (io t).toInt64 * lo b = lo (isq (Dq t n d b) - t * b) := by rw [wt, lo_mul, lo_sub]
    have e5 : lo (isq (Dq t n d b) - t * b) / (2 : Int64) = lo ((isq (Dq t n d b) - t * b).tdiv 2) := lo_tdiv (b := 2) (by unfold big; omega) (by unfold big; omega) (by omega)
    unfold f_X4_primeAbove_K21_99
    dsimp only [Sum.elim_inl]
    rw [e4, e5, hy, Int.mul_tdiv_cancel_left _ (by omega)]
    rfl
  · exact ⟨(d, 0), Or.inr ⟨g, rfl⟩, rfl⟩
theorem prim8_step {t n d : Int} (h : TN t n) (hd : 1 ≤ d ∧ d ≤ 2000000000) {b : Int} (hb : 0 ≤ b ∧ b ≤ 100000) (x1 x2 : Int64) : (Dq t n d b < 0 ∧ f_X8_takeOver_L2 (lo t) (lo n) (lo d) (lo b, x1, x2) = some (Sum.inr (Sum.inr (x1, x2)))) ∨ (QD t n d b ∧ ∃ y1 : Int, isq (Dq t n d b) - t * b = 2 * y1 ∧ f_X8_takeOver_L2 (lo t) (lo n) (lo d) (lo b, x1, x2) = some (Sum.inr (Sum.inl (lo y1, lo b)))) ∨ (0 ≤ Dq t n d b ∧ ¬ QD t n d b ∧ f_X8_takeOver_L2 (lo t) (lo n) (lo d) (lo b, x1, x2) = some (Sum.inl (lo (b + 1), x1, x2))) := by
  have hT := TN_i h
  obtain ⟨m1, m2, m3, m4⟩ := Dbb h hb
  have s0 := sq_nn b
  have tb := tb_b h hb
  have e1 : (4 : Int64) * lo d = lo (4 * d) := lo_mul 4 d
  have e0 : (4 : Int64) * lo n = lo (4 * n) := lo_mul 4 n
  have e2 : (((4 : Int64) * lo n) - (lo t * lo t)) * lo b * lo b = lo ((4 * n - t * t) * b * b) := by rw [e0, lo_mul, lo_sub, lo_mul, lo_mul]
  have c1 : lo (4 * d) < lo ((4 * n - t * t) * b * b) ↔ 4 * d < (4 * n - t * t) * b * b := lo_lt (by unfold i64; omega) (by unfold i64; omega)
  have e3 : lo (4 * d) - lo ((4 * n - t * t) * b * b) = lo (Dq t n d b) := lo_sub _ _
  have i1 : lo b + (1 : Int64) = lo (b + 1) := lo_add b 1
  unfold f_X8_takeOver_L2
  dsimp only
  rw [e1, e2]
  by_cases g : 4 * d < (4 * n - t * t) * b * b
  · left
    rw [if_pos (c1.mpr g)]
    exact ⟨by unfold Dq; omega, rfl⟩
  · right
    have hD : 0 ≤ Dq t n d b := by unfold Dq; omega
    have hD2 : Dq t n d b ≤ 8000000000 := by unfold Dq; omega
    have q := isq_100 hD hD2
    obtain ⟨q0, q1, q2⟩ := isq_spec hD
    rw [if_neg (fun e => g (c1.mp e))]
    unfold f_X8_hasSize
    rw [e1, e2, e3, under8 hD (by omega)]
    simp only [Option.bind_some]
    have c4 : ¬ (lo (isq (Dq t n d b)) < (0 : Int64)) := fun e => by
      have := (lo_lt (b := 0) (by unfold i64; omega) (by unfold i64; omega)).mp e
      omega
    have c2 : lo (isq (Dq t n d b)) * lo (isq (Dq t n d b)) = lo (Dq t n d b) ↔ isq (Dq t n d b) * isq (Dq t n d b) = Dq t n d b := by
      rw [lo_mul]
      exact lo_eq (by unfold i64; have := sq_nn (isq (Dq t n d b)); omega) (by unfold i64; omega)
    have e4 : lo (isq (Dq t n d b)) - lo t * lo b = lo (isq (Dq t n d b) - t * b) := by rw [lo_mul, lo_sub]
    have c3 : lo (isq (Dq t n d b) - t * b) - lo (isq (Dq t n d b) - t * b) / (2 : Int64) * (2 : Int64) = (0 : Int64) ↔ (2 : Int) ∣ isq (Dq t n d b) - t * b := dvd_lo (b := 2) (by unfold i64; omega) (by unfold i64; omega) (by omega)
    have e5 : lo (isq (Dq t n d b) - t * b) / (2 : Int64) = lo ((isq (Dq t n d b) - t * b).tdiv 2) := lo_tdiv (b := 2) (by unfold big; omega) (by unfold big; omega) (by omega)
    rw [if_neg c4]
    by_cases g1 : isq (Dq t n d b) * isq (Dq t n d b) = Dq t n d b
    · rw [if_pos (c2.mpr g1), e4]
      by_cases g2 : (2 : Int) ∣ isq (Dq t n d b) - t * b
      · left
        refine ⟨⟨hD, g1, g2⟩, ?_⟩
        rw [if_pos (c3.mpr g2), e5]
        obtain ⟨y1, hy⟩ := g2
        refine ⟨y1, hy, ?_⟩
        rw [hy, Int.mul_tdiv_cancel_left _ (by omega)]
        rfl
      · right
        rw [if_neg (fun e => g2 (c3.mp e))]
        simp only [Option.bind_some, ↓reduceIte]
        rw [i1]
        exact ⟨hD, fun x => g2 x.2.2, rfl⟩
    · right
      rw [if_neg (fun e => g1 (c2.mp e))]
      simp only [Option.bind_some, ↓reduceIte]
      rw [i1]
      exact ⟨hD, fun x => g1 x.2.1, rfl⟩
theorem prim8 {t n d : Int} (h : TN t n) (hd : 1 ≤ d ∧ d ≤ 2000000000) (x1 x2 : Int64) : ∃ y : G2, LY t n d y ∧ ((zs t n y = d ∧ whl (f_X8_takeOver_L2 (lo t) (lo n) (lo d)) ((0 : Int64), x1, x2) = some (Sum.inl (lo y.1, lo y.2))) ∨ (y = (d, 0) ∧ (∀ x, ¬ zs t n x = d) ∧ whl (f_X8_takeOver_L2 (lo t) (lo n) (lo d)) ((0 : Int64), x1, x2) = some (Sum.inr (x1, x2)))) := by
  have key : ∃ z, whl (f_X8_takeOver_L2 (lo t) (lo n) (lo d)) ((0 : Int64), x1, x2) = some z ∧ ((∃ y : G2, (0 ≤ y.2 ∧ QD t n d y.2 ∧ isq (Dq t n d y.2) - t * y.2 = 2 * y.1 ∧ ∀ b, 0 ≤ b → b < y.2 → ¬ QD t n d b) ∧ z = Sum.inl (lo y.1, lo y.2)) ∨ ((∀ b', 0 ≤ b' → ¬ QD t n d b') ∧ z = Sum.inr (x1, x2))) := by
    refine whl_fe (b := f_X8_takeOver_L2 (lo t) (lo n) (lo d)) 100000 (fun i s => s = (lo (i : Int), x1, x2) ∧ ∀ b', 0 ≤ b' → b' < (i : Int) → ¬ QD t n d b') _ ?_ ?_ 0 _ (by omega) ⟨rfl, fun b' h1 h2 => by omega⟩
    · rintro i s hi ⟨rfl, hq⟩
      rcases prim8_step h hd (b := (i : Int)) (by omega) x1 x2 with ⟨g, e⟩ | ⟨g, y1, hy, e⟩ | ⟨g0, g, e⟩
      · left
        refine ⟨_, e, Or.inr ⟨fun b' h1 => ?_, rfl⟩⟩
        rcases Int.lt_or_le b' (i : Int) with q | q
        · exact hq b' h1 q
        · intro x
          have := Dq_mono h (by omega) q g
          have := x.1
          omega
      · left
        exact ⟨_, e, Or.inl ⟨(y1, (i : Int)), ⟨Int.natCast_nonneg i, g, hy, hq⟩, rfl⟩⟩
      · right
        refine ⟨_, e, rfl, fun b' h1 h2 => ?_⟩
        by_cases q : b' = (i : Int)
        · rw [q]; exact g
        · exact hq b' h1 (by omega)
    · rintro s ⟨rfl, hq⟩
      have far := Dq_far (d := d) h (by omega) (b := ((100000 : Nat) : Int)) (by omega)
      rcases prim8_step h hd (b := ((100000 : Nat) : Int)) (by omega) x1 x2 with ⟨g, e⟩ | ⟨g, y1, hy, e⟩ | ⟨g0, g, e⟩
      · refine ⟨_, e, Or.inr ⟨fun b' h1 => ?_, rfl⟩⟩
        rcases Int.lt_or_le b' ((100000 : Nat) : Int) with q | q
        · exact hq b' h1 q
        · intro x
          have := Dq_mono h (by omega) q g
          have := x.1
          omega
      · exact absurd g.1 (by omega)
      · omega
  obtain ⟨z, e, hz⟩ := key
  rcases hz with ⟨y, hy, rfl⟩ | ⟨g, rfl⟩
  · exact ⟨y, Or.inl hy, Or.inl ⟨LY_norm hy, e⟩⟩
  · exact ⟨(d, 0), Or.inr ⟨g, rfl⟩, Or.inr ⟨rfl, LY_none g, e⟩⟩
theorem LY_cases {t n d : Int} {y : G2} (h : LY t n d y) : zs t n y = d ∨ (y = (d, 0) ∧ ∀ x, ¬ zs t n x = d) := by
  rcases h with g | ⟨g, e⟩
  · exact Or.inl (LY_norm g)
  · exact Or.inr ⟨e, LY_none g⟩
