/-! the chain with what makes it -/
theorem sz_mulm (t n a b c d : Int) : sz t n (mA n a b c d) (mB t a b c d) = sz t n a b * sz t n c d := sz_mul t n a b c d
theorem sz_tri {t n : Int} (h : TN t n) (a b c d : Int) : 16 * sz t n (a + c) (b + d) ≤ 17 * sz t n a b + 272 * sz t n c d := by
  have e := sz_nn h (a - 16 * c) (b - 16 * d)
  have e2 : sz t n (a - 16 * c) (b - 16 * d) = 17 * sz t n a b + 272 * sz t n c d - 16 * sz t n (a + c) (b + d) := by unfold sz; grind
  omega
def wb (z : Int) : Prop := -1000000 ≤ z ∧ z ≤ 1000000
theorem wb.i {z : Int} (h : wb z) : i32 z := ⟨by have := h.1; omega, by have := h.2; omega⟩
theorem wb.x {z : Int} (h : wb z) : xb z := ⟨by have := h.1; omega, by have := h.2; omega⟩
theorem wb.u {z : Int} (h : wb z) : ub z := ⟨by have := h.1; omega, by have := h.2; omega⟩
theorem wb_of {t n a b : Int} (h : TN t n) (hs : sz t n a b ≤ 632000000000) : wb a ∧ wb b := by
  have e := sz_4 t n a b
  have f := sz_4b t n a b
  have g1 := sq_nn (t * a + 2 * n * b)
  have g2 := sq_nn (2 * a + t * b)
  have ka : a * a ≤ 1000000 * 1000000 := by
    generalize (t * a + 2 * n * b) * (t * a + 2 * n * b) = Z at *
    generalize sz t n a b = N at *
    generalize a * a = A at *
    rcases h with ⟨rfl, rfl⟩ | ⟨rfl, rfl⟩ | ⟨rfl, rfl⟩ | ⟨rfl, rfl⟩ | ⟨rfl, rfl⟩ <;> omega
  have kb : b * b ≤ 1000000 * 1000000 := by
    generalize (2 * a + t * b) * (2 * a + t * b) = Z at *
    generalize sz t n a b = N at *
    generalize b * b = A at *
    rcases h with ⟨rfl, rfl⟩ | ⟨rfl, rfl⟩ | ⟨rfl, rfl⟩ | ⟨rfl, rfl⟩ | ⟨rfl, rfl⟩ <;> omega
  exact ⟨sq_le (by omega) ka, sq_le (by omega) kb⟩
def BZ (t n a b c d u1 u2 U1 U2 : Int) : Prop := sz t n u1 u2 ≤ 632000000000 ∧ sz t n U1 U2 ≤ 632000000000 ∧ sz t n U1 U2 * sz t n c d ≤ 600000000000 ∧ sz t n (mA n u1 u2 c d - mA n U1 U2 a b) (mB t u1 u2 c d - mB t U1 U2 a b) ≤ 2000000000
theorem BZ_step {t n a b c d u1 u2 U1 U2 q1 q2 : Int} (h : TN t n) (hb : BZ t n a b c d u1 u2 U1 U2) (hS : 0 < sz t n c d) (hr : 16 * sz t n (a - mA n q1 q2 c d) (b - mB t q1 q2 c d) ≤ 15 * sz t n c d) : BZ t n c d (a - mA n q1 q2 c d) (b - mB t q1 q2 c d) U1 U2 (u1 - mA n q1 q2 U1 U2) (u2 - mB t q1 q2 U1 U2) := by
  obtain ⟨h1, h2, h3, h4⟩ := hb
  have d1 : mA n U1 U2 (a - mA n q1 q2 c d) (b - mB t q1 q2 c d) - mA n (u1 - mA n q1 q2 U1 U2) (u2 - mB t q1 q2 U1 U2) c d = -(mA n u1 u2 c d - mA n U1 U2 a b) := by unfold mA mB; grind
  have d2 : mB t U1 U2 (a - mA n q1 q2 c d) (b - mB t q1 q2 c d) - mB t (u1 - mA n q1 q2 U1 U2) (u2 - mB t q1 q2 U1 U2) c d = -(mB t u1 u2 c d - mB t U1 U2 a b) := by unfold mA mB; grind
  have e5 : sz t n (mA n U1 U2 (a - mA n q1 q2 c d) (b - mB t q1 q2 c d) - mA n (u1 - mA n q1 q2 U1 U2) (u2 - mB t q1 q2 U1 U2) c d) (mB t U1 U2 (a - mA n q1 q2 c d) (b - mB t q1 q2 c d) - mB t (u1 - mA n q1 q2 U1 U2) (u2 - mB t q1 q2 U1 U2) c d) = sz t n (mA n u1 u2 c d - mA n U1 U2 a b) (mB t u1 u2 c d - mB t U1 U2 a b) := by
    rw [d1, d2]; unfold sz; grind
  generalize a - mA n q1 q2 c d = r1 at *
  generalize b - mB t q1 q2 c d = r2 at *
  generalize u1 - mA n q1 q2 U1 U2 = w1 at *
  generalize u2 - mB t q1 q2 U1 U2 = w2 at *
  have t1 := sz_tri h (mA n U1 U2 r1 r2) (mB t U1 U2 r1 r2) (-(mA n U1 U2 r1 r2 - mA n w1 w2 c d)) (-(mB t U1 U2 r1 r2 - mB t w1 w2 c d))
  have t2 : sz t n (-(mA n U1 U2 r1 r2 - mA n w1 w2 c d)) (-(mB t U1 U2 r1 r2 - mB t w1 w2 c d)) = sz t n (mA n U1 U2 r1 r2 - mA n w1 w2 c d) (mB t U1 U2 r1 r2 - mB t w1 w2 c d) := by unfold sz; grind
  have t3 : mA n U1 U2 r1 r2 + -(mA n U1 U2 r1 r2 - mA n w1 w2 c d) = mA n w1 w2 c d := by omega
  have t4 : mB t U1 U2 r1 r2 + -(mB t U1 U2 r1 r2 - mB t w1 w2 c d) = mB t w1 w2 c d := by omega
  rw [t2, t3, t4, sz_mulm, sz_mulm, e5] at t1
  have nU := sz_nn h U1 U2
  have nW := sz_nn h w1 w2
  have p1 := Int.mul_le_mul_of_nonneg_left hr nU
  have p2 : sz t n U1 U2 * (16 * sz t n r1 r2) = 16 * (sz t n U1 U2 * sz t n r1 r2) := by grind
  have p3 : sz t n U1 U2 * (15 * sz t n c d) = 15 * (sz t n U1 U2 * sz t n c d) := by grind
  have p4 := Int.mul_le_mul_of_nonneg_left hr nW
  have p5 : sz t n w1 w2 * (16 * sz t n r1 r2) = 16 * (sz t n w1 w2 * sz t n r1 r2) := by grind
  have p6 : sz t n w1 w2 * (15 * sz t n c d) = 15 * (sz t n w1 w2 * sz t n c d) := by grind
  have p7 : sz t n w1 w2 * 1 ≤ sz t n w1 w2 * sz t n c d := Int.mul_le_mul_of_nonneg_left (by omega) nW
  rw [p2, p3] at p1
  rw [p5, p6] at p4
  refine ⟨h2, by omega, by omega, ?_⟩
  rw [e5]
  exact h4
theorem mA_sub_i {n a U q1 q2 c d : Int} (e : a - mA n q1 q2 c d = U) (h1 : wb a) (h2 : wb U) : i32 (mA n q1 q2 c d) := by
  unfold wb i32 at *
  omega
theorem mB_sub_i {t a U q1 q2 c d : Int} (e : a - mB t q1 q2 c d = U) (h1 : wb a) (h2 : wb U) : i32 (mB t q1 q2 c d) := by
  unfold wb i32 at *
  omega
theorem yb.wb {z : Int} (h : yb z) : wb z := ⟨by have := h.1; omega, by have := h.2; omega⟩
/-- less of a product -/
theorem lt7 {t n u1 u2 q1 q2 c d : Int} (h : TN t n) (hu1 : wb u1) (hu2 : wb u2) (hq1 : i32 q1) (hq2 : i32 q2) (hc : i32 c) (hd : i32 d) (hw1 : wb (u1 - mA n q1 q2 c d)) (hw2 : wb (u2 - mB t q1 q2 c d)) : f_X4_less (pk u1 u2) (f_X4_times (io t) (io n) (pk q1 q2) (pk c d)) = pk (u1 - mA n q1 q2 c d) (u2 - mB t q1 q2 c d) := by
  rw [times_k h.it h.in hq1 hq2 hc hd, less_pk hu1.i hu2.i (mA_sub_i rfl hu1 hw1) (mB_sub_i rfl hu2 hw2)]
theorem mk_both {t n : Int} (h : TN t n) : ∀ (f : Nat) (a b c d u1 u2 v1 v2 U1 U2 V1 V2 i : Int) (x1 x2 x3 x4 : Int64), sz t n a b ≤ 2000000000 → sz t n c d ≤ 2000000000 → sz t n c d ≤ TT f → ¬ (a = 0 ∧ b = 0 ∧ c = 0 ∧ d = 0) → 0 ≤ i → i + f < 1000000 → BZ t n a b c d u1 u2 U1 U2 → BZ t n a b c d v1 v2 V1 V2 →
    ∃ a' b' u1' u2' v1' v2' : Int, ∃ y1 y2 y3 y4, whl (f_X3_find_L31 (io t) (io n)) (pk c d, pk U1 U2, pk V1 V2, io i, pk a b, pk u1 u2, pk v1 v2) = some (pk a' b', pk u1' u2', pk v1' v2') ∧ whl (f_X8_make_L46 (lo t) (lo n)) (lo a, lo b, lo c, lo d, lo U1, lo U2, lo V1, lo V2, x1, x2, x3, x4, lo u1, lo u2, lo v1, lo v2) = some (lo a', lo b', y1, y2, y3, y4, lo u1', lo u2', lo v1', lo v2') ∧ ¬ (a' = 0 ∧ b' = 0) ∧ sz t n a' b' ≤ 2000000000 ∧ sz t n u1' u2' ≤ 632000000000 ∧ sz t n v1' v2' ≤ 632000000000 := by
  intro f
  have endc : ∀ (a b c d u1 u2 v1 v2 U1 U2 V1 V2 i : Int) (x1 x2 x3 x4 : Int64), sz t n a b ≤ 2000000000 → ¬ (a = 0 ∧ b = 0 ∧ c = 0 ∧ d = 0) → 0 ≤ i → i < 1000000 → BZ t n a b c d u1 u2 U1 U2 → BZ t n a b c d v1 v2 V1 V2 → c = 0 ∧ d = 0 → ∃ a' b' u1' u2' v1' v2' : Int, ∃ y1 y2 y3 y4, whl (f_X3_find_L31 (io t) (io n)) (pk c d, pk U1 U2, pk V1 V2, io i, pk a b, pk u1 u2, pk v1 v2) = some (pk a' b', pk u1' u2', pk v1' v2') ∧ whl (f_X8_make_L46 (lo t) (lo n)) (lo a, lo b, lo c, lo d, lo U1, lo U2, lo V1, lo V2, x1, x2, x3, x4, lo u1, lo u2, lo v1, lo v2) = some (lo a', lo b', y1, y2, y3, y4, lo u1', lo u2', lo v1', lo v2') ∧ ¬ (a' = 0 ∧ b' = 0) ∧ sz t n a' b' ≤ 2000000000 ∧ sz t n u1' u2' ≤ 632000000000 ∧ sz t n v1' v2' ≤ 632000000000 := by
    rintro a b c d u1 u2 v1 v2 U1 U2 V1 V2 i x1 x2 x3 x4 ha h0 hi hi2 hu hv ⟨rfl, rfl⟩
    have c1 : ¬ ((1000000 : Int32) ≤ io i) := fun e => by
      have := (io_le (a := 1000000) (by unfold i32; omega) (by unfold i32; omega)).mp e
      omega
    refine ⟨a, b, u1, u2, v1, v2, x1, x2, x3, x4, whl_r ?_, whl_r ?_, fun e => h0 ⟨e.1, e.2, rfl, rfl⟩, ha, hu.1, hv.1⟩
    · unfold f_X3_find_L31
      dsimp only
      rw [if_neg c1, if_pos pk_0.symm]
    · unfold f_X8_make_L46
      dsimp only
      rw [if_pos (show lo 0 = (0 : Int64) from rfl), if_pos (show lo 0 = (0 : Int64) from rfl)]
  induction f with
  | zero =>
    intro a b c d u1 u2 v1 v2 U1 U2 V1 V2 i x1 x2 x3 x4 ha hc hT h0 hi hi2 hu hv
    have h2 : TT 0 = 0 := rfl
    have h1 := sz_nn h c d
    exact endc a b c d u1 u2 v1 v2 U1 U2 V1 V2 i x1 x2 x3 x4 ha h0 hi (by omega) hu hv (sz_0 h (by omega))
  | succ f ih =>
    intro a b c d u1 u2 v1 v2 U1 U2 V1 V2 i x1 x2 x3 x4 ha hc hT h0 hi hi2 hu hv
    by_cases g : c = 0 ∧ d = 0
    · exact endc a b c d u1 u2 v1 v2 U1 U2 V1 V2 i x1 x2 x3 x4 ha h0 hi (by omega) hu hv g
    · have hS := sz_pos h g
      obtain ⟨ya, yB⟩ := yb_of h (show sz t n a b ≤ 7000000000 by omega)
      obtain ⟨yc, yd⟩ := yb_of h (show sz t n c d ≤ 7000000000 by omega)
      obtain ⟨r1, r2, r3⟩ := rAB_y (a := a) (b := b) h hS (by omega)
      have hrs := rS_le (a := a) (b := b) h hS
      have hrd := rS_def t n a b c d
      have hrT := rS_T (a := a) (b := b) h hS hT
      obtain ⟨q1, q2⟩ := NQ_i h ya.x yB.x yc yd hS
      have eA : a - mA n (NQ t n a b c d).1 (NQ t n a b c d).2 c d = rA t n a b c d := rfl
      have eB : b - mB t (NQ t n a b c d).1 (NQ t n a b c d).2 c d = rB t n a b c d := rfl
      have bu := BZ_step (q1 := (NQ t n a b c d).1) (q2 := (NQ t n a b c d).2) h hu hS (by rw [eA, eB]; omega)
      have bv := BZ_step (q1 := (NQ t n a b c d).1) (q2 := (NQ t n a b c d).2) h hv hS (by rw [eA, eB]; omega)
      have d8' := d8 h ya.x yB.x yc yd hS x1 x2 x3 x4
      have q7' := q7 h ya.x yB.x yc yd hS
      have dA : rsA n a c d (NQ t n a b c d).1 (NQ t n a b c d).2 = rA t n a b c d := rfl
      have dB : rsB t b c d (NQ t n a b c d).1 (NQ t n a b c d).2 = rB t n a b c d := rfl
      rw [dA, dB] at d8'
      rw [eA, eB] at bu bv
      obtain ⟨wu1, wu2⟩ := wb_of h hu.1
      obtain ⟨wU1, wU2⟩ := wb_of h hu.2.1
      obtain ⟨wv1, wv2⟩ := wb_of h hv.1
      obtain ⟨wV1, wV2⟩ := wb_of h hv.2.1
      obtain ⟨wW1, wW2⟩ := wb_of h bu.2.1
      obtain ⟨wX1, wX2⟩ := wb_of h bv.2.1
      have l1 := lt7 (t := t) (n := n) (q1 := (NQ t n a b c d).1) (q2 := (NQ t n a b c d).2) (c := c) (d := d) h ya.wb yB.wb q1 q2 yc.i yd.i (by rw [eA]; exact r1.wb) (by rw [eB]; exact r2.wb)
      have l2 := lt7 h wu1 wu2 q1 q2 wU1.i wU2.i wW1 wW2
      have l3 := lt7 h wv1 wv2 q1 q2 wV1.i wV2.i wX1 wX2
      rw [eA, eB] at l1
      have c1 : ¬ ((1000000 : Int32) ≤ io i) := fun e => by
        have := (io_le (a := 1000000) (by unfold i32; omega) (by unfold i32; omega)).mp e
        omega
      have hx := ih c d (rA t n a b c d) (rB t n a b c d) U1 U2 V1 V2 _ _ _ _ (i + 1) (lo (mA n (NQ t n a b c d).1 (NQ t n a b c d).2 V1 V2)) (lo (mB t (NQ t n a b c d).1 (NQ t n a b c d).2 V1 V2)) (lo (NQ t n a b c d).1) (lo (NQ t n a b c d).2) hc (by omega) (by omega) (fun e => g ⟨e.1, e.2.1⟩) (by omega) (by omega) bu bv
      obtain ⟨a', b', u1', u2', v1', v2', y1, y2, y3, y4, e7, e8, hx2⟩ := hx
      refine ⟨a', b', u1', u2', v1', v2', y1, y2, y3, y4, ?_, ?_, hx2⟩
      · refine (whl_l ?_).trans e7
        unfold f_X3_find_L31
        dsimp only
        rw [if_neg c1, if_neg (fun e => g ((pk_z yc.i yd.i).mp e)), q7']
        simp only [Option.bind_some]
        rw [l1, l2, l3, io_1]
      · refine (whl_l ?_).trans e8
        unfold f_X8_make_L46
        dsimp only
        rw [d8']
        simp only [Option.bind_some]
        rw [timesA_k, timesB_k, timesA_k, timesB_k, lo_sub, lo_sub, lo_sub, lo_sub]
        by_cases z1 : c = 0
        · rw [if_pos ((lo_z yc).mpr z1), if_neg (fun e => g ⟨z1, (lo_z yd).mp e⟩)]
        · rw [if_neg (fun e => z1 ((lo_z yc).mp e))]
theorem pk_one : (4294967296 : Int64) = pk 1 0 := by decide
/-- find and make -/
theorem find_make {t n : Int} (h : TN t n) {a b c d : Int} (ha : sz t n a b ≤ 2000000000) (hc : sz t n c d ≤ 2000000000) (h0 : ¬ (a = 0 ∧ b = 0 ∧ c = 0 ∧ d = 0)) (u : Int32) (s z1 z2 z3 x1 x2 x3 x4 w1 w2 w3 w4 w5 w6 : Int64) : ∃ a' b' u1 u2 v1 v2 : Int, ∃ y1 y2 y3 y4, f_X3_find (io t) (io n) u s z1 z2 z3 (pk a b) (pk c d) = f_X3_find_K31_156 (io t) (io n) u s (pk a' b') (pk u1 u2) (pk v1 v2) ∧ f_X8_make (lo t) (lo n) x1 x2 x3 x4 w1 w2 w3 w4 w5 w6 (lo a) (lo b) (lo c) (lo d) = some (y1, y2, y3, y4, lo u1, lo u2, lo v1, lo v2, lo a', lo b') ∧ ¬ (a' = 0 ∧ b' = 0) ∧ sz t n a' b' ≤ 2000000000 ∧ sz t n u1 u2 ≤ 632000000000 ∧ sz t n v1 v2 ≤ 632000000000 := by
  have na := sz_nn h a b
  have nc := sz_nn h c d
  have s0 : sz t n 0 0 = 0 := by unfold sz; grind
  have s1 : sz t n 1 0 = 1 := by unfold sz; grind
  have bu : BZ t n a b c d 1 0 0 0 := by
    refine ⟨by omega, by omega, by rw [s0, Int.zero_mul]; omega, ?_⟩
    have e1 : mA n 1 0 c d - mA n 0 0 a b = c := by unfold mA; grind
    have e2 : mB t 1 0 c d - mB t 0 0 a b = d := by unfold mB; grind
    rw [e1, e2]
    exact hc
  have bv : BZ t n a b c d 0 0 1 0 := by
    refine ⟨by omega, by omega, by rw [s1, Int.one_mul]; omega, ?_⟩
    have e1 : mA n 0 0 c d - mA n 1 0 a b = -a := by unfold mA; grind
    have e2 : mB t 0 0 c d - mB t 1 0 a b = -b := by unfold mB; grind
    have e3 : sz t n (-a) (-b) = sz t n a b := by unfold sz; grind
    rw [e1, e2, e3]
    exact ha
  have hT : sz t n c d ≤ TT 400 := by have := TT_400; omega
  obtain ⟨a', b', u1, u2, v1, v2, y1, y2, y3, y4, e7, e8, hx⟩ := mk_both h 400 a b c d 1 0 0 0 0 0 1 0 0 x1 x2 x3 x4 ha hc hT h0 (by omega) (by omega) bu bv
  refine ⟨a', b', u1, u2, v1, v2, y1, y2, y3, y4, ?_, ?_, hx⟩
  · unfold f_X3_find
    rw [pk_one, show (0 : Int64) = pk 0 0 from pk_0, show (0 : Int32) = io 0 from rfl, e7]
    rfl
  · unfold f_X8_make f_X8_make_K46_215
    rw [show (0 : Int64) = lo 0 from rfl, show (1 : Int64) = lo 1 from rfl, e8]
    rfl
