theorem rng_ub {z : Int} (h : rng z) : ub z := h.y.u
theorem makes_core {k : Nat} (hk : k < 5) {us : List (Int × Int)} (hu : UN k us) {m : Int32} {uA uB : Nat → Int64} (hm : MU us m uA uB) {r rA rB : Nat → Int64} (hr : RG r rA rB) (m1 m2 m3 : Int64) (x1 x2 x3 x4 : Int64) (x5 : Int32) (w1 w2 w3 w4 w5 w6 : Int64) (v1 v2 v3 v4 : Int32) : ∃ p q, f_X7_makes (io (kT k)) (io (kN k)) (io (kU k)) (pk (kSa k) (kSb k)) r m1 m2 m3 v1 v2 v3 v4 = some p ∧ f_X8_makes (lo (kT k)) (lo (kN k)) x1 x2 m x3 x4 x5 w1 w2 w3 w4 w5 w6 rA rB uA uB v1 v2 v3 v4 = some q ∧ p.1 = q.1 ∧ RG p.2.1 q.2.2.2.2.2.2.2.2.2.2.2.2.1 q.2.2.2.2.2.2.2.2.2.2.2.2.2 := by
  have h := TN_k hk
  rcases reg2 hr v1 with ⟨h1, h2⟩ | ⟨a1, b1, -, -, p1, p2, p3, -⟩
  · exact ⟨(-1, r, m1, m2, m3), (-1, x1, x2, x3, x4, x5, w1, w2, w3, w4, w5, w6, rA, rB), by simp only [f_X7_makes, h1, ↓reduceIte], by simp only [f_X8_makes, h2, ↓reduceIte], rfl, hr⟩
  rcases reg2 hr v2 with ⟨h1, h2⟩ | ⟨a2, b2, -, -, o1, o2, o3, -⟩
  · exact ⟨(-1, r, m1, m2, m3), (-1, x1, x2, x3, x4, x5, w1, w2, w3, w4, w5, w6, rA, rB), by simp only [f_X7_makes, p1, h1, ↓reduceIte], by simp only [f_X8_makes, p2, h2, ↓reduceIte], rfl, hr⟩
  rcases reg2 hr v3 with ⟨h1, h2⟩ | ⟨a, b, ha, hb, s1, s2, s3, s4, s5, s6⟩
  · exact ⟨(-1, r, m1, m2, m3), (-1, x1, x2, x3, x4, x5, w1, w2, w3, w4, w5, w6, rA, rB), by simp only [f_X7_makes, p1, o1, h1, ↓reduceIte], by simp only [f_X8_makes, p2, o2, h2, ↓reduceIte], rfl, hr⟩
  rcases reg2 hr v4 with ⟨h1, h2⟩ | ⟨c, d, hc, hd, q1, q2, q3, q4, q5, q6⟩
  · exact ⟨(-1, r, m1, m2, m3), (-1, x1, x2, x3, x4, x5, w1, w2, w3, w4, w5, w6, rA, rB), by simp only [f_X7_makes, p1, o1, s1, h1, ↓reduceIte], by simp only [f_X8_makes, p2, o2, s2, h2, ↓reduceIte], rfl, hr⟩
  have nz3 := pk_z ha.i hb.i
  have nz4 := pk_z hc.i hd.i
  by_cases h0 : a = 0 ∧ b = 0 ∧ c = 0 ∧ d = 0
  · have z3 := nz3.mpr ⟨h0.1, h0.2.1⟩
    have z4 := nz4.mpr ⟨h0.2.2.1, h0.2.2.2⟩
    have e3 : f_X8_isNought rA rB v3 = some 1 := by
      rcases nought8 s3 ha.y hb.y s5 s6 with ⟨-, e⟩ | ⟨e, -⟩
      · exact e
      · exact absurd ⟨h0.1, h0.2.1⟩ e
    have e4 : f_X8_isNought rA rB v4 = some 1 := by
      rcases nought8 q3 hc.y hd.y q5 q6 with ⟨-, e⟩ | ⟨e, -⟩
      · exact e
      · exact absurd ⟨h0.2.2.1, h0.2.2.2⟩ e
    exact ⟨(-2, r, m1, m2, m3), (-2, x1, x2, x3, x4, x5, w1, w2, w3, w4, w5, w6, rA, rB), by simp only [f_X7_makes, p1, o1, s1, q1, s3, q3, s4, q4, z3, z4, ↓reduceIte], by simp only [f_X8_makes, p2, o2, s2, q2, e3, e4, Option.bind_some, n01, n02, n03, n04, n10, n12, n13, n14, n20, n21, n23, n24, n30, n31, n32, n34, n40, n41, n42, n43, n50, n51, n52, n53, n54, ↓reduceIte], rfl, hr⟩
  · obtain ⟨a', b', u1, u2, g1, g2, y1, y2, y3, y4, e7, e8, n0, hs, hu1, hv1⟩ := find_make h (sz_rng h ha hb) (sz_rng h hc hd) h0 (io (kU k)) (pk (kSa k) (kSb k)) m1 m2 m3 x1 x2 x3 x4 w1 w2 w3 w4 w5 w6
    obtain ⟨ya, yB⟩ := yb_of h (show sz (kT k) (kN k) a' b' ≤ 7000000000 by omega)
    obtain ⟨wu1, wu2⟩ := wb_of h hu1
    obtain ⟨wv1, wv2⟩ := wb_of h hv1
    obtain ⟨i, j, q, hi, hq, f7, -, f8, hqe, -⟩ := sh_both hk hu hm ya.u yB.u y1 y2 x5
    have hqi := hqe n0
    have hU := kUn_b k
    obtain ⟨t1, t2⟩ := hm.2 j q hq
    have hj : j < us.length := by
      rcases Nat.lt_or_ge j us.length with z | z
      · exact z
      · rw [List.getElem?_eq_none z] at hq
        exact absurd hq (by simp)
    rw [UN_len hk hu] at hj
    obtain ⟨d1, d2⟩ := io_nat6 (i := j) (by omega)
    obtain ⟨b1, b2, -⟩ := uC_b k hk i (by omega)
    have i1 : i32 (uC k i).1 := by unfold i32; omega
    have i2 : i32 (uC k i).2 := by unfold i32; omega
    obtain ⟨mu1, mu2⟩ := mv_b hk (j := i) (by omega) wu1.u wu2.u
    obtain ⟨mv1, mv2⟩ := mv_b hk (j := i) (by omega) wv1.u wv2.u
    have E7 : f_X3_find (io (kT k)) (io (kN k)) (io (kU k)) (pk (kSa k) (kSb k)) m1 m2 m3 (pk a b) (pk c d) = some (pk (mv k a' b' (uC k i)).1 (mv k a' b' (uC k i)).2, pk (mv k u1 u2 (uC k i)).1 (mv k u1 u2 (uC k i)).2, pk (mv k g1 g2 (uC k i)).1 (mv k g1 g2 (uC k i)).2) := by
      rw [e7]
      unfold f_X3_find_K31_156
      rw [f7]
      simp only [Option.bind_some]
      rw [times_k (kT_i k) (kN_i k) i1 i2 ya.i yB.i, times_k (kT_i k) (kN_i k) i1 i2 wu1.i wu2.i, times_k (kT_i k) (kN_i k) i1 i2 wv1.i wv2.i]
      rfl
    have A1 : f_X8_times_mod_a (lo (kN k)) (lo u1) (lo u2) (uA j) (uB j) = lo (mv k u1 u2 (uC k i)).1 := by rw [t1, t2, timesA_k, (mv_c k u1 u2 q).1, hqi]
    have B1 : f_X8_times_mod_b (lo (kT k)) (lo u1) (lo u2) (uA j) (uB j) = lo (mv k u1 u2 (uC k i)).2 := by rw [t1, t2, timesB_k, (mv_c k u1 u2 q).2, hqi]
    have A2 : f_X8_times_mod_a (lo (kN k)) (lo g1) (lo g2) (uA j) (uB j) = lo (mv k g1 g2 (uC k i)).1 := by rw [t1, t2, timesA_k, (mv_c k g1 g2 q).1, hqi]
    have B2 : f_X8_times_mod_b (lo (kT k)) (lo g1) (lo g2) (uA j) (uB j) = lo (mv k g1 g2 (uC k i)).2 := by rw [t1, t2, timesB_k, (mv_c k g1 g2 q).2, hqi]
    rw [← d2] at A1 B1 A2 B2
    generalize (mv k a' b' (uC k i)).1 = c1 at *
    generalize (mv k a' b' (uC k i)).2 = c2 at *
    generalize (mv k u1 u2 (uC k i)).1 = p5 at *
    generalize (mv k u1 u2 (uC k i)).2 = p6 at *
    generalize (mv k g1 g2 (uC k i)).1 = p7 at *
    generalize (mv k g1 g2 (uC k i)).2 = p8 at *
    have fu7 := fits7 mu1 mu2
    have fv7 := fits7 mv1 mv2
    have fu8 := fits8 mu1.w mu2.w
    have fv8 := fits8 mv1.w mv2.w
    -- the class
    have C7 : f_X7_makes (io (kT k)) (io (kN k)) (io (kU k)) (pk (kSa k) (kSb k)) r m1 m2 m3 v1 v2 v3 v4 = (if f_X7_fits (pk p5 p6) = 0 then some ((-3 : Int32), r, pk c1 c2, pk p5 p6, pk p7 p8) else if f_X7_fits (pk p7 p8) = 0 then some ((-3 : Int32), r, pk c1 c2, pk p5 p6, pk p7 p8) else some ((0 : Int32), (vp_updL (vp_updL r v1.toNatClampNeg (pk p5 p6)) v2.toNatClampNeg (pk p7 p8)), pk c1 c2, pk p5 p6, pk p7 p8)) := by
      by_cases z3 : pk a b = 0
      · have z4 : ¬ pk c d = 0 := fun e => h0 ⟨(nz3.mp z3).1, (nz3.mp z3).2, (nz4.mp e).1, (nz4.mp e).2⟩
        unfold f_X7_makes
        rw [if_neg p1, if_neg o1, if_neg s1, if_neg q1, if_neg s3, s4, if_pos z3, if_neg q3, q4, if_neg z4, E7]
        simp only [Option.bind_some, p3, o3, ↓reduceIte]
      · unfold f_X7_makes
        rw [if_neg p1, if_neg o1, if_neg s1, if_neg q1, if_neg s3, s4, if_neg z3, if_neg q3, q4, E7]
        simp only [Option.bind_some, p3, o3, ↓reduceIte]
    have C8 : f_X8_makes (lo (kT k)) (lo (kN k)) x1 x2 m x3 x4 x5 w1 w2 w3 w4 w5 w6 rA rB uA uB v1 v2 v3 v4 = (if f_X8_fits (lo p5) (lo p6) = 0 then some ((-3 : Int32), lo p7, lo p8, y3, y4, io (j : Int), lo u1, lo u2, lo g1, lo g2, lo a', lo b', rA, rB) else if f_X8_fits (lo p7) (lo p8) = 0 then some ((-3 : Int32), lo p7, lo p8, y3, y4, io (j : Int), lo u1, lo u2, lo g1, lo g2, lo a', lo b', rA, rB) else some ((0 : Int32), lo p7, lo p8, y3, y4, io (j : Int), lo u1, lo u2, lo g1, lo g2, lo a', lo b', (vp_updL (vp_updL rA v1.toNatClampNeg (lo p5)) v2.toNatClampNeg (lo p7)), (vp_updL (vp_updL rB v1.toNatClampNeg (lo p6)) v2.toNatClampNeg (lo p8)))) := by
      rcases nought8 s3 ha.y hb.y s5 s6 with ⟨z3, n3⟩ | ⟨z3, n3⟩
      · rcases nought8 q3 hc.y hd.y q5 q6 with ⟨z4, n4⟩ | ⟨z4, n4⟩
        · exact absurd ⟨z3.1, z3.2, z4.1, z4.2⟩ h0
        · unfold f_X8_makes
          rw [if_neg p2, if_neg o2, if_neg s2, if_neg q2, n3, n4]
          simp only [Option.bind_some, n01, n02, n03, n04, n10, n12, n13, n14, n20, n21, n23, n24, n30, n31, n32, n34, n40, n41, n42, n43, n50, n51, n52, n53, n54, s3, q3, s5, s6, q5, q6, e8, f8, d1, A1, B1, A2, B2, p3, o3, ↓reduceIte]
      · unfold f_X8_makes
        rw [if_neg p2, if_neg o2, if_neg s2, if_neg q2, n3]
        simp only [Option.bind_some, s3, q3, s5, s6, q5, q6, e8, f8, d1, A1, B1, A2, B2, p3, o3, ↓reduceIte]
    rw [C7, C8]
    by_cases zu : rng p5 ∧ rng p6
    · rw [if_neg (fun e => fu7.mp e zu), if_neg (fun e => fu8.mp e zu)]
      by_cases zv : rng p7 ∧ rng p8
      · rw [if_neg (fun e => fv7.mp e zv), if_neg (fun e => fv8.mp e zv)]
        exact ⟨_, _, rfl, rfl, rfl, (hr.set _ zu.1 zu.2).set _ zv.1 zv.2⟩
      · rw [if_pos (fv7.mpr zv), if_pos (fv8.mpr zv)]
        exact ⟨_, _, rfl, rfl, rfl, hr⟩
    · rw [if_pos (fu7.mpr zu), if_pos (fu8.mpr zu)]
      exact ⟨_, _, rfl, rfl, rfl, hr⟩
theorem hm_makes : HM_makes REL := by
  intro cs ms h v1 v2 v3 v4
  obtain ⟨k, us, hk, hu, hnet, ht, hn, hm, hr⟩ := id h
  obtain ⟨p, q, e1, e2, e3, e4⟩ := makes_core hk hu hm hr (a_mak_common cs) (a_mak_u cs) (a_mak_v cs) (a_mod_a ms) (a_mod_b ms) (a_mod_quotA ms) (a_mod_quotB ms) (a_mod_unitUsed ms) (a_mod_fu ms) (a_mod_fuB ms) (a_mod_fv ms) (a_mod_fvB ms) (a_mod_madeA ms) (a_mod_madeB ms) v1 v2 v3 v4
  refine ⟨p, q, ?_, ?_, e3, k, us, hk, hu, hnet, ht, hn, hm, e4⟩
  · rw [hnet.1, hnet.2.1, hnet.2.2.1, hnet.2.2.2]; exact e1
  · rw [ht, hn]; exact e2
/-! inverse -/
theorem size_both {k : Nat} (hk : k < 5) {a b : Int} (ha : rng a) (hb : rng b) {v : Int32} (s3 : ¬ (v < 0 ∨ 8 ≤ v.toNatClampNeg)) {rA rB : Nat → Int64} (s5 : rA v.toNatClampNeg = lo a) (s6 : rB v.toNatClampNeg = lo b) {m : Int} (hm : i32 m) : (¬ (2 ≤ sz (kT k) (kN k) a b ∧ sz (kT k) (kN k) a b ≤ m) ∧ f_X7_isOfSize (io (kT k)) (io (kN k)) (pk a b) (io m) = 0 ∧ f_X8_isModulus (lo (kT k)) (lo (kN k)) rA rB v (lo m) = some 0) ∨ ((2 ≤ sz (kT k) (kN k) a b ∧ sz (kT k) (kN k) a b ≤ m) ∧ ¬ f_X7_isOfSize (io (kT k)) (io (kN k)) (pk a b) (io m) = 0 ∧ ∃ z, ¬ z = 0 ∧ f_X8_isModulus (lo (kT k)) (lo (kN k)) rA rB v (lo m) = some z) := by
  have h := TN_k hk
  have h1 := sz_nn h a b
  have h2 := sz_rng h ha hb
  have is : i64 (sz (kT k) (kN k) a b) := by unfold i64; omega
  have e8 : f_X8_isModulus (lo (kT k)) (lo (kN k)) rA rB v (lo m) = some (f_X8_in (lo (sz (kT k) (kN k) a b)) 2 (lo m)) := by
    unfold f_X8_isModulus
    rw [if_neg s3, s5, s6, sizeOf_m]
  have hin : f_X8_in (lo (sz (kT k) (kN k) a b)) 2 (lo m) = 0 ↔ _ := in_lo (l := 2) is (by unfold i64; omega) hm.w
  have c1 : lo (sz (kT k) (kN k) a b) < (2 : Int64) ↔ _ := lo_lt (b := 2) is (by unfold i64; omega)
  have c2 := lo_lt hm.w is
  rw [e8]
  unfold f_X7_isOfSize
  rw [sizeOf_pk (kT_i k) (kN_i k) ha.i hb.i, io_w hm]
  generalize sz (kT k) (kN k) a b = S at *
  by_cases g : 2 ≤ S ∧ S ≤ m
  · right
    rw [if_neg (fun e => by have := c1.mp e; omega), if_neg (fun e => by have := c2.mp e; omega)]
    exact ⟨g, by decide, _, fun e => hin.mp e g, rfl⟩
  · left
    refine ⟨g, ?_, by rw [hin.mpr g]⟩
    by_cases g2 : S < 2
    · rw [if_pos (c1.mpr g2)]
    · rw [if_neg (fun e => g2 (c1.mp e)), if_pos (c2.mpr (by omega))]
theorem red8 {t n a b c d : Int} (h : TN t n) (ha : xb a) (hb : xb b) (hc : rng c) (hd : rng d) (hS : 0 < sz t n c d) {v : Int32} (s3 : ¬ (v < 0 ∨ 8 ≤ v.toNatClampNeg)) {rA' rB' : Nat → Int64} (s5 : rA' v.toNatClampNeg = lo c) (s6 : rB' v.toNatClampNeg = lo d) (x1 x2 : Int64) : f_X8_reduce (lo t) (lo n) (lo a) (lo b) x1 x2 rA' rB' v = some (lo (rA t n a b c d), lo (rB t n a b c d), lo (NQ t n a b c d).1, lo (NQ t n a b c d).2) := by
  unfold f_X8_reduce
  rw [if_neg s3, s5, s6, d8 h ha hb hc.y hd.y hS]
  rfl
theorem mir_id (t n e1 e2 u1 u2 m1 m2 : Int) : mA n (mA n e1 e2 u1 u2) (mB t e1 e2 u1 u2) (mA n e1 e2 m1 m2 + t * mB t e1 e2 m1 m2) (-mB t e1 e2 m1 m2) = sz t n e1 e2 * mA n u1 u2 (m1 + t * m2) (-m2) ∧ mB t (mA n e1 e2 u1 u2) (mB t e1 e2 u1 u2) (mA n e1 e2 m1 m2 + t * mB t e1 e2 m1 m2) (-mB t e1 e2 m1 m2) = sz t n e1 e2 * mB t u1 u2 (m1 + t * m2) (-m2) := by
  unfold mA mB sz
  constructor <;> grind
theorem one_small {t n a b : Int} (h : TN t n) (hs : sz t n a b = 1) : (-1 ≤ a ∧ a ≤ 1) ∧ -1 ≤ b ∧ b ≤ 1 := by
  have e := sz_4 t n a b
  have f := sz_4b t n a b
  have g1 := sq_nn (t * a + 2 * n * b)
  have g2 := sq_nn (2 * a + t * b)
  have ka : a * a ≤ 1 * 1 := by
    generalize (t * a + 2 * n * b) * (t * a + 2 * n * b) = Z at *
    rw [hs] at e
    generalize a * a = A at *
    rcases h with ⟨rfl, rfl⟩ | ⟨rfl, rfl⟩ | ⟨rfl, rfl⟩ | ⟨rfl, rfl⟩ | ⟨rfl, rfl⟩ <;> omega
  have kb : b * b ≤ 1 * 1 := by
    generalize (2 * a + t * b) * (2 * a + t * b) = Z at *
    rw [hs] at f
    generalize b * b = A at *
    rcases h with ⟨rfl, rfl⟩ | ⟨rfl, rfl⟩ | ⟨rfl, rfl⟩ | ⟨rfl, rfl⟩ | ⟨rfl, rfl⟩ <;> omega
  exact ⟨sq_le (by omega) ka, sq_le (by omega) kb⟩
theorem one_mir {k : Nat} {u1 u2 a b : Int} (h1 : wb u1) (h2 : wb u2) (ha : -1 ≤ a ∧ a ≤ 1) (hb : -1 ≤ b ∧ b ≤ 1) : (i32 (a + kT k * b) ∧ i32 (-b)) ∧ xb (mA (kN k) u1 u2 (a + kT k * b) (-b)) ∧ xb (mB (kT k) u1 u2 (a + kT k * b) (-b)) := by
  obtain ⟨⟨t1, t2⟩, n1, n2⟩ := kTN_b k
  have ht : kT k = -1 ∨ kT k = 0 ∨ kT k = 1 := by omega
  have hn : kN k = 1 ∨ kN k = 2 ∨ kN k = 3 := by omega
  have ga : a = -1 ∨ a = 0 ∨ a = 1 := by omega
  have gb : b = -1 ∨ b = 0 ∨ b = 1 := by omega
  unfold mA mB xb wb i32 at *
  generalize kT k = t at *
  generalize kN k = n at *
  rcases ht with rfl | rfl | rfl <;> rcases hn with rfl | rfl | rfl <;> rcases ga with rfl | rfl | rfl <;> rcases gb with rfl | rfl | rfl <;> omega
theorem inverse_core {k : Nat} (hk : k < 5) {us : List (Int × Int)} (hu : UN k us) {m : Int32} {uA uB : Nat → Int64} (hm : MU us m uA uB) {r rA' rB' : Nat → Int64} (hr : RG r rA' rB') (m1 m2 m3 m4 : Int64) (x1 x2 x3 x4 w1 w2 w3 w4 w5 w6 : Int64) (v1 v2 v3 : Int32) : ∃ p q, f_X7_inverse (io (kT k)) (io (kN k)) (io (kU k)) (pk (kSa k) (kSb k)) r m1 m2 m3 m4 v1 v2 v3 = some p ∧ f_X8_inverse (lo (kT k)) (lo (kN k)) x1 x2 x3 x4 w1 w2 w3 w4 w5 w6 rA' rB' v1 v2 v3 = some q ∧ p.1 = q.1 ∧ RG p.2.1 q.2.2.2.2.2.2.2.2.2.2.2.1 q.2.2.2.2.2.2.2.2.2.2.2.2 := by
  have h := TN_k hk
  rcases reg2 hr v1 with ⟨h1, h2⟩ | ⟨a1, b1, -, -, p1, p2, p3, -⟩
  · exact ⟨(-1, r, m1, m2, m3, m4), (-1, x1, x2, x3, x4, w1, w2, w3, w4, w5, w6, rA', rB'), by simp only [f_X7_inverse, h1, ↓reduceIte], by simp only [f_X8_inverse, h2, ↓reduceIte], rfl, hr⟩
  rcases reg2 hr v2 with ⟨h1, h2⟩ | ⟨a, b, ha, hb, s1, s2, s3, s4, s5, s6⟩
  · exact ⟨(-1, r, m1, m2, m3, m4), (-1, x1, x2, x3, x4, w1, w2, w3, w4, w5, w6, rA', rB'), by simp only [f_X7_inverse, p1, h1, ↓reduceIte], by simp only [f_X8_inverse, p2, h2, ↓reduceIte], rfl, hr⟩
  rcases reg2 hr v3 with ⟨h1, h2⟩ | ⟨c, d, hc, hd, q1, q2, q3, q4, q5, q6⟩
  · exact ⟨(-1, r, m1, m2, m3, m4), (-1, x1, x2, x3, x4, w1, w2, w3, w4, w5, w6, rA', rB'), by simp only [f_X7_inverse, p1, s1, h1, ↓reduceIte], by simp only [f_X8_inverse, p2, s2, h2, ↓reduceIte], rfl, hr⟩
  rcases size_both hk hc hd q3 q5 q6 (m := 100000) (by unfold i32; omega) with ⟨-, g7, g8⟩ | ⟨hsz, g7, z, hz, g8⟩
  · exact ⟨(-2, r, m1, m2, m3, m4), (-2, x1, x2, x3, x4, w1, w2, w3, w4, w5, w6, rA', rB'), by
      unfold f_X7_inverse
      rw [if_neg p1, if_neg s1, if_neg q1, if_neg q3, q4]
      exact if_pos g7, by
      unfold f_X8_inverse
      rw [if_neg p2, if_neg s2, if_neg q2]
      rw [show f_X8_isModulus (lo (kT k)) (lo (kN k)) rA' rB' v3 100000 = some 0 from g8]
      rfl, rfl, hr⟩
  have g7' : ¬ f_X7_isOfSize (io (kT k)) (io (kN k)) (pk c d) (100000 : Int32) = 0 := g7
  have g8' : f_X8_isModulus (lo (kT k)) (lo (kN k)) rA' rB' v3 100000 = some z := g8
  have h0 : ¬ (a = 0 ∧ b = 0 ∧ c = 0 ∧ d = 0) := by
    rintro ⟨-, -, rfl, rfl⟩
    have : sz (kT k) (kN k) 0 0 = 0 := by unfold sz; grind
    omega
  have hS : 0 < sz (kT k) (kN k) c d := by omega
  obtain ⟨a', b', u1, u2, g1, g2, y1, y2, y3, y4, e7, e8, n0, hs, hu1, hv1⟩ := find_make h (sz_rng h ha hb) (sz_rng h hc hd) h0 (io (kU k)) (pk (kSa k) (kSb k)) m1 m2 m3 x1 x2 x3 x4 w1 w2 w3 w4 w5 w6
  obtain ⟨ya, yB⟩ := yb_of h (show sz (kT k) (kN k) a' b' ≤ 7000000000 by omega)
  obtain ⟨wu1, wu2⟩ := wb_of h hu1
  obtain ⟨wv1, wv2⟩ := wb_of h hv1
  obtain ⟨i, j, q, hi, hq, f7, -, -, -, -⟩ := sh_both hk hu hm ya.u yB.u 0 0 0
  have hU := kUn_b k
  obtain ⟨b1, b2, b3⟩ := uC_b k hk i (by omega)
  have i1 : i32 (uC k i).1 := by unfold i32; omega
  have i2 : i32 (uC k i).2 := by unfold i32; omega
  obtain ⟨mu1, mu2⟩ := mv_b hk (j := i) (by omega) wu1.u wu2.u
  obtain ⟨mc1, mc2⟩ := mv_b hk (j := i) (by omega) ya.u yB.u
  have hsz1 := mv_sz1 hk hi a' b'
  have E7 : f_X3_find (io (kT k)) (io (kN k)) (io (kU k)) (pk (kSa k) (kSb k)) m1 m2 m3 (pk a b) (pk c d) = some (pk (mv k a' b' (uC k i)).1 (mv k a' b' (uC k i)).2, pk (mv k u1 u2 (uC k i)).1 (mv k u1 u2 (uC k i)).2, pk (mv k g1 g2 (uC k i)).1 (mv k g1 g2 (uC k i)).2) := by
    rw [e7]
    unfold f_X3_find_K31_156
    rw [f7]
    simp only [Option.bind_some]
    rw [times_k (kT_i k) (kN_i k) i1 i2 ya.i yB.i, times_k (kT_i k) (kN_i k) i1 i2 wu1.i wu2.i, times_k (kT_i k) (kN_i k) i1 i2 wv1.i wv2.i]
    rfl
  have nn := sz_nn h a' b'
  have c1 : lo (sz (kT k) (kN k) a' b') = (1 : Int64) ↔ sz (kT k) (kN k) a' b' = 1 := lo_eq (b := 1) (by unfold i64; omega) (by unfold i64; omega)
  by_cases g : sz (kT k) (kN k) a' b' = 1
  · have id1 := mir_id (kT k) (kN k) (uC k i).1 (uC k i).2 u1 u2 a' b'
    rw [b3, Int.one_mul, Int.one_mul] at id1
    obtain ⟨oa, ob⟩ := one_small h g
    obtain ⟨oa', ob'⟩ := one_small h (hsz1.trans g)
    obtain ⟨⟨k1, k2⟩, k3, k4⟩ := one_mir (k := k) wu1 wu2 oa ob
    have k5 : i32 ((mv k a' b' (uC k i)).1 + kT k * (mv k a' b' (uC k i)).2) ∧ i32 (-(mv k a' b' (uC k i)).2) := (one_mir (k := k) wu1 wu2 oa' ob').1
    have T7 : f_X4_times (io (kT k)) (io (kN k)) (pk (mv k u1 u2 (uC k i)).1 (mv k u1 u2 (uC k i)).2) (f_X4_mirror (io (kT k)) (pk (mv k a' b' (uC k i)).1 (mv k a' b' (uC k i)).2)) = pk (mA (kN k) u1 u2 (a' + kT k * b') (-b')) (mB (kT k) u1 u2 (a' + kT k * b') (-b')) := by
      rw [mirror_pk (kT_i k) mc1 mc2, times_k (kT_i k) (kN_i k) mu1 mu2 k5.1 k5.2]
      exact congr (congrArg pk id1.1) id1.2
    have R7 := r7 h k3 k4 hc.y hd.y hS
    have I7 : f_X6_findInverse (io (kT k)) (io (kN k)) (io (kU k)) (pk (kSa k) (kSb k)) m1 m2 m3 m4 (pk a b) (pk c d) = some (1, pk (mv k a' b' (uC k i)).1 (mv k a' b' (uC k i)).2, pk (mv k u1 u2 (uC k i)).1 (mv k u1 u2 (uC k i)).2, pk (mv k g1 g2 (uC k i)).1 (mv k g1 g2 (uC k i)).2, pk (rA (kT k) (kN k) (mA (kN k) u1 u2 (a' + kT k * b') (-b')) (mB (kT k) u1 u2 (a' + kT k * b') (-b')) c d) (rB (kT k) (kN k) (mA (kN k) u1 u2 (a' + kT k * b') (-b')) (mB (kT k) u1 u2 (a' + kT k * b') (-b')) c d)) := by
      unfold f_X6_findInverse
      rw [E7]
      simp only [Option.bind_some]
      rw [sizeOf_pk (kT_i k) (kN_i k) mc1 mc2, hsz1, if_pos (c1.mpr g), T7, R7]
      rfl
    have T8a : f_X8_times_mod_a (lo (kN k)) (lo u1) (lo u2) (lo a' + lo (kT k) * lo b') (-lo b') = lo (mA (kN k) u1 u2 (a' + kT k * b') (-b')) := by rw [lo_mul, lo_add, lo_neg, timesA_k]
    have T8b : f_X8_times_mod_b (lo (kT k)) (lo u1) (lo u2) (lo a' + lo (kT k) * lo b') (-lo b') = lo (mB (kT k) u1 u2 (a' + kT k * b') (-b')) := by rw [lo_mul, lo_add, lo_neg, timesB_k]
    have R8 := red8 h k3 k4 hc hd hS q3 q5 q6 y3 y4
    obtain ⟨r1, r2, -⟩ := rAB_y (a := mA (kN k) u1 u2 (a' + kT k * b') (-b')) (b := mB (kT k) u1 u2 (a' + kT k * b') (-b')) h hS (by omega)
    obtain ⟨w, r', rA'', rB'', P7, P8, hr'⟩ := put_both p1 p3 hr r1.i r2.i
    exact ⟨(w, r', _, _, _, _), (w, _, _, _, _, _, _, _, _, _, _, rA'', rB''), by
        unfold f_X7_inverse
        rw [if_neg p1, if_neg s1, if_neg q1, if_neg q3, q4, if_neg g7', if_neg s3, s4, I7]
        simp only [Option.bind_some]
        rw [if_neg (by decide), P7]
        try rfl, by
        unfold f_X8_inverse
        rw [if_neg p2, if_neg s2, if_neg q2, g8']
        simp only [Option.bind_some]
        rw [if_neg hz, if_neg s3, if_neg q3, s5, s6, q5, q6, e8]
        simp only [Option.bind_some]
        rw [sizeOf_m, if_pos (c1.mpr g), T8a, T8b, R8]
        simp only [Option.bind_some]
        rw [P8]
        try rfl, rfl, hr'⟩
  · have I7 : f_X6_findInverse (io (kT k)) (io (kN k)) (io (kU k)) (pk (kSa k) (kSb k)) m1 m2 m3 m4 (pk a b) (pk c d) = some (0, pk (mv k a' b' (uC k i)).1 (mv k a' b' (uC k i)).2, pk (mv k u1 u2 (uC k i)).1 (mv k u1 u2 (uC k i)).2, pk (mv k g1 g2 (uC k i)).1 (mv k g1 g2 (uC k i)).2, m4) := by
      unfold f_X6_findInverse
      rw [E7]
      simp only [Option.bind_some]
      rw [sizeOf_pk (kT_i k) (kN_i k) mc1 mc2, hsz1, if_neg (fun e => g (c1.mp e))]
    exact ⟨(-4, r, _, _, _, _), (-4, _, _, _, _, _, _, _, _, _, _, rA', rB'), by
        unfold f_X7_inverse
        rw [if_neg p1, if_neg s1, if_neg q1, if_neg q3, q4, if_neg g7', if_neg s3, s4, I7]
        simp only [Option.bind_some]
        rw [if_pos trivial]
        try rfl, by
        unfold f_X8_inverse
        rw [if_neg p2, if_neg s2, if_neg q2, g8']
        simp only [Option.bind_some]
        rw [if_neg hz, if_neg s3, if_neg q3, s5, s6, q5, q6, e8]
        simp only [Option.bind_some]
        rw [sizeOf_m, if_neg (fun e => g (c1.mp e))]
        try rfl, rfl, hr⟩
theorem hm_inverse : HM_inverse REL := by
  intro cs ms h v1 v2 v3
  obtain ⟨k, us, hk, hu, hnet, ht, hn, hm, hr⟩ := id h
  obtain ⟨p, q, e1, e2, e3, e4⟩ := inverse_core hk hu hm hr (a_mak_common cs) (a_mak_u cs) (a_mak_v cs) (a_rsd_found cs) (a_mod_a ms) (a_mod_b ms) (a_mod_quotA ms) (a_mod_quotB ms) (a_mod_fu ms) (a_mod_fuB ms) (a_mod_fv ms) (a_mod_fvB ms) (a_mod_madeA ms) (a_mod_madeB ms) v1 v2 v3
  refine ⟨p, q, ?_, ?_, e3, k, us, hk, hu, hnet, ht, hn, hm, e4⟩
  · rw [hnet.1, hnet.2.1, hnet.2.2.1, hnet.2.2.2]; exact e1
  · rw [ht, hn]; exact e2
