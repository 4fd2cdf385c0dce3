/-! power -/
theorem io_nat {z : Int} (h : 0 ≤ z) (g : z < 2147483648) : (io z).toBitVec.toNat = z.toNat := by
  show (BitVec.ofInt 32 z).toNat = z.toNat
  rw [BitVec.toNat_ofInt]
  have : ((2 ^ 32 : Nat) : Int) = 4294967296 := rfl
  rw [this]
  omega
theorem and1 {z : Int} (h : 0 ≤ z) (g : z < 2147483648) : io z &&& (1 : Int32) = io (z % 2) := by
  apply Int32.toBitVec_inj.mp
  rw [Int32.toBitVec_and]
  apply BitVec.eq_of_toNat_eq
  rw [BitVec.toNat_and, io_nat h g, io_nat (z := z % 2) (by omega) (by omega)]
  have e3 : (1 : Int32).toBitVec.toNat = 1 := by decide
  rw [e3, Nat.and_one_is_mod]
  omega
theorem sh1 : ((1 : Int32) &&& 31).toBitVec.smod 32 = 1#32 := by decide
theorem shr1 {z : Int} (h : 0 ≤ z) (g : z < 2147483648) : io z >>> ((1 : Int32) &&& 31) = io (z / 2) := by
  apply Int32.toInt_inj.mp
  have e : (io z >>> ((1 : Int32) &&& 31)).toBitVec = (io z).toBitVec.sshiftRight 1 := by
    rw [Int32.toBitVec_shiftRight, sh1]
    rfl
  rw [io_toInt (by unfold i32; omega)]
  show (io z >>> ((1 : Int32) &&& 31)).toBitVec.toInt = z / 2
  rw [e, BitVec.toInt_sshiftRight, Int.shiftRight_eq_div_pow]
  have : (io z).toBitVec.toInt = z := io_toInt (z := z) (by unfold i32; omega)
  rw [this]
  rfl
def cb (z : Int) : Prop := -400 ≤ z ∧ z ≤ 400
theorem cb.i {z : Int} (h : cb z) : i32 z := ⟨by have := h.1; omega, by have := h.2; omega⟩
theorem cb_of {t n a b : Int} (h : TN t n) (hs : sz t n a b ≤ 100000) : cb a ∧ cb b := by
  have e := sz_4 t n a b
  have f := sz_4b t n a b
  have g1 := sq_nn (t * a + 2 * n * b)
  have g2 := sq_nn (2 * a + t * b)
  have ka : a * a ≤ 400 * 400 := by
    generalize (t * a + 2 * n * b) * (t * a + 2 * n * b) = Z at *
    generalize sz t n a b = N at *
    generalize a * a = A at *
    rcases h with ⟨rfl, rfl⟩ | ⟨rfl, rfl⟩ | ⟨rfl, rfl⟩ | ⟨rfl, rfl⟩ | ⟨rfl, rfl⟩ <;> omega
  have kb : b * b ≤ 400 * 400 := by
    generalize (2 * a + t * b) * (2 * a + t * b) = Z at *
    generalize sz t n a b = N at *
    generalize b * b = A at *
    rcases h with ⟨rfl, rfl⟩ | ⟨rfl, rfl⟩ | ⟨rfl, rfl⟩ | ⟨rfl, rfl⟩ | ⟨rfl, rfl⟩ <;> omega
  exact ⟨sq_le (by omega) ka, sq_le (by omega) kb⟩
theorem cb_mul {k : Nat} {a b c d : Int} (ha : cb a) (hb : cb b) (hc : cb c) (hd : cb d) : xb (mA (kN k) a b c d) ∧ xb (mB (kT k) a b c d) := by
  have m1 := mul_b ha.1 ha.2 hc.1 hc.2
  have m2 := mul_b hb.1 hb.2 hd.1 hd.2
  have m3 := mul_b ha.1 ha.2 hd.1 hd.2
  have m4 := mul_b hb.1 hb.2 hc.1 hc.2
  obtain ⟨⟨t1, t2⟩, n1, n2⟩ := kTN_b k
  have ht : kT k = -1 ∨ kT k = 0 ∨ kT k = 1 := by omega
  have hn : kN k = 1 ∨ kN k = 2 ∨ kN k = 3 := by omega
  unfold mA mB xb
  generalize kT k = t at *
  generalize kN k = n at *
  generalize a * c = A at *
  generalize b * d = B at *
  generalize a * d = C at *
  generalize b * c = D at *
  rcases ht with rfl | rfl | rfl <;> rcases hn with rfl | rfl | rfl <;> (refine ⟨⟨?_, ?_⟩, ?_, ?_⟩ <;> omega)
theorem rest_c {t n a b c d : Int} (h : TN t n) (hS : 0 < sz t n c d) (hm : sz t n c d ≤ 100000) : cb (rA t n a b c d) ∧ cb (rB t n a b c d) := by
  have h1 := rS_le (a := a) (b := b) h hS
  have h2 := rS_def t n a b c d
  exact cb_of h (by omega)
theorem r7r {t n a b c d : Int} (h : TN t n) (ha : xb a) (hb : xb b) (hc : yb c) (hd : yb d) (hS : 0 < sz t n c d) : f_X4_rest (io t) (io n) (pk a b) (pk c d) = some (pk (rA t n a b c d) (rB t n a b c d)) := r7 h ha hb hc hd hS
theorem tr7 {k : Nat} (hk : k < 5) {a b c d m1 m2 : Int} (ha : cb a) (hb : cb b) (hc : cb c) (hd : cb d) (h1 : rng m1) (h2 : rng m2) (hS : 0 < sz (kT k) (kN k) m1 m2) : f_X4_rest (io (kT k)) (io (kN k)) (f_X4_times (io (kT k)) (io (kN k)) (pk a b) (pk c d)) (pk m1 m2) = some (pk (rA (kT k) (kN k) (mA (kN k) a b c d) (mB (kT k) a b c d) m1 m2) (rB (kT k) (kN k) (mA (kN k) a b c d) (mB (kT k) a b c d) m1 m2)) := by
  obtain ⟨x1, x2⟩ := cb_mul (k := k) ha hb hc hd
  rw [times_k (kT_i k) (kN_i k) ha.i hb.i hc.i hd.i, r7r (TN_k hk) x1 x2 h1.y h2.y hS]
theorem tr8 {k : Nat} (hk : k < 5) {a b c d m1 m2 : Int} (ha : cb a) (hb : cb b) (hc : cb c) (hd : cb d) (h1 : rng m1) (h2 : rng m2) (hS : 0 < sz (kT k) (kN k) m1 m2) {v : Int32} (s3 : ¬ (v < 0 ∨ 8 ≤ v.toNatClampNeg)) {gA gB : Nat → Int64} (s5 : gA v.toNatClampNeg = lo m1) (s6 : gB v.toNatClampNeg = lo m2) (x1 x2 : Int64) : ∃ y1 y2, f_X8_reduce (lo (kT k)) (lo (kN k)) (f_X8_times_mod_a (lo (kN k)) (lo a) (lo b) (lo c) (lo d)) (f_X8_times_mod_b (lo (kT k)) (lo a) (lo b) (lo c) (lo d)) x1 x2 gA gB v = some (lo (rA (kT k) (kN k) (mA (kN k) a b c d) (mB (kT k) a b c d) m1 m2), lo (rB (kT k) (kN k) (mA (kN k) a b c d) (mB (kT k) a b c d) m1 m2), y1, y2) := by
  obtain ⟨z1, z2⟩ := cb_mul (k := k) ha hb hc hd
  rw [timesA_k, timesB_k]
  exact ⟨_, _, red8 (TN_k hk) z1 z2 h1 h2 hS s3 s5 s6 x1 x2⟩
theorem pw_both {k : Nat} (hk : k < 5) {m1 m2 : Int} (h1 : rng m1) (h2 : rng m2) (hS : 0 < sz (kT k) (kN k) m1 m2) (hM : sz (kT k) (kN k) m1 m2 ≤ 100000) {v : Int32} (s3 : ¬ (v < 0 ∨ 8 ≤ v.toNatClampNeg)) {gA gB : Nat → Int64} (s5 : gA v.toNatClampNeg = lo m1) (s6 : gB v.toNatClampNeg = lo m2) : ∀ (f : Nat) (z pa pb ba bb : Int) (x1 x2 x3 x4 : Int64), z.toNat ≤ f → 0 ≤ z → z < 2147483648 → cb pa → cb pb → cb ba → cb bb → ∃ x y : Int, ∃ y1 y2 y3 y4, whl (f_X6_raised_L29 (io (kT k)) (io (kN k)) (pk m1 m2)) (pk pa pb, pk ba bb, io z) = some (pk x y) ∧ whl (f_X8_power_L106 (lo (kT k)) (lo (kN k)) gA gB v) (lo pa, lo pb, lo ba, lo bb, io z, x1, x2, x3, x4) = some (lo x, lo y, y1, y2, y3, y4) ∧ cb x ∧ cb y := by
  have h := TN_k hk
  intro f
  induction f with
  | zero =>
    intro z pa pb ba bb x1 x2 x3 x4 hz z0 z1 p1 p2 b1 b2
    have : z = 0 := by omega
    subst this
    refine ⟨pa, pb, x1, x2, x3, x4, whl_r ?_, whl_r ?_, p1, p2⟩
    · unfold f_X6_raised_L29
      dsimp only
      rw [if_pos (by decide)]
    · unfold f_X8_power_L106
      dsimp only
      rw [if_pos (by decide)]
  | succ f ih =>
    intro z pa pb ba bb x1 x2 x3 x4 hz z0 z1 p1 p2 b1 b2
    have hc : io z ≤ 0 ↔ z ≤ 0 := io_le (b := 0) (by unfold i32; omega) (by unfold i32; omega)
    by_cases g : z ≤ 0
    · refine ⟨pa, pb, x1, x2, x3, x4, whl_r ?_, whl_r ?_, p1, p2⟩
      · unfold f_X6_raised_L29
        dsimp only
        rw [if_pos (hc.mpr g)]
      · unfold f_X8_power_L106
        dsimp only
        rw [if_pos (hc.mpr g)]
    · have g' := fun e => g (hc.mp e)
      obtain ⟨sq1, sq2⟩ := rest_c (a := mA (kN k) ba bb ba bb) (b := mB (kT k) ba bb ba bb) h hS hM
      have S7 := tr7 hk b1 b2 b1 b2 h1 h2 hS
      have hdiv : io z / (2 : Int32) = io (z / 2) := io_div (b := 2) (by unfold i32; omega) (by unfold i32; omega) z0 (by omega)
      have hrem : io z - io z / (2 : Int32) * (2 : Int32) = io (z % 2) := io_rem (b := 2) (by unfold i32; omega) (by unfold i32; omega) z0 (by omega)
      have c1 : io (z % 2) = (0 : Int32) ↔ z % 2 = 0 := io_eq (b := 0) (by unfold i32; omega) (by unfold i32; omega)
      have c2 : io (z % 2) = (1 : Int32) ↔ z % 2 = 1 := io_eq (b := 1) (by unfold i32; omega) (by unfold i32; omega)
      by_cases e : z % 2 = 0
      · obtain ⟨y1, y2, S8⟩ := tr8 hk b1 b2 b1 b2 h1 h2 hS s3 s5 s6 x3 x4
        obtain ⟨x, y, o1, o2, o3, o4, E7, E8, hx⟩ := ih (z / 2) pa pb _ _ (lo (rA (kT k) (kN k) (mA (kN k) ba bb ba bb) (mB (kT k) ba bb ba bb) m1 m2)) (lo (rB (kT k) (kN k) (mA (kN k) ba bb ba bb) (mB (kT k) ba bb ba bb) m1 m2)) y1 y2 (by omega) (by omega) (by omega) p1 p2 sq1 sq2
        refine ⟨x, y, o1, o2, o3, o4, (whl_l ?_).trans E7, (whl_l ?_).trans E8, hx⟩
        · unfold f_X6_raised_L29
          dsimp only
          rw [if_neg g', and1 z0 z1, if_pos (c1.mpr e), S7, shr1 z0 z1]
          rfl
        · unfold f_X8_power_L106
          dsimp only
          rw [if_neg g', hrem, if_neg (fun q => by have := c2.mp q; omega), S8, hdiv]
          rfl
      · have e1 : z % 2 = 1 := by omega
        obtain ⟨pr1, pr2⟩ := rest_c (a := mA (kN k) pa pb ba bb) (b := mB (kT k) pa pb ba bb) h hS hM
        have P7 := tr7 hk p1 p2 b1 b2 h1 h2 hS
        obtain ⟨w1, w2, P8⟩ := tr8 hk p1 p2 b1 b2 h1 h2 hS s3 s5 s6 x3 x4
        obtain ⟨y1, y2, S8⟩ := tr8 hk b1 b2 b1 b2 h1 h2 hS s3 s5 s6 w1 w2
        obtain ⟨x, y, o1, o2, o3, o4, E7, E8, hx⟩ := ih (z / 2) _ _ _ _ (lo (rA (kT k) (kN k) (mA (kN k) ba bb ba bb) (mB (kT k) ba bb ba bb) m1 m2)) (lo (rB (kT k) (kN k) (mA (kN k) ba bb ba bb) (mB (kT k) ba bb ba bb) m1 m2)) y1 y2 (by omega) (by omega) (by omega) pr1 pr2 sq1 sq2
        refine ⟨x, y, o1, o2, o3, o4, (whl_l ?_).trans E7, (whl_l ?_).trans E8, hx⟩
        · unfold f_X6_raised_L29
          dsimp only
          rw [if_neg g', and1 z0 z1, if_neg (fun q => e (c1.mp q)), P7, shr1 z0 z1]
          simp only [Option.bind_some]
          rw [S7]
          rfl
        · unfold f_X8_power_L106
          dsimp only
          rw [if_neg g', hrem, if_pos (c2.mpr e1), P8, hdiv]
          simp only [Option.bind_some]
          rw [S8]
          rfl
/-- raised, and its counterpart -/
theorem raised7 {k : Nat} (hk : k < 5) {a b m1 m2 : Int} (ha : rng a) (hb : rng b) (h1 : rng m1) (h2 : rng m2) (hS : 0 < sz (kT k) (kN k) m1 m2) (z : Int32) : f_X6_raised (io (kT k)) (io (kN k)) (pk a b) z (pk m1 m2) = whl (f_X6_raised_L29 (io (kT k)) (io (kN k)) (pk m1 m2)) (pk (rA (kT k) (kN k) 1 0 m1 m2) (rB (kT k) (kN k) 1 0 m1 m2), pk (rA (kT k) (kN k) a b m1 m2) (rB (kT k) (kN k) a b m1 m2), z) := by
  have h := TN_k hk
  unfold f_X6_raised f_X6_raised_K29_94
  rw [pk_one, r7r h (by unfold xb; omega) (by unfold xb; omega) h1.y h2.y hS, r7r h ha.y.x hb.y.x h1.y h2.y hS]
  simp only [Option.bind_some]
  cases whl (f_X6_raised_L29 (io (kT k)) (io (kN k)) (pk m1 m2)) (pk (rA (kT k) (kN k) 1 0 m1 m2) (rB (kT k) (kN k) 1 0 m1 m2), pk (rA (kT k) (kN k) a b m1 m2) (rB (kT k) (kN k) a b m1 m2), z) <;> rfl
theorem one8 {t n c d : Int} (h : TN t n) (hc : rng c) (hd : rng d) (hS : 0 < sz t n c d) {v : Int32} (s3 : ¬ (v < 0 ∨ 8 ≤ v.toNatClampNeg)) {gA gB : Nat → Int64} (s5 : gA v.toNatClampNeg = lo c) (s6 : gB v.toNatClampNeg = lo d) (x0 x00 x1 x2 : Int64) : ∃ y1 y2, f_X8_restOfOne (lo t) (lo n) x0 x00 x1 x2 gA gB v = some (lo (rA t n 1 0 c d), lo (rB t n 1 0 c d), y1, y2) := by
  have e := red8 (a := 1) (b := 0) h (by unfold xb; omega) (by unfold xb; omega) hc hd hS s3 s5 s6 x1 x2
  refine ⟨lo (NQ t n 1 0 c d).1, lo (NQ t n 1 0 c d).2, ?_⟩
  unfold f_X8_restOfOne f_X8_put_mod_a f_X8_put_mod_b
  rw [show (1 : Int64) = lo 1 from rfl, show (0 : Int64) = lo 0 from rfl, e]
  rfl
theorem hm_power : HM_power REL := by
  intro cs ms hrel v1 v2 v3 v4
  obtain ⟨k, us, hk, hu, hnet, ht, hn, hm, hr⟩ := id hrel
  have h := TN_k hk
  have key : ∃ p q, f_X7_power (io (kT k)) (io (kN k)) (a_reg cs) v1 v2 v3 v4 = some p ∧ f_X8_power (lo (kT k)) (lo (kN k)) (a_mod_a ms) (a_mod_b ms) (a_mod_quotA ms) (a_mod_quotB ms) (a_regA ms) (a_regB ms) v1 v2 v3 v4 = some q ∧ p.1 = q.1 ∧ RG p.2 q.2.2.2.2.2.1 q.2.2.2.2.2.2 := by
    rcases reg2 hr v1 with ⟨h1, h2⟩ | ⟨a1, b1, -, -, p1, p2, p3, -⟩
    · exact ⟨(-1, a_reg cs), (-1, _, _, _, _, _, _), by simp only [f_X7_power, h1, ↓reduceIte], by simp only [f_X8_power, h2, ↓reduceIte]; rfl, rfl, hr⟩
    rcases reg2 hr v2 with ⟨h1, h2⟩ | ⟨a, b, ha, hb, s1, s2, s3, s4, s5, s6⟩
    · exact ⟨(-1, a_reg cs), (-1, _, _, _, _, _, _), by simp only [f_X7_power, p1, h1, ↓reduceIte], by simp only [f_X8_power, p2, h2, ↓reduceIte]; rfl, rfl, hr⟩
    have z8 : f_X8_in v3.toInt64 0 1000000000 = 0 ↔ v3 < 0 ∨ 1000000000 < v3 := in_i (l := 0) (u := 1000000000) (by unfold i32; omega) (by unfold i32; omega) v3
    by_cases y1 : v3 < 0
    · have z9 := z8.mpr (Or.inl y1)
      exact ⟨(-1, a_reg cs), (-1, _, _, _, _, _, _), by simp only [f_X7_power, p1, s1, y1, ↓reduceIte], by simp only [f_X8_power, p2, s2, z9, ↓reduceIte]; rfl, rfl, hr⟩
    by_cases y2 : 1000000000 < v3
    · have z9 := z8.mpr (Or.inr y2)
      exact ⟨(-1, a_reg cs), (-1, _, _, _, _, _, _), by simp only [f_X7_power, p1, s1, y1, y2, ↓reduceIte], by simp only [f_X8_power, p2, s2, z9, ↓reduceIte]; rfl, rfl, hr⟩
    have z9 : ¬ f_X8_in v3.toInt64 0 1000000000 = 0 := fun e => (z8.mp e).elim y1 y2
    rcases reg2 hr v4 with ⟨h1, h2⟩ | ⟨c, d, hc, hd, q1, q2, q3, q4, q5, q6⟩
    · exact ⟨(-1, a_reg cs), (-1, _, _, _, _, _, _), by simp only [f_X7_power, p1, s1, y1, y2, h1, ↓reduceIte], by simp only [f_X8_power, p2, s2, z9, h2, ↓reduceIte]; rfl, rfl, hr⟩
    rcases size_both hk hc hd q3 q5 q6 (m := 100000) (by unfold i32; omega) with ⟨-, g7, g8⟩ | ⟨hsz, g7, z, hz, g8⟩
    · have g7' : f_X7_isOfSize (io (kT k)) (io (kN k)) (pk c d) (100000 : Int32) = 0 := g7
      have g8' : f_X8_isModulus (lo (kT k)) (lo (kN k)) (a_regA ms) (a_regB ms) v4 100000 = some 0 := g8
      exact ⟨(-2, a_reg cs), (-2, _, _, _, _, _, _), by simp only [f_X7_power, p1, s1, y1, y2, q1, q3, q4, g7', ↓reduceIte], by simp only [f_X8_power, p2, s2, z9, q2, g8', Option.bind_some, ↓reduceIte]; rfl, rfl, hr⟩
    have g7' : ¬ f_X7_isOfSize (io (kT k)) (io (kN k)) (pk c d) (100000 : Int32) = 0 := g7
    have g8' : f_X8_isModulus (lo (kT k)) (lo (kN k)) (a_regA ms) (a_regB ms) v4 100000 = some z := g8
    have hS : 0 < sz (kT k) (kN k) c d := by omega
    obtain ⟨e, he, rfl⟩ : ∃ z, i32 z ∧ v3 = io z := ⟨v3.toInt, io_rng v3, io_of v3⟩
    have e0 : 0 ≤ e := by
      have c1 : io e < 0 ↔ e < 0 := io_lt (b := 0) he (by unfold i32; omega)
      have : ¬ e < 0 := fun g => y1 (c1.mpr g)
      omega
    obtain ⟨o1, o2⟩ := rest_c (a := 1) (b := 0) h hS hsz.2
    obtain ⟨o3, o4⟩ := rest_c (a := a) (b := b) h hS hsz.2
    obtain ⟨n1, n2, O8⟩ := one8 h hc hd hS q3 q5 q6 (a_mod_a ms) (a_mod_b ms) (a_mod_quotA ms) (a_mod_quotB ms)
    have R8 := red8 h ha.y.x hb.y.x hc hd hS q3 q5 q6 n1 n2
    obtain ⟨x, y, n3, n4, n5, n6, E7, E8, hx, hy⟩ := pw_both hk hc hd hS hsz.2 q3 q5 q6 e.toNat e _ _ _ _ (lo (rA (kT k) (kN k) a b c d)) (lo (rB (kT k) (kN k) a b c d)) (lo (NQ (kT k) (kN k) a b c d).1) (lo (NQ (kT k) (kN k) a b c d).2) (Nat.le_refl _) e0 (by have := he.2; omega) o1 o2 o3 o4
    have R7 := raised7 hk ha hb hc hd hS (io e)
    rw [E7] at R7
    obtain ⟨w, r', gA', gB', P7, P8, hr'⟩ := put_both p1 p3 hr hx.i hy.i
    exact ⟨(w, r'), (w, _, _, _, _, gA', gB'), by
        simp only [f_X7_power, p1, s1, y1, y2, q1, q3, q4, g7', s3, s4, R7, P7, Option.bind_some, ↓reduceIte]
        try rfl, by
        simp only [f_X8_power, p2, s2, z9, q2, g8', hz, O8, s3, s5, s6, f_X8_put_mod_a, f_X8_put_mod_b, R8, E8, f_X8_power_K106_188, P8, Option.bind_some, ↓reduceIte]
        try rfl, rfl, hr'⟩
  obtain ⟨p, q, e1, e2, e3, e4⟩ := key
  refine ⟨p, q, ?_, ?_, e3, k, us, hk, hu, hnet, ht, hn, hm, e4⟩
  · rw [hnet.1, hnet.2.1]; exact e1
  · rw [ht, hn]; exact e2
