/-! within, ofSize: rows of the circle -/
def isqN : Nat → Nat
  | 0 => 0
  | n + 1 => if (isqN n + 1) * (isqN n + 1) ≤ n + 1 then isqN n + 1 else isqN n
theorem isqN_spec (n : Nat) : isqN n * isqN n ≤ n ∧ n < (isqN n + 1) * (isqN n + 1) := by
  induction n with
  | zero => exact ⟨Nat.le_refl 0, by decide⟩
  | succ n ih =>
    unfold isqN
    by_cases g : (isqN n + 1) * (isqN n + 1) ≤ n + 1
    · rw [if_pos g]
      refine ⟨g, ?_⟩
      have e : (isqN n + 1 + 1) * (isqN n + 1 + 1) = (isqN n + 1) * (isqN n + 1) + 2 * isqN n + 3 := by grind
      omega
    · rw [if_neg g]
      omega
def isq (x : Int) : Int := (isqN x.toNat : Int)
theorem isq_spec {x : Int} (h : 0 ≤ x) : 0 ≤ isq x ∧ isq x * isq x ≤ x ∧ x < (isq x + 1) * (isq x + 1) := by
  have e := isqN_spec x.toNat
  unfold isq
  refine ⟨by omega, ?_, ?_⟩
  · have : ((isqN x.toNat * isqN x.toNat : Nat) : Int) ≤ ((x.toNat : Nat) : Int) := by exact Int.ofNat_le.mpr e.1
    rw [Int.natCast_mul] at this
    omega
  · have : ((x.toNat : Nat) : Int) < (((isqN x.toNat + 1) * (isqN x.toNat + 1) : Nat) : Int) := Int.ofNat_lt.mpr e.2
    rw [Int.natCast_mul] at this
    have e2 : ((isqN x.toNat + 1 : Nat) : Int) = (isqN x.toNat : Int) + 1 := rfl
    rw [e2] at this
    omega
theorem sq_mono {a b : Int} (h : 0 ≤ a) (g : a ≤ b) : a * a ≤ b * b := Int.mul_le_mul g g h (Int.le_trans h g)
theorem isq_uniq {x r : Int} (h0 : 0 ≤ r) (h1 : r * r ≤ x) (h2 : x < (r + 1) * (r + 1)) : r = isq x := by
  have hx : 0 ≤ x := by have := sq_nn r; omega
  obtain ⟨g0, g1, g2⟩ := isq_spec hx
  rcases Int.lt_trichotomy r (isq x) with g | g | g
  · have := sq_mono (a := r + 1) (b := isq x) (by omega) (by omega); omega
  · exact g
  · have := sq_mono (a := isq x + 1) (b := r) (by omega) (by omega); omega
theorem isq_mono {x y : Int} (h : 0 ≤ x) (g : x ≤ y) : isq x ≤ isq y := by
  obtain ⟨a0, a1, a2⟩ := isq_spec h
  obtain ⟨b0, b1, b2⟩ := isq_spec (show 0 ≤ y by omega)
  rcases Int.lt_or_le (isq y) (isq x) with q | q
  · have := sq_mono (a := isq y + 1) (b := isq x) (by omega) (by omega); omega
  · exact q
theorem under8_l {v : Int} (hv : v ≤ 10000000000) : ∀ (f : Nat) (l h : Int), h - l ≤ (f : Int) → 0 ≤ l → l ≤ h → h ≤ 200000 → l * l ≤ v → v < (h + 1) * (h + 1) → whl (f_X8_under_L17 (lo v)) (lo l, lo h) = some (lo (isq v)) := by
  intro f
  induction f with
  | zero =>
    intro l h h1 h2 h3 h4 h5 h6
    have : h = l := by omega
    subst this
    refine whl_r ?_
    unfold f_X8_under_L17
    dsimp only
    rw [if_pos (Int64.le_refl _), isq_uniq h2 h5 h6]
  | succ f ih =>
    intro l h h1 h2 h3 h4 h5 h6
    by_cases g : h = l
    · subst g
      refine whl_r ?_
      unfold f_X8_under_L17
      dsimp only
      rw [if_pos (Int64.le_refl _), isq_uniq h2 h5 h6]
    · have v0 : 0 ≤ v := by have := sq_nn l; omega
      have c1 : ¬ lo h ≤ lo l := fun e => by
        have := (lo_le (by unfold i64; omega) (by unfold i64; omega)).mp e
        omega
      have e1 : (lo l + lo h + (1 : Int64)) / (2 : Int64) = lo ((l + h + 1) / 2) := by
        have e2 : lo l + lo h + (1 : Int64) = lo (l + h + 1) := by
          rw [lo_add]; exact lo_add _ 1
        have e3 : lo (l + h + 1) / (2 : Int64) = lo ((l + h + 1).tdiv 2) := lo_div (b := 2) (by unfold i64; omega) (by unfold i64; omega) (by omega)
        rw [e2, e3, Int.tdiv_eq_ediv_of_nonneg (by omega)]
      have hm1 : l < (l + h + 1) / 2 := by omega
      have hm2 : (l + h + 1) / 2 ≤ h := by omega
      have e4 : (lo ((l + h + 1) / 2) - (1 : Int64)) = lo ((l + h + 1) / 2 - 1) := lo_sub _ 1
      have hmm : (l + h + 1) / 2 * ((l + h + 1) / 2) ≤ 200000 * 200000 := sq_mono (by omega) (by omega)
      have hm0 := sq_nn ((l + h + 1) / 2)
      have c2 : lo v < lo ((l + h + 1) / 2 * ((l + h + 1) / 2)) ↔ _ := lo_lt (by unfold i64; omega) (by unfold i64; omega)
      by_cases q : v < (l + h + 1) / 2 * ((l + h + 1) / 2)
      · refine (whl_l ?_).trans (ih l ((l + h + 1) / 2 - 1) (by omega) h2 (by omega) (by omega) h5 (by rw [show (l + h + 1) / 2 - 1 + 1 = (l + h + 1) / 2 by omega]; exact q))
        unfold f_X8_under_L17
        dsimp only
        rw [if_neg c1, e1, lo_mul, if_pos (c2.mpr q), e4]
      · refine (whl_l ?_).trans (ih ((l + h + 1) / 2) h (by omega) (by omega) hm2 h4 (by omega) h6)
        unfold f_X8_under_L17
        dsimp only
        rw [if_neg c1, e1, lo_mul, if_neg (fun e => q (c2.mp e))]
theorem under8 {v : Int} (h0 : 0 ≤ v) (hv : v ≤ 10000000000) : f_X8_under (lo v) = some (lo (isq v)) := by
  have c : (0 : Int64) ≤ lo v := (lo_le (a := 0) (by unfold i64; omega) (by unfold i64; omega)).mpr h0
  unfold f_X8_under f_X8_under_K17_61
  rw [if_pos c, show (0 : Int64) = lo 0 from rfl, show (200000 : Int64) = lo 200000 from rfl, under8_l hv 200000 0 200000 (by omega) (by omega) (by omega) (by omega) (by omega) (by omega)]
  rfl
theorem under8n {v : Int} (h0 : v < 0) (hv : -10000000000 ≤ v) : f_X8_under (lo v) = some (-1) := by
  have c : ¬ (0 : Int64) ≤ lo v := fun e => by
    have := (lo_le (a := 0) (by unfold i64; omega) (by unfold i64; omega)).mp e
    omega
  unfold f_X8_under
  rw [if_neg c]
theorem sh1l : ((1 : Int32).toInt64 &&& 63).toBitVec.smod 64 = 1#64 := by decide
theorem shr1l {z : Int} (h : 0 ≤ z) (g : z < 9223372036854775808) : lo z >>> ((1 : Int32).toInt64 &&& 63) = lo (z / 2) := by
  apply Int64.toInt_inj.mp
  have e : (lo z >>> ((1 : Int32).toInt64 &&& 63)).toBitVec = (lo z).toBitVec.sshiftRight 1 := by
    rw [Int64.toBitVec_shiftRight, sh1l]
    rfl
  rw [lo_toInt (by unfold i64; omega)]
  show (lo z >>> ((1 : Int32).toInt64 &&& 63)).toBitVec.toInt = z / 2
  rw [e, BitVec.toInt_sshiftRight, Int.shiftRight_eq_div_pow]
  have : (lo z).toBitVec.toInt = z := lo_toInt (z := z) (by unfold i64; omega)
  rw [this]
  rfl
def bt : Nat → Int
  | 0 => 1
  | k + 1 => 2 * bt k
theorem bt_pos (k : Nat) : 1 ≤ bt k := by
  induction k with
  | zero => exact Int.le_refl 1
  | succ k ih => unfold bt; omega
theorem sq7_end {x r : Int} : whl (f_X4_squareRoot_L7 (lo x)) (lo r, lo 0) = some (lo r) := by
  refine whl_r ?_
  unfold f_X4_squareRoot_L7
  dsimp only
  rw [if_pos (by decide)]
theorem sq7_l {x : Int} (hx : 0 ≤ x) (hx2 : x ≤ 4000000000000) : ∀ (k : Nat) (r : Int), 0 ≤ r → r + 2 * bt k ≤ 2097152 → r * r ≤ x → x < (r + 2 * bt k) * (r + 2 * bt k) → whl (f_X4_squareRoot_L7 (lo x)) (lo r, lo (bt k)) = some (lo (isq x)) := by
  intro k
  have stp : ∀ (k : Nat) (r p : Int), bt k / 2 = p → 0 ≤ r → r + 2 * bt k ≤ 2097152 → (x < (r + bt k) * (r + bt k) → whl (f_X4_squareRoot_L7 (lo x)) (lo r, lo (bt k)) = whl (f_X4_squareRoot_L7 (lo x)) (lo r, lo p)) ∧ (¬ x < (r + bt k) * (r + bt k) → whl (f_X4_squareRoot_L7 (lo x)) (lo r, lo (bt k)) = whl (f_X4_squareRoot_L7 (lo x)) (lo (r + bt k), lo p)) := by
    intro k r p hp h0 h1
    have hb := bt_pos k
    have c1 : ¬ lo (bt k) ≤ (0 : Int64) := fun e => by
      have := (lo_le (b := 0) (by unfold i64; omega) (by unfold i64; omega)).mp e
      omega
    have m1 := sq_mono (a := r + bt k) (b := 2097152) (by omega) (by omega)
    have m0 := sq_nn (r + bt k)
    have c2 : lo x < lo ((r + bt k) * (r + bt k)) ↔ _ := lo_lt (by unfold i64; omega) (by unfold i64; omega)
    have e1 := shr1l (z := bt k) (by omega) (by omega)
    rw [hp] at e1
    constructor
    · intro q
      refine whl_l ?_
      unfold f_X4_squareRoot_L7
      dsimp only
      rw [if_neg c1, lo_add, lo_mul, if_pos (c2.mpr q), e1]
    · intro q
      refine whl_l ?_
      unfold f_X4_squareRoot_L7
      dsimp only
      rw [if_neg c1, lo_add, lo_mul, if_neg (fun e => q (c2.mp e)), e1]
  induction k with
  | zero =>
    intro r h0 h1 h2 h3
    have hb : bt 0 = 1 := rfl
    rw [hb] at h1 h3
    obtain ⟨s1, s2⟩ := stp 0 r 0 (by rw [hb]; rfl) h0 (by rw [hb]; omega)
    rw [hb] at s1 s2
    rw [hb]
    by_cases q : x < (r + 1) * (r + 1)
    · rw [s1 q, sq7_end, isq_uniq h0 h2 q]
    · rw [s2 q, sq7_end, isq_uniq (x := x) (r := r + 1) (by omega) (by omega) (by rw [show r + 1 + 1 = r + 2 * 1 by omega]; exact h3)]
  | succ k ih =>
    intro r h0 h1 h2 h3
    have hb : bt (k + 1) = 2 * bt k := rfl
    obtain ⟨s1, s2⟩ := stp (k + 1) r (bt k) (by rw [hb]; omega) h0 h1
    have hp := bt_pos k
    by_cases q : x < (r + bt (k + 1)) * (r + bt (k + 1))
    · rw [s1 q]
      exact ih r h0 (by omega) h2 (by rw [← hb]; exact q)
    · rw [s2 q]
      refine ih (r + bt (k + 1)) (by omega) (by omega) (by omega) ?_
      rw [show r + bt (k + 1) + 2 * bt k = r + 2 * bt (k + 1) by omega]
      exact h3
theorem sqrt7 {x : Int} (hx : 0 ≤ x) (hx2 : x ≤ 4000000000000) : f_X4_squareRoot (lo x) = some (lo (isq x)) := by
  have hb : bt 20 = 1048576 := by decide
  have e := sq7_l hx hx2 20 0 (by omega) (by rw [hb]; omega) (by omega) (by rw [hb]; omega)
  rw [hb] at e
  unfold f_X4_squareRoot f_X4_squareRoot_K7_42
  rw [show (0 : Int64) = lo 0 from rfl, show (1048576 : Int64) = lo 1048576 from rfl, e]
  rfl
theorem sqn_l {x : Int} (hx : x < 0) (hx2 : -1000000 ≤ x) : ∀ (k : Nat), bt k ≤ 2097152 → whl (f_X4_squareRoot_L7 (lo x)) (lo 0, lo (bt k)) = some (lo 0) := by
  intro k
  have stp : ∀ (k : Nat) (p : Int), bt k / 2 = p → bt k ≤ 2097152 → whl (f_X4_squareRoot_L7 (lo x)) (lo 0, lo (bt k)) = whl (f_X4_squareRoot_L7 (lo x)) (lo 0, lo p) := by
    intro k p hp h1
    have hb := bt_pos k
    have c1 : ¬ lo (bt k) ≤ (0 : Int64) := fun e => by
      have := (lo_le (b := 0) (by unfold i64; omega) (by unfold i64; omega)).mp e
      omega
    have m1 := sq_mono (a := bt k) (b := 2097152) (by omega) (by omega)
    have m0 := sq_nn (bt k)
    have c2 : lo x < lo (bt k * bt k) ↔ _ := lo_lt (by unfold i64; omega) (by unfold i64; omega)
    have e1 := shr1l (z := bt k) (by omega) (by omega)
    rw [hp] at e1
    refine whl_l ?_
    unfold f_X4_squareRoot_L7
    dsimp only
    rw [if_neg c1, lo_add, Int.zero_add, lo_mul, if_pos (c2.mpr (by omega)), e1]
  induction k with
  | zero =>
    intro h
    have hb : bt 0 = 1 := rfl
    rw [stp 0 0 (by rw [hb]; rfl) h, sq7_end]
  | succ k ih =>
    intro h
    have hb : bt (k + 1) = 2 * bt k := rfl
    have hp := bt_pos k
    rw [stp (k + 1) (bt k) (by rw [hb]; omega) h]
    exact ih (by omega)
theorem sqrtn {x : Int} (hx : x < 0) (hx2 : -1000000 ≤ x) : f_X4_squareRoot (lo x) = some (lo 0) := by
  have hb : bt 20 = 1048576 := by decide
  have e := sqn_l hx hx2 20 (by rw [hb]; omega)
  rw [hb] at e
  unfold f_X4_squareRoot f_X4_squareRoot_K7_42
  rw [show (0 : Int64) = lo 0 from rfl, show (1048576 : Int64) = lo 1048576 from rfl, e]
  rfl
def cw (t b r : Int) : Int := if (t * b) % 2 = 0 then r / 2 * 2 + 1 else (r + 1) / 2 * 2
def DD (t n s b : Int) : Int := 4 * s - (4 * n - t * t) * b * b
def rowF (t n s b : Int) : Int := if 0 ≤ DD t n s b then cw t b (isq (DD t n s b)) else 0
def SM (f : Int → Int) : Nat → Int
  | 0 => 0
  | n + 1 => SM f n + f ((n : Int) + 1)
theorem cw_8 (t b r : Int) : (r - t * b) / 2 + (r + t * b) / 2 + 1 = cw t b r := by
  unfold cw
  generalize t * b = z
  split <;> omega
theorem DD_neg (t n s b : Int) : DD t n s (-b) = DD t n s b := by unfold DD; grind
theorem rowF_neg (t n s b : Int) : rowF t n s (-b) = rowF t n s b := by
  unfold rowF
  rw [DD_neg]
  by_cases g : 0 ≤ DD t n s b
  · rw [if_pos g, if_pos g]
    unfold cw
    have e : t * -b = -(t * b) := by grind
    rw [e]
    generalize t * b = z
    by_cases q : z % 2 = 0
    · rw [if_pos (by omega), if_pos q]
    · rw [if_neg (by omega), if_neg q]
  · rw [if_neg g, if_neg g]
def GG (f : Int → Int) (N i : Nat) : Int := if i ≤ N then SM f N - SM f (N - i) else SM f N + f 0 + SM f (i - N - 1)
theorem GG_step {f : Int → Int} (hf : ∀ b, f (-b) = f b) (N i : Nat) : GG f N (i + 1) = GG f N i + f (-(N : Int) + (i : Int)) := by
  unfold GG
  rcases Nat.lt_trichotomy i N with g | g | g
  · rw [if_pos (by omega), if_pos (by omega)]
    have e : N - i = (N - (i + 1)) + 1 := by omega
    have e2 : SM f (N - i) = SM f (N - (i + 1)) + f (((N - (i + 1) : Nat) : Int) + 1) := by rw [e]; rfl
    have e3 : f (-(N : Int) + (i : Int)) = f (((N - (i + 1) : Nat) : Int) + 1) := by
      rw [← hf (((N - (i + 1) : Nat) : Int) + 1)]
      congr 1
      omega
    rw [e2, e3]
    omega
  · subst g
    rw [if_neg (by omega), if_pos (Nat.le_refl _), Nat.sub_self, show i + 1 - i - 1 = 0 by omega]
    have e : SM f 0 = 0 := rfl
    rw [e, show -(i : Int) + (i : Int) = 0 by omega]
    omega
  · rw [if_neg (by omega), if_neg (by omega)]
    have e : i + 1 - N - 1 = (i - N - 1) + 1 := by omega
    have e2 : SM f (i + 1 - N - 1) = SM f (i - N - 1) + f (((i - N - 1 : Nat) : Int) + 1) := by rw [e]; rfl
    have e3 : -(N : Int) + (i : Int) = ((i - N - 1 : Nat) : Int) + 1 := by omega
    rw [e2, e3]
    omega
theorem GG_end (f : Int → Int) (N : Nat) : GG f N (2 * N + 1) = f 0 + 2 * SM f N := by
  unfold GG
  rw [if_neg (by omega), show 2 * N + 1 - N - 1 = N by omega]
  omega
theorem SM_zero {f : Int → Int} (i : Nat) (h : ∀ j : Int, (i : Int) ≤ j → f j = 0) : ∀ N : Nat, i ≤ N + 1 → SM f N = SM f (i - 1) := by
  intro N
  induction N with
  | zero => intro g; rw [show i - 1 = 0 by omega]
  | succ N ih =>
    intro g
    by_cases e : i = N + 2
    · rw [e]; rfl
    · have e2 : SM f (N + 1) = SM f N + f ((N : Int) + 1) := rfl
      rw [e2, h _ (by omega), Int.add_zero]
      exact ih (by omega)
theorem inner59 {s W b : Int} (hD : 0 ≤ 4 * s - W * b * b) (hD2 : 4 * s - W * b * b ≤ 10000000) (hs : i64 s) : ∀ (f : Nat) (side : Int), side - isq (4 * s - W * b * b) ≤ (f : Int) → isq (4 * s - W * b * b) ≤ side → side ≤ 10000 → whl (f_X4_inCircle_L59 (lo s) (lo W) (lo b)) (lo side) = some (lo (isq (4 * s - W * b * b))) := by
  intro f
  obtain ⟨q0, q1, q2⟩ := isq_spec hD
  have eD : (4 : Int64) * lo s - lo W * lo b * lo b = lo (4 * s - W * b * b) := by
    have : (4 : Int64) * lo s = lo (4 * s) := lo_mul 4 s
    rw [this, lo_mul, lo_mul, lo_sub]
  generalize 4 * s - W * b * b = D at *
  have endc : whl (f_X4_inCircle_L59 (lo s) (lo W) (lo b)) (lo (isq D)) = some (lo (isq D)) := by
    have m := sq_nn (isq D)
    refine whl_r ?_
    unfold f_X4_inCircle_L59
    rw [eD]
    by_cases z : isq D ≤ 0
    · have : isq D = 0 := by omega
      rw [this, if_pos (by decide)]
    · by_cases y : lo (isq D) ≤ (0 : Int64)
      · rw [if_pos y]
      · rw [if_neg y, lo_mul, if_pos ((lo_le (by unfold i64; omega) (by unfold i64; omega)).mpr q1)]
  induction f with
  | zero =>
    intro side h1 h2 h3
    have : side = isq D := by omega
    rw [this]
    exact endc
  | succ f ih =>
    intro side h1 h2 h3
    by_cases g : side = isq D
    · rw [g]; exact endc
    · have m1 := sq_mono (a := isq D + 1) (b := side) (by omega) (by omega)
      have m2 := sq_mono (a := side) (b := 10000) (by omega) (by omega)
      refine (whl_l ?_).trans (ih (side - 1) (by omega) (by omega) (by omega))
      unfold f_X4_inCircle_L59
      rw [eD, if_neg (fun e => by have := (lo_le (b := 0) (by unfold i64; omega) (by unfold i64; omega)).mp e; omega), lo_mul, if_neg (fun e => by have := (lo_le (by unfold i64; omega) (by unfold i64; omega)).mp e; omega)]
      have : lo side - (1 : Int64) = lo (side - 1) := lo_sub side 1
      rw [this]
theorem W_b {k : Nat} (hk : k < 5) : 3 ≤ 4 * kN k - kT k * kT k ∧ 4 * kN k - kT k * kT k ≤ 11 := by
  have : k = 0 ∨ k = 1 ∨ k = 2 ∨ k = 3 ∨ k = 4 := by omega
  rcases this with rfl | rfl | rfl | rfl | rfl <;> decide
theorem lo_half {z : Int} (h : 0 ≤ z) (g : z < 1000000) : lo z / (2 : Int64) * (2 : Int64) = lo (z / 2 * 2) := by
  have e3 : lo z / (2 : Int64) = lo (z.tdiv 2) := lo_div (b := 2) (by unfold i64; omega) (by unfold i64; omega) (by omega)
  rw [e3, Int.tdiv_eq_ediv_of_nonneg h]
  exact lo_mul _ 2
/-- one row of the class -/
theorem k59 {k : Nat} {r c b : Int} (hr : 0 ≤ r) (hr2 : r ≤ 10000) (hb : 0 ≤ b) (hb2 : b ≤ 10000) : f_X4_inCircle_K59_97 (io (kT k)) (lo r) (lo c) (lo b) = some (Sum.inl (lo r, lo (c + (if b = 0 then 1 else 2) * cw (kT k) b r), lo (b + 1))) := by
  obtain ⟨⟨t1, t2⟩, n1, n2⟩ := kTN_b k
  have tb := mul_b t1 t2 (show -10000 ≤ b by omega) hb2
  have iT : i64 (kT k * b) := by unfold i64; omega
  have d := dvd_lo (b := 2) iT (by unfold i64; omega) (by omega)
  have d' : lo (kT k * b) - lo (kT k * b) / (2 : Int64) * (2 : Int64) = 0 ↔ _ := d
  have z : lo b = (0 : Int64) ↔ b = 0 := lo_eq (b := 0) (by unfold i64; omega) (by unfold i64; omega)
  have p1 : lo b + (1 : Int64) = lo (b + 1) := lo_add b 1
  have p2 : lo r + (1 : Int64) = lo (r + 1) := lo_add r 1
  have h1 := lo_half (z := r) hr (by omega)
  have h2 := lo_half (z := r + 1) (by omega) (by omega)
  unfold f_X4_inCircle_K59_97 cw
  rw [io_w (kT_i k), lo_mul, p1, p2, h1, h2]
  by_cases g : (kT k * b) % 2 = 0
  · rw [if_pos (d'.mpr (Int.dvd_of_emod_eq_zero g)), if_pos g]
    have q1 : lo (r / 2 * 2) + (1 : Int64) = lo (r / 2 * 2 + 1) := lo_add _ 1
    rw [q1]
    by_cases y : b = 0
    · rw [if_pos (z.mpr y), if_pos y, lo_add, Int.one_mul]
    · have q2 : (2 : Int64) * lo (r / 2 * 2 + 1) = lo (2 * (r / 2 * 2 + 1)) := lo_mul 2 _
      rw [if_neg (fun e => y (z.mp e)), if_neg y, q2, lo_add]
  · rw [if_neg (fun e => g (Int.emod_eq_zero_of_dvd (d'.mp e))), if_neg g]
    by_cases y : b = 0
    · rw [if_pos (z.mpr y), if_pos y, lo_add, Int.one_mul]
    · have q2 : (2 : Int64) * lo ((r + 1) / 2 * 2) = lo (2 * ((r + 1) / 2 * 2)) := lo_mul 2 _
      rw [if_neg (fun e => y (z.mp e)), if_neg y, q2, lo_add]
def c7 (f : Int → Int) (i : Nat) : Int := if i = 0 then 0 else f 0 + 2 * SM f (i - 1)
theorem circle7 {k : Nat} (hk : k < 5) {s : Int} (h0 : -1 ≤ s) (h1 : s ≤ 1000000) : f_X4_inCircle (io (kT k)) (io (kN k)) (lo s) = some (lo (rowF (kT k) (kN k) s 0 + 2 * SM (rowF (kT k) (kN k) s) 1200)) := by
  obtain ⟨w1, w2⟩ := W_b hk
  have hW : (((4 : Int32) * io (kN k)) - (io (kT k) * io (kT k))).toInt64 = lo (4 * kN k - kT k * kT k) := by
    have : (4 : Int32) * io (kN k) = io (4 * kN k) := io_mul 4 _
    rw [this, io_mul, io_sub, io_w (by unfold i32; omega)]
  have eDD : ∀ b, DD (kT k) (kN k) s b = 4 * s - (4 * kN k - kT k * kT k) * b * b := fun b => rfl
  have mono : ∀ i j : Int, 0 ≤ i → i ≤ j → (4 * kN k - kT k * kT k) * i * i ≤ (4 * kN k - kT k * kT k) * j * j := by
    intro i j hi hj
    rw [Int.mul_assoc, Int.mul_assoc]
    exact Int.mul_le_mul_of_nonneg_left (sq_mono hi hj) (by omega)
  have hzero : ∀ i : Int, 0 ≤ i → ¬ 0 ≤ DD (kT k) (kN k) s i → ∀ j, i ≤ j → rowF (kT k) (kN k) s j = 0 := by
    intro i hi g j hj
    unfold rowF
    have := mono i j hi hj
    rw [eDD] at g
    rw [if_neg (by rw [eDD]; omega)]
  obtain ⟨sd, hsd, sd0, sd1, sd2⟩ : ∃ sd : Int, f_X4_squareRoot ((4 : Int64) * lo s) = some (lo sd) ∧ 0 ≤ sd ∧ sd ≤ 10000 ∧ (0 ≤ DD (kT k) (kN k) s 0 → isq (DD (kT k) (kN k) s 0) ≤ sd) := by
    have e4 : (4 : Int64) * lo s = lo (4 * s) := lo_mul 4 s
    rw [e4]
    have e0 : DD (kT k) (kN k) s 0 = 4 * s := by unfold DD; grind
    rw [e0]
    by_cases g : 0 ≤ s
    · obtain ⟨q0, q1, q2⟩ := isq_spec (x := 4 * s) (by omega)
      refine ⟨isq (4 * s), sqrt7 (by omega) (by omega), q0, ?_, fun _ => Int.le_refl _⟩
      rcases Int.lt_or_le 10000 (isq (4 * s)) with z | z
      · have := sq_mono (a := 10000) (b := isq (4 * s)) (by omega) (by omega)
        omega
      · exact z
    · exact ⟨0, sqrtn (by omega) (by omega), by omega, by omega, fun e => by omega⟩
  have key : ∃ r, whl (f_X4_inCircle_L34 (io (kT k)) (lo s) (lo (4 * kN k - kT k * kT k))) (lo sd, (0 : Int64), (0 : Int64)) = some r ∧ r = lo (rowF (kT k) (kN k) s 0 + 2 * SM (rowF (kT k) (kN k) s) 1200) := by
    refine whl_fe (b := f_X4_inCircle_L34 (io (kT k)) (lo s) (lo (4 * kN k - kT k * kT k))) 1201 (fun i z => ∃ sd : Int, z = (lo sd, lo (c7 (rowF (kT k) (kN k) s) i), lo (i : Int)) ∧ 0 ≤ sd ∧ sd ≤ 10000 ∧ (0 ≤ DD (kT k) (kN k) s (i : Int) → isq (DD (kT k) (kN k) s (i : Int)) ≤ sd)) (fun r => r = lo (rowF (kT k) (kN k) s 0 + 2 * SM (rowF (kT k) (kN k) s) 1200)) ?_ ?_ 0 _ (by omega) ⟨sd, rfl, sd0, sd1, sd2⟩
    · rintro i z hi ⟨side, rfl, g0, g1, g2⟩
      have c1 : ¬ ((1000000 : Int64) ≤ lo (i : Int)) := fun e => by
        have := (lo_le (a := 1000000) (by unfold i64; omega) (by unfold i64; omega)).mp e
        omega
      have mI := mono 0 (i : Int) (by omega) (by omega)
      have mJ := mono (i : Int) 1201 (by omega) (by omega)
      have eP : (4 * kN k - kT k * kT k) * (1201 : Int) * 1201 = 1442401 * (4 * kN k - kT k * kT k) := by grind
      have e0 : (4 * kN k - kT k * kT k) * (0 : Int) * 0 = 0 := by grind
      have c2 : (4 : Int64) * lo s < lo (4 * kN k - kT k * kT k) * lo (i : Int) * lo (i : Int) ↔ 4 * s < (4 * kN k - kT k * kT k) * (i : Int) * (i : Int) := by
        have e4 : (4 : Int64) * lo s = lo (4 * s) := lo_mul 4 s
        rw [e4, lo_mul, lo_mul]
        exact lo_lt (by unfold i64; omega) (by unfold i64; omega)
      by_cases q : 4 * s < (4 * kN k - kT k * kT k) * (i : Int) * (i : Int)
      · left
        refine ⟨_, ?_, rfl⟩
        unfold f_X4_inCircle_L34
        dsimp only
        rw [if_neg c1, if_pos (c2.mpr q)]
        have hz := hzero (i : Int) (by omega) (by rw [eDD]; omega)
        congr 3
        unfold c7
        have e1 := SM_zero i hz 1200 (by omega)
        rw [e1]
        by_cases z : i = 0
        · have y0 := hz 0 (by omega)
          subst z
          rw [if_pos rfl, y0]
          rfl
        · rw [if_neg z]
      · right
        have hD : 0 ≤ 4 * s - (4 * kN k - kT k * kT k) * (i : Int) * (i : Int) := by omega
        have hD2 : 4 * s - (4 * kN k - kT k * kT k) * (i : Int) * (i : Int) ≤ 10000000 := by omega
        have g3 := g2 (by rw [eDD]; exact hD)
        rw [eDD] at g3
        obtain ⟨q0, q1, q2⟩ := isq_spec hD
        have i59 := inner59 hD hD2 (by unfold i64; omega) side.toNat side (by omega) g3 g1
        refine ⟨_, ?_, isq (4 * s - (4 * kN k - kT k * kT k) * (i : Int) * (i : Int)), rfl, q0, by omega, ?_⟩
        · unfold f_X4_inCircle_L34
          dsimp only
          rw [if_neg c1, if_neg (fun e => q (c2.mp e)), i59]
          simp only [Option.bind_some]
          rw [k59 q0 (by omega) (by omega) (by omega)]
          have hrow : rowF (kT k) (kN k) s (i : Int) = cw (kT k) (i : Int) (isq (4 * s - (4 * kN k - kT k * kT k) * (i : Int) * (i : Int))) := by
            unfold rowF
            rw [eDD, if_pos hD]
          have e7 : c7 (rowF (kT k) (kN k) s) i + (if (i : Int) = 0 then 1 else 2) * cw (kT k) (i : Int) (isq (4 * s - (4 * kN k - kT k * kT k) * (i : Int) * (i : Int))) = c7 (rowF (kT k) (kN k) s) (i + 1) := by
            rw [← hrow]
            unfold c7
            rw [if_neg (show ¬ i + 1 = 0 by omega), show i + 1 - 1 = i by omega]
            by_cases z : i = 0
            · subst z
              rw [if_pos rfl, if_pos (show ((0 : Nat) : Int) = 0 from rfl)]
              show 0 + 1 * rowF (kT k) (kN k) s 0 = rowF (kT k) (kN k) s 0 + 2 * 0
              omega
            · rw [if_neg z, if_neg (by omega)]
              have e : SM (rowF (kT k) (kN k) s) i = SM (rowF (kT k) (kN k) s) (i - 1) + rowF (kT k) (kN k) s (i : Int) := by
                obtain ⟨j, rfl⟩ : ∃ j, i = j + 1 := ⟨i - 1, by omega⟩
                rfl
              rw [e]
              omega
          rw [e7]
          rfl
        · intro h2
          rw [← eDD]
          refine isq_mono h2 ?_
          have := mono (i : Int) ((i + 1 : Nat) : Int) (by omega) (by omega)
          rw [eDD, eDD]
          omega
    · rintro z ⟨side, rfl, g0, g1, g2⟩
      have eP : (4 * kN k - kT k * kT k) * (1201 : Int) * 1201 = 1442401 * (4 * kN k - kT k * kT k) := by grind
      have c1 : ¬ ((1000000 : Int64) ≤ lo ((1201 : Nat) : Int)) := by decide
      have c2 : (4 : Int64) * lo s < lo (4 * kN k - kT k * kT k) * lo ((1201 : Nat) : Int) * lo ((1201 : Nat) : Int) := by
        have e4 : (4 : Int64) * lo s = lo (4 * s) := lo_mul 4 s
        rw [e4, lo_mul, lo_mul]
        have e5 : ((1201 : Nat) : Int) = 1201 := rfl
        rw [e5]
        exact (lo_lt (by unfold i64; omega) (by unfold i64; omega)).mpr (by omega)
      refine ⟨_, ?_, rfl⟩
      unfold f_X4_inCircle_L34
      dsimp only
      rw [if_neg c1, if_pos c2]
      rfl
  obtain ⟨r, e, hr⟩ := key
  unfold f_X4_inCircle f_X4_inCircle_K34_187
  rw [hsd]
  simp only [Option.bind_some]
  rw [hW, e, hr]
  rfl
