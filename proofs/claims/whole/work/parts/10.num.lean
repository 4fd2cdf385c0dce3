/-! whole numbers in the machine's words: lo, io are ring maps; order and division in range -/
abbrev lo (z : Int) : Int64 := Int64.ofInt z
abbrev io (z : Int) : Int32 := Int32.ofInt z
theorem lo_of (x : Int64) : x = lo x.toInt := (Int64.ofInt_toInt x).symm
theorem io_of (x : Int32) : x = io x.toInt := (Int32.ofInt_toInt x).symm
theorem lo_add (a b : Int) : lo a + lo b = lo (a + b) := (Int64.ofInt_add a b).symm
theorem lo_sub (a b : Int) : lo a - lo b = lo (a - b) := (Int64.ofInt_sub a b).symm
theorem lo_mul (a b : Int) : lo a * lo b = lo (a * b) := (Int64.ofInt_mul a b).symm
theorem lo_neg (a : Int) : -lo a = lo (-a) := (Int64.ofInt_neg a).symm
theorem io_add (a b : Int) : io a + io b = io (a + b) := (Int32.ofInt_add a b).symm
theorem io_sub (a b : Int) : io a - io b = io (a - b) := (Int32.ofInt_sub a b).symm
theorem io_mul (a b : Int) : io a * io b = io (a * b) := (Int32.ofInt_mul a b).symm
theorem io_neg (a : Int) : -io a = io (-a) := (Int32.ofInt_neg a).symm
theorem lo_lit (n : Nat) : (OfNat.ofNat n : Int64) = lo (OfNat.ofNat n) := rfl
theorem io_lit (n : Nat) : (OfNat.ofNat n : Int32) = io (OfNat.ofNat n) := rfl
def i64 (z : Int) : Prop := -9223372036854775808 ≤ z ∧ z < 9223372036854775808
def i32 (z : Int) : Prop := -2147483648 ≤ z ∧ z < 2147483648
theorem i32.w {z : Int} (h : i32 z) : i64 z := ⟨by have := h.1; omega, by have := h.2; omega⟩
theorem lo_toInt {z : Int} (h : i64 z) : (lo z).toInt = z := Int64.toInt_ofInt_of_le h.1 h.2
theorem io_toInt {z : Int} (h : i32 z) : (io z).toInt = z := Int32.toInt_ofInt_of_le h.1 h.2
theorem lo_lt {a b : Int} (ha : i64 a) (hb : i64 b) : lo a < lo b ↔ a < b := by rw [Int64.lt_iff_toInt_lt, lo_toInt ha, lo_toInt hb]
theorem lo_le {a b : Int} (ha : i64 a) (hb : i64 b) : lo a ≤ lo b ↔ a ≤ b := by rw [Int64.le_iff_toInt_le, lo_toInt ha, lo_toInt hb]
theorem lo_eq {a b : Int} (ha : i64 a) (hb : i64 b) : lo a = lo b ↔ a = b := by rw [← Int64.toInt_inj, lo_toInt ha, lo_toInt hb]
theorem io_lt {a b : Int} (ha : i32 a) (hb : i32 b) : io a < io b ↔ a < b := by rw [Int32.lt_iff_toInt_lt, io_toInt ha, io_toInt hb]
theorem io_le {a b : Int} (ha : i32 a) (hb : i32 b) : io a ≤ io b ↔ a ≤ b := by rw [Int32.le_iff_toInt_le, io_toInt ha, io_toInt hb]
theorem io_eq {a b : Int} (ha : i32 a) (hb : i32 b) : io a = io b ↔ a = b := by rw [← Int32.toInt_inj, io_toInt ha, io_toInt hb]
theorem lo_rng (x : Int64) : i64 x.toInt := ⟨Int64.le_toInt x, Int64.toInt_lt x⟩
theorem io_rng (x : Int32) : i32 x.toInt := ⟨Int32.le_toInt x, Int32.toInt_lt x⟩
theorem io_w {z : Int} (h : i32 z) : (io z).toInt64 = lo z := by
  apply Int64.toInt_inj.mp
  rw [Int32.toInt_toInt64, io_toInt h, lo_toInt h.w]
theorem lo_n (z : Int) : (lo z).toInt32 = io z := Int64.toInt32_ofInt
theorem w_of (x : Int32) : x.toInt64 = lo x.toInt := by
  apply Int64.toInt_inj.mp
  rw [Int32.toInt_toInt64, lo_toInt (io_rng x).w]
theorem lo_div {a b : Int} (ha : i64 a) (hb : i64 b) (h : 0 < b) : lo a / lo b = lo (a.tdiv b) := by
  apply Int64.toInt_inj.mp
  have h1 : lo b ≠ -1 := fun e => by
    have e2 : (lo b).toInt = (-1 : Int64).toInt := by rw [e]
    rw [lo_toInt hb] at e2
    have e3 : (-1 : Int64).toInt = -1 := by decide
    omega
  rw [Int64.toInt_div_of_ne_right _ _ h1, lo_toInt ha, lo_toInt hb, lo_toInt]
  have h2 := Int.natAbs_tdiv_le_natAbs a b
  have := ha.1
  have := ha.2
  constructor
  · rcases Int.le_total 0 a with q | q
    · have := Int.tdiv_nonneg q (Int.le_of_lt h); omega
    · omega
  · rcases Int.le_total 0 a with q | q
    · omega
    · have h3 : a.tdiv b ≤ 0 := by
        have h4 : (-(-a)).tdiv b = -((-a).tdiv b) := Int.neg_tdiv ..
        rw [Int.neg_neg] at h4
        have := Int.tdiv_nonneg (a := -a) (by omega) (Int.le_of_lt h)
        omega
      omega
/-- the two halves of a packed number -/
def pk (a b : Int) : Int64 := f_X4_number (lo a) (lo b)
theorem mask_bit (i : Nat) : (4294967295 : Int64).toBitVec.getLsbD i = decide (i < 32) := by
  have h : (4294967295 : Int64).toBitVec = BitVec.ofNat 64 (2 ^ 32 - 1) := by decide
  rw [h, BitVec.getLsbD_ofNat, Nat.testBit_two_pow_sub_one]
  by_cases q : i < 32
  · simp [q]; omega
  · simp [q]
theorem sh32 : ((32 : Int32).toInt64 &&& 63).toBitVec.smod 64 = 32#64 := by decide
theorem shl32 (x : Int64) : (x <<< ((32 : Int32).toInt64 &&& 63)).toBitVec = x.toBitVec <<< 32 := by
  rw [Int64.toBitVec_shiftLeft, sh32]
  rfl
theorem shr32 (x : Int64) : (x >>> ((32 : Int32).toInt64 &&& 63)).toBitVec = x.toBitVec.sshiftRight 32 := by
  rw [Int64.toBitVec_shiftRight, sh32]
  rfl
theorem num_bit (x y : Int64) (i : Nat) : (f_X4_number x y).toBitVec.getLsbD i = if i < 32 then y.toBitVec.getLsbD i else (decide (i < 64) && x.toBitVec.getLsbD (i - 32)) := by
  unfold f_X4_number
  rw [Int64.toBitVec_or, Int64.toBitVec_and, shl32, BitVec.getLsbD_or, BitVec.getLsbD_and, mask_bit, BitVec.getLsbD_shiftLeft]
  by_cases q : i < 32
  · simp [q]
  · simp [q]
theorem second_number (x y : Int64) : f_X4_second (f_X4_number x y) = y.toInt32.toInt64 := by
  unfold f_X4_second
  congr 1
  apply Int32.toBitVec_inj.mp
  apply BitVec.eq_of_getLsbD_eq
  intro i hi
  rw [Int64.toBitVec_toInt32, Int64.toBitVec_toInt32, BitVec.getLsbD_signExtend, BitVec.getLsbD_signExtend, num_bit]
  simp [hi, show i < 64 by omega]
theorem first_number (x y : Int64) : f_X4_first (f_X4_number x y) = x.toInt32.toInt64 := by
  unfold f_X4_first
  apply Int64.toBitVec_inj.mp
  apply BitVec.eq_of_getLsbD_eq
  intro i hi
  rw [shr32, BitVec.getLsbD_sshiftRight, num_bit, BitVec.msb_eq_getLsbD_last, num_bit, Int32.toBitVec_toInt64, Int64.toBitVec_toInt32, BitVec.getLsbD_signExtend, BitVec.getLsbD_signExtend, BitVec.msb_eq_getLsbD_last (BitVec.signExtend 32 x.toBitVec), BitVec.getLsbD_signExtend]
  by_cases q : i < 32
  · simp [q, show ¬ 64 ≤ i by omega, show 32 + i < 64 by omega, show i < 64 by omega, show ¬ 32 + i < 32 by omega, show 32 + i - 32 = i by omega]
  · simp [q, show ¬ 64 ≤ i by omega, show ¬ 32 + i < 64 by omega, show i < 64 by omega]
theorem first_pk {a : Int} (b : Int) (h : i32 a) : f_X4_first (pk a b) = lo a := by
  unfold pk
  rw [first_number, lo_n, io_w h]
theorem second_pk (a : Int) {b : Int} (h : i32 b) : f_X4_second (pk a b) = lo b := by
  unfold pk
  rw [second_number, lo_n, io_w h]
theorem pk_inj {a b c d : Int} (ha : i32 a) (hb : i32 b) (hc : i32 c) (hd : i32 d) : pk a b = pk c d ↔ a = c ∧ b = d := by
  constructor
  · intro h
    have h1 : f_X4_first (pk a b) = f_X4_first (pk c d) := by rw [h]
    have h2 : f_X4_second (pk a b) = f_X4_second (pk c d) := by rw [h]
    rw [first_pk b ha, first_pk d hc, lo_eq ha.w hc.w] at h1
    rw [second_pk a hb, second_pk c hd, lo_eq hb.w hd.w] at h2
    exact ⟨h1, h2⟩
  · rintro ⟨rfl, rfl⟩
    rfl
/-- a loop with a measure that falls: it ends, with what the invariant promises -/
theorem whl_mu {σ ρ : Type} {b : σ → Option (σ ⊕ ρ)} (μ : σ → Nat) (Inv : σ → Prop) (P : ρ → Prop) (step : ∀ s, Inv s → (∃ r, b s = some (.inr r) ∧ P r) ∨ ∃ t, b s = some (.inl t) ∧ Inv t ∧ μ t < μ s) : ∀ s, Inv s → ∃ r, whl b s = some r ∧ P r := by
  have key : ∀ n s, μ s < n → Inv s → ∃ r, whl b s = some r ∧ P r := by
    intro n
    induction n with
    | zero => intro s h; omega
    | succ n ih =>
      intro s hs hi
      rcases step s hi with ⟨r, h1, h2⟩ | ⟨t, h1, h2, h3⟩
      · exact ⟨r, whl_r h1, h2⟩
      · rw [whl_l h1]
        exact ih t (by omega) h2
  exact fun s => key (μ s + 1) s (by omega)
/-- a counting loop -/
theorem whl_for {σ ρ : Type} {b : σ → Option (σ ⊕ ρ)} (N : Nat) (Inv : Nat → σ → Prop) (P : ρ → Prop) (step : ∀ i s, i < N → Inv i s → ∃ t, b s = some (.inl t) ∧ Inv (i + 1) t) (done : ∀ s, Inv N s → ∃ r, b s = some (.inr r) ∧ P r) : ∀ i s, i ≤ N → Inv i s → ∃ r, whl b s = some r ∧ P r := by
  have key : ∀ n i s, N - i < n → i ≤ N → Inv i s → ∃ r, whl b s = some r ∧ P r := by
    intro n
    induction n with
    | zero => intro i s h; omega
    | succ n ih =>
      intro i s hn hi h
      by_cases e : i < N
      · obtain ⟨t, h1, h2⟩ := step i s e h
        rw [whl_l h1]
        exact ih (i + 1) t (by omega) (by omega) h2
      · have e2 : i = N := by omega
        subst e2
        obtain ⟨r, h1, h2⟩ := done s h
        exact ⟨r, whl_r h1, h2⟩
  exact fun i s hi h => key (N - i + 1) i s (by omega) hi h
