/-! the nets' arithmetic on packed numbers, the class' (X4) and the reference's (X8) -/
def sz (t n a b : Int) : Int := a * a + t * a * b + n * b * b
theorem times_pk {t n a b c d : Int} (ht : i32 t) (hn : i32 n) (ha : i32 a) (hb : i32 b) (hc : i32 c) (hd : i32 d) : f_X4_times (io t) (io n) (pk a b) (pk c d) = pk (a * c - n * (b * d)) (a * d + b * c + t * (b * d)) := by
  unfold f_X4_times
  rw [first_pk b ha, first_pk d hc, second_pk a hb, second_pk c hd, io_w ht, io_w hn]
  simp only [lo_mul, lo_sub, lo_add]
  rfl
theorem sizeOf_pk {t n a b : Int} (ht : i32 t) (hn : i32 n) (ha : i32 a) (hb : i32 b) : f_X4_sizeOf (io t) (io n) (pk a b) = lo (sz t n a b) := by
  unfold f_X4_sizeOf
  rw [first_pk b ha, second_pk a hb, io_w ht, io_w hn]
  simp only [lo_mul, lo_sub, lo_add]
  rfl
theorem plus_pk {a b c d : Int} (ha : i32 a) (hb : i32 b) (hc : i32 c) (hd : i32 d) : f_X4_plus (pk a b) (pk c d) = pk (a + c) (b + d) := by
  unfold f_X4_plus
  rw [first_pk b ha, first_pk d hc, second_pk a hb, second_pk c hd]
  simp only [lo_add]
  rfl
theorem less_pk {a b c d : Int} (ha : i32 a) (hb : i32 b) (hc : i32 c) (hd : i32 d) : f_X4_less (pk a b) (pk c d) = pk (a - c) (b - d) := by
  unfold f_X4_less
  rw [first_pk b ha, first_pk d hc, second_pk a hb, second_pk c hd]
  simp only [lo_sub]
  rfl
theorem mirror_pk {t a b : Int} (ht : i32 t) (ha : i32 a) (hb : i32 b) : f_X4_mirror (io t) (pk a b) = pk (a + t * b) (-b) := by
  unfold f_X4_mirror
  rw [first_pk b ha, second_pk a hb, io_w ht]
  simp only [lo_add, lo_mul, lo_neg]
  rfl
theorem acrossA_pk {t n a b c d : Int} (ht : i32 t) (hn : i32 n) (ha : i32 a) (hb : i32 b) (hc : i32 c) (hd : i32 d) : f_X4_acrossA (io t) (io n) (pk a b) (pk c d) = lo (a * (c + t * d) + n * b * d) := by
  unfold f_X4_acrossA
  rw [first_pk b ha, first_pk d hc, second_pk a hb, second_pk c hd, io_w ht, io_w hn]
  simp only [lo_mul, lo_add]
theorem acrossB_pk {a b c d : Int} (ha : i32 a) (hb : i32 b) (hc : i32 c) (hd : i32 d) : f_X4_acrossB (pk a b) (pk c d) = lo (b * c - a * d) := by
  unfold f_X4_acrossB
  rw [first_pk b ha, first_pk d hc, second_pk a hb, second_pk c hd]
  simp only [lo_mul, lo_sub]
theorem sizeOf_m (t n a b : Int) : f_X8_sizeOf (lo t) (lo n) (lo a) (lo b) = lo (sz t n a b) := by
  unfold f_X8_sizeOf
  simp only [lo_mul, lo_add]
  rfl
theorem timesA_m (n a b c d : Int) : f_X8_times_mod_a (lo n) (lo a) (lo b) (lo c) (lo d) = lo (a * c - n * b * d) := by
  unfold f_X8_times_mod_a f_X8_put_mod_a
  simp only [lo_mul, lo_sub]
theorem timesB_m (t a b c d : Int) : f_X8_times_mod_b (lo t) (lo a) (lo b) (lo c) (lo d) = lo (a * d + b * c + t * b * d) := by
  unfold f_X8_times_mod_b f_X8_put_mod_b
  simp only [lo_mul, lo_add]
/-! what relates the class' state to the reference's: the kind, and the registers -/
def rng (z : Int) : Prop := -20000 ≤ z ∧ z ≤ 20000
theorem rng.i {z : Int} (h : rng z) : i32 z := ⟨by have := h.1; omega, by have := h.2; omega⟩
def kT : Nat → Int := fun k => if k = 1 then -1 else if k < 3 then 0 else 1
def kN : Nat → Int := fun k => if k < 2 then 1 else if k < 4 then 2 else 3
def kU : Nat → Int := fun k => if k = 0 then 4 else if k = 1 then 6 else 2
def kSa : Nat → Int := fun k => if k = 0 then 0 else if k = 1 then 1 else -1
def kSb : Nat → Int := fun k => if k < 2 then 1 else 0
def unitsL : Nat → List (Int × Int) := fun k => if k = 0 then [(-1, 0), (0, -1), (0, 1), (1, 0)] else if k = 1 then [(-1, -1), (-1, 0), (0, -1), (0, 1), (1, 0), (1, 1)] else [(-1, 0), (1, 0)]
def UN (k : Nat) (us : List (Int × Int)) : Prop := us = unitsL k ∨ (k = 0 ∧ us = [(1, 0), (-1, 0), (0, 1), (0, -1)])
def NET (k : Nat) (t n u : Int32) (s : Int64) : Prop := t = io (kT k) ∧ n = io (kN k) ∧ u = io (kU k) ∧ s = pk (kSa k) (kSb k)
def MU (us : List (Int × Int)) (m : Int32) (uA uB : Nat → Int64) : Prop := m = io us.length ∧ ∀ (i : Nat) (q : Int × Int), us[i]? = some q → uA i = lo q.1 ∧ uB i = lo q.2
def RG (r rA rB : Nat → Int64) : Prop := ∀ j : Nat, j < 8 → ∃ a b : Int, rng a ∧ rng b ∧ r j = pk a b ∧ rA j = lo a ∧ rB j = lo b
def RELc (t n u : Int32) (s : Int64) (r : Nat → Int64) (mt mn : Int64) (m : Int32) (rA rB uA uB : Nat → Int64) : Prop := ∃ (k : Nat) (us : List (Int × Int)), k < 5 ∧ UN k us ∧ NET k t n u s ∧ mt = lo (kT k) ∧ mn = lo (kN k) ∧ MU us m uA uB ∧ RG r rA rB
def REL (cs : CSt) (ms : MSt) : Prop := RELc (a_net_t cs) (a_net_n cs) (a_net_units cs) (a_net_spin cs) (a_reg cs) (a_mod_t ms) (a_mod_n ms) (a_mod_unitMany ms) (a_regA ms) (a_regB ms) (a_unitA ms) (a_unitB ms)
theorem RG.set {r rA rB : Nat → Int64} (h : RG r rA rB) (j : Nat) {a b : Int} (ha : rng a) (hb : rng b) : RG (vp_updL r j (pk a b)) (vp_updL rA j (lo a)) (vp_updL rB j (lo b)) := by
  intro i hi
  unfold vp_updL
  by_cases e : i = j
  · rw [if_pos e, if_pos e, if_pos e]
    exact ⟨a, b, ha, hb, rfl, rfl, rfl⟩
  · rw [if_neg e, if_neg e, if_neg e]
    exact h i hi
theorem reg_cases (v : Int32) : (f_X7_isRegister v = 0 ∧ f_X8_isReg v = 0) ∨ ∃ j : Nat, j < 8 ∧ ¬ f_X7_isRegister v = 0 ∧ ¬ f_X8_isReg v = 0 ∧ ¬ (v < 0 ∨ 8 ≤ v.toNatClampNeg) ∧ v.toNatClampNeg = j := by
  obtain ⟨z, hz, rfl⟩ : ∃ z, i32 z ∧ v = io z := ⟨v.toInt, io_rng v, io_of v⟩
  have c1 : io z < 0 ↔ z < 0 := io_lt (b := 0) hz (by unfold i32; omega)
  have c2 : (8 : Int32) ≤ io z ↔ 8 ≤ z := io_le (a := 8) (by unfold i32; omega) hz
  have c3 : lo z < 0 ↔ z < 0 := lo_lt (b := 0) hz.w (by unfold i64; omega)
  have c4 : (7 : Int64) < lo z ↔ 7 < z := lo_lt (a := 7) (by unfold i64; omega) hz.w
  unfold f_X7_isRegister f_X8_isReg f_X8_in
  rw [io_w hz]
  by_cases h1 : z < 0
  · left
    rw [if_pos (c1.mpr h1), if_pos (c3.mpr h1)]
    exact ⟨rfl, rfl⟩
  · rw [if_neg (fun h => h1 (c1.mp h)), if_neg (fun h => h1 (c3.mp h))]
    by_cases h2 : 8 ≤ z
    · left
      rw [if_pos (c2.mpr h2), if_pos (c4.mpr (by omega))]
      exact ⟨rfl, rfl⟩
    · right
      have e : (io z).toNatClampNeg = z.toNat := by
        rw [Int32.toNatClampNeg, io_toInt hz]
      refine ⟨z.toNat, by omega, ?_, ?_, ?_, e⟩
      · rw [if_neg (fun h => h2 (c2.mp h))]; decide
      · rw [if_neg (fun h => h2 (by have := c4.mp h; omega))]; decide
      · rw [e, c1]; omega
theorem near_cases (x : Int64) : (f_X7_isNear x = 0 ∧ ¬ rng x.toInt) ∨ (¬ f_X7_isNear x = 0 ∧ rng x.toInt) := by
  obtain ⟨z, hz, rfl⟩ : ∃ z, i64 z ∧ x = lo z := ⟨x.toInt, lo_rng x, lo_of x⟩
  have e20 : (-20000 : Int64) = lo (-20000) := by decide
  have c1 : lo z < -20000 ↔ z < -20000 := by rw [e20]; exact lo_lt hz (by unfold i64; omega)
  have c2 : (20000 : Int64) < lo z ↔ 20000 < z := lo_lt (a := 20000) (by unfold i64; omega) hz
  rw [lo_toInt hz]
  unfold f_X7_isNear rng
  by_cases h1 : z < -20000
  · left
    rw [if_pos (c1.mpr h1)]
    exact ⟨rfl, by omega⟩
  · rw [if_neg (fun h => h1 (c1.mp h))]
    by_cases h2 : 20000 < z
    · left
      rw [if_pos (c2.mpr h2)]
      exact ⟨rfl, by omega⟩
    · right
      rw [if_neg (fun h => h2 (c2.mp h))]
      exact ⟨by decide, by omega⟩
theorem in_near (x : Int64) : f_X8_in x (-20000) 20000 = f_X7_isNear x := rfl
theorem in_lo {z l u : Int} (hz : i64 z) (hl : i64 l) (hu : i64 u) : f_X8_in (lo z) (lo l) (lo u) = 0 ↔ ¬ (l ≤ z ∧ z ≤ u) := by
  unfold f_X8_in
  by_cases h1 : z < l
  · rw [if_pos ((lo_lt hz hl).mpr h1)]
    exact ⟨fun _ => by omega, fun _ => rfl⟩
  · rw [if_neg (fun h => h1 ((lo_lt hz hl).mp h))]
    by_cases h2 : u < z
    · rw [if_pos ((lo_lt hu hz).mpr h2)]
      exact ⟨fun _ => by omega, fun _ => rfl⟩
    · rw [if_neg (fun h => h2 ((lo_lt hu hz).mp h))]
      exact ⟨fun h => absurd h (by decide), fun h => absurd (by omega) h⟩
