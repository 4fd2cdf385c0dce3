/-! rows of numbers as bits -/
def bit (x : Int64) (i : Nat) : Bool := x.toBitVec.getLsbD i
theorem bit_ext {x y : Int64} (h : ∀ i, i < 64 → bit x i = bit y i) : x = y := by
  apply Int64.toBitVec_inj.mp
  apply BitVec.eq_of_getLsbD_eq
  intro i hi
  exact h i hi
theorem bit_0 (i : Nat) : bit 0 i = false := by
  unfold bit
  show (0#64).getLsbD i = false
  simp
theorem bit_eq0 (x : Int64) : x = 0 ↔ ∀ i, i < 64 → bit x i = false := by
  constructor
  · rintro rfl i _; exact bit_0 i
  · intro h
    exact bit_ext (fun i hi => by rw [h i hi, bit_0])
theorem bit_or (x y : Int64) (i : Nat) : bit (x ||| y) i = (bit x i || bit y i) := by
  unfold bit
  rw [Int64.toBitVec_or, BitVec.getLsbD_or]
theorem bit_and (x y : Int64) (i : Nat) : bit (x &&& y) i = (bit x i && bit y i) := by
  unfold bit
  rw [Int64.toBitVec_and, BitVec.getLsbD_and]
theorem bit_xor (x y : Int64) (i : Nat) : bit (x ^^^ y) i = (bit x i ^^ bit y i) := by
  unfold bit
  rw [Int64.toBitVec_xor, BitVec.getLsbD_xor]
theorem bit_m1 {i : Nat} (hi : i < 64) : bit (-1) i = true := (by decide : ∀ i < 64, bit (-1) i = true) i hi
theorem bit_mask {i : Nat} (hi : i < 64) : bit 2305843009213693951 i = decide (i < 61) := (by decide : ∀ i < 64, bit 2305843009213693951 i = decide (i < 61)) i hi
theorem bit_start {i : Nat} (hi : i < 64) : bit 1073741824 i = decide (i = 30) := (by decide : ∀ i < 64, bit 1073741824 i = decide (i = 30)) i hi
theorem bit_hi (x : Int64) {i : Nat} (h : 64 ≤ i) : bit x i = false := by
  unfold bit
  exact BitVec.getLsbD_of_ge _ _ h
theorem shl_c : ∀ z < 61, ((lo ((z : Nat) : Int)).toInt32.toInt64 &&& 63).toBitVec.smod 64 = BitVec.ofNat 64 z := by decide +kernel
theorem shr_c : ∀ z < 61, (((lo ((z : Nat) : Int)).toInt32.toInt64.toUInt64 &&& Int64.toUInt64 63).toBitVec % 64) = BitVec.ofNat 64 z := by decide +kernel
theorem bit_shl (x : Int64) {z : Nat} (hz : z < 61) {i : Nat} (hi : i < 64) : bit (x <<< ((lo (z : Int)).toInt32.toInt64 &&& 63)) i = (decide (z ≤ i) && bit x (i - z)) := by
  unfold bit
  rw [Int64.toBitVec_shiftLeft, shl_c z hz, BitVec.shiftLeft_eq', BitVec.toNat_ofNat, Nat.mod_eq_of_lt (by omega), BitVec.getLsbD_shiftLeft]
  by_cases g : z ≤ i
  · simp [g, hi]
  · simp [g]
theorem bit_shr (x : Int64) {z : Nat} (hz : z < 61) (i : Nat) : bit (x.toUInt64 >>> ((lo (z : Int)).toInt32.toInt64.toUInt64 &&& Int64.toUInt64 63)).toInt64 i = bit x (i + z) := by
  unfold bit
  rw [UInt64.toBitVec_toInt64, UInt64.toBitVec_shiftRight, shr_c z hz, BitVec.ushiftRight_eq', BitVec.toNat_ofNat, Nat.mod_eq_of_lt (by omega), BitVec.getLsbD_ushiftRight, Int64.toBitVec_toUInt64, Nat.add_comm]
theorem bit_1 (i : Nat) : bit 1 i = decide (i = 0) := by
  unfold bit
  show (1#64).getLsbD i = _
  rw [BitVec.getLsbD_one]
  simp
theorem low_bit (x : Int64) : x &&& 1 = 0 ↔ bit x 0 = false := by
  rw [bit_eq0]
  constructor
  · intro h
    have := h 0 (by omega)
    rw [bit_and, bit_1] at this
    simpa using this
  · intro h i _
    rw [bit_and, bit_1]
    by_cases g : i = 0
    · subst g; simp [h]
    · simp [g]
/-- a set of places in the square, as rows of bits: column, then row -/
def BITS (r : Nat → Int64) (S : Int → Int → Prop) : Prop := ∀ (j i : Nat), j < 61 → i < 64 → (bit (r j) i = true ↔ i < 61 ∧ S (i : Int) (j : Int))
theorem bit_f {b : Bool} {P : Prop} (h : b = true ↔ P) : b = false ↔ ¬ P := by
  cases b <;> simp_all
def inb (z : Int) : Prop := 0 ≤ z ∧ z ≤ 60
theorem nat61 {i : Nat} (hi : i < 61) : ¬ (io (i : Int) < 0 ∨ 61 ≤ (io (i : Int)).toNatClampNeg) ∧ (io (i : Int)).toNatClampNeg = i := by
  have e : (io (i : Int)).toNatClampNeg = i := by
    rw [Int32.toNatClampNeg, io_toInt (by unfold i32; omega)]
    omega
  refine ⟨?_, e⟩
  rw [e]
  rintro (h | h)
  · have := (io_lt (b := 0) (by unfold i32; omega) (by unfold i32; omega)).mp h
    omega
  · omega
/-- one leap from the edge -/
theorem leap7 {E S : Int → Int → Prop} {edg nxt : Nat → Int64} (hE : BITS edg E) (hS : BITS nxt S) {la lb : Int} (ha : -10000000 ≤ la ∧ la ≤ 10000000) (hb : -10000000 ≤ lb ∧ lb ≤ 10000000) : ∃ nxt', f_X2_leapFromEdge edg nxt (lo la) (lo lb) = some nxt' ∧ BITS nxt' (fun c w => S c w ∨ (inb (c - la) ∧ inb (w - lb) ∧ E (c - la) (w - lb))) := by
  have hc := fun z : Int => (⟨fun h : lo la ≤ (-61 : Int64) => (lo_le (b := -61) (by unfold i64; omega) (by unfold i64; omega)).mp h, fun h : la ≤ -61 => (lo_le (b := -61) (by unfold i64; omega) (by unfold i64; omega)).mpr h⟩ : lo la ≤ (-61 : Int64) ↔ la ≤ -61)
  have c1 : lo la ≤ (-61 : Int64) ↔ la ≤ -61 := lo_le (b := -61) (by unfold i64; omega) (by unfold i64; omega)
  have c2 : (61 : Int64) ≤ lo la ↔ 61 ≤ la := lo_le (a := 61) (by unfold i64; omega) (by unfold i64; omega)
  have c3 : lo lb ≤ (-61 : Int64) ↔ lb ≤ -61 := lo_le (b := -61) (by unfold i64; omega) (by unfold i64; omega)
  have c4 : lo lb < (61 : Int64) ↔ lb < 61 := lo_lt (b := 61) (by unfold i64; omega) (by unfold i64; omega)
  have same : (∀ c w : Int, 0 ≤ c → c < 61 → 0 ≤ w → w < 61 → ¬ (inb (c - la) ∧ inb (w - lb))) → BITS nxt (fun c w => S c w ∨ (inb (c - la) ∧ inb (w - lb) ∧ E (c - la) (w - lb))) := by
    intro hn j i hj hi
    rw [hS j i hj hi]
    constructor
    · rintro ⟨a, b⟩; exact ⟨a, Or.inl b⟩
    · rintro ⟨a, b | ⟨b1, b2, -⟩⟩
      · exact ⟨a, b⟩
      · exact absurd ⟨b1, b2⟩ (hn _ _ (by omega) (by omega) (by omega) (by omega))
  by_cases g1 : la ≤ -61
  · exact ⟨nxt, by simp only [f_X2_leapFromEdge, c1.mpr g1, ↓reduceIte], same (fun c w _ _ _ _ => by unfold inb; omega)⟩
  have g1' : ¬ lo la ≤ (-61 : Int64) := fun x => g1 (c1.mp x)
  by_cases g2 : 61 ≤ la
  · exact ⟨nxt, by simp only [f_X2_leapFromEdge, g1', c2.mpr g2, ↓reduceIte], same (fun c w _ _ _ _ => by unfold inb; omega)⟩
  have g2' : ¬ (61 : Int64) ≤ lo la := fun x => g2 (c2.mp x)
  by_cases g3 : lb ≤ -61
  · exact ⟨nxt, by simp only [f_X2_leapFromEdge, g1', g2', c3.mpr g3, ↓reduceIte], same (fun c w _ _ _ _ => by unfold inb; omega)⟩
  have g3' : ¬ lo lb ≤ (-61 : Int64) := fun x => g3 (c3.mp x)
  by_cases g4 : lb < 61
  · have g4' := c4.mpr g4
    -- the rows that stay inside
    obtain ⟨lw, hlw, l1⟩ : ∃ lw : Nat, (if (-lo lb) < (0 : Int64) then (0 : Int64) else (-lo lb)).toInt32 = io (lw : Int) ∧ (lw : Int) = (if -lb < 0 then 0 else -lb) := by
      rw [lo_neg]
      have cc : lo (-lb) < (0 : Int64) ↔ -lb < 0 := lo_lt (b := 0) (by unfold i64; omega) (by unfold i64; omega)
      by_cases g : -lb < 0
      · exact ⟨0, by rw [if_pos (cc.mpr g)]; rfl, by rw [if_pos g]; rfl⟩
      · refine ⟨(-lb).toNat, ?_, ?_⟩
        · rw [if_neg (fun x => g (cc.mp x)), lo_n]
          congr 1
          omega
        · rw [if_neg g]; omega
    obtain ⟨hw, hhw, h1⟩ : ∃ hw : Nat, (if ((61 : Int64) - lo lb) < (61 : Int64) then ((61 : Int64) - lo lb) else (61 : Int64)).toInt32 = io (hw : Int) ∧ (hw : Int) = (if 61 - lb < 61 then 61 - lb else 61) := by
      have e : (61 : Int64) - lo lb = lo (61 - lb) := lo_sub 61 lb
      have cc : lo (61 - lb) < (61 : Int64) ↔ 61 - lb < 61 := lo_lt (b := 61) (by unfold i64; omega) (by unfold i64; omega)
      rw [e]
      by_cases g : 61 - lb < 61
      · refine ⟨(61 - lb).toNat, ?_, ?_⟩
        · rw [if_pos (cc.mpr g), lo_n]
          congr 1
          omega
        · rw [if_pos g]; omega
      · exact ⟨61, by rw [if_neg (fun x => g (cc.mp x))]; rfl, by rw [if_neg g]; rfl⟩
    have hlb : (lo lb).toInt32 = io lb := lo_n lb
    have bnd : (lw : Int) ≤ (hw : Int) ∧ (hw : Int) ≤ 61 ∧ (∀ j : Int, (lw : Int) ≤ j ∧ j < (hw : Int) ↔ (0 ≤ j ∧ j ≤ 60) ∧ (0 ≤ j + lb ∧ j + lb ≤ 60)) := by
      rw [l1, h1]
      refine ⟨by split <;> split <;> omega, by split <;> omega, fun j => by split <;> split <;> omega⟩
    obtain ⟨b1, b2, b3⟩ := bnd
    -- what a row brings
    have moved : ∀ (j : Nat), j < 61 → ∃ x : Int64, (if lo la < (0 : Int64) then (((edg j).toUInt64 >>> ((-lo la).toInt32.toInt64.toUInt64 &&& Int64.toUInt64 63)).toInt64 &&& (2305843009213693951 : Int64)) else (((edg j) <<< ((lo la).toInt32.toInt64 &&& 63)) &&& (2305843009213693951 : Int64))) = x ∧ ∀ i, i < 64 → (bit x i = true ↔ i < 61 ∧ inb ((i : Int) - la) ∧ E ((i : Int) - la) (j : Int)) := by
      intro j hj
      refine ⟨_, rfl, fun i hi => ?_⟩
      have cc : lo la < (0 : Int64) ↔ la < 0 := lo_lt (b := 0) (by unfold i64; omega) (by unfold i64; omega)
      by_cases g : la < 0
      · obtain ⟨z, hz⟩ : ∃ z : Nat, -la = (z : Int) := ⟨(-la).toNat, by omega⟩
        rw [if_pos (cc.mpr g), lo_neg, hz, bit_and, bit_shr _ (by omega), bit_mask hi, Bool.and_eq_true, decide_eq_true_eq]
        by_cases q : i + z < 64
        · rw [hE j (i + z) hj q, show ((i + z : Nat) : Int) = (i : Int) - la by omega]
          unfold inb
          constructor
          · rintro ⟨⟨a, b⟩, c⟩; exact ⟨c, by omega, b⟩
          · rintro ⟨a, b, c⟩; exact ⟨⟨by omega, c⟩, a⟩
        · rw [bit_hi _ (by omega)]
          unfold inb
          constructor
          · rintro ⟨a, -⟩; cases a
          · rintro ⟨a, b, -⟩; omega
      · obtain ⟨z, hz⟩ : ∃ z : Nat, la = (z : Int) := ⟨la.toNat, by omega⟩
        rw [if_neg (fun x => g (cc.mp x)), hz, bit_and, bit_shl _ (by omega) hi, bit_mask hi, Bool.and_eq_true, Bool.and_eq_true, decide_eq_true_eq, decide_eq_true_eq]
        by_cases q : z ≤ i
        · rw [hE j (i - z) hj (by omega), show ((i - z : Nat) : Int) = (i : Int) - (z : Int) by omega]
          unfold inb
          constructor
          · rintro ⟨⟨-, a, b⟩, c⟩; exact ⟨c, by omega, b⟩
          · rintro ⟨a, b, c⟩; exact ⟨⟨q, by omega, c⟩, a⟩
        · unfold inb
          constructor
          · rintro ⟨⟨a, -⟩, -⟩; exact absurd a q
          · rintro ⟨a, b, -⟩; omega
    have key : ∃ z, whl (f_X2_leapFromEdge_L60 edg (lo la) (lo lb) (io (hw : Int))) (io (lw : Int), nxt) = some z ∧ BITS z (fun c w => S c w ∨ (inb (c - la) ∧ (w - lb < (hw : Int) ∧ (lw : Int) ≤ w - lb) ∧ E (c - la) (w - lb))) := by
      refine whl_for (b := f_X2_leapFromEdge_L60 edg (lo la) (lo lb) (io (hw : Int))) (hw - lw) (fun m s => s.1 = io ((lw + m : Nat) : Int) ∧ BITS s.2 (fun c w => S c w ∨ (inb (c - la) ∧ (w - lb < ((lw + m : Nat) : Int) ∧ (lw : Int) ≤ w - lb) ∧ E (c - la) (w - lb)))) _ ?_ ?_ 0 _ (by omega) ⟨rfl, ?_⟩
      · rintro m ⟨s1, s2⟩ hm ⟨e1, e2⟩
        dsimp only at e1 e2
        subst e1
        have hrow := (b3 ((lw + m : Nat) : Int)).mp ⟨by omega, by omega⟩
        obtain ⟨d1, d2⟩ := nat61 (i := lw + m) (by omega)
        obtain ⟨tg, htg⟩ : ∃ tg : Nat, ((lw + m : Nat) : Int) + lb = (tg : Int) := ⟨(((lw + m : Nat) : Int) + lb).toNat, by omega⟩
        obtain ⟨d3, d4⟩ := nat61 (i := tg) (by omega)
        have et : io ((lw + m : Nat) : Int) + (lo lb).toInt32 = io (tg : Int) := by rw [hlb, io_add, htg]
        have c5 : ¬ io (hw : Int) ≤ io ((lw + m : Nat) : Int) := fun x => by
          have := (io_le (by unfold i32; omega) (by unfold i32; omega)).mp x
          omega
        obtain ⟨x, hx, hbits⟩ := moved (lw + m) (by omega)
        have st : f_X2_leapFromEdge_L60 edg (lo la) (lo lb) (io (hw : Int)) (io ((lw + m : Nat) : Int), s2) = some (Sum.inl (io ((lw + m : Nat) : Int) + 1, vp_updL s2 tg (s2 tg ||| x))) := by
          unfold f_X2_leapFromEdge_L60
          dsimp only
          rw [if_neg c5, et, d2, d4]
          rw [d2] at d1
          rw [d4] at d3
          by_cases g : lo la < (0 : Int64)
          · rw [if_pos g] at hx
            rw [if_pos g, if_neg d1, if_neg d3, hx]
          · rw [if_neg g] at hx
            rw [if_neg g, if_neg d1, if_neg d3, hx]
        refine ⟨_, st, io_1 _, fun j i hj hi => ?_⟩
        dsimp only
        unfold vp_updL
        by_cases g : j = tg
        · rw [if_pos g, bit_or, Bool.or_eq_true, e2 tg i (by omega) hi, hbits i hi, g, ← htg]
          constructor
          · rintro (⟨a, b⟩ | ⟨a, b, c⟩)
            · refine ⟨a, b.imp_right (fun ⟨p1, p2, p3⟩ => ⟨p1, by omega, p3⟩)⟩
            · refine ⟨a, Or.inr ⟨b, by omega, ?_⟩⟩
              rw [show ((lw + m : Nat) : Int) + lb - lb = ((lw + m : Nat) : Int) by omega]
              exact c
          · rintro ⟨a, b | ⟨p1, p2, p3⟩⟩
            · exact Or.inl ⟨a, Or.inl b⟩
            · rw [show ((lw + m : Nat) : Int) + lb - lb = ((lw + m : Nat) : Int) by omega] at p3
              exact Or.inr ⟨a, p1, p3⟩
        · rw [if_neg g, e2 j i hj hi]
          constructor
          · rintro ⟨a, b⟩
            exact ⟨a, b.imp_right (fun ⟨p1, p2, p3⟩ => ⟨p1, by omega, p3⟩)⟩
          · rintro ⟨a, b⟩
            exact ⟨a, b.imp_right (fun ⟨p1, p2, p3⟩ => ⟨p1, by omega, p3⟩)⟩
      · rintro ⟨s1, s2⟩ ⟨e1, e2⟩
        dsimp only at e1 e2
        rw [show lw + (hw - lw) = hw by omega] at e1 e2
        unfold f_X2_leapFromEdge_L60
        dsimp only
        rw [e1, if_pos (Int32.le_refl _)]
        exact ⟨_, rfl, e2⟩
      · intro j i hj hi
        dsimp only
        rw [hS j i hj hi]
        constructor
        · rintro ⟨a, b⟩; exact ⟨a, Or.inl b⟩
        · rintro ⟨a, b | ⟨-, b, -⟩⟩
          · exact ⟨a, b⟩
          · omega
    obtain ⟨z, e, hz⟩ := key
    refine ⟨z, ?_, fun j i hj hi => ?_⟩
    · unfold f_X2_leapFromEdge f_X2_leapFromEdge_K60_124
      rw [if_neg g1', if_neg g2', if_neg g3', if_pos g4', hlw, hhw, e]
      rfl
    · rw [hz j i hj hi]
      unfold inb
      constructor
      · rintro ⟨a, b⟩
        exact ⟨a, b.imp_right (fun ⟨p1, p2, p3⟩ => ⟨p1, ((b3 _).mp ⟨p2.2, p2.1⟩).1, p3⟩)⟩
      · rintro ⟨a, b⟩
        refine ⟨a, b.imp_right (fun ⟨p1, p2, p3⟩ => ⟨p1, ?_, p3⟩)⟩
        have := (b3 ((j : Int) - lb)).mpr ⟨p2, by omega⟩
        exact ⟨this.2, this.1⟩
  · have g4' : ¬ lo lb < (61 : Int64) := fun x => g4 (c4.mp x)
    exact ⟨nxt, by simp only [f_X2_leapFromEdge, g1', g2', g3', g4', ↓reduceIte], same (fun c w _ _ _ _ => by unfold inb; omega)⟩
