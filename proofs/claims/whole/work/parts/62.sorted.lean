/-! putting in order, on both sides -/
def AH (t n : Int) (a b : G2) : Prop := zs t n a < zs t n b ∨ (zs t n a = zs t n b ∧ ¬ lex b a)
noncomputable def posn (t n : Int) (z : G2) (f : Nat → G2) : Nat → Nat
  | 0 => 0
  | m + 1 => @ite Nat (AH t n z (f m)) (Classical.propDecidable _) (posn t n z f m) (m + 1)
theorem posn_ok (t n : Int) (z : G2) (f : Nat → G2) : ∀ m, posn t n z f m ≤ m ∧ (∀ j, posn t n z f m ≤ j → j < m → AH t n z (f j)) ∧ (posn t n z f m = 0 ∨ ¬ AH t n z (f (posn t n z f m - 1))) := by
  intro m
  induction m with
  | zero => exact ⟨Nat.le_refl _, fun j _ h => by omega, Or.inl rfl⟩
  | succ m ih =>
    by_cases g : AH t n z (f m)
    · have e : posn t n z f (m + 1) = posn t n z f m := by
        show @ite Nat (AH t n z (f m)) (Classical.propDecidable _) (posn t n z f m) (m + 1) = _
        rw [if_pos g]
      rw [e]
      refine ⟨by omega, fun j h1 h2 => ?_, ih.2.2⟩
      by_cases q : j = m
      · rw [q]; exact g
      · exact ih.2.1 j h1 (by omega)
    · have e : posn t n z f (m + 1) = m + 1 := by
        show @ite Nat (AH t n z (f m)) (Classical.propDecidable _) (posn t n z f m) (m + 1) = _
        rw [if_neg g]
      rw [e]
      exact ⟨Nat.le_refl _, fun j h1 h2 => by omega, Or.inr g⟩
theorem posn_u {t n : Int} {z : G2} {f : Nat → G2} {m j : Nat} (h1 : j ≤ m) (h2 : ∀ x, j ≤ x → x < m → AH t n z (f x)) (h3 : j = 0 ∨ ¬ AH t n z (f (j - 1))) : posn t n z f m = j := by
  obtain ⟨g1, g2, g3⟩ := posn_ok t n z f m
  rcases Nat.lt_trichotomy (posn t n z f m) j with q | q | q
  · rcases h3 with e | e
    · omega
    · exact absurd (g2 (j - 1) (by omega) (by omega)) e
  · exact q
  · rcases g3 with e | e
    · omega
    · exact absurd (h2 (posn t n z f m - 1) (by omega) (by omega)) e
noncomputable def ins (t n : Int) (z : G2) (f : Nat → G2) (m : Nat) (j : Nat) : G2 := if j < posn t n z f m then f j else if j = posn t n z f m then z else f (j - 1)
noncomputable def SO (t n : Int) (s : Nat → G2) : Nat → Nat → G2
  | 0 => s
  | m + 1 => ins t n (s m) (SO t n s m) m
theorem ins_mem {t n : Int} {z : G2} {f : Nat → G2} {m : Nat} {P : G2 → Prop} (hz : P z) (hf : ∀ j, j < m → P (f j)) : ∀ j, j < m + 1 → P (ins t n z f m j) := by
  intro j hj
  have := (posn_ok t n z f m).1
  unfold ins
  by_cases g : j < posn t n z f m
  · rw [if_pos g]; exact hf j (by omega)
  · rw [if_neg g]
    by_cases q : j = posn t n z f m
    · rw [if_pos q]; exact hz
    · rw [if_neg q]; exact hf _ (by omega)
theorem SO_mem {t n : Int} {s : Nat → G2} {P : G2 → Prop} : ∀ m, (∀ j, j < m → P (s j)) → ∀ j, j < m → P (SO t n s m j) := by
  intro m
  induction m with
  | zero => intro _ j hj; omega
  | succ m ih => intro h; exact ins_mem (h m (by omega)) (ih (fun j hj => h j (by omega)))
/-- only the first m count -/
theorem posn_c {t n : Int} {z : G2} {f g : Nat → G2} {m : Nat} (h : ∀ j, j < m → f j = g j) : posn t n z f m = posn t n z g m := by
  obtain ⟨g1, g2, g3⟩ := posn_ok t n z g m
  refine posn_u g1 (fun x h1 h2 => by rw [h x h2]; exact g2 x h1 h2) ?_
  rcases g3 with e | e
  · exact Or.inl e
  · by_cases q : posn t n z g m = 0
    · exact Or.inl q
    · right
      rw [h _ (by omega)]
      exact e
theorem ins_c {t n : Int} {z : G2} {f g : Nat → G2} {m : Nat} (h : ∀ j, j < m → f j = g j) : ∀ j, j < m + 1 → ins t n z f m j = ins t n z g m j := by
  intro j hj
  have := (posn_ok t n z g m).1
  unfold ins
  rw [posn_c h]
  by_cases q : j < posn t n z g m
  · rw [if_pos q, if_pos q]; exact h j (by omega)
  · rw [if_neg q, if_neg q]
    by_cases q2 : j = posn t n z g m
    · rw [if_pos q2, if_pos q2]
    · rw [if_neg q2, if_neg q2]; exact h _ (by omega)
theorem SO_c {t n : Int} {s s' : Nat → G2} : ∀ m, (∀ j, j < m → s j = s' j) → ∀ j, j < m → SO t n s m j = SO t n s' m j := by
  intro m
  induction m with
  | zero => intro _ j hj; omega
  | succ m ih =>
    intro h j hj
    show ins t n (s m) (SO t n s m) m j = ins t n (s' m) (SO t n s' m) m j
    rw [h m (by omega)]
    exact ins_c (ih (fun j hj => h j (by omega))) j hj
def CP (m : Nat) (f : Nat → G2) (pri : Nat → Int64) : Prop := ∀ j, j < m → pri j = pk (f j).1 (f j).2
def MP (m : Nat) (f : Nat → G2) (pA pB : Nat → Int64) : Prop := ∀ j, j < m → pA j = lo (f j).1 ∧ pB j = lo (f j).2
def SB (t n : Int) (x : G2) : Prop := zs t n x ≤ 2000000000
theorem ahead7 {t n : Int} (h : TN t n) {a b : G2} (ha : SB t n a) (hb : SB t n b) : (AH t n a b ∧ f_X0_isAhead (io t) (io n) (pk a.1 a.2) (pk b.1 b.2) = 1) ∨ (¬ AH t n a b ∧ f_X0_isAhead (io t) (io n) (pk a.1 a.2) (pk b.1 b.2) = 0) := by
  obtain ⟨a1, a2⟩ := yb_zs h ha
  obtain ⟨b1, b2⟩ := yb_zs h hb
  have na := zs_nn h a
  have nb := zs_nn h b
  unfold SB at ha hb
  have e : lo (sz t n a.1 a.2) - lo (sz t n b.1 b.2) = lo (zs t n a - zs t n b) := lo_sub _ _
  have c1 : lo (zs t n a - zs t n b) < (0 : Int64) ↔ zs t n a - zs t n b < 0 := lo_lt (b := 0) (by unfold i64; omega) (by unfold i64; omega)
  have c2 : lo (zs t n a - zs t n b) = (0 : Int64) ↔ zs t n a - zs t n b = 0 := lo_eq (b := 0) (by unfold i64; omega) (by unfold i64; omega)
  have c3 := grt_pk b1.i b2.i a1.i a2.i
  unfold f_X0_isAhead AH
  rw [sizeOf_pk h.it h.in a1.i a2.i, sizeOf_pk h.it h.in b1.i b2.i, e]
  by_cases g1 : zs t n a - zs t n b < 0
  · left
    rw [if_pos (c1.mpr g1)]
    exact ⟨Or.inl (by omega), rfl⟩
  · rw [if_neg (fun q => g1 (c1.mp q))]
    by_cases g2 : zs t n a - zs t n b = 0
    · rw [if_pos (c2.mpr g2)]
      by_cases g3 : lex b a
      · right
        rw [if_pos (c3.mpr g3)]
        exact ⟨fun q => by rcases q with q | q; omega; exact q.2 g3, rfl⟩
      · left
        rw [if_neg (fun q => g3 (c3.mp q))]
        exact ⟨Or.inr ⟨by omega, g3⟩, rfl⟩
    · right
      rw [if_neg (fun q => g2 (c2.mp q))]
      exact ⟨fun q => by rcases q with q | q; omega; omega, rfl⟩
theorem nat40 {i : Nat} (hi : i < 40) : ¬ (io (i : Int) < 0 ∨ 40 ≤ (io (i : Int)).toNatClampNeg) ∧ (io (i : Int)).toNatClampNeg = i := by
  have e : (io (i : Int)).toNatClampNeg = i := by
    rw [Int32.toNatClampNeg, io_toInt (by unfold i32; omega)]
    omega
  refine ⟨?_, e⟩
  rw [e]
  rintro (h | h)
  · have := (io_lt (b := 0) (by unfold i32; omega) (by unfold i32; omega)).mp h
    omega
  · omega
theorem ahead8 {t n : Int} (h : TN t n) {f : Nat → G2} {pA pB : Nat → Int64} {i j : Nat} (hi : i < 40) (hj : j < 40) (ei : pA i = lo (f i).1 ∧ pB i = lo (f i).2) (ej : pA j = lo (f j).1 ∧ pB j = lo (f j).2) (ha : SB t n (f i)) (hb : SB t n (f j)) : (AH t n (f i) (f j) ∧ f_X8_isAhead (lo t) (lo n) pA pB (io (i : Int)) (io (j : Int)) = some 1) ∨ (¬ AH t n (f i) (f j) ∧ f_X8_isAhead (lo t) (lo n) pA pB (io (i : Int)) (io (j : Int)) = some 0) := by
  obtain ⟨a1, a2⟩ := yb_zs h ha
  obtain ⟨b1, b2⟩ := yb_zs h hb
  have na := zs_nn h (f i)
  have nb := zs_nn h (f j)
  obtain ⟨x1, x2⟩ := nat40 hi
  obtain ⟨y1, y2⟩ := nat40 hj
  unfold SB at ha hb
  unfold f_X8_isAhead AH
  rw [if_neg x1, if_neg y1, x2, y2, ei.1, ei.2, ej.1, ej.2, sizeOf_m, sizeOf_m]
  generalize f i = a at *
  generalize f j = b at *
  show ((zs t n a < zs t n b ∨ zs t n a = zs t n b ∧ ¬ lex b a) ∧ (if lo (zs t n a) = lo (zs t n b) then _ else (if lo (zs t n b) ≤ lo (zs t n a) then _ else _)) = _) ∨ (¬ (zs t n a < zs t n b ∨ zs t n a = zs t n b ∧ ¬ lex b a) ∧ (if lo (zs t n a) = lo (zs t n b) then _ else (if lo (zs t n b) ≤ lo (zs t n a) then _ else _)) = _)
  have c1 : lo (zs t n a) = lo (zs t n b) ↔ zs t n a = zs t n b := lo_eq (by unfold i64; omega) (by unfold i64; omega)
  have c2 : lo (zs t n b) ≤ lo (zs t n a) ↔ zs t n b ≤ zs t n a := lo_le (by unfold i64; omega) (by unfold i64; omega)
  have c3 : lo a.1 = lo b.1 ↔ a.1 = b.1 := lo_eq (wide a1.i) (wide b1.i)
  have c4 : lo b.2 ≤ lo a.2 ↔ b.2 ≤ a.2 := lo_le (wide b2.i) (wide a2.i)
  have c5 : lo b.1 ≤ lo a.1 ↔ b.1 ≤ a.1 := lo_le (wide b1.i) (wide a1.i)
  unfold lex
  by_cases g1 : zs t n a = zs t n b
  · rw [if_pos (c1.mpr g1)]
    by_cases g2 : a.1 = b.1
    · rw [if_pos (c3.mpr g2)]
      by_cases g3 : b.2 ≤ a.2
      · right
        rw [if_pos (c4.mpr g3)]
        exact ⟨by omega, rfl⟩
      · left
        rw [if_neg (fun q => g3 (c4.mp q))]
        exact ⟨by omega, rfl⟩
    · rw [if_neg (fun q => g2 (c3.mp q))]
      by_cases g3 : b.1 ≤ a.1
      · right
        rw [if_pos (c5.mpr g3)]
        exact ⟨by omega, rfl⟩
      · left
        rw [if_neg (fun q => g3 (c5.mp q))]
        exact ⟨by omega, rfl⟩
  · rw [if_neg (fun q => g1 (c1.mp q))]
    by_cases g2 : zs t n b ≤ zs t n a
    · right
      rw [if_pos (c2.mpr g2)]
      exact ⟨by omega, rfl⟩
    · left
      rw [if_neg (fun q => g2 (c2.mp q))]
      exact ⟨by omega, rfl⟩
