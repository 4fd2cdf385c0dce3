/-! the class' count of all rings -/
theorem fill625 (r : Nat → Int32) : ∃ r', f_J7_fill_53178 625 r 0 = some r' ∧ ∀ j : Nat, j < 625 → r' j = 0 := by
  have key : ∃ z, whl (f_J7_fill_53178_L5 625 0 (Int32.ofNat 625)) ((0 : Int32), r) = some z ∧ ∀ j : Nat, j < 625 → z j = 0 := by
    refine whl_for (b := f_J7_fill_53178_L5 625 0 (Int32.ofNat 625)) 625 (fun i s => s.1 = io (i : Int) ∧ ∀ j : Nat, j < i → s.2 j = 0) (fun z => ∀ j : Nat, j < 625 → z j = 0) ?_ ?_ 0 _ (by omega) ⟨rfl, fun j h => by omega⟩
    · rintro i ⟨s1, s2⟩ hi ⟨e1, e2⟩
      dsimp only at e1 e2
      have c1 : ¬ (Int32.ofNat 625 ≤ io (i : Int)) := fun e => by
        have := (io_le (a := 625) (by unfold i32; omega) (by unfold i32; omega)).mp e
        omega
      obtain ⟨d0, d1, d2⟩ := nat625 hi
      rw [d2] at d1
      unfold f_J7_fill_53178_L5
      dsimp only
      rw [e1, if_neg c1, d2, if_neg d1, io_1]
      refine ⟨_, rfl, rfl, fun j hj => ?_⟩
      dsimp only
      rw [upd_v]
      by_cases g : j = i
      · rw [if_pos g]
      · rw [if_neg g]
        exact e2 j (by omega)
    · rintro ⟨s1, s2⟩ ⟨e1, e2⟩
      dsimp only at e1 e2
      unfold f_J7_fill_53178_L5
      dsimp only
      rw [e1, if_pos (by decide)]
      exact ⟨_, rfl, e2⟩
  obtain ⟨z, e, hz⟩ := key
  refine ⟨z, ?_, hz⟩
  unfold f_J7_fill_53178 f_J7_fill_53178_K5_20
  rw [e]
  rfl
def FRG (t n m1 m2 w : Int) (D : Int × Int → Prop) (v r g : Int32) (mrk : Nat → Int32) : Prop := ∃ (s : Nat) (q : Nat → Int × Int), v = io (s : Int) ∧ r = io (CG (fun a b => VV s q (a, b) ∧ PM (nx t n m1 m2 w) (a, b)) 81) ∧ g = io (CG (fun a b => VV s q (a, b) ∧ PER (nx t n m1 m2 w) (a, b)) 81) ∧ MK t n m1 m2 s q mrk ∧ (∀ z, VV s q z → VV s q (nx t n m1 m2 w z)) ∧ ∀ z, D z → REG t n m1 m2 z → VV s q z
theorem ring_pt {t n m1 m2 w : Int} (h : BS t n m1 m2 w) {a b : Int} (ha : -12 ≤ a ∧ a ≤ 12) (hb : -12 ≤ b ∧ b ≤ 12) {D : Int × Int → Prop} {v r g : Int32} {mrk : Nat → Int32} (H : FRG t n m1 m2 w D v r g mrk) : ∃ v' r' g' mrk', f_X5_findRings_L32 (io t) (io n) (pk m1 m2) (io (sz t n m1 m2)) (io w) (io a) (v, io b, r, g, mrk) = some (Sum.inl (v', io (b + 1), r', g', mrk')) ∧ FRG t n m1 m2 w (fun z => D z ∨ z = (a, b)) v' r' g' mrk' := by
  have hT := h.1
  have hN := h.2.2.2.1
  have S0 := sz_nn h.1 a b
  have hs : sz t n a b ≤ 3000 := by
    have a2 := sq_lt (x := a) (y := 13) (by omega)
    have m1 := Int.mul_le_mul_of_nonneg_left (show a ≤ 12 by omega) (show 0 ≤ 0 by omega)
    have e1 : a * a ≤ 144 := by
      rcases Int.lt_or_le a 0 with z | z
      · have := Int.mul_le_mul (show -a ≤ 12 by omega) (show -a ≤ 12 by omega) (by omega) (by omega)
        rw [Int.neg_mul_neg] at this; omega
      · have := Int.mul_le_mul (show a ≤ 12 by omega) (show a ≤ 12 by omega) (by omega) (by omega); omega
    have e2 : b * b ≤ 144 := by
      rcases Int.lt_or_le b 0 with z | z
      · have := Int.mul_le_mul (show -b ≤ 12 by omega) (show -b ≤ 12 by omega) (by omega) (by omega)
        rw [Int.neg_mul_neg] at this; omega
      · have := Int.mul_le_mul (show b ≤ 12 by omega) (show b ≤ 12 by omega) (by omega) (by omega); omega
    have e3 : 2 * (a * b) ≤ a * a + b * b := by
      have := sq_nn (a - b)
      have e : (a - b) * (a - b) = a * a + b * b - 2 * (a * b) := by grind
      omega
    have e4 : -(2 * (a * b)) ≤ a * a + b * b := by
      have := sq_nn (a + b)
      have e : (a + b) * (a + b) = a * a + b * b + 2 * (a * b) := by grind
      omega
    have e5 : sz t n a b = a * a + t * (a * b) + n * (b * b) := by unfold sz; grind
    rw [e5]
    generalize a * a = A at *
    generalize b * b = B at *
    generalize a * b = C at *
    rcases hT with ⟨rfl, rfl⟩ | ⟨rfl, rfl⟩ | ⟨rfl, rfl⟩ | ⟨rfl, rfl⟩ | ⟨rfl, rfl⟩ <;> omega
  have it : i32 t := by unfold i32; rcases hT with ⟨rfl, rfl⟩ | ⟨rfl, rfl⟩ | ⟨rfl, rfl⟩ | ⟨rfl, rfl⟩ | ⟨rfl, rfl⟩ <;> omega
  have in_ : i32 n := by unfold i32; rcases hT with ⟨rfl, rfl⟩ | ⟨rfl, rfl⟩ | ⟨rfl, rfl⟩ | ⟨rfl, rfl⟩ | ⟨rfl, rfl⟩ <;> omega
  have c0 : ¬ ((12 : Int32) < io b) := fun e => by
    have := (io_lt (a := 12) (by unfold i32; omega) (by unfold i32; omega)).mp e
    omega
  have N7 : f_X4_number (io a).toInt64 (io b).toInt64 = pk a b := by
    rw [io_w (z := a) (by unfold i32; omega), io_w (z := b) (by unfold i32; omega)]
    rfl
  have Z7 := sizeOf_pk it in_ (a := a) (b := b) (by unfold i32; omega) (by unfold i32; omega)
  have M7 : (io (sz t n m1 m2)).toInt64 = lo (sz t n m1 m2) := io_w (z := sz t n m1 m2) (by unfold i32; omega)
  have O7 : (lo (sz t n a b) - lo (sz t n m1 m2)) - (1 : Int64) = lo (sz t n a b - sz t n m1 m2 - 1) := by
    rw [lo_sub]; exact lo_sub _ 1
  have F7 : (4 : Int64) * lo (sz t n m1 m2) = lo (4 * sz t n m1 m2) := lo_mul 4 _
  have c1 : lo (sz t n a b - sz t n m1 m2 - 1) ≤ (0 : Int64) ↔ sz t n a b - sz t n m1 m2 - 1 ≤ 0 := lo_le (b := 0) (by unfold i64; omega) (by unfold i64; omega)
  have R := MR_iff (S := sz t n a b) hN
  obtain ⟨s, q, rfl, rfl, rfl, hM, hc, hD⟩ := H
  have go : REG t n m1 m2 (a, b) → ∃ v' r' g' mrk', (Option.bind (f_X5_follow (io t) (io n) (pk m1 m2) (io (sz t n m1 m2)) (io w) (io (CG (fun a b => VV s q (a, b) ∧ PM (nx t n m1 m2 w) (a, b)) 81)) (io (CG (fun a b => VV s q (a, b) ∧ PER (nx t n m1 m2 w) (a, b)) 81)) mrk (pk a b) (io (s : Int))) fun p8 => some (Sum.inl (p8.1, (io b + (1 : Int32)), p8.2.1, p8.2.2.1, p8.2.2.2)) : Option ((Int32 × Int32 × Int32 × Int32 × (Nat → Int32)) ⊕ (Int32 × Int32 × Int32 × (Nat → Int32)))) = some (Sum.inl (v', io (b + 1), r', g', mrk')) ∧ FRG t n m1 m2 w (fun z => D z ∨ z = (a, b)) v' r' g' mrk' := by
    intro hx
    obtain ⟨s', q', mrk', F, hM', hc', mono, hin⟩ := follow7 h hx hM hc
    rw [F, io_1]
    refine ⟨_, _, _, _, rfl, s', q', rfl, rfl, rfl, hM', hc', ?_⟩
    rintro z (hz | rfl) hr
    · exact mono _ (hD z hz hr)
    · exact hin
  unfold f_X5_findRings_L32
  dsimp only
  rw [if_neg c0, N7, Z7, M7, O7, F7]
  by_cases g1 : sz t n a b - sz t n m1 m2 - 1 ≤ 0
  · rw [if_pos (c1.mpr g1)]
    exact go (R.mpr (Or.inl g1))
  · rw [if_neg (fun e => g1 (c1.mp e)), lo_mul]
    have q1 := Int.mul_le_mul (show sz t n a b - sz t n m1 m2 - 1 ≤ 3000 by omega) (show sz t n a b - sz t n m1 m2 - 1 ≤ 3000 by omega) (by omega) (by omega)
    have q0 := sq_nn (sz t n a b - sz t n m1 m2 - 1)
    have c2 : lo (4 * sz t n m1 m2) < lo ((sz t n a b - sz t n m1 m2 - 1) * (sz t n a b - sz t n m1 m2 - 1)) ↔ 4 * sz t n m1 m2 < (sz t n a b - sz t n m1 m2 - 1) * (sz t n a b - sz t n m1 m2 - 1) := lo_lt (by unfold i64; omega) (by unfold i64; omega)
    by_cases g2 : 4 * sz t n m1 m2 < (sz t n a b - sz t n m1 m2 - 1) * (sz t n a b - sz t n m1 m2 - 1)
    · rw [if_pos (c2.mpr g2), io_1]
      refine ⟨_, _, _, _, rfl, s, q, rfl, rfl, rfl, hM, hc, ?_⟩
      rintro z (hz | rfl) hr
      · exact hD z hz hr
      · rcases R.mp hr with g | g <;> omega
    · rw [if_neg (fun e => g2 (c2.mp e))]
      exact go (R.mpr (Or.inr (by omega)))
theorem findRings7 {t n m1 m2 w : Int} (h : BS t n m1 m2 w) (r g : Int32) (mrk : Nat → Int32) : ∃ mrk', f_X5_findRings (io t) (io n) (pk m1 m2) (io (sz t n m1 m2)) (io w) r g mrk = some (io (CG (fun a b => PM (nx t n m1 m2 w) (a, b)) 81), io (CG (fun a b => PER (nx t n m1 m2 w) (a, b)) 81), mrk') := by
  obtain ⟨mz, fz, hz⟩ := fill625 mrk
  have row : ∀ (a : Int) (D : Int × Int → Prop) (v r g : Int32) (mrk : Nat → Int32), (-12 ≤ a ∧ a ≤ 12) → FRG t n m1 m2 w D v r g mrk → ∃ z, whl (f_X5_findRings_L32 (io t) (io n) (pk m1 m2) (io (sz t n m1 m2)) (io w) (io a)) (v, (-12 : Int32), r, g, mrk) = some z ∧ FRG t n m1 m2 w (fun z => D z ∨ (z.1 = a ∧ -12 ≤ z.2 ∧ z.2 ≤ 12)) z.1 z.2.1 z.2.2.1 z.2.2.2 := by
    intro a D v r g mrk ha H
    refine whl_for (b := f_X5_findRings_L32 (io t) (io n) (pk m1 m2) (io (sz t n m1 m2)) (io w) (io a)) 25 (fun i s => s.2.1 = io (-12 + (i : Int)) ∧ FRG t n m1 m2 w (fun z => D z ∨ (z.1 = a ∧ -12 ≤ z.2 ∧ z.2 < -12 + (i : Int))) s.1 s.2.2.1 s.2.2.2.1 s.2.2.2.2) _ ?_ ?_ 0 _ (by omega) ⟨show (-12 : Int32) = io (-12 + ((0 : Nat) : Int)) by decide, ?_⟩
    · rintro i ⟨s1, s2, s3, s4, s5⟩ hi ⟨e1, e2⟩
      dsimp only at e1 e2
      rw [e1]
      obtain ⟨v', r', g', mrk', F, H'⟩ := ring_pt h ha (b := -12 + (i : Int)) (by omega) e2
      rw [show -12 + (i : Int) + 1 = -12 + ((i + 1 : Nat) : Int) by omega] at F
      refine ⟨_, F, rfl, ?_⟩
      obtain ⟨s, q, x1, x2, x3, x4, x5, x6⟩ := H'
      refine ⟨s, q, x1, x2, x3, x4, x5, fun z hz hr => x6 z ?_ hr⟩
      rcases hz with hz | ⟨z1, z2, z3⟩
      · exact Or.inl (Or.inl hz)
      · by_cases g : z.2 = -12 + (i : Int)
        · exact Or.inr (Prod.ext z1 g)
        · exact Or.inl (Or.inr ⟨z1, z2, by omega⟩)
    · rintro ⟨s1, s2, s3, s4, s5⟩ ⟨e1, e2⟩
      dsimp only at e1 e2
      unfold f_X5_findRings_L32
      dsimp only
      rw [e1, if_pos (by decide)]
      refine ⟨_, rfl, ?_⟩
      obtain ⟨s, q, x1, x2, x3, x4, x5, x6⟩ := e2
      refine ⟨s, q, x1, x2, x3, x4, x5, fun z hz hr => x6 z ?_ hr⟩
      rcases hz with hz | ⟨z1, z2, z3⟩
      · exact Or.inl hz
      · exact Or.inr ⟨z1, z2, by omega⟩
    · obtain ⟨s, q, x1, x2, x3, x4, x5, x6⟩ := H
      refine ⟨s, q, x1, x2, x3, x4, x5, fun z hz hr => x6 z ?_ hr⟩
      rcases hz with hz | ⟨z1, z2, z3⟩
      · exact hz
      · omega
  have key : ∃ z, whl (f_X5_findRings_L23 (io t) (io n) (pk m1 m2) (io (sz t n m1 m2)) (io w)) ((0 : Int32), (-12 : Int32), (0 : Int32), (0 : Int32), mz) = some z ∧ z.1 = io (CG (fun a b => PM (nx t n m1 m2 w) (a, b)) 81) ∧ z.2.1 = io (CG (fun a b => PER (nx t n m1 m2 w) (a, b)) 81) := by
    refine whl_for (b := f_X5_findRings_L23 (io t) (io n) (pk m1 m2) (io (sz t n m1 m2)) (io w)) 25 (fun i s => s.2.1 = io (-12 + (i : Int)) ∧ FRG t n m1 m2 w (fun z => (-12 ≤ z.1 ∧ z.1 < -12 + (i : Int)) ∧ -12 ≤ z.2 ∧ z.2 ≤ 12) s.1 s.2.2.1 s.2.2.2.1 s.2.2.2.2) _ ?_ ?_ 0 _ (by omega) ⟨show (-12 : Int32) = io (-12 + ((0 : Nat) : Int)) by decide, ?_⟩
    · rintro i ⟨s1, s2, s3, s4, s5⟩ hi ⟨e1, e2⟩
      dsimp only at e1 e2
      rw [e1]
      obtain ⟨z, F, s, q, x1, x2, x3, x4, x5, x6⟩ := row (-12 + (i : Int)) _ _ _ _ _ (by omega) e2
      have c0 : ¬ ((12 : Int32) < io (-12 + (i : Int))) := fun e => by
        have := (io_lt (a := 12) (by unfold i32; omega) (by unfold i32; omega)).mp e
        omega
      unfold f_X5_findRings_L23 f_X5_findRings_K32_106
      dsimp only
      rw [if_neg c0, F, io_1, show -12 + (i : Int) + 1 = -12 + ((i + 1 : Nat) : Int) by omega]
      refine ⟨_, rfl, rfl, s, q, x1, x2, x3, x4, x5, fun z hz hr => x6 z ?_ hr⟩
      obtain ⟨⟨z1, z2⟩, z3⟩ := hz
      by_cases g : z.1 = -12 + (i : Int)
      · exact Or.inr ⟨g, z3⟩
      · exact Or.inl ⟨⟨z1, by omega⟩, z3⟩
    · rintro ⟨s1, s2, s3, s4, s5⟩ ⟨e1, s, q, x1, x2, x3, x4, x5, x6⟩
      dsimp only at e1 x1 x2 x3 x4 x6
      unfold f_X5_findRings_L23
      dsimp only
      rw [e1, if_pos (by decide)]
      have all : ∀ z, PER (nx t n m1 m2 w) z → VV s q z := by
        intro z hz
        have hr : REG t n m1 m2 z := per_in h hz
        have := REG_box h hr
        exact x6 z ⟨by omega, by omega⟩ hr
      refine ⟨_, rfl, ?_, ?_⟩
      · dsimp only
        rw [x2]
        exact congrArg io (CG_c (fun a b => ⟨fun g => g.2, fun g => ⟨all _ g.1, g⟩⟩) 81)
      · dsimp only
        rw [x3]
        exact congrArg io (CG_c (fun a b => ⟨fun g => g.2, fun g => ⟨all _ g, g⟩⟩) 81)
    · refine ⟨0, fun _ => (0, 0), rfl, ?_, ?_, ⟨by omega, fun i hi => by omega, fun i j hi hj => by omega, fun c hc _ => hz _ (pl_lt hc)⟩, ?_, ?_⟩
      · dsimp only
        rw [CG_0 (fun x y g => by obtain ⟨⟨i, hi, -⟩, -⟩ := g; omega)]
        rfl
      · dsimp only
        rw [CG_0 (fun x y g => by obtain ⟨⟨i, hi, -⟩, -⟩ := g; omega)]
        rfl
      · rintro z ⟨i, hi, -⟩; omega
      · rintro z ⟨⟨z1, z2⟩, -⟩; omega
  obtain ⟨z, F, e1, e2⟩ := key
  refine ⟨z.2.2, ?_⟩
  unfold f_X5_findRings f_X5_findRings_K23_112
  rw [fz]
  simp only [Option.bind_some]
  rw [F]
  simp only [Option.bind_some]
  rw [e1, e2]
