/-! the class finds all rings -/
def pl (c : Int × Int) : Nat := ((c.1 + 12) * 25 + (c.2 + 12)).toNat
def REG (t n m1 m2 : Int) (c : Int × Int) : Prop := sz t n c.1 c.2 ≤ MR (sz t n m1 m2)
theorem REG_box {t n m1 m2 w : Int} (h : BS t n m1 m2 w) {c : Int × Int} (hc : REG t n m1 m2 c) : (-12 ≤ c.1 ∧ c.1 ≤ 12) ∧ -12 ≤ c.2 ∧ c.2 ≤ 12 := by
  have := MR_b h.2.2.2.1
  exact box12 h.1 (by unfold REG at hc; omega)
theorem pl_inj {a b : Int × Int} (ha : (-12 ≤ a.1 ∧ a.1 ≤ 12) ∧ -12 ≤ a.2 ∧ a.2 ≤ 12) (hb : (-12 ≤ b.1 ∧ b.1 ≤ 12) ∧ -12 ≤ b.2 ∧ b.2 ≤ 12) (e : pl a = pl b) : a = b := by
  unfold pl at e
  exact Prod.ext (by omega) (by omega)
theorem place7 {c : Int × Int} (h : (-12 ≤ c.1 ∧ c.1 ≤ 12) ∧ -12 ≤ c.2 ∧ c.2 ≤ 12) : f_X5_place (pk c.1 c.2) = io ((pl c : Nat) : Int) := by
  have e1 : lo c.1 + (12 : Int64) = lo (c.1 + 12) := lo_add _ 12
  have e2 : lo c.2 + (12 : Int64) = lo (c.2 + 12) := lo_add _ 12
  have t1 : lo (c.1 + 12) < (0 : Int64) ↔ c.1 + 12 < 0 := lo_lt (b := 0) (by unfold i64; omega) (by unfold i64; omega)
  have t2 : (25 : Int64) ≤ lo (c.1 + 12) ↔ 25 ≤ c.1 + 12 := lo_le (a := 25) (by unfold i64; omega) (by unfold i64; omega)
  have t3 : lo (c.2 + 12) < (0 : Int64) ↔ c.2 + 12 < 0 := lo_lt (b := 0) (by unfold i64; omega) (by unfold i64; omega)
  have t4 : lo (c.2 + 12) < (25 : Int64) ↔ c.2 + 12 < 25 := lo_lt (b := 25) (by unfold i64; omega) (by unfold i64; omega)
  have e3 : lo (c.1 + 12) * (25 : Int64) = lo ((c.1 + 12) * 25) := lo_mul _ 25
  unfold f_X5_place
  rw [first_pk _ (by unfold i32; omega), second_pk _ (by unfold i32; omega), e1, e2, if_neg (fun x => by have := t1.mp x; omega), if_neg (fun x => by have := t2.mp x; omega), if_neg (fun x => by have := t3.mp x; omega), if_pos (t4.mpr (by omega)), e3, lo_add, lo_n]
  congr 1
  unfold pl
  omega
theorem nat625 {i : Nat} (hi : i < 625) : ¬ (io (i : Int) < 0) ∧ ¬ (io (i : Int) < 0 ∨ 625 ≤ (io (i : Int)).toNatClampNeg) ∧ (io (i : Int)).toNatClampNeg = i := by
  have e : (io (i : Int)).toNatClampNeg = i := by
    rw [Int32.toNatClampNeg, io_toInt (by unfold i32; omega)]
    omega
  have n0 : ¬ (io (i : Int) < 0) := fun h => by
    have := (io_lt (b := 0) (by unfold i32; omega) (by unfold i32; omega)).mp h
    omega
  refine ⟨n0, ?_, e⟩
  rw [e]
  rintro (h | h)
  · exact n0 h
  · omega
theorem pl_lt {c : Int × Int} (h : (-12 ≤ c.1 ∧ c.1 ≤ 12) ∧ -12 ≤ c.2 ∧ c.2 ≤ 12) : pl c < 625 := by unfold pl; omega
def MK (t n m1 m2 : Int) (s : Nat) (q : Nat → Int × Int) (mrk : Nat → Int32) : Prop := s ≤ 625 ∧ (∀ i, i < s → REG t n m1 m2 (q i) ∧ mrk (pl (q i)) = io ((i : Int) + 1)) ∧ (∀ i j, i < j → j < s → ¬ q i = q j) ∧ ∀ c : Int × Int, ((-12 ≤ c.1 ∧ c.1 ≤ 12) ∧ -12 ≤ c.2 ∧ c.2 ≤ 12) → (∀ i, i < s → ¬ q i = c) → mrk (pl c) = 0
def VV (s : Nat) (q : Nat → Int × Int) (x : Int × Int) : Prop := ∃ i, i < s ∧ q i = x
theorem MK_add {t n m1 m2 w : Int} (h : BS t n m1 m2 w) {s : Nat} {q : Nat → Int × Int} {mrk : Nat → Int32} (hM : MK t n m1 m2 s q mrk) {y : Int × Int} (hy : REG t n m1 m2 y) (hn : ¬ VV s q y) : s < 625 ∧ MK t n m1 m2 (s + 1) (fun i => if i = s then y else q i) (upd mrk (pl y) (io ((s : Int) + 1))) := by
  obtain ⟨h1, h2, h3, h4⟩ := hM
  have by' := REG_box h hy
  have hlt : s < 625 := by
    rcases Nat.lt_or_ge s 625 with z | z
    · exact z
    · exfalso
      have hs : s = 625 := by omega
      subst hs
      obtain ⟨i, j, g1, g2, g3⟩ := pigeon 625 (fun i => if i < 625 then pl (q i) else pl y) (fun i hi => by
        by_cases z : i < 625
        · rw [if_pos z]; exact pl_lt (REG_box h (h2 i z).1)
        · rw [if_neg z]; exact pl_lt by')
      rw [if_pos (by omega)] at g3
      have bi := REG_box h (h2 i (by omega)).1
      by_cases z : j < 625
      · rw [if_pos z] at g3
        exact h3 i j g1 z (pl_inj bi (REG_box h (h2 j z).1) g3)
      · rw [if_neg z] at g3
        exact hn ⟨i, by omega, pl_inj bi by' g3⟩
  refine ⟨hlt, by omega, ?_, ?_, ?_⟩
  · intro i hi
    try dsimp only
    by_cases z : i = s
    · subst z
      rw [if_pos rfl, upd_v, if_pos rfl]
      exact ⟨hy, rfl⟩
    · obtain ⟨a1, a2⟩ := h2 i (by omega)
      rw [if_neg z, upd_v, if_neg (fun e => hn ⟨i, by omega, pl_inj (REG_box h a1) by' e⟩)]
      exact ⟨a1, a2⟩
  · intro i j hi hj
    try dsimp only
    rw [if_neg (show ¬ i = s by omega)]
    by_cases z : j = s
    · rw [if_pos z]; exact fun e => hn ⟨i, by omega, e⟩
    · rw [if_neg z]; exact h3 i j hi (by omega)
  · intro c hc hnc
    have a1 := hnc s (by omega)
    try dsimp only at a1
    rw [if_pos rfl] at a1
    rw [upd_v, if_neg (fun e => a1 (pl_inj by' hc e.symm))]
    refine h4 c hc (fun i hi => ?_)
    have := hnc i (by omega)
    try dsimp only at this
    rw [if_neg (by omega)] at this
    exact this
theorem REG_XO {t n m1 m2 w : Int} (h : BS t n m1 m2 w) {x : Int × Int} (hx : REG t n m1 m2 x) : ∀ i, REG t n m1 m2 (XO (nx t n m1 m2 w) x i) := by
  intro i
  induction i with
  | zero => exact hx
  | succ i ih => exact nx_clo h _ ih
/-- the walk from x marks all that is new -/
theorem walk13 {t n m1 m2 w : Int} (h : BS t n m1 m2 w) {x : Int × Int} (hx : REG t n m1 m2 x) {s0 : Nat} {q0 : Nat → Int × Int} {mrk0 : Nat → Int32} (hM : MK t n m1 m2 s0 q0 mrk0) : ∃ (s : Nat) (q : Nat → Int × Int) (mrk : Nat → Int32), whl (f_X5_follow_L13 (io t) (io n) (pk m1 m2) (io (sz t n m1 m2)) (io w)) (io (s0 : Int), pk x.1 x.2, io ((pl x : Nat) : Int), mrk0) = some (io (s : Int), io ((pl (XO (nx t n m1 m2 w) x (s - s0)) : Nat) : Int), mrk) ∧ s0 ≤ s ∧ MK t n m1 m2 s q mrk ∧ (∀ i, i < s0 → q i = q0 i) ∧ (∀ i, s0 ≤ i → i < s → q i = XO (nx t n m1 m2 w) x (i - s0)) ∧ VV s q (XO (nx t n m1 m2 w) x (s - s0)) := by
  have hs0 := hM.1
  have bnd : ∀ i, sz t n (XO (nx t n m1 m2 w) x i).1 (XO (nx t n m1 m2 w) x i).2 ≤ 2000000000 := fun i => by
    have := REG_XO h hx i
    have := MR_b h.2.2.2.1
    unfold REG at *
    omega
  have step : ∀ (s : Nat) (q : Nat → Int × Int) (mrk : Nat → Int32), s0 ≤ s → MK t n m1 m2 s q mrk → (VV s q (XO (nx t n m1 m2 w) x (s - s0)) ∧ f_X5_follow_L13 (io t) (io n) (pk m1 m2) (io (sz t n m1 m2)) (io w) (io (s : Int), pk (XO (nx t n m1 m2 w) x (s - s0)).1 (XO (nx t n m1 m2 w) x (s - s0)).2, io ((pl (XO (nx t n m1 m2 w) x (s - s0)) : Nat) : Int), mrk) = some (Sum.inr (io (s : Int), io ((pl (XO (nx t n m1 m2 w) x (s - s0)) : Nat) : Int), mrk))) ∨ (¬ VV s q (XO (nx t n m1 m2 w) x (s - s0)) ∧ f_X5_follow_L13 (io t) (io n) (pk m1 m2) (io (sz t n m1 m2)) (io w) (io (s : Int), pk (XO (nx t n m1 m2 w) x (s - s0)).1 (XO (nx t n m1 m2 w) x (s - s0)).2, io ((pl (XO (nx t n m1 m2 w) x (s - s0)) : Nat) : Int), mrk) = some (Sum.inl (io ((s + 1 : Nat) : Int), pk (XO (nx t n m1 m2 w) x (s + 1 - s0)).1 (XO (nx t n m1 m2 w) x (s + 1 - s0)).2, io ((pl (XO (nx t n m1 m2 w) x (s + 1 - s0)) : Nat) : Int), upd mrk (pl (XO (nx t n m1 m2 w) x (s - s0))) (io ((s : Int) + 1))))) := by
    intro s q mrk hs hM
    obtain ⟨h1, h2, h3, h4⟩ := hM
    have ry := REG_XO h hx (s - s0)
    have by' := REG_box h ry
    obtain ⟨d0, d1, d2⟩ := nat625 (pl_lt by')
    have c1 : ¬ ((625 : Int32) < io (s : Int)) := fun e => by
      have := (io_lt (a := 625) (by unfold i32; omega) (by unfold i32; omega)).mp e
      omega
    have A7 := after7 h (bnd (s - s0))
    have e1 : XO (nx t n m1 m2 w) x (s + 1 - s0) = nx t n m1 m2 w (XO (nx t n m1 m2 w) x (s - s0)) := by
      rw [show s + 1 - s0 = (s - s0) + 1 by omega]
      rfl
    have by2 := REG_box h (REG_XO h hx (s + 1 - s0))
    have P2 := place7 by2
    rw [e1] at P2 ⊢
    generalize XO (nx t n m1 m2 w) x (s - s0) = y at *
    unfold f_X5_follow_L13
    dsimp only
    rw [if_neg c1, if_neg d0, if_neg d1, d2]
    by_cases g : VV s q y
    · left
      obtain ⟨i, hi, e⟩ := id g
      have hm := (h2 i hi).2
      rw [e] at hm
      have ne : ¬ mrk (pl y) = 0 := fun z => by
        rw [hm] at z
        have := (io_eq (b := 0) (by unfold i32; omega) (by unfold i32; omega)).mp z
        omega
      rw [if_neg ne]
      exact ⟨g, rfl⟩
    · right
      have hz := h4 y by' (fun i hi e => g ⟨i, hi, e⟩)
      rw [if_pos hz, A7]
      simp only [Option.bind_some]
      rw [P2, io_1]
      exact ⟨g, rfl⟩
  have key : ∃ z, whl (f_X5_follow_L13 (io t) (io n) (pk m1 m2) (io (sz t n m1 m2)) (io w)) (io (s0 : Int), pk x.1 x.2, io ((pl x : Nat) : Int), mrk0) = some z ∧ ∃ (s : Nat) (q : Nat → Int × Int) (mrk : Nat → Int32), z = (io (s : Int), io ((pl (XO (nx t n m1 m2 w) x (s - s0)) : Nat) : Int), mrk) ∧ s0 ≤ s ∧ MK t n m1 m2 s q mrk ∧ (∀ i, i < s0 → q i = q0 i) ∧ (∀ i, s0 ≤ i → i < s → q i = XO (nx t n m1 m2 w) x (i - s0)) ∧ VV s q (XO (nx t n m1 m2 w) x (s - s0)) := by
    refine whl_fe (b := f_X5_follow_L13 (io t) (io n) (pk m1 m2) (io (sz t n m1 m2)) (io w)) (625 - s0) (fun m S => ∃ (q : Nat → Int × Int) (mrk : Nat → Int32), S = (io ((s0 + m : Nat) : Int), pk (XO (nx t n m1 m2 w) x (s0 + m - s0)).1 (XO (nx t n m1 m2 w) x (s0 + m - s0)).2, io ((pl (XO (nx t n m1 m2 w) x (s0 + m - s0)) : Nat) : Int), mrk) ∧ MK t n m1 m2 (s0 + m) q mrk ∧ (∀ i, i < s0 → q i = q0 i) ∧ ∀ i, s0 ≤ i → i < s0 + m → q i = XO (nx t n m1 m2 w) x (i - s0)) _ ?_ ?_ 0 _ (by omega) ⟨q0, mrk0, by rw [Nat.add_zero, Nat.sub_self]; rfl, hM, fun i hi => rfl, fun i a b => by omega⟩
    · rintro m S hm ⟨q, mrk, rfl, hQ, k1, k2⟩
      rcases step (s0 + m) q mrk (by omega) hQ with ⟨g, e⟩ | ⟨g, e⟩
      · left
        exact ⟨_, e, s0 + m, q, mrk, rfl, by omega, hQ, k1, k2, g⟩
      · right
        obtain ⟨lt, hQ'⟩ := MK_add h hQ (REG_XO h hx (s0 + m - s0)) g
        refine ⟨_, e, _, _, rfl, hQ', ?_, ?_⟩
        · intro i hi
          rw [if_neg (by omega)]
          exact k1 i hi
        · intro i hi hi2
          by_cases z : i = s0 + m
          · rw [if_pos z, z]
          · rw [if_neg z]
            exact k2 i hi (by omega)
    · rintro S ⟨q, mrk, rfl, hQ, k1, k2⟩
      have es : s0 + (625 - s0) = 625 := by omega
      rcases step (s0 + (625 - s0)) q mrk (by omega) hQ with ⟨g, e⟩ | ⟨g, e⟩
      · exact ⟨_, e, s0 + (625 - s0), q, mrk, rfl, by omega, hQ, k1, k2, g⟩
      · obtain ⟨lt, -⟩ := MK_add h hQ (REG_XO h hx (s0 + (625 - s0) - s0)) g
        omega
  obtain ⟨z, e, s, q, mrk, rfl, rest⟩ := key
  exact ⟨s, q, mrk, e, rest⟩
theorem follow7 {t n m1 m2 w : Int} (h : BS t n m1 m2 w) {x : Int × Int} (hx : REG t n m1 m2 x) {s0 : Nat} {q0 : Nat → Int × Int} {mrk0 : Nat → Int32} (hM : MK t n m1 m2 s0 q0 mrk0) (hclo : ∀ z, VV s0 q0 z → VV s0 q0 (nx t n m1 m2 w z)) : ∃ (s : Nat) (q : Nat → Int × Int) (mrk : Nat → Int32), f_X5_follow (io t) (io n) (pk m1 m2) (io (sz t n m1 m2)) (io w) (io (CG (fun a b => VV s0 q0 (a, b) ∧ PM (nx t n m1 m2 w) (a, b)) 81)) (io (CG (fun a b => VV s0 q0 (a, b) ∧ PER (nx t n m1 m2 w) (a, b)) 81)) mrk0 (pk x.1 x.2) (io (s0 : Int)) = some (io (s : Int), io (CG (fun a b => VV s q (a, b) ∧ PM (nx t n m1 m2 w) (a, b)) 81), io (CG (fun a b => VV s q (a, b) ∧ PER (nx t n m1 m2 w) (a, b)) 81), mrk) ∧ MK t n m1 m2 s q mrk ∧ (∀ z, VV s q z → VV s q (nx t n m1 m2 w z)) ∧ (∀ z, VV s0 q0 z → VV s q z) ∧ VV s q x := by
  obtain ⟨s, q, mrk, e, hs, hQ, k1, k2, hv⟩ := walk13 h hx hM
  have bx := REG_box h hx
  have P0 := place7 bx
  have mono : ∀ z, VV s0 q0 z → VV s q z := by
    rintro z ⟨i, hi, e⟩
    exact ⟨i, by omega, by rw [k1 i hi]; exact e⟩
  have hclo' : ∀ z, VV s q z → VV s q (nx t n m1 m2 w z) := by
    rintro z ⟨i, hi, ez⟩
    by_cases g : i < s0
    · exact mono _ (hclo z ⟨i, g, by rw [← k1 i g]; exact ez⟩)
    · rw [k2 i (by omega) hi] at ez
      have e2 : nx t n m1 m2 w z = XO (nx t n m1 m2 w) x (i + 1 - s0) := by
        rw [← ez, show i + 1 - s0 = (i - s0) + 1 by omega]
        rfl
      rw [e2]
      by_cases g2 : i + 1 = s
      · rw [g2]; exact hv
      · exact ⟨i + 1, by omega, k2 (i + 1) (by omega) (by omega)⟩
  have hin : VV s q x := by
    by_cases g : s = s0
    · rw [g, Nat.sub_self] at hv
      rw [g]
      exact hv
    · exact ⟨s0, by omega, by rw [k2 s0 (Nat.le_refl _) (by omega), Nat.sub_self]; rfl⟩
  obtain ⟨i, hi, ei⟩ := id hv
  have hm := (hQ.2.1 i hi).2
  rw [ei] at hm
  have ry := REG_XO h hx (s - s0)
  obtain ⟨d0, d1, d2⟩ := nat625 (pl_lt (REG_box h ry))
  have hs625 := hQ.1
  have c1 : io ((i : Int) + 1) ≤ io (s0 : Int) ↔ (i : Int) + 1 ≤ (s0 : Int) := io_le (by unfold i32; omega) (by unfold i32; omega)
  have K : f_X5_follow (io t) (io n) (pk m1 m2) (io (sz t n m1 m2)) (io w) (io (CG (fun a b => VV s0 q0 (a, b) ∧ PM (nx t n m1 m2 w) (a, b)) 81)) (io (CG (fun a b => VV s0 q0 (a, b) ∧ PER (nx t n m1 m2 w) (a, b)) 81)) mrk0 (pk x.1 x.2) (io (s0 : Int)) = (if io ((i : Int) + 1) ≤ io (s0 : Int) then some (io (s : Int), io (CG (fun a b => VV s0 q0 (a, b) ∧ PM (nx t n m1 m2 w) (a, b)) 81), io (CG (fun a b => VV s0 q0 (a, b) ∧ PER (nx t n m1 m2 w) (a, b)) 81), mrk) else some (io (s : Int), io (CG (fun a b => VV s0 q0 (a, b) ∧ PM (nx t n m1 m2 w) (a, b)) 81) + 1, io (CG (fun a b => VV s0 q0 (a, b) ∧ PER (nx t n m1 m2 w) (a, b)) 81) + ((io (s : Int) + 1) - io ((i : Int) + 1)), mrk)) := by
    unfold f_X5_follow
    rw [P0, e]
    simp only [Option.bind_some]
    unfold f_X5_follow_K13_68
    rw [if_neg d0, if_neg d1, d2, hm]
  refine ⟨s, q, mrk, ?_, hQ, hclo', mono, hin⟩
  rw [K]
  by_cases g : (i : Int) + 1 ≤ (s0 : Int)
  · -- it leads to what was marked before
    rw [if_pos (c1.mpr g)]
    have old : VV s0 q0 (XO (nx t n m1 m2 w) x (s - s0)) := ⟨i, by omega, by rw [← k1 i (by omega)]; exact ei⟩
    have same : ∀ z, PER (nx t n m1 m2 w) z → (VV s0 q0 z ↔ VV s q z) := by
      intro z hz
      refine ⟨mono z, ?_⟩
      rintro ⟨j, hj, ez⟩
      by_cases g2 : j < s0
      · exact ⟨j, g2, by rw [← k1 j g2]; exact ez⟩
      · rw [k2 j (by omega) hj] at ez
        refine per_closed hclo hz (i := s - j) ?_
        rw [← ez, ← XO_add, show j - s0 + (s - j) = s - s0 by omega]
        exact old
    rw [CG_c (P := fun a b => VV s0 q0 (a, b) ∧ PM (nx t n m1 m2 w) (a, b)) (Q := fun a b => VV s q (a, b) ∧ PM (nx t n m1 m2 w) (a, b)) (fun a b => ⟨fun ⟨u, v⟩ => ⟨(same _ v.1).mp u, v⟩, fun ⟨u, v⟩ => ⟨(same _ v.1).mpr u, v⟩⟩), CG_c (P := fun a b => VV s0 q0 (a, b) ∧ PER (nx t n m1 m2 w) (a, b)) (Q := fun a b => VV s q (a, b) ∧ PER (nx t n m1 m2 w) (a, b)) (fun a b => ⟨fun ⟨u, v⟩ => ⟨(same _ v).mp u, v⟩, fun ⟨u, v⟩ => ⟨(same _ v).mpr u, v⟩⟩)]
  · -- a new ring
    rw [if_neg (fun z => g (c1.mp z))]
    have his : s0 ≤ i := by omega
    have ec : q i = XO (nx t n m1 m2 w) x (i - s0) := k2 i his hi
    have ecyc : XO (nx t n m1 m2 w) (q i) (s - i) = q i := by
      rw [ec, ← XO_add, show i - s0 + (s - i) = s - s0 by omega, ← ei, ec]
    have at_ : ∀ j, j < s - i → XO (nx t n m1 m2 w) (q i) j = q (i + j) := by
      intro j hj
      rw [ec, ← XO_add, k2 (i + j) (by omega) (by omega)]
      congr 1
      omega
    have cycin : ∀ j, ∃ j', j' < s - i ∧ XO (nx t n m1 m2 w) (q i) j = q (i + j') := by
      intro j
      refine ⟨j % (s - i), Nat.mod_lt _ (by omega), ?_⟩
      have e1 := Nat.div_add_mod j (s - i)
      have e2 := XO_add (nx t n m1 m2 w) (q i) ((s - i) * (j / (s - i))) (j % (s - i))
      rw [e1, per_mul ecyc] at e2
      rw [e2, at_ _ (Nat.mod_lt _ (by omega))]
    obtain ⟨r1, r2⟩ := ring_count (f := nx t n m1 m2 w) (c := q i) (L := s - i) (by omega) ecyc (fun a b hab hb2 => by
      rw [at_ a (by omega), at_ b hb2]
      exact hQ.2.2.1 _ _ (by omega) (by omega)) (fun j => by
      obtain ⟨j', h1, h2⟩ := cycin j
      rw [h2]
      have := REG_box h (hQ.2.1 (i + j') (by omega)).1
      omega) (V := VV s0 q0) (V' := VV s q) (fun j => by
      obtain ⟨j', h1, h2⟩ := cycin j
      rw [h2]
      rintro ⟨j2, h3, h4⟩
      rw [← k1 j2 h3] at h4
      exact hQ.2.2.1 j2 (i + j') (by omega) (by omega) h4) (fun z hz => by
      constructor
      · rintro ⟨j, hj, ez⟩
        by_cases g2 : j < s0
        · exact Or.inl ⟨j, g2, by rw [← k1 j g2]; exact ez⟩
        · right
          -- what is periodic on the new path is in the ring
          have cyc : ∀ z, (∃ j, j < s - i ∧ z = XO (nx t n m1 m2 w) (q i) j) → ∃ j, j < s - i ∧ nx t n m1 m2 w z = XO (nx t n m1 m2 w) (q i) j := by
            rintro z ⟨j, hj, rfl⟩
            obtain ⟨j', h1, h2⟩ := cycin (j + 1)
            exact ⟨j', h1, by rw [at_ j' h1, ← h2]; rfl⟩
          refine per_closed (A := fun z => ∃ j, j < s - i ∧ z = XO (nx t n m1 m2 w) (q i) j) cyc hz (i := s - j) ?_
          refine ⟨0, by omega, ?_⟩
          rw [k2 j (by omega) hj] at ez
          rw [← ez, ← XO_add, show j - s0 + (s - j) = s - s0 by omega, ← ei]
          rfl
      · rintro (g2 | ⟨j, hj, ez⟩)
        · exact mono z g2
        · rw [at_ j hj] at ez
          exact ⟨i + j, by omega, ez.symm⟩)
    have e1 : io (s : Int) + 1 - io ((i : Int) + 1) = io ((s - i : Nat) : Int) := by
      rw [io_1, io_sub, show (s : Int) + 1 - ((i : Int) + 1) = ((s - i : Nat) : Int) by omega]
    rw [e1, io_1, io_add, r1, r2]
