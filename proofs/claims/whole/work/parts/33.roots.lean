/-! roots: both count the same list -/
def FR {σ : Type} (g : σ → Int → σ) (l : Int) : Nat → σ → σ
  | 0, s => s
  | n + 1, s => g (FR g l n s) (l + (n : Int))
theorem FR_id {σ : Type} {g : σ → Int → σ} {l : Int} : ∀ (n : Nat) (s : σ), (∀ (i : Nat) (s : σ), i < n → g s (l + (i : Int)) = s) → FR g l n s = s := by
  intro n
  induction n with
  | zero => intro s h; rfl
  | succ n ih =>
    intro s h
    unfold FR
    rw [ih s (fun i s hi => h i s (by omega)), h n s (by omega)]
theorem FR_add {σ : Type} {g : σ → Int → σ} {l : Int} (m : Nat) : ∀ (n : Nat) (s : σ), FR g l (m + n) s = FR g (l + (m : Int)) n (FR g l m s) := by
  intro n
  induction n with
  | zero => intro s; rfl
  | succ n ih =>
    intro s
    show g (FR g l (m + n) s) (l + ((m + n : Nat) : Int)) = g (FR g (l + (m : Int)) n (FR g l m s)) (l + (m : Int) + (n : Int))
    rw [ih s]
    congr 1
    omega
theorem FR_mid {σ : Type} {g : σ → Int → σ} (h : ∀ (s : σ) (b : Int), b < -20 ∨ 20 < b → g s b = s) (s : σ) : FR g (-45) 91 s = FR g (-20) 41 s := by
  have e1 : FR g (-45) (25 + 66) s = FR g (-45 + ((25 : Nat) : Int)) 66 (FR g (-45) 25 s) := FR_add 25 66 s
  have e2 : FR g (-45) 25 s = s := FR_id 25 s (fun i s hi => h s _ (by omega))
  have e3 : FR g (-20) (41 + 25) s = FR g (-20 + ((41 : Nat) : Int)) 25 (FR g (-20) 41 s) := FR_add 41 25 s
  have e4 : FR g (-20 + ((41 : Nat) : Int)) 25 (FR g (-20) 41 s) = FR g (-20) 41 s := FR_id 25 _ (fun i s hi => h s _ (by omega))
  rw [e2] at e1
  rw [e4] at e3
  exact e1.trans e3
theorem FR_cnt {τ : Type} {g : Int × τ → Int → Int × τ} {K : Int} (h : ∀ s b, s.1 ≤ (g s b).1 ∧ (g s b).1 ≤ s.1 + K) (l : Int) : ∀ (n : Nat) (s : Int × τ), s.1 ≤ (FR g l n s).1 ∧ (FR g l n s).1 ≤ s.1 + (n : Int) * K := by
  intro n
  induction n with
  | zero => intro s; exact ⟨Int.le_refl _, by show s.1 ≤ _; omega⟩
  | succ n ih =>
    intro s
    have h1 := ih s
    have h2 := h (FR g l n s) (l + (n : Int))
    have e : ((n + 1 : Nat) : Int) * K = (n : Int) * K + K := by
      have : ((n + 1 : Nat) : Int) = (n : Int) + 1 := rfl
      rw [this, Int.add_mul, Int.one_mul]
    rw [e]
    show s.1 ≤ (g (FR g l n s) (l + (n : Int))).1 ∧ (g (FR g l n s) (l + (n : Int))).1 ≤ _
    omega
def RtP (t n x1 x2 c d a b : Int) : Prop := (rA t n a b c d = a ∧ rB t n a b c d = b) ∧ rA t n (mA n a b a b) (mB t a b a b) c d = rA t n x1 x2 c d ∧ rB t n (mA n a b a b) (mB t a b a b) c d = rB t n x1 x2 c d
noncomputable def rstp (t n x1 x2 c d rank : Int) (a : Int) (s : Int × Option (Int × Int)) (b : Int) : Int × Option (Int × Int) := @ite _ (RtP t n x1 x2 c d a b) (Classical.propDecidable _) (s.1 + 1, if s.1 = rank then some (a, b) else s.2) s
theorem rstp_cnt (t n x1 x2 c d rank a : Int) (s : Int × Option (Int × Int)) (b : Int) : s.1 ≤ (rstp t n x1 x2 c d rank a s b).1 ∧ (rstp t n x1 x2 c d rank a s b).1 ≤ s.1 + 1 := by
  unfold rstp
  split <;> constructor <;> (try dsimp only) <;> omega
def fd (f0 : Int64) (o : Option (Int × Int)) : Int64 := match o with | none => f0 | some p => pk p.1 p.2
def fdA (f0 : Int64) (o : Option (Int × Int)) : Int64 := match o with | none => f0 | some p => lo p.1
def fdB (f0 : Int64) (o : Option (Int × Int)) : Int64 := match o with | none => f0 | some p => lo p.2
noncomputable def row7 (t n x1 x2 c d rank : Int) (s : Int × Option (Int × Int)) (a : Int) : Int × Option (Int × Int) := FR (rstp t n x1 x2 c d rank a) (-20) 41 s
noncomputable def row8 (t n x1 x2 c d rank : Int) (s : Int × Option (Int × Int)) (a : Int) : Int × Option (Int × Int) := FR (rstp t n x1 x2 c d rank a) (-45) 91 s
theorem row_eq {t n x1 x2 c d : Int} (h : TN t n) (hS : 0 < sz t n c d) (hm : sz t n c d ≤ 400) (rank : Int) : row8 t n x1 x2 c d rank = row7 t n x1 x2 c d rank := by
  funext s a
  unfold row8 row7
  refine FR_mid (fun s b hb => ?_) s
  unfold rstp
  rw [if_neg]
  rintro ⟨⟨-, e⟩, -⟩
  have := (rest_20 (a := a) (b := b) h hS hm).2
  omega
theorem all_eq {t n x1 x2 c d : Int} (h : TN t n) (hS : 0 < sz t n c d) (hm : sz t n c d ≤ 400) (rank : Int) (s : Int × Option (Int × Int)) : FR (row8 t n x1 x2 c d rank) (-45) 91 s = FR (row7 t n x1 x2 c d rank) (-20) 41 s := by
  rw [row_eq h hS hm]
  refine FR_mid (fun s a ha => ?_) s
  unfold row7
  refine FR_id 41 s (fun i s hi => ?_)
  unfold rstp
  rw [if_neg]
  rintro ⟨⟨e, -⟩, -⟩
  have := (rest_20 (a := a) (b := -20 + (i : Int)) h hS hm).1
  omega
theorem sq_small {k : Nat} {a b : Int} (ha : -45 ≤ a ∧ a ≤ 45) (hb : -45 ≤ b ∧ b ≤ 45) : (-20000 ≤ mA (kN k) a b a b ∧ mA (kN k) a b a b ≤ 20000) ∧ -20000 ≤ mB (kT k) a b a b ∧ mB (kT k) a b a b ≤ 20000 := by
  have m1 := mul_b ha.1 ha.2 ha.1 ha.2
  have m2 := mul_b hb.1 hb.2 hb.1 hb.2
  have m3 := mul_b ha.1 ha.2 hb.1 hb.2
  have m4 := mul_b hb.1 hb.2 ha.1 ha.2
  obtain ⟨⟨t1, t2⟩, n1, n2⟩ := kTN_b k
  have ht : kT k = -1 ∨ kT k = 0 ∨ kT k = 1 := by omega
  have hn : kN k = 1 ∨ kN k = 2 ∨ kN k = 3 := by omega
  unfold mA mB
  generalize kT k = t at *
  generalize kN k = n at *
  generalize a * a = A at *
  generalize b * b = B at *
  generalize a * b = C at *
  generalize b * a = D at *
  rcases ht with rfl | rfl | rfl <;> rcases hn with rfl | rfl | rfl <;> (refine ⟨⟨?_, ?_⟩, ?_, ?_⟩ <;> omega)
theorem io_of_sum (a : Int) (i : Nat) : io (a + (i : Int)) + (1 : Int32) = io (a + ((i + 1 : Nat) : Int)) := by
  rw [io_1]
  congr 1
  omega
theorem lo_of_sum (a : Int) (i : Nat) : lo (a + (i : Int)) + (1 : Int64) = lo (a + ((i + 1 : Nat) : Int)) := by
  have : lo (a + (i : Int)) + (1 : Int64) = lo (a + (i : Int) + 1) := lo_add _ 1
  rw [this]
  congr 1
  omega
theorem ri7 {k : Nat} (hk : k < 5) {x1 x2 c d : Int} (h1 : rng x1) (h2 : rng x2) (hc : rng c) (hd : rng d) (hS : 0 < sz (kT k) (kN k) c d) {a : Int} (ha : -20 ≤ a ∧ a ≤ 20) {rank : Int} (hr : i32 rank) (s : Int × Option (Int × Int)) (hs : 0 ≤ s.1 ∧ s.1 ≤ 10000) (f0 : Int64) : whl (f_X6_findRoots_L18 (io (kT k)) (io (kN k)) (pk x1 x2) (pk c d) (io rank) (io a)) (io s.1, (-20 : Int32), fd f0 s.2) = some (io (row7 (kT k) (kN k) x1 x2 c d rank s a).1, fd f0 (row7 (kT k) (kN k) x1 x2 c d rank s a).2) := by
  have h := TN_k hk
  have key : ∃ r, whl (f_X6_findRoots_L18 (io (kT k)) (io (kN k)) (pk x1 x2) (pk c d) (io rank) (io a)) (io s.1, (-20 : Int32), fd f0 s.2) = some r ∧ r = (io (row7 (kT k) (kN k) x1 x2 c d rank s a).1, fd f0 (row7 (kT k) (kN k) x1 x2 c d rank s a).2) := by
    refine whl_for (b := f_X6_findRoots_L18 (io (kT k)) (io (kN k)) (pk x1 x2) (pk c d) (io rank) (io a)) 41 (fun i z => z.1 = io (FR (rstp (kT k) (kN k) x1 x2 c d rank a) (-20) i s).1 ∧ z.2.1 = io (-20 + (i : Int)) ∧ z.2.2 = fd f0 (FR (rstp (kT k) (kN k) x1 x2 c d rank a) (-20) i s).2) (fun r => r = (io (row7 (kT k) (kN k) x1 x2 c d rank s a).1, fd f0 (row7 (kT k) (kN k) x1 x2 c d rank s a).2)) ?_ ?_ 0 _ (by omega) ⟨rfl, rfl, rfl⟩
    · rintro i ⟨z1, z2, z3⟩ hi ⟨e1, e2, e3⟩
      dsimp only at e1 e2 e3
      have hcnt := FR_cnt (K := 1) (rstp_cnt (kT k) (kN k) x1 x2 c d rank a) (-20) i s
      have hst : FR (rstp (kT k) (kN k) x1 x2 c d rank a) (-20) (i + 1) s = rstp (kT k) (kN k) x1 x2 c d rank a (FR (rstp (kT k) (kN k) x1 x2 c d rank a) (-20) i s) (-20 + (i : Int)) := rfl
      rw [hst]
      generalize FR (rstp (kT k) (kN k) x1 x2 c d rank a) (-20) i s = S0 at *
      have c1 : ¬ ((20 : Int32) < io (-20 + (i : Int))) := fun e => by
        have := (io_lt (a := 20) (by unfold i32; omega) (by unfold i32; omega)).mp e
        omega
      have hb : -20 ≤ -20 + (i : Int) ∧ -20 + (i : Int) ≤ 20 := by omega
      have eb := io_of_sum (-20) i
      rw [← eb]
      generalize -20 + (i : Int) = b at *
      obtain ⟨m1, m2⟩ := sq_small (k := k) (a := a) (b := b) (by omega) (by omega)
      have N7 : f_X4_number (io a).toInt64 (io b).toInt64 = pk a b := by
        rw [io_w (by unfold i32; omega), io_w (by unfold i32; omega)]
        rfl
      have T7 : f_X4_less (f_X4_times (io (kT k)) (io (kN k)) (pk a b) (pk a b)) (pk x1 x2) = pk (mA (kN k) a b a b - x1) (mB (kT k) a b a b - x2) := by
        rw [times_k (kT_i k) (kN_i k) (by unfold i32; omega) (by unfold i32; omega) (by unfold i32; omega) (by unfold i32; omega), less_pk (by unfold i32; omega) (by unfold i32; omega) h1.i h2.i]
      have hsr := same_rest (t := kT k) (n := kN k) (a := mA (kN k) a b a b) (b := mB (kT k) a b a b) (x := x1) (y := x2) hS
      have hse := self_rest (t := kT k) (n := kN k) (a := a) (b := b) h hS
      have xa : xb a := by unfold xb; omega
      have xB : xb b := by unfold xb; omega
      have hq := q7 h xa xB hc.y hd.y hS
      obtain ⟨q1, q2⟩ := NQ_i h xa xB hc.y hd.y hS
      have hq0 := pk_z q1 q2
      have hrk : io S0.1 = io rank ↔ S0.1 = rank := io_eq (by unfold i32; omega) hr
      unfold f_X6_findRoots_L18
      dsimp only
      rw [e1, e2, e3, if_neg c1, N7, T7]
      unfold rstp
      rcases part7 h (a := mA (kN k) a b a b - x1) (b := mB (kT k) a b a b - x2) (by unfold xb rng at *; omega) (by unfold xb rng at *; omega) hc.y hd.y hS with ⟨g, e⟩ | ⟨g, e⟩
      · rw [e]
        simp only [Option.bind_some]
        rw [if_neg (by decide), hq]
        simp only [Option.bind_some]
        by_cases y : (NQ (kT k) (kN k) a b c d).1 = 0 ∧ (NQ (kT k) (kN k) a b c d).2 = 0
        · have yes : RtP (kT k) (kN k) x1 x2 c d a b := ⟨hse.mp y, hsr.mp g⟩
          rw [if_pos (hq0.mpr y), if_pos yes]
          by_cases w : S0.1 = rank
          · rw [if_pos (hrk.mpr w)]
            refine ⟨_, rfl, ?_, rfl, ?_⟩
            · exact io_1 _
            · dsimp only
              rw [if_pos w]
              rfl
          · rw [if_neg (fun e => w (hrk.mp e))]
            refine ⟨_, rfl, ?_, rfl, ?_⟩
            · exact io_1 _
            · dsimp only
              rw [if_neg w]
        · have no : ¬ RtP (kT k) (kN k) x1 x2 c d a b := fun e => y (hse.mpr e.1)
          rw [if_neg (fun e => y (hq0.mp e)), if_neg no]
          exact ⟨_, rfl, rfl, rfl, rfl⟩
      · have no : ¬ RtP (kT k) (kN k) x1 x2 c d a b := fun e => g (hsr.mpr e.2)
        rw [e]
        simp only [Option.bind_some]
        rw [if_pos trivial, if_neg no]
        exact ⟨_, rfl, rfl, rfl, rfl⟩
    · rintro ⟨z1, z2, z3⟩ ⟨e1, e2, e3⟩
      dsimp only at e1 e2 e3
      unfold f_X6_findRoots_L18
      dsimp only
      rw [e1, e2, e3, if_pos (by decide)]
      exact ⟨_, rfl, rfl⟩
  obtain ⟨r, e, hr⟩ := key
  rw [e, hr]
theorem ro7 {k : Nat} (hk : k < 5) {x1 x2 c d : Int} (h1 : rng x1) (h2 : rng x2) (hc : rng c) (hd : rng d) (hS : 0 < sz (kT k) (kN k) c d) {rank : Int} (hr : i32 rank) (f0 : Int64) : f_X6_findRoots (io (kT k)) (io (kN k)) f0 (pk x1 x2) (pk c d) (io rank) = some (io (FR (row7 (kT k) (kN k) x1 x2 c d rank) (-20) 41 (0, none)).1, fd f0 (FR (row7 (kT k) (kN k) x1 x2 c d rank) (-20) 41 (0, none)).2) := by
  have key : ∃ r, whl (f_X6_findRoots_L7 (io (kT k)) (io (kN k)) (pk x1 x2) (pk c d) (io rank)) ((0 : Int32), (-20 : Int32), f0) = some r ∧ r = (io (FR (row7 (kT k) (kN k) x1 x2 c d rank) (-20) 41 (0, none)).1, fd f0 (FR (row7 (kT k) (kN k) x1 x2 c d rank) (-20) 41 (0, none)).2) := by
    refine whl_for (b := f_X6_findRoots_L7 (io (kT k)) (io (kN k)) (pk x1 x2) (pk c d) (io rank)) 41 (fun i z => z.1 = io (FR (row7 (kT k) (kN k) x1 x2 c d rank) (-20) i (0, none)).1 ∧ z.2.1 = io (-20 + (i : Int)) ∧ z.2.2 = fd f0 (FR (row7 (kT k) (kN k) x1 x2 c d rank) (-20) i (0, none)).2) (fun r => r = (io (FR (row7 (kT k) (kN k) x1 x2 c d rank) (-20) 41 (0, none)).1, fd f0 (FR (row7 (kT k) (kN k) x1 x2 c d rank) (-20) 41 (0, none)).2)) ?_ ?_ 0 _ (by omega) ⟨rfl, rfl, rfl⟩
    · rintro i ⟨z1, z2, z3⟩ hi ⟨e1, e2, e3⟩
      dsimp only at e1 e2 e3
      have hcnt := FR_cnt (K := 41) (g := row7 (kT k) (kN k) x1 x2 c d rank) (fun s b => FR_cnt (K := 1) (rstp_cnt (kT k) (kN k) x1 x2 c d rank b) (-20) 41 s) (-20) i (0, none)
      have hst : FR (row7 (kT k) (kN k) x1 x2 c d rank) (-20) (i + 1) (0, none) = row7 (kT k) (kN k) x1 x2 c d rank (FR (row7 (kT k) (kN k) x1 x2 c d rank) (-20) i (0, none)) (-20 + (i : Int)) := rfl
      rw [hst]
      dsimp only at hcnt
      generalize FR (row7 (kT k) (kN k) x1 x2 c d rank) (-20) i (0, none) = S0 at *
      have c1 : ¬ ((20 : Int32) < io (-20 + (i : Int))) := fun e => by
        have := (io_lt (a := 20) (by unfold i32; omega) (by unfold i32; omega)).mp e
        omega
      unfold f_X6_findRoots_L7 f_X6_findRoots_K18_99
      dsimp only
      rw [e1, e2, e3, if_neg c1, ri7 hk h1 h2 hc hd hS (by omega) hr S0 (by omega) f0]
      refine ⟨_, rfl, rfl, ?_, rfl⟩
      exact io_of_sum (-20) i
    · rintro ⟨z1, z2, z3⟩ ⟨e1, e2, e3⟩
      dsimp only at e1 e2 e3
      unfold f_X6_findRoots_L7
      dsimp only
      rw [e1, e2, e3, if_pos (by decide)]
      exact ⟨_, rfl, rfl⟩
  obtain ⟨r, e, hr⟩ := key
  unfold f_X6_findRoots f_X6_findRoots_K7_105
  rw [e, hr]
  rfl
theorem ri8 {k : Nat} (hk : k < 5) {x1 x2 c d : Int} (hc : rng c) (hd : rng d) (hS : 0 < sz (kT k) (kN k) c d) (hM : sz (kT k) (kN k) c d ≤ 400) {v : Int32} (s3 : ¬ (v < 0 ∨ 8 ≤ v.toNatClampNeg)) {gA gB : Nat → Int64} (s5 : gA v.toNatClampNeg = lo c) (s6 : gB v.toNatClampNeg = lo d) {a : Int} (ha : -45 ≤ a ∧ a ≤ 45) {rank : Int} (hr : i32 rank) (s : Int × Option (Int × Int)) (hs : 0 ≤ s.1 ∧ s.1 ≤ 10000) (f0 g0 y1 y2 y3 y4 : Int64) : ∃ r, whl (f_X8_rootsOf_L55 (lo (kT k)) (lo (kN k)) gA gB v (io rank) (lo (rA (kT k) (kN k) x1 x2 c d)) (lo (rB (kT k) (kN k) x1 x2 c d)) (lo a)) (io s.1, (-45 : Int64), y1, y2, y3, y4, fdA f0 s.2, fdB g0 s.2) = some r ∧ r.1 = io (row8 (kT k) (kN k) x1 x2 c d rank s a).1 ∧ r.2.2.2.2.2.1 = fdA f0 (row8 (kT k) (kN k) x1 x2 c d rank s a).2 ∧ r.2.2.2.2.2.2 = fdB g0 (row8 (kT k) (kN k) x1 x2 c d rank s a).2 := by
  have h := TN_k hk
  refine whl_for (b := f_X8_rootsOf_L55 (lo (kT k)) (lo (kN k)) gA gB v (io rank) (lo (rA (kT k) (kN k) x1 x2 c d)) (lo (rB (kT k) (kN k) x1 x2 c d)) (lo a)) 91 (fun i z => z.1 = io (FR (rstp (kT k) (kN k) x1 x2 c d rank a) (-45) i s).1 ∧ z.2.1 = lo (-45 + (i : Int)) ∧ z.2.2.2.2.2.2.1 = fdA f0 (FR (rstp (kT k) (kN k) x1 x2 c d rank a) (-45) i s).2 ∧ z.2.2.2.2.2.2.2 = fdB g0 (FR (rstp (kT k) (kN k) x1 x2 c d rank a) (-45) i s).2) (fun r => r.1 = io (row8 (kT k) (kN k) x1 x2 c d rank s a).1 ∧ r.2.2.2.2.2.1 = fdA f0 (row8 (kT k) (kN k) x1 x2 c d rank s a).2 ∧ r.2.2.2.2.2.2 = fdB g0 (row8 (kT k) (kN k) x1 x2 c d rank s a).2) ?_ ?_ 0 _ (by omega) ⟨rfl, rfl, rfl, rfl⟩
  · rintro i ⟨z1, z2, z3, z4, z5, z6, z7, z8⟩ hi ⟨e1, e2, e3, e4⟩
    dsimp only at e1 e2 e3 e4
    have hcnt := FR_cnt (K := 1) (rstp_cnt (kT k) (kN k) x1 x2 c d rank a) (-45) i s
    have hst : FR (rstp (kT k) (kN k) x1 x2 c d rank a) (-45) (i + 1) s = rstp (kT k) (kN k) x1 x2 c d rank a (FR (rstp (kT k) (kN k) x1 x2 c d rank a) (-45) i s) (-45 + (i : Int)) := rfl
    rw [hst]
    generalize FR (rstp (kT k) (kN k) x1 x2 c d rank a) (-45) i s = S0 at *
    have c1 : ¬ ((45 : Int64) < lo (-45 + (i : Int))) := fun e => by
      have := (lo_lt (a := 45) (by unfold i64; omega) (by unfold i64; omega)).mp e
      omega
    have hb : -45 ≤ -45 + (i : Int) ∧ -45 + (i : Int) ≤ 45 := by omega
    have eb := lo_of_sum (-45) i
    rw [← eb]
    generalize -45 + (i : Int) = b at *
    have xa : xb a := by unfold xb; omega
    have xB : xb b := by unfold xb; omega
    have ca : cb a := by unfold cb; omega
    have cB : cb b := by unfold cb; omega
    have R8 := red8 h xa xB hc hd hS s3 s5 s6 z5 z6
    obtain ⟨w1, w2, T8⟩ := tr8 hk ca cB ca cB hc hd hS s3 s5 s6 (lo (NQ (kT k) (kN k) a b c d).1) (lo (NQ (kT k) (kN k) a b c d).2)
    have r1 := rest_20 (a := a) (b := b) h hS hM
    have r2 := rest_20 (a := mA (kN k) a b a b) (b := mB (kT k) a b a b) h hS hM
    have r3 := rest_20 (a := x1) (b := x2) h hS hM
    have i1 : lo (rA (kT k) (kN k) a b c d) = lo a ↔ _ := lo_eq (by unfold i64; omega) (by unfold i64; omega)
    have i2 : lo (rB (kT k) (kN k) a b c d) = lo b ↔ _ := lo_eq (by unfold i64; omega) (by unfold i64; omega)
    have i3 : lo (rA (kT k) (kN k) (mA (kN k) a b a b) (mB (kT k) a b a b) c d) = lo (rA (kT k) (kN k) x1 x2 c d) ↔ _ := lo_eq (by unfold i64; omega) (by unfold i64; omega)
    have i4 : lo (rB (kT k) (kN k) (mA (kN k) a b a b) (mB (kT k) a b a b) c d) = lo (rB (kT k) (kN k) x1 x2 c d) ↔ _ := lo_eq (by unfold i64; omega) (by unfold i64; omega)
    have hrk : io S0.1 = io rank ↔ S0.1 = rank := io_eq (by unfold i32; omega) hr
    unfold f_X8_rootsOf_L55 f_X8_put_mod_a f_X8_put_mod_b
    dsimp only
    rw [e1, e2, e3, e4, if_neg c1, R8]
    simp only [Option.bind_some]
    unfold rstp
    by_cases g1 : rA (kT k) (kN k) a b c d = a
    · rw [if_pos (i1.mpr g1)]
      by_cases g2 : rB (kT k) (kN k) a b c d = b
      · rw [if_pos (i2.mpr g2), T8]
        simp only [Option.bind_some]
        by_cases g3 : rA (kT k) (kN k) (mA (kN k) a b a b) (mB (kT k) a b a b) c d = rA (kT k) (kN k) x1 x2 c d
        · rw [if_pos (i3.mpr g3)]
          by_cases g4 : rB (kT k) (kN k) (mA (kN k) a b a b) (mB (kT k) a b a b) c d = rB (kT k) (kN k) x1 x2 c d
          · rw [if_pos (i4.mpr g4)]
            have yes : RtP (kT k) (kN k) x1 x2 c d a b := ⟨⟨g1, g2⟩, g3, g4⟩
            rw [if_pos yes]
            by_cases w : S0.1 = rank
            · rw [if_pos (hrk.mpr w)]
              refine ⟨_, rfl, io_1 _, rfl, ?_, ?_⟩ <;> dsimp only <;> rw [if_pos w] <;> rfl
            · rw [if_neg (fun e => w (hrk.mp e))]
              refine ⟨_, rfl, io_1 _, rfl, ?_, ?_⟩ <;> dsimp only <;> rw [if_neg w]
          · rw [if_neg (fun e => g4 (i4.mp e)), if_neg (fun e => g4 e.2.2)]
            exact ⟨_, rfl, rfl, rfl, rfl, rfl⟩
        · rw [if_neg (fun e => g3 (i3.mp e)), if_neg (fun e => g3 e.2.1)]
          exact ⟨_, rfl, rfl, rfl, rfl, rfl⟩
      · rw [if_neg (fun e => g2 (i2.mp e)), if_neg (fun e => g2 e.1.2)]
        exact ⟨_, rfl, rfl, rfl, rfl, rfl⟩
    · rw [if_neg (fun e => g1 (i1.mp e)), if_neg (fun e => g1 e.1.1)]
      exact ⟨_, rfl, rfl, rfl, rfl, rfl⟩
  · rintro ⟨z1, z2, z3, z4, z5, z6, z7, z8⟩ ⟨e1, e2, e3, e4⟩
    dsimp only at e1 e2 e3 e4
    unfold f_X8_rootsOf_L55
    dsimp only
    rw [e2, if_pos (by decide)]
    exact ⟨_, rfl, e1, e3, e4⟩
theorem ro8 {k : Nat} (hk : k < 5) {x1 x2 c d : Int} (h1 : rng x1) (h2 : rng x2) (hc : rng c) (hd : rng d) (hS : 0 < sz (kT k) (kN k) c d) (hM : sz (kT k) (kN k) c d ≤ 400) {v u : Int32} (q3 : ¬ (u < 0 ∨ 8 ≤ u.toNatClampNeg)) (s3 : ¬ (v < 0 ∨ 8 ≤ v.toNatClampNeg)) {gA gB : Nat → Int64} (q5 : gA u.toNatClampNeg = lo x1) (q6 : gB u.toNatClampNeg = lo x2) (s5 : gA v.toNatClampNeg = lo c) (s6 : gB v.toNatClampNeg = lo d) {rank : Int} (hr : i32 rank) (f0 g0 y1 y2 y3 y4 : Int64) : ∃ z1 z2 z3 z4, f_X8_rootsOf (lo (kT k)) (lo (kN k)) y1 y2 y3 y4 f0 g0 gA gB u v (io rank) = some (io (FR (row7 (kT k) (kN k) x1 x2 c d rank) (-20) 41 (0, none)).1, z1, z2, z3, z4, fdA f0 (FR (row7 (kT k) (kN k) x1 x2 c d rank) (-20) 41 (0, none)).2, fdB g0 (FR (row7 (kT k) (kN k) x1 x2 c d rank) (-20) 41 (0, none)).2) := by
  have h := TN_k hk
  have key : ∃ r, whl (f_X8_rootsOf_L41 (lo (kT k)) (lo (kN k)) gA gB v (io rank) (lo (rA (kT k) (kN k) x1 x2 c d)) (lo (rB (kT k) (kN k) x1 x2 c d))) ((0 : Int32), (-45 : Int64), lo (rA (kT k) (kN k) x1 x2 c d), lo (rB (kT k) (kN k) x1 x2 c d), lo (NQ (kT k) (kN k) x1 x2 c d).1, lo (NQ (kT k) (kN k) x1 x2 c d).2, f0, g0) = some r ∧ (r.1 = io (FR (row8 (kT k) (kN k) x1 x2 c d rank) (-45) 91 (0, none)).1 ∧ r.2.2.2.2.2.1 = fdA f0 (FR (row8 (kT k) (kN k) x1 x2 c d rank) (-45) 91 (0, none)).2 ∧ r.2.2.2.2.2.2 = fdB g0 (FR (row8 (kT k) (kN k) x1 x2 c d rank) (-45) 91 (0, none)).2) := by
    refine whl_for (b := f_X8_rootsOf_L41 (lo (kT k)) (lo (kN k)) gA gB v (io rank) (lo (rA (kT k) (kN k) x1 x2 c d)) (lo (rB (kT k) (kN k) x1 x2 c d))) 91 (fun i z => z.1 = io (FR (row8 (kT k) (kN k) x1 x2 c d rank) (-45) i (0, none)).1 ∧ z.2.1 = lo (-45 + (i : Int)) ∧ z.2.2.2.2.2.2.1 = fdA f0 (FR (row8 (kT k) (kN k) x1 x2 c d rank) (-45) i (0, none)).2 ∧ z.2.2.2.2.2.2.2 = fdB g0 (FR (row8 (kT k) (kN k) x1 x2 c d rank) (-45) i (0, none)).2) (fun r => r.1 = io (FR (row8 (kT k) (kN k) x1 x2 c d rank) (-45) 91 (0, none)).1 ∧ r.2.2.2.2.2.1 = fdA f0 (FR (row8 (kT k) (kN k) x1 x2 c d rank) (-45) 91 (0, none)).2 ∧ r.2.2.2.2.2.2 = fdB g0 (FR (row8 (kT k) (kN k) x1 x2 c d rank) (-45) 91 (0, none)).2) ?_ ?_ 0 _ (by omega) ⟨rfl, rfl, rfl, rfl⟩
    · rintro i ⟨z1, z2, z3, z4, z5, z6, z7, z8⟩ hi ⟨e1, e2, e3, e4⟩
      dsimp only at e1 e2 e3 e4
      have hcnt := FR_cnt (K := 91) (g := row8 (kT k) (kN k) x1 x2 c d rank) (fun s b => FR_cnt (K := 1) (rstp_cnt (kT k) (kN k) x1 x2 c d rank b) (-45) 91 s) (-45) i (0, none)
      have hst : FR (row8 (kT k) (kN k) x1 x2 c d rank) (-45) (i + 1) (0, none) = row8 (kT k) (kN k) x1 x2 c d rank (FR (row8 (kT k) (kN k) x1 x2 c d rank) (-45) i (0, none)) (-45 + (i : Int)) := rfl
      rw [hst]
      dsimp only at hcnt
      generalize FR (row8 (kT k) (kN k) x1 x2 c d rank) (-45) i (0, none) = S0 at *
      have c1 : ¬ ((45 : Int64) < lo (-45 + (i : Int))) := fun e => by
        have := (lo_lt (a := 45) (by unfold i64; omega) (by unfold i64; omega)).mp e
        omega
      obtain ⟨r, g1, g2, g3, g4⟩ := ri8 hk (x1 := x1) (x2 := x2) hc hd hS hM s3 s5 s6 (a := -45 + (i : Int)) (by omega) hr S0 (by omega) f0 g0 z3 z4 z5 z6
      unfold f_X8_rootsOf_L41 f_X8_rootsOf_K55_164
      dsimp only
      rw [e1, e2, e3, e4, if_neg c1, g1]
      refine ⟨_, rfl, g2, ?_, g3, g4⟩
      exact lo_of_sum (-45) i
    · rintro ⟨z1, z2, z3, z4, z5, z6, z7, z8⟩ ⟨e1, e2, e3, e4⟩
      dsimp only at e1 e2 e3 e4
      unfold f_X8_rootsOf_L41
      dsimp only
      rw [e2, if_pos (by decide)]
      exact ⟨_, rfl, e1, e3, e4⟩
  obtain ⟨⟨r1, r2, r3, r4, r5, r6, r7⟩, e, g1, g2, g3⟩ := key
  dsimp only at g1 g2 g3
  rw [all_eq h hS hM] at g1 g2 g3
  refine ⟨r2, r3, r4, r5, ?_⟩
  unfold f_X8_rootsOf f_X8_put_mod_a f_X8_put_mod_b
  rw [if_neg q3, q5, q6, red8 h h1.y.x h2.y.x hc hd hS s3 s5 s6 y3 y4]
  simp only [Option.bind_some]
  rw [e]
  unfold f_X8_rootsOf_K41_173
  simp only [Option.bind_some]
  rw [g1, g2, g3]
/-- the count does not hang on the rank -/
theorem FR_rel {σ τ : Type} {g : σ → Int → σ} {g' : τ → Int → τ} (R : σ → τ → Prop) (h : ∀ s s' b, R s s' → R (g s b) (g' s' b)) (l : Int) : ∀ (n : Nat) (s : σ) (s' : τ), R s s' → R (FR g l n s) (FR g' l n s') := by
  intro n
  induction n with
  | zero => intro s s' hs; exact hs
  | succ n ih => intro s s' hs; exact h _ _ _ (ih s s' hs)
theorem all_cnt (t n x1 x2 c d r r' : Int) : (FR (row7 t n x1 x2 c d r) (-20) 41 (0, none)).1 = (FR (row7 t n x1 x2 c d r') (-20) 41 (0, none)).1 := by
  refine FR_rel (fun (s s' : Int × Option (Int × Int)) => s.1 = s'.1) (fun s s' a hs => ?_) (-20) 41 _ _ rfl
  refine FR_rel (fun (s s' : Int × Option (Int × Int)) => s.1 = s'.1) (fun s s' b hs => ?_) (-20) 41 _ _ hs
  unfold rstp
  by_cases g : RtP t n x1 x2 c d a b
  · rw [if_pos g, if_pos g]
    dsimp only
    omega
  · rw [if_neg g, if_neg g]
    exact hs
/-- the one of that rank is kept, once the count is past it -/
def SOM (r : Int) (s : Int × Option (Int × Int)) (_ : Unit) : Prop := r < s.1 → ∃ a b : Int, rng a ∧ rng b ∧ s.2 = some (a, b)
theorem all_some {t n x1 x2 c d r : Int} (h0 : 0 ≤ r) (h : TN t n) (hS : 0 < sz t n c d) (hM : sz t n c d ≤ 400) (hp : r < (FR (row7 t n x1 x2 c d r) (-20) 41 (0, none)).1) : ∃ a b : Int, rng a ∧ rng b ∧ (FR (row7 t n x1 x2 c d r) (-20) 41 (0, none)).2 = some (a, b) := by
  have key := FR_rel (g := row7 t n x1 x2 c d r) (g' := fun (u : Unit) (_ : Int) => u) (SOM r) (fun s s' a hs => by
    have inner := FR_rel (g := rstp t n x1 x2 c d r a) (g' := fun (u : Unit) (_ : Int) => u) (SOM r) (fun s s' b hs => by
      unfold rstp
      by_cases g : RtP t n x1 x2 c d a b
      · rw [if_pos g]
        intro hlt
        dsimp only at hlt
        by_cases w : s.1 = r
        · refine ⟨a, b, ?_, ?_, ?_⟩
          · have := (rest_20 (a := a) (b := b) h hS hM).1
            rw [g.1.1] at this
            unfold rng; omega
          · have := (rest_20 (a := a) (b := b) h hS hM).2
            rw [g.1.2] at this
            unfold rng; omega
          · dsimp only
            rw [if_pos w]
        · dsimp only
          rw [if_neg w]
          exact hs (by omega)
      · rw [if_neg g]
        exact hs) (-20) 41 s s' hs
    intro e
    exact inner e) (-20) 41 (0, none) () (fun e => by dsimp only at e; omega)
  exact key hp
theorem hm_roots : HM_roots REL := by
  intro cs ms hrel v1 v2
  obtain ⟨k, us, hk, hu, hnet, ht, hn, hm, hr⟩ := id hrel
  have h := TN_k hk
  rcases reg2 hr v1 with ⟨h1, h2⟩ | ⟨a, b, ha, hb, s1, s2, s3, s4, s5, s6⟩
  · exact ⟨(-1, a_rsd_found cs), (-1, a_mod_a ms, a_mod_b ms, a_mod_quotA ms, a_mod_quotB ms, a_mod_rootA ms, a_mod_rootB ms), by simp only [f_X7_roots, h1, ↓reduceIte], by simp only [f_X8_roots, h2, ↓reduceIte], rfl, k, us, hk, hu, hnet, ht, hn, hm, hr⟩
  rcases reg2 hr v2 with ⟨h1, h2⟩ | ⟨c, d, hc, hd, q1, q2, q3, q4, q5, q6⟩
  · exact ⟨(-1, a_rsd_found cs), (-1, a_mod_a ms, a_mod_b ms, a_mod_quotA ms, a_mod_quotB ms, a_mod_rootA ms, a_mod_rootB ms), by simp only [f_X7_roots, s1, h1, ↓reduceIte], by simp only [f_X8_roots, s2, h2, ↓reduceIte], rfl, k, us, hk, hu, hnet, ht, hn, hm, hr⟩
  rcases size_both hk hc hd q3 q5 q6 (m := 400) (by unfold i32; omega) with ⟨-, g7, g8⟩ | ⟨hsz, g7, z, hz, g8⟩
  · have g7' : f_X7_isOfSize (a_net_t cs) (a_net_n cs) (pk c d) (400 : Int32) = 0 := by rw [hnet.1, hnet.2.1]; exact g7
    have g8' : f_X8_isModulus (a_mod_t ms) (a_mod_n ms) (a_regA ms) (a_regB ms) v2 400 = some 0 := by rw [ht, hn]; exact g8
    exact ⟨(-2, a_rsd_found cs), (-2, a_mod_a ms, a_mod_b ms, a_mod_quotA ms, a_mod_quotB ms, a_mod_rootA ms, a_mod_rootB ms), by simp only [f_X7_roots, s1, q1, q3, q4, g7', ↓reduceIte], by simp only [f_X8_roots, s2, q2, g8', Option.bind_some, ↓reduceIte], rfl, k, us, hk, hu, hnet, ht, hn, hm, hr⟩
  have g7' : ¬ f_X7_isOfSize (a_net_t cs) (a_net_n cs) (pk c d) (400 : Int32) = 0 := by rw [hnet.1, hnet.2.1]; exact g7
  have g8' : f_X8_isModulus (a_mod_t ms) (a_mod_n ms) (a_regA ms) (a_regB ms) v2 400 = some z := by rw [ht, hn]; exact g8
  have hS : 0 < sz (kT k) (kN k) c d := by omega
  have e7 := ro7 hk ha hb hc hd hS (rank := 0) (by unfold i32; omega) (a_rsd_found cs)
  obtain ⟨z1, z2, z3, z4, e8⟩ := ro8 hk ha hb hc hd hS hsz.2 s3 q3 s5 s6 q5 q6 (rank := -1) (by unfold i32; omega) (a_mod_rootA ms) (a_mod_rootB ms) (a_mod_a ms) (a_mod_b ms) (a_mod_quotA ms) (a_mod_quotB ms)
  rw [← hnet.1, ← hnet.2.1] at e7
  rw [← ht, ← hn] at e8
  change f_X6_findRoots _ _ _ _ _ (0 : Int32) = _ at e7
  change f_X8_rootsOf _ _ _ _ _ _ _ _ _ _ _ _ (-1 : Int32) = _ at e8
  have key : ∃ p q, f_X7_roots (a_net_t cs) (a_net_n cs) (a_reg cs) (a_rsd_found cs) v1 v2 = some p ∧ f_X8_roots (a_mod_t ms) (a_mod_n ms) (a_mod_a ms) (a_mod_b ms) (a_mod_quotA ms) (a_mod_quotB ms) (a_mod_rootA ms) (a_mod_rootB ms) (a_regA ms) (a_regB ms) v1 v2 = some q ∧ p.1 = q.1 := by
    refine ⟨(io _, _), (io _, _, _, _, _, _, _), by
      simp only [f_X7_roots, s1, q1, q3, q4, g7', s3, s4, e7, Option.bind_some, ↓reduceIte]
      try rfl, by
      simp only [f_X8_roots, s2, q2, g8', hz, e8, Option.bind_some, ↓reduceIte]
      try rfl, ?_⟩
    exact congrArg io (all_cnt (kT k) (kN k) a b c d 0 (-1))
  obtain ⟨p, q, a1, a2, a3⟩ := key
  exact ⟨p, q, a1, a2, a3, k, us, hk, hu, hnet, ht, hn, hm, hr⟩
theorem hm_root : HM_root REL := by
  intro cs ms hrel v1 v2 v3 v4
  obtain ⟨k, us, hk, hu, hnet, ht, hn, hm, hr⟩ := id hrel
  have h := TN_k hk
  have key : ∃ p q, f_X7_root (io (kT k)) (io (kN k)) (a_reg cs) (a_rsd_found cs) v1 v2 v3 v4 = some p ∧ f_X8_root (lo (kT k)) (lo (kN k)) (a_mod_a ms) (a_mod_b ms) (a_mod_quotA ms) (a_mod_quotB ms) (a_mod_rootA ms) (a_mod_rootB ms) (a_regA ms) (a_regB ms) v1 v2 v3 v4 = some q ∧ p.1 = q.1 ∧ RG p.2.1 q.2.2.2.2.2.2.2.1 q.2.2.2.2.2.2.2.2 := by
    rcases reg2 hr v1 with ⟨h1, h2⟩ | ⟨a1, b1, -, -, p1, p2, p3, -⟩
    · exact ⟨(-1, a_reg cs, _), (-1, _, _, _, _, _, _, _, _), by simp only [f_X7_root, h1, ↓reduceIte]; rfl, by simp only [f_X8_root, h2, ↓reduceIte]; rfl, rfl, hr⟩
    rcases reg2 hr v2 with ⟨h1, h2⟩ | ⟨a, b, ha, hb, s1, s2, s3, s4, s5, s6⟩
    · exact ⟨(-1, a_reg cs, _), (-1, _, _, _, _, _, _, _, _), by simp only [f_X7_root, p1, h1, ↓reduceIte]; rfl, by simp only [f_X8_root, p2, h2, ↓reduceIte]; rfl, rfl, hr⟩
    rcases reg2 hr v3 with ⟨h1, h2⟩ | ⟨c, d, hc, hd, q1, q2, q3, q4, q5, q6⟩
    · exact ⟨(-1, a_reg cs, _), (-1, _, _, _, _, _, _, _, _), by simp only [f_X7_root, p1, s1, h1, ↓reduceIte]; rfl, by simp only [f_X8_root, p2, s2, h2, ↓reduceIte]; rfl, rfl, hr⟩
    by_cases y1 : 0 ≤ v4
    · rcases size_both hk hc hd q3 q5 q6 (m := 400) (by unfold i32; omega) with ⟨-, g7, g8⟩ | ⟨hsz, g7, z, hz, g8⟩
      · have g7' : f_X7_isOfSize (io (kT k)) (io (kN k)) (pk c d) (400 : Int32) = 0 := g7
        have g8' : f_X8_isModulus (lo (kT k)) (lo (kN k)) (a_regA ms) (a_regB ms) v3 400 = some 0 := g8
        exact ⟨(-2, a_reg cs, _), (-2, _, _, _, _, _, _, _, _), by simp only [f_X7_root, p1, s1, q1, y1, q3, q4, g7', ↓reduceIte]; rfl, by simp only [f_X8_root, p2, s2, q2, y1, g8', Option.bind_some, ↓reduceIte]; rfl, rfl, hr⟩
      have g7' : ¬ f_X7_isOfSize (io (kT k)) (io (kN k)) (pk c d) (400 : Int32) = 0 := g7
      have g8' : f_X8_isModulus (lo (kT k)) (lo (kN k)) (a_regA ms) (a_regB ms) v3 400 = some z := g8
      have hS : 0 < sz (kT k) (kN k) c d := by omega
      obtain ⟨e, he, rfl⟩ : ∃ z, i32 z ∧ v4 = io z := ⟨v4.toInt, io_rng v4, io_of v4⟩
      have e0 : 0 ≤ e := (io_le (a := 0) (by unfold i32; omega) he).mp y1
      have e7 := ro7 hk ha hb hc hd hS (rank := e) he (a_rsd_found cs)
      obtain ⟨z1, z2, z3, z4, e8⟩ := ro8 hk ha hb hc hd hS hsz.2 s3 q3 s5 s6 q5 q6 (rank := e) he (a_mod_rootA ms) (a_mod_rootB ms) (a_mod_a ms) (a_mod_b ms) (a_mod_quotA ms) (a_mod_quotB ms)
      have hsome := fun hp => all_some (x1 := a) (x2 := b) e0 h hS hsz.2 hp
      have hcnt := FR_cnt (K := 41) (g := row7 (kT k) (kN k) a b c d e) (fun s w => FR_cnt (K := 1) (rstp_cnt (kT k) (kN k) a b c d e w) (-20) 41 s) (-20) 41 (0, none)
      dsimp only at hcnt
      have hlt : io e < io (FR (row7 (kT k) (kN k) a b c d e) (-20) 41 (0, none)).1 ↔ _ := io_lt he (by unfold i32; omega)
      generalize FR (row7 (kT k) (kN k) a b c d e) (-20) 41 (0, none) = T at *
      by_cases g : e < T.1
      · obtain ⟨x, y, hx, hy, hT⟩ := hsome g
        have g' := hlt.mpr g
        obtain ⟨w, r', gA', gB', P7, P8, hr'⟩ := put_both p1 p3 hr hx.i hy.i
        rw [hT] at e7 e8
        have P7' : f_X7_put (a_reg cs) v1 (fd (a_rsd_found cs) (some (x, y))) = some (w, r') := P7
        have P8' : f_X8_keep (fdA (a_mod_rootA ms) (some (x, y))) (fdB (a_mod_rootB ms) (some (x, y))) (a_regA ms) (a_regB ms) v1 = some (w, gA', gB') := P8
        exact ⟨(w, r', _), (w, _, _, _, _, _, _, gA', gB'), by
            simp only [f_X7_root, p1, s1, q1, y1, q3, q4, g7', s3, s4, e7, g', P7', Option.bind_some, ↓reduceIte]
            try rfl, by
            simp only [f_X8_root, p2, s2, q2, y1, g8', hz, e8, g', f_X8_put_mod_a, f_X8_put_mod_b, P8', Option.bind_some, ↓reduceIte]
            try rfl, rfl, hr'⟩
      · have g' : ¬ io e < io T.1 := fun x => g (hlt.mp x)
        exact ⟨(-4, a_reg cs, _), (-4, _, _, _, _, _, _, _, _), by
            simp only [f_X7_root, p1, s1, q1, y1, q3, q4, g7', s3, s4, e7, g', Option.bind_some, ↓reduceIte]
            try rfl, by
            simp only [f_X8_root, p2, s2, q2, y1, g8', hz, e8, g', Option.bind_some, ↓reduceIte]
            try rfl, rfl, hr⟩
    · exact ⟨(-1, a_reg cs, _), (-1, _, _, _, _, _, _, _, _), by simp only [f_X7_root, p1, s1, q1, y1, ↓reduceIte]; rfl, by simp only [f_X8_root, p2, s2, q2, y1, ↓reduceIte]; rfl, rfl, hr⟩
  obtain ⟨p, q, e1, e2, e3, e4⟩ := key
  refine ⟨p, q, ?_, ?_, e3, k, us, hk, hu, hnet, ht, hn, hm, e4⟩
  · rw [hnet.1, hnet.2.1]; exact e1
  · rw [ht, hn]; exact e2
