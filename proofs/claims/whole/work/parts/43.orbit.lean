/-! the walk of a number by a base: it comes round in time -/
theorem sz_lam7 {t n : Int} (h : TN t n) (a b c d : Int) : 7 * sz t n (a + c) (b + d) ≤ 56 * sz t n a b + 8 * sz t n c d := by
  have e := sz_nn h (7 * a - c) (7 * b - d)
  have e2 : sz t n (7 * a - c) (7 * b - d) = 56 * sz t n a b + 8 * sz t n c d - 7 * sz t n (a + c) (b + d) := by unfold sz; grind
  omega
theorem sz_lam1 {t n : Int} (h : TN t n) (a b c d : Int) : sz t n (a + c) (b + d) ≤ 2 * sz t n a b + 2 * sz t n c d := by
  have e := sz_nn h (a - c) (b - d)
  have e2 : sz t n (a - c) (b - d) = 2 * sz t n a b + 2 * sz t n c d - sz t n (a + c) (b + d) := by unfold sz; grind
  omega
theorem sz_lam3 {t n : Int} (h : TN t n) (a b c d : Int) : 3 * sz t n (a + c) (b + d) ≤ 4 * sz t n a b + 12 * sz t n c d := by
  have e := sz_nn h (a - 3 * c) (b - 3 * d)
  have e2 : sz t n (a - 3 * c) (b - 3 * d) = 4 * sz t n a b + 12 * sz t n c d - 3 * sz t n (a + c) (b + d) := by unfold sz; grind
  omega
theorem nx_bounds {t n m1 m2 w : Int} (h : BS t n m1 m2 w) (x : Int × Int) : (200 < sz t n x.1 x.2 → 6 * sz t n (nx t n m1 m2 w x).1 (nx t n m1 m2 w x).2 ≤ 5 * sz t n x.1 x.2) ∧ (160 < sz t n x.1 x.2 → 40 * sz t n (nx t n m1 m2 w x).1 (nx t n m1 m2 w x).2 ≤ 39 * sz t n x.1 x.2) ∧ (sz t n x.1 x.2 ≤ 200 → sz t n (nx t n m1 m2 w x).1 (nx t n m1 m2 w x).2 ≤ 200) ∧ (sz t n x.1 x.2 ≤ 160 → sz t n (nx t n m1 m2 w x).1 (nx t n m1 m2 w x).2 ≤ 160) := by
  have e := nx_sz h x
  have hb := dg_b h x
  have hT := h.1
  have hN := h.2.2.2.1
  have i7 := sz_lam7 hT x.1 x.2 (-dg t n m1 m2 w x) 0
  have i1 := sz_lam1 hT x.1 x.2 (-dg t n m1 m2 w x) 0
  have i3 := sz_lam3 hT x.1 x.2 (-dg t n m1 m2 w x) 0
  have eq : sz t n (-dg t n m1 m2 w x) 0 = dg t n m1 m2 w x * dg t n m1 m2 w x := by unfold sz; grind
  have ex : sz t n (x.1 + -dg t n m1 m2 w x) (x.2 + 0) = sz t n (x.1 - dg t n m1 m2 w x) x.2 := by
    rw [Int.add_zero]
    rfl
  rw [eq, ex, ← e] at i7 i1 i3
  have S0 := sz_nn hT x.1 x.2
  have S1 := sz_nn hT (nx t n m1 m2 w x).1 (nx t n m1 m2 w x).2
  generalize sz t n (nx t n m1 m2 w x).1 (nx t n m1 m2 w x).2 = S' at *
  generalize sz t n x.1 x.2 = S at *
  generalize dg t n m1 m2 w x = d at *
  generalize sz t n m1 m2 = N at *
  -- d d <= (top) N by the range of N
  have dd : ∀ K : Int, d ≤ K → d * d ≤ K * N := fun K hK => by
    have := Int.mul_le_mul hK (show d ≤ N by omega) hb.1 (by omega)
    exact this
  have mSN : ∀ c : Int, c ≤ N → c * S ≤ S * N := fun c hc => by
    have := Int.mul_le_mul_of_nonneg_left hc S0
    rw [Int.mul_comm c S]
    exact this
  have mono : ∀ u v : Int, u ≤ v → u * N ≤ v * N := fun u v huv => Int.mul_le_mul_of_nonneg_right huv (by omega)
  have cases4 : (32 ≤ N ∧ 7 * (S' * N) ≤ 56 * S + 792 * N ∧ 32 * S ≤ S * N) ∨ (9 ≤ N ∧ S' * N ≤ 2 * S + 60 * N ∧ 9 * S ≤ S * N) ∨ (4 ≤ N ∧ S' * N ≤ 2 * S + 14 * N ∧ 4 * S ≤ S * N) ∨ (2 ≤ N ∧ 3 * (S' * N) ≤ 4 * S + 24 * N ∧ 2 * S ≤ S * N) := by
    by_cases g1 : 32 ≤ N
    · have := dd 99 (by omega)
      have := mSN 32 g1
      exact Or.inl ⟨g1, by omega, this⟩
    · by_cases g2 : 9 ≤ N
      · have := dd 30 (by omega)
        have := mSN 9 g2
        exact Or.inr (Or.inl ⟨g2, by omega, this⟩)
      · by_cases g3 : 4 ≤ N
        · have := dd 7 (by omega)
          have := mSN 4 g3
          exact Or.inr (Or.inr (Or.inl ⟨g3, by omega, this⟩))
        · have := dd 2 (by omega)
          have := mSN 2 hN.1
          exact Or.inr (Or.inr (Or.inr ⟨hN.1, by omega, this⟩))
  refine ⟨?_, ?_, ?_, ?_⟩
  · intro hS
    rcases Int.lt_or_le (5 * S) (6 * S') with z | z
    · exfalso
      have k1 := mono (5 * S + 1) (6 * S') (by omega)
      have k2 := mono 201 S (by omega)
      rw [Int.add_mul, Int.mul_assoc, Int.mul_assoc, Int.one_mul] at k1
      generalize S' * N = A at *
      generalize S * N = B at *
      rcases cases4 with ⟨c1, c2, c3⟩ | ⟨c1, c2, c3⟩ | ⟨c1, c2, c3⟩ | ⟨c1, c2, c3⟩ <;> omega
    · exact z
  · intro hS
    rcases Int.lt_or_le (39 * S) (40 * S') with z | z
    · exfalso
      have k1 := mono (39 * S + 1) (40 * S') (by omega)
      have k2 := mono 161 S (by omega)
      rw [Int.add_mul, Int.mul_assoc, Int.mul_assoc, Int.one_mul] at k1
      generalize S' * N = A at *
      generalize S * N = B at *
      rcases cases4 with ⟨c1, c2, c3⟩ | ⟨c1, c2, c3⟩ | ⟨c1, c2, c3⟩ | ⟨c1, c2, c3⟩ <;> omega
    · exact z
  · intro hS
    rcases Int.lt_or_le 200 S' with z | z
    · exfalso
      have k1 := mono 201 S' (by omega)
      generalize S' * N = A at *
      generalize S * N = B at *
      rcases cases4 with ⟨c1, c2, c3⟩ | ⟨c1, c2, c3⟩ | ⟨c1, c2, c3⟩ | ⟨c1, c2, c3⟩ <;> omega
    · exact z
  · intro hS
    rcases Int.lt_or_le 160 S' with z | z
    · exfalso
      have k1 := mono 161 S' (by omega)
      generalize S' * N = A at *
      generalize S * N = B at *
      rcases cases4 with ⟨c1, c2, c3⟩ | ⟨c1, c2, c3⟩ | ⟨c1, c2, c3⟩ | ⟨c1, c2, c3⟩ <;> omega
    · exact z
def XO (f : Int × Int → Int × Int) (x : Int × Int) : Nat → Int × Int
  | 0 => x
  | i + 1 => f (XO f x i)
def fal : Nat → Int
  | 0 => 2000000000
  | k + 1 => 5 * fal k / 6
theorem XO_fal {t n m1 m2 w : Int} (h : BS t n m1 m2 w) {x : Int × Int} (hx : sz t n x.1 x.2 ≤ 2000000000) : ∀ i, sz t n (XO (nx t n m1 m2 w) x i).1 (XO (nx t n m1 m2 w) x i).2 ≤ 200 ∨ sz t n (XO (nx t n m1 m2 w) x i).1 (XO (nx t n m1 m2 w) x i).2 ≤ fal i := by
  intro i
  induction i with
  | zero => exact Or.inr hx
  | succ i ih =>
    obtain ⟨b1, b2, b3, b4⟩ := nx_bounds h (XO (nx t n m1 m2 w) x i)
    have e : XO (nx t n m1 m2 w) x (i + 1) = nx t n m1 m2 w (XO (nx t n m1 m2 w) x i) := rfl
    rw [e]
    by_cases g : sz t n (XO (nx t n m1 m2 w) x i).1 (XO (nx t n m1 m2 w) x i).2 ≤ 200
    · exact Or.inl (b3 g)
    · have := b1 (by omega)
      have := ih.resolve_left g
      right
      show _ ≤ 5 * fal i / 6
      omega
theorem fal_mono (i : Nat) : fal i ≤ 2000000000 ∧ 0 ≤ fal i := by
  induction i with
  | zero => unfold fal; omega
  | succ i ih => unfold fal; omega
theorem XO_b {t n m1 m2 w : Int} (h : BS t n m1 m2 w) {x : Int × Int} (hx : sz t n x.1 x.2 ≤ 2000000000) (i : Nat) : sz t n (XO (nx t n m1 m2 w) x i).1 (XO (nx t n m1 m2 w) x i).2 ≤ 2000000000 := by
  have := fal_mono i
  rcases XO_fal h hx i with g | g <;> omega
theorem XO_add (f : Int × Int → Int × Int) (x : Int × Int) (i : Nat) : ∀ j, XO f x (i + j) = XO f (XO f x i) j := by
  intro j
  induction j with
  | zero => rfl
  | succ j ih =>
    show f (XO f x (i + j)) = f (XO f (XO f x i) j)
    rw [ih]
def fal2 : Nat → Int
  | 0 => 200
  | k + 1 => 39 * fal2 k / 40
theorem XO_160 {t n m1 m2 w : Int} (h : BS t n m1 m2 w) {x : Int × Int} (hx : sz t n x.1 x.2 ≤ 2000000000) (i : Nat) (hi : 100 ≤ i) : sz t n (XO (nx t n m1 m2 w) x i).1 (XO (nx t n m1 m2 w) x i).2 ≤ 160 := by
  have f90 : fal 90 ≤ 200 := by decide +kernel
  have f10 : fal2 10 ≤ 160 := by decide +kernel
  have s90 : sz t n (XO (nx t n m1 m2 w) x 90).1 (XO (nx t n m1 m2 w) x 90).2 ≤ 200 := by
    rcases XO_fal h hx 90 with g | g <;> omega
  have k2 : ∀ j, sz t n (XO (nx t n m1 m2 w) x (90 + j)).1 (XO (nx t n m1 m2 w) x (90 + j)).2 ≤ 160 ∨ sz t n (XO (nx t n m1 m2 w) x (90 + j)).1 (XO (nx t n m1 m2 w) x (90 + j)).2 ≤ fal2 j := by
    intro j
    induction j with
    | zero => exact Or.inr s90
    | succ j ih =>
      obtain ⟨b1, b2, b3, b4⟩ := nx_bounds h (XO (nx t n m1 m2 w) x (90 + j))
      have e : XO (nx t n m1 m2 w) x (90 + (j + 1)) = nx t n m1 m2 w (XO (nx t n m1 m2 w) x (90 + j)) := rfl
      rw [e]
      by_cases g : sz t n (XO (nx t n m1 m2 w) x (90 + j)).1 (XO (nx t n m1 m2 w) x (90 + j)).2 ≤ 160
      · exact Or.inl (b4 g)
      · have := b2 (by omega)
        have := ih.resolve_left g
        right
        show _ ≤ 39 * fal2 j / 40
        omega
  have k3 : ∀ j, sz t n (XO (nx t n m1 m2 w) x (100 + j)).1 (XO (nx t n m1 m2 w) x (100 + j)).2 ≤ 160 := by
    intro j
    induction j with
    | zero =>
      have := k2 10
      rcases this with g | g
      · exact g
      · exact Int.le_trans g f10
    | succ j ih => exact (nx_bounds h (XO (nx t n m1 m2 w) x (100 + j))).2.2.2 ih
  have := k3 (i - 100)
  rw [show 100 + (i - 100) = i by omega] at this
  exact this
theorem box14 {t n a b : Int} (h : TN t n) (hs : sz t n a b ≤ 160) : (-14 ≤ a ∧ a ≤ 14) ∧ -14 ≤ b ∧ b ≤ 14 := by
  have e := sz_4 t n a b
  have f := sz_4b t n a b
  have g1 := sq_nn (t * a + 2 * n * b)
  have g2 := sq_nn (2 * a + t * b)
  have ka : a * a < 15 * 15 := by
    generalize (t * a + 2 * n * b) * (t * a + 2 * n * b) = Z at *
    generalize sz t n a b = N at *
    generalize a * a = A at *
    rcases h with ⟨rfl, rfl⟩ | ⟨rfl, rfl⟩ | ⟨rfl, rfl⟩ | ⟨rfl, rfl⟩ | ⟨rfl, rfl⟩ <;> omega
  have kb : b * b < 15 * 15 := by
    generalize (2 * a + t * b) * (2 * a + t * b) = Z at *
    generalize sz t n a b = N at *
    generalize b * b = A at *
    rcases h with ⟨rfl, rfl⟩ | ⟨rfl, rfl⟩ | ⟨rfl, rfl⟩ | ⟨rfl, rfl⟩ | ⟨rfl, rfl⟩ <;> omega
  have s1 := sq_lt (by omega) ka
  have s2 := sq_lt (by omega) kb
  omega
/-- more numbers than places -/
theorem pigeon : ∀ (m : Nat) (f : Nat → Nat), (∀ i, i ≤ m → f i < m) → ∃ i j, i < j ∧ j ≤ m ∧ f i = f j := by
  intro m
  induction m with
  | zero => intro f h; have := h 0 (by omega); omega
  | succ m ih =>
    intro f h
    by_cases g : ∃ i, i ≤ m ∧ f i = f (m + 1)
    · obtain ⟨i, h1, h2⟩ := g
      exact ⟨i, m + 1, by omega, by omega, h2⟩
    · -- the value of the last one is left out; what had the highest value takes it
      obtain ⟨i, j, h1, h2, h3⟩ := ih (fun i => if f i = m then f (m + 1) else f i) (fun i hi => by
        have a1 := h i (by omega)
        have a2 := h (m + 1) (by omega)
        by_cases z : f i = m
        · rw [if_pos z]
          have : f i ≠ f (m + 1) := fun e => g ⟨i, hi, e⟩
          omega
        · rw [if_neg z]
          omega)
      refine ⟨i, j, h1, by omega, ?_⟩
      by_cases z1 : f i = m
      · by_cases z2 : f j = m
        · omega
        · rw [if_pos z1, if_neg z2] at h3
          exact absurd ⟨j, by omega, h3.symm⟩ g
      · by_cases z2 : f j = m
        · rw [if_neg z1, if_pos z2] at h3
          exact absurd ⟨i, by omega, h3⟩ g
        · rw [if_neg z1, if_neg z2] at h3
          exact h3
def RHO (f : Int × Int → Int × Int) (x : Int × Int) (T L : Nat) : Prop := 1 ≤ L ∧ XO f x (T + L) = XO f x T ∧ ∀ i j, i < j → j < T + L → ¬ XO f x i = XO f x j
theorem rho_of (f : Int × Int → Int × Int) (x : Int × Int) : ∀ (j : Nat), (∃ i, i < j ∧ XO f x i = XO f x j) → ∃ T L, RHO f x T L ∧ T + L ≤ j := by
  intro j
  induction j using Nat.strongRecOn with
  | _ j ih =>
    rintro ⟨i, hi, e⟩
    by_cases g : ∃ j', j' < j ∧ ∃ i', i' < j' ∧ XO f x i' = XO f x j'
    · obtain ⟨j', h1, h2⟩ := g
      obtain ⟨T, L, h3, h4⟩ := ih j' h1 h2
      exact ⟨T, L, h3, by omega⟩
    · refine ⟨i, j - i, ⟨by omega, ?_, ?_⟩, by omega⟩
      · rw [show i + (j - i) = j by omega]; exact e.symm
      · intro i' j' h1 h2 h3
        exact g ⟨j', by omega, i', h1, h3⟩
theorem rho_ex {t n m1 m2 w : Int} (h : BS t n m1 m2 w) {x : Int × Int} (hx : sz t n x.1 x.2 ≤ 2000000000) : ∃ T L, RHO (nx t n m1 m2 w) x T L ∧ T + L ≤ 945 := by
  have hb := fun i => box14 h.1 (XO_160 h hx (100 + i) (by omega))
  obtain ⟨i, j, h1, h2, h3⟩ := pigeon 841 (fun i => (((XO (nx t n m1 m2 w) x (100 + i)).1 + 14) * 29 + ((XO (nx t n m1 m2 w) x (100 + i)).2 + 14)).toNat) (fun i _ => by
    have := hb i
    omega)
  have b1 := hb i
  have b2 := hb j
  have e : XO (nx t n m1 m2 w) x (100 + i) = XO (nx t n m1 m2 w) x (100 + j) := Prod.ext (by omega) (by omega)
  obtain ⟨T, L, g1, g2⟩ := rho_of (nx t n m1 m2 w) x (100 + j) ⟨100 + i, by omega, e⟩
  exact ⟨T, L, g1, by omega⟩
theorem rho_per {f : Int × Int → Int × Int} {x : Int × Int} {T L : Nat} (h : RHO f x T L) : ∀ i, T ≤ i → XO f x (i + L) = XO f x i := by
  intro i hi
  obtain ⟨j, rfl⟩ : ∃ j, i = T + j := ⟨i - T, by omega⟩
  rw [show T + j + L = (T + L) + j by omega, XO_add f x (T + L), h.2.1, ← XO_add f x T]
theorem rho_mod {f : Int × Int → Int × Int} {x : Int × Int} {T L : Nat} (h : RHO f x T L) (i : Nat) : XO f x (T + i) = XO f x (T + i % L) := by
  induction i using Nat.strongRecOn with
  | _ i ih =>
    have hL := h.1
    by_cases g : i < L
    · rw [Nat.mod_eq_of_lt g]
    · have e := rho_per h (T + (i - L)) (by omega)
      rw [show T + (i - L) + L = T + i by omega] at e
      rw [e, ih (i - L) (by omega)]
      congr 2
      exact (Nat.mod_eq_sub_mod (by omega)).symm
theorem rho_new {f : Int × Int → Int × Int} {x : Int × Int} {T L : Nat} (h : RHO f x T L) (i j : Nat) (hj : 1 ≤ j) (hj2 : j < L) : ¬ XO f x (T + i + j) = XO f x (T + i) := by
  rw [show T + i + j = T + (i + j) by omega, rho_mod h (i + j), rho_mod h i]
  have hL := h.1
  have m1 := Nat.mod_lt i (show 0 < L by omega)
  have m2 := Nat.mod_lt (i + j) (show 0 < L by omega)
  have d1 := Nat.div_add_mod i L
  have ne : i % L ≠ (i + j) % L := by
    intro e
    have a : (i + j) % L = (i % L + j) % L := by rw [Nat.add_mod, Nat.mod_eq_of_lt hj2]
    rw [a] at e
    clear a
    generalize i % L = r at *
    by_cases g : r + j < L
    · rw [Nat.mod_eq_of_lt g] at e
      omega
    · rw [Nat.mod_eq_sub_mod (by omega), Nat.mod_eq_of_lt (by omega)] at e
      omega
  intro e
  rcases Nat.lt_or_ge (i % L) ((i + j) % L) with g | g
  · exact h.2.2 _ _ (show T + i % L < T + (i + j) % L by omega) (by omega) e.symm
  · exact h.2.2 _ _ (show T + (i + j) % L < T + i % L by omega) (by omega) e
theorem nx_0 {t n m1 m2 w : Int} (h : BS t n m1 m2 w) : nx t n m1 m2 w (0, 0) = (0, 0) := by
  unfold nx dg acA acB
  dsimp only
  rw [Int.zero_mul, Int.add_zero, Int.zero_emod]
  refine Prod.ext ?_ ?_ <;> dsimp only
  · rw [show (0 - 0) * (m1 + t * m2) + n * 0 * m2 = 0 by grind, Int.zero_ediv]
  · rw [show (0 : Int) * m1 - (0 - 0) * m2 = 0 by grind, Int.zero_ediv]
/-- whether it ends or comes round -/
theorem rho_zero {t n m1 m2 w : Int} (h : BS t n m1 m2 w) {x : Int × Int} {T L : Nat} (hr : RHO (nx t n m1 m2 w) x T L) : (XO (nx t n m1 m2 w) x T = (0, 0) ∧ L = 1 ∧ (∀ i, T ≤ i → XO (nx t n m1 m2 w) x i = (0, 0)) ∧ ∀ i, i < T → ¬ XO (nx t n m1 m2 w) x i = (0, 0)) ∨ (∀ i, ¬ XO (nx t n m1 m2 w) x i = (0, 0)) := by
  have stay : ∀ i, XO (nx t n m1 m2 w) x i = (0, 0) → ∀ j, XO (nx t n m1 m2 w) x (i + j) = (0, 0) := by
    intro i hi j
    induction j with
    | zero => exact hi
    | succ j ih =>
      show nx t n m1 m2 w (XO (nx t n m1 m2 w) x (i + j)) = (0, 0)
      rw [ih, nx_0 h]
  by_cases g : XO (nx t n m1 m2 w) x T = (0, 0)
  · left
    refine ⟨g, ?_, ?_, ?_⟩
    · rcases Nat.lt_or_ge 1 L with z | z
      · have e := stay T g 1
        exact absurd (g.trans e.symm) (hr.2.2 T (T + 1) (by omega) (by omega))
      · have := hr.1; omega
    · intro i hi
      have := stay T g (i - T)
      rw [show T + (i - T) = i by omega] at this
      exact this
    · intro i hi e
      have e1 := stay i e (T - i)
      rw [show i + (T - i) = T by omega] at e1
      exact hr.2.2 i T hi (by have := hr.1; omega) (e.trans e1.symm)
  · right
    intro i e
    by_cases z : i ≤ T
    · have e1 := stay i e (T - i)
      rw [show i + (T - i) = T by omega] at e1
      exact g e1
    · have e1 := stay i e (L * i)
      have e2 := rho_mod hr (i - T)
      have e3 := rho_mod hr (i + L * i - T)
      have e4 := stay i e
      -- a multiple of L on from T, past i
      have e5 := rho_mod hr (L * i)
      rw [Nat.mul_mod_right, Nat.add_zero] at e5
      have hL := hr.1
      have : i ≤ L * i := Nat.le_mul_of_pos_left i (by omega)
      have e6 := e4 (T + L * i - i)
      rw [show i + (T + L * i - i) = T + L * i by omega, e5] at e6
      exact g e6
