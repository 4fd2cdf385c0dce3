/-! shape: the greatest of the like -/
def mA (n a b c d : Int) : Int := a * c - n * (b * d)
def mB (t a b c d : Int) : Int := a * d + b * c + t * (b * d)
theorem times_k {t n a b c d : Int} (ht : i32 t) (hn : i32 n) (ha : i32 a) (hb : i32 b) (hc : i32 c) (hd : i32 d) : f_X4_times (io t) (io n) (pk a b) (pk c d) = pk (mA n a b c d) (mB t a b c d) := times_pk ht hn ha hb hc hd
theorem timesA_k (n a b c d : Int) : f_X8_times_mod_a (lo n) (lo a) (lo b) (lo c) (lo d) = lo (mA n a b c d) := by
  rw [timesA_m, Int.mul_assoc n]
  rfl
theorem timesB_k (t a b c d : Int) : f_X8_times_mod_b (lo t) (lo a) (lo b) (lo c) (lo d) = lo (mB t a b c d) := by
  rw [timesB_m, Int.mul_assoc t]
  rfl
def uC (k : Nat) : Nat → Int × Int
  | 0 => (1, 0)
  | j + 1 => (mA (kN k) (uC k j).1 (uC k j).2 (kSa k) (kSb k), mB (kT k) (uC k j).1 (uC k j).2 (kSa k) (kSb k))
def kUn (k : Nat) : Nat := if k = 0 then 4 else if k = 1 then 6 else 2
def lex (p q : Int × Int) : Prop := p.1 < q.1 ∨ (p.1 = q.1 ∧ p.2 ≤ q.2)
def mv (k : Nat) (a b : Int) (u : Int × Int) : Int × Int := (mA (kN k) u.1 u.2 a b, mB (kT k) u.1 u.2 a b)
theorem uC_b : ∀ k < 5, ∀ j < 7, (-1 ≤ (uC k j).1 ∧ (uC k j).1 ≤ 1) ∧ (-1 ≤ (uC k j).2 ∧ (uC k j).2 ≤ 1) ∧ sz (kT k) (kN k) (uC k j).1 (uC k j).2 = 1 := by decide +kernel
theorem uC_in : ∀ k < 5, ∀ j < kUn k, uC k j ∈ unitsL k := by decide +kernel
theorem uC_all : ∀ k < 5, ∀ q ∈ unitsL k, ∃ j, j < kUn k ∧ q = uC k j := by decide +kernel
theorem UN_mem {k : Nat} {us : List (Int × Int)} (hu : UN k us) (q : Int × Int) : q ∈ us ↔ q ∈ unitsL k := by
  rcases hu with rfl | ⟨rfl, rfl⟩
  · exact Iff.rfl
  · show q ∈ [((1 : Int), (0 : Int)), (-1, 0), (0, 1), (0, -1)] ↔ q ∈ [((-1 : Int), (0 : Int)), (0, -1), (0, 1), (1, 0)]
    simp only [List.mem_cons, List.not_mem_nil, or_false]
    constructor
    · rintro (h | h | h | h) <;> simp [h]
    · rintro (h | h | h | h) <;> simp [h]
theorem UN_len {k : Nat} {us : List (Int × Int)} (hk : k < 5) (hu : UN k us) : us.length = kUn k := by
  rcases hu with rfl | ⟨rfl, rfl⟩
  · exact (by decide : ∀ k < 5, (unitsL k).length = kUn k) k hk
  · rfl
theorem kUn_b (k : Nat) : 2 ≤ kUn k ∧ kUn k ≤ 6 := by unfold kUn; split <;> (try split) <;> omega
theorem kUn_k (k : Nat) : kU k = (kUn k : Int) := by unfold kU kUn; split <;> (try split) <;> rfl
def ub (z : Int) : Prop := -100000000 ≤ z ∧ z ≤ 100000000
theorem kTN_b (k : Nat) : (-1 ≤ kT k ∧ kT k ≤ 1) ∧ 1 ≤ kN k ∧ kN k ≤ 3 := by
  constructor
  · unfold kT; split <;> (try split) <;> omega
  · unfold kN; split <;> (try split) <;> omega
theorem mv_b {k : Nat} (hk : k < 5) {j : Nat} (hj : j < 7) {a b : Int} (ha : ub a) (hb : ub b) : i32 (mv k a b (uC k j)).1 ∧ i32 (mv k a b (uC k j)).2 := by
  obtain ⟨⟨h1, h2⟩, ⟨h3, h4⟩, -⟩ := uC_b k hk j hj
  generalize uC k j = u at *
  obtain ⟨u, v⟩ := u
  dsimp only at *
  unfold mv mA mB
  dsimp only
  have hu : u = -1 ∨ u = 0 ∨ u = 1 := by omega
  have hv : v = -1 ∨ v = 0 ∨ v = 1 := by omega
  obtain ⟨⟨t1, t2⟩, n1, n2⟩ := kTN_b k
  have ht : kT k = -1 ∨ kT k = 0 ∨ kT k = 1 := by omega
  have hn : kN k = 1 ∨ kN k = 2 ∨ kN k = 3 := by omega
  generalize kT k = t at *
  generalize kN k = n at *
  unfold ub at ha hb
  unfold i32
  rcases hu with rfl | rfl | rfl <;> rcases hv with rfl | rfl | rfl <;> rcases ht with rfl | rfl | rfl <;> rcases hn with rfl | rfl | rfl <;> (constructor <;> omega)
theorem ub.i {z : Int} (h : ub z) : i32 z := ⟨by have := h.1; omega, by have := h.2; omega⟩
theorem grt_pk {a b c d : Int} (ha : i32 a) (hb : i32 b) (hc : i32 c) (hd : i32 d) : f_X4_isGreater (pk a b) (pk c d) = 0 ↔ lex (a, b) (c, d) := by
  unfold f_X4_isGreater lex
  rw [first_pk b ha, first_pk d hc, second_pk a hb, second_pk c hd]
  dsimp only
  by_cases h1 : c < a
  · rw [if_pos ((lo_lt hc.w ha.w).mpr h1)]
    exact ⟨fun h => absurd h (by decide), fun h => by omega⟩
  · rw [if_neg (fun e => h1 ((lo_lt hc.w ha.w).mp e))]
    by_cases h2 : a = c
    · rw [if_pos (by rw [h2])]
      by_cases h3 : b ≤ d
      · rw [if_pos ((lo_le hb.w hd.w).mpr h3)]
        exact ⟨fun _ => Or.inr ⟨h2, h3⟩, fun _ => rfl⟩
      · rw [if_neg (fun e => h3 ((lo_le hb.w hd.w).mp e))]
        exact ⟨fun h => absurd h (by decide), fun h => by omega⟩
    · rw [if_neg (fun e => h2 ((lo_eq ha.w hc.w).mp e))]
      exact ⟨fun _ => by omega, fun _ => rfl⟩
theorem lex_tr {p q r : Int × Int} (h : lex p q) (g : lex q r) : lex p r := by unfold lex at *; omega
theorem lex_to {p q : Int × Int} (h : ¬ lex p q) : lex q p := by unfold lex at *; omega
theorem lex_rf (p : Int × Int) : lex p p := Or.inr ⟨rfl, Int.le_refl _⟩
theorem lex_an {p q : Int × Int} (h : lex p q) (g : lex q p) : p = q := by
  unfold lex at *
  exact Prod.ext (by omega) (by omega)
theorem mv_1 (k : Nat) (a b : Int) : mv k a b (1, 0) = (a, b) := by
  unfold mv mA mB
  refine Prod.ext ?_ ?_ <;> dsimp only <;> grind
theorem sp_b (k : Nat) : i32 (kSa k) ∧ i32 (kSb k) := by
  unfold kSa kSb i32
  constructor <;> (split <;> (try split) <;> omega)
theorem sh7 {k : Nat} (hk : k < 5) {a b : Int} (ha : ub a) (hb : ub b) : ∃ j, j < kUn k ∧ f_X4_shaper (io (kT k)) (io (kN k)) (io (kU k)) (pk (kSa k) (kSb k)) (pk a b) = some (pk (uC k j).1 (uC k j).2) ∧ ∀ j', j' < kUn k → lex (mv k a b (uC k j')) (mv k a b (uC k j)) := by
  have hU := kUn_b k
  have key : ∃ r, whl (f_X4_shaper_L15 (io (kT k)) (io (kN k)) (io (kU k)) (pk (kSa k) (kSb k)) (pk a b)) ((4294967296 : Int64), (4294967296 : Int64), pk a b, (1 : Int32)) = some r ∧ ∃ j, j < kUn k ∧ r = pk (uC k j).1 (uC k j).2 ∧ ∀ j', j' < kUn k → lex (mv k a b (uC k j')) (mv k a b (uC k j)) := by
    refine whl_for (b := f_X4_shaper_L15 (io (kT k)) (io (kN k)) (io (kU k)) (pk (kSa k) (kSb k)) (pk a b)) (kUn k - 1) (fun i s => s.1 = pk (uC k i).1 (uC k i).2 ∧ s.2.2.2 = io ((i : Int) + 1) ∧ ∃ j, j ≤ i ∧ s.2.1 = pk (uC k j).1 (uC k j).2 ∧ s.2.2.1 = pk (mv k a b (uC k j)).1 (mv k a b (uC k j)).2 ∧ ∀ j', j' ≤ i → lex (mv k a b (uC k j')) (mv k a b (uC k j))) (fun r => ∃ j, j < kUn k ∧ r = pk (uC k j).1 (uC k j).2 ∧ ∀ j', j' < kUn k → lex (mv k a b (uC k j')) (mv k a b (uC k j))) ?_ ?_ 0 _ (by omega) ⟨?_, ?_, 0, Nat.le_refl 0, ?_, ?_, ?_⟩
    · rintro i ⟨s1, s2, s3, s4⟩ hi ⟨e1, e2, j, hj, e3, e4, e5⟩
      dsimp only at e1 e2 e3 e4
      have hb1 := uC_b k hk i (by omega)
      have hb2 := uC_b k hk (i + 1) (by omega)
      have c1 : ¬ (io (kU k) ≤ io ((i : Int) + 1)) := fun e => by
        rw [kUn_k] at e
        have := (io_le (by unfold i32; omega) (by unfold i32; omega)).mp e
        omega
      have hn : f_X4_times (io (kT k)) (io (kN k)) (pk (uC k i).1 (uC k i).2) (pk (kSa k) (kSb k)) = pk (uC k (i + 1)).1 (uC k (i + 1)).2 := times_k (kT_i k) (kN_i k) (by unfold i32; omega) (by unfold i32; omega) (sp_b k).1 (sp_b k).2
      have hm : f_X4_times (io (kT k)) (io (kN k)) (pk (uC k (i + 1)).1 (uC k (i + 1)).2) (pk a b) = pk (mv k a b (uC k (i + 1))).1 (mv k a b (uC k (i + 1))).2 := times_k (kT_i k) (kN_i k) (by unfold i32; omega) (by unfold i32; omega) ha.i hb.i
      obtain ⟨m1, m2⟩ := mv_b hk (j := i + 1) (by omega) ha hb
      obtain ⟨m3, m4⟩ := mv_b hk (j := j) (by omega) ha hb
      have hg := grt_pk m1 m2 m3 m4
      unfold f_X4_shaper_L15
      dsimp only
      rw [e1, e2, e3, e4, if_neg c1, hn, hm, io_1]
      by_cases q : lex (mv k a b (uC k (i + 1))) (mv k a b (uC k j))
      · rw [if_pos (hg.mpr q)]
        refine ⟨_, rfl, rfl, rfl, j, by omega, rfl, rfl, fun j' h' => ?_⟩
        by_cases z : j' = i + 1
        · rw [z]; exact q
        · exact e5 j' (by omega)
      · rw [if_neg (fun e => q (hg.mp e))]
        refine ⟨_, rfl, rfl, rfl, i + 1, Nat.le_refl _, rfl, rfl, fun j' h' => ?_⟩
        by_cases z : j' = i + 1
        · rw [z]; exact lex_rf _
        · exact lex_tr (e5 j' (by omega)) (lex_to q)
    · rintro ⟨s1, s2, s3, s4⟩ ⟨e1, e2, j, hj, e3, e4, e5⟩
      dsimp only at e1 e2 e3 e4
      have c1 : io (kU k) ≤ io (((kUn k - 1 : Nat) : Int) + 1) := by
        rw [kUn_k]
        exact (io_le (by unfold i32; omega) (by unfold i32; omega)).mpr (by omega)
      unfold f_X4_shaper_L15
      dsimp only
      rw [e2, if_pos c1, e3]
      exact ⟨_, rfl, j, by omega, rfl, fun j' h' => e5 j' (by omega)⟩
    · dsimp only
      unfold uC
      decide
    · rfl
    · dsimp only
      unfold uC
      decide
    · dsimp only
      rw [show uC k 0 = (1, 0) from rfl, mv_1]
    · intro j' h'
      have : j' = 0 := by omega
      rw [this]
      exact lex_rf _
  obtain ⟨r, h1, j, h2, h3, h4⟩ := key
  refine ⟨j, h2, ?_, h4⟩
  unfold f_X4_shaper
  rw [h1, h3]
  rfl
