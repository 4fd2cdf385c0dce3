/-! where the rings lie; counts over the square -/
def MR (N : Int) : Int := N + 1 + isq (4 * N)
theorem MR_b {N : Int} (h : 2 ≤ N ∧ N ≤ 100) : N + 1 ≤ MR N ∧ MR N ≤ 121 := by
  obtain ⟨q0, q1, q2⟩ := isq_spec (x := 4 * N) (by omega)
  unfold MR
  refine ⟨by omega, ?_⟩
  rcases Int.lt_or_le 20 (isq (4 * N)) with z | z
  · have := sq_mono (a := 21) (b := isq (4 * N)) (by omega) (by omega)
    omega
  · omega
theorem MR_iff {N S : Int} (h : 2 ≤ N ∧ N ≤ 100) : S ≤ MR N ↔ (S - N - 1 ≤ 0 ∨ (S - N - 1) * (S - N - 1) ≤ 4 * N) := by
  obtain ⟨q0, q1, q2⟩ := isq_spec (x := 4 * N) (by omega)
  unfold MR
  constructor
  · intro g
    rcases Int.lt_or_le 0 (S - N - 1) with z | z
    · right
      have := sq_mono (a := S - N - 1) (b := isq (4 * N)) (by omega) (by omega)
      omega
    · exact Or.inl z
  · rintro (g | g)
    · omega
    · rcases Int.lt_or_le (isq (4 * N)) (S - N - 1) with z | z
      · have := sq_mono (a := isq (4 * N) + 1) (b := S - N - 1) (by omega) (by omega)
        omega
      · omega
theorem far_sq {N S : Int} (h : 2 ≤ N) (g : MR N < S) : 4 * S < (S - N + 1) * (S - N + 1) := by
  obtain ⟨q0, q1, q2⟩ := isq_spec (x := 4 * N) (by omega)
  unfold MR at g
  have m := sq_mono (a := isq (4 * N) + 1) (b := S - N - 1) (by omega) (by omega)
  have e : (S - N + 1) * (S - N + 1) = (S - N - 1) * (S - N - 1) + 4 * S - 4 * N := by grind
  omega
theorem nx_z {t n m1 m2 w : Int} (h : BS t n m1 m2 w) (x : Int × Int) : ∃ z d : Int, sz t n (nx t n m1 m2 w x).1 (nx t n m1 m2 w x).2 * sz t n m1 m2 = sz t n x.1 x.2 + d * d + z ∧ (0 ≤ d ∧ d ≤ sz t n m1 m2 - 1) ∧ z * z ≤ 4 * (d * d * sz t n x.1 x.2) := by
  have hd := dg_b h x
  have hT := h.1
  refine ⟨-(dg t n m1 m2 w x * (2 * x.1 + t * x.2)), dg t n m1 m2 w x, ?_, by omega, ?_⟩
  · rw [nx_sz h x]; unfold sz; grind
  · have f := four_sz t n x.1 x.2
    have W : 0 ≤ (4 * n - t * t) * x.2 * x.2 := by
      rw [Int.mul_assoc]
      refine Int.mul_nonneg ?_ (sq_nn _)
      rcases hT with ⟨rfl, rfl⟩ | ⟨rfl, rfl⟩ | ⟨rfl, rfl⟩ | ⟨rfl, rfl⟩ | ⟨rfl, rfl⟩ <;> omega
    generalize dg t n m1 m2 w x = d at *
    have m := Int.mul_le_mul_of_nonneg_left (show (2 * x.1 + t * x.2) * (2 * x.1 + t * x.2) ≤ 4 * sz t n x.1 x.2 by omega) (sq_nn d)
    have e1 : -(d * (2 * x.1 + t * x.2)) * -(d * (2 * x.1 + t * x.2)) = d * d * ((2 * x.1 + t * x.2) * (2 * x.1 + t * x.2)) := by grind
    have e2 : d * d * (4 * sz t n x.1 x.2) = 4 * (d * d * sz t n x.1 x.2) := by grind
    omega
/-- the step's bound, for any T above the edge and the size itself at most T -/
theorem nx_lt {t n m1 m2 w : Int} (h : BS t n m1 m2 w) (x : Int × Int) {T : Int} (hT : MR (sz t n m1 m2) < T) (hS : sz t n x.1 x.2 ≤ T) : sz t n (nx t n m1 m2 w x).1 (nx t n m1 m2 w x).2 < T := by
  obtain ⟨z, d, e, hd, hz⟩ := nx_z h x
  have hN := h.2.2.2.1
  have hM := MR_b hN
  have fs := far_sq hN.1 hT
  have S0 := sz_nn h.1 x.1 x.2
  generalize sz t n (nx t n m1 m2 w x).1 (nx t n m1 m2 w x).2 = S' at *
  generalize sz t n x.1 x.2 = S at *
  generalize sz t n m1 m2 = N at *
  have d1 := Int.mul_le_mul hd.2 hd.2 hd.1 (by omega)
  have d2 := Int.mul_le_mul d1 hS S0 (sq_nn (N - 1))
  have p1 := Int.mul_le_mul (show 1 ≤ N - 1 by omega) (show 1 ≤ N - 1 by omega) (by omega) (by omega)
  have d3 := Int.mul_le_mul_of_nonneg_left (show 4 * T + 1 ≤ (T - N + 1) * (T - N + 1) by omega) (sq_nn (N - 1))
  have e1 : (N - 1) * (T - N + 1) * ((N - 1) * (T - N + 1)) = (N - 1) * (N - 1) * ((T - N + 1) * (T - N + 1)) := by grind
  have e2 : (N - 1) * (N - 1) * (4 * T + 1) = 4 * ((N - 1) * (N - 1) * T) + (N - 1) * (N - 1) := by grind
  have zl := (sq_lt (x := z) (y := (N - 1) * (T - N + 1)) (Int.mul_nonneg (by omega) (by omega)) (by omega)).2
  have e3 : T + (N - 1) * (N - 1) + (N - 1) * (T - N + 1) = N * T := by grind
  rcases Int.lt_or_le S' T with q | q
  · exact q
  · exfalso
    have := Int.mul_le_mul_of_nonneg_right q (show 0 ≤ N by omega)
    have e4 : T * N = N * T := Int.mul_comm _ _
    omega
theorem nx_clo {t n m1 m2 w : Int} (h : BS t n m1 m2 w) (x : Int × Int) (hS : sz t n x.1 x.2 ≤ MR (sz t n m1 m2)) : sz t n (nx t n m1 m2 w x).1 (nx t n m1 m2 w x).2 ≤ MR (sz t n m1 m2) := by
  have := nx_lt h x (T := MR (sz t n m1 m2) + 1) (by omega) (by omega)
  omega
def PER (f : Int × Int → Int × Int) (x : Int × Int) : Prop := ∃ L : Nat, 1 ≤ L ∧ XO f x L = x
theorem per_mul {f : Int × Int → Int × Int} {x : Int × Int} {L : Nat} (h : XO f x L = x) : ∀ m, XO f x (L * m) = x := by
  intro m
  induction m with
  | zero => rfl
  | succ m ih =>
    rw [Nat.mul_succ, XO_add, ih, h]
/-- rings lie in the region -/
theorem per_in {t n m1 m2 w : Int} (h : BS t n m1 m2 w) {x : Int × Int} (hp : PER (nx t n m1 m2 w) x) : sz t n x.1 x.2 ≤ MR (sz t n m1 m2) := by
  obtain ⟨L, h1, h2⟩ := hp
  rcases Int.lt_or_le (MR (sz t n m1 m2)) (sz t n x.1 x.2) with g | g
  · exfalso
    have fall : ∀ i, 1 ≤ i → sz t n (XO (nx t n m1 m2 w) x i).1 (XO (nx t n m1 m2 w) x i).2 < sz t n x.1 x.2 := by
      intro i
      induction i with
      | zero => intro h; omega
      | succ i ih =>
        intro _
        by_cases z : i = 0
        · subst z
          exact nx_lt h x g (Int.le_refl _)
        · exact nx_lt h (XO (nx t n m1 m2 w) x i) g (by have := ih (by omega); omega)
    have := fall L h1
    rw [h2] at this
    omega
  · exact g
theorem box12 {t n a b : Int} (h : TN t n) (hs : sz t n a b ≤ 121) : (-12 ≤ a ∧ a ≤ 12) ∧ -12 ≤ b ∧ b ≤ 12 := by
  have e := sz_4 t n a b
  have f := sz_4b t n a b
  have g1 := sq_nn (t * a + 2 * n * b)
  have g2 := sq_nn (2 * a + t * b)
  have ka : a * a < 13 * 13 := by
    generalize (t * a + 2 * n * b) * (t * a + 2 * n * b) = Z at *
    generalize sz t n a b = N at *
    generalize a * a = A at *
    rcases h with ⟨rfl, rfl⟩ | ⟨rfl, rfl⟩ | ⟨rfl, rfl⟩ | ⟨rfl, rfl⟩ | ⟨rfl, rfl⟩ <;> omega
  have kb : b * b < 13 * 13 := by
    generalize (2 * a + t * b) * (2 * a + t * b) = Z at *
    generalize sz t n a b = N at *
    generalize b * b = A at *
    rcases h with ⟨rfl, rfl⟩ | ⟨rfl, rfl⟩ | ⟨rfl, rfl⟩ | ⟨rfl, rfl⟩ | ⟨rfl, rfl⟩ <;> omega
  have s1 := sq_lt (by omega) ka
  have s2 := sq_lt (by omega) kb
  omega
/-- a periodic number that leads into a closed set is in it -/
theorem per_closed {f : Int × Int → Int × Int} {A : Int × Int → Prop} (hA : ∀ z, A z → A (f z)) {x : Int × Int} (hp : PER f x) {i : Nat} (hi : A (XO f x i)) : A x := by
  obtain ⟨L, h1, h2⟩ := hp
  have go : ∀ j, A (XO f x (i + j)) := by
    intro j
    induction j with
    | zero => exact hi
    | succ j ih => exact hA _ ih
  have := go (L * i - i)
  have le : i ≤ L * i := Nat.le_mul_of_pos_left i (by omega)
  rw [show i + (L * i - i) = L * i by omega, per_mul h2] at this
  exact this
/-! how many numbers of the square have a property -/
noncomputable def one_ (P : Prop) : Int := @ite Int P (Classical.propDecidable P) 1 0
theorem one_t {P : Prop} (h : P) : one_ P = 1 := by unfold one_; rw [if_pos h]
theorem one_f {P : Prop} (h : ¬ P) : one_ P = 0 := by unfold one_; rw [if_neg h]
noncomputable def CR (P : Int → Prop) : Nat → Int
  | 0 => 0
  | m + 1 => CR P m + one_ (P (-40 + (m : Int)))
noncomputable def CG (P : Int → Int → Prop) : Nat → Int
  | 0 => 0
  | m + 1 => CG P m + CR (P (-40 + (m : Int))) 81
theorem one_c {P Q : Prop} (h : P ↔ Q) : one_ P = one_ Q := by rw [propext h]
theorem CR_c {P Q : Int → Prop} (h : ∀ y, P y ↔ Q y) (m : Nat) : CR P m = CR Q m := by
  have : P = Q := funext fun y => propext (h y)
  rw [this]
theorem CG_c {P Q : Int → Int → Prop} (h : ∀ x y, P x y ↔ Q x y) (m : Nat) : CG P m = CG Q m := by
  have : P = Q := funext fun x => funext fun y => propext (h x y)
  rw [this]
theorem CR_1 {P Q : Int → Prop} {c : Int} (h : ∀ y, P y ↔ Q y ∨ y = c) (hn : ¬ Q c) : ∀ m : Nat, CR P m = CR Q m + one_ (-40 ≤ c ∧ c < -40 + (m : Int)) := by
  intro m
  induction m with
  | zero => rw [one_f (by omega)]; rfl
  | succ m ih =>
    show CR P m + one_ (P (-40 + (m : Int))) = CR Q m + one_ (Q (-40 + (m : Int))) + _
    rw [ih]
    by_cases e : -40 + (m : Int) = c
    · rw [one_t ((h _).mpr (Or.inr e)), e, one_f hn, one_f (P := -40 ≤ c ∧ c < c) (by omega), one_t (P := -40 ≤ c ∧ c < -40 + ((m + 1 : Nat) : Int)) (by omega)]
      try omega
    · have e1 : P (-40 + (m : Int)) ↔ Q (-40 + (m : Int)) := by
        rw [h]
        exact ⟨fun g => g.resolve_right e, Or.inl⟩
      rw [one_c e1]
      by_cases g : -40 ≤ c ∧ c < -40 + (m : Int)
      · rw [one_t g, one_t (P := -40 ≤ c ∧ c < -40 + ((m + 1 : Nat) : Int)) (by omega)]; omega
      · rw [one_f g, one_f (P := -40 ≤ c ∧ c < -40 + ((m + 1 : Nat) : Int)) (by omega)]; omega
theorem CG_1 {P Q : Int → Int → Prop} {c d : Int} (h : ∀ x y, P x y ↔ Q x y ∨ (x = c ∧ y = d)) (hn : ¬ Q c d) (hd : -40 ≤ d ∧ d ≤ 40) : ∀ m : Nat, CG P m = CG Q m + one_ (-40 ≤ c ∧ c < -40 + (m : Int)) := by
  intro m
  induction m with
  | zero => rw [one_f (by omega)]; rfl
  | succ m ih =>
    show CG P m + CR (P (-40 + (m : Int))) 81 = CG Q m + CR (Q (-40 + (m : Int))) 81 + _
    rw [ih]
    by_cases e : -40 + (m : Int) = c
    · rw [e, CR_1 (P := P c) (Q := Q c) (c := d) (fun y => by rw [h]; simp) hn 81, one_t (P := -40 ≤ d ∧ d < -40 + ((81 : Nat) : Int)) (by omega), one_f (by omega), one_t (by omega)]
      omega
    · rw [CR_c (P := P (-40 + (m : Int))) (Q := Q (-40 + (m : Int))) (fun y => by rw [h]; exact ⟨fun g => g.resolve_right (fun q => e q.1), Or.inl⟩)]
      by_cases g : -40 ≤ c ∧ c < -40 + (m : Int)
      · rw [one_t g, one_t (by omega)]; omega
      · rw [one_f g, one_f (by omega)]; omega
theorem CG_one {P Q : Int → Int → Prop} {c d : Int} (h : ∀ x y, P x y ↔ Q x y ∨ (x = c ∧ y = d)) (hn : ¬ Q c d) (hc : -40 ≤ c ∧ c ≤ 40) (hd : -40 ≤ d ∧ d ≤ 40) : CG P 81 = CG Q 81 + 1 := by
  rw [CG_1 h hn hd 81, one_t (by omega)]
theorem CG_0 {P : Int → Int → Prop} (h : ∀ x y, ¬ P x y) : ∀ m, CG P m = 0 := by
  have r : ∀ (P : Int → Prop), (∀ y, ¬ P y) → ∀ m, CR P m = 0 := by
    intro P h m
    induction m with
    | zero => rfl
    | succ m ih => show CR P m + one_ _ = 0; rw [ih, one_f (h _)]; rfl
  intro m
  induction m with
  | zero => rfl
  | succ m ih => show CG P m + CR _ 81 = 0; rw [ih, r _ (h _)]; rfl
/-- the first of a ring, by a and then b -/
def PM (f : Int × Int → Int × Int) (x : Int × Int) : Prop := PER f x ∧ ∀ m, lex x (XO f x m)
/-- one ring more: L more on rings, one more first -/
theorem ring_count {f : Int × Int → Int × Int} {c : Int × Int} {L : Nat} (hL : 1 ≤ L) (hc : XO f c L = c) (hd : ∀ i j, i < j → j < L → ¬ XO f c i = XO f c j) (hb : ∀ i, (-40 ≤ (XO f c i).1 ∧ (XO f c i).1 ≤ 40) ∧ -40 ≤ (XO f c i).2 ∧ (XO f c i).2 ≤ 40) {V V' : Int × Int → Prop} (hV : ∀ i, ¬ V (XO f c i)) (hp : ∀ x, PER f x → (V' x ↔ V x ∨ ∃ i, i < L ∧ x = XO f c i)) : CG (fun a b => V' (a, b) ∧ PER f (a, b)) 81 = CG (fun a b => V (a, b) ∧ PER f (a, b)) 81 + (L : Int) ∧ CG (fun a b => V' (a, b) ∧ PM f (a, b)) 81 = CG (fun a b => V (a, b) ∧ PM f (a, b)) 81 + 1 := by
  have shift : ∀ i j, XO f (XO f c i) j = XO f c (i + j) := fun i j => (XO_add f c i j).symm
  have per : ∀ i, PER f (XO f c i) := fun i => ⟨L, hL, by rw [shift, Nat.add_comm, XO_add, hc]⟩
  constructor
  · have part : ∀ m, m ≤ L → CG (fun a b => (V (a, b) ∧ PER f (a, b)) ∨ ∃ i, i < m ∧ (a, b) = XO f c i) 81 = CG (fun a b => V (a, b) ∧ PER f (a, b)) 81 + (m : Int) := by
      intro m
      induction m with
      | zero =>
        intro _
        rw [CG_c (Q := fun a b => V (a, b) ∧ PER f (a, b)) (fun x y => ⟨fun g => g.resolve_right (fun ⟨i, h, _⟩ => by omega), Or.inl⟩)]
        exact (Int.add_zero _).symm
      | succ m ih =>
        intro hm
        rw [CG_one (Q := fun a b => (V (a, b) ∧ PER f (a, b)) ∨ ∃ i, i < m ∧ (a, b) = XO f c i) (c := (XO f c m).1) (d := (XO f c m).2) ?_ ?_ (hb m).1 (hb m).2, ih (by omega)]
        · show _ = _ + ((m : Int) + 1); omega
        · intro x y
          constructor
          · rintro (g | ⟨i, hi, e⟩)
            · exact Or.inl (Or.inl g)
            · by_cases z : i = m
              · subst z; right; rw [← e]; exact ⟨rfl, rfl⟩
              · exact Or.inl (Or.inr ⟨i, by omega, e⟩)
          · rintro ((g | ⟨i, hi, e⟩) | ⟨e1, e2⟩)
            · exact Or.inl g
            · exact Or.inr ⟨i, by omega, e⟩
            · exact Or.inr ⟨m, by omega, Prod.ext e1 e2⟩
        · rintro (⟨g, -⟩ | ⟨i, hi, e⟩)
          · exact hV m g
          · exact hd i m hi (by omega) e.symm
    rw [← part L (Nat.le_refl _)]
    refine CG_c (fun x y => ?_) 81
    constructor
    · rintro ⟨g, q⟩
      rcases (hp _ q).mp g with z | z
      · exact Or.inl ⟨z, q⟩
      · exact Or.inr z
    · rintro (⟨g, q⟩ | ⟨i, hi, e⟩)
      · exact ⟨(hp _ q).mpr (Or.inl g), q⟩
      · have q : PER f (x, y) := by rw [e]; exact per i
        exact ⟨(hp _ q).mpr (Or.inr ⟨i, hi, e⟩), q⟩
  · -- the first of the ring
    obtain ⟨i0, hi0, hmin⟩ : ∃ i0, i0 < L ∧ ∀ i, i < L → lex (XO f c i0) (XO f c i) := by
      have part : ∀ m, 1 ≤ m → m ≤ L → ∃ i0, i0 < m ∧ ∀ i, i < m → lex (XO f c i0) (XO f c i) := by
        intro m
        induction m with
        | zero => intro h; omega
        | succ m ih =>
          intro _ hm
          by_cases z : m = 0
          · subst z
            refine ⟨0, by omega, fun i hi => ?_⟩
            have : i = 0 := by omega
            subst this
            exact lex_rf _
          · obtain ⟨i1, h1, h2⟩ := ih (by omega) (by omega)
            by_cases q : lex (XO f c i1) (XO f c m)
            · refine ⟨i1, by omega, fun i hi => ?_⟩
              by_cases y : i = m
              · subst y; exact q
              · exact h2 i (by omega)
            · refine ⟨m, by omega, fun i hi => ?_⟩
              by_cases y : i = m
              · subst y; exact lex_rf _
              · exact lex_tr (lex_to q) (h2 i (by omega))
      exact part L hL (Nat.le_refl _)
    have red : ∀ i, ∃ i', i' < L ∧ XO f c i = XO f c i' := by
      intro i
      refine ⟨i % L, Nat.mod_lt _ (by omega), ?_⟩
      have e := Nat.div_add_mod i L
      have e2 := XO_add f c (L * (i / L)) (i % L)
      rw [e, per_mul hc] at e2
      exact e2
    have isMin : PM f (XO f c i0) := by
      refine ⟨per i0, fun m => ?_⟩
      rw [shift]
      obtain ⟨i', h1, h2⟩ := red (i0 + m)
      rw [h2]
      exact hmin i' h1
    refine CG_one (c := (XO f c i0).1) (d := (XO f c i0).2) ?_ ?_ (hb i0).1 (hb i0).2
    · intro x y
      constructor
      · rintro ⟨g, q⟩
        rcases (hp _ q.1).mp g with z | ⟨i, hi, e⟩
        · exact Or.inl ⟨z, q⟩
        · right
          have : (x, y) = XO f c i0 := by
            refine lex_an ?_ (by rw [e]; exact hmin i hi)
            have := q.2 (L - i + i0)
            rw [e, shift, show i + (L - i + i0) = L + i0 by omega, XO_add, hc] at this
            rw [e]
            exact this
          rw [← this]
          exact ⟨rfl, rfl⟩
      · rintro (⟨g, q⟩ | ⟨e1, e2⟩)
        · exact ⟨(hp _ q.1).mpr (Or.inl g), q⟩
        · have e : (x, y) = XO f c i0 := Prod.ext e1 e2
          rw [e]
          exact ⟨(hp _ isMin.1).mpr (Or.inr ⟨i0, hi0, rfl⟩), isMin⟩
    · rintro ⟨g, -⟩
      exact hV i0 g
