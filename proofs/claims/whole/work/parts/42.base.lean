/-! digits: the base on both sides -/
def BS (t n m1 m2 w : Int) : Prop := TN t n ∧ rng m1 ∧ rng m2 ∧ (2 ≤ sz t n m1 m2 ∧ sz t n m1 m2 ≤ 100) ∧ (∀ d : Int, 1 ≤ d → d < sz t n m1 m2 → ¬ PT t n d 0 m1 m2) ∧ PT t n (-w) 1 m1 m2 ∧ 0 ≤ w ∧ w < sz t n m1 m2
def dg (t n m1 m2 w : Int) (x : Int × Int) : Int := (x.1 + x.2 * w) % sz t n m1 m2
def nx (t n m1 m2 w : Int) (x : Int × Int) : Int × Int := (acA t n (x.1 - dg t n m1 m2 w x) x.2 m1 m2 / sz t n m1 m2, acB (x.1 - dg t n m1 m2 w x) x.2 m1 m2 / sz t n m1 m2)
theorem PT_sub {t n a b c d m1 m2 : Int} (h : PT t n a b m1 m2) (g : PT t n c d m1 m2) (q : Int) : PT t n (a - q * c) (b - q * d) m1 m2 := by
  obtain ⟨h1, h2⟩ := h
  obtain ⟨g1, g2⟩ := g
  constructor
  · have e : acA t n (a - q * c) (b - q * d) m1 m2 = acA t n a b m1 m2 - q * acA t n c d m1 m2 := by unfold acA; grind
    rw [e]
    exact Int.dvd_sub h1 (Int.dvd_mul_of_dvd_right g1)
  · have e : acB (a - q * c) (b - q * d) m1 m2 = acB a b m1 m2 - q * acB c d m1 m2 := by unfold acB; grind
    rw [e]
    exact Int.dvd_sub h2 (Int.dvd_mul_of_dvd_right g2)
theorem PT_sz (t n m1 m2 c : Int) : PT t n (sz t n m1 m2 * c) 0 m1 m2 := by
  constructor
  · exact ⟨c * (m1 + t * m2), by unfold acA; grind⟩
  · exact ⟨-(c * m2), by unfold acB; grind⟩
/-- whole numbers that are multiples are multiples of the size -/
theorem PT_int {t n m1 m2 e : Int} (hS : 0 < sz t n m1 m2) (hl : ∀ d : Int, 1 ≤ d → d < sz t n m1 m2 → ¬ PT t n d 0 m1 m2) : PT t n e 0 m1 m2 ↔ sz t n m1 m2 ∣ e := by
  constructor
  · intro h
    have h1 := PT_sub h (PT_sz t n m1 m2 1) (e / sz t n m1 m2)
    have e1 := Int.emod_add_mul_ediv e (sz t n m1 m2)
    have e2 : e - e / sz t n m1 m2 * (sz t n m1 m2 * 1) = e % sz t n m1 m2 := by
      have : e / sz t n m1 m2 * (sz t n m1 m2 * 1) = sz t n m1 m2 * (e / sz t n m1 m2) := by grind
      omega
    rw [e2, Int.mul_zero, Int.sub_zero] at h1
    have p1 := Int.emod_nonneg e (show sz t n m1 m2 ≠ 0 by omega)
    have p2 := Int.emod_lt_of_pos e hS
    by_cases z : e % sz t n m1 m2 = 0
    · exact Int.dvd_of_emod_eq_zero z
    · exact absurd h1 (hl _ (by omega) p2)
  · rintro ⟨c, rfl⟩
    exact PT_sz t n m1 m2 c
theorem dg_iff {t n m1 m2 w : Int} (h : BS t n m1 m2 w) (x : Int × Int) {d : Int} (d0 : 0 ≤ d) (d1 : d < sz t n m1 m2) : PT t n (x.1 - d) x.2 m1 m2 ↔ d = dg t n m1 m2 w x := by
  obtain ⟨-, -, -, ⟨s1, s2⟩, hl, hw, -⟩ := h
  have e1 : PT t n (x.1 - d) x.2 m1 m2 ↔ PT t n (x.1 + x.2 * w - d) 0 m1 m2 := by
    constructor
    · intro g
      have := PT_sub g hw x.2
      rw [show x.1 - d - x.2 * -w = x.1 + x.2 * w - d by grind, show x.2 - x.2 * 1 = 0 by omega] at this
      exact this
    · intro g
      have := PT_sub g hw (-x.2)
      rw [show x.1 + x.2 * w - d - -x.2 * -w = x.1 - d by grind, show (0 : Int) - -x.2 * 1 = x.2 by omega] at this
      exact this
  rw [e1, PT_int (by omega) hl]
  unfold dg
  generalize x.1 + x.2 * w = v
  have k1 := Int.emod_add_mul_ediv v (sz t n m1 m2)
  constructor
  · rintro ⟨c, hc⟩
    have : v = d + sz t n m1 m2 * c := by omega
    rw [this, Int.add_mul_emod_self_left, Int.emod_eq_of_lt d0 d1]
  · intro e
    exact ⟨v / sz t n m1 m2, by omega⟩
theorem dg_b {t n m1 m2 w : Int} (h : BS t n m1 m2 w) (x : Int × Int) : 0 ≤ dg t n m1 m2 w x ∧ dg t n m1 m2 w x < sz t n m1 m2 := by
  obtain ⟨-, -, -, ⟨s1, s2⟩, -⟩ := h
  exact ⟨Int.emod_nonneg _ (by omega), Int.emod_lt_of_pos _ (by omega)⟩
theorem nx_mul {t n m1 m2 w : Int} (h : BS t n m1 m2 w) (x : Int × Int) : x.1 - dg t n m1 m2 w x = mA n (nx t n m1 m2 w x).1 (nx t n m1 m2 w x).2 m1 m2 ∧ x.2 = mB t (nx t n m1 m2 w x).1 (nx t n m1 m2 w x).2 m1 m2 := by
  have hb := dg_b h x
  have hp := (dg_iff h x hb.1 hb.2).mpr rfl
  have hS : 0 < sz t n m1 m2 := by have := h.2.2.2.1; omega
  obtain ⟨z1, z2, e1, e2⟩ := (PT_iff hS).mp hp
  have k1 : acA t n (x.1 - dg t n m1 m2 w x) x.2 m1 m2 = z1 * sz t n m1 m2 := by rw [e1, e2]; unfold acA mA mB sz; grind
  have k2 : acB (x.1 - dg t n m1 m2 w x) x.2 m1 m2 = z2 * sz t n m1 m2 := by rw [e1, e2]; unfold acB mA mB sz; grind
  have k3 : nx t n m1 m2 w x = (z1, z2) := by
    unfold nx
    rw [k1, k2, Int.mul_ediv_cancel _ (by omega), Int.mul_ediv_cancel _ (by omega)]
  rw [k3]
  exact ⟨e1, e2⟩
theorem nx_sz {t n m1 m2 w : Int} (h : BS t n m1 m2 w) (x : Int × Int) : sz t n (nx t n m1 m2 w x).1 (nx t n m1 m2 w x).2 * sz t n m1 m2 = sz t n (x.1 - dg t n m1 m2 w x) x.2 := by
  obtain ⟨e1, e2⟩ := nx_mul h x
  rw [← sz_mulm, ← e1, ← e2]
theorem NQ_00 {t n c d : Int} (h : TN t n) (hS : 0 < sz t n c d) : NQ t n 0 0 c d = (0, 0) := by
  have a0 : acA t n 0 0 c d = 0 := by unfold acA; grind
  have b0 : acB 0 0 c d = 0 := by unfold acB; grind
  unfold NQ
  rw [a0, b0, Int.zero_emod, Int.zero_ediv]
  have k : NQc t n (sz t n c d) 0 0 = (0, 0) := by
    generalize sz t n c d = S at *
    have p1 : ¬ eE t n S 0 0 0 1 < eE t n S 0 0 0 0 := by
      have e1 : eE t n S 0 0 0 1 = S * n := by unfold eE; grind
      have e2 : eE t n S 0 0 0 0 = 0 := by unfold eE; grind
      rw [e1, e2]
      have := Int.mul_nonneg (show 0 ≤ S by omega) (show 0 ≤ n by unfold TN at h; omega)
      omega
    have p2 : ¬ eE t n S 0 0 1 0 < eE t n S 0 0 0 0 := by
      have e1 : eE t n S 0 0 1 0 = S := by unfold eE; grind
      have e2 : eE t n S 0 0 0 0 = 0 := by unfold eE; grind
      omega
    have p3 : ¬ eE t n S 0 0 1 1 < eE t n S 0 0 0 0 := by
      have e1 : eE t n S 0 0 1 1 = S * (1 + t + n) := by unfold eE; grind
      have e2 : eE t n S 0 0 0 0 = 0 := by unfold eE; grind
      rw [e1, e2]
      have := Int.mul_nonneg (show 0 ≤ S by omega) (show 0 ≤ 1 + t + n by unfold TN at h; omega)
      omega
    unfold NQc stp
    rw [if_neg p1, if_neg p2, if_neg p3]
  rw [k]
  rfl
theorem NQ_nx {t n m1 m2 w : Int} (h : BS t n m1 m2 w) (x : Int × Int) : NQ t n (x.1 - dg t n m1 m2 w x) x.2 m1 m2 = nx t n m1 m2 w x := by
  obtain ⟨e1, e2⟩ := nx_mul h x
  have hS : 0 < sz t n m1 m2 := by have := h.2.2.2.1; omega
  have := NQ_tr (a := 0) (b := 0) hS (nx t n m1 m2 w x).1 (nx t n m1 m2 w x).2
  rw [Int.zero_add, Int.zero_add, ← e1, ← e2, NQ_00 h.1 hS] at this
  rw [this]
  refine Prod.ext ?_ ?_ <;> dsimp only <;> omega
/-! the base: both find it -/
theorem base_w {t n m1 m2 : Int} (h : TN t n) (hm1 : rng m1) (hm2 : rng m2) (hS : 2 ≤ sz t n m1 m2) (hl : ∀ d : Int, 1 ≤ d → d < sz t n m1 m2 → ¬ PT t n d 0 m1 m2) : ∃ w, 0 ≤ w ∧ w < sz t n m1 m2 ∧ PT t n (-w) 1 m1 m2 := by
  have bm2 : big m2 := by unfold big rng at *; omega
  obtain ⟨u, v, bz⟩ := GD_bez (x := m1) bm2
  obtain ⟨⟨c1, e1⟩, c2, e2⟩ := GD_dvd (x := m1) bm2
  have g0 := (GD_spec (x := m1) bm2).1
  generalize GD m1 m2 = g at *
  have hg : g = 1 := by
    have es : sz t n m1 m2 = g * (g * sz t n c1 c2) := by rw [e1, e2]; unfold sz; grind
    have nn := sz_nn h c1 c2
    by_cases z : g = 1
    · exact z
    · exfalso
      have g1 : g ≠ 0 := by rintro rfl; rw [Int.zero_mul] at es; omega
      have hpos : 1 ≤ sz t n c1 c2 := by
        rcases Int.lt_or_le 0 (sz t n c1 c2) with y | y
        · omega
        · have : sz t n c1 c2 = 0 := by omega
          rw [this] at es
          omega
      have p1 : 1 ≤ g * sz t n c1 c2 := by
        have := Int.mul_le_mul (show 1 ≤ g by omega) hpos (by omega) (by omega)
        omega
      have p2 : g * sz t n c1 c2 < sz t n m1 m2 := by
        have := Int.mul_le_mul_of_nonneg_right (show 2 ≤ g by omega) (show 0 ≤ g * sz t n c1 c2 by omega)
        omega
      refine hl _ p1 p2 ⟨⟨c1 + t * c2, ?_⟩, ⟨-c2, ?_⟩⟩
      · rw [es, e1, e2]; unfold acA; grind
      · rw [es, e1, e2]; unfold acB; grind
  subst hg
  -- (v - t u + u w) m has the second part 1
  have hp : PT t n (mA n (v - t * u) u m1 m2) 1 m1 m2 := by
    rw [PT_iff (by omega)]
    refine ⟨v - t * u, u, rfl, ?_⟩
    unfold mB
    have : 1 = u * m1 + v * m2 := bz
    rw [this]; grind
  generalize mA n (v - t * u) u m1 m2 = r at hp
  refine ⟨(-r) % sz t n m1 m2, Int.emod_nonneg _ (by omega), Int.emod_lt_of_pos _ (by omega), ?_⟩
  have h1 := PT_sub hp (PT_sz t n m1 m2 1) (-((-r) / sz t n m1 m2))
  have k1 := Int.emod_add_mul_ediv (-r) (sz t n m1 m2)
  have k2 : r - -((-r) / sz t n m1 m2) * (sz t n m1 m2 * 1) = -((-r) % sz t n m1 m2) := by
    have : -((-r) / sz t n m1 m2) * (sz t n m1 m2 * 1) = -(sz t n m1 m2 * ((-r) / sz t n m1 m2)) := by grind
    omega
  rw [k2, show (1 : Int) - -((-r) / sz t n m1 m2) * 0 = 1 by omega] at h1
  exact h1
theorem take7_l {k : Nat} (hk : k < 5) {m1 m2 : Int} (h1 : rng m1) (h2 : rng m2) (hS : 2 ≤ sz (kT k) (kN k) m1 m2 ∧ sz (kT k) (kN k) m1 m2 ≤ 100) : ((∃ d : Int, 1 ≤ d ∧ d < sz (kT k) (kN k) m1 m2 ∧ PT (kT k) (kN k) d 0 m1 m2) ∧ ∃ y, whl (f_X5_takeBase_L46 (io (kT k)) (io (kN k)) (io (sz (kT k) (kN k) m1 m2)) (pk m1 m2)) ((1 : Int32), (0 : Int32)) = some (Sum.inl y)) ∨ ((∀ d : Int, 1 ≤ d → d < sz (kT k) (kN k) m1 m2 → ¬ PT (kT k) (kN k) d 0 m1 m2) ∧ ∃ w : Int, BS (kT k) (kN k) m1 m2 w ∧ whl (f_X5_takeBase_L46 (io (kT k)) (io (kN k)) (io (sz (kT k) (kN k) m1 m2)) (pk m1 m2)) ((1 : Int32), (0 : Int32)) = some (Sum.inr (io w))) := by
  have h := TN_k hk
  generalize hN : sz (kT k) (kN k) m1 m2 = N at *
  have step : ∀ (i w : Int), 1 ≤ i → i < N → (PT (kT k) (kN k) i 0 m1 m2 ∧ f_X5_takeBase_L46 (io (kT k)) (io (kN k)) (io N) (pk m1 m2) (io i, io w) = some (Sum.inr (Sum.inl (io w)))) ∨ (¬ PT (kT k) (kN k) i 0 m1 m2 ∧ ((PT (kT k) (kN k) (-i) 1 m1 m2 ∧ f_X5_takeBase_L46 (io (kT k)) (io (kN k)) (io N) (pk m1 m2) (io i, io w) = some (Sum.inl (io (i + 1), io i))) ∨ (¬ PT (kT k) (kN k) (-i) 1 m1 m2 ∧ f_X5_takeBase_L46 (io (kT k)) (io (kN k)) (io N) (pk m1 m2) (io i, io w) = some (Sum.inl (io (i + 1), io w))))) := by
    intro i w hi hi2
    have c1 : ¬ io N ≤ io i := fun e => by
      have := (io_le (by unfold i32; omega) (by unfold i32; omega)).mp e
      omega
    have e1 : f_X4_number (io i).toInt64 (0 : Int64) = pk i 0 := by
      rw [io_w (z := i) (by unfold i32; omega)]
      rfl
    have e2 : f_X4_less (1 : Int64) (pk i 0) = pk (-i) 1 := by
      rw [pk_w, less_pk (by unfold i32; omega) (by unfold i32; omega) (by unfold i32; omega) (by unfold i32; omega)]
      congr 1
      omega
    have P1 := part7 (a := i) (b := 0) h (by unfold xb; omega) (by unfold xb; omega) h1.y h2.y (by omega)
    have P2 := part7 (a := -i) (b := 1) h (by unfold xb; omega) (by unfold xb; omega) h1.y h2.y (by omega)
    unfold f_X5_takeBase_L46
    dsimp only
    rw [if_neg c1, e1, e2]
    rcases P1 with ⟨g1, f1⟩ | ⟨g1, f1⟩
    · left
      rw [f1]
      simp only [Option.bind_some, n10, ↓reduceIte]
      exact ⟨g1, trivial⟩
    · right
      rw [f1]
      simp only [Option.bind_some, ↓reduceIte]
      rcases P2 with ⟨g2, f2⟩ | ⟨g2, f2⟩
      · rw [f2]
        simp only [Option.bind_some, n10, ↓reduceIte]
        rw [io_1]
        exact ⟨g1, Or.inl ⟨g2, rfl⟩⟩
      · rw [f2]
        simp only [Option.bind_some, ↓reduceIte]
        rw [io_1]
        exact ⟨g1, Or.inr ⟨g2, rfl⟩⟩
  have uniqw : ∀ a b : Int, (∀ d : Int, 1 ≤ d → d < N → ¬ PT (kT k) (kN k) d 0 m1 m2) → 0 ≤ a → a < N → 0 ≤ b → b < N → PT (kT k) (kN k) (-a) 1 m1 m2 → PT (kT k) (kN k) (-b) 1 m1 m2 → a = b := by
    intro a b hl a0 a1 b0 b1 ha hb
    rcases Int.lt_trichotomy a b with z | z | z
    · have := PT_sub ha hb 1
      rw [show -a - 1 * -b = b - a by omega, show (1 : Int) - 1 * 1 = 0 by omega] at this
      exact absurd this (hl _ (by omega) (by omega))
    · exact z
    · have := PT_sub hb ha 1
      rw [show -b - 1 * -a = a - b by omega, show (1 : Int) - 1 * 1 = 0 by omega] at this
      exact absurd this (hl _ (by omega) (by omega))
  have key : ∃ z, whl (f_X5_takeBase_L46 (io (kT k)) (io (kN k)) (io N) (pk m1 m2)) ((1 : Int32), (0 : Int32)) = some z ∧ (((∃ d : Int, 1 ≤ d ∧ d < N ∧ PT (kT k) (kN k) d 0 m1 m2) ∧ ∃ y, z = Sum.inl y) ∨ ((∀ d : Int, 1 ≤ d → d < N → ¬ PT (kT k) (kN k) d 0 m1 m2) ∧ ∃ w : Int, z = Sum.inr (io w) ∧ 0 ≤ w ∧ w < N ∧ (w = 0 → ∀ d : Int, 1 ≤ d → d < N → ¬ PT (kT k) (kN k) (-d) 1 m1 m2) ∧ (¬ w = 0 → PT (kT k) (kN k) (-w) 1 m1 m2))) := by
    refine whl_fe (b := f_X5_takeBase_L46 (io (kT k)) (io (kN k)) (io N) (pk m1 m2)) (N - 1).toNat (fun i s => ∃ w : Int, s = (io ((i : Int) + 1), io w) ∧ 0 ≤ w ∧ w < N ∧ (∀ d : Int, 1 ≤ d → d < (i : Int) + 1 → ¬ PT (kT k) (kN k) d 0 m1 m2) ∧ (w = 0 → ∀ d : Int, 1 ≤ d → d < (i : Int) + 1 → ¬ PT (kT k) (kN k) (-d) 1 m1 m2) ∧ (¬ w = 0 → PT (kT k) (kN k) (-w) 1 m1 m2)) _ ?_ ?_ 0 _ (by omega) ⟨0, rfl, by omega, by omega, fun d a b => by omega, fun _ d a b => by omega, fun e => absurd rfl e⟩
    · rintro i s hi ⟨w, rfl, w0, w1, hl, hz, hw⟩
      rcases step ((i : Int) + 1) w (by omega) (by omega) with ⟨g, e⟩ | ⟨g, ⟨g2, e⟩ | ⟨g2, e⟩⟩
      · left
        exact ⟨_, e, Or.inl ⟨⟨(i : Int) + 1, by omega, by omega, g⟩, _, rfl⟩⟩
      · right
        refine ⟨_, e, (i : Int) + 1, rfl, by omega, by omega, ?_, fun z => by omega, fun _ => g2⟩
        intro d d0 d1
        by_cases z : d = (i : Int) + 1
        · rw [z]; exact g
        · exact hl d d0 (by omega)
      · right
        refine ⟨_, e, w, rfl, w0, w1, ?_, ?_, hw⟩
        · intro d d0 d1
          by_cases z : d = (i : Int) + 1
          · rw [z]; exact g
          · exact hl d d0 (by omega)
        · intro z0 d d0 d1
          by_cases z : d = (i : Int) + 1
          · rw [z]; exact g2
          · exact hz z0 d d0 (by omega)
    · rintro s ⟨w, rfl, w0, w1, hl, hz, hw⟩
      have e5 : (((N - 1).toNat : Nat) : Int) + 1 = N := by omega
      rw [e5] at hl hz ⊢
      refine ⟨_, ?_, Or.inr ⟨hl, w, rfl, w0, w1, hz, hw⟩⟩
      unfold f_X5_takeBase_L46
      dsimp only
      rw [if_pos (Int32.le_refl _)]
  obtain ⟨z, e, ⟨hd, y, rfl⟩ | ⟨hl, w, rfl, w0, w1, hz, hw⟩⟩ := key
  · exact Or.inl ⟨hd, y, e⟩
  · refine Or.inr ⟨hl, w, ?_, e⟩
    have hl' : ∀ d : Int, 1 ≤ d → d < sz (kT k) (kN k) m1 m2 → ¬ PT (kT k) (kN k) d 0 m1 m2 := by rw [hN]; exact hl
    obtain ⟨w', b0, b1, b2⟩ := base_w h h1 h2 (by omega) hl'
    rw [hN] at b1
    have hPw : PT (kT k) (kN k) (-w) 1 m1 m2 := by
      by_cases z : w = 0
      · by_cases z' : w' = 0
        · rw [z, ← z']; exact b2
        · exact absurd b2 (hz z w' (by omega) b1)
      · exact hw z
    exact ⟨h, h1, h2, by omega, hl', hPw, w0, by omega⟩
theorem isBase8 {k : Nat} (hk : k < 5) {m1 m2 : Int} (h1 : rng m1) (h2 : rng m2) {v : Int32} (s3 : ¬ (v < 0 ∨ 8 ≤ v.toNatClampNeg)) {gA gB : Nat → Int64} (s5 : gA v.toNatClampNeg = lo m1) (s6 : gB v.toNatClampNeg = lo m2) (x1 x2 : Int64) : ∃ y1 y2, (((2 ≤ sz (kT k) (kN k) m1 m2 ∧ sz (kT k) (kN k) m1 m2 ≤ 100) ∧ ∀ d : Int, 1 ≤ d → d < sz (kT k) (kN k) m1 m2 → ¬ PT (kT k) (kN k) d 0 m1 m2) ∧ f_X8_isBase (lo (kT k)) (lo (kN k)) x1 x2 gA gB v = some (1, y1, y2)) ∨ (¬ ((2 ≤ sz (kT k) (kN k) m1 m2 ∧ sz (kT k) (kN k) m1 m2 ≤ 100) ∧ ∀ d : Int, 1 ≤ d → d < sz (kT k) (kN k) m1 m2 → ¬ PT (kT k) (kN k) d 0 m1 m2) ∧ f_X8_isBase (lo (kT k)) (lo (kN k)) x1 x2 gA gB v = some (0, y1, y2)) := by
  have h := TN_k hk
  have nn := sz_nn h m1 m2
  have bb := sz_rng h h1 h2
  have hin : f_X8_in (lo (sz (kT k) (kN k) m1 m2)) 2 100 = 0 ↔ ¬ (2 ≤ sz (kT k) (kN k) m1 m2 ∧ sz (kT k) (kN k) m1 m2 ≤ 100) := in_lo (l := 2) (u := 100) (by unfold i64; omega) (by unfold i64; omega) (by unfold i64; omega)
  by_cases g : 2 ≤ sz (kT k) (kN k) m1 m2 ∧ sz (kT k) (kN k) m1 m2 ≤ 100
  · have key : ∃ z, whl (f_X8_isBase_L35 (lo (kT k)) (lo (kN k)) gA gB v) ((1 : Int64), x1, x2) = some z ∧ ∃ d : Int, z.1 = lo d ∧ 1 ≤ d ∧ d ≤ sz (kT k) (kN k) m1 m2 ∧ PT (kT k) (kN k) d 0 m1 m2 ∧ ∀ j : Int, 1 ≤ j → j < d → ¬ PT (kT k) (kN k) j 0 m1 m2 := by
      have step : ∀ (i : Int) (y1 y2 : Int64), 1 ≤ i → i ≤ sz (kT k) (kN k) m1 m2 → (PT (kT k) (kN k) i 0 m1 m2 ∧ ∃ y3 y4, f_X8_isBase_L35 (lo (kT k)) (lo (kN k)) gA gB v (lo i, y1, y2) = some (Sum.inr (lo i, y3, y4))) ∨ (¬ PT (kT k) (kN k) i 0 m1 m2 ∧ ∃ y3 y4, f_X8_isBase_L35 (lo (kT k)) (lo (kN k)) gA gB v (lo i, y1, y2) = some (Sum.inl (lo (i + 1), y3, y4))) := by
        intro i y1 y2 hi hi2
        have P1 := part8 (a := i) (b := 0) h (by unfold xb; omega) (by unfold xb; omega) h1.y h2.y (by omega) y1 y2
        have e1 : lo i + (1 : Int64) = lo (i + 1) := lo_add i 1
        unfold f_X8_isBase_L35
        dsimp only
        rw [if_neg s3, s5, s6]
        rcases P1 with ⟨g1, f1⟩ | ⟨g1, f1⟩
        · left
          have f1' : f_X8_isPart (lo (kT k)) (lo (kN k)) y1 y2 (lo i) (0 : Int64) (lo m1) (lo m2) = _ := f1
          rw [f1']
          simp only [Option.bind_some, n10, ↓reduceIte]
          exact ⟨g1, _, _, rfl⟩
        · right
          have f1' : f_X8_isPart (lo (kT k)) (lo (kN k)) y1 y2 (lo i) (0 : Int64) (lo m1) (lo m2) = _ := f1
          rw [f1']
          simp only [Option.bind_some, ↓reduceIte]
          rw [e1]
          exact ⟨g1, _, _, rfl⟩
      refine whl_fe (b := f_X8_isBase_L35 (lo (kT k)) (lo (kN k)) gA gB v) (sz (kT k) (kN k) m1 m2 - 1).toNat (fun i s => s.1 = lo ((i : Int) + 1) ∧ ∀ j : Int, 1 ≤ j → j < (i : Int) + 1 → ¬ PT (kT k) (kN k) j 0 m1 m2) _ ?_ ?_ 0 _ (by omega) ⟨rfl, fun j a b => by omega⟩
      · rintro i ⟨s1, s2, s4⟩ hi ⟨e1, hs⟩
        dsimp only at e1
        rw [e1]
        rcases step ((i : Int) + 1) s2 s4 (by omega) (by omega) with ⟨g1, y3, y4, e⟩ | ⟨g1, y3, y4, e⟩
        · left
          exact ⟨_, e, (i : Int) + 1, rfl, by omega, by omega, g1, hs⟩
        · right
          refine ⟨_, e, rfl, fun j a b => ?_⟩
          by_cases z : j = (i : Int) + 1
          · rw [z]; exact g1
          · exact hs j a (by omega)
      · rintro ⟨s1, s2, s4⟩ ⟨e1, hs⟩
        dsimp only at e1
        have e5 : (((sz (kT k) (kN k) m1 m2 - 1).toNat : Nat) : Int) + 1 = sz (kT k) (kN k) m1 m2 := by omega
        rw [e5] at e1 hs
        rw [e1]
        have hp := PT_sz (kT k) (kN k) m1 m2 1
        rw [Int.mul_one] at hp
        rcases step (sz (kT k) (kN k) m1 m2) s2 s4 (by omega) (by omega) with ⟨g1, y3, y4, e⟩ | ⟨g1, y3, y4, e⟩
        · exact ⟨_, e, _, rfl, by omega, by omega, g1, hs⟩
        · exact absurd hp g1
    obtain ⟨⟨z1, z2, z3⟩, e, d, hd, d0, d1, d2, d3⟩ := key
    dsimp only at hd
    refine ⟨z2, z3, ?_⟩
    have c1 : lo d = lo (sz (kT k) (kN k) m1 m2) ↔ d = sz (kT k) (kN k) m1 m2 := lo_eq (by unfold i64; omega) (by unfold i64; omega)
    have E : f_X8_isBase (lo (kT k)) (lo (kN k)) x1 x2 gA gB v = (if lo d = lo (sz (kT k) (kN k) m1 m2) then some ((1 : Int32), z2, z3) else some ((0 : Int32), z2, z3)) := by
      unfold f_X8_isBase f_X8_isBase_K35_66
      rw [if_neg s3, s5, s6, sizeOf_m, if_neg (fun e => hin.mp e g), e, hd]
      rfl
    rw [E]
    by_cases z : d = sz (kT k) (kN k) m1 m2
    · left
      rw [if_pos (c1.mpr z)]
      exact ⟨⟨g, fun j a b => d3 j a (by omega)⟩, rfl⟩
    · right
      rw [if_neg (fun e => z (c1.mp e))]
      exact ⟨fun q => q.2 d d0 (by omega) d2, rfl⟩
  · refine ⟨x1, x2, Or.inr ⟨fun q => g q.1, ?_⟩⟩
    unfold f_X8_isBase
    rw [if_neg s3, s5, s6, sizeOf_m, if_pos (hin.mpr g)]
theorem takeBase7 {k : Nat} (hk : k < 5) {m1 m2 : Int} (h1 : rng m1) (h2 : rng m2) (b : Int64) (s d : Int32) : (¬ ((2 ≤ sz (kT k) (kN k) m1 m2 ∧ sz (kT k) (kN k) m1 m2 ≤ 100) ∧ ∀ d : Int, 1 ≤ d → d < sz (kT k) (kN k) m1 m2 → ¬ PT (kT k) (kN k) d 0 m1 m2) ∧ ∃ y1 y2 y3, f_X5_takeBase (io (kT k)) (io (kN k)) b s d (pk m1 m2) = some (0, y1, y2, y3)) ∨ ∃ w, BS (kT k) (kN k) m1 m2 w ∧ f_X5_takeBase (io (kT k)) (io (kN k)) b s d (pk m1 m2) = some (1, pk m1 m2, io (sz (kT k) (kN k) m1 m2), io w) := by
  have h := TN_k hk
  have nn := sz_nn h m1 m2
  have bb := sz_rng h h1 h2
  have c1 : lo (sz (kT k) (kN k) m1 m2) < (2 : Int64) ↔ sz (kT k) (kN k) m1 m2 < 2 := lo_lt (b := 2) (by unfold i64; omega) (by unfold i64; omega)
  have c2 : lo (sz (kT k) (kN k) m1 m2) ≤ (100 : Int64) ↔ sz (kT k) (kN k) m1 m2 ≤ 100 := lo_le (b := 100) (by unfold i64; omega) (by unfold i64; omega)
  have es := sizeOf_pk (kT_i k) (kN_i k) h1.i h2.i
  by_cases g1 : sz (kT k) (kN k) m1 m2 < 2
  · left
    refine ⟨fun q => by omega, b, s, d, ?_⟩
    unfold f_X5_takeBase
    rw [es, if_pos (c1.mpr g1)]
  · by_cases g2 : sz (kT k) (kN k) m1 m2 ≤ 100
    · have E : f_X5_takeBase (io (kT k)) (io (kN k)) b s d (pk m1 m2) = Option.bind (whl (f_X5_takeBase_L46 (io (kT k)) (io (kN k)) (io (sz (kT k) (kN k) m1 m2)) (pk m1 m2)) ((1 : Int32), (0 : Int32))) (Sum.elim (fun y46 => f_X5_takeBase_K46_73 (pk m1 m2) (io (sz (kT k) (kN k) m1 m2)) y46) (fun y46 => f_X5_takeBase_K46_109 (pk m1 m2) (io (sz (kT k) (kN k) m1 m2)) y46)) := by
        unfold f_X5_takeBase
        rw [es, if_neg (fun e => g1 (c1.mp e)), if_pos (c2.mpr g2), lo_n]
      rw [E]
      rcases take7_l hk h1 h2 (by omega) with ⟨⟨d', d0, d1, d2⟩, y, e⟩ | ⟨hl, w, hw, e⟩
      · left
        rw [e]
        exact ⟨fun q => q.2 d' d0 d1 d2, _, _, _, rfl⟩
      · right
        rw [e]
        exact ⟨w, hw, rfl⟩
    · left
      refine ⟨fun q => by omega, b, s, d, ?_⟩
      unfold f_X5_takeBase
      rw [es, if_neg (fun e => g1 (c1.mp e)), if_neg (fun e => g2 (c2.mp e))]
