/-! the shortest of a net within the net: the class' reduction -/
def Bf (t n a b c d : Int) : Int := sz t n (a + c) (b + d) - sz t n a b - sz t n c d
theorem Bf_comm (t n a b c d : Int) : Bf t n a b c d = Bf t n c d a b := by unfold Bf sz; grind
theorem sz_comb (t n a b c d i j : Int) : sz t n (i * a + j * c) (i * b + j * d) = i * i * sz t n a b + i * j * Bf t n a b c d + j * j * sz t n c d := by unfold Bf sz; grind
theorem Bf_step (t n a b c d k : Int) : Bf t n a b (c - k * a) (d - k * b) = Bf t n a b c d - 2 * k * sz t n a b := by unfold Bf sz; grind
theorem sz_step (t n a b c d k : Int) : sz t n (c - k * a) (d - k * b) = sz t n c d - k * Bf t n a b c d + k * k * sz t n a b := by unfold Bf sz; grind
theorem sz_minus (t n a b c d : Int) : sz t n (a - c) (b - d) = sz t n a b + sz t n c d - Bf t n a b c d := by unfold Bf sz; grind
/-- how a step shortens -/
theorem short_step {t n a b c d : Int} (hg : 0 < sz t n a b) {k : Int} (hk : k = (Bf t n a b c d + sz t n a b) / (2 * sz t n a b)) (k0 : ¬ k = 0) : sz t n (c - k * a) (d - k * b) < sz t n c d ∨ (sz t n (c - k * a) (d - k * b) = sz t n c d ∧ Bf t n a b c d = sz t n a b ∧ Bf t n a b (c - k * a) (d - k * b) = -sz t n a b) := by
  have e1 := sz_step t n a b c d k
  have e2 := Bf_step t n a b c d k
  have m1 := Int.emod_add_mul_ediv (Bf t n a b c d + sz t n a b) (2 * sz t n a b)
  have m2 := Int.emod_nonneg (Bf t n a b c d + sz t n a b) (show 2 * sz t n a b ≠ 0 by omega)
  have m3 := Int.emod_lt_of_pos (Bf t n a b c d + sz t n a b) (show 0 < 2 * sz t n a b by omega)
  rw [← hk] at m1
  generalize (Bf t n a b c d + sz t n a b) % (2 * sz t n a b) = ρ at *
  generalize Bf t n a b (c - k * a) (d - k * b) = B' at *
  generalize sz t n (c - k * a) (d - k * b) = N' at *
  generalize Bf t n a b c d = B at *
  generalize sz t n a b = G at *
  generalize sz t n c d = N at *
  -- B = 2 G k - G + ρ
  have eB : B = 2 * G * k - G + ρ := by omega
  have ekB : k * B = 2 * (k * k * G) - k * G + k * ρ := by rw [eB]; grind
  have eKG : 2 * k * G = 2 * G * k := by grind
  rcases Int.lt_or_le 0 k with g | g
  · -- k >= 1
    have q1 := Int.mul_nonneg (show 0 ≤ k * G by exact Int.mul_nonneg (by omega) (by omega)) (show 0 ≤ k - 1 by omega)
    have q2 : k * G * (k - 1) = k * k * G - k * G := by grind
    have q3 := Int.mul_nonneg (show 0 ≤ k by omega) m2
    rcases Int.lt_or_le N' N with z | z
    · exact Or.inl z
    · right
      have q4 : k * ρ = 0 := by omega
      have hρ : ρ = 0 := by
        rcases Int.mul_eq_zero.mp q4 with y | y
        · omega
        · exact y
      have q5 : k * G * (k - 1) = 0 := by omega
      have hk1 : k = 1 := by
        rcases Int.mul_eq_zero.mp q5 with y | y
        · rcases Int.mul_eq_zero.mp y with y | y <;> omega
        · omega
      subst hk1
      omega
  · -- k <= -1
    left
    have q1 := Int.mul_nonneg (show 0 ≤ -k * G by exact Int.mul_nonneg (by omega) (by omega)) (show 0 ≤ -k - 1 by omega)
    have q2 : -k * G * (-k - 1) = k * k * G + k * G := by grind
    have q3 := Int.mul_le_mul_of_nonneg_left (show ρ + 1 ≤ 2 * G by omega) (show 0 ≤ -k by omega)
    have q4 : -k * (ρ + 1) = -(k * ρ) - k := by grind
    have q5 : -k * (2 * G) = -(2 * (k * G)) := by grind
    have e6 : 2 * k * G = 2 * (k * G) := by grind
    omega
def RED (t n a b c d : Int) : Prop := 0 < sz t n a b ∧ sz t n a b ≤ sz t n c d ∧ -sz t n a b ≤ Bf t n a b c d ∧ Bf t n a b c d < sz t n a b
theorem near7 {t n a b c d : Int} (h : TN t n) (ha : yb a) (hb : yb b) (hc : yb c) (hd : yb d) (hg : 0 < sz t n a b) (hs : sz t n a b ≤ 300000 ∧ sz t n c d ≤ 300000) : f_X1_nearestMultiple (io t) (io n) (pk a b) (pk c d) = some (lo ((Bf t n a b c d + sz t n a b) / (2 * sz t n a b))) := by
  have c1 : lo (sz t n a b) = (0 : Int64) ↔ sz t n a b = 0 := lo_eq (b := 0) (by unfold i64; omega) (by unfold i64; omega)
  have nc := sz_nn h c d
  have tr := sz_lam1 h a b c d
  have tr0 := sz_nn h (a + c) (b + d)
  have e2 : (2 : Int64) * lo (sz t n a b) = lo (2 * sz t n a b) := lo_mul 2 _
  have eB : sz t n (a + c) (b + d) - sz t n a b - sz t n c d = Bf t n a b c d := rfl
  unfold f_X1_nearestMultiple
  rw [sizeOf_pk h.it h.in ha.i hb.i, if_neg (fun e => by have := c1.mp e; omega), plus_pk ha.i hb.i hc.i hd.i, sizeOf_pk h.it h.in (by unfold yb i32 at *; omega) (by unfold yb i32 at *; omega), sizeOf_pk h.it h.in hc.i hd.i, lo_sub, lo_sub, lo_add, e2, eB]
  have hB : -600000 ≤ Bf t n a b c d ∧ Bf t n a b c d ≤ 2000000 := by rw [← eB]; omega
  rw [fl7 (by unfold i64; omega) (by unfold i64; omega) (by omega)]
  rfl
def FLG (t n a b c d : Int) : Int := if Bf t n a b c d = (if sz t n a b ≤ sz t n c d then sz t n a b else sz t n c d) then 1 else 0
theorem yb_600 {t n a b : Int} (h : TN t n) (hs : sz t n a b ≤ 300000) : yb a ∧ yb b := yb_of h (by omega)
/-- one round of the reduction, sorted -/
theorem red_one {t n a b c d : Int} (h : TN t n) (hg : 0 < sz t n a b) (hle : sz t n a b ≤ sz t n c d) (hs : sz t n c d ≤ 300000) : (RED t n a b c d ∧ f_X1_nearestMultiple (io t) (io n) (pk a b) (pk c d) = some (0 : Int64)) ∨ ∃ k : Int, i32 k ∧ ¬ lo k = (0 : Int64) ∧ f_X1_nearestMultiple (io t) (io n) (pk a b) (pk c d) = some (lo k) ∧ f_X4_less (pk c d) (f_X4_times (io t) (io n) (f_X4_number (lo k) 0) (pk a b)) = pk (c - k * a) (d - k * b) ∧ sz t n (c - k * a) (d - k * b) ≤ sz t n c d ∧ 2 * (sz t n a b + sz t n (c - k * a) (d - k * b)) + FLG t n a b (c - k * a) (d - k * b) < 2 * (sz t n a b + sz t n c d) + FLG t n a b c d := by
  obtain ⟨ya, yB⟩ := yb_600 h (show sz t n a b ≤ 300000 by omega)
  obtain ⟨yc, yd⟩ := yb_600 h hs
  have N7 := near7 h ya yB yc yd hg ⟨by omega, hs⟩
  have tr := sz_lam1 h a b c d
  have tr0 := sz_nn h (a + c) (b + d)
  have eB : sz t n (a + c) (b + d) - sz t n a b - sz t n c d = Bf t n a b c d := rfl
  have m1 := Int.emod_add_mul_ediv (Bf t n a b c d + sz t n a b) (2 * sz t n a b)
  have m2 := Int.emod_nonneg (Bf t n a b c d + sz t n a b) (show 2 * sz t n a b ≠ 0 by omega)
  have m3 := Int.emod_lt_of_pos (Bf t n a b c d + sz t n a b) (show 0 < 2 * sz t n a b by omega)
  have ss := fun k0 => short_step (c := c) (d := d) hg (k := (Bf t n a b c d + sz t n a b) / (2 * sz t n a b)) rfl k0
  generalize hk : (Bf t n a b c d + sz t n a b) / (2 * sz t n a b) = k at *
  by_cases k0 : k = 0
  · left
    subst k0
    rw [N7]
    exact ⟨⟨hg, hle, by omega, by omega⟩, rfl⟩
  · right
    have hkb : -3000000 ≤ k ∧ k ≤ 3000000 := by
      rcases Int.lt_or_le 0 k with g | g
      · have := Int.mul_le_mul_of_nonneg_right (show 2 ≤ 2 * sz t n a b by omega) (show 0 ≤ k by omega)
        omega
      · have := Int.mul_le_mul_of_nonneg_right (show 2 ≤ 2 * sz t n a b by omega) (show 0 ≤ -k by omega)
        have e : 2 * sz t n a b * -k = -(2 * sz t n a b * k) := by grind
        omega
    have ik : i32 k := by unfold i32; omega
    have nk : ¬ lo k = (0 : Int64) := lo_nz ik.w k0
    have sle : sz t n (c - k * a) (d - k * b) ≤ sz t n c d := by rcases ss k0 with z | ⟨z, -⟩ <;> omega
    obtain ⟨yc', yd'⟩ := yb_600 h (show sz t n (c - k * a) (d - k * b) ≤ 300000 by omega)
    have L7 : f_X4_less (pk c d) (f_X4_times (io t) (io n) (f_X4_number (lo k) 0) (pk a b)) = pk (c - k * a) (d - k * b) := by
      have e0 : f_X4_number (lo k) 0 = pk k 0 := rfl
      have eA : mA n k 0 a b = k * a := by unfold mA; grind
      have eB : mB t k 0 a b = k * b := by unfold mB; grind
      rw [e0, lt7 h yc.wb yd.wb ik (by unfold i32; omega) ya.i yB.i (by rw [eA]; exact yc'.wb) (by rw [eB]; exact yd'.wb), eA, eB]
    refine ⟨k, ik, nk, N7, L7, sle, ?_⟩
    have f1 : 0 ≤ FLG t n a b c d ∧ FLG t n a b c d ≤ 1 := by unfold FLG; split <;> omega
    have f2 : 0 ≤ FLG t n a b (c - k * a) (d - k * b) ∧ FLG t n a b (c - k * a) (d - k * b) ≤ 1 := by
      generalize c - k * a = X
      generalize d - k * b = Y
      unfold FLG
      generalize (if sz t n a b ≤ sz t n X Y then sz t n a b else sz t n X Y) = Z
      split <;> omega
    rcases ss k0 with z | ⟨z1, z2, z3⟩
    · omega
    · have g1 : FLG t n a b c d = 1 := by
        unfold FLG
        rw [if_pos hle, if_pos z2]
      have g2 : FLG t n a b (c - k * a) (d - k * b) = 0 := by
        unfold FLG
        rw [z1, if_pos hle, z3, if_neg (by omega)]
      omega
theorem FLG_comm (t n a b c d : Int) : FLG t n a b c d = FLG t n c d a b := by
  unfold FLG
  rw [Bf_comm t n a b c d]
  congr 2
  split <;> split <;> omega
theorem SP_swap (A B C D x y : Int) : SP A B C D x y ↔ SP C D A B x y := by
  constructor
  · rintro ⟨v, w, rfl, rfl⟩; exact ⟨w, v, by omega, by omega⟩
  · rintro ⟨v, w, rfl, rfl⟩; exact ⟨w, v, by omega, by omega⟩
theorem SP_less (A B C D k x y : Int) : SP A B (C - k * A) (D - k * B) x y ↔ SP A B C D x y := by
  constructor
  · rintro ⟨v, w, rfl, rfl⟩
    exact ⟨v - w * k, w, by grind, by grind⟩
  · rintro ⟨v, w, rfl, rfl⟩
    exact ⟨v + w * k, w, by grind, by grind⟩
theorem red7 {t n : Int} (h : TN t n) : ∀ (f : Nat) (a b c d i : Int), 0 < sz t n a b → 0 < sz t n c d → ¬ a * d - b * c = 0 → sz t n a b ≤ 300000 → sz t n c d ≤ 300000 → 2 * (sz t n a b + sz t n c d) + FLG t n a b c d < (f : Int) → 0 ≤ i → i + f < 1500000 → i + f < 1000000 + 0 * f ∨ i + 2 * (sz t n a b + sz t n c d) + FLG t n a b c d < 999999 → ∃ a' b' c' d' : Int, whl (f_X1_shortest_L25 (io t) (io n)) (pk a b, pk c d, io i) = some (Sum.inl (pk a' b', pk c' d')) ∧ RED t n a' b' c' d' ∧ (∀ x y, SP a' b' c' d' x y ↔ SP a b c d x y) ∧ sz t n c' d' ≤ 300000 ∧ ¬ a' * d' - b' * c' = 0 := by
  intro f
  induction f with
  | zero =>
    intro a b c d i hg hh hdet s1 s2 hmu
    have f1 : 0 ≤ FLG t n a b c d := by unfold FLG; split <;> omega
    omega
  | succ f ih =>
    intro a b c d i hg hh hdet s1 s2 hmu hi hi2 hi3
    have f1 : 0 ≤ FLG t n a b c d := by unfold FLG; split <;> omega
    have c1 : ¬ ((1000000 : Int32) ≤ io i) := fun e => by
      have := (io_le (a := 1000000) (by unfold i32; omega) (by unfold i32; omega)).mp e
      omega
    obtain ⟨ya, yB⟩ := yb_600 h s1
    obtain ⟨yc, yd⟩ := yb_600 h s2
    have c2 : lo (sz t n a b) ≤ lo (sz t n c d) ↔ sz t n a b ≤ sz t n c d := lo_le (by unfold i64; omega) (by unfold i64; omega)
    have z1 := sizeOf_pk h.it h.in ya.i yB.i
    have z2 := sizeOf_pk h.it h.in yc.i yd.i
    by_cases hle : sz t n a b ≤ sz t n c d
    · rcases red_one h hg hle s2 with ⟨hr, e⟩ | ⟨k, ik, nk, e, L7, sle, mu⟩
      · refine ⟨a, b, c, d, whl_r ?_, hr, fun x y => Iff.rfl, s2, hdet⟩
        unfold f_X1_shortest_L25
        dsimp only
        rw [if_neg c1, z1, z2, if_pos (c2.mpr hle), e]
        rfl
      · have hdet' : ¬ a * (d - k * b) - b * (c - k * a) = 0 := by
          have : a * (d - k * b) - b * (c - k * a) = a * d - b * c := by grind
          rw [this]; exact hdet
        have hpos : 0 < sz t n (c - k * a) (d - k * b) := by
          refine sz_pos h ?_
          rintro ⟨q1, q2⟩
          rw [q1, q2] at hdet'
          exact hdet' (by omega)
        obtain ⟨a', b', c', d', w, hr, hsp, hb, hd'⟩ := ih a b (c - k * a) (d - k * b) (i + 1) hg hpos hdet' s1 (by omega) (by omega) (by omega) (by omega) (by omega)
        refine ⟨a', b', c', d', (whl_l ?_).trans w, hr, fun x y => (hsp x y).trans (SP_less a b c d k x y), hb, hd'⟩
        unfold f_X1_shortest_L25
        dsimp only
        rw [if_neg c1, z1, z2, if_pos (c2.mpr hle), e]
        simp only [Option.bind_some, nk, ↓reduceIte]
        rw [L7, io_1]
    · have c2' := fun q => hle (c2.mp q)
      have hmu' := FLG_comm t n a b c d
      rcases red_one (a := c) (b := d) (c := a) (d := b) h hh (by omega) s1 with ⟨hr, e⟩ | ⟨k, ik, nk, e, L7, sle, mu⟩
      · refine ⟨c, d, a, b, whl_r ?_, hr, fun x y => SP_swap c d a b x y, s1, ?_⟩
        · unfold f_X1_shortest_L25
          dsimp only
          rw [if_neg c1, z1, z2, if_neg c2', e]
          rfl
        · intro q
          apply hdet
          have : a * d - b * c = -(c * b - d * a) := by grind
          omega
      · have hdet' : ¬ c * (b - k * d) - d * (a - k * c) = 0 := by
          have : c * (b - k * d) - d * (a - k * c) = -(a * d - b * c) := by grind
          omega
        have hpos : 0 < sz t n (a - k * c) (b - k * d) := by
          refine sz_pos h ?_
          rintro ⟨q1, q2⟩
          rw [q1, q2] at hdet'
          exact hdet' (by omega)
        obtain ⟨a', b', c', d', w, hr, hsp, hb, hd'⟩ := ih c d (a - k * c) (b - k * d) (i + 1) hh hpos hdet' s2 (by omega) (by omega) (by omega) (by omega) (by omega)
        refine ⟨a', b', c', d', (whl_l ?_).trans w, hr, fun x y => (hsp x y).trans ((SP_less c d a b k x y).trans (SP_swap c d a b x y)), hb, hd'⟩
        unfold f_X1_shortest_L25
        dsimp only
        rw [if_neg c1, z1, z2, if_neg c2', e]
        simp only [Option.bind_some, nk, ↓reduceIte]
        rw [L7, io_1]
/-- no sum of a reduced pair is shorter -/
theorem red_i {t n a b c d : Int} (h : RED t n a b c d) (i j : Int) : 3 * (sz t n a b * (i * i)) ≤ 4 * sz t n (i * a + j * c) (i * b + j * d) ∧ 3 * (sz t n a b * (j * j)) ≤ 4 * sz t n (i * a + j * c) (i * b + j * d) := by
  obtain ⟨h1, h2, h3, h4⟩ := h
  rw [sz_comb]
  generalize sz t n a b = G at *
  generalize sz t n c d = N at *
  generalize Bf t n a b c d = B at *
  have j2 := Int.mul_nonneg (sq_nn j) (show 0 ≤ N - G by omega)
  have e2 : j * j * (N - G) = j * j * N - j * j * G := by grind
  rcases Int.le_total 0 (i * j) with z | z
  · have q1 := Int.mul_nonneg z (show 0 ≤ B + G by omega)
    have q2 := Int.mul_nonneg (show 0 ≤ G by omega) (sq_nn (2 * j - i))
    have q3 := Int.mul_nonneg (show 0 ≤ G by omega) (sq_nn (2 * i - j))
    have e1 : i * j * (B + G) = i * j * B + i * j * G := by grind
    have e3 : G * ((2 * j - i) * (2 * j - i)) = 4 * (j * j * G) - 4 * (i * j * G) + G * (i * i) := by grind
    have e4 : G * ((2 * i - j) * (2 * i - j)) = 4 * (i * i * G) - 4 * (i * j * G) + G * (j * j) := by grind
    have e5 : G * (i * i) = i * i * G := by grind
    have e6 : G * (j * j) = j * j * G := by grind
    omega
  · have q1 := Int.mul_nonneg (show 0 ≤ -(i * j) by omega) (show 0 ≤ G - B by omega)
    have q2 := Int.mul_nonneg (show 0 ≤ G by omega) (sq_nn (2 * j + i))
    have q3 := Int.mul_nonneg (show 0 ≤ G by omega) (sq_nn (2 * i + j))
    have e1 : -(i * j) * (G - B) = i * j * B - i * j * G := by grind
    have e3 : G * ((2 * j + i) * (2 * j + i)) = 4 * (j * j * G) + 4 * (i * j * G) + G * (i * i) := by grind
    have e4 : G * ((2 * i + j) * (2 * i + j)) = 4 * (i * i * G) + 4 * (i * j * G) + G * (j * j) := by grind
    have e5 : G * (i * i) = i * i * G := by grind
    have e6 : G * (j * j) = j * j * G := by grind
    omega
theorem sq_1 {G i N : Int} (hG : 0 < G) (h : 3 * (G * (i * i)) ≤ 4 * N) (hN : N ≤ G) : i = -1 ∨ i = 0 ∨ i = 1 := by
  have : i * i < 2 * 2 := by
    rcases Int.lt_or_le (i * i) (2 * 2) with z | z
    · exact z
    · have := Int.mul_le_mul_of_nonneg_left z (show 0 ≤ G by omega)
      omega
  have := sq_lt (by omega) this
  omega
/-- where the least stands -/
theorem red_min {t n a b c d : Int} (h : RED t n a b c d) (i j : Int) (h0 : ¬ (i = 0 ∧ j = 0)) : sz t n a b ≤ sz t n (i * a + j * c) (i * b + j * d) ∧ (sz t n (i * a + j * c) (i * b + j * d) = sz t n a b ↔ (j = 0 ∧ (i = 1 ∨ i = -1)) ∨ (sz t n c d = sz t n a b ∧ i = 0 ∧ (j = 1 ∨ j = -1)) ∨ (sz t n (a + c) (b + d) = sz t n a b ∧ ((i = 1 ∧ j = 1) ∨ (i = -1 ∧ j = -1))) ∨ (sz t n (a - c) (b - d) = sz t n a b ∧ ((i = 1 ∧ j = -1) ∨ (i = -1 ∧ j = 1)))) := by
  obtain ⟨r1, r2⟩ := red_i h i j
  have hG := h.1
  have e := sz_comb t n a b c d i j
  have ep : sz t n (a + c) (b + d) = sz t n a b + Bf t n a b c d + sz t n c d := by unfold Bf; omega
  have em := sz_minus t n a b c d
  have small := fun hN : sz t n (i * a + j * c) (i * b + j * d) ≤ sz t n a b => (⟨sq_1 hG r1 hN, sq_1 hG r2 hN⟩ : (i = -1 ∨ i = 0 ∨ i = 1) ∧ (j = -1 ∨ j = 0 ∨ j = 1))
  have full : ∀ i j : Int, (i = -1 ∨ i = 0 ∨ i = 1) → (j = -1 ∨ j = 0 ∨ j = 1) → ¬ (i = 0 ∧ j = 0) → sz t n a b ≤ i * i * sz t n a b + i * j * Bf t n a b c d + j * j * sz t n c d := by
    intro i j hi hj h0
    obtain ⟨h1, h2, h3, h4⟩ := h
    generalize sz t n a b = G at *
    generalize sz t n c d = N at *
    generalize Bf t n a b c d = B at *
    rcases hi with rfl | rfl | rfl <;> rcases hj with rfl | rfl | rfl <;> omega
  constructor
  · rcases Int.lt_or_le (sz t n (i * a + j * c) (i * b + j * d)) (sz t n a b) with z | z
    · obtain ⟨q1, q2⟩ := small (by omega)
      have := full i j q1 q2 h0
      omega
    · exact z
  · rw [e, ep, em]
    constructor
    · intro hN
      obtain ⟨q1, q2⟩ := small (by omega)
      generalize sz t n a b = G at *
      generalize sz t n c d = N at *
      generalize Bf t n a b c d = B at *
      rcases q1 with rfl | rfl | rfl <;> rcases q2 with rfl | rfl | rfl <;> omega
    · generalize sz t n a b = G at *
      generalize sz t n c d = N at *
      generalize Bf t n a b c d = B at *
      rintro (⟨rfl, rfl | rfl⟩ | ⟨q, rfl, rfl | rfl⟩ | ⟨q, ⟨rfl, rfl⟩ | ⟨rfl, rfl⟩⟩ | ⟨q, ⟨rfl, rfl⟩ | ⟨rfl, rfl⟩⟩) <;> omega
