/-! bounds of quotients and rests -/
theorem mul_b {x y X Y : Int} (h1 : -X ≤ x) (h2 : x ≤ X) (h3 : -Y ≤ y) (h4 : y ≤ Y) : -(X * Y) ≤ x * y ∧ x * y ≤ X * Y := by
  have a1 := Int.mul_nonneg (a := X - x) (b := Y + y) (by omega) (by omega)
  have a2 := Int.mul_nonneg (a := X + x) (b := Y - y) (by omega) (by omega)
  have a3 := Int.mul_nonneg (a := X - x) (b := Y - y) (by omega) (by omega)
  have a4 := Int.mul_nonneg (a := X + x) (b := Y + y) (by omega) (by omega)
  have e1 : (X - x) * (Y + y) = X * Y + X * y - x * Y - x * y := by grind
  have e2 : (X + x) * (Y - y) = X * Y - X * y + x * Y - x * y := by grind
  have e3 : (X - x) * (Y - y) = X * Y - X * y - x * Y + x * y := by grind
  have e4 : (X + x) * (Y + y) = X * Y + X * y + x * Y + x * y := by grind
  constructor <;> omega
theorem sq_nn (x : Int) : 0 ≤ x * x := by
  rcases Int.le_total 0 x with h | h
  · exact Int.mul_nonneg h h
  · have := Int.mul_nonneg (a := -x) (b := -x) (by omega) (by omega)
    have e : -x * -x = x * x := by grind
    omega
theorem sq_le {x y : Int} (hy : 0 ≤ y) (h : x * x ≤ y * y) : -y ≤ x ∧ x ≤ y := by
  constructor
  · rcases Int.le_total (-y) x with q | q
    · exact q
    · rcases Int.lt_or_le x (-y) with g | g
      · have h1 := Int.mul_pos (a := -y - x) (b := y - x) (by omega) (by omega)
        have e : (-y - x) * (y - x) = x * x - y * y := by grind
        omega
      · omega
  · rcases Int.lt_or_le y x with g | g
    · have h1 := Int.mul_pos (a := x - y) (b := x + y) (by omega) (by omega)
      have e : (x - y) * (x + y) = x * x - y * y := by grind
      omega
    · exact g
theorem sz_4 (t n a b : Int) : 4 * n * sz t n a b = (4 * n - t * t) * (a * a) + (t * a + 2 * n * b) * (t * a + 2 * n * b) := by unfold sz; grind
theorem sz_4b (t n a b : Int) : 4 * sz t n a b = (4 * n - t * t) * (b * b) + (2 * a + t * b) * (2 * a + t * b) := by unfold sz; grind
theorem sz_nn {t n : Int} (h : TN t n) (a b : Int) : 0 ≤ sz t n a b := by
  have e := sz_4b t n a b
  have h1 := sq_nn b
  have h2 := sq_nn (2 * a + t * b)
  rcases h with ⟨rfl, rfl⟩ | ⟨rfl, rfl⟩ | ⟨rfl, rfl⟩ | ⟨rfl, rfl⟩ | ⟨rfl, rfl⟩ <;> omega
theorem sz_0 {t n : Int} (h : TN t n) {a b : Int} (e0 : sz t n a b = 0) : a = 0 ∧ b = 0 := by
  have e := sz_4b t n a b
  have f := sz_4 t n a b
  have h1 := sq_nn b
  have h2 := sq_nn (2 * a + t * b)
  have h3 := sq_nn a
  have h4 := sq_nn (t * a + 2 * n * b)
  have hb : b * b = 0 := by rcases h with ⟨rfl, rfl⟩ | ⟨rfl, rfl⟩ | ⟨rfl, rfl⟩ | ⟨rfl, rfl⟩ | ⟨rfl, rfl⟩ <;> omega
  have ha : a * a = 0 := by rcases h with ⟨rfl, rfl⟩ | ⟨rfl, rfl⟩ | ⟨rfl, rfl⟩ | ⟨rfl, rfl⟩ | ⟨rfl, rfl⟩ <;> omega
  have k1 := sq_le (x := a) (y := 0) (by omega) (by omega)
  have k2 := sq_le (x := b) (y := 0) (by omega) (by omega)
  exact ⟨by omega, by omega⟩
theorem sz_mul (t n a b c d : Int) : sz t n (a * c - n * (b * d)) (a * d + b * c + t * (b * d)) = sz t n a b * sz t n c d := by unfold sz; grind
/-- x times the mirror of y -/
def acA (t n a b c d : Int) : Int := a * (c + t * d) + n * b * d
def acB (a b c d : Int) : Int := b * c - a * d
theorem sz_ac (t n a b c d : Int) : sz t n (acA t n a b c d) (acB a b c d) = sz t n a b * sz t n c d := by unfold sz acA acB; grind
def xb (z : Int) : Prop := -10000000 ≤ z ∧ z ≤ 10000000
def yb (z : Int) : Prop := -100000 ≤ z ∧ z ≤ 100000
theorem xb.i {z : Int} (h : xb z) : i32 z := ⟨by have := h.1; omega, by have := h.2; omega⟩
theorem yb.i {z : Int} (h : yb z) : i32 z := ⟨by have := h.1; omega, by have := h.2; omega⟩
theorem sz_le {t n : Int} (h : TN t n) {a b X : Int} (ha : -X ≤ a) (ha2 : a ≤ X) (hb : -X ≤ b) (hb2 : b ≤ X) : sz t n a b ≤ 5 * (X * X) := by
  have h1 := mul_b ha ha2 ha ha2
  have h2 := mul_b hb hb2 hb hb2
  have h3 := mul_b ha ha2 hb hb2
  have h4 : 0 ≤ X * X := by omega
  unfold sz
  rcases h with ⟨rfl, rfl⟩ | ⟨rfl, rfl⟩ | ⟨rfl, rfl⟩ | ⟨rfl, rfl⟩ | ⟨rfl, rfl⟩
  · have e : a * a + 0 * a * b + 1 * b * b = a * a + b * b := by grind
    omega
  · have e : a * a + -1 * a * b + 1 * b * b = a * a - a * b + b * b := by grind
    omega
  · have e : a * a + 0 * a * b + 2 * b * b = a * a + 2 * (b * b) := by grind
    omega
  · have e : a * a + 1 * a * b + 2 * b * b = a * a + a * b + 2 * (b * b) := by grind
    omega
  · have e : a * a + 1 * a * b + 3 * b * b = a * a + a * b + 3 * (b * b) := by grind
    omega
theorem ac_b {t n : Int} (h : TN t n) {a b c d : Int} (ha : xb a) (hb : xb b) (hS : 0 < sz t n c d) : (-(100000000 * sz t n c d) ≤ acA t n a b c d ∧ acA t n a b c d ≤ 100000000 * sz t n c d) ∧ (-(100000000 * sz t n c d) ≤ acB a b c d ∧ acB a b c d ≤ 100000000 * sz t n c d) := by
  have e := sz_ac t n a b c d
  have f1 := sz_4 t n (acA t n a b c d) (acB a b c d)
  have f2 := sz_4b t n (acA t n a b c d) (acB a b c d)
  have g1 := sq_nn (t * acA t n a b c d + 2 * n * acB a b c d)
  have g2 := sq_nn (2 * acA t n a b c d + t * acB a b c d)
  have hx := sz_le h ha.1 ha.2 hb.1 hb.2
  have hm := Int.mul_le_mul_of_nonneg_right hx (Int.le_of_lt hS)
  have hs := Int.mul_le_mul_of_nonneg_right (show 1 ≤ sz t n c d from hS) (Int.le_of_lt hS)
  rw [← e] at hm
  generalize acA t n a b c d = A at *
  generalize acB a b c d = B at *
  generalize sz t n c d = S at *
  generalize sz t n A B = N at *
  have k1 : (100000000 * S) * (100000000 * S) = 10000000000000000 * (S * S) := by grind
  have q1 := sq_nn A
  have q2 := sq_nn B
  constructor
  · apply sq_le (by omega)
    rcases h with ⟨rfl, rfl⟩ | ⟨rfl, rfl⟩ | ⟨rfl, rfl⟩ | ⟨rfl, rfl⟩ | ⟨rfl, rfl⟩ <;> omega
  · apply sq_le (by omega)
    rcases h with ⟨rfl, rfl⟩ | ⟨rfl, rfl⟩ | ⟨rfl, rfl⟩ | ⟨rfl, rfl⟩ | ⟨rfl, rfl⟩ <;> omega
theorem rest_a (t n a b c d u v : Int) : sz t n c d * (a - (u * c - n * (v * d))) = (acA t n a b c d - u * sz t n c d) * c - n * ((acB a b c d - v * sz t n c d) * d) := by unfold sz acA acB; grind
theorem rest_b (t n a b c d u v : Int) : sz t n c d * (b - (u * d + v * c + t * (v * d))) = (acA t n a b c d - u * sz t n c d) * d + (acB a b c d - v * sz t n c d) * c + t * ((acB a b c d - v * sz t n c d) * d) := by unfold sz acA acB; grind
theorem rest_sz (t n a b c d u v : Int) : sz t n c d * sz t n (a - (u * c - n * (v * d))) (b - (u * d + v * c + t * (v * d))) = sz t n (acA t n a b c d - u * sz t n c d) (acB a b c d - v * sz t n c d) := by unfold sz acA acB; grind
/-- a rest about the floor is small -/
theorem rest_bd {t n : Int} (h : TN t n) {a b c d u v : Int} (hc : yb c) (hd : yb d) (hS : 0 < sz t n c d) (p1 : -(4 * sz t n c d) ≤ acA t n a b c d - u * sz t n c d) (p2 : acA t n a b c d - u * sz t n c d ≤ 4 * sz t n c d) (q1 : -(4 * sz t n c d) ≤ acB a b c d - v * sz t n c d) (q2 : acB a b c d - v * sz t n c d ≤ 4 * sz t n c d) : (-2000000 ≤ a - (u * c - n * (v * d)) ∧ a - (u * c - n * (v * d)) ≤ 2000000) ∧ (-2000000 ≤ b - (u * d + v * c + t * (v * d)) ∧ b - (u * d + v * c + t * (v * d)) ≤ 2000000) := by
  have e1 := rest_a t n a b c d u v
  have e2 := rest_b t n a b c d u v
  generalize a - (u * c - n * (v * d)) = ra at *
  generalize b - (u * d + v * c + t * (v * d)) = rb at *
  generalize acA t n a b c d - u * sz t n c d = P at *
  generalize acB a b c d - v * sz t n c d = Q at *
  generalize sz t n c d = S at *
  have m1 := mul_b p1 p2 hc.1 hc.2
  have m2 := mul_b p1 p2 hd.1 hd.2
  have m3 := mul_b q1 q2 hc.1 hc.2
  have m4 := mul_b q1 q2 hd.1 hd.2
  have k1 : S * 2000000 = 2000000 * S := by grind
  have k2 : S * -2000000 = -(2000000 * S) := by grind
  have e3 : t * (Q * d) = 0 ∨ t * (Q * d) = Q * d ∨ t * (Q * d) = -(Q * d) := by rcases h with ⟨rfl, rfl⟩ | ⟨rfl, rfl⟩ | ⟨rfl, rfl⟩ | ⟨rfl, rfl⟩ | ⟨rfl, rfl⟩ <;> omega
  have e4 : n * (Q * d) = Q * d ∨ n * (Q * d) = 2 * (Q * d) ∨ n * (Q * d) = 3 * (Q * d) := by rcases h with ⟨rfl, rfl⟩ | ⟨rfl, rfl⟩ | ⟨rfl, rfl⟩ | ⟨rfl, rfl⟩ | ⟨rfl, rfl⟩ <;> omega
  refine ⟨⟨?_, ?_⟩, ⟨?_, ?_⟩⟩
  · exact Int.le_of_mul_le_mul_left (by omega) hS
  · exact Int.le_of_mul_le_mul_left (by omega) hS
  · exact Int.le_of_mul_le_mul_left (by omega) hS
  · exact Int.le_of_mul_le_mul_left (by omega) hS
