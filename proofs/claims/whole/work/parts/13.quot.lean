/-! the nearest of all: among 36 about the floor, one of the four corners comes first -/
def eE (t n S p q i j : Int) : Int := S * (i * i + t * i * j + n * j * j) - i * (2 * p + t * q) - j * (t * p + 2 * n * q)
/-- c comes before z: smaller, or as small and earlier by a, then b -/
def bef (t n S p q i' j' i j : Int) : Prop := eE t n S p q i' j' < eE t n S p q i j ∨ (eE t n S p q i' j' = eE t n S p q i j ∧ (i' < i ∨ (i' = i ∧ j' ≤ j)))
def TN (t n : Int) : Prop := (t = 0 ∧ n = 1) ∨ (t = -1 ∧ n = 1) ∨ (t = 0 ∧ n = 2) ∨ (t = 1 ∧ n = 2) ∨ (t = 1 ∧ n = 3)
set_option maxHeartbeats 8000000 in
theorem dom {t n S p q i j : Int} (h : TN t n) (hS : 0 < S) (hp : 0 ≤ p) (hp2 : p < S) (hq : 0 ≤ q) (hq2 : q < S) (hi : -2 ≤ i) (hi2 : i ≤ 3) (hj : -2 ≤ j) (hj2 : j ≤ 3) : bef t n S p q 0 0 i j ∨ bef t n S p q 0 1 i j ∨ bef t n S p q 1 0 i j ∨ bef t n S p q 1 1 i j := by
  have ei : i = -2 ∨ i = -1 ∨ i = 0 ∨ i = 1 ∨ i = 2 ∨ i = 3 := by omega
  have ej : j = -2 ∨ j = -1 ∨ j = 0 ∨ j = 1 ∨ j = 2 ∨ j = 3 := by omega
  clear hi hi2 hj hj2
  unfold bef eE
  rcases h with ⟨rfl, rfl⟩ | ⟨rfl, rfl⟩ | ⟨rfl, rfl⟩ | ⟨rfl, rfl⟩ | ⟨rfl, rfl⟩ <;> rcases ei with rfl | rfl | rfl | rfl | rfl | rfl <;> rcases ej with rfl | rfl | rfl | rfl | rfl | rfl <;> omega
/-- S times the size of x - z y is the size of (A - u S) + (B - v S) w -/
theorem sz_scale (t n a b c d u v : Int) : sz t n c d * sz t n (a - (u * c - n * v * d)) (b - (u * d + v * c + t * v * d)) = sz t n (a * (c + t * d) + n * b * d - u * sz t n c d) (b * c - a * d - v * sz t n c d) := by
  unfold sz
  grind
theorem sz_shift (t n S p q i j : Int) : sz t n (p - i * S) (q - j * S) = sz t n p q + S * eE t n S p q i j := by
  unfold sz eE
  grind
