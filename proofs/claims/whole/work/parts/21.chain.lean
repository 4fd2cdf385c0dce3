/-! the chain of rests -/
def rA (t n a b c d : Int) : Int := rsA n a c d (NQ t n a b c d).1 (NQ t n a b c d).2
def rB (t n a b c d : Int) : Int := rsB t b c d (NQ t n a b c d).1 (NQ t n a b c d).2
theorem rS_def (t n a b c d : Int) : sz t n (rA t n a b c d) (rB t n a b c d) = rS t n a b c d := rfl
def TT : Nat → Int
  | 0 => 0
  | k + 1 => (16 * TT k + 15) / 15
theorem TT_nn (k : Nat) : 0 ≤ TT k := by
  induction k with
  | zero => exact Int.le_refl 0
  | succ k ih => unfold TT; omega
theorem TT_400 : 7000000000 ≤ TT 400 := by decide +kernel
theorem rS_T {t n a b c d : Int} (h : TN t n) (hS : 0 < sz t n c d) {k : Nat} (hk : sz t n c d ≤ TT (k + 1)) : rS t n a b c d ≤ TT k := by
  have := rS_le (a := a) (b := b) h hS
  unfold TT at hk
  omega
/-- the last but nought of the chain -/
noncomputable def GC (t n : Int) : Nat → Int → Int → Int → Int → Int × Int
  | 0, a, b, _, _ => (a, b)
  | k + 1, a, b, c, d => if c = 0 ∧ d = 0 then (a, b) else GC t n k c d (rA t n a b c d) (rB t n a b c d)
theorem pk_0 : (0 : Int64) = pk 0 0 := by decide
theorem pk_z {a b : Int} (ha : i32 a) (hb : i32 b) : pk a b = (0 : Int64) ↔ a = 0 ∧ b = 0 := by
  rw [pk_0]
  exact pk_inj ha hb (by unfold i32; omega) (by unfold i32; omega)
theorem yb.l {z : Int} (h : yb z) : i64 z := ⟨by have := h.1; omega, by have := h.2; omega⟩
theorem lo_z {a : Int} (ha : yb a) : lo a = (0 : Int64) ↔ a = 0 := lo_eq (b := 0) ha.l (by unfold i64; omega)
theorem rAB_y {t n a b c d : Int} (h : TN t n) (hS : 0 < sz t n c d) (hm : sz t n c d ≤ 7000000000) : yb (rA t n a b c d) ∧ yb (rB t n a b c d) ∧ sz t n (rA t n a b c d) (rB t n a b c d) ≤ sz t n c d := by
  have h1 := rS_le (a := a) (b := b) h hS
  have h2 := rS_def t n a b c d
  have h3 : sz t n (rA t n a b c d) (rB t n a b c d) ≤ sz t n c d := by omega
  have h4 := yb_of h (show sz t n (rA t n a b c d) (rB t n a b c d) ≤ 7000000000 by omega)
  exact ⟨h4.1, h4.2, h3⟩
theorem io_1 (i : Int) : io i + (1 : Int32) = io (i + 1) := io_add i 1
theorem cm7 {t n : Int} (h : TN t n) : ∀ (k : Nat) (a b c d i : Int), xb a → xb b → sz t n c d ≤ 7000000000 → sz t n c d ≤ TT k → 0 ≤ i → i + k < 1000000 → whl (f_X4_common_L9 (io t) (io n)) (pk a b, pk c d, io i) = some (pk (GC t n k a b c d).1 (GC t n k a b c d).2) := by
  intro k
  induction k with
  | zero =>
    intro a b c d i ha hb hm hk hi hi2
    obtain ⟨hc, hd⟩ := yb_of h hm
    have e0 : sz t n c d = 0 := by
      have h1 := sz_nn h c d
      have h2 : TT 0 = 0 := rfl
      omega
    have c1 : ¬ ((1000000 : Int32) ≤ io i) := fun e => by
      have := (io_le (a := 1000000) (by unfold i32; omega) (by unfold i32; omega)).mp e
      omega
    refine whl_r ?_
    unfold f_X4_common_L9
    dsimp only
    rw [if_neg c1, if_pos ((pk_z hc.i hd.i).mpr (sz_0 h e0))]
    rfl
  | succ k ih =>
    intro a b c d i ha hb hm hk hi hi2
    obtain ⟨hc, hd⟩ := yb_of h hm
    have c1 : ¬ ((1000000 : Int32) ≤ io i) := fun e => by
      have := (io_le (a := 1000000) (by unfold i32; omega) (by unfold i32; omega)).mp e
      omega
    by_cases g : c = 0 ∧ d = 0
    · refine whl_r ?_
      unfold f_X4_common_L9 GC
      dsimp only
      rw [if_neg c1, if_pos ((pk_z hc.i hd.i).mpr g), if_pos g]
    · have hS := sz_pos h g
      obtain ⟨y1, y2, y3⟩ := rAB_y (a := a) (b := b) h hS hm
      have st : f_X4_common_L9 (io t) (io n) (pk a b, pk c d, io i) = some (Sum.inl (pk c d, pk (rA t n a b c d) (rB t n a b c d), io (i + 1))) := by
        unfold f_X4_common_L9
        dsimp only
        rw [if_neg c1, if_neg (fun e => g ((pk_z hc.i hd.i).mp e)), r7 h ha hb hc hd hS, io_1]
        rfl
      rw [whl_l st, ih c d _ _ (i + 1) hc.x hd.x (by omega) (by have := rS_T (a := a) (b := b) h hS hk; have := rS_def t n a b c d; omega) (by omega) (by omega)]
      conv => rhs; unfold GC
      rw [if_neg g]
theorem cm8 {t n : Int} (h : TN t n) : ∀ (k : Nat) (a b c d : Int) (x1 x2 x3 x4 : Int64), xb a → xb b → sz t n c d ≤ 7000000000 → sz t n c d ≤ TT k → ∃ y1 y2 y3 y4, whl (f_X8_common_L14 (lo t) (lo n)) (lo a, lo b, lo c, lo d, x1, x2, x3, x4) = some (lo (GC t n k a b c d).1, lo (GC t n k a b c d).2, y1, y2, y3, y4) := by
  intro k
  induction k with
  | zero =>
    intro a b c d x1 x2 x3 x4 ha hb hm hk
    obtain ⟨hc, hd⟩ := yb_of h hm
    have e0 : sz t n c d = 0 := by
      have h1 := sz_nn h c d
      have h2 : TT 0 = 0 := rfl
      omega
    obtain ⟨z1, z2⟩ := sz_0 h e0
    refine ⟨_, _, _, _, whl_r (r := (lo a, lo b, x1, x2, x3, x4)) ?_⟩
    unfold f_X8_common_L14
    dsimp only
    rw [if_pos ((lo_z hc).mpr z1), if_pos ((lo_z hd).mpr z2)]
  | succ k ih =>
    intro a b c d x1 x2 x3 x4 ha hb hm hk
    obtain ⟨hc, hd⟩ := yb_of h hm
    by_cases g : c = 0 ∧ d = 0
    · refine ⟨x1, x2, x3, x4, whl_r ?_⟩
      unfold f_X8_common_L14 GC
      dsimp only
      rw [if_pos ((lo_z hc).mpr g.1), if_pos ((lo_z hd).mpr g.2), if_pos g]
    · have hS := sz_pos h g
      obtain ⟨y1, y2, y3⟩ := rAB_y (a := a) (b := b) h hS hm
      have st : f_X8_common_L14 (lo t) (lo n) (lo a, lo b, lo c, lo d, x1, x2, x3, x4) = some (Sum.inl (lo c, lo d, lo (rA t n a b c d), lo (rB t n a b c d), lo (rA t n a b c d), lo (rB t n a b c d), lo (NQ t n a b c d).1, lo (NQ t n a b c d).2)) := by
        unfold f_X8_common_L14
        dsimp only
        rw [d8 h ha hb hc hd hS]
        by_cases z1 : c = 0
        · rw [if_pos ((lo_z hc).mpr z1), if_neg (fun e => g ⟨z1, (lo_z hd).mp e⟩)]
          rfl
        · rw [if_neg (fun e => z1 ((lo_z hc).mp e))]
          rfl
      have hx := ih c d (rA t n a b c d) (rB t n a b c d) (lo (rA t n a b c d)) (lo (rB t n a b c d)) (lo (NQ t n a b c d).1) (lo (NQ t n a b c d).2) hc.x hd.x (by omega) (by have := rS_T (a := a) (b := b) h hS hk; have := rS_def t n a b c d; omega)
      rw [whl_l st]
      conv => enter [1, y1, 1, y2, 1, y3, 1, y4]; rhs; unfold GC
      simp only [if_neg g]
      exact hx
theorem GC_le {t n : Int} (h : TN t n) {X : Int} (hX : X ≤ 7000000000) : ∀ (k : Nat) (a b c d : Int), sz t n a b ≤ X → sz t n c d ≤ X → sz t n (GC t n k a b c d).1 (GC t n k a b c d).2 ≤ X := by
  intro k
  induction k with
  | zero => intro a b c d h1 h2; exact h1
  | succ k ih =>
    intro a b c d h1 h2
    unfold GC
    by_cases g : c = 0 ∧ d = 0
    · rw [if_pos g]; exact h1
    · rw [if_neg g]
      have := (rAB_y (a := a) (b := b) h (sz_pos h g) (by omega)).2.2
      exact ih c d _ _ h2 (by omega)
