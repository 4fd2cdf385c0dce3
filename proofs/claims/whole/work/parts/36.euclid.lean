/-! nets within the net: Euclid's steps on both sides -/
theorem ab_mul (x y : Int) : ((x * y).natAbs : Int) = (x.natAbs : Int) * (y.natAbs : Int) := by
  rw [Int.natAbs_mul, Int.natCast_mul]
def big (z : Int) : Prop := -1000000000000000000 ≤ z ∧ z ≤ 1000000000000000000
theorem big.l {z : Int} (h : big z) : i64 z := ⟨by have := h.1; omega, by have := h.2; omega⟩
theorem big_ab {z X : Int} (h : (z.natAbs : Int) ≤ X) (hX : X ≤ 1000000000000000000) : big z := ⟨by omega, by omega⟩
theorem fm7 {a b : Int} (ha : i64 a) (hb : i64 b) (h : 0 < b) : f_J9_floorMod_f86c9 (lo a) (lo b) = some (lo (a % b)) := by
  have h0 : ¬ lo b = 0 := fun e => by have := (lo_eq (b := 0) hb (by unfold i64; omega)).mp e; omega
  have hb0 : ¬ lo b < 0 := fun e => by have := (lo_lt (b := 0) hb (by unfold i64; omega)).mp e; omega
  have ha0 : lo a < 0 ↔ a < 0 := lo_lt (b := 0) ha (by unfold i64; omega)
  have hd := Int.emod_add_mul_ediv a b
  have hm := Int.emod_nonneg a (show b ≠ 0 by omega)
  have hm2 := Int.emod_lt_of_pos a h
  have hd2 : a / b * b = b * (a / b) := Int.mul_comm _ _
  unfold f_J9_floorMod_f86c9
  rw [if_neg h0, lo_div ha hb h]
  by_cases q : a < 0
  · rw [if_neg (fun e => (xor_sign _ _ hb0).mp e (ha0.mpr q))]
    by_cases d : b ∣ a
    · have ht : a.tdiv b = a / b := by rw [fl_ediv a b h, if_pos (Or.inr d)]
      have e0 : a % b = 0 := Int.emod_eq_zero_of_dvd d
      have e1 : a - a / b * b = 0 := by omega
      rw [ht, lo_mul, lo_sub, e1, if_pos (show lo 0 = (0 : Int64) from rfl), e0]
    · have ht : a.tdiv b = a / b + 1 := by rw [fl_ediv a b h, if_neg (fun x => x.elim (fun y => by omega) d)]
      have hr : a - (a / b + 1) * b = a % b - b := by
        have : (a / b + 1) * b = b * (a / b) + b := by grind
        omega
      have hne : a % b ≠ 0 := fun e => d (Int.dvd_of_emod_eq_zero e)
      have hz : lo (a % b - b) = (0 : Int64) ↔ a % b - b = 0 := lo_eq (b := 0) (by unfold i64 at *; omega) (by unfold i64; omega)
      rw [ht, lo_mul, lo_sub, hr, if_neg (fun e => by have := hz.mp e; omega), lo_add, Int.sub_add_cancel]
  · have ht : a.tdiv b = a / b := by rw [fl_ediv a b h, if_pos (Or.inl (by omega))]
    have e1 : a - a / b * b = a % b := by omega
    rw [if_pos ((xor_sign _ _ hb0).mpr (fun e => q (ha0.mp e))), ht, lo_mul, lo_sub, e1]
theorem rest8 {a b : Int} (ha : i64 a) (hb : i64 b) (h : 0 < b) : f_X8_rest (lo a) (lo b) = some (lo (a % b)) := by
  have hd := Int.emod_add_mul_ediv a b
  have hd2 : a / b * b = b * (a / b) := Int.mul_comm _ _
  have e1 : a - a / b * b = a % b := by omega
  unfold f_X8_rest
  rw [fl8 ha hb h]
  simp only [Option.bind_some]
  rw [lo_mul, lo_sub, e1]
theorem lo_tdiv {a b : Int} (ha : big a) (hb : big b) (h : ¬ b = 0) : lo a / lo b = lo (a.tdiv b) := by
  apply Int64.toInt_inj.mp
  have h1 : lo a ≠ Int64.minValue := fun e => by
    have e2 : (lo a).toInt = (Int64.minValue).toInt := by rw [e]
    rw [lo_toInt ha.l] at e2
    have e3 : (Int64.minValue).toInt = -9223372036854775808 := by decide
    have := ha.1
    omega
  have h2 := Int.natAbs_tdiv_le_natAbs a b
  rw [Int64.toInt_div_of_ne_left _ _ h1, lo_toInt ha.l, lo_toInt hb.l, lo_toInt (by unfold i64; unfold big at ha; omega)]
theorem td {x y : Int} (hy : ¬ y = 0) : ((x - x.tdiv y * y).natAbs : Int) < (y.natAbs : Int) ∧ ((x.tdiv y).natAbs : Int) * (y.natAbs : Int) = (x.natAbs : Int) - ((x - x.tdiv y * y).natAbs : Int) := by
  have e1 : x - x.tdiv y * y = x.tmod y := by have := Int.tdiv_mul_add_tmod x y; omega
  rw [e1]
  have e2 := Int.natAbs_tmod x y
  have e3 := Nat.mod_lt x.natAbs (show 0 < y.natAbs by omega)
  have e4 : (x.tdiv y).natAbs = x.natAbs / y.natAbs := Int.natAbs_tdiv x y
  have e5 := Nat.div_add_mod x.natAbs y.natAbs
  have e6 : ((x.tdiv y).natAbs : Int) * (y.natAbs : Int) = ((y.natAbs * (x.natAbs / y.natAbs) : Nat) : Int) := by
    rw [e4, Int.natCast_mul, Int.mul_comm]
  rw [e6]
  omega
theorem td_sign {x y : Int} (hy : ¬ y = 0) : (0 ≤ x → 0 ≤ x - x.tdiv y * y) ∧ (x ≤ 0 → x - x.tdiv y * y ≤ 0) := by
  have e1 : x - x.tdiv y * y = x.tmod y := by have := Int.tdiv_mul_add_tmod x y; omega
  rw [e1]
  constructor
  · exact fun h => Int.tmod_nonneg y h
  · intro h
    have h2 := Int.tmod_nonneg (a := -x) y (by omega)
    rw [Int.neg_tmod] at h2
    omega
def ES : Nat → Int → Int → Int → Int → Int × Int × Int
  | 0, A, B, C, _ => (C, B, A)
  | f + 1, A, B, C, D => if D = 0 then (C, B, A) else ES f C D (A - B.tdiv D * C) (B - B.tdiv D * D)
def SP (A B C D x y : Int) : Prop := ∃ v w : Int, x = v * A + w * C ∧ y = v * B + w * D
theorem SP_step (A B C D k x y : Int) : SP C D (A - k * C) (B - k * D) x y ↔ SP A B C D x y := by
  constructor
  · rintro ⟨v, w, rfl, rfl⟩
    exact ⟨w, v - w * k, by grind, by grind⟩
  · rintro ⟨v, w, rfl, rfl⟩
    exact ⟨w + v * k, v, by grind, by grind⟩
theorem bt_half {x y f : Int} (h : 2 * x ≤ y) (g : y < 2 * f) : x < f := by omega
theorem ES_ok : ∀ (f : Nat) (A B C D : Int), (D = 0 ∨ (D.natAbs : Int) < (B.natAbs : Int)) → (B.natAbs : Int) * (D.natAbs : Int) < bt f → (∀ x y, SP (ES f A B C D).2.2 (ES f A B C D).2.1 (ES f A B C D).1 0 x y ↔ SP A B C D x y) ∧ ((ES f A B C D).2.1 = 0 → B = 0 ∧ D = 0 ∧ (ES f A B C D) = (C, B, A)) := by
  intro f
  have endc : ∀ (f : Nat) (A B C D : Int), D = 0 → (ES f A B C D) = (C, B, A) := by
    intro f A B C D h
    cases f with
    | zero => rfl
    | succ f => unfold ES; rw [if_pos h]
  have fin : ∀ (f : Nat) (A B C D : Int), D = 0 → (∀ x y, SP (ES f A B C D).2.2 (ES f A B C D).2.1 (ES f A B C D).1 0 x y ↔ SP A B C D x y) ∧ ((ES f A B C D).2.1 = 0 → B = 0 ∧ D = 0 ∧ (ES f A B C D) = (C, B, A)) := by
    intro f A B C D h
    rw [endc f A B C D h]
    subst h
    exact ⟨fun x y => Iff.rfl, fun e => ⟨e, rfl, rfl⟩⟩
  induction f with
  | zero =>
    intro A B C D h1 h2
    refine fin 0 A B C D ?_
    rcases h1 with h1 | h1
    · exact h1
    · have hb : bt 0 = 1 := rfl
      rw [hb] at h2
      rcases Int.lt_or_le ((D.natAbs : Int)) 1 with g | g
      · omega
      · have := Int.mul_le_mul (show 1 ≤ (B.natAbs : Int) by omega) g (by omega) (by omega)
        omega
  | succ f ih =>
    intro A B C D h1 h2
    by_cases hD : D = 0
    · exact fin (f + 1) A B C D hD
    · have hlt : (D.natAbs : Int) < (B.natAbs : Int) := h1.resolve_left hD
      have e : ES (f + 1) A B C D = ES f C D (A - B.tdiv D * C) (B - B.tdiv D * D) := by
        show (if D = 0 then (C, B, A) else ES f C D (A - B.tdiv D * C) (B - B.tdiv D * D)) = _
        rw [if_neg hD]
      obtain ⟨t1, t2⟩ := td (x := B) hD
      have hk : 1 ≤ ((B.tdiv D).natAbs : Int) := by
        rcases Int.lt_or_le (((B.tdiv D).natAbs : Int)) 1 with g | g
        · have : ((B.tdiv D).natAbs : Int) = 0 := by omega
          rw [this] at t2
          omega
        · exact g
      have hk2 := Int.mul_le_mul_of_nonneg_right hk (show 0 ≤ (D.natAbs : Int) by omega)
      have hm : (D.natAbs : Int) * ((B - B.tdiv D * D).natAbs : Int) < bt f := by
        have hb : bt (f + 1) = 2 * bt f := rfl
        rw [hb] at h2
        refine bt_half (y := (B.natAbs : Int) * (D.natAbs : Int)) ?_ h2
        have m1 := Int.mul_le_mul_of_nonneg_right (show 2 * ((B - B.tdiv D * D).natAbs : Int) ≤ (B.natAbs : Int) by omega) (show 0 ≤ (D.natAbs : Int) by omega)
        have m2 : 2 * ((B - B.tdiv D * D).natAbs : Int) * (D.natAbs : Int) = 2 * ((D.natAbs : Int) * ((B - B.tdiv D * D).natAbs : Int)) := by grind
        omega
      obtain ⟨i1, i2⟩ := ih C D (A - B.tdiv D * C) (B - B.tdiv D * D) (Or.inr t1) hm
      rw [e]
      refine ⟨fun x y => (i1 x y).trans (SP_step A B C D _ x y), fun h => ?_⟩
      exact absurd (i2 h).1 hD
theorem ES_phi {X : Int} : ∀ (f : Nat) (A B C D : Int), (A.natAbs : Int) ≤ X → ¬ B = 0 → (A.natAbs : Int) * (D.natAbs : Int) + (C.natAbs : Int) * (B.natAbs : Int) ≤ X → ((ES f A B C D).1.natAbs : Int) ≤ X ∧ ((ES f A B C D).2.2.natAbs : Int) ≤ X := by
  intro f
  have cb : ∀ (A B C D : Int), ¬ B = 0 → (A.natAbs : Int) * (D.natAbs : Int) + (C.natAbs : Int) * (B.natAbs : Int) ≤ X → (C.natAbs : Int) ≤ X := by
    intro A B C D hB h
    have h1 := Int.mul_le_mul_of_nonneg_left (show 1 ≤ (B.natAbs : Int) by omega) (show 0 ≤ (C.natAbs : Int) by omega)
    have h2 := Int.mul_nonneg (show 0 ≤ (A.natAbs : Int) by omega) (show 0 ≤ (D.natAbs : Int) by omega)
    omega
  induction f with
  | zero =>
    intro A B C D hA hB h
    exact ⟨cb A B C D hB h, hA⟩
  | succ f ih =>
    intro A B C D hA hB h
    unfold ES
    by_cases hD : D = 0
    · rw [if_pos hD]
      exact ⟨cb A B C D hB h, hA⟩
    · rw [if_neg hD]
      refine ih C D _ _ (cb A B C D hB h) hD ?_
      obtain ⟨t1, t2⟩ := td (x := B) hD
      have tri : ((A - B.tdiv D * C).natAbs : Int) ≤ (A.natAbs : Int) + ((B.tdiv D).natAbs : Int) * (C.natAbs : Int) := by
        rw [← ab_mul]
        omega
      have m1 := Int.mul_le_mul_of_nonneg_right tri (show 0 ≤ (D.natAbs : Int) by omega)
      have m2 : ((A.natAbs : Int) + ((B.tdiv D).natAbs : Int) * (C.natAbs : Int)) * (D.natAbs : Int) = (A.natAbs : Int) * (D.natAbs : Int) + (C.natAbs : Int) * (((B.tdiv D).natAbs : Int) * (D.natAbs : Int)) := by grind
      rw [m2, t2, Int.mul_sub] at m1
      omega
theorem ES_b : ∀ (f : Nat) (A B C D : Int), ((ES f A B C D).2.1.natAbs : Int) ≤ (if (B.natAbs : Int) ≤ (D.natAbs : Int) then (D.natAbs : Int) else (B.natAbs : Int)) := by
  intro f
  induction f with
  | zero =>
    intro A B C D
    show (B.natAbs : Int) ≤ _
    split <;> omega
  | succ f ih =>
    intro A B C D
    unfold ES
    by_cases hD : D = 0
    · rw [if_pos hD]
      show (B.natAbs : Int) ≤ _
      split <;> omega
    · rw [if_neg hD]
      have h1 := ih C D (A - B.tdiv D * C) (B - B.tdiv D * D)
      obtain ⟨t1, t2⟩ := td (x := B) hD
      rw [if_neg (by omega)] at h1
      split <;> omega
/-- the class' loop -/
theorem add7_l : ∀ (f : Nat) (A B C D i : Int), big B → big D → (D = 0 ∨ (D.natAbs : Int) < (B.natAbs : Int)) → (B.natAbs : Int) * (D.natAbs : Int) < bt f → 0 ≤ i → i + f < 1000000 → whl f_X1_add_L9 (lo C, lo D, io i, lo B, lo A) = some (lo (ES f A B C D).1, lo (ES f A B C D).2.1, lo (ES f A B C D).2.2) := by
  intro f
  have endc : ∀ (f : Nat) (A B C D i : Int), big B → D = 0 → 0 ≤ i → i < 1000000 → whl f_X1_add_L9 (lo C, lo D, io i, lo B, lo A) = some (lo (ES f A B C D).1, lo (ES f A B C D).2.1, lo (ES f A B C D).2.2) := by
    rintro f A B C D i hB rfl hi hi2
    have e : ES f A B C 0 = (C, B, A) := by
      cases f with
      | zero => rfl
      | succ f => rfl
    rw [e]
    have c1 : ¬ ((1000000 : Int32) ≤ io i) := fun e => by
      have := (io_le (a := 1000000) (by unfold i32; omega) (by unfold i32; omega)).mp e
      omega
    refine whl_r ?_
    unfold f_X1_add_L9
    dsimp only
    rw [if_neg c1, if_pos (show lo 0 = (0 : Int64) from rfl)]
  induction f with
  | zero =>
    intro A B C D i hB hD h1 h2 hi hi2
    refine endc 0 A B C D i hB ?_ hi (by omega)
    rcases h1 with h1 | h1
    · exact h1
    · have hb : bt 0 = 1 := rfl
      rw [hb] at h2
      rcases Int.lt_or_le ((D.natAbs : Int)) 1 with g | g
      · omega
      · have := Int.mul_le_mul (show 1 ≤ (B.natAbs : Int) by omega) g (by omega) (by omega)
        omega
  | succ f ih =>
    intro A B C D i hB hD h1 h2 hi hi2
    by_cases g : D = 0
    · exact endc (f + 1) A B C D i hB g hi (by omega)
    · have e : ES (f + 1) A B C D = ES f C D (A - B.tdiv D * C) (B - B.tdiv D * D) := by
        show (if D = 0 then (C, B, A) else ES f C D (A - B.tdiv D * C) (B - B.tdiv D * D)) = _
        rw [if_neg g]
      have hlt : (D.natAbs : Int) < (B.natAbs : Int) := h1.resolve_left g
      obtain ⟨t1, t2⟩ := td (x := B) g
      have hk : 1 ≤ ((B.tdiv D).natAbs : Int) := by
        rcases Int.lt_or_le (((B.tdiv D).natAbs : Int)) 1 with g | g
        · have : ((B.tdiv D).natAbs : Int) = 0 := by omega
          rw [this] at t2
          omega
        · exact g
      have hk2 := Int.mul_le_mul_of_nonneg_right hk (show 0 ≤ (D.natAbs : Int) by omega)
      have hm : (D.natAbs : Int) * ((B - B.tdiv D * D).natAbs : Int) < bt f := by
        have hb : bt (f + 1) = 2 * bt f := rfl
        rw [hb] at h2
        refine bt_half (y := (B.natAbs : Int) * (D.natAbs : Int)) ?_ h2
        have m1 := Int.mul_le_mul_of_nonneg_right (show 2 * ((B - B.tdiv D * D).natAbs : Int) ≤ (B.natAbs : Int) by omega) (show 0 ≤ (D.natAbs : Int) by omega)
        have m2 : 2 * ((B - B.tdiv D * D).natAbs : Int) * (D.natAbs : Int) = 2 * ((D.natAbs : Int) * ((B - B.tdiv D * D).natAbs : Int)) := by grind
        omega
      have c1 : ¬ ((1000000 : Int32) ≤ io i) := fun e => by
        have := (io_le (a := 1000000) (by unfold i32; omega) (by unfold i32; omega)).mp e
        omega
      have nD := lo_nz hD.l g
      rw [e]
      refine (whl_l ?_).trans (ih C D (A - B.tdiv D * C) (B - B.tdiv D * D) (i + 1) hD (by unfold big at *; omega) (Or.inr t1) hm (by omega) (by omega))
      unfold f_X1_add_L9
      dsimp only
      rw [if_neg c1, if_neg nD, if_neg nD, lo_tdiv hB hD g, lo_mul, lo_mul, lo_sub, lo_sub, io_1]
/-- one step first, from anywhere -/
theorem ES_1 (f : Nat) (A B C D : Int) (hD : ¬ D = 0) : ES (f + 1) A B C D = ES f C D (A - B.tdiv D * C) (B - B.tdiv D * D) := by
  show (if D = 0 then (C, B, A) else ES f C D (A - B.tdiv D * C) (B - B.tdiv D * D)) = _
  rw [if_neg hD]
theorem ES_0 (f : Nat) (A B C : Int) : ES f A B C 0 = (C, B, A) := by
  cases f with
  | zero => rfl
  | succ f => rfl
theorem sq_bt {B D : Int} {f : Nat} (hD : ¬ D = 0) (h : (D.natAbs : Int) * (D.natAbs : Int) < bt f) : (D.natAbs : Int) * ((B - B.tdiv D * D).natAbs : Int) < bt f := by
  obtain ⟨t1, t2⟩ := td (x := B) hD
  have := Int.mul_le_mul_of_nonneg_left (Int.le_of_lt t1) (show 0 ≤ (D.natAbs : Int) by omega)
  omega
theorem ES_ok1 {f : Nat} {A B C D : Int} (h : (D.natAbs : Int) * (D.natAbs : Int) < bt f) : (∀ x y, SP (ES (f + 1) A B C D).2.2 (ES (f + 1) A B C D).2.1 (ES (f + 1) A B C D).1 0 x y ↔ SP A B C D x y) ∧ ((ES (f + 1) A B C D).2.1 = 0 → B = 0 ∧ D = 0 ∧ ES (f + 1) A B C D = (C, B, A)) := by
  by_cases g : D = 0
  · subst g
    rw [ES_0]
    exact ⟨fun x y => Iff.rfl, fun e => ⟨e, rfl, rfl⟩⟩
  · obtain ⟨i1, i2⟩ := ES_ok f C D (A - B.tdiv D * C) (B - B.tdiv D * D) (Or.inr (td g).1) (sq_bt g h)
    rw [ES_1 f A B C D g]
    exact ⟨fun x y => (i1 x y).trans (SP_step A B C D _ x y), fun e => absurd (i2 e).1 g⟩
theorem add7_1 {f : Nat} {A B C D : Int} (hB : big B) (hD : big D) (h : (D.natAbs : Int) * (D.natAbs : Int) < bt f) (hf : f < 900000) : whl f_X1_add_L9 (lo C, lo D, (0 : Int32), lo B, lo A) = some (lo (ES (f + 1) A B C D).1, lo (ES (f + 1) A B C D).2.1, lo (ES (f + 1) A B C D).2.2) := by
  by_cases g : D = 0
  · subst g
    rw [ES_0]
    refine whl_r ?_
    unfold f_X1_add_L9
    dsimp only
    rw [if_neg (by decide), if_pos (show lo 0 = (0 : Int64) from rfl)]
  · obtain ⟨t1, t2⟩ := td (x := B) g
    have nD := lo_nz hD.l g
    rw [ES_1 f A B C D g]
    refine (whl_l ?_).trans (add7_l f C D (A - B.tdiv D * C) (B - B.tdiv D * D) 1 hD (by unfold big at *; omega) (Or.inr t1) (sq_bt g h) (by omega) (by omega))
    unfold f_X1_add_L9
    dsimp only
    rw [if_neg (by decide), if_neg nD, if_neg nD, lo_tdiv hB hD g, lo_mul, lo_mul, lo_sub, lo_sub]
    rfl
/-! the reference's steps -/
theorem floor_same {x y : Int} (hx : big x) (hy : big y) (h : ¬ y = 0) (hs : (0 ≤ x ∧ 0 < y) ∨ (x ≤ 0 ∧ y < 0)) : f_X8_floor (lo x) (lo y) = some (lo (x.tdiv y)) := by
  have nY := lo_nz hy.l h
  have c1 : (0 : Int64) ≤ lo x ↔ 0 ≤ x := lo_le (a := 0) (by unfold i64; omega) hx.l
  have c2 : (0 : Int64) ≤ lo y ↔ 0 ≤ y := lo_le (a := 0) (by unfold i64; omega) hy.l
  obtain ⟨t1, t2⟩ := td (x := x) h
  have tb : big (x - x.tdiv y * y) := by unfold big at *; omega
  have c3 : lo (x - x.tdiv y * y) = (0 : Int64) ↔ x - x.tdiv y * y = 0 := lo_eq (b := 0) tb.l (by unfold i64; omega)
  unfold f_X8_floor
  rw [if_neg nY, lo_tdiv hx hy h, lo_mul, lo_sub]
  by_cases z : x - x.tdiv y * y = 0
  · rw [if_pos (c3.mpr z)]
  · rw [if_neg (fun e => z (c3.mp e))]
    rcases hs with ⟨s1, s2⟩ | ⟨s1, s2⟩
    · rw [if_pos (c1.mpr s1), if_pos (c2.mpr (by omega)), if_pos rfl]
    · have x0 : ¬ 0 ≤ x := fun e => by
        have : x = 0 := by omega
        subst this
        simp at z
      rw [if_neg (fun e => x0 (c1.mp e)), if_neg (fun e => by have := c2.mp e; omega), if_pos rfl]
theorem floor_opp {x y : Int} (hx : big x) (hy : big y) (hx0 : 0 ≤ x) (hy0 : y < 0) : ∃ k, f_X8_floor (lo x) (lo y) = some (lo k) ∧ (y < x - k * y ∧ x - k * y ≤ 0) ∧ (k.natAbs : Int) * (y.natAbs : Int) ≤ (x.natAbs : Int) + (y.natAbs : Int) := by
  have h : ¬ y = 0 := by omega
  have nY := lo_nz hy.l h
  have c1 : (0 : Int64) ≤ lo x ↔ 0 ≤ x := lo_le (a := 0) (by unfold i64; omega) hx.l
  have c2 : (0 : Int64) ≤ lo y ↔ 0 ≤ y := lo_le (a := 0) (by unfold i64; omega) hy.l
  obtain ⟨t1, t2⟩ := td (x := x) h
  have tb : big (x - x.tdiv y * y) := by unfold big at *; omega
  have c3 : lo (x - x.tdiv y * y) = (0 : Int64) ↔ x - x.tdiv y * y = 0 := lo_eq (b := 0) tb.l (by unfold i64; omega)
  have t3 := (td_sign (x := x) h).1 hx0
  unfold f_X8_floor
  rw [if_neg nY, lo_tdiv hx hy h, lo_mul, lo_sub]
  by_cases z : x - x.tdiv y * y = 0
  · rw [if_pos (c3.mpr z)]
    exact ⟨x.tdiv y, rfl, by omega, by omega⟩
  · rw [if_neg (fun e => z (c3.mp e)), if_pos (c1.mpr hx0), if_neg (fun e => by have := c2.mp e; omega), if_neg (by decide)]
    refine ⟨x.tdiv y - 1, ?_, ?_, ?_⟩
    · have : lo (x.tdiv y) - (1 : Int64) = lo (x.tdiv y - 1) := lo_sub _ 1
      rw [this]
    · have : (x.tdiv y - 1) * y = x.tdiv y * y - y := by grind
      omega
    · have m : ((x.tdiv y - 1).natAbs : Int) * (y.natAbs : Int) ≤ (((x.tdiv y).natAbs : Int) + 1) * (y.natAbs : Int) := Int.mul_le_mul_of_nonneg_right (by omega) (by omega)
      have m2 : (((x.tdiv y).natAbs : Int) + 1) * (y.natAbs : Int) = ((x.tdiv y).natAbs : Int) * (y.natAbs : Int) + (y.natAbs : Int) := by grind
      omega
def sgn2 (B D : Int) : Prop := (0 ≤ B ∧ 0 ≤ D) ∨ (B ≤ 0 ∧ D ≤ 0)
theorem grow8_l : ∀ (f : Nat) (A B C D : Int), big B → big D → sgn2 B D → (D = 0 ∨ (D.natAbs : Int) < (B.natAbs : Int)) → (B.natAbs : Int) * (D.natAbs : Int) < bt f → whl f_X8_grow_L18 (lo A, lo B, lo C, lo D) = some (lo (ES f A B C D).2.2, lo (ES f A B C D).2.1, lo (ES f A B C D).1) := by
  intro f
  have endc : ∀ (f : Nat) (A B C D : Int), D = 0 → whl f_X8_grow_L18 (lo A, lo B, lo C, lo D) = some (lo (ES f A B C D).2.2, lo (ES f A B C D).2.1, lo (ES f A B C D).1) := by
    rintro f A B C D rfl
    rw [ES_0]
    refine whl_r ?_
    unfold f_X8_grow_L18
    dsimp only
    rw [if_pos (show lo 0 = (0 : Int64) from rfl)]
  induction f with
  | zero =>
    intro A B C D hB hD hs h1 h2
    refine endc 0 A B C D ?_
    rcases h1 with h1 | h1
    · exact h1
    · have hb : bt 0 = 1 := rfl
      rw [hb] at h2
      rcases Int.lt_or_le ((D.natAbs : Int)) 1 with g | g
      · omega
      · have := Int.mul_le_mul (show 1 ≤ (B.natAbs : Int) by omega) g (by omega) (by omega)
        omega
  | succ f ih =>
    intro A B C D hB hD hs h1 h2
    by_cases g : D = 0
    · exact endc (f + 1) A B C D g
    · have hlt : (D.natAbs : Int) < (B.natAbs : Int) := h1.resolve_left g
      obtain ⟨t1, t2⟩ := td (x := B) g
      obtain ⟨u1, u2⟩ := td_sign (x := B) g
      have hk : 1 ≤ ((B.tdiv D).natAbs : Int) := by
        rcases Int.lt_or_le (((B.tdiv D).natAbs : Int)) 1 with g | g
        · have : ((B.tdiv D).natAbs : Int) = 0 := by omega
          rw [this] at t2
          omega
        · exact g
      have hk2 := Int.mul_le_mul_of_nonneg_right hk (show 0 ≤ (D.natAbs : Int) by omega)
      have hm : (D.natAbs : Int) * ((B - B.tdiv D * D).natAbs : Int) < bt f := by
        have hb : bt (f + 1) = 2 * bt f := rfl
        rw [hb] at h2
        refine bt_half (y := (B.natAbs : Int) * (D.natAbs : Int)) ?_ h2
        have m1 := Int.mul_le_mul_of_nonneg_right (show 2 * ((B - B.tdiv D * D).natAbs : Int) ≤ (B.natAbs : Int) by omega) (show 0 ≤ (D.natAbs : Int) by omega)
        have m2 : 2 * ((B - B.tdiv D * D).natAbs : Int) * (D.natAbs : Int) = 2 * ((D.natAbs : Int) * ((B - B.tdiv D * D).natAbs : Int)) := by grind
        omega
      have nD := lo_nz hD.l g
      rw [ES_1 f A B C D g]
      refine (whl_l ?_).trans (ih C D (A - B.tdiv D * C) (B - B.tdiv D * D) hD (by unfold big at *; omega) ?_ (Or.inr t1) hm)
      · unfold f_X8_grow_L18
        dsimp only
        rw [if_neg nD, floor_same hB hD g (by unfold sgn2 at hs; omega)]
        simp only [Option.bind_some]
        rw [lo_mul, lo_mul, lo_sub, lo_sub]
      · unfold sgn2 at *
        rcases hs with ⟨s1, s2⟩ | ⟨s1, s2⟩
        · exact Or.inl ⟨s2, u1 s1⟩
        · exact Or.inr ⟨s2, u2 s1⟩
