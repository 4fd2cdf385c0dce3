/-! the class' leaps -/
def SEEN (g : Nat → Int × Int) (N : Nat) : Nat → Int → Int → Prop
  | 0, c, w => c = 30 ∧ w = 30
  | m + 1, c, w => SEEN g N m c w ∨ (inb c ∧ inb w ∧ ∃ j, j < N ∧ SEEN g N m (c - (g j).1) (w - (g j).2))
def EDG (g : Nat → Int × Int) (N : Nat) : Nat → Int → Int → Prop
  | 0, c, w => SEEN g N 0 c w
  | m + 1, c, w => SEEN g N (m + 1) c w ∧ ¬ SEEN g N m c w
theorem SEEN_in {g : Nat → Int × Int} {N : Nat} : ∀ (m : Nat) (c w : Int), SEEN g N m c w → inb c ∧ inb w := by
  intro m
  induction m with
  | zero => rintro c w ⟨rfl, rfl⟩; unfold inb; omega
  | succ m ih =>
    rintro c w (h | ⟨h1, h2, -⟩)
    · exact ih c w h
    · exact ⟨h1, h2⟩
theorem EDG_seen {g : Nat → Int × Int} {N m : Nat} {c w : Int} (h : EDG g N m c w) : SEEN g N m c w := by
  cases m with
  | zero => exact h
  | succ m => exact h.1
theorem SEEN_mono {g : Nat → Int × Int} {N : Nat} {c w : Int} {m : Nat} (h : SEEN g N m c w) : ∀ d, SEEN g N (m + d) c w := by
  intro d
  induction d with
  | zero => exact h
  | succ d ih => exact Or.inl ih
/-- what is new comes from the edge -/
theorem EDG_next {g : Nat → Int × Int} {N m : Nat} {c w : Int} (hc : inb c) (hw : inb w) : EDG g N (m + 1) c w ↔ (∃ j, j < N ∧ inb (c - (g j).1) ∧ inb (w - (g j).2) ∧ EDG g N m (c - (g j).1) (w - (g j).2)) ∧ ¬ SEEN g N m c w := by
  constructor
  · rintro ⟨h | ⟨-, -, j, hj, h⟩, hn⟩
    · exact absurd h hn
    · refine ⟨⟨j, hj, (SEEN_in m _ _ h).1, (SEEN_in m _ _ h).2, ?_⟩, hn⟩
      cases m with
      | zero => exact h
      | succ m =>
        refine ⟨h, fun h2 => hn (Or.inr ⟨hc, hw, j, hj, h2⟩)⟩
  · rintro ⟨⟨j, hj, -, -, h⟩, hn⟩
    exact ⟨Or.inr ⟨hc, hw, j, hj, EDG_seen h⟩, hn⟩
theorem BITS_congr {r : Nat → Int64} {S S' : Int → Int → Prop} (h : BITS r S) (e : ∀ c w : Int, inb c → inb w → (S c w ↔ S' c w)) : BITS r S' := by
  intro j i hj hi
  rw [h j i hj hi]
  constructor
  · rintro ⟨a, b⟩; exact ⟨a, (e _ _ (by unfold inb; omega) (by unfold inb; omega)).mp b⟩
  · rintro ⟨a, b⟩; exact ⟨a, (e _ _ (by unfold inb; omega) (by unfold inb; omega)).mpr b⟩
theorem fill61 (r : Nat → Int64) : ∃ r', f_J7_fill_d0a16 61 r 0 = some r' ∧ ∀ j : Nat, j < 61 → r' j = 0 := by
  have key : ∃ z, whl (f_J7_fill_d0a16_L6 61 0 (Int32.ofNat 61)) ((0 : Int32), r) = some z ∧ ∀ j : Nat, j < 61 → z j = 0 := by
    refine whl_for (b := f_J7_fill_d0a16_L6 61 0 (Int32.ofNat 61)) 61 (fun i s => s.1 = io (i : Int) ∧ ∀ j : Nat, j < i → s.2 j = 0) (fun z => ∀ j : Nat, j < 61 → z j = 0) ?_ ?_ 0 _ (by omega) ⟨rfl, fun j h => by omega⟩
    · rintro i ⟨s1, s2⟩ hi ⟨e1, e2⟩
      dsimp only at e1 e2
      have c1 : ¬ (Int32.ofNat 61 ≤ io (i : Int)) := fun e => by
        have := (io_le (a := 61) (by unfold i32; omega) (by unfold i32; omega)).mp e
        omega
      obtain ⟨d1, d2⟩ := nat61 hi
      rw [d2] at d1
      unfold f_J7_fill_d0a16_L6
      dsimp only
      rw [e1, if_neg c1, d2, if_neg d1, io_1]
      refine ⟨_, rfl, rfl, fun j hj => ?_⟩
      dsimp only
      unfold vp_updL
      by_cases g : j = i
      · rw [if_pos g]
      · rw [if_neg g]
        exact e2 j (by omega)
    · rintro ⟨s1, s2⟩ ⟨e1, e2⟩
      dsimp only at e1 e2
      unfold f_J7_fill_d0a16_L6
      dsimp only
      rw [e1, if_pos (by decide)]
      exact ⟨_, rfl, e2⟩
  obtain ⟨z, e, hz⟩ := key
  refine ⟨z, ?_, hz⟩
  unfold f_J7_fill_d0a16 f_J7_fill_d0a16_K6_22
  rw [e]
  rfl
theorem all_leaps {g : Nat → Int × Int} {N : Nat} (hN : N ≤ 12) (hg : ∀ j, j < N → ((g j).1.natAbs : Int) ≤ 160000 ∧ ((g j).2.natAbs : Int) ≤ 160000) {l : Nat → Int64} (hl : ∀ j, j < N → l j = pk (g j).1 (g j).2) {E : Int → Int → Prop} {edg nxt : Nat → Int64} (hE : BITS edg E) (hz : ∀ j : Nat, j < 61 → nxt j = 0) : ∃ nxt', whl (f_X2_spread_L10 (io (N : Int)) l edg) ((0 : Int32), nxt) = some nxt' ∧ BITS nxt' (fun c w => ∃ j, j < N ∧ inb (c - (g j).1) ∧ inb (w - (g j).2) ∧ E (c - (g j).1) (w - (g j).2)) := by
  refine whl_for (b := f_X2_spread_L10 (io (N : Int)) l edg) N (fun m s => s.1 = io (m : Int) ∧ BITS s.2 (fun c w => ∃ j, j < m ∧ inb (c - (g j).1) ∧ inb (w - (g j).2) ∧ E (c - (g j).1) (w - (g j).2))) _ ?_ ?_ 0 _ (by omega) ⟨rfl, ?_⟩
  · rintro m ⟨s1, s2⟩ hm ⟨e1, e2⟩
    dsimp only at e1 e2
    obtain ⟨d1, d2⟩ := nat12 (i := m) (by omega)
    obtain ⟨a1, a2⟩ := hg m hm
    have c1 : ¬ (io (N : Int) ≤ io (m : Int)) := fun e => by
      have := (io_le (by unfold i32; omega) (by unfold i32; omega)).mp e
      omega
    obtain ⟨n', e, hn'⟩ := leap7 hE e2 (la := (g m).1) (lb := (g m).2) (by omega) (by omega)
    unfold f_X2_spread_L10
    dsimp only
    rw [e1, if_neg c1, if_neg d1, d2, hl m hm, first_pk _ (by unfold i32; omega), second_pk _ (by unfold i32; omega), e]
    refine ⟨_, rfl, io_1 _, BITS_congr hn' (fun c w _ _ => ?_)⟩
    constructor
    · rintro (⟨j, hj, h⟩ | h)
      · exact ⟨j, by omega, h⟩
      · exact ⟨m, by omega, h⟩
    · rintro ⟨j, hj, h⟩
      by_cases z : j = m
      · subst z; exact Or.inr h
      · exact Or.inl ⟨j, by omega, h⟩
  · rintro ⟨s1, s2⟩ ⟨e1, e2⟩
    dsimp only at e1 e2
    unfold f_X2_spread_L10
    dsimp only
    rw [e1, if_pos (Int32.le_refl _)]
    exact ⟨_, rfl, e2⟩
  · intro j i hj hi
    dsimp only
    rw [hz j hj, bit_0]
    constructor
    · intro h; cases h
    · rintro ⟨-, j', h, -⟩; omega
theorem or_any (a : Int32) (h : a = 0 ∨ a = 1) : (a ||| (0 : Int32)) = a ∧ (a ||| (1 : Int32)) = 1 := by
  rcases h with rfl | rfl <;> decide
theorem spread7 {g : Nat → Int × Int} {N : Nat} (hN : N ≤ 12) (hg : ∀ j, j < N → ((g j).1.natAbs : Int) ≤ 160000 ∧ ((g j).2.natAbs : Int) ≤ 160000) {l : Nat → Int64} (hl : ∀ j, j < N → l j = pk (g j).1 (g j).2) {m : Nat} {sen edg : Nat → Int64} (hS : BITS sen (SEEN g N m)) (hE : BITS edg (EDG g N m)) (nxt : Nat → Int64) : ∃ b sen' edg' nxt', f_X2_spread (io (N : Int)) l sen edg nxt = some (b, sen', edg', nxt') ∧ BITS sen' (SEEN g N (m + 1)) ∧ BITS edg' (EDG g N (m + 1)) ∧ ((b = 0 ∧ ∀ c w : Int, ¬ EDG g N (m + 1) c w) ∨ (¬ b = 0 ∧ ∃ c w : Int, EDG g N (m + 1) c w)) := by
  obtain ⟨n0, f0, hz⟩ := fill61 nxt
  obtain ⟨n1, f1, hn⟩ := all_leaps hN hg hl hE hz
  have key : ∃ z, whl (f_X2_spread_L50 n1) ((0 : Int32), (0 : Int32), sen, edg) = some z ∧ (((z.1 = 0 ∧ ∀ (j i : Nat), j < 61 → i < 61 → ¬ EDG g N (m + 1) (i : Int) (j : Int)) ∨ (z.1 = 1 ∧ ∃ (j i : Nat), j < 61 ∧ i < 61 ∧ EDG g N (m + 1) (i : Int) (j : Int))) ∧ BITS z.2.1 (SEEN g N (m + 1)) ∧ BITS z.2.2 (EDG g N (m + 1))) := by
    refine whl_for (b := f_X2_spread_L50 n1) 61 (fun r s => s.2.1 = io (r : Int) ∧ ((s.1 = 0 ∧ ∀ (j i : Nat), j < r → i < 61 → ¬ EDG g N (m + 1) (i : Int) (j : Int)) ∨ (s.1 = 1 ∧ ∃ (j i : Nat), j < r ∧ i < 61 ∧ EDG g N (m + 1) (i : Int) (j : Int))) ∧ (∀ (j i : Nat), j < r → i < 64 → (bit (s.2.2.1 j) i = true ↔ i < 61 ∧ SEEN g N (m + 1) (i : Int) (j : Int)) ∧ (bit (s.2.2.2 j) i = true ↔ i < 61 ∧ EDG g N (m + 1) (i : Int) (j : Int))) ∧ ∀ j, r ≤ j → j < 61 → s.2.2.1 j = sen j) _ ?_ ?_ 0 _ (by omega) ⟨rfl, Or.inl ⟨rfl, fun j i a b => by omega⟩, fun j i a b => by omega, fun j a b => rfl⟩
    · rintro r ⟨s1, s2, s3, s4⟩ hr ⟨e1, e2, e3, e4⟩
      dsimp only at e1 e2 e3 e4
      obtain ⟨d1, d2⟩ := nat61 hr
      have c1 : ¬ ((61 : Int32) ≤ io (r : Int)) := fun e => by
        have := (io_le (a := 61) (by unfold i32; omega) (by unfold i32; omega)).mp e
        omega
      have hs1 : s1 = 0 ∨ s1 = 1 := by
        rcases e2 with ⟨a, -⟩ | ⟨a, -⟩
        · exact Or.inl a
        · exact Or.inr a
      obtain ⟨o1, o2⟩ := or_any s1 hs1
      have self : vp_updL s4 r (n1 r &&& (s3 r ^^^ (-1 : Int64))) r = n1 r &&& (s3 r ^^^ (-1 : Int64)) := by unfold vp_updL; rw [if_pos rfl]
      have es := e4 r (Nat.le_refl _) hr
      -- the new ones of this row
      have nb : ∀ i, i < 64 → (bit (n1 r &&& (s3 r ^^^ (-1 : Int64))) i = true ↔ i < 61 ∧ EDG g N (m + 1) (i : Int) (r : Int)) := by
        intro i hi
        rw [bit_and, bit_xor, bit_m1 hi, es, Bool.and_eq_true, hn r i hr hi]
        have hs := hS r i hr hi
        constructor
        · rintro ⟨⟨a, b⟩, c⟩
          refine ⟨a, (EDG_next (by unfold inb; omega) (by unfold inb; omega)).mpr ⟨b, fun h => ?_⟩⟩
          rw [hs.mpr ⟨a, h⟩] at c
          simp at c
        · rintro ⟨a, b⟩
          obtain ⟨b1, b2⟩ := (EDG_next (by unfold inb; omega) (by unfold inb; omega)).mp b
          refine ⟨⟨a, b1⟩, ?_⟩
          have : bit (sen r) i = false := by
            rw [bit_f hs]
            exact fun h => b2 h.2
          rw [this]
          rfl
      have sb : ∀ i, i < 64 → (bit (s3 r ||| (n1 r &&& (s3 r ^^^ (-1 : Int64)))) i = true ↔ i < 61 ∧ SEEN g N (m + 1) (i : Int) (r : Int)) := by
        intro i hi
        rw [bit_or, Bool.or_eq_true, nb i hi, es, hS r i hr hi]
        constructor
        · rintro (⟨a, b⟩ | ⟨a, b⟩)
          · exact ⟨a, Or.inl b⟩
          · exact ⟨a, b.1⟩
        · rintro ⟨a, b⟩
          by_cases q : SEEN g N m (i : Int) (r : Int)
          · exact Or.inl ⟨a, q⟩
          · exact Or.inr ⟨a, b, q⟩
      have rows : (∀ (j i : Nat), j < r + 1 → i < 64 → (bit ((vp_updL s3 r (s3 r ||| (n1 r &&& (s3 r ^^^ (-1 : Int64))))) j) i = true ↔ i < 61 ∧ SEEN g N (m + 1) (i : Int) (j : Int)) ∧ (bit ((vp_updL s4 r (n1 r &&& (s3 r ^^^ (-1 : Int64)))) j) i = true ↔ i < 61 ∧ EDG g N (m + 1) (i : Int) (j : Int))) ∧ ∀ j, r + 1 ≤ j → j < 61 → (vp_updL s3 r (s3 r ||| (n1 r &&& (s3 r ^^^ (-1 : Int64))))) j = sen j := by
        constructor
        · intro j i hj hi
          unfold vp_updL
          by_cases q : j = r
          · subst q
            rw [if_pos rfl, if_pos rfl]
            exact ⟨sb i hi, nb i hi⟩
          · rw [if_neg q, if_neg q]
            exact e3 j i (by omega) hi
        · intro j hj hj2
          unfold vp_updL
          rw [if_neg (by omega)]
          exact e4 j (by omega) hj2
      unfold f_X2_spread_L50
      dsimp only
      rw [e1, if_neg c1, d2]
      rw [d2] at d1
      rw [if_neg d1, self]
      by_cases q : n1 r &&& (s3 r ^^^ (-1 : Int64)) = 0
      · rw [if_pos q, o1]
        refine ⟨_, rfl, io_1 _, ?_, rows.1, rows.2⟩
        dsimp only
        rcases e2 with ⟨a, b⟩ | ⟨a, j, i, h1, h2, h3⟩
        · left
          refine ⟨a, fun j i hj hi => ?_⟩
          by_cases z : j = r
          · subst z
            intro h
            have := (nb i (by omega)).mpr ⟨hi, h⟩
            rw [q, bit_0] at this
            cases this
          · exact b j i (by omega) hi
        · exact Or.inr ⟨a, j, i, by omega, h2, h3⟩
      · rw [if_neg q, o2]
        refine ⟨_, rfl, io_1 _, Or.inr ⟨rfl, ?_⟩, rows.1, rows.2⟩
        have : ¬ ∀ i, i < 64 → bit (n1 r &&& (s3 r ^^^ (-1 : Int64))) i = false := fun h => q ((bit_eq0 _).mpr h)
        obtain ⟨i, hi⟩ := Classical.not_forall.mp this
        obtain ⟨hi1, hi2⟩ := Classical.not_imp.mp hi
        have : bit (n1 r &&& (s3 r ^^^ (-1 : Int64))) i = true := by
          cases h : bit (n1 r &&& (s3 r ^^^ (-1 : Int64))) i
          · exact absurd h hi2
          · rfl
        obtain ⟨h1, h2⟩ := (nb i hi1).mp this
        exact ⟨r, i, by omega, h1, h2⟩
    · rintro ⟨s1, s2, s3, s4⟩ ⟨e1, e2, e3, e4⟩
      dsimp only at e1 e2 e3 e4
      unfold f_X2_spread_L50
      dsimp only
      rw [e1, if_pos (by decide)]
      exact ⟨_, rfl, e2, fun j i hj hi => (e3 j i hj hi).1, fun j i hj hi => (e3 j i hj hi).2⟩
  obtain ⟨⟨z1, z2, z3⟩, e, h1, h2, h3⟩ := key
  dsimp only at h1 h2 h3
  have hz1 : ¬ (¬ z1 = 0 ∧ ¬ z1 = 1) := by rcases h1 with ⟨a, -⟩ | ⟨a, -⟩ <;> rw [a] <;> decide
  refine ⟨z1, z2, z3, n1, ?_, h2, h3, ?_⟩
  · unfold f_X2_spread
    rw [f0]
    simp only [Option.bind_some]
    rw [f1]
    simp only [Option.bind_some]
    unfold f_X2_spread_K10_46
    rw [e]
    simp only [Option.bind_some]
    unfold f_X2_spread_K50_119
    rw [if_neg hz1]
  · rcases h1 with ⟨a, b⟩ | ⟨a, j, i, h4, h5, h6⟩
    · refine Or.inl ⟨a, fun c w h => ?_⟩
      obtain ⟨p1, p2⟩ := SEEN_in (m + 1) c w h.1
      unfold inb at p1 p2
      have := b w.toNat c.toNat (by omega) (by omega)
      rw [show ((c.toNat : Nat) : Int) = c by omega, show ((w.toNat : Nat) : Int) = w by omega] at this
      exact this h
    · exact Or.inr ⟨by rw [a]; decide, _, _, h6⟩
/-- once nothing new comes, nothing new will -/
theorem SEEN_stop {g : Nat → Int × Int} {N m : Nat} (h : ∀ c w : Int, ¬ EDG g N (m + 1) c w) : ∀ d c w, SEEN g N (m + d) c w → SEEN g N m c w := by
  intro d
  induction d with
  | zero => intro c w hc; exact hc
  | succ d ih =>
    rintro c w (h1 | ⟨h1, h2, j, hj, h3⟩)
    · exact ih c w h1
    · by_cases q : SEEN g N m c w
      · exact q
      · exact absurd ⟨Or.inr ⟨h1, h2, j, hj, ih _ _ h3⟩, q⟩ (h c w)
def FAR (g : Nat → Int × Int) (N : Nat) (c w : Int) (v : Int32) : Prop := (∃ n : Nat, v = io (n : Int) ∧ SEEN g N n c w ∧ ∀ m, m < n → ¬ SEEN g N m c w) ∨ (v = -4 ∧ ∀ m, ¬ SEEN g N m c w)
theorem fewest7 {g : Nat → Int × Int} {N : Nat} (hN : N ≤ 12) (hg : ∀ j, j < N → ((g j).1.natAbs : Int) ≤ 160000 ∧ ((g j).2.natAbs : Int) ≤ 160000) {l : Nat → Int64} (hl : ∀ j, j < N → l j = pk (g j).1 (g j).2) (sen edg nxt : Nat → Int64) {a b : Int} (ha : -30 ≤ a ∧ a ≤ 30) (hb : -30 ≤ b ∧ b ≤ 30) : ∃ v s' e' n', f_X2_fewest (io (N : Int)) l sen edg nxt (pk a b) = some (v, s', e', n') ∧ FAR g N (a + 30) (b + 30) v := by
  obtain ⟨s0, fs, zs⟩ := fill61 sen
  obtain ⟨e0, fe, ze⟩ := fill61 edg
  have st : ∀ r : Nat → Int64, (∀ j : Nat, j < 61 → r j = 0) → BITS (vp_updL r 30 1073741824) (SEEN g N 0) := by
    intro r hr j i hj hi
    unfold vp_updL
    by_cases q : j = 30
    · rw [if_pos q, bit_start hi, decide_eq_true_eq]
      constructor
      · rintro rfl; exact ⟨by omega, rfl, by omega⟩
      · rintro ⟨-, h1, -⟩; omega
    · rw [if_neg q, hr j hj, bit_0]
      constructor
      · intro h; cases h
      · rintro ⟨-, -, h2⟩; omega
  obtain ⟨col, hcol⟩ : ∃ c : Nat, a + 30 = (c : Int) := ⟨(a + 30).toNat, by omega⟩
  obtain ⟨row, hrow⟩ : ∃ c : Nat, b + 30 = (c : Int) := ⟨(b + 30).toNat, by omega⟩
  obtain ⟨d1, d2⟩ := nat61 (i := row) (by omega)
  have key : ∃ z, whl (f_X2_fewest_L91 (io (N : Int)) l (lo (col : Int)) (lo (row : Int))) ((0 : Int32), vp_updL s0 30 1073741824, vp_updL e0 30 1073741824, nxt) = some z ∧ ((∃ v s' e' n', z = Sum.inl (v, s', e', n') ∧ FAR g N (col : Int) (row : Int) v) ∨ (∃ y, z = Sum.inr (Sum.inl y) ∧ ∀ m, ¬ SEEN g N m (col : Int) (row : Int))) := by
    refine whl_fe (b := f_X2_fewest_L91 (io (N : Int)) l (lo (col : Int)) (lo (row : Int))) 3721 (fun m s => s.1 = io (m : Int) ∧ BITS s.2.1 (SEEN g N m) ∧ BITS s.2.2.1 (EDG g N m) ∧ (∀ m', m' < m → ¬ SEEN g N m' (col : Int) (row : Int)) ∧ ∀ m', m' ≤ m → ∃ c w : Int, EDG g N m' c w) _ ?_ ?_ 0 _ (by omega) ⟨rfl, st s0 zs, st e0 ze, fun m' h => by omega, fun m' h => by
      have : m' = 0 := by omega
      subst this
      exact ⟨30, 30, rfl, rfl⟩⟩
    · rintro m ⟨x1, x2, x3, x4⟩ hm ⟨i1, i2, i3, i4, i5⟩
      dsimp only at i1 i2 i3
      have c1 : ¬ ((3721 : Int32) < io (m : Int)) := fun e => by
        have := (io_lt (a := 3721) (by unfold i32; omega) (by unfold i32; omega)).mp e
        omega
      have hb1 : (((x2 row).toUInt64 >>> ((lo (col : Int)).toInt32.toInt64.toUInt64 &&& Int64.toUInt64 63)).toInt64 &&& (1 : Int64)) = 0 ↔ ¬ SEEN g N m (col : Int) (row : Int) := by
        rw [low_bit, bit_shr _ (by omega), Nat.zero_add, bit_f (i2 row col (by omega) (by omega))]
        constructor
        · intro h h2; exact h ⟨by omega, h2⟩
        · intro h h2; exact h h2.2
      have L := lo_n (row : Int)
      obtain ⟨bb, s', e', n', sp, p1, p2, p3⟩ := spread7 hN hg hl i2 i3 x4
      by_cases q : SEEN g N m (col : Int) (row : Int)
      · left
        refine ⟨Sum.inl (io (m : Int), x2, x3, x4), ?_, Or.inl ⟨_, _, _, _, rfl, Or.inl ⟨m, rfl, q, i4⟩⟩⟩
        unfold f_X2_fewest_L91
        dsimp only
        rw [i1, if_neg c1, L, if_neg d1, d2, if_neg (fun h => hb1.mp h q)]
      · rcases p3 with ⟨b0, hno⟩ | ⟨b0, c, w, hc⟩
        · left
          refine ⟨Sum.inr (Sum.inl (s', e', n')), ?_, Or.inr ⟨_, rfl, ?_⟩⟩
          · unfold f_X2_fewest_L91
            dsimp only
            rw [i1, if_neg c1, L, if_neg d1, d2, if_pos (hb1.mpr q), sp]
            simp only [Option.bind_some]
            rw [if_pos b0]
          · intro m' h
            rcases Nat.lt_or_ge m' m with z | z
            · exact i4 m' z h
            · have := SEEN_stop hno (m' - m) _ _ (by rw [show m + (m' - m) = m' by omega]; exact h)
              exact q this
        · right
          refine ⟨(io (m : Int) + 1, s', e', n'), ?_, io_1 _, p1, p2, ?_, ?_⟩
          · unfold f_X2_fewest_L91
            dsimp only
            rw [i1, if_neg c1, L, if_neg d1, d2, if_pos (hb1.mpr q), sp]
            simp only [Option.bind_some]
            rw [if_neg b0]
          · intro m' hm'
            by_cases z : m' = m
            · rw [z]; exact q
            · exact i4 m' (by omega)
          · intro m' hm'
            by_cases z : m' = m + 1
            · rw [z]; exact ⟨c, w, hc⟩
            · exact i5 m' (by omega)
    · -- more levels than places
      rintro s ⟨-, -, -, -, i5⟩
      exfalso
      have hch : ∀ m : Nat, ∃ cw : Int × Int, m ≤ 3721 → EDG g N m cw.1 cw.2 := by
        intro m
        by_cases z : m ≤ 3721
        · obtain ⟨c, w, h⟩ := i5 m z
          exact ⟨(c, w), fun _ => h⟩
        · exact ⟨(0, 0), fun h => absurd h z⟩
      obtain ⟨i, j, h1, h2, h3⟩ := pigeon 3721 (fun m => ((Classical.choose (hch m)).1 * 61 + (Classical.choose (hch m)).2).toNat) (fun i hi => by
        obtain ⟨p1, p2⟩ := SEEN_in i _ _ (EDG_seen (Classical.choose_spec (hch i) hi))
        unfold inb at p1 p2
        omega)
      have q1 := Classical.choose_spec (hch i) (by omega)
      have q2 := Classical.choose_spec (hch j) h2
      obtain ⟨p1, p2⟩ := SEEN_in i _ _ (EDG_seen q1)
      obtain ⟨p3, p4⟩ := SEEN_in j _ _ (EDG_seen q2)
      unfold inb at p1 p2 p3 p4
      have e1 : (Classical.choose (hch i)).1 = (Classical.choose (hch j)).1 := by omega
      have e2 : (Classical.choose (hch i)).2 = (Classical.choose (hch j)).2 := by omega
      rw [e1, e2] at q1
      obtain ⟨j', rfl⟩ : ∃ j', j = j' + 1 := ⟨j - 1, by omega⟩
      have q3 := SEEN_mono (EDG_seen q1) (j' - i)
      rw [show i + (j' - i) = j' by omega] at q3
      exact q2.2 q3
  obtain ⟨z, e, hz⟩ := key
  have f1 : f_X4_first (pk a b) + (30 : Int64) = lo (col : Int) := by
    rw [first_pk b (by unfold i32; omega), ← hcol]
    exact lo_add a 30
  have f2 : f_X4_second (pk a b) + (30 : Int64) = lo (row : Int) := by
    rw [second_pk a (by unfold i32; omega), ← hrow]
    exact lo_add b 30
  have g1 : ¬ lo (col : Int) < (0 : Int64) := fun x => by
    have := (lo_lt (b := 0) (by unfold i64; omega) (by unfold i64; omega)).mp x
    omega
  have g2 : ¬ (61 : Int64) ≤ lo (col : Int) := fun x => by
    have := (lo_le (a := 61) (by unfold i64; omega) (by unfold i64; omega)).mp x
    omega
  have g3 : ¬ lo (row : Int) < (0 : Int64) := fun x => by
    have := (lo_lt (b := 0) (by unfold i64; omega) (by unfold i64; omega)).mp x
    omega
  have g4 : lo (row : Int) < (61 : Int64) := (lo_lt (b := 61) (by unfold i64; omega) (by unfold i64; omega)).mpr (by omega)
  have E : f_X2_fewest (io (N : Int)) l sen edg nxt (pk a b) = Option.bind (some z) (Sum.elim (fun y91 => f_X2_fewest_K91_117 y91.2.1 y91.2.2.1 y91.2.2.2 y91.1) (Sum.elim (fun y91 => f_X2_fewest_K91_127 y91.1 y91.2.1 y91.2.2) (fun y91 => f_X2_fewest_K91_136 y91.1 y91.2.1 y91.2.2))) := by
    unfold f_X2_fewest
    rw [f1, f2, if_neg g1, if_neg g2, if_neg g3, if_pos g4, fs]
    simp only [Option.bind_some]
    rw [fe]
    simp only [Option.bind_some]
    rw [if_neg (by decide), show (30 : Int32).toNatClampNeg = 30 by decide, e]
    rfl
  rw [E, hcol, hrow]
  rcases hz with ⟨v, s', e', n', rfl, h⟩ | ⟨y, rfl, h⟩
  · exact ⟨v, s', e', n', rfl, h⟩
  · exact ⟨-4, _, _, _, rfl, Or.inr ⟨rfl, h⟩⟩
