/-! the reference's leaps: a queue -/
theorem nat3721 {i : Nat} (hi : i < 3721) : ¬ (io (i : Int) < 0 ∨ 3721 ≤ (io (i : Int)).toNatClampNeg) ∧ (io (i : Int)).toNatClampNeg = i := by
  have e : (io (i : Int)).toNatClampNeg = i := by
    rw [Int32.toNatClampNeg, io_toInt (by unfold i32; omega)]
    omega
  refine ⟨?_, e⟩
  rw [e]
  rintro (h | h)
  · have := (io_lt (b := 0) (by unfold i32; omega) (by unfold i32; omega)).mp h
    omega
  · omega
theorem upd_v (f : Nat → Int32) (i : Nat) (v : Int32) (j : Nat) : upd f i v j = if j = i then v else f j := rfl
def QI (g : Nat → Int × Int) (N many at' : Nat) (fars queue : Nat → Int32) (q : Nat → Int × Int) (f : Nat → Nat) : Prop :=
  (1 ≤ many ∧ many ≤ 3721) ∧ q 0 = (30, 30) ∧
  (∀ i, i < many → queue i = io (61 * (q i).1 + (q i).2) ∧ inb (q i).1 ∧ inb (q i).2 ∧ fars (61 * (q i).1 + (q i).2).toNat = io ((f i : Nat) : Int) ∧ f i ≤ i ∧ SEEN g N (f i) (q i).1 (q i).2 ∧ ∀ m, m < f i → ¬ SEEN g N m (q i).1 (q i).2) ∧
  (∀ i j, i < j → j < many → ¬ q i = q j) ∧
  (∀ c w : Int, inb c → inb w → (∀ i, i < many → ¬ q i = (c, w)) → fars (61 * c + w).toNat = -4) ∧
  (∀ i j, i ≤ j → j < many → f i ≤ f j) ∧ (at' < many → ∀ j, j < many → f j ≤ f at' + 1) ∧
  (∀ i, i < at' → i < many → ∀ j, j < N → inb ((q i).1 + (g j).1) → inb ((q i).2 + (g j).2) → ∃ i', i' < many ∧ q i' = ((q i).1 + (g j).1, (q i).2 + (g j).2))
/-- all that are as near as the one at hand stand in the queue -/
theorem QI_near {g : Nat → Int × Int} {N many at' : Nat} {fars queue : Nat → Int32} {q : Nat → Int × Int} {f : Nat → Nat} (h : QI g N many at' fars queue q f) (ha : at' < many) : ∀ m, m ≤ f at' → ∀ c w : Int, SEEN g N m c w → ∃ i, i < many ∧ q i = (c, w) := by
  obtain ⟨h1, h2, h3, h4, h5, h6, h7, h8⟩ := h
  intro m
  induction m with
  | zero =>
    rintro _ c w ⟨rfl, rfl⟩
    exact ⟨0, by omega, h2⟩
  | succ m ih =>
    rintro hm c w (hs | ⟨hc, hw, j, hj, hs⟩)
    · exact ih (by omega) c w hs
    · obtain ⟨i, hi, e⟩ := ih (by omega) _ _ hs
      obtain ⟨-, -, -, -, -, -, k7⟩ := h3 i hi
      have fi : f i ≤ m := by
        rcases Nat.lt_or_ge m (f i) with z | z
        · rw [e] at k7
          exact absurd hs (k7 m z)
        · exact z
      have lt : i < at' := by
        rcases Nat.lt_or_ge i at' with z | z
        · exact z
        · have := h6 at' i z hi
          omega
      obtain ⟨i', k1, k2⟩ := h8 i lt hi j hj (by rw [e]; dsimp only; rw [Int.sub_add_cancel]; exact hc) (by rw [e]; dsimp only; rw [Int.sub_add_cancel]; exact hw)
      refine ⟨i', k1, ?_⟩
      rw [k2, e]
      dsimp only
      rw [Int.sub_add_cancel, Int.sub_add_cancel]
theorem QI_all {g : Nat → Int × Int} {N many : Nat} {fars queue : Nat → Int32} {q : Nat → Int × Int} {f : Nat → Nat} (h : QI g N many many fars queue q f) : ∀ m, ∀ c w : Int, SEEN g N m c w → ∃ i, i < many ∧ q i = (c, w) := by
  obtain ⟨h1, h2, h3, h4, h5, h6, h7, h8⟩ := h
  intro m
  induction m with
  | zero =>
    rintro c w ⟨rfl, rfl⟩
    exact ⟨0, by omega, h2⟩
  | succ m ih =>
    rintro c w (hs | ⟨hc, hw, j, hj, hs⟩)
    · exact ih c w hs
    · obtain ⟨i, hi, e⟩ := ih _ _ hs
      obtain ⟨i', k1, k2⟩ := h8 i hi hi j hj (by rw [e]; dsimp only; rw [Int.sub_add_cancel]; exact hc) (by rw [e]; dsimp only; rw [Int.sub_add_cancel]; exact hw)
      refine ⟨i', k1, ?_⟩
      rw [k2, e]
      dsimp only
      rw [Int.sub_add_cancel, Int.sub_add_cancel]
theorem code_inj {a b c d : Int} (ha : inb a) (hb : inb b) (hc : inb c) (hd : inb d) (e : (61 * a + b).toNat = (61 * c + d).toNat) : (a, b) = (c, d) := by
  unfold inb at *
  exact Prod.ext (by dsimp only; omega) (by dsimp only; omega)
/-- a new one comes to the end -/
theorem QI_add {g : Nat → Int × Int} {N many at' : Nat} {fars queue : Nat → Int32} {q : Nat → Int × Int} {f : Nat → Nat} (h : QI g N many at' fars queue q f) (ha : at' < many) {j : Nat} (hj : j < N) {c w : Int} (hc : inb c) (hw : inb w) (ec : c = (q at').1 + (g j).1) (ew : w = (q at').2 + (g j).2) (hn : ∀ i, i < many → ¬ q i = (c, w)) : many < 3721 ∧ QI g N (many + 1) at' (upd fars (61 * c + w).toNat (io ((f at' + 1 : Nat) : Int))) (upd queue many (io (61 * c + w))) (fun i => if i = many then (c, w) else q i) (fun i => if i = many then f at' + 1 else f i) := by
  have near := QI_near h ha
  obtain ⟨h1, h2, h3, h4, h5, h6, h7, h8⟩ := h
  have hlt : many < 3721 := by
    rcases Nat.lt_or_ge many 3721 with z | z
    · exact z
    · exfalso
      have hm : many = 3721 := by omega
      subst hm
      obtain ⟨i, j', g1, g2, g3⟩ := pigeon 3721 (fun i => if i < 3721 then (61 * (q i).1 + (q i).2).toNat else (61 * c + w).toNat) (fun i hi => by
        by_cases z : i < 3721
        · rw [if_pos z]
          obtain ⟨-, k2, k3, -⟩ := h3 i z
          unfold inb at k2 k3
          omega
        · rw [if_neg z]
          unfold inb at hc hw
          omega)
      rw [if_pos (by omega)] at g3
      obtain ⟨-, k2, k3, -⟩ := h3 i (by omega)
      by_cases z : j' < 3721
      · rw [if_pos z] at g3
        obtain ⟨-, k4, k5, -⟩ := h3 j' z
        exact h4 i j' g1 z (code_inj k2 k3 k4 k5 g3)
      · rw [if_neg z] at g3
        exact hn i (by omega) (code_inj k2 k3 hc hw g3)
  obtain ⟨p1, p2, p3, p4, p5, p6, p7⟩ := h3 at' ha
  have newSeen : SEEN g N (f at' + 1) c w := Or.inr ⟨hc, hw, j, hj, by rw [ec, ew, Int.add_sub_cancel, Int.add_sub_cancel]; exact p6⟩
  have newFar : ∀ m, m < f at' + 1 → ¬ SEEN g N m c w := fun m hm hs => by
    obtain ⟨i, hi, e⟩ := near m (by omega) c w hs
    exact hn i hi e
  refine ⟨hlt, ⟨by omega, by omega⟩, ?_, ?_, ?_, ?_, ?_, ?_, ?_⟩
  · dsimp only
    rw [if_neg (by omega)]
    exact h2
  · intro i hi
    dsimp only
    by_cases z : i = many
    · rw [if_pos z, if_pos z, upd_v, if_pos z, upd_v, if_pos rfl]
      exact ⟨rfl, hc, hw, rfl, by omega, newSeen, newFar⟩
    · obtain ⟨k1, k2, k3, k4, k5, k6, k7⟩ := h3 i (by omega)
      rw [if_neg z, if_neg z, upd_v, if_neg z, upd_v, if_neg (fun e => hn i (by omega) (code_inj k2 k3 hc hw e))]
      exact ⟨k1, k2, k3, k4, k5, k6, k7⟩
  · intro i i2 hi hi2
    dsimp only
    rw [if_neg (show ¬ i = many by omega)]
    by_cases z : i2 = many
    · rw [if_pos z]; exact hn i (by omega)
    · rw [if_neg z]; exact h4 i i2 hi (by omega)
  · intro c2 w2 hc2 hw2 hn2
    have a1 := hn2 many (by omega)
    dsimp only at a1
    rw [if_pos rfl] at a1
    rw [upd_v, if_neg (fun e => a1 (code_inj hc hw hc2 hw2 e.symm))]
    refine h5 c2 w2 hc2 hw2 (fun i hi => ?_)
    have := hn2 i (by omega)
    dsimp only at this
    rw [if_neg (by omega)] at this
    exact this
  · intro i i2 hi hi2
    dsimp only
    by_cases z : i2 = many
    · rw [if_pos z]
      by_cases z1 : i = many
      · rw [if_pos z1]; omega
      · rw [if_neg z1]; exact h7 ha i (by omega)
    · rw [if_neg z, if_neg (by omega)]
      exact h6 i i2 hi (by omega)
  · intro _ i hi
    dsimp only
    rw [if_neg (show ¬ at' = many by omega)]
    by_cases z : i = many
    · rw [if_pos z]; omega
    · rw [if_neg z]; exact h7 ha i (by omega)
  · intro i hi hi2 j2 hj2 q1 q2
    dsimp only at q1 q2 ⊢
    rw [if_neg (show ¬ i = many by omega)] at q1 q2 ⊢
    obtain ⟨i', k1, k2⟩ := h8 i hi (by omega) j2 hj2 q1 q2
    exact ⟨i', by omega, by rw [if_neg (by omega)]; exact k2⟩
theorem inner166 {g : Nat → Int × Int} {N : Nat} (hN : N ≤ 12) (hg : ∀ j, j < N → ((g j).1.natAbs : Int) ≤ 160000 ∧ ((g j).2.natAbs : Int) ≤ 160000) {lA lB : Nat → Int64} (hl : ∀ j, j < N → lA j = lo (g j).1 ∧ lB j = lo (g j).2) {at' : Nat} : ∀ {many : Nat} {fars queue : Nat → Int32} {q : Nat → Int × Int} {f : Nat → Nat}, QI g N many at' fars queue q f → at' < many → ∃ many' fars' queue' q' f', whl (f_X8_leaps_L166 (io (N : Int)) lA lB (io (at' : Int))) (io (many : Int), (0 : Int32), fars, queue) = some (io ((many' : Nat) : Int), fars', queue') ∧ QI g N many' (at' + 1) fars' queue' q' f' ∧ at' < many' := by
  intro many fars queue q f hq ha
  have key : ∃ z, whl (f_X8_leaps_L166 (io (N : Int)) lA lB (io (at' : Int))) (io (many : Int), (0 : Int32), fars, queue) = some z ∧ ∃ many' fars' queue' q' f', z = (io ((many' : Nat) : Int), fars', queue') ∧ QI g N many' at' fars' queue' q' f' ∧ at' < many' ∧ q' at' = q at' ∧ ∀ j, j < N → inb ((q at').1 + (g j).1) → inb ((q at').2 + (g j).2) → ∃ i', i' < many' ∧ q' i' = ((q at').1 + (g j).1, (q at').2 + (g j).2) := by
    refine whl_for (b := f_X8_leaps_L166 (io (N : Int)) lA lB (io (at' : Int))) N (fun k s => ∃ (many' : Nat) (fars' queue' : Nat → Int32) (q' : Nat → Int × Int) (f' : Nat → Nat), s = (io ((many' : Nat) : Int), io (k : Int), fars', queue') ∧ QI g N many' at' fars' queue' q' f' ∧ at' < many' ∧ q' at' = q at' ∧ ∀ j, j < k → inb ((q at').1 + (g j).1) → inb ((q at').2 + (g j).2) → ∃ i', i' < many' ∧ q' i' = ((q at').1 + (g j).1, (q at').2 + (g j).2)) _ ?_ ?_ 0 _ (by omega) ⟨many, fars, queue, q, f, rfl, hq, ha, rfl, fun j h => by omega⟩
    · rintro k s hk ⟨mn, fr, qu, q', f', rfl, hQ, hA, hqa, hnb⟩
      obtain ⟨h1, h2, h3, h4, h5, h6, h7, h8⟩ := id hQ
      obtain ⟨p1, p2, p3, p4, p5, p6, p7⟩ := h3 at' hA
      obtain ⟨d1, d2⟩ := nat3721 (i := at') (by omega)
      obtain ⟨d3, d4⟩ := nat12 (i := k) (by omega)
      obtain ⟨a1, a2⟩ := hg k hk
      have c1 : ¬ (io (N : Int) ≤ io (k : Int)) := fun e => by
        have := (io_le (by unfold i32; omega) (by unfold i32; omega)).mp e
        omega
      rw [hqa] at p1 p2 p3 p4 p6 p7
      generalize hU : (q at').1 = U at *
      generalize hW : (q at').2 = W at *
      have i2 := p2
      have i3 := p3
      unfold inb at i2 i3
      have qd : qu at' / (61 : Int32) = io U := by
        rw [p1]
        have : io (61 * U + W) / (61 : Int32) = io ((61 * U + W) / 61) := io_div (b := 61) (by unfold i32; omega) (by unfold i32; omega) (by omega) (by omega)
        rw [this]
        congr 1
        omega
      have qm : qu at' - qu at' / (61 : Int32) * (61 : Int32) = io W := by
        rw [p1]
        have : io (61 * U + W) - io (61 * U + W) / (61 : Int32) * (61 : Int32) = io ((61 * U + W) % 61) := io_rem (b := 61) (by unfold i32; omega) (by unfold i32; omega) (by omega) (by omega)
        rw [this]
        congr 1
        omega
      have eu : (qu at' / (61 : Int32)).toInt64 + lA k = lo (U + (g k).1) := by rw [qd, io_w (by unfold i32; omega), (hl k hk).1, lo_add]
      have ew : (qu at' - qu at' / (61 : Int32) * (61 : Int32)).toInt64 + lB k = lo (W + (g k).2) := by rw [qm, io_w (by unfold i32; omega), (hl k hk).2, lo_add]
      have cu : f_X8_in (lo (U + (g k).1)) 0 60 = 0 ↔ ¬ (0 ≤ U + (g k).1 ∧ U + (g k).1 ≤ 60) := in_lo (l := 0) (u := 60) (by unfold i64; omega) (by unfold i64; omega) (by unfold i64; omega)
      have cw : f_X8_in (lo (W + (g k).2)) 0 60 = 0 ↔ ¬ (0 ≤ W + (g k).2 ∧ W + (g k).2 ≤ 60) := in_lo (l := 0) (u := 60) (by unfold i64; omega) (by unfold i64; omega) (by unfold i64; omega)
      have skip : ∀ (mn2 : Nat) (q2 : Nat → Int × Int), (∀ i, i < mn → q2 i = q' i) → mn ≤ mn2 → ((inb (U + (g k).1) ∧ inb (W + (g k).2)) → ∃ i', i' < mn2 ∧ q2 i' = (U + (g k).1, W + (g k).2)) → ∀ j, j < k + 1 → inb (U + (g j).1) → inb (W + (g j).2) → ∃ i', i' < mn2 ∧ q2 i' = (U + (g j).1, W + (g j).2) := by
        intro mn2 q2 hq2 hm2 hn2 j hj x1 x2
        by_cases z : j = k
        · subst z; exact hn2 ⟨x1, x2⟩
        · obtain ⟨i', y1, y2⟩ := hnb j (by omega) x1 x2
          exact ⟨i', by omega, by rw [hq2 i' y1]; exact y2⟩
      unfold f_X8_leaps_L166
      dsimp only
      rw [if_neg c1, if_neg d1, d2, if_neg d3, d4, eu, ew]
      by_cases g1 : inb (U + (g k).1)
      · rw [if_neg (fun e => cu.mp e g1)]
        by_cases g2 : inb (W + (g k).2)
        · rw [if_neg (fun e => cw.mp e g2)]
          have g1' := g1
          have g2' := g2
          unfold inb at g1' g2'
          have ecd : ((61 : Int64) * lo (U + (g k).1) + lo (W + (g k).2)).toInt32 = io (((61 * (U + (g k).1) + (W + (g k).2)).toNat : Nat) : Int) := by
            have : (61 : Int64) * lo (U + (g k).1) = lo (61 * (U + (g k).1)) := lo_mul 61 _
            rw [this, lo_add, lo_n]
            congr 1
            omega
          obtain ⟨d5, d6⟩ := nat3721 (i := (61 * (U + (g k).1) + (W + (g k).2)).toNat) (by omega)
          rw [ecd, if_neg d5, d6]
          by_cases g3 : ∃ i, i < mn ∧ q' i = (U + (g k).1, W + (g k).2)
          · obtain ⟨i, hi, e⟩ := g3
            obtain ⟨-, -, -, k4, k5, -⟩ := h3 i hi
            rw [e] at k4
            dsimp only at k4
            have ne : ¬ fr (61 * (U + (g k).1) + (W + (g k).2)).toNat = (-4 : Int32) := fun x => by
              rw [k4] at x
              have := (io_eq (b := -4) (by unfold i32; omega) (by unfold i32; omega)).mp x
              omega
            rw [if_neg ne]
            exact ⟨_, rfl, mn, fr, qu, q', f', by rw [io_1]; rfl, hQ, hA, hqa, skip mn q' (fun _ _ => rfl) (Nat.le_refl _) (fun _ => ⟨i, hi, e⟩)⟩
          · have hn : ∀ i, i < mn → ¬ q' i = (U + (g k).1, W + (g k).2) := fun i hi e => g3 ⟨i, hi, e⟩
            have f4 := h5 _ _ g1 g2 hn
            obtain ⟨lt, hQ'⟩ := QI_add hQ hA hk g1 g2 (by rw [hqa, hU]) (by rw [hqa, hW]) hn
            obtain ⟨d7, d8⟩ := nat3721 (i := mn) lt
            have eq1 : qu at' = io (((61 * U + W).toNat : Nat) : Int) := by
              rw [p1]
              congr 1
              omega
            obtain ⟨d9, d10⟩ := nat3721 (i := (61 * U + W).toNat) (by omega)
            rw [← eq1] at d9 d10
            rw [if_pos f4, if_neg d9, if_neg d7, d10, d8, p4]
            have ef : io ((f' at' : Nat) : Int) + (1 : Int32) = io ((f' at' + 1 : Nat) : Int) := io_1 _
            have em : io ((mn : Nat) : Int) + (1 : Int32) = io ((mn + 1 : Nat) : Int) := io_1 _
            have ek : io ((k : Nat) : Int) + (1 : Int32) = io ((k + 1 : Nat) : Int) := io_1 _
            have ec : io (((61 * (U + (g k).1) + (W + (g k).2)).toNat : Nat) : Int) = io (61 * (U + (g k).1) + (W + (g k).2)) := by
              congr 1
              omega
            rw [ef, em, ek, ec]
            refine ⟨_, rfl, mn + 1, _, _, _, _, rfl, hQ', by omega, ?_, skip (mn + 1) _ (fun i hi => by rw [if_neg (by omega)]) (by omega) (fun _ => ⟨mn, by omega, by rw [if_pos rfl]⟩)⟩
            rw [if_neg (by omega)]
            exact hqa
        · rw [if_pos (cw.mpr g2)]
          exact ⟨_, rfl, mn, fr, qu, q', f', by rw [io_1]; rfl, hQ, hA, hqa, skip mn q' (fun _ _ => rfl) (Nat.le_refl _) (fun x => absurd x.2 g2)⟩
      · rw [if_pos (cu.mpr g1)]
        exact ⟨_, rfl, mn, fr, qu, q', f', by rw [io_1]; rfl, hQ, hA, hqa, skip mn q' (fun _ _ => rfl) (Nat.le_refl _) (fun x => absurd x.1 g1)⟩
    · rintro s ⟨mn, fr, qu, q', f', rfl, hQ, hA, hqa, hnb⟩
      refine ⟨_, ?_, mn, fr, qu, q', f', rfl, hQ, hA, hqa, hnb⟩
      unfold f_X8_leaps_L166
      dsimp only
      rw [if_pos (Int32.le_refl _)]
  obtain ⟨z, e, mn, fr, qu, q', f', rfl, hQ, hA, hqa, hnb⟩ := key
  refine ⟨mn, fr, qu, q', f', e, ?_, hA⟩
  obtain ⟨h1, h2, h3, h4, h5, h6, h7, h8⟩ := hQ
  refine ⟨h1, h2, h3, h4, h5, h6, ?_, ?_⟩
  · intro hlt j hj
    have := h7 hA j hj
    have := h6 at' (at' + 1) (by omega) hlt
    omega
  · intro i hi hi2 j hj x1 x2
    by_cases z : i = at'
    · subst z
      rw [hqa] at x1 x2 ⊢
      exact hnb j hj x1 x2
    · exact h8 i (by omega) hi2 j hj x1 x2
theorem bfs8 {g : Nat → Int × Int} {N : Nat} (hN : N ≤ 12) (hg : ∀ j, j < N → ((g j).1.natAbs : Int) ≤ 160000 ∧ ((g j).2.natAbs : Int) ≤ 160000) {lA lB : Nat → Int64} (hl : ∀ j, j < N → lA j = lo (g j).1 ∧ lB j = lo (g j).2) {c w : Int} (hc : inb c) (hw : inb w) {fars queue : Nat → Int32} (hf : ∀ j, j < 3721 → fars j = -4) : ∃ fr qu, whl (f_X8_leaps_L145 (io (N : Int)) lA lB (io (61 * c + w))) ((1 : Int32), (0 : Int32), upd fars 1860 0, upd queue 0 1860) = some (fr, qu) ∧ FAR g N c w (fr (61 * c + w).toNat) := by
  have c0 := hc
  have w0 := hw
  unfold inb at c0 w0
  obtain ⟨d1, d2⟩ := nat3721 (i := (61 * c + w).toNat) (by omega)
  rw [show (((61 * c + w).toNat : Nat) : Int) = 61 * c + w by omega] at d1 d2
  have i30 : inb 30 := by unfold inb; omega
  have start : QI g N 1 0 (upd fars 1860 0) (upd queue 0 1860) (fun _ => (30, 30)) (fun _ => 0) := by
    refine ⟨by omega, rfl, ?_, ?_, ?_, fun _ _ _ _ => Nat.le_refl _, fun _ _ _ => Nat.zero_le _, fun i hi => absurd hi (Nat.not_lt_zero i)⟩
    · intro i hi
      have : i = 0 := by omega
      subst this
      exact ⟨rfl, i30, i30, rfl, Nat.le_refl _, ⟨rfl, rfl⟩, fun m hm => absurd hm (Nat.not_lt_zero m)⟩
    · intro i j h1 h2; omega
    · intro c2 w2 hc2 hw2 hn
      have := hn 0 (by omega)
      rw [upd_v, if_neg]
      · unfold inb at hc2 hw2
        exact hf _ (by omega)
      · intro e
        apply this
        exact code_inj (by unfold inb; omega) (by unfold inb; omega) hc2 hw2 (by rw [e]; rfl)
  have key : ∃ z, whl (f_X8_leaps_L145 (io (N : Int)) lA lB (io (61 * c + w))) ((1 : Int32), (0 : Int32), upd fars 1860 0, upd queue 0 1860) = some z ∧ FAR g N c w (z.1 (61 * c + w).toNat) := by
    refine whl_fe (b := f_X8_leaps_L145 (io (N : Int)) lA lB (io (61 * c + w))) 3721 (fun i s => ∃ (many : Nat) (fr qu : Nat → Int32) (q : Nat → Int × Int) (f : Nat → Nat), s = (io ((many : Nat) : Int), io ((i : Nat) : Int), fr, qu) ∧ QI g N many i fr qu q f ∧ i ≤ many) _ ?_ ?_ 0 _ (by omega) ⟨1, _, _, _, _, rfl, start, by omega⟩
    · rintro i s hi ⟨mn, fr, qu, q, f, rfl, hQ, him⟩
      obtain ⟨h1, h2, h3, h4, h5, h6, h7, h8⟩ := id hQ
      have inq : (∃ j, j < mn ∧ q j = (c, w)) → FAR g N c w (fr (61 * c + w).toNat) ∧ ¬ fr (61 * c + w).toNat = -4 := by
        rintro ⟨j, hj, e⟩
        obtain ⟨-, -, -, k4, k5, k6, k7⟩ := h3 j hj
        rw [e] at k4 k6 k7
        dsimp only at k4 k6 k7
        refine ⟨Or.inl ⟨f j, k4, k6, k7⟩, fun x => ?_⟩
        rw [k4] at x
        have := (io_eq (b := -4) (by unfold i32; omega) (by unfold i32; omega)).mp x
        omega
      by_cases ge : mn ≤ i
      · left
        have hmi : i = mn := by omega
        subst hmi
        refine ⟨(fr, qu), ?_, ?_⟩
        · unfold f_X8_leaps_L145
          dsimp only
          rw [if_pos (Int32.le_refl _)]
        · by_cases y : ∃ j, j < i ∧ q j = (c, w)
          · exact (inq y).1
          · right
            refine ⟨h5 c w hc hw (fun j hj e => y ⟨j, hj, e⟩), fun m hs => y (QI_all hQ m c w hs)⟩
      · have c1 : ¬ io ((mn : Nat) : Int) ≤ io ((i : Nat) : Int) := fun e => by
          have := (io_le (by unfold i32; omega) (by unfold i32; omega)).mp e
          omega
        by_cases y : ∃ j, j < mn ∧ q j = (c, w)
        · left
          obtain ⟨y1, y2⟩ := inq y
          refine ⟨(fr, qu), ?_, y1⟩
          unfold f_X8_leaps_L145
          dsimp only
          rw [if_neg c1, if_neg d1, d2, if_neg y2]
        · right
          have f4 := h5 c w hc hw (fun j hj e => y ⟨j, hj, e⟩)
          obtain ⟨mn', fr', qu', q', f', e, hQ', hA⟩ := inner166 hN hg hl hQ (by omega)
          refine ⟨_, ?_, mn', fr', qu', q', f', rfl, hQ', by omega⟩
          unfold f_X8_leaps_L145 f_X8_leaps_K166_312
          dsimp only
          rw [if_neg c1, if_neg d1, d2, if_pos f4, e]
          simp only [Option.bind_some]
          rw [io_1]
          rfl
    · rintro s ⟨mn, fr, qu, q, f, rfl, hQ, him⟩
      obtain ⟨h1, h2, h3, h4, h5, h6, h7, h8⟩ := id hQ
      have hmi : mn = 3721 := by omega
      subst hmi
      refine ⟨(fr, qu), ?_, ?_⟩
      · unfold f_X8_leaps_L145
        dsimp only
        rw [if_pos (Int32.le_refl _)]
      · by_cases y : ∃ j, j < 3721 ∧ q j = (c, w)
        · obtain ⟨j, hj, e⟩ := y
          obtain ⟨-, -, -, k4, k5, k6, k7⟩ := h3 j hj
          rw [e] at k4 k6 k7
          exact Or.inl ⟨f j, k4, k6, k7⟩
        · right
          refine ⟨h5 c w hc hw (fun j hj e => y ⟨j, hj, e⟩), fun m hs => y (QI_all hQ m c w hs)⟩
  obtain ⟨⟨fr, qu⟩, e, h⟩ := key
  exact ⟨fr, qu, e, h⟩
theorem fill3721 (r : Nat → Int32) : ∃ z, whl f_X8_leaps_L73 ((0 : Int32), r) = some z ∧ ∀ j : Nat, j < 3721 → z j = -4 := by
  refine whl_for (b := f_X8_leaps_L73) 3721 (fun i s => s.1 = io (i : Int) ∧ ∀ j : Nat, j < i → s.2 j = -4) (fun z => ∀ j : Nat, j < 3721 → z j = -4) ?_ ?_ 0 _ (by omega) ⟨rfl, fun j h => by omega⟩
  · rintro i ⟨s1, s2⟩ hi ⟨e1, e2⟩
    dsimp only at e1 e2
    have c1 : ¬ ((3721 : Int32) ≤ io (i : Int)) := fun e => by
      have := (io_le (a := 3721) (by unfold i32; omega) (by unfold i32; omega)).mp e
      omega
    obtain ⟨d1, d2⟩ := nat3721 hi
    rw [d2] at d1
    unfold f_X8_leaps_L73
    dsimp only
    rw [e1, if_neg c1, d2, if_neg d1, io_1]
    refine ⟨_, rfl, rfl, fun j hj => ?_⟩
    dsimp only
    rw [upd_v]
    by_cases g : j = i
    · rw [if_pos g]
    · rw [if_neg g]
      exact e2 j (by omega)
  · rintro ⟨s1, s2⟩ ⟨e1, e2⟩
    dsimp only at e1 e2
    unfold f_X8_leaps_L73
    dsimp only
    rw [e1, if_pos (by decide)]
    exact ⟨_, rfl, e2⟩
theorem SEEN_set {g g' : Nat → Int × Int} {N : Nat} (h : ∀ j, j < N → ∃ i, i < N ∧ g j = g' i) : ∀ (m : Nat) (c w : Int), SEEN g N m c w → SEEN g' N m c w := by
  intro m
  induction m with
  | zero => intro c w h; exact h
  | succ m ih =>
    rintro c w (hs | ⟨h1, h2, j, hj, hs⟩)
    · exact Or.inl (ih c w hs)
    · obtain ⟨i, hi, e⟩ := h j hj
      exact Or.inr ⟨h1, h2, i, hi, ih _ _ (by rw [← e]; exact hs)⟩
theorem FAR_eq {g g' : Nat → Int × Int} {N : Nat} (h1 : ∀ j, j < N → ∃ i, i < N ∧ g j = g' i) (h2 : ∀ j, j < N → ∃ i, i < N ∧ g' j = g i) {c w : Int} {v v' : Int32} (f : FAR g N c w v) (f' : FAR g' N c w v') : v = v' := by
  have iff : ∀ m, SEEN g N m c w ↔ SEEN g' N m c w := fun m => ⟨SEEN_set h1 m c w, SEEN_set h2 m c w⟩
  rcases f with ⟨n, rfl, s, l⟩ | ⟨rfl, l⟩
  · rcases f' with ⟨n', rfl, s', l'⟩ | ⟨rfl, l'⟩
    · have : n = n' := by
        rcases Nat.lt_trichotomy n n' with z | z | z
        · exact absurd ((iff n).mp s) (l' n z)
        · exact z
        · exact absurd ((iff n').mpr s') (l n' z)
      rw [this]
    · exact absurd ((iff n).mp s) (l' n)
  · rcases f' with ⟨n', rfl, s', l'⟩ | ⟨rfl, l'⟩
    · exact absurd ((iff n').mpr s') (l n')
    · rfl
