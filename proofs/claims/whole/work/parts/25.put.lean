/-! what a register takes: put and keep; reckon, turn -/
theorem n01 : ¬ (0 : Int32) = 1 := by decide
theorem n02 : ¬ (0 : Int32) = 2 := by decide
theorem n03 : ¬ (0 : Int32) = 3 := by decide
theorem n04 : ¬ (0 : Int32) = 4 := by decide
theorem n10 : ¬ (1 : Int32) = 0 := by decide
theorem n12 : ¬ (1 : Int32) = 2 := by decide
theorem n13 : ¬ (1 : Int32) = 3 := by decide
theorem n14 : ¬ (1 : Int32) = 4 := by decide
theorem n20 : ¬ (2 : Int32) = 0 := by decide
theorem n21 : ¬ (2 : Int32) = 1 := by decide
theorem n23 : ¬ (2 : Int32) = 3 := by decide
theorem n24 : ¬ (2 : Int32) = 4 := by decide
theorem n30 : ¬ (3 : Int32) = 0 := by decide
theorem n31 : ¬ (3 : Int32) = 1 := by decide
theorem n32 : ¬ (3 : Int32) = 2 := by decide
theorem n34 : ¬ (3 : Int32) = 4 := by decide
theorem n40 : ¬ (4 : Int32) = 0 := by decide
theorem n41 : ¬ (4 : Int32) = 1 := by decide
theorem n42 : ¬ (4 : Int32) = 2 := by decide
theorem n43 : ¬ (4 : Int32) = 3 := by decide
theorem n50 : ¬ (5 : Int32) = 0 := by decide
theorem n51 : ¬ (5 : Int32) = 1 := by decide
theorem n52 : ¬ (5 : Int32) = 2 := by decide
theorem n53 : ¬ (5 : Int32) = 3 := by decide
theorem n54 : ¬ (5 : Int32) = 4 := by decide
theorem near_lo {x : Int} (h : i64 x) : f_X7_isNear (lo x) = 0 ↔ ¬ rng x := by
  rcases near_cases (lo x) with ⟨a, b⟩ | ⟨a, b⟩ <;> rw [lo_toInt h] at b
  · exact ⟨fun _ => b, fun _ => a⟩
  · exact ⟨fun e => absurd e a, fun e => absurd b e⟩
theorem fits7 {x y : Int} (hx : i32 x) (hy : i32 y) : f_X7_fits (pk x y) = 0 ↔ ¬ (rng x ∧ rng y) := by
  unfold f_X7_fits
  rw [first_pk y hx, second_pk x hy]
  by_cases h1 : rng x
  · rw [if_neg (fun e => (near_lo hx.w).mp e h1)]
    by_cases h2 : rng y
    · rw [if_neg (fun e => (near_lo hy.w).mp e h2)]
      exact ⟨fun e => absurd e (by decide), fun e => absurd ⟨h1, h2⟩ e⟩
    · rw [if_pos ((near_lo hy.w).mpr h2)]
      exact ⟨fun _ e => h2 e.2, fun _ => rfl⟩
  · rw [if_pos ((near_lo hx.w).mpr h1)]
    exact ⟨fun _ e => h1 e.1, fun _ => rfl⟩
theorem fits8 {x y : Int} (hx : i64 x) (hy : i64 y) : f_X8_fits (lo x) (lo y) = 0 ↔ ¬ (rng x ∧ rng y) := by
  unfold f_X8_fits
  rw [in_near, in_near]
  by_cases h1 : rng x
  · rw [if_neg (fun e => (near_lo hx).mp e h1)]
    by_cases h2 : rng y
    · rw [if_neg (fun e => (near_lo hy).mp e h2)]
      exact ⟨fun e => absurd e (by decide), fun e => absurd ⟨h1, h2⟩ e⟩
    · rw [if_pos ((near_lo hy).mpr h2)]
      exact ⟨fun _ e => h2 e.2, fun _ => rfl⟩
  · rw [if_pos ((near_lo hx).mpr h1)]
    exact ⟨fun _ e => h1 e.1, fun _ => rfl⟩
theorem put_both {v : Int32} (h1 : ¬ f_X7_isRegister v = 0) (h3 : ¬ (v < 0 ∨ 8 ≤ v.toNatClampNeg)) {r rA rB : Nat → Int64} (hr : RG r rA rB) {x y : Int} (hx : i32 x) (hy : i32 y) : ∃ w r' rA' rB', f_X7_put r v (pk x y) = some (w, r') ∧ f_X8_keep (lo x) (lo y) rA rB v = some (w, rA', rB') ∧ RG r' rA' rB' := by
  unfold f_X7_put f_X8_keep
  rw [if_neg h1]
  by_cases z : rng x ∧ rng y
  · rw [if_neg (fun e => (fits7 hx hy).mp e z), if_neg (fun e => (fits8 hx.w hy.w).mp e z), if_neg h3, if_neg h3]
    exact ⟨_, _, _, _, rfl, rfl, hr.set _ z.1 z.2⟩
  · rw [if_pos ((fits7 hx hy).mpr z), if_pos ((fits8 hx.w hy.w).mpr z)]
    exact ⟨_, _, _, _, rfl, rfl, hr⟩
theorem reg2 {r rA rB : Nat → Int64} (hr : RG r rA rB) (v : Int32) : (f_X7_isRegister v = 0 ∧ f_X8_isReg v = 0) ∨ ∃ a b : Int, rng a ∧ rng b ∧ ¬ f_X7_isRegister v = 0 ∧ ¬ f_X8_isReg v = 0 ∧ ¬ (v < 0 ∨ 8 ≤ v.toNatClampNeg) ∧ r v.toNatClampNeg = pk a b ∧ rA v.toNatClampNeg = lo a ∧ rB v.toNatClampNeg = lo b := by
  rcases reg_cases v with h | ⟨j, hj, h1, h2, h3, h4⟩
  · exact Or.inl h
  · obtain ⟨a, b, ha, hb, r1, r2, r3⟩ := hr v.toNatClampNeg (by omega)
    exact Or.inr ⟨a, b, ha, hb, h1, h2, h3, r1, r2, r3⟩
theorem in_i {l u : Int} (hl : i32 l) (hu : i32 u) (v : Int32) : f_X8_in v.toInt64 (lo l) (lo u) = 0 ↔ v < io l ∨ io u < v := by
  obtain ⟨z, hz, rfl⟩ : ∃ z, i32 z ∧ v = io z := ⟨v.toInt, io_rng v, io_of v⟩
  rw [io_w hz, in_lo hz.w hl.w hu.w, io_lt hz hl, io_lt hu hz]
  omega
theorem mA_b {k : Nat} {a b c d : Int} (ha : rng a) (hb : rng b) (hc : rng c) (hd : rng d) : i32 (mA (kN k) a b c d) ∧ i32 (mB (kT k) a b c d) := by
  have m1 := mul_b ha.1 ha.2 hc.1 hc.2
  have m2 := mul_b hb.1 hb.2 hd.1 hd.2
  have m3 := mul_b ha.1 ha.2 hd.1 hd.2
  have m4 := mul_b hb.1 hb.2 hc.1 hc.2
  obtain ⟨⟨t1, t2⟩, n1, n2⟩ := kTN_b k
  have ht : kT k = -1 ∨ kT k = 0 ∨ kT k = 1 := by omega
  have hn : kN k = 1 ∨ kN k = 2 ∨ kN k = 3 := by omega
  unfold mA mB i32
  generalize kT k = t at *
  generalize kN k = n at *
  generalize a * c = A at *
  generalize b * d = B at *
  generalize a * d = C at *
  generalize b * c = D at *
  rcases ht with rfl | rfl | rfl <;> rcases hn with rfl | rfl | rfl <;> (refine ⟨⟨?_, ?_⟩, ?_, ?_⟩ <;> omega)
theorem NQ_i {t n a b c d : Int} (h : TN t n) (ha : xb a) (hb : xb b) (hc : yb c) (hd : yb d) (hS : 0 < sz t n c d) : i32 (NQ t n a b c d).1 ∧ i32 (NQ t n a b c d).2 := by
  obtain ⟨h1, h2, -⟩ := NQc_spec t n (sz t n c d) (acA t n a b c d % sz t n c d) (acB a b c d % sz t n c d)
  obtain ⟨g1, g2, -⟩ := near_ok (i := (NQc t n (sz t n c d) (acA t n a b c d % sz t n c d) (acB a b c d % sz t n c d)).1) (j := (NQc t n (sz t n c d) (acA t n a b c d % sz t n c d) (acB a b c d % sz t n c d)).2) h ha hb hc hd hS (by omega) (by omega) (by omega) (by omega)
  unfold NQ i32
  dsimp only
  exact ⟨by omega, by omega⟩
theorem nought8 {v : Int32} (h3 : ¬ (v < 0 ∨ 8 ≤ v.toNatClampNeg)) {rA rB : Nat → Int64} {c d : Int} (hc : yb c) (hd : yb d) (e1 : rA v.toNatClampNeg = lo c) (e2 : rB v.toNatClampNeg = lo d) : ((c = 0 ∧ d = 0) ∧ f_X8_isNought rA rB v = some 1) ∨ (¬ (c = 0 ∧ d = 0) ∧ f_X8_isNought rA rB v = some 0) := by
  unfold f_X8_isNought
  rw [if_neg h3, e1, e2]
  by_cases z1 : c = 0
  · rw [if_pos ((lo_z hc).mpr z1)]
    by_cases z2 : d = 0
    · rw [if_pos ((lo_z hd).mpr z2)]
      exact Or.inl ⟨⟨z1, z2⟩, rfl⟩
    · rw [if_neg (fun e => z2 ((lo_z hd).mp e))]
      exact Or.inr ⟨fun e => z2 e.2, rfl⟩
  · rw [if_neg (fun e => z1 ((lo_z hc).mp e))]
    exact Or.inr ⟨fun e => z1 e.1, rfl⟩
theorem what5 {v : Int32} (h : ¬ v < 0) (g : ¬ 5 < v) : v = 0 ∨ v = 1 ∨ v = 2 ∨ v = 3 ∨ v = 4 ∨ v = 5 := by
  obtain ⟨z, hz, rfl⟩ : ∃ z, i32 z ∧ v = io z := ⟨v.toInt, io_rng v, io_of v⟩
  have c1 : io z < 0 ↔ z < 0 := io_lt (b := 0) hz (by unfold i32; omega)
  have c2 : (5 : Int32) < io z ↔ 5 < z := io_lt (a := 5) (by unfold i32; omega) hz
  rw [c1] at h
  rw [c2] at g
  have : z = 0 ∨ z = 1 ∨ z = 2 ∨ z = 3 ∨ z = 4 ∨ z = 5 := by omega
  rcases this with rfl | rfl | rfl | rfl | rfl | rfl
  · exact Or.inl rfl
  · exact Or.inr (Or.inl rfl)
  · exact Or.inr (Or.inr (Or.inl rfl))
  · exact Or.inr (Or.inr (Or.inr (Or.inl rfl)))
  · exact Or.inr (Or.inr (Or.inr (Or.inr (Or.inl rfl))))
  · exact Or.inr (Or.inr (Or.inr (Or.inr (Or.inr rfl))))
theorem rng_sub {a b : Int} (ha : rng a) (hb : rng b) : i32 (a + b) ∧ i32 (a - b) := by
  unfold rng i32 at *
  omega
theorem reckon_core {k : Nat} (hk : k < 5) {us : List (Int × Int)} (hu : UN k us) {m : Int32} {uA uB : Nat → Int64} (hm : MU us m uA uB) {r gA gB : Nat → Int64} (hr : RG r gA gB) (x1 x2 x3 x4 : Int64) (x5 : Int32) (v1 v2 v3 v4 : Int32) : ∃ p q, f_X7_reckon (io (kT k)) (io (kN k)) (io (kU k)) (pk (kSa k) (kSb k)) r v1 v2 v3 v4 = some p ∧ f_X8_reckon (lo (kT k)) (lo (kN k)) x1 x2 m x3 x4 x5 gA gB uA uB v1 v2 v3 v4 = some q ∧ p.1 = q.1 ∧ RG p.2 q.2.2.2.2.2.2.1 q.2.2.2.2.2.2.2 := by
  have h := TN_k hk
  rcases reg2 hr v1 with ⟨h1, h2⟩ | ⟨a1, b1, -, -, p1, p2, p3, -⟩
  · exact ⟨(-1, r), (-1, x1, x2, x3, x4, x5, gA, gB), by simp only [f_X7_reckon, h1, ↓reduceIte], by simp only [f_X8_reckon, h2, ↓reduceIte], rfl, hr⟩
  by_cases z1 : v2 < 0
  · have z8 : f_X8_in v2.toInt64 0 5 = 0 := (in_i (l := 0) (u := 5) (by unfold i32; omega) (by unfold i32; omega) v2).mpr (Or.inl z1)
    exact ⟨(-1, r), (-1, x1, x2, x3, x4, x5, gA, gB), by simp only [f_X7_reckon, p1, z1, ↓reduceIte], by simp only [f_X8_reckon, p2, z8, ↓reduceIte], rfl, hr⟩
  by_cases z2 : 5 < v2
  · have z8 : f_X8_in v2.toInt64 0 5 = 0 := (in_i (l := 0) (u := 5) (by unfold i32; omega) (by unfold i32; omega) v2).mpr (Or.inr z2)
    exact ⟨(-1, r), (-1, x1, x2, x3, x4, x5, gA, gB), by simp only [f_X7_reckon, p1, z1, z2, ↓reduceIte], by simp only [f_X8_reckon, p2, z8, ↓reduceIte], rfl, hr⟩
  have z8 : ¬ f_X8_in v2.toInt64 0 5 = 0 := fun e => by
    have := (in_i (l := 0) (u := 5) (by unfold i32; omega) (by unfold i32; omega) v2).mp e
    rcases this with g | g
    · exact z1 g
    · exact z2 g
  rcases reg2 hr v3 with ⟨h1, h2⟩ | ⟨a, b, ha, hb, s1, s2, s3, s4, s5, s6⟩
  · exact ⟨(-1, r), (-1, x1, x2, x3, x4, x5, gA, gB), by simp only [f_X7_reckon, p1, z1, z2, h1, ↓reduceIte], by simp only [f_X8_reckon, p2, z8, h2, ↓reduceIte], rfl, hr⟩
  rcases reg2 hr v4 with ⟨h1, h2⟩ | ⟨c, d, hc, hd, q1, q2, q3, q4, q5, q6⟩
  · exact ⟨(-1, r), (-1, x1, x2, x3, x4, x5, gA, gB), by simp only [f_X7_reckon, p1, z1, z2, s1, h1, ↓reduceIte], by simp only [f_X8_reckon, p2, z8, s2, h2, ↓reduceIte], rfl, hr⟩
  have nz := pk_z hc.i hd.i
  rcases what5 z1 z2 with rfl | rfl | rfl | rfl | rfl | rfl
  · obtain ⟨w, r', gAp, gBp, e7, e8, hr'⟩ := put_both p1 p3 hr (rng_sub ha hc).1 (rng_sub hb hd).1
    exact ⟨(w, r'), (w, _, _, _, _, _, gAp, gBp), by
        simp only [f_X7_reckon, p1, z1, z2, s1, q1, s3, q3, ↓reduceIte, n01, n02, n03, n04, n10, n12, n13, n14, n20, n21, n23, n24, n30, n31, n32, n34, n40, n41, n42, n43, n50, n51, n52, n53, n54, f_X7_reckoned, s4, q4, plus_pk ha.i hb.i hc.i hd.i, Option.bind_some, e7]
        try rfl, by
        simp only [f_X8_reckon, p2, z8, s2, q2, s3, q3, ↓reduceIte, n01, n02, n03, n04, n10, n12, n13, n14, n20, n21, n23, n24, n30, n31, n32, n34, n40, n41, n42, n43, n50, n51, n52, n53, n54, s5, q5, s6, q6, f_X8_put_mod_a, f_X8_put_mod_b, lo_add, Option.bind_some, e8]
        try rfl, rfl, hr'⟩
  · obtain ⟨w, r', gAp, gBp, e7, e8, hr'⟩ := put_both p1 p3 hr (rng_sub ha hc).2 (rng_sub hb hd).2
    exact ⟨(w, r'), (w, _, _, _, _, _, gAp, gBp), by
        simp only [f_X7_reckon, p1, z1, z2, s1, q1, s3, q3, ↓reduceIte, n01, n02, n03, n04, n10, n12, n13, n14, n20, n21, n23, n24, n30, n31, n32, n34, n40, n41, n42, n43, n50, n51, n52, n53, n54, f_X7_reckoned, s4, q4, less_pk ha.i hb.i hc.i hd.i, Option.bind_some, e7]
        try rfl, by
        simp only [f_X8_reckon, p2, z8, s2, q2, s3, q3, ↓reduceIte, n01, n02, n03, n04, n10, n12, n13, n14, n20, n21, n23, n24, n30, n31, n32, n34, n40, n41, n42, n43, n50, n51, n52, n53, n54, s5, q5, s6, q6, f_X8_put_mod_a, f_X8_put_mod_b, lo_sub, Option.bind_some, e8]
        try rfl, rfl, hr'⟩
  · obtain ⟨w, r', gAp, gBp, e7, e8, hr'⟩ := put_both p1 p3 hr (mA_b (k := k) ha hb hc hd).1 (mA_b (k := k) ha hb hc hd).2
    exact ⟨(w, r'), (w, _, _, _, _, _, gAp, gBp), by
        simp only [f_X7_reckon, p1, z1, z2, s1, q1, s3, q3, ↓reduceIte, n01, n02, n03, n04, n10, n12, n13, n14, n20, n21, n23, n24, n30, n31, n32, n34, n40, n41, n42, n43, n50, n51, n52, n53, n54, f_X7_reckoned, s4, q4, times_k (kT_i k) (kN_i k) ha.i hb.i hc.i hd.i, Option.bind_some, e7]
        try rfl, by
        simp only [f_X8_reckon, p2, z8, s2, q2, s3, q3, ↓reduceIte, n01, n02, n03, n04, n10, n12, n13, n14, n20, n21, n23, n24, n30, n31, n32, n34, n40, n41, n42, n43, n50, n51, n52, n53, n54, s5, q5, s6, q6, timesA_k, timesB_k, Option.bind_some, e8]
        try rfl, rfl, hr'⟩
  · rcases nought8 q3 hc.y hd.y q5 q6 with ⟨zz, n8⟩ | ⟨zz, n8⟩
    · have n7 := nz.mpr zz
      exact ⟨(-2, r), (-2, x1, x2, x3, x4, x5, gA, gB), by simp only [f_X7_reckon, p1, z1, z2, s1, q1, s3, q3, q4, n7, ↓reduceIte, n01, n02, n03, n04, n10, n12, n13, n14, n20, n21, n23, n24, n30, n31, n32, n34, n40, n41, n42, n43, n50, n51, n52, n53, n54], by simp only [f_X8_reckon, p2, z8, s2, q2, n8, ↓reduceIte, n01, n02, n03, n04, n10, n12, n13, n14, n20, n21, n23, n24, n30, n31, n32, n34, n40, n41, n42, n43, n50, n51, n52, n53, n54, Option.bind_some], rfl, hr⟩
    · have n7 : ¬ pk c d = 0 := fun e => zz (nz.mp e)
      have hS := sz_pos h zz
      have hN := NQ_i h ha.y.x hb.y.x hc.y hd.y hS
      obtain ⟨w, r', gAp, gBp, e7, e8, hr'⟩ := put_both p1 p3 hr hN.1 hN.2
      exact ⟨(w, r'), (w, _, _, _, _, _, gAp, gBp), by
          simp only [f_X7_reckon, p1, z1, z2, s1, q1, s3, q3, ↓reduceIte, n01, n02, n03, n04, n10, n12, n13, n14, n20, n21, n23, n24, n30, n31, n32, n34, n40, n41, n42, n43, n50, n51, n52, n53, n54, f_X7_reckoned, s4, q4, n7, q7 h ha.y.x hb.y.x hc.y hd.y hS, Option.bind_some, e7]
          try rfl, by
          simp only [f_X8_reckon, p2, z8, s2, q2, s3, q3, n8, ↓reduceIte, n01, n02, n03, n04, n10, n12, n13, n14, n20, n21, n23, n24, n30, n31, n32, n34, n40, n41, n42, n43, n50, n51, n52, n53, n54, s5, q5, s6, q6, d8 h ha.y.x hb.y.x hc.y hd.y hS, f_X8_put_mod_a, f_X8_put_mod_b, Option.bind_some, e8]
          try rfl, rfl, hr'⟩
  · rcases nought8 q3 hc.y hd.y q5 q6 with ⟨zz, n8⟩ | ⟨zz, n8⟩
    · have n7 := nz.mpr zz
      exact ⟨(-2, r), (-2, x1, x2, x3, x4, x5, gA, gB), by simp only [f_X7_reckon, p1, z1, z2, s1, q1, s3, q3, q4, n7, ↓reduceIte, n01, n02, n03, n04, n10, n12, n13, n14, n20, n21, n23, n24, n30, n31, n32, n34, n40, n41, n42, n43, n50, n51, n52, n53, n54], by simp only [f_X8_reckon, p2, z8, s2, q2, n8, ↓reduceIte, n01, n02, n03, n04, n10, n12, n13, n14, n20, n21, n23, n24, n30, n31, n32, n34, n40, n41, n42, n43, n50, n51, n52, n53, n54, Option.bind_some], rfl, hr⟩
    · have n7 : ¬ pk c d = 0 := fun e => zz (nz.mp e)
      have hS := sz_pos h zz
      obtain ⟨hy1, hy2, -⟩ := rAB_y (a := a) (b := b) h hS (by have := sz_rng h hc hd; omega)
      obtain ⟨w, r', gAp, gBp, e7, e8, hr'⟩ := put_both p1 p3 hr hy1.i hy2.i
      unfold rA rB at e7 e8
      exact ⟨(w, r'), (w, _, _, _, _, _, gAp, gBp), by
          simp only [f_X7_reckon, p1, z1, z2, s1, q1, s3, q3, ↓reduceIte, n01, n02, n03, n04, n10, n12, n13, n14, n20, n21, n23, n24, n30, n31, n32, n34, n40, n41, n42, n43, n50, n51, n52, n53, n54, f_X7_reckoned, s4, q4, n7, r7 h ha.y.x hb.y.x hc.y hd.y hS, Option.bind_some, e7]
          try rfl, by
          simp only [f_X8_reckon, p2, z8, s2, q2, s3, q3, n8, ↓reduceIte, n01, n02, n03, n04, n10, n12, n13, n14, n20, n21, n23, n24, n30, n31, n32, n34, n40, n41, n42, n43, n50, n51, n52, n53, n54, s5, q5, s6, q6, d8 h ha.y.x hb.y.x hc.y hd.y hS, Option.bind_some, e8]
          try rfl, rfl, hr'⟩
  · obtain ⟨x, y, y1, y2, y3, hx, hy, c7, c8⟩ := cm_both hk hu hm (a := a) (b := b) (c := c) (d := d) (by have := sz_rng h ha hb; omega) (by have := sz_rng h hc hd; omega) x1 x2 x3 x4 x5
    obtain ⟨w, r', gAp, gBp, e7, e8, hr'⟩ := put_both p1 p3 hr hx.i hy.i
    exact ⟨(w, r'), (w, _, _, _, _, _, gAp, gBp), by
        simp only [f_X7_reckon, p1, z1, z2, s1, q1, s3, q3, ↓reduceIte, n01, n02, n03, n04, n10, n12, n13, n14, n20, n21, n23, n24, n30, n31, n32, n34, n40, n41, n42, n43, n50, n51, n52, n53, n54, f_X7_reckoned, s4, q4, c7, Option.bind_some, e7]
        try rfl, by
        simp only [f_X8_reckon, p2, z8, s2, q2, s3, q3, ↓reduceIte, n01, n02, n03, n04, n10, n12, n13, n14, n20, n21, n23, n24, n30, n31, n32, n34, n40, n41, n42, n43, n50, n51, n52, n53, n54, s5, q5, s6, q6, c8, Option.bind_some, e8]
        try rfl, rfl, hr'⟩
theorem hm_reckon : HM_reckon REL := by
  intro cs ms h v1 v2 v3 v4
  obtain ⟨k, us, hk, hu, hnet, ht, hn, hm, hr⟩ := id h
  obtain ⟨p, q, e1, e2, e3, e4⟩ := reckon_core hk hu hm hr (a_mod_a ms) (a_mod_b ms) (a_mod_quotA ms) (a_mod_quotB ms) (a_mod_unitUsed ms) v1 v2 v3 v4
  refine ⟨p, q, ?_, ?_, e3, k, us, hk, hu, hnet, ht, hn, hm, e4⟩
  · rw [hnet.1, hnet.2.1, hnet.2.2.1, hnet.2.2.2]; exact e1
  · rw [ht, hn]; exact e2
theorem pk_w : (1 : Int64) = pk 0 1 := by decide
theorem turn_core {k : Nat} (hk : k < 5) {us : List (Int × Int)} (hu : UN k us) {m : Int32} {uA uB : Nat → Int64} (hm : MU us m uA uB) {r rA rB : Nat → Int64} (hr : RG r rA rB) (x1 x2 : Int64) (x5 : Int32) (v1 v2 v3 : Int32) : ∃ p q, f_X7_turn (io (kT k)) (io (kN k)) (io (kU k)) (pk (kSa k) (kSb k)) r v1 v2 v3 = some p ∧ f_X8_turn (lo (kT k)) (lo (kN k)) x1 x2 m x5 rA rB uA uB v1 v2 v3 = some q ∧ p.1 = q.1 ∧ RG p.2 q.2.2.2.2.1 q.2.2.2.2.2 := by
  have h := TN_k hk
  rcases reg2 hr v1 with ⟨h1, h2⟩ | ⟨a1, b1, -, -, p1, p2, p3, -⟩
  · exact ⟨(-1, r), (-1, x1, x2, x5, rA, rB), by simp only [f_X7_turn, h1, ↓reduceIte], by simp only [f_X8_turn, h2, ↓reduceIte], rfl, hr⟩
  by_cases z1 : v2 < 0
  · have z8 : f_X8_in v2.toInt64 0 2 = 0 := (in_i (l := 0) (u := 2) (by unfold i32; omega) (by unfold i32; omega) v2).mpr (Or.inl z1)
    exact ⟨(-1, r), (-1, x1, x2, x5, rA, rB), by simp only [f_X7_turn, p1, z1, ↓reduceIte], by simp only [f_X8_turn, p2, z8, ↓reduceIte], rfl, hr⟩
  by_cases z2 : 2 < v2
  · have z8 : f_X8_in v2.toInt64 0 2 = 0 := (in_i (l := 0) (u := 2) (by unfold i32; omega) (by unfold i32; omega) v2).mpr (Or.inr z2)
    exact ⟨(-1, r), (-1, x1, x2, x5, rA, rB), by simp only [f_X7_turn, p1, z1, z2, ↓reduceIte], by simp only [f_X8_turn, p2, z8, ↓reduceIte], rfl, hr⟩
  have z8 : ¬ f_X8_in v2.toInt64 0 2 = 0 := fun e => by
    have := (in_i (l := 0) (u := 2) (by unfold i32; omega) (by unfold i32; omega) v2).mp e
    rcases this with g | g
    · exact z1 g
    · exact z2 g
  rcases reg2 hr v3 with ⟨h1, h2⟩ | ⟨a, b, ha, hb, s1, s2, s3, s4, s5, s6⟩
  · exact ⟨(-1, r), (-1, x1, x2, x5, rA, rB), by simp only [f_X7_turn, p1, z1, z2, h1, ↓reduceIte], by simp only [f_X8_turn, p2, z8, h2, ↓reduceIte], rfl, hr⟩
  by_cases w0 : v2 = 0
  · have m1 : i32 (a + kT k * b) := by
      obtain ⟨⟨t1, t2⟩, -⟩ := kTN_b k
      have ht : kT k = -1 ∨ kT k = 0 ∨ kT k = 1 := by omega
      unfold rng i32 at *
      generalize kT k = t at *
      rcases ht with rfl | rfl | rfl <;> omega
    have m2 : i32 (-b) := by unfold rng i32 at *; omega
    obtain ⟨w, r', rA', rB', e7, e8, hr'⟩ := put_both p1 p3 hr m1 m2
    exact ⟨(w, r'), (w, _, _, _, rA', rB'), by
        simp only [f_X7_turn, p1, z1, z2, s1, s3, w0, ↓reduceIte, s4, mirror_pk (kT_i k) ha.i hb.i, Option.bind_some, e7]
        try rfl, by
        simp only [f_X8_turn, p2, z8, s2, s3, w0, ↓reduceIte, s5, s6, f_X8_put_mod_a, f_X8_put_mod_b, lo_mul, lo_add, lo_neg, Option.bind_some, e8]
        try rfl, rfl, hr'⟩
  by_cases w1 : v2 = 1
  · obtain ⟨i, j, q, hi, -, -, f7, f8, -, -⟩ := sh_both hk hu hm (a := a) (b := b) ha.y.u hb.y.u x1 x2 x5
    obtain ⟨hy1, hy2⟩ := mv_y hk hi (a := a) (b := b) (by have := sz_rng h ha hb; omega)
    obtain ⟨w, r', rA', rB', e7, e8, hr'⟩ := put_both p1 p3 hr hy1.i hy2.i
    exact ⟨(w, r'), (w, _, _, _, rA', rB'), by
        simp only [f_X7_turn, p1, z1, z2, s1, s3, w0, w1, ↓reduceIte, s4, f7, Option.bind_some, e7]
        try rfl, by
        simp only [f_X8_turn, p2, z8, s2, s3, w0, w1, ↓reduceIte, s5, s6, f8, Option.bind_some, e8]
        try rfl, rfl, hr'⟩
  · have hz : rng 0 ∧ rng 1 := by unfold rng; omega
    obtain ⟨w, r', rA', rB', e7, e8, hr'⟩ := put_both p1 p3 hr (mA_b (k := k) ha hb hz.1 hz.2).1 (mA_b (k := k) ha hb hz.1 hz.2).2
    exact ⟨(w, r'), (w, _, _, _, rA', rB'), by
        simp only [f_X7_turn, p1, z1, z2, s1, s3, w0, w1, ↓reduceIte, s4, pk_w, times_k (kT_i k) (kN_i k) ha.i hb.i hz.1.i hz.2.i, Option.bind_some, e7]
        try rfl, by
        have t0 : f_X8_times_mod_a (lo (kN k)) (lo a) (lo b) 0 1 = lo (mA (kN k) a b 0 1) := timesA_k (kN k) a b 0 1
        have t1 : f_X8_times_mod_b (lo (kT k)) (lo a) (lo b) 0 1 = lo (mB (kT k) a b 0 1) := timesB_k (kT k) a b 0 1
        simp only [f_X8_turn, p2, z8, s2, s3, w0, w1, ↓reduceIte, s5, s6, t0, t1, Option.bind_some, e8]
        try rfl, rfl, hr'⟩
theorem hm_turn : HM_turn REL := by
  intro cs ms h v1 v2 v3
  obtain ⟨k, us, hk, hu, hnet, ht, hn, hm, hr⟩ := id h
  obtain ⟨p, q, e1, e2, e3, e4⟩ := turn_core hk hu hm hr (a_mod_a ms) (a_mod_b ms) (a_mod_unitUsed ms) v1 v2 v3
  refine ⟨p, q, ?_, ?_, e3, k, us, hk, hu, hnet, ht, hn, hm, e4⟩
  · rw [hnet.1, hnet.2.1, hnet.2.2.1, hnet.2.2.2]; exact e1
  · rw [ht, hn]; exact e2
