theorem NF_fl {p q r : Int} (hp : 1 ≤ p) (hq : 1 ≤ q) (hr : 0 ≤ r ∧ r < p) : NF p q r := ⟨by omega, by omega, fun h => by omega, fun _ => hr⟩
theorem small_add {p q r a b : Int} (hn : NF p q r) (hp : 1 ≤ p ∧ p ≤ 200) (hq : q ≤ 200) (ha : 0 ≤ a ∧ a ≤ 200) (hb : 0 ≤ b ∧ b ≤ 200) : ∃ p' q' r' : Int, f_X1_add (lo p) (lo q) (lo r) (lo a) (lo b) = some (lo p', lo q', lo r') ∧ f_X8_grow (lo p) (lo q) (lo r) (lo a) (lo b) = some (lo p', lo q', lo r') ∧ NF p' q' r' ∧ (∀ x y, LM p' q' r' x y ↔ ∃ u v w : Int, x = u * p + v * r + w * a ∧ y = v * q + w * b) ∧ (1 ≤ p' ∧ p' ≤ 200) ∧ q' ≤ 200 := by
  have n2 := hn.2.1
  have n4 := hn.2.2.2 (by omega)
  have m1 := Int.mul_le_mul (show (r.natAbs : Int) ≤ 200 by omega) (show (b.natAbs : Int) ≤ 200 by omega) (by omega) (by omega)
  have m2 := Int.mul_le_mul (show (a.natAbs : Int) ≤ 200 by omega) (show (q.natAbs : Int) ≤ 200 by omega) (by omega) (by omega)
  have m3 := Int.mul_le_mul (show (a.natAbs : Int) ≤ 200 by omega) (show (b.natAbs : Int) ≤ 200 by omega) (by omega) (by omega)
  obtain ⟨p', q', r', e1, e2, e3, e4, -⟩ := add_both (X := 1000000) hn (a := a) (b := b) (by unfold big; omega) (by unfold big; omega) (by unfold big; omega) (by omega) (by omega) (by omega) (by omega)
  obtain ⟨g1, g2, g3⟩ := add_nb hn e3 e4
  have g4 := g2 (by omega)
  have k1 := e3.1
  have k2 := e3.2.1
  refine ⟨p', q', r', e1, e2, e3, e4, ⟨?_, by omega⟩, by split at g1 <;> omega⟩
  rcases Int.lt_or_le 0 p' with z | z
  · omega
  · exfalso
    obtain ⟨u, e⟩ := LM_x0 e3 ((e4 p 0).mpr ⟨1, 0, 0, by omega, by omega⟩)
    rw [show p' = 0 by omega, Int.mul_zero] at e
    omega
theorem begin8 {p q r : Int} (hp : 1 ≤ p ∧ p ≤ 200) (hq : 1 ≤ q ∧ q ≤ 200) (hr : 0 ≤ r ∧ r < p) : f_X8_grow (lo 0) (lo 0) (lo 0) (lo p) (lo 0) = some (lo p, lo 0, lo 0) ∧ f_X8_grow (lo p) (lo 0) (lo 0) (lo r) (lo q) = some (lo p, lo q, lo r) := by
  have nfp : NF p 0 0 := ⟨by omega, by omega, fun _ => rfl, fun _ => by omega⟩
  constructor
  · obtain ⟨p', q', r', -, e2, e3, e4, -⟩ := add_both (X := 1000000) NF_0 (a := p) (b := 0) (by unfold big; omega) (by unfold big; omega) (by unfold big; omega) (by omega) (by omega) (by omega) (by
      rw [show ((0 : Int).natAbs : Int) = 0 by omega, Int.mul_zero, Int.mul_zero]
      omega)
    obtain ⟨rfl, rfl, rfl⟩ := NF_uniq e3 nfp (fun x y => (e4 x y).trans (by
      constructor
      · rintro ⟨u, v, w, rfl, rfl⟩
        exact ⟨w, 0, by omega, by omega⟩
      · rintro ⟨u, v, rfl, rfl⟩
        exact ⟨0, 0, u, by omega, by omega⟩))
    exact e2
  · have m1 := Int.mul_le_mul (show (r.natAbs : Int) ≤ 200 by omega) (show (q.natAbs : Int) ≤ 200 by omega) (by omega) (by omega)
    obtain ⟨p', q', r', -, e2, e3, e4, -⟩ := add_both (X := 1000000) nfp (a := r) (b := q) (by unfold big; omega) (by unfold big; omega) (by unfold big; omega) (by omega) (by omega) (by omega) (by
      rw [show ((0 : Int).natAbs : Int) = 0 by omega, Int.mul_zero, Int.zero_mul]
      omega)
    obtain ⟨rfl, rfl, rfl⟩ := NF_uniq e3 (NF_fl hp.1 hq.1 hr) (fun x y => (e4 x y).trans (by
      constructor
      · rintro ⟨u, v, w, rfl, rfl⟩
        exact ⟨u, w, by omega, by omega⟩
      · rintro ⟨u, v, rfl, rfl⟩
        exact ⟨u, 0, v, by omega, by omega⟩))
    exact e2
theorem joined_core (v1 v2 v3 v4 v5 v6 v7 v8 : Int32) (c1 c2 c3 c4 c5 c6 m1 m2 m3 : Int64) : ∃ p q, f_X7_joined c1 c2 c3 c4 c5 c6 v1 v2 v3 v4 v5 v6 v7 v8 = some p ∧ f_X8_joined m1 m2 m3 v1 v2 v3 v4 v5 v6 v7 v8 = some q ∧ p.1 = q.1 := by
  rcases flock_cases v1 v2 v3 with ⟨h1, h2⟩ | ⟨p, q, r, hp, hq, hr, rfl, rfl, rfl, h1, h2⟩
  · exact ⟨(-1, _, _, _, _, _, _), (-1, _, _, _), by
      simp only [f_X7_joined, h1, ↓reduceIte]
      try rfl, by
      simp only [f_X8_joined, h2, ↓reduceIte]
      try rfl, rfl⟩
  rcases flock_cases v4 v5 v6 with ⟨g1, g2⟩ | ⟨p2, q2, r2, hp2, hq2, hr2, rfl, rfl, rfl, g1, g2⟩
  · exact ⟨(-1, _, _, _, _, _, _), (-1, _, _, _), by
      simp only [f_X7_joined, h1, g1, ↓reduceIte]
      try rfl, by
      simp only [f_X8_joined, h2, g2, ↓reduceIte]
      try rfl, rfl⟩
  have z8 : f_X8_in v8.toInt64 0 2 = 0 ↔ v8 < 0 ∨ 2 < v8 := in_i (l := 0) (u := 2) (by unfold i32; omega) (by unfold i32; omega) v8
  by_cases y1 : v8 < 0
  · have z9 := z8.mpr (Or.inl y1)
    exact ⟨(-1, _, _, _, _, _, _), (-1, _, _, _), by
      simp only [f_X7_joined, h1, g1, y1, ↓reduceIte]
      try rfl, by
      simp only [f_X8_joined, h2, g2, z9, ↓reduceIte]
      try rfl, rfl⟩
  by_cases y2 : v8 ≤ 2
  · have z9 : ¬ f_X8_in v8.toInt64 0 2 = 0 := fun e => (z8.mp e).elim y1 (fun g => absurd y2 (Int32.not_le.mpr g))
    have wp := io_w (z := p) (by unfold i32; omega)
    have wq := io_w (z := q) (by unfold i32; omega)
    have wr := io_w (z := r) (by unfold i32; omega)
    have wp2 := io_w (z := p2) (by unfold i32; omega)
    have wq2 := io_w (z := q2) (by unfold i32; omega)
    have wr2 := io_w (z := r2) (by unfold i32; omega)
    by_cases y7 : v7 = 0
    · obtain ⟨b1, b2⟩ := begin8 hp hq hr
      obtain ⟨p3, q3, r3, e1, e2, e3, e4, e5, e6⟩ := small_add (NF_fl hp.1 hq.1 hr) hp hq.2 (a := p2) (b := 0) (by omega) (by omega)
      obtain ⟨p4, q4, r4, f1, f2, f3, f4, f5, f6⟩ := small_add e3 e5 e6 (a := r2) (b := q2) (by omega) (by omega)
      have f7 := f3.2.1
      have b1' : f_X8_grow f_X8_begin_mod_netP f_X8_begin_mod_netQ f_X8_begin_mod_netR (lo p) (0 : Int64) = some (lo p, lo 0, lo 0) := b1
      have e1' : f_X1_add (lo p) (lo q) (lo r) (lo p2) (0 : Int64) = some (lo p3, lo q3, lo r3) := e1
      have e2' : f_X8_grow (lo p) (lo q) (lo r) (lo p2) (0 : Int64) = some (lo p3, lo q3, lo r3) := e2
      have ab7 := (above7 (p := p4) (q := q4) (by unfold big; omega) (by unfold big; omega)).mpr (by omega)
      have u2 : ¬ (200 : Int64) < lo p4 := fun e => by
        have := (lo_lt (a := 200) (by unfold i64; omega) (by unfold i64; omega)).mp e
        omega
      have u3 : lo q4 ≤ (200 : Int64) := (lo_le (b := 200) (by unfold i64; omega) (by unfold i64; omega)).mpr (by omega)
      exact ⟨(_, _, _, _, _, _, _), (_, _, _, _), by
        simp only [f_X7_joined, h1, g1, y1, y2, y7, wp, wq, wr, wp2, wq2, wr2, f_X1_become_fl_p, f_X1_become_fl_q, f_X1_become_fl_r, e1', f1, ab7, Option.bind_some, ↓reduceIte]
        try rfl, by
        simp only [f_X8_joined, h2, g2, z9, y7, wp, wq, wr, wp2, wq2, wr2, b1', b2, e2', f2, u2, u3, Option.bind_some, ↓reduceIte]
        try rfl, rfl⟩
    · obtain ⟨P, Q, R, R7, e1, e2, e3, bP, bQ⟩ := meet_both hp hq hr hp2 hq2 hr2 m1 m2 m3
      have ab7 := above7 bP bQ
      have k1 : (200 : Int64) < lo P ↔ 200 < P := lo_lt (a := 200) (by unfold i64; omega) bP.l
      have k2 : lo Q ≤ (200 : Int64) ↔ Q ≤ 200 := lo_le (b := 200) bQ.l (by unfold i64; omega)
      by_cases w1 : P ≤ 200 ∧ Q ≤ 200
      · have u1 := ab7.mpr w1
        have u2 : ¬ (200 : Int64) < lo P := fun e => by have := k1.mp e; omega
        have u3 := k2.mpr w1.2
        have eR := e3 w1.1 w1.2
        subst eR
        exact ⟨(_, _, _, _, _, _, _), (_, _, _, _), by
          simp only [f_X7_joined, h1, g1, y1, y2, y7, wp, wq, wr, wp2, wq2, wr2, f_X1_become_fl_p, f_X1_become_fl_q, f_X1_become_fl_r, e1, u1, Option.bind_some, ↓reduceIte]
          try rfl, by
          simp only [f_X8_joined, h2, g2, z9, y7, wp, wq, wr, wp2, wq2, wr2, e2, u2, u3, Option.bind_some, ↓reduceIte]
          try rfl, rfl⟩
      · have u1 : ¬ f_X1_isAbove (lo P) (lo Q) 200 = 0 := fun e => w1 (ab7.mp e)
        by_cases w2 : 200 < P
        · have u2 := k1.mpr w2
          exact ⟨(-2, _, _, _, _, _, _), (-2, _, _, _), by
            simp only [f_X7_joined, h1, g1, y1, y2, y7, wp, wq, wr, wp2, wq2, wr2, f_X1_become_fl_p, f_X1_become_fl_q, f_X1_become_fl_r, e1, u1, Option.bind_some, ↓reduceIte]
            try rfl, by
            simp only [f_X8_joined, h2, g2, z9, y7, wp, wq, wr, wp2, wq2, wr2, e2, u2, Option.bind_some, ↓reduceIte]
            try rfl, rfl⟩
        · have u2 : ¬ (200 : Int64) < lo P := fun e => w2 (k1.mp e)
          have u3 : ¬ lo Q ≤ (200 : Int64) := fun e => by have := k2.mp e; omega
          exact ⟨(-2, _, _, _, _, _, _), (-2, _, _, _), by
            simp only [f_X7_joined, h1, g1, y1, y2, y7, wp, wq, wr, wp2, wq2, wr2, f_X1_become_fl_p, f_X1_become_fl_q, f_X1_become_fl_r, e1, u1, Option.bind_some, ↓reduceIte]
            try rfl, by
            simp only [f_X8_joined, h2, g2, z9, y7, wp, wq, wr, wp2, wq2, wr2, e2, u2, u3, Option.bind_some, ↓reduceIte]
            try rfl, rfl⟩
  · have z9 := z8.mpr (Or.inr (Int32.not_le.mp y2))
    exact ⟨(-1, _, _, _, _, _, _), (-1, _, _, _), by
      simp only [f_X7_joined, h1, g1, y1, y2, ↓reduceIte]
      try rfl, by
      simp only [f_X8_joined, h2, g2, z9, ↓reduceIte]
      try rfl, rfl⟩
theorem hm_joined : HM_joined REL := by
  intro cs ms hrel v1 v2 v3 v4 v5 v6 v7 v8 _
  obtain ⟨k, us, hk, hu, hnet, ht, hn, hm, hr⟩ := id hrel
  obtain ⟨p, q, e1, e2, e3⟩ := joined_core v1 v2 v3 v4 v5 v6 v7 v8 (a_fl_p cs) (a_fl_q cs) (a_fl_r cs) (a_ot_p cs) (a_ot_q cs) (a_ot_r cs) (a_mod_netP ms) (a_mod_netQ ms) (a_mod_netR ms)
  exact ⟨p, q, e1, e2, e3, k, us, hk, hu, hnet, ht, hn, hm, hr⟩
