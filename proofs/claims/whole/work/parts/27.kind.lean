/-! flocks; kind; the start -/
theorem io_div {a b : Int} (ha : i32 a) (hb : i32 b) (h0 : 0 ≤ a) (h : 0 < b) : io a / io b = io (a / b) := by
  apply Int32.toInt_inj.mp
  have h1 : io b ≠ -1 := fun e => by
    have e2 : (io b).toInt = (-1 : Int32).toInt := by rw [e]
    rw [io_toInt hb] at e2
    have e3 : (-1 : Int32).toInt = -1 := by decide
    omega
  have h2 : 0 ≤ a / b := Int.ediv_nonneg h0 (by omega)
  have h3 : a / b ≤ a := Int.ediv_le_self b h0
  rw [Int32.toInt_div_of_ne_right _ _ h1, io_toInt ha, io_toInt hb, io_toInt (by unfold i32 at *; omega), Int.tdiv_eq_ediv_of_nonneg h0]
theorem io_rem {a b : Int} (ha : i32 a) (hb : i32 b) (h0 : 0 ≤ a) (h : 0 < b) : io a - io a / io b * io b = io (a % b) := by
  rw [io_div ha hb h0 h, io_mul, io_sub]
  congr 1
  rw [Int.emod_def, Int.mul_comm]
theorem small_rng {z : Int} (h : 0 ≤ z) (g : z ≤ 200) : rng z := ⟨by omega, by omega⟩
theorem closed_ex {k : Nat} {p q r : Int} (hp : 1 ≤ p ∧ p ≤ 200) (hq : 1 ≤ q ∧ q ≤ 200) (hr : 0 ≤ r ∧ r < p) : ∃ z, f_X1_isClosed (io (kT k)) (io (kN k)) (lo p) (lo q) (lo r) = some z ∧ f_X8_isClosed (lo (kT k)) (lo (kN k)) (lo p) (lo q) (lo r) = some z := by
  have nP := lo_nz (z := p) (by unfold i64; omega) (by omega)
  have nQ := lo_nz (z := q) (by unfold i64; omega) (by omega)
  obtain ⟨z, e1, e2⟩ := holds_ex nP nQ (lo r) 0 (lo p)
  unfold f_X1_isClosed f_X8_isClosed
  rw [e1, e2]
  simp only [Option.bind_some]
  by_cases y : z = 0
  · rw [if_pos y, if_pos y]
    exact ⟨0, rfl, rfl⟩
  · rw [if_neg y, if_neg y]
    have r1 := small_rng (z := r) (by omega) (by omega)
    have r2 := small_rng (z := q) (by omega) (by omega)
    have r3 := small_rng (z := 0) (by omega) (by omega)
    have r4 := small_rng (z := 1) (by omega) (by omega)
    have tt : f_X4_times (io (kT k)) (io (kN k)) (f_X4_number (lo r) (lo q)) 1 = pk (mA (kN k) r q 0 1) (mB (kT k) r q 0 1) := by
      rw [pk_def, pk_w]
      exact times_k (kT_i k) (kN_i k) r1.i r2.i r3.i r4.i
    obtain ⟨m1, m2⟩ := mA_b (k := k) r1 r2 r3 r4
    have eA : mA (kN k) r q 0 1 = -kN k * q := by unfold mA; grind
    have eB : mB (kT k) r q 0 1 = r + kT k * q := by unfold mB; grind
    have l1 : (-lo (kN k)) * lo q = lo (mA (kN k) r q 0 1) := by rw [lo_neg, lo_mul, eA]
    have l2 : lo r + lo (kT k) * lo q = lo (mB (kT k) r q 0 1) := by rw [lo_mul, lo_add, eB]
    obtain ⟨w, f1, f2⟩ := holds_ex nP nQ (lo r) (lo (mA (kN k) r q 0 1)) (lo (mB (kT k) r q 0 1))
    rw [tt, first_pk _ m1, second_pk _ m2, l1, l2, f1, f2]
    simp only [Option.bind_some]
    by_cases x : w = 0
    · rw [if_pos x]
      exact ⟨0, rfl, rfl⟩
    · rw [if_neg x]
      exact ⟨1, rfl, rfl⟩
noncomputable def CN (k : Nat) (p q : Int) : Nat → Int
  | 0 => 0
  | r + 1 => CN k p q r + (if f_X8_isClosed (lo (kT k)) (lo (kN k)) (lo p) (lo q) (lo (r : Int)) = some 0 then 0 else 1)
theorem CN_1 (k : Nat) (p q : Int) (r : Nat) {z : Int32} (h : f_X8_isClosed (lo (kT k)) (lo (kN k)) (lo p) (lo q) (lo (r : Int)) = some z) : CN k p q (r + 1) = CN k p q r + (if z = 0 then 0 else 1) := by
  show CN k p q r + (if f_X8_isClosed (lo (kT k)) (lo (kN k)) (lo p) (lo q) (lo (r : Int)) = some 0 then 0 else 1) = _
  rw [h]
  by_cases y : z = 0
  · rw [if_pos y, if_pos (by rw [y])]
  · rw [if_neg y, if_neg (fun e => y (by injection e))]
theorem closed7 {k : Nat} {p q : Int} (hp : 1 ≤ p ∧ p ≤ 200) (hq : 1 ≤ q ∧ q ≤ 200) (y1 y2 y3 : Int64) : ∃ z1 z2 z3, f_X7_closedOnes (io (kT k)) (io (kN k)) y1 y2 y3 (io p) (io q) = some (io (CN k p q p.toNat), z1, z2, z3) := by
  have key : ∃ r, whl (f_X7_closedOnes_L5 (io (kT k)) (io (kN k)) (io p) (io q)) ((0 : Int32), (0 : Int32), y1, y2, y3) = some r ∧ r.1 = io (CN k p q p.toNat) := by
    refine whl_for (b := f_X7_closedOnes_L5 (io (kT k)) (io (kN k)) (io p) (io q)) p.toNat (fun i s => s.1 = io (CN k p q i) ∧ s.2.1 = io (i : Int)) (fun r => r.1 = io (CN k p q p.toNat)) ?_ ?_ 0 _ (by omega) ⟨rfl, rfl⟩
    · rintro i ⟨s1, s2, s3, s4, s5⟩ hi ⟨e1, e2⟩
      dsimp only at e1 e2
      have c1 : ¬ io p ≤ io (i : Int) := fun e => by
        have := (io_le (by unfold i32; omega) (by unfold i32; omega)).mp e
        omega
      obtain ⟨z, f1, f2⟩ := closed_ex (k := k) hp hq (r := (i : Int)) ⟨by omega, by omega⟩
      have hc := CN_1 k p q i f2
      unfold f_X7_closedOnes_L5 f_X1_become_fl_p f_X1_become_fl_q f_X1_become_fl_r
      dsimp only
      rw [e1, e2, if_neg c1, io_w (z := p) (by unfold i32; omega), io_w (z := q) (by unfold i32; omega), io_w (z := (i : Int)) (by unfold i32; omega), f1]
      simp only [Option.bind_some]
      by_cases y : z = 0
      · rw [if_pos y]
        refine ⟨_, rfl, ?_, ?_⟩
        · rw [hc, if_pos y, Int.add_zero]
        · exact io_1 _
      · rw [if_neg y]
        refine ⟨_, rfl, ?_, ?_⟩
        · rw [hc, if_neg y]; exact io_1 _
        · exact io_1 _
    · rintro ⟨s1, s2, s3, s4, s5⟩ ⟨e1, e2⟩
      dsimp only at e1 e2
      have c1 : io p ≤ io ((p.toNat : Nat) : Int) := (io_le (by unfold i32; omega) (by unfold i32; omega)).mpr (by omega)
      unfold f_X7_closedOnes_L5
      dsimp only
      rw [e1, e2, if_pos c1]
      exact ⟨_, rfl, rfl⟩
  obtain ⟨⟨r1, r2, r3, r4⟩, e, hr⟩ := key
  dsimp only at hr
  refine ⟨r2, r3, r4, ?_⟩
  unfold f_X7_closedOnes f_X7_closedOnes_K5_48
  rw [e, hr]
  rfl
noncomputable def FT (k : Nat) (N : Int) (w : Int32) (q : Int) : Int := if N % q = 0 then (if w = 0 then N / q else CN k (N / q) q (N / q).toNat) else 0
noncomputable def FS (k : Nat) (N : Int) (w : Int32) : Nat → Int
  | 0 => 0
  | q + 1 => FS k N w q + FT k N w ((q : Int) + 1)
theorem quo_b {N q : Int} (hN : 1 ≤ N ∧ N ≤ 200) (hq : 1 ≤ q ∧ q ≤ N) : 1 ≤ N / q ∧ N / q ≤ 200 := by
  constructor
  · exact Int.le_ediv_of_mul_le (by omega) (by omega)
  · have := Int.ediv_le_self (a := N) q (by omega)
    omega
theorem inner8 {k : Nat} {N q : Int} (hN : 1 ≤ N ∧ N ≤ 200) (hq : 1 ≤ q ∧ q ≤ N) (w : Int32) (c : Int) : whl (f_X8_flocks_L38 (lo (kT k)) (lo (kN k)) (io N) w (io q)) (io c, (0 : Int32)) = some (io (c + FT k N w q)) := by
  have iN : i32 N := by unfold i32; omega
  have iq : i32 q := by unfold i32; omega
  have hq0 : ¬ io q = 0 := fun e => by
    have := (io_eq (b := 0) iq (by unfold i32; omega)).mp e
    omega
  have hrem := io_rem iN iq (by omega) (by omega)
  have hdiv := io_div iN iq (by omega) (by omega)
  have hM := quo_b hN hq
  have hz : i32 (N % q) := by
    have := Int.emod_nonneg N (show q ≠ 0 by omega)
    have := Int.emod_lt_of_pos N (show 0 < q by omega)
    unfold i32; omega
  have hz0 : io (N % q) = (0 : Int32) ↔ N % q = 0 := io_eq (b := 0) hz (by unfold i32; omega)
  unfold FT
  by_cases d : N % q = 0
  · rw [if_pos d]
    generalize N / q = M at *
    have hr0 : io N - io N / io q * io q = 0 := by rw [hrem, d]; rfl
    have key : ∃ r, whl (f_X8_flocks_L38 (lo (kT k)) (lo (kN k)) (io N) w (io q)) (io c, (0 : Int32)) = some r ∧ r = io (c + if w = 0 then M else CN k M q M.toNat) := by
      refine whl_for (b := f_X8_flocks_L38 (lo (kT k)) (lo (kN k)) (io N) w (io q)) M.toNat (fun i s => s.1 = io (c + if w = 0 then (i : Int) else CN k M q i) ∧ s.2 = io (i : Int)) (fun r => r = io (c + if w = 0 then M else CN k M q M.toNat)) ?_ ?_ 0 _ (by omega) ⟨?_, rfl⟩
      · rintro i ⟨s1, s2⟩ hi ⟨e1, e2⟩
        dsimp only at e1 e2
        have c1 : ¬ io M ≤ io (i : Int) := fun e => by
          have := (io_le (by unfold i32; omega) (by unfold i32; omega)).mp e
          omega
        obtain ⟨z, f1, f2⟩ := closed_ex (k := k) hM (q := q) ⟨by omega, by omega⟩ (r := (i : Int)) ⟨by omega, by omega⟩
        have hc := CN_1 k M q i f2
        unfold f_X8_flocks_L38
        dsimp only
        rw [if_neg hq0, if_pos hr0, hdiv, e1, e2, if_neg c1]
        by_cases w0 : w = 0
        · rw [if_pos w0]
          refine ⟨_, rfl, ?_, ?_⟩
          · rw [if_pos w0, if_pos w0, io_1]
            show io (c + (i : Int) + 1) = io (c + ((i + 1 : Nat) : Int))
            congr 1
            omega
          · exact io_1 _
        · rw [if_neg w0, io_w (z := M) (by unfold i32; omega), io_w iq, io_w (z := (i : Int)) (by unfold i32; omega), f2]
          simp only [Option.bind_some]
          by_cases y : z = 0
          · rw [if_pos y]
            refine ⟨_, rfl, ?_, ?_⟩
            · rw [if_neg w0, if_neg w0, hc, if_pos y, Int.add_zero]
              have : io (c + CN k M q i) + (0 : Int32) = io (c + CN k M q i + 0) := io_add _ 0
              rw [this, Int.add_zero]
            · exact io_1 _
          · rw [if_neg y]
            refine ⟨_, rfl, ?_, ?_⟩
            · rw [if_neg w0, if_neg w0, hc, if_neg y, io_1]
              show io (c + CN k M q i + 1) = io (c + (CN k M q i + 1))
              rw [Int.add_assoc]
            · exact io_1 _
      · rintro ⟨s1, s2⟩ ⟨e1, e2⟩
        dsimp only at e1 e2
        have c1 : io M ≤ io ((M.toNat : Nat) : Int) := (io_le (by unfold i32; omega) (by unfold i32; omega)).mpr (by omega)
        have c2 : ((M.toNat : Nat) : Int) = M := by omega
        unfold f_X8_flocks_L38
        dsimp only
        rw [if_neg hq0, if_pos hr0, hdiv, e2, if_pos c1]
        refine ⟨_, rfl, ?_⟩
        rw [e1, c2]
      · dsimp only
        by_cases w0 : w = 0
        · rw [if_pos w0]; congr 1; omega
        · rw [if_neg w0]
          have : CN k M q 0 = 0 := rfl
          rw [this, Int.add_zero]
    obtain ⟨r, e, hr⟩ := key
    rw [e, hr]
  · rw [if_neg d]
    refine whl_r ?_
    unfold f_X8_flocks_L38
    dsimp only
    rw [if_neg hq0, hrem, if_neg (fun e => d (hz0.mp e)), Int.add_zero]
theorem flocks8 {k : Nat} {N : Int} (hN : 1 ≤ N ∧ N ≤ 200) (w : Int32) : whl (f_X8_flocks_L29 (lo (kT k)) (lo (kN k)) (io N) w) ((0 : Int32), (1 : Int32)) = some (io (FS k N w N.toNat)) := by
  have key : ∃ r, whl (f_X8_flocks_L29 (lo (kT k)) (lo (kN k)) (io N) w) ((0 : Int32), (1 : Int32)) = some r ∧ r = io (FS k N w N.toNat) := by
    refine whl_for (b := f_X8_flocks_L29 (lo (kT k)) (lo (kN k)) (io N) w) N.toNat (fun i s => s.1 = io (FS k N w i) ∧ s.2 = io ((i : Int) + 1)) (fun r => r = io (FS k N w N.toNat)) ?_ ?_ 0 _ (by omega) ⟨rfl, rfl⟩
    · rintro i ⟨s1, s2⟩ hi ⟨e1, e2⟩
      dsimp only at e1 e2
      have c1 : ¬ io N < io ((i : Int) + 1) := fun e => by
        have := (io_lt (by unfold i32; omega) (by unfold i32; omega)).mp e
        omega
      unfold f_X8_flocks_L29 f_X8_flocks_K38_90
      dsimp only
      rw [e1, e2, if_neg c1, inner8 hN ⟨by omega, by omega⟩]
      exact ⟨_, rfl, rfl, io_1 _⟩
    · rintro ⟨s1, s2⟩ ⟨e1, e2⟩
      dsimp only at e1 e2
      have c1 : io N < io (((N.toNat : Nat) : Int) + 1) := (io_lt (by unfold i32; omega) (by unfold i32; omega)).mpr (by omega)
      unfold f_X8_flocks_L29
      dsimp only
      rw [e1, e2, if_pos c1]
      exact ⟨_, rfl, rfl⟩
  obtain ⟨r, e, hr⟩ := key
  rw [e, hr]
theorem flocks7 {k : Nat} {N : Int} (hN : 1 ≤ N ∧ N ≤ 200) (w : Int32) (y1 y2 y3 : Int64) : ∃ z1 z2 z3, whl (f_X7_flocks_L28 (io (kT k)) (io (kN k)) (io N) w) ((0 : Int32), (1 : Int32), y1, y2, y3) = some (io (FS k N w N.toNat), z1, z2, z3) := by
  have key : ∃ r, whl (f_X7_flocks_L28 (io (kT k)) (io (kN k)) (io N) w) ((0 : Int32), (1 : Int32), y1, y2, y3) = some r ∧ r.1 = io (FS k N w N.toNat) := by
    refine whl_for (b := f_X7_flocks_L28 (io (kT k)) (io (kN k)) (io N) w) N.toNat (fun i s => s.1 = io (FS k N w i) ∧ s.2.1 = io ((i : Int) + 1)) (fun r => r.1 = io (FS k N w N.toNat)) ?_ ?_ 0 _ (by omega) ⟨rfl, rfl⟩
    · rintro i ⟨s1, s2, s3, s4, s5⟩ hi ⟨e1, e2⟩
      dsimp only at e1 e2
      have iN : i32 N := by unfold i32; omega
      have iq : i32 ((i : Int) + 1) := by unfold i32; omega
      have c1 : ¬ io N < io ((i : Int) + 1) := fun e => by
        have := (io_lt (by unfold i32; omega) (by unfold i32; omega)).mp e
        omega
      have hq0 : ¬ io ((i : Int) + 1) = 0 := fun e => by
        have := (io_eq (b := 0) iq (by unfold i32; omega)).mp e
        omega
      have hrem := io_rem iN iq (by omega) (by omega)
      have hdiv := io_div iN iq (by omega) (by omega)
      have hM := quo_b (q := (i : Int) + 1) hN (by omega)
      have hz : i32 (N % ((i : Int) + 1)) := by
        have := Int.emod_nonneg N (show (i : Int) + 1 ≠ 0 by omega)
        have := Int.emod_lt_of_pos N (show 0 < (i : Int) + 1 by omega)
        unfold i32; omega
      have hz0 : io (N % ((i : Int) + 1)) = (0 : Int32) ↔ N % ((i : Int) + 1) = 0 := io_eq (b := 0) hz (by unfold i32; omega)
      have hS : FS k N w (i + 1) = FS k N w i + FT k N w ((i : Int) + 1) := rfl
      unfold FT at hS
      unfold f_X7_flocks_L28
      dsimp only
      rw [e1, e2, if_neg c1, if_neg hq0, hrem]
      by_cases d : N % ((i : Int) + 1) = 0
      · rw [if_pos (by rw [d]; rfl), hdiv]
        rw [if_pos d] at hS
        by_cases w0 : w = 0
        · rw [if_pos w0]
          rw [if_pos w0] at hS
          refine ⟨_, rfl, ?_, ?_⟩
          · rw [hS]; exact io_add _ _
          · exact io_1 _
        · rw [if_neg w0]
          rw [if_neg w0] at hS
          obtain ⟨z1, z2, z3, f⟩ := closed7 (k := k) hM (q := (i : Int) + 1) ⟨by omega, by omega⟩ s3 s4 s5
          rw [f]
          refine ⟨_, rfl, ?_, ?_⟩
          · rw [hS]; exact io_add _ _
          · exact io_1 _
      · rw [if_neg (fun e => d (hz0.mp e))]
        rw [if_neg d] at hS
        refine ⟨_, rfl, ?_, ?_⟩
        · rw [hS, Int.add_zero]
        · exact io_1 _
    · rintro ⟨s1, s2, s3, s4, s5⟩ ⟨e1, e2⟩
      dsimp only at e1 e2
      have c1 : io N < io (((N.toNat : Nat) : Int) + 1) := (io_lt (by unfold i32; omega) (by unfold i32; omega)).mpr (by omega)
      unfold f_X7_flocks_L28
      dsimp only
      rw [e1, e2, if_pos c1]
      exact ⟨_, rfl, rfl⟩
  obtain ⟨⟨r1, r2, r3, r4⟩, e, hr⟩ := key
  dsimp only at hr
  exact ⟨r2, r3, r4, by rw [e, hr]⟩
theorem hm_flocks : HM_flocks REL := by
  intro cs ms h v1 v2
  obtain ⟨k, us, hk, hu, hnet, ht, hn, hm, hr⟩ := id h
  by_cases a1 : v1 < 1
  · have z8 : f_X8_in v1.toInt64 1 200 = 0 := (in_i (l := 1) (u := 200) (by unfold i32; omega) (by unfold i32; omega) v1).mpr (Or.inl a1)
    exact ⟨(-1, a_fl_p cs, a_fl_q cs, a_fl_r cs), -1, by simp only [f_X7_flocks, a1, ↓reduceIte], by simp only [f_X8_flocks, z8, ↓reduceIte], rfl, k, us, hk, hu, hnet, ht, hn, hm, hr⟩
  by_cases a2 : 200 < v1
  · have z8 : f_X8_in v1.toInt64 1 200 = 0 := (in_i (l := 1) (u := 200) (by unfold i32; omega) (by unfold i32; omega) v1).mpr (Or.inr a2)
    exact ⟨(-1, a_fl_p cs, a_fl_q cs, a_fl_r cs), -1, by simp only [f_X7_flocks, a1, a2, ↓reduceIte], by simp only [f_X8_flocks, z8, ↓reduceIte], rfl, k, us, hk, hu, hnet, ht, hn, hm, hr⟩
  have z8 : ¬ f_X8_in v1.toInt64 1 200 = 0 := fun e => by
    rcases (in_i (l := 1) (u := 200) (by unfold i32; omega) (by unfold i32; omega) v1).mp e with g | g
    · exact a1 g
    · exact a2 g
  by_cases b1 : v2 < 0
  · have y8 : f_X8_in v2.toInt64 0 1 = 0 := (in_i (l := 0) (u := 1) (by unfold i32; omega) (by unfold i32; omega) v2).mpr (Or.inl b1)
    exact ⟨(-1, a_fl_p cs, a_fl_q cs, a_fl_r cs), -1, by simp only [f_X7_flocks, a1, a2, b1, ↓reduceIte], by simp only [f_X8_flocks, z8, y8, ↓reduceIte], rfl, k, us, hk, hu, hnet, ht, hn, hm, hr⟩
  by_cases b2 : v2 ≤ 1
  · have y8 : ¬ f_X8_in v2.toInt64 0 1 = 0 := fun e => by
      rcases (in_i (l := 0) (u := 1) (by unfold i32; omega) (by unfold i32; omega) v2).mp e with g | g
      · exact b1 g
      · exact absurd b2 (Int32.not_le.mpr g)
    obtain ⟨N, hN, rfl⟩ : ∃ z, i32 z ∧ v1 = io z := ⟨v1.toInt, io_rng v1, io_of v1⟩
    have c1 : io N < (1 : Int32) ↔ N < 1 := io_lt (b := 1) hN (by unfold i32; omega)
    have c2 : (200 : Int32) < io N ↔ 200 < N := io_lt (a := 200) (by unfold i32; omega) hN
    rw [c1] at a1
    rw [c2] at a2
    have a1' := fun e => a1 (c1.mp e)
    have a2' := fun e => a2 (c2.mp e)
    obtain ⟨z1, z2, z3, e7⟩ := flocks7 (k := k) (N := N) ⟨by omega, by omega⟩ v2 (a_fl_p cs) (a_fl_q cs) (a_fl_r cs)
    have e8 := flocks8 (k := k) (N := N) ⟨by omega, by omega⟩ v2
    rw [← ht, ← hn] at e8
    rw [← hnet.1, ← hnet.2.1] at e7
    refine ⟨(io (FS k N v2 N.toNat), z1, z2, z3), io (FS k N v2 N.toNat), ?_, ?_, rfl, k, us, hk, hu, hnet, ht, hn, hm, hr⟩
    · unfold f_X7_flocks f_X7_flocks_K28_71
      rw [if_neg a1', if_neg a2', if_neg b1, if_pos b2, e7]
      rfl
    · unfold f_X8_flocks f_X8_flocks_K29_96
      rw [if_neg z8, if_neg y8, e8]
      rfl
  · have y8 : f_X8_in v2.toInt64 0 1 = 0 := (in_i (l := 0) (u := 1) (by unfold i32; omega) (by unfold i32; omega) v2).mpr (Or.inr (Int32.not_le.mp b2))
    exact ⟨(-1, a_fl_p cs, a_fl_q cs, a_fl_r cs), -1, by simp only [f_X7_flocks, a1, a2, b1, b2, ↓reduceIte], by simp only [f_X8_flocks, z8, y8, ↓reduceIte], rfl, k, us, hk, hu, hnet, ht, hn, hm, hr⟩
/-! kind -/
theorem fill7 (r : Nat → Int64) : ∃ r', f_J7_fill_d0a16 8 r 0 = some r' ∧ ∀ j : Nat, j < 8 → r' j = 0 := by
  have key : ∃ z, whl (f_J7_fill_d0a16_L6 8 0 (Int32.ofNat 8)) ((0 : Int32), r) = some z ∧ ∀ j : Nat, j < 8 → z j = 0 := by
    refine whl_for (b := f_J7_fill_d0a16_L6 8 0 (Int32.ofNat 8)) 8 (fun i s => s.1 = io (i : Int) ∧ ∀ j : Nat, j < i → s.2 j = 0) (fun z => ∀ j : Nat, j < 8 → z j = 0) ?_ ?_ 0 _ (by omega) ⟨rfl, fun j h => by omega⟩
    · rintro i ⟨s1, s2⟩ hi ⟨e1, e2⟩
      dsimp only at e1 e2
      have c1 : ¬ (Int32.ofNat 8 ≤ io (i : Int)) := fun e => by
        have := (io_le (a := 8) (by unfold i32; omega) (by unfold i32; omega)).mp e
        omega
      have d2 : (io (i : Int)).toNatClampNeg = i := by
        rw [Int32.toNatClampNeg, io_toInt (by unfold i32; omega)]
        omega
      have c2 : ¬ (io (i : Int) < 0 ∨ 8 ≤ i) := by
        rintro (g | g)
        · have := (io_lt (b := 0) (by unfold i32; omega) (by unfold i32; omega)).mp g
          omega
        · omega
      unfold f_J7_fill_d0a16_L6
      dsimp only
      rw [e1, if_neg c1, d2, if_neg c2, io_1]
      refine ⟨_, rfl, rfl, fun j hj => ?_⟩
      dsimp only
      unfold vp_updL
      by_cases g : j = i
      · rw [if_pos g]
      · rw [if_neg g]
        exact e2 j (by omega)
    · rintro ⟨s1, s2⟩ ⟨e1, e2⟩
      dsimp only at e1 e2
      unfold f_J7_fill_d0a16_L6
      dsimp only
      rw [e1, if_pos (by decide)]
      exact ⟨_, rfl, e2⟩
  obtain ⟨z, e, hz⟩ := key
  refine ⟨z, ?_, hz⟩
  unfold f_J7_fill_d0a16 f_J7_fill_d0a16_K6_22
  rw [e]
  rfl
theorem zero8 (rA rB : Nat → Int64) : ∃ z, whl f_X8_kind_L72 ((0 : Int32), rA, rB) = some z ∧ ∀ j : Nat, j < 8 → z.1 j = 0 ∧ z.2 j = 0 := by
  refine whl_for (b := f_X8_kind_L72) 8 (fun i s => s.1 = io (i : Int) ∧ ∀ j : Nat, j < i → s.2.1 j = 0 ∧ s.2.2 j = 0) (fun z => ∀ j : Nat, j < 8 → z.1 j = 0 ∧ z.2 j = 0) ?_ ?_ 0 _ (by omega) ⟨rfl, fun j h => by omega⟩
  · rintro i ⟨s1, s2, s3⟩ hi ⟨e1, e2⟩
    dsimp only at e1 e2
    have c1 : ¬ ((8 : Int32) ≤ io (i : Int)) := fun e => by
      have := (io_le (a := 8) (by unfold i32; omega) (by unfold i32; omega)).mp e
      omega
    have d2 : (io (i : Int)).toNatClampNeg = i := by
      rw [Int32.toNatClampNeg, io_toInt (by unfold i32; omega)]
      omega
    have c2 : ¬ (io (i : Int) < 0 ∨ 8 ≤ i) := by
      rintro (g | g)
      · have := (io_lt (b := 0) (by unfold i32; omega) (by unfold i32; omega)).mp g
        omega
      · omega
    unfold f_X8_kind_L72
    dsimp only
    rw [e1, if_neg c1, d2, if_neg c2, io_1]
    refine ⟨_, rfl, rfl, fun j hj => ?_⟩
    dsimp only
    unfold vp_updL
    by_cases g : j = i
    · rw [if_pos g, if_pos g]
      exact ⟨rfl, rfl⟩
    · rw [if_neg g, if_neg g]
      exact e2 j (by omega)
  · rintro ⟨s1, s2, s3⟩ ⟨e1, e2⟩
    dsimp only at e1 e2
    unfold f_X8_kind_L72
    dsimp only
    rw [e1, if_pos (by decide)]
    exact ⟨_, rfl, e2⟩
