/-! loops: unfolding, early ends; like, has -/
theorem whl_eq {σ ρ : Type} {b : σ → Option (σ ⊕ ρ)} (s : σ) : whl b s = Option.bind (b s) (Sum.elim (whl b) some) := by
  cases e : b s with
  | none =>
    cases e2 : whl b s with
    | none => rfl
    | some r =>
      obtain ⟨k, hk⟩ := whl_ex e2
      cases k with
      | zero => cases hk
      | succ k =>
        unfold itr at hk
        rw [e] at hk
        cases hk
  | some x =>
    cases x with
    | inl t => rw [whl_l e]; rfl
    | inr r => rw [whl_r e]; rfl
/-- a counting loop that may end early -/
theorem whl_fe {σ ρ : Type} {b : σ → Option (σ ⊕ ρ)} (N : Nat) (Inv : Nat → σ → Prop) (P : ρ → Prop) (step : ∀ i s, i < N → Inv i s → (∃ r, b s = some (.inr r) ∧ P r) ∨ ∃ t, b s = some (.inl t) ∧ Inv (i + 1) t) (done : ∀ s, Inv N s → ∃ r, b s = some (.inr r) ∧ P r) : ∀ i s, i ≤ N → Inv i s → ∃ r, whl b s = some r ∧ P r := by
  have key : ∀ n i s, N - i < n → i ≤ N → Inv i s → ∃ r, whl b s = some r ∧ P r := by
    intro n
    induction n with
    | zero => intro i s h; omega
    | succ n ih =>
      intro i s hn hi h
      by_cases e : i < N
      · rcases step i s e h with ⟨r, h1, h2⟩ | ⟨t, h1, h2⟩
        · exact ⟨r, whl_r h1, h2⟩
        · rw [whl_l h1]
          exact ih (i + 1) t (by omega) (by omega) h2
      · have e2 : i = N := by omega
        subst e2
        obtain ⟨r, h1, h2⟩ := done s h
        exact ⟨r, whl_r h1, h2⟩
  exact fun i s hi h => key (N - i + 1) i s (by omega) hi h
theorem un_mul : ∀ k < 5, ∀ p ∈ unitsL k, ∀ q ∈ unitsL k, (mA (kN k) p.1 p.2 q.1 q.2, mB (kT k) p.1 p.2 q.1 q.2) ∈ unitsL k := by decide +kernel
theorem un_inv : ∀ k < 5, ∀ p ∈ unitsL k, ∃ q ∈ unitsL k, (mA (kN k) q.1 q.2 p.1 p.2, mB (kT k) q.1 q.2 p.1 p.2) = (1, 0) := by decide +kernel
theorem mv_mv (k : Nat) (a b : Int) (p q : Int × Int) : mv k (mv k a b q).1 (mv k a b q).2 p = mv k a b (mA (kN k) p.1 p.2 q.1 q.2, mB (kT k) p.1 p.2 q.1 q.2) := by
  unfold mv mA mB
  refine Prod.ext ?_ ?_ <;> dsimp only <;> grind
theorem like_iff {k : Nat} (hk : k < 5) {a b c d : Int} {i j : Nat} (hi : i < kUn k) (hj : j < kUn k) (mi : ∀ i', i' < kUn k → lex (mv k a b (uC k i')) (mv k a b (uC k i))) (mj : ∀ i', i' < kUn k → lex (mv k c d (uC k i')) (mv k c d (uC k j))) : mv k a b (uC k i) = mv k c d (uC k j) ↔ ∃ q ∈ unitsL k, mv k a b q = (c, d) := by
  have ui := uC_in k hk i hi
  have uj := uC_in k hk j hj
  constructor
  · intro e
    obtain ⟨p, hp, ep⟩ := un_inv k hk _ uj
    refine ⟨_, un_mul k hk p hp _ ui, ?_⟩
    rw [← mv_mv, e, mv_mv, ep, mv_1]
  · rintro ⟨q, hq, e⟩
    have ec : c = (mv k a b q).1 := by rw [e]
    have ed : d = (mv k a b q).2 := by rw [e]
    apply lex_an
    · obtain ⟨p, hp, ep⟩ := un_inv k hk q hq
      obtain ⟨j', hj', ej⟩ := uC_all k hk _ (un_mul k hk _ ui p hp)
      have := mj j' hj'
      rw [← ej, ec, ed, ← mv_mv, mv_mv k a b p q, ep, mv_1] at this
      rw [ec, ed]
      exact this
    · obtain ⟨j', hj', ej⟩ := uC_all k hk _ (un_mul k hk _ uj q hq)
      have := mi j' hj'
      rw [← ej, ← mv_mv] at this
      rw [ec, ed]
      exact this
theorem like8 {k : Nat} (hk : k < 5) {us : List (Int × Int)} (hu : UN k us) {m : Int32} {uA uB : Nat → Int64} (hm : MU us m uA uB) {rA rB : Nat → Int64} {a b c d : Int} (ha : rng a) (hb : rng b) (hc : rng c) (hd : rng d) {v1 v2 : Int32} (s2 : ¬ f_X8_isReg v1 = 0) (s3 : ¬ (v1 < 0 ∨ 8 ≤ v1.toNatClampNeg)) (s5 : rA v1.toNatClampNeg = lo a) (s6 : rB v1.toNatClampNeg = lo b) (q2 : ¬ f_X8_isReg v2 = 0) (q3 : ¬ (v2 < 0 ∨ 8 ≤ v2.toNatClampNeg)) (q5 : rA v2.toNatClampNeg = lo c) (q6 : rB v2.toNatClampNeg = lo d) (x1 x2 : Int64) : ∃ y1 y2, ((∃ q ∈ unitsL k, mv k a b q = (c, d)) ∧ f_X8_like (lo (kT k)) (lo (kN k)) x1 x2 m rA rB uA uB v1 v2 = some (1, y1, y2)) ∨ ((¬ ∃ q ∈ unitsL k, mv k a b q = (c, d)) ∧ f_X8_like (lo (kT k)) (lo (kN k)) x1 x2 m rA rB uA uB v1 v2 = some (0, y1, y2)) := by
  have hU := kUn_b k
  have hl := UN_len hk hu
  obtain ⟨hm1, hm2⟩ := hm
  have key : ∃ r, whl (f_X8_like_L18 (lo (kT k)) (lo (kN k)) m rA rB uA uB v1 v2) ((0 : Int32), x1, x2) = some r ∧ ((∃ z, r = Sum.inl z ∧ ∃ q ∈ us, mv k a b q = (c, d)) ∨ (∃ z, r = Sum.inr z ∧ ∀ q ∈ us, ¬ mv k a b q = (c, d))) := by
    refine whl_fe (b := f_X8_like_L18 (lo (kT k)) (lo (kN k)) m rA rB uA uB v1 v2) us.length (fun i s => s.1 = io (i : Int) ∧ ∀ (j : Nat) q, j < i → us[j]? = some q → ¬ mv k a b q = (c, d)) (fun r => (∃ z, r = Sum.inl z ∧ ∃ q ∈ us, mv k a b q = (c, d)) ∨ (∃ z, r = Sum.inr z ∧ ∀ q ∈ us, ¬ mv k a b q = (c, d))) ?_ ?_ 0 _ (by omega) ⟨rfl, fun j q h => by omega⟩
    · rintro i ⟨s, sa, sb⟩ hi ⟨e1, e2⟩
      dsimp only at e1
      obtain ⟨q, hq⟩ : ∃ q, us[i]? = some q := ⟨us[i], List.getElem?_eq_getElem hi⟩
      obtain ⟨g1, g2⟩ := hm2 i q hq
      obtain ⟨d1, d2⟩ := io_nat6 (i := i) (by omega)
      have c1 : ¬ (m ≤ io (i : Int)) := fun e => by
        rw [hm1] at e
        have := (io_le (by unfold i32; omega) (by unfold i32; omega)).mp e
        omega
      have hA : f_X8_times_mod_a (lo (kN k)) (lo a) (lo b) (uA i) (uB i) = lo (mv k a b q).1 := by rw [g1, g2, timesA_k, (mv_c k a b q).1]
      have hB : f_X8_times_mod_b (lo (kT k)) (lo a) (lo b) (uA i) (uB i) = lo (mv k a b q).2 := by rw [g1, g2, timesB_k, (mv_c k a b q).2]
      obtain ⟨w1, w2⟩ := us_mv hk hu ha.y.u hb.y.u hq
      have t1 := lo_eq w1.w hc.i.w
      have t2 := lo_eq w2.w hd.i.w
      rw [d2] at d1
      by_cases z : mv k a b q = (c, d)
      · left
        refine ⟨Sum.inl (lo (mv k a b q).1, lo (mv k a b q).2), ?_, Or.inl ⟨_, rfl, q, List.mem_of_getElem? hq, z⟩⟩
        have z1 : (mv k a b q).1 = c := by rw [z]
        have z2 : (mv k a b q).2 = d := by rw [z]
        unfold f_X8_like_L18
        dsimp only
        rw [e1, d2, if_neg c1, if_neg s3, if_neg d1, if_neg q3, s5, s6, q5, q6, hA, hB, if_pos (t1.mpr z1), if_pos (t2.mpr z2)]
      · right
        refine ⟨(io ((i : Int) + 1), lo (mv k a b q).1, lo (mv k a b q).2), ?_, rfl, ?_⟩
        · unfold f_X8_like_L18
          dsimp only
          rw [e1, d2, if_neg c1, if_neg s3, if_neg d1, if_neg q3, s5, s6, q5, q6, hA, hB, io_1]
          by_cases z1 : (mv k a b q).1 = c
          · have z2 : ¬ (mv k a b q).2 = d := fun e => z (Prod.ext z1 e)
            rw [if_pos (t1.mpr z1), if_neg (fun e => z2 (t2.mp e))]
          · rw [if_neg (fun e => z1 (t1.mp e))]
        · intro j q' hj hq'
          by_cases y : j = i
          · rw [y, hq] at hq'
            have : q = q' := by injection hq'
            rw [← this]
            exact z
          · exact e2 j q' (by omega) hq'
    · rintro ⟨s, sa, sb⟩ ⟨e1, e2⟩
      dsimp only at e1
      refine ⟨Sum.inr (sa, sb), ?_, Or.inr ⟨_, rfl, fun q hq => ?_⟩⟩
      · unfold f_X8_like_L18
        dsimp only
        rw [e1, if_pos (by rw [hm1]; exact Int32.le_refl _)]
      · obtain ⟨j, hj⟩ := List.mem_iff_getElem?.mp hq
        refine e2 j q ?_ hj
        rcases Nat.lt_or_ge j us.length with z | z
        · exact z
        · rw [List.getElem?_eq_none z] at hj
          exact absurd hj (by simp)
  obtain ⟨r, e, hr⟩ := key
  rcases hr with ⟨z, rfl, q, hq, e2⟩ | ⟨z, rfl, hq⟩
  · refine ⟨z.1, z.2, Or.inl ⟨⟨q, (UN_mem hu q).mp hq, e2⟩, ?_⟩⟩
    unfold f_X8_like
    rw [if_neg s2, if_neg q2, e]
    rfl
  · refine ⟨z.1, z.2, Or.inr ⟨fun ⟨q, g, e2⟩ => hq q ((UN_mem hu q).mpr g) e2, ?_⟩⟩
    unfold f_X8_like
    rw [if_neg s2, if_neg q2, e]
    rfl
theorem hm_like : HM_like REL := by
  intro cs ms h v1 v2
  obtain ⟨k, us, hk, hu, hnet, ht, hn, hm, hr⟩ := id h
  rcases reg2 hr v1 with ⟨h1, h2⟩ | ⟨a, b, ha, hb, s1, s2, s3, s4, s5, s6⟩
  · exact ⟨-1, (-1, a_mod_a ms, a_mod_b ms), by simp only [f_X7_like, h1, ↓reduceIte], by simp only [f_X8_like, h2, ↓reduceIte], rfl, k, us, hk, hu, hnet, ht, hn, hm, hr⟩
  rcases reg2 hr v2 with ⟨h1, h2⟩ | ⟨c, d, hc, hd, q1, q2, q3, q4, q5, q6⟩
  · exact ⟨-1, (-1, a_mod_a ms, a_mod_b ms), by simp only [f_X7_like, s1, h1, ↓reduceIte], by simp only [f_X8_like, s2, h2, ↓reduceIte], rfl, k, us, hk, hu, hnet, ht, hn, hm, hr⟩
  obtain ⟨i, -, -, hi, -, -, f7, -, -, mi⟩ := sh_both hk hu hm (a := a) (b := b) ha.y.u hb.y.u 0 0 0
  obtain ⟨j, -, -, hj, -, -, g7, -, -, mj⟩ := sh_both hk hu hm (a := c) (b := d) hc.y.u hd.y.u 0 0 0
  obtain ⟨y1, y2⟩ := mv_y hk hi (a := a) (b := b) (by have := sz_rng (TN_k hk) ha hb; omega)
  obtain ⟨y3, y4⟩ := mv_y hk hj (a := c) (b := d) (by have := sz_rng (TN_k hk) hc hd; omega)
  have hp := pk_inj y1.i y2.i y3.i y4.i
  have hl := like_iff hk hi hj mi mj
  obtain ⟨z1, z2, h8⟩ := like8 hk hu hm ha hb hc hd s2 s3 s5 s6 q2 q3 q5 q6 (a_mod_a ms) (a_mod_b ms)
  rw [← ht, ← hn] at h8
  rw [← hnet.1, ← hnet.2.1, ← hnet.2.2.1, ← hnet.2.2.2, ← s4] at f7
  rw [← hnet.1, ← hnet.2.1, ← hnet.2.2.1, ← hnet.2.2.2, ← q4] at g7
  rcases h8 with ⟨e, h8⟩ | ⟨e, h8⟩
  · have e2 := hl.mpr e
    refine ⟨1, _, ?_, h8, rfl, k, us, hk, hu, hnet, ht, hn, hm, hr⟩
    have : pk (mv k a b (uC k i)).1 (mv k a b (uC k i)).2 = pk (mv k c d (uC k j)).1 (mv k c d (uC k j)).2 := by rw [e2]
    simp only [f_X7_like, s1, q1, s3, q3, ↓reduceIte, f7, g7, Option.bind_some, this]
  · have : ¬ pk (mv k a b (uC k i)).1 (mv k a b (uC k i)).2 = pk (mv k c d (uC k j)).1 (mv k c d (uC k j)).2 := fun g => e (hl.mp (Prod.ext (hp.mp g).1 (hp.mp g).2))
    refine ⟨0, _, ?_, h8, rfl, k, us, hk, hu, hnet, ht, hn, hm, hr⟩
    simp only [f_X7_like, s1, q1, s3, q3, ↓reduceIte, f7, g7, Option.bind_some, this]
theorem holds_ex {P Q : Int64} (hP : ¬ P = 0) (hQ : ¬ Q = 0) (R X Y : Int64) : ∃ z, f_X1_holds P Q R X Y = some z ∧ f_X8_hasIn P Q R X Y = some z := by
  by_cases h1 : Y - Y / Q * Q = 0
  · by_cases h2 : X - Y / Q * R - (X - Y / Q * R) / P * P = 0
    · exact ⟨1, by simp only [f_X1_holds, f_X7_divides, f_X7_ratio, hP, hQ, h1, h2, ↓reduceIte, Option.bind_some, n10], by simp only [f_X8_hasIn, hP, hQ, h1, h2, ↓reduceIte]⟩
    · exact ⟨0, by simp only [f_X1_holds, f_X7_divides, f_X7_ratio, hP, hQ, h1, h2, ↓reduceIte, Option.bind_some, n10], by simp only [f_X8_hasIn, hP, hQ, h1, h2, ↓reduceIte]⟩
  · exact ⟨0, by simp only [f_X1_holds, f_X7_divides, f_X7_ratio, hP, hQ, h1, ↓reduceIte, Option.bind_some, n10], by simp only [f_X8_hasIn, hP, hQ, h1, ↓reduceIte]⟩
theorem flock_cases (v1 v2 v3 : Int32) : (f_X7_isFlock v1 v2 v3 = 0 ∧ f_X8_isFlock v1 v2 v3 = 0) ∨ ∃ p q r : Int, (1 ≤ p ∧ p ≤ 200) ∧ (1 ≤ q ∧ q ≤ 200) ∧ (0 ≤ r ∧ r < p) ∧ v1 = io p ∧ v2 = io q ∧ v3 = io r ∧ ¬ f_X7_isFlock v1 v2 v3 = 0 ∧ ¬ f_X8_isFlock v1 v2 v3 = 0 := by
  obtain ⟨p, hp, rfl⟩ : ∃ z, i32 z ∧ v1 = io z := ⟨v1.toInt, io_rng v1, io_of v1⟩
  obtain ⟨q, hq, rfl⟩ : ∃ z, i32 z ∧ v2 = io z := ⟨v2.toInt, io_rng v2, io_of v2⟩
  obtain ⟨r, hr, rfl⟩ : ∃ z, i32 z ∧ v3 = io z := ⟨v3.toInt, io_rng v3, io_of v3⟩
  have c1 : io p < (1 : Int32) ↔ p < 1 := io_lt (b := 1) hp (by unfold i32; omega)
  have c2 : (200 : Int32) < io p ↔ 200 < p := io_lt (a := 200) (by unfold i32; omega) hp
  have c3 : io q < (1 : Int32) ↔ q < 1 := io_lt (b := 1) hq (by unfold i32; omega)
  have c4 : (200 : Int32) < io q ↔ 200 < q := io_lt (a := 200) (by unfold i32; omega) hq
  have c5 : io r < 0 ↔ r < 0 := io_lt (b := 0) hr (by unfold i32; omega)
  have c6 : io p ≤ io r ↔ p ≤ r := io_le hp hr
  have d1 : f_X8_in (io p).toInt64 1 200 = 0 ↔ io p < 1 ∨ 200 < io p := in_i (l := 1) (u := 200) (by unfold i32; omega) (by unfold i32; omega) _
  have d2 : f_X8_in (io q).toInt64 1 200 = 0 ↔ io q < 1 ∨ 200 < io q := in_i (l := 1) (u := 200) (by unfold i32; omega) (by unfold i32; omega) _
  unfold f_X7_isFlock f_X8_isFlock
  by_cases h1 : p < 1
  · left; rw [if_pos (c1.mpr h1), if_pos (d1.mpr (Or.inl (c1.mpr h1)))]; exact ⟨rfl, rfl⟩
  rw [if_neg (fun e => h1 (c1.mp e))]
  by_cases h2 : 200 < p
  · left; rw [if_pos (c2.mpr h2), if_pos (d1.mpr (Or.inr (c2.mpr h2)))]; exact ⟨rfl, rfl⟩
  rw [if_neg (fun e => h2 (c2.mp e)), if_neg (fun e => (d1.mp e).elim (fun g => h1 (c1.mp g)) (fun g => h2 (c2.mp g)))]
  by_cases h3 : q < 1
  · left; rw [if_pos (c3.mpr h3), if_pos (d2.mpr (Or.inl (c3.mpr h3)))]; exact ⟨rfl, rfl⟩
  rw [if_neg (fun e => h3 (c3.mp e))]
  by_cases h4 : 200 < q
  · left; rw [if_pos (c4.mpr h4), if_pos (d2.mpr (Or.inr (c4.mpr h4)))]; exact ⟨rfl, rfl⟩
  rw [if_neg (fun e => h4 (c4.mp e)), if_neg (fun e => (d2.mp e).elim (fun g => h3 (c3.mp g)) (fun g => h4 (c4.mp g)))]
  have e1 : (io p - (1 : Int32)).toInt64 = lo (p - 1) := by
    have : io p - (1 : Int32) = io (p - 1) := io_sub p 1
    rw [this, io_w (by unfold i32; omega)]
  have d3 : f_X8_in (io r).toInt64 0 (io p - (1 : Int32)).toInt64 = 0 ↔ ¬ (0 ≤ r ∧ r ≤ p - 1) := by
    rw [e1, io_w hr]
    exact in_lo (l := 0) hr.w (by unfold i64; omega) (by unfold i64; omega)
  by_cases h5 : r < 0
  · left; rw [if_pos (c5.mpr h5), if_pos (d3.mpr (by omega))]; exact ⟨rfl, rfl⟩
  rw [if_neg (fun e => h5 (c5.mp e))]
  by_cases h6 : p ≤ r
  · left; rw [if_pos (c6.mpr h6), if_pos (d3.mpr (by omega))]; exact ⟨rfl, rfl⟩
  · right
    rw [if_neg (fun e => h6 (c6.mp e)), if_neg (fun e => d3.mp e (by omega))]
    exact ⟨p, q, r, ⟨by omega, by omega⟩, ⟨by omega, by omega⟩, ⟨by omega, by omega⟩, rfl, rfl, rfl, by decide, by decide⟩
theorem lo_nz {z : Int} (h : i64 z) (g : ¬ z = 0) : ¬ lo z = 0 := fun e => g ((lo_eq (b := 0) h (by unfold i64; omega)).mp e)
theorem hm_has : HM_has REL := by
  intro cs ms h v1 v2 v3 v4
  obtain ⟨k, us, hk, hu, hnet, ht, hn, hm, hr⟩ := id h
  rcases flock_cases v1 v2 v3 with ⟨h1, h2⟩ | ⟨p, q, r, hp, hq, hr', rfl, rfl, rfl, h1, h2⟩
  · exact ⟨(-1, a_fl_p cs, a_fl_q cs, a_fl_r cs), -1, by simp only [f_X7_has, h1, ↓reduceIte], by simp only [f_X8_has, h2, ↓reduceIte], rfl, k, us, hk, hu, hnet, ht, hn, hm, hr⟩
  rcases reg2 hr v4 with ⟨g1, g2⟩ | ⟨a, b, ha, hb, s1, s2, s3, s4, s5, s6⟩
  · exact ⟨(-1, a_fl_p cs, a_fl_q cs, a_fl_r cs), -1, by simp only [f_X7_has, h1, g1, ↓reduceIte], by simp only [f_X8_has, h2, g2, ↓reduceIte], rfl, k, us, hk, hu, hnet, ht, hn, hm, hr⟩
  have wp := io_w (z := p) (by unfold i32; omega)
  have wq := io_w (z := q) (by unfold i32; omega)
  obtain ⟨z, e1, e2⟩ := holds_ex (lo_nz (z := p) (by unfold i64; omega) (by omega)) (lo_nz (z := q) (by unfold i64; omega) (by omega)) (io r).toInt64 (lo a) (lo b)
  rw [← wp, ← wq] at e1 e2
  by_cases y : z = 0
  · exact ⟨(0, (io p).toInt64, (io q).toInt64, (io r).toInt64), 0, by simp only [f_X7_has, h1, s1, s3, s4, first_pk b ha.i, second_pk a hb.i, f_X1_become_fl_p, f_X1_become_fl_q, f_X1_become_fl_r, e1, y, Option.bind_some, ↓reduceIte], by simp only [f_X8_has, h2, s2, s3, s5, s6, e2, y, Option.bind_some, ↓reduceIte], rfl, k, us, hk, hu, hnet, ht, hn, hm, hr⟩
  · exact ⟨(1, (io p).toInt64, (io q).toInt64, (io r).toInt64), 1, by simp only [f_X7_has, h1, s1, s3, s4, first_pk b ha.i, second_pk a hb.i, f_X1_become_fl_p, f_X1_become_fl_q, f_X1_become_fl_r, e1, y, Option.bind_some, ↓reduceIte], by simp only [f_X8_has, h2, s2, s3, s5, s6, e2, y, Option.bind_some, ↓reduceIte], rfl, k, us, hk, hu, hnet, ht, hn, hm, hr⟩
