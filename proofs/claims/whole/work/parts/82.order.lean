/-! order -/
theorem GC_dv {t n : Int} {z : G2} : ∀ (j : Nat) (a b c d : Int), DV t n z (a, b) → DV t n z (c, d) → DV t n z (GC t n j a b c d) := by
  intro j
  induction j with
  | zero => intro a b c d h1 h2; exact h1
  | succ j ih =>
    intro a b c d h1 h2
    unfold GC
    by_cases g : c = 0 ∧ d = 0
    · rw [if_pos g]; exact h1
    · rw [if_neg g]
      refine ih c d _ _ h2 ?_
      have e : (rA t n a b c d, rB t n a b c d) = sb (a, b) (mu t n (NQ t n a b c d) (c, d)) := by
        unfold sb mu
        dsimp only
        rw [rA_def, rB_def]
      rw [e]
      exact DV_sb h1 (DV_mu h2 _)
theorem cm_dv {k : Nat} (hk : k < 5) {us : List (Int × Int)} (hu : UN k us) {m : Int32} {uA uB : Nat → Int64} (hm : MU us m uA uB) {a b c d : Int} (h1 : sz (kT k) (kN k) a b ≤ 7000000000) (h2 : sz (kT k) (kN k) c d ≤ 7000000000) (x1 x2 x3 x4 : Int64) (x5 : Int32) : ∃ (g : G2) (y1 y2 : Int64) (y3 : Int32), yb g.1 ∧ yb g.2 ∧ f_X4_common (io (kT k)) (io (kN k)) (io (kU k)) (pk (kSa k) (kSb k)) (pk a b) (pk c d) = some (pk g.1 g.2) ∧ f_X8_common (lo (kT k)) (lo (kN k)) x1 x2 m x3 x4 x5 uA uB (lo a) (lo b) (lo c) (lo d) = some (lo g.1, lo g.2, y1, y2, y3) ∧ ∀ z : G2, DV (kT k) (kN k) z (a, b) → DV (kT k) (kN k) z (c, d) → DV (kT k) (kN k) z g := by
  have h := TN_k hk
  obtain ⟨ya, yB⟩ := yb_of h h1
  have hT : sz (kT k) (kN k) c d ≤ TT 400 := Int.le_trans h2 TT_400
  have e7 := cm7 h 400 a b c d 0 ya.x yB.x h2 hT (by omega) (by omega)
  obtain ⟨z1, z2, z3, z4, e8⟩ := cm8 h 400 a b c d x1 x2 x3 x4 ya.x yB.x h2 hT
  have hs := GC_le h (X := 7000000000) (by omega) 400 a b c d h1 h2
  have hd : ∀ z : G2, DV (kT k) (kN k) z (a, b) → DV (kT k) (kN k) z (c, d) → DV (kT k) (kN k) z (GC (kT k) (kN k) 400 a b c d) := fun z => GC_dv 400 a b c d
  obtain ⟨g1, g2⟩ := yb_of h hs
  generalize GC (kT k) (kN k) 400 a b c d = g at *
  obtain ⟨i, j, q, hi, hq, s1, s2, s3, -, -⟩ := sh_both hk hu hm (a := g.1) (b := g.2) g1.u g2.u z1 z2 x5
  obtain ⟨w1, w2⟩ := mv_y hk hi hs
  refine ⟨mv k g.1 g.2 (uC k i), z3, z4, io (j : Int), w1, w2, ?_, ?_, fun z q1 q2 => DV_mu (hd z q1 q2) (uC k i)⟩
  · unfold f_X4_common f_X4_common_K9_47
    have : (0 : Int32) = io 0 := rfl
    rw [this, e7]
    simp only [Option.bind_some]
    rw [s2]
    rfl
  · unfold f_X8_common f_X8_common_K14_63
    rw [e8]
    simp only [Option.bind_some]
    rw [s3]
    rfl
theorem mem_prod {t n : Int} {f : Nat → G2} {j : Nat} : ∀ m, j < m → DV t n (f j) (PROD t n f m) := by
  intro m
  induction m with
  | zero => intro hj; omega
  | succ m ih =>
    intro hj
    show DV t n (f j) (mu t n (f m) (PROD t n f m))
    by_cases g : j = m
    · rw [g]; exact DV_mu' (DV_rf t n _) _
    · exact DV_mu (ih (by omega)) _
theorem or_of {k : Nat} (hk : k < 5) {M x : G2} {S : ST} (G : GD2 k M S) (z1 : zs (kT k) (kN k) S.1 = 1) (hM : zs (kT k) (kN k) M ≤ 100000) (hx : ∀ z, PRI (kT k) (kN k) z → DV (kT k) (kN k) z M → ¬ DV (kT k) (kN k) z x) : ∃ o, odr (kT k) (kN k) M x o ∧ o ≤ 100000 ∧ 1 ≤ phn (kT k) (kN k) (SO (kT k) (kN k) S.2.2 S.2.1) S.2.1 ∧ phn (kT k) (kN k) (SO (kT k) (kN k) S.2.2 S.2.1) S.2.1 ≤ 100000 ∧ o ∣ (phn (kT k) (kN k) (SO (kT k) (kN k) S.2.2 S.2.1) S.2.1).toNat := by
  obtain ⟨L, eL⟩ := lis_of G z1 hM
  obtain ⟨p1, -, -, p2⟩ := lis_b L (Nat.le_refl _)
  have hp := SO_mem (t := kT k) (n := kN k) (s := S.2.2) (P := fun z => PRI (kT k) (kN k) z ∧ SHR k z z) S.2.1 G.2.2.1
  have eM : M = mu (kT k) (kN k) S.1 (PROD (kT k) (kN k) (SO (kT k) (kN k) S.2.2 S.2.1) S.2.1) := by
    rw [PROD_SO]; exact G.2.2.2
  have MP1 : DV (kT k) (kN k) (PROD (kT k) (kN k) (SO (kT k) (kN k) S.2.2 S.2.1) S.2.1) M := ⟨S.1, eM⟩
  have MP2 : DV (kT k) (kN k) M (PROD (kT k) (kN k) (SO (kT k) (kN k) S.2.2 S.2.1) S.2.1) := by
    refine ⟨cj (kT k) S.1, ?_⟩
    conv => rhs; rw [eM]
    rw [← mu_assoc, unit_mu z1, mu_1]
  have F := eul hk hp (SO_srt S.2.1) (x := x) (fun j hj => hx _ (hp j hj).1 (DV_tr (mem_prod S.2.1 hj) MP1)) S.2.1 (Nat.le_refl _)
  have F2 : cgr (kT k) (kN k) M (pwr (kT k) (kN k) x (phn (kT k) (kN k) (SO (kT k) (kN k) S.2.2 S.2.1) S.2.1).toNat) (1, 0) := DV_tr MP2 F
  obtain ⟨o, O, ho⟩ := odr_ex (by omega) F2
  exact ⟨o, O, by omega, p1, p2, (odr_dv O _).mp F2⟩
theorem hm_order : HM_order REL := by
  intro cs ms hrel v1 v2
  obtain ⟨k, us, hk, hu, hnet, ht, hn, hm, hr⟩ := id hrel
  have h := TN_k hk
  have key : ∃ p q, f_X7_order (io (kT k)) (io (kN k)) (io (kU k)) (pk (kSa k) (kSb k)) (a_reg cs) (a_fac_count cs) (a_fac_left cs) (a_pri cs) v1 v2 = some p ∧ f_X8_order (lo (kT k)) (lo (kN k)) (a_mod_a ms) (a_mod_b ms) (a_mod_unitMany ms) (a_mod_quotA ms) (a_mod_quotB ms) (a_mod_unitUsed ms) (a_regA ms) (a_regB ms) (a_unitA ms) (a_unitB ms) v1 v2 = some q ∧ p.1 = q.1 := by
    rcases reg2 hr v1 with ⟨g1, g2⟩ | ⟨a, b, ha, hb, s1, s2, s3, s4, s5, s6⟩
    · exact ⟨(-1, _, _, _), (-1, _, _, _, _, _), by
        simp only [f_X7_order, g1, ↓reduceIte]
        try rfl, by
        simp only [f_X8_order, g2, ↓reduceIte]
        try rfl, rfl⟩
    rcases reg2 hr v2 with ⟨g1, g2⟩ | ⟨c, d, hc, hd, q1, q2, q3, q4, q5, q6⟩
    · exact ⟨(-1, _, _, _), (-1, _, _, _, _, _), by
        simp only [f_X7_order, s1, g1, ↓reduceIte]
        try rfl, by
        simp only [f_X8_order, s2, g2, ↓reduceIte]
        try rfl, rfl⟩
    rcases size_both hk hc hd q3 q5 q6 (m := 100000) (by unfold i32; omega) with ⟨-, g7, g8⟩ | ⟨hsz, g7, z, hz, g8⟩
    · have g7' : f_X7_isOfSize (io (kT k)) (io (kN k)) (pk c d) (100000 : Int32) = 0 := g7
      have g8' : f_X8_isModulus (lo (kT k)) (lo (kN k)) (a_regA ms) (a_regB ms) v2 100000 = some 0 := g8
      exact ⟨(-2, _, _, _), (-2, _, _, _, _, _), by
        simp only [f_X7_order, s1, q1, q3, q4, g7', ↓reduceIte]
        try rfl, by
        simp only [f_X8_order, s2, q2, g8', Option.bind_some, ↓reduceIte]
        try rfl, rfl⟩
    have g7' : ¬ f_X7_isOfSize (io (kT k)) (io (kN k)) (pk c d) (100000 : Int32) = 0 := g7
    have g8' : f_X8_isModulus (lo (kT k)) (lo (kN k)) (a_regA ms) (a_regB ms) v2 100000 = some z := g8
    have hzs : 2 ≤ zs (kT k) (kN k) (c, d) ∧ zs (kT k) (kN k) (c, d) ≤ 100000 := hsz
    have hS : 0 < zs (kT k) (kN k) (c, d) := by omega
    obtain ⟨S, pri', y1, y2, y3, y4, o3, pA', pB', G, zl, F7, cp, -, -⟩ := fac_both hk hu hm (SB_reg hk hc hd) (show 1 ≤ zs (kT k) (kN k) (c, d) by omega) (a_fac_count cs) (a_fac_left cs) (a_pri cs) 0 0 0 0 0 0 0 0 (fun _ => 0) (fun _ => 0)
    obtain ⟨L, -⟩ := lis_of G zl hzs.2
    have S7 := single7 h L cp
    have szx := sz_rng h ha hb
    obtain ⟨g, w1, w2, w3, gy1, gy2, C7, C8, hg⟩ := cm_dv hk hu hm (a := a) (b := b) (c := c) (d := d) (by omega) (by omega) (a_mod_a ms) (a_mod_b ms) (a_mod_quotA ms) (a_mod_quotB ms) (a_mod_unitUsed ms)
    have Z7 : f_X4_sizeOf (io (kT k)) (io (kN k)) (pk g.1 g.2) = lo (zs (kT k) (kN k) g) := sizeOf_pk (kT_i k) (kN_i k) gy1.i gy2.i
    have Z8 : f_X8_sizeOf (lo (kT k)) (lo (kN k)) (lo g.1) (lo g.2) = lo (zs (kT k) (kN k) g) := sizeOf_m _ _ _ _
    have nn := zs_nn h g
    have gb : zs (kT k) (kN k) g ≤ 1000000000000 := by
      have := sz_le h gy1.1 gy1.2 gy2.1 gy2.2
      unfold zs
      omega
    have c1 : lo (zs (kT k) (kN k) g) = (1 : Int64) ↔ zs (kT k) (kN k) g = 1 := lo_eq (b := 1) (by unfold i64; omega) (by unfold i64; omega)
    dsimp only at F7
    by_cases u : zs (kT k) (kN k) g = 1
    · have c1' := c1.mpr u
      obtain ⟨o, O, ob, p1, p2, od⟩ := or_of hk (x := (a, b)) G zl hzs.2 (fun z hz hzM hzx => by
        have e := DV_zs (hg z hzx hzM)
        rw [u] at e
        have := Int.le_of_dvd (by omega) e
        have := hz.1
        omega)
      generalize phn (kT k) (kN k) (SO (kT k) (kN k) S.2.2 S.2.1) S.2.1 = Q at *
      have si : siv o Q.toNat Q.toNat := by
        refine ⟨⟨by omega, by omega, by omega⟩, Nat.dvd_refl _, ?_⟩
        obtain ⟨e, he⟩ := od
        exact ⟨e, he, ⟨o, by rw [he, Nat.mul_comm]⟩⟩
      have St := strip_out hk (x := (a, b)) (M := (c, d)) ha hb hc hd hS hzs.2 O 100000 2 Q.toNat Q.toNat (by omega) (by omega) si (fun e h1 h2 => by omega) (by omega)
      rw [show ((Q.toNat : Nat) : Int) = Q by omega] at St
      have R7 : f_X4_rest (io (kT k)) (io (kN k)) (4294967296 : Int64) (pk c d) = some (pk (rts (kT k) (kN k) (c, d) (1, 0)).1 (rts (kT k) (kN k) (c, d) (1, 0)).2) := by
        rw [pk_one]
        exact r7r h (by unfold xb; omega) (by unfold xb; omega) hc.y hd.y hS
      have LO : f_X6_leastOrder (io (kT k)) (io (kN k)) (io (kU k)) (pk (kSa k) (kSb k)) (pk a b) (pk c d) (io Q) = some (io (o : Int)) := by
        unfold f_X6_leastOrder f_X6_leastOrder_K48_109
        rw [C7]
        simp only [Option.bind_some]
        rw [Z7, if_pos c1', R7]
        simp only [Option.bind_some]
        have St' : whl (f_X6_leastOrder_L48 (io (kT k)) (io (kN k)) (pk a b) (pk c d) (pk (rts (kT k) (kN k) (c, d) (1, 0)).1 (rts (kT k) (kN k) (c, d) (1, 0)).2)) (io Q, io Q, (2 : Int32)) = some (io (o : Int)) := St
        rw [St']
        rfl
      have FR : f_X8_isFree (lo (kT k)) (lo (kN k)) (a_mod_a ms) (a_mod_b ms) (a_mod_unitMany ms) (a_mod_quotA ms) (a_mod_quotB ms) (a_mod_unitUsed ms) (a_regA ms) (a_regB ms) (a_unitA ms) (a_unitB ms) v1 v2 = some (1, lo g.1, lo g.2, w1, w2, w3) := by
        unfold f_X8_isFree
        rw [if_neg s3, if_neg q3, s5, s6, q5, q6, C8]
        simp only [Option.bind_some]
        rw [Z8, if_pos c1']
      obtain ⟨n1, n2, O8⟩ := one8 h hc hd hS q3 q5 q6 (lo g.1) (lo g.2) w1 w2
      have R8 := red8 h ha.y.x hb.y.x hc hd hS q3 q5 q6 n1 n2
      obtain ⟨m1, m2, m3, m4, ST8⟩ := step8 hk (x := (a, b)) (M := (c, d)) hc hd hS hzs.2 q3 q5 q6 O ob (lo (NQ (kT k) (kN k) a b c d).1) (lo (NQ (kT k) (kN k) a b c d).2)
      unfold rts at ST8
      dsimp only at ST8
      exact ⟨(io (o : Int), _, _, _), (io (o : Int), _, _, _, _, _), by
        simp only [f_X7_order, s1, q1, q3, q4, g7', F7, s3, s4, S7, LO, Option.bind_some, ↓reduceIte]
        try rfl, by
        simp only [f_X8_order, s2, q2, g8', hz, FR, n10, O8, s3, s5, s6, f_X8_put_mod_a, f_X8_put_mod_b, R8, ST8, f_X8_order_K94_140, Option.bind_some, ↓reduceIte]
        try rfl, rfl⟩
    · have c1' : ¬ lo (zs (kT k) (kN k) g) = (1 : Int64) := fun q => u (c1.mp q)
      have LO : f_X6_leastOrder (io (kT k)) (io (kN k)) (io (kU k)) (pk (kSa k) (kSb k)) (pk a b) (pk c d) (io (phn (kT k) (kN k) (SO (kT k) (kN k) S.2.2 S.2.1) S.2.1)) = some (-4 : Int32) := by
        unfold f_X6_leastOrder
        rw [C7]
        simp only [Option.bind_some]
        rw [Z7, if_neg c1']
      have FR : f_X8_isFree (lo (kT k)) (lo (kN k)) (a_mod_a ms) (a_mod_b ms) (a_mod_unitMany ms) (a_mod_quotA ms) (a_mod_quotB ms) (a_mod_unitUsed ms) (a_regA ms) (a_regB ms) (a_unitA ms) (a_unitB ms) v1 v2 = some (0, lo g.1, lo g.2, w1, w2, w3) := by
        unfold f_X8_isFree
        rw [if_neg s3, if_neg q3, s5, s6, q5, q6, C8]
        simp only [Option.bind_some]
        rw [Z8, if_neg c1']
      exact ⟨(-4, _, _, _), (-4, _, _, _, _, _), by
        simp only [f_X7_order, s1, q1, q3, q4, g7', F7, s3, s4, S7, LO, Option.bind_some, ↓reduceIte]
        try rfl, by
        simp only [f_X8_order, s2, q2, g8', hz, FR, Option.bind_some, ↓reduceIte]
        try rfl, rfl⟩
  obtain ⟨p, q, e1, e2, e3⟩ := key
  refine ⟨p, q, ?_, ?_, e3, k, us, hk, hu, hnet, ht, hn, hm, hr⟩
  · rw [hnet.1, hnet.2.1, hnet.2.2.1, hnet.2.2.2]; exact e1
  · rw [ht, hn]; exact e2
