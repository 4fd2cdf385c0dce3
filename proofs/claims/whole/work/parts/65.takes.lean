/-! the class' and the reference's takings give TKs -/
theorem take7 {k : Nat} (hk : k < 5) {us : List (Int × Int)} (hu : UN k us) {mm : Int32} {uA uB : Nat → Int64} (hm : MU us mm uA uB) {x : G2} {S : ST} (G : GD2 k x S) {y : G2} (hy : SB (kT k) (kN k) y) (hp : PRI (kT k) (kN k) y) (hd : DV (kT k) (kN k) y S.1) {pri : Nat → Int64} (cp : CP S.2.1 (SO (kT k) (kN k) S.2.2 S.2.1) pri) : ∃ pri', f_X0_take (io (kT k)) (io (kN k)) (io (kU k)) (pk (kSa k) (kSb k)) (io (S.2.1 : Int)) (pk S.1.1 S.1.2) pri (pk y.1 y.2) = some (io ((tk k (shp k y) S).2.1 : Int), pk (tk k (shp k y) S).1.1 (tk k (shp k y) S).1.2, pri') ∧ CP (tk k (shp k y) S).2.1 (SO (kT k) (kN k) (tk k (shp k y) S).2.2 (tk k (shp k y) S).2.1) pri' ∧ GD2 k x (tk k (shp k y) S) ∧ zs (kT k) (kN k) (tk k (shp k y) S).1 < zs (kT k) (kN k) S.1 := by
  have h := TN_k hk
  obtain ⟨b1, b2, b3⟩ := GD2_b G
  obtain ⟨y1, y2⟩ := yb_zs h hy
  obtain ⟨s1, s2, -⟩ := shp_both hk hu hm y1.u y2.u 0 0 0
  have ez := shp_zs hk s1
  have hz : SB (kT k) (kN k) (shp k y) := by unfold SB at *; omega
  have hpz := shp_pri hk s1 hp
  have hdz := (shp_DV hk s1 S.1).mpr hd
  have dq := div7q h b2 hz (by have := hpz.1; omega) hdz
  have c1 : io (S.2.1 : Int) < (40 : Int32) := (io_lt (b := 40) (by unfold i32; omega) (by unfold i32; omega)).mpr (by omega)
  obtain ⟨j, pri', F, hj, hc⟩ := insert7 h (m := S.2.1) (by omega) (f := SO (kT k) (kN k) S.2.2 S.2.1) hz (SO_mem (P := SB (kT k) (kN k)) S.2.1 b3) cp
  obtain ⟨g1, g2, g3⟩ := tk_ok hk G hpz (SHR_self hk s1) hdz
  obtain ⟨d1, d2⟩ := nat40 hj
  refine ⟨vp_updL pri' j (pk (shp k y).1 (shp k y).2), ?_, ?_, g1, g2⟩
  · unfold f_X0_take f_X0_take_K44_88
    rw [if_pos c1, s2]
    simp only [Option.bind_some]
    rw [dq]
    simp only [Option.bind_some]
    rw [F]
    simp only [Option.bind_some]
    rw [if_neg d1, d2, io_1]
    rfl
  · intro i hi
    have e1 := hc i hi
    have e2 : SO (kT k) (kN k) (tk k (shp k y) S).2.2 (tk k (shp k y) S).2.1 i = ins (kT k) (kN k) (shp k y) (SO (kT k) (kN k) S.2.2 S.2.1) S.2.1 i := by
      show ins (kT k) (kN k) ((tk k (shp k y) S).2.2 S.2.1) (SO (kT k) (kN k) (tk k (shp k y) S).2.2 S.2.1) S.2.1 i = _
      have e3 : (tk k (shp k y) S).2.2 S.2.1 = shp k y := if_pos rfl
      rw [e3]
      refine ins_c (fun j hj => SO_c S.2.1 (fun j hj => ?_) j hj) i hi
      exact if_neg (by omega)
    rw [e2]
    exact e1
theorem size7 {k : Nat} (hk : k < 5) {l : G2} (hl : SB (kT k) (kN k) l) : f_X4_sizeOf (io (kT k)) (io (kN k)) (pk l.1 l.2) = lo (zs (kT k) (kN k) l) := by
  obtain ⟨y1, y2⟩ := yb_zs (TN_k hk) hl
  exact sizeOf_pk (kT_i k) (kN_i k) y1.i y2.i
theorem take70_no {k : Nat} {d S : Int} (hd : 2 ≤ d ∧ d ≤ 2000000000) (hS : 0 ≤ S ∧ S ≤ 2000000000) (hn : ¬ d ∣ S) (U : Int32) (sp v7 : Int64) (m : Int32) (l : Int64) (pri : Nat → Int64) : whl (f_X0_find_L70 (io (kT k)) (io (kN k)) U sp (lo d) v7) (lo S, (0 : Int32), m, l, pri) = some (lo S, m, l, pri) := by
  rcases div7 (a := S) (b := d) (by unfold i64; omega) (by unfold i64; omega) (by omega) with ⟨g, e⟩ | ⟨g, e⟩
  · exact absurd g hn
  · refine whl_r ?_
    unfold f_X0_find_L70
    dsimp only
    rw [if_neg (by decide), e]
    simp only [Option.bind_some, ↓reduceIte]
theorem take70 {k : Nat} (hk : k < 5) {us : List (Int × Int)} (hu : UN k us) {mm : Int32} {uA uB : Nat → Int64} (hm : MU us mm uA uB) {x : G2} {d : Int} {y : G2} (A : ABV k d y) : ∀ (f i : Nat) (S : ST) (pri : Nat → Int64), i + f = 40 → GD2 k x S → CP S.2.1 (SO (kT k) (kN k) S.2.2 S.2.1) pri → ∃ pri', whl (f_X0_find_L70 (io (kT k)) (io (kN k)) (io (kU k)) (pk (kSa k) (kSb k)) (lo d) (pk y.1 y.2)) (lo (zs (kT k) (kN k) S.1), io (i : Int), io (S.2.1 : Int), pk S.1.1 S.1.2, pri) = some (lo (zs (kT k) (kN k) (TKs k d y f S).1), io ((TKs k d y f S).2.1 : Int), pk (TKs k d y f S).1.1 (TKs k d y f S).1.2, pri') ∧ GD2 k x (TKs k d y f S) ∧ CP (TKs k d y f S).2.1 (SO (kT k) (kN k) (TKs k d y f S).2.2 (TKs k d y f S).2.1) pri' := by
  have h := TN_k hk
  intro f
  induction f with
  | zero =>
    intro i S pri hi G cp
    refine ⟨pri, whl_r ?_, G, cp⟩
    have c1 : (40 : Int32) ≤ io (i : Int) := (io_le (a := 40) (by unfold i32; omega) (by unfold i32; omega)).mpr (by omega)
    unfold f_X0_find_L70
    dsimp only
    rw [if_pos c1]
    rfl
  | succ f ih =>
    intro i S pri hi G cp
    obtain ⟨a1, a2, a3, a4, a5⟩ := A
    obtain ⟨b1, b2, b3⟩ := GD2_b G
    have nn := G.2.1
    have c1 : ¬ ((40 : Int32) ≤ io (i : Int)) := fun e => by
      have := (io_le (a := 40) (by unfold i32; omega) (by unfold i32; omega)).mp e
      omega
    have hb2 : zs (kT k) (kN k) S.1 ≤ 2000000000 := b2
    rcases div7 (a := zs (kT k) (kN k) S.1) (b := d) (by unfold i64; omega) (by unfold i64; omega) (by omega) with ⟨g, e⟩ | ⟨g, e⟩
    · have pos := a3.1
      obtain ⟨y1, y2⟩ := yb_zs h a2
      rcases isp7 h b2 a2 (by omega) with ⟨g2, e2⟩ | ⟨g2, e2⟩
      · rw [TKs_y g g2]
        obtain ⟨pri', F, C, G', -⟩ := take7 hk hu hm G a2 a3 g2 cp
        obtain ⟨pri'', F2, G2', C2⟩ := ih (i + 1) _ pri' (by omega) G' C
        refine ⟨pri'', ?_, G2', C2⟩
        rw [← F2]
        refine whl_l ?_
        unfold f_X0_find_L70
        dsimp only
        rw [if_neg c1, e]
        simp only [Option.bind_some]
        rw [if_neg n10, e2]
        simp only [Option.bind_some]
        rw [if_neg n10, F]
        simp only [Option.bind_some]
        rw [size7 hk (GD2_b G').2.1, io_1]
        rfl
      · rw [TKs_c g g2]
        have g3 : DV (kT k) (kN k) (cj (kT k) y) S.1 := (a5 _ g).resolve_left g2
        have hy' : SB (kT k) (kN k) (cj (kT k) y) := by unfold SB; rw [zs_cj]; exact a2
        obtain ⟨pri', F, C, G', -⟩ := take7 hk hu hm G hy' (pri_cj a3) g3 cp
        obtain ⟨pri'', F2, G2', C2⟩ := ih (i + 1) _ pri' (by omega) G' C
        refine ⟨pri'', ?_, G2', C2⟩
        rw [← F2]
        refine whl_l ?_
        have mi : f_X4_mirror (io (kT k)) (pk y.1 y.2) = pk (cj (kT k) y).1 (cj (kT k) y).2 := mirror_pk (kT_i k) y1.i y2.i
        unfold f_X0_find_L70
        dsimp only
        rw [if_neg c1, e]
        simp only [Option.bind_some]
        rw [if_neg n10, e2]
        simp only [Option.bind_some, ↓reduceIte]
        rw [mi, F]
        simp only [Option.bind_some]
        rw [size7 hk (GD2_b G').2.1, io_1]
        rfl
    · rw [TKs_no g]
      refine ⟨pri, whl_r ?_, G, cp⟩
      unfold f_X0_find_L70
      dsimp only
      rw [if_neg c1, e]
      simp only [Option.bind_some, ↓reduceIte]
theorem takeOut8_l {k : Nat} (hk : k < 5) {x : G2} {d : Int} {y z : G2} (hz : PRI (kT k) (kN k) z) (hs : SHR k z z) (hzb : SB (kT k) (kN k) z) {Q : G2 → Prop} (hQ : ∀ l l', Q l → DV (kT k) (kN k) l' l → Q l') (hstep : ∀ S : ST, Q S.1 → DV (kT k) (kN k) z S.1 → ∀ g, TKs k d y (g + 1) S = TKs k d y g (tk k z S)) : ∀ (f : Nat) (S : ST) (pA pB : Nat → Int64) (x1 x2 x3 x4 : Int64), GD2 k x S → zs (kT k) (kN k) S.1 ≤ (f : Int) → Q S.1 → MP S.2.1 S.2.2 pA pB → ∃ (S' : ST) (c : Nat) (y1 y2 y3 y4 : Int64) (pA' pB' : Nat → Int64), whl (f_X8_takeOut_L18 (lo (kT k)) (lo (kN k)) (lo z.1) (lo z.2)) (x1, x2, x3, x4, io (S.2.1 : Int), lo S.1.1, lo S.1.2, pA, pB) = some (y1, y2, y3, y4, io (S'.2.1 : Int), lo S'.1.1, lo S'.1.2, pA', pB') ∧ GD2 k x S' ∧ MP S'.2.1 S'.2.2 pA' pB' ∧ ¬ DV (kT k) (kN k) z S'.1 ∧ Q S'.1 ∧ S'.2.1 = S.2.1 + c ∧ DV (kT k) (kN k) S'.1 S.1 ∧ ∀ g, TKs k d y (g + c) S = TKs k d y g S' := by
  have h := TN_k hk
  intro f
  induction f with
  | zero => intro S pA pB x1 x2 x3 x4 G hf; have := G.2.1; omega
  | succ f ih =>
    intro S pA pB x1 x2 x3 x4 G hf hq mp
    obtain ⟨b1, b2, b3⟩ := GD2_b G
    have pos := hz.1
    obtain ⟨w1, w2, P⟩ := isp8 h b2 hzb (by omega) x1 x2
    rcases P with ⟨g, e⟩ | ⟨g, e⟩
    · obtain ⟨t1, t2, t3⟩ := tk_ok hk G hz hs g
      obtain ⟨v1, v2, D⟩ := div8q h b2 hzb (by omega) g w1 w2 x3 x4
      obtain ⟨d1, d2⟩ := nat40 (i := S.2.1) (by omega)
      obtain ⟨S', c, y1, y2, y3, y4, pA', pB', F, r1, r2, r3, r4, r5, r7, r6⟩ := ih (tk k z S) (vp_updL pA S.2.1 (lo z.1)) (vp_updL pB S.2.1 (lo z.2)) v1 v2 (lo (tk k z S).1.1) (lo (tk k z S).1.2) t1 (by omega) (hQ _ _ hq t3) (by
        intro j hj
        rw [upL, upL]
        unfold tk
        dsimp only
        by_cases q : j = S.2.1
        · rw [if_pos q, if_pos q, if_pos q]; exact ⟨rfl, rfl⟩
        · rw [if_neg q, if_neg q, if_neg q]
          exact mp j (by unfold tk at hj; dsimp only at hj; omega))
      refine ⟨S', c + 1, y1, y2, y3, y4, pA', pB', ?_, r1, r2, r3, r4, ?_, DV_tr r7 t3, fun g' => ?_⟩
      · rw [← F]
        refine whl_l ?_
        unfold f_X8_takeOut_L18
        dsimp only
        rw [e]
        simp only [Option.bind_some]
        rw [if_neg n10, D]
        simp only [Option.bind_some]
        rw [if_neg d1, d2, io_1]
        rfl
      · rw [r5]; show S.2.1 + 1 + c = _; omega
      · rw [← Nat.add_assoc, hstep S hq g]
        exact r6 g'
    · refine ⟨S, 0, w1, w2, x3, x4, pA, pB, whl_r ?_, G, mp, g, hq, rfl, DV_rf _ _ _, fun g' => rfl⟩
      unfold f_X8_takeOut_L18
      dsimp only
      rw [e]
      simp only [Option.bind_some, ↓reduceIte]
theorem takeOut8 {k : Nat} (hk : k < 5) {us : List (Int × Int)} (hu : UN k us) {mm : Int32} {uA uB : Nat → Int64} (hm : MU us mm uA uB) {x : G2} {d : Int} {y v : G2} (hv : PRI (kT k) (kN k) v) (hvb : SB (kT k) (kN k) v) {Q : G2 → Prop} (hQ : ∀ l l', Q l → DV (kT k) (kN k) l' l → Q l') (hstep : ∀ S : ST, Q S.1 → DV (kT k) (kN k) v S.1 → ∀ g, TKs k d y (g + 1) S = TKs k d y g (tk k (shp k v) S)) {S : ST} {pA pB : Nat → Int64} (G : GD2 k x S) (hq : Q S.1) (mp : MP S.2.1 S.2.2 pA pB) (x1 x2 x3 x4 : Int64) (o1 : Int32) : ∃ (S' : ST) (c : Nat) (y1 y2 y3 y4 : Int64) (o2 : Int32) (pA' pB' : Nat → Int64), f_X8_takeOut (lo (kT k)) (lo (kN k)) x1 x2 mm x3 x4 o1 (io (S.2.1 : Int)) (lo S.1.1) (lo S.1.2) uA uB pA pB (lo v.1) (lo v.2) = some (y1, y2, y3, y4, o2, io (S'.2.1 : Int), lo S'.1.1, lo S'.1.2, pA', pB') ∧ GD2 k x S' ∧ MP S'.2.1 S'.2.2 pA' pB' ∧ ¬ DV (kT k) (kN k) v S'.1 ∧ Q S'.1 ∧ S'.2.1 = S.2.1 + c ∧ DV (kT k) (kN k) S'.1 S.1 ∧ ∀ g, TKs k d y (g + c) S = TKs k d y g S' := by
  obtain ⟨v1, v2⟩ := yb_zs (TN_k hk) hvb
  obtain ⟨s1, -, y3, s3⟩ := shp_both hk hu hm v1.u v2.u x1 x2 o1
  have ez := shp_zs hk s1
  have hz : SB (kT k) (kN k) (shp k v) := by unfold SB at *; omega
  obtain ⟨S', c, w1, w2, w3, w4, pA', pB', F, r1, r2, r3, r4, r5, r7, r6⟩ := takeOut8_l hk (shp_pri hk s1 hv) (SHR_self hk s1) hz hQ (fun S hq hd => hstep S hq ((shp_DV hk s1 S.1).mp hd)) (zs (kT k) (kN k) S.1).toNat S pA pB (lo (shp k v).1) (lo (shp k v).2) x3 x4 G (by have := G.2.1; omega) hq mp
  refine ⟨S', c, w1, w2, w3, w4, y3, pA', pB', ?_, r1, r2, fun g => r3 ((shp_DV hk s1 S'.1).mpr g), r4, r5, r7, r6⟩
  unfold f_X8_takeOut f_X8_takeOut_K18_104
  rw [s3]
  simp only [Option.bind_some]
  rw [F]
  rfl
theorem takeOver8 {k : Nat} (hk : k < 5) {us : List (Int × Int)} (hu : UN k us) {mm : Int32} {uA uB : Nat → Int64} (hm : MU us mm uA uB) {x : G2} {d : Int} {y : G2} (hy : LY (kT k) (kN k) d y) (A : ABV k d y) {S : ST} {pA pB : Nat → Int64} (G : GD2 k x S) (mp : MP S.2.1 S.2.2 pA pB) (x1 x2 x3 x4 : Int64) (o1 : Int32) : ∃ (y1 y2 y3 y4 : Int64) (o2 : Int32) (pA' pB' : Nat → Int64), f_X8_takeOver (lo (kT k)) (lo (kN k)) x1 x2 mm x3 x4 o1 (io (S.2.1 : Int)) (lo S.1.1) (lo S.1.2) uA uB pA pB (lo d) = some (y1, y2, y3, y4, o2, io ((TKs k d y 40 S).2.1 : Int), lo (TKs k d y 40 S).1.1, lo (TKs k d y 40 S).1.2, pA', pB') ∧ GD2 k x (TKs k d y 40 S) ∧ MP (TKs k d y 40 S).2.1 (TKs k d y 40 S).2.2 pA' pB' ∧ ¬ d ∣ zs (kT k) (kN k) (TKs k d y 40 S).1 ∧ DV (kT k) (kN k) (TKs k d y 40 S).1 S.1 := by
  have h := TN_k hk
  obtain ⟨a1, a2, a3, a4, a5⟩ := id A
  obtain ⟨y0, hy0, W⟩ := prim8 h (d := d) (by omega) x1 x2
  have ey := LY_u hy0 hy
  subst ey
  -- first y
  have up : ∀ l, DV (kT k) (kN k) y0 l → d ∣ zs (kT k) (kN k) l := fun l hl => Int.dvd_trans a4 (DV_zs hl)
  have up' : ∀ l, DV (kT k) (kN k) (cj (kT k) y0) l → d ∣ zs (kT k) (kN k) l := fun l hl => by
    have := DV_zs hl
    rw [zs_cj] at this
    exact Int.dvd_trans a4 this
  have fin : ∀ (S' : ST) (c : Nat), GD2 k x S' → S'.2.1 = S.2.1 + c → (∀ g, TKs k d y0 (g + c) S = TKs k d y0 g S') → ¬ d ∣ zs (kT k) (kN k) S'.1 → TKs k d y0 40 S = S' := by
    intro S' c G' e1 e2 e3
    have := (GD2_b G').1
    have e4 := e2 (40 - c)
    rw [show 40 - c + c = 40 by omega, TKs_no e3] at e4
    exact e4
  rcases W with ⟨n1, W⟩ | ⟨rfl, no, W⟩
  · obtain ⟨S1, c1, y1, y2, y3, y4, o2, pA1, pB1, F1, r1, r2, r3, -, r5, r7, r6⟩ := takeOut8 hk hu hm a3 a2 (Q := fun _ => True) (fun _ _ _ _ => trivial) (fun S _ hd g => TKs_y (d := d) (up _ hd) hd g) G trivial mp (lo y0.1) (lo y0.2) x3 x4 o1
    have hy' : SB (kT k) (kN k) (cj (kT k) y0) := by unfold SB; rw [zs_cj]; exact a2
    obtain ⟨S2, c2, z1, z2, z3, z4, o3, pA2, pB2, F2, q1, q2, q3, q4, q5, q7, q6⟩ := takeOut8 hk hu hm (pri_cj a3) hy' (Q := fun l => ¬ DV (kT k) (kN k) y0 l) (fun l l' hl hd g => hl (DV_tr g hd)) (fun S hq hd g => TKs_c (d := d) (up' _ hd) hq g) r1 r3 r2 y1 y2 y3 y4 o2
    have nd : ¬ d ∣ zs (kT k) (kN k) S2.1 := fun g => by
      rcases a5 _ g with g | g
      · exact q4 g
      · exact q3 g
    have e := fin S2 (c2 + c1) q1 (by omega) (fun g => by rw [← Nat.add_assoc, r6, q6]) nd
    refine ⟨z1, z2, z3, z4, o3, pA2, pB2, ?_, by rw [e]; exact q1, by rw [e]; exact q2, by rw [e]; exact nd, by rw [e]; exact DV_tr q7 r7⟩
    rw [e]
    unfold f_X8_takeOver
    rw [W]
    simp only [Option.bind_some, Sum.elim_inl]
    unfold f_X8_takeOver_K2_42
    rw [F1]
    simp only [Option.bind_some]
    have e1 : lo y0.1 + lo (kT k) * lo y0.2 = lo (cj (kT k) y0).1 := by rw [lo_mul, lo_add]; rfl
    have e2 : -lo y0.2 = lo (cj (kT k) y0).2 := lo_neg y0.2
    rw [e1, e2, F2]
    rfl
  · obtain ⟨S1, c1, y1, y2, y3, y4, o2, pA1, pB1, F1, r1, r2, r3, -, r5, r7, r6⟩ := takeOut8 hk hu hm a3 a2 (Q := fun _ => True) (fun _ _ _ _ => trivial) (fun S _ hd g => TKs_y (d := d) (up _ hd) hd g) G trivial mp x1 x2 x3 x4 o1
    have nd : ¬ d ∣ zs (kT k) (kN k) S1.1 := fun g => by
      rcases a5 _ g with g | g
      · exact r3 g
      · rw [cj_d] at g
        exact r3 g
    have e := fin S1 c1 r1 r5 r6 nd
    refine ⟨y1, y2, y3, y4, o2, pA1, pB1, ?_, by rw [e]; exact r1, by rw [e]; exact r2, by rw [e]; exact nd, by rw [e]; exact r7⟩
    rw [e]
    unfold f_X8_takeOver
    rw [W]
    simp only [Option.bind_some, Sum.elim_inr]
    unfold f_X8_takeOver_K2_87
    have e2 : (0 : Int64) = lo ((d, (0 : Int)) : G2).2 := rfl
    rw [e2]
    dsimp only at F1 ⊢
    rw [F1]
    rfl
