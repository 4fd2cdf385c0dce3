/-! the loops that put in order -/
theorem upL (f : Nat → Int64) (i : Nat) (v : Int64) (j : Nat) : vp_updL f i v j = if j = i then v else f j := rfl
theorem io_pred {j : Nat} (h : 1 ≤ j) : io (j : Int) - (1 : Int32) = io ((j - 1 : Nat) : Int) := by
  have e : io (j : Int) - (1 : Int32) = io ((j : Int) - 1) := io_sub _ 1
  rw [e, show (j : Int) - 1 = ((j - 1 : Nat) : Int) by omega]
theorem io_pred' {j : Nat} (h : 1 ≤ j) : io (j : Int) + (-1 : Int32) = io ((j - 1 : Nat) : Int) := by
  rw [show (-1 : Int32) = io (-1) by decide, io_add, show (j : Int) + -1 = ((j - 1 : Nat) : Int) by omega]
theorem ins_at {t n : Int} {z : G2} {f : Nat → G2} {m j : Nat} (h1 : j ≤ m) (h2 : ∀ x, j ≤ x → x < m → AH t n z (f x)) (h3 : j = 0 ∨ ¬ AH t n z (f (j - 1))) (x : Nat) : ins t n z f m x = if x < j then f x else if x = j then z else f (x - 1) := by
  unfold ins
  rw [posn_u h1 h2 h3]
theorem take_step {t n : Int} {j : Nat} (hj : 1 ≤ j) (hj2 : j < 40) {z y : G2} {pri : Nat → Int64} (K1 : pri (j - 1) = pk y.1 y.2) (v : Int32) (A : f_X0_isAhead (io t) (io n) (pk z.1 z.2) (pk y.1 y.2) = v) : f_X0_take_L44 (io t) (io n) (pk z.1 z.2) (io (j : Int), pri) = if v = 0 then some (Sum.inr (io (j : Int), pri)) else some (Sum.inl (io ((j - 1 : Nat) : Int), vp_updL pri j (pk y.1 y.2))) := by
  have c1 : ¬ (io (j : Int) ≤ 0) := fun e => by
    have := (io_le (b := 0) (by unfold i32; omega) (by unfold i32; omega)).mp e
    omega
  have d := nat40 (i := j - 1) (by omega)
  have e := nat40 (i := j) hj2
  have P1 := io_pred hj
  have P2 := io_pred' hj
  unfold f_X0_take_L44
  simp only [c1, P1, P2, d.2, e.2, K1, A, ↓reduceIte]
  rw [d.2] at d
  rw [e.2] at e
  rw [if_neg d.1, if_neg e.1]
theorem insert7 {t n : Int} (h : TN t n) {m : Nat} (hm : m < 40) {f : Nat → G2} {z : G2} (hz : SB t n z) (hf : ∀ j, j < m → SB t n (f j)) {pri : Nat → Int64} (hp : CP m f pri) : ∃ (j : Nat) (pri' : Nat → Int64), whl (f_X0_take_L44 (io t) (io n) (pk z.1 z.2)) (io (m : Int), pri) = some (io (j : Int), pri') ∧ j < 40 ∧ CP (m + 1) (ins t n z f m) (vp_updL pri' j (pk z.1 z.2)) := by
  have key : ∃ r, whl (f_X0_take_L44 (io t) (io n) (pk z.1 z.2)) (io (m : Int), pri) = some r ∧ ∃ (j : Nat) (pri' : Nat → Int64), r = (io (j : Int), pri') ∧ j ≤ m ∧ (∀ x, x < j → pri' x = pk (f x).1 (f x).2) ∧ (∀ x, j < x → x ≤ m → pri' x = pk (f (x - 1)).1 (f (x - 1)).2) ∧ (∀ x, j ≤ x → x < m → AH t n z (f x)) ∧ (j = 0 ∨ ¬ AH t n z (f (j - 1))) := by
    refine whl_fe (b := f_X0_take_L44 (io t) (io n) (pk z.1 z.2)) m (fun i S => ∃ (j : Nat) (pri' : Nat → Int64), S = (io (j : Int), pri') ∧ j + i = m ∧ (∀ x, x < j → pri' x = pk (f x).1 (f x).2) ∧ (∀ x, j < x → x ≤ m → pri' x = pk (f (x - 1)).1 (f (x - 1)).2) ∧ (∀ x, j ≤ x → x < m → AH t n z (f x))) _ ?_ ?_ 0 _ (by omega) ⟨m, pri, rfl, by omega, hp, fun x h1 h2 => by omega, fun x h1 h2 => by omega⟩
    · rintro i S hi ⟨j, pri', rfl, hj, k1, k2, k3⟩
      have A := ahead7 h hz (hf (j - 1) (by omega))
      have T := take_step (t := t) (n := n) (z := z) (show 1 ≤ j by omega) (show j < 40 by omega) (k1 (j - 1) (by omega))
      rcases A with ⟨g, e⟩ | ⟨g, e⟩
      · right
        have T1 := T 1 e
        rw [if_neg n10] at T1
        refine ⟨_, T1, j - 1, _, rfl, by omega, ?_, ?_, ?_⟩
        · intro x hx
          rw [upL, if_neg (by omega)]
          exact k1 x (by omega)
        · intro x h1 h2
          rw [upL]
          by_cases q : x = j
          · rw [if_pos q, q]
          · rw [if_neg q]
            exact k2 x (by omega) h2
        · intro x h1 h2
          by_cases q : x = j - 1
          · rw [q]; exact g
          · exact k3 x (by omega) h2
      · left
        have T1 := T 0 e
        rw [if_pos rfl] at T1
        exact ⟨_, T1, j, pri', rfl, by omega, k1, k2, k3, Or.inr g⟩
    · rintro S ⟨j, pri', rfl, hj, k1, k2, k3⟩
      have j0 : j = 0 := by omega
      subst j0
      unfold f_X0_take_L44
      dsimp only
      rw [if_pos (show io ((0 : Nat) : Int) ≤ 0 by decide)]
      exact ⟨_, rfl, 0, pri', rfl, by omega, k1, k2, k3, Or.inl rfl⟩
  obtain ⟨r, e, j, pri', rfl, hj, k1, k2, k3, k4⟩ := key
  refine ⟨j, pri', e, by omega, fun x hx => ?_⟩
  rw [ins_at hj k3 k4, upL]
  by_cases q : x = j
  · rw [if_pos q, if_neg (by omega), if_pos q]
  · rw [if_neg q]
    by_cases q2 : x < j
    · rw [if_pos q2]; exact k1 x q2
    · rw [if_neg q2, if_neg q]
      exact k2 x (by omega) (by omega)
def GGi (j : Nat) (z : G2) (f : Nat → G2) (x : Nat) : G2 := if x < j then f x else if x = j then z else f (x - 1)
theorem sort8_in {t n : Int} (h : TN t n) {i : Nat} (hi : i < 40) {f : Nat → G2} {z : G2} (hz : SB t n z) (hf : ∀ j, j < i → SB t n (f j)) {pA pB : Nat → Int64} (hp : MP i f pA pB) (hp2 : pA i = lo z.1 ∧ pB i = lo z.2) : ∃ pA' pB', whl (f_X8_layParts_L125 (lo t) (lo n)) (io (i : Int), pA, pB) = some (pA', pB') ∧ MP (i + 1) (ins t n z f i) pA' pB' ∧ ∀ x, i < x → pA' x = pA x ∧ pB' x = pB x := by
  have key : ∃ r, whl (f_X8_layParts_L125 (lo t) (lo n)) (io (i : Int), pA, pB) = some r ∧ ∃ (j : Nat), j ≤ i ∧ MP (i + 1) (GGi j z f) r.1 r.2 ∧ (∀ x, i < x → r.1 x = pA x ∧ r.2 x = pB x) ∧ (∀ x, j ≤ x → x < i → AH t n z (f x)) ∧ (j = 0 ∨ ¬ AH t n z (f (j - 1))) := by
    refine whl_fe (b := f_X8_layParts_L125 (lo t) (lo n)) i (fun c S => ∃ (j : Nat), S.1 = io (j : Int) ∧ j + c = i ∧ MP (i + 1) (GGi j z f) S.2.1 S.2.2 ∧ (∀ x, i < x → S.2.1 x = pA x ∧ S.2.2 x = pB x) ∧ (∀ x, j ≤ x → x < i → AH t n z (f x))) _ ?_ ?_ 0 _ (by omega) ⟨i, rfl, by omega, ?_, fun x _ => ⟨rfl, rfl⟩, fun x h1 h2 => by omega⟩
    · rintro c ⟨S1, S2, S3⟩ hc ⟨j, e, hj, k1, k2, k3⟩
      dsimp only at e k1 k2
      subst e
      have c1 : ¬ (io (j : Int) ≤ 0) := fun e => by
        have := (io_le (b := 0) (by unfold i32; omega) (by unfold i32; omega)).mp e
        omega
      obtain ⟨d1, d2⟩ := nat40 (i := j - 1) (by omega)
      obtain ⟨e1, e2⟩ := nat40 (i := j) (by omega)
      have gj : GGi j z f j = z := by unfold GGi; rw [if_neg (by omega), if_pos rfl]
      have gp : GGi j z f (j - 1) = f (j - 1) := by unfold GGi; rw [if_pos (by omega)]
      have A := ahead8 h (f := GGi j z f) (i := j) (j := j - 1) (by omega) (by omega) (k1 j (by omega)) (k1 (j - 1) (by omega)) (by rw [gj]; exact hz) (by rw [gp]; exact hf _ (by omega))
      rw [gj, gp] at A
      have J1 : 1 ≤ j := by omega
      have P1 := io_pred J1
      have P2 := io_pred' J1
      rw [d2] at d1
      rw [e2] at e1
      unfold f_X8_layParts_L125
      dsimp only
      rw [if_neg c1, P1]
      rcases A with ⟨g, e⟩ | ⟨g, e⟩
      · right
        rw [e]
        simp only [Option.bind_some]
        rw [if_neg n10, e2, if_neg e1, d2, if_neg d1, P2]
        refine ⟨_, rfl, j - 1, rfl, by omega, ?_, ?_, ?_⟩
        · intro x hx
          dsimp only
          rw [upL, upL, upL, upL]
          by_cases q : x = j - 1
          · rw [if_pos q, if_pos q]
            have := k1 j (by omega)
            rw [gj] at this
            have e3 : GGi (j - 1) z f x = z := by unfold GGi; rw [if_neg (by omega), if_pos q]
            rw [e3]
            exact this
          · rw [if_neg q, if_neg q]
            by_cases q2 : x = j
            · rw [if_pos q2, if_pos q2]
              have := k1 (j - 1) (by omega)
              rw [gp] at this
              have e3 : GGi (j - 1) z f x = f (j - 1) := by unfold GGi; rw [if_neg (by omega), if_neg q, q2]
              rw [e3]
              exact this
            · rw [if_neg q2, if_neg q2]
              have := k1 x hx
              have e3 : GGi (j - 1) z f x = GGi j z f x := by
                unfold GGi
                by_cases q3 : x < j
                · rw [if_pos q3, if_pos (by omega)]
                · rw [if_neg q3, if_neg (by omega), if_neg q2, if_neg q]
              rw [e3]
              exact this
        · intro x hx
          dsimp only
          rw [upL, upL, upL, upL, if_neg (by omega), if_neg (by omega), if_neg (by omega), if_neg (by omega)]
          exact k2 x hx
        · intro x h1 h2
          by_cases q : x = j - 1
          · rw [q]; exact g
          · exact k3 x (by omega) h2
      · left
        rw [e]
        simp only [Option.bind_some, ↓reduceIte]
        exact ⟨_, rfl, j, by omega, k1, k2, k3, Or.inr g⟩
    · rintro ⟨S1, S2, S3⟩ ⟨j, e, hj, k1, k2, k3⟩
      dsimp only at e k1 k2
      have j0 : j = 0 := by omega
      subst j0
      subst e
      unfold f_X8_layParts_L125
      dsimp only
      rw [if_pos (show io ((0 : Nat) : Int) ≤ 0 by decide)]
      exact ⟨_, rfl, 0, by omega, k1, k2, k3, Or.inl rfl⟩
    · intro x hx
      dsimp only
      unfold GGi
      by_cases q : x < i
      · rw [if_pos q]; exact hp x q
      · have : x = i := by omega
        subst this
        rw [if_neg q, if_pos rfl]
        exact hp2
  obtain ⟨⟨r1, r2⟩, e, j, hj, k1, k2, k3, k4⟩ := key
  refine ⟨r1, r2, e, fun x hx => ?_, k2⟩
  rw [ins_at hj k3 k4]
  exact k1 x hx
theorem sort8 {t n : Int} (h : TN t n) {m : Nat} (hm : m ≤ 40) {s : Nat → G2} (hs : ∀ j, j < m → SB t n (s j)) {pA pB : Nat → Int64} (hp : MP m s pA pB) : ∃ pA' pB', whl (f_X8_layParts_L112 (lo t) (lo n) (io (m : Int))) ((1 : Int32), pA, pB) = some (pA', pB') ∧ MP m (SO t n s m) pA' pB' := by
  have key : ∃ r, whl (f_X8_layParts_L112 (lo t) (lo n) (io (m : Int))) ((1 : Int32), pA, pB) = some r ∧ MP m (SO t n s m) r.1 r.2 := by
    refine whl_for (b := f_X8_layParts_L112 (lo t) (lo n) (io (m : Int))) (m - 1) (fun c S => S.1 = io ((c : Int) + 1) ∧ (∀ x, x < c + 1 → x < m → S.2.1 x = lo (SO t n s (c + 1) x).1 ∧ S.2.2 x = lo (SO t n s (c + 1) x).2) ∧ (∀ x, c + 1 ≤ x → x < m → S.2.1 x = lo (s x).1 ∧ S.2.2 x = lo (s x).2)) _ ?_ ?_ 0 _ (by omega) ⟨rfl, ?_, fun x _ hx => hp x hx⟩
    · rintro c ⟨S1, S2, S3⟩ hc ⟨e, k1, k2⟩
      dsimp only at e k1 k2
      subst e
      have c1 : ¬ (io (m : Int) ≤ io ((c : Int) + 1)) := fun e => by
        have := (io_le (by unfold i32; omega) (by unfold i32; omega)).mp e
        omega
      obtain ⟨pA', pB', F, m1, m2⟩ := sort8_in h (i := c + 1) (by omega) (f := SO t n s (c + 1)) (z := s (c + 1)) (hs _ (by omega)) (SO_mem (P := SB t n) (c + 1) (fun j hj => hs j (by omega))) (pA := S2) (pB := S3) (fun x hx => k1 x hx (by omega)) (k2 (c + 1) (Nat.le_refl _) (by omega))
      unfold f_X8_layParts_L112 f_X8_layParts_K125_221
      dsimp only
      rw [if_neg c1, show io ((c : Int) + 1) = io ((c + 1 : Nat) : Int) from rfl, F]
      simp only [Option.bind_some]
      rw [io_1]
      refine ⟨_, rfl, rfl, fun x hx _ => m1 x hx, fun x h1 h2 => ?_⟩
      dsimp only
      obtain ⟨a1, a2⟩ := m2 x (by omega)
      rw [a1, a2]
      exact k2 x (by omega) h2
    · rintro ⟨S1, S2, S3⟩ ⟨e, k1, k2⟩
      dsimp only at e k1 k2
      subst e
      have c1 : io (m : Int) ≤ io (((m - 1 : Nat) : Int) + 1) := (io_le (by unfold i32; omega) (by unfold i32; omega)).mpr (by omega)
      unfold f_X8_layParts_L112
      dsimp only
      rw [if_pos c1]
      refine ⟨_, rfl, fun x hx => ?_⟩
      have := k1 x (by omega) hx
      rw [show m - 1 + 1 = m by omega] at this
      exact this
    · intro x hx hxm
      have : x = 0 := by omega
      subst this
      dsimp only
      have e : SO t n s (0 + 1) 0 = s 0 := by
        show ins t n (s 0) s 0 0 = s 0
        unfold ins
        have : posn t n (s 0) s 0 = 0 := rfl
        rw [this, if_neg (by omega), if_pos rfl]
      rw [e]
      exact hp 0 hxm
  obtain ⟨⟨r1, r2⟩, e, hr⟩ := key
  exact ⟨r1, r2, e, hr⟩
