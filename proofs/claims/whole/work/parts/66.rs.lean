/-! the state after all d below a bound -/
noncomputable def LYf (t n d : Int) : G2 := @dite G2 (∃ y, LY t n d y) (Classical.propDecidable _) (fun h => h.choose) (fun _ => (0, 0))
theorem LYf_eq {t n d : Int} {y : G2} (h : LY t n d y) : LYf t n d = y := by
  have h2 : ∃ y, LY t n d y := ⟨y, h⟩
  unfold LYf
  rw [dif_pos h2]
  exact LY_u h2.choose_spec h
noncomputable def RS (k : Nat) (x : G2) : Nat → ST
  | 0 => (x, 0, fun _ => (0, 0))
  | d + 1 => if 2 ≤ d then TKs k (d : Int) (LYf (kT k) (kN k) (d : Int)) 40 (RS k x d) else RS k x d
def JJ (k : Nat) (x : G2) (d : Nat) : Prop := GD2 k x (RS k x d) ∧ ∀ e : Int, 2 ≤ e → e < (d : Int) → ¬ e ∣ zs (kT k) (kN k) (RS k x d).1
theorem RS_2 (k : Nat) (x : G2) : RS k x 2 = (x, 0, fun _ => (0, 0)) := rfl
theorem JJ_2 {k : Nat} {x : G2} (hb : SB (kT k) (kN k) x) (h1 : 1 ≤ zs (kT k) (kN k) x) : JJ k x 2 := by
  unfold JJ
  rw [RS_2]
  refine ⟨⟨hb, h1, fun j hj => by dsimp only at hj; omega, ?_⟩, fun e h1 h2 => by omega⟩
  show x = mu (kT k) (kN k) x (1, 0)
  rw [mu_comm, mu_1]
theorem JJ_no {k : Nat} {x : G2} {d : Nat} (h2 : 2 ≤ d) (J : JJ k x d) (hn : ¬ (d : Int) ∣ zs (kT k) (kN k) (RS k x d).1) : RS k x (d + 1) = RS k x d ∧ JJ k x (d + 1) := by
  have e : RS k x (d + 1) = RS k x d := by
    show (if 2 ≤ d then _ else _) = _
    rw [if_pos h2, TKs_no hn]
  refine ⟨e, ?_⟩
  unfold JJ
  rw [e]
  refine ⟨J.1, fun e' h1 h3 => ?_⟩
  by_cases q : e' = (d : Int)
  · rw [q]; exact hn
  · exact J.2 e' h1 (by omega)
