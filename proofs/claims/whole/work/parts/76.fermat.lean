/-! powers, residues by a prime, their order -/
def cgr (t n : Int) (z x y : G2) : Prop := DV t n z (sb x y)
theorem cgr_rf (t n : Int) (z x : G2) : cgr t n z x x := by
  have e : sb x x = (0, 0) := by
    unfold sb
    exact Prod.ext (Int.sub_self _) (Int.sub_self _)
  unfold cgr
  rw [e]
  exact DV_0 t n z
theorem cgr_sy {t n : Int} {z x y : G2} (h : cgr t n z x y) : cgr t n z y x := by
  obtain ⟨p, e⟩ := h
  have e1 := congrArg Prod.fst e
  have e2 := congrArg Prod.snd e
  refine ⟨(-p.1, -p.2), ?_⟩
  unfold mu sb mA mB at *
  dsimp only at *
  refine Prod.ext ?_ ?_ <;> dsimp only <;> grind
theorem cgr_tr {t n : Int} {z x y w : G2} (h : cgr t n z x y) (g : cgr t n z y w) : cgr t n z x w := by
  have a := DV_ad h g
  have e : ad (sb x y) (sb y w) = sb x w := by
    unfold ad sb
    exact Prod.ext (by dsimp only; omega) (by dsimp only; omega)
  rw [e] at a
  exact a
theorem cgr_mu {t n : Int} {z x y a b : G2} (h : cgr t n z x y) (g : cgr t n z a b) : cgr t n z (mu t n x a) (mu t n y b) := by
  have e : sb (mu t n x a) (mu t n y b) = ad (mu t n (sb x y) a) (mu t n (sb a b) y) := by
    refine Prod.ext ?_ ?_ <;> (unfold sb ad mu mA mB; dsimp only; grind)
  unfold cgr
  rw [e]
  exact DV_ad (DV_mu' h a) (DV_mu' g y)
theorem cgr_of {t n : Int} {z x y : G2} (e : x = y) : cgr t n z x y := by rw [e]; exact cgr_rf t n z y
theorem cgr_0 {t n : Int} {z x : G2} : cgr t n z x (0, 0) ↔ DV t n z x := by
  have e : sb x (0, 0) = x := by
    unfold sb
    exact Prod.ext (Int.sub_zero _) (Int.sub_zero _)
  unfold cgr
  rw [e]
theorem cgr_DV {t n : Int} {z x y : G2} (h : cgr t n z x y) (g : DV t n z y) : DV t n z x := cgr_0.mp (cgr_tr h (cgr_0.mpr g))
def pwr (t n : Int) (x : G2) : Nat → G2
  | 0 => (1, 0)
  | k + 1 => mu t n x (pwr t n x k)
theorem pwr_ad (t n : Int) (x : G2) (a b : Nat) : pwr t n x (a + b) = mu t n (pwr t n x a) (pwr t n x b) := by
  induction a with
  | zero => rw [Nat.zero_add]; exact (mu_1 t n _).symm
  | succ a ih =>
    rw [Nat.add_right_comm]
    show mu t n x (pwr t n x (a + b)) = mu t n (mu t n x (pwr t n x a)) (pwr t n x b)
    rw [ih, mu_assoc]
theorem pwr_pw (t n : Int) (x : G2) (a b : Nat) : pwr t n x (a * b) = pwr t n (pwr t n x a) b := by
  induction b with
  | zero => rfl
  | succ b ih =>
    rw [Nat.mul_succ, pwr_ad, ih, mu_comm]
    rfl
theorem pwr_mu (t n : Int) (x y : G2) (k : Nat) : pwr t n (mu t n x y) k = mu t n (pwr t n x k) (pwr t n y k) := by
  induction k with
  | zero => exact (mu_1 t n _).symm
  | succ k ih =>
    show mu t n (mu t n x y) (pwr t n (mu t n x y) k) = mu t n (mu t n x (pwr t n x k)) (mu t n y (pwr t n y k))
    rw [ih, mu_assoc, mu_assoc, ← mu_assoc t n y, mu_comm t n y, mu_assoc]
theorem pwr_1 (t n : Int) (k : Nat) : pwr t n (1, 0) k = (1, 0) := by
  induction k with
  | zero => rfl
  | succ k ih =>
    show mu t n (1, 0) (pwr t n (1, 0) k) = _
    rw [ih, mu_1]
theorem pwr_one (t n : Int) (x : G2) : pwr t n x 1 = x := by
  show mu t n x (1, 0) = x
  rw [mu_comm, mu_1]
theorem cgr_pw {t n : Int} {z x y : G2} (h : cgr t n z x y) (k : Nat) : cgr t n z (pwr t n x k) (pwr t n y k) := by
  induction k with
  | zero => exact cgr_rf t n z _
  | succ k ih => exact cgr_mu h ih
theorem zs_1 (t n : Int) : zs t n (1, 0) = 1 := by
  unfold zs sz
  dsimp only
  omega
theorem pri_1 {t n : Int} {z : G2} (hz : PRI t n z) : ¬ DV t n z (1, 0) := fun hd => by
  have e := DV_zs hd
  rw [zs_1] at e
  have := Int.le_of_dvd (by omega) e
  have := hz.1
  omega
theorem pri_pw {t n : Int} (h : TN t n) {z : G2} (hz : PRI t n z) {x : G2} : ∀ k, DV t n z (pwr t n x k) → DV t n z x := by
  intro k
  induction k with
  | zero => exact fun hd => absurd hd (pri_1 hz)
  | succ k ih =>
    intro hd
    rcases pri_dv h hz hd with q | q
    · exact q
    · exact ih q
/-- products over lists -/
def lp (t n : Int) (g : Nat → G2) : List Nat → G2
  | [] => (1, 0)
  | i :: l => mu t n (g i) (lp t n g l)
theorem lp_perm {t n : Int} {g : Nat → G2} {l l' : List Nat} (h : l.Perm l') : lp t n g l = lp t n g l' := by
  induction h with
  | nil => rfl
  | cons x _ ih =>
    show mu t n (g x) _ = mu t n (g x) _
    rw [ih]
  | swap x y l =>
    show mu t n (g y) (mu t n (g x) _) = mu t n (g x) (mu t n (g y) _)
    rw [← mu_assoc, ← mu_assoc, mu_comm t n (g y)]
  | trans _ _ a b => exact a.trans b
theorem pgn : ∀ (L R : List Nat), L.Nodup → (∀ x, x ∈ L → x ∈ R) → R.length ≤ L.length → L.Perm R
  | [], R, _, _, h => by
    cases R with
    | nil => exact List.Perm.nil
    | cons a R =>
      rw [List.length_cons, List.length_nil] at h
      omega
  | a :: L, R, nd, hs, h => by
    have ha := hs a List.mem_cons_self
    have nd' := List.nodup_cons.mp nd
    have p := List.perm_cons_erase ha
    refine List.Perm.trans (List.Perm.cons a (pgn L (R.erase a) nd'.2 ?_ ?_)) p.symm
    · intro x hx
      have ne : ¬ x = a := fun e => nd'.1 (by rw [← e]; exact hx)
      exact (List.mem_erase_of_ne ne).mpr (hs x (List.mem_cons_of_mem _ hx))
    · rw [List.length_erase_of_mem ha]
      rw [List.length_cons] at h
      omega
def rsy (t n : Int) (z : G2) (N : Nat) (g : Nat → G2) : Prop := (∀ x, ∃ i, i < N ∧ cgr t n z x (g i)) ∧ (∀ i j, i < N → j < N → cgr t n z (g i) (g j) → i = j) ∧ g 0 = (0, 0) ∧ 1 ≤ N
theorem lp_dv {t n : Int} (h : TN t n) {z : G2} (hz : PRI t n z) {g : Nat → G2} : ∀ l : List Nat, DV t n z (lp t n g l) → ∃ i, i ∈ l ∧ DV t n z (g i)
  | [], hd => absurd hd (pri_1 hz)
  | i :: l, hd => by
    rcases pri_dv h hz hd with q | q
    · exact ⟨i, List.mem_cons_self, q⟩
    · obtain ⟨j, h1, h2⟩ := lp_dv h hz l q
      exact ⟨j, List.mem_cons_of_mem _ h1, h2⟩
theorem lp_map {t n : Int} {z y : G2} {g : Nat → G2} {σ : Nat → Nat} : ∀ l : List Nat, (∀ i, i ∈ l → cgr t n z (mu t n y (g i)) (g (σ i))) → cgr t n z (mu t n (pwr t n y l.length) (lp t n g l)) (lp t n g (l.map σ))
  | [], _ => cgr_of (mu_1 t n _)
  | i :: l, hs => by
    have a := lp_map l (fun j hj => hs j (List.mem_cons_of_mem _ hj))
    have b := cgr_mu (hs i List.mem_cons_self) a
    have e : mu t n (mu t n y (pwr t n y l.length)) (mu t n (g i) (lp t n g l)) = mu t n (mu t n y (g i)) (mu t n (pwr t n y l.length) (lp t n g l)) := by
      rw [mu_assoc, mu_assoc, ← mu_assoc t n (pwr t n y l.length) (g i), mu_comm t n (pwr t n y l.length) (g i), mu_assoc]
    exact cgr_tr (cgr_of e) b
theorem fermat {t n : Int} (h : TN t n) {z : G2} (hz : PRI t n z) {N : Nat} {g : Nat → G2} (r : rsy t n z N g) {y : G2} (hy : ¬ DV t n z y) : cgr t n z (pwr t n y (N - 1)) (1, 0) := by
  obtain ⟨r1, r2, r3, r4⟩ := r
  have hs : ∀ i, ∃ j, j < N ∧ cgr t n z (mu t n y (g i)) (g j) := fun i => r1 _
  have gz : ∀ i, 1 ≤ i → i < N → ¬ DV t n z (g i) := fun i h1 h2 hd => by
    have := r2 i 0 h2 (by omega) (by rw [r3]; exact cgr_0.mpr hd)
    omega
  obtain ⟨σ, hσ⟩ : ∃ σ : Nat → Nat, ∀ i, σ i < N ∧ cgr t n z (mu t n y (g i)) (g (σ i)) := ⟨fun i => (hs i).choose, fun i => (hs i).choose_spec⟩
  have mem : ∀ i, i ∈ List.range' 1 (N - 1) → 1 ≤ i ∧ i < N := fun i hi => by
    have := List.mem_range'_1.mp hi
    omega
  have inj : ∀ i j, i ∈ List.range' 1 (N - 1) → j ∈ List.range' 1 (N - 1) → σ i = σ j → i = j := fun i j hi hj e => by
    have a := (hσ i).2
    rw [e] at a
    have b := cgr_tr a (cgr_sy (hσ j).2)
    have c : sb (mu t n y (g i)) (mu t n y (g j)) = mu t n (sb (g i) (g j)) y := by rw [mu_sb, mu_comm t n y, mu_comm t n y]
    unfold cgr at b
    rw [c] at b
    rcases pri_dv h hz b with q | q
    · exact r2 i j (mem i hi).2 (mem j hj).2 q
    · exact absurd q hy
  have nd : ((List.range' 1 (N - 1)).map σ).Nodup := by
    unfold List.Nodup
    rw [List.pairwise_map]
    exact List.Pairwise.imp_of_mem (fun ha hb hne e => hne (inj _ _ ha hb e)) (List.nodup_range' (step := 1))
  have sub : ∀ x, x ∈ (List.range' 1 (N - 1)).map σ → x ∈ List.range' 1 (N - 1) := fun x hx => by
    obtain ⟨i, hi, rfl⟩ := List.mem_map.mp hx
    have b := (hσ i).1
    have c : ¬ σ i = 0 := fun e => by
      have a := (hσ i).2
      rw [e, r3] at a
      rcases pri_dv h hz (cgr_0.mp a) with q | q
      · exact hy q
      · exact gz i (mem i hi).1 (mem i hi).2 q
    exact List.mem_range'_1.mpr (by omega)
  have P := lp_perm (t := t) (n := n) (g := g) (pgn _ _ nd sub (by rw [List.length_map]; exact Nat.le_refl _))
  have M := lp_map (List.range' 1 (N - 1)) (fun i _ => (hσ i).2)
  rw [P, List.length_range'] at M
  unfold cgr at M
  generalize pwr t n y (N - 1) = Y at *
  have e : sb (mu t n Y (lp t n g (List.range' 1 (N - 1)))) (lp t n g (List.range' 1 (N - 1))) = mu t n (sb Y (1, 0)) (lp t n g (List.range' 1 (N - 1))) := by rw [mu_sb, mu_1]
  rw [e] at M
  rcases pri_dv h hz M with q | q
  · exact q
  · obtain ⟨i, h1, h2⟩ := lp_dv h hz _ q
    exact absurd h2 (gz i (mem i h1).1 (mem i h1).2)
