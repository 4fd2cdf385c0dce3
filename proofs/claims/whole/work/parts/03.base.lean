/-! my own base: loops as values, trees of choices, calls that write nothing and calls that write -/
def itr {σ ρ : Type} (b : σ → Option (σ ⊕ ρ)) : Nat → σ → Option ρ
  | 0, _ => none
  | k + 1, s => match b s with
    | none => none
    | some (.inl t) => itr b k t
    | some (.inr r) => some r
def itz {σ ρ : Type} (b : σ → Option (σ ⊕ ρ)) (k : Nat) (r : ρ) (z : σ ⊕ ρ) : Prop := match z with
  | .inl t => itr b k t = some r
  | .inr q => q = r
theorem itr_0 {σ ρ : Type} {b : σ → Option (σ ⊕ ρ)} {s : σ} {r : ρ} {P : Prop} (h : itr b 0 s = some r) : P := by cases h
theorem itr_in {σ ρ : Type} {b : σ → Option (σ ⊕ ρ)} {k : Nat} {s : σ} {r : ρ} (h : itr b (k + 1) s = some r) : ∃ z, b s = some z ∧ itz b k r z := by
  unfold itr at h
  split at h
  · cases h
  · rename_i t e
    exact ⟨_, e, h⟩
  · rename_i q e
    exact ⟨_, e, Option.some.inj h⟩
theorem itz_l {σ ρ : Type} {b : σ → Option (σ ⊕ ρ)} {k : Nat} {r : ρ} {z : σ ⊕ ρ} {t : σ} (h : some (Sum.inl t) = some z) (hz : itz b k r z) : itr b k t = some r := by
  cases h
  exact hz
theorem itz_r {σ ρ : Type} {b : σ → Option (σ ⊕ ρ)} {k : Nat} {r : ρ} {z : σ ⊕ ρ} {q : ρ} (h : some (Sum.inr q) = some z) (hz : itz b k r z) : q = r := by
  cases h
  exact hz
theorem itr_one {σ ρ : Type} (b : σ → Option (σ ⊕ ρ)) : ∀ (k j : Nat) (s : σ) (r q : ρ), itr b k s = some r → itr b j s = some q → r = q := by
  intro k
  induction k with
  | zero => intro j s r q h; cases h
  | succ k ih =>
    intro j s r q h g
    cases j with
    | zero => cases g
    | succ j =>
      obtain ⟨z, e1, h1⟩ := itr_in h
      obtain ⟨y, e2, h2⟩ := itr_in g
      cases e1.symm.trans e2
      cases z with
      | inl t => exact ih j t r q h1 h2
      | inr w => exact (show w = r from h1).symm.trans h2
noncomputable def whl {σ ρ : Type} (b : σ → Option (σ ⊕ ρ)) (s : σ) : Option ρ := @dite (Option ρ) (∃ k r, itr b k s = some r) (Classical.propDecidable _) (fun h => some (Classical.choose (Classical.choose_spec h))) (fun _ => none)
theorem whl_of {σ ρ : Type} {b : σ → Option (σ ⊕ ρ)} {k : Nat} {s : σ} {r : ρ} (h : itr b k s = some r) : whl b s = some r := by
  have hx : ∃ k r, itr b k s = some r := ⟨k, r, h⟩
  unfold whl
  rw [dif_pos hx]
  exact congrArg some (itr_one b _ _ s _ _ (Classical.choose_spec (Classical.choose_spec hx)) h)
theorem whl_ex {σ ρ : Type} {b : σ → Option (σ ⊕ ρ)} {s : σ} {r : ρ} (h : whl b s = some r) : ∃ k, itr b k s = some r := by
  unfold whl at h
  split at h
  · rename_i hx
    cases h
    exact ⟨_, Classical.choose_spec (Classical.choose_spec hx)⟩
  · cases h
theorem whl_l {σ ρ : Type} {b : σ → Option (σ ⊕ ρ)} {s t : σ} (h : b s = some (.inl t)) : whl b s = whl b t := by
  cases e : whl b t with
  | some r =>
    obtain ⟨k, hk⟩ := whl_ex e
    exact whl_of (k := k + 1) (by unfold itr; rw [h]; exact hk)
  | none =>
    cases e2 : whl b s with
    | none => rfl
    | some r =>
      obtain ⟨k, hk⟩ := whl_ex e2
      cases k with
      | zero => cases hk
      | succ k =>
        unfold itr at hk
        rw [h] at hk
        rw [whl_of hk] at e
        cases e
theorem whl_r {σ ρ : Type} {b : σ → Option (σ ⊕ ρ)} {s : σ} {r : ρ} (h : b s = some (.inr r)) : whl b s = some r := whl_of (k := 1) (by unfold itr; rw [h])
theorem whl_b {σ ρ τ : Type} {b : σ → Option (σ ⊕ ρ)} {s : σ} {f : ρ → Option τ} {z : τ} (h : (whl b s).bind f = some z) : ∃ (x : ρ) (k : Nat), itr b k s = some x ∧ f x = some z := by
  cases e : whl b s with
  | none => rw [e] at h; cases h
  | some x =>
    rw [e] at h
    obtain ⟨k, hk⟩ := whl_ex e
    exact ⟨x, k, hk, h⟩
theorem it_t {c : Prop} [Decidable c] {α : Type} {a b r : α} (h : c) (e : (if c then a else b) = r) : a = r := by rw [if_pos h] at e; exact e
theorem it_f {c : Prop} [Decidable c] {α : Type} {a b r : α} (h : ¬ c) (e : (if c then a else b) = r) : b = r := by rw [if_neg h] at e; exact e
theorem it_n {c : Prop} [Decidable c] {α : Type} {a : Option α} {r : α} (e : (if c then none else a) = some r) : ¬ c ∧ a = some r := by
  by_cases h : c
  · rw [if_pos h] at e; cases e
  · rw [if_neg h] at e; exact ⟨h, e⟩
theorem bd_s {α β : Type} {x : Option α} {f : α → Option β} {r : β} (h : x.bind f = some r) : ∃ y, x = some y ∧ f y = some r := by
  cases x with
  | none => cases h
  | some y => exact ⟨y, rfl, h⟩
/-- the links of private members among nest mates: what the tables say of each, kept by every call -/
def nwl : List Cond := [.fieldLinkNest "PlaneWholes$Leaping" 38 "PlaneWholes$Net" "units" "I" "PlaneWholes", .fieldLinkNest "PlaneWholes" 79 "PlaneWholes$Net" "units" "I" "PlaneWholes", .fieldLinkNest "PlaneWholes$Leaping" 41 "PlaneWholes$Net" "spin" "J" "PlaneWholes", .fieldLinkNest "PlaneWholes$Residues" 47 "PlaneWholes$Making" "common" "J" "PlaneWholes", .fieldLinkNest "PlaneWholes$Residues" 50 "PlaneWholes$Making" "u" "J" "PlaneWholes", .fieldLinkNest "PlaneWholes" 144 "PlaneWholes$Making" "u" "J" "PlaneWholes", .fieldLinkNest "PlaneWholes" 151 "PlaneWholes$Making" "v" "J" "PlaneWholes", .fieldLinkNest "PlaneWholes" 157 "PlaneWholes$Factors" "count" "I" "PlaneWholes", .fieldLinkNest "PlaneWholes" 160 "PlaneWholes$Factors" "left" "J" "PlaneWholes", .fieldLinkNest "PlaneWholes" 193 "PlaneWholes$Residues" "found" "J" "PlaneWholes", .fieldLinkNest "PlaneWholes" 213 "PlaneWholes$Numerals" "tail" "I" "PlaneWholes", .fieldLinkNest "PlaneWholes" 216 "PlaneWholes$Numerals" "round" "I" "PlaneWholes", .fieldLinkNest "PlaneWholes" 222 "PlaneWholes$Numerals" "rings" "I" "PlaneWholes", .fieldLinkNest "PlaneWholes" 225 "PlaneWholes$Numerals" "ringed" "I" "PlaneWholes", .methodLinkNest "PlaneWholes" 54 yX1_init "PlaneWholes", .fieldLinkNest "PlaneWholes" 280 "PlaneWholes$Flock" "p" "J" "PlaneWholes", .fieldLinkNest "PlaneWholes" 283 "PlaneWholes$Flock" "q" "J" "PlaneWholes", .fieldLinkNest "PlaneWholes" 277 "PlaneWholes$Leaping" "leaps" "[J" "PlaneWholes", .fieldLinkNest "PlaneWholes" 276 "PlaneWholes$Leaping" "count" "I" "PlaneWholes", .methodLinkNest "PlaneWholes$Factors" 37 yX7_divides "PlaneWholes", .methodLinkNest "PlaneWholes$Net" 83 yX7_divides "PlaneWholes", .methodLinkNest "PlaneWholes$Net" 86 yX7_ratio "PlaneWholes", .methodLinkNest "PlaneWholes$Flock" 21 yX7_divides "PlaneWholes", .methodLinkNest "PlaneWholes$Flock" 25 yX7_ratio "PlaneWholes", .methodLinkNest "PlaneWholes$Flock" 52 yX7_gcd "PlaneWholes"]
def NW (U : State) : Prop := ∀ w ∈ nwl, va_Nw w U
theorem nwl_t : ∀ w ∈ nwl, w.onTables = true := by decide +kernel
theorem NW.same {u U : State} (h : u.vm = U.vm) (hZ : NW u) : NW U := fun w hw => va_Nw.same (nwl_t w hw) h (hZ w hw)
theorem NW.warm {s U : State} (hW : s.WarmedH U.vm) (hZ : NW s) : NW U := by
  intro w hw
  have h0 := hZ w hw
  simp only [nwl, List.mem_cons, List.not_mem_nil, or_false] at hw
  rcases hw with rfl | rfl | rfl | rfl | rfl | rfl | rfl | rfl | rfl | rfl | rfl | rfl | rfl | rfl | rfl | rfl | rfl | rfl | rfl | rfl | rfl | rfl | rfl | rfl | rfl
  all_goals first | exact va_Nw.warmF hW h0 | exact va_Nw.warmM hW h0
theorem NW.use {w : Cond} {U : State} {A : Array Value} (k : Nat) (hk : nwl[k]? = some w) (h : NW U) : w.before A U = true := va_Nw.use (nwl_t w (List.mem_of_getElem? hk)) (h w (List.mem_of_getElem? hk))
/-- what a method needs that writes nothing; its end -/
def px (D : va_G) (ws : va_W) (tys : List (ClassId × FieldType)) (U : State) : Prop := va_P D vwCl ws U.heap ∧ va_K D vwCl tys U ∧ NW U
def gq_i (v : Int32) : Array Value → State → Outcome → State → Prop := fun _ st oc t => oc = .returned (some (.int v)) ∧ t.heap = st.heap
def gq_l (v : Int64) : Array Value → State → Outcome → State → Prop := fun _ st oc t => oc = .returned (some (.long v)) ∧ t.heap = st.heap
/-- what a method needs that writes; its end -/
def pw (D : va_G) (ws : va_W) (tys : List (ClassId × FieldType)) (sz : Nat) (U : State) : Prop := U.heap.size = sz ∧ va_P D vwCl ws U.heap ∧ va_K D vwCl tys U ∧ va_D (fun _ => True) ws ∧ NW U
def gB (D : va_G) (wc w1 : va_W) (sz : Nat) (_ : Unit) (t : State) : Prop := va_P D vwCl w1 t.heap ∧ va_D (va_A wc sz) w1
def gw_i (D : va_G) (wc w1 : va_W) (sz : Nat) (v : Int32) : Array Value → State → Outcome → State → Prop := va_Qi (fun r (_ : Unit) => r = v) (gB D wc w1 sz) (va_A wc sz)
def gw_l (D : va_G) (wc w1 : va_W) (sz : Nat) (v : Int64) : Array Value → State → Outcome → State → Prop := va_Ql (fun r (_ : Unit) => r = v) (gB D wc w1 sz) (va_A wc sz)
def gw_v (D : va_G) (wc w1 : va_W) (sz : Nat) : Array Value → State → Outcome → State → Prop := va_Qv (fun (_ : Unit) => True) (gB D wc w1 sz) (va_A wc sz)
theorem fb_p {av : List Value} {D : va_G} {ws : va_W} {tys : List (ClassId × FieldType)} : FrameBlind (va_Pc av (px D ws tys)) := fun a U g mk q => by
  obtain ⟨q0, qP, qK, qN⟩ := q
  exact ⟨q0, qP, va_K.moved (u := U) (U := U.calling g mk a) (Vm.Alike.refl U.vm) qK, NW.same (u := U) (U := U.calling g mk a) rfl qN⟩
theorem fb_w {av : List Value} {D : va_G} {ws : va_W} {tys : List (ClassId × FieldType)} {sz : Nat} : FrameBlind (va_Pc av (pw D ws tys sz)) := fun a U g mk q => by
  obtain ⟨q0, q1, qP, qK, qD, qN⟩ := q
  exact ⟨q0, q1, qP, va_K.moved (u := U) (U := U.calling g mk a) (Vm.Alike.refl U.vm) qK, qD, NW.same (u := U) (U := U.calling g mk a) rfl qN⟩
theorem pre_p {av : List Value} {D : va_G} {wc : va_W} {tc : List (ClassId × FieldType)} {s : State} {H : Heap} (hP : va_P D vwCl wc H) (hK : va_K D vwCl tc s) (hN : NW s) : ∀ U : State, U.heap = H → s.WarmedH U.vm → va_Pc av (px D wc tc) av.toArray U :=
  fun U hU hW => ⟨rfl, by rw [hU]; exact hP, va_K.moved hW.alike hK, NW.warm hW hN⟩
theorem pre_w {av : List Value} {D : va_G} {A : Nat → Prop} {wc : va_W} {tc : List (ClassId × FieldType)} {s : State} {H : Heap} (hP : va_P D vwCl wc H) (hD : va_D A wc) (hK : va_K D vwCl tc s) (hN : NW s) : ∀ U : State, U.heap = H → s.WarmedH U.vm → va_Pc av (pw D wc tc H.size) av.toArray U :=
  fun U hU hW => ⟨rfl, by rw [hU], by rw [hU]; exact hP, va_K.moved hW.alike hK, hD.weaken (fun _ _ _ _ => trivial), NW.warm hW hN⟩
section
variable {p : Program} {l : Launch} {e : Env} {R : Room} {s : State} {m : MethodId} {args : Array Value} {below : List Frame} {meth : Method} {c : Code} {H : Heap} {locs : List Loc} {cells slots : Nat} {Q : State → Prop}
variable {pc : Nat} {ls : Array Slot} {rest st0 : List Value} {a : Array Value} {A0 : Nat → Prop} {H0 : Heap} {D : va_G} {ws ws' wc wr w1 : va_W}
/-- a name for the goal at any heap and any frame -/
theorem wg {g : JFrame} (k : ∀ WG : Heap → List Loc → JFrame → Prop, (∀ H locs g, W p l e R s m args below meth c H locs cells slots Q g → WG H locs g) → (∀ H locs g, WG H locs g → W p l e R s m args below meth c H locs cells slots Q g) → WG H locs g) : W p l e R s m args below meth c H locs cells slots Q g :=
  k (fun H locs g => W p l e R s m args below meth c H locs cells slots Q g) (fun _ _ _ h => h) (fun _ _ _ h => h)
theorem wH {g : JFrame} (k : ∀ (H' : Heap) (L' : List Loc), H' = H → L' = locs → W p l e R s m args below meth c H' L' cells slots Q g) : W p l e R s m args below meth c H locs cells slots Q g := k H locs rfl rfl
theorem kp_i {v : Int32} (hr : va_Run p l e R s m args below meth c H locs cells slots 0 0 (F0 m pc ls st0) rest (gq_i v a) (fun _ => False))
    (kk : W p l e R s m args below meth c H locs cells slots Q (F0 m (pc + 3) ls (.int v :: rest))) : W p l e R s m args below meth c H locs cells slots Q (F0 m pc ls st0) := by
  intro T hT X
  obtain ⟨v', st₀, t, T', L, h0, X', hL, e1, e2, ⟨hv, hh⟩, st⟩ := hr T hT X
  cases hv
  have hL0 : L = [] := by
    cases L with
    | nil => rfl
    | cons q L => exact (hL q List.mem_cons_self).elim
  subst hL0
  rw [List.append_nil] at X'
  obtain ⟨t2, a1, b1⟩ := kk T' (by rw [e1, hh, h0]) X'
  exact ⟨t2, st t2 a1, b1⟩
theorem kp_l {v : Int64} (hr : va_Run p l e R s m args below meth c H locs cells slots 0 0 (F0 m pc ls st0) rest (gq_l v a) (fun _ => False))
    (kk : W p l e R s m args below meth c H locs cells slots Q (F0 m (pc + 3) ls (.long v :: rest))) : W p l e R s m args below meth c H locs cells slots Q (F0 m pc ls st0) := by
  intro T hT X
  obtain ⟨v', st₀, t, T', L, h0, X', hL, e1, e2, ⟨hv, hh⟩, st⟩ := hr T hT X
  cases hv
  have hL0 : L = [] := by
    cases L with
    | nil => rfl
    | cons q L => exact (hL q List.mem_cons_self).elim
  subst hL0
  rw [List.append_nil] at X'
  obtain ⟨t2, a1, b1⟩ := kk T' (by rw [e1, hh, h0]) X'
  exact ⟨t2, st t2 a1, b1⟩
theorem kw_back {t : State} {H1 : Heap} (hP : va_P D vwCl ws H) (hD : va_D A0 ws) (hS : va_S A0 H0 H locs) (hA : ∀ q, H0.size ≤ q → A0 q) (isC isR perm : List Nat) (hC : isC.map (fun i => ws[i]?) = wc.map some) (hR : isR.map (fun i => ws[i]?) = wr.map some) (hn : va_nd isR = true) (hdis : ∀ i ∈ isR, i ∉ isC) (hp : perm.map (fun i => (wr ++ w1)[i]?) = ws'.map some) (hpf : perm.filterMap (fun i => (wr ++ w1)[i]?) = ws') (hpn : va_nd perm = true)
    (ht : t.heap = H1) (hB : gB D wc w1 H.size () t) (hk : ∀ q : Nat, q < H.size → ¬ va_A wc H.size q → H1[q]? = H[q]?) : va_P D vwCl ws' H1 ∧ va_D A0 ws' := by
  obtain ⟨hP1, hD1⟩ := hB
  rw [ht] at hP1
  obtain ⟨hP2, hD2⟩ := va_join (wr := wr) (w1 := w1) hP hD isC isR hC hR hn hdis hk (va_free (wc := wc) hD hS hA isC hC) hP1 hD1
  exact ⟨hP2.sub perm hpf, hD2.sub perm hpn hp⟩
theorem kw_i {v : Int32} (hr : va_Run p l e R s m args below meth c H locs cells slots 0 0 (F0 m pc ls st0) rest (gw_i D wc w1 H.size v a) (va_A wc H.size)) (hP : va_P D vwCl ws H) (hD : va_D A0 ws) (hS : va_S A0 H0 H locs) (hA : ∀ q, H0.size ≤ q → A0 q) (isC isR perm : List Nat) (hC : isC.map (fun i => ws[i]?) = wc.map some) (hR : isR.map (fun i => ws[i]?) = wr.map some) (hn : va_nd isR = true) (hdis : ∀ i ∈ isR, i ∉ isC) (hp : perm.map (fun i => (wr ++ w1)[i]?) = ws'.map some) (hpf : perm.filterMap (fun i => (wr ++ w1)[i]?) = ws') (hpn : va_nd perm = true)
    (kk : ∀ (H1 : Heap) (locs1 : List Loc), va_P D vwCl ws' H1 → va_D A0 ws' → va_S A0 H0 H1 locs1 → W p l e R s m args below meth c H1 locs1 cells slots Q (F0 m (pc + 3) ls (.int v :: rest))) : W p l e R s m args below meth c H locs cells slots Q (F0 m pc ls st0) := by
  refine va_calli hr hS (fun q _ h => va_free (wc := wc) hD hS hA isC hC q h) (va_free (wc := wc) hD hS hA isC hC) (fun r u t H1 locs1 ht hvm hw hB hz1 hk1 hS1 => ?_)
  subst hw
  obtain ⟨h1, h2⟩ := kw_back hP hD hS hA isC isR perm hC hR hn hdis hp hpf hpn ht hB hk1
  exact kk H1 locs1 h1 h2 hS1
theorem kw_l {v : Int64} (hr : va_Run p l e R s m args below meth c H locs cells slots 0 0 (F0 m pc ls st0) rest (gw_l D wc w1 H.size v a) (va_A wc H.size)) (hP : va_P D vwCl ws H) (hD : va_D A0 ws) (hS : va_S A0 H0 H locs) (hA : ∀ q, H0.size ≤ q → A0 q) (isC isR perm : List Nat) (hC : isC.map (fun i => ws[i]?) = wc.map some) (hR : isR.map (fun i => ws[i]?) = wr.map some) (hn : va_nd isR = true) (hdis : ∀ i ∈ isR, i ∉ isC) (hp : perm.map (fun i => (wr ++ w1)[i]?) = ws'.map some) (hpf : perm.filterMap (fun i => (wr ++ w1)[i]?) = ws') (hpn : va_nd perm = true)
    (kk : ∀ (H1 : Heap) (locs1 : List Loc), va_P D vwCl ws' H1 → va_D A0 ws' → va_S A0 H0 H1 locs1 → W p l e R s m args below meth c H1 locs1 cells slots Q (F0 m (pc + 3) ls (.long v :: rest))) : W p l e R s m args below meth c H locs cells slots Q (F0 m pc ls st0) := by
  refine va_calll hr hS (fun q _ h => va_free (wc := wc) hD hS hA isC hC q h) (va_free (wc := wc) hD hS hA isC hC) (fun r u t H1 locs1 ht hvm hw hB hz1 hk1 hS1 => ?_)
  subst hw
  obtain ⟨h1, h2⟩ := kw_back hP hD hS hA isC isR perm hC hR hn hdis hp hpf hpn ht hB hk1
  exact kk H1 locs1 h1 h2 hS1
theorem kw_v (hr : va_Run p l e R s m args below meth c H locs cells slots 0 0 (F0 m pc ls st0) rest (gw_v D wc w1 H.size a) (va_A wc H.size)) (hP : va_P D vwCl ws H) (hD : va_D A0 ws) (hS : va_S A0 H0 H locs) (hA : ∀ q, H0.size ≤ q → A0 q) (isC isR perm : List Nat) (hC : isC.map (fun i => ws[i]?) = wc.map some) (hR : isR.map (fun i => ws[i]?) = wr.map some) (hn : va_nd isR = true) (hdis : ∀ i ∈ isR, i ∉ isC) (hp : perm.map (fun i => (wr ++ w1)[i]?) = ws'.map some) (hpf : perm.filterMap (fun i => (wr ++ w1)[i]?) = ws') (hpn : va_nd perm = true)
    (kk : ∀ (H1 : Heap) (locs1 : List Loc), va_P D vwCl ws' H1 → va_D A0 ws' → va_S A0 H0 H1 locs1 → W p l e R s m args below meth c H1 locs1 cells slots Q (F0 m (pc + 3) ls rest)) : W p l e R s m args below meth c H locs cells slots Q (F0 m pc ls st0) := by
  refine va_callv hr hS (fun q _ h => va_free (wc := wc) hD hS hA isC hC q h) (va_free (wc := wc) hD hS hA isC hC) (fun u t H1 locs1 ht hvm hw hB hz1 hk1 hS1 => ?_)
  obtain ⟨h1, h2⟩ := kw_back hP hD hS hA isC isR perm hC hR hn hdis hp hpf hpn ht hB hk1
  exact kk H1 locs1 h1 h2 hS1
end
theorem gw_i_of {A : Nat → Prop} {st t : State} {H : Heap} {locs : List Loc} {D : va_G} {wc w1 : va_W} {v : Int32} {a : Array Value} (hA : A = va_A wc st.heap.size) (hP : va_P D vwCl w1 H) (hD : va_D A w1) (hS : va_S A st.heap H locs) (ht : t.heap = H) : gw_i D wc w1 st.heap.size v a st (.returned (some (.int v))) t := by
  subst hA
  exact ⟨⟨v, (), rfl, rfl, by rw [ht]; exact hP, hD⟩, hS.F ht⟩
theorem gw_l_of {A : Nat → Prop} {st t : State} {H : Heap} {locs : List Loc} {D : va_G} {wc w1 : va_W} {v : Int64} {a : Array Value} (hA : A = va_A wc st.heap.size) (hP : va_P D vwCl w1 H) (hD : va_D A w1) (hS : va_S A st.heap H locs) (ht : t.heap = H) : gw_l D wc w1 st.heap.size v a st (.returned (some (.long v))) t := by
  subst hA
  exact ⟨⟨v, (), rfl, rfl, by rw [ht]; exact hP, hD⟩, hS.F ht⟩
theorem gw_v_of {A : Nat → Prop} {st t : State} {H : Heap} {locs : List Loc} {D : va_G} {wc w1 : va_W} {a : Array Value} (hA : A = va_A wc st.heap.size) (hP : va_P D vwCl w1 H) (hD : va_D A w1) (hS : va_S A st.heap H locs) (ht : t.heap = H) : gw_v D wc w1 st.heap.size a st (.returned none) t := by
  subst hA
  exact ⟨⟨(), rfl, trivial, by rw [ht]; exact hP, hD⟩, hS.F ht⟩
theorem sw_out {x : Int32} {lo hi : Int} (h : ∀ k : Int, lo ≤ k → k ≤ hi → ¬ x.toInt = k) : x.toInt < lo ∨ hi < x.toInt := by
  rcases Int.lt_or_le x.toInt lo with a | a
  · exact Or.inl a
  · rcases Int.lt_or_le hi x.toInt with b | b
    · exact Or.inr b
    · exact absurd rfl (h _ a b)
/-- the two tables of the nets, that nobody writes -/
def net_T : Nat → Int32 := fun j => [0, -1, 0, 1, 1].getD j 0
def net_N : Nat → Int32 := fun j => [1, 1, 2, 2, 3].getD j 0
def ZZ (tT tN : Nat) (A : Nat → Prop) (U : State) (H : Heap) : Prop := va_Z "PlaneWholes$Net" "T" "[I" (.ref tT) A U H ∧ va_T .int tT 5 (fun j => .int (net_T j)) A U H ∧ va_Z "PlaneWholes$Net" "N" "[I" (.ref tN) A U H ∧ va_T .int tN 5 (fun j => .int (net_N j)) A U H
theorem ZZ.moved {tT tN : Nat} {A : Nat → Prop} {u U : State} {H : Heap} (hvm : u.vm.Alike U.vm) (h : ZZ tT tN A u H) : ZZ tT tN A U H := ⟨h.1.moved hvm, h.2.1.moved hvm, h.2.2.1.moved hvm, h.2.2.2.moved hvm⟩
theorem ZZ.kept {tT tN : Nat} {A : Nat → Prop} {U : State} {H H1 : Heap} (h : ZZ tT tN A U H) (hq : ∀ a : Nat, a < H.size → ¬ A a → H1[a]? = H[a]?) : ZZ tT tN A U H1 := ⟨h.1.kept hq, h.2.1.kept hq, h.2.2.1.kept hq, h.2.2.2.kept hq⟩
theorem ZZ.narrow {tT tN : Nat} {A B : Nat → Prop} {U : State} {H : Heap} (h : ZZ tT tN A U H) (hAB : ∀ q, B q → A q) : ZZ tT tN B U H := ⟨h.1.narrow hAB, h.2.1.narrow hAB, h.2.2.1.narrow hAB, h.2.2.2.narrow hAB⟩
def pz (D : va_G) (ws : va_W) (tys : List (ClassId × FieldType)) (sz tT tN : Nat) (U : State) : Prop := pw D ws tys sz U ∧ ZZ tT tN (va_A ws sz) U U.heap
theorem fb_z {av : List Value} {D : va_G} {ws : va_W} {tys : List (ClassId × FieldType)} {sz tT tN : Nat} : FrameBlind (va_Pc av (pz D ws tys sz tT tN)) := fun a U g mk q => by
  obtain ⟨q0, ⟨q1, qP, qK, qD, qN⟩, qZ⟩ := q
  exact ⟨q0, ⟨q1, qP, va_K.moved (u := U) (U := U.calling g mk a) (Vm.Alike.refl U.vm) qK, qD, NW.same (u := U) (U := U.calling g mk a) rfl qN⟩, ZZ.moved (u := U) (U := U.calling g mk a) (Vm.Alike.refl U.vm) qZ⟩
theorem pre_z {av : List Value} {D : va_G} {A : Nat → Prop} {wc : va_W} {tc : List (ClassId × FieldType)} {s : State} {H : Heap} {locs : List Loc} {tT tN : Nat} (hP : va_P D vwCl wc H) (hD : va_D A wc) (hK : va_K D vwCl tc s) (hN : NW s) (hZ : ZZ tT tN A s s.heap) (hS : va_S A s.heap H locs) (hF : ∀ q, va_A wc H.size q → A q) : ∀ U : State, U.heap = H → s.WarmedH U.vm → va_Pc av (pz D wc tc H.size tT tN) av.toArray U :=
  fun U hU hW => ⟨rfl, ⟨by rw [hU], by rw [hU]; exact hP, va_K.moved hW.alike hK, hD.weaken (fun _ _ _ _ => trivial), NW.warm hW hN⟩, by
    rw [hU]
    exact ((hZ.kept (fun a h1 h2 => hS.2.1 a h1 h2)).narrow hF).moved hW.alike⟩
theorem gI {big : List Cond} (ws : List Cond) (ps : List Nat) (hp : ps.map (fun i => big[i]?) = ws.map some) (h : ws.all goodWord = true) : GoodIn big ws := by
  intro w hw
  refine ⟨?_, good_of_word (List.all_eq_true.mp h w hw)⟩
  have h1 : some w ∈ ps.map (fun i => big[i]?) := by rw [hp]; exact List.mem_map_of_mem hw
  obtain ⟨i, -, hi⟩ := List.mem_map.mp h1
  exact List.mem_of_getElem? hi
/-- Math's methods on whole numbers have no row of the machine's own: one pass over its table -/
def mathD : List String := ["(D)D", "(DD)D", "(DDD)D", "(F)F", "(FF)F", "(FFF)F"]
theorem mathR : (Jvm.natives.all fun r => r.cls != "java/lang/Math" || mathD.contains r.desc) = true := by decide +kernel
theorem mathP {x : MethodName} (hc : x.cls = "java/lang/Math") (hd : mathD.contains x.desc = false) : plainFor x = true := by
  unfold plainFor
  rw [Bool.or_eq_true]; right
  rw [Option.isNone_iff_eq_none, NativeRow.find?, List.find?_eq_none]
  intro r hr h
  have := List.all_eq_true.mp mathR r hr
  simp only [Bool.and_eq_true, beq_iff_eq] at h
  rw [h.1.2, h.2, hc, hd] at this
  simp at this
theorem Met_ofM {l : Launch} {y : MethodName} {ws ws' : List Cond} {rm : Room} {Pc : Array Value → State → Prop} {Qc : Array Value → State → Outcome → State → Prop} {mc ms : Nat} {free : Addr → Prop} {cc : ByteArray} {maxL : Nat} {ret : Option FieldType}
    (hy : plainFor y = true) (hw : ws = Cond.code y cc maxL ret :: ws')
    (body : ∀ p e s m args below meth c s₁, BodyLoose p l y (headSpec ws rm) cc maxL ret e s m args below meth c s₁ → c.maxLocals = maxL → Pc args s →
      W p l e (headSpec ws rm).room s m args below meth c s.heap [] 0 0 (MQ below Qc args s mc ms free) (entryFrame m args maxL)) : Met l y ws rm Pc Qc mc ms free := by
  refine MetFree.of_bodySF (code := cc) (maxLocals := maxL) (ret := ret) hy ?_ ?_
  · intro args s m h hn
    obtain ⟨meth, c, h1, h2, h3, h4, h5, h6, -, -⟩ := Cond.code_spec hn (atoms_spec (ws := ws) h _ (by rw [hw]; exact List.mem_cons_self))
    exact ⟨meth, c, h1, h2, h3, h4, h5, h6⟩
  · intro p e s m args below meth c s₁ B hml hP _
    have hh0 : s₁.heap = s.heap := by rw [B.state]; rfl
    obtain ⟨t, a1, o, b1, b2, b3⟩ := body p e s m args below meth c s₁ B hml hP s₁ hh0 (Stand.of_body B)
    exact ⟨t, o, a1, b1, b2, ⟨b3.1, b3.2⟩⟩
theorem bool_nar {v : Int32} (h : ¬ (¬ v = 0 ∧ ¬ v = 1)) : narrow .boolean (.int v) = .int v := by
  by_cases h0 : v = 0
  · subst h0; rfl
  · by_cases h1 : v = 1
    · subst h1; rfl
    · exact absurd ⟨h0, h1⟩ h
theorem nar_i (x : Int32) : narrow .int (.int x) = .int x := rfl
theorem nar_l (x : Int64) : narrow .long (.long x) = .long x := rfl
theorem fit_i (x : Int32) : fits .int (.int x) = true := rfl
theorem fit_l (x : Int64) : fits .long (.long x) = true := rfl

abbrev ce_pw (rA : Nat → Nat) : Nat × va_E := (rA 0, .inr (7, [.ref (rA 1), .ref (rA 2), .ref (rA 3), .ref (rA 4), .ref (rA 6), .ref (rA 7), .ref (rA 9), .ref (rA 10), .ref (rA 11)]))
abbrev ce_net (rA : Nat → Nat) (net_t net_n net_units : Int32) (net_spin : Int64) : Nat × va_E := (rA 1, .inr (4, [.int net_t, .int net_n, .int net_units, .long net_spin]))
abbrev ce_mak (rA : Nat → Nat) (mak_common mak_u mak_v : Int64) : Nat × va_E := (rA 3, .inr (3, [.ref (rA 1), .long mak_common, .long mak_u, .long mak_v]))
abbrev ce_fac (rA : Nat → Nat) (fac_count : Int32) (fac_left : Int64) : Nat × va_E := (rA 4, .inr (0, [.ref (rA 1), .ref (rA 5), .int fac_count, .long fac_left]))
abbrev ce_rsd (rA : Nat → Nat) (rsd_found : Int64) : Nat × va_E := (rA 6, .inr (6, [.ref (rA 1), .ref (rA 3), .long rsd_found]))
abbrev ce_num (rA : Nat → Nat) (num_base : Int64) (num_size num_digitOfW num_tail num_round num_rings num_ringed : Int32) : Nat × va_E := (rA 7, .inr (5, [.ref (rA 1), .ref (rA 8), .long num_base, .int num_size, .int num_digitOfW, .int num_tail, .int num_round, .int num_rings, .int num_ringed]))
abbrev ce_lea (rA : Nat → Nat) (lea_count : Int32) : Nat × va_E := (rA 11, .inr (2, [.ref (rA 1), .ref (rA 12), .ref (rA 13), .ref (rA 14), .ref (rA 15), .int lea_count]))
abbrev ce_mod (rA : Nat → Nat) (mod_t mod_n mod_a mod_b : Int64) (mod_unitMany : Int32) (mod_quotA mod_quotB : Int64) (mod_unitUsed : Int32) (mod_fu mod_fuB mod_fv mod_fvB mod_madeA mod_madeB : Int64) (mod_partMany : Int32) (mod_leftA mod_leftB mod_rootA mod_rootB : Int64) (mod_tail mod_round mod_sum mod_rowMany : Int32) (mod_least : Int64) (mod_leastMany : Int32) (mod_netP mod_netQ mod_netR : Int64) (mod_leapMany : Int32) : Nat × va_E := (rA 0, .inr (8, [.long mod_t, .long mod_n, .ref (rA 1), .ref (rA 2), .long mod_a, .long mod_b, .int mod_unitMany, .ref (rA 3), .ref (rA 4), .long mod_quotA, .long mod_quotB, .int mod_unitUsed, .long mod_fu, .long mod_fuB, .long mod_fv, .long mod_fvB, .long mod_madeA, .long mod_madeB, .int mod_partMany, .ref (rA 5), .ref (rA 6), .long mod_leftA, .long mod_leftB, .long mod_rootA, .long mod_rootB, .int mod_tail, .int mod_round, .int mod_sum, .int mod_rowMany, .ref (rA 7), .ref (rA 8), .ref (rA 9), .long mod_least, .int mod_leastMany, .long mod_netP, .long mod_netQ, .long mod_netR, .int mod_leapMany, .ref (rA 10), .ref (rA 11), .ref (rA 12), .ref (rA 13)]))
abbrev ce_fl (af : Nat) (fl_p fl_q fl_r : Int64) : Nat × va_E := (af, .inr (1, [.long fl_p, .long fl_q, .long fl_r]))
abbrev ce_J (aa : Nat) (ka : ClassId) (n : Nat) (f : Nat → Int64) : Nat × va_E := (aa, .inl (ka, n, .inr (.inl f)))
abbrev ce_I (aa : Nat) (ka : ClassId) (n : Nat) (f : Nat → Int32) : Nat × va_E := (aa, .inl (ka, n, .inl f))
