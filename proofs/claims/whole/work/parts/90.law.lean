set_option maxHeartbeats 16000000 in
set_option maxRecDepth 100000 in
theorem whole_start {p : Program} {e : Env} {s : State} {m : MethodId} {below : List Frame} {meth : Method} {c : Code} (l : Launch) (hflags : l.flags = flags0) {b L : Nat} {xs : Nat → Int32} (hL : L ≤ 4608) (C0 : lw_At p s m meth c b L xs) : W p l e room_1 s m #[Value.ref b] below meth c s.heap [] 0 0 (lw_Z below #[Value.ref b] s) (entryFrame m ([Value.ref b] : List Value).toArray 4) := by
  obtain ⟨hx, hb, hr, hml, hown, hts, hX, hbl, hlocks, hgv⟩ := id C0
  have hA : ∀ q : Nat, s.heap.size ≤ q → (fun q : Nat => s.heap.size ≤ q) q := fun _ h => h
  have hbA : ¬ (fun q : Nat => s.heap.size ≤ q) b := Nat.not_le.mpr hbl
  obtain ⟨c0, iS0, hKn0⟩ := u_known (C := RX0) (T := TX0) (N := 4) (n := 4) hts inL_X0 (hts _ qL_0)
  obtain ⟨c1, iS1, hKn1⟩ := u_known (C := RX1) (T := TX1) (N := 3) (n := 3) hts inL_X1 (hts _ qL_1)
  obtain ⟨c2, iS2, hKn2⟩ := u_known (C := RX2) (T := TX2) (N := 6) (n := 6) hts inL_X2 (hts _ qL_2)
  obtain ⟨c3, iS3, hKn3⟩ := u_known (C := RX3) (T := TX3) (N := 4) (n := 4) hts inL_X3 (hts _ qL_3)
  obtain ⟨c4, iS4, hKn4⟩ := u_known (C := RX4) (T := TX4) (N := 4) (n := 4) hts inL_X4 (hts _ qL_4)
  obtain ⟨c5, iS5, hKn5⟩ := u_known (C := RX5) (T := TX5) (N := 9) (n := 9) hts inL_X5 (hts _ qL_5)
  obtain ⟨c6, iS6, hKn6⟩ := u_known (C := RX6) (T := TX6) (N := 3) (n := 3) hts inL_X6 (hts _ qL_6)
  obtain ⟨c7, iS7, hKn7⟩ := u_known (C := RX7) (T := TX7) (N := 9) (n := 9) hts inL_X7 (hts _ qL_7)
  obtain ⟨c8, iS8, hKn8⟩ := u_known (C := RX8) (T := TX8) (N := 42) (n := 42) hts inL_X8 (hts _ qL_8)
  obtain ⟨dC, dI, hKc⟩ : ∃ (dC : Nat → ClassId) (dI : Nat → Nat → Nat), ∀ (k : Nat) (q : vw_C), vwCl[k]? = some q → u_Kn s q.1 q.2.1 q.2.2 (dC k) (dI k) := by
    refine ⟨fun k => [c0, c1, c2, c3, c4, c5, c6, c7, c8].getD k 0, fun k => [iS0, iS1, iS2, iS3, iS4, iS5, iS6, iS7, iS8].getD k (fun _ => 0), ?_⟩
    intro k q hq
    match k, hq with
    | 0, hq => cases hq; exact hKn0
    | 1, hq => cases hq; exact hKn1
    | 2, hq => cases hq; exact hKn2
    | 3, hq => cases hq; exact hKn3
    | 4, hq => cases hq; exact hKn4
    | 5, hq => cases hq; exact hKn5
    | 6, hq => cases hq; exact hKn6
    | 7, hq => cases hq; exact hKn7
    | 8, hq => cases hq; exact hKn8
    | k + 9, hq => simp [vwCl] at hq
  have hS : va_S (fun q : Nat => s.heap.size ≤ q) s.heap s.heap [] := va_S.rf
  have hK : va_K (dC, dI) vwCl [] s := ⟨hKc, fun k q h => by simp at h⟩
  have hP : va_P (dC, dI) vwCl [] s.heap := fun k q h => by simp at h
  have hD : va_D (fun q : Nat => s.heap.size ≤ q) [] := ⟨fun i j p q h => by simp at h, fun k q h => by simp at h⟩
  have hN : NW s := fun w hw => va_Nw.of (nwl_t w hw) (hts w (nwl_in w hw))
  obtain ⟨tT, tN, hZ⟩ := law_zz hts hgv
  obtain ⟨zb, hzb, hR0⟩ := rel_start
  have hl := lv_entry ([.ref b]) (n := 4) (Nat.le_of_ble_eq_true rfl)
  rw [lg_entry_eq]
  generalize (lg_sl ([.ref b]) ++ List.replicate (4 - (lg_sl ([.ref b])).length) Slot.unset).toArray = ls at hl ⊢
  have hl : lv_has ls 4 [(0, .ref b)] := hl
  refine va_new (ci := 7) (fs := [.null, .null, .null, .null, .null, .null, .null, .null, .null]) (C := RX7) (T := TX7) (N := 9) hx hb hts inL_X7 tyX7 tyX7_ok hown (hts _ qL_9) (hts _ qL_7) (hts _ qL_10) hK hP hD hS hA rfl (fun j hj => by rcases (show j = 0 ∨ j = 1 ∨ j = 2 ∨ j = 3 ∨ j = 4 ∨ j = 5 ∨ j = 6 ∨ j = 7 ∨ j = 8 by omega) with rfl | rfl | rfl | rfl | rfl | rfl | rfl | rfl | rfl <;> rfl) (Nat.le_of_ble_eq_true rfl) (Nat.le_of_ble_eq_true rfl) dL_law_0 (fun q0v H hP hD hS => ?_)
  have hP : va_P (dC, dI) vwCl [(q0v, .inr (7, [.null, .null, .null, .null, .null, .null, .null, .null, .null]))] H := hP
  have hD : va_D (fun q : Nat => s.heap.size ≤ q) [(q0v, .inr (7, [.null, .null, .null, .null, .null, .null, .null, .null, .null]))] := hD
  refine W.widen (k := 1) (n := 9) (by omega) (by omega) ?_
  refine lv_dup hx hb dL_law_3 rfl ?_
  have hFc := va_free (wc := [(q0v, .inr (7, [.null, .null, .null, .null, .null, .null, .null, .null, .null]))]) hD hS hA [0] rfl
  refine va_callv (va_runI (As := []) (rest := [.ref q0v]) ⟨hx, hb, hml, hown, hts⟩ (c_X7_init l dC dI q0v tT tN H.size hzb) (cwI 0 hts gL_X7_init rfl rfl rfl (hts _ qL_10) (hts _ qL_11) (hts _ qL_12) rfl hi_X7_init ⟨(Nat.le_of_ble_eq_true rfl), (Nat.le_of_ble_eq_true rfl)⟩) ⟨fb_z, pre_z hP hD hK hN hZ hS hFc⟩ rfl rfl hl.1 rfl (lv_room (Nat.le_of_ble_eq_true rfl)) dL_law_4 ⟨(Nat.le_of_ble_eq_true rfl), (Nat.le_of_ble_eq_true rfl)⟩) hS (fun q _ h => hFc q h) hFc (fun u t H1 locs1 ht hvm hw hB hz1 hk1 hS => ?_)
  obtain ⟨rA, kA⟩ := u
  have hw : rA 0 = q0v := hw
  subst hw
  obtain ⟨hP1, hK1, hD1⟩ := hB
  rw [ht] at hP1
  have hK1 := va_K.moved hvm.symm hK1
  obtain ⟨hP, hD⟩ := va_join (wr := []) (w1 := [ce_pw rA , ce_net rA zb.1 zb.2.1 zb.2.2.1 zb.2.2.2, ce_J (rA 2) (kA 2) 8 (fun _ => 0), ce_mak rA 0 0 0, ce_fac rA 0 0, ce_J (rA 5) (kA 5) 40 (fun _ => 0), ce_rsd rA 0, ce_num rA 0 0 0 0 0 0 0, ce_I (rA 8) (kA 8) 625 (fun _ => 0), ce_fl (rA 9) 0 0 0, ce_fl (rA 10) 0 0 0, ce_lea rA 0, ce_J (rA 12) (kA 12) 12 (fun _ => 0), ce_J (rA 13) (kA 13) 61 (fun _ => 0), ce_J (rA 14) (kA 14) 61 (fun _ => 0), ce_J (rA 15) (kA 15) 61 (fun _ => 0)]) hP hD [0] [] rfl rfl (by decide) (by decide) hk1 hFc hP1 hD1
  have hK := hK.app hK1
  generalize H1 = H at hP hS ⊢
  generalize locs1 = locs at hS ⊢
  have hP : va_P (dC, dI) vwCl [ce_pw rA , ce_net rA zb.1 zb.2.1 zb.2.2.1 zb.2.2.2, ce_J (rA 2) (kA 2) 8 (fun _ => 0), ce_mak rA 0 0 0, ce_fac rA 0 0, ce_J (rA 5) (kA 5) 40 (fun _ => 0), ce_rsd rA 0, ce_num rA 0 0 0 0 0 0 0, ce_I (rA 8) (kA 8) 625 (fun _ => 0), ce_fl (rA 9) 0 0 0, ce_fl (rA 10) 0 0 0, ce_lea rA 0, ce_J (rA 12) (kA 12) 12 (fun _ => 0), ce_J (rA 13) (kA 13) 61 (fun _ => 0), ce_J (rA 14) (kA 14) 61 (fun _ => 0), ce_J (rA 15) (kA 15) 61 (fun _ => 0)] H := hP
  have hD : va_D (fun q : Nat => s.heap.size ≤ q) [ce_pw rA , ce_net rA zb.1 zb.2.1 zb.2.2.1 zb.2.2.2, ce_J (rA 2) (kA 2) 8 (fun _ => 0), ce_mak rA 0 0 0, ce_fac rA 0 0, ce_J (rA 5) (kA 5) 40 (fun _ => 0), ce_rsd rA 0, ce_num rA 0 0 0 0 0 0 0, ce_I (rA 8) (kA 8) 625 (fun _ => 0), ce_fl (rA 9) 0 0 0, ce_fl (rA 10) 0 0 0, ce_lea rA 0, ce_J (rA 12) (kA 12) 12 (fun _ => 0), ce_J (rA 13) (kA 13) 61 (fun _ => 0), ce_J (rA 14) (kA 14) 61 (fun _ => 0), ce_J (rA 15) (kA 15) 61 (fun _ => 0)] := hD
  have hK : va_K (dC, dI) vwCl [((kA 2), .long), ((kA 5), .long), ((kA 8), .int), ((kA 12), .long), ((kA 13), .long), ((kA 14), .long), ((kA 15), .long)] s := hK
  refine W.widen (k := 16) (n := 913) (by omega) (by omega) ?_
  refine lv_astore_n (lv' := [(1, .ref (rA 0)), (0, .ref b)]) hx hb dL_law_7 rfl hl (by decide) rfl (fun ls hl => ?_)
  refine va_new (ci := 8) (fs := [.long 0, .long 0, .null, .null, .long 0, .long 0, .int 0, .null, .null, .long 0, .long 0, .int 0, .long 0, .long 0, .long 0, .long 0, .long 0, .long 0, .int 0, .null, .null, .long 0, .long 0, .long 0, .long 0, .int 0, .int 0, .int 0, .int 0, .null, .null, .null, .long 0, .int 0, .long 0, .long 0, .long 0, .int 0, .null, .null, .null, .null]) (C := RX8) (T := TX8) (N := 42) hx hb hts inL_X8 tyX8 tyX8_ok hown (hts _ qL_13) (hts _ qL_8) (hts _ qL_14) hK hP hD hS hA rfl (fun j hj => by rcases (show j = 0 ∨ j = 1 ∨ j = 2 ∨ j = 3 ∨ j = 4 ∨ j = 5 ∨ j = 6 ∨ j = 7 ∨ j = 8 ∨ j = 9 ∨ j = 10 ∨ j = 11 ∨ j = 12 ∨ j = 13 ∨ j = 14 ∨ j = 15 ∨ j = 16 ∨ j = 17 ∨ j = 18 ∨ j = 19 ∨ j = 20 ∨ j = 21 ∨ j = 22 ∨ j = 23 ∨ j = 24 ∨ j = 25 ∨ j = 26 ∨ j = 27 ∨ j = 28 ∨ j = 29 ∨ j = 30 ∨ j = 31 ∨ j = 32 ∨ j = 33 ∨ j = 34 ∨ j = 35 ∨ j = 36 ∨ j = 37 ∨ j = 38 ∨ j = 39 ∨ j = 40 ∨ j = 41 by omega) with rfl | rfl | rfl | rfl | rfl | rfl | rfl | rfl | rfl | rfl | rfl | rfl | rfl | rfl | rfl | rfl | rfl | rfl | rfl | rfl | rfl | rfl | rfl | rfl | rfl | rfl | rfl | rfl | rfl | rfl | rfl | rfl | rfl | rfl | rfl | rfl | rfl | rfl | rfl | rfl | rfl | rfl <;> rfl) (Nat.le_of_ble_eq_true rfl) (Nat.le_of_ble_eq_true rfl) dL_law_8 (fun q1v H hP hD hS => ?_)
  have hP : va_P (dC, dI) vwCl [ce_pw rA , ce_net rA zb.1 zb.2.1 zb.2.2.1 zb.2.2.2, ce_J (rA 2) (kA 2) 8 (fun _ => 0), ce_mak rA 0 0 0, ce_fac rA 0 0, ce_J (rA 5) (kA 5) 40 (fun _ => 0), ce_rsd rA 0, ce_num rA 0 0 0 0 0 0 0, ce_I (rA 8) (kA 8) 625 (fun _ => 0), ce_fl (rA 9) 0 0 0, ce_fl (rA 10) 0 0 0, ce_lea rA 0, ce_J (rA 12) (kA 12) 12 (fun _ => 0), ce_J (rA 13) (kA 13) 61 (fun _ => 0), ce_J (rA 14) (kA 14) 61 (fun _ => 0), ce_J (rA 15) (kA 15) 61 (fun _ => 0), (q1v, .inr (8, [.long 0, .long 0, .null, .null, .long 0, .long 0, .int 0, .null, .null, .long 0, .long 0, .int 0, .long 0, .long 0, .long 0, .long 0, .long 0, .long 0, .int 0, .null, .null, .long 0, .long 0, .long 0, .long 0, .int 0, .int 0, .int 0, .int 0, .null, .null, .null, .long 0, .int 0, .long 0, .long 0, .long 0, .int 0, .null, .null, .null, .null]))] H := hP
  have hD : va_D (fun q : Nat => s.heap.size ≤ q) [ce_pw rA , ce_net rA zb.1 zb.2.1 zb.2.2.1 zb.2.2.2, ce_J (rA 2) (kA 2) 8 (fun _ => 0), ce_mak rA 0 0 0, ce_fac rA 0 0, ce_J (rA 5) (kA 5) 40 (fun _ => 0), ce_rsd rA 0, ce_num rA 0 0 0 0 0 0 0, ce_I (rA 8) (kA 8) 625 (fun _ => 0), ce_fl (rA 9) 0 0 0, ce_fl (rA 10) 0 0 0, ce_lea rA 0, ce_J (rA 12) (kA 12) 12 (fun _ => 0), ce_J (rA 13) (kA 13) 61 (fun _ => 0), ce_J (rA 14) (kA 14) 61 (fun _ => 0), ce_J (rA 15) (kA 15) 61 (fun _ => 0), (q1v, .inr (8, [.long 0, .long 0, .null, .null, .long 0, .long 0, .int 0, .null, .null, .long 0, .long 0, .int 0, .long 0, .long 0, .long 0, .long 0, .long 0, .long 0, .int 0, .null, .null, .long 0, .long 0, .long 0, .long 0, .int 0, .int 0, .int 0, .int 0, .null, .null, .null, .long 0, .int 0, .long 0, .long 0, .long 0, .int 0, .null, .null, .null, .null]))] := hD
  refine W.widen (k := 17) (n := 955) (by omega) (by omega) ?_
  refine lv_dup hx hb dL_law_11 rfl ?_
  have hPc := hP.sub (ws' := [(q1v, .inr (8, [.long 0, .long 0, .null, .null, .long 0, .long 0, .int 0, .null, .null, .long 0, .long 0, .int 0, .long 0, .long 0, .long 0, .long 0, .long 0, .long 0, .int 0, .null, .null, .long 0, .long 0, .long 0, .long 0, .int 0, .int 0, .int 0, .int 0, .null, .null, .null, .long 0, .int 0, .long 0, .long 0, .long 0, .int 0, .null, .null, .null, .null]))]) [16] rfl
  have hDc := hD.sub (ws' := [(q1v, .inr (8, [.long 0, .long 0, .null, .null, .long 0, .long 0, .int 0, .null, .null, .long 0, .long 0, .int 0, .long 0, .long 0, .long 0, .long 0, .long 0, .long 0, .int 0, .null, .null, .long 0, .long 0, .long 0, .long 0, .int 0, .int 0, .int 0, .int 0, .null, .null, .null, .long 0, .int 0, .long 0, .long 0, .long 0, .int 0, .null, .null, .null, .null]))]) [16] rfl rfl
  have hKc := hK.sub (tys' := []) [] rfl
  have hFc := va_free (wc := [(q1v, .inr (8, [.long 0, .long 0, .null, .null, .long 0, .long 0, .int 0, .null, .null, .long 0, .long 0, .int 0, .long 0, .long 0, .long 0, .long 0, .long 0, .long 0, .int 0, .null, .null, .long 0, .long 0, .long 0, .long 0, .int 0, .int 0, .int 0, .int 0, .null, .null, .null, .long 0, .int 0, .long 0, .long 0, .long 0, .int 0, .null, .null, .null, .null]))]) hD hS hA [16] rfl
  refine va_callv (va_runI (As := []) (rest := [.ref q1v]) ⟨hx, hb, hml, hown, hts⟩ (c_X8_init l dC dI q1v H.size) (cwI 0 hts gL_X8_init rfl rfl rfl (hts _ qL_14) (hts _ qL_15) (hts _ qL_16) rfl hi_X8_init ⟨(Nat.le_of_ble_eq_true rfl), (Nat.le_of_ble_eq_true rfl)⟩) ⟨fb_w, pre_w hPc hDc hKc hN⟩ rfl rfl hl.1 rfl (lv_room (Nat.le_of_ble_eq_true rfl)) dL_law_12 ⟨(Nat.le_of_ble_eq_true rfl), (Nat.le_of_ble_eq_true rfl)⟩) hS (fun q _ h => hFc q h) hFc (fun u t H1 locs1 ht hvm hw hB hz1 hk1 hS => ?_)
  obtain ⟨rB, kB⟩ := u
  have hw8 : rB 0 = q1v := hw
  obtain ⟨hP1, hK1, hD1⟩ := hB
  rw [ht] at hP1
  have hK1 := va_K.moved hvm.symm hK1
  obtain ⟨hP, hD⟩ := va_join (wr := [ce_pw rA , ce_net rA zb.1 zb.2.1 zb.2.2.1 zb.2.2.2, ce_J (rA 2) (kA 2) 8 (fun _ => 0), ce_mak rA 0 0 0, ce_fac rA 0 0, ce_J (rA 5) (kA 5) 40 (fun _ => 0), ce_rsd rA 0, ce_num rA 0 0 0 0 0 0 0, ce_I (rA 8) (kA 8) 625 (fun _ => 0), ce_fl (rA 9) 0 0 0, ce_fl (rA 10) 0 0 0, ce_lea rA 0, ce_J (rA 12) (kA 12) 12 (fun _ => 0), ce_J (rA 13) (kA 13) 61 (fun _ => 0), ce_J (rA 14) (kA 14) 61 (fun _ => 0), ce_J (rA 15) (kA 15) 61 (fun _ => 0)]) (w1 := [ce_mod rB 0 (1 : Int64) 0 0 (4 : Int32) 0 0 0 0 0 0 0 0 0 0 0 0 0 0 0 0 0 0 0 0 0 0 0 0, ce_J (rB 1) (kB 1) 8 (fun _ => 0), ce_J (rB 2) (kB 2) 8 (fun _ => 0), ce_J (rB 3) (kB 3) 6 (vp_updL (vp_updL (vp_updL (vp_updL (vp_updL (vp_updL (fun _ => 0) (0 : Int32).toNatClampNeg (1 : Int64)) (1 : Int32).toNatClampNeg (-1 : Int64)) (2 : Int32).toNatClampNeg (0 : Int64)) (3 : Int32).toNatClampNeg (0 : Int64)) (4 : Int32).toNatClampNeg (0 : Int64)) (5 : Int32).toNatClampNeg (0 : Int64)), ce_J (rB 4) (kB 4) 6 (vp_updL (vp_updL (vp_updL (vp_updL (vp_updL (vp_updL (fun _ => 0) (0 : Int32).toNatClampNeg (0 : Int64)) (1 : Int32).toNatClampNeg (0 : Int64)) (2 : Int32).toNatClampNeg (1 : Int64)) (3 : Int32).toNatClampNeg (-1 : Int64)) (4 : Int32).toNatClampNeg (0 : Int64)) (5 : Int32).toNatClampNeg (0 : Int64)), ce_J (rB 5) (kB 5) 40 (fun _ => 0), ce_J (rB 6) (kB 6) 40 (fun _ => 0), ce_J (rB 7) (kB 7) 1000 (fun _ => 0), ce_J (rB 8) (kB 8) 1000 (fun _ => 0), ce_I (rB 9) (kB 9) 1000 (fun _ => 0), ce_J (rB 10) (kB 10) 12 (fun _ => 0), ce_J (rB 11) (kB 11) 12 (fun _ => 0), ce_I (rB 12) (kB 12) 3721 (fun _ => 0), ce_I (rB 13) (kB 13) 3721 (fun _ => 0)]) hP hD [16] [0, 1, 2, 3, 4, 5, 6, 7, 8, 9, 10, 11, 12, 13, 14, 15] rfl rfl (by decide) (by decide) hk1 hFc hP1 hD1
  have hK := hK.app hK1
  generalize H1 = H at hP hS ⊢
  generalize locs1 = locs at hS ⊢
  have hP : va_P (dC, dI) vwCl [ce_pw rA , ce_net rA zb.1 zb.2.1 zb.2.2.1 zb.2.2.2, ce_J (rA 2) (kA 2) 8 (fun _ => 0), ce_mak rA 0 0 0, ce_fac rA 0 0, ce_J (rA 5) (kA 5) 40 (fun _ => 0), ce_rsd rA 0, ce_num rA 0 0 0 0 0 0 0, ce_I (rA 8) (kA 8) 625 (fun _ => 0), ce_fl (rA 9) 0 0 0, ce_fl (rA 10) 0 0 0, ce_lea rA 0, ce_J (rA 12) (kA 12) 12 (fun _ => 0), ce_J (rA 13) (kA 13) 61 (fun _ => 0), ce_J (rA 14) (kA 14) 61 (fun _ => 0), ce_J (rA 15) (kA 15) 61 (fun _ => 0), ce_mod rB 0 (1 : Int64) 0 0 (4 : Int32) 0 0 0 0 0 0 0 0 0 0 0 0 0 0 0 0 0 0 0 0 0 0 0 0, ce_J (rB 1) (kB 1) 8 (fun _ => 0), ce_J (rB 2) (kB 2) 8 (fun _ => 0), ce_J (rB 3) (kB 3) 6 (vp_updL (vp_updL (vp_updL (vp_updL (vp_updL (vp_updL (fun _ => 0) (0 : Int32).toNatClampNeg (1 : Int64)) (1 : Int32).toNatClampNeg (-1 : Int64)) (2 : Int32).toNatClampNeg (0 : Int64)) (3 : Int32).toNatClampNeg (0 : Int64)) (4 : Int32).toNatClampNeg (0 : Int64)) (5 : Int32).toNatClampNeg (0 : Int64)), ce_J (rB 4) (kB 4) 6 (vp_updL (vp_updL (vp_updL (vp_updL (vp_updL (vp_updL (fun _ => 0) (0 : Int32).toNatClampNeg (0 : Int64)) (1 : Int32).toNatClampNeg (0 : Int64)) (2 : Int32).toNatClampNeg (1 : Int64)) (3 : Int32).toNatClampNeg (-1 : Int64)) (4 : Int32).toNatClampNeg (0 : Int64)) (5 : Int32).toNatClampNeg (0 : Int64)), ce_J (rB 5) (kB 5) 40 (fun _ => 0), ce_J (rB 6) (kB 6) 40 (fun _ => 0), ce_J (rB 7) (kB 7) 1000 (fun _ => 0), ce_J (rB 8) (kB 8) 1000 (fun _ => 0), ce_I (rB 9) (kB 9) 1000 (fun _ => 0), ce_J (rB 10) (kB 10) 12 (fun _ => 0), ce_J (rB 11) (kB 11) 12 (fun _ => 0), ce_I (rB 12) (kB 12) 3721 (fun _ => 0), ce_I (rB 13) (kB 13) 3721 (fun _ => 0)] H := hP
  have hD : va_D (fun q : Nat => s.heap.size ≤ q) [ce_pw rA , ce_net rA zb.1 zb.2.1 zb.2.2.1 zb.2.2.2, ce_J (rA 2) (kA 2) 8 (fun _ => 0), ce_mak rA 0 0 0, ce_fac rA 0 0, ce_J (rA 5) (kA 5) 40 (fun _ => 0), ce_rsd rA 0, ce_num rA 0 0 0 0 0 0 0, ce_I (rA 8) (kA 8) 625 (fun _ => 0), ce_fl (rA 9) 0 0 0, ce_fl (rA 10) 0 0 0, ce_lea rA 0, ce_J (rA 12) (kA 12) 12 (fun _ => 0), ce_J (rA 13) (kA 13) 61 (fun _ => 0), ce_J (rA 14) (kA 14) 61 (fun _ => 0), ce_J (rA 15) (kA 15) 61 (fun _ => 0), ce_mod rB 0 (1 : Int64) 0 0 (4 : Int32) 0 0 0 0 0 0 0 0 0 0 0 0 0 0 0 0 0 0 0 0 0 0 0 0, ce_J (rB 1) (kB 1) 8 (fun _ => 0), ce_J (rB 2) (kB 2) 8 (fun _ => 0), ce_J (rB 3) (kB 3) 6 (vp_updL (vp_updL (vp_updL (vp_updL (vp_updL (vp_updL (fun _ => 0) (0 : Int32).toNatClampNeg (1 : Int64)) (1 : Int32).toNatClampNeg (-1 : Int64)) (2 : Int32).toNatClampNeg (0 : Int64)) (3 : Int32).toNatClampNeg (0 : Int64)) (4 : Int32).toNatClampNeg (0 : Int64)) (5 : Int32).toNatClampNeg (0 : Int64)), ce_J (rB 4) (kB 4) 6 (vp_updL (vp_updL (vp_updL (vp_updL (vp_updL (vp_updL (fun _ => 0) (0 : Int32).toNatClampNeg (0 : Int64)) (1 : Int32).toNatClampNeg (0 : Int64)) (2 : Int32).toNatClampNeg (1 : Int64)) (3 : Int32).toNatClampNeg (-1 : Int64)) (4 : Int32).toNatClampNeg (0 : Int64)) (5 : Int32).toNatClampNeg (0 : Int64)), ce_J (rB 5) (kB 5) 40 (fun _ => 0), ce_J (rB 6) (kB 6) 40 (fun _ => 0), ce_J (rB 7) (kB 7) 1000 (fun _ => 0), ce_J (rB 8) (kB 8) 1000 (fun _ => 0), ce_I (rB 9) (kB 9) 1000 (fun _ => 0), ce_J (rB 10) (kB 10) 12 (fun _ => 0), ce_J (rB 11) (kB 11) 12 (fun _ => 0), ce_I (rB 12) (kB 12) 3721 (fun _ => 0), ce_I (rB 13) (kB 13) 3721 (fun _ => 0)] := hD
  have hK : va_K (dC, dI) vwCl [((kA 2), .long), ((kA 5), .long), ((kA 8), .int), ((kA 12), .long), ((kA 13), .long), ((kA 14), .long), ((kA 15), .long), ((kB 1), .long), ((kB 2), .long), ((kB 3), .long), ((kB 4), .long), ((kB 5), .long), ((kB 6), .long), ((kB 7), .long), ((kB 8), .long), ((kB 9), .int), ((kB 10), .long), ((kB 11), .long), ((kB 12), .int), ((kB 13), .int)] s := hK
  refine W.widen (k := 30) (n := 11529) (by omega) (by omega) ?_
  refine lv_astore_n (lv' := [(2, .ref q1v), (1, .ref (rA 0)), (0, .ref b)]) hx hb dL_law_15 rfl hl (by decide) rfl (fun ls hl => ?_)
  refine lv_iconst (v := (0 : Int32)) hx hb dL_law_16 (by decide) ?_
  refine lv_istore_n (lv' := [(3, .int (0 : Int32)), (2, .ref q1v), (1, .ref (rA 0)), (0, .ref b)]) hx hb dL_law_17 rfl hl (by decide) rfl (fun ls hl => ?_)
  rw [← hw8] at hl
  exact law_loop REL hm_kind hm_set hm_get hm_size hm_reckon hm_turn hm_makes hm_like hm_parts hm_part hm_ofSize hm_within hm_power hm_order hm_inverse hm_single hm_roots hm_root hm_digit hm_digits hm_rounds hm_flocks hm_flock hm_has hm_joined hm_turned hm_where hm_leaps hL C0 hN hZ rA rB kA kB hK (L + 10) 0 0 _ _ H locs ls (by omega) (by omega) nI_0.symm hR0 hP hD hS (lv_sub hl [0, 3, 2, 1] rfl)
-- ===== YOUR PART ENDS =====
set_option maxHeartbeats 4000000 in
theorem lw_walk (l : Launch) (hflags : l.flags = flags0) (b : Addr) (xs : List Int32) : MetFree l x (headSpec (Jvm.Cond.code x code maxLocals ret :: tables_1) room_1) (lw_P b xs) (fun _ _ _ _ _ => True) lw_Q := by
  refine MetFree.of_bodyS (code := code) (maxLocals := maxLocals) (ret := ret) (by decide) ?_ ?_
  · intro args s m h hn
    obtain ⟨meth, c, h1, h2, h3, h4, h5, h6, -, -⟩ := Cond.code_spec hn (atoms_spec (ws := Jvm.Cond.code x code maxLocals ret :: tables_1) h _ List.mem_cons_self)
    exact ⟨meth, c, h1, h2, h3, h4, h5, h6⟩
  · intro p e s m args below meth c s₁ B hml0 hP _
    obtain ⟨rfl, hx, hbd, hgv⟩ := hP
    obtain ⟨scr, harrAt, hlist, hof, hsmall⟩ := hx
    obtain ⟨hcb, hkn, -, -⟩ := State.arrayAt?_spec harrAt
    have hown : s.vm.findClass R_law = some m.cls := findClass_of_methodNamed B.named
    have hts0 : ∀ c ∈ (Jvm.Cond.code x code maxLocals ret :: tables_1), c.before #[Value.ref b] s = true := atoms_spec (ws := Jvm.Cond.code x code maxLocals ret :: tables_1) B.pre
    have hts : ∀ w ∈ lw_tbl, w.before #[Value.ref b] s = true := k2_hts_sels lw_privs (fun w hw => hts0 w (List.mem_cons_of_mem _ hw)) lw_privs_ok
    have hml : c.maxLocals = 4 := B.maxLocals_eq (hts0 _ List.mem_cons_self)
    have X₀ : Stand p l e room_1 s m #[Value.ref b] below meth c s₁ [] 0 0 := Stand.of_body B
    have hh0 : s₁.heap = s.heap := by rw [B.state]; rfl
    have hsz : scr.slots.size = xs.length := by rw [← Array.length_toList, hlist, List.length_map]
    have hval : ∀ j : Nat, j < xs.length → scr.slots[j]? = some (.int (xs.getD j 0)) := fun j hj => by
      rw [← Array.getElem?_toList, hlist]
      simp [hj]
    have hbl : b < s.heap.size := (Array.getElem?_eq_some_iff.mp hcb).1
    have hX : va_X b xs.length (fun j => xs.getD j 0) s s.heap := ⟨scr, hcb, hof, hkn, hsz, hval⟩
    have K : W p l e room_1 s m #[Value.ref b] below meth c s₁.heap [] 0 0 (lw_Z below #[Value.ref b] s) (entryFrame m ([Value.ref b] : List Value).toArray 4) := by
      rw [hh0]
      exact whole_start l hflags hbd ⟨B.exec, B.bytes, B.returns, hml, hown, hts, hX, hbl, B.notSynchronized, hgv⟩
    obtain ⟨t, a1, o, b1, b2, b3⟩ := K s₁ rfl X₀
    exact ⟨t, o, a1, b1, b2, b3⟩
theorem lw_pre_spec {args : Array Value} {s : State} (h : (Jvm.Cond.and given_1 narrow_1).before args s = true) (hr : rest_1_c.before args s = true) : ∃ (b : Addr) (xs : List Int32), lw_P b xs args s := by
  have hs := flat_of_before _ h
  have hq := flat_of_before _ hr
  have hc : (Cond.count 1).before args s = true := hs _ (by decide +kernel)
  have harr : (Cond.arrayOf (.arg 0) .int).before args s = true := hs _ (by decide +kernel)
  have hle : (Cond.le (.length (.arg 0)) (.int 4608)).before args s = true := hs _ (by decide +kernel)
  have hlen : (Cond.isInt (.length (.arg 0))).before args s = true := hq _ (by decide +kernel)
  have hall : (Cond.all (.arg 0) (.isInt (.elem (.arg 0) (.index 0)))).before args s = true := hq _ (by decide +kernel)
  obtain ⟨b, xs, hb, hx⟩ := State.ints_of_pre rfl harr hlen hall
  have hsm : xs.length < 2 ^ 31 := hx.choose_spec.2.2.2
  have hev : (Term.length (.arg 0)).eval args s none [] s = some (.int xs.length.toInt32) := hx.length_eval hb
  have hv := Cond.le_ints hev (show (Term.int 4608).eval args s none [] s = some (.int 4608) from rfl)
  have hd : xs.length.toInt32 ≤ 4608 := by
    simpa [Cond.before, Cond.holds, hv] using hle
  have hN : xs.length ≤ 4608 := (Int32.ofNat_le_ofNat hsm (by decide)).mp (show Int32.ofNat xs.length ≤ Int32.ofNat 4608 from hd)
  exact ⟨b, xs, Cond.one_arg hc (show args[0]? = some (.ref b) from hb), hx, hN, h⟩
theorem lw_comes (l : Launch) (hflags : l.flags = flags0) : Comes l x (Jvm.Cond.code x code maxLocals ret :: tables_1) room_1 (fun tb e args s => Calls_1 tb e args s ∧ rest_1 tb e args s ∧ Pre_1 tb e args s)
    (fun _ _ args s o t => lw_Q args s o t) := by
  intro p e ha hc hk s m args below hf hfit hheap happ hpre
  obtain ⟨b, xs, hP⟩ := lw_pre_spec hpre.2.2 hpre.2.1
  obtain ⟨k, o, h1, h2, h3, hQ⟩ := lw_walk l hflags b xs p e ha hc hk s m args below hf ((Spec.applies_iff_loose hf).mp happ).1 hP trivial
  exact ⟨k, o, h1, h2, h3, hQ⟩
theorem lw_frame {s t : State} {o : Outcome} {args : Array Value} (h : Framed s o t [] 30 11529) :
    Framed s o t (fieldLocs frame_1_writes args s ++ arrayLocs frame_1_arrays args s ++ staticLocs frame_1_statics s) 30 11529 := h
theorem lw_limb (L : Cond) (hL : ∀ (args : Array Value) (s t : State), L.after args s (.returned (some (.int 1))) t = true) :
    ArmFor flags0 classFile x code maxLocals ret World_1 tables_1 room_1 Calls_1 rest_1 Pre_1
      (fun tb e a s o t => postC L tb e a s o t ∧ Framed s o t (fieldLocs frame_1_writes a s ++ arrayLocs frame_1_arrays a s ++ staticLocs frame_1_statics s) 30 11529) := by
  intro l hflags _ _ p e ha hc hk s m args below hf hfit hheap happ hpre
  obtain ⟨k, o, h1, h2, h3, rfl, hF⟩ := lw_comes l hflags p e ha hc hk s m args below hf hfit hheap happ hpre
  exact ⟨k, _, h1, h2, h3, hL args s _, lw_frame hF⟩
theorem i_vc : Claimed_1_1 ∧ Claimed_1_2 := ⟨lw_limb limb_1_1 (fun args s t => by simp [limb_1_1, Cond.after, Cond.holds, Cond.value]), lw_limb limb_1_2 (fun args s t => Cond.after_iff.mpr (by
  first | (rw [show limb_1_2 = Cond.eq .result (.int 1) from rfl, Cond.eq_ints (x := 1) (y := 1) rfl rfl]; simp; done) | (simp [limb_1_2, Cond.value, Term.eval]; done)))⟩
