def f_X4_first (v0 : Int64) : Int64 :=
  (v0 >>> ((32 : Int32).toInt64 &&& 63))
theorem hs_X4_first : yX4_first.cls ≠ "java/lang/invoke/MethodHandle" ∧ yX4_first.cls ≠ "java/lang/invoke/VarHandle" ∧ (parseMethodDescriptor yX4_first.desc).map (fun d => d.parameters.length) = some 1 := by decide +kernel
set_option maxHeartbeats 8000000 in
set_option maxRecDepth 100000 in
theorem c_X4_first (l : Launch) (dC : Nat → ClassId) (dI : Nat → Nat → Nat) (rA : Nat → Nat) (kA : Nat → ClassId) (v0 : Int64) : Met l yX4_first wsX4_first ({ frames := 0, cells := 0, slots := 0, locals := 0 }) (va_Pc [.long v0] (px (dC, dI) [] [])) (gq_l (f_X4_first v0)) 0 0 (fun _ => False) := by
  refine Met.ofW (cc := cX4_first) (maxL := 2) (ret := (some .long)) (by decide) rfl ?_
  intro p e s m args below meth c s₁ B hml hv
  obtain ⟨rfl, hP, hK, hN⟩ := hv
  have hx := B.exec
  have hb := B.bytes
  have hr := B.returns
  have hts := atoms_spec (ws := wsX4_first) B.pre
  have hown : s.vm.findClass RX4 = some m.cls := findClass_of_methodNamed B.named
  have hlocks := B.notSynchronized
  have hl := lv_entry ([.long v0]) (n := 2) (Nat.le_of_ble_eq_true rfl)
  rw [lg_entry_eq]
  generalize (lg_sl ([.long v0]) ++ List.replicate (2 - (lg_sl ([.long v0])).length) Slot.unset).toArray = ls at hl ⊢
  have hl : lv_has ls 2 [(0, .long v0)] := hl
  generalize hf : (f_X4_first v0) = z
  unfold f_X4_first at hf
  refine lv_lload_n hx hb dX4_first_0 rfl (lv_at hl 0 rfl) ?_
  refine lv_bipush (v := (32 : Int32)) hx hb dX4_first_1 (by decide) ?_
  refine lv_lshr (v := (v0 >>> ((32 : Int32).toInt64 &&& 63))) hx hb dX4_first_3 rfl ?_
  exact W.lret (v := (v0 >>> ((32 : Int32).toInt64 &&& 63))) hx hb hr (fun t ht hW => ⟨congrArg (fun q => Outcome.returned (some (.long q))) hf, ht⟩) (fun _ h => nomatch h) dX4_first_4
def f_X4_second (v0 : Int64) : Int64 :=
  v0.toInt32.toInt64
theorem hs_X4_second : yX4_second.cls ≠ "java/lang/invoke/MethodHandle" ∧ yX4_second.cls ≠ "java/lang/invoke/VarHandle" ∧ (parseMethodDescriptor yX4_second.desc).map (fun d => d.parameters.length) = some 1 := by decide +kernel
set_option maxHeartbeats 8000000 in
set_option maxRecDepth 100000 in
theorem c_X4_second (l : Launch) (dC : Nat → ClassId) (dI : Nat → Nat → Nat) (rA : Nat → Nat) (kA : Nat → ClassId) (v0 : Int64) : Met l yX4_second wsX4_second ({ frames := 0, cells := 0, slots := 0, locals := 0 }) (va_Pc [.long v0] (px (dC, dI) [] [])) (gq_l (f_X4_second v0)) 0 0 (fun _ => False) := by
  refine Met.ofW (cc := cX4_second) (maxL := 2) (ret := (some .long)) (by decide) rfl ?_
  intro p e s m args below meth c s₁ B hml hv
  obtain ⟨rfl, hP, hK, hN⟩ := hv
  have hx := B.exec
  have hb := B.bytes
  have hr := B.returns
  have hts := atoms_spec (ws := wsX4_second) B.pre
  have hown : s.vm.findClass RX4 = some m.cls := findClass_of_methodNamed B.named
  have hlocks := B.notSynchronized
  have hl := lv_entry ([.long v0]) (n := 2) (Nat.le_of_ble_eq_true rfl)
  rw [lg_entry_eq]
  generalize (lg_sl ([.long v0]) ++ List.replicate (2 - (lg_sl ([.long v0])).length) Slot.unset).toArray = ls at hl ⊢
  have hl : lv_has ls 2 [(0, .long v0)] := hl
  generalize hf : (f_X4_second v0) = z
  unfold f_X4_second at hf
  refine lv_lload_n hx hb dX4_second_0 rfl (lv_at hl 0 rfl) ?_
  refine lv_l2i (v := v0.toInt32) hx hb dX4_second_1 rfl ?_
  refine lv_i2l (v := v0.toInt32.toInt64) hx hb dX4_second_2 rfl ?_
  exact W.lret (v := v0.toInt32.toInt64) hx hb hr (fun t ht hW => ⟨congrArg (fun q => Outcome.returned (some (.long q))) hf, ht⟩) (fun _ h => nomatch h) dX4_second_3
def f_X4_number (v0 v2 : Int64) : Int64 :=
  ((v0 <<< ((32 : Int32).toInt64 &&& 63)) ||| (v2 &&& (4294967295 : Int64)))
theorem qX4_number_1 : (.constantLong RX4 42 (4294967295) : Cond) ∈ wsX4_number := List.mem_of_getElem? (i := 1) rfl
theorem hs_X4_number : yX4_number.cls ≠ "java/lang/invoke/MethodHandle" ∧ yX4_number.cls ≠ "java/lang/invoke/VarHandle" ∧ (parseMethodDescriptor yX4_number.desc).map (fun d => d.parameters.length) = some 2 := by decide +kernel
set_option maxHeartbeats 8000000 in
set_option maxRecDepth 100000 in
theorem c_X4_number (l : Launch) (dC : Nat → ClassId) (dI : Nat → Nat → Nat) (rA : Nat → Nat) (kA : Nat → ClassId) (v0 v2 : Int64) : Met l yX4_number wsX4_number ({ frames := 0, cells := 0, slots := 0, locals := 0 }) (va_Pc [.long v0, .long v2] (px (dC, dI) [] [])) (gq_l (f_X4_number v0 v2)) 0 0 (fun _ => False) := by
  refine Met.ofW (cc := cX4_number) (maxL := 4) (ret := (some .long)) (by decide) rfl ?_
  intro p e s m args below meth c s₁ B hml hv
  obtain ⟨rfl, hP, hK, hN⟩ := hv
  have hx := B.exec
  have hb := B.bytes
  have hr := B.returns
  have hts := atoms_spec (ws := wsX4_number) B.pre
  have hown : s.vm.findClass RX4 = some m.cls := findClass_of_methodNamed B.named
  have hlocks := B.notSynchronized
  have hl := lv_entry ([.long v0, .long v2]) (n := 4) (Nat.le_of_ble_eq_true rfl)
  rw [lg_entry_eq]
  generalize (lg_sl ([.long v0, .long v2]) ++ List.replicate (4 - (lg_sl ([.long v0, .long v2])).length) Slot.unset).toArray = ls at hl ⊢
  have hl : lv_has ls 4 [(0, .long v0), (2, .long v2)] := hl
  generalize hf : (f_X4_number v0 v2) = z
  unfold f_X4_number at hf
  refine lv_lload_n hx hb dX4_number_0 rfl (lv_at hl 0 rfl) ?_
  refine lv_bipush (v := (32 : Int32)) hx hb dX4_number_1 (by decide) ?_
  refine lv_lshl (v := (v0 <<< ((32 : Int32).toInt64 &&& 63))) hx hb dX4_number_3 rfl ?_
  refine lv_lload_n hx hb dX4_number_4 rfl (lv_at hl 1 rfl) ?_
  refine lv_ldc2 (v := (4294967295 : Int64)) hx hb hown (hts _ qX4_number_1) dX4_number_5 ?_
  refine lv_land hx hb dX4_number_8 ?_
  refine lv_lor hx hb dX4_number_9 ?_
  exact W.lret (v := ((v0 <<< ((32 : Int32).toInt64 &&& 63)) ||| (v2 &&& (4294967295 : Int64)))) hx hb hr (fun t ht hW => ⟨congrArg (fun q => Outcome.returned (some (.long q))) hf, ht⟩) (fun _ h => nomatch h) dX4_number_10
def f_X4_times (net_t net_n : Int32) (v1 v3 : Int64) : Int64 :=
  (f_X4_number (((f_X4_first v1) * (f_X4_first v3)) - (net_n.toInt64 * ((f_X4_second v1) * (f_X4_second v3)))) ((((f_X4_first v1) * (f_X4_second v3)) + ((f_X4_second v1) * (f_X4_first v3))) + (net_t.toInt64 * ((f_X4_second v1) * (f_X4_second v3)))))
theorem qX4_times_1 : (.fieldLink RX4 26 "PlaneWholes$Net" "n" "I" : Cond) ∈ wsX4_times := List.mem_of_getElem? (i := 1) rfl
theorem qX4_times_2 : (.fieldLink RX4 19 "PlaneWholes$Net" "t" "I" : Cond) ∈ wsX4_times := List.mem_of_getElem? (i := 2) rfl
theorem nX4_times_X4 : ∀ w ∈ wsX40, w ∈ wsX4_times := fun _ h => List.mem_cons_of_mem _ (List.mem_append_right _ h)
set_option maxRecDepth 20000 in
theorem gX4_times_X4_second : GoodIn wsX4_times (va_wsS RX4 48 yX4_second wsX4_second) := gI _ [3, 4, 5, 6] rfl rfl
set_option maxRecDepth 20000 in
theorem gX4_times_X4_first : GoodIn wsX4_times (va_wsS RX4 44 yX4_first wsX4_first) := gI _ [7, 8, 5, 9] rfl rfl
set_option maxRecDepth 20000 in
theorem gX4_times_X4_number : GoodIn wsX4_times (va_wsS RX4 32 yX4_number wsX4_number) := gI _ [10, 11, 5, 12, 13] rfl rfl
theorem hv_X4_times : yX4_times.cls = RX4 ∧ yX4_times.cls ≠ "java/lang/invoke/MethodHandle" ∧ yX4_times.cls ≠ "java/lang/invoke/VarHandle" ∧ (parseMethodDescriptor yX4_times.desc).map (fun d => d.parameters.length) = some 2 := by decide +kernel
set_option maxHeartbeats 8000000 in
set_option maxRecDepth 100000 in
theorem c_X4_times (l : Launch) (dC : Nat → ClassId) (dI : Nat → Nat → Nat) (rA : Nat → Nat) (kA : Nat → ClassId) (net_t net_n net_units : Int32) (net_spin : Int64) (v1 v3 : Int64) : Met l yX4_times wsX4_times ({ frames := 1, cells := 0, slots := 0, locals := 23 }) (va_Pc [.ref (rA 1), .long v1, .long v3] (px (dC, dI) [ce_net rA net_t net_n net_units net_spin] [])) (gq_l (f_X4_times net_t net_n v1 v3)) 0 0 (fun _ => False) := by
  refine Met.ofW (cc := cX4_times) (maxL := 7) (ret := (some .long)) (by decide) rfl ?_
  intro p e s m args below meth c s₁ B hml hv
  obtain ⟨rfl, hP, hK, hN⟩ := hv
  have hx := B.exec
  have hb := B.bytes
  have hr := B.returns
  have hts := atoms_spec (ws := wsX4_times) B.pre
  have hown : s.vm.findClass RX4 = some m.cls := findClass_of_methodNamed B.named
  have hlocks := B.notSynchronized
  have hl := lv_entry ([.ref (rA 1), .long v1, .long v3]) (n := 7) (Nat.le_of_ble_eq_true rfl)
  rw [lg_entry_eq]
  generalize (lg_sl ([.ref (rA 1), .long v1, .long v3]) ++ List.replicate (7 - (lg_sl ([.ref (rA 1), .long v1, .long v3])).length) Slot.unset).toArray = ls at hl ⊢
  have hl : lv_has ls 7 [(0, .ref (rA 1)), (1, .long v1), (3, .long v3)] := hl
  generalize hf : (f_X4_times net_t net_n v1 v3) = z
  unfold f_X4_times at hf
  refine lv_lload_n hx hb dX4_times_0 rfl (lv_at hl 1 rfl) ?_
  have hPc := hP.sub (ws' := []) [] rfl
  refine kp_l (va_runS (As := [.long v1]) (rest := []) ⟨hx, hb, hml, hown, hts⟩ (c_X4_second l dC dI rA kA v1) (va_cwS 1 hts gX4_times_X4_second rfl rfl rfl hs_X4_second ⟨Nat.le_of_ble_eq_true rfl, Nat.le_of_ble_eq_true rfl⟩) ⟨fb_p, pre_p hPc hK hN⟩ rfl rfl hl.1 rfl (lv_room (Nat.le_of_ble_eq_true rfl)) dX4_times_1 ⟨Nat.le_of_ble_eq_true rfl, Nat.le_of_ble_eq_true rfl⟩) ?_
  refine lv_lload_n hx hb dX4_times_4 rfl (lv_at hl 2 rfl) ?_
  have hPc := hP.sub (ws' := []) [] rfl
  refine kp_l (va_runS (As := [.long v3]) (rest := [.long (f_X4_second v1)]) ⟨hx, hb, hml, hown, hts⟩ (c_X4_second l dC dI rA kA v3) (va_cwS 1 hts gX4_times_X4_second rfl rfl rfl hs_X4_second ⟨Nat.le_of_ble_eq_true rfl, Nat.le_of_ble_eq_true rfl⟩) ⟨fb_p, pre_p hPc hK hN⟩ rfl rfl hl.1 rfl (lv_room (Nat.le_of_ble_eq_true rfl)) dX4_times_5 ⟨Nat.le_of_ble_eq_true rfl, Nat.le_of_ble_eq_true rfl⟩) ?_
  refine lv_lmul hx hb dX4_times_8 ?_
  refine lv_lstore (lv' := [(5, .long ((f_X4_second v1) * (f_X4_second v3))), (0, .ref (rA 1)), (1, .long v1), (3, .long v3)]) hx hb dX4_times_9 hl (by decide) rfl (fun ls hl => ?_)
  refine lv_lload_n hx hb dX4_times_11 rfl (lv_at hl 2 rfl) ?_
  have hPc := hP.sub (ws' := []) [] rfl
  refine kp_l (va_runS (As := [.long v1]) (rest := []) ⟨hx, hb, hml, hown, hts⟩ (c_X4_first l dC dI rA kA v1) (va_cwS 1 hts gX4_times_X4_first rfl rfl rfl hs_X4_first ⟨Nat.le_of_ble_eq_true rfl, Nat.le_of_ble_eq_true rfl⟩) ⟨fb_p, pre_p hPc hK hN⟩ rfl rfl hl.1 rfl (lv_room (Nat.le_of_ble_eq_true rfl)) dX4_times_12 ⟨Nat.le_of_ble_eq_true rfl, Nat.le_of_ble_eq_true rfl⟩) ?_
  refine lv_lload_n hx hb dX4_times_15 rfl (lv_at hl 3 rfl) ?_
  have hPc := hP.sub (ws' := []) [] rfl
  refine kp_l (va_runS (As := [.long v3]) (rest := [.long (f_X4_first v1)]) ⟨hx, hb, hml, hown, hts⟩ (c_X4_first l dC dI rA kA v3) (va_cwS 1 hts gX4_times_X4_first rfl rfl rfl hs_X4_first ⟨Nat.le_of_ble_eq_true rfl, Nat.le_of_ble_eq_true rfl⟩) ⟨fb_p, pre_p hPc hK hN⟩ rfl rfl hl.1 rfl (lv_room (Nat.le_of_ble_eq_true rfl)) dX4_times_16 ⟨Nat.le_of_ble_eq_true rfl, Nat.le_of_ble_eq_true rfl⟩) ?_
  refine lv_lmul hx hb dX4_times_19 ?_
  refine lv_aload_n hx hb dX4_times_20 rfl (lv_at hl 1 rfl) ?_
  refine va_get (D := (dC, dI)) (ci := 4) (v := .int net_n) (C := RX4) (T := TX4) (N := 4) hx hb hts nX4_times_X4 hown hK hP 0 rfl rfl 1 (by decide) (hts _ qX4_times_1) (fun _ h9 => h9) rfl dX4_times_21 ?_
  refine lv_i2l (v := net_n.toInt64) hx hb dX4_times_24 rfl ?_
  refine lv_lload hx hb dX4_times_25 (lv_at hl 0 rfl) ?_
  refine lv_lmul hx hb dX4_times_27 ?_
  refine lv_lsub hx hb dX4_times_28 ?_
  refine lv_lload_n hx hb dX4_times_29 rfl (lv_at hl 2 rfl) ?_
  have hPc := hP.sub (ws' := []) [] rfl
  refine kp_l (va_runS (As := [.long v1]) (rest := [.long (((f_X4_first v1) * (f_X4_first v3)) - (net_n.toInt64 * ((f_X4_second v1) * (f_X4_second v3))))]) ⟨hx, hb, hml, hown, hts⟩ (c_X4_first l dC dI rA kA v1) (va_cwS 1 hts gX4_times_X4_first rfl rfl rfl hs_X4_first ⟨Nat.le_of_ble_eq_true rfl, Nat.le_of_ble_eq_true rfl⟩) ⟨fb_p, pre_p hPc hK hN⟩ rfl rfl hl.1 rfl (lv_room (Nat.le_of_ble_eq_true rfl)) dX4_times_30 ⟨Nat.le_of_ble_eq_true rfl, Nat.le_of_ble_eq_true rfl⟩) ?_
  refine lv_lload_n hx hb dX4_times_33 rfl (lv_at hl 3 rfl) ?_
  have hPc := hP.sub (ws' := []) [] rfl
  refine kp_l (va_runS (As := [.long v3]) (rest := [.long (f_X4_first v1), .long (((f_X4_first v1) * (f_X4_first v3)) - (net_n.toInt64 * ((f_X4_second v1) * (f_X4_second v3))))]) ⟨hx, hb, hml, hown, hts⟩ (c_X4_second l dC dI rA kA v3) (va_cwS 1 hts gX4_times_X4_second rfl rfl rfl hs_X4_second ⟨Nat.le_of_ble_eq_true rfl, Nat.le_of_ble_eq_true rfl⟩) ⟨fb_p, pre_p hPc hK hN⟩ rfl rfl hl.1 rfl (lv_room (Nat.le_of_ble_eq_true rfl)) dX4_times_34 ⟨Nat.le_of_ble_eq_true rfl, Nat.le_of_ble_eq_true rfl⟩) ?_
  refine lv_lmul hx hb dX4_times_37 ?_
  refine lv_lload_n hx hb dX4_times_38 rfl (lv_at hl 2 rfl) ?_
  have hPc := hP.sub (ws' := []) [] rfl
  refine kp_l (va_runS (As := [.long v1]) (rest := [.long ((f_X4_first v1) * (f_X4_second v3)), .long (((f_X4_first v1) * (f_X4_first v3)) - (net_n.toInt64 * ((f_X4_second v1) * (f_X4_second v3))))]) ⟨hx, hb, hml, hown, hts⟩ (c_X4_second l dC dI rA kA v1) (va_cwS 1 hts gX4_times_X4_second rfl rfl rfl hs_X4_second ⟨Nat.le_of_ble_eq_true rfl, Nat.le_of_ble_eq_true rfl⟩) ⟨fb_p, pre_p hPc hK hN⟩ rfl rfl hl.1 rfl (lv_room (Nat.le_of_ble_eq_true rfl)) dX4_times_39 ⟨Nat.le_of_ble_eq_true rfl, Nat.le_of_ble_eq_true rfl⟩) ?_
  refine lv_lload_n hx hb dX4_times_42 rfl (lv_at hl 3 rfl) ?_
  have hPc := hP.sub (ws' := []) [] rfl
  refine kp_l (va_runS (As := [.long v3]) (rest := [.long (f_X4_second v1), .long ((f_X4_first v1) * (f_X4_second v3)), .long (((f_X4_first v1) * (f_X4_first v3)) - (net_n.toInt64 * ((f_X4_second v1) * (f_X4_second v3))))]) ⟨hx, hb, hml, hown, hts⟩ (c_X4_first l dC dI rA kA v3) (va_cwS 1 hts gX4_times_X4_first rfl rfl rfl hs_X4_first ⟨Nat.le_of_ble_eq_true rfl, Nat.le_of_ble_eq_true rfl⟩) ⟨fb_p, pre_p hPc hK hN⟩ rfl rfl hl.1 rfl (lv_room (Nat.le_of_ble_eq_true rfl)) dX4_times_43 ⟨Nat.le_of_ble_eq_true rfl, Nat.le_of_ble_eq_true rfl⟩) ?_
  refine lv_lmul hx hb dX4_times_46 ?_
  refine lv_ladd hx hb dX4_times_47 ?_
  refine lv_aload_n hx hb dX4_times_48 rfl (lv_at hl 1 rfl) ?_
  refine va_get (D := (dC, dI)) (ci := 4) (v := .int net_t) (C := RX4) (T := TX4) (N := 4) hx hb hts nX4_times_X4 hown hK hP 0 rfl rfl 0 (by decide) (hts _ qX4_times_2) (fun _ h9 => h9) rfl dX4_times_49 ?_
  refine lv_i2l (v := net_t.toInt64) hx hb dX4_times_52 rfl ?_
  refine lv_lload hx hb dX4_times_53 (lv_at hl 0 rfl) ?_
  refine lv_lmul hx hb dX4_times_55 ?_
  refine lv_ladd hx hb dX4_times_56 ?_
  have hPc := hP.sub (ws' := []) [] rfl
  refine kp_l (va_runS (As := [.long (((f_X4_first v1) * (f_X4_first v3)) - (net_n.toInt64 * ((f_X4_second v1) * (f_X4_second v3)))), .long ((((f_X4_first v1) * (f_X4_second v3)) + ((f_X4_second v1) * (f_X4_first v3))) + (net_t.toInt64 * ((f_X4_second v1) * (f_X4_second v3))))]) (rest := []) ⟨hx, hb, hml, hown, hts⟩ (c_X4_number l dC dI rA kA (((f_X4_first v1) * (f_X4_first v3)) - (net_n.toInt64 * ((f_X4_second v1) * (f_X4_second v3)))) ((((f_X4_first v1) * (f_X4_second v3)) + ((f_X4_second v1) * (f_X4_first v3))) + (net_t.toInt64 * ((f_X4_second v1) * (f_X4_second v3))))) (va_cwS 2 hts gX4_times_X4_number rfl rfl rfl hs_X4_number ⟨Nat.le_of_ble_eq_true rfl, Nat.le_of_ble_eq_true rfl⟩) ⟨fb_p, pre_p hPc hK hN⟩ rfl rfl hl.1 rfl (lv_room (Nat.le_of_ble_eq_true rfl)) dX4_times_57 ⟨Nat.le_of_ble_eq_true rfl, Nat.le_of_ble_eq_true rfl⟩) ?_
  exact W.lret (v := (f_X4_number (((f_X4_first v1) * (f_X4_first v3)) - (net_n.toInt64 * ((f_X4_second v1) * (f_X4_second v3)))) ((((f_X4_first v1) * (f_X4_second v3)) + ((f_X4_second v1) * (f_X4_first v3))) + (net_t.toInt64 * ((f_X4_second v1) * (f_X4_second v3)))))) hx hb hr (fun t ht hW => ⟨congrArg (fun q => Outcome.returned (some (.long q))) hf, ht⟩) (fun _ h => nomatch h) dX4_times_60
def f_X4_sizeOf (net_t net_n : Int32) (v1 : Int64) : Int64 :=
  ((((f_X4_first v1) * (f_X4_first v1)) + ((net_t.toInt64 * (f_X4_first v1)) * (f_X4_second v1))) + ((net_n.toInt64 * (f_X4_second v1)) * (f_X4_second v1)))
theorem qX4_sizeOf_1 : (.fieldLink RX4 19 "PlaneWholes$Net" "t" "I" : Cond) ∈ wsX4_sizeOf := List.mem_of_getElem? (i := 1) rfl
theorem qX4_sizeOf_2 : (.fieldLink RX4 26 "PlaneWholes$Net" "n" "I" : Cond) ∈ wsX4_sizeOf := List.mem_of_getElem? (i := 2) rfl
theorem nX4_sizeOf_X4 : ∀ w ∈ wsX40, w ∈ wsX4_sizeOf := fun _ h => List.mem_cons_of_mem _ (List.mem_append_right _ h)
set_option maxRecDepth 20000 in
theorem gX4_sizeOf_X4_first : GoodIn wsX4_sizeOf (va_wsS RX4 44 yX4_first wsX4_first) := gI _ [3, 4, 5, 6] rfl rfl
set_option maxRecDepth 20000 in
theorem gX4_sizeOf_X4_second : GoodIn wsX4_sizeOf (va_wsS RX4 48 yX4_second wsX4_second) := gI _ [7, 8, 5, 9] rfl rfl
theorem hv_X4_sizeOf : yX4_sizeOf.cls = RX4 ∧ yX4_sizeOf.cls ≠ "java/lang/invoke/MethodHandle" ∧ yX4_sizeOf.cls ≠ "java/lang/invoke/VarHandle" ∧ (parseMethodDescriptor yX4_sizeOf.desc).map (fun d => d.parameters.length) = some 1 := by decide +kernel
set_option maxHeartbeats 8000000 in
set_option maxRecDepth 100000 in
theorem c_X4_sizeOf (l : Launch) (dC : Nat → ClassId) (dI : Nat → Nat → Nat) (rA : Nat → Nat) (kA : Nat → ClassId) (net_t net_n net_units : Int32) (net_spin : Int64) (v1 : Int64) : Met l yX4_sizeOf wsX4_sizeOf ({ frames := 1, cells := 0, slots := 0, locals := 21 }) (va_Pc [.ref (rA 1), .long v1] (px (dC, dI) [ce_net rA net_t net_n net_units net_spin] [])) (gq_l (f_X4_sizeOf net_t net_n v1)) 0 0 (fun _ => False) := by
  refine Met.ofW (cc := cX4_sizeOf) (maxL := 7) (ret := (some .long)) (by decide) rfl ?_
  intro p e s m args below meth c s₁ B hml hv
  obtain ⟨rfl, hP, hK, hN⟩ := hv
  have hx := B.exec
  have hb := B.bytes
  have hr := B.returns
  have hts := atoms_spec (ws := wsX4_sizeOf) B.pre
  have hown : s.vm.findClass RX4 = some m.cls := findClass_of_methodNamed B.named
  have hlocks := B.notSynchronized
  have hl := lv_entry ([.ref (rA 1), .long v1]) (n := 7) (Nat.le_of_ble_eq_true rfl)
  rw [lg_entry_eq]
  generalize (lg_sl ([.ref (rA 1), .long v1]) ++ List.replicate (7 - (lg_sl ([.ref (rA 1), .long v1])).length) Slot.unset).toArray = ls at hl ⊢
  have hl : lv_has ls 7 [(0, .ref (rA 1)), (1, .long v1)] := hl
  generalize hf : (f_X4_sizeOf net_t net_n v1) = z
  unfold f_X4_sizeOf at hf
  refine lv_lload_n hx hb dX4_sizeOf_0 rfl (lv_at hl 1 rfl) ?_
  have hPc := hP.sub (ws' := []) [] rfl
  refine kp_l (va_runS (As := [.long v1]) (rest := []) ⟨hx, hb, hml, hown, hts⟩ (c_X4_first l dC dI rA kA v1) (va_cwS 1 hts gX4_sizeOf_X4_first rfl rfl rfl hs_X4_first ⟨Nat.le_of_ble_eq_true rfl, Nat.le_of_ble_eq_true rfl⟩) ⟨fb_p, pre_p hPc hK hN⟩ rfl rfl hl.1 rfl (lv_room (Nat.le_of_ble_eq_true rfl)) dX4_sizeOf_1 ⟨Nat.le_of_ble_eq_true rfl, Nat.le_of_ble_eq_true rfl⟩) ?_
  refine lv_lstore_n (lv' := [(3, .long (f_X4_first v1)), (0, .ref (rA 1)), (1, .long v1)]) hx hb dX4_sizeOf_4 rfl hl (by decide) rfl (fun ls hl => ?_)
  refine lv_lload_n hx hb dX4_sizeOf_5 rfl (lv_at hl 2 rfl) ?_
  have hPc := hP.sub (ws' := []) [] rfl
  refine kp_l (va_runS (As := [.long v1]) (rest := []) ⟨hx, hb, hml, hown, hts⟩ (c_X4_second l dC dI rA kA v1) (va_cwS 1 hts gX4_sizeOf_X4_second rfl rfl rfl hs_X4_second ⟨Nat.le_of_ble_eq_true rfl, Nat.le_of_ble_eq_true rfl⟩) ⟨fb_p, pre_p hPc hK hN⟩ rfl rfl hl.1 rfl (lv_room (Nat.le_of_ble_eq_true rfl)) dX4_sizeOf_6 ⟨Nat.le_of_ble_eq_true rfl, Nat.le_of_ble_eq_true rfl⟩) ?_
  refine lv_lstore (lv' := [(5, .long (f_X4_second v1)), (3, .long (f_X4_first v1)), (0, .ref (rA 1)), (1, .long v1)]) hx hb dX4_sizeOf_9 hl (by decide) rfl (fun ls hl => ?_)
  refine lv_lload_n hx hb dX4_sizeOf_11 rfl (lv_at hl 1 rfl) ?_
  refine lv_lload_n hx hb dX4_sizeOf_12 rfl (lv_at hl 1 rfl) ?_
  refine lv_lmul hx hb dX4_sizeOf_13 ?_
  refine lv_aload_n hx hb dX4_sizeOf_14 rfl (lv_at hl 2 rfl) ?_
  refine va_get (D := (dC, dI)) (ci := 4) (v := .int net_t) (C := RX4) (T := TX4) (N := 4) hx hb hts nX4_sizeOf_X4 hown hK hP 0 rfl rfl 0 (by decide) (hts _ qX4_sizeOf_1) (fun _ h9 => h9) rfl dX4_sizeOf_15 ?_
  refine lv_i2l (v := net_t.toInt64) hx hb dX4_sizeOf_18 rfl ?_
  refine lv_lload_n hx hb dX4_sizeOf_19 rfl (lv_at hl 1 rfl) ?_
  refine lv_lmul hx hb dX4_sizeOf_20 ?_
  refine lv_lload hx hb dX4_sizeOf_21 (lv_at hl 0 rfl) ?_
  refine lv_lmul hx hb dX4_sizeOf_23 ?_
  refine lv_ladd hx hb dX4_sizeOf_24 ?_
  refine lv_aload_n hx hb dX4_sizeOf_25 rfl (lv_at hl 2 rfl) ?_
  refine va_get (D := (dC, dI)) (ci := 4) (v := .int net_n) (C := RX4) (T := TX4) (N := 4) hx hb hts nX4_sizeOf_X4 hown hK hP 0 rfl rfl 1 (by decide) (hts _ qX4_sizeOf_2) (fun _ h9 => h9) rfl dX4_sizeOf_26 ?_
  refine lv_i2l (v := net_n.toInt64) hx hb dX4_sizeOf_29 rfl ?_
  refine lv_lload hx hb dX4_sizeOf_30 (lv_at hl 0 rfl) ?_
  refine lv_lmul hx hb dX4_sizeOf_32 ?_
  refine lv_lload hx hb dX4_sizeOf_33 (lv_at hl 0 rfl) ?_
  refine lv_lmul hx hb dX4_sizeOf_35 ?_
  refine lv_ladd hx hb dX4_sizeOf_36 ?_
  exact W.lret (v := ((((f_X4_first v1) * (f_X4_first v1)) + ((net_t.toInt64 * (f_X4_first v1)) * (f_X4_second v1))) + ((net_n.toInt64 * (f_X4_second v1)) * (f_X4_second v1)))) hx hb hr (fun t ht hW => ⟨congrArg (fun q => Outcome.returned (some (.long q))) hf, ht⟩) (fun _ h => nomatch h) dX4_sizeOf_37
def f_X4_isGreater (v0 v2 : Int64) : Int32 :=
  if (f_X4_first v2) < (f_X4_first v0) then
    (1 : Int32)
  else
    if (f_X4_first v0) = (f_X4_first v2) then
      if (f_X4_second v0) ≤ (f_X4_second v2) then
        (0 : Int32)
      else
        (1 : Int32)
    else
      (0 : Int32)
set_option maxRecDepth 20000 in
theorem gX4_isGreater_X4_first : GoodIn wsX4_isGreater (va_wsS RX4 44 yX4_first wsX4_first) := gI _ [1, 2, 3, 4] rfl rfl
set_option maxRecDepth 20000 in
theorem gX4_isGreater_X4_second : GoodIn wsX4_isGreater (va_wsS RX4 48 yX4_second wsX4_second) := gI _ [5, 6, 3, 7] rfl rfl
theorem hs_X4_isGreater : yX4_isGreater.cls ≠ "java/lang/invoke/MethodHandle" ∧ yX4_isGreater.cls ≠ "java/lang/invoke/VarHandle" ∧ (parseMethodDescriptor yX4_isGreater.desc).map (fun d => d.parameters.length) = some 2 := by decide +kernel
set_option maxHeartbeats 8000000 in
set_option maxRecDepth 100000 in
theorem c_X4_isGreater (l : Launch) (dC : Nat → ClassId) (dI : Nat → Nat → Nat) (rA : Nat → Nat) (kA : Nat → ClassId) (v0 v2 : Int64) : Met l yX4_isGreater wsX4_isGreater ({ frames := 1, cells := 0, slots := 0, locals := 21 }) (va_Pc [.long v0, .long v2] (px (dC, dI) [] [])) (gq_i (f_X4_isGreater v0 v2)) 0 0 (fun _ => False) := by
  refine Met.ofW (cc := cX4_isGreater) (maxL := 4) (ret := (some .boolean)) (by decide) rfl ?_
  intro p e s m args below meth c s₁ B hml hv
  obtain ⟨rfl, hP, hK, hN⟩ := hv
  have hx := B.exec
  have hb := B.bytes
  have hr := B.returns
  have hts := atoms_spec (ws := wsX4_isGreater) B.pre
  have hown : s.vm.findClass RX4 = some m.cls := findClass_of_methodNamed B.named
  have hlocks := B.notSynchronized
  have hl := lv_entry ([.long v0, .long v2]) (n := 4) (Nat.le_of_ble_eq_true rfl)
  rw [lg_entry_eq]
  generalize (lg_sl ([.long v0, .long v2]) ++ List.replicate (4 - (lg_sl ([.long v0, .long v2])).length) Slot.unset).toArray = ls at hl ⊢
  have hl : lv_has ls 4 [(0, .long v0), (2, .long v2)] := hl
  generalize hf : (f_X4_isGreater v0 v2) = z
  unfold f_X4_isGreater at hf
  refine lv_lload_n hx hb dX4_isGreater_0 rfl (lv_at hl 0 rfl) ?_
  refine kp_l (va_runS (As := [.long v0]) (rest := []) ⟨hx, hb, hml, hown, hts⟩ (c_X4_first l dC dI rA kA v0) (va_cwS 1 hts gX4_isGreater_X4_first rfl rfl rfl hs_X4_first ⟨Nat.le_of_ble_eq_true rfl, Nat.le_of_ble_eq_true rfl⟩) ⟨fb_p, pre_p hP hK hN⟩ rfl rfl hl.1 rfl (lv_room (Nat.le_of_ble_eq_true rfl)) dX4_isGreater_1 ⟨Nat.le_of_ble_eq_true rfl, Nat.le_of_ble_eq_true rfl⟩) ?_
  refine lv_lload_n hx hb dX4_isGreater_4 rfl (lv_at hl 1 rfl) ?_
  refine kp_l (va_runS (As := [.long v2]) (rest := [.long (f_X4_first v0)]) ⟨hx, hb, hml, hown, hts⟩ (c_X4_first l dC dI rA kA v2) (va_cwS 1 hts gX4_isGreater_X4_first rfl rfl rfl hs_X4_first ⟨Nat.le_of_ble_eq_true rfl, Nat.le_of_ble_eq_true rfl⟩) ⟨fb_p, pre_p hP hK hN⟩ rfl rfl hl.1 rfl (lv_room (Nat.le_of_ble_eq_true rfl)) dX4_isGreater_5 ⟨Nat.le_of_ble_eq_true rfl, Nat.le_of_ble_eq_true rfl⟩) ?_
  refine W.lcmp hx hb dX4_isGreater_8 ?_
  refine lv_if_gt (tgt := 36) hx hb dX4_isGreater_9 (by decide) (fun c3 => ?_) (fun c3 => ?_)
  · have hf := it_t ((lg_cmp_gt (f_X4_first v0) (f_X4_first v2)).mp c3) hf
    refine lv_iconst (v := (1 : Int32)) hx hb dX4_isGreater_36 (by decide) ?_
    refine lv_goto (tgt := 41) hx hb dX4_isGreater_37 (by decide) ?_
    exact W.zret (v := (1 : Int32)) (ty := .boolean) hx hb hr rfl (fun t ht hW => ⟨congrArg (fun q => Outcome.returned (some (.int q))) hf, ht⟩) (fun _ h => nomatch h) dX4_isGreater_41
  · have hf := it_f (fun h => c3 ((lg_cmp_gt (f_X4_first v0) (f_X4_first v2)).mpr h)) hf
    refine lv_lload_n hx hb dX4_isGreater_12 rfl (lv_at hl 0 rfl) ?_
    refine kp_l (va_runS (As := [.long v0]) (rest := []) ⟨hx, hb, hml, hown, hts⟩ (c_X4_first l dC dI rA kA v0) (va_cwS 1 hts gX4_isGreater_X4_first rfl rfl rfl hs_X4_first ⟨Nat.le_of_ble_eq_true rfl, Nat.le_of_ble_eq_true rfl⟩) ⟨fb_p, pre_p hP hK hN⟩ rfl rfl hl.1 rfl (lv_room (Nat.le_of_ble_eq_true rfl)) dX4_isGreater_13 ⟨Nat.le_of_ble_eq_true rfl, Nat.le_of_ble_eq_true rfl⟩) ?_
    refine lv_lload_n hx hb dX4_isGreater_16 rfl (lv_at hl 1 rfl) ?_
    refine kp_l (va_runS (As := [.long v2]) (rest := [.long (f_X4_first v0)]) ⟨hx, hb, hml, hown, hts⟩ (c_X4_first l dC dI rA kA v2) (va_cwS 1 hts gX4_isGreater_X4_first rfl rfl rfl hs_X4_first ⟨Nat.le_of_ble_eq_true rfl, Nat.le_of_ble_eq_true rfl⟩) ⟨fb_p, pre_p hP hK hN⟩ rfl rfl hl.1 rfl (lv_room (Nat.le_of_ble_eq_true rfl)) dX4_isGreater_17 ⟨Nat.le_of_ble_eq_true rfl, Nat.le_of_ble_eq_true rfl⟩) ?_
    refine W.lcmp hx hb dX4_isGreater_20 ?_
    refine lv_if_ne (tgt := 40) hx hb dX4_isGreater_21 (by decide) (fun c6 => ?_) (fun c6 => ?_)
    · have hf := it_f (fun h => c6 ((lg_cmp_eq (f_X4_first v0) (f_X4_first v2)).mpr h)) hf
      refine lv_iconst (v := (0 : Int32)) hx hb dX4_isGreater_40 (by decide) ?_
      exact W.zret (v := (0 : Int32)) (ty := .boolean) hx hb hr rfl (fun t ht hW => ⟨congrArg (fun q => Outcome.returned (some (.int q))) hf, ht⟩) (fun _ h => nomatch h) dX4_isGreater_41
    · have hf := it_t ((lg_cmp_eq (f_X4_first v0) (f_X4_first v2)).mp c6) hf
      refine lv_lload_n hx hb dX4_isGreater_24 rfl (lv_at hl 0 rfl) ?_
      refine kp_l (va_runS (As := [.long v0]) (rest := []) ⟨hx, hb, hml, hown, hts⟩ (c_X4_second l dC dI rA kA v0) (va_cwS 1 hts gX4_isGreater_X4_second rfl rfl rfl hs_X4_second ⟨Nat.le_of_ble_eq_true rfl, Nat.le_of_ble_eq_true rfl⟩) ⟨fb_p, pre_p hP hK hN⟩ rfl rfl hl.1 rfl (lv_room (Nat.le_of_ble_eq_true rfl)) dX4_isGreater_25 ⟨Nat.le_of_ble_eq_true rfl, Nat.le_of_ble_eq_true rfl⟩) ?_
      refine lv_lload_n hx hb dX4_isGreater_28 rfl (lv_at hl 1 rfl) ?_
      refine kp_l (va_runS (As := [.long v2]) (rest := [.long (f_X4_second v0)]) ⟨hx, hb, hml, hown, hts⟩ (c_X4_second l dC dI rA kA v2) (va_cwS 1 hts gX4_isGreater_X4_second rfl rfl rfl hs_X4_second ⟨Nat.le_of_ble_eq_true rfl, Nat.le_of_ble_eq_true rfl⟩) ⟨fb_p, pre_p hP hK hN⟩ rfl rfl hl.1 rfl (lv_room (Nat.le_of_ble_eq_true rfl)) dX4_isGreater_29 ⟨Nat.le_of_ble_eq_true rfl, Nat.le_of_ble_eq_true rfl⟩) ?_
      refine W.lcmp hx hb dX4_isGreater_32 ?_
      refine lv_if_le (tgt := 40) hx hb dX4_isGreater_33 (by decide) (fun c9 => ?_) (fun c9 => ?_)
      · have hf := it_t ((lg_cmp_le (f_X4_second v0) (f_X4_second v2)).mp c9) hf
        refine lv_iconst (v := (0 : Int32)) hx hb dX4_isGreater_40 (by decide) ?_
        exact W.zret (v := (0 : Int32)) (ty := .boolean) hx hb hr rfl (fun t ht hW => ⟨congrArg (fun q => Outcome.returned (some (.int q))) hf, ht⟩) (fun _ h => nomatch h) dX4_isGreater_41
      · have hf := it_f (fun h => c9 ((lg_cmp_le (f_X4_second v0) (f_X4_second v2)).mpr h)) hf
        refine lv_iconst (v := (1 : Int32)) hx hb dX4_isGreater_36 (by decide) ?_
        refine lv_goto (tgt := 41) hx hb dX4_isGreater_37 (by decide) ?_
        exact W.zret (v := (1 : Int32)) (ty := .boolean) hx hb hr rfl (fun t ht hW => ⟨congrArg (fun q => Outcome.returned (some (.int q))) hf, ht⟩) (fun _ h => nomatch h) dX4_isGreater_41
noncomputable def f_X4_shaper_K15_65 (v5 : Int64) : Option Int64 :=
    some v5
noncomputable def f_X4_shaper_L15 (net_t net_n net_units : Int32) (net_spin v1 : Int64) (s15 : (Int64 × Int64 × Int64 × Int32)) : Option ((Int64 × Int64 × Int64 × Int32) ⊕ Int64) :=
    if net_units ≤ s15.2.2.2 then
      some (Sum.inr s15.2.1)
    else
      if (f_X4_isGreater (f_X4_times net_t net_n (f_X4_times net_t net_n s15.1 net_spin) v1) s15.2.2.1) = 0 then
        some (Sum.inl ((f_X4_times net_t net_n s15.1 net_spin), s15.2.1, s15.2.2.1, (s15.2.2.2 + (1 : Int32))))
      else
        some (Sum.inl ((f_X4_times net_t net_n s15.1 net_spin), (f_X4_times net_t net_n s15.1 net_spin), (f_X4_times net_t net_n (f_X4_times net_t net_n s15.1 net_spin) v1), (s15.2.2.2 + (1 : Int32))))
noncomputable def f_X4_shaper (net_t net_n net_units : Int32) (net_spin v1 : Int64) : Option Int64 :=
  Option.bind (whl (f_X4_shaper_L15 net_t net_n net_units net_spin v1) ((4294967296 : Int64), (4294967296 : Int64), v1, (1 : Int32))) (fun y15 => f_X4_shaper_K15_65 y15)
theorem qX4_shaper_1 : (.constantLong RX4 51 (4294967296) : Cond) ∈ wsX4_shaper := List.mem_of_getElem? (i := 1) rfl
theorem qX4_shaper_2 : (.fieldLink RX4 29 "PlaneWholes$Net" "units" "I" : Cond) ∈ wsX4_shaper := List.mem_of_getElem? (i := 2) rfl
theorem qX4_shaper_3 : (.fieldLink RX4 38 "PlaneWholes$Net" "spin" "J" : Cond) ∈ wsX4_shaper := List.mem_of_getElem? (i := 3) rfl
theorem nX4_shaper_X4 : ∀ w ∈ wsX40, w ∈ wsX4_shaper := fun _ h => List.mem_cons_of_mem _ (List.mem_append_right _ h)
set_option maxRecDepth 20000 in
theorem gX4_shaper_X4_times : GoodIn wsX4_shaper (wsV RX4 53 RX4 yX4_times wsX4_times) := gI _ [4, 5, 6, 7, 8, 9, 10, 11, 12, 7, 13, 14, 15, 16, 17, 18, 19, 20, 24, 25, 26, 27] rfl rfl
set_option maxRecDepth 20000 in
theorem gX4_shaper_X4_isGreater : GoodIn wsX4_shaper (va_wsS RX4 56 yX4_isGreater wsX4_isGreater) := gI _ [21, 22, 7, 23, 14, 15, 7, 16, 11, 12, 13] rfl rfl
theorem hv_X4_shaper : yX4_shaper.cls = RX4 ∧ yX4_shaper.cls ≠ "java/lang/invoke/MethodHandle" ∧ yX4_shaper.cls ≠ "java/lang/invoke/VarHandle" ∧ (parseMethodDescriptor yX4_shaper.desc).map (fun d => d.parameters.length) = some 1 := by decide +kernel
set_option maxHeartbeats 8000000 in
set_option maxRecDepth 100000 in
theorem c_X4_shaper (l : Launch) (dC : Nat → ClassId) (dI : Nat → Nat → Nat) (rA : Nat → Nat) (kA : Nat → ClassId) (net_t net_n net_units : Int32) (net_spin : Int64) (v1 : Int64) {z : Int64} (hf : f_X4_shaper net_t net_n net_units net_spin v1 = some z) : Met l yX4_shaper wsX4_shaper ({ frames := 2, cells := 0, slots := 0, locals := 49 }) (va_Pc [.ref (rA 1), .long v1] (px (dC, dI) [ce_net rA net_t net_n net_units net_spin] [])) (gq_l z) 0 0 (fun _ => False) := by
  refine Met.ofW (cc := cX4_shaper) (maxL := 12) (ret := (some .long)) (by decide) rfl ?_
  intro p e s m args below meth c s₁ B hml hv
  obtain ⟨rfl, hP, hK, hN⟩ := hv
  have hx := B.exec
  have hb := B.bytes
  have hr := B.returns
  have hts := atoms_spec (ws := wsX4_shaper) B.pre
  have hown : s.vm.findClass RX4 = some m.cls := findClass_of_methodNamed B.named
  have hlocks := B.notSynchronized
  have hl := lv_entry ([.ref (rA 1), .long v1]) (n := 12) (Nat.le_of_ble_eq_true rfl)
  rw [lg_entry_eq]
  generalize (lg_sl ([.ref (rA 1), .long v1]) ++ List.replicate (12 - (lg_sl ([.ref (rA 1), .long v1])).length) Slot.unset).toArray = ls at hl ⊢
  have hl : lv_has ls 12 [(0, .ref (rA 1)), (1, .long v1)] := hl
  refine wg (fun WG hi ho => ?_)
  refine hi _ _ _ ?_
  unfold f_X4_shaper at hf
  refine lv_ldc2 (v := (4294967296 : Int64)) hx hb hown (hts _ qX4_shaper_1) dX4_shaper_0 ?_
  refine lv_lstore_n (lv' := [(3, .long (4294967296 : Int64)), (0, .ref (rA 1)), (1, .long v1)]) hx hb dX4_shaper_3 rfl hl (by decide) rfl (fun ls hl => ?_)
  refine lv_ldc2 (v := (4294967296 : Int64)) hx hb hown (hts _ qX4_shaper_1) dX4_shaper_4 ?_
  refine lv_lstore (lv' := [(5, .long (4294967296 : Int64)), (3, .long (4294967296 : Int64)), (0, .ref (rA 1)), (1, .long v1)]) hx hb dX4_shaper_7 hl (by decide) rfl (fun ls hl => ?_)
  refine lv_lload_n hx hb dX4_shaper_9 rfl (lv_at hl 3 rfl) ?_
  refine lv_lstore (lv' := [(7, .long v1), (5, .long (4294967296 : Int64)), (3, .long (4294967296 : Int64)), (0, .ref (rA 1)), (1, .long v1)]) hx hb dX4_shaper_10 hl (by decide) rfl (fun ls hl => ?_)
  refine lv_iconst (v := (1 : Int32)) hx hb dX4_shaper_12 (by decide) ?_
  refine lv_istore (lv' := [(9, .int (1 : Int32)), (7, .long v1), (5, .long (4294967296 : Int64)), (3, .long (4294967296 : Int64)), (0, .ref (rA 1)), (1, .long v1)]) hx hb dX4_shaper_13 hl (by decide) rfl (fun ls hl => ?_)
  obtain ⟨x15, k15, h015, hk15⟩ := whl_b hf
  have KT15_65 : ∀ (y15_65_5 : Int64), ∀ (ls : Array Slot), f_X4_shaper_K15_65 y15_65_5 = some z → lv_has ls 12 [(5, .long y15_65_5)] → WG s.heap [] (F0 m 65 ls []) := by
    intro y15_65_5 ls hf hl
    unfold f_X4_shaper_K15_65 at hf
    refine hi _ _ _ ?_
    refine lv_lload hx hb dX4_shaper_65 (lv_at hl 0 rfl) ?_
    exact W.lret (v := y15_65_5) hx hb hr (fun t ht hW => ⟨congrArg (fun q => Outcome.returned (some (.long q))) (Option.some.inj hf), ht⟩) (fun _ h => nomatch h) dX4_shaper_67
  have LP15 : ∀ (k : Nat) (s15 : (Int64 × Int64 × Int64 × Int32)) (ls : Array Slot), itr (f_X4_shaper_L15 net_t net_n net_units net_spin v1) k s15 = some x15 → lv_has ls 12 [(0, .ref (rA 1)), (1, .long v1), (3, .long s15.1), (5, .long s15.2.1), (7, .long s15.2.2.1), (9, .int s15.2.2.2)] → WG s.heap [] (F0 m 15 ls []) := by
    intro k
    induction k with
    | zero => intro s15 ls h; exact itr_0 h
    | succ k ih =>
      intro s15 ls h0 hl
      obtain ⟨z15, hf, hz⟩ := itr_in h0
      unfold f_X4_shaper_L15 at hf
      refine hi _ _ _ ?_
      refine lv_iload hx hb dX4_shaper_15 (lv_at hl 5 rfl) ?_
      refine lv_aload_n hx hb dX4_shaper_17 rfl (lv_at hl 0 rfl) ?_
      refine va_get (D := (dC, dI)) (ci := 4) (v := .int net_units) (C := RX4) (T := TX4) (N := 4) hx hb hts nX4_shaper_X4 hown hK hP 0 rfl rfl 2 (by decide) (hts _ qX4_shaper_2) (fun _ h9 => h9) rfl dX4_shaper_18 ?_
      refine lv_icmp_ge (tgt := 65) hx hb dX4_shaper_21 (by decide) (fun c1 => ?_) (fun c1 => ?_)
      · have hf := it_t c1 hf
        exact ho _ _ _ (KT15_65 s15.2.1 ls (by rw [← itz_r hf hz] at hk15; exact hk15) (lv_sub hl [3] rfl))
      · have hf := it_f c1 hf
        refine lv_aload_n hx hb dX4_shaper_24 rfl (lv_at hl 0 rfl) ?_
        refine lv_lload_n hx hb dX4_shaper_25 rfl (lv_at hl 2 rfl) ?_
        refine lv_aload_n hx hb dX4_shaper_26 rfl (lv_at hl 0 rfl) ?_
        refine va_get (D := (dC, dI)) (ci := 4) (v := .long net_spin) (C := RX4) (T := TX4) (N := 4) hx hb hts nX4_shaper_X4 hown hK hP 0 rfl rfl 3 (by decide) (hts _ qX4_shaper_3) (fun _ h9 => h9) rfl dX4_shaper_27 ?_
        refine kp_l (va_runV (As := [.long s15.1, .long net_spin]) (rest := []) ⟨hx, hb, hml, hown, hts⟩ (c_X4_times l dC dI rA kA net_t net_n net_units net_spin s15.1 net_spin) (cwV 2 hts gX4_shaper_X4_times rfl rfl rfl hv_X4_times ⟨Nat.le_of_ble_eq_true rfl, Nat.le_of_ble_eq_true rfl⟩) ⟨fb_p, va_recv hK hP (ci := 4) (q0 := 0) rfl rfl, pre_p hP hK hN⟩ rfl rfl hl.1 rfl (lv_room (Nat.le_of_ble_eq_true rfl)) dX4_shaper_30 ⟨Nat.le_of_ble_eq_true rfl, Nat.le_of_ble_eq_true rfl⟩) ?_
        refine lv_lstore_n (lv' := [(3, .long (f_X4_times net_t net_n s15.1 net_spin)), (0, .ref (rA 1)), (1, .long v1), (5, .long s15.2.1), (7, .long s15.2.2.1), (9, .int s15.2.2.2)]) hx hb dX4_shaper_33 rfl hl (by decide) rfl (fun ls hl => ?_)
        refine lv_aload_n hx hb dX4_shaper_34 rfl (lv_at hl 1 rfl) ?_
        refine lv_lload_n hx hb dX4_shaper_35 rfl (lv_at hl 0 rfl) ?_
        refine lv_lload_n hx hb dX4_shaper_36 rfl (lv_at hl 2 rfl) ?_
        refine kp_l (va_runV (As := [.long (f_X4_times net_t net_n s15.1 net_spin), .long v1]) (rest := []) ⟨hx, hb, hml, hown, hts⟩ (c_X4_times l dC dI rA kA net_t net_n net_units net_spin (f_X4_times net_t net_n s15.1 net_spin) v1) (cwV 2 hts gX4_shaper_X4_times rfl rfl rfl hv_X4_times ⟨Nat.le_of_ble_eq_true rfl, Nat.le_of_ble_eq_true rfl⟩) ⟨fb_p, va_recv hK hP (ci := 4) (q0 := 0) rfl rfl, pre_p hP hK hN⟩ rfl rfl hl.1 rfl (lv_room (Nat.le_of_ble_eq_true rfl)) dX4_shaper_37 ⟨Nat.le_of_ble_eq_true rfl, Nat.le_of_ble_eq_true rfl⟩) ?_
        refine lv_lstore (lv' := [(10, .long (f_X4_times net_t net_n (f_X4_times net_t net_n s15.1 net_spin) v1)), (3, .long (f_X4_times net_t net_n s15.1 net_spin)), (0, .ref (rA 1)), (1, .long v1), (5, .long s15.2.1), (7, .long s15.2.2.1), (9, .int s15.2.2.2)]) hx hb dX4_shaper_40 hl (by decide) rfl (fun ls hl => ?_)
        refine lv_lload hx hb dX4_shaper_42 (lv_at hl 0 rfl) ?_
        refine lv_lload hx hb dX4_shaper_44 (lv_at hl 5 rfl) ?_
        have hPc := hP.sub (ws' := []) [] rfl
        refine kp_i (va_runS (As := [.long (f_X4_times net_t net_n (f_X4_times net_t net_n s15.1 net_spin) v1), .long s15.2.2.1]) (rest := []) ⟨hx, hb, hml, hown, hts⟩ (c_X4_isGreater l dC dI rA kA (f_X4_times net_t net_n (f_X4_times net_t net_n s15.1 net_spin) v1) s15.2.2.1) (va_cwS 2 hts gX4_shaper_X4_isGreater rfl rfl rfl hs_X4_isGreater ⟨Nat.le_of_ble_eq_true rfl, Nat.le_of_ble_eq_true rfl⟩) ⟨fb_p, pre_p hPc hK hN⟩ rfl rfl hl.1 rfl (lv_room (Nat.le_of_ble_eq_true rfl)) dX4_shaper_46 ⟨Nat.le_of_ble_eq_true rfl, Nat.le_of_ble_eq_true rfl⟩) ?_
        refine lv_if_eq (tgt := 59) hx hb dX4_shaper_49 (by decide) (fun c5 => ?_) (fun c5 => ?_)
        · have hf := it_t c5 hf
          refine lv_iinc (v := (s15.2.2.2 + (1 : Int32))) (lv' := [(9, .int (s15.2.2.2 + (1 : Int32))), (10, .long (f_X4_times net_t net_n (f_X4_times net_t net_n s15.1 net_spin) v1)), (3, .long (f_X4_times net_t net_n s15.1 net_spin)), (0, .ref (rA 1)), (1, .long v1), (5, .long s15.2.1), (7, .long s15.2.2.1)]) hx hb dX4_shaper_59 hl (k := 6) rfl rfl (by decide) rfl (fun ls hl => ?_)
          refine lv_goto (tgt := 15) hx hb dX4_shaper_62 (by decide) ?_
          exact ho _ _ _ (ih _ _ (itz_l hf hz) (lv_sub hl [3, 4, 2, 5, 6, 0] rfl))
        · have hf := it_f c5 hf
          refine lv_lload_n hx hb dX4_shaper_52 rfl (lv_at hl 1 rfl) ?_
          refine lv_lstore (lv' := [(5, .long (f_X4_times net_t net_n s15.1 net_spin)), (10, .long (f_X4_times net_t net_n (f_X4_times net_t net_n s15.1 net_spin) v1)), (3, .long (f_X4_times net_t net_n s15.1 net_spin)), (0, .ref (rA 1)), (1, .long v1), (7, .long s15.2.2.1), (9, .int s15.2.2.2)]) hx hb dX4_shaper_53 hl (by decide) rfl (fun ls hl => ?_)
          refine lv_lload hx hb dX4_shaper_55 (lv_at hl 1 rfl) ?_
          refine lv_lstore (lv' := [(7, .long (f_X4_times net_t net_n (f_X4_times net_t net_n s15.1 net_spin) v1)), (5, .long (f_X4_times net_t net_n s15.1 net_spin)), (10, .long (f_X4_times net_t net_n (f_X4_times net_t net_n s15.1 net_spin) v1)), (3, .long (f_X4_times net_t net_n s15.1 net_spin)), (0, .ref (rA 1)), (1, .long v1), (9, .int s15.2.2.2)]) hx hb dX4_shaper_57 hl (by decide) rfl (fun ls hl => ?_)
          refine lv_iinc (v := (s15.2.2.2 + (1 : Int32))) (lv' := [(9, .int (s15.2.2.2 + (1 : Int32))), (7, .long (f_X4_times net_t net_n (f_X4_times net_t net_n s15.1 net_spin) v1)), (5, .long (f_X4_times net_t net_n s15.1 net_spin)), (10, .long (f_X4_times net_t net_n (f_X4_times net_t net_n s15.1 net_spin) v1)), (3, .long (f_X4_times net_t net_n s15.1 net_spin)), (0, .ref (rA 1)), (1, .long v1)]) hx hb dX4_shaper_59 hl (k := 6) rfl rfl (by decide) rfl (fun ls hl => ?_)
          refine lv_goto (tgt := 15) hx hb dX4_shaper_62 (by decide) ?_
          exact ho _ _ _ (ih _ _ (itz_l hf hz) (lv_sub hl [5, 6, 4, 2, 1, 0] rfl))
  exact ho _ _ _ (LP15 k15 ((4294967296 : Int64), (4294967296 : Int64), v1, (1 : Int32)) ls h015 (lv_sub hl [4, 5, 3, 2, 1, 0] rfl))
noncomputable def f_X4_shape (net_t net_n net_units : Int32) (net_spin v1 : Int64) : Option Int64 :=
  Option.bind (f_X4_shaper net_t net_n net_units net_spin v1) fun p6 =>
  some (f_X4_times net_t net_n p6 v1)
set_option maxRecDepth 20000 in
theorem gX4_shape_X4_shaper : GoodIn wsX4_shape (wsV RX4 60 RX4 yX4_shaper wsX4_shaper) := gI _ [1, 2, 3, 4, 5, 6, 7, 8, 9, 10, 11, 4, 12, 13, 14, 15, 16, 17, 18, 19, 20, 21, 22, 23, 24, 25, 26, 27, 28, 29, 30, 31] rfl rfl
set_option maxRecDepth 20000 in
theorem gX4_shape_X4_times : GoodIn wsX4_shape (wsV RX4 53 RX4 yX4_times wsX4_times) := gI _ [9, 10, 11, 4, 12, 13, 14, 15, 16, 4, 17, 18, 19, 20, 21, 22, 23, 24, 28, 29, 30, 31] rfl rfl
theorem hv_X4_shape : yX4_shape.cls = RX4 ∧ yX4_shape.cls ≠ "java/lang/invoke/MethodHandle" ∧ yX4_shape.cls ≠ "java/lang/invoke/VarHandle" ∧ (parseMethodDescriptor yX4_shape.desc).map (fun d => d.parameters.length) = some 1 := by decide +kernel
set_option maxHeartbeats 8000000 in
set_option maxRecDepth 100000 in
theorem c_X4_shape (l : Launch) (dC : Nat → ClassId) (dI : Nat → Nat → Nat) (rA : Nat → Nat) (kA : Nat → ClassId) (net_t net_n net_units : Int32) (net_spin : Int64) (v1 : Int64) {z : Int64} (hf : f_X4_shape net_t net_n net_units net_spin v1 = some z) : Met l yX4_shape wsX4_shape ({ frames := 3, cells := 0, slots := 0, locals := 80 }) (va_Pc [.ref (rA 1), .long v1] (px (dC, dI) [ce_net rA net_t net_n net_units net_spin] [])) (gq_l z) 0 0 (fun _ => False) := by
  refine Met.ofW (cc := cX4_shape) (maxL := 3) (ret := (some .long)) (by decide) rfl ?_
  intro p e s m args below meth c s₁ B hml hv
  obtain ⟨rfl, hP, hK, hN⟩ := hv
  have hx := B.exec
  have hb := B.bytes
  have hr := B.returns
  have hts := atoms_spec (ws := wsX4_shape) B.pre
  have hown : s.vm.findClass RX4 = some m.cls := findClass_of_methodNamed B.named
  have hlocks := B.notSynchronized
  have hl := lv_entry ([.ref (rA 1), .long v1]) (n := 3) (Nat.le_of_ble_eq_true rfl)
  rw [lg_entry_eq]
  generalize (lg_sl ([.ref (rA 1), .long v1]) ++ List.replicate (3 - (lg_sl ([.ref (rA 1), .long v1])).length) Slot.unset).toArray = ls at hl ⊢
  have hl : lv_has ls 3 [(0, .ref (rA 1)), (1, .long v1)] := hl
  unfold f_X4_shape at hf
  refine lv_aload_n hx hb dX4_shape_0 rfl (lv_at hl 0 rfl) ?_
  refine lv_aload_n hx hb dX4_shape_1 rfl (lv_at hl 0 rfl) ?_
  refine lv_lload_n hx hb dX4_shape_2 rfl (lv_at hl 1 rfl) ?_
  obtain ⟨p1, hb1, hf⟩ := bd_s hf
  refine kp_l (va_runV (As := [.long v1]) (rest := [.ref (rA 1)]) ⟨hx, hb, hml, hown, hts⟩ (c_X4_shaper l dC dI rA kA net_t net_n net_units net_spin v1 hb1) (cwV 1 hts gX4_shape_X4_shaper rfl rfl rfl hv_X4_shaper ⟨Nat.le_of_ble_eq_true rfl, Nat.le_of_ble_eq_true rfl⟩) ⟨fb_p, va_recv hK hP (ci := 4) (q0 := 0) rfl rfl, pre_p hP hK hN⟩ rfl rfl hl.1 rfl (lv_room (Nat.le_of_ble_eq_true rfl)) dX4_shape_3 ⟨Nat.le_of_ble_eq_true rfl, Nat.le_of_ble_eq_true rfl⟩) ?_
  refine lv_lload_n hx hb dX4_shape_6 rfl (lv_at hl 1 rfl) ?_
  refine kp_l (va_runV (As := [.long p1, .long v1]) (rest := []) ⟨hx, hb, hml, hown, hts⟩ (c_X4_times l dC dI rA kA net_t net_n net_units net_spin p1 v1) (cwV 2 hts gX4_shape_X4_times rfl rfl rfl hv_X4_times ⟨Nat.le_of_ble_eq_true rfl, Nat.le_of_ble_eq_true rfl⟩) ⟨fb_p, va_recv hK hP (ci := 4) (q0 := 0) rfl rfl, pre_p hP hK hN⟩ rfl rfl hl.1 rfl (lv_room (Nat.le_of_ble_eq_true rfl)) dX4_shape_7 ⟨Nat.le_of_ble_eq_true rfl, Nat.le_of_ble_eq_true rfl⟩) ?_
  exact W.lret (v := (f_X4_times net_t net_n p1 v1)) hx hb hr (fun t ht hW => ⟨congrArg (fun q => Outcome.returned (some (.long q))) (Option.some.inj hf), ht⟩) (fun _ h => nomatch h) dX4_shape_10
def f_X4_less (v0 v2 : Int64) : Int64 :=
  (f_X4_number ((f_X4_first v0) - (f_X4_first v2)) ((f_X4_second v0) - (f_X4_second v2)))
set_option maxRecDepth 20000 in
theorem gX4_less_X4_first : GoodIn wsX4_less (va_wsS RX4 44 yX4_first wsX4_first) := gI _ [1, 2, 3, 4] rfl rfl
set_option maxRecDepth 20000 in
theorem gX4_less_X4_second : GoodIn wsX4_less (va_wsS RX4 48 yX4_second wsX4_second) := gI _ [5, 6, 3, 7] rfl rfl
set_option maxRecDepth 20000 in
theorem gX4_less_X4_number : GoodIn wsX4_less (va_wsS RX4 32 yX4_number wsX4_number) := gI _ [8, 9, 3, 10, 11] rfl rfl
theorem hs_X4_less : yX4_less.cls ≠ "java/lang/invoke/MethodHandle" ∧ yX4_less.cls ≠ "java/lang/invoke/VarHandle" ∧ (parseMethodDescriptor yX4_less.desc).map (fun d => d.parameters.length) = some 2 := by decide +kernel
set_option maxHeartbeats 8000000 in
set_option maxRecDepth 100000 in
theorem c_X4_less (l : Launch) (dC : Nat → ClassId) (dI : Nat → Nat → Nat) (rA : Nat → Nat) (kA : Nat → ClassId) (v0 v2 : Int64) : Met l yX4_less wsX4_less ({ frames := 1, cells := 0, slots := 0, locals := 23 }) (va_Pc [.long v0, .long v2] (px (dC, dI) [] [])) (gq_l (f_X4_less v0 v2)) 0 0 (fun _ => False) := by
  refine Met.ofW (cc := cX4_less) (maxL := 4) (ret := (some .long)) (by decide) rfl ?_
  intro p e s m args below meth c s₁ B hml hv
  obtain ⟨rfl, hP, hK, hN⟩ := hv
  have hx := B.exec
  have hb := B.bytes
  have hr := B.returns
  have hts := atoms_spec (ws := wsX4_less) B.pre
  have hown : s.vm.findClass RX4 = some m.cls := findClass_of_methodNamed B.named
  have hlocks := B.notSynchronized
  have hl := lv_entry ([.long v0, .long v2]) (n := 4) (Nat.le_of_ble_eq_true rfl)
  rw [lg_entry_eq]
  generalize (lg_sl ([.long v0, .long v2]) ++ List.replicate (4 - (lg_sl ([.long v0, .long v2])).length) Slot.unset).toArray = ls at hl ⊢
  have hl : lv_has ls 4 [(0, .long v0), (2, .long v2)] := hl
  generalize hf : (f_X4_less v0 v2) = z
  unfold f_X4_less at hf
  refine lv_lload_n hx hb dX4_less_0 rfl (lv_at hl 0 rfl) ?_
  refine kp_l (va_runS (As := [.long v0]) (rest := []) ⟨hx, hb, hml, hown, hts⟩ (c_X4_first l dC dI rA kA v0) (va_cwS 1 hts gX4_less_X4_first rfl rfl rfl hs_X4_first ⟨Nat.le_of_ble_eq_true rfl, Nat.le_of_ble_eq_true rfl⟩) ⟨fb_p, pre_p hP hK hN⟩ rfl rfl hl.1 rfl (lv_room (Nat.le_of_ble_eq_true rfl)) dX4_less_1 ⟨Nat.le_of_ble_eq_true rfl, Nat.le_of_ble_eq_true rfl⟩) ?_
  refine lv_lload_n hx hb dX4_less_4 rfl (lv_at hl 1 rfl) ?_
  refine kp_l (va_runS (As := [.long v2]) (rest := [.long (f_X4_first v0)]) ⟨hx, hb, hml, hown, hts⟩ (c_X4_first l dC dI rA kA v2) (va_cwS 1 hts gX4_less_X4_first rfl rfl rfl hs_X4_first ⟨Nat.le_of_ble_eq_true rfl, Nat.le_of_ble_eq_true rfl⟩) ⟨fb_p, pre_p hP hK hN⟩ rfl rfl hl.1 rfl (lv_room (Nat.le_of_ble_eq_true rfl)) dX4_less_5 ⟨Nat.le_of_ble_eq_true rfl, Nat.le_of_ble_eq_true rfl⟩) ?_
  refine lv_lsub hx hb dX4_less_8 ?_
  refine lv_lload_n hx hb dX4_less_9 rfl (lv_at hl 0 rfl) ?_
  refine kp_l (va_runS (As := [.long v0]) (rest := [.long ((f_X4_first v0) - (f_X4_first v2))]) ⟨hx, hb, hml, hown, hts⟩ (c_X4_second l dC dI rA kA v0) (va_cwS 1 hts gX4_less_X4_second rfl rfl rfl hs_X4_second ⟨Nat.le_of_ble_eq_true rfl, Nat.le_of_ble_eq_true rfl⟩) ⟨fb_p, pre_p hP hK hN⟩ rfl rfl hl.1 rfl (lv_room (Nat.le_of_ble_eq_true rfl)) dX4_less_10 ⟨Nat.le_of_ble_eq_true rfl, Nat.le_of_ble_eq_true rfl⟩) ?_
  refine lv_lload_n hx hb dX4_less_13 rfl (lv_at hl 1 rfl) ?_
  refine kp_l (va_runS (As := [.long v2]) (rest := [.long (f_X4_second v0), .long ((f_X4_first v0) - (f_X4_first v2))]) ⟨hx, hb, hml, hown, hts⟩ (c_X4_second l dC dI rA kA v2) (va_cwS 1 hts gX4_less_X4_second rfl rfl rfl hs_X4_second ⟨Nat.le_of_ble_eq_true rfl, Nat.le_of_ble_eq_true rfl⟩) ⟨fb_p, pre_p hP hK hN⟩ rfl rfl hl.1 rfl (lv_room (Nat.le_of_ble_eq_true rfl)) dX4_less_14 ⟨Nat.le_of_ble_eq_true rfl, Nat.le_of_ble_eq_true rfl⟩) ?_
  refine lv_lsub hx hb dX4_less_17 ?_
  refine kp_l (va_runS (As := [.long ((f_X4_first v0) - (f_X4_first v2)), .long ((f_X4_second v0) - (f_X4_second v2))]) (rest := []) ⟨hx, hb, hml, hown, hts⟩ (c_X4_number l dC dI rA kA ((f_X4_first v0) - (f_X4_first v2)) ((f_X4_second v0) - (f_X4_second v2))) (va_cwS 2 hts gX4_less_X4_number rfl rfl rfl hs_X4_number ⟨Nat.le_of_ble_eq_true rfl, Nat.le_of_ble_eq_true rfl⟩) ⟨fb_p, pre_p hP hK hN⟩ rfl rfl hl.1 rfl (lv_room (Nat.le_of_ble_eq_true rfl)) dX4_less_18 ⟨Nat.le_of_ble_eq_true rfl, Nat.le_of_ble_eq_true rfl⟩) ?_
  exact W.lret (v := (f_X4_number ((f_X4_first v0) - (f_X4_first v2)) ((f_X4_second v0) - (f_X4_second v2)))) hx hb hr (fun t ht hW => ⟨congrArg (fun q => Outcome.returned (some (.long q))) hf, ht⟩) (fun _ h => nomatch h) dX4_less_21
noncomputable def f_X7_ratio (v0 v2 : Int64) : Option Int64 :=
  if v2 = (0 : Int64) then
    some (0 : Int64)
  else
    if v2 = 0 then none else
    some (v0 / v2)
theorem hs_X7_ratio : yX7_ratio.cls ≠ "java/lang/invoke/MethodHandle" ∧ yX7_ratio.cls ≠ "java/lang/invoke/VarHandle" ∧ (parseMethodDescriptor yX7_ratio.desc).map (fun d => d.parameters.length) = some 2 := by decide +kernel
set_option maxHeartbeats 8000000 in
set_option maxRecDepth 100000 in
theorem c_X7_ratio (l : Launch) (dC : Nat → ClassId) (dI : Nat → Nat → Nat) (rA : Nat → Nat) (kA : Nat → ClassId) (v0 v2 : Int64) {z : Int64} (hf : f_X7_ratio v0 v2 = some z) : Met l yX7_ratio wsX7_ratio ({ frames := 0, cells := 0, slots := 0, locals := 0 }) (va_Pc [.long v0, .long v2] (px (dC, dI) [] [])) (gq_l z) 0 0 (fun _ => False) := by
  refine Met.ofW (cc := cX7_ratio) (maxL := 4) (ret := (some .long)) (by decide) rfl ?_
  intro p e s m args below meth c s₁ B hml hv
  obtain ⟨rfl, hP, hK, hN⟩ := hv
  have hx := B.exec
  have hb := B.bytes
  have hr := B.returns
  have hts := atoms_spec (ws := wsX7_ratio) B.pre
  have hown : s.vm.findClass RX7 = some m.cls := findClass_of_methodNamed B.named
  have hlocks := B.notSynchronized
  have hl := lv_entry ([.long v0, .long v2]) (n := 4) (Nat.le_of_ble_eq_true rfl)
  rw [lg_entry_eq]
  generalize (lg_sl ([.long v0, .long v2]) ++ List.replicate (4 - (lg_sl ([.long v0, .long v2])).length) Slot.unset).toArray = ls at hl ⊢
  have hl : lv_has ls 4 [(0, .long v0), (2, .long v2)] := hl
  unfold f_X7_ratio at hf
  refine lv_lload_n hx hb dX7_ratio_0 rfl (lv_at hl 1 rfl) ?_
  refine lv_lconst (v := (0 : Int64)) hx hb dX7_ratio_1 (by decide) ?_
  refine W.lcmp hx hb dX7_ratio_2 ?_
  refine lv_if_ne (tgt := 10) hx hb dX7_ratio_3 (by decide) (fun c1 => ?_) (fun c1 => ?_)
  · have hf := it_f (fun h => c1 ((lg_cmp_eq v2 (0 : Int64)).mpr h)) hf
    refine lv_lload_n hx hb dX7_ratio_10 rfl (lv_at hl 0 rfl) ?_
    refine lv_lload_n hx hb dX7_ratio_11 rfl (lv_at hl 1 rfl) ?_
    obtain ⟨hc3, hf⟩ := it_n hf
    refine lv_ldiv hx hb dX7_ratio_12 hc3 ?_
    exact W.lret (v := (v0 / v2)) hx hb hr (fun t ht hW => ⟨congrArg (fun q => Outcome.returned (some (.long q))) (Option.some.inj hf), ht⟩) (fun _ h => nomatch h) dX7_ratio_13
  · have hf := it_t ((lg_cmp_eq v2 (0 : Int64)).mp c1) hf
    refine lv_lconst (v := (0 : Int64)) hx hb dX7_ratio_6 (by decide) ?_
    refine lv_goto (tgt := 13) hx hb dX7_ratio_7 (by decide) ?_
    exact W.lret (v := (0 : Int64)) hx hb hr (fun t ht hW => ⟨congrArg (fun q => Outcome.returned (some (.long q))) (Option.some.inj hf), ht⟩) (fun _ h => nomatch h) dX7_ratio_13
def f_X4_acrossA (net_t net_n : Int32) (v1 v3 : Int64) : Int64 :=
  (((f_X4_first v1) * ((f_X4_first v3) + (net_t.toInt64 * (f_X4_second v3)))) + ((net_n.toInt64 * (f_X4_second v1)) * (f_X4_second v3)))
theorem qX4_acrossA_1 : (.fieldLink RX4 19 "PlaneWholes$Net" "t" "I" : Cond) ∈ wsX4_acrossA := List.mem_of_getElem? (i := 1) rfl
theorem qX4_acrossA_2 : (.fieldLink RX4 26 "PlaneWholes$Net" "n" "I" : Cond) ∈ wsX4_acrossA := List.mem_of_getElem? (i := 2) rfl
theorem nX4_acrossA_X4 : ∀ w ∈ wsX40, w ∈ wsX4_acrossA := fun _ h => List.mem_cons_of_mem _ (List.mem_append_right _ h)
set_option maxRecDepth 20000 in
theorem gX4_acrossA_X4_first : GoodIn wsX4_acrossA (va_wsS RX4 44 yX4_first wsX4_first) := gI _ [3, 4, 5, 6] rfl rfl
set_option maxRecDepth 20000 in
theorem gX4_acrossA_X4_second : GoodIn wsX4_acrossA (va_wsS RX4 48 yX4_second wsX4_second) := gI _ [7, 8, 5, 9] rfl rfl
theorem hv_X4_acrossA : yX4_acrossA.cls = RX4 ∧ yX4_acrossA.cls ≠ "java/lang/invoke/MethodHandle" ∧ yX4_acrossA.cls ≠ "java/lang/invoke/VarHandle" ∧ (parseMethodDescriptor yX4_acrossA.desc).map (fun d => d.parameters.length) = some 2 := by decide +kernel
set_option maxHeartbeats 8000000 in
set_option maxRecDepth 100000 in
theorem c_X4_acrossA (l : Launch) (dC : Nat → ClassId) (dI : Nat → Nat → Nat) (rA : Nat → Nat) (kA : Nat → ClassId) (net_t net_n net_units : Int32) (net_spin : Int64) (v1 v3 : Int64) : Met l yX4_acrossA wsX4_acrossA ({ frames := 1, cells := 0, slots := 0, locals := 21 }) (va_Pc [.ref (rA 1), .long v1, .long v3] (px (dC, dI) [ce_net rA net_t net_n net_units net_spin] [])) (gq_l (f_X4_acrossA net_t net_n v1 v3)) 0 0 (fun _ => False) := by
  refine Met.ofW (cc := cX4_acrossA) (maxL := 5) (ret := (some .long)) (by decide) rfl ?_
  intro p e s m args below meth c s₁ B hml hv
  obtain ⟨rfl, hP, hK, hN⟩ := hv
  have hx := B.exec
  have hb := B.bytes
  have hr := B.returns
  have hts := atoms_spec (ws := wsX4_acrossA) B.pre
  have hown : s.vm.findClass RX4 = some m.cls := findClass_of_methodNamed B.named
  have hlocks := B.notSynchronized
  have hl := lv_entry ([.ref (rA 1), .long v1, .long v3]) (n := 5) (Nat.le_of_ble_eq_true rfl)
  rw [lg_entry_eq]
  generalize (lg_sl ([.ref (rA 1), .long v1, .long v3]) ++ List.replicate (5 - (lg_sl ([.ref (rA 1), .long v1, .long v3])).length) Slot.unset).toArray = ls at hl ⊢
  have hl : lv_has ls 5 [(0, .ref (rA 1)), (1, .long v1), (3, .long v3)] := hl
  generalize hf : (f_X4_acrossA net_t net_n v1 v3) = z
  unfold f_X4_acrossA at hf
  refine lv_lload_n hx hb dX4_acrossA_0 rfl (lv_at hl 1 rfl) ?_
  have hPc := hP.sub (ws' := []) [] rfl
  refine kp_l (va_runS (As := [.long v1]) (rest := []) ⟨hx, hb, hml, hown, hts⟩ (c_X4_first l dC dI rA kA v1) (va_cwS 1 hts gX4_acrossA_X4_first rfl rfl rfl hs_X4_first ⟨Nat.le_of_ble_eq_true rfl, Nat.le_of_ble_eq_true rfl⟩) ⟨fb_p, pre_p hPc hK hN⟩ rfl rfl hl.1 rfl (lv_room (Nat.le_of_ble_eq_true rfl)) dX4_acrossA_1 ⟨Nat.le_of_ble_eq_true rfl, Nat.le_of_ble_eq_true rfl⟩) ?_
  refine lv_lload_n hx hb dX4_acrossA_4 rfl (lv_at hl 2 rfl) ?_
  have hPc := hP.sub (ws' := []) [] rfl
  refine kp_l (va_runS (As := [.long v3]) (rest := [.long (f_X4_first v1)]) ⟨hx, hb, hml, hown, hts⟩ (c_X4_first l dC dI rA kA v3) (va_cwS 1 hts gX4_acrossA_X4_first rfl rfl rfl hs_X4_first ⟨Nat.le_of_ble_eq_true rfl, Nat.le_of_ble_eq_true rfl⟩) ⟨fb_p, pre_p hPc hK hN⟩ rfl rfl hl.1 rfl (lv_room (Nat.le_of_ble_eq_true rfl)) dX4_acrossA_5 ⟨Nat.le_of_ble_eq_true rfl, Nat.le_of_ble_eq_true rfl⟩) ?_
  refine lv_aload_n hx hb dX4_acrossA_8 rfl (lv_at hl 0 rfl) ?_
  refine va_get (D := (dC, dI)) (ci := 4) (v := .int net_t) (C := RX4) (T := TX4) (N := 4) hx hb hts nX4_acrossA_X4 hown hK hP 0 rfl rfl 0 (by decide) (hts _ qX4_acrossA_1) (fun _ h9 => h9) rfl dX4_acrossA_9 ?_
  refine lv_i2l (v := net_t.toInt64) hx hb dX4_acrossA_12 rfl ?_
  refine lv_lload_n hx hb dX4_acrossA_13 rfl (lv_at hl 2 rfl) ?_
  have hPc := hP.sub (ws' := []) [] rfl
  refine kp_l (va_runS (As := [.long v3]) (rest := [.long net_t.toInt64, .long (f_X4_first v3), .long (f_X4_first v1)]) ⟨hx, hb, hml, hown, hts⟩ (c_X4_second l dC dI rA kA v3) (va_cwS 1 hts gX4_acrossA_X4_second rfl rfl rfl hs_X4_second ⟨Nat.le_of_ble_eq_true rfl, Nat.le_of_ble_eq_true rfl⟩) ⟨fb_p, pre_p hPc hK hN⟩ rfl rfl hl.1 rfl (lv_room (Nat.le_of_ble_eq_true rfl)) dX4_acrossA_14 ⟨Nat.le_of_ble_eq_true rfl, Nat.le_of_ble_eq_true rfl⟩) ?_
  refine lv_lmul hx hb dX4_acrossA_17 ?_
  refine lv_ladd hx hb dX4_acrossA_18 ?_
  refine lv_lmul hx hb dX4_acrossA_19 ?_
  refine lv_aload_n hx hb dX4_acrossA_20 rfl (lv_at hl 0 rfl) ?_
  refine va_get (D := (dC, dI)) (ci := 4) (v := .int net_n) (C := RX4) (T := TX4) (N := 4) hx hb hts nX4_acrossA_X4 hown hK hP 0 rfl rfl 1 (by decide) (hts _ qX4_acrossA_2) (fun _ h9 => h9) rfl dX4_acrossA_21 ?_
  refine lv_i2l (v := net_n.toInt64) hx hb dX4_acrossA_24 rfl ?_
  refine lv_lload_n hx hb dX4_acrossA_25 rfl (lv_at hl 1 rfl) ?_
  have hPc := hP.sub (ws' := []) [] rfl
  refine kp_l (va_runS (As := [.long v1]) (rest := [.long net_n.toInt64, .long ((f_X4_first v1) * ((f_X4_first v3) + (net_t.toInt64 * (f_X4_second v3))))]) ⟨hx, hb, hml, hown, hts⟩ (c_X4_second l dC dI rA kA v1) (va_cwS 1 hts gX4_acrossA_X4_second rfl rfl rfl hs_X4_second ⟨Nat.le_of_ble_eq_true rfl, Nat.le_of_ble_eq_true rfl⟩) ⟨fb_p, pre_p hPc hK hN⟩ rfl rfl hl.1 rfl (lv_room (Nat.le_of_ble_eq_true rfl)) dX4_acrossA_26 ⟨Nat.le_of_ble_eq_true rfl, Nat.le_of_ble_eq_true rfl⟩) ?_
  refine lv_lmul hx hb dX4_acrossA_29 ?_
  refine lv_lload_n hx hb dX4_acrossA_30 rfl (lv_at hl 2 rfl) ?_
  have hPc := hP.sub (ws' := []) [] rfl
  refine kp_l (va_runS (As := [.long v3]) (rest := [.long (net_n.toInt64 * (f_X4_second v1)), .long ((f_X4_first v1) * ((f_X4_first v3) + (net_t.toInt64 * (f_X4_second v3))))]) ⟨hx, hb, hml, hown, hts⟩ (c_X4_second l dC dI rA kA v3) (va_cwS 1 hts gX4_acrossA_X4_second rfl rfl rfl hs_X4_second ⟨Nat.le_of_ble_eq_true rfl, Nat.le_of_ble_eq_true rfl⟩) ⟨fb_p, pre_p hPc hK hN⟩ rfl rfl hl.1 rfl (lv_room (Nat.le_of_ble_eq_true rfl)) dX4_acrossA_31 ⟨Nat.le_of_ble_eq_true rfl, Nat.le_of_ble_eq_true rfl⟩) ?_
  refine lv_lmul hx hb dX4_acrossA_34 ?_
  refine lv_ladd hx hb dX4_acrossA_35 ?_
  exact W.lret (v := (((f_X4_first v1) * ((f_X4_first v3) + (net_t.toInt64 * (f_X4_second v3)))) + ((net_n.toInt64 * (f_X4_second v1)) * (f_X4_second v3)))) hx hb hr (fun t ht hW => ⟨congrArg (fun q => Outcome.returned (some (.long q))) hf, ht⟩) (fun _ h => nomatch h) dX4_acrossA_36
def f_X4_acrossB (v0 v2 : Int64) : Int64 :=
  (((f_X4_second v0) * (f_X4_first v2)) - ((f_X4_first v0) * (f_X4_second v2)))
set_option maxRecDepth 20000 in
theorem gX4_acrossB_X4_second : GoodIn wsX4_acrossB (va_wsS RX4 48 yX4_second wsX4_second) := gI _ [1, 2, 3, 4] rfl rfl
set_option maxRecDepth 20000 in
theorem gX4_acrossB_X4_first : GoodIn wsX4_acrossB (va_wsS RX4 44 yX4_first wsX4_first) := gI _ [5, 6, 3, 7] rfl rfl
theorem hs_X4_acrossB : yX4_acrossB.cls ≠ "java/lang/invoke/MethodHandle" ∧ yX4_acrossB.cls ≠ "java/lang/invoke/VarHandle" ∧ (parseMethodDescriptor yX4_acrossB.desc).map (fun d => d.parameters.length) = some 2 := by decide +kernel
set_option maxHeartbeats 8000000 in
set_option maxRecDepth 100000 in
theorem c_X4_acrossB (l : Launch) (dC : Nat → ClassId) (dI : Nat → Nat → Nat) (rA : Nat → Nat) (kA : Nat → ClassId) (v0 v2 : Int64) : Met l yX4_acrossB wsX4_acrossB ({ frames := 1, cells := 0, slots := 0, locals := 21 }) (va_Pc [.long v0, .long v2] (px (dC, dI) [] [])) (gq_l (f_X4_acrossB v0 v2)) 0 0 (fun _ => False) := by
  refine Met.ofW (cc := cX4_acrossB) (maxL := 4) (ret := (some .long)) (by decide) rfl ?_
  intro p e s m args below meth c s₁ B hml hv
  obtain ⟨rfl, hP, hK, hN⟩ := hv
  have hx := B.exec
  have hb := B.bytes
  have hr := B.returns
  have hts := atoms_spec (ws := wsX4_acrossB) B.pre
  have hown : s.vm.findClass RX4 = some m.cls := findClass_of_methodNamed B.named
  have hlocks := B.notSynchronized
  have hl := lv_entry ([.long v0, .long v2]) (n := 4) (Nat.le_of_ble_eq_true rfl)
  rw [lg_entry_eq]
  generalize (lg_sl ([.long v0, .long v2]) ++ List.replicate (4 - (lg_sl ([.long v0, .long v2])).length) Slot.unset).toArray = ls at hl ⊢
  have hl : lv_has ls 4 [(0, .long v0), (2, .long v2)] := hl
  generalize hf : (f_X4_acrossB v0 v2) = z
  unfold f_X4_acrossB at hf
  refine lv_lload_n hx hb dX4_acrossB_0 rfl (lv_at hl 0 rfl) ?_
  refine kp_l (va_runS (As := [.long v0]) (rest := []) ⟨hx, hb, hml, hown, hts⟩ (c_X4_second l dC dI rA kA v0) (va_cwS 1 hts gX4_acrossB_X4_second rfl rfl rfl hs_X4_second ⟨Nat.le_of_ble_eq_true rfl, Nat.le_of_ble_eq_true rfl⟩) ⟨fb_p, pre_p hP hK hN⟩ rfl rfl hl.1 rfl (lv_room (Nat.le_of_ble_eq_true rfl)) dX4_acrossB_1 ⟨Nat.le_of_ble_eq_true rfl, Nat.le_of_ble_eq_true rfl⟩) ?_
  refine lv_lload_n hx hb dX4_acrossB_4 rfl (lv_at hl 1 rfl) ?_
  refine kp_l (va_runS (As := [.long v2]) (rest := [.long (f_X4_second v0)]) ⟨hx, hb, hml, hown, hts⟩ (c_X4_first l dC dI rA kA v2) (va_cwS 1 hts gX4_acrossB_X4_first rfl rfl rfl hs_X4_first ⟨Nat.le_of_ble_eq_true rfl, Nat.le_of_ble_eq_true rfl⟩) ⟨fb_p, pre_p hP hK hN⟩ rfl rfl hl.1 rfl (lv_room (Nat.le_of_ble_eq_true rfl)) dX4_acrossB_5 ⟨Nat.le_of_ble_eq_true rfl, Nat.le_of_ble_eq_true rfl⟩) ?_
  refine lv_lmul hx hb dX4_acrossB_8 ?_
  refine lv_lload_n hx hb dX4_acrossB_9 rfl (lv_at hl 0 rfl) ?_
  refine kp_l (va_runS (As := [.long v0]) (rest := [.long ((f_X4_second v0) * (f_X4_first v2))]) ⟨hx, hb, hml, hown, hts⟩ (c_X4_first l dC dI rA kA v0) (va_cwS 1 hts gX4_acrossB_X4_first rfl rfl rfl hs_X4_first ⟨Nat.le_of_ble_eq_true rfl, Nat.le_of_ble_eq_true rfl⟩) ⟨fb_p, pre_p hP hK hN⟩ rfl rfl hl.1 rfl (lv_room (Nat.le_of_ble_eq_true rfl)) dX4_acrossB_10 ⟨Nat.le_of_ble_eq_true rfl, Nat.le_of_ble_eq_true rfl⟩) ?_
  refine lv_lload_n hx hb dX4_acrossB_13 rfl (lv_at hl 1 rfl) ?_
  refine kp_l (va_runS (As := [.long v2]) (rest := [.long (f_X4_first v0), .long ((f_X4_second v0) * (f_X4_first v2))]) ⟨hx, hb, hml, hown, hts⟩ (c_X4_second l dC dI rA kA v2) (va_cwS 1 hts gX4_acrossB_X4_second rfl rfl rfl hs_X4_second ⟨Nat.le_of_ble_eq_true rfl, Nat.le_of_ble_eq_true rfl⟩) ⟨fb_p, pre_p hP hK hN⟩ rfl rfl hl.1 rfl (lv_room (Nat.le_of_ble_eq_true rfl)) dX4_acrossB_14 ⟨Nat.le_of_ble_eq_true rfl, Nat.le_of_ble_eq_true rfl⟩) ?_
  refine lv_lmul hx hb dX4_acrossB_17 ?_
  refine lv_lsub hx hb dX4_acrossB_18 ?_
  exact W.lret (v := (((f_X4_second v0) * (f_X4_first v2)) - ((f_X4_first v0) * (f_X4_second v2)))) hx hb hr (fun t ht hW => ⟨congrArg (fun q => Outcome.returned (some (.long q))) hf, ht⟩) (fun _ h => nomatch h) dX4_acrossB_19
noncomputable def f_X4_dividedBy (net_t net_n : Int32) (v1 v3 : Int64) : Option Int64 :=
  Option.bind (f_X7_ratio (f_X4_acrossA net_t net_n v1 v3) (f_X4_sizeOf net_t net_n v3)) fun p7 =>
  Option.bind (f_X7_ratio (f_X4_acrossB v1 v3) (f_X4_sizeOf net_t net_n v3)) fun p9 =>
  some (f_X4_number p7 p9)
theorem qX4_dividedBy_18 : (.static yX7_ratio : Cond) ∈ wsX4_dividedBy := List.mem_of_getElem? (i := 18) rfl
theorem qX4_dividedBy_19 : (.initialized RX7 : Cond) ∈ wsX4_dividedBy := List.mem_of_getElem? (i := 19) rfl
set_option maxRecDepth 20000 in
theorem gX4_dividedBy_X4_sizeOf : GoodIn wsX4_dividedBy (wsV RX4 63 RX4 yX4_sizeOf wsX4_sizeOf) := gI _ [1, 2, 3, 4, 5, 6, 7, 8, 9, 4, 10, 11, 12, 13, 28, 29, 30, 31] rfl rfl
set_option maxRecDepth 20000 in
theorem gX4_dividedBy_X4_acrossA : GoodIn wsX4_dividedBy (wsV RX4 66 RX4 yX4_acrossA wsX4_acrossA) := gI _ [14, 15, 16, 4, 17, 6, 7, 8, 9, 4, 10, 11, 12, 13, 28, 29, 30, 31] rfl rfl
set_option maxRecDepth 20000 in
theorem gX4_dividedBy_X7_ratio_n86 : GoodIn wsX4_dividedBy wsX7_ratio := gI _ [20] rfl rfl
set_option maxRecDepth 20000 in
theorem gX4_dividedBy_X4_acrossB : GoodIn wsX4_dividedBy (va_wsS RX4 74 yX4_acrossB wsX4_acrossB) := gI _ [21, 22, 4, 23, 11, 12, 4, 13, 8, 9, 10] rfl rfl
set_option maxRecDepth 20000 in
theorem gX4_dividedBy_X4_number : GoodIn wsX4_dividedBy (va_wsS RX4 32 yX4_number wsX4_number) := gI _ [24, 25, 4, 26, 27] rfl rfl
theorem hv_X4_dividedBy : yX4_dividedBy.cls = RX4 ∧ yX4_dividedBy.cls ≠ "java/lang/invoke/MethodHandle" ∧ yX4_dividedBy.cls ≠ "java/lang/invoke/VarHandle" ∧ (parseMethodDescriptor yX4_dividedBy.desc).map (fun d => d.parameters.length) = some 2 := by decide +kernel
set_option maxHeartbeats 8000000 in
set_option maxRecDepth 100000 in
theorem c_X4_dividedBy (l : Launch) (dC : Nat → ClassId) (dI : Nat → Nat → Nat) (rA : Nat → Nat) (kA : Nat → ClassId) (net_t net_n net_units : Int32) (net_spin : Int64) (v1 v3 : Int64) {z : Int64} (hf : f_X4_dividedBy net_t net_n v1 v3 = some z) : Met l yX4_dividedBy wsX4_dividedBy ({ frames := 2, cells := 0, slots := 0, locals := 47 }) (va_Pc [.ref (rA 1), .long v1, .long v3] (px (dC, dI) [ce_net rA net_t net_n net_units net_spin] [])) (gq_l z) 0 0 (fun _ => False) := by
  refine Met.ofW (cc := cX4_dividedBy) (maxL := 7) (ret := (some .long)) (by decide) rfl ?_
  intro p e s m args below meth c s₁ B hml hv
  obtain ⟨rfl, hP, hK, hN⟩ := hv
  have hx := B.exec
  have hb := B.bytes
  have hr := B.returns
  have hts := atoms_spec (ws := wsX4_dividedBy) B.pre
  have hown : s.vm.findClass RX4 = some m.cls := findClass_of_methodNamed B.named
  have hlocks := B.notSynchronized
  have hl := lv_entry ([.ref (rA 1), .long v1, .long v3]) (n := 7) (Nat.le_of_ble_eq_true rfl)
  rw [lg_entry_eq]
  generalize (lg_sl ([.ref (rA 1), .long v1, .long v3]) ++ List.replicate (7 - (lg_sl ([.ref (rA 1), .long v1, .long v3])).length) Slot.unset).toArray = ls at hl ⊢
  have hl : lv_has ls 7 [(0, .ref (rA 1)), (1, .long v1), (3, .long v3)] := hl
  unfold f_X4_dividedBy at hf
  refine lv_aload_n hx hb dX4_dividedBy_0 rfl (lv_at hl 0 rfl) ?_
  refine lv_lload_n hx hb dX4_dividedBy_1 rfl (lv_at hl 2 rfl) ?_
  refine kp_l (va_runV (As := [.long v3]) (rest := []) ⟨hx, hb, hml, hown, hts⟩ (c_X4_sizeOf l dC dI rA kA net_t net_n net_units net_spin v3) (cwV 1 hts gX4_dividedBy_X4_sizeOf rfl rfl rfl hv_X4_sizeOf ⟨Nat.le_of_ble_eq_true rfl, Nat.le_of_ble_eq_true rfl⟩) ⟨fb_p, va_recv hK hP (ci := 4) (q0 := 0) rfl rfl, pre_p hP hK hN⟩ rfl rfl hl.1 rfl (lv_room (Nat.le_of_ble_eq_true rfl)) dX4_dividedBy_2 ⟨Nat.le_of_ble_eq_true rfl, Nat.le_of_ble_eq_true rfl⟩) ?_
  refine lv_lstore (lv' := [(5, .long (f_X4_sizeOf net_t net_n v3)), (0, .ref (rA 1)), (1, .long v1), (3, .long v3)]) hx hb dX4_dividedBy_5 hl (by decide) rfl (fun ls hl => ?_)
  refine lv_aload_n hx hb dX4_dividedBy_7 rfl (lv_at hl 1 rfl) ?_
  refine lv_lload_n hx hb dX4_dividedBy_8 rfl (lv_at hl 2 rfl) ?_
  refine lv_lload_n hx hb dX4_dividedBy_9 rfl (lv_at hl 3 rfl) ?_
  refine kp_l (va_runV (As := [.long v1, .long v3]) (rest := []) ⟨hx, hb, hml, hown, hts⟩ (c_X4_acrossA l dC dI rA kA net_t net_n net_units net_spin v1 v3) (cwV 2 hts gX4_dividedBy_X4_acrossA rfl rfl rfl hv_X4_acrossA ⟨Nat.le_of_ble_eq_true rfl, Nat.le_of_ble_eq_true rfl⟩) ⟨fb_p, va_recv hK hP (ci := 4) (q0 := 0) rfl rfl, pre_p hP hK hN⟩ rfl rfl hl.1 rfl (lv_room (Nat.le_of_ble_eq_true rfl)) dX4_dividedBy_10 ⟨Nat.le_of_ble_eq_true rfl, Nat.le_of_ble_eq_true rfl⟩) ?_
  refine lv_lload hx hb dX4_dividedBy_13 (lv_at hl 0 rfl) ?_
  obtain ⟨p3, hb3, hf⟩ := bd_s hf
  have hPc := hP.sub (ws' := []) [] rfl
  refine kp_l (va_runSN (As := [.long (f_X4_acrossA net_t net_n v1 v3), .long (f_X4_sizeOf net_t net_n v3)]) (rest := []) ⟨hx, hb, hml, hown, hts⟩ (c_X7_ratio l dC dI rA kA (f_X4_acrossA net_t net_n v1 v3) (f_X4_sizeOf net_t net_n v3) hb3) ⟨va_cnB 2 hts gX4_dividedBy_X7_ratio_n86 rfl rfl rfl (hN _ (List.mem_of_getElem? (i := 21) rfl)) (hts _ qX4_dividedBy_19) hs_X7_ratio ⟨Nat.le_of_ble_eq_true rfl, Nat.le_of_ble_eq_true rfl⟩, (hts _ qX4_dividedBy_18), trivial⟩ ⟨fb_p, pre_p hPc hK hN⟩ rfl rfl hl.1 rfl (lv_room (Nat.le_of_ble_eq_true rfl)) dX4_dividedBy_15 ⟨Nat.le_of_ble_eq_true rfl, Nat.le_of_ble_eq_true rfl⟩) ?_
  refine lv_lload_n hx hb dX4_dividedBy_18 rfl (lv_at hl 2 rfl) ?_
  refine lv_lload_n hx hb dX4_dividedBy_19 rfl (lv_at hl 3 rfl) ?_
  have hPc := hP.sub (ws' := []) [] rfl
  refine kp_l (va_runS (As := [.long v1, .long v3]) (rest := [.long p3]) ⟨hx, hb, hml, hown, hts⟩ (c_X4_acrossB l dC dI rA kA v1 v3) (va_cwS 2 hts gX4_dividedBy_X4_acrossB rfl rfl rfl hs_X4_acrossB ⟨Nat.le_of_ble_eq_true rfl, Nat.le_of_ble_eq_true rfl⟩) ⟨fb_p, pre_p hPc hK hN⟩ rfl rfl hl.1 rfl (lv_room (Nat.le_of_ble_eq_true rfl)) dX4_dividedBy_20 ⟨Nat.le_of_ble_eq_true rfl, Nat.le_of_ble_eq_true rfl⟩) ?_
  refine lv_lload hx hb dX4_dividedBy_23 (lv_at hl 0 rfl) ?_
  obtain ⟨p5, hb5, hf⟩ := bd_s hf
  have hPc := hP.sub (ws' := []) [] rfl
  refine kp_l (va_runSN (As := [.long (f_X4_acrossB v1 v3), .long (f_X4_sizeOf net_t net_n v3)]) (rest := [.long p3]) ⟨hx, hb, hml, hown, hts⟩ (c_X7_ratio l dC dI rA kA (f_X4_acrossB v1 v3) (f_X4_sizeOf net_t net_n v3) hb5) ⟨va_cnB 2 hts gX4_dividedBy_X7_ratio_n86 rfl rfl rfl (hN _ (List.mem_of_getElem? (i := 21) rfl)) (hts _ qX4_dividedBy_19) hs_X7_ratio ⟨Nat.le_of_ble_eq_true rfl, Nat.le_of_ble_eq_true rfl⟩, (hts _ qX4_dividedBy_18), trivial⟩ ⟨fb_p, pre_p hPc hK hN⟩ rfl rfl hl.1 rfl (lv_room (Nat.le_of_ble_eq_true rfl)) dX4_dividedBy_25 ⟨Nat.le_of_ble_eq_true rfl, Nat.le_of_ble_eq_true rfl⟩) ?_
  have hPc := hP.sub (ws' := []) [] rfl
  refine kp_l (va_runS (As := [.long p3, .long p5]) (rest := []) ⟨hx, hb, hml, hown, hts⟩ (c_X4_number l dC dI rA kA p3 p5) (va_cwS 2 hts gX4_dividedBy_X4_number rfl rfl rfl hs_X4_number ⟨Nat.le_of_ble_eq_true rfl, Nat.le_of_ble_eq_true rfl⟩) ⟨fb_p, pre_p hPc hK hN⟩ rfl rfl hl.1 rfl (lv_room (Nat.le_of_ble_eq_true rfl)) dX4_dividedBy_28 ⟨Nat.le_of_ble_eq_true rfl, Nat.le_of_ble_eq_true rfl⟩) ?_
  exact W.lret (v := (f_X4_number p3 p5)) hx hb hr (fun t ht hW => ⟨congrArg (fun q => Outcome.returned (some (.long q))) (Option.some.inj hf), ht⟩) (fun _ h => nomatch h) dX4_dividedBy_31
def f_X0_isAhead (net_t net_n : Int32) (v1 v3 : Int64) : Int32 :=
  if ((f_X4_sizeOf net_t net_n v1) - (f_X4_sizeOf net_t net_n v3)) < (0 : Int64) then
    (1 : Int32)
  else
    if ((f_X4_sizeOf net_t net_n v1) - (f_X4_sizeOf net_t net_n v3)) = (0 : Int64) then
      if (f_X4_isGreater v3 v1) = 0 then
        (0 : Int32)
      else
        (1 : Int32)
    else
      (0 : Int32)
theorem qX0_isAhead_1 : (.fieldLink RX0 15 "PlaneWholes$Factors" "net" "LPlaneWholes$Net;" : Cond) ∈ wsX0_isAhead := List.mem_of_getElem? (i := 1) rfl
theorem nX0_isAhead_X0 : ∀ w ∈ wsX00, w ∈ wsX0_isAhead := fun _ h => List.mem_cons_of_mem _ (List.mem_append_left _ (List.mem_append_right _ h))
set_option maxRecDepth 20000 in
theorem gX0_isAhead_X4_sizeOf : GoodIn wsX0_isAhead (wsV RX0 27 RX4 yX4_sizeOf wsX4_sizeOf) := gI _ [2, 3, 4, 5, 6, 7, 8, 9, 10, 5, 11, 12, 13, 14, 22, 23, 24, 25] rfl rfl
set_option maxRecDepth 20000 in
theorem gX0_isAhead_X4_isGreater : GoodIn wsX0_isAhead (va_wsS RX0 64 yX4_isGreater wsX4_isGreater) := gI _ [15, 16, 5, 17, 9, 10, 5, 11, 12, 13, 14] rfl rfl
theorem hv_X0_isAhead : yX0_isAhead.cls = RX0 ∧ yX0_isAhead.cls ≠ "java/lang/invoke/MethodHandle" ∧ yX0_isAhead.cls ≠ "java/lang/invoke/VarHandle" ∧ (parseMethodDescriptor yX0_isAhead.desc).map (fun d => d.parameters.length) = some 2 := by decide +kernel
set_option maxHeartbeats 8000000 in
set_option maxRecDepth 100000 in
theorem c_X0_isAhead (l : Launch) (dC : Nat → ClassId) (dI : Nat → Nat → Nat) (rA : Nat → Nat) (kA : Nat → ClassId) (net_t net_n net_units : Int32) (net_spin : Int64) (fac_count : Int32) (fac_left : Int64) (v1 v3 : Int64) : Met l yX0_isAhead wsX0_isAhead ({ frames := 2, cells := 0, slots := 0, locals := 47 }) (va_Pc [.ref (rA 4), .long v1, .long v3] (px (dC, dI) [ce_net rA net_t net_n net_units net_spin, ce_fac rA fac_count fac_left] [])) (gq_i (f_X0_isAhead net_t net_n v1 v3)) 0 0 (fun _ => False) := by
  refine Met.ofW (cc := cX0_isAhead) (maxL := 7) (ret := (some .boolean)) (by decide) rfl ?_
  intro p e s m args below meth c s₁ B hml hv
  obtain ⟨rfl, hP, hK, hN⟩ := hv
  have hx := B.exec
  have hb := B.bytes
  have hr := B.returns
  have hts := atoms_spec (ws := wsX0_isAhead) B.pre
  have hown : s.vm.findClass RX0 = some m.cls := findClass_of_methodNamed B.named
  have hlocks := B.notSynchronized
  have hl := lv_entry ([.ref (rA 4), .long v1, .long v3]) (n := 7) (Nat.le_of_ble_eq_true rfl)
  rw [lg_entry_eq]
  generalize (lg_sl ([.ref (rA 4), .long v1, .long v3]) ++ List.replicate (7 - (lg_sl ([.ref (rA 4), .long v1, .long v3])).length) Slot.unset).toArray = ls at hl ⊢
  have hl : lv_has ls 7 [(0, .ref (rA 4)), (1, .long v1), (3, .long v3)] := hl
  generalize hf : (f_X0_isAhead net_t net_n v1 v3) = z
  unfold f_X0_isAhead at hf
  refine lv_aload_n hx hb dX0_isAhead_0 rfl (lv_at hl 0 rfl) ?_
  refine va_get (D := (dC, dI)) (ci := 0) (v := .ref (rA 1)) (C := RX0) (T := TX0) (N := 4) hx hb hts nX0_isAhead_X0 hown hK hP 1 rfl rfl 0 (by decide) (hts _ qX0_isAhead_1) (fun _ h9 => h9) rfl dX0_isAhead_1 ?_
  refine lv_lload_n hx hb dX0_isAhead_4 rfl (lv_at hl 1 rfl) ?_
  have hPc := hP.sub (ws' := [ce_net rA net_t net_n net_units net_spin]) [0] rfl
  refine kp_l (va_runV (As := [.long v1]) (rest := []) ⟨hx, hb, hml, hown, hts⟩ (c_X4_sizeOf l dC dI rA kA net_t net_n net_units net_spin v1) (cwV 1 hts gX0_isAhead_X4_sizeOf rfl rfl rfl hv_X4_sizeOf ⟨Nat.le_of_ble_eq_true rfl, Nat.le_of_ble_eq_true rfl⟩) ⟨fb_p, va_recv hK hP (ci := 4) (q0 := 0) rfl rfl, pre_p hPc hK hN⟩ rfl rfl hl.1 rfl (lv_room (Nat.le_of_ble_eq_true rfl)) dX0_isAhead_5 ⟨Nat.le_of_ble_eq_true rfl, Nat.le_of_ble_eq_true rfl⟩) ?_
  refine lv_aload_n hx hb dX0_isAhead_8 rfl (lv_at hl 0 rfl) ?_
  refine va_get (D := (dC, dI)) (ci := 0) (v := .ref (rA 1)) (C := RX0) (T := TX0) (N := 4) hx hb hts nX0_isAhead_X0 hown hK hP 1 rfl rfl 0 (by decide) (hts _ qX0_isAhead_1) (fun _ h9 => h9) rfl dX0_isAhead_9 ?_
  refine lv_lload_n hx hb dX0_isAhead_12 rfl (lv_at hl 2 rfl) ?_
  have hPc := hP.sub (ws' := [ce_net rA net_t net_n net_units net_spin]) [0] rfl
  refine kp_l (va_runV (As := [.long v3]) (rest := [.long (f_X4_sizeOf net_t net_n v1)]) ⟨hx, hb, hml, hown, hts⟩ (c_X4_sizeOf l dC dI rA kA net_t net_n net_units net_spin v3) (cwV 1 hts gX0_isAhead_X4_sizeOf rfl rfl rfl hv_X4_sizeOf ⟨Nat.le_of_ble_eq_true rfl, Nat.le_of_ble_eq_true rfl⟩) ⟨fb_p, va_recv hK hP (ci := 4) (q0 := 0) rfl rfl, pre_p hPc hK hN⟩ rfl rfl hl.1 rfl (lv_room (Nat.le_of_ble_eq_true rfl)) dX0_isAhead_13 ⟨Nat.le_of_ble_eq_true rfl, Nat.le_of_ble_eq_true rfl⟩) ?_
  refine lv_lsub hx hb dX0_isAhead_16 ?_
  refine lv_lstore (lv' := [(5, .long ((f_X4_sizeOf net_t net_n v1) - (f_X4_sizeOf net_t net_n v3))), (0, .ref (rA 4)), (1, .long v1), (3, .long v3)]) hx hb dX0_isAhead_17 hl (by decide) rfl (fun ls hl => ?_)
  refine lv_lload hx hb dX0_isAhead_19 (lv_at hl 0 rfl) ?_
  refine lv_lconst (v := (0 : Int64)) hx hb dX0_isAhead_21 (by decide) ?_
  refine W.lcmp hx hb dX0_isAhead_22 ?_
  refine lv_if_lt (tgt := 41) hx hb dX0_isAhead_23 (by decide) (fun c3 => ?_) (fun c3 => ?_)
  · have hf := it_t ((lg_cmp_lt ((f_X4_sizeOf net_t net_n v1) - (f_X4_sizeOf net_t net_n v3)) (0 : Int64)).mp c3) hf
    refine lv_iconst (v := (1 : Int32)) hx hb dX0_isAhead_41 (by decide) ?_
    refine lv_goto (tgt := 46) hx hb dX0_isAhead_42 (by decide) ?_
    exact W.zret (v := (1 : Int32)) (ty := .boolean) hx hb hr rfl (fun t ht hW => ⟨congrArg (fun q => Outcome.returned (some (.int q))) hf, ht⟩) (fun _ h => nomatch h) dX0_isAhead_46
  · have hf := it_f (fun h => c3 ((lg_cmp_lt ((f_X4_sizeOf net_t net_n v1) - (f_X4_sizeOf net_t net_n v3)) (0 : Int64)).mpr h)) hf
    refine lv_lload hx hb dX0_isAhead_26 (lv_at hl 0 rfl) ?_
    refine lv_lconst (v := (0 : Int64)) hx hb dX0_isAhead_28 (by decide) ?_
    refine W.lcmp hx hb dX0_isAhead_29 ?_
    refine lv_if_ne (tgt := 45) hx hb dX0_isAhead_30 (by decide) (fun c4 => ?_) (fun c4 => ?_)
    · have hf := it_f (fun h => c4 ((lg_cmp_eq ((f_X4_sizeOf net_t net_n v1) - (f_X4_sizeOf net_t net_n v3)) (0 : Int64)).mpr h)) hf
      refine lv_iconst (v := (0 : Int32)) hx hb dX0_isAhead_45 (by decide) ?_
      exact W.zret (v := (0 : Int32)) (ty := .boolean) hx hb hr rfl (fun t ht hW => ⟨congrArg (fun q => Outcome.returned (some (.int q))) hf, ht⟩) (fun _ h => nomatch h) dX0_isAhead_46
    · have hf := it_t ((lg_cmp_eq ((f_X4_sizeOf net_t net_n v1) - (f_X4_sizeOf net_t net_n v3)) (0 : Int64)).mp c4) hf
      refine lv_lload_n hx hb dX0_isAhead_33 rfl (lv_at hl 3 rfl) ?_
      refine lv_lload_n hx hb dX0_isAhead_34 rfl (lv_at hl 2 rfl) ?_
      have hPc := hP.sub (ws' := []) [] rfl
      refine kp_i (va_runS (As := [.long v3, .long v1]) (rest := []) ⟨hx, hb, hml, hown, hts⟩ (c_X4_isGreater l dC dI rA kA v3 v1) (va_cwS 2 hts gX0_isAhead_X4_isGreater rfl rfl rfl hs_X4_isGreater ⟨Nat.le_of_ble_eq_true rfl, Nat.le_of_ble_eq_true rfl⟩) ⟨fb_p, pre_p hPc hK hN⟩ rfl rfl hl.1 rfl (lv_room (Nat.le_of_ble_eq_true rfl)) dX0_isAhead_35 ⟨Nat.le_of_ble_eq_true rfl, Nat.le_of_ble_eq_true rfl⟩) ?_
      refine lv_if_eq (tgt := 45) hx hb dX0_isAhead_38 (by decide) (fun c6 => ?_) (fun c6 => ?_)
      · have hf := it_t c6 hf
        refine lv_iconst (v := (0 : Int32)) hx hb dX0_isAhead_45 (by decide) ?_
        exact W.zret (v := (0 : Int32)) (ty := .boolean) hx hb hr rfl (fun t ht hW => ⟨congrArg (fun q => Outcome.returned (some (.int q))) hf, ht⟩) (fun _ h => nomatch h) dX0_isAhead_46
      · have hf := it_f c6 hf
        refine lv_iconst (v := (1 : Int32)) hx hb dX0_isAhead_41 (by decide) ?_
        refine lv_goto (tgt := 46) hx hb dX0_isAhead_42 (by decide) ?_
        exact W.zret (v := (1 : Int32)) (ty := .boolean) hx hb hr rfl (fun t ht hW => ⟨congrArg (fun q => Outcome.returned (some (.int q))) hf, ht⟩) (fun _ h => nomatch h) dX0_isAhead_46
noncomputable def f_X0_take_K44_88 (fac_count : Int32) (fac_left : Int64) (pri : Nat → Int64) (v3 : Int64) (v5 : Int32) : Option (Int32 × Int64 × (Nat → Int64)) :=
    if (v5 < 0 ∨ 40 ≤ v5.toNatClampNeg) then none else
    some ((fac_count + (1 : Int32)), fac_left, (vp_updL pri v5.toNatClampNeg v3))
noncomputable def f_X0_take_L44 (net_t net_n : Int32) (v3 : Int64) (s44 : (Int32 × (Nat → Int64))) : Option ((Int32 × (Nat → Int64)) ⊕ (Int32 × (Nat → Int64))) :=
    if s44.1 ≤ 0 then
      some (Sum.inr (s44.1, s44.2))
    else
      if ((s44.1 - (1 : Int32)) < 0 ∨ 40 ≤ (s44.1 - (1 : Int32)).toNatClampNeg) then none else
      if (f_X0_isAhead net_t net_n v3 (s44.2 (s44.1 - (1 : Int32)).toNatClampNeg)) = 0 then
        some (Sum.inr (s44.1, s44.2))
      else
        if (s44.1 < 0 ∨ 40 ≤ s44.1.toNatClampNeg) then none else
        some (Sum.inl ((s44.1 + (-1 : Int32)), (vp_updL s44.2 s44.1.toNatClampNeg (s44.2 (s44.1 - (1 : Int32)).toNatClampNeg))))
noncomputable def f_X0_take (net_t net_n net_units : Int32) (net_spin : Int64) (fac_count : Int32) (fac_left : Int64) (pri : Nat → Int64) (v1 : Int64) : Option (Int32 × Int64 × (Nat → Int64)) :=
  if fac_count < (40 : Int32) then
    Option.bind (f_X4_shape net_t net_n net_units net_spin v1) fun p8 =>
    Option.bind (f_X4_dividedBy net_t net_n fac_left p8) fun p9 =>
    Option.bind (whl (f_X0_take_L44 net_t net_n p8) (fac_count, pri)) (fun y44 => f_X0_take_K44_88 fac_count p9 y44.2 p8 y44.1)
  else
    some (fac_count, fac_left, pri)
theorem qX0_take_1 : (.fieldLink RX0 19 "PlaneWholes$Factors" "count" "I" : Cond) ∈ wsX0_take := List.mem_of_getElem? (i := 1) rfl
theorem qX0_take_2 : (.fieldLink RX0 9 "PlaneWholes$Factors" "primes" "[J" : Cond) ∈ wsX0_take := List.mem_of_getElem? (i := 2) rfl
theorem qX0_take_3 : (.fieldLink RX0 15 "PlaneWholes$Factors" "net" "LPlaneWholes$Net;" : Cond) ∈ wsX0_take := List.mem_of_getElem? (i := 3) rfl
theorem qX0_take_4 : (.fieldLink RX0 23 "PlaneWholes$Factors" "left" "J" : Cond) ∈ wsX0_take := List.mem_of_getElem? (i := 4) rfl
theorem nX0_take_X0 : ∀ w ∈ wsX00, w ∈ wsX0_take := fun _ h => List.mem_cons_of_mem _ (List.mem_append_left _ (List.mem_append_right _ h))
set_option maxRecDepth 20000 in
theorem gX0_take_X4_shape : GoodIn wsX0_take (wsV RX0 54 RX4 yX4_shape wsX4_shape) := gI _ [5, 6, 7, 8, 9, 10, 11, 12, 8, 13, 14, 15, 16, 17, 18, 19, 20, 21, 22, 23, 24, 25, 26, 27, 28, 29, 30, 31, 32, 33, 34, 35, 65, 66, 67, 68] rfl rfl
set_option maxRecDepth 20000 in
theorem gX0_take_X4_dividedBy : GoodIn wsX0_take (wsV RX0 57 RX4 yX4_dividedBy wsX4_dividedBy) := gI _ [36, 37, 38, 8, 39, 40, 41, 42, 8, 43, 22, 21, 26, 27, 28, 23, 24, 25, 44, 45, 46, 47, 48, 49, 50, 51, 52, 53, 29, 30, 31, 32, 65, 66, 67, 68] rfl rfl
set_option maxRecDepth 20000 in
theorem gX0_take_X0_isAhead : GoodIn wsX0_take (wsV RX0 61 RX0 yX0_isAhead wsX0_isAhead) := gI _ [54, 55, 56, 57, 58, 3, 59, 41, 42, 8, 43, 22, 21, 26, 27, 28, 23, 24, 25, 60, 34, 35, 61, 62, 63, 64, 65, 66, 67, 68] rfl rfl
theorem hv_X0_take : yX0_take.cls = RX0 ∧ yX0_take.cls ≠ "java/lang/invoke/MethodHandle" ∧ yX0_take.cls ≠ "java/lang/invoke/VarHandle" ∧ (parseMethodDescriptor yX0_take.desc).map (fun d => d.parameters.length) = some 1 := by decide +kernel
set_option maxHeartbeats 8000000 in
set_option maxRecDepth 100000 in
theorem c_X0_take (l : Launch) (dC : Nat → ClassId) (dI : Nat → Nat → Nat) (rA : Nat → Nat) (kA : Nat → ClassId) (sz : Nat) (net_t net_n net_units : Int32) (net_spin : Int64) (fac_count : Int32) (fac_left : Int64) (pri : Nat → Int64) (v1 : Int64) {z : (Int32 × Int64 × (Nat → Int64))} (hf : f_X0_take net_t net_n net_units net_spin fac_count fac_left pri v1 = some z) : Met l yX0_take wsX0_take ({ frames := 4, cells := 0, slots := 0, locals := 102 }) (va_Pc [.ref (rA 4), .long v1] (pw (dC, dI) [ce_net rA net_t net_n net_units net_spin, ce_fac rA fac_count fac_left, ce_J (rA 5) (kA 5) 40 pri] [((kA 5), .long)] sz)) (gw_v (dC, dI) [ce_net rA net_t net_n net_units net_spin, ce_fac rA fac_count fac_left, ce_J (rA 5) (kA 5) 40 pri] [ce_net rA net_t net_n net_units net_spin, ce_fac rA z.1 z.2.1, ce_J (rA 5) (kA 5) 40 z.2.2] sz) 0 0 (va_A [ce_net rA net_t net_n net_units net_spin, ce_fac rA fac_count fac_left, ce_J (rA 5) (kA 5) 40 pri] sz) := by
  refine Met.ofW (cc := cX0_take) (maxL := 6) (ret := none) (by decide) rfl ?_
  intro p e s m args below meth c s₁ B hml hv
  obtain ⟨rfl, hsz, hP, hK, hD0, hN⟩ := hv
  have hx := B.exec
  have hb := B.bytes
  have hr := B.returns
  have hts := atoms_spec (ws := wsX0_take) B.pre
  have hown : s.vm.findClass RX0 = some m.cls := findClass_of_methodNamed B.named
  have hlocks := B.notSynchronized
  subst hsz
  obtain ⟨A, hAe⟩ : ∃ A, A = va_A [ce_net rA net_t net_n net_units net_spin, ce_fac rA fac_count fac_left, ce_J (rA 5) (kA 5) 40 pri] s.heap.size := ⟨_, rfl⟩
  have hD : va_D A [ce_net rA net_t net_n net_units net_spin, ce_fac rA fac_count fac_left, ce_J (rA 5) (kA 5) 40 pri] := by rw [hAe]; exact hD0.self
  have hA : ∀ q : Nat, s.heap.size ≤ q → A q := fun q h => by rw [hAe]; exact Or.inr h
  have hP0 : va_P (dC, dI) vwCl [ce_net rA net_t net_n net_units net_spin, ce_fac rA fac_count fac_left, ce_J (rA 5) (kA 5) 40 pri] s.heap := hP
  refine wH (fun H eH => ?_)
  have hS : va_S A s.heap H [] := by rw [eH]; exact va_S.rf
  have hP : va_P (dC, dI) vwCl [ce_net rA net_t net_n net_units net_spin, ce_fac rA fac_count fac_left, ce_J (rA 5) (kA 5) 40 pri] H := by rw [eH]; exact hP0
  have hl := lv_entry ([.ref (rA 4), .long v1]) (n := 6) (Nat.le_of_ble_eq_true rfl)
  rw [lg_entry_eq]
  generalize (lg_sl ([.ref (rA 4), .long v1]) ++ List.replicate (6 - (lg_sl ([.ref (rA 4), .long v1])).length) Slot.unset).toArray = ls at hl ⊢
  have hl : lv_has ls 6 [(0, .ref (rA 4)), (1, .long v1)] := hl
  refine wg (fun WG hi ho => ?_)
  refine hi _ _ _ ?_
  unfold f_X0_take at hf
  refine lv_aload_n hx hb dX0_take_0 rfl (lv_at hl 0 rfl) ?_
  refine va_get (D := (dC, dI)) (ci := 0) (v := .int fac_count) (C := RX0) (T := TX0) (N := 4) hx hb hts nX0_take_X0 hown hK hP 1 rfl rfl 2 (by decide) (hts _ qX0_take_1) (fun _ h9 => h9) rfl dX0_take_1 ?_
  refine lv_aload_n hx hb dX0_take_4 rfl (lv_at hl 0 rfl) ?_
  refine va_get (D := (dC, dI)) (ci := 0) (v := .ref (rA 5)) (C := RX0) (T := TX0) (N := 4) hx hb hts nX0_take_X0 hown hK hP 1 rfl rfl 1 (by decide) (hts _ qX0_take_2) (fun _ h9 => h9) rfl dX0_take_5 ?_
  refine va_alen (ty := .long) (v := (40 : Int32)) hx hb hK hP 2 0 rfl rfl rfl dX0_take_8 ?_
  refine lv_icmp_lt (tgt := 13) hx hb dX0_take_9 (by decide) (fun c1 => ?_) (fun c1 => ?_)
  · have hf := it_t c1 hf
    refine lv_aload_n hx hb dX0_take_13 rfl (lv_at hl 0 rfl) ?_
    refine va_get (D := (dC, dI)) (ci := 0) (v := .ref (rA 1)) (C := RX0) (T := TX0) (N := 4) hx hb hts nX0_take_X0 hown hK hP 1 rfl rfl 0 (by decide) (hts _ qX0_take_3) (fun _ h9 => h9) rfl dX0_take_14 ?_
    refine lv_lload_n hx hb dX0_take_17 rfl (lv_at hl 1 rfl) ?_
    obtain ⟨p2, hb2, hf⟩ := bd_s hf
    have hPc := hP.sub (ws' := [ce_net rA net_t net_n net_units net_spin]) [0] rfl
    have hKc := hK.sub (tys' := []) [] rfl
    refine kp_l (va_runV (As := [.long v1]) (rest := []) ⟨hx, hb, hml, hown, hts⟩ (c_X4_shape l dC dI rA kA net_t net_n net_units net_spin v1 hb2) (cwV 1 hts gX0_take_X4_shape rfl rfl rfl hv_X4_shape ⟨Nat.le_of_ble_eq_true rfl, Nat.le_of_ble_eq_true rfl⟩) ⟨fb_p, va_recv hK hP (ci := 4) (q0 := 0) rfl rfl, pre_p hPc hKc hN⟩ rfl rfl hl.1 rfl (lv_room (Nat.le_of_ble_eq_true rfl)) dX0_take_18 ⟨Nat.le_of_ble_eq_true rfl, Nat.le_of_ble_eq_true rfl⟩) ?_
    refine lv_lstore_n (lv' := [(3, .long p2), (0, .ref (rA 4)), (1, .long v1)]) hx hb dX0_take_21 rfl hl (by decide) rfl (fun ls hl => ?_)
    refine lv_aload_n hx hb dX0_take_22 rfl (lv_at hl 1 rfl) ?_
    refine lv_aload_n hx hb dX0_take_23 rfl (lv_at hl 1 rfl) ?_
    refine va_get (D := (dC, dI)) (ci := 0) (v := .ref (rA 1)) (C := RX0) (T := TX0) (N := 4) hx hb hts nX0_take_X0 hown hK hP 1 rfl rfl 0 (by decide) (hts _ qX0_take_3) (fun _ h9 => h9) rfl dX0_take_24 ?_
    refine lv_aload_n hx hb dX0_take_27 rfl (lv_at hl 1 rfl) ?_
    refine va_get (D := (dC, dI)) (ci := 0) (v := .long fac_left) (C := RX0) (T := TX0) (N := 4) hx hb hts nX0_take_X0 hown hK hP 1 rfl rfl 3 (by decide) (hts _ qX0_take_4) (fun _ h9 => h9) rfl dX0_take_28 ?_
    refine lv_lload_n hx hb dX0_take_31 rfl (lv_at hl 0 rfl) ?_
    obtain ⟨p3, hb3, hf⟩ := bd_s hf
    have hPc := hP.sub (ws' := [ce_net rA net_t net_n net_units net_spin]) [0] rfl
    have hKc := hK.sub (tys' := []) [] rfl
    refine kp_l (va_runV (As := [.long fac_left, .long p2]) (rest := [.ref (rA 4)]) ⟨hx, hb, hml, hown, hts⟩ (c_X4_dividedBy l dC dI rA kA net_t net_n net_units net_spin fac_left p2 hb3) (cwV 2 hts gX0_take_X4_dividedBy rfl rfl rfl hv_X4_dividedBy ⟨Nat.le_of_ble_eq_true rfl, Nat.le_of_ble_eq_true rfl⟩) ⟨fb_p, va_recv hK hP (ci := 4) (q0 := 0) rfl rfl, pre_p hPc hKc hN⟩ rfl rfl hl.1 rfl (lv_room (Nat.le_of_ble_eq_true rfl)) dX0_take_32 ⟨Nat.le_of_ble_eq_true rfl, Nat.le_of_ble_eq_true rfl⟩) ?_
    refine va_put (D := (dC, dI)) (ci := 0) (v := .long p3) (ty := .long) (C := RX0) (T := TX0) (N := 4) hx hb hts nX0_take_X0 tyX0 tyX0_ok nmX0 hown hK hP hD hS 1 rfl rfl 3 (by decide) (hts _ qX0_take_4) (fun _ h9 => h9) rfl (by decide +kernel) rfl rfl (Nat.le_of_ble_eq_true rfl) dX0_take_35 (fun H locs hP hD hS => ?_)
    have hP : va_P (dC, dI) vwCl [ce_net rA net_t net_n net_units net_spin, ce_fac rA fac_count p3, ce_J (rA 5) (kA 5) 40 pri] H := hP
    have hD : va_D A [ce_net rA net_t net_n net_units net_spin, ce_fac rA fac_count p3, ce_J (rA 5) (kA 5) 40 pri] := hD
    refine lv_aload_n hx hb dX0_take_38 rfl (lv_at hl 1 rfl) ?_
    refine va_get (D := (dC, dI)) (ci := 0) (v := .int fac_count) (C := RX0) (T := TX0) (N := 4) hx hb hts nX0_take_X0 hown hK hP 1 rfl rfl 2 (by decide) (hts _ qX0_take_1) (fun _ h9 => h9) rfl dX0_take_39 ?_
    refine lv_istore (lv' := [(5, .int fac_count), (3, .long p2), (0, .ref (rA 4)), (1, .long v1)]) hx hb dX0_take_42 hl (by decide) rfl (fun ls hl => ?_)
    obtain ⟨x44, k44, h044, hk44⟩ := whl_b hf
    have KT44_88 : ∀ (y44_88_5 : Int32) (y44_88_pri : (Nat → Int64)), ∀ (H : Heap) (locs : List Loc) (ls : Array Slot), f_X0_take_K44_88 fac_count p3 y44_88_pri p2 y44_88_5 = some z → va_P (dC, dI) vwCl [ce_net rA net_t net_n net_units net_spin, ce_fac rA fac_count p3, ce_J (rA 5) (kA 5) 40 y44_88_pri] H → va_D A [ce_net rA net_t net_n net_units net_spin, ce_fac rA fac_count p3, ce_J (rA 5) (kA 5) 40 y44_88_pri] → va_S A s.heap H locs → lv_has ls 6 [(0, .ref (rA 4)), (3, .long p2), (5, .int y44_88_5)] → WG H locs (F0 m 88 ls []) := by
      intro y44_88_5 y44_88_pri H locs ls hf hP hD hS hl
      unfold f_X0_take_K44_88 at hf
      refine hi _ _ _ ?_
      refine lv_aload_n hx hb dX0_take_88 rfl (lv_at hl 0 rfl) ?_
      refine va_get (D := (dC, dI)) (ci := 0) (v := .ref (rA 5)) (C := RX0) (T := TX0) (N := 4) hx hb hts nX0_take_X0 hown hK hP 1 rfl rfl 1 (by decide) (hts _ qX0_take_2) (fun _ h9 => h9) rfl dX0_take_89 ?_
      refine lv_iload hx hb dX0_take_92 (lv_at hl 2 rfl) ?_
      refine lv_lload_n hx hb dX0_take_94 rfl (lv_at hl 1 rfl) ?_
      obtain ⟨hc5, hf⟩ := it_n hf
      refine va_last hx hb hK hP hD hS 2 0 rfl rfl hc5 dX0_take_95 (fun H locs hP hD hS => ?_)
      have hP : va_P (dC, dI) vwCl [ce_net rA net_t net_n net_units net_spin, ce_fac rA fac_count p3, ce_J (rA 5) (kA 5) 40 (vp_updL y44_88_pri y44_88_5.toNatClampNeg p2)] H := hP
      have hD : va_D A [ce_net rA net_t net_n net_units net_spin, ce_fac rA fac_count p3, ce_J (rA 5) (kA 5) 40 (vp_updL y44_88_pri y44_88_5.toNatClampNeg p2)] := hD
      refine lv_aload_n hx hb dX0_take_96 rfl (lv_at hl 0 rfl) ?_
      refine lv_dup hx hb dX0_take_97 rfl ?_
      refine va_get (D := (dC, dI)) (ci := 0) (v := .int fac_count) (C := RX0) (T := TX0) (N := 4) hx hb hts nX0_take_X0 hown hK hP 1 rfl rfl 2 (by decide) (hts _ qX0_take_1) (fun _ h9 => h9) rfl dX0_take_98 ?_
      refine lv_iconst (v := (1 : Int32)) hx hb dX0_take_101 (by decide) ?_
      refine lv_iadd hx hb dX0_take_102 ?_
      refine va_put (D := (dC, dI)) (ci := 0) (v := .int (fac_count + (1 : Int32))) (ty := .int) (C := RX0) (T := TX0) (N := 4) hx hb hts nX0_take_X0 tyX0 tyX0_ok nmX0 hown hK hP hD hS 1 rfl rfl 2 (by decide) (hts _ qX0_take_1) (fun _ h9 => h9) rfl (by decide +kernel) rfl rfl (Nat.le_of_ble_eq_true rfl) dX0_take_103 (fun H locs hP hD hS => ?_)
      have hP : va_P (dC, dI) vwCl [ce_net rA net_t net_n net_units net_spin, ce_fac rA (fac_count + (1 : Int32)) p3, ce_J (rA 5) (kA 5) 40 (vp_updL y44_88_pri y44_88_5.toNatClampNeg p2)] H := hP
      have hD : va_D A [ce_net rA net_t net_n net_units net_spin, ce_fac rA (fac_count + (1 : Int32)) p3, ce_J (rA 5) (kA 5) 40 (vp_updL y44_88_pri y44_88_5.toNatClampNeg p2)] := hD
      obtain rfl := Option.some.inj hf
      exact W.vret hx hb hr (fun t ht hW => gw_v_of hAe hP hD hS ht) (fun q hq => hAe ▸ hS.2.2 q hq) dX0_take_106
    have LP44 : ∀ (k : Nat) (s44 : (Int32 × (Nat → Int64))) (H : Heap) (locs : List Loc) (ls : Array Slot), itr (f_X0_take_L44 net_t net_n p2) k s44 = some x44 → va_P (dC, dI) vwCl [ce_net rA net_t net_n net_units net_spin, ce_fac rA fac_count p3, ce_J (rA 5) (kA 5) 40 s44.2] H → va_D A [ce_net rA net_t net_n net_units net_spin, ce_fac rA fac_count p3, ce_J (rA 5) (kA 5) 40 s44.2] → va_S A s.heap H locs → lv_has ls 6 [(0, .ref (rA 4)), (3, .long p2), (5, .int s44.1)] → WG H locs (F0 m 44 ls []) := by
      intro k
      induction k with
      | zero => intro s44 H locs ls h; exact itr_0 h
      | succ k ih =>
        intro s44 H locs ls h0 hP hD hS hl
        obtain ⟨z44, hf, hz⟩ := itr_in h0
        unfold f_X0_take_L44 at hf
        refine hi _ _ _ ?_
        refine lv_iload hx hb dX0_take_44 (lv_at hl 2 rfl) ?_
        refine lv_if_le (tgt := 88) hx hb dX0_take_46 (by decide) (fun c6 => ?_) (fun c6 => ?_)
        · have hf := it_t c6 hf
          exact ho _ _ _ (KT44_88 s44.1 s44.2 H locs ls (by rw [← itz_r hf hz] at hk44; exact hk44) hP hD hS (lv_sub hl [0, 1, 2] rfl))
        · have hf := it_f c6 hf
          refine lv_aload_n hx hb dX0_take_49 rfl (lv_at hl 0 rfl) ?_
          refine lv_lload_n hx hb dX0_take_50 rfl (lv_at hl 1 rfl) ?_
          refine lv_aload_n hx hb dX0_take_51 rfl (lv_at hl 0 rfl) ?_
          refine va_get (D := (dC, dI)) (ci := 0) (v := .ref (rA 5)) (C := RX0) (T := TX0) (N := 4) hx hb hts nX0_take_X0 hown hK hP 1 rfl rfl 1 (by decide) (hts _ qX0_take_2) (fun _ h9 => h9) rfl dX0_take_52 ?_
          refine lv_iload hx hb dX0_take_55 (lv_at hl 2 rfl) ?_
          refine lv_iconst (v := (1 : Int32)) hx hb dX0_take_57 (by decide) ?_
          refine lv_isub hx hb dX0_take_58 ?_
          obtain ⟨hc8, hf⟩ := it_n hf
          refine va_lald hx hb hK hP 2 0 rfl rfl hc8 dX0_take_59 ?_
          have hPc := hP.sub (ws' := [ce_net rA net_t net_n net_units net_spin, ce_fac rA fac_count p3]) [0, 1] rfl
          have hKc := hK.sub (tys' := []) [] rfl
          refine kp_i (va_runV (As := [.long p2, .long (s44.2 (s44.1 - (1 : Int32)).toNatClampNeg)]) (rest := []) ⟨hx, hb, hml, hown, hts⟩ (c_X0_isAhead l dC dI rA kA net_t net_n net_units net_spin fac_count p3 p2 (s44.2 (s44.1 - (1 : Int32)).toNatClampNeg)) (cwV 2 hts gX0_take_X0_isAhead rfl rfl rfl hv_X0_isAhead ⟨Nat.le_of_ble_eq_true rfl, Nat.le_of_ble_eq_true rfl⟩) ⟨fb_p, va_recv hK hP (ci := 0) (q0 := 1) rfl rfl, pre_p hPc hKc hN⟩ rfl rfl hl.1 rfl (lv_room (Nat.le_of_ble_eq_true rfl)) dX0_take_60 ⟨Nat.le_of_ble_eq_true rfl, Nat.le_of_ble_eq_true rfl⟩) ?_
          refine lv_if_eq (tgt := 88) hx hb dX0_take_63 (by decide) (fun c10 => ?_) (fun c10 => ?_)
          · have hf := it_t c10 hf
            exact ho _ _ _ (KT44_88 s44.1 s44.2 H locs ls (by rw [← itz_r hf hz] at hk44; exact hk44) hP hD hS (lv_sub hl [0, 1, 2] rfl))
          · have hf := it_f c10 hf
            refine lv_aload_n hx hb dX0_take_66 rfl (lv_at hl 0 rfl) ?_
            refine va_get (D := (dC, dI)) (ci := 0) (v := .ref (rA 5)) (C := RX0) (T := TX0) (N := 4) hx hb hts nX0_take_X0 hown hK hP 1 rfl rfl 1 (by decide) (hts _ qX0_take_2) (fun _ h9 => h9) rfl dX0_take_67 ?_
            refine lv_iload hx hb dX0_take_70 (lv_at hl 2 rfl) ?_
            refine lv_aload_n hx hb dX0_take_72 rfl (lv_at hl 0 rfl) ?_
            refine va_get (D := (dC, dI)) (ci := 0) (v := .ref (rA 5)) (C := RX0) (T := TX0) (N := 4) hx hb hts nX0_take_X0 hown hK hP 1 rfl rfl 1 (by decide) (hts _ qX0_take_2) (fun _ h9 => h9) rfl dX0_take_73 ?_
            refine lv_iload hx hb dX0_take_76 (lv_at hl 2 rfl) ?_
            refine lv_iconst (v := (1 : Int32)) hx hb dX0_take_78 (by decide) ?_
            refine lv_isub hx hb dX0_take_79 ?_
            refine va_lald hx hb hK hP 2 0 rfl rfl hc8 dX0_take_80 ?_
            obtain ⟨hc13, hf⟩ := it_n hf
            refine va_last hx hb hK hP hD hS 2 0 rfl rfl hc13 dX0_take_81 (fun H locs hP hD hS => ?_)
            have hP : va_P (dC, dI) vwCl [ce_net rA net_t net_n net_units net_spin, ce_fac rA fac_count p3, ce_J (rA 5) (kA 5) 40 (vp_updL s44.2 s44.1.toNatClampNeg (s44.2 (s44.1 - (1 : Int32)).toNatClampNeg))] H := hP
            have hD : va_D A [ce_net rA net_t net_n net_units net_spin, ce_fac rA fac_count p3, ce_J (rA 5) (kA 5) 40 (vp_updL s44.2 s44.1.toNatClampNeg (s44.2 (s44.1 - (1 : Int32)).toNatClampNeg))] := hD
            refine lv_iinc (v := (s44.1 + (-1 : Int32))) (lv' := [(5, .int (s44.1 + (-1 : Int32))), (0, .ref (rA 4)), (3, .long p2)]) hx hb dX0_take_82 hl (k := 2) rfl rfl (by decide) rfl (fun ls hl => ?_)
            refine lv_goto (tgt := 44) hx hb dX0_take_85 (by decide) ?_
            exact ho _ _ _ (ih _ _ _ _ (itz_l hf hz) hP hD hS (lv_sub hl [1, 2, 0] rfl))
    exact ho _ _ _ (LP44 k44 (fac_count, pri) H locs ls h044 hP hD hS (lv_sub hl [2, 1, 0] rfl))
  · have hf := it_f c1 hf
    obtain rfl := Option.some.inj hf
    exact W.vret hx hb hr (fun t ht hW => gw_v_of hAe hP hD hS ht) (fun q hq => hAe ▸ hS.2.2 q hq) dX0_take_12
def f_X1_become_fl_p (v1 : Int64) : Int64 := v1
def f_X1_become_fl_q (v3 : Int64) : Int64 := v3
def f_X1_become_fl_r (v5 : Int64) : Int64 := v5
theorem qX1_become_1 : (.fieldLink RX1 9 "PlaneWholes$Flock" "p" "J" : Cond) ∈ wsX1_become := List.mem_of_getElem? (i := 1) rfl
theorem qX1_become_2 : (.fieldLink RX1 15 "PlaneWholes$Flock" "q" "J" : Cond) ∈ wsX1_become := List.mem_of_getElem? (i := 2) rfl
theorem qX1_become_3 : (.fieldLink RX1 18 "PlaneWholes$Flock" "\x72" "J" : Cond) ∈ wsX1_become := List.mem_of_getElem? (i := 3) rfl
theorem nX1_become_X1 : ∀ w ∈ wsX10, w ∈ wsX1_become := fun _ h => List.mem_cons_of_mem _ (List.mem_append_right _ h)
theorem hv_X1_become : yX1_become.cls = RX1 ∧ yX1_become.cls ≠ "java/lang/invoke/MethodHandle" ∧ yX1_become.cls ≠ "java/lang/invoke/VarHandle" ∧ (parseMethodDescriptor yX1_become.desc).map (fun d => d.parameters.length) = some 3 := by decide +kernel
set_option maxHeartbeats 8000000 in
set_option maxRecDepth 100000 in
theorem c_X1_become (l : Launch) (dC : Nat → ClassId) (dI : Nat → Nat → Nat) (rA : Nat → Nat) (kA : Nat → ClassId) (af : Nat) (sz : Nat) (fl_p fl_q fl_r : Int64) (v1 v3 v5 : Int64) : Met l yX1_become wsX1_become ({ frames := 0, cells := 0, slots := 0, locals := 0 }) (va_Pc [.ref af, .long v1, .long v3, .long v5] (pw (dC, dI) [ce_fl af fl_p fl_q fl_r] [] sz)) (gw_v (dC, dI) [ce_fl af fl_p fl_q fl_r] [ce_fl af (f_X1_become_fl_p v1) (f_X1_become_fl_q v3) (f_X1_become_fl_r v5)] sz) 0 0 (va_A [ce_fl af fl_p fl_q fl_r] sz) := by
  refine Met.ofW (cc := cX1_become) (maxL := 7) (ret := none) (by decide) rfl ?_
  intro p e s m args below meth c s₁ B hml hv
  obtain ⟨rfl, hsz, hP, hK, hD0, hN⟩ := hv
  have hx := B.exec
  have hb := B.bytes
  have hr := B.returns
  have hts := atoms_spec (ws := wsX1_become) B.pre
  have hown : s.vm.findClass RX1 = some m.cls := findClass_of_methodNamed B.named
  have hlocks := B.notSynchronized
  subst hsz
  obtain ⟨A, hAe⟩ : ∃ A, A = va_A [ce_fl af fl_p fl_q fl_r] s.heap.size := ⟨_, rfl⟩
  have hD : va_D A [ce_fl af fl_p fl_q fl_r] := by rw [hAe]; exact hD0.self
  have hA : ∀ q : Nat, s.heap.size ≤ q → A q := fun q h => by rw [hAe]; exact Or.inr h
  have hP0 : va_P (dC, dI) vwCl [ce_fl af fl_p fl_q fl_r] s.heap := hP
  refine wH (fun H eH => ?_)
  have hS : va_S A s.heap H [] := by rw [eH]; exact va_S.rf
  have hP : va_P (dC, dI) vwCl [ce_fl af fl_p fl_q fl_r] H := by rw [eH]; exact hP0
  have hl := lv_entry ([.ref af, .long v1, .long v3, .long v5]) (n := 7) (Nat.le_of_ble_eq_true rfl)
  rw [lg_entry_eq]
  generalize (lg_sl ([.ref af, .long v1, .long v3, .long v5]) ++ List.replicate (7 - (lg_sl ([.ref af, .long v1, .long v3, .long v5])).length) Slot.unset).toArray = ls at hl ⊢
  have hl : lv_has ls 7 [(0, .ref af), (1, .long v1), (3, .long v3), (5, .long v5)] := hl
  refine lv_aload_n hx hb dX1_become_0 rfl (lv_at hl 0 rfl) ?_
  refine lv_lload_n hx hb dX1_become_1 rfl (lv_at hl 1 rfl) ?_
  refine va_put (D := (dC, dI)) (ci := 1) (v := .long v1) (ty := .long) (C := RX1) (T := TX1) (N := 3) hx hb hts nX1_become_X1 tyX1 tyX1_ok nmX1 hown hK hP hD hS 0 rfl rfl 0 (by decide) (hts _ qX1_become_1) (fun _ h9 => h9) rfl (by decide +kernel) rfl rfl (Nat.le_of_ble_eq_true rfl) dX1_become_2 (fun H locs hP hD hS => ?_)
  have hP : va_P (dC, dI) vwCl [ce_fl af v1 fl_q fl_r] H := hP
  have hD : va_D A [ce_fl af v1 fl_q fl_r] := hD
  refine lv_aload_n hx hb dX1_become_5 rfl (lv_at hl 0 rfl) ?_
  refine lv_lload_n hx hb dX1_become_6 rfl (lv_at hl 2 rfl) ?_
  refine va_put (D := (dC, dI)) (ci := 1) (v := .long v3) (ty := .long) (C := RX1) (T := TX1) (N := 3) hx hb hts nX1_become_X1 tyX1 tyX1_ok nmX1 hown hK hP hD hS 0 rfl rfl 1 (by decide) (hts _ qX1_become_2) (fun _ h9 => h9) rfl (by decide +kernel) rfl rfl (Nat.le_of_ble_eq_true rfl) dX1_become_7 (fun H locs hP hD hS => ?_)
  have hP : va_P (dC, dI) vwCl [ce_fl af v1 v3 fl_r] H := hP
  have hD : va_D A [ce_fl af v1 v3 fl_r] := hD
  refine lv_aload_n hx hb dX1_become_10 rfl (lv_at hl 0 rfl) ?_
  refine lv_lload hx hb dX1_become_11 (lv_at hl 3 rfl) ?_
  refine va_put (D := (dC, dI)) (ci := 1) (v := .long v5) (ty := .long) (C := RX1) (T := TX1) (N := 3) hx hb hts nX1_become_X1 tyX1 tyX1_ok nmX1 hown hK hP hD hS 0 rfl rfl 2 (by decide) (hts _ qX1_become_3) (fun _ h9 => h9) rfl (by decide +kernel) rfl rfl (Nat.le_of_ble_eq_true rfl) dX1_become_13 (fun H locs hP hD hS => ?_)
  have hP : va_P (dC, dI) vwCl [ce_fl af v1 v3 v5] H := hP
  have hD : va_D A [ce_fl af v1 v3 v5] := hD
  exact W.vret hx hb hr (fun t ht hW => gw_v_of hAe hP hD hS ht) (fun q hq => hAe ▸ hS.2.2 q hq) dX1_become_16
def f_X8_put_mod_a (v1 : Int64) : Int64 := v1
def f_X8_put_mod_b (v3 : Int64) : Int64 := v3
theorem qX8_put_1 : (.fieldLink RX8 69 "PlaneWholesModel" "a" "J" : Cond) ∈ wsX8_put := List.mem_of_getElem? (i := 1) rfl
theorem qX8_put_2 : (.fieldLink RX8 72 "PlaneWholesModel" "b" "J" : Cond) ∈ wsX8_put := List.mem_of_getElem? (i := 2) rfl
theorem nX8_put_X8 : ∀ w ∈ wsX80, w ∈ wsX8_put := fun _ h => List.mem_cons_of_mem _ (List.mem_append_right _ h)
theorem hv_X8_put : yX8_put.cls = RX8 ∧ yX8_put.cls ≠ "java/lang/invoke/MethodHandle" ∧ yX8_put.cls ≠ "java/lang/invoke/VarHandle" ∧ (parseMethodDescriptor yX8_put.desc).map (fun d => d.parameters.length) = some 2 := by decide +kernel
set_option maxHeartbeats 8000000 in
set_option maxRecDepth 100000 in
theorem c_X8_put (l : Launch) (dC : Nat → ClassId) (dI : Nat → Nat → Nat) (rA : Nat → Nat) (kA : Nat → ClassId) (sz : Nat) (mod_t mod_n mod_a mod_b : Int64) (mod_unitMany : Int32) (mod_quotA mod_quotB : Int64) (mod_unitUsed : Int32) (mod_fu mod_fuB mod_fv mod_fvB mod_madeA mod_madeB : Int64) (mod_partMany : Int32) (mod_leftA mod_leftB mod_rootA mod_rootB : Int64) (mod_tail mod_round mod_sum mod_rowMany : Int32) (mod_least : Int64) (mod_leastMany : Int32) (mod_netP mod_netQ mod_netR : Int64) (mod_leapMany : Int32) (v1 v3 : Int64) : Met l yX8_put wsX8_put ({ frames := 0, cells := 0, slots := 0, locals := 0 }) (va_Pc [.ref (rA 0), .long v1, .long v3] (pw (dC, dI) [ce_mod rA mod_t mod_n mod_a mod_b mod_unitMany mod_quotA mod_quotB mod_unitUsed mod_fu mod_fuB mod_fv mod_fvB mod_madeA mod_madeB mod_partMany mod_leftA mod_leftB mod_rootA mod_rootB mod_tail mod_round mod_sum mod_rowMany mod_least mod_leastMany mod_netP mod_netQ mod_netR mod_leapMany] [] sz)) (gw_v (dC, dI) [ce_mod rA mod_t mod_n mod_a mod_b mod_unitMany mod_quotA mod_quotB mod_unitUsed mod_fu mod_fuB mod_fv mod_fvB mod_madeA mod_madeB mod_partMany mod_leftA mod_leftB mod_rootA mod_rootB mod_tail mod_round mod_sum mod_rowMany mod_least mod_leastMany mod_netP mod_netQ mod_netR mod_leapMany] [ce_mod rA mod_t mod_n (f_X8_put_mod_a v1) (f_X8_put_mod_b v3) mod_unitMany mod_quotA mod_quotB mod_unitUsed mod_fu mod_fuB mod_fv mod_fvB mod_madeA mod_madeB mod_partMany mod_leftA mod_leftB mod_rootA mod_rootB mod_tail mod_round mod_sum mod_rowMany mod_least mod_leastMany mod_netP mod_netQ mod_netR mod_leapMany] sz) 0 0 (va_A [ce_mod rA mod_t mod_n mod_a mod_b mod_unitMany mod_quotA mod_quotB mod_unitUsed mod_fu mod_fuB mod_fv mod_fvB mod_madeA mod_madeB mod_partMany mod_leftA mod_leftB mod_rootA mod_rootB mod_tail mod_round mod_sum mod_rowMany mod_least mod_leastMany mod_netP mod_netQ mod_netR mod_leapMany] sz) := by
  refine Met.ofW (cc := cX8_put) (maxL := 5) (ret := none) (by decide) rfl ?_
  intro p e s m args below meth c s₁ B hml hv
  obtain ⟨rfl, hsz, hP, hK, hD0, hN⟩ := hv
  have hx := B.exec
  have hb := B.bytes
  have hr := B.returns
  have hts := atoms_spec (ws := wsX8_put) B.pre
  have hown : s.vm.findClass RX8 = some m.cls := findClass_of_methodNamed B.named
  have hlocks := B.notSynchronized
  subst hsz
  obtain ⟨A, hAe⟩ : ∃ A, A = va_A [ce_mod rA mod_t mod_n mod_a mod_b mod_unitMany mod_quotA mod_quotB mod_unitUsed mod_fu mod_fuB mod_fv mod_fvB mod_madeA mod_madeB mod_partMany mod_leftA mod_leftB mod_rootA mod_rootB mod_tail mod_round mod_sum mod_rowMany mod_least mod_leastMany mod_netP mod_netQ mod_netR mod_leapMany] s.heap.size := ⟨_, rfl⟩
  have hD : va_D A [ce_mod rA mod_t mod_n mod_a mod_b mod_unitMany mod_quotA mod_quotB mod_unitUsed mod_fu mod_fuB mod_fv mod_fvB mod_madeA mod_madeB mod_partMany mod_leftA mod_leftB mod_rootA mod_rootB mod_tail mod_round mod_sum mod_rowMany mod_least mod_leastMany mod_netP mod_netQ mod_netR mod_leapMany] := by rw [hAe]; exact hD0.self
  have hA : ∀ q : Nat, s.heap.size ≤ q → A q := fun q h => by rw [hAe]; exact Or.inr h
  have hP0 : va_P (dC, dI) vwCl [ce_mod rA mod_t mod_n mod_a mod_b mod_unitMany mod_quotA mod_quotB mod_unitUsed mod_fu mod_fuB mod_fv mod_fvB mod_madeA mod_madeB mod_partMany mod_leftA mod_leftB mod_rootA mod_rootB mod_tail mod_round mod_sum mod_rowMany mod_least mod_leastMany mod_netP mod_netQ mod_netR mod_leapMany] s.heap := hP
  refine wH (fun H eH => ?_)
  have hS : va_S A s.heap H [] := by rw [eH]; exact va_S.rf
  have hP : va_P (dC, dI) vwCl [ce_mod rA mod_t mod_n mod_a mod_b mod_unitMany mod_quotA mod_quotB mod_unitUsed mod_fu mod_fuB mod_fv mod_fvB mod_madeA mod_madeB mod_partMany mod_leftA mod_leftB mod_rootA mod_rootB mod_tail mod_round mod_sum mod_rowMany mod_least mod_leastMany mod_netP mod_netQ mod_netR mod_leapMany] H := by rw [eH]; exact hP0
  have hl := lv_entry ([.ref (rA 0), .long v1, .long v3]) (n := 5) (Nat.le_of_ble_eq_true rfl)
  rw [lg_entry_eq]
  generalize (lg_sl ([.ref (rA 0), .long v1, .long v3]) ++ List.replicate (5 - (lg_sl ([.ref (rA 0), .long v1, .long v3])).length) Slot.unset).toArray = ls at hl ⊢
  have hl : lv_has ls 5 [(0, .ref (rA 0)), (1, .long v1), (3, .long v3)] := hl
  refine lv_aload_n hx hb dX8_put_0 rfl (lv_at hl 0 rfl) ?_
  refine lv_lload_n hx hb dX8_put_1 rfl (lv_at hl 1 rfl) ?_
  refine va_put (D := (dC, dI)) (ci := 8) (v := .long v1) (ty := .long) (C := RX8) (T := TX8) (N := 42) hx hb hts nX8_put_X8 tyX8 tyX8_ok nmX8 hown hK hP hD hS 0 rfl rfl 4 (by decide) (hts _ qX8_put_1) (fun _ h9 => h9) rfl (by decide +kernel) rfl rfl (Nat.le_of_ble_eq_true rfl) dX8_put_2 (fun H locs hP hD hS => ?_)
  have hP : va_P (dC, dI) vwCl [ce_mod rA mod_t mod_n v1 mod_b mod_unitMany mod_quotA mod_quotB mod_unitUsed mod_fu mod_fuB mod_fv mod_fvB mod_madeA mod_madeB mod_partMany mod_leftA mod_leftB mod_rootA mod_rootB mod_tail mod_round mod_sum mod_rowMany mod_least mod_leastMany mod_netP mod_netQ mod_netR mod_leapMany] H := hP
  have hD : va_D A [ce_mod rA mod_t mod_n v1 mod_b mod_unitMany mod_quotA mod_quotB mod_unitUsed mod_fu mod_fuB mod_fv mod_fvB mod_madeA mod_madeB mod_partMany mod_leftA mod_leftB mod_rootA mod_rootB mod_tail mod_round mod_sum mod_rowMany mod_least mod_leastMany mod_netP mod_netQ mod_netR mod_leapMany] := hD
  refine lv_aload_n hx hb dX8_put_5 rfl (lv_at hl 0 rfl) ?_
  refine lv_lload_n hx hb dX8_put_6 rfl (lv_at hl 2 rfl) ?_
  refine va_put (D := (dC, dI)) (ci := 8) (v := .long v3) (ty := .long) (C := RX8) (T := TX8) (N := 42) hx hb hts nX8_put_X8 tyX8 tyX8_ok nmX8 hown hK hP hD hS 0 rfl rfl 5 (by decide) (hts _ qX8_put_2) (fun _ h9 => h9) rfl (by decide +kernel) rfl rfl (Nat.le_of_ble_eq_true rfl) dX8_put_7 (fun H locs hP hD hS => ?_)
  have hP : va_P (dC, dI) vwCl [ce_mod rA mod_t mod_n v1 v3 mod_unitMany mod_quotA mod_quotB mod_unitUsed mod_fu mod_fuB mod_fv mod_fvB mod_madeA mod_madeB mod_partMany mod_leftA mod_leftB mod_rootA mod_rootB mod_tail mod_round mod_sum mod_rowMany mod_least mod_leastMany mod_netP mod_netQ mod_netR mod_leapMany] H := hP
  have hD : va_D A [ce_mod rA mod_t mod_n v1 v3 mod_unitMany mod_quotA mod_quotB mod_unitUsed mod_fu mod_fuB mod_fv mod_fvB mod_madeA mod_madeB mod_partMany mod_leftA mod_leftB mod_rootA mod_rootB mod_tail mod_round mod_sum mod_rowMany mod_least mod_leastMany mod_netP mod_netQ mod_netR mod_leapMany] := hD
  exact W.vret hx hb hr (fun t ht hW => gw_v_of hAe hP hD hS ht) (fun q hq => hAe ▸ hS.2.2 q hq) dX8_put_10
def f_X8_times_mod_a (mod_n v1 v3 v5 v7 : Int64) : Int64 := (f_X8_put_mod_a ((v1 * v5) - ((mod_n * v3) * v7)))
def f_X8_times_mod_b (mod_t v1 v3 v5 v7 : Int64) : Int64 := (f_X8_put_mod_b (((v1 * v7) + (v3 * v5)) + ((mod_t * v3) * v7)))
theorem qX8_times_1 : (.fieldLink RX8 7 "PlaneWholesModel" "n" "J" : Cond) ∈ wsX8_times := List.mem_of_getElem? (i := 1) rfl
theorem qX8_times_2 : (.fieldLink RX8 66 "PlaneWholesModel" "t" "J" : Cond) ∈ wsX8_times := List.mem_of_getElem? (i := 2) rfl
theorem nX8_times_X8 : ∀ w ∈ wsX80, w ∈ wsX8_times := fun _ h => List.mem_cons_of_mem _ (List.mem_append_right _ h)
set_option maxRecDepth 20000 in
theorem gX8_times_X8_put : GoodIn wsX8_times (wsV RX8 75 RX8 yX8_put wsX8_put) := gI _ [3, 4, 5, 6, 7, 8, 9, 10, 11, 12, 13, 14, 15, 16, 17, 18, 19, 20, 21, 22, 23, 24, 25, 26, 27, 28, 29, 30, 31, 32, 33, 34, 35, 36, 37, 38, 39, 40, 41, 42, 43, 44, 45, 46, 47, 48, 49, 50, 51] rfl rfl
theorem hv_X8_times : yX8_times.cls = RX8 ∧ yX8_times.cls ≠ "java/lang/invoke/MethodHandle" ∧ yX8_times.cls ≠ "java/lang/invoke/VarHandle" ∧ (parseMethodDescriptor yX8_times.desc).map (fun d => d.parameters.length) = some 4 := by decide +kernel
set_option maxHeartbeats 8000000 in
set_option maxRecDepth 100000 in
theorem c_X8_times (l : Launch) (dC : Nat → ClassId) (dI : Nat → Nat → Nat) (rA : Nat → Nat) (kA : Nat → ClassId) (sz : Nat) (mod_t mod_n mod_a mod_b : Int64) (mod_unitMany : Int32) (mod_quotA mod_quotB : Int64) (mod_unitUsed : Int32) (mod_fu mod_fuB mod_fv mod_fvB mod_madeA mod_madeB : Int64) (mod_partMany : Int32) (mod_leftA mod_leftB mod_rootA mod_rootB : Int64) (mod_tail mod_round mod_sum mod_rowMany : Int32) (mod_least : Int64) (mod_leastMany : Int32) (mod_netP mod_netQ mod_netR : Int64) (mod_leapMany : Int32) (v1 v3 v5 v7 : Int64) : Met l yX8_times wsX8_times ({ frames := 1, cells := 0, slots := 0, locals := 24 }) (va_Pc [.ref (rA 0), .long v1, .long v3, .long v5, .long v7] (pw (dC, dI) [ce_mod rA mod_t mod_n mod_a mod_b mod_unitMany mod_quotA mod_quotB mod_unitUsed mod_fu mod_fuB mod_fv mod_fvB mod_madeA mod_madeB mod_partMany mod_leftA mod_leftB mod_rootA mod_rootB mod_tail mod_round mod_sum mod_rowMany mod_least mod_leastMany mod_netP mod_netQ mod_netR mod_leapMany] [] sz)) (gw_v (dC, dI) [ce_mod rA mod_t mod_n mod_a mod_b mod_unitMany mod_quotA mod_quotB mod_unitUsed mod_fu mod_fuB mod_fv mod_fvB mod_madeA mod_madeB mod_partMany mod_leftA mod_leftB mod_rootA mod_rootB mod_tail mod_round mod_sum mod_rowMany mod_least mod_leastMany mod_netP mod_netQ mod_netR mod_leapMany] [ce_mod rA mod_t mod_n (f_X8_times_mod_a mod_n v1 v3 v5 v7) (f_X8_times_mod_b mod_t v1 v3 v5 v7) mod_unitMany mod_quotA mod_quotB mod_unitUsed mod_fu mod_fuB mod_fv mod_fvB mod_madeA mod_madeB mod_partMany mod_leftA mod_leftB mod_rootA mod_rootB mod_tail mod_round mod_sum mod_rowMany mod_least mod_leastMany mod_netP mod_netQ mod_netR mod_leapMany] sz) 0 0 (va_A [ce_mod rA mod_t mod_n mod_a mod_b mod_unitMany mod_quotA mod_quotB mod_unitUsed mod_fu mod_fuB mod_fv mod_fvB mod_madeA mod_madeB mod_partMany mod_leftA mod_leftB mod_rootA mod_rootB mod_tail mod_round mod_sum mod_rowMany mod_least mod_leastMany mod_netP mod_netQ mod_netR mod_leapMany] sz) := by
  refine Met.ofW (cc := cX8_times) (maxL := 9) (ret := none) (by decide) rfl ?_
  intro p e s m args below meth c s₁ B hml hv
  obtain ⟨rfl, hsz, hP, hK, hD0, hN⟩ := hv
  have hx := B.exec
  have hb := B.bytes
  have hr := B.returns
  have hts := atoms_spec (ws := wsX8_times) B.pre
  have hown : s.vm.findClass RX8 = some m.cls := findClass_of_methodNamed B.named
  have hlocks := B.notSynchronized
  subst hsz
  obtain ⟨A, hAe⟩ : ∃ A, A = va_A [ce_mod rA mod_t mod_n mod_a mod_b mod_unitMany mod_quotA mod_quotB mod_unitUsed mod_fu mod_fuB mod_fv mod_fvB mod_madeA mod_madeB mod_partMany mod_leftA mod_leftB mod_rootA mod_rootB mod_tail mod_round mod_sum mod_rowMany mod_least mod_leastMany mod_netP mod_netQ mod_netR mod_leapMany] s.heap.size := ⟨_, rfl⟩
  have hD : va_D A [ce_mod rA mod_t mod_n mod_a mod_b mod_unitMany mod_quotA mod_quotB mod_unitUsed mod_fu mod_fuB mod_fv mod_fvB mod_madeA mod_madeB mod_partMany mod_leftA mod_leftB mod_rootA mod_rootB mod_tail mod_round mod_sum mod_rowMany mod_least mod_leastMany mod_netP mod_netQ mod_netR mod_leapMany] := by rw [hAe]; exact hD0.self
  have hA : ∀ q : Nat, s.heap.size ≤ q → A q := fun q h => by rw [hAe]; exact Or.inr h
  have hP0 : va_P (dC, dI) vwCl [ce_mod rA mod_t mod_n mod_a mod_b mod_unitMany mod_quotA mod_quotB mod_unitUsed mod_fu mod_fuB mod_fv mod_fvB mod_madeA mod_madeB mod_partMany mod_leftA mod_leftB mod_rootA mod_rootB mod_tail mod_round mod_sum mod_rowMany mod_least mod_leastMany mod_netP mod_netQ mod_netR mod_leapMany] s.heap := hP
  refine wH (fun H eH => ?_)
  have hS : va_S A s.heap H [] := by rw [eH]; exact va_S.rf
  have hP : va_P (dC, dI) vwCl [ce_mod rA mod_t mod_n mod_a mod_b mod_unitMany mod_quotA mod_quotB mod_unitUsed mod_fu mod_fuB mod_fv mod_fvB mod_madeA mod_madeB mod_partMany mod_leftA mod_leftB mod_rootA mod_rootB mod_tail mod_round mod_sum mod_rowMany mod_least mod_leastMany mod_netP mod_netQ mod_netR mod_leapMany] H := by rw [eH]; exact hP0
  have hl := lv_entry ([.ref (rA 0), .long v1, .long v3, .long v5, .long v7]) (n := 9) (Nat.le_of_ble_eq_true rfl)
  rw [lg_entry_eq]
  generalize (lg_sl ([.ref (rA 0), .long v1, .long v3, .long v5, .long v7]) ++ List.replicate (9 - (lg_sl ([.ref (rA 0), .long v1, .long v3, .long v5, .long v7])).length) Slot.unset).toArray = ls at hl ⊢
  have hl : lv_has ls 9 [(0, .ref (rA 0)), (1, .long v1), (3, .long v3), (5, .long v5), (7, .long v7)] := hl
  refine lv_aload_n hx hb dX8_times_0 rfl (lv_at hl 0 rfl) ?_
  refine lv_lload_n hx hb dX8_times_1 rfl (lv_at hl 1 rfl) ?_
  refine lv_lload hx hb dX8_times_2 (lv_at hl 3 rfl) ?_
  refine lv_lmul hx hb dX8_times_4 ?_
  refine lv_aload_n hx hb dX8_times_5 rfl (lv_at hl 0 rfl) ?_
  refine va_get (D := (dC, dI)) (ci := 8) (v := .long mod_n) (C := RX8) (T := TX8) (N := 42) hx hb hts nX8_times_X8 hown hK hP 0 rfl rfl 1 (by decide) (hts _ qX8_times_1) (fun _ h9 => h9) rfl dX8_times_6 ?_
  refine lv_lload_n hx hb dX8_times_9 rfl (lv_at hl 2 rfl) ?_
  refine lv_lmul hx hb dX8_times_10 ?_
  refine lv_lload hx hb dX8_times_11 (lv_at hl 4 rfl) ?_
  refine lv_lmul hx hb dX8_times_13 ?_
  refine lv_lsub hx hb dX8_times_14 ?_
  refine lv_lload_n hx hb dX8_times_15 rfl (lv_at hl 1 rfl) ?_
  refine lv_lload hx hb dX8_times_16 (lv_at hl 4 rfl) ?_
  refine lv_lmul hx hb dX8_times_18 ?_
  refine lv_lload_n hx hb dX8_times_19 rfl (lv_at hl 2 rfl) ?_
  refine lv_lload hx hb dX8_times_20 (lv_at hl 3 rfl) ?_
  refine lv_lmul hx hb dX8_times_22 ?_
  refine lv_ladd hx hb dX8_times_23 ?_
  refine lv_aload_n hx hb dX8_times_24 rfl (lv_at hl 0 rfl) ?_
  refine va_get (D := (dC, dI)) (ci := 8) (v := .long mod_t) (C := RX8) (T := TX8) (N := 42) hx hb hts nX8_times_X8 hown hK hP 0 rfl rfl 0 (by decide) (hts _ qX8_times_2) (fun _ h9 => h9) rfl dX8_times_25 ?_
  refine lv_lload_n hx hb dX8_times_28 rfl (lv_at hl 2 rfl) ?_
  refine lv_lmul hx hb dX8_times_29 ?_
  refine lv_lload hx hb dX8_times_30 (lv_at hl 4 rfl) ?_
  refine lv_lmul hx hb dX8_times_32 ?_
  refine lv_ladd hx hb dX8_times_33 ?_
  refine kw_v (wr := []) (ws' := [ce_mod rA mod_t mod_n (f_X8_put_mod_a ((v1 * v5) - ((mod_n * v3) * v7))) (f_X8_put_mod_b (((v1 * v7) + (v3 * v5)) + ((mod_t * v3) * v7))) mod_unitMany mod_quotA mod_quotB mod_unitUsed mod_fu mod_fuB mod_fv mod_fvB mod_madeA mod_madeB mod_partMany mod_leftA mod_leftB mod_rootA mod_rootB mod_tail mod_round mod_sum mod_rowMany mod_least mod_leastMany mod_netP mod_netQ mod_netR mod_leapMany]) (va_runV (As := [.long ((v1 * v5) - ((mod_n * v3) * v7)), .long (((v1 * v7) + (v3 * v5)) + ((mod_t * v3) * v7))]) (rest := []) ⟨hx, hb, hml, hown, hts⟩ (c_X8_put l dC dI rA kA H.size mod_t mod_n mod_a mod_b mod_unitMany mod_quotA mod_quotB mod_unitUsed mod_fu mod_fuB mod_fv mod_fvB mod_madeA mod_madeB mod_partMany mod_leftA mod_leftB mod_rootA mod_rootB mod_tail mod_round mod_sum mod_rowMany mod_least mod_leastMany mod_netP mod_netQ mod_netR mod_leapMany ((v1 * v5) - ((mod_n * v3) * v7)) (((v1 * v7) + (v3 * v5)) + ((mod_t * v3) * v7))) (cwV 2 hts gX8_times_X8_put rfl rfl rfl hv_X8_put ⟨Nat.le_of_ble_eq_true rfl, Nat.le_of_ble_eq_true rfl⟩) ⟨fb_w, va_recv hK hP (ci := 8) (q0 := 0) rfl rfl, pre_w hP hD hK hN⟩ rfl rfl hl.1 rfl (lv_room (Nat.le_of_ble_eq_true rfl)) dX8_times_34 ⟨Nat.le_of_ble_eq_true rfl, Nat.le_of_ble_eq_true rfl⟩) hP hD hS hA [0] [] [0] rfl rfl rfl (by decide) rfl rfl rfl (fun H locs hP hD hS => ?_)
  exact W.vret hx hb hr (fun t ht hW => gw_v_of hAe hP hD hS ht) (fun q hq => hAe ▸ hS.2.2 q hq) dX8_times_37
def f_X8_in (v0 v2 v4 : Int64) : Int32 :=
  if v0 < v2 then
    (0 : Int32)
  else
    if v4 < v0 then
      (0 : Int32)
    else
      (1 : Int32)
theorem b_X8_in (a b c : Int64) : narrow .boolean (.int (f_X8_in a b c)) = .int (f_X8_in a b c) := by
  unfold f_X8_in
  split <;> (try split) <;> rfl
theorem hs_X8_in : yX8_in.cls ≠ "java/lang/invoke/MethodHandle" ∧ yX8_in.cls ≠ "java/lang/invoke/VarHandle" ∧ (parseMethodDescriptor yX8_in.desc).map (fun d => d.parameters.length) = some 3 := by decide +kernel
set_option maxHeartbeats 8000000 in
set_option maxRecDepth 100000 in
theorem c_X8_in (l : Launch) (dC : Nat → ClassId) (dI : Nat → Nat → Nat) (rA : Nat → Nat) (kA : Nat → ClassId) (v0 v2 v4 : Int64) : Met l yX8_in wsX8_in ({ frames := 0, cells := 0, slots := 0, locals := 0 }) (va_Pc [.long v0, .long v2, .long v4] (px (dC, dI) [] [])) (gq_i (f_X8_in v0 v2 v4)) 0 0 (fun _ => False) := by
  refine Met.ofW (cc := cX8_in) (maxL := 6) (ret := (some .boolean)) (by decide) rfl ?_
  intro p e s m args below meth c s₁ B hml hv
  obtain ⟨rfl, hP, hK, hN⟩ := hv
  have hx := B.exec
  have hb := B.bytes
  have hr := B.returns
  have hts := atoms_spec (ws := wsX8_in) B.pre
  have hown : s.vm.findClass RX8 = some m.cls := findClass_of_methodNamed B.named
  have hlocks := B.notSynchronized
  have hl := lv_entry ([.long v0, .long v2, .long v4]) (n := 6) (Nat.le_of_ble_eq_true rfl)
  rw [lg_entry_eq]
  generalize (lg_sl ([.long v0, .long v2, .long v4]) ++ List.replicate (6 - (lg_sl ([.long v0, .long v2, .long v4])).length) Slot.unset).toArray = ls at hl ⊢
  have hl : lv_has ls 6 [(0, .long v0), (2, .long v2), (4, .long v4)] := hl
  generalize hf : (f_X8_in v0 v2 v4) = z
  unfold f_X8_in at hf
  refine lv_lload_n hx hb dX8_in_0 rfl (lv_at hl 0 rfl) ?_
  refine lv_lload_n hx hb dX8_in_1 rfl (lv_at hl 1 rfl) ?_
  refine W.lcmp hx hb dX8_in_2 ?_
  refine lv_if_lt (tgt := 17) hx hb dX8_in_3 (by decide) (fun c1 => ?_) (fun c1 => ?_)
  · have hf := it_t ((lg_cmp_lt v0 v2).mp c1) hf
    refine lv_iconst (v := (0 : Int32)) hx hb dX8_in_17 (by decide) ?_
    exact W.zret (v := (0 : Int32)) (ty := .boolean) hx hb hr rfl (fun t ht hW => ⟨congrArg (fun q => Outcome.returned (some (.int q))) hf, ht⟩) (fun _ h => nomatch h) dX8_in_18
  · have hf := it_f (fun h => c1 ((lg_cmp_lt v0 v2).mpr h)) hf
    refine lv_lload_n hx hb dX8_in_6 rfl (lv_at hl 0 rfl) ?_
    refine lv_lload hx hb dX8_in_7 (lv_at hl 2 rfl) ?_
    refine W.lcmp hx hb dX8_in_9 ?_
    refine lv_if_gt (tgt := 17) hx hb dX8_in_10 (by decide) (fun c2 => ?_) (fun c2 => ?_)
    · have hf := it_t ((lg_cmp_gt v0 v4).mp c2) hf
      refine lv_iconst (v := (0 : Int32)) hx hb dX8_in_17 (by decide) ?_
      exact W.zret (v := (0 : Int32)) (ty := .boolean) hx hb hr rfl (fun t ht hW => ⟨congrArg (fun q => Outcome.returned (some (.int q))) hf, ht⟩) (fun _ h => nomatch h) dX8_in_18
    · have hf := it_f (fun h => c2 ((lg_cmp_gt v0 v4).mpr h)) hf
      refine lv_iconst (v := (1 : Int32)) hx hb dX8_in_13 (by decide) ?_
      refine lv_goto (tgt := 18) hx hb dX8_in_14 (by decide) ?_
      exact W.zret (v := (1 : Int32)) (ty := .boolean) hx hb hr rfl (fun t ht hW => ⟨congrArg (fun q => Outcome.returned (some (.int q))) hf, ht⟩) (fun _ h => nomatch h) dX8_in_18
def f_X8_isReg (v0 : Int32) : Int32 :=
  (f_X8_in v0.toInt64 (0 : Int64) (7 : Int64))
theorem qX8_isReg_1 : (.constantLong RX8 60 (7) : Cond) ∈ wsX8_isReg := List.mem_of_getElem? (i := 1) rfl
set_option maxRecDepth 20000 in
theorem gX8_isReg_X8_in : GoodIn wsX8_isReg (va_wsS RX8 62 yX8_in wsX8_in) := gI _ [2, 3, 4, 5] rfl rfl
theorem hs_X8_isReg : yX8_isReg.cls ≠ "java/lang/invoke/MethodHandle" ∧ yX8_isReg.cls ≠ "java/lang/invoke/VarHandle" ∧ (parseMethodDescriptor yX8_isReg.desc).map (fun d => d.parameters.length) = some 1 := by decide +kernel
set_option maxHeartbeats 8000000 in
set_option maxRecDepth 100000 in
theorem c_X8_isReg (l : Launch) (dC : Nat → ClassId) (dI : Nat → Nat → Nat) (rA : Nat → Nat) (kA : Nat → ClassId) (v0 : Int32) : Met l yX8_isReg wsX8_isReg ({ frames := 1, cells := 0, slots := 0, locals := 25 }) (va_Pc [.int v0] (px (dC, dI) [] [])) (gq_i (f_X8_isReg v0)) 0 0 (fun _ => False) := by
  refine Met.ofW (cc := cX8_isReg) (maxL := 1) (ret := (some .boolean)) (by decide) rfl ?_
  intro p e s m args below meth c s₁ B hml hv
  obtain ⟨rfl, hP, hK, hN⟩ := hv
  have hx := B.exec
  have hb := B.bytes
  have hr := B.returns
  have hts := atoms_spec (ws := wsX8_isReg) B.pre
  have hown : s.vm.findClass RX8 = some m.cls := findClass_of_methodNamed B.named
  have hlocks := B.notSynchronized
  have hl := lv_entry ([.int v0]) (n := 1) (Nat.le_of_ble_eq_true rfl)
  rw [lg_entry_eq]
  generalize (lg_sl ([.int v0]) ++ List.replicate (1 - (lg_sl ([.int v0])).length) Slot.unset).toArray = ls at hl ⊢
  have hl : lv_has ls 1 [(0, .int v0)] := hl
  generalize hf : (f_X8_isReg v0) = z
  unfold f_X8_isReg at hf
  refine lv_iload_n hx hb dX8_isReg_0 rfl (lv_at hl 0 rfl) ?_
  refine lv_i2l (v := v0.toInt64) hx hb dX8_isReg_1 rfl ?_
  refine lv_lconst (v := (0 : Int64)) hx hb dX8_isReg_2 (by decide) ?_
  refine lv_ldc2 (v := (7 : Int64)) hx hb hown (hts _ qX8_isReg_1) dX8_isReg_3 ?_
  refine kp_i (va_runS (As := [.long v0.toInt64, .long (0 : Int64), .long (7 : Int64)]) (rest := []) ⟨hx, hb, hml, hown, hts⟩ (c_X8_in l dC dI rA kA v0.toInt64 (0 : Int64) (7 : Int64)) (va_cwS 3 hts gX8_isReg_X8_in rfl rfl rfl hs_X8_in ⟨Nat.le_of_ble_eq_true rfl, Nat.le_of_ble_eq_true rfl⟩) ⟨fb_p, pre_p hP hK hN⟩ rfl rfl hl.1 rfl (lv_room (Nat.le_of_ble_eq_true rfl)) dX8_isReg_6 ⟨Nat.le_of_ble_eq_true rfl, Nat.le_of_ble_eq_true rfl⟩) ?_
  exact W.zret (v := (f_X8_in v0.toInt64 (0 : Int64) (7 : Int64))) (ty := .boolean) hx hb hr (b_X8_in _ _ _) (fun t ht hW => ⟨congrArg (fun q => Outcome.returned (some (.int q))) hf, ht⟩) (fun _ h => nomatch h) dX8_isReg_9
def f_X8_sizeOf (mod_t mod_n v1 v3 : Int64) : Int64 :=
  (((v1 * v1) + ((mod_t * v1) * v3)) + ((mod_n * v3) * v3))
theorem qX8_sizeOf_1 : (.fieldLink RX8 66 "PlaneWholesModel" "t" "J" : Cond) ∈ wsX8_sizeOf := List.mem_of_getElem? (i := 1) rfl
theorem qX8_sizeOf_2 : (.fieldLink RX8 7 "PlaneWholesModel" "n" "J" : Cond) ∈ wsX8_sizeOf := List.mem_of_getElem? (i := 2) rfl
theorem nX8_sizeOf_X8 : ∀ w ∈ wsX80, w ∈ wsX8_sizeOf := fun _ h => List.mem_cons_of_mem _ (List.mem_append_right _ h)
theorem hv_X8_sizeOf : yX8_sizeOf.cls = RX8 ∧ yX8_sizeOf.cls ≠ "java/lang/invoke/MethodHandle" ∧ yX8_sizeOf.cls ≠ "java/lang/invoke/VarHandle" ∧ (parseMethodDescriptor yX8_sizeOf.desc).map (fun d => d.parameters.length) = some 2 := by decide +kernel
set_option maxHeartbeats 8000000 in
set_option maxRecDepth 100000 in
theorem c_X8_sizeOf (l : Launch) (dC : Nat → ClassId) (dI : Nat → Nat → Nat) (rA : Nat → Nat) (kA : Nat → ClassId) (mod_t mod_n mod_a mod_b : Int64) (mod_unitMany : Int32) (mod_quotA mod_quotB : Int64) (mod_unitUsed : Int32) (mod_fu mod_fuB mod_fv mod_fvB mod_madeA mod_madeB : Int64) (mod_partMany : Int32) (mod_leftA mod_leftB mod_rootA mod_rootB : Int64) (mod_tail mod_round mod_sum mod_rowMany : Int32) (mod_least : Int64) (mod_leastMany : Int32) (mod_netP mod_netQ mod_netR : Int64) (mod_leapMany : Int32) (v1 v3 : Int64) : Met l yX8_sizeOf wsX8_sizeOf ({ frames := 0, cells := 0, slots := 0, locals := 0 }) (va_Pc [.ref (rA 0), .long v1, .long v3] (px (dC, dI) [ce_mod rA mod_t mod_n mod_a mod_b mod_unitMany mod_quotA mod_quotB mod_unitUsed mod_fu mod_fuB mod_fv mod_fvB mod_madeA mod_madeB mod_partMany mod_leftA mod_leftB mod_rootA mod_rootB mod_tail mod_round mod_sum mod_rowMany mod_least mod_leastMany mod_netP mod_netQ mod_netR mod_leapMany] [])) (gq_l (f_X8_sizeOf mod_t mod_n v1 v3)) 0 0 (fun _ => False) := by
  refine Met.ofW (cc := cX8_sizeOf) (maxL := 5) (ret := (some .long)) (by decide) rfl ?_
  intro p e s m args below meth c s₁ B hml hv
  obtain ⟨rfl, hP, hK, hN⟩ := hv
  have hx := B.exec
  have hb := B.bytes
  have hr := B.returns
  have hts := atoms_spec (ws := wsX8_sizeOf) B.pre
  have hown : s.vm.findClass RX8 = some m.cls := findClass_of_methodNamed B.named
  have hlocks := B.notSynchronized
  have hl := lv_entry ([.ref (rA 0), .long v1, .long v3]) (n := 5) (Nat.le_of_ble_eq_true rfl)
  rw [lg_entry_eq]
  generalize (lg_sl ([.ref (rA 0), .long v1, .long v3]) ++ List.replicate (5 - (lg_sl ([.ref (rA 0), .long v1, .long v3])).length) Slot.unset).toArray = ls at hl ⊢
  have hl : lv_has ls 5 [(0, .ref (rA 0)), (1, .long v1), (3, .long v3)] := hl
  generalize hf : (f_X8_sizeOf mod_t mod_n v1 v3) = z
  unfold f_X8_sizeOf at hf
  refine lv_lload_n hx hb dX8_sizeOf_0 rfl (lv_at hl 1 rfl) ?_
  refine lv_lload_n hx hb dX8_sizeOf_1 rfl (lv_at hl 1 rfl) ?_
  refine lv_lmul hx hb dX8_sizeOf_2 ?_
  refine lv_aload_n hx hb dX8_sizeOf_3 rfl (lv_at hl 0 rfl) ?_
  refine va_get (D := (dC, dI)) (ci := 8) (v := .long mod_t) (C := RX8) (T := TX8) (N := 42) hx hb hts nX8_sizeOf_X8 hown hK hP 0 rfl rfl 0 (by decide) (hts _ qX8_sizeOf_1) (fun _ h9 => h9) rfl dX8_sizeOf_4 ?_
  refine lv_lload_n hx hb dX8_sizeOf_7 rfl (lv_at hl 1 rfl) ?_
  refine lv_lmul hx hb dX8_sizeOf_8 ?_
  refine lv_lload_n hx hb dX8_sizeOf_9 rfl (lv_at hl 2 rfl) ?_
  refine lv_lmul hx hb dX8_sizeOf_10 ?_
  refine lv_ladd hx hb dX8_sizeOf_11 ?_
  refine lv_aload_n hx hb dX8_sizeOf_12 rfl (lv_at hl 0 rfl) ?_
  refine va_get (D := (dC, dI)) (ci := 8) (v := .long mod_n) (C := RX8) (T := TX8) (N := 42) hx hb hts nX8_sizeOf_X8 hown hK hP 0 rfl rfl 1 (by decide) (hts _ qX8_sizeOf_2) (fun _ h9 => h9) rfl dX8_sizeOf_13 ?_
  refine lv_lload_n hx hb dX8_sizeOf_16 rfl (lv_at hl 2 rfl) ?_
  refine lv_lmul hx hb dX8_sizeOf_17 ?_
  refine lv_lload_n hx hb dX8_sizeOf_18 rfl (lv_at hl 2 rfl) ?_
  refine lv_lmul hx hb dX8_sizeOf_19 ?_
  refine lv_ladd hx hb dX8_sizeOf_20 ?_
  exact W.lret (v := (((v1 * v1) + ((mod_t * v1) * v3)) + ((mod_n * v3) * v3))) hx hb hr (fun t ht hW => ⟨congrArg (fun q => Outcome.returned (some (.long q))) hf, ht⟩) (fun _ h => nomatch h) dX8_sizeOf_21
noncomputable def f_X8_floor (v0 v2 : Int64) : Option Int64 :=
  if v2 = 0 then none else
  if (v0 - v0 / v2 * v2) = (0 : Int64) then
    some (v0 / v2)
  else
    if (0 : Int64) ≤ v0 then
      if (0 : Int64) ≤ v2 then
        if (0 : Int32) = (0 : Int32) then
          some (v0 / v2)
        else
          some ((v0 / v2) - (1 : Int64))
      else
        if (0 : Int32) = (1 : Int32) then
          some (v0 / v2)
        else
          some ((v0 / v2) - (1 : Int64))
    else
      if (0 : Int64) ≤ v2 then
        if (1 : Int32) = (0 : Int32) then
          some (v0 / v2)
        else
          some ((v0 / v2) - (1 : Int64))
      else
        if (1 : Int32) = (1 : Int32) then
          some (v0 / v2)
        else
          some ((v0 / v2) - (1 : Int64))
theorem hs_X8_floor : yX8_floor.cls ≠ "java/lang/invoke/MethodHandle" ∧ yX8_floor.cls ≠ "java/lang/invoke/VarHandle" ∧ (parseMethodDescriptor yX8_floor.desc).map (fun d => d.parameters.length) = some 2 := by decide +kernel
set_option maxHeartbeats 8000000 in
set_option maxRecDepth 100000 in
theorem c_X8_floor (l : Launch) (dC : Nat → ClassId) (dI : Nat → Nat → Nat) (rA : Nat → Nat) (kA : Nat → ClassId) (v0 v2 : Int64) {z : Int64} (hf : f_X8_floor v0 v2 = some z) : Met l yX8_floor wsX8_floor ({ frames := 0, cells := 0, slots := 0, locals := 0 }) (va_Pc [.long v0, .long v2] (px (dC, dI) [] [])) (gq_l z) 0 0 (fun _ => False) := by
  refine Met.ofW (cc := cX8_floor) (maxL := 6) (ret := (some .long)) (by decide) rfl ?_
  intro p e s m args below meth c s₁ B hml hv
  obtain ⟨rfl, hP, hK, hN⟩ := hv
  have hx := B.exec
  have hb := B.bytes
  have hr := B.returns
  have hts := atoms_spec (ws := wsX8_floor) B.pre
  have hown : s.vm.findClass RX8 = some m.cls := findClass_of_methodNamed B.named
  have hlocks := B.notSynchronized
  have hl := lv_entry ([.long v0, .long v2]) (n := 6) (Nat.le_of_ble_eq_true rfl)
  rw [lg_entry_eq]
  generalize (lg_sl ([.long v0, .long v2]) ++ List.replicate (6 - (lg_sl ([.long v0, .long v2])).length) Slot.unset).toArray = ls at hl ⊢
  have hl : lv_has ls 6 [(0, .long v0), (2, .long v2)] := hl
  unfold f_X8_floor at hf
  refine lv_lload_n hx hb dX8_floor_0 rfl (lv_at hl 0 rfl) ?_
  refine lv_lload_n hx hb dX8_floor_1 rfl (lv_at hl 1 rfl) ?_
  obtain ⟨hc2, hf⟩ := it_n hf
  refine lv_ldiv hx hb dX8_floor_2 hc2 ?_
  refine lv_lstore (lv' := [(4, .long (v0 / v2)), (0, .long v0), (2, .long v2)]) hx hb dX8_floor_3 hl (by decide) rfl (fun ls hl => ?_)
  refine lv_lload_n hx hb dX8_floor_5 rfl (lv_at hl 1 rfl) ?_
  refine lv_lload_n hx hb dX8_floor_6 rfl (lv_at hl 2 rfl) ?_
  refine lv_lrem hx hb dX8_floor_7 hc2 ?_
  refine lv_lconst (v := (0 : Int64)) hx hb dX8_floor_8 (by decide) ?_
  refine W.lcmp hx hb dX8_floor_9 ?_
  refine lv_if_eq (tgt := 45) hx hb dX8_floor_10 (by decide) (fun c4 => ?_) (fun c4 => ?_)
  · have hf := it_t ((lg_cmp_eq (v0 - v0 / v2 * v2) (0 : Int64)).mp c4) hf
    refine lv_lload hx hb dX8_floor_45 (lv_at hl 0 rfl) ?_
    exact W.lret (v := (v0 / v2)) hx hb hr (fun t ht hW => ⟨congrArg (fun q => Outcome.returned (some (.long q))) (Option.some.inj hf), ht⟩) (fun _ h => nomatch h) dX8_floor_47
  · have hf := it_f (fun h => c4 ((lg_cmp_eq (v0 - v0 / v2 * v2) (0 : Int64)).mpr h)) hf
    refine lv_lload_n hx hb dX8_floor_13 rfl (lv_at hl 1 rfl) ?_
    refine lv_lconst (v := (0 : Int64)) hx hb dX8_floor_14 (by decide) ?_
    refine W.lcmp hx hb dX8_floor_15 ?_
    refine lv_if_ge (tgt := 23) hx hb dX8_floor_16 (by decide) (fun c5 => ?_) (fun c5 => ?_)
    · have hf := it_t ((lg_cmp_ge v0 (0 : Int64)).mp c5) hf
      refine lv_iconst (v := (0 : Int32)) hx hb dX8_floor_23 (by decide) ?_
      refine lv_lload_n hx hb dX8_floor_24 rfl (lv_at hl 2 rfl) ?_
      refine lv_lconst (v := (0 : Int64)) hx hb dX8_floor_25 (by decide) ?_
      refine W.lcmp hx hb dX8_floor_26 ?_
      refine lv_if_ge (tgt := 34) hx hb dX8_floor_27 (by decide) (fun c6 => ?_) (fun c6 => ?_)
      · have hf := it_t ((lg_cmp_ge v2 (0 : Int64)).mp c6) hf
        refine lv_iconst (v := (0 : Int32)) hx hb dX8_floor_34 (by decide) ?_
        refine lv_icmp_eq (tgt := 45) hx hb dX8_floor_35 (by decide) (fun c7 => ?_) (fun c7 => ?_)
        · have hf := it_t c7 hf
          refine lv_lload hx hb dX8_floor_45 (lv_at hl 0 rfl) ?_
          exact W.lret (v := (v0 / v2)) hx hb hr (fun t ht hW => ⟨congrArg (fun q => Outcome.returned (some (.long q))) (Option.some.inj hf), ht⟩) (fun _ h => nomatch h) dX8_floor_47
        · have hf := it_f c7 hf
          refine lv_lload hx hb dX8_floor_38 (lv_at hl 0 rfl) ?_
          refine lv_lconst (v := (1 : Int64)) hx hb dX8_floor_40 (by decide) ?_
          refine lv_lsub hx hb dX8_floor_41 ?_
          refine lv_goto (tgt := 47) hx hb dX8_floor_42 (by decide) ?_
          exact W.lret (v := ((v0 / v2) - (1 : Int64))) hx hb hr (fun t ht hW => ⟨congrArg (fun q => Outcome.returned (some (.long q))) (Option.some.inj hf), ht⟩) (fun _ h => nomatch h) dX8_floor_47
      · have hf := it_f (fun h => c6 ((lg_cmp_ge v2 (0 : Int64)).mpr h)) hf
        refine lv_iconst (v := (1 : Int32)) hx hb dX8_floor_30 (by decide) ?_
        refine lv_goto (tgt := 35) hx hb dX8_floor_31 (by decide) ?_
        refine lv_icmp_eq (tgt := 45) hx hb dX8_floor_35 (by decide) (fun c8 => ?_) (fun c8 => ?_)
        · have hf := it_t c8 hf
          refine lv_lload hx hb dX8_floor_45 (lv_at hl 0 rfl) ?_
          exact W.lret (v := (v0 / v2)) hx hb hr (fun t ht hW => ⟨congrArg (fun q => Outcome.returned (some (.long q))) (Option.some.inj hf), ht⟩) (fun _ h => nomatch h) dX8_floor_47
        · have hf := it_f c8 hf
          refine lv_lload hx hb dX8_floor_38 (lv_at hl 0 rfl) ?_
          refine lv_lconst (v := (1 : Int64)) hx hb dX8_floor_40 (by decide) ?_
          refine lv_lsub hx hb dX8_floor_41 ?_
          refine lv_goto (tgt := 47) hx hb dX8_floor_42 (by decide) ?_
          exact W.lret (v := ((v0 / v2) - (1 : Int64))) hx hb hr (fun t ht hW => ⟨congrArg (fun q => Outcome.returned (some (.long q))) (Option.some.inj hf), ht⟩) (fun _ h => nomatch h) dX8_floor_47
    · have hf := it_f (fun h => c5 ((lg_cmp_ge v0 (0 : Int64)).mpr h)) hf
      refine lv_iconst (v := (1 : Int32)) hx hb dX8_floor_19 (by decide) ?_
      refine lv_goto (tgt := 24) hx hb dX8_floor_20 (by decide) ?_
      refine lv_lload_n hx hb dX8_floor_24 rfl (lv_at hl 2 rfl) ?_
      refine lv_lconst (v := (0 : Int64)) hx hb dX8_floor_25 (by decide) ?_
      refine W.lcmp hx hb dX8_floor_26 ?_
      refine lv_if_ge (tgt := 34) hx hb dX8_floor_27 (by decide) (fun c9 => ?_) (fun c9 => ?_)
      · have hf := it_t ((lg_cmp_ge v2 (0 : Int64)).mp c9) hf
        refine lv_iconst (v := (0 : Int32)) hx hb dX8_floor_34 (by decide) ?_
        refine lv_icmp_eq (tgt := 45) hx hb dX8_floor_35 (by decide) (fun c10 => ?_) (fun c10 => ?_)
        · have hf := it_t c10 hf
          refine lv_lload hx hb dX8_floor_45 (lv_at hl 0 rfl) ?_
          exact W.lret (v := (v0 / v2)) hx hb hr (fun t ht hW => ⟨congrArg (fun q => Outcome.returned (some (.long q))) (Option.some.inj hf), ht⟩) (fun _ h => nomatch h) dX8_floor_47
        · have hf := it_f c10 hf
          refine lv_lload hx hb dX8_floor_38 (lv_at hl 0 rfl) ?_
          refine lv_lconst (v := (1 : Int64)) hx hb dX8_floor_40 (by decide) ?_
          refine lv_lsub hx hb dX8_floor_41 ?_
          refine lv_goto (tgt := 47) hx hb dX8_floor_42 (by decide) ?_
          exact W.lret (v := ((v0 / v2) - (1 : Int64))) hx hb hr (fun t ht hW => ⟨congrArg (fun q => Outcome.returned (some (.long q))) (Option.some.inj hf), ht⟩) (fun _ h => nomatch h) dX8_floor_47
      · have hf := it_f (fun h => c9 ((lg_cmp_ge v2 (0 : Int64)).mpr h)) hf
        refine lv_iconst (v := (1 : Int32)) hx hb dX8_floor_30 (by decide) ?_
        refine lv_goto (tgt := 35) hx hb dX8_floor_31 (by decide) ?_
        refine lv_icmp_eq (tgt := 45) hx hb dX8_floor_35 (by decide) (fun c11 => ?_) (fun c11 => ?_)
        · have hf := it_t c11 hf
          refine lv_lload hx hb dX8_floor_45 (lv_at hl 0 rfl) ?_
          exact W.lret (v := (v0 / v2)) hx hb hr (fun t ht hW => ⟨congrArg (fun q => Outcome.returned (some (.long q))) (Option.some.inj hf), ht⟩) (fun _ h => nomatch h) dX8_floor_47
        · have hf := it_f c11 hf
          refine lv_lload hx hb dX8_floor_38 (lv_at hl 0 rfl) ?_
          refine lv_lconst (v := (1 : Int64)) hx hb dX8_floor_40 (by decide) ?_
          refine lv_lsub hx hb dX8_floor_41 ?_
          refine lv_goto (tgt := 47) hx hb dX8_floor_42 (by decide) ?_
          exact W.lret (v := ((v0 / v2) - (1 : Int64))) hx hb hr (fun t ht hW => ⟨congrArg (fun q => Outcome.returned (some (.long q))) (Option.some.inj hf), ht⟩) (fun _ h => nomatch h) dX8_floor_47
noncomputable def f_X8_divide_K90_188 (mod_a mod_b mod_quotA mod_quotB v15 v17 v19 v21 : Int64) : Option ((Int64 × Int64 × Int64 × Int64 × Int64 × Int64 × Int64 × Int64) ⊕ (Int64 × Int64 × Int64 × Int64 × Int64 × Int64)) :=
    some (Sum.inl (v15, v17, v19, (v21 + (1 : Int64)), mod_a, mod_b, mod_quotA, mod_quotB))
noncomputable def f_X8_divide_L90 (mod_t mod_n v1 v3 v5 v7 v13 v21 : Int64) (s90 : (Int64 × Int64 × Int64 × Int64 × Int64 × Int64 × Int64 × Int64)) : Option ((Int64 × Int64 × Int64 × Int64 × Int64 × Int64 × Int64 × Int64) ⊕ (Int64 × Int64 × Int64 × Int64 × Int64 × Int64 × Int64)) :=
    if (v13 + (6 : Int64)) ≤ s90.2.2.2.1 then
      some (Sum.inr (s90.1, s90.2.1, s90.2.2.1, s90.2.2.2.2.1, s90.2.2.2.2.2.1, s90.2.2.2.2.2.2.1, s90.2.2.2.2.2.2.2))
    else
      if s90.1 < (0 : Int64) then
        some (Sum.inl ((f_X8_sizeOf mod_t mod_n (v1 - (f_X8_times_mod_a mod_n v21 s90.2.2.2.1 v5 v7)) (v3 - (f_X8_times_mod_b mod_t v21 s90.2.2.2.1 v5 v7))), (v1 - (f_X8_times_mod_a mod_n v21 s90.2.2.2.1 v5 v7)), (v3 - (f_X8_times_mod_b mod_t v21 s90.2.2.2.1 v5 v7)), (s90.2.2.2.1 + (1 : Int64)), (f_X8_times_mod_a mod_n v21 s90.2.2.2.1 v5 v7), (f_X8_times_mod_b mod_t v21 s90.2.2.2.1 v5 v7), v21, s90.2.2.2.1))
      else
        if s90.1 ≤ (f_X8_sizeOf mod_t mod_n (v1 - (f_X8_times_mod_a mod_n v21 s90.2.2.2.1 v5 v7)) (v3 - (f_X8_times_mod_b mod_t v21 s90.2.2.2.1 v5 v7))) then
          some (Sum.inl (s90.1, s90.2.1, s90.2.2.1, (s90.2.2.2.1 + (1 : Int64)), (f_X8_times_mod_a mod_n v21 s90.2.2.2.1 v5 v7), (f_X8_times_mod_b mod_t v21 s90.2.2.2.1 v5 v7), s90.2.2.2.2.2.2.1, s90.2.2.2.2.2.2.2))
        else
          some (Sum.inl ((f_X8_sizeOf mod_t mod_n (v1 - (f_X8_times_mod_a mod_n v21 s90.2.2.2.1 v5 v7)) (v3 - (f_X8_times_mod_b mod_t v21 s90.2.2.2.1 v5 v7))), (v1 - (f_X8_times_mod_a mod_n v21 s90.2.2.2.1 v5 v7)), (v3 - (f_X8_times_mod_b mod_t v21 s90.2.2.2.1 v5 v7)), (s90.2.2.2.1 + (1 : Int64)), (f_X8_times_mod_a mod_n v21 s90.2.2.2.1 v5 v7), (f_X8_times_mod_b mod_t v21 s90.2.2.2.1 v5 v7), v21, s90.2.2.2.1))
noncomputable def f_X8_divide_K74_197 (mod_quotA mod_quotB v17 v19 : Int64) : Option (Int64 × Int64 × Int64 × Int64) :=
    some ((f_X8_put_mod_a v17), (f_X8_put_mod_b v19), mod_quotA, mod_quotB)
noncomputable def f_X8_divide_L74 (mod_t mod_n v1 v3 v5 v7 v11 v13 : Int64) (s74 : (Int64 × Int64 × Int64 × Int64 × Int64 × Int64 × Int64 × Int64)) : Option ((Int64 × Int64 × Int64 × Int64 × Int64 × Int64 × Int64 × Int64) ⊕ (Int64 × Int64 × Int64 × Int64 × Int64 × Int64)) :=
    if (v11 + (6 : Int64)) ≤ s74.2.2.2.1 then
      some (Sum.inr (s74.2.1, s74.2.2.1, s74.2.2.2.2.1, s74.2.2.2.2.2.1, s74.2.2.2.2.2.2.1, s74.2.2.2.2.2.2.2))
    else
      Option.bind (whl (f_X8_divide_L90 mod_t mod_n v1 v3 v5 v7 v13 s74.2.2.2.1) (s74.1, s74.2.1, s74.2.2.1, v13, s74.2.2.2.2.1, s74.2.2.2.2.2.1, s74.2.2.2.2.2.2.1, s74.2.2.2.2.2.2.2)) (fun y90 => f_X8_divide_K90_188 y90.2.2.2.1 y90.2.2.2.2.1 y90.2.2.2.2.2.1 y90.2.2.2.2.2.2 y90.1 y90.2.1 y90.2.2.1 s74.2.2.2.1)
noncomputable def f_X8_divide (mod_t mod_n mod_a mod_b mod_quotA mod_quotB v1 v3 v5 v7 : Int64) : Option (Int64 × Int64 × Int64 × Int64) :=
  Option.bind (f_X8_floor (f_X8_times_mod_a mod_n v1 v3 (v5 + (mod_t * v7)) (-v7)) (f_X8_sizeOf mod_t mod_n v5 v7)) fun p14 =>
  Option.bind (f_X8_floor (f_X8_times_mod_b mod_t v1 v3 (v5 + (mod_t * v7)) (-v7)) (f_X8_sizeOf mod_t mod_n v5 v7)) fun p15 =>
  Option.bind (whl (f_X8_divide_L74 mod_t mod_n v1 v3 v5 v7 (p14 - (2 : Int64)) (p15 - (2 : Int64))) ((-1 : Int64), (0 : Int64), (0 : Int64), (p14 - (2 : Int64)), (f_X8_times_mod_a mod_n v1 v3 (v5 + (mod_t * v7)) (-v7)), (f_X8_times_mod_b mod_t v1 v3 (v5 + (mod_t * v7)) (-v7)), mod_quotA, mod_quotB)) (fun y74 => f_X8_divide_K74_197 y74.2.2.2.2.1 y74.2.2.2.2.2 y74.1 y74.2.1)
theorem qX8_divide_1 : (.fieldLink RX8 66 "PlaneWholesModel" "t" "J" : Cond) ∈ wsX8_divide := List.mem_of_getElem? (i := 1) rfl
theorem qX8_divide_2 : (.fieldLink RX8 69 "PlaneWholesModel" "a" "J" : Cond) ∈ wsX8_divide := List.mem_of_getElem? (i := 2) rfl
theorem qX8_divide_3 : (.constantLong RX8 85 (2) : Cond) ∈ wsX8_divide := List.mem_of_getElem? (i := 3) rfl
theorem qX8_divide_4 : (.fieldLink RX8 72 "PlaneWholesModel" "b" "J" : Cond) ∈ wsX8_divide := List.mem_of_getElem? (i := 4) rfl
theorem qX8_divide_5 : (.constantLong RX8 24 (-1) : Cond) ∈ wsX8_divide := List.mem_of_getElem? (i := 5) rfl
theorem qX8_divide_6 : (.constantLong RX8 112 (6) : Cond) ∈ wsX8_divide := List.mem_of_getElem? (i := 6) rfl
theorem qX8_divide_7 : (.fieldLink RX8 114 "PlaneWholesModel" "quotA" "J" : Cond) ∈ wsX8_divide := List.mem_of_getElem? (i := 7) rfl
theorem qX8_divide_8 : (.fieldLink RX8 117 "PlaneWholesModel" "quotB" "J" : Cond) ∈ wsX8_divide := List.mem_of_getElem? (i := 8) rfl
theorem nX8_divide_X8 : ∀ w ∈ wsX80, w ∈ wsX8_divide := fun _ h => List.mem_cons_of_mem _ (List.mem_append_right _ h)
set_option maxRecDepth 20000 in
theorem gX8_divide_X8_sizeOf : GoodIn wsX8_divide (wsV RX8 79 RX8 yX8_sizeOf wsX8_sizeOf) := gI _ [9, 10, 11, 12, 13, 1, 14, 26, 27, 28, 29, 30, 31, 32, 33, 34, 35, 36, 37, 38, 39, 40, 41, 42, 43, 44, 45, 46, 47, 48, 49, 50, 51, 52, 53, 54, 55, 56, 57, 58, 59, 60, 61, 62, 63, 64, 65, 66, 67] rfl rfl
set_option maxRecDepth 20000 in
theorem gX8_divide_X8_times : GoodIn wsX8_divide (wsV RX8 108 RX8 yX8_times wsX8_times) := gI _ [15, 16, 17, 12, 18, 14, 1, 19, 20, 21, 12, 22, 2, 4, 26, 27, 28, 29, 30, 31, 32, 33, 34, 35, 36, 37, 38, 39, 40, 41, 42, 43, 44, 45, 46, 47, 48, 49, 50, 51, 52, 53, 54, 55, 56, 57, 58, 59, 60, 61, 62, 63, 64, 65, 66, 67] rfl rfl
set_option maxRecDepth 20000 in
theorem gX8_divide_X8_floor : GoodIn wsX8_divide (va_wsS RX8 105 yX8_floor wsX8_floor) := gI _ [23, 24, 12, 25] rfl rfl
set_option maxRecDepth 20000 in
theorem gX8_divide_X8_put : GoodIn wsX8_divide (wsV RX8 75 RX8 yX8_put wsX8_put) := gI _ [19, 20, 21, 12, 22, 2, 4, 26, 27, 28, 29, 30, 31, 32, 33, 34, 35, 36, 37, 38, 39, 40, 41, 42, 43, 44, 45, 46, 47, 48, 49, 50, 51, 52, 53, 54, 55, 56, 57, 58, 59, 60, 61, 62, 63, 64, 65, 66, 67] rfl rfl
theorem hv_X8_divide : yX8_divide.cls = RX8 ∧ yX8_divide.cls ≠ "java/lang/invoke/MethodHandle" ∧ yX8_divide.cls ≠ "java/lang/invoke/VarHandle" ∧ (parseMethodDescriptor yX8_divide.desc).map (fun d => d.parameters.length) = some 4 := by decide +kernel
set_option maxHeartbeats 8000000 in
set_option maxRecDepth 100000 in
theorem c_X8_divide (l : Launch) (dC : Nat → ClassId) (dI : Nat → Nat → Nat) (rA : Nat → Nat) (kA : Nat → ClassId) (sz : Nat) (mod_t mod_n mod_a mod_b : Int64) (mod_unitMany : Int32) (mod_quotA mod_quotB : Int64) (mod_unitUsed : Int32) (mod_fu mod_fuB mod_fv mod_fvB mod_madeA mod_madeB : Int64) (mod_partMany : Int32) (mod_leftA mod_leftB mod_rootA mod_rootB : Int64) (mod_tail mod_round mod_sum mod_rowMany : Int32) (mod_least : Int64) (mod_leastMany : Int32) (mod_netP mod_netQ mod_netR : Int64) (mod_leapMany : Int32) (v1 v3 v5 v7 : Int64) {z : (Int64 × Int64 × Int64 × Int64)} (hf : f_X8_divide mod_t mod_n mod_a mod_b mod_quotA mod_quotB v1 v3 v5 v7 = some z) : Met l yX8_divide wsX8_divide ({ frames := 2, cells := 0, slots := 0, locals := 52 }) (va_Pc [.ref (rA 0), .long v1, .long v3, .long v5, .long v7] (pw (dC, dI) [ce_mod rA mod_t mod_n mod_a mod_b mod_unitMany mod_quotA mod_quotB mod_unitUsed mod_fu mod_fuB mod_fv mod_fvB mod_madeA mod_madeB mod_partMany mod_leftA mod_leftB mod_rootA mod_rootB mod_tail mod_round mod_sum mod_rowMany mod_least mod_leastMany mod_netP mod_netQ mod_netR mod_leapMany] [] sz)) (gw_v (dC, dI) [ce_mod rA mod_t mod_n mod_a mod_b mod_unitMany mod_quotA mod_quotB mod_unitUsed mod_fu mod_fuB mod_fv mod_fvB mod_madeA mod_madeB mod_partMany mod_leftA mod_leftB mod_rootA mod_rootB mod_tail mod_round mod_sum mod_rowMany mod_least mod_leastMany mod_netP mod_netQ mod_netR mod_leapMany] [ce_mod rA mod_t mod_n z.1 z.2.1 mod_unitMany z.2.2.1 z.2.2.2 mod_unitUsed mod_fu mod_fuB mod_fv mod_fvB mod_madeA mod_madeB mod_partMany mod_leftA mod_leftB mod_rootA mod_rootB mod_tail mod_round mod_sum mod_rowMany mod_least mod_leastMany mod_netP mod_netQ mod_netR mod_leapMany] sz) 0 0 (va_A [ce_mod rA mod_t mod_n mod_a mod_b mod_unitMany mod_quotA mod_quotB mod_unitUsed mod_fu mod_fuB mod_fv mod_fvB mod_madeA mod_madeB mod_partMany mod_leftA mod_leftB mod_rootA mod_rootB mod_tail mod_round mod_sum mod_rowMany mod_least mod_leastMany mod_netP mod_netQ mod_netR mod_leapMany] sz) := by
  refine Met.ofW (cc := cX8_divide) (maxL := 27) (ret := none) (by decide) rfl ?_
  intro p e s m args below meth c s₁ B hml hv
  obtain ⟨rfl, hsz, hP, hK, hD0, hN⟩ := hv
  have hx := B.exec
  have hb := B.bytes
  have hr := B.returns
  have hts := atoms_spec (ws := wsX8_divide) B.pre
  have hown : s.vm.findClass RX8 = some m.cls := findClass_of_methodNamed B.named
  have hlocks := B.notSynchronized
  subst hsz
  obtain ⟨A, hAe⟩ : ∃ A, A = va_A [ce_mod rA mod_t mod_n mod_a mod_b mod_unitMany mod_quotA mod_quotB mod_unitUsed mod_fu mod_fuB mod_fv mod_fvB mod_madeA mod_madeB mod_partMany mod_leftA mod_leftB mod_rootA mod_rootB mod_tail mod_round mod_sum mod_rowMany mod_least mod_leastMany mod_netP mod_netQ mod_netR mod_leapMany] s.heap.size := ⟨_, rfl⟩
  have hD : va_D A [ce_mod rA mod_t mod_n mod_a mod_b mod_unitMany mod_quotA mod_quotB mod_unitUsed mod_fu mod_fuB mod_fv mod_fvB mod_madeA mod_madeB mod_partMany mod_leftA mod_leftB mod_rootA mod_rootB mod_tail mod_round mod_sum mod_rowMany mod_least mod_leastMany mod_netP mod_netQ mod_netR mod_leapMany] := by rw [hAe]; exact hD0.self
  have hA : ∀ q : Nat, s.heap.size ≤ q → A q := fun q h => by rw [hAe]; exact Or.inr h
  have hP0 : va_P (dC, dI) vwCl [ce_mod rA mod_t mod_n mod_a mod_b mod_unitMany mod_quotA mod_quotB mod_unitUsed mod_fu mod_fuB mod_fv mod_fvB mod_madeA mod_madeB mod_partMany mod_leftA mod_leftB mod_rootA mod_rootB mod_tail mod_round mod_sum mod_rowMany mod_least mod_leastMany mod_netP mod_netQ mod_netR mod_leapMany] s.heap := hP
  refine wH (fun H eH => ?_)
  have hS : va_S A s.heap H [] := by rw [eH]; exact va_S.rf
  have hP : va_P (dC, dI) vwCl [ce_mod rA mod_t mod_n mod_a mod_b mod_unitMany mod_quotA mod_quotB mod_unitUsed mod_fu mod_fuB mod_fv mod_fvB mod_madeA mod_madeB mod_partMany mod_leftA mod_leftB mod_rootA mod_rootB mod_tail mod_round mod_sum mod_rowMany mod_least mod_leastMany mod_netP mod_netQ mod_netR mod_leapMany] H := by rw [eH]; exact hP0
  have hl := lv_entry ([.ref (rA 0), .long v1, .long v3, .long v5, .long v7]) (n := 27) (Nat.le_of_ble_eq_true rfl)
  rw [lg_entry_eq]
  generalize (lg_sl ([.ref (rA 0), .long v1, .long v3, .long v5, .long v7]) ++ List.replicate (27 - (lg_sl ([.ref (rA 0), .long v1, .long v3, .long v5, .long v7])).length) Slot.unset).toArray = ls at hl ⊢
  have hl : lv_has ls 27 [(0, .ref (rA 0)), (1, .long v1), (3, .long v3), (5, .long v5), (7, .long v7)] := hl
  refine wg (fun WG hi ho => ?_)
  refine hi _ _ _ ?_
  unfold f_X8_divide at hf
  refine lv_aload_n hx hb dX8_divide_0 rfl (lv_at hl 0 rfl) ?_
  refine lv_lload hx hb dX8_divide_1 (lv_at hl 3 rfl) ?_
  refine lv_lload hx hb dX8_divide_3 (lv_at hl 4 rfl) ?_
  refine kp_l (va_runV (As := [.long v5, .long v7]) (rest := []) ⟨hx, hb, hml, hown, hts⟩ (c_X8_sizeOf l dC dI rA kA mod_t mod_n mod_a mod_b mod_unitMany mod_quotA mod_quotB mod_unitUsed mod_fu mod_fuB mod_fv mod_fvB mod_madeA mod_madeB mod_partMany mod_leftA mod_leftB mod_rootA mod_rootB mod_tail mod_round mod_sum mod_rowMany mod_least mod_leastMany mod_netP mod_netQ mod_netR mod_leapMany v5 v7) (cwV 2 hts gX8_divide_X8_sizeOf rfl rfl rfl hv_X8_sizeOf ⟨Nat.le_of_ble_eq_true rfl, Nat.le_of_ble_eq_true rfl⟩) ⟨fb_p, va_recv hK hP (ci := 8) (q0 := 0) rfl rfl, pre_p hP hK hN⟩ rfl rfl hl.1 rfl (lv_room (Nat.le_of_ble_eq_true rfl)) dX8_divide_5 ⟨Nat.le_of_ble_eq_true rfl, Nat.le_of_ble_eq_true rfl⟩) ?_
  refine lv_lstore (lv' := [(9, .long (f_X8_sizeOf mod_t mod_n v5 v7)), (0, .ref (rA 0)), (1, .long v1), (3, .long v3), (5, .long v5), (7, .long v7)]) hx hb dX8_divide_8 hl (by decide) rfl (fun ls hl => ?_)
  refine lv_aload_n hx hb dX8_divide_10 rfl (lv_at hl 1 rfl) ?_
  refine lv_lload_n hx hb dX8_divide_11 rfl (lv_at hl 2 rfl) ?_
  refine lv_lload_n hx hb dX8_divide_12 rfl (lv_at hl 3 rfl) ?_
  refine lv_lload hx hb dX8_divide_13 (lv_at hl 4 rfl) ?_
  refine lv_aload_n hx hb dX8_divide_15 rfl (lv_at hl 1 rfl) ?_
  refine va_get (D := (dC, dI)) (ci := 8) (v := .long mod_t) (C := RX8) (T := TX8) (N := 42) hx hb hts nX8_divide_X8 hown hK hP 0 rfl rfl 0 (by decide) (hts _ qX8_divide_1) (fun _ h9 => h9) rfl dX8_divide_16 ?_
  refine lv_lload hx hb dX8_divide_19 (lv_at hl 5 rfl) ?_
  refine lv_lmul hx hb dX8_divide_21 ?_
  refine lv_ladd hx hb dX8_divide_22 ?_
  refine lv_lload hx hb dX8_divide_23 (lv_at hl 5 rfl) ?_
  refine lv_lneg hx hb dX8_divide_25 ?_
  refine kw_v (wr := []) (ws' := [ce_mod rA mod_t mod_n (f_X8_times_mod_a mod_n v1 v3 (v5 + (mod_t * v7)) (-v7)) (f_X8_times_mod_b mod_t v1 v3 (v5 + (mod_t * v7)) (-v7)) mod_unitMany mod_quotA mod_quotB mod_unitUsed mod_fu mod_fuB mod_fv mod_fvB mod_madeA mod_madeB mod_partMany mod_leftA mod_leftB mod_rootA mod_rootB mod_tail mod_round mod_sum mod_rowMany mod_least mod_leastMany mod_netP mod_netQ mod_netR mod_leapMany]) (va_runV (As := [.long v1, .long v3, .long (v5 + (mod_t * v7)), .long (-v7)]) (rest := []) ⟨hx, hb, hml, hown, hts⟩ (c_X8_times l dC dI rA kA H.size mod_t mod_n mod_a mod_b mod_unitMany mod_quotA mod_quotB mod_unitUsed mod_fu mod_fuB mod_fv mod_fvB mod_madeA mod_madeB mod_partMany mod_leftA mod_leftB mod_rootA mod_rootB mod_tail mod_round mod_sum mod_rowMany mod_least mod_leastMany mod_netP mod_netQ mod_netR mod_leapMany v1 v3 (v5 + (mod_t * v7)) (-v7)) (cwV 4 hts gX8_divide_X8_times rfl rfl rfl hv_X8_times ⟨Nat.le_of_ble_eq_true rfl, Nat.le_of_ble_eq_true rfl⟩) ⟨fb_w, va_recv hK hP (ci := 8) (q0 := 0) rfl rfl, pre_w hP hD hK hN⟩ rfl rfl hl.1 rfl (lv_room (Nat.le_of_ble_eq_true rfl)) dX8_divide_26 ⟨Nat.le_of_ble_eq_true rfl, Nat.le_of_ble_eq_true rfl⟩) hP hD hS hA [0] [] [0] rfl rfl rfl (by decide) rfl rfl rfl (fun H locs hP hD hS => ?_)
  refine lv_aload_n hx hb dX8_divide_29 rfl (lv_at hl 1 rfl) ?_
  refine va_get (D := (dC, dI)) (ci := 8) (v := .long (f_X8_times_mod_a mod_n v1 v3 (v5 + (mod_t * v7)) (-v7))) (C := RX8) (T := TX8) (N := 42) hx hb hts nX8_divide_X8 hown hK hP 0 rfl rfl 4 (by decide) (hts _ qX8_divide_2) (fun _ h9 => h9) rfl dX8_divide_30 ?_
  refine lv_lload hx hb dX8_divide_33 (lv_at hl 0 rfl) ?_
  obtain ⟨p3, hb3, hf⟩ := bd_s hf
  have hPc := hP.sub (ws' := []) [] rfl
  refine kp_l (va_runS (As := [.long (f_X8_times_mod_a mod_n v1 v3 (v5 + (mod_t * v7)) (-v7)), .long (f_X8_sizeOf mod_t mod_n v5 v7)]) (rest := []) ⟨hx, hb, hml, hown, hts⟩ (c_X8_floor l dC dI rA kA (f_X8_times_mod_a mod_n v1 v3 (v5 + (mod_t * v7)) (-v7)) (f_X8_sizeOf mod_t mod_n v5 v7) hb3) (va_cwS 2 hts gX8_divide_X8_floor rfl rfl rfl hs_X8_floor ⟨Nat.le_of_ble_eq_true rfl, Nat.le_of_ble_eq_true rfl⟩) ⟨fb_p, pre_p hPc hK hN⟩ rfl rfl hl.1 rfl (lv_room (Nat.le_of_ble_eq_true rfl)) dX8_divide_35 ⟨Nat.le_of_ble_eq_true rfl, Nat.le_of_ble_eq_true rfl⟩) ?_
  refine lv_ldc2 (v := (2 : Int64)) hx hb hown (hts _ qX8_divide_3) dX8_divide_38 ?_
  refine lv_lsub hx hb dX8_divide_41 ?_
  refine lv_lstore (lv' := [(11, .long (p3 - (2 : Int64))), (9, .long (f_X8_sizeOf mod_t mod_n v5 v7)), (0, .ref (rA 0)), (1, .long v1), (3, .long v3), (5, .long v5), (7, .long v7)]) hx hb dX8_divide_42 hl (by decide) rfl (fun ls hl => ?_)
  refine lv_aload_n hx hb dX8_divide_44 rfl (lv_at hl 2 rfl) ?_
  refine va_get (D := (dC, dI)) (ci := 8) (v := .long (f_X8_times_mod_b mod_t v1 v3 (v5 + (mod_t * v7)) (-v7))) (C := RX8) (T := TX8) (N := 42) hx hb hts nX8_divide_X8 hown hK hP 0 rfl rfl 5 (by decide) (hts _ qX8_divide_4) (fun _ h9 => h9) rfl dX8_divide_45 ?_
  refine lv_lload hx hb dX8_divide_48 (lv_at hl 1 rfl) ?_
  obtain ⟨p4, hb4, hf⟩ := bd_s hf
  have hPc := hP.sub (ws' := []) [] rfl
  refine kp_l (va_runS (As := [.long (f_X8_times_mod_b mod_t v1 v3 (v5 + (mod_t * v7)) (-v7)), .long (f_X8_sizeOf mod_t mod_n v5 v7)]) (rest := []) ⟨hx, hb, hml, hown, hts⟩ (c_X8_floor l dC dI rA kA (f_X8_times_mod_b mod_t v1 v3 (v5 + (mod_t * v7)) (-v7)) (f_X8_sizeOf mod_t mod_n v5 v7) hb4) (va_cwS 2 hts gX8_divide_X8_floor rfl rfl rfl hs_X8_floor ⟨Nat.le_of_ble_eq_true rfl, Nat.le_of_ble_eq_true rfl⟩) ⟨fb_p, pre_p hPc hK hN⟩ rfl rfl hl.1 rfl (lv_room (Nat.le_of_ble_eq_true rfl)) dX8_divide_50 ⟨Nat.le_of_ble_eq_true rfl, Nat.le_of_ble_eq_true rfl⟩) ?_
  refine lv_ldc2 (v := (2 : Int64)) hx hb hown (hts _ qX8_divide_3) dX8_divide_53 ?_
  refine lv_lsub hx hb dX8_divide_56 ?_
  refine lv_lstore (lv' := [(13, .long (p4 - (2 : Int64))), (11, .long (p3 - (2 : Int64))), (9, .long (f_X8_sizeOf mod_t mod_n v5 v7)), (0, .ref (rA 0)), (1, .long v1), (3, .long v3), (5, .long v5), (7, .long v7)]) hx hb dX8_divide_57 hl (by decide) rfl (fun ls hl => ?_)
  refine lv_ldc2 (v := (-1 : Int64)) hx hb hown (hts _ qX8_divide_5) dX8_divide_59 ?_
  refine lv_lstore (lv' := [(15, .long (-1 : Int64)), (13, .long (p4 - (2 : Int64))), (11, .long (p3 - (2 : Int64))), (9, .long (f_X8_sizeOf mod_t mod_n v5 v7)), (0, .ref (rA 0)), (1, .long v1), (3, .long v3), (5, .long v5), (7, .long v7)]) hx hb dX8_divide_62 hl (by decide) rfl (fun ls hl => ?_)
  refine lv_lconst (v := (0 : Int64)) hx hb dX8_divide_64 (by decide) ?_
  refine lv_lstore (lv' := [(17, .long (0 : Int64)), (15, .long (-1 : Int64)), (13, .long (p4 - (2 : Int64))), (11, .long (p3 - (2 : Int64))), (9, .long (f_X8_sizeOf mod_t mod_n v5 v7)), (0, .ref (rA 0)), (1, .long v1), (3, .long v3), (5, .long v5), (7, .long v7)]) hx hb dX8_divide_65 hl (by decide) rfl (fun ls hl => ?_)
  refine lv_lconst (v := (0 : Int64)) hx hb dX8_divide_67 (by decide) ?_
  refine lv_lstore (lv' := [(19, .long (0 : Int64)), (17, .long (0 : Int64)), (15, .long (-1 : Int64)), (13, .long (p4 - (2 : Int64))), (11, .long (p3 - (2 : Int64))), (9, .long (f_X8_sizeOf mod_t mod_n v5 v7)), (0, .ref (rA 0)), (1, .long v1), (3, .long v3), (5, .long v5), (7, .long v7)]) hx hb dX8_divide_68 hl (by decide) rfl (fun ls hl => ?_)
  refine lv_lload hx hb dX8_divide_70 (lv_at hl 4 rfl) ?_
  refine lv_lstore (lv' := [(21, .long (p3 - (2 : Int64))), (19, .long (0 : Int64)), (17, .long (0 : Int64)), (15, .long (-1 : Int64)), (13, .long (p4 - (2 : Int64))), (11, .long (p3 - (2 : Int64))), (9, .long (f_X8_sizeOf mod_t mod_n v5 v7)), (0, .ref (rA 0)), (1, .long v1), (3, .long v3), (5, .long v5), (7, .long v7)]) hx hb dX8_divide_72 hl (by decide) rfl (fun ls hl => ?_)
  obtain ⟨x74, k74, h074, hk74⟩ := whl_b hf
  have KT74_197 : ∀ (y74_197_17 : Int64) (y74_197_19 : Int64) (y74_197_mod_a : Int64) (y74_197_mod_b : Int64) (y74_197_mod_quotA : Int64) (y74_197_mod_quotB : Int64), ∀ (H : Heap) (locs : List Loc) (ls : Array Slot), f_X8_divide_K74_197 y74_197_mod_quotA y74_197_mod_quotB y74_197_17 y74_197_19 = some z → va_P (dC, dI) vwCl [ce_mod rA mod_t mod_n y74_197_mod_a y74_197_mod_b mod_unitMany y74_197_mod_quotA y74_197_mod_quotB mod_unitUsed mod_fu mod_fuB mod_fv mod_fvB mod_madeA mod_madeB mod_partMany mod_leftA mod_leftB mod_rootA mod_rootB mod_tail mod_round mod_sum mod_rowMany mod_least mod_leastMany mod_netP mod_netQ mod_netR mod_leapMany] H → va_D A [ce_mod rA mod_t mod_n y74_197_mod_a y74_197_mod_b mod_unitMany y74_197_mod_quotA y74_197_mod_quotB mod_unitUsed mod_fu mod_fuB mod_fv mod_fvB mod_madeA mod_madeB mod_partMany mod_leftA mod_leftB mod_rootA mod_rootB mod_tail mod_round mod_sum mod_rowMany mod_least mod_leastMany mod_netP mod_netQ mod_netR mod_leapMany] → va_S A s.heap H locs → lv_has ls 27 [(0, .ref (rA 0)), (17, .long y74_197_17), (19, .long y74_197_19)] → WG H locs (F0 m 197 ls []) := by
    intro y74_197_17 y74_197_19 y74_197_mod_a y74_197_mod_b y74_197_mod_quotA y74_197_mod_quotB H locs ls hf hP hD hS hl
    unfold f_X8_divide_K74_197 at hf
    refine hi _ _ _ ?_
    refine lv_aload_n hx hb dX8_divide_197 rfl (lv_at hl 0 rfl) ?_
    refine lv_lload hx hb dX8_divide_198 (lv_at hl 1 rfl) ?_
    refine lv_lload hx hb dX8_divide_200 (lv_at hl 2 rfl) ?_
    refine kw_v (wr := []) (ws' := [ce_mod rA mod_t mod_n (f_X8_put_mod_a y74_197_17) (f_X8_put_mod_b y74_197_19) mod_unitMany y74_197_mod_quotA y74_197_mod_quotB mod_unitUsed mod_fu mod_fuB mod_fv mod_fvB mod_madeA mod_madeB mod_partMany mod_leftA mod_leftB mod_rootA mod_rootB mod_tail mod_round mod_sum mod_rowMany mod_least mod_leastMany mod_netP mod_netQ mod_netR mod_leapMany]) (va_runV (As := [.long y74_197_17, .long y74_197_19]) (rest := []) ⟨hx, hb, hml, hown, hts⟩ (c_X8_put l dC dI rA kA H.size mod_t mod_n y74_197_mod_a y74_197_mod_b mod_unitMany y74_197_mod_quotA y74_197_mod_quotB mod_unitUsed mod_fu mod_fuB mod_fv mod_fvB mod_madeA mod_madeB mod_partMany mod_leftA mod_leftB mod_rootA mod_rootB mod_tail mod_round mod_sum mod_rowMany mod_least mod_leastMany mod_netP mod_netQ mod_netR mod_leapMany y74_197_17 y74_197_19) (cwV 2 hts gX8_divide_X8_put rfl rfl rfl hv_X8_put ⟨Nat.le_of_ble_eq_true rfl, Nat.le_of_ble_eq_true rfl⟩) ⟨fb_w, va_recv hK hP (ci := 8) (q0 := 0) rfl rfl, pre_w hP hD hK hN⟩ rfl rfl hl.1 rfl (lv_room (Nat.le_of_ble_eq_true rfl)) dX8_divide_202 ⟨Nat.le_of_ble_eq_true rfl, Nat.le_of_ble_eq_true rfl⟩) hP hD hS hA [0] [] [0] rfl rfl rfl (by decide) rfl rfl rfl (fun H locs hP hD hS => ?_)
    obtain rfl := Option.some.inj hf
    exact W.vret hx hb hr (fun t ht hW => gw_v_of hAe hP hD hS ht) (fun q hq => hAe ▸ hS.2.2 q hq) dX8_divide_205
  have LP74 : ∀ (k : Nat) (s74 : (Int64 × Int64 × Int64 × Int64 × Int64 × Int64 × Int64 × Int64)) (H : Heap) (locs : List Loc) (ls : Array Slot), itr (f_X8_divide_L74 mod_t mod_n v1 v3 v5 v7 (p3 - (2 : Int64)) (p4 - (2 : Int64))) k s74 = some x74 → va_P (dC, dI) vwCl [ce_mod rA mod_t mod_n s74.2.2.2.2.1 s74.2.2.2.2.2.1 mod_unitMany s74.2.2.2.2.2.2.1 s74.2.2.2.2.2.2.2 mod_unitUsed mod_fu mod_fuB mod_fv mod_fvB mod_madeA mod_madeB mod_partMany mod_leftA mod_leftB mod_rootA mod_rootB mod_tail mod_round mod_sum mod_rowMany mod_least mod_leastMany mod_netP mod_netQ mod_netR mod_leapMany] H → va_D A [ce_mod rA mod_t mod_n s74.2.2.2.2.1 s74.2.2.2.2.2.1 mod_unitMany s74.2.2.2.2.2.2.1 s74.2.2.2.2.2.2.2 mod_unitUsed mod_fu mod_fuB mod_fv mod_fvB mod_madeA mod_madeB mod_partMany mod_leftA mod_leftB mod_rootA mod_rootB mod_tail mod_round mod_sum mod_rowMany mod_least mod_leastMany mod_netP mod_netQ mod_netR mod_leapMany] → va_S A s.heap H locs → lv_has ls 27 [(0, .ref (rA 0)), (1, .long v1), (3, .long v3), (5, .long v5), (7, .long v7), (11, .long (p3 - (2 : Int64))), (13, .long (p4 - (2 : Int64))), (15, .long s74.1), (17, .long s74.2.1), (19, .long s74.2.2.1), (21, .long s74.2.2.2.1)] → WG H locs (F0 m 74 ls []) := by
    intro k
    induction k with
    | zero => intro s74 H locs ls h; exact itr_0 h
    | succ k ih =>
      intro s74 H locs ls h0 hP hD hS hl
      obtain ⟨z74, hf, hz⟩ := itr_in h0
      unfold f_X8_divide_L74 at hf
      refine hi _ _ _ ?_
      refine lv_lload hx hb dX8_divide_74 (lv_at hl 10 rfl) ?_
      refine lv_lload hx hb dX8_divide_76 (lv_at hl 5 rfl) ?_
      refine lv_ldc2 (v := (6 : Int64)) hx hb hown (hts _ qX8_divide_6) dX8_divide_78 ?_
      refine lv_ladd hx hb dX8_divide_81 ?_
      refine W.lcmp hx hb dX8_divide_82 ?_
      refine lv_if_ge (tgt := 197) hx hb dX8_divide_83 (by decide) (fun c6 => ?_) (fun c6 => ?_)
      · have hf := it_t ((lg_cmp_ge s74.2.2.2.1 ((p3 - (2 : Int64)) + (6 : Int64))).mp c6) hf
        exact ho _ _ _ (KT74_197 s74.2.1 s74.2.2.1 s74.2.2.2.2.1 s74.2.2.2.2.2.1 s74.2.2.2.2.2.2.1 s74.2.2.2.2.2.2.2 H locs ls (by rw [← itz_r hf hz] at hk74; exact hk74) hP hD hS (lv_sub hl [0, 8, 9] rfl))
      · have hf := it_f (fun h => c6 ((lg_cmp_ge s74.2.2.2.1 ((p3 - (2 : Int64)) + (6 : Int64))).mpr h)) hf
        refine lv_lload hx hb dX8_divide_86 (lv_at hl 6 rfl) ?_
        refine lv_lstore (lv' := [(23, .long (p4 - (2 : Int64))), (0, .ref (rA 0)), (1, .long v1), (3, .long v3), (5, .long v5), (7, .long v7), (11, .long (p3 - (2 : Int64))), (13, .long (p4 - (2 : Int64))), (15, .long s74.1), (17, .long s74.2.1), (19, .long s74.2.2.1), (21, .long s74.2.2.2.1)]) hx hb dX8_divide_88 hl (by decide) rfl (fun ls hl => ?_)
        obtain ⟨x90, k90, h090, hk90⟩ := whl_b hf
        have KT90_188 : ∀ (y90_188_15 : Int64) (y90_188_17 : Int64) (y90_188_19 : Int64) (y90_188_mod_a : Int64) (y90_188_mod_b : Int64) (y90_188_mod_quotA : Int64) (y90_188_mod_quotB : Int64), ∀ (H : Heap) (locs : List Loc) (ls : Array Slot), f_X8_divide_K90_188 y90_188_mod_a y90_188_mod_b y90_188_mod_quotA y90_188_mod_quotB y90_188_15 y90_188_17 y90_188_19 s74.2.2.2.1 = some z74 → va_P (dC, dI) vwCl [ce_mod rA mod_t mod_n y90_188_mod_a y90_188_mod_b mod_unitMany y90_188_mod_quotA y90_188_mod_quotB mod_unitUsed mod_fu mod_fuB mod_fv mod_fvB mod_madeA mod_madeB mod_partMany mod_leftA mod_leftB mod_rootA mod_rootB mod_tail mod_round mod_sum mod_rowMany mod_least mod_leastMany mod_netP mod_netQ mod_netR mod_leapMany] H → va_D A [ce_mod rA mod_t mod_n y90_188_mod_a y90_188_mod_b mod_unitMany y90_188_mod_quotA y90_188_mod_quotB mod_unitUsed mod_fu mod_fuB mod_fv mod_fvB mod_madeA mod_madeB mod_partMany mod_leftA mod_leftB mod_rootA mod_rootB mod_tail mod_round mod_sum mod_rowMany mod_least mod_leastMany mod_netP mod_netQ mod_netR mod_leapMany] → va_S A s.heap H locs → lv_has ls 27 [(0, .ref (rA 0)), (1, .long v1), (3, .long v3), (5, .long v5), (7, .long v7), (11, .long (p3 - (2 : Int64))), (13, .long (p4 - (2 : Int64))), (15, .long y90_188_15), (17, .long y90_188_17), (19, .long y90_188_19), (21, .long s74.2.2.2.1)] → WG H locs (F0 m 188 ls []) := by
          intro y90_188_15 y90_188_17 y90_188_19 y90_188_mod_a y90_188_mod_b y90_188_mod_quotA y90_188_mod_quotB H locs ls hf hP hD hS hl
          unfold f_X8_divide_K90_188 at hf
          refine hi _ _ _ ?_
          refine lv_lload hx hb dX8_divide_188 (lv_at hl 10 rfl) ?_
          refine lv_lconst (v := (1 : Int64)) hx hb dX8_divide_190 (by decide) ?_
          refine lv_ladd hx hb dX8_divide_191 ?_
          refine lv_lstore (lv' := [(21, .long (s74.2.2.2.1 + (1 : Int64))), (0, .ref (rA 0)), (1, .long v1), (3, .long v3), (5, .long v5), (7, .long v7), (11, .long (p3 - (2 : Int64))), (13, .long (p4 - (2 : Int64))), (15, .long y90_188_15), (17, .long y90_188_17), (19, .long y90_188_19)]) hx hb dX8_divide_192 hl (by decide) rfl (fun ls hl => ?_)
          refine lv_goto (tgt := 74) hx hb dX8_divide_194 (by decide) ?_
          exact ho _ _ _ (ih _ _ _ _ (itz_l hf hz) hP hD hS (lv_sub hl [1, 2, 3, 4, 5, 6, 7, 8, 9, 10, 0] rfl))
        have LP90 : ∀ (k : Nat) (s90 : (Int64 × Int64 × Int64 × Int64 × Int64 × Int64 × Int64 × Int64)) (H : Heap) (locs : List Loc) (ls : Array Slot), itr (f_X8_divide_L90 mod_t mod_n v1 v3 v5 v7 (p4 - (2 : Int64)) s74.2.2.2.1) k s90 = some x90 → va_P (dC, dI) vwCl [ce_mod rA mod_t mod_n s90.2.2.2.2.1 s90.2.2.2.2.2.1 mod_unitMany s90.2.2.2.2.2.2.1 s90.2.2.2.2.2.2.2 mod_unitUsed mod_fu mod_fuB mod_fv mod_fvB mod_madeA mod_madeB mod_partMany mod_leftA mod_leftB mod_rootA mod_rootB mod_tail mod_round mod_sum mod_rowMany mod_least mod_leastMany mod_netP mod_netQ mod_netR mod_leapMany] H → va_D A [ce_mod rA mod_t mod_n s90.2.2.2.2.1 s90.2.2.2.2.2.1 mod_unitMany s90.2.2.2.2.2.2.1 s90.2.2.2.2.2.2.2 mod_unitUsed mod_fu mod_fuB mod_fv mod_fvB mod_madeA mod_madeB mod_partMany mod_leftA mod_leftB mod_rootA mod_rootB mod_tail mod_round mod_sum mod_rowMany mod_least mod_leastMany mod_netP mod_netQ mod_netR mod_leapMany] → va_S A s.heap H locs → lv_has ls 27 [(0, .ref (rA 0)), (1, .long v1), (3, .long v3), (5, .long v5), (7, .long v7), (11, .long (p3 - (2 : Int64))), (13, .long (p4 - (2 : Int64))), (15, .long s90.1), (17, .long s90.2.1), (19, .long s90.2.2.1), (21, .long s74.2.2.2.1), (23, .long s90.2.2.2.1)] → WG H locs (F0 m 90 ls []) := by
          intro k
          induction k with
          | zero => intro s90 H locs ls h; exact itr_0 h
          | succ k ih =>
            intro s90 H locs ls h0 hP hD hS hl
            obtain ⟨z90, hf, hz⟩ := itr_in h0
            unfold f_X8_divide_L90 at hf
            refine hi _ _ _ ?_
            refine lv_lload hx hb dX8_divide_90 (lv_at hl 11 rfl) ?_
            refine lv_lload hx hb dX8_divide_92 (lv_at hl 6 rfl) ?_
            refine lv_ldc2 (v := (6 : Int64)) hx hb hown (hts _ qX8_divide_6) dX8_divide_94 ?_
            refine lv_ladd hx hb dX8_divide_97 ?_
            refine W.lcmp hx hb dX8_divide_98 ?_
            refine lv_if_ge (tgt := 188) hx hb dX8_divide_99 (by decide) (fun c7 => ?_) (fun c7 => ?_)
            · have hf := it_t ((lg_cmp_ge s90.2.2.2.1 ((p4 - (2 : Int64)) + (6 : Int64))).mp c7) hf
              exact ho _ _ _ (KT90_188 s90.1 s90.2.1 s90.2.2.1 s90.2.2.2.2.1 s90.2.2.2.2.2.1 s90.2.2.2.2.2.2.1 s90.2.2.2.2.2.2.2 H locs ls (by rw [← itz_r hf hz] at hk90; exact hk90) hP hD hS (lv_sub hl [0, 1, 2, 3, 4, 5, 6, 7, 8, 9, 10] rfl))
            · have hf := it_f (fun h => c7 ((lg_cmp_ge s90.2.2.2.1 ((p4 - (2 : Int64)) + (6 : Int64))).mpr h)) hf
              refine lv_aload_n hx hb dX8_divide_102 rfl (lv_at hl 0 rfl) ?_
              refine lv_lload hx hb dX8_divide_103 (lv_at hl 10 rfl) ?_
              refine lv_lload hx hb dX8_divide_105 (lv_at hl 11 rfl) ?_
              refine lv_lload hx hb dX8_divide_107 (lv_at hl 3 rfl) ?_
              refine lv_lload hx hb dX8_divide_109 (lv_at hl 4 rfl) ?_
              refine kw_v (wr := []) (ws' := [ce_mod rA mod_t mod_n (f_X8_times_mod_a mod_n s74.2.2.2.1 s90.2.2.2.1 v5 v7) (f_X8_times_mod_b mod_t s74.2.2.2.1 s90.2.2.2.1 v5 v7) mod_unitMany s90.2.2.2.2.2.2.1 s90.2.2.2.2.2.2.2 mod_unitUsed mod_fu mod_fuB mod_fv mod_fvB mod_madeA mod_madeB mod_partMany mod_leftA mod_leftB mod_rootA mod_rootB mod_tail mod_round mod_sum mod_rowMany mod_least mod_leastMany mod_netP mod_netQ mod_netR mod_leapMany]) (va_runV (As := [.long s74.2.2.2.1, .long s90.2.2.2.1, .long v5, .long v7]) (rest := []) ⟨hx, hb, hml, hown, hts⟩ (c_X8_times l dC dI rA kA H.size mod_t mod_n s90.2.2.2.2.1 s90.2.2.2.2.2.1 mod_unitMany s90.2.2.2.2.2.2.1 s90.2.2.2.2.2.2.2 mod_unitUsed mod_fu mod_fuB mod_fv mod_fvB mod_madeA mod_madeB mod_partMany mod_leftA mod_leftB mod_rootA mod_rootB mod_tail mod_round mod_sum mod_rowMany mod_least mod_leastMany mod_netP mod_netQ mod_netR mod_leapMany s74.2.2.2.1 s90.2.2.2.1 v5 v7) (cwV 4 hts gX8_divide_X8_times rfl rfl rfl hv_X8_times ⟨Nat.le_of_ble_eq_true rfl, Nat.le_of_ble_eq_true rfl⟩) ⟨fb_w, va_recv hK hP (ci := 8) (q0 := 0) rfl rfl, pre_w hP hD hK hN⟩ rfl rfl hl.1 rfl (lv_room (Nat.le_of_ble_eq_true rfl)) dX8_divide_111 ⟨Nat.le_of_ble_eq_true rfl, Nat.le_of_ble_eq_true rfl⟩) hP hD hS hA [0] [] [0] rfl rfl rfl (by decide) rfl rfl rfl (fun H locs hP hD hS => ?_)
              refine lv_aload_n hx hb dX8_divide_114 rfl (lv_at hl 0 rfl) ?_
              refine lv_lload_n hx hb dX8_divide_115 rfl (lv_at hl 1 rfl) ?_
              refine lv_aload_n hx hb dX8_divide_116 rfl (lv_at hl 0 rfl) ?_
              refine va_get (D := (dC, dI)) (ci := 8) (v := .long (f_X8_times_mod_a mod_n s74.2.2.2.1 s90.2.2.2.1 v5 v7)) (C := RX8) (T := TX8) (N := 42) hx hb hts nX8_divide_X8 hown hK hP 0 rfl rfl 4 (by decide) (hts _ qX8_divide_2) (fun _ h9 => h9) rfl dX8_divide_117 ?_
              refine lv_lsub hx hb dX8_divide_120 ?_
              refine lv_lload_n hx hb dX8_divide_121 rfl (lv_at hl 2 rfl) ?_
              refine lv_aload_n hx hb dX8_divide_122 rfl (lv_at hl 0 rfl) ?_
              refine va_get (D := (dC, dI)) (ci := 8) (v := .long (f_X8_times_mod_b mod_t s74.2.2.2.1 s90.2.2.2.1 v5 v7)) (C := RX8) (T := TX8) (N := 42) hx hb hts nX8_divide_X8 hown hK hP 0 rfl rfl 5 (by decide) (hts _ qX8_divide_4) (fun _ h9 => h9) rfl dX8_divide_123 ?_
              refine lv_lsub hx hb dX8_divide_126 ?_
              refine kp_l (va_runV (As := [.long (v1 - (f_X8_times_mod_a mod_n s74.2.2.2.1 s90.2.2.2.1 v5 v7)), .long (v3 - (f_X8_times_mod_b mod_t s74.2.2.2.1 s90.2.2.2.1 v5 v7))]) (rest := []) ⟨hx, hb, hml, hown, hts⟩ (c_X8_sizeOf l dC dI rA kA mod_t mod_n (f_X8_times_mod_a mod_n s74.2.2.2.1 s90.2.2.2.1 v5 v7) (f_X8_times_mod_b mod_t s74.2.2.2.1 s90.2.2.2.1 v5 v7) mod_unitMany s90.2.2.2.2.2.2.1 s90.2.2.2.2.2.2.2 mod_unitUsed mod_fu mod_fuB mod_fv mod_fvB mod_madeA mod_madeB mod_partMany mod_leftA mod_leftB mod_rootA mod_rootB mod_tail mod_round mod_sum mod_rowMany mod_least mod_leastMany mod_netP mod_netQ mod_netR mod_leapMany (v1 - (f_X8_times_mod_a mod_n s74.2.2.2.1 s90.2.2.2.1 v5 v7)) (v3 - (f_X8_times_mod_b mod_t s74.2.2.2.1 s90.2.2.2.1 v5 v7))) (cwV 2 hts gX8_divide_X8_sizeOf rfl rfl rfl hv_X8_sizeOf ⟨Nat.le_of_ble_eq_true rfl, Nat.le_of_ble_eq_true rfl⟩) ⟨fb_p, va_recv hK hP (ci := 8) (q0 := 0) rfl rfl, pre_p hP hK hN⟩ rfl rfl hl.1 rfl (lv_room (Nat.le_of_ble_eq_true rfl)) dX8_divide_127 ⟨Nat.le_of_ble_eq_true rfl, Nat.le_of_ble_eq_true rfl⟩) ?_
              refine lv_lstore (lv' := [(25, .long (f_X8_sizeOf mod_t mod_n (v1 - (f_X8_times_mod_a mod_n s74.2.2.2.1 s90.2.2.2.1 v5 v7)) (v3 - (f_X8_times_mod_b mod_t s74.2.2.2.1 s90.2.2.2.1 v5 v7)))), (0, .ref (rA 0)), (1, .long v1), (3, .long v3), (5, .long v5), (7, .long v7), (11, .long (p3 - (2 : Int64))), (13, .long (p4 - (2 : Int64))), (15, .long s90.1), (17, .long s90.2.1), (19, .long s90.2.2.1), (21, .long s74.2.2.2.1), (23, .long s90.2.2.2.1)]) hx hb dX8_divide_130 hl (by decide) rfl (fun ls hl => ?_)
              refine lv_lload hx hb dX8_divide_132 (lv_at hl 8 rfl) ?_
              refine lv_lconst (v := (0 : Int64)) hx hb dX8_divide_134 (by decide) ?_
              refine W.lcmp hx hb dX8_divide_135 ?_
              refine lv_if_lt (tgt := 147) hx hb dX8_divide_136 (by decide) (fun c10 => ?_) (fun c10 => ?_)
              · have hf := it_t ((lg_cmp_lt s90.1 (0 : Int64)).mp c10) hf
                refine lv_lload hx hb dX8_divide_147 (lv_at hl 0 rfl) ?_
                refine lv_lstore (lv' := [(15, .long (f_X8_sizeOf mod_t mod_n (v1 - (f_X8_times_mod_a mod_n s74.2.2.2.1 s90.2.2.2.1 v5 v7)) (v3 - (f_X8_times_mod_b mod_t s74.2.2.2.1 s90.2.2.2.1 v5 v7)))), (25, .long (f_X8_sizeOf mod_t mod_n (v1 - (f_X8_times_mod_a mod_n s74.2.2.2.1 s90.2.2.2.1 v5 v7)) (v3 - (f_X8_times_mod_b mod_t s74.2.2.2.1 s90.2.2.2.1 v5 v7)))), (0, .ref (rA 0)), (1, .long v1), (3, .long v3), (5, .long v5), (7, .long v7), (11, .long (p3 - (2 : Int64))), (13, .long (p4 - (2 : Int64))), (17, .long s90.2.1), (19, .long s90.2.2.1), (21, .long s74.2.2.2.1), (23, .long s90.2.2.2.1)]) hx hb dX8_divide_149 hl (by decide) rfl (fun ls hl => ?_)
                refine lv_aload_n hx hb dX8_divide_151 rfl (lv_at hl 2 rfl) ?_
                refine lv_lload hx hb dX8_divide_152 (lv_at hl 11 rfl) ?_
                refine va_put (D := (dC, dI)) (ci := 8) (v := .long s74.2.2.2.1) (ty := .long) (C := RX8) (T := TX8) (N := 42) hx hb hts nX8_divide_X8 tyX8 tyX8_ok nmX8 hown hK hP hD hS 0 rfl rfl 9 (by decide) (hts _ qX8_divide_7) (fun _ h9 => h9) rfl (by decide +kernel) rfl rfl (Nat.le_of_ble_eq_true rfl) dX8_divide_154 (fun H locs hP hD hS => ?_)
                have hP : va_P (dC, dI) vwCl [ce_mod rA mod_t mod_n (f_X8_times_mod_a mod_n s74.2.2.2.1 s90.2.2.2.1 v5 v7) (f_X8_times_mod_b mod_t s74.2.2.2.1 s90.2.2.2.1 v5 v7) mod_unitMany s74.2.2.2.1 s90.2.2.2.2.2.2.2 mod_unitUsed mod_fu mod_fuB mod_fv mod_fvB mod_madeA mod_madeB mod_partMany mod_leftA mod_leftB mod_rootA mod_rootB mod_tail mod_round mod_sum mod_rowMany mod_least mod_leastMany mod_netP mod_netQ mod_netR mod_leapMany] H := hP
                have hD : va_D A [ce_mod rA mod_t mod_n (f_X8_times_mod_a mod_n s74.2.2.2.1 s90.2.2.2.1 v5 v7) (f_X8_times_mod_b mod_t s74.2.2.2.1 s90.2.2.2.1 v5 v7) mod_unitMany s74.2.2.2.1 s90.2.2.2.2.2.2.2 mod_unitUsed mod_fu mod_fuB mod_fv mod_fvB mod_madeA mod_madeB mod_partMany mod_leftA mod_leftB mod_rootA mod_rootB mod_tail mod_round mod_sum mod_rowMany mod_least mod_leastMany mod_netP mod_netQ mod_netR mod_leapMany] := hD
                refine lv_aload_n hx hb dX8_divide_157 rfl (lv_at hl 2 rfl) ?_
                refine lv_lload hx hb dX8_divide_158 (lv_at hl 12 rfl) ?_
                refine va_put (D := (dC, dI)) (ci := 8) (v := .long s90.2.2.2.1) (ty := .long) (C := RX8) (T := TX8) (N := 42) hx hb hts nX8_divide_X8 tyX8 tyX8_ok nmX8 hown hK hP hD hS 0 rfl rfl 10 (by decide) (hts _ qX8_divide_8) (fun _ h9 => h9) rfl (by decide +kernel) rfl rfl (Nat.le_of_ble_eq_true rfl) dX8_divide_160 (fun H locs hP hD hS => ?_)
                have hP : va_P (dC, dI) vwCl [ce_mod rA mod_t mod_n (f_X8_times_mod_a mod_n s74.2.2.2.1 s90.2.2.2.1 v5 v7) (f_X8_times_mod_b mod_t s74.2.2.2.1 s90.2.2.2.1 v5 v7) mod_unitMany s74.2.2.2.1 s90.2.2.2.1 mod_unitUsed mod_fu mod_fuB mod_fv mod_fvB mod_madeA mod_madeB mod_partMany mod_leftA mod_leftB mod_rootA mod_rootB mod_tail mod_round mod_sum mod_rowMany mod_least mod_leastMany mod_netP mod_netQ mod_netR mod_leapMany] H := hP
                have hD : va_D A [ce_mod rA mod_t mod_n (f_X8_times_mod_a mod_n s74.2.2.2.1 s90.2.2.2.1 v5 v7) (f_X8_times_mod_b mod_t s74.2.2.2.1 s90.2.2.2.1 v5 v7) mod_unitMany s74.2.2.2.1 s90.2.2.2.1 mod_unitUsed mod_fu mod_fuB mod_fv mod_fvB mod_madeA mod_madeB mod_partMany mod_leftA mod_leftB mod_rootA mod_rootB mod_tail mod_round mod_sum mod_rowMany mod_least mod_leastMany mod_netP mod_netQ mod_netR mod_leapMany] := hD
                refine lv_lload_n hx hb dX8_divide_163 rfl (lv_at hl 3 rfl) ?_
                refine lv_aload_n hx hb dX8_divide_164 rfl (lv_at hl 2 rfl) ?_
                refine va_get (D := (dC, dI)) (ci := 8) (v := .long (f_X8_times_mod_a mod_n s74.2.2.2.1 s90.2.2.2.1 v5 v7)) (C := RX8) (T := TX8) (N := 42) hx hb hts nX8_divide_X8 hown hK hP 0 rfl rfl 4 (by decide) (hts _ qX8_divide_2) (fun _ h9 => h9) rfl dX8_divide_165 ?_
                refine lv_lsub hx hb dX8_divide_168 ?_
                refine lv_lstore (lv' := [(17, .long (v1 - (f_X8_times_mod_a mod_n s74.2.2.2.1 s90.2.2.2.1 v5 v7))), (15, .long (f_X8_sizeOf mod_t mod_n (v1 - (f_X8_times_mod_a mod_n s74.2.2.2.1 s90.2.2.2.1 v5 v7)) (v3 - (f_X8_times_mod_b mod_t s74.2.2.2.1 s90.2.2.2.1 v5 v7)))), (25, .long (f_X8_sizeOf mod_t mod_n (v1 - (f_X8_times_mod_a mod_n s74.2.2.2.1 s90.2.2.2.1 v5 v7)) (v3 - (f_X8_times_mod_b mod_t s74.2.2.2.1 s90.2.2.2.1 v5 v7)))), (0, .ref (rA 0)), (1, .long v1), (3, .long v3), (5, .long v5), (7, .long v7), (11, .long (p3 - (2 : Int64))), (13, .long (p4 - (2 : Int64))), (19, .long s90.2.2.1), (21, .long s74.2.2.2.1), (23, .long s90.2.2.2.1)]) hx hb dX8_divide_169 hl (by decide) rfl (fun ls hl => ?_)
                refine lv_lload_n hx hb dX8_divide_171 rfl (lv_at hl 5 rfl) ?_
                refine lv_aload_n hx hb dX8_divide_172 rfl (lv_at hl 3 rfl) ?_
                refine va_get (D := (dC, dI)) (ci := 8) (v := .long (f_X8_times_mod_b mod_t s74.2.2.2.1 s90.2.2.2.1 v5 v7)) (C := RX8) (T := TX8) (N := 42) hx hb hts nX8_divide_X8 hown hK hP 0 rfl rfl 5 (by decide) (hts _ qX8_divide_4) (fun _ h9 => h9) rfl dX8_divide_173 ?_
                refine lv_lsub hx hb dX8_divide_176 ?_
                refine lv_lstore (lv' := [(19, .long (v3 - (f_X8_times_mod_b mod_t s74.2.2.2.1 s90.2.2.2.1 v5 v7))), (17, .long (v1 - (f_X8_times_mod_a mod_n s74.2.2.2.1 s90.2.2.2.1 v5 v7))), (15, .long (f_X8_sizeOf mod_t mod_n (v1 - (f_X8_times_mod_a mod_n s74.2.2.2.1 s90.2.2.2.1 v5 v7)) (v3 - (f_X8_times_mod_b mod_t s74.2.2.2.1 s90.2.2.2.1 v5 v7)))), (25, .long (f_X8_sizeOf mod_t mod_n (v1 - (f_X8_times_mod_a mod_n s74.2.2.2.1 s90.2.2.2.1 v5 v7)) (v3 - (f_X8_times_mod_b mod_t s74.2.2.2.1 s90.2.2.2.1 v5 v7)))), (0, .ref (rA 0)), (1, .long v1), (3, .long v3), (5, .long v5), (7, .long v7), (11, .long (p3 - (2 : Int64))), (13, .long (p4 - (2 : Int64))), (21, .long s74.2.2.2.1), (23, .long s90.2.2.2.1)]) hx hb dX8_divide_177 hl (by decide) rfl (fun ls hl => ?_)
                refine lv_lload hx hb dX8_divide_179 (lv_at hl 12 rfl) ?_
                refine lv_lconst (v := (1 : Int64)) hx hb dX8_divide_181 (by decide) ?_
                refine lv_ladd hx hb dX8_divide_182 ?_
                refine lv_lstore (lv' := [(23, .long (s90.2.2.2.1 + (1 : Int64))), (19, .long (v3 - (f_X8_times_mod_b mod_t s74.2.2.2.1 s90.2.2.2.1 v5 v7))), (17, .long (v1 - (f_X8_times_mod_a mod_n s74.2.2.2.1 s90.2.2.2.1 v5 v7))), (15, .long (f_X8_sizeOf mod_t mod_n (v1 - (f_X8_times_mod_a mod_n s74.2.2.2.1 s90.2.2.2.1 v5 v7)) (v3 - (f_X8_times_mod_b mod_t s74.2.2.2.1 s90.2.2.2.1 v5 v7)))), (25, .long (f_X8_sizeOf mod_t mod_n (v1 - (f_X8_times_mod_a mod_n s74.2.2.2.1 s90.2.2.2.1 v5 v7)) (v3 - (f_X8_times_mod_b mod_t s74.2.2.2.1 s90.2.2.2.1 v5 v7)))), (0, .ref (rA 0)), (1, .long v1), (3, .long v3), (5, .long v5), (7, .long v7), (11, .long (p3 - (2 : Int64))), (13, .long (p4 - (2 : Int64))), (21, .long s74.2.2.2.1)]) hx hb dX8_divide_183 hl (by decide) rfl (fun ls hl => ?_)
                refine lv_goto (tgt := 90) hx hb dX8_divide_185 (by decide) ?_
                exact ho _ _ _ (ih _ _ _ _ (itz_l hf hz) hP hD hS (lv_sub hl [5, 6, 7, 8, 9, 10, 11, 3, 2, 1, 12, 0] rfl))
              · have hf := it_f (fun h => c10 ((lg_cmp_lt s90.1 (0 : Int64)).mpr h)) hf
                refine lv_lload hx hb dX8_divide_139 (lv_at hl 0 rfl) ?_
                refine lv_lload hx hb dX8_divide_141 (lv_at hl 8 rfl) ?_
                refine W.lcmp hx hb dX8_divide_143 ?_
                refine lv_if_ge (tgt := 179) hx hb dX8_divide_144 (by decide) (fun c11 => ?_) (fun c11 => ?_)
                · have hf := it_t ((lg_cmp_ge (f_X8_sizeOf mod_t mod_n (v1 - (f_X8_times_mod_a mod_n s74.2.2.2.1 s90.2.2.2.1 v5 v7)) (v3 - (f_X8_times_mod_b mod_t s74.2.2.2.1 s90.2.2.2.1 v5 v7))) s90.1).mp c11) hf
                  refine lv_lload hx hb dX8_divide_179 (lv_at hl 12 rfl) ?_
                  refine lv_lconst (v := (1 : Int64)) hx hb dX8_divide_181 (by decide) ?_
                  refine lv_ladd hx hb dX8_divide_182 ?_
                  refine lv_lstore (lv' := [(23, .long (s90.2.2.2.1 + (1 : Int64))), (25, .long (f_X8_sizeOf mod_t mod_n (v1 - (f_X8_times_mod_a mod_n s74.2.2.2.1 s90.2.2.2.1 v5 v7)) (v3 - (f_X8_times_mod_b mod_t s74.2.2.2.1 s90.2.2.2.1 v5 v7)))), (0, .ref (rA 0)), (1, .long v1), (3, .long v3), (5, .long v5), (7, .long v7), (11, .long (p3 - (2 : Int64))), (13, .long (p4 - (2 : Int64))), (15, .long s90.1), (17, .long s90.2.1), (19, .long s90.2.2.1), (21, .long s74.2.2.2.1)]) hx hb dX8_divide_183 hl (by decide) rfl (fun ls hl => ?_)
                  refine lv_goto (tgt := 90) hx hb dX8_divide_185 (by decide) ?_
                  exact ho _ _ _ (ih _ _ _ _ (itz_l hf hz) hP hD hS (lv_sub hl [2, 3, 4, 5, 6, 7, 8, 9, 10, 11, 12, 0] rfl))
                · have hf := it_f (fun h => c11 ((lg_cmp_ge (f_X8_sizeOf mod_t mod_n (v1 - (f_X8_times_mod_a mod_n s74.2.2.2.1 s90.2.2.2.1 v5 v7)) (v3 - (f_X8_times_mod_b mod_t s74.2.2.2.1 s90.2.2.2.1 v5 v7))) s90.1).mpr h)) hf
                  refine lv_lload hx hb dX8_divide_147 (lv_at hl 0 rfl) ?_
                  refine lv_lstore (lv' := [(15, .long (f_X8_sizeOf mod_t mod_n (v1 - (f_X8_times_mod_a mod_n s74.2.2.2.1 s90.2.2.2.1 v5 v7)) (v3 - (f_X8_times_mod_b mod_t s74.2.2.2.1 s90.2.2.2.1 v5 v7)))), (25, .long (f_X8_sizeOf mod_t mod_n (v1 - (f_X8_times_mod_a mod_n s74.2.2.2.1 s90.2.2.2.1 v5 v7)) (v3 - (f_X8_times_mod_b mod_t s74.2.2.2.1 s90.2.2.2.1 v5 v7)))), (0, .ref (rA 0)), (1, .long v1), (3, .long v3), (5, .long v5), (7, .long v7), (11, .long (p3 - (2 : Int64))), (13, .long (p4 - (2 : Int64))), (17, .long s90.2.1), (19, .long s90.2.2.1), (21, .long s74.2.2.2.1), (23, .long s90.2.2.2.1)]) hx hb dX8_divide_149 hl (by decide) rfl (fun ls hl => ?_)
                  refine lv_aload_n hx hb dX8_divide_151 rfl (lv_at hl 2 rfl) ?_
                  refine lv_lload hx hb dX8_divide_152 (lv_at hl 11 rfl) ?_
                  refine va_put (D := (dC, dI)) (ci := 8) (v := .long s74.2.2.2.1) (ty := .long) (C := RX8) (T := TX8) (N := 42) hx hb hts nX8_divide_X8 tyX8 tyX8_ok nmX8 hown hK hP hD hS 0 rfl rfl 9 (by decide) (hts _ qX8_divide_7) (fun _ h9 => h9) rfl (by decide +kernel) rfl rfl (Nat.le_of_ble_eq_true rfl) dX8_divide_154 (fun H locs hP hD hS => ?_)
                  have hP : va_P (dC, dI) vwCl [ce_mod rA mod_t mod_n (f_X8_times_mod_a mod_n s74.2.2.2.1 s90.2.2.2.1 v5 v7) (f_X8_times_mod_b mod_t s74.2.2.2.1 s90.2.2.2.1 v5 v7) mod_unitMany s74.2.2.2.1 s90.2.2.2.2.2.2.2 mod_unitUsed mod_fu mod_fuB mod_fv mod_fvB mod_madeA mod_madeB mod_partMany mod_leftA mod_leftB mod_rootA mod_rootB mod_tail mod_round mod_sum mod_rowMany mod_least mod_leastMany mod_netP mod_netQ mod_netR mod_leapMany] H := hP
                  have hD : va_D A [ce_mod rA mod_t mod_n (f_X8_times_mod_a mod_n s74.2.2.2.1 s90.2.2.2.1 v5 v7) (f_X8_times_mod_b mod_t s74.2.2.2.1 s90.2.2.2.1 v5 v7) mod_unitMany s74.2.2.2.1 s90.2.2.2.2.2.2.2 mod_unitUsed mod_fu mod_fuB mod_fv mod_fvB mod_madeA mod_madeB mod_partMany mod_leftA mod_leftB mod_rootA mod_rootB mod_tail mod_round mod_sum mod_rowMany mod_least mod_leastMany mod_netP mod_netQ mod_netR mod_leapMany] := hD
                  refine lv_aload_n hx hb dX8_divide_157 rfl (lv_at hl 2 rfl) ?_
                  refine lv_lload hx hb dX8_divide_158 (lv_at hl 12 rfl) ?_
                  refine va_put (D := (dC, dI)) (ci := 8) (v := .long s90.2.2.2.1) (ty := .long) (C := RX8) (T := TX8) (N := 42) hx hb hts nX8_divide_X8 tyX8 tyX8_ok nmX8 hown hK hP hD hS 0 rfl rfl 10 (by decide) (hts _ qX8_divide_8) (fun _ h9 => h9) rfl (by decide +kernel) rfl rfl (Nat.le_of_ble_eq_true rfl) dX8_divide_160 (fun H locs hP hD hS => ?_)
                  have hP : va_P (dC, dI) vwCl [ce_mod rA mod_t mod_n (f_X8_times_mod_a mod_n s74.2.2.2.1 s90.2.2.2.1 v5 v7) (f_X8_times_mod_b mod_t s74.2.2.2.1 s90.2.2.2.1 v5 v7) mod_unitMany s74.2.2.2.1 s90.2.2.2.1 mod_unitUsed mod_fu mod_fuB mod_fv mod_fvB mod_madeA mod_madeB mod_partMany mod_leftA mod_leftB mod_rootA mod_rootB mod_tail mod_round mod_sum mod_rowMany mod_least mod_leastMany mod_netP mod_netQ mod_netR mod_leapMany] H := hP
                  have hD : va_D A [ce_mod rA mod_t mod_n (f_X8_times_mod_a mod_n s74.2.2.2.1 s90.2.2.2.1 v5 v7) (f_X8_times_mod_b mod_t s74.2.2.2.1 s90.2.2.2.1 v5 v7) mod_unitMany s74.2.2.2.1 s90.2.2.2.1 mod_unitUsed mod_fu mod_fuB mod_fv mod_fvB mod_madeA mod_madeB mod_partMany mod_leftA mod_leftB mod_rootA mod_rootB mod_tail mod_round mod_sum mod_rowMany mod_least mod_leastMany mod_netP mod_netQ mod_netR mod_leapMany] := hD
                  refine lv_lload_n hx hb dX8_divide_163 rfl (lv_at hl 3 rfl) ?_
                  refine lv_aload_n hx hb dX8_divide_164 rfl (lv_at hl 2 rfl) ?_
                  refine va_get (D := (dC, dI)) (ci := 8) (v := .long (f_X8_times_mod_a mod_n s74.2.2.2.1 s90.2.2.2.1 v5 v7)) (C := RX8) (T := TX8) (N := 42) hx hb hts nX8_divide_X8 hown hK hP 0 rfl rfl 4 (by decide) (hts _ qX8_divide_2) (fun _ h9 => h9) rfl dX8_divide_165 ?_
                  refine lv_lsub hx hb dX8_divide_168 ?_
                  refine lv_lstore (lv' := [(17, .long (v1 - (f_X8_times_mod_a mod_n s74.2.2.2.1 s90.2.2.2.1 v5 v7))), (15, .long (f_X8_sizeOf mod_t mod_n (v1 - (f_X8_times_mod_a mod_n s74.2.2.2.1 s90.2.2.2.1 v5 v7)) (v3 - (f_X8_times_mod_b mod_t s74.2.2.2.1 s90.2.2.2.1 v5 v7)))), (25, .long (f_X8_sizeOf mod_t mod_n (v1 - (f_X8_times_mod_a mod_n s74.2.2.2.1 s90.2.2.2.1 v5 v7)) (v3 - (f_X8_times_mod_b mod_t s74.2.2.2.1 s90.2.2.2.1 v5 v7)))), (0, .ref (rA 0)), (1, .long v1), (3, .long v3), (5, .long v5), (7, .long v7), (11, .long (p3 - (2 : Int64))), (13, .long (p4 - (2 : Int64))), (19, .long s90.2.2.1), (21, .long s74.2.2.2.1), (23, .long s90.2.2.2.1)]) hx hb dX8_divide_169 hl (by decide) rfl (fun ls hl => ?_)
                  refine lv_lload_n hx hb dX8_divide_171 rfl (lv_at hl 5 rfl) ?_
                  refine lv_aload_n hx hb dX8_divide_172 rfl (lv_at hl 3 rfl) ?_
                  refine va_get (D := (dC, dI)) (ci := 8) (v := .long (f_X8_times_mod_b mod_t s74.2.2.2.1 s90.2.2.2.1 v5 v7)) (C := RX8) (T := TX8) (N := 42) hx hb hts nX8_divide_X8 hown hK hP 0 rfl rfl 5 (by decide) (hts _ qX8_divide_4) (fun _ h9 => h9) rfl dX8_divide_173 ?_
                  refine lv_lsub hx hb dX8_divide_176 ?_
                  refine lv_lstore (lv' := [(19, .long (v3 - (f_X8_times_mod_b mod_t s74.2.2.2.1 s90.2.2.2.1 v5 v7))), (17, .long (v1 - (f_X8_times_mod_a mod_n s74.2.2.2.1 s90.2.2.2.1 v5 v7))), (15, .long (f_X8_sizeOf mod_t mod_n (v1 - (f_X8_times_mod_a mod_n s74.2.2.2.1 s90.2.2.2.1 v5 v7)) (v3 - (f_X8_times_mod_b mod_t s74.2.2.2.1 s90.2.2.2.1 v5 v7)))), (25, .long (f_X8_sizeOf mod_t mod_n (v1 - (f_X8_times_mod_a mod_n s74.2.2.2.1 s90.2.2.2.1 v5 v7)) (v3 - (f_X8_times_mod_b mod_t s74.2.2.2.1 s90.2.2.2.1 v5 v7)))), (0, .ref (rA 0)), (1, .long v1), (3, .long v3), (5, .long v5), (7, .long v7), (11, .long (p3 - (2 : Int64))), (13, .long (p4 - (2 : Int64))), (21, .long s74.2.2.2.1), (23, .long s90.2.2.2.1)]) hx hb dX8_divide_177 hl (by decide) rfl (fun ls hl => ?_)
                  refine lv_lload hx hb dX8_divide_179 (lv_at hl 12 rfl) ?_
                  refine lv_lconst (v := (1 : Int64)) hx hb dX8_divide_181 (by decide) ?_
                  refine lv_ladd hx hb dX8_divide_182 ?_
                  refine lv_lstore (lv' := [(23, .long (s90.2.2.2.1 + (1 : Int64))), (19, .long (v3 - (f_X8_times_mod_b mod_t s74.2.2.2.1 s90.2.2.2.1 v5 v7))), (17, .long (v1 - (f_X8_times_mod_a mod_n s74.2.2.2.1 s90.2.2.2.1 v5 v7))), (15, .long (f_X8_sizeOf mod_t mod_n (v1 - (f_X8_times_mod_a mod_n s74.2.2.2.1 s90.2.2.2.1 v5 v7)) (v3 - (f_X8_times_mod_b mod_t s74.2.2.2.1 s90.2.2.2.1 v5 v7)))), (25, .long (f_X8_sizeOf mod_t mod_n (v1 - (f_X8_times_mod_a mod_n s74.2.2.2.1 s90.2.2.2.1 v5 v7)) (v3 - (f_X8_times_mod_b mod_t s74.2.2.2.1 s90.2.2.2.1 v5 v7)))), (0, .ref (rA 0)), (1, .long v1), (3, .long v3), (5, .long v5), (7, .long v7), (11, .long (p3 - (2 : Int64))), (13, .long (p4 - (2 : Int64))), (21, .long s74.2.2.2.1)]) hx hb dX8_divide_183 hl (by decide) rfl (fun ls hl => ?_)
                  refine lv_goto (tgt := 90) hx hb dX8_divide_185 (by decide) ?_
                  exact ho _ _ _ (ih _ _ _ _ (itz_l hf hz) hP hD hS (lv_sub hl [5, 6, 7, 8, 9, 10, 11, 3, 2, 1, 12, 0] rfl))
        exact ho _ _ _ (LP90 k90 (s74.1, s74.2.1, s74.2.2.1, (p4 - (2 : Int64)), s74.2.2.2.2.1, s74.2.2.2.2.2.1, s74.2.2.2.2.2.2.1, s74.2.2.2.2.2.2.2) H locs ls h090 hP hD hS (lv_sub hl [1, 2, 3, 4, 5, 6, 7, 8, 9, 10, 11, 0] rfl))
  exact ho _ _ _ (LP74 k74 ((-1 : Int64), (0 : Int64), (0 : Int64), (p3 - (2 : Int64)), (f_X8_times_mod_a mod_n v1 v3 (v5 + (mod_t * v7)) (-v7)), (f_X8_times_mod_b mod_t v1 v3 (v5 + (mod_t * v7)) (-v7)), mod_quotA, mod_quotB) H locs ls h074 hP hD hS (lv_sub hl [7, 8, 9, 10, 11, 5, 4, 3, 2, 1, 0] rfl))
