/-! the constructors (written by wip/gen/init.py) -/
def NwJ : List Nrow := [(RX10, 9, yX7_init, RX10), (RX10, 18, yX3_init, RX10), (RX10, 25, yX9_init, RX10), (RX10, 39, yX5_init, RX10), (RX10, 59, yX2_init, RX10), (RX10, 66, yX0_init, RX10), (RX10, 73, yX8_init, RX10), (RX3, 11, yX9_init, RX10), (RX5, 11, yX6_init, RX10)]
def uL : List Nat → Nat → Nat
  | [], _ => 0
  | x :: _, 0 => x
  | _ :: t, i + 1 => uL t i
def adH (h0 : Nat) (u : Nat → Nat) : Nat → Nat := fun i => if i = 0 then h0 else u i
theorem hdX0_init : yX0_init.cls ≠ "java/lang/invoke/MethodHandle" ∧ yX0_init.cls ≠ "java/lang/invoke/VarHandle" ∧ (parseMethodDescriptor yX0_init.desc).map (fun d => d.parameters.length) = some 0 := by decide +kernel
theorem hdX1_init : yX1_init.cls ≠ "java/lang/invoke/MethodHandle" ∧ yX1_init.cls ≠ "java/lang/invoke/VarHandle" ∧ (parseMethodDescriptor yX1_init.desc).map (fun d => d.parameters.length) = some 0 := by decide +kernel
theorem hdX2_init : yX2_init.cls ≠ "java/lang/invoke/MethodHandle" ∧ yX2_init.cls ≠ "java/lang/invoke/VarHandle" ∧ (parseMethodDescriptor yX2_init.desc).map (fun d => d.parameters.length) = some 0 := by decide +kernel
theorem hdX3_init : yX3_init.cls ≠ "java/lang/invoke/MethodHandle" ∧ yX3_init.cls ≠ "java/lang/invoke/VarHandle" ∧ (parseMethodDescriptor yX3_init.desc).map (fun d => d.parameters.length) = some 0 := by decide +kernel
theorem hdX4_init : yX4_init.cls ≠ "java/lang/invoke/MethodHandle" ∧ yX4_init.cls ≠ "java/lang/invoke/VarHandle" ∧ (parseMethodDescriptor yX4_init.desc).map (fun d => d.parameters.length) = some 2 := by decide +kernel
theorem hdX5_init : yX5_init.cls ≠ "java/lang/invoke/MethodHandle" ∧ yX5_init.cls ≠ "java/lang/invoke/VarHandle" ∧ (parseMethodDescriptor yX5_init.desc).map (fun d => d.parameters.length) = some 0 := by decide +kernel
theorem hdX6_init : yX6_init.cls ≠ "java/lang/invoke/MethodHandle" ∧ yX6_init.cls ≠ "java/lang/invoke/VarHandle" ∧ (parseMethodDescriptor yX6_init.desc).map (fun d => d.parameters.length) = some 0 := by decide +kernel
theorem hdX7_init : yX7_init.cls ≠ "java/lang/invoke/MethodHandle" ∧ yX7_init.cls ≠ "java/lang/invoke/VarHandle" ∧ (parseMethodDescriptor yX7_init.desc).map (fun d => d.parameters.length) = some 0 := by decide +kernel
theorem hdX8_init : yX8_init.cls ≠ "java/lang/invoke/MethodHandle" ∧ yX8_init.cls ≠ "java/lang/invoke/VarHandle" ∧ (parseMethodDescriptor yX8_init.desc).map (fun d => d.parameters.length) = some 0 := by decide +kernel
theorem hdX9_init : yX9_init.cls ≠ "java/lang/invoke/MethodHandle" ∧ yX9_init.cls ≠ "java/lang/invoke/VarHandle" ∧ (parseMethodDescriptor yX9_init.desc).map (fun d => d.parameters.length) = some 0 := by decide +kernel
theorem hdX10_init : yX10_init.cls ≠ "java/lang/invoke/MethodHandle" ∧ yX10_init.cls ≠ "java/lang/invoke/VarHandle" ∧ (parseMethodDescriptor yX10_init.desc).map (fun d => d.parameters.length) = some 0 := by decide +kernel
theorem hdX11_init : yX11_init.cls ≠ "java/lang/invoke/MethodHandle" ∧ yX11_init.cls ≠ "java/lang/invoke/VarHandle" ∧ (parseMethodDescriptor yX11_init.desc).map (fun d => d.parameters.length) = some 0 := by decide +kernel
theorem hdX5_strip : yX5_strip.cls ≠ "java/lang/invoke/MethodHandle" ∧ yX5_strip.cls ≠ "java/lang/invoke/VarHandle" ∧ (parseMethodDescriptor yX5_strip.desc).map (fun d => d.parameters.length) = some 0 := by decide +kernel
theorem n_X1_pair (l : Launch) (D : va_G) (tys : List (ClassId × FieldType)) (σ : St) : Ci l D tys [] [] (fun _ => []) yX1_pair wsX1_pair { frames := 0, cells := 0, slots := 0, locals := 0 } [.int (nI 26), .int (nI 26)] σ (fun r _ => r = nI 754) := by
  refine k_metI (cc := cX1_pair) (maxL := 2) (ret := (some .int)) (by decide) rfl (Nat.le_of_ble_eq_true rfl) ?_
  intro p e s m below meth c A ls C hI hl
  obtain ⟨hx, hb, hr, hml, hown, hts, hlocks⟩ := id C
  have hl : lv_has ls 2 [(0, .int (nI 26)), (1, .int (nI 26))] := hl
  refine lv_iload_n hx hb dX1_pair_0 rfl (lv_at hl 0 rfl) ?_
  refine lv_bipush (v := nI 28) hx hb dX1_pair_1 (by decide) ?_
  refine lv_imul hx hb dX1_pair_3 ?_
  refine lv_iload_n hx hb dX1_pair_4 rfl (lv_at hl 1 rfl) ?_
  refine lv_iadd hx hb dX1_pair_5 ?_
  exact k_iret hx hb hr hlocks hI (by decide) dX1_pair_6
theorem n_X5_strip (l : Launch) (D : va_G) (cyI cyZ : ClassId) (h0 a0 : Nat) (fs : List Value) (hf : fs[0]? = some (.ref a0)) : Cr l D (tyE cyI cyZ) [] [] (fun _ => [(h0, .inr (5, fs))]) yX5_strip wsX5_strip { frames := 0, cells := 0, slots := 0, locals := 0 } [.ref h0] a0 (fun _ _ => nI 0) (fun _ => True) := by
  refine k_metR (cc := cX5_strip) (maxL := 1) (ret := (some (.object "StillText$Strip"))) (by decide) rfl (Nat.le_of_ble_eq_true rfl) ?_
  intro p e s m below meth c A ls C hI hl
  obtain ⟨hx, hb, hr, hml, hown, hts, hlocks⟩ := id C
  have hl : lv_has ls 1 [(0, .ref h0)] := hl
  refine lv_aload_n hx hb dX5_strip_0 rfl (lv_at hl 0 rfl) ?_
  refine k_get (ci := 5) hx hb hts (fun _ h => List.mem_cons_of_mem _ (List.mem_append_right _ h)) hown hI 0 rfl rfl 0 (by decide) (List.mem_cons_of_mem _ (List.mem_append_left _ (List.mem_of_getElem? (i := 0) rfl))) rfl hf dX5_strip_1 ?_
  exact k_aret hx hb hr hlocks hI trivial dX5_strip_4
set_option maxHeartbeats 4000000 in
set_option maxRecDepth 100000 in
theorem n_X0_init (l : Launch) (D : va_G) (cyI cyZ : ClassId) (h0 : Nat) : Cn l D (tyE cyI cyZ) NwJ yX0_init wsX0_init { frames := 1, cells := 2, slots := 40, locals := 12 } [.ref h0] [(h0, .inr (0, [.null, .null, .int (nI 0)]))] (fun u => [(h0, .inr (0, [.ref (u 0), .ref (u 1), .int (nI 0)])), ((u 0), .inl (cyI, 20, .inl (fun _ => nI 0))), ((u 1), .inl (cyI, 20, .inl (fun _ => nI 0)))]) 2 40 := by
  refine j_met (cc := cX0_init) (maxL := 1) (ret := none) (by decide) rfl rfl (Nat.le_of_ble_eq_true rfl) ?_
  intro p e s m below meth c A ls C hin hJ hl
  obtain ⟨hx, hb, hr, hml, hown, hts, hlocks⟩ := id C
  have hl : lv_has ls 1 [(0, .ref h0)] := hl
  refine lv_aload_n hx hb dX0_init_0 rfl (lv_at hl 0 rfl) ?_
  refine W.objInit hx hb hown (hts _ (List.mem_cons_of_mem _ (List.mem_append_left _ (List.mem_of_getElem? (i := 0) rfl)))) (hts _ (List.mem_cons_of_mem _ (List.mem_append_left _ (List.mem_of_getElem? (i := 1) rfl)))) (hts _ (List.mem_cons_of_mem _ (List.mem_append_left _ (List.mem_of_getElem? (i := 2) rfl)))) rfl (by rw [hml]; exact hl.1) rfl dX0_init_1 (Nat.le_of_ble_eq_true rfl) (Nat.le_of_ble_eq_true rfl) ?_
  refine W.eq (g2 := F0 m 4 ls []) rfl ?_
  refine lv_aload_n hx hb dX0_init_4 rfl (lv_at hl 0 rfl) ?_
  refine lv_bipush (v := (nI 20)) hx hb dX0_init_5 (by decide) ?_
  refine j_newI (k := 1) (n := 20) (N := 20) hx hb hts (List.mem_cons_of_mem _ (List.mem_append_left _ (List.mem_of_getElem? (i := 3) rfl))) hJ (cy := cyI) List.mem_cons_self (by decide) (by decide) (Nat.le_of_ble_eq_true rfl) (Nat.le_of_ble_eq_true rfl) (Nat.le_of_ble_eq_true rfl) (Nat.le_of_ble_eq_true rfl) (Nat.le_of_ble_eq_true rfl) dX0_init_7 (fun q7 H hJ => ?_)
  have hJ : Jw D (tyE cyI cyZ) NwJ [(h0, .inr (0, [.null, .null, .int (nI 0)])), (q7, .inl (cyI, 20, .inl (fun _ => nI 0)))] A s _ _ := hJ
  refine j_put (q0 := 0) (k := 0) (ci := 0) (v := .ref q7) hx hb hts (fun _ h => List.mem_cons_of_mem _ (List.mem_append_right _ (h))) tyX0 tyX0_ok nmX0 hown hin hJ rfl rfl (by decide) (List.mem_cons_of_mem _ (List.mem_append_left _ (List.mem_of_getElem? (i := 4) rfl))) rfl rfl rfl rfl (Nat.le_of_ble_eq_true rfl) [(h0, .inr (0, [.ref q7, .null, .int (nI 0)])), (q7, .inl (cyI, 20, .inl (fun _ => nI 0)))] rfl dX0_init_9 (fun H locs hJ => ?_)
  refine lv_aload_n hx hb dX0_init_12 rfl (lv_at hl 0 rfl) ?_
  refine lv_bipush (v := (nI 20)) hx hb dX0_init_13 (by decide) ?_
  refine j_newI (k := 2) (n := 40) (N := 20) hx hb hts (List.mem_cons_of_mem _ (List.mem_append_left _ (List.mem_of_getElem? (i := 3) rfl))) hJ (cy := cyI) List.mem_cons_self (by decide) (by decide) (Nat.le_of_ble_eq_true rfl) (Nat.le_of_ble_eq_true rfl) (Nat.le_of_ble_eq_true rfl) (Nat.le_of_ble_eq_true rfl) (Nat.le_of_ble_eq_true rfl) dX0_init_15 (fun q15 H hJ => ?_)
  have hJ : Jw D (tyE cyI cyZ) NwJ [(h0, .inr (0, [.ref q7, .null, .int (nI 0)])), (q7, .inl (cyI, 20, .inl (fun _ => nI 0))), (q15, .inl (cyI, 20, .inl (fun _ => nI 0)))] A s _ _ := hJ
  refine j_put (q0 := 0) (k := 1) (ci := 0) (v := .ref q15) hx hb hts (fun _ h => List.mem_cons_of_mem _ (List.mem_append_right _ (h))) tyX0 tyX0_ok nmX0 hown hin hJ rfl rfl (by decide) (List.mem_cons_of_mem _ (List.mem_append_left _ (List.mem_of_getElem? (i := 5) rfl))) rfl rfl rfl rfl (Nat.le_of_ble_eq_true rfl) [(h0, .inr (0, [.ref q7, .ref q15, .int (nI 0)])), (q7, .inl (cyI, 20, .inl (fun _ => nI 0))), (q15, .inl (cyI, 20, .inl (fun _ => nI 0)))] rfl dX0_init_17 (fun H locs hJ => ?_)
  exact j_ret (u := uL [q7, q15]) hx hb hr hlocks hJ dX0_init_20
set_option maxHeartbeats 4000000 in
set_option maxRecDepth 100000 in
theorem n_X1_init (l : Launch) (D : va_G) (cyI cyZ : ClassId) (h0 : Nat) : Cn l D (tyE cyI cyZ) NwJ yX1_init wsX1_init { frames := 1, cells := 1, slots := 784, locals := 21 } [.ref h0] [(h0, .inr (1, [.int (nI 0), .int (nI 0), .int (nI 0), .int (nI 0), .int (nI 0), .int (nI 0), .null]))] (fun u => [(h0, .inr (1, [.int (nI 30), .int (nI 1), .int (nI 1), .int (nI 20), .int (nI 60), .int (nI 100), .ref (u 0)])), ((u 0), .inl (cyI, 784, .inl (upd (fun _ => nI 0) (nI 754).toNatClampNeg (nI 5))))]) 1 784 := by
  refine j_met (cc := cX1_init) (maxL := 1) (ret := none) (by decide) rfl rfl (Nat.le_of_ble_eq_true rfl) ?_
  intro p e s m below meth c A ls C hin hJ hl
  obtain ⟨hx, hb, hr, hml, hown, hts, hlocks⟩ := id C
  have hl : lv_has ls 1 [(0, .ref h0)] := hl
  refine lv_aload_n hx hb dX1_init_0 rfl (lv_at hl 0 rfl) ?_
  refine W.objInit hx hb hown (hts _ (List.mem_cons_of_mem _ (List.mem_append_left _ (List.mem_of_getElem? (i := 0) rfl)))) (hts _ (List.mem_cons_of_mem _ (List.mem_append_left _ (List.mem_of_getElem? (i := 1) rfl)))) (hts _ (List.mem_cons_of_mem _ (List.mem_append_left _ (List.mem_of_getElem? (i := 2) rfl)))) rfl (by rw [hml]; exact hl.1) rfl dX1_init_1 (Nat.le_of_ble_eq_true rfl) (Nat.le_of_ble_eq_true rfl) ?_
  refine W.eq (g2 := F0 m 4 ls []) rfl ?_
  refine lv_aload_n hx hb dX1_init_4 rfl (lv_at hl 0 rfl) ?_
  refine lv_bipush (v := (nI 30)) hx hb dX1_init_5 (by decide) ?_
  refine j_put (q0 := 0) (k := 0) (ci := 1) (v := .int (nI 30)) hx hb hts (fun _ h => List.mem_cons_of_mem _ (List.mem_append_right _ (h))) tyX1 tyX1_ok nmX1 hown hin hJ rfl rfl (by decide) (List.mem_cons_of_mem _ (List.mem_append_left _ (List.mem_of_getElem? (i := 3) rfl))) rfl rfl rfl rfl (Nat.le_of_ble_eq_true rfl) [(h0, .inr (1, [.int (nI 30), .int (nI 0), .int (nI 0), .int (nI 0), .int (nI 0), .int (nI 0), .null]))] rfl dX1_init_7 (fun H locs hJ => ?_)
  refine lv_aload_n hx hb dX1_init_10 rfl (lv_at hl 0 rfl) ?_
  refine lv_iconst (v := (nI 1)) hx hb dX1_init_11 (by decide) ?_
  refine j_put (q0 := 0) (k := 1) (ci := 1) (v := .int (nI 1)) hx hb hts (fun _ h => List.mem_cons_of_mem _ (List.mem_append_right _ (h))) tyX1 tyX1_ok nmX1 hown hin hJ rfl rfl (by decide) (List.mem_cons_of_mem _ (List.mem_append_left _ (List.mem_of_getElem? (i := 4) rfl))) rfl rfl rfl rfl (Nat.le_of_ble_eq_true rfl) [(h0, .inr (1, [.int (nI 30), .int (nI 1), .int (nI 0), .int (nI 0), .int (nI 0), .int (nI 0), .null]))] rfl dX1_init_12 (fun H locs hJ => ?_)
  refine lv_aload_n hx hb dX1_init_15 rfl (lv_at hl 0 rfl) ?_
  refine lv_iconst (v := (nI 1)) hx hb dX1_init_16 (by decide) ?_
  refine j_put (q0 := 0) (k := 2) (ci := 1) (v := .int (nI 1)) hx hb hts (fun _ h => List.mem_cons_of_mem _ (List.mem_append_right _ (h))) tyX1 tyX1_ok nmX1 hown hin hJ rfl rfl (by decide) (List.mem_cons_of_mem _ (List.mem_append_left _ (List.mem_of_getElem? (i := 5) rfl))) rfl rfl rfl rfl (Nat.le_of_ble_eq_true rfl) [(h0, .inr (1, [.int (nI 30), .int (nI 1), .int (nI 1), .int (nI 0), .int (nI 0), .int (nI 0), .null]))] rfl dX1_init_17 (fun H locs hJ => ?_)
  refine lv_aload_n hx hb dX1_init_20 rfl (lv_at hl 0 rfl) ?_
  refine lv_bipush (v := (nI 20)) hx hb dX1_init_21 (by decide) ?_
  refine j_put (q0 := 0) (k := 3) (ci := 1) (v := .int (nI 20)) hx hb hts (fun _ h => List.mem_cons_of_mem _ (List.mem_append_right _ (h))) tyX1 tyX1_ok nmX1 hown hin hJ rfl rfl (by decide) (List.mem_cons_of_mem _ (List.mem_append_left _ (List.mem_of_getElem? (i := 6) rfl))) rfl rfl rfl rfl (Nat.le_of_ble_eq_true rfl) [(h0, .inr (1, [.int (nI 30), .int (nI 1), .int (nI 1), .int (nI 20), .int (nI 0), .int (nI 0), .null]))] rfl dX1_init_23 (fun H locs hJ => ?_)
  refine lv_aload_n hx hb dX1_init_26 rfl (lv_at hl 0 rfl) ?_
  refine lv_bipush (v := (nI 60)) hx hb dX1_init_27 (by decide) ?_
  refine j_put (q0 := 0) (k := 4) (ci := 1) (v := .int (nI 60)) hx hb hts (fun _ h => List.mem_cons_of_mem _ (List.mem_append_right _ (h))) tyX1 tyX1_ok nmX1 hown hin hJ rfl rfl (by decide) (List.mem_cons_of_mem _ (List.mem_append_left _ (List.mem_of_getElem? (i := 7) rfl))) rfl rfl rfl rfl (Nat.le_of_ble_eq_true rfl) [(h0, .inr (1, [.int (nI 30), .int (nI 1), .int (nI 1), .int (nI 20), .int (nI 60), .int (nI 0), .null]))] rfl dX1_init_29 (fun H locs hJ => ?_)
  refine lv_aload_n hx hb dX1_init_32 rfl (lv_at hl 0 rfl) ?_
  refine lv_bipush (v := (nI 100)) hx hb dX1_init_33 (by decide) ?_
  refine j_put (q0 := 0) (k := 5) (ci := 1) (v := .int (nI 100)) hx hb hts (fun _ h => List.mem_cons_of_mem _ (List.mem_append_right _ (h))) tyX1 tyX1_ok nmX1 hown hin hJ rfl rfl (by decide) (List.mem_cons_of_mem _ (List.mem_append_left _ (List.mem_of_getElem? (i := 8) rfl))) rfl rfl rfl rfl (Nat.le_of_ble_eq_true rfl) [(h0, .inr (1, [.int (nI 30), .int (nI 1), .int (nI 1), .int (nI 20), .int (nI 60), .int (nI 100), .null]))] rfl dX1_init_35 (fun H locs hJ => ?_)
  refine lv_aload_n hx hb dX1_init_38 rfl (lv_at hl 0 rfl) ?_
  refine lv_sipush (v := (nI 784)) hx hb dX1_init_39 (by decide) ?_
  refine j_newI (k := 1) (n := 784) (N := 784) hx hb hts (List.mem_cons_of_mem _ (List.mem_append_left _ (List.mem_of_getElem? (i := 9) rfl))) hJ (cy := cyI) List.mem_cons_self (by decide) (by decide) (Nat.le_of_ble_eq_true rfl) (Nat.le_of_ble_eq_true rfl) (Nat.le_of_ble_eq_true rfl) (Nat.le_of_ble_eq_true rfl) (Nat.le_of_ble_eq_true rfl) dX1_init_42 (fun q42 H hJ => ?_)
  have hJ : Jw D (tyE cyI cyZ) NwJ [(h0, .inr (1, [.int (nI 30), .int (nI 1), .int (nI 1), .int (nI 20), .int (nI 60), .int (nI 100), .null])), (q42, .inl (cyI, 784, .inl (fun _ => nI 0)))] A s _ _ := hJ
  refine j_put (q0 := 0) (k := 6) (ci := 1) (v := .ref q42) hx hb hts (fun _ h => List.mem_cons_of_mem _ (List.mem_append_right _ (h))) tyX1 tyX1_ok nmX1 hown hin hJ rfl rfl (by decide) (List.mem_cons_of_mem _ (List.mem_append_left _ (List.mem_of_getElem? (i := 10) rfl))) rfl rfl rfl rfl (Nat.le_of_ble_eq_true rfl) [(h0, .inr (1, [.int (nI 30), .int (nI 1), .int (nI 1), .int (nI 20), .int (nI 60), .int (nI 100), .ref q42])), (q42, .inl (cyI, 784, .inl (fun _ => nI 0)))] rfl dX1_init_44 (fun H locs hJ => ?_)
  refine lv_aload_n hx hb dX1_init_47 rfl (lv_at hl 0 rfl) ?_
  refine j_get (q0 := 0) (k := 6) (ci := 1) (v := .ref q42) hx hb hts (fun _ h => List.mem_cons_of_mem _ (List.mem_append_right _ (h))) hown hJ rfl rfl (by decide) (List.mem_cons_of_mem _ (List.mem_append_left _ (List.mem_of_getElem? (i := 10) rfl))) rfl rfl dX1_init_48 ?_
  refine lv_bipush (v := (nI 26)) hx hb dX1_init_51 (by decide) ?_
  refine lv_bipush (v := (nI 26)) hx hb dX1_init_53 (by decide) ?_
  refine j_callS (As := [.int (nI 26), .int (nI 26)]) (rest := [.ref q42]) C (n_X1_pair l D (tyE cyI cyZ) (fun _ _ => nI 0)) (va_cwS 2 hts gX1_init_X1_pair rfl rfl rfl hdX1_pair ⟨(Nat.le_of_ble_eq_true rfl), (Nat.le_of_ble_eq_true rfl)⟩) hJ [0, 1] rfl rfl rfl hl.1 rfl (Nat.le_of_ble_eq_true rfl) dX1_init_55 ⟨(Nat.le_of_ble_eq_true rfl), (Nat.le_of_ble_eq_true rfl)⟩ (fun r σ1 H locs hr1 hJ => ?_)
  subst hr1
  refine lv_iconst (v := (nI 5)) hx hb dX1_init_58 (by decide) ?_
  refine j_iast (q0 := 1) (t0 := 0) (cA := cyI) (n := 784) (f := fun _ => nI 0) hx hb hJ rfl rfl ((vp_in_iffN (by decide)).mpr (by decide)) [(h0, .inr (1, [.int (nI 30), .int (nI 1), .int (nI 1), .int (nI 20), .int (nI 60), .int (nI 100), .ref q42])), (q42, .inl (cyI, 784, .inl (upd (fun _ => nI 0) (nI 754).toNatClampNeg (nI 5))))] rfl dX1_init_59 (fun H locs hJ => ?_)
  exact j_ret (u := uL [q42]) hx hb hr hlocks hJ dX1_init_60
set_option maxHeartbeats 4000000 in
set_option maxRecDepth 100000 in
theorem n_X2_init (l : Launch) (D : va_G) (cyI cyZ : ClassId) (h0 : Nat) : Cn l D (tyE cyI cyZ) NwJ yX2_init wsX2_init { frames := 1, cells := 0, slots := 0, locals := 12 } [.ref h0] [(h0, .inr (2, [.int (nI 0), .int (nI 0)]))] (fun u => [(h0, .inr (2, [.int (nI 10), .int (nI 3)]))]) 0 0 := by
  refine j_met (cc := cX2_init) (maxL := 1) (ret := none) (by decide) rfl rfl (Nat.le_of_ble_eq_true rfl) ?_
  intro p e s m below meth c A ls C hin hJ hl
  obtain ⟨hx, hb, hr, hml, hown, hts, hlocks⟩ := id C
  have hl : lv_has ls 1 [(0, .ref h0)] := hl
  refine lv_aload_n hx hb dX2_init_0 rfl (lv_at hl 0 rfl) ?_
  refine W.objInit hx hb hown (hts _ (List.mem_cons_of_mem _ (List.mem_append_left _ (List.mem_of_getElem? (i := 0) rfl)))) (hts _ (List.mem_cons_of_mem _ (List.mem_append_left _ (List.mem_of_getElem? (i := 1) rfl)))) (hts _ (List.mem_cons_of_mem _ (List.mem_append_left _ (List.mem_of_getElem? (i := 2) rfl)))) rfl (by rw [hml]; exact hl.1) rfl dX2_init_1 (Nat.le_of_ble_eq_true rfl) (Nat.le_of_ble_eq_true rfl) ?_
  refine W.eq (g2 := F0 m 4 ls []) rfl ?_
  refine lv_aload_n hx hb dX2_init_4 rfl (lv_at hl 0 rfl) ?_
  refine lv_bipush (v := (nI 10)) hx hb dX2_init_5 (by decide) ?_
  refine j_put (q0 := 0) (k := 0) (ci := 2) (v := .int (nI 10)) hx hb hts (fun _ h => List.mem_cons_of_mem _ (List.mem_append_right _ (h))) tyX2 tyX2_ok nmX2 hown hin hJ rfl rfl (by decide) (List.mem_cons_of_mem _ (List.mem_append_left _ (List.mem_of_getElem? (i := 3) rfl))) rfl rfl rfl rfl (Nat.le_of_ble_eq_true rfl) [(h0, .inr (2, [.int (nI 10), .int (nI 0)]))] rfl dX2_init_7 (fun H locs hJ => ?_)
  refine lv_aload_n hx hb dX2_init_10 rfl (lv_at hl 0 rfl) ?_
  refine lv_iconst (v := (nI 3)) hx hb dX2_init_11 (by decide) ?_
  refine j_put (q0 := 0) (k := 1) (ci := 2) (v := .int (nI 3)) hx hb hts (fun _ h => List.mem_cons_of_mem _ (List.mem_append_right _ (h))) tyX2 tyX2_ok nmX2 hown hin hJ rfl rfl (by decide) (List.mem_cons_of_mem _ (List.mem_append_left _ (List.mem_of_getElem? (i := 4) rfl))) rfl rfl rfl rfl (Nat.le_of_ble_eq_true rfl) [(h0, .inr (2, [.int (nI 10), .int (nI 3)]))] rfl dX2_init_12 (fun H locs hJ => ?_)
  exact j_ret (u := uL []) hx hb hr hlocks hJ dX2_init_15
set_option maxHeartbeats 4000000 in
set_option maxRecDepth 100000 in
theorem n_X9_init (l : Launch) (D : va_G) (cyI cyZ : ClassId) (h0 : Nat) : Cn l D (tyE cyI cyZ) NwJ yX9_init wsX9_init { frames := 1, cells := 3, slots := 1760, locals := 12 } [.ref h0] [(h0, .inr (9, [.null, .null, .null, .int (nI 0)]))] (fun u => [(h0, .inr (9, [.ref (u 0), .ref (u 1), .ref (u 2), .int (nI 0)])), ((u 0), .inl (cyI, 1600, .inl (fun _ => nI 0))), ((u 1), .inl (cyI, 80, .inl (fun _ => nI 0))), ((u 2), .inl (cyI, 80, .inl (fun _ => nI 0)))]) 3 1760 := by
  refine j_met (cc := cX9_init) (maxL := 1) (ret := none) (by decide) rfl rfl (Nat.le_of_ble_eq_true rfl) ?_
  intro p e s m below meth c A ls C hin hJ hl
  obtain ⟨hx, hb, hr, hml, hown, hts, hlocks⟩ := id C
  have hl : lv_has ls 1 [(0, .ref h0)] := hl
  refine lv_aload_n hx hb dX9_init_0 rfl (lv_at hl 0 rfl) ?_
  refine W.objInit hx hb hown (hts _ (List.mem_cons_of_mem _ (List.mem_append_left _ (List.mem_of_getElem? (i := 0) rfl)))) (hts _ (List.mem_cons_of_mem _ (List.mem_append_left _ (List.mem_of_getElem? (i := 1) rfl)))) (hts _ (List.mem_cons_of_mem _ (List.mem_append_left _ (List.mem_of_getElem? (i := 2) rfl)))) rfl (by rw [hml]; exact hl.1) rfl dX9_init_1 (Nat.le_of_ble_eq_true rfl) (Nat.le_of_ble_eq_true rfl) ?_
  refine W.eq (g2 := F0 m 4 ls []) rfl ?_
  refine lv_aload_n hx hb dX9_init_4 rfl (lv_at hl 0 rfl) ?_
  refine lv_sipush (v := (nI 1600)) hx hb dX9_init_5 (by decide) ?_
  refine j_newI (k := 1) (n := 1600) (N := 1600) hx hb hts (List.mem_cons_of_mem _ (List.mem_append_left _ (List.mem_of_getElem? (i := 3) rfl))) hJ (cy := cyI) List.mem_cons_self (by decide) (by decide) (Nat.le_of_ble_eq_true rfl) (Nat.le_of_ble_eq_true rfl) (Nat.le_of_ble_eq_true rfl) (Nat.le_of_ble_eq_true rfl) (Nat.le_of_ble_eq_true rfl) dX9_init_8 (fun q8 H hJ => ?_)
  have hJ : Jw D (tyE cyI cyZ) NwJ [(h0, .inr (9, [.null, .null, .null, .int (nI 0)])), (q8, .inl (cyI, 1600, .inl (fun _ => nI 0)))] A s _ _ := hJ
  refine j_put (q0 := 0) (k := 0) (ci := 9) (v := .ref q8) hx hb hts (fun _ h => List.mem_cons_of_mem _ (List.mem_append_right _ (h))) tyX9 tyX9_ok nmX9 hown hin hJ rfl rfl (by decide) (List.mem_cons_of_mem _ (List.mem_append_left _ (List.mem_of_getElem? (i := 4) rfl))) rfl rfl rfl rfl (Nat.le_of_ble_eq_true rfl) [(h0, .inr (9, [.ref q8, .null, .null, .int (nI 0)])), (q8, .inl (cyI, 1600, .inl (fun _ => nI 0)))] rfl dX9_init_10 (fun H locs hJ => ?_)
  refine lv_aload_n hx hb dX9_init_13 rfl (lv_at hl 0 rfl) ?_
  refine lv_bipush (v := (nI 80)) hx hb dX9_init_14 (by decide) ?_
  refine j_newI (k := 2) (n := 1680) (N := 80) hx hb hts (List.mem_cons_of_mem _ (List.mem_append_left _ (List.mem_of_getElem? (i := 3) rfl))) hJ (cy := cyI) List.mem_cons_self (by decide) (by decide) (Nat.le_of_ble_eq_true rfl) (Nat.le_of_ble_eq_true rfl) (Nat.le_of_ble_eq_true rfl) (Nat.le_of_ble_eq_true rfl) (Nat.le_of_ble_eq_true rfl) dX9_init_16 (fun q16 H hJ => ?_)
  have hJ : Jw D (tyE cyI cyZ) NwJ [(h0, .inr (9, [.ref q8, .null, .null, .int (nI 0)])), (q8, .inl (cyI, 1600, .inl (fun _ => nI 0))), (q16, .inl (cyI, 80, .inl (fun _ => nI 0)))] A s _ _ := hJ
  refine j_put (q0 := 0) (k := 1) (ci := 9) (v := .ref q16) hx hb hts (fun _ h => List.mem_cons_of_mem _ (List.mem_append_right _ (h))) tyX9 tyX9_ok nmX9 hown hin hJ rfl rfl (by decide) (List.mem_cons_of_mem _ (List.mem_append_left _ (List.mem_of_getElem? (i := 5) rfl))) rfl rfl rfl rfl (Nat.le_of_ble_eq_true rfl) [(h0, .inr (9, [.ref q8, .ref q16, .null, .int (nI 0)])), (q8, .inl (cyI, 1600, .inl (fun _ => nI 0))), (q16, .inl (cyI, 80, .inl (fun _ => nI 0)))] rfl dX9_init_18 (fun H locs hJ => ?_)
  refine lv_aload_n hx hb dX9_init_21 rfl (lv_at hl 0 rfl) ?_
  refine lv_bipush (v := (nI 80)) hx hb dX9_init_22 (by decide) ?_
  refine j_newI (k := 3) (n := 1760) (N := 80) hx hb hts (List.mem_cons_of_mem _ (List.mem_append_left _ (List.mem_of_getElem? (i := 3) rfl))) hJ (cy := cyI) List.mem_cons_self (by decide) (by decide) (Nat.le_of_ble_eq_true rfl) (Nat.le_of_ble_eq_true rfl) (Nat.le_of_ble_eq_true rfl) (Nat.le_of_ble_eq_true rfl) (Nat.le_of_ble_eq_true rfl) dX9_init_24 (fun q24 H hJ => ?_)
  have hJ : Jw D (tyE cyI cyZ) NwJ [(h0, .inr (9, [.ref q8, .ref q16, .null, .int (nI 0)])), (q8, .inl (cyI, 1600, .inl (fun _ => nI 0))), (q16, .inl (cyI, 80, .inl (fun _ => nI 0))), (q24, .inl (cyI, 80, .inl (fun _ => nI 0)))] A s _ _ := hJ
  refine j_put (q0 := 0) (k := 2) (ci := 9) (v := .ref q24) hx hb hts (fun _ h => List.mem_cons_of_mem _ (List.mem_append_right _ (h))) tyX9 tyX9_ok nmX9 hown hin hJ rfl rfl (by decide) (List.mem_cons_of_mem _ (List.mem_append_left _ (List.mem_of_getElem? (i := 6) rfl))) rfl rfl rfl rfl (Nat.le_of_ble_eq_true rfl) [(h0, .inr (9, [.ref q8, .ref q16, .ref q24, .int (nI 0)])), (q8, .inl (cyI, 1600, .inl (fun _ => nI 0))), (q16, .inl (cyI, 80, .inl (fun _ => nI 0))), (q24, .inl (cyI, 80, .inl (fun _ => nI 0)))] rfl dX9_init_26 (fun H locs hJ => ?_)
  exact j_ret (u := uL [q8, q16, q24]) hx hb hr hlocks hJ dX9_init_29
set_option maxHeartbeats 4000000 in
set_option maxRecDepth 100000 in
theorem n_X3_init (l : Launch) (D : va_G) (cyI cyZ : ClassId) (h0 : Nat) : Cn l D (tyE cyI cyZ) NwJ yX3_init wsX3_init { frames := 2, cells := 4, slots := 1764, locals := 32 } [.ref h0] [(h0, .inr (3, [.null, .int (nI 0), .int (nI 0)]))] (fun u => [(h0, .inr (3, [.ref (u 0), .int (nI 0), .int (-1)])), ((u 0), .inr (9, [.ref (u 1), .ref (u 2), .ref (u 3), .int (nI 0)])), ((u 1), .inl (cyI, 1600, .inl (fun _ => nI 0))), ((u 2), .inl (cyI, 80, .inl (fun _ => nI 0))), ((u 3), .inl (cyI, 80, .inl (fun _ => nI 0)))]) 4 1764 := by
  refine j_met (cc := cX3_init) (maxL := 1) (ret := none) (by decide) rfl rfl (Nat.le_of_ble_eq_true rfl) ?_
  intro p e s m below meth c A ls C hin hJ hl
  obtain ⟨hx, hb, hr, hml, hown, hts, hlocks⟩ := id C
  have hl : lv_has ls 1 [(0, .ref h0)] := hl
  refine lv_aload_n hx hb dX3_init_0 rfl (lv_at hl 0 rfl) ?_
  refine W.objInit hx hb hown (hts _ (List.mem_cons_of_mem _ (List.mem_append_left _ (List.mem_append_left _ (List.mem_of_getElem? (i := 0) rfl))))) (hts _ (List.mem_cons_of_mem _ (List.mem_append_left _ (List.mem_append_left _ (List.mem_of_getElem? (i := 1) rfl))))) (hts _ (List.mem_cons_of_mem _ (List.mem_append_left _ (List.mem_append_left _ (List.mem_of_getElem? (i := 2) rfl))))) rfl (by rw [hml]; exact hl.1) rfl dX3_init_1 (Nat.le_of_ble_eq_true rfl) (Nat.le_of_ble_eq_true rfl) ?_
  refine W.eq (g2 := F0 m 4 ls []) rfl ?_
  refine lv_aload_n hx hb dX3_init_4 rfl (lv_at hl 0 rfl) ?_
  refine j_new (k := 1) (n := 4) (ci := 9) (N := 4) hx hb hts (fun _ h => List.mem_cons_of_mem _ (List.mem_append_left _ (List.mem_append_right _ (h)))) tyX9 tyX9_ok hown (List.mem_cons_of_mem _ (List.mem_append_left _ (List.mem_append_left _ (List.mem_of_getElem? (i := 3) rfl)))) (List.mem_cons_of_mem _ (List.mem_append_left _ (List.mem_append_left _ (List.mem_of_getElem? (i := 4) rfl)))) (List.mem_cons_of_mem _ (List.mem_append_left _ (List.mem_append_left _ (List.mem_of_getElem? (i := 5) rfl)))) hJ rfl [.null, .null, .null, .int (nI 0)] (fun j hj => by rcases (show j = 0 ∨ j = 1 ∨ j = 2 ∨ j = 3 by omega) with rfl | rfl | rfl | rfl <;> rfl) (Nat.le_of_ble_eq_true rfl) (Nat.le_of_ble_eq_true rfl) (Nat.le_of_ble_eq_true rfl) (Nat.le_of_ble_eq_true rfl) dX3_init_5 (fun q5 H hJ => ?_)
  have hJ : Jw D (tyE cyI cyZ) NwJ [(h0, .inr (3, [.null, .int (nI 0), .int (nI 0)])), (q5, .inr (9, [.null, .null, .null, .int (nI 0)]))] A s _ _ := hJ
  refine lv_dup hx hb dX3_init_8 rfl ?_
  refine j_callN (k := 4) (nn := 1764) (As := []) (rest := [.ref q5, .ref h0]) (wr := [(h0, .inr (3, [.null, .int (nI 0), .int (nI 0)]))]) (host := RX10) (n := 0) C (n_X9_init l D cyI cyZ q5) gX3_init_X9_init_n11 rfl rfl rfl (List.mem_of_getElem? (i := 7) rfl) (List.mem_cons_of_mem _ (List.mem_append_left _ (List.mem_append_left _ (List.mem_of_getElem? (i := 5) rfl)))) (List.mem_cons_of_mem _ (List.mem_append_left _ (List.mem_append_left _ (List.mem_of_getElem? (i := 9) rfl)))) rfl hdX9_init ⟨(Nat.le_of_ble_eq_true rfl), (Nat.le_of_ble_eq_true rfl)⟩ hJ [1] [0] rfl rfl rfl rfl rfl (by decide) rfl hl.1 rfl (Nat.le_of_ble_eq_true rfl) dX3_init_9 (Nat.le_of_ble_eq_true rfl) (Nat.le_of_ble_eq_true rfl) (Nat.le_of_ble_eq_true rfl) (Nat.le_of_ble_eq_true rfl) (fun u9 H locs hJ => ?_)
  obtain ⟨q9_0, e_q9_0⟩ : ∃ x, x = u9 0 := ⟨_, rfl⟩
  obtain ⟨q9_1, e_q9_1⟩ : ∃ x, x = u9 1 := ⟨_, rfl⟩
  obtain ⟨q9_2, e_q9_2⟩ : ∃ x, x = u9 2 := ⟨_, rfl⟩
  have hJ : Jw D (tyE cyI cyZ) NwJ [(h0, .inr (3, [.null, .int (nI 0), .int (nI 0)])), (q5, .inr (9, [.ref q9_0, .ref q9_1, .ref q9_2, .int (nI 0)])), (q9_0, .inl (cyI, 1600, .inl (fun _ => nI 0))), (q9_1, .inl (cyI, 80, .inl (fun _ => nI 0))), (q9_2, .inl (cyI, 80, .inl (fun _ => nI 0)))] A s H locs := by subst e_q9_0 e_q9_1 e_q9_2; exact hJ
  refine j_put (q0 := 0) (k := 0) (ci := 3) (v := .ref q5) hx hb hts (fun _ h => List.mem_cons_of_mem _ (List.mem_append_right _ (h))) tyX3 tyX3_ok nmX3 hown hin hJ rfl rfl (by decide) (List.mem_cons_of_mem _ (List.mem_append_left _ (List.mem_append_left _ (List.mem_of_getElem? (i := 6) rfl)))) rfl rfl rfl rfl (Nat.le_of_ble_eq_true rfl) [(h0, .inr (3, [.ref q5, .int (nI 0), .int (nI 0)])), (q5, .inr (9, [.ref q9_0, .ref q9_1, .ref q9_2, .int (nI 0)])), (q9_0, .inl (cyI, 1600, .inl (fun _ => nI 0))), (q9_1, .inl (cyI, 80, .inl (fun _ => nI 0))), (q9_2, .inl (cyI, 80, .inl (fun _ => nI 0)))] rfl dX3_init_12 (fun H locs hJ => ?_)
  refine lv_aload_n hx hb dX3_init_15 rfl (lv_at hl 0 rfl) ?_
  refine lv_iconst (v := (nI 0)) hx hb dX3_init_16 (by decide) ?_
  refine j_put (q0 := 0) (k := 1) (ci := 3) (v := .int (nI 0)) hx hb hts (fun _ h => List.mem_cons_of_mem _ (List.mem_append_right _ (h))) tyX3 tyX3_ok nmX3 hown hin hJ rfl rfl (by decide) (List.mem_cons_of_mem _ (List.mem_append_left _ (List.mem_append_left _ (List.mem_of_getElem? (i := 7) rfl)))) rfl rfl rfl rfl (Nat.le_of_ble_eq_true rfl) [(h0, .inr (3, [.ref q5, .int (nI 0), .int (nI 0)])), (q5, .inr (9, [.ref q9_0, .ref q9_1, .ref q9_2, .int (nI 0)])), (q9_0, .inl (cyI, 1600, .inl (fun _ => nI 0))), (q9_1, .inl (cyI, 80, .inl (fun _ => nI 0))), (q9_2, .inl (cyI, 80, .inl (fun _ => nI 0)))] rfl dX3_init_17 (fun H locs hJ => ?_)
  refine lv_aload_n hx hb dX3_init_20 rfl (lv_at hl 0 rfl) ?_
  refine lv_iconst (v := (-1)) hx hb dX3_init_21 (by decide) ?_
  refine j_put (q0 := 0) (k := 2) (ci := 3) (v := .int (-1)) hx hb hts (fun _ h => List.mem_cons_of_mem _ (List.mem_append_right _ (h))) tyX3 tyX3_ok nmX3 hown hin hJ rfl rfl (by decide) (List.mem_cons_of_mem _ (List.mem_append_left _ (List.mem_append_left _ (List.mem_of_getElem? (i := 8) rfl)))) rfl rfl rfl rfl (Nat.le_of_ble_eq_true rfl) [(h0, .inr (3, [.ref q5, .int (nI 0), .int (-1)])), (q5, .inr (9, [.ref q9_0, .ref q9_1, .ref q9_2, .int (nI 0)])), (q9_0, .inl (cyI, 1600, .inl (fun _ => nI 0))), (q9_1, .inl (cyI, 80, .inl (fun _ => nI 0))), (q9_2, .inl (cyI, 80, .inl (fun _ => nI 0)))] rfl dX3_init_22 (fun H locs hJ => ?_)
  exact j_ret (u := uL [q5, q9_0, q9_1, q9_2]) hx hb hr hlocks hJ dX3_init_25
set_option maxHeartbeats 4000000 in
set_option maxRecDepth 100000 in
theorem n_X4_init (l : Launch) (D : va_G) (cyI cyZ : ClassId) (h0 s0 s1 : Nat) : Cn l D (tyE cyI cyZ) NwJ yX4_init wsX4_init { frames := 1, cells := 2, slots := 4880, locals := 12 } [.ref h0, .ref s0, .ref s1] [(h0, .inr (4, [.null, .null, .null, .null, .int (nI 0)]))] (fun u => [(h0, .inr (4, [.ref s0, .ref s1, .ref (u 0), .ref (u 1), .int (nI 0)])), ((u 0), .inl (cyI, 80, .inl (fun _ => nI 0))), ((u 1), .inl (cyI, 4800, .inl (fun _ => nI 0)))]) 2 4880 := by
  refine j_met (cc := cX4_init) (maxL := 3) (ret := none) (by decide) rfl rfl (Nat.le_of_ble_eq_true rfl) ?_
  intro p e s m below meth c A ls C hin hJ hl
  obtain ⟨hx, hb, hr, hml, hown, hts, hlocks⟩ := id C
  have hl : lv_has ls 3 [(0, .ref h0), (1, .ref s0), (2, .ref s1)] := hl
  refine lv_aload_n hx hb dX4_init_0 rfl (lv_at hl 0 rfl) ?_
  refine W.objInit hx hb hown (hts _ (List.mem_cons_of_mem _ (List.mem_append_left _ (List.mem_of_getElem? (i := 0) rfl)))) (hts _ (List.mem_cons_of_mem _ (List.mem_append_left _ (List.mem_of_getElem? (i := 1) rfl)))) (hts _ (List.mem_cons_of_mem _ (List.mem_append_left _ (List.mem_of_getElem? (i := 2) rfl)))) rfl (by rw [hml]; exact hl.1) rfl dX4_init_1 (Nat.le_of_ble_eq_true rfl) (Nat.le_of_ble_eq_true rfl) ?_
  refine W.eq (g2 := F0 m 4 ls []) rfl ?_
  refine lv_aload_n hx hb dX4_init_4 rfl (lv_at hl 0 rfl) ?_
  refine lv_bipush (v := (nI 80)) hx hb dX4_init_5 (by decide) ?_
  refine j_newI (k := 1) (n := 80) (N := 80) hx hb hts (List.mem_cons_of_mem _ (List.mem_append_left _ (List.mem_of_getElem? (i := 3) rfl))) hJ (cy := cyI) List.mem_cons_self (by decide) (by decide) (Nat.le_of_ble_eq_true rfl) (Nat.le_of_ble_eq_true rfl) (Nat.le_of_ble_eq_true rfl) (Nat.le_of_ble_eq_true rfl) (Nat.le_of_ble_eq_true rfl) dX4_init_7 (fun q7 H hJ => ?_)
  have hJ : Jw D (tyE cyI cyZ) NwJ [(h0, .inr (4, [.null, .null, .null, .null, .int (nI 0)])), (q7, .inl (cyI, 80, .inl (fun _ => nI 0)))] A s _ _ := hJ
  refine j_put (q0 := 0) (k := 2) (ci := 4) (v := .ref q7) hx hb hts (fun _ h => List.mem_cons_of_mem _ (List.mem_append_right _ (h))) tyX4 tyX4_ok nmX4 hown hin hJ rfl rfl (by decide) (List.mem_cons_of_mem _ (List.mem_append_left _ (List.mem_of_getElem? (i := 4) rfl))) rfl rfl rfl rfl (Nat.le_of_ble_eq_true rfl) [(h0, .inr (4, [.null, .null, .ref q7, .null, .int (nI 0)])), (q7, .inl (cyI, 80, .inl (fun _ => nI 0)))] rfl dX4_init_9 (fun H locs hJ => ?_)
  refine lv_aload_n hx hb dX4_init_12 rfl (lv_at hl 0 rfl) ?_
  refine lv_sipush (v := (nI 4800)) hx hb dX4_init_13 (by decide) ?_
  refine j_newI (k := 2) (n := 4880) (N := 4800) hx hb hts (List.mem_cons_of_mem _ (List.mem_append_left _ (List.mem_of_getElem? (i := 3) rfl))) hJ (cy := cyI) List.mem_cons_self (by decide) (by decide) (Nat.le_of_ble_eq_true rfl) (Nat.le_of_ble_eq_true rfl) (Nat.le_of_ble_eq_true rfl) (Nat.le_of_ble_eq_true rfl) (Nat.le_of_ble_eq_true rfl) dX4_init_16 (fun q16 H hJ => ?_)
  have hJ : Jw D (tyE cyI cyZ) NwJ [(h0, .inr (4, [.null, .null, .ref q7, .null, .int (nI 0)])), (q7, .inl (cyI, 80, .inl (fun _ => nI 0))), (q16, .inl (cyI, 4800, .inl (fun _ => nI 0)))] A s _ _ := hJ
  refine j_put (q0 := 0) (k := 3) (ci := 4) (v := .ref q16) hx hb hts (fun _ h => List.mem_cons_of_mem _ (List.mem_append_right _ (h))) tyX4 tyX4_ok nmX4 hown hin hJ rfl rfl (by decide) (List.mem_cons_of_mem _ (List.mem_append_left _ (List.mem_of_getElem? (i := 5) rfl))) rfl rfl rfl rfl (Nat.le_of_ble_eq_true rfl) [(h0, .inr (4, [.null, .null, .ref q7, .ref q16, .int (nI 0)])), (q7, .inl (cyI, 80, .inl (fun _ => nI 0))), (q16, .inl (cyI, 4800, .inl (fun _ => nI 0)))] rfl dX4_init_18 (fun H locs hJ => ?_)
  refine lv_aload_n hx hb dX4_init_21 rfl (lv_at hl 0 rfl) ?_
  refine lv_aload_n hx hb dX4_init_22 rfl (lv_at hl 1 rfl) ?_
  refine j_put (q0 := 0) (k := 0) (ci := 4) (v := .ref s0) hx hb hts (fun _ h => List.mem_cons_of_mem _ (List.mem_append_right _ (h))) tyX4 tyX4_ok nmX4 hown hin hJ rfl rfl (by decide) (List.mem_cons_of_mem _ (List.mem_append_left _ (List.mem_of_getElem? (i := 6) rfl))) rfl rfl rfl rfl (Nat.le_of_ble_eq_true rfl) [(h0, .inr (4, [.ref s0, .null, .ref q7, .ref q16, .int (nI 0)])), (q7, .inl (cyI, 80, .inl (fun _ => nI 0))), (q16, .inl (cyI, 4800, .inl (fun _ => nI 0)))] rfl dX4_init_23 (fun H locs hJ => ?_)
  refine lv_aload_n hx hb dX4_init_26 rfl (lv_at hl 0 rfl) ?_
  refine lv_aload_n hx hb dX4_init_27 rfl (lv_at hl 2 rfl) ?_
  refine j_put (q0 := 0) (k := 1) (ci := 4) (v := .ref s1) hx hb hts (fun _ h => List.mem_cons_of_mem _ (List.mem_append_right _ (h))) tyX4 tyX4_ok nmX4 hown hin hJ rfl rfl (by decide) (List.mem_cons_of_mem _ (List.mem_append_left _ (List.mem_of_getElem? (i := 7) rfl))) rfl rfl rfl rfl (Nat.le_of_ble_eq_true rfl) [(h0, .inr (4, [.ref s0, .ref s1, .ref q7, .ref q16, .int (nI 0)])), (q7, .inl (cyI, 80, .inl (fun _ => nI 0))), (q16, .inl (cyI, 4800, .inl (fun _ => nI 0)))] rfl dX4_init_28 (fun H locs hJ => ?_)
  exact j_ret (u := uL [q7, q16]) hx hb hr hlocks hJ dX4_init_31
set_option maxHeartbeats 4000000 in
set_option maxRecDepth 100000 in
theorem n_X6_init (l : Launch) (D : va_G) (cyI cyZ : ClassId) (h0 : Nat) : Cn l D (tyE cyI cyZ) NwJ yX6_init wsX6_init { frames := 1, cells := 5, slots := 4080, locals := 12 } [.ref h0] [(h0, .inr (6, [.null, .null, .null, .null, .null, .int (nI 0), .int (nI 0)]))] (fun u => [(h0, .inr (6, [.ref (u 0), .ref (u 1), .ref (u 2), .ref (u 3), .ref (u 4), .int (nI 0), .int (nI 0)])), ((u 0), .inl (cyI, 1920, .inl (fun _ => nI 0))), ((u 1), .inl (cyI, 1920, .inl (fun _ => nI 0))), ((u 2), .inl (cyI, 80, .inl (fun _ => nI 0))), ((u 3), .inl (cyI, 80, .inl (fun _ => nI 0))), ((u 4), .inl (cyI, 80, .inl (fun _ => nI 0)))]) 5 4080 := by
  refine j_met (cc := cX6_init) (maxL := 1) (ret := none) (by decide) rfl rfl (Nat.le_of_ble_eq_true rfl) ?_
  intro p e s m below meth c A ls C hin hJ hl
  obtain ⟨hx, hb, hr, hml, hown, hts, hlocks⟩ := id C
  have hl : lv_has ls 1 [(0, .ref h0)] := hl
  refine lv_aload_n hx hb dX6_init_0 rfl (lv_at hl 0 rfl) ?_
  refine W.objInit hx hb hown (hts _ (List.mem_cons_of_mem _ (List.mem_append_left _ (List.mem_of_getElem? (i := 0) rfl)))) (hts _ (List.mem_cons_of_mem _ (List.mem_append_left _ (List.mem_of_getElem? (i := 1) rfl)))) (hts _ (List.mem_cons_of_mem _ (List.mem_append_left _ (List.mem_of_getElem? (i := 2) rfl)))) rfl (by rw [hml]; exact hl.1) rfl dX6_init_1 (Nat.le_of_ble_eq_true rfl) (Nat.le_of_ble_eq_true rfl) ?_
  refine W.eq (g2 := F0 m 4 ls []) rfl ?_
  refine lv_aload_n hx hb dX6_init_4 rfl (lv_at hl 0 rfl) ?_
  refine lv_sipush (v := (nI 1920)) hx hb dX6_init_5 (by decide) ?_
  refine j_newI (k := 1) (n := 1920) (N := 1920) hx hb hts (List.mem_cons_of_mem _ (List.mem_append_left _ (List.mem_of_getElem? (i := 3) rfl))) hJ (cy := cyI) List.mem_cons_self (by decide) (by decide) (Nat.le_of_ble_eq_true rfl) (Nat.le_of_ble_eq_true rfl) (Nat.le_of_ble_eq_true rfl) (Nat.le_of_ble_eq_true rfl) (Nat.le_of_ble_eq_true rfl) dX6_init_8 (fun q8 H hJ => ?_)
  have hJ : Jw D (tyE cyI cyZ) NwJ [(h0, .inr (6, [.null, .null, .null, .null, .null, .int (nI 0), .int (nI 0)])), (q8, .inl (cyI, 1920, .inl (fun _ => nI 0)))] A s _ _ := hJ
  refine j_put (q0 := 0) (k := 0) (ci := 6) (v := .ref q8) hx hb hts (fun _ h => List.mem_cons_of_mem _ (List.mem_append_right _ (h))) tyX6 tyX6_ok nmX6 hown hin hJ rfl rfl (by decide) (List.mem_cons_of_mem _ (List.mem_append_left _ (List.mem_of_getElem? (i := 4) rfl))) rfl rfl rfl rfl (Nat.le_of_ble_eq_true rfl) [(h0, .inr (6, [.ref q8, .null, .null, .null, .null, .int (nI 0), .int (nI 0)])), (q8, .inl (cyI, 1920, .inl (fun _ => nI 0)))] rfl dX6_init_10 (fun H locs hJ => ?_)
  refine lv_aload_n hx hb dX6_init_13 rfl (lv_at hl 0 rfl) ?_
  refine lv_sipush (v := (nI 1920)) hx hb dX6_init_14 (by decide) ?_
  refine j_newI (k := 2) (n := 3840) (N := 1920) hx hb hts (List.mem_cons_of_mem _ (List.mem_append_left _ (List.mem_of_getElem? (i := 3) rfl))) hJ (cy := cyI) List.mem_cons_self (by decide) (by decide) (Nat.le_of_ble_eq_true rfl) (Nat.le_of_ble_eq_true rfl) (Nat.le_of_ble_eq_true rfl) (Nat.le_of_ble_eq_true rfl) (Nat.le_of_ble_eq_true rfl) dX6_init_17 (fun q17 H hJ => ?_)
  have hJ : Jw D (tyE cyI cyZ) NwJ [(h0, .inr (6, [.ref q8, .null, .null, .null, .null, .int (nI 0), .int (nI 0)])), (q8, .inl (cyI, 1920, .inl (fun _ => nI 0))), (q17, .inl (cyI, 1920, .inl (fun _ => nI 0)))] A s _ _ := hJ
  refine j_put (q0 := 0) (k := 1) (ci := 6) (v := .ref q17) hx hb hts (fun _ h => List.mem_cons_of_mem _ (List.mem_append_right _ (h))) tyX6 tyX6_ok nmX6 hown hin hJ rfl rfl (by decide) (List.mem_cons_of_mem _ (List.mem_append_left _ (List.mem_of_getElem? (i := 5) rfl))) rfl rfl rfl rfl (Nat.le_of_ble_eq_true rfl) [(h0, .inr (6, [.ref q8, .ref q17, .null, .null, .null, .int (nI 0), .int (nI 0)])), (q8, .inl (cyI, 1920, .inl (fun _ => nI 0))), (q17, .inl (cyI, 1920, .inl (fun _ => nI 0)))] rfl dX6_init_19 (fun H locs hJ => ?_)
  refine lv_aload_n hx hb dX6_init_22 rfl (lv_at hl 0 rfl) ?_
  refine lv_bipush (v := (nI 80)) hx hb dX6_init_23 (by decide) ?_
  refine j_newI (k := 3) (n := 3920) (N := 80) hx hb hts (List.mem_cons_of_mem _ (List.mem_append_left _ (List.mem_of_getElem? (i := 3) rfl))) hJ (cy := cyI) List.mem_cons_self (by decide) (by decide) (Nat.le_of_ble_eq_true rfl) (Nat.le_of_ble_eq_true rfl) (Nat.le_of_ble_eq_true rfl) (Nat.le_of_ble_eq_true rfl) (Nat.le_of_ble_eq_true rfl) dX6_init_25 (fun q25 H hJ => ?_)
  have hJ : Jw D (tyE cyI cyZ) NwJ [(h0, .inr (6, [.ref q8, .ref q17, .null, .null, .null, .int (nI 0), .int (nI 0)])), (q8, .inl (cyI, 1920, .inl (fun _ => nI 0))), (q17, .inl (cyI, 1920, .inl (fun _ => nI 0))), (q25, .inl (cyI, 80, .inl (fun _ => nI 0)))] A s _ _ := hJ
  refine j_put (q0 := 0) (k := 2) (ci := 6) (v := .ref q25) hx hb hts (fun _ h => List.mem_cons_of_mem _ (List.mem_append_right _ (h))) tyX6 tyX6_ok nmX6 hown hin hJ rfl rfl (by decide) (List.mem_cons_of_mem _ (List.mem_append_left _ (List.mem_of_getElem? (i := 6) rfl))) rfl rfl rfl rfl (Nat.le_of_ble_eq_true rfl) [(h0, .inr (6, [.ref q8, .ref q17, .ref q25, .null, .null, .int (nI 0), .int (nI 0)])), (q8, .inl (cyI, 1920, .inl (fun _ => nI 0))), (q17, .inl (cyI, 1920, .inl (fun _ => nI 0))), (q25, .inl (cyI, 80, .inl (fun _ => nI 0)))] rfl dX6_init_27 (fun H locs hJ => ?_)
  refine lv_aload_n hx hb dX6_init_30 rfl (lv_at hl 0 rfl) ?_
  refine lv_bipush (v := (nI 80)) hx hb dX6_init_31 (by decide) ?_
  refine j_newI (k := 4) (n := 4000) (N := 80) hx hb hts (List.mem_cons_of_mem _ (List.mem_append_left _ (List.mem_of_getElem? (i := 3) rfl))) hJ (cy := cyI) List.mem_cons_self (by decide) (by decide) (Nat.le_of_ble_eq_true rfl) (Nat.le_of_ble_eq_true rfl) (Nat.le_of_ble_eq_true rfl) (Nat.le_of_ble_eq_true rfl) (Nat.le_of_ble_eq_true rfl) dX6_init_33 (fun q33 H hJ => ?_)
  have hJ : Jw D (tyE cyI cyZ) NwJ [(h0, .inr (6, [.ref q8, .ref q17, .ref q25, .null, .null, .int (nI 0), .int (nI 0)])), (q8, .inl (cyI, 1920, .inl (fun _ => nI 0))), (q17, .inl (cyI, 1920, .inl (fun _ => nI 0))), (q25, .inl (cyI, 80, .inl (fun _ => nI 0))), (q33, .inl (cyI, 80, .inl (fun _ => nI 0)))] A s _ _ := hJ
  refine j_put (q0 := 0) (k := 3) (ci := 6) (v := .ref q33) hx hb hts (fun _ h => List.mem_cons_of_mem _ (List.mem_append_right _ (h))) tyX6 tyX6_ok nmX6 hown hin hJ rfl rfl (by decide) (List.mem_cons_of_mem _ (List.mem_append_left _ (List.mem_of_getElem? (i := 7) rfl))) rfl rfl rfl rfl (Nat.le_of_ble_eq_true rfl) [(h0, .inr (6, [.ref q8, .ref q17, .ref q25, .ref q33, .null, .int (nI 0), .int (nI 0)])), (q8, .inl (cyI, 1920, .inl (fun _ => nI 0))), (q17, .inl (cyI, 1920, .inl (fun _ => nI 0))), (q25, .inl (cyI, 80, .inl (fun _ => nI 0))), (q33, .inl (cyI, 80, .inl (fun _ => nI 0)))] rfl dX6_init_35 (fun H locs hJ => ?_)
  refine lv_aload_n hx hb dX6_init_38 rfl (lv_at hl 0 rfl) ?_
  refine lv_bipush (v := (nI 80)) hx hb dX6_init_39 (by decide) ?_
  refine j_newI (k := 5) (n := 4080) (N := 80) hx hb hts (List.mem_cons_of_mem _ (List.mem_append_left _ (List.mem_of_getElem? (i := 3) rfl))) hJ (cy := cyI) List.mem_cons_self (by decide) (by decide) (Nat.le_of_ble_eq_true rfl) (Nat.le_of_ble_eq_true rfl) (Nat.le_of_ble_eq_true rfl) (Nat.le_of_ble_eq_true rfl) (Nat.le_of_ble_eq_true rfl) dX6_init_41 (fun q41 H hJ => ?_)
  have hJ : Jw D (tyE cyI cyZ) NwJ [(h0, .inr (6, [.ref q8, .ref q17, .ref q25, .ref q33, .null, .int (nI 0), .int (nI 0)])), (q8, .inl (cyI, 1920, .inl (fun _ => nI 0))), (q17, .inl (cyI, 1920, .inl (fun _ => nI 0))), (q25, .inl (cyI, 80, .inl (fun _ => nI 0))), (q33, .inl (cyI, 80, .inl (fun _ => nI 0))), (q41, .inl (cyI, 80, .inl (fun _ => nI 0)))] A s _ _ := hJ
  refine j_put (q0 := 0) (k := 4) (ci := 6) (v := .ref q41) hx hb hts (fun _ h => List.mem_cons_of_mem _ (List.mem_append_right _ (h))) tyX6 tyX6_ok nmX6 hown hin hJ rfl rfl (by decide) (List.mem_cons_of_mem _ (List.mem_append_left _ (List.mem_of_getElem? (i := 8) rfl))) rfl rfl rfl rfl (Nat.le_of_ble_eq_true rfl) [(h0, .inr (6, [.ref q8, .ref q17, .ref q25, .ref q33, .ref q41, .int (nI 0), .int (nI 0)])), (q8, .inl (cyI, 1920, .inl (fun _ => nI 0))), (q17, .inl (cyI, 1920, .inl (fun _ => nI 0))), (q25, .inl (cyI, 80, .inl (fun _ => nI 0))), (q33, .inl (cyI, 80, .inl (fun _ => nI 0))), (q41, .inl (cyI, 80, .inl (fun _ => nI 0)))] rfl dX6_init_43 (fun H locs hJ => ?_)
  exact j_ret (u := uL [q8, q17, q25, q33, q41]) hx hb hr hlocks hJ dX6_init_46
set_option maxHeartbeats 4000000 in
set_option maxRecDepth 100000 in
theorem n_X5_init (l : Launch) (D : va_G) (cyI cyZ : ClassId) (h0 : Nat) : Cn l D (tyE cyI cyZ) NwJ yX5_init wsX5_init { frames := 2, cells := 8, slots := 4247, locals := 32 } [.ref h0] [(h0, .inr (5, [.null, .null, .null, .int (nI 0), .int (nI 0), .int (nI 0)]))] (fun u => [(h0, .inr (5, [.ref (u 0), .ref (u 6), .ref (u 7), .int (nI 0), .int (nI 0), .int (nI 0)])), ((u 0), .inr (6, [.ref (u 1), .ref (u 2), .ref (u 3), .ref (u 4), .ref (u 5), .int (nI 0), .int (nI 0)])), ((u 1), .inl (cyI, 1920, .inl (fun _ => nI 0))), ((u 2), .inl (cyI, 1920, .inl (fun _ => nI 0))), ((u 3), .inl (cyI, 80, .inl (fun _ => nI 0))), ((u 4), .inl (cyI, 80, .inl (fun _ => nI 0))), ((u 5), .inl (cyI, 80, .inl (fun _ => nI 0))), ((u 6), .inl (cyI, 80, .inl (fun _ => nI 0))), ((u 7), .inl (cyI, 80, .inl (fun _ => nI 0)))]) 8 4247 := by
  refine j_met (cc := cX5_init) (maxL := 1) (ret := none) (by decide) rfl rfl (Nat.le_of_ble_eq_true rfl) ?_
  intro p e s m below meth c A ls C hin hJ hl
  obtain ⟨hx, hb, hr, hml, hown, hts, hlocks⟩ := id C
  have hl : lv_has ls 1 [(0, .ref h0)] := hl
  refine lv_aload_n hx hb dX5_init_0 rfl (lv_at hl 0 rfl) ?_
  refine W.objInit hx hb hown (hts _ (List.mem_cons_of_mem _ (List.mem_append_left _ (List.mem_append_left _ (List.mem_of_getElem? (i := 0) rfl))))) (hts _ (List.mem_cons_of_mem _ (List.mem_append_left _ (List.mem_append_left _ (List.mem_of_getElem? (i := 1) rfl))))) (hts _ (List.mem_cons_of_mem _ (List.mem_append_left _ (List.mem_append_left _ (List.mem_of_getElem? (i := 2) rfl))))) rfl (by rw [hml]; exact hl.1) rfl dX5_init_1 (Nat.le_of_ble_eq_true rfl) (Nat.le_of_ble_eq_true rfl) ?_
  refine W.eq (g2 := F0 m 4 ls []) rfl ?_
  refine lv_aload_n hx hb dX5_init_4 rfl (lv_at hl 0 rfl) ?_
  refine j_new (k := 1) (n := 7) (ci := 6) (N := 7) hx hb hts (fun _ h => List.mem_cons_of_mem _ (List.mem_append_left _ (List.mem_append_right _ (h)))) tyX6 tyX6_ok hown (List.mem_cons_of_mem _ (List.mem_append_left _ (List.mem_append_left _ (List.mem_of_getElem? (i := 3) rfl)))) (List.mem_cons_of_mem _ (List.mem_append_left _ (List.mem_append_left _ (List.mem_of_getElem? (i := 4) rfl)))) (List.mem_cons_of_mem _ (List.mem_append_left _ (List.mem_append_left _ (List.mem_of_getElem? (i := 5) rfl)))) hJ rfl [.null, .null, .null, .null, .null, .int (nI 0), .int (nI 0)] (fun j hj => by rcases (show j = 0 ∨ j = 1 ∨ j = 2 ∨ j = 3 ∨ j = 4 ∨ j = 5 ∨ j = 6 by omega) with rfl | rfl | rfl | rfl | rfl | rfl | rfl <;> rfl) (Nat.le_of_ble_eq_true rfl) (Nat.le_of_ble_eq_true rfl) (Nat.le_of_ble_eq_true rfl) (Nat.le_of_ble_eq_true rfl) dX5_init_5 (fun q5 H hJ => ?_)
  have hJ : Jw D (tyE cyI cyZ) NwJ [(h0, .inr (5, [.null, .null, .null, .int (nI 0), .int (nI 0), .int (nI 0)])), (q5, .inr (6, [.null, .null, .null, .null, .null, .int (nI 0), .int (nI 0)]))] A s _ _ := hJ
  refine lv_dup hx hb dX5_init_8 rfl ?_
  refine j_callN (k := 6) (nn := 4087) (As := []) (rest := [.ref q5, .ref h0]) (wr := [(h0, .inr (5, [.null, .null, .null, .int (nI 0), .int (nI 0), .int (nI 0)]))]) (host := RX10) (n := 0) C (n_X6_init l D cyI cyZ q5) gX5_init_X6_init_n11 rfl rfl rfl (List.mem_of_getElem? (i := 8) rfl) (List.mem_cons_of_mem _ (List.mem_append_left _ (List.mem_append_left _ (List.mem_of_getElem? (i := 5) rfl)))) (List.mem_cons_of_mem _ (List.mem_append_left _ (List.mem_append_left _ (List.mem_of_getElem? (i := 10) rfl)))) rfl hdX6_init ⟨(Nat.le_of_ble_eq_true rfl), (Nat.le_of_ble_eq_true rfl)⟩ hJ [1] [0] rfl rfl rfl rfl rfl (by decide) rfl hl.1 rfl (Nat.le_of_ble_eq_true rfl) dX5_init_9 (Nat.le_of_ble_eq_true rfl) (Nat.le_of_ble_eq_true rfl) (Nat.le_of_ble_eq_true rfl) (Nat.le_of_ble_eq_true rfl) (fun u9 H locs hJ => ?_)
  obtain ⟨q9_0, e_q9_0⟩ : ∃ x, x = u9 0 := ⟨_, rfl⟩
  obtain ⟨q9_1, e_q9_1⟩ : ∃ x, x = u9 1 := ⟨_, rfl⟩
  obtain ⟨q9_2, e_q9_2⟩ : ∃ x, x = u9 2 := ⟨_, rfl⟩
  obtain ⟨q9_3, e_q9_3⟩ : ∃ x, x = u9 3 := ⟨_, rfl⟩
  obtain ⟨q9_4, e_q9_4⟩ : ∃ x, x = u9 4 := ⟨_, rfl⟩
  have hJ : Jw D (tyE cyI cyZ) NwJ [(h0, .inr (5, [.null, .null, .null, .int (nI 0), .int (nI 0), .int (nI 0)])), (q5, .inr (6, [.ref q9_0, .ref q9_1, .ref q9_2, .ref q9_3, .ref q9_4, .int (nI 0), .int (nI 0)])), (q9_0, .inl (cyI, 1920, .inl (fun _ => nI 0))), (q9_1, .inl (cyI, 1920, .inl (fun _ => nI 0))), (q9_2, .inl (cyI, 80, .inl (fun _ => nI 0))), (q9_3, .inl (cyI, 80, .inl (fun _ => nI 0))), (q9_4, .inl (cyI, 80, .inl (fun _ => nI 0)))] A s H locs := by subst e_q9_0 e_q9_1 e_q9_2 e_q9_3 e_q9_4; exact hJ
  refine j_put (q0 := 0) (k := 0) (ci := 5) (v := .ref q5) hx hb hts (fun _ h => List.mem_cons_of_mem _ (List.mem_append_right _ (h))) tyX5 tyX5_ok nmX5 hown hin hJ rfl rfl (by decide) (List.mem_cons_of_mem _ (List.mem_append_left _ (List.mem_append_left _ (List.mem_of_getElem? (i := 6) rfl)))) rfl rfl rfl rfl (Nat.le_of_ble_eq_true rfl) [(h0, .inr (5, [.ref q5, .null, .null, .int (nI 0), .int (nI 0), .int (nI 0)])), (q5, .inr (6, [.ref q9_0, .ref q9_1, .ref q9_2, .ref q9_3, .ref q9_4, .int (nI 0), .int (nI 0)])), (q9_0, .inl (cyI, 1920, .inl (fun _ => nI 0))), (q9_1, .inl (cyI, 1920, .inl (fun _ => nI 0))), (q9_2, .inl (cyI, 80, .inl (fun _ => nI 0))), (q9_3, .inl (cyI, 80, .inl (fun _ => nI 0))), (q9_4, .inl (cyI, 80, .inl (fun _ => nI 0)))] rfl dX5_init_12 (fun H locs hJ => ?_)
  refine lv_aload_n hx hb dX5_init_15 rfl (lv_at hl 0 rfl) ?_
  refine lv_bipush (v := (nI 80)) hx hb dX5_init_16 (by decide) ?_
  refine j_newI (k := 7) (n := 4167) (N := 80) hx hb hts (List.mem_cons_of_mem _ (List.mem_append_left _ (List.mem_append_left _ (List.mem_of_getElem? (i := 7) rfl)))) hJ (cy := cyI) List.mem_cons_self (by decide) (by decide) (Nat.le_of_ble_eq_true rfl) (Nat.le_of_ble_eq_true rfl) (Nat.le_of_ble_eq_true rfl) (Nat.le_of_ble_eq_true rfl) (Nat.le_of_ble_eq_true rfl) dX5_init_18 (fun q18 H hJ => ?_)
  have hJ : Jw D (tyE cyI cyZ) NwJ [(h0, .inr (5, [.ref q5, .null, .null, .int (nI 0), .int (nI 0), .int (nI 0)])), (q5, .inr (6, [.ref q9_0, .ref q9_1, .ref q9_2, .ref q9_3, .ref q9_4, .int (nI 0), .int (nI 0)])), (q9_0, .inl (cyI, 1920, .inl (fun _ => nI 0))), (q9_1, .inl (cyI, 1920, .inl (fun _ => nI 0))), (q9_2, .inl (cyI, 80, .inl (fun _ => nI 0))), (q9_3, .inl (cyI, 80, .inl (fun _ => nI 0))), (q9_4, .inl (cyI, 80, .inl (fun _ => nI 0))), (q18, .inl (cyI, 80, .inl (fun _ => nI 0)))] A s _ _ := hJ
  refine j_put (q0 := 0) (k := 1) (ci := 5) (v := .ref q18) hx hb hts (fun _ h => List.mem_cons_of_mem _ (List.mem_append_right _ (h))) tyX5 tyX5_ok nmX5 hown hin hJ rfl rfl (by decide) (List.mem_cons_of_mem _ (List.mem_append_left _ (List.mem_append_left _ (List.mem_of_getElem? (i := 8) rfl)))) rfl rfl rfl rfl (Nat.le_of_ble_eq_true rfl) [(h0, .inr (5, [.ref q5, .ref q18, .null, .int (nI 0), .int (nI 0), .int (nI 0)])), (q5, .inr (6, [.ref q9_0, .ref q9_1, .ref q9_2, .ref q9_3, .ref q9_4, .int (nI 0), .int (nI 0)])), (q9_0, .inl (cyI, 1920, .inl (fun _ => nI 0))), (q9_1, .inl (cyI, 1920, .inl (fun _ => nI 0))), (q9_2, .inl (cyI, 80, .inl (fun _ => nI 0))), (q9_3, .inl (cyI, 80, .inl (fun _ => nI 0))), (q9_4, .inl (cyI, 80, .inl (fun _ => nI 0))), (q18, .inl (cyI, 80, .inl (fun _ => nI 0)))] rfl dX5_init_20 (fun H locs hJ => ?_)
  refine lv_aload_n hx hb dX5_init_23 rfl (lv_at hl 0 rfl) ?_
  refine lv_bipush (v := (nI 80)) hx hb dX5_init_24 (by decide) ?_
  refine j_newI (k := 8) (n := 4247) (N := 80) hx hb hts (List.mem_cons_of_mem _ (List.mem_append_left _ (List.mem_append_left _ (List.mem_of_getElem? (i := 7) rfl)))) hJ (cy := cyI) List.mem_cons_self (by decide) (by decide) (Nat.le_of_ble_eq_true rfl) (Nat.le_of_ble_eq_true rfl) (Nat.le_of_ble_eq_true rfl) (Nat.le_of_ble_eq_true rfl) (Nat.le_of_ble_eq_true rfl) dX5_init_26 (fun q26 H hJ => ?_)
  have hJ : Jw D (tyE cyI cyZ) NwJ [(h0, .inr (5, [.ref q5, .ref q18, .null, .int (nI 0), .int (nI 0), .int (nI 0)])), (q5, .inr (6, [.ref q9_0, .ref q9_1, .ref q9_2, .ref q9_3, .ref q9_4, .int (nI 0), .int (nI 0)])), (q9_0, .inl (cyI, 1920, .inl (fun _ => nI 0))), (q9_1, .inl (cyI, 1920, .inl (fun _ => nI 0))), (q9_2, .inl (cyI, 80, .inl (fun _ => nI 0))), (q9_3, .inl (cyI, 80, .inl (fun _ => nI 0))), (q9_4, .inl (cyI, 80, .inl (fun _ => nI 0))), (q18, .inl (cyI, 80, .inl (fun _ => nI 0))), (q26, .inl (cyI, 80, .inl (fun _ => nI 0)))] A s _ _ := hJ
  refine j_put (q0 := 0) (k := 2) (ci := 5) (v := .ref q26) hx hb hts (fun _ h => List.mem_cons_of_mem _ (List.mem_append_right _ (h))) tyX5 tyX5_ok nmX5 hown hin hJ rfl rfl (by decide) (List.mem_cons_of_mem _ (List.mem_append_left _ (List.mem_append_left _ (List.mem_of_getElem? (i := 9) rfl)))) rfl rfl rfl rfl (Nat.le_of_ble_eq_true rfl) [(h0, .inr (5, [.ref q5, .ref q18, .ref q26, .int (nI 0), .int (nI 0), .int (nI 0)])), (q5, .inr (6, [.ref q9_0, .ref q9_1, .ref q9_2, .ref q9_3, .ref q9_4, .int (nI 0), .int (nI 0)])), (q9_0, .inl (cyI, 1920, .inl (fun _ => nI 0))), (q9_1, .inl (cyI, 1920, .inl (fun _ => nI 0))), (q9_2, .inl (cyI, 80, .inl (fun _ => nI 0))), (q9_3, .inl (cyI, 80, .inl (fun _ => nI 0))), (q9_4, .inl (cyI, 80, .inl (fun _ => nI 0))), (q18, .inl (cyI, 80, .inl (fun _ => nI 0))), (q26, .inl (cyI, 80, .inl (fun _ => nI 0)))] rfl dX5_init_28 (fun H locs hJ => ?_)
  exact j_ret (u := uL [q5, q9_0, q9_1, q9_2, q9_3, q9_4, q18, q26]) hx hb hr hlocks hJ dX5_init_31
set_option maxHeartbeats 4000000 in
set_option maxRecDepth 100000 in
theorem n_X7_init (l : Launch) (D : va_G) (cyI cyZ : ClassId) (h0 : Nat) : Cn l D (tyE cyI cyZ) NwJ yX7_init wsX7_init { frames := 1, cells := 1, slots := 600, locals := 12 } [.ref h0] [(h0, .inr (7, [.null, .int (nI 0)]))] (fun u => [(h0, .inr (7, [.ref (u 0), .int (nI 0)])), ((u 0), .inl (cyI, 600, .inl (fun _ => nI 0)))]) 1 600 := by
  refine j_met (cc := cX7_init) (maxL := 1) (ret := none) (by decide) rfl rfl (Nat.le_of_ble_eq_true rfl) ?_
  intro p e s m below meth c A ls C hin hJ hl
  obtain ⟨hx, hb, hr, hml, hown, hts, hlocks⟩ := id C
  have hl : lv_has ls 1 [(0, .ref h0)] := hl
  refine lv_aload_n hx hb dX7_init_0 rfl (lv_at hl 0 rfl) ?_
  refine W.objInit hx hb hown (hts _ (List.mem_cons_of_mem _ (List.mem_append_left _ (List.mem_of_getElem? (i := 0) rfl)))) (hts _ (List.mem_cons_of_mem _ (List.mem_append_left _ (List.mem_of_getElem? (i := 1) rfl)))) (hts _ (List.mem_cons_of_mem _ (List.mem_append_left _ (List.mem_of_getElem? (i := 2) rfl)))) rfl (by rw [hml]; exact hl.1) rfl dX7_init_1 (Nat.le_of_ble_eq_true rfl) (Nat.le_of_ble_eq_true rfl) ?_
  refine W.eq (g2 := F0 m 4 ls []) rfl ?_
  refine lv_aload_n hx hb dX7_init_4 rfl (lv_at hl 0 rfl) ?_
  refine lv_sipush (v := (nI 600)) hx hb dX7_init_5 (by decide) ?_
  refine j_newI (k := 1) (n := 600) (N := 600) hx hb hts (List.mem_cons_of_mem _ (List.mem_append_left _ (List.mem_of_getElem? (i := 3) rfl))) hJ (cy := cyI) List.mem_cons_self (by decide) (by decide) (Nat.le_of_ble_eq_true rfl) (Nat.le_of_ble_eq_true rfl) (Nat.le_of_ble_eq_true rfl) (Nat.le_of_ble_eq_true rfl) (Nat.le_of_ble_eq_true rfl) dX7_init_8 (fun q8 H hJ => ?_)
  have hJ : Jw D (tyE cyI cyZ) NwJ [(h0, .inr (7, [.null, .int (nI 0)])), (q8, .inl (cyI, 600, .inl (fun _ => nI 0)))] A s _ _ := hJ
  refine j_put (q0 := 0) (k := 0) (ci := 7) (v := .ref q8) hx hb hts (fun _ h => List.mem_cons_of_mem _ (List.mem_append_right _ (h))) tyX7 tyX7_ok nmX7 hown hin hJ rfl rfl (by decide) (List.mem_cons_of_mem _ (List.mem_append_left _ (List.mem_of_getElem? (i := 4) rfl))) rfl rfl rfl rfl (Nat.le_of_ble_eq_true rfl) [(h0, .inr (7, [.ref q8, .int (nI 0)])), (q8, .inl (cyI, 600, .inl (fun _ => nI 0)))] rfl dX7_init_10 (fun H locs hJ => ?_)
  exact j_ret (u := uL [q8]) hx hb hr hlocks hJ dX7_init_13
set_option maxHeartbeats 4000000 in
set_option maxRecDepth 100000 in
theorem n_X8_init (l : Launch) (D : va_G) (cyI cyZ : ClassId) (h0 : Nat) : Cn l D (tyE cyI cyZ) NwJ yX8_init wsX8_init { frames := 1, cells := 1, slots := 4, locals := 12 } [.ref h0] [(h0, .inr (8, [.null, .int (nI 0), .int (nI 0), .int (nI 0), .int (nI 0), .int (nI 0), .int (nI 0), .int (nI 0), .int (nI 0)]))] (fun u => [(h0, .inr (8, [.ref (u 0), .int (nI 0), .int (nI 0), .int (nI 0), .int (nI 2), .int (-1), .int (nI 0), .int (nI 0), .int (nI 0)])), ((u 0), .inl (cyZ, 4, .inl (fun _ => nI 0)))]) 1 4 := by
  refine j_met (cc := cX8_init) (maxL := 1) (ret := none) (by decide) rfl rfl (Nat.le_of_ble_eq_true rfl) ?_
  intro p e s m below meth c A ls C hin hJ hl
  obtain ⟨hx, hb, hr, hml, hown, hts, hlocks⟩ := id C
  have hl : lv_has ls 1 [(0, .ref h0)] := hl
  refine lv_aload_n hx hb dX8_init_0 rfl (lv_at hl 0 rfl) ?_
  refine W.objInit hx hb hown (hts _ (List.mem_cons_of_mem _ (List.mem_append_left _ (List.mem_of_getElem? (i := 0) rfl)))) (hts _ (List.mem_cons_of_mem _ (List.mem_append_left _ (List.mem_of_getElem? (i := 1) rfl)))) (hts _ (List.mem_cons_of_mem _ (List.mem_append_left _ (List.mem_of_getElem? (i := 2) rfl)))) rfl (by rw [hml]; exact hl.1) rfl dX8_init_1 (Nat.le_of_ble_eq_true rfl) (Nat.le_of_ble_eq_true rfl) ?_
  refine W.eq (g2 := F0 m 4 ls []) rfl ?_
  refine lv_aload_n hx hb dX8_init_4 rfl (lv_at hl 0 rfl) ?_
  refine lv_iconst (v := (nI 4)) hx hb dX8_init_5 (by decide) ?_
  refine j_newZ (k := 1) (n := 4) (N := 4) hx hb hts (List.mem_cons_of_mem _ (List.mem_append_left _ (List.mem_of_getElem? (i := 3) rfl))) hJ (cy := cyZ) (List.mem_cons_of_mem _ List.mem_cons_self) (by decide) (by decide) (Nat.le_of_ble_eq_true rfl) (Nat.le_of_ble_eq_true rfl) (Nat.le_of_ble_eq_true rfl) (Nat.le_of_ble_eq_true rfl) (Nat.le_of_ble_eq_true rfl) dX8_init_6 (fun q6 H hJ => ?_)
  have hJ : Jw D (tyE cyI cyZ) NwJ [(h0, .inr (8, [.null, .int (nI 0), .int (nI 0), .int (nI 0), .int (nI 0), .int (nI 0), .int (nI 0), .int (nI 0), .int (nI 0)])), (q6, .inl (cyZ, 4, .inl (fun _ => nI 0)))] A s _ _ := hJ
  refine j_put (q0 := 0) (k := 0) (ci := 8) (v := .ref q6) hx hb hts (fun _ h => List.mem_cons_of_mem _ (List.mem_append_right _ (h))) tyX8 tyX8_ok nmX8 hown hin hJ rfl rfl (by decide) (List.mem_cons_of_mem _ (List.mem_append_left _ (List.mem_of_getElem? (i := 4) rfl))) rfl rfl rfl rfl (Nat.le_of_ble_eq_true rfl) [(h0, .inr (8, [.ref q6, .int (nI 0), .int (nI 0), .int (nI 0), .int (nI 0), .int (nI 0), .int (nI 0), .int (nI 0), .int (nI 0)])), (q6, .inl (cyZ, 4, .inl (fun _ => nI 0)))] rfl dX8_init_8 (fun H locs hJ => ?_)
  refine lv_aload_n hx hb dX8_init_11 rfl (lv_at hl 0 rfl) ?_
  refine lv_iconst (v := (nI 2)) hx hb dX8_init_12 (by decide) ?_
  refine j_put (q0 := 0) (k := 4) (ci := 8) (v := .int (nI 2)) hx hb hts (fun _ h => List.mem_cons_of_mem _ (List.mem_append_right _ (h))) tyX8 tyX8_ok nmX8 hown hin hJ rfl rfl (by decide) (List.mem_cons_of_mem _ (List.mem_append_left _ (List.mem_of_getElem? (i := 5) rfl))) rfl rfl rfl rfl (Nat.le_of_ble_eq_true rfl) [(h0, .inr (8, [.ref q6, .int (nI 0), .int (nI 0), .int (nI 0), .int (nI 2), .int (nI 0), .int (nI 0), .int (nI 0), .int (nI 0)])), (q6, .inl (cyZ, 4, .inl (fun _ => nI 0)))] rfl dX8_init_13 (fun H locs hJ => ?_)
  refine lv_aload_n hx hb dX8_init_16 rfl (lv_at hl 0 rfl) ?_
  refine lv_iconst (v := (-1)) hx hb dX8_init_17 (by decide) ?_
  refine j_put (q0 := 0) (k := 5) (ci := 8) (v := .int (-1)) hx hb hts (fun _ h => List.mem_cons_of_mem _ (List.mem_append_right _ (h))) tyX8 tyX8_ok nmX8 hown hin hJ rfl rfl (by decide) (List.mem_cons_of_mem _ (List.mem_append_left _ (List.mem_of_getElem? (i := 6) rfl))) rfl rfl rfl rfl (Nat.le_of_ble_eq_true rfl) [(h0, .inr (8, [.ref q6, .int (nI 0), .int (nI 0), .int (nI 0), .int (nI 2), .int (-1), .int (nI 0), .int (nI 0), .int (nI 0)])), (q6, .inl (cyZ, 4, .inl (fun _ => nI 0)))] rfl dX8_init_18 (fun H locs hJ => ?_)
  exact j_ret (u := uL [q6]) hx hb hr hlocks hJ dX8_init_21
