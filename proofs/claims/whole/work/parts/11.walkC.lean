section
variable {l : Launch} {D : va_G} {cyI cyZ : ClassId} {ad : Nat → Nat} {tL tS : Nat}
theorem inX9_replace_X9 : ∀ w ∈ wsX90, w ∈ wsX9_replace := fun _ h => List.mem_cons_of_mem _ (List.mem_append_right _ (h))
theorem mX9_replace_fieldLink_21_StillText_Units_count_I : Cond.fieldLink RX9 21 "StillText$Units" "count" "I" ∈ wsX9_replace := List.mem_cons_of_mem _ (List.mem_append_left _ (List.mem_of_getElem? (i := 0) rfl))
set_option maxHeartbeats 4000000 in
set_option maxRecDepth 100000 in
theorem t_X9_replace_4_65 {p : Program} {e : Env} {s : State} {m : MethodId} {args : Array Value} {below : List Frame} {meth : Method} {c : Code} {A : Nat → Prop} {x1 x3 : Int32}  {Q : St → Prop} (C : Cx p s m args meth c cX9_replace 5 none RX9 wsX9_replace) :
    ∀ (n : Nat) (σ : St) (x4 : Int32) (H : Heap) (locs : List Loc) (ls : Array Slot), wpl_X9_replace_4_65 x1 x3 Q n σ x4 → Iw D (tyE cyI cyZ) NwC (ZsC tL tS) (wC cyI cyZ ad) A s H locs σ → lv_has ls 5 [(0, .ref (ad 8)), (1, .int x1), (2, .ref (ad 4)), (3, .int x3), (4, .int x4)] → W p l e r_X9_replace_4 s m args below meth c H locs 0 0 (MQ below (va_Qv Q (Kq D (tyE cyI cyZ) (wC cyI cyZ ad) A) A) args s 0 0 A) (F0 m 65 ls []) := by
  obtain ⟨hx, hb, hr, hml, hown, hts, hlocks⟩ := id C
  intro n
  induction n with
  | zero =>
    intro _ _ _ _ _ h
    exact h.elim
  | succ n ih =>
    intro σ x4 H locs ls h hI hl
    unfold wpl_X9_replace_4_65 at h
    refine lv_iload hx hb dX9_replace_65 (lv_at hl 4 rfl) ?_
    refine lv_aload_n hx hb dX9_replace_67 rfl (lv_at hl 2 rfl) ?_
    refine k_get (q0 := 4) (k := 3) (ci := 9) (v := .int (σ 4 3)) hx hb hts inX9_replace_X9 hown hI rfl rfl (by decide) mX9_replace_fieldLink_21_StillText_Units_count_I rfl rfl dX9_replace_68 ?_
    refine lv_icmp_ge (tgt := 91) hx hb dX9_replace_71 (by decide) (fun c7 => ?_) (fun c7 => ?_)
    · replace h := h.1 c7
      refine lv_aload_n hx hb dX9_replace_91 rfl (lv_at hl 0 rfl) ?_
      refine lv_dup hx hb dX9_replace_92 rfl ?_
      refine k_get (q0 := 8) (k := 3) (ci := 9) (v := .int (σ 8 3)) hx hb hts inX9_replace_X9 hown hI rfl rfl (by decide) mX9_replace_fieldLink_21_StillText_Units_count_I rfl rfl dX9_replace_93 ?_
      refine lv_iload_n hx hb dX9_replace_96 rfl (lv_at hl 3 rfl) ?_
      refine lv_iadd hx hb dX9_replace_97 ?_
      refine k_put (q0 := 8) (k := 3) (ci := 9) (v := .int ((σ 8 3) + x3)) (σ' := up2 σ 8 3 ((σ 8 3) + x3)) hx hb hts inX9_replace_X9 tyX9 tyX9_ok nmX9 hown hI rfl rfl (by decide) mX9_replace_fieldLink_21_StillText_Units_count_I rfl rfl rfl rfl (Nat.le_of_ble_eq_true rfl) (wsC_8_3 _ _ _ _ _) dX9_replace_98 (fun H locs hI => ?_)
      exact k_vret hx hb hr hlocks hI h dX9_replace_101
    · replace h := h.2 c7
      refine lv_aload_n hx hb dX9_replace_74 rfl (lv_at hl 0 rfl) ?_
      refine lv_aload_n hx hb dX9_replace_75 rfl (lv_at hl 2 rfl) ?_
      refine lv_iload hx hb dX9_replace_76 (lv_at hl 4 rfl) ?_
      refine lv_iload_n hx hb dX9_replace_78 rfl (lv_at hl 1 rfl) ?_
      refine lv_iload hx hb dX9_replace_79 (lv_at hl 4 rfl) ?_
      refine lv_iadd hx hb dX9_replace_81 ?_
      refine k_cVv (As := [.ref (ad 4), .int x4, .int (x1 + x4)]) (rest := []) C (c_X9_copyUnit_4 σ x4 (x1 + x4) _ h) (cwV 3 hts gX9_replace_X9_copyUnit rfl rfl rfl hdX9_copyUnit ⟨Nat.le_of_ble_eq_true rfl, Nat.le_of_ble_eq_true rfl⟩) hI 8 rfl rfl rfl hl.1 rfl (Nat.le_of_ble_eq_true rfl) dX9_replace_82 ⟨Nat.le_of_ble_eq_true rfl, Nat.le_of_ble_eq_true rfl⟩ (fun σ9 H locs h hI => ?_)
      refine lv_iinc (v := (x4 + nI 1)) (lv' := [(4, .int (x4 + nI 1)), (0, .ref (ad 8)), (1, .int x1), (2, .ref (ad 4)), (3, .int x3)]) hx hb dX9_replace_85 hl (k := 4) rfl rfl (by decide) rfl (fun ls hl => ?_)
      refine lv_goto (tgt := 65) hx hb dX9_replace_88 (by decide) ?_
      exact ih _ _ _ _ _ h hI (lv_sub hl [1, 2, 3, 4, 0] rfl)
set_option maxHeartbeats 4000000 in
set_option maxRecDepth 100000 in
theorem t_X9_replace_4_39 {p : Program} {e : Env} {s : State} {m : MethodId} {args : Array Value} {below : List Frame} {meth : Method} {c : Code} {A : Nat → Prop} {x1 x3 : Int32}  {Q : St → Prop} (C : Cx p s m args meth c cX9_replace 5 none RX9 wsX9_replace) :
    ∀ (n : Nat) (σ : St) (x4 : Int32) (H : Heap) (locs : List Loc) (ls : Array Slot), wpl_X9_replace_4_39 x1 x3 Q n σ x4 → Iw D (tyE cyI cyZ) NwC (ZsC tL tS) (wC cyI cyZ ad) A s H locs σ → lv_has ls 5 [(0, .ref (ad 8)), (1, .int x1), (2, .ref (ad 4)), (3, .int x3), (4, .int x4)] → W p l e r_X9_replace_4 s m args below meth c H locs 0 0 (MQ below (va_Qv Q (Kq D (tyE cyI cyZ) (wC cyI cyZ ad) A) A) args s 0 0 A) (F0 m 39 ls []) := by
  obtain ⟨hx, hb, hr, hml, hown, hts, hlocks⟩ := id C
  intro n
  induction n with
  | zero =>
    intro _ _ _ _ _ h
    exact h.elim
  | succ n ih =>
    intro σ x4 H locs ls h hI hl
    unfold wpl_X9_replace_4_39 at h
    refine lv_iload hx hb dX9_replace_39 (lv_at hl 4 rfl) ?_
    refine lv_iload_n hx hb dX9_replace_41 rfl (lv_at hl 1 rfl) ?_
    refine lv_icmp_le (tgt := 62) hx hb dX9_replace_42 (by decide) (fun c6 => ?_) (fun c6 => ?_)
    · replace h := h.1 c6
      refine lv_iconst (v := nI 0) hx hb dX9_replace_62 (by decide) ?_
      refine lv_istore (lv' := [(4, .int (nI 0)), (0, .ref (ad 8)), (1, .int x1), (2, .ref (ad 4)), (3, .int x3)]) hx hb dX9_replace_63 hl (by decide) rfl (fun ls hl => ?_)
      obtain ⟨k10, h⟩ := h
      exact t_X9_replace_4_65 C  k10 _ _ _ _ _ h hI (lv_sub hl [1, 2, 3, 4, 0] rfl)
    · replace h := h.2 c6
      refine lv_aload_n hx hb dX9_replace_45 rfl (lv_at hl 0 rfl) ?_
      refine lv_aload_n hx hb dX9_replace_46 rfl (lv_at hl 0 rfl) ?_
      refine lv_iload hx hb dX9_replace_47 (lv_at hl 4 rfl) ?_
      refine lv_iload hx hb dX9_replace_49 (lv_at hl 4 rfl) ?_
      refine lv_iload_n hx hb dX9_replace_51 rfl (lv_at hl 3 rfl) ?_
      refine lv_iadd hx hb dX9_replace_52 ?_
      refine k_cVv (As := [.ref (ad 8), .int x4, .int (x4 + x3)]) (rest := []) C (c_X9_copyUnit_8 σ x4 (x4 + x3) _ h) (cwV 3 hts gX9_replace_X9_copyUnit rfl rfl rfl hdX9_copyUnit ⟨Nat.le_of_ble_eq_true rfl, Nat.le_of_ble_eq_true rfl⟩) hI 8 rfl rfl rfl hl.1 rfl (Nat.le_of_ble_eq_true rfl) dX9_replace_53 ⟨Nat.le_of_ble_eq_true rfl, Nat.le_of_ble_eq_true rfl⟩ (fun σ12 H locs h hI => ?_)
      refine lv_iinc (v := (x4 - nI 1)) (lv' := [(4, .int (x4 - nI 1)), (0, .ref (ad 8)), (1, .int x1), (2, .ref (ad 4)), (3, .int x3)]) hx hb dX9_replace_56 hl (k := 4) rfl (k_dec1 _) (by decide) rfl (fun ls hl => ?_)
      refine lv_goto (tgt := 39) hx hb dX9_replace_59 (by decide) ?_
      exact ih _ _ _ _ _ h hI (lv_sub hl [1, 2, 3, 4, 0] rfl)
set_option maxHeartbeats 4000000 in
set_option maxRecDepth 100000 in
theorem c_X9_replace_4 (σ : St) (x1 : Int32) (Q : St → Prop) (h : wp_X9_replace_4 σ x1 Q) : Cv l D (tyE cyI cyZ) NwC (ZsC tL tS) (wC cyI cyZ ad) yX9_replace wsX9_replace r_X9_replace_4 [.ref (ad 8), .int x1, .ref (ad 4)] σ Q := by
  refine k_metV (cc := cX9_replace) (maxL := 5) (ret := none) (by decide) rfl (Nat.le_of_ble_eq_true rfl) ?_
  intro p e s m below meth c A ls C hI hl
  obtain ⟨hx, hb, hr, hml, hown, hts, hlocks⟩ := id C
  have hl : lv_has ls 5 [(0, .ref (ad 8)), (1, .int x1), (2, .ref (ad 4))] := hl
  unfold wp_X9_replace_4 at h
  refine lv_aload_n hx hb dX9_replace_0 rfl (lv_at hl 2 rfl) ?_
  refine k_get (q0 := 4) (k := 3) (ci := 9) (v := .int (σ 4 3)) hx hb hts inX9_replace_X9 hown hI rfl rfl (by decide) mX9_replace_fieldLink_21_StillText_Units_count_I rfl rfl dX9_replace_1 ?_
  refine lv_iconst (v := nI 1) hx hb dX9_replace_4 (by decide) ?_
  refine lv_isub hx hb dX9_replace_5 ?_
  refine lv_istore_n (lv' := [(3, .int ((σ 4 3) - (nI 1))), (0, .ref (ad 8)), (1, .int x1), (2, .ref (ad 4))]) hx hb dX9_replace_6 rfl hl (by decide) rfl (fun ls hl => ?_)
  refine lv_aload_n hx hb dX9_replace_7 rfl (lv_at hl 1 rfl) ?_
  refine lv_iload_n hx hb dX9_replace_8 rfl (lv_at hl 2 rfl) ?_
  refine k_cVi (As := [.int x1]) (rest := []) C (c_X9_has σ x1 _ h) (cwV 1 hts gX9_replace_X9_has rfl rfl rfl hdX9_has ⟨Nat.le_of_ble_eq_true rfl, Nat.le_of_ble_eq_true rfl⟩) hI 8 rfl rfl rfl hl.1 rfl (Nat.le_of_ble_eq_true rfl) dX9_replace_9 ⟨Nat.le_of_ble_eq_true rfl, Nat.le_of_ble_eq_true rfl⟩ (fun r1 σ2 H locs h hI => ?_)
  refine lv_if_eq (tgt := 30) hx hb dX9_replace_12 (by decide) (fun c3 => ?_) (fun c3 => ?_)
  · replace h := h.1 c3
    exact k_vret hx hb hr hlocks hI h dX9_replace_30
  · replace h := h.2 c3
    refine lv_iload_n hx hb dX9_replace_15 rfl (lv_at hl 0 rfl) ?_
    refine lv_if_lt (tgt := 30) hx hb dX9_replace_16 (by decide) (fun c4 => ?_) (fun c4 => ?_)
    · replace h := h.1 c4
      exact k_vret hx hb hr hlocks hI h dX9_replace_30
    · replace h := h.2 c4
      refine lv_aload_n hx hb dX9_replace_19 rfl (lv_at hl 1 rfl) ?_
      refine k_get (q0 := 8) (k := 3) (ci := 9) (v := .int (σ2 8 3)) hx hb hts inX9_replace_X9 hown hI rfl rfl (by decide) mX9_replace_fieldLink_21_StillText_Units_count_I rfl rfl dX9_replace_20 ?_
      refine lv_iload_n hx hb dX9_replace_23 rfl (lv_at hl 0 rfl) ?_
      refine lv_iadd hx hb dX9_replace_24 ?_
      refine lv_bipush (v := nI 80) hx hb dX9_replace_25 (by decide) ?_
      refine lv_icmp_le (tgt := 31) hx hb dX9_replace_27 (by decide) (fun c5 => ?_) (fun c5 => ?_)
      · replace h := h.1 c5
        refine lv_aload_n hx hb dX9_replace_31 rfl (lv_at hl 1 rfl) ?_
        refine k_get (q0 := 8) (k := 3) (ci := 9) (v := .int (σ2 8 3)) hx hb hts inX9_replace_X9 hown hI rfl rfl (by decide) mX9_replace_fieldLink_21_StillText_Units_count_I rfl rfl dX9_replace_32 ?_
        refine lv_iconst (v := nI 1) hx hb dX9_replace_35 (by decide) ?_
        refine lv_isub hx hb dX9_replace_36 ?_
        refine lv_istore (lv' := [(4, .int ((σ2 8 3) - (nI 1))), (3, .int ((σ 4 3) - (nI 1))), (0, .ref (ad 8)), (1, .int x1), (2, .ref (ad 4))]) hx hb dX9_replace_37 hl (by decide) rfl (fun ls hl => ?_)
        obtain ⟨k13, h⟩ := h
        exact t_X9_replace_4_39 C  k13 _ _ _ _ _ h hI (lv_sub hl [2, 3, 4, 1, 0] rfl)
      · replace h := h.2 c5
        exact k_vret hx hb hr hlocks hI h dX9_replace_30
theorem inX0_moveBehind_X0 : ∀ w ∈ wsX00, w ∈ wsX0_moveBehind := fun _ h => List.mem_cons_of_mem _ (List.mem_append_right _ (h))
theorem mX0_moveBehind_fieldLink_18_StillText_Marks_count_I : Cond.fieldLink RX0 18 "StillText$Marks" "count" "I" ∈ wsX0_moveBehind := List.mem_cons_of_mem _ (List.mem_append_left _ (List.mem_of_getElem? (i := 0) rfl))
theorem mX0_moveBehind_fieldLink_9_StillText_Marks_units_I : Cond.fieldLink RX0 9 "StillText$Marks" "units" "[I" ∈ wsX0_moveBehind := List.mem_cons_of_mem _ (List.mem_append_left _ (List.mem_of_getElem? (i := 1) rfl))
set_option maxHeartbeats 4000000 in
set_option maxRecDepth 100000 in
theorem t_X0_moveBehind_2 {p : Program} {e : Env} {s : State} {m : MethodId} {args : Array Value} {below : List Frame} {meth : Method} {c : Code} {A : Nat → Prop} {x1 x2 : Int32}  {Q : St → Prop} (C : Cx p s m args meth c cX0_moveBehind 4 none RX0 wsX0_moveBehind) :
    ∀ (n : Nat) (σ : St) (x3 : Int32) (H : Heap) (locs : List Loc) (ls : Array Slot), wpl_X0_moveBehind_2 x1 x2 Q n σ x3 → Iw D (tyE cyI cyZ) NwC (ZsC tL tS) (wC cyI cyZ ad) A s H locs σ → lv_has ls 4 [(0, .ref (ad 27)), (1, .int x1), (2, .int x2), (3, .int x3)] → W p l e r_X0_moveBehind s m args below meth c H locs 0 0 (MQ below (va_Qv Q (Kq D (tyE cyI cyZ) (wC cyI cyZ ad) A) A) args s 0 0 A) (F0 m 2 ls []) := by
  obtain ⟨hx, hb, hr, hml, hown, hts, hlocks⟩ := id C
  intro n
  induction n with
  | zero =>
    intro _ _ _ _ _ h
    exact h.elim
  | succ n ih =>
    intro σ x3 H locs ls h hI hl
    unfold wpl_X0_moveBehind_2 at h
    refine lv_iload_n hx hb dX0_moveBehind_2 rfl (lv_at hl 3 rfl) ?_
    refine lv_aload_n hx hb dX0_moveBehind_3 rfl (lv_at hl 0 rfl) ?_
    refine k_get (q0 := 27) (k := 2) (ci := 0) (v := .int (σ 27 2)) hx hb hts inX0_moveBehind_X0 hown hI rfl rfl (by decide) mX0_moveBehind_fieldLink_18_StillText_Marks_count_I rfl rfl dX0_moveBehind_4 ?_
    refine lv_icmp_ge (tgt := 36) hx hb dX0_moveBehind_7 (by decide) (fun c1 => ?_) (fun c1 => ?_)
    · replace h := h.1 c1
      exact k_vret hx hb hr hlocks hI h dX0_moveBehind_36
    · replace h := h.2 c1
      refine lv_aload_n hx hb dX0_moveBehind_10 rfl (lv_at hl 0 rfl) ?_
      refine k_get (q0 := 27) (k := 0) (ci := 0) (v := .ref (ad 28)) hx hb hts inX0_moveBehind_X0 hown hI rfl rfl (by decide) mX0_moveBehind_fieldLink_9_StillText_Marks_units_I rfl rfl dX0_moveBehind_11 ?_
      refine lv_iload_n hx hb dX0_moveBehind_14 rfl (lv_at hl 3 rfl) ?_
      refine k_iald (q0 := 28) (t0 := 0) (n := 20) (f := σ 28) hx hb hI rfl rfl h.1 dX0_moveBehind_15 ?_
      replace h := h.2
      refine lv_iload_n hx hb dX0_moveBehind_16 rfl (lv_at hl 1 rfl) ?_
      refine lv_icmp_le (tgt := 30) hx hb dX0_moveBehind_17 (by decide) (fun c2 => ?_) (fun c2 => ?_)
      · replace h := h.1 c2
        refine lv_iinc (v := (x3 + nI 1)) (lv' := [(3, .int (x3 + nI 1)), (0, .ref (ad 27)), (1, .int x1), (2, .int x2)]) hx hb dX0_moveBehind_30 hl (k := 3) rfl rfl (by decide) rfl (fun ls hl => ?_)
        refine lv_goto (tgt := 2) hx hb dX0_moveBehind_33 (by decide) ?_
        exact ih _ _ _ _ _ h hI (lv_sub hl [1, 2, 3, 0] rfl)
      · replace h := h.2 c2
        refine lv_aload_n hx hb dX0_moveBehind_20 rfl (lv_at hl 0 rfl) ?_
        refine k_get (q0 := 27) (k := 0) (ci := 0) (v := .ref (ad 28)) hx hb hts inX0_moveBehind_X0 hown hI rfl rfl (by decide) mX0_moveBehind_fieldLink_9_StillText_Marks_units_I rfl rfl dX0_moveBehind_21 ?_
        refine lv_iload_n hx hb dX0_moveBehind_24 rfl (lv_at hl 3 rfl) ?_
        refine lv_dup2_11 hx hb dX0_moveBehind_25 rfl rfl ?_
        refine k_iald (q0 := 28) (t0 := 0) (n := 20) (f := σ 28) hx hb hI rfl rfl h.1 dX0_moveBehind_26 ?_
        replace h := h.2
        refine lv_iload_n hx hb dX0_moveBehind_27 rfl (lv_at hl 2 rfl) ?_
        refine lv_iadd hx hb dX0_moveBehind_28 ?_
        refine k_iast (q0 := 28) (t0 := 0) (n := 20) (σ' := up2 σ 28 x3.toNatClampNeg ((σ 28 x3.toNatClampNeg) + x2)) hx hb hI rfl rfl h.1 (wsC_28 _ _ _ _ _ _) dX0_moveBehind_29 (fun H locs hI => ?_)
        replace h := h.2
        refine lv_iinc (v := (x3 + nI 1)) (lv' := [(3, .int (x3 + nI 1)), (0, .ref (ad 27)), (1, .int x1), (2, .int x2)]) hx hb dX0_moveBehind_30 hl (k := 3) rfl rfl (by decide) rfl (fun ls hl => ?_)
        refine lv_goto (tgt := 2) hx hb dX0_moveBehind_33 (by decide) ?_
        exact ih _ _ _ _ _ h hI (lv_sub hl [1, 2, 3, 0] rfl)
set_option maxHeartbeats 4000000 in
set_option maxRecDepth 100000 in
theorem c_X0_moveBehind (σ : St) (x1 x2 : Int32) (Q : St → Prop) (h : wp_X0_moveBehind σ x1 x2 Q) : Cv l D (tyE cyI cyZ) NwC (ZsC tL tS) (wC cyI cyZ ad) yX0_moveBehind wsX0_moveBehind r_X0_moveBehind [.ref (ad 27), .int x1, .int x2] σ Q := by
  refine k_metV (cc := cX0_moveBehind) (maxL := 4) (ret := none) (by decide) rfl (Nat.le_of_ble_eq_true rfl) ?_
  intro p e s m below meth c A ls C hI hl
  obtain ⟨hx, hb, hr, hml, hown, hts, hlocks⟩ := id C
  have hl : lv_has ls 4 [(0, .ref (ad 27)), (1, .int x1), (2, .int x2)] := hl
  unfold wp_X0_moveBehind at h
  refine lv_iconst (v := nI 0) hx hb dX0_moveBehind_0 (by decide) ?_
  refine lv_istore_n (lv' := [(3, .int (nI 0)), (0, .ref (ad 27)), (1, .int x1), (2, .int x2)]) hx hb dX0_moveBehind_1 rfl hl (by decide) rfl (fun ls hl => ?_)
  obtain ⟨k3, h⟩ := h
  exact t_X0_moveBehind_2 C  k3 _ _ _ _ _ h hI (lv_sub hl [1, 2, 3, 0] rfl)
theorem inX5_outdate_X5 : ∀ w ∈ wsX50, w ∈ wsX5_outdate := fun _ h => List.mem_cons_of_mem _ (List.mem_append_right _ (h))
theorem mX5_outdate_fieldLink_29_StillText_Setting_ofText_Z : Cond.fieldLink RX5 29 "StillText$Setting" "ofText" "Z" ∈ wsX5_outdate := List.mem_cons_of_mem _ (List.mem_append_left _ (List.mem_of_getElem? (i := 0) rfl))
set_option maxHeartbeats 4000000 in
set_option maxRecDepth 100000 in
theorem c_X5_outdate (σ : St) (Q : St → Prop) (h : wp_X5_outdate σ  Q) : Cv l D (tyE cyI cyZ) NwC (ZsC tL tS) (wC cyI cyZ ad) yX5_outdate wsX5_outdate r_X5_outdate [.ref (ad 14)] σ Q := by
  refine k_metV (cc := cX5_outdate) (maxL := 1) (ret := none) (by decide) rfl (Nat.le_of_ble_eq_true rfl) ?_
  intro p e s m below meth c A ls C hI hl
  obtain ⟨hx, hb, hr, hml, hown, hts, hlocks⟩ := id C
  have hl : lv_has ls 1 [(0, .ref (ad 14))] := hl
  unfold wp_X5_outdate at h
  refine lv_aload_n hx hb dX5_outdate_0 rfl (lv_at hl 0 rfl) ?_
  refine lv_iconst (v := nI 0) hx hb dX5_outdate_1 (by decide) ?_
  refine k_put (q0 := 14) (k := 5) (ci := 5) (v := .int (nI 0)) (σ' := up2 σ 14 5 (nI 0)) hx hb hts inX5_outdate_X5 tyX5 tyX5_ok nmX5 hown hI rfl rfl (by decide) mX5_outdate_fieldLink_29_StillText_Setting_ofText_Z rfl rfl rfl rfl (Nat.le_of_ble_eq_true rfl) (wsC_14_5 _ _ _ _ _) dX5_outdate_2 (fun H locs hI => ?_)
  exact k_vret hx hb hr hlocks hI h dX5_outdate_5
theorem inX10_put_X10 : ∀ w ∈ wsX100, w ∈ wsX10_put := fun _ h => List.mem_cons_of_mem _ (List.mem_append_left _ (List.mem_append_left _ (List.mem_append_left _ (List.mem_append_left _ (List.mem_append_left _ (List.mem_append_right _ (h)))))))
theorem mX10_put_fieldLink_26_StillText_units_LStillText_Units : Cond.fieldLink RX10 26 "StillText" "units" "LStillText$Units;" ∈ wsX10_put := List.mem_cons_of_mem _ (List.mem_append_left _ (List.mem_append_left _ (List.mem_append_left _ (List.mem_append_left _ (List.mem_append_left _ (List.mem_append_left _ (List.mem_append_left _ (List.mem_of_getElem? (i := 0) rfl))))))))
theorem mX10_put_fieldLink_19_StillText_reading_LStillText_Reading : Cond.fieldLink RX10 19 "StillText" "reading" "LStillText$Reading;" ∈ wsX10_put := List.mem_cons_of_mem _ (List.mem_append_left _ (List.mem_append_left _ (List.mem_append_left _ (List.mem_append_left _ (List.mem_append_left _ (List.mem_append_left _ (List.mem_append_left _ (List.mem_of_getElem? (i := 2) rfl))))))))
theorem mX10_put_fieldLink_67_StillText_marks_LStillText_Marks : Cond.fieldLink RX10 67 "StillText" "marks" "LStillText$Marks;" ∈ wsX10_put := List.mem_cons_of_mem _ (List.mem_append_left _ (List.mem_append_left _ (List.mem_append_left _ (List.mem_append_left _ (List.mem_append_left _ (List.mem_append_left _ (List.mem_append_left _ (List.mem_of_getElem? (i := 3) rfl))))))))
theorem mX10_put_fieldLink_40_StillText_setting_LStillText_Setting : Cond.fieldLink RX10 40 "StillText" "setting" "LStillText$Setting;" ∈ wsX10_put := List.mem_cons_of_mem _ (List.mem_append_left _ (List.mem_append_left _ (List.mem_append_left _ (List.mem_append_left _ (List.mem_append_left _ (List.mem_append_left _ (List.mem_append_left _ (List.mem_of_getElem? (i := 4) rfl))))))))
theorem mX10_put_fieldLink_10_StillText_tape_LStillText_Tape : Cond.fieldLink RX10 10 "StillText" "tape" "LStillText$Tape;" ∈ wsX10_put := List.mem_cons_of_mem _ (List.mem_append_left _ (List.mem_append_left _ (List.mem_append_left _ (List.mem_append_left _ (List.mem_append_left _ (List.mem_append_left _ (List.mem_append_left _ (List.mem_of_getElem? (i := 1) rfl))))))))
set_option maxHeartbeats 4000000 in
set_option maxRecDepth 100000 in
theorem c_X10_put (σ : St) (x1 : Int32) (Q : Int32 → St → Prop) (h : wp_X10_put σ x1 Q) : Ci l D (tyE cyI cyZ) NwC (ZsC tL tS) (wC cyI cyZ ad) yX10_put wsX10_put r_X10_put [.ref (ad 0), .int x1] σ Q := by
  refine k_metI (cc := cX10_put) (maxL := 3) (ret := (some .int)) (by decide) rfl (Nat.le_of_ble_eq_true rfl) ?_
  intro p e s m below meth c A ls C hI hl
  obtain ⟨hx, hb, hr, hml, hown, hts, hlocks⟩ := id C
  have hl : lv_has ls 3 [(0, .ref (ad 0)), (1, .int x1)] := hl
  unfold wp_X10_put at h
  refine lv_aload_n hx hb dX10_put_0 rfl (lv_at hl 0 rfl) ?_
  refine k_get (q0 := 0) (k := 2) (ci := 10) (v := .ref (ad 8)) hx hb hts inX10_put_X10 hown hI rfl rfl (by decide) mX10_put_fieldLink_26_StillText_units_LStillText_Units rfl rfl dX10_put_1 ?_
  refine lv_iload_n hx hb dX10_put_4 rfl (lv_at hl 1 rfl) ?_
  refine k_cVi (As := [.int x1]) (rest := []) C (c_X9_isWholeWord σ x1 _ h) (cwV 1 hts gX10_put_X9_isWholeWord rfl rfl rfl hdX9_isWholeWord ⟨Nat.le_of_ble_eq_true rfl, Nat.le_of_ble_eq_true rfl⟩) hI 8 rfl rfl rfl hl.1 rfl (Nat.le_of_ble_eq_true rfl) dX10_put_5 ⟨Nat.le_of_ble_eq_true rfl, Nat.le_of_ble_eq_true rfl⟩ (fun r1 σ2 H locs h hI => ?_)
  refine lv_if_ne (tgt := 20) hx hb dX10_put_8 (by decide) (fun c3 => ?_) (fun c3 => ?_)
  · replace h := h.1 c3
    refine lv_aload_n hx hb dX10_put_20 rfl (lv_at hl 0 rfl) ?_
    refine k_cVv (As := []) (rest := []) C (c_X10_readTape σ2  _ h) (cwV 0 hts gX10_put_X10_readTape rfl rfl rfl hdX10_readTape ⟨Nat.le_of_ble_eq_true rfl, Nat.le_of_ble_eq_true rfl⟩) hI 0 rfl rfl rfl hl.1 rfl (Nat.le_of_ble_eq_true rfl) dX10_put_21 ⟨Nat.le_of_ble_eq_true rfl, Nat.le_of_ble_eq_true rfl⟩ (fun σ5 H locs h hI => ?_)
    refine lv_aload_n hx hb dX10_put_24 rfl (lv_at hl 0 rfl) ?_
    refine k_get (q0 := 0) (k := 1) (ci := 10) (v := .ref (ad 3)) hx hb hts inX10_put_X10 hown hI rfl rfl (by decide) mX10_put_fieldLink_19_StillText_reading_LStillText_Reading rfl rfl dX10_put_25 ?_
    refine k_cVr (As := []) (rest := []) C (c_X3_units σ5  _ h) (cwV 0 hts gX10_put_X3_units rfl rfl rfl hdX3_units ⟨Nat.le_of_ble_eq_true rfl, Nat.le_of_ble_eq_true rfl⟩) hI 3 rfl rfl rfl hl.1 rfl (Nat.le_of_ble_eq_true rfl) dX10_put_28 ⟨Nat.le_of_ble_eq_true rfl, Nat.le_of_ble_eq_true rfl⟩ (fun σ7 H locs h hI => ?_)
    refine k_cVi (As := []) (rest := []) C (c_X9_count_at4 σ7  _ h) (cwV 0 hts gX10_put_X9_count rfl rfl rfl hdX9_count ⟨Nat.le_of_ble_eq_true rfl, Nat.le_of_ble_eq_true rfl⟩) hI 4 rfl rfl rfl hl.1 rfl (Nat.le_of_ble_eq_true rfl) dX10_put_31 ⟨Nat.le_of_ble_eq_true rfl, Nat.le_of_ble_eq_true rfl⟩ (fun r8 σ9 H locs h hI => ?_)
    refine lv_iconst (v := nI 1) hx hb dX10_put_34 (by decide) ?_
    refine lv_isub hx hb dX10_put_35 ?_
    refine lv_istore_n (lv' := [(2, .int (r8 - (nI 1))), (0, .ref (ad 0)), (1, .int x1)]) hx hb dX10_put_36 rfl hl (by decide) rfl (fun ls hl => ?_)
    refine lv_aload_n hx hb dX10_put_37 rfl (lv_at hl 1 rfl) ?_
    refine k_get (q0 := 0) (k := 1) (ci := 10) (v := .ref (ad 3)) hx hb hts inX10_put_X10 hown hI rfl rfl (by decide) mX10_put_fieldLink_19_StillText_reading_LStillText_Reading rfl rfl dX10_put_38 ?_
    refine k_cVi (As := []) (rest := []) C (c_X3_hasFault σ9  _ h) (cwV 0 hts gX10_put_X3_hasFault rfl rfl rfl hdX3_hasFault ⟨Nat.le_of_ble_eq_true rfl, Nat.le_of_ble_eq_true rfl⟩) hI 3 rfl rfl rfl hl.1 rfl (Nat.le_of_ble_eq_true rfl) dX10_put_41 ⟨Nat.le_of_ble_eq_true rfl, Nat.le_of_ble_eq_true rfl⟩ (fun r10 σ11 H locs h hI => ?_)
    refine lv_if_ne (tgt := 65) hx hb dX10_put_44 (by decide) (fun c12 => ?_) (fun c12 => ?_)
    · replace h := h.1 c12
      refine lv_bipush (v := (-2)) hx hb dX10_put_65 (by decide) ?_
      exact k_iret hx hb hr hlocks hI h dX10_put_67
    · replace h := h.2 c12
      refine lv_iload_n hx hb dX10_put_47 rfl (lv_at hl 0 rfl) ?_
      refine lv_if_lt (tgt := 65) hx hb dX10_put_48 (by decide) (fun c13 => ?_) (fun c13 => ?_)
      · replace h := h.1 c13
        refine lv_bipush (v := (-2)) hx hb dX10_put_65 (by decide) ?_
        exact k_iret hx hb hr hlocks hI h dX10_put_67
      · replace h := h.2 c13
        refine lv_aload_n hx hb dX10_put_51 rfl (lv_at hl 1 rfl) ?_
        refine k_get (q0 := 0) (k := 2) (ci := 10) (v := .ref (ad 8)) hx hb hts inX10_put_X10 hown hI rfl rfl (by decide) mX10_put_fieldLink_26_StillText_units_LStillText_Units rfl rfl dX10_put_52 ?_
        refine k_cVi (As := []) (rest := []) C (c_X9_count_at8 σ11  _ h) (cwV 0 hts gX10_put_X9_count rfl rfl rfl hdX9_count ⟨Nat.le_of_ble_eq_true rfl, Nat.le_of_ble_eq_true rfl⟩) hI 8 rfl rfl rfl hl.1 rfl (Nat.le_of_ble_eq_true rfl) dX10_put_55 ⟨Nat.le_of_ble_eq_true rfl, Nat.le_of_ble_eq_true rfl⟩ (fun r14 σ15 H locs h hI => ?_)
        refine lv_iload_n hx hb dX10_put_58 rfl (lv_at hl 0 rfl) ?_
        refine lv_iadd hx hb dX10_put_59 ?_
        refine lv_bipush (v := nI 80) hx hb dX10_put_60 (by decide) ?_
        refine lv_icmp_le (tgt := 68) hx hb dX10_put_62 (by decide) (fun c16 => ?_) (fun c16 => ?_)
        · replace h := h.1 c16
          refine lv_aload_n hx hb dX10_put_68 rfl (lv_at hl 1 rfl) ?_
          refine k_get (q0 := 0) (k := 2) (ci := 10) (v := .ref (ad 8)) hx hb hts inX10_put_X10 hown hI rfl rfl (by decide) mX10_put_fieldLink_26_StillText_units_LStillText_Units rfl rfl dX10_put_69 ?_
          refine lv_iload_n hx hb dX10_put_72 rfl (lv_at hl 2 rfl) ?_
          refine lv_aload_n hx hb dX10_put_73 rfl (lv_at hl 1 rfl) ?_
          refine k_get (q0 := 0) (k := 1) (ci := 10) (v := .ref (ad 3)) hx hb hts inX10_put_X10 hown hI rfl rfl (by decide) mX10_put_fieldLink_19_StillText_reading_LStillText_Reading rfl rfl dX10_put_74 ?_
          refine k_cVr (As := []) (rest := [.int x1, .ref (ad 8)]) C (c_X3_units σ15  _ h) (cwV 0 hts gX10_put_X3_units rfl rfl rfl hdX3_units ⟨Nat.le_of_ble_eq_true rfl, Nat.le_of_ble_eq_true rfl⟩) hI 3 rfl rfl rfl hl.1 rfl (Nat.le_of_ble_eq_true rfl) dX10_put_77 ⟨Nat.le_of_ble_eq_true rfl, Nat.le_of_ble_eq_true rfl⟩ (fun σ18 H locs h hI => ?_)
          refine k_cVv (As := [.int x1, .ref (ad 4)]) (rest := []) C (c_X9_replace_4 σ18 x1 _ h) (cwV 2 hts gX10_put_X9_replace rfl rfl rfl hdX9_replace ⟨Nat.le_of_ble_eq_true rfl, Nat.le_of_ble_eq_true rfl⟩) hI 8 rfl rfl rfl hl.1 rfl (Nat.le_of_ble_eq_true rfl) dX10_put_80 ⟨Nat.le_of_ble_eq_true rfl, Nat.le_of_ble_eq_true rfl⟩ (fun σ20 H locs h hI => ?_)
          refine lv_aload_n hx hb dX10_put_83 rfl (lv_at hl 1 rfl) ?_
          refine k_get (q0 := 0) (k := 7) (ci := 10) (v := .ref (ad 27)) hx hb hts inX10_put_X10 hown hI rfl rfl (by decide) mX10_put_fieldLink_67_StillText_marks_LStillText_Marks rfl rfl dX10_put_84 ?_
          refine lv_iload_n hx hb dX10_put_87 rfl (lv_at hl 2 rfl) ?_
          refine lv_iload_n hx hb dX10_put_88 rfl (lv_at hl 0 rfl) ?_
          refine k_cVv (As := [.int x1, .int (r8 - (nI 1))]) (rest := []) C (c_X0_moveBehind σ20 x1 (r8 - (nI 1)) _ h) (cwV 2 hts gX10_put_X0_moveBehind rfl rfl rfl hdX0_moveBehind ⟨Nat.le_of_ble_eq_true rfl, Nat.le_of_ble_eq_true rfl⟩) hI 27 rfl rfl rfl hl.1 rfl (Nat.le_of_ble_eq_true rfl) dX10_put_89 ⟨Nat.le_of_ble_eq_true rfl, Nat.le_of_ble_eq_true rfl⟩ (fun σ22 H locs h hI => ?_)
          refine lv_aload_n hx hb dX10_put_92 rfl (lv_at hl 1 rfl) ?_
          refine k_get (q0 := 0) (k := 4) (ci := 10) (v := .ref (ad 14)) hx hb hts inX10_put_X10 hown hI rfl rfl (by decide) mX10_put_fieldLink_40_StillText_setting_LStillText_Setting rfl rfl dX10_put_93 ?_
          refine k_cVv (As := []) (rest := []) C (c_X5_outdate σ22  _ h) (cwV 0 hts gX10_put_X5_outdate rfl rfl rfl hdX5_outdate ⟨Nat.le_of_ble_eq_true rfl, Nat.le_of_ble_eq_true rfl⟩) hI 14 rfl rfl rfl hl.1 rfl (Nat.le_of_ble_eq_true rfl) dX10_put_96 ⟨Nat.le_of_ble_eq_true rfl, Nat.le_of_ble_eq_true rfl⟩ (fun σ24 H locs h hI => ?_)
          refine lv_aload_n hx hb dX10_put_99 rfl (lv_at hl 1 rfl) ?_
          refine k_get (q0 := 0) (k := 2) (ci := 10) (v := .ref (ad 8)) hx hb hts inX10_put_X10 hown hI rfl rfl (by decide) mX10_put_fieldLink_26_StillText_units_LStillText_Units rfl rfl dX10_put_100 ?_
          refine k_cVi (As := []) (rest := []) C (c_X9_count_at8 σ24  _ h) (cwV 0 hts gX10_put_X9_count rfl rfl rfl hdX9_count ⟨Nat.le_of_ble_eq_true rfl, Nat.le_of_ble_eq_true rfl⟩) hI 8 rfl rfl rfl hl.1 rfl (Nat.le_of_ble_eq_true rfl) dX10_put_103 ⟨Nat.le_of_ble_eq_true rfl, Nat.le_of_ble_eq_true rfl⟩ (fun r25 σ26 H locs h hI => ?_)
          exact k_iret hx hb hr hlocks hI h dX10_put_106
        · replace h := h.2 c16
          refine lv_bipush (v := (-2)) hx hb dX10_put_65 (by decide) ?_
          exact k_iret hx hb hr hlocks hI h dX10_put_67
  · replace h := h.2 c3
    refine lv_aload_n hx hb dX10_put_11 rfl (lv_at hl 0 rfl) ?_
    refine k_get (q0 := 0) (k := 0) (ci := 10) (v := .ref (ad 1)) hx hb hts inX10_put_X10 hown hI rfl rfl (by decide) mX10_put_fieldLink_10_StillText_tape_LStillText_Tape rfl rfl dX10_put_12 ?_
    refine k_cVv (As := []) (rest := []) C (c_X7_clear σ2  _ h) (cwV 0 hts gX10_put_X7_clear rfl rfl rfl hdX7_clear ⟨Nat.le_of_ble_eq_true rfl, Nat.le_of_ble_eq_true rfl⟩) hI 1 rfl rfl rfl hl.1 rfl (Nat.le_of_ble_eq_true rfl) dX10_put_15 ⟨Nat.le_of_ble_eq_true rfl, Nat.le_of_ble_eq_true rfl⟩ (fun σ28 H locs h hI => ?_)
    refine lv_iconst (v := (-1)) hx hb dX10_put_18 (by decide) ?_
    exact k_iret hx hb hr hlocks hI h dX10_put_19
theorem inX9_letters_X9 : ∀ w ∈ wsX90, w ∈ wsX9_letters := fun _ h => List.mem_cons_of_mem _ (List.mem_append_right _ (h))
theorem mX9_letters_fieldLink_15_StillText_Units_sizes_I : Cond.fieldLink RX9 15 "StillText$Units" "sizes" "[I" ∈ wsX9_letters := List.mem_cons_of_mem _ (List.mem_append_left _ (List.mem_of_getElem? (i := 0) rfl))
set_option maxHeartbeats 4000000 in
set_option maxRecDepth 100000 in
theorem c_X9_letters (σ : St) (x1 : Int32) (Q : Int32 → St → Prop) (h : wp_X9_letters σ x1 Q) : Ci l D (tyE cyI cyZ) NwC (ZsC tL tS) (wC cyI cyZ ad) yX9_letters wsX9_letters r_X9_letters [.ref (ad 8), .int x1] σ Q := by
  refine k_metI (cc := cX9_letters) (maxL := 2) (ret := (some .int)) (by decide) rfl (Nat.le_of_ble_eq_true rfl) ?_
  intro p e s m below meth c A ls C hI hl
  obtain ⟨hx, hb, hr, hml, hown, hts, hlocks⟩ := id C
  have hl : lv_has ls 2 [(0, .ref (ad 8)), (1, .int x1)] := hl
  unfold wp_X9_letters at h
  refine lv_aload_n hx hb dX9_letters_0 rfl (lv_at hl 0 rfl) ?_
  refine lv_iload_n hx hb dX9_letters_1 rfl (lv_at hl 1 rfl) ?_
  refine k_cVi (As := [.int x1]) (rest := []) C (c_X9_has σ x1 _ h) (cwV 1 hts gX9_letters_X9_has rfl rfl rfl hdX9_has ⟨Nat.le_of_ble_eq_true rfl, Nat.le_of_ble_eq_true rfl⟩) hI 8 rfl rfl rfl hl.1 rfl (Nat.le_of_ble_eq_true rfl) dX9_letters_2 ⟨Nat.le_of_ble_eq_true rfl, Nat.le_of_ble_eq_true rfl⟩ (fun r1 σ2 H locs h hI => ?_)
  refine lv_if_eq (tgt := 17) hx hb dX9_letters_5 (by decide) (fun c3 => ?_) (fun c3 => ?_)
  · replace h := h.1 c3
    refine lv_iconst (v := (-1)) hx hb dX9_letters_17 (by decide) ?_
    exact k_iret hx hb hr hlocks hI h dX9_letters_18
  · replace h := h.2 c3
    refine lv_aload_n hx hb dX9_letters_8 rfl (lv_at hl 0 rfl) ?_
    refine k_get (q0 := 8) (k := 1) (ci := 9) (v := .ref (ad 10)) hx hb hts inX9_letters_X9 hown hI rfl rfl (by decide) mX9_letters_fieldLink_15_StillText_Units_sizes_I rfl rfl dX9_letters_9 ?_
    refine lv_iload_n hx hb dX9_letters_12 rfl (lv_at hl 1 rfl) ?_
    refine k_iald (q0 := 10) (t0 := 0) (n := 80) (f := σ2 10) hx hb hI rfl rfl h.1 dX9_letters_13 ?_
    replace h := h.2
    refine lv_goto (tgt := 18) hx hb dX9_letters_14 (by decide) ?_
    exact k_iret hx hb hr hlocks hI h dX9_letters_18
theorem inX9_wordNumber_X9 : ∀ w ∈ wsX90, w ∈ wsX9_wordNumber := fun _ h => List.mem_cons_of_mem _ (List.mem_append_right _ (h))
theorem mX9_wordNumber_fieldLink_21_StillText_Units_count_I : Cond.fieldLink RX9 21 "StillText$Units" "count" "I" ∈ wsX9_wordNumber := List.mem_cons_of_mem _ (List.mem_append_left _ (List.mem_of_getElem? (i := 0) rfl))
set_option maxHeartbeats 4000000 in
set_option maxRecDepth 100000 in
theorem t_X9_wordNumber_4 {p : Program} {e : Env} {s : State} {m : MethodId} {args : Array Value} {below : List Frame} {meth : Method} {c : Code} {A : Nat → Prop} {x1 : Int32}  {Q : Int32 → St → Prop} (C : Cx p s m args meth c cX9_wordNumber 4 (some .int) RX9 wsX9_wordNumber) :
    ∀ (n : Nat) (σ : St) (x2 x3 : Int32) (H : Heap) (locs : List Loc) (ls : Array Slot), wpl_X9_wordNumber_4 x1 Q n σ x2 x3 → Iw D (tyE cyI cyZ) NwC (ZsC tL tS) (wC cyI cyZ ad) A s H locs σ → lv_has ls 4 [(0, .ref (ad 8)), (1, .int x1), (2, .int x2), (3, .int x3)] → W p l e r_X9_wordNumber s m args below meth c H locs 0 0 (MQ below (va_Qi Q (Kq D (tyE cyI cyZ) (wC cyI cyZ ad) A) A) args s 0 0 A) (F0 m 4 ls []) := by
  obtain ⟨hx, hb, hr, hml, hown, hts, hlocks⟩ := id C
  intro n
  induction n with
  | zero =>
    intro _ _ _ _ _ _ h
    exact h.elim
  | succ n ih =>
    intro σ x2 x3 H locs ls h hI hl
    unfold wpl_X9_wordNumber_4 at h
    refine lv_iload_n hx hb dX9_wordNumber_4 rfl (lv_at hl 3 rfl) ?_
    refine lv_iload_n hx hb dX9_wordNumber_5 rfl (lv_at hl 1 rfl) ?_
    refine lv_icmp_ge (tgt := 34) hx hb dX9_wordNumber_6 (by decide) (fun c1 => ?_) (fun c1 => ?_)
    · replace h := h.1 c1
      refine lv_iload_n hx hb dX9_wordNumber_34 rfl (lv_at hl 2 rfl) ?_
      exact k_iret hx hb hr hlocks hI h dX9_wordNumber_35
    · replace h := h.2 c1
      refine lv_iload_n hx hb dX9_wordNumber_9 rfl (lv_at hl 3 rfl) ?_
      refine lv_aload_n hx hb dX9_wordNumber_10 rfl (lv_at hl 0 rfl) ?_
      refine k_get (q0 := 8) (k := 3) (ci := 9) (v := .int (σ 8 3)) hx hb hts inX9_wordNumber_X9 hown hI rfl rfl (by decide) mX9_wordNumber_fieldLink_21_StillText_Units_count_I rfl rfl dX9_wordNumber_11 ?_
      refine lv_icmp_ge (tgt := 34) hx hb dX9_wordNumber_14 (by decide) (fun c2 => ?_) (fun c2 => ?_)
      · replace h := h.1 c2
        refine lv_iload_n hx hb dX9_wordNumber_34 rfl (lv_at hl 2 rfl) ?_
        exact k_iret hx hb hr hlocks hI h dX9_wordNumber_35
      · replace h := h.2 c2
        refine lv_aload_n hx hb dX9_wordNumber_17 rfl (lv_at hl 0 rfl) ?_
        refine lv_iload_n hx hb dX9_wordNumber_18 rfl (lv_at hl 3 rfl) ?_
        refine k_cVi (As := [.int x3]) (rest := []) C (c_X9_goesOn σ x3 _ h) (cwV 1 hts gX9_wordNumber_X9_goesOn rfl rfl rfl hdX9_goesOn ⟨Nat.le_of_ble_eq_true rfl, Nat.le_of_ble_eq_true rfl⟩) hI 8 rfl rfl rfl hl.1 rfl (Nat.le_of_ble_eq_true rfl) dX9_wordNumber_19 ⟨Nat.le_of_ble_eq_true rfl, Nat.le_of_ble_eq_true rfl⟩ (fun r3 σ4 H locs h hI => ?_)
        refine lv_if_ne (tgt := 28) hx hb dX9_wordNumber_22 (by decide) (fun c5 => ?_) (fun c5 => ?_)
        · replace h := h.1 c5
          refine lv_iinc (v := (x3 + nI 1)) (lv' := [(3, .int (x3 + nI 1)), (0, .ref (ad 8)), (1, .int x1), (2, .int x2)]) hx hb dX9_wordNumber_28 hl (k := 3) rfl rfl (by decide) rfl (fun ls hl => ?_)
          refine lv_goto (tgt := 4) hx hb dX9_wordNumber_31 (by decide) ?_
          exact ih _ _ _ _ _ _ h hI (lv_sub hl [1, 2, 3, 0] rfl)
        · replace h := h.2 c5
          refine lv_iinc (v := (x2 + nI 1)) (lv' := [(2, .int (x2 + nI 1)), (0, .ref (ad 8)), (1, .int x1), (3, .int x3)]) hx hb dX9_wordNumber_25 hl (k := 2) rfl rfl (by decide) rfl (fun ls hl => ?_)
          refine lv_iinc (v := (x3 + nI 1)) (lv' := [(3, .int (x3 + nI 1)), (2, .int (x2 + nI 1)), (0, .ref (ad 8)), (1, .int x1)]) hx hb dX9_wordNumber_28 hl (k := 3) rfl rfl (by decide) rfl (fun ls hl => ?_)
          refine lv_goto (tgt := 4) hx hb dX9_wordNumber_31 (by decide) ?_
          exact ih _ _ _ _ _ _ h hI (lv_sub hl [2, 3, 1, 0] rfl)
set_option maxHeartbeats 4000000 in
set_option maxRecDepth 100000 in
theorem c_X9_wordNumber (σ : St) (x1 : Int32) (Q : Int32 → St → Prop) (h : wp_X9_wordNumber σ x1 Q) : Ci l D (tyE cyI cyZ) NwC (ZsC tL tS) (wC cyI cyZ ad) yX9_wordNumber wsX9_wordNumber r_X9_wordNumber [.ref (ad 8), .int x1] σ Q := by
  refine k_metI (cc := cX9_wordNumber) (maxL := 4) (ret := (some .int)) (by decide) rfl (Nat.le_of_ble_eq_true rfl) ?_
  intro p e s m below meth c A ls C hI hl
  obtain ⟨hx, hb, hr, hml, hown, hts, hlocks⟩ := id C
  have hl : lv_has ls 4 [(0, .ref (ad 8)), (1, .int x1)] := hl
  unfold wp_X9_wordNumber at h
  refine lv_iconst (v := nI 0) hx hb dX9_wordNumber_0 (by decide) ?_
  refine lv_istore_n (lv' := [(2, .int (nI 0)), (0, .ref (ad 8)), (1, .int x1)]) hx hb dX9_wordNumber_1 rfl hl (by decide) rfl (fun ls hl => ?_)
  refine lv_iconst (v := nI 0) hx hb dX9_wordNumber_2 (by decide) ?_
  refine lv_istore_n (lv' := [(3, .int (nI 0)), (2, .int (nI 0)), (0, .ref (ad 8)), (1, .int x1)]) hx hb dX9_wordNumber_3 rfl hl (by decide) rfl (fun ls hl => ?_)
  obtain ⟨k6, h⟩ := h
  exact t_X9_wordNumber_4 C  k6 _ _ _ _ _ _ h hI (lv_sub hl [2, 3, 1, 0] rfl)
theorem inX10_unit_X10 : ∀ w ∈ wsX100, w ∈ wsX10_unit := fun _ h => List.mem_cons_of_mem _ (List.mem_append_left _ (List.mem_append_right _ (h)))
theorem mX10_unit_fieldLink_26_StillText_units_LStillText_Units : Cond.fieldLink RX10 26 "StillText" "units" "LStillText$Units;" ∈ wsX10_unit := List.mem_cons_of_mem _ (List.mem_append_left _ (List.mem_append_left _ (List.mem_append_left _ (List.mem_of_getElem? (i := 0) rfl))))
set_option maxHeartbeats 4000000 in
set_option maxRecDepth 100000 in
theorem c_X10_unit (σ : St) (x1 x2 : Int32) (Q : Int32 → St → Prop) (h : wp_X10_unit σ x1 x2 Q) : Ci l D (tyE cyI cyZ) NwC (ZsC tL tS) (wC cyI cyZ ad) yX10_unit wsX10_unit r_X10_unit [.ref (ad 0), .int x1, .int x2] σ Q := by
  refine k_metI (cc := cX10_unit) (maxL := 3) (ret := (some .int)) (by decide) rfl (Nat.le_of_ble_eq_true rfl) ?_
  intro p e s m below meth c A ls C hI hl
  obtain ⟨hx, hb, hr, hml, hown, hts, hlocks⟩ := id C
  have hl : lv_has ls 3 [(0, .ref (ad 0)), (1, .int x1), (2, .int x2)] := hl
  unfold wp_X10_unit at h
  refine lv_aload_n hx hb dX10_unit_0 rfl (lv_at hl 0 rfl) ?_
  refine k_get (q0 := 0) (k := 2) (ci := 10) (v := .ref (ad 8)) hx hb hts inX10_unit_X10 hown hI rfl rfl (by decide) mX10_unit_fieldLink_26_StillText_units_LStillText_Units rfl rfl dX10_unit_1 ?_
  refine lv_iload_n hx hb dX10_unit_4 rfl (lv_at hl 1 rfl) ?_
  refine k_cVi (As := [.int x1]) (rest := []) C (c_X9_has σ x1 _ h) (cwV 1 hts gX10_unit_X9_has rfl rfl rfl hdX9_has ⟨Nat.le_of_ble_eq_true rfl, Nat.le_of_ble_eq_true rfl⟩) hI 8 rfl rfl rfl hl.1 rfl (Nat.le_of_ble_eq_true rfl) dX10_unit_5 ⟨Nat.le_of_ble_eq_true rfl, Nat.le_of_ble_eq_true rfl⟩ (fun r1 σ2 H locs h hI => ?_)
  refine lv_if_ne (tgt := 13) hx hb dX10_unit_8 (by decide) (fun c3 => ?_) (fun c3 => ?_)
  · replace h := h.1 c3
    refine lv_iload_n hx hb dX10_unit_13 rfl (lv_at hl 2 rfl) ?_
    by_cases c4 : x2 = nI 0
    · replace h := h.1 c4
      refine lv_tableIn (off := 26) (tgt := 40) hx hb dX10_unit_14 (by rw [c4]; decide) (by rw [c4]; decide) (by rw [c4]; rfl) (by decide) ?_
      refine lv_aload_n hx hb dX10_unit_40 rfl (lv_at hl 0 rfl) ?_
      refine k_get (q0 := 0) (k := 2) (ci := 10) (v := .ref (ad 8)) hx hb hts inX10_unit_X10 hown hI rfl rfl (by decide) mX10_unit_fieldLink_26_StillText_units_LStillText_Units rfl rfl dX10_unit_41 ?_
      refine lv_iload_n hx hb dX10_unit_44 rfl (lv_at hl 1 rfl) ?_
      refine k_cVi (As := [.int x1]) (rest := []) C (c_X9_letters σ2 x1 _ h) (cwV 1 hts gX10_unit_X9_letters rfl rfl rfl hdX9_letters ⟨Nat.le_of_ble_eq_true rfl, Nat.le_of_ble_eq_true rfl⟩) hI 8 rfl rfl rfl hl.1 rfl (Nat.le_of_ble_eq_true rfl) dX10_unit_45 ⟨Nat.le_of_ble_eq_true rfl, Nat.le_of_ble_eq_true rfl⟩ (fun r5 σ6 H locs h hI => ?_)
      exact k_iret hx hb hr hlocks hI h dX10_unit_48
    · replace h := h.2 c4
      by_cases c7 : x2 = nI 1
      · replace h := h.1 c7
        refine lv_tableIn (off := 35) (tgt := 49) hx hb dX10_unit_14 (by rw [c7]; decide) (by rw [c7]; decide) (by rw [c7]; rfl) (by decide) ?_
        refine lv_aload_n hx hb dX10_unit_49 rfl (lv_at hl 0 rfl) ?_
        refine k_get (q0 := 0) (k := 2) (ci := 10) (v := .ref (ad 8)) hx hb hts inX10_unit_X10 hown hI rfl rfl (by decide) mX10_unit_fieldLink_26_StillText_units_LStillText_Units rfl rfl dX10_unit_50 ?_
        refine lv_iload_n hx hb dX10_unit_53 rfl (lv_at hl 1 rfl) ?_
        refine k_cVi (As := [.int x1]) (rest := []) C (c_X9_behind σ2 x1 _ h) (cwV 1 hts gX10_unit_X9_behind rfl rfl rfl hdX9_behind ⟨Nat.le_of_ble_eq_true rfl, Nat.le_of_ble_eq_true rfl⟩) hI 8 rfl rfl rfl hl.1 rfl (Nat.le_of_ble_eq_true rfl) dX10_unit_54 ⟨Nat.le_of_ble_eq_true rfl, Nat.le_of_ble_eq_true rfl⟩ (fun r8 σ9 H locs h hI => ?_)
        exact k_iret hx hb hr hlocks hI h dX10_unit_57
      · replace h := h.2 c7
        by_cases c10 : x2 = nI 2
        · replace h := h.1 c10
          refine lv_tableIn (off := 44) (tgt := 58) hx hb dX10_unit_14 (by rw [c10]; decide) (by rw [c10]; decide) (by rw [c10]; rfl) (by decide) ?_
          refine lv_aload_n hx hb dX10_unit_58 rfl (lv_at hl 0 rfl) ?_
          refine k_get (q0 := 0) (k := 2) (ci := 10) (v := .ref (ad 8)) hx hb hts inX10_unit_X10 hown hI rfl rfl (by decide) mX10_unit_fieldLink_26_StillText_units_LStillText_Units rfl rfl dX10_unit_59 ?_
          refine lv_iload_n hx hb dX10_unit_62 rfl (lv_at hl 1 rfl) ?_
          refine k_cVi (As := [.int x1]) (rest := []) C (c_X9_wordNumber σ2 x1 _ h) (cwV 1 hts gX10_unit_X9_wordNumber rfl rfl rfl hdX9_wordNumber ⟨Nat.le_of_ble_eq_true rfl, Nat.le_of_ble_eq_true rfl⟩) hI 8 rfl rfl rfl hl.1 rfl (Nat.le_of_ble_eq_true rfl) dX10_unit_63 ⟨Nat.le_of_ble_eq_true rfl, Nat.le_of_ble_eq_true rfl⟩ (fun r11 σ12 H locs h hI => ?_)
          exact k_iret hx hb hr hlocks hI h dX10_unit_66
        · replace h := h.2 c10
          have ec4 := lv_neT c4 (a := 0) (by decide)
          have ec7 := lv_neT c7 (a := 1) (by decide)
          have ec10 := lv_neT c10 (a := 2) (by decide)
          refine lv_tableOut (tgt := 67) hx hb dX10_unit_14 (by omega) (by decide) ?_
          refine lv_iconst (v := (-1)) hx hb dX10_unit_67 (by decide) ?_
          exact k_iret hx hb hr hlocks hI h dX10_unit_68
  · replace h := h.2 c3
    refine lv_iconst (v := (-1)) hx hb dX10_unit_11 (by decide) ?_
    exact k_iret hx hb hr hlocks hI h dX10_unit_12
theorem mX1_changeLine_initialized : Cond.initialized RX10 ∈ wsX1_changeLine := List.mem_cons_of_mem _ (List.mem_append_left _ (List.mem_of_getElem? (i := 3) rfl))
theorem mX1_changeLine_static_yX10_within : Cond.static yX10_within ∈ wsX1_changeLine := List.mem_cons_of_mem _ (List.mem_append_left _ (List.mem_of_getElem? (i := 2) rfl))
theorem inX1_changeLine_X1 : ∀ w ∈ wsX10, w ∈ wsX1_changeLine := fun _ h => List.mem_cons_of_mem _ (List.mem_append_right _ (h))
theorem mX1_changeLine_fieldLink_9_StillText_Measures_longest_I : Cond.fieldLink RX1 9 "StillText$Measures" "longest" "I" ∈ wsX1_changeLine := List.mem_cons_of_mem _ (List.mem_append_left _ (List.mem_of_getElem? (i := 0) rfl))
theorem mX1_changeLine_fieldLink_15_StillText_Measures_spread_I : Cond.fieldLink RX1 15 "StillText$Measures" "spread" "I" ∈ wsX1_changeLine := List.mem_cons_of_mem _ (List.mem_append_left _ (List.mem_of_getElem? (i := 1) rfl))
set_option maxHeartbeats 4000000 in
set_option maxRecDepth 100000 in
theorem c_X1_changeLine (σ : St) (x1 x2 : Int32) (Q : Int32 → St → Prop) (h : wp_X1_changeLine σ x1 x2 Q) : Ci l D (tyE cyI cyZ) NwC (ZsC tL tS) (wC cyI cyZ ad) yX1_changeLine wsX1_changeLine r_X1_changeLine [.ref (ad 12), .int x1, .int x2] σ Q := by
  refine k_metI (cc := cX1_changeLine) (maxL := 3) (ret := (some .boolean)) (by decide) rfl (Nat.le_of_ble_eq_true rfl) ?_
  intro p e s m below meth c A ls C hI hl
  obtain ⟨hx, hb, hr, hml, hown, hts, hlocks⟩ := id C
  have hl : lv_has ls 3 [(0, .ref (ad 12)), (1, .int x1), (2, .int x2)] := hl
  unfold wp_X1_changeLine at h
  refine lv_iload_n hx hb dX1_changeLine_0 rfl (lv_at hl 1 rfl) ?_
  refine lv_bipush (v := nI 10) hx hb dX1_changeLine_1 (by decide) ?_
  refine lv_bipush (v := nI 60) hx hb dX1_changeLine_3 (by decide) ?_
  refine k_cNi (As := [.int x1, .int (nI 10), .int (nI 60)]) (rest := []) (host := RX10) C (c_X10_within σ x1 (nI 10) (nI 60) _ h) gX1_changeLine_X10_within_n42 rfl rfl rfl (List.mem_of_getElem? (i := 1) rfl) mX1_changeLine_initialized mX1_changeLine_static_yX10_within hdX10_within ⟨Nat.le_of_ble_eq_true rfl, Nat.le_of_ble_eq_true rfl⟩ hI rfl hl.1 rfl (Nat.le_of_ble_eq_true rfl) dX1_changeLine_5 ⟨Nat.le_of_ble_eq_true rfl, Nat.le_of_ble_eq_true rfl⟩ (fun r1 σ2 H locs h hI => ?_)
  refine lv_if_eq (tgt := 20) hx hb dX1_changeLine_8 (by decide) (fun c3 => ?_) (fun c3 => ?_)
  · replace h := h.1 c3
    refine lv_iconst (v := nI 0) hx hb dX1_changeLine_20 (by decide) ?_
    exact k_zret hx hb hr hlocks hI (Or.inl rfl) h dX1_changeLine_21
  · replace h := h.2 c3
    refine lv_iload_n hx hb dX1_changeLine_11 rfl (lv_at hl 2 rfl) ?_
    refine lv_iconst (v := nI 1) hx hb dX1_changeLine_12 (by decide) ?_
    refine lv_iconst (v := nI 3) hx hb dX1_changeLine_13 (by decide) ?_
    refine k_cNi (As := [.int x2, .int (nI 1), .int (nI 3)]) (rest := []) (host := RX10) C (c_X10_within σ2 x2 (nI 1) (nI 3) _ h) gX1_changeLine_X10_within_n42 rfl rfl rfl (List.mem_of_getElem? (i := 1) rfl) mX1_changeLine_initialized mX1_changeLine_static_yX10_within hdX10_within ⟨Nat.le_of_ble_eq_true rfl, Nat.le_of_ble_eq_true rfl⟩ hI rfl hl.1 rfl (Nat.le_of_ble_eq_true rfl) dX1_changeLine_14 ⟨Nat.le_of_ble_eq_true rfl, Nat.le_of_ble_eq_true rfl⟩ (fun r4 σ5 H locs h hI => ?_)
    refine lv_if_ne (tgt := 22) hx hb dX1_changeLine_17 (by decide) (fun c6 => ?_) (fun c6 => ?_)
    · replace h := h.1 c6
      refine lv_aload_n hx hb dX1_changeLine_22 rfl (lv_at hl 0 rfl) ?_
      refine lv_iload_n hx hb dX1_changeLine_23 rfl (lv_at hl 1 rfl) ?_
      refine k_put (q0 := 12) (k := 0) (ci := 1) (v := .int x1) (σ' := up2 σ5 12 0 x1) hx hb hts inX1_changeLine_X1 tyX1 tyX1_ok nmX1 hown hI rfl rfl (by decide) mX1_changeLine_fieldLink_9_StillText_Measures_longest_I rfl rfl rfl rfl (Nat.le_of_ble_eq_true rfl) (wsC_12_0 _ _ _ _ _) dX1_changeLine_24 (fun H locs hI => ?_)
      refine lv_aload_n hx hb dX1_changeLine_27 rfl (lv_at hl 0 rfl) ?_
      refine lv_iload_n hx hb dX1_changeLine_28 rfl (lv_at hl 2 rfl) ?_
      refine k_put (q0 := 12) (k := 1) (ci := 1) (v := .int x2) (σ' := up2 (up2 σ5 12 0 x1) 12 1 x2) hx hb hts inX1_changeLine_X1 tyX1 tyX1_ok nmX1 hown hI rfl rfl (by decide) mX1_changeLine_fieldLink_15_StillText_Measures_spread_I rfl rfl rfl rfl (Nat.le_of_ble_eq_true rfl) (wsC_12_1 _ _ _ _ _) dX1_changeLine_29 (fun H locs hI => ?_)
      refine lv_iconst (v := nI 1) hx hb dX1_changeLine_32 (by decide) ?_
      exact k_zret hx hb hr hlocks hI (Or.inr rfl) h dX1_changeLine_33
    · replace h := h.2 c6
      refine lv_iconst (v := nI 0) hx hb dX1_changeLine_20 (by decide) ?_
      exact k_zret hx hb hr hlocks hI (Or.inl rfl) h dX1_changeLine_21
theorem inX10_measure_X10 : ∀ w ∈ wsX100, w ∈ wsX10_measure := fun _ h => List.mem_cons_of_mem _ (List.mem_append_left _ (List.mem_append_right _ (h)))
theorem mX10_measure_fieldLink_33_StillText_measures_LStillText_Measures : Cond.fieldLink RX10 33 "StillText" "measures" "LStillText$Measures;" ∈ wsX10_measure := List.mem_cons_of_mem _ (List.mem_append_left _ (List.mem_append_left _ (List.mem_of_getElem? (i := 0) rfl)))
set_option maxHeartbeats 4000000 in
set_option maxRecDepth 100000 in
theorem c_X10_measure (σ : St) (x1 x2 : Int32) (Q : Int32 → St → Prop) (h : wp_X10_measure σ x1 x2 Q) : Ci l D (tyE cyI cyZ) NwC (ZsC tL tS) (wC cyI cyZ ad) yX10_measure wsX10_measure r_X10_measure [.ref (ad 0), .int x1, .int x2] σ Q := by
  refine k_metI (cc := cX10_measure) (maxL := 3) (ret := (some .boolean)) (by decide) rfl (Nat.le_of_ble_eq_true rfl) ?_
  intro p e s m below meth c A ls C hI hl
  obtain ⟨hx, hb, hr, hml, hown, hts, hlocks⟩ := id C
  have hl : lv_has ls 3 [(0, .ref (ad 0)), (1, .int x1), (2, .int x2)] := hl
  unfold wp_X10_measure at h
  refine lv_aload_n hx hb dX10_measure_0 rfl (lv_at hl 0 rfl) ?_
  refine k_get (q0 := 0) (k := 3) (ci := 10) (v := .ref (ad 12)) hx hb hts inX10_measure_X10 hown hI rfl rfl (by decide) mX10_measure_fieldLink_33_StillText_measures_LStillText_Measures rfl rfl dX10_measure_1 ?_
  refine lv_iload_n hx hb dX10_measure_4 rfl (lv_at hl 1 rfl) ?_
  refine lv_iload_n hx hb dX10_measure_5 rfl (lv_at hl 2 rfl) ?_
  refine k_cVi (As := [.int x1, .int x2]) (rest := []) C (c_X1_changeLine σ x1 x2 _ h) (cwV 2 hts gX10_measure_X1_changeLine rfl rfl rfl hdX1_changeLine ⟨Nat.le_of_ble_eq_true rfl, Nat.le_of_ble_eq_true rfl⟩) hI 12 rfl rfl rfl hl.1 rfl (Nat.le_of_ble_eq_true rfl) dX10_measure_6 ⟨Nat.le_of_ble_eq_true rfl, Nat.le_of_ble_eq_true rfl⟩ (fun r1 σ2 H locs h hI => ?_)
  exact k_zret hx hb hr hlocks hI h.1 h.2 dX10_measure_9
set_option maxHeartbeats 4000000 in
set_option maxRecDepth 100000 in
theorem c_X1_pair (σ : St) (x0 x1 : Int32) (Q : Int32 → St → Prop) (h : wp_X1_pair σ x0 x1 Q) : Ci l D (tyE cyI cyZ) NwC (ZsC tL tS) (wC cyI cyZ ad) yX1_pair wsX1_pair r_X1_pair [.int x0, .int x1] σ Q := by
  refine k_metI (cc := cX1_pair) (maxL := 2) (ret := (some .int)) (by decide) rfl (Nat.le_of_ble_eq_true rfl) ?_
  intro p e s m below meth c A ls C hI hl
  obtain ⟨hx, hb, hr, hml, hown, hts, hlocks⟩ := id C
  have hl : lv_has ls 2 [(0, .int x0), (1, .int x1)] := hl
  unfold wp_X1_pair at h
  refine lv_iload_n hx hb dX1_pair_0 rfl (lv_at hl 0 rfl) ?_
  refine lv_bipush (v := nI 28) hx hb dX1_pair_1 (by decide) ?_
  refine lv_imul hx hb dX1_pair_3 ?_
  refine lv_iload_n hx hb dX1_pair_4 rfl (lv_at hl 1 rfl) ?_
  refine lv_iadd hx hb dX1_pair_5 ?_
  exact k_iret hx hb hr hlocks hI h dX1_pair_6
theorem mX1_changeStrains_initialized : Cond.initialized RX10 ∈ wsX1_changeStrains := List.mem_cons_of_mem _ (List.mem_append_left _ (List.mem_of_getElem? (i := 6) rfl))
theorem mX1_changeStrains_static_yX10_within : Cond.static yX10_within ∈ wsX1_changeStrains := List.mem_cons_of_mem _ (List.mem_append_left _ (List.mem_of_getElem? (i := 5) rfl))
theorem inX1_changeStrains_X1 : ∀ w ∈ wsX10, w ∈ wsX1_changeStrains := fun _ h => List.mem_cons_of_mem _ (List.mem_append_right _ (h))
theorem mX1_changeStrains_fieldLink_18_StillText_Measures_shortest_I : Cond.fieldLink RX1 18 "StillText$Measures" "shortest" "I" ∈ wsX1_changeStrains := List.mem_cons_of_mem _ (List.mem_append_left _ (List.mem_of_getElem? (i := 0) rfl))
theorem mX1_changeStrains_fieldLink_21_StillText_Measures_phrase_I : Cond.fieldLink RX1 21 "StillText$Measures" "phrase" "I" ∈ wsX1_changeStrains := List.mem_cons_of_mem _ (List.mem_append_left _ (List.mem_of_getElem? (i := 1) rfl))
theorem mX1_changeStrains_fieldLink_24_StillText_Measures_inner_I : Cond.fieldLink RX1 24 "StillText$Measures" "inner" "I" ∈ wsX1_changeStrains := List.mem_cons_of_mem _ (List.mem_append_left _ (List.mem_of_getElem? (i := 2) rfl))
theorem mX1_changeStrains_fieldLink_27_StillText_Measures_cut_I : Cond.fieldLink RX1 27 "StillText$Measures" "cut" "I" ∈ wsX1_changeStrains := List.mem_cons_of_mem _ (List.mem_append_left _ (List.mem_of_getElem? (i := 3) rfl))
theorem mX1_changeStrains_fieldLink_30_StillText_Measures_places_I : Cond.fieldLink RX1 30 "StillText$Measures" "places" "[I" ∈ wsX1_changeStrains := List.mem_cons_of_mem _ (List.mem_append_left _ (List.mem_of_getElem? (i := 4) rfl))
set_option maxHeartbeats 4000000 in
set_option maxRecDepth 100000 in
theorem t_X1_changeStrains_38 {p : Program} {e : Env} {s : State} {m : MethodId} {args : Array Value} {below : List Frame} {meth : Method} {c : Code} {A : Nat → Prop} {x1 x2 x3 x4 x5 : Int32}  {Q : Int32 → St → Prop} (C : Cx p s m args meth c cX1_changeStrains 7 (some .boolean) RX1 wsX1_changeStrains) :
    ∀ (σ : St) (H : Heap) (locs : List Loc) (ls : Array Slot), wpj_X1_changeStrains_38 x1 x2 x3 x4 x5 Q σ → Iw D (tyE cyI cyZ) NwC (ZsC tL tS) (wC cyI cyZ ad) A s H locs σ → lv_has ls 7 [(0, .ref (ad 12)), (1, .int x1), (2, .int x2), (3, .int x3), (4, .int x4), (5, .int x5)] → W p l e r_X1_changeStrains s m args below meth c H locs 0 0 (MQ below (va_Qi Q (Kq D (tyE cyI cyZ) (wC cyI cyZ ad) A) A) args s 0 0 A) (F0 m 38 ls []) := by
  obtain ⟨hx, hb, hr, hml, hown, hts, hlocks⟩ := id C
  intro σ H locs ls h hI hl
  unfold wpj_X1_changeStrains_38 at h
  refine lv_iconst (v := nI 0) hx hb dX1_changeStrains_38 (by decide) ?_
  refine lv_istore (lv' := [(6, .int (nI 0)), (0, .ref (ad 12)), (1, .int x1), (2, .int x2), (3, .int x3), (4, .int x4), (5, .int x5)]) hx hb dX1_changeStrains_39 hl (by decide) rfl (fun ls hl => ?_)
  refine lv_iload hx hb dX1_changeStrains_41 (lv_at hl 0 rfl) ?_
  refine lv_if_eq (tgt := 68) hx hb dX1_changeStrains_43 (by decide) (fun c4 => ?_) (fun c4 => ?_)
  · refine lv_iconst (v := nI 0) hx hb dX1_changeStrains_68 (by decide) ?_
    exact k_zret hx hb hr hlocks hI (Or.inl rfl) h dX1_changeStrains_69
  · exact absurd c4 (by decide)
set_option maxHeartbeats 4000000 in
set_option maxRecDepth 100000 in
theorem c_X1_changeStrains (σ : St) (x1 x2 x3 x4 x5 : Int32) (Q : Int32 → St → Prop) (h : wp_X1_changeStrains σ x1 x2 x3 x4 x5 Q) : Ci l D (tyE cyI cyZ) NwC (ZsC tL tS) (wC cyI cyZ ad) yX1_changeStrains wsX1_changeStrains r_X1_changeStrains [.ref (ad 12), .int x1, .int x2, .int x3, .int x4, .int x5] σ Q := by
  refine k_metI (cc := cX1_changeStrains) (maxL := 7) (ret := (some .boolean)) (by decide) rfl (Nat.le_of_ble_eq_true rfl) ?_
  intro p e s m below meth c A ls C hI hl
  obtain ⟨hx, hb, hr, hml, hown, hts, hlocks⟩ := id C
  have hl : lv_has ls 7 [(0, .ref (ad 12)), (1, .int x1), (2, .int x2), (3, .int x3), (4, .int x4), (5, .int x5)] := hl
  unfold wp_X1_changeStrains at h
  refine lv_iload_n hx hb dX1_changeStrains_0 rfl (lv_at hl 2 rfl) ?_
  refine lv_iconst (v := nI 0) hx hb dX1_changeStrains_1 (by decide) ?_
  refine lv_sipush (v := nI 10000) hx hb dX1_changeStrains_2 (by decide) ?_
  refine k_cNi (As := [.int x2, .int (nI 0), .int (nI 10000)]) (rest := []) (host := RX10) C (c_X10_within σ x2 (nI 0) (nI 10000) _ h) gX1_changeStrains_X10_within_n42 rfl rfl rfl (List.mem_of_getElem? (i := 1) rfl) mX1_changeStrains_initialized mX1_changeStrains_static_yX10_within hdX10_within ⟨Nat.le_of_ble_eq_true rfl, Nat.le_of_ble_eq_true rfl⟩ hI rfl hl.1 rfl (Nat.le_of_ble_eq_true rfl) dX1_changeStrains_5 ⟨Nat.le_of_ble_eq_true rfl, Nat.le_of_ble_eq_true rfl⟩ (fun r1 σ2 H locs h hI => ?_)
  refine lv_if_eq (tgt := 38) hx hb dX1_changeStrains_8 (by decide) (fun c3 => ?_) (fun c3 => ?_)
  · replace h := h.1 c3
    exact t_X1_changeStrains_38 C  _ _ _ _ h hI (lv_sub hl [0, 1, 2, 3, 4, 5] rfl)
  · replace h := h.2 c3
    refine lv_iload_n hx hb dX1_changeStrains_11 rfl (lv_at hl 3 rfl) ?_
    refine lv_iconst (v := nI 0) hx hb dX1_changeStrains_12 (by decide) ?_
    refine lv_sipush (v := nI 10000) hx hb dX1_changeStrains_13 (by decide) ?_
    refine k_cNi (As := [.int x3, .int (nI 0), .int (nI 10000)]) (rest := []) (host := RX10) C (c_X10_within σ2 x3 (nI 0) (nI 10000) _ h) gX1_changeStrains_X10_within_n42 rfl rfl rfl (List.mem_of_getElem? (i := 1) rfl) mX1_changeStrains_initialized mX1_changeStrains_static_yX10_within hdX10_within ⟨Nat.le_of_ble_eq_true rfl, Nat.le_of_ble_eq_true rfl⟩ hI rfl hl.1 rfl (Nat.le_of_ble_eq_true rfl) dX1_changeStrains_16 ⟨Nat.le_of_ble_eq_true rfl, Nat.le_of_ble_eq_true rfl⟩ (fun r5 σ6 H locs h hI => ?_)
    refine lv_if_eq (tgt := 38) hx hb dX1_changeStrains_19 (by decide) (fun c7 => ?_) (fun c7 => ?_)
    · replace h := h.1 c7
      exact t_X1_changeStrains_38 C  _ _ _ _ h hI (lv_sub hl [0, 1, 2, 3, 4, 5] rfl)
    · replace h := h.2 c7
      refine lv_iload hx hb dX1_changeStrains_22 (lv_at hl 4 rfl) ?_
      refine lv_iconst (v := nI 0) hx hb dX1_changeStrains_24 (by decide) ?_
      refine lv_sipush (v := nI 10000) hx hb dX1_changeStrains_25 (by decide) ?_
      refine k_cNi (As := [.int x4, .int (nI 0), .int (nI 10000)]) (rest := []) (host := RX10) C (c_X10_within σ6 x4 (nI 0) (nI 10000) _ h) gX1_changeStrains_X10_within_n42 rfl rfl rfl (List.mem_of_getElem? (i := 1) rfl) mX1_changeStrains_initialized mX1_changeStrains_static_yX10_within hdX10_within ⟨Nat.le_of_ble_eq_true rfl, Nat.le_of_ble_eq_true rfl⟩ hI rfl hl.1 rfl (Nat.le_of_ble_eq_true rfl) dX1_changeStrains_28 ⟨Nat.le_of_ble_eq_true rfl, Nat.le_of_ble_eq_true rfl⟩ (fun r8 σ9 H locs h hI => ?_)
      refine lv_if_eq (tgt := 38) hx hb dX1_changeStrains_31 (by decide) (fun c10 => ?_) (fun c10 => ?_)
      · replace h := h.1 c10
        exact t_X1_changeStrains_38 C  _ _ _ _ h hI (lv_sub hl [0, 1, 2, 3, 4, 5] rfl)
      · replace h := h.2 c10
        refine lv_iconst (v := nI 1) hx hb dX1_changeStrains_34 (by decide) ?_
        refine lv_goto (tgt := 39) hx hb dX1_changeStrains_35 (by decide) ?_
        refine lv_istore (lv' := [(6, .int (nI 1)), (0, .ref (ad 12)), (1, .int x1), (2, .int x2), (3, .int x3), (4, .int x4), (5, .int x5)]) hx hb dX1_changeStrains_39 hl (by decide) rfl (fun ls hl => ?_)
        refine lv_iload hx hb dX1_changeStrains_41 (lv_at hl 0 rfl) ?_
        refine lv_if_eq (tgt := 68) hx hb dX1_changeStrains_43 (by decide) (fun c11 => ?_) (fun c11 => ?_)
        · exact absurd c11 (by decide)
        · refine lv_iload_n hx hb dX1_changeStrains_46 rfl (lv_at hl 2 rfl) ?_
          refine lv_iconst (v := nI 0) hx hb dX1_changeStrains_47 (by decide) ?_
          refine lv_bipush (v := nI 100) hx hb dX1_changeStrains_48 (by decide) ?_
          refine k_cNi (As := [.int x1, .int (nI 0), .int (nI 100)]) (rest := []) (host := RX10) C (c_X10_within σ9 x1 (nI 0) (nI 100) _ h) gX1_changeStrains_X10_within_n42 rfl rfl rfl (List.mem_of_getElem? (i := 1) rfl) mX1_changeStrains_initialized mX1_changeStrains_static_yX10_within hdX10_within ⟨Nat.le_of_ble_eq_true rfl, Nat.le_of_ble_eq_true rfl⟩ hI rfl hl.1 rfl (Nat.le_of_ble_eq_true rfl) dX1_changeStrains_50 ⟨Nat.le_of_ble_eq_true rfl, Nat.le_of_ble_eq_true rfl⟩ (fun r12 σ13 H locs h hI => ?_)
          refine lv_if_eq (tgt := 68) hx hb dX1_changeStrains_53 (by decide) (fun c14 => ?_) (fun c14 => ?_)
          · replace h := h.1 c14
            refine lv_iconst (v := nI 0) hx hb dX1_changeStrains_68 (by decide) ?_
            exact k_zret hx hb hr hlocks hI (Or.inl rfl) h dX1_changeStrains_69
          · replace h := h.2 c14
            refine lv_iload hx hb dX1_changeStrains_56 (lv_at hl 6 rfl) ?_
            refine lv_iconst (v := nI 0) hx hb dX1_changeStrains_58 (by decide) ?_
            refine lv_sipush (v := nI 1000) hx hb dX1_changeStrains_59 (by decide) ?_
            refine k_cNi (As := [.int x5, .int (nI 0), .int (nI 1000)]) (rest := []) (host := RX10) C (c_X10_within σ13 x5 (nI 0) (nI 1000) _ h) gX1_changeStrains_X10_within_n42 rfl rfl rfl (List.mem_of_getElem? (i := 1) rfl) mX1_changeStrains_initialized mX1_changeStrains_static_yX10_within hdX10_within ⟨Nat.le_of_ble_eq_true rfl, Nat.le_of_ble_eq_true rfl⟩ hI rfl hl.1 rfl (Nat.le_of_ble_eq_true rfl) dX1_changeStrains_62 ⟨Nat.le_of_ble_eq_true rfl, Nat.le_of_ble_eq_true rfl⟩ (fun r15 σ16 H locs h hI => ?_)
            refine lv_if_ne (tgt := 70) hx hb dX1_changeStrains_65 (by decide) (fun c17 => ?_) (fun c17 => ?_)
            · replace h := h.1 c17
              refine lv_aload_n hx hb dX1_changeStrains_70 rfl (lv_at hl 1 rfl) ?_
              refine lv_iload_n hx hb dX1_changeStrains_71 rfl (lv_at hl 2 rfl) ?_
              refine k_put (q0 := 12) (k := 2) (ci := 1) (v := .int x1) (σ' := up2 σ16 12 2 x1) hx hb hts inX1_changeStrains_X1 tyX1 tyX1_ok nmX1 hown hI rfl rfl (by decide) mX1_changeStrains_fieldLink_18_StillText_Measures_shortest_I rfl rfl rfl rfl (Nat.le_of_ble_eq_true rfl) (wsC_12_2 _ _ _ _ _) dX1_changeStrains_72 (fun H locs hI => ?_)
              refine lv_aload_n hx hb dX1_changeStrains_75 rfl (lv_at hl 1 rfl) ?_
              refine lv_iload_n hx hb dX1_changeStrains_76 rfl (lv_at hl 3 rfl) ?_
              refine k_put (q0 := 12) (k := 3) (ci := 1) (v := .int x2) (σ' := up2 (up2 σ16 12 2 x1) 12 3 x2) hx hb hts inX1_changeStrains_X1 tyX1 tyX1_ok nmX1 hown hI rfl rfl (by decide) mX1_changeStrains_fieldLink_21_StillText_Measures_phrase_I rfl rfl rfl rfl (Nat.le_of_ble_eq_true rfl) (wsC_12_3 _ _ _ _ _) dX1_changeStrains_77 (fun H locs hI => ?_)
              refine lv_aload_n hx hb dX1_changeStrains_80 rfl (lv_at hl 1 rfl) ?_
              refine lv_iload_n hx hb dX1_changeStrains_81 rfl (lv_at hl 4 rfl) ?_
              refine k_put (q0 := 12) (k := 4) (ci := 1) (v := .int x3) (σ' := up2 (up2 (up2 σ16 12 2 x1) 12 3 x2) 12 4 x3) hx hb hts inX1_changeStrains_X1 tyX1 tyX1_ok nmX1 hown hI rfl rfl (by decide) mX1_changeStrains_fieldLink_24_StillText_Measures_inner_I rfl rfl rfl rfl (Nat.le_of_ble_eq_true rfl) (wsC_12_4 _ _ _ _ _) dX1_changeStrains_82 (fun H locs hI => ?_)
              refine lv_aload_n hx hb dX1_changeStrains_85 rfl (lv_at hl 1 rfl) ?_
              refine lv_iload hx hb dX1_changeStrains_86 (lv_at hl 5 rfl) ?_
              refine k_put (q0 := 12) (k := 5) (ci := 1) (v := .int x4) (σ' := up2 (up2 (up2 (up2 σ16 12 2 x1) 12 3 x2) 12 4 x3) 12 5 x4) hx hb hts inX1_changeStrains_X1 tyX1 tyX1_ok nmX1 hown hI rfl rfl (by decide) mX1_changeStrains_fieldLink_27_StillText_Measures_cut_I rfl rfl rfl rfl (Nat.le_of_ble_eq_true rfl) (wsC_12_5 _ _ _ _ _) dX1_changeStrains_88 (fun H locs hI => ?_)
              refine lv_aload_n hx hb dX1_changeStrains_91 rfl (lv_at hl 1 rfl) ?_
              refine k_get (q0 := 12) (k := 6) (ci := 1) (v := .ref (ad 13)) hx hb hts inX1_changeStrains_X1 hown hI rfl rfl (by decide) mX1_changeStrains_fieldLink_30_StillText_Measures_places_I rfl rfl dX1_changeStrains_92 ?_
              refine lv_bipush (v := nI 26) hx hb dX1_changeStrains_95 (by decide) ?_
              refine lv_bipush (v := nI 26) hx hb dX1_changeStrains_97 (by decide) ?_
              refine k_cSi (As := [.int (nI 26), .int (nI 26)]) (rest := [.ref (ad 13)]) C (c_X1_pair (up2 (up2 (up2 (up2 σ16 12 2 x1) 12 3 x2) 12 4 x3) 12 5 x4) (nI 26) (nI 26) _ h) (va_cwS 2 hts gX1_changeStrains_X1_pair rfl rfl rfl hdX1_pair ⟨Nat.le_of_ble_eq_true rfl, Nat.le_of_ble_eq_true rfl⟩) hI rfl hl.1 rfl (Nat.le_of_ble_eq_true rfl) dX1_changeStrains_99 ⟨Nat.le_of_ble_eq_true rfl, Nat.le_of_ble_eq_true rfl⟩ (fun r18 σ19 H locs h hI => ?_)
              refine lv_iload hx hb dX1_changeStrains_102 (lv_at hl 6 rfl) ?_
              refine k_iast (q0 := 13) (t0 := 0) (n := 784) (σ' := up2 σ19 13 r18.toNatClampNeg x5) hx hb hI rfl rfl h.1 (wsC_13 _ _ _ _ _ _) dX1_changeStrains_104 (fun H locs hI => ?_)
              replace h := h.2
              refine lv_iconst (v := nI 1) hx hb dX1_changeStrains_105 (by decide) ?_
              exact k_zret hx hb hr hlocks hI (Or.inr rfl) h dX1_changeStrains_106
            · replace h := h.2 c17
              refine lv_iconst (v := nI 0) hx hb dX1_changeStrains_68 (by decide) ?_
              exact k_zret hx hb hr hlocks hI (Or.inl rfl) h dX1_changeStrains_69
theorem inX10_strains_X10 : ∀ w ∈ wsX100, w ∈ wsX10_strains := fun _ h => List.mem_cons_of_mem _ (List.mem_append_left _ (List.mem_append_right _ (h)))
theorem mX10_strains_fieldLink_33_StillText_measures_LStillText_Measures : Cond.fieldLink RX10 33 "StillText" "measures" "LStillText$Measures;" ∈ wsX10_strains := List.mem_cons_of_mem _ (List.mem_append_left _ (List.mem_append_left _ (List.mem_of_getElem? (i := 0) rfl)))
set_option maxHeartbeats 4000000 in
set_option maxRecDepth 100000 in
theorem c_X10_strains (σ : St) (x1 x2 x3 x4 x5 : Int32) (Q : Int32 → St → Prop) (h : wp_X10_strains σ x1 x2 x3 x4 x5 Q) : Ci l D (tyE cyI cyZ) NwC (ZsC tL tS) (wC cyI cyZ ad) yX10_strains wsX10_strains r_X10_strains [.ref (ad 0), .int x1, .int x2, .int x3, .int x4, .int x5] σ Q := by
  refine k_metI (cc := cX10_strains) (maxL := 6) (ret := (some .boolean)) (by decide) rfl (Nat.le_of_ble_eq_true rfl) ?_
  intro p e s m below meth c A ls C hI hl
  obtain ⟨hx, hb, hr, hml, hown, hts, hlocks⟩ := id C
  have hl : lv_has ls 6 [(0, .ref (ad 0)), (1, .int x1), (2, .int x2), (3, .int x3), (4, .int x4), (5, .int x5)] := hl
  unfold wp_X10_strains at h
  refine lv_aload_n hx hb dX10_strains_0 rfl (lv_at hl 0 rfl) ?_
  refine k_get (q0 := 0) (k := 3) (ci := 10) (v := .ref (ad 12)) hx hb hts inX10_strains_X10 hown hI rfl rfl (by decide) mX10_strains_fieldLink_33_StillText_measures_LStillText_Measures rfl rfl dX10_strains_1 ?_
  refine lv_iload_n hx hb dX10_strains_4 rfl (lv_at hl 1 rfl) ?_
  refine lv_iload_n hx hb dX10_strains_5 rfl (lv_at hl 2 rfl) ?_
  refine lv_iload_n hx hb dX10_strains_6 rfl (lv_at hl 3 rfl) ?_
  refine lv_iload hx hb dX10_strains_7 (lv_at hl 4 rfl) ?_
  refine lv_iload hx hb dX10_strains_9 (lv_at hl 5 rfl) ?_
  refine k_cVi (As := [.int x1, .int x2, .int x3, .int x4, .int x5]) (rest := []) C (c_X1_changeStrains σ x1 x2 x3 x4 x5 _ h) (cwV 5 hts gX10_strains_X1_changeStrains rfl rfl rfl hdX1_changeStrains ⟨Nat.le_of_ble_eq_true rfl, Nat.le_of_ble_eq_true rfl⟩) hI 12 rfl rfl rfl hl.1 rfl (Nat.le_of_ble_eq_true rfl) dX10_strains_11 ⟨Nat.le_of_ble_eq_true rfl, Nat.le_of_ble_eq_true rfl⟩ (fun r1 σ2 H locs h hI => ?_)
  exact k_zret hx hb hr hlocks hI h.1 h.2 dX10_strains_14
theorem mX1_kindOf_initialized : Cond.initialized RX10 ∈ wsX1_kindOf := List.mem_cons_of_mem _ (List.mem_of_getElem? (i := 1) rfl)
theorem mX1_kindOf_static_yX10_isLetter : Cond.static yX10_isLetter ∈ wsX1_kindOf := List.mem_cons_of_mem _ (List.mem_of_getElem? (i := 0) rfl)
set_option maxHeartbeats 4000000 in
set_option maxRecDepth 100000 in
theorem c_X1_kindOf (σ : St) (x0 : Int32) (Q : Int32 → St → Prop) (h : wp_X1_kindOf σ x0 Q) : Ci l D (tyE cyI cyZ) NwC (ZsC tL tS) (wC cyI cyZ ad) yX1_kindOf wsX1_kindOf r_X1_kindOf [.int x0] σ Q := by
  refine k_metI (cc := cX1_kindOf) (maxL := 1) (ret := (some .int)) (by decide) rfl (Nat.le_of_ble_eq_true rfl) ?_
  intro p e s m below meth c A ls C hI hl
  obtain ⟨hx, hb, hr, hml, hown, hts, hlocks⟩ := id C
  have hl : lv_has ls 1 [(0, .int x0)] := hl
  unfold wp_X1_kindOf at h
  refine lv_iload_n hx hb dX1_kindOf_0 rfl (lv_at hl 0 rfl) ?_
  refine k_cNi (As := [.int x0]) (rest := []) (host := RX10) C (c_X10_isLetter σ x0 _ h) gX1_kindOf_X10_isLetter_n38 rfl rfl rfl (List.mem_of_getElem? (i := 0) rfl) mX1_kindOf_initialized mX1_kindOf_static_yX10_isLetter hdX10_isLetter ⟨Nat.le_of_ble_eq_true rfl, Nat.le_of_ble_eq_true rfl⟩ hI rfl hl.1 rfl (Nat.le_of_ble_eq_true rfl) dX1_kindOf_1 ⟨Nat.le_of_ble_eq_true rfl, Nat.le_of_ble_eq_true rfl⟩ (fun r1 σ2 H locs h hI => ?_)
  refine lv_if_eq (tgt := 12) hx hb dX1_kindOf_4 (by decide) (fun c3 => ?_) (fun c3 => ?_)
  · replace h := h.1 c3
    refine lv_iload_n hx hb dX1_kindOf_12 rfl (lv_at hl 0 rfl) ?_
    refine lv_bipush (v := nI 32) hx hb dX1_kindOf_13 (by decide) ?_
    refine lv_icmp_ne (tgt := 23) hx hb dX1_kindOf_15 (by decide) (fun c4 => ?_) (fun c4 => ?_)
    · replace h := h.1 c4
      refine lv_bipush (v := nI 27) hx hb dX1_kindOf_23 (by decide) ?_
      exact k_iret hx hb hr hlocks hI h dX1_kindOf_25
    · replace h := h.2 c4
      refine lv_bipush (v := nI 26) hx hb dX1_kindOf_18 (by decide) ?_
      refine lv_goto (tgt := 25) hx hb dX1_kindOf_20 (by decide) ?_
      exact k_iret hx hb hr hlocks hI h dX1_kindOf_25
  · replace h := h.2 c3
    refine lv_iload_n hx hb dX1_kindOf_7 rfl (lv_at hl 0 rfl) ?_
    refine lv_bipush (v := nI 97) hx hb dX1_kindOf_8 (by decide) ?_
    refine lv_isub hx hb dX1_kindOf_10 ?_
    exact k_iret hx hb hr hlocks hI h dX1_kindOf_11
theorem mX1_changeLikeness_initialized : Cond.initialized RX10 ∈ wsX1_changeLikeness := List.mem_cons_of_mem _ (List.mem_append_left _ (List.mem_of_getElem? (i := 2) rfl))
theorem mX1_changeLikeness_static_yX10_isLetter : Cond.static yX10_isLetter ∈ wsX1_changeLikeness := List.mem_cons_of_mem _ (List.mem_append_left _ (List.mem_of_getElem? (i := 1) rfl))
theorem mX1_changeLikeness_static_yX10_within : Cond.static yX10_within ∈ wsX1_changeLikeness := List.mem_cons_of_mem _ (List.mem_append_left _ (List.mem_of_getElem? (i := 4) rfl))
theorem inX1_changeLikeness_X1 : ∀ w ∈ wsX10, w ∈ wsX1_changeLikeness := fun _ h => List.mem_cons_of_mem _ (List.mem_append_right _ (h))
theorem mX1_changeLikeness_fieldLink_30_StillText_Measures_places_I : Cond.fieldLink RX1 30 "StillText$Measures" "places" "[I" ∈ wsX1_changeLikeness := List.mem_cons_of_mem _ (List.mem_append_left _ (List.mem_of_getElem? (i := 0) rfl))
set_option maxHeartbeats 4000000 in
set_option maxRecDepth 100000 in
theorem c_X1_changeLikeness (σ : St) (x1 x2 x3 : Int32) (Q : Int32 → St → Prop) (h : wp_X1_changeLikeness σ x1 x2 x3 Q) : Ci l D (tyE cyI cyZ) NwC (ZsC tL tS) (wC cyI cyZ ad) yX1_changeLikeness wsX1_changeLikeness r_X1_changeLikeness [.ref (ad 12), .int x1, .int x2, .int x3] σ Q := by
  refine k_metI (cc := cX1_changeLikeness) (maxL := 5) (ret := (some .int)) (by decide) rfl (Nat.le_of_ble_eq_true rfl) ?_
  intro p e s m below meth c A ls C hI hl
  obtain ⟨hx, hb, hr, hml, hown, hts, hlocks⟩ := id C
  have hl : lv_has ls 5 [(0, .ref (ad 12)), (1, .int x1), (2, .int x2), (3, .int x3)] := hl
  unfold wp_X1_changeLikeness at h
  refine lv_iload_n hx hb dX1_changeLikeness_0 rfl (lv_at hl 1 rfl) ?_
  refine k_cNi (As := [.int x1]) (rest := []) (host := RX10) C (c_X10_isLetter σ x1 _ h) gX1_changeLikeness_X10_isLetter_n38 rfl rfl rfl (List.mem_of_getElem? (i := 0) rfl) mX1_changeLikeness_initialized mX1_changeLikeness_static_yX10_isLetter hdX10_isLetter ⟨Nat.le_of_ble_eq_true rfl, Nat.le_of_ble_eq_true rfl⟩ hI rfl hl.1 rfl (Nat.le_of_ble_eq_true rfl) dX1_changeLikeness_1 ⟨Nat.le_of_ble_eq_true rfl, Nat.le_of_ble_eq_true rfl⟩ (fun r1 σ2 H locs h hI => ?_)
  refine lv_if_eq (tgt := 25) hx hb dX1_changeLikeness_4 (by decide) (fun c3 => ?_) (fun c3 => ?_)
  · replace h := h.1 c3
    refine lv_iconst (v := (-1)) hx hb dX1_changeLikeness_25 (by decide) ?_
    exact k_iret hx hb hr hlocks hI h dX1_changeLikeness_26
  · replace h := h.2 c3
    refine lv_iload_n hx hb dX1_changeLikeness_7 rfl (lv_at hl 2 rfl) ?_
    refine k_cNi (As := [.int x2]) (rest := []) (host := RX10) C (c_X10_isLetter σ2 x2 _ h) gX1_changeLikeness_X10_isLetter_n38 rfl rfl rfl (List.mem_of_getElem? (i := 0) rfl) mX1_changeLikeness_initialized mX1_changeLikeness_static_yX10_isLetter hdX10_isLetter ⟨Nat.le_of_ble_eq_true rfl, Nat.le_of_ble_eq_true rfl⟩ hI rfl hl.1 rfl (Nat.le_of_ble_eq_true rfl) dX1_changeLikeness_8 ⟨Nat.le_of_ble_eq_true rfl, Nat.le_of_ble_eq_true rfl⟩ (fun r4 σ5 H locs h hI => ?_)
    refine lv_if_eq (tgt := 25) hx hb dX1_changeLikeness_11 (by decide) (fun c6 => ?_) (fun c6 => ?_)
    · replace h := h.1 c6
      refine lv_iconst (v := (-1)) hx hb dX1_changeLikeness_25 (by decide) ?_
      exact k_iret hx hb hr hlocks hI h dX1_changeLikeness_26
    · replace h := h.2 c6
      refine lv_iload_n hx hb dX1_changeLikeness_14 rfl (lv_at hl 3 rfl) ?_
      refine lv_iconst (v := nI 0) hx hb dX1_changeLikeness_15 (by decide) ?_
      refine lv_sipush (v := nI 1000) hx hb dX1_changeLikeness_16 (by decide) ?_
      refine k_cNi (As := [.int x3, .int (nI 0), .int (nI 1000)]) (rest := []) (host := RX10) C (c_X10_within σ5 x3 (nI 0) (nI 1000) _ h) gX1_changeLikeness_X10_within_n42 rfl rfl rfl (List.mem_of_getElem? (i := 1) rfl) mX1_changeLikeness_initialized mX1_changeLikeness_static_yX10_within hdX10_within ⟨Nat.le_of_ble_eq_true rfl, Nat.le_of_ble_eq_true rfl⟩ hI rfl hl.1 rfl (Nat.le_of_ble_eq_true rfl) dX1_changeLikeness_19 ⟨Nat.le_of_ble_eq_true rfl, Nat.le_of_ble_eq_true rfl⟩ (fun r7 σ8 H locs h hI => ?_)
      refine lv_if_ne (tgt := 27) hx hb dX1_changeLikeness_22 (by decide) (fun c9 => ?_) (fun c9 => ?_)
      · replace h := h.1 c9
        refine lv_aload_n hx hb dX1_changeLikeness_27 rfl (lv_at hl 0 rfl) ?_
        refine k_get (q0 := 12) (k := 6) (ci := 1) (v := .ref (ad 13)) hx hb hts inX1_changeLikeness_X1 hown hI rfl rfl (by decide) mX1_changeLikeness_fieldLink_30_StillText_Measures_places_I rfl rfl dX1_changeLikeness_28 ?_
        refine lv_iload_n hx hb dX1_changeLikeness_31 rfl (lv_at hl 1 rfl) ?_
        refine k_cSi (As := [.int x1]) (rest := [.ref (ad 13)]) C (c_X1_kindOf σ8 x1 _ h) (va_cwS 1 hts gX1_changeLikeness_X1_kindOf rfl rfl rfl hdX1_kindOf ⟨Nat.le_of_ble_eq_true rfl, Nat.le_of_ble_eq_true rfl⟩) hI rfl hl.1 rfl (Nat.le_of_ble_eq_true rfl) dX1_changeLikeness_32 ⟨Nat.le_of_ble_eq_true rfl, Nat.le_of_ble_eq_true rfl⟩ (fun r10 σ11 H locs h hI => ?_)
        refine lv_iload_n hx hb dX1_changeLikeness_35 rfl (lv_at hl 2 rfl) ?_
        refine k_cSi (As := [.int x2]) (rest := [.int r10, .ref (ad 13)]) C (c_X1_kindOf σ11 x2 _ h) (va_cwS 1 hts gX1_changeLikeness_X1_kindOf rfl rfl rfl hdX1_kindOf ⟨Nat.le_of_ble_eq_true rfl, Nat.le_of_ble_eq_true rfl⟩) hI rfl hl.1 rfl (Nat.le_of_ble_eq_true rfl) dX1_changeLikeness_36 ⟨Nat.le_of_ble_eq_true rfl, Nat.le_of_ble_eq_true rfl⟩ (fun r12 σ13 H locs h hI => ?_)
        refine k_cSi (As := [.int r10, .int r12]) (rest := [.ref (ad 13)]) C (c_X1_pair σ13 r10 r12 _ h) (va_cwS 2 hts gX1_changeLikeness_X1_pair rfl rfl rfl hdX1_pair ⟨Nat.le_of_ble_eq_true rfl, Nat.le_of_ble_eq_true rfl⟩) hI rfl hl.1 rfl (Nat.le_of_ble_eq_true rfl) dX1_changeLikeness_39 ⟨Nat.le_of_ble_eq_true rfl, Nat.le_of_ble_eq_true rfl⟩ (fun r14 σ15 H locs h hI => ?_)
        refine k_iald (q0 := 13) (t0 := 0) (n := 784) (f := σ15 13) hx hb hI rfl rfl h.1 dX1_changeLikeness_42 ?_
        replace h := h.2
        refine lv_istore (lv' := [(4, .int (σ15 13 r14.toNatClampNeg)), (0, .ref (ad 12)), (1, .int x1), (2, .int x2), (3, .int x3)]) hx hb dX1_changeLikeness_43 hl (by decide) rfl (fun ls hl => ?_)
        refine lv_aload_n hx hb dX1_changeLikeness_45 rfl (lv_at hl 1 rfl) ?_
        refine k_get (q0 := 12) (k := 6) (ci := 1) (v := .ref (ad 13)) hx hb hts inX1_changeLikeness_X1 hown hI rfl rfl (by decide) mX1_changeLikeness_fieldLink_30_StillText_Measures_places_I rfl rfl dX1_changeLikeness_46 ?_
        refine lv_iload_n hx hb dX1_changeLikeness_49 rfl (lv_at hl 2 rfl) ?_
        refine k_cSi (As := [.int x1]) (rest := [.ref (ad 13)]) C (c_X1_kindOf σ15 x1 _ h) (va_cwS 1 hts gX1_changeLikeness_X1_kindOf rfl rfl rfl hdX1_kindOf ⟨Nat.le_of_ble_eq_true rfl, Nat.le_of_ble_eq_true rfl⟩) hI rfl hl.1 rfl (Nat.le_of_ble_eq_true rfl) dX1_changeLikeness_50 ⟨Nat.le_of_ble_eq_true rfl, Nat.le_of_ble_eq_true rfl⟩ (fun r16 σ17 H locs h hI => ?_)
        refine lv_iload_n hx hb dX1_changeLikeness_53 rfl (lv_at hl 3 rfl) ?_
        refine k_cSi (As := [.int x2]) (rest := [.int r16, .ref (ad 13)]) C (c_X1_kindOf σ17 x2 _ h) (va_cwS 1 hts gX1_changeLikeness_X1_kindOf rfl rfl rfl hdX1_kindOf ⟨Nat.le_of_ble_eq_true rfl, Nat.le_of_ble_eq_true rfl⟩) hI rfl hl.1 rfl (Nat.le_of_ble_eq_true rfl) dX1_changeLikeness_54 ⟨Nat.le_of_ble_eq_true rfl, Nat.le_of_ble_eq_true rfl⟩ (fun r18 σ19 H locs h hI => ?_)
        refine k_cSi (As := [.int r16, .int r18]) (rest := [.ref (ad 13)]) C (c_X1_pair σ19 r16 r18 _ h) (va_cwS 2 hts gX1_changeLikeness_X1_pair rfl rfl rfl hdX1_pair ⟨Nat.le_of_ble_eq_true rfl, Nat.le_of_ble_eq_true rfl⟩) hI rfl hl.1 rfl (Nat.le_of_ble_eq_true rfl) dX1_changeLikeness_57 ⟨Nat.le_of_ble_eq_true rfl, Nat.le_of_ble_eq_true rfl⟩ (fun r20 σ21 H locs h hI => ?_)
        refine lv_iload_n hx hb dX1_changeLikeness_60 rfl (lv_at hl 4 rfl) ?_
        refine k_iast (q0 := 13) (t0 := 0) (n := 784) (σ' := up2 σ21 13 r20.toNatClampNeg x3) hx hb hI rfl rfl h.1 (wsC_13 _ _ _ _ _ _) dX1_changeLikeness_61 (fun H locs hI => ?_)
        replace h := h.2
        refine lv_aload_n hx hb dX1_changeLikeness_62 rfl (lv_at hl 1 rfl) ?_
        refine k_get (q0 := 12) (k := 6) (ci := 1) (v := .ref (ad 13)) hx hb hts inX1_changeLikeness_X1 hown hI rfl rfl (by decide) mX1_changeLikeness_fieldLink_30_StillText_Measures_places_I rfl rfl dX1_changeLikeness_63 ?_
        refine lv_iload_n hx hb dX1_changeLikeness_66 rfl (lv_at hl 3 rfl) ?_
        refine k_cSi (As := [.int x2]) (rest := [.ref (ad 13)]) C (c_X1_kindOf (up2 σ21 13 r20.toNatClampNeg x3) x2 _ h) (va_cwS 1 hts gX1_changeLikeness_X1_kindOf rfl rfl rfl hdX1_kindOf ⟨Nat.le_of_ble_eq_true rfl, Nat.le_of_ble_eq_true rfl⟩) hI rfl hl.1 rfl (Nat.le_of_ble_eq_true rfl) dX1_changeLikeness_67 ⟨Nat.le_of_ble_eq_true rfl, Nat.le_of_ble_eq_true rfl⟩ (fun r22 σ23 H locs h hI => ?_)
        refine lv_iload_n hx hb dX1_changeLikeness_70 rfl (lv_at hl 2 rfl) ?_
        refine k_cSi (As := [.int x1]) (rest := [.int r22, .ref (ad 13)]) C (c_X1_kindOf σ23 x1 _ h) (va_cwS 1 hts gX1_changeLikeness_X1_kindOf rfl rfl rfl hdX1_kindOf ⟨Nat.le_of_ble_eq_true rfl, Nat.le_of_ble_eq_true rfl⟩) hI rfl hl.1 rfl (Nat.le_of_ble_eq_true rfl) dX1_changeLikeness_71 ⟨Nat.le_of_ble_eq_true rfl, Nat.le_of_ble_eq_true rfl⟩ (fun r24 σ25 H locs h hI => ?_)
        refine k_cSi (As := [.int r22, .int r24]) (rest := [.ref (ad 13)]) C (c_X1_pair σ25 r22 r24 _ h) (va_cwS 2 hts gX1_changeLikeness_X1_pair rfl rfl rfl hdX1_pair ⟨Nat.le_of_ble_eq_true rfl, Nat.le_of_ble_eq_true rfl⟩) hI rfl hl.1 rfl (Nat.le_of_ble_eq_true rfl) dX1_changeLikeness_74 ⟨Nat.le_of_ble_eq_true rfl, Nat.le_of_ble_eq_true rfl⟩ (fun r26 σ27 H locs h hI => ?_)
        refine lv_iload_n hx hb dX1_changeLikeness_77 rfl (lv_at hl 4 rfl) ?_
        refine k_iast (q0 := 13) (t0 := 0) (n := 784) (σ' := up2 σ27 13 r26.toNatClampNeg x3) hx hb hI rfl rfl h.1 (wsC_13 _ _ _ _ _ _) dX1_changeLikeness_78 (fun H locs hI => ?_)
        replace h := h.2
        refine lv_iload hx hb dX1_changeLikeness_79 (lv_at hl 0 rfl) ?_
        exact k_iret hx hb hr hlocks hI h dX1_changeLikeness_81
      · replace h := h.2 c9
        refine lv_iconst (v := (-1)) hx hb dX1_changeLikeness_25 (by decide) ?_
        exact k_iret hx hb hr hlocks hI h dX1_changeLikeness_26
theorem inX10_like_X10 : ∀ w ∈ wsX100, w ∈ wsX10_like := fun _ h => List.mem_cons_of_mem _ (List.mem_append_left _ (List.mem_append_right _ (h)))
theorem mX10_like_fieldLink_33_StillText_measures_LStillText_Measures : Cond.fieldLink RX10 33 "StillText" "measures" "LStillText$Measures;" ∈ wsX10_like := List.mem_cons_of_mem _ (List.mem_append_left _ (List.mem_append_left _ (List.mem_of_getElem? (i := 0) rfl)))
set_option maxHeartbeats 4000000 in
set_option maxRecDepth 100000 in
theorem c_X10_like (σ : St) (x1 x2 x3 : Int32) (Q : Int32 → St → Prop) (h : wp_X10_like σ x1 x2 x3 Q) : Ci l D (tyE cyI cyZ) NwC (ZsC tL tS) (wC cyI cyZ ad) yX10_like wsX10_like r_X10_like [.ref (ad 0), .int x1, .int x2, .int x3] σ Q := by
  refine k_metI (cc := cX10_like) (maxL := 4) (ret := (some .int)) (by decide) rfl (Nat.le_of_ble_eq_true rfl) ?_
  intro p e s m below meth c A ls C hI hl
  obtain ⟨hx, hb, hr, hml, hown, hts, hlocks⟩ := id C
  have hl : lv_has ls 4 [(0, .ref (ad 0)), (1, .int x1), (2, .int x2), (3, .int x3)] := hl
  unfold wp_X10_like at h
  refine lv_aload_n hx hb dX10_like_0 rfl (lv_at hl 0 rfl) ?_
  refine k_get (q0 := 0) (k := 3) (ci := 10) (v := .ref (ad 12)) hx hb hts inX10_like_X10 hown hI rfl rfl (by decide) mX10_like_fieldLink_33_StillText_measures_LStillText_Measures rfl rfl dX10_like_1 ?_
  refine lv_iload_n hx hb dX10_like_4 rfl (lv_at hl 1 rfl) ?_
  refine lv_iload_n hx hb dX10_like_5 rfl (lv_at hl 2 rfl) ?_
  refine lv_iload_n hx hb dX10_like_6 rfl (lv_at hl 3 rfl) ?_
  refine k_cVi (As := [.int x1, .int x2, .int x3]) (rest := []) C (c_X1_changeLikeness σ x1 x2 x3 _ h) (cwV 3 hts gX10_like_X1_changeLikeness rfl rfl rfl hdX1_changeLikeness ⟨Nat.le_of_ble_eq_true rfl, Nat.le_of_ble_eq_true rfl⟩) hI 12 rfl rfl rfl hl.1 rfl (Nat.le_of_ble_eq_true rfl) dX10_like_7 ⟨Nat.le_of_ble_eq_true rfl, Nat.le_of_ble_eq_true rfl⟩ (fun r1 σ2 H locs h hI => ?_)
  exact k_iret hx hb hr hlocks hI h dX10_like_10
theorem inX1_longest_X1 : ∀ w ∈ wsX10, w ∈ wsX1_longest := fun _ h => List.mem_cons_of_mem _ (List.mem_append_right _ (h))
theorem mX1_longest_fieldLink_9_StillText_Measures_longest_I : Cond.fieldLink RX1 9 "StillText$Measures" "longest" "I" ∈ wsX1_longest := List.mem_cons_of_mem _ (List.mem_append_left _ (List.mem_of_getElem? (i := 0) rfl))
set_option maxHeartbeats 4000000 in
set_option maxRecDepth 100000 in
theorem c_X1_longest (σ : St) (Q : Int32 → St → Prop) (h : wp_X1_longest σ  Q) : Ci l D (tyE cyI cyZ) NwC (ZsC tL tS) (wC cyI cyZ ad) yX1_longest wsX1_longest r_X1_longest [.ref (ad 12)] σ Q := by
  refine k_metI (cc := cX1_longest) (maxL := 1) (ret := (some .int)) (by decide) rfl (Nat.le_of_ble_eq_true rfl) ?_
  intro p e s m below meth c A ls C hI hl
  obtain ⟨hx, hb, hr, hml, hown, hts, hlocks⟩ := id C
  have hl : lv_has ls 1 [(0, .ref (ad 12))] := hl
  unfold wp_X1_longest at h
  refine lv_aload_n hx hb dX1_longest_0 rfl (lv_at hl 0 rfl) ?_
  refine k_get (q0 := 12) (k := 0) (ci := 1) (v := .int (σ 12 0)) hx hb hts inX1_longest_X1 hown hI rfl rfl (by decide) mX1_longest_fieldLink_9_StillText_Measures_longest_I rfl rfl dX1_longest_1 ?_
  exact k_iret hx hb hr hlocks hI h dX1_longest_4
theorem inX9_signs_X9 : ∀ w ∈ wsX90, w ∈ wsX9_signs := fun _ h => List.mem_cons_of_mem _ (List.mem_append_right _ (h))
theorem mX9_signs_fieldLink_18_StillText_Units_behind_I : Cond.fieldLink RX9 18 "StillText$Units" "behind" "[I" ∈ wsX9_signs := List.mem_cons_of_mem _ (List.mem_append_left _ (List.mem_of_getElem? (i := 0) rfl))
theorem mX9_signs_fieldLink_15_StillText_Units_sizes_I : Cond.fieldLink RX9 15 "StillText$Units" "sizes" "[I" ∈ wsX9_signs := List.mem_cons_of_mem _ (List.mem_append_left _ (List.mem_of_getElem? (i := 1) rfl))
set_option maxHeartbeats 4000000 in
set_option maxRecDepth 100000 in
theorem c_X9_signs (σ : St) (x1 : Int32) (Q : Int32 → St → Prop) (h : wp_X9_signs σ x1 Q) : Ci l D (tyE cyI cyZ) NwC (ZsC tL tS) (wC cyI cyZ ad) yX9_signs wsX9_signs r_X9_signs [.ref (ad 8), .int x1] σ Q := by
  refine k_metI (cc := cX9_signs) (maxL := 3) (ret := (some .int)) (by decide) rfl (Nat.le_of_ble_eq_true rfl) ?_
  intro p e s m below meth c A ls C hI hl
  obtain ⟨hx, hb, hr, hml, hown, hts, hlocks⟩ := id C
  have hl : lv_has ls 3 [(0, .ref (ad 8)), (1, .int x1)] := hl
  unfold wp_X9_signs at h
  refine lv_aload_n hx hb dX9_signs_0 rfl (lv_at hl 0 rfl) ?_
  refine lv_iload_n hx hb dX9_signs_1 rfl (lv_at hl 1 rfl) ?_
  refine k_cVi (As := [.int x1]) (rest := []) C (c_X9_has σ x1 _ h) (cwV 1 hts gX9_signs_X9_has rfl rfl rfl hdX9_has ⟨Nat.le_of_ble_eq_true rfl, Nat.le_of_ble_eq_true rfl⟩) hI 8 rfl rfl rfl hl.1 rfl (Nat.le_of_ble_eq_true rfl) dX9_signs_2 ⟨Nat.le_of_ble_eq_true rfl, Nat.le_of_ble_eq_true rfl⟩ (fun r1 σ2 H locs h hI => ?_)
  refine lv_if_ne (tgt := 10) hx hb dX9_signs_5 (by decide) (fun c3 => ?_) (fun c3 => ?_)
  · replace h := h.1 c3
    refine lv_aload_n hx hb dX9_signs_10 rfl (lv_at hl 0 rfl) ?_
    refine k_get (q0 := 8) (k := 2) (ci := 9) (v := .ref (ad 11)) hx hb hts inX9_signs_X9 hown hI rfl rfl (by decide) mX9_signs_fieldLink_18_StillText_Units_behind_I rfl rfl dX9_signs_11 ?_
    refine lv_iload_n hx hb dX9_signs_14 rfl (lv_at hl 1 rfl) ?_
    refine k_iald (q0 := 11) (t0 := 0) (n := 80) (f := σ2 11) hx hb hI rfl rfl h.1 dX9_signs_15 ?_
    replace h := h.2
    refine lv_bipush (v := nI 44) hx hb dX9_signs_16 (by decide) ?_
    refine lv_icmp_eq (tgt := 32) hx hb dX9_signs_18 (by decide) (fun c4 => ?_) (fun c4 => ?_)
    · replace h := h.1 c4
      refine lv_iconst (v := nI 1) hx hb dX9_signs_32 (by decide) ?_
      refine lv_goto (tgt := 37) hx hb dX9_signs_33 (by decide) ?_
      refine lv_istore_n (lv' := [(2, .int (nI 1)), (0, .ref (ad 8)), (1, .int x1)]) hx hb dX9_signs_37 rfl hl (by decide) rfl (fun ls hl => ?_)
      refine lv_iload_n hx hb dX9_signs_38 rfl (lv_at hl 0 rfl) ?_
      refine lv_if_eq (tgt := 53) hx hb dX9_signs_39 (by decide) (fun c5 => ?_) (fun c5 => ?_)
      · exact absurd c5 (by decide)
      · refine lv_aload_n hx hb dX9_signs_42 rfl (lv_at hl 1 rfl) ?_
        refine k_get (q0 := 8) (k := 1) (ci := 9) (v := .ref (ad 10)) hx hb hts inX9_signs_X9 hown hI rfl rfl (by decide) mX9_signs_fieldLink_15_StillText_Units_sizes_I rfl rfl dX9_signs_43 ?_
        refine lv_iload_n hx hb dX9_signs_46 rfl (lv_at hl 2 rfl) ?_
        refine k_iald (q0 := 10) (t0 := 0) (n := 80) (f := σ2 10) hx hb hI rfl rfl h.1 dX9_signs_47 ?_
        replace h := h.2
        refine lv_iconst (v := nI 1) hx hb dX9_signs_48 (by decide) ?_
        refine lv_iadd hx hb dX9_signs_49 ?_
        refine lv_goto (tgt := 59) hx hb dX9_signs_50 (by decide) ?_
        exact k_iret hx hb hr hlocks hI h dX9_signs_59
    · replace h := h.2 c4
      refine lv_aload_n hx hb dX9_signs_21 rfl (lv_at hl 0 rfl) ?_
      refine k_get (q0 := 8) (k := 2) (ci := 9) (v := .ref (ad 11)) hx hb hts inX9_signs_X9 hown hI rfl rfl (by decide) mX9_signs_fieldLink_18_StillText_Units_behind_I rfl rfl dX9_signs_22 ?_
      refine lv_iload_n hx hb dX9_signs_25 rfl (lv_at hl 1 rfl) ?_
      refine k_iald (q0 := 11) (t0 := 0) (n := 80) (f := σ2 11) hx hb hI rfl rfl h.1 dX9_signs_26 ?_
      replace h := h.2
      refine lv_bipush (v := nI 46) hx hb dX9_signs_27 (by decide) ?_
      refine lv_icmp_ne (tgt := 36) hx hb dX9_signs_29 (by decide) (fun c6 => ?_) (fun c6 => ?_)
      · replace h := h.1 c6
        refine lv_iconst (v := nI 0) hx hb dX9_signs_36 (by decide) ?_
        refine lv_istore_n (lv' := [(2, .int (nI 0)), (0, .ref (ad 8)), (1, .int x1)]) hx hb dX9_signs_37 rfl hl (by decide) rfl (fun ls hl => ?_)
        refine lv_iload_n hx hb dX9_signs_38 rfl (lv_at hl 0 rfl) ?_
        refine lv_if_eq (tgt := 53) hx hb dX9_signs_39 (by decide) (fun c7 => ?_) (fun c7 => ?_)
        · refine lv_aload_n hx hb dX9_signs_53 rfl (lv_at hl 1 rfl) ?_
          refine k_get (q0 := 8) (k := 1) (ci := 9) (v := .ref (ad 10)) hx hb hts inX9_signs_X9 hown hI rfl rfl (by decide) mX9_signs_fieldLink_15_StillText_Units_sizes_I rfl rfl dX9_signs_54 ?_
          refine lv_iload_n hx hb dX9_signs_57 rfl (lv_at hl 2 rfl) ?_
          refine k_iald (q0 := 10) (t0 := 0) (n := 80) (f := σ2 10) hx hb hI rfl rfl h.1 dX9_signs_58 ?_
          replace h := h.2
          exact k_iret hx hb hr hlocks hI h dX9_signs_59
        · exact absurd c7 (by decide)
      · replace h := h.2 c6
        refine lv_iconst (v := nI 1) hx hb dX9_signs_32 (by decide) ?_
        refine lv_goto (tgt := 37) hx hb dX9_signs_33 (by decide) ?_
        refine lv_istore_n (lv' := [(2, .int (nI 1)), (0, .ref (ad 8)), (1, .int x1)]) hx hb dX9_signs_37 rfl hl (by decide) rfl (fun ls hl => ?_)
        refine lv_iload_n hx hb dX9_signs_38 rfl (lv_at hl 0 rfl) ?_
        refine lv_if_eq (tgt := 53) hx hb dX9_signs_39 (by decide) (fun c8 => ?_) (fun c8 => ?_)
        · exact absurd c8 (by decide)
        · refine lv_aload_n hx hb dX9_signs_42 rfl (lv_at hl 1 rfl) ?_
          refine k_get (q0 := 8) (k := 1) (ci := 9) (v := .ref (ad 10)) hx hb hts inX9_signs_X9 hown hI rfl rfl (by decide) mX9_signs_fieldLink_15_StillText_Units_sizes_I rfl rfl dX9_signs_43 ?_
          refine lv_iload_n hx hb dX9_signs_46 rfl (lv_at hl 2 rfl) ?_
          refine k_iald (q0 := 10) (t0 := 0) (n := 80) (f := σ2 10) hx hb hI rfl rfl h.1 dX9_signs_47 ?_
          replace h := h.2
          refine lv_iconst (v := nI 1) hx hb dX9_signs_48 (by decide) ?_
          refine lv_iadd hx hb dX9_signs_49 ?_
          refine lv_goto (tgt := 59) hx hb dX9_signs_50 (by decide) ?_
          exact k_iret hx hb hr hlocks hI h dX9_signs_59
  · replace h := h.2 c3
    refine lv_iconst (v := nI 0) hx hb dX9_signs_8 (by decide) ?_
    exact k_iret hx hb hr hlocks hI h dX9_signs_9
theorem inX9_fitAlone_X9 : ∀ w ∈ wsX90, w ∈ wsX9_fitAlone := fun _ h => List.mem_cons_of_mem _ (List.mem_append_right _ (h))
theorem mX9_fitAlone_fieldLink_21_StillText_Units_count_I : Cond.fieldLink RX9 21 "StillText$Units" "count" "I" ∈ wsX9_fitAlone := List.mem_cons_of_mem _ (List.mem_append_left _ (List.mem_of_getElem? (i := 0) rfl))
set_option maxHeartbeats 4000000 in
set_option maxRecDepth 100000 in
theorem t_X9_fitAlone_2 {p : Program} {e : Env} {s : State} {m : MethodId} {args : Array Value} {below : List Frame} {meth : Method} {c : Code} {A : Nat → Prop} {x1 : Int32}  {Q : Int32 → St → Prop} (C : Cx p s m args meth c cX9_fitAlone 3 (some .boolean) RX9 wsX9_fitAlone) :
    ∀ (n : Nat) (σ : St) (x2 : Int32) (H : Heap) (locs : List Loc) (ls : Array Slot), wpl_X9_fitAlone_2 x1 Q n σ x2 → Iw D (tyE cyI cyZ) NwC (ZsC tL tS) (wC cyI cyZ ad) A s H locs σ → lv_has ls 3 [(0, .ref (ad 8)), (1, .int x1), (2, .int x2)] → W p l e r_X9_fitAlone s m args below meth c H locs 0 0 (MQ below (va_Qi Q (Kq D (tyE cyI cyZ) (wC cyI cyZ ad) A) A) args s 0 0 A) (F0 m 2 ls []) := by
  obtain ⟨hx, hb, hr, hml, hown, hts, hlocks⟩ := id C
  intro n
  induction n with
  | zero =>
    intro _ _ _ _ _ h
    exact h.elim
  | succ n ih =>
    intro σ x2 H locs ls h hI hl
    unfold wpl_X9_fitAlone_2 at h
    refine lv_iload_n hx hb dX9_fitAlone_2 rfl (lv_at hl 2 rfl) ?_
    refine lv_aload_n hx hb dX9_fitAlone_3 rfl (lv_at hl 0 rfl) ?_
    refine k_get (q0 := 8) (k := 3) (ci := 9) (v := .int (σ 8 3)) hx hb hts inX9_fitAlone_X9 hown hI rfl rfl (by decide) mX9_fitAlone_fieldLink_21_StillText_Units_count_I rfl rfl dX9_fitAlone_4 ?_
    refine lv_icmp_ge (tgt := 41) hx hb dX9_fitAlone_7 (by decide) (fun c1 => ?_) (fun c1 => ?_)
    · replace h := h.1 c1
      refine lv_iconst (v := nI 1) hx hb dX9_fitAlone_41 (by decide) ?_
      exact k_zret hx hb hr hlocks hI (Or.inr rfl) h dX9_fitAlone_42
    · replace h := h.2 c1
      refine lv_aload_n hx hb dX9_fitAlone_10 rfl (lv_at hl 0 rfl) ?_
      refine lv_iload_n hx hb dX9_fitAlone_11 rfl (lv_at hl 2 rfl) ?_
      refine k_cVi (As := [.int x2]) (rest := []) C (c_X9_signs σ x2 _ h) (cwV 1 hts gX9_fitAlone_X9_signs rfl rfl rfl hdX9_signs ⟨Nat.le_of_ble_eq_true rfl, Nat.le_of_ble_eq_true rfl⟩) hI 8 rfl rfl rfl hl.1 rfl (Nat.le_of_ble_eq_true rfl) dX9_fitAlone_12 ⟨Nat.le_of_ble_eq_true rfl, Nat.le_of_ble_eq_true rfl⟩ (fun r2 σ3 H locs h hI => ?_)
      refine lv_aload_n hx hb dX9_fitAlone_15 rfl (lv_at hl 0 rfl) ?_
      refine lv_iload_n hx hb dX9_fitAlone_16 rfl (lv_at hl 2 rfl) ?_
      refine k_cVi (As := [.int x2]) (rest := [.int r2]) C (c_X9_goesOn σ3 x2 _ h) (cwV 1 hts gX9_fitAlone_X9_goesOn rfl rfl rfl hdX9_goesOn ⟨Nat.le_of_ble_eq_true rfl, Nat.le_of_ble_eq_true rfl⟩) hI 8 rfl rfl rfl hl.1 rfl (Nat.le_of_ble_eq_true rfl) dX9_fitAlone_17 ⟨Nat.le_of_ble_eq_true rfl, Nat.le_of_ble_eq_true rfl⟩ (fun r4 σ5 H locs h hI => ?_)
      refine lv_if_eq (tgt := 27) hx hb dX9_fitAlone_20 (by decide) (fun c6 => ?_) (fun c6 => ?_)
      · replace h := h.1 c6
        refine lv_iconst (v := nI 0) hx hb dX9_fitAlone_27 (by decide) ?_
        refine lv_iadd hx hb dX9_fitAlone_28 ?_
        refine lv_iload_n hx hb dX9_fitAlone_29 rfl (lv_at hl 1 rfl) ?_
        refine lv_icmp_le (tgt := 35) hx hb dX9_fitAlone_30 (by decide) (fun c7 => ?_) (fun c7 => ?_)
        · replace h := h.1 c7
          refine lv_iinc (v := (x2 + nI 1)) (lv' := [(2, .int (x2 + nI 1)), (0, .ref (ad 8)), (1, .int x1)]) hx hb dX9_fitAlone_35 hl (k := 2) rfl rfl (by decide) rfl (fun ls hl => ?_)
          refine lv_goto (tgt := 2) hx hb dX9_fitAlone_38 (by decide) ?_
          exact ih _ _ _ _ _ h hI (lv_sub hl [1, 2, 0] rfl)
        · replace h := h.2 c7
          refine lv_iconst (v := nI 0) hx hb dX9_fitAlone_33 (by decide) ?_
          exact k_zret hx hb hr hlocks hI (Or.inl rfl) h dX9_fitAlone_34
      · replace h := h.2 c6
        refine lv_iconst (v := nI 1) hx hb dX9_fitAlone_23 (by decide) ?_
        refine lv_goto (tgt := 28) hx hb dX9_fitAlone_24 (by decide) ?_
        refine lv_iadd hx hb dX9_fitAlone_28 ?_
        refine lv_iload_n hx hb dX9_fitAlone_29 rfl (lv_at hl 1 rfl) ?_
        refine lv_icmp_le (tgt := 35) hx hb dX9_fitAlone_30 (by decide) (fun c8 => ?_) (fun c8 => ?_)
        · replace h := h.1 c8
          refine lv_iinc (v := (x2 + nI 1)) (lv' := [(2, .int (x2 + nI 1)), (0, .ref (ad 8)), (1, .int x1)]) hx hb dX9_fitAlone_35 hl (k := 2) rfl rfl (by decide) rfl (fun ls hl => ?_)
          refine lv_goto (tgt := 2) hx hb dX9_fitAlone_38 (by decide) ?_
          exact ih _ _ _ _ _ h hI (lv_sub hl [1, 2, 0] rfl)
        · replace h := h.2 c8
          refine lv_iconst (v := nI 0) hx hb dX9_fitAlone_33 (by decide) ?_
          exact k_zret hx hb hr hlocks hI (Or.inl rfl) h dX9_fitAlone_34
set_option maxHeartbeats 4000000 in
set_option maxRecDepth 100000 in
theorem c_X9_fitAlone (σ : St) (x1 : Int32) (Q : Int32 → St → Prop) (h : wp_X9_fitAlone σ x1 Q) : Ci l D (tyE cyI cyZ) NwC (ZsC tL tS) (wC cyI cyZ ad) yX9_fitAlone wsX9_fitAlone r_X9_fitAlone [.ref (ad 8), .int x1] σ Q := by
  refine k_metI (cc := cX9_fitAlone) (maxL := 3) (ret := (some .boolean)) (by decide) rfl (Nat.le_of_ble_eq_true rfl) ?_
  intro p e s m below meth c A ls C hI hl
  obtain ⟨hx, hb, hr, hml, hown, hts, hlocks⟩ := id C
  have hl : lv_has ls 3 [(0, .ref (ad 8)), (1, .int x1)] := hl
  unfold wp_X9_fitAlone at h
  refine lv_iconst (v := nI 0) hx hb dX9_fitAlone_0 (by decide) ?_
  refine lv_istore_n (lv' := [(2, .int (nI 0)), (0, .ref (ad 8)), (1, .int x1)]) hx hb dX9_fitAlone_1 rfl hl (by decide) rfl (fun ls hl => ?_)
  obtain ⟨k9, h⟩ := h
  exact t_X9_fitAlone_2 C  k9 _ _ _ _ _ h hI (lv_sub hl [1, 2, 0] rfl)
theorem inX1_spread_X1 : ∀ w ∈ wsX10, w ∈ wsX1_spread := fun _ h => List.mem_cons_of_mem _ (List.mem_append_right _ (h))
theorem mX1_spread_fieldLink_15_StillText_Measures_spread_I : Cond.fieldLink RX1 15 "StillText$Measures" "spread" "I" ∈ wsX1_spread := List.mem_cons_of_mem _ (List.mem_append_left _ (List.mem_of_getElem? (i := 0) rfl))
set_option maxHeartbeats 4000000 in
set_option maxRecDepth 100000 in
theorem c_X1_spread (σ : St) (Q : Int32 → St → Prop) (h : wp_X1_spread σ  Q) : Ci l D (tyE cyI cyZ) NwC (ZsC tL tS) (wC cyI cyZ ad) yX1_spread wsX1_spread r_X1_spread [.ref (ad 12)] σ Q := by
  refine k_metI (cc := cX1_spread) (maxL := 1) (ret := (some .int)) (by decide) rfl (Nat.le_of_ble_eq_true rfl) ?_
  intro p e s m below meth c A ls C hI hl
  obtain ⟨hx, hb, hr, hml, hown, hts, hlocks⟩ := id C
  have hl : lv_has ls 1 [(0, .ref (ad 12))] := hl
  unfold wp_X1_spread at h
  refine lv_aload_n hx hb dX1_spread_0 rfl (lv_at hl 0 rfl) ?_
  refine k_get (q0 := 12) (k := 1) (ci := 1) (v := .int (σ 12 1)) hx hb hts inX1_spread_X1 hown hI rfl rfl (by decide) mX1_spread_fieldLink_15_StillText_Measures_spread_I rfl rfl dX1_spread_1 ?_
  exact k_iret hx hb hr hlocks hI h dX1_spread_4
theorem inX6_addSign_X6 : ∀ w ∈ wsX60, w ∈ wsX6_addSign := fun _ h => List.mem_cons_of_mem _ (List.mem_append_right _ (h))
theorem mX6_addSign_fieldLink_31_StillText_Strip_length_I : Cond.fieldLink RX6 31 "StillText$Strip" "length" "I" ∈ wsX6_addSign := List.mem_cons_of_mem _ (List.mem_append_left _ (List.mem_of_getElem? (i := 0) rfl))
theorem mX6_addSign_fieldLink_11_StillText_Strip_signs_I : Cond.fieldLink RX6 11 "StillText$Strip" "signs" "[I" ∈ wsX6_addSign := List.mem_cons_of_mem _ (List.mem_append_left _ (List.mem_of_getElem? (i := 1) rfl))
theorem mX6_addSign_fieldLink_15_StillText_Strip_kinds_I : Cond.fieldLink RX6 15 "StillText$Strip" "kinds" "[I" ∈ wsX6_addSign := List.mem_cons_of_mem _ (List.mem_append_left _ (List.mem_of_getElem? (i := 2) rfl))
set_option maxHeartbeats 4000000 in
set_option maxRecDepth 100000 in
theorem c_X6_addSign (σ : St) (x1 : Int32) (Q : St → Prop) (h : wp_X6_addSign σ x1 Q) : Cv l D (tyE cyI cyZ) NwC (ZsC tL tS) (wC cyI cyZ ad) yX6_addSign wsX6_addSign r_X6_addSign [.ref (ad 15), .int x1] σ Q := by
  refine k_metV (cc := cX6_addSign) (maxL := 2) (ret := none) (by decide) rfl (Nat.le_of_ble_eq_true rfl) ?_
  intro p e s m below meth c A ls C hI hl
  obtain ⟨hx, hb, hr, hml, hown, hts, hlocks⟩ := id C
  have hl : lv_has ls 2 [(0, .ref (ad 15)), (1, .int x1)] := hl
  unfold wp_X6_addSign at h
  refine lv_aload_n hx hb dX6_addSign_0 rfl (lv_at hl 0 rfl) ?_
  refine k_get (q0 := 15) (k := 6) (ci := 6) (v := .int (σ 15 6)) hx hb hts inX6_addSign_X6 hown hI rfl rfl (by decide) mX6_addSign_fieldLink_31_StillText_Strip_length_I rfl rfl dX6_addSign_1 ?_
  refine lv_sipush (v := nI 1920) hx hb dX6_addSign_4 (by decide) ?_
  refine lv_icmp_ge (tgt := 43) hx hb dX6_addSign_7 (by decide) (fun c1 => ?_) (fun c1 => ?_)
  · replace h := h.1 c1
    exact k_vret hx hb hr hlocks hI h dX6_addSign_43
  · replace h := h.2 c1
    refine lv_aload_n hx hb dX6_addSign_10 rfl (lv_at hl 0 rfl) ?_
    refine k_get (q0 := 15) (k := 0) (ci := 6) (v := .ref (ad 16)) hx hb hts inX6_addSign_X6 hown hI rfl rfl (by decide) mX6_addSign_fieldLink_11_StillText_Strip_signs_I rfl rfl dX6_addSign_11 ?_
    refine lv_aload_n hx hb dX6_addSign_14 rfl (lv_at hl 0 rfl) ?_
    refine k_get (q0 := 15) (k := 6) (ci := 6) (v := .int (σ 15 6)) hx hb hts inX6_addSign_X6 hown hI rfl rfl (by decide) mX6_addSign_fieldLink_31_StillText_Strip_length_I rfl rfl dX6_addSign_15 ?_
    refine lv_iload_n hx hb dX6_addSign_18 rfl (lv_at hl 1 rfl) ?_
    refine k_iast (q0 := 16) (t0 := 0) (n := 1920) (σ' := up2 σ 16 (σ 15 6).toNatClampNeg x1) hx hb hI rfl rfl h.1 (wsC_16 _ _ _ _ _ _) dX6_addSign_19 (fun H locs hI => ?_)
    replace h := h.2
    refine lv_aload_n hx hb dX6_addSign_20 rfl (lv_at hl 0 rfl) ?_
    refine k_get (q0 := 15) (k := 1) (ci := 6) (v := .ref (ad 17)) hx hb hts inX6_addSign_X6 hown hI rfl rfl (by decide) mX6_addSign_fieldLink_15_StillText_Strip_kinds_I rfl rfl dX6_addSign_21 ?_
    refine lv_aload_n hx hb dX6_addSign_24 rfl (lv_at hl 0 rfl) ?_
    refine k_get (q0 := 15) (k := 6) (ci := 6) (v := .int (σ 15 6)) hx hb hts inX6_addSign_X6 hown hI rfl rfl (by decide) mX6_addSign_fieldLink_31_StillText_Strip_length_I rfl rfl dX6_addSign_25 ?_
    refine lv_iload_n hx hb dX6_addSign_28 rfl (lv_at hl 1 rfl) ?_
    refine k_cSi (As := [.int x1]) (rest := [.int (σ 15 6), .ref (ad 17)]) C (c_X1_kindOf (up2 σ 16 (σ 15 6).toNatClampNeg x1) x1 _ h) (va_cwS 1 hts gX6_addSign_X1_kindOf rfl rfl rfl hdX1_kindOf ⟨Nat.le_of_ble_eq_true rfl, Nat.le_of_ble_eq_true rfl⟩) hI rfl hl.1 rfl (Nat.le_of_ble_eq_true rfl) dX6_addSign_29 ⟨Nat.le_of_ble_eq_true rfl, Nat.le_of_ble_eq_true rfl⟩ (fun r2 σ3 H locs h hI => ?_)
    refine k_iast (q0 := 17) (t0 := 0) (n := 1920) (σ' := up2 σ3 17 (σ 15 6).toNatClampNeg r2) hx hb hI rfl rfl h.1 (wsC_17 _ _ _ _ _ _) dX6_addSign_32 (fun H locs hI => ?_)
    replace h := h.2
    refine lv_aload_n hx hb dX6_addSign_33 rfl (lv_at hl 0 rfl) ?_
    refine lv_dup hx hb dX6_addSign_34 rfl ?_
    refine k_get (q0 := 15) (k := 6) (ci := 6) (v := .int (σ3 15 6)) hx hb hts inX6_addSign_X6 hown hI rfl rfl (by decide) mX6_addSign_fieldLink_31_StillText_Strip_length_I rfl rfl dX6_addSign_35 ?_
    refine lv_iconst (v := nI 1) hx hb dX6_addSign_38 (by decide) ?_
    refine lv_iadd hx hb dX6_addSign_39 ?_
    refine k_put (q0 := 15) (k := 6) (ci := 6) (v := .int ((σ3 15 6) + (nI 1))) (σ' := up2 (up2 σ3 17 (σ 15 6).toNatClampNeg r2) 15 6 ((σ3 15 6) + (nI 1))) hx hb hts inX6_addSign_X6 tyX6 tyX6_ok nmX6 hown hI rfl rfl (by decide) mX6_addSign_fieldLink_31_StillText_Strip_length_I rfl rfl rfl rfl (Nat.le_of_ble_eq_true rfl) (wsC_15_6 _ _ _ _ _) dX6_addSign_40 (fun H locs hI => ?_)
    exact k_vret hx hb hr hlocks hI h dX6_addSign_43
set_option maxHeartbeats 4000000 in
set_option maxRecDepth 100000 in
theorem t_X6_addBlanks_2 {p : Program} {e : Env} {s : State} {m : MethodId} {args : Array Value} {below : List Frame} {meth : Method} {c : Code} {A : Nat → Prop} {x1 : Int32}  {Q : St → Prop} (C : Cx p s m args meth c cX6_addBlanks 3 none RX6 wsX6_addBlanks) :
    ∀ (n : Nat) (σ : St) (x2 : Int32) (H : Heap) (locs : List Loc) (ls : Array Slot), wpl_X6_addBlanks_2 x1 Q n σ x2 → Iw D (tyE cyI cyZ) NwC (ZsC tL tS) (wC cyI cyZ ad) A s H locs σ → lv_has ls 3 [(0, .ref (ad 15)), (1, .int x1), (2, .int x2)] → W p l e r_X6_addBlanks s m args below meth c H locs 0 0 (MQ below (va_Qv Q (Kq D (tyE cyI cyZ) (wC cyI cyZ ad) A) A) args s 0 0 A) (F0 m 2 ls []) := by
  obtain ⟨hx, hb, hr, hml, hown, hts, hlocks⟩ := id C
  intro n
  induction n with
  | zero =>
    intro _ _ _ _ _ h
    exact h.elim
  | succ n ih =>
    intro σ x2 H locs ls h hI hl
    unfold wpl_X6_addBlanks_2 at h
    refine lv_iload_n hx hb dX6_addBlanks_2 rfl (lv_at hl 2 rfl) ?_
    refine lv_iload_n hx hb dX6_addBlanks_3 rfl (lv_at hl 1 rfl) ?_
    refine lv_icmp_ge (tgt := 19) hx hb dX6_addBlanks_4 (by decide) (fun c1 => ?_) (fun c1 => ?_)
    · replace h := h.1 c1
      exact k_vret hx hb hr hlocks hI h dX6_addBlanks_19
    · replace h := h.2 c1
      refine lv_aload_n hx hb dX6_addBlanks_7 rfl (lv_at hl 0 rfl) ?_
      refine lv_bipush (v := nI 32) hx hb dX6_addBlanks_8 (by decide) ?_
      refine k_cVv (As := [.int (nI 32)]) (rest := []) C (c_X6_addSign σ (nI 32) _ h) (cwV 1 hts gX6_addBlanks_X6_addSign rfl rfl rfl hdX6_addSign ⟨Nat.le_of_ble_eq_true rfl, Nat.le_of_ble_eq_true rfl⟩) hI 15 rfl rfl rfl hl.1 rfl (Nat.le_of_ble_eq_true rfl) dX6_addBlanks_10 ⟨Nat.le_of_ble_eq_true rfl, Nat.le_of_ble_eq_true rfl⟩ (fun σ3 H locs h hI => ?_)
      refine lv_iinc (v := (x2 + nI 1)) (lv' := [(2, .int (x2 + nI 1)), (0, .ref (ad 15)), (1, .int x1)]) hx hb dX6_addBlanks_13 hl (k := 2) rfl rfl (by decide) rfl (fun ls hl => ?_)
      refine lv_goto (tgt := 2) hx hb dX6_addBlanks_16 (by decide) ?_
      exact ih _ _ _ _ _ h hI (lv_sub hl [1, 2, 0] rfl)
set_option maxHeartbeats 4000000 in
set_option maxRecDepth 100000 in
theorem c_X6_addBlanks (σ : St) (x1 : Int32) (Q : St → Prop) (h : wp_X6_addBlanks σ x1 Q) : Cv l D (tyE cyI cyZ) NwC (ZsC tL tS) (wC cyI cyZ ad) yX6_addBlanks wsX6_addBlanks r_X6_addBlanks [.ref (ad 15), .int x1] σ Q := by
  refine k_metV (cc := cX6_addBlanks) (maxL := 3) (ret := none) (by decide) rfl (Nat.le_of_ble_eq_true rfl) ?_
  intro p e s m below meth c A ls C hI hl
  obtain ⟨hx, hb, hr, hml, hown, hts, hlocks⟩ := id C
  have hl : lv_has ls 3 [(0, .ref (ad 15)), (1, .int x1)] := hl
  unfold wp_X6_addBlanks at h
  refine lv_iconst (v := nI 0) hx hb dX6_addBlanks_0 (by decide) ?_
  refine lv_istore_n (lv' := [(2, .int (nI 0)), (0, .ref (ad 15)), (1, .int x1)]) hx hb dX6_addBlanks_1 rfl hl (by decide) rfl (fun ls hl => ?_)
  obtain ⟨k4, h⟩ := h
  exact t_X6_addBlanks_2 C  k4 _ _ _ _ _ h hI (lv_sub hl [1, 2, 0] rfl)
theorem inX9_signAt_X9 : ∀ w ∈ wsX90, w ∈ wsX9_signAt := fun _ h => List.mem_cons_of_mem _ (List.mem_append_right _ (h))
theorem mX9_signAt_fieldLink_15_StillText_Units_sizes_I : Cond.fieldLink RX9 15 "StillText$Units" "sizes" "[I" ∈ wsX9_signAt := List.mem_cons_of_mem _ (List.mem_append_left _ (List.mem_of_getElem? (i := 0) rfl))
theorem mX9_signAt_fieldLink_18_StillText_Units_behind_I : Cond.fieldLink RX9 18 "StillText$Units" "behind" "[I" ∈ wsX9_signAt := List.mem_cons_of_mem _ (List.mem_append_left _ (List.mem_of_getElem? (i := 2) rfl))
theorem mX9_signAt_fieldLink_9_StillText_Units_letters_I : Cond.fieldLink RX9 9 "StillText$Units" "letters" "[I" ∈ wsX9_signAt := List.mem_cons_of_mem _ (List.mem_append_left _ (List.mem_of_getElem? (i := 1) rfl))
set_option maxHeartbeats 4000000 in
set_option maxRecDepth 100000 in
theorem c_X9_signAt (σ : St) (x1 x2 : Int32) (Q : Int32 → St → Prop) (h : wp_X9_signAt σ x1 x2 Q) : Ci l D (tyE cyI cyZ) NwC (ZsC tL tS) (wC cyI cyZ ad) yX9_signAt wsX9_signAt r_X9_signAt [.ref (ad 8), .int x1, .int x2] σ Q := by
  refine k_metI (cc := cX9_signAt) (maxL := 3) (ret := (some .int)) (by decide) rfl (Nat.le_of_ble_eq_true rfl) ?_
  intro p e s m below meth c A ls C hI hl
  obtain ⟨hx, hb, hr, hml, hown, hts, hlocks⟩ := id C
  have hl : lv_has ls 3 [(0, .ref (ad 8)), (1, .int x1), (2, .int x2)] := hl
  unfold wp_X9_signAt at h
  refine lv_aload_n hx hb dX9_signAt_0 rfl (lv_at hl 0 rfl) ?_
  refine lv_iload_n hx hb dX9_signAt_1 rfl (lv_at hl 1 rfl) ?_
  refine k_cVi (As := [.int x1]) (rest := []) C (c_X9_has σ x1 _ h) (cwV 1 hts gX9_signAt_X9_has rfl rfl rfl hdX9_has ⟨Nat.le_of_ble_eq_true rfl, Nat.le_of_ble_eq_true rfl⟩) hI 8 rfl rfl rfl hl.1 rfl (Nat.le_of_ble_eq_true rfl) dX9_signAt_2 ⟨Nat.le_of_ble_eq_true rfl, Nat.le_of_ble_eq_true rfl⟩ (fun r1 σ2 H locs h hI => ?_)
  refine lv_if_eq (tgt := 22) hx hb dX9_signAt_5 (by decide) (fun c3 => ?_) (fun c3 => ?_)
  · replace h := h.1 c3
    refine lv_iconst (v := (-1)) hx hb dX9_signAt_22 (by decide) ?_
    exact k_iret hx hb hr hlocks hI h dX9_signAt_23
  · replace h := h.2 c3
    refine lv_iload_n hx hb dX9_signAt_8 rfl (lv_at hl 2 rfl) ?_
    refine lv_if_lt (tgt := 22) hx hb dX9_signAt_9 (by decide) (fun c4 => ?_) (fun c4 => ?_)
    · replace h := h.1 c4
      refine lv_iconst (v := (-1)) hx hb dX9_signAt_22 (by decide) ?_
      exact k_iret hx hb hr hlocks hI h dX9_signAt_23
    · replace h := h.2 c4
      refine lv_iload_n hx hb dX9_signAt_12 rfl (lv_at hl 2 rfl) ?_
      refine lv_aload_n hx hb dX9_signAt_13 rfl (lv_at hl 0 rfl) ?_
      refine k_get (q0 := 8) (k := 1) (ci := 9) (v := .ref (ad 10)) hx hb hts inX9_signAt_X9 hown hI rfl rfl (by decide) mX9_signAt_fieldLink_15_StillText_Units_sizes_I rfl rfl dX9_signAt_14 ?_
      refine lv_iload_n hx hb dX9_signAt_17 rfl (lv_at hl 1 rfl) ?_
      refine k_iald (q0 := 10) (t0 := 0) (n := 80) (f := σ2 10) hx hb hI rfl rfl h.1 dX9_signAt_18 ?_
      replace h := h.2
      refine lv_icmp_le (tgt := 24) hx hb dX9_signAt_19 (by decide) (fun c5 => ?_) (fun c5 => ?_)
      · replace h := h.1 c5
        refine lv_iload_n hx hb dX9_signAt_24 rfl (lv_at hl 2 rfl) ?_
        refine lv_aload_n hx hb dX9_signAt_25 rfl (lv_at hl 0 rfl) ?_
        refine k_get (q0 := 8) (k := 1) (ci := 9) (v := .ref (ad 10)) hx hb hts inX9_signAt_X9 hown hI rfl rfl (by decide) mX9_signAt_fieldLink_15_StillText_Units_sizes_I rfl rfl dX9_signAt_26 ?_
        refine lv_iload_n hx hb dX9_signAt_29 rfl (lv_at hl 1 rfl) ?_
        refine k_iald (q0 := 10) (t0 := 0) (n := 80) (f := σ2 10) hx hb hI rfl rfl h.1 dX9_signAt_30 ?_
        replace h := h.2
        refine lv_icmp_ge (tgt := 48) hx hb dX9_signAt_31 (by decide) (fun c6 => ?_) (fun c6 => ?_)
        · replace h := h.1 c6
          refine lv_aload_n hx hb dX9_signAt_48 rfl (lv_at hl 0 rfl) ?_
          refine k_get (q0 := 8) (k := 2) (ci := 9) (v := .ref (ad 11)) hx hb hts inX9_signAt_X9 hown hI rfl rfl (by decide) mX9_signAt_fieldLink_18_StillText_Units_behind_I rfl rfl dX9_signAt_49 ?_
          refine lv_iload_n hx hb dX9_signAt_52 rfl (lv_at hl 1 rfl) ?_
          refine k_iald (q0 := 11) (t0 := 0) (n := 80) (f := σ2 11) hx hb hI rfl rfl h.1 dX9_signAt_53 ?_
          replace h := h.2
          exact k_iret hx hb hr hlocks hI h dX9_signAt_54
        · replace h := h.2 c6
          refine lv_aload_n hx hb dX9_signAt_34 rfl (lv_at hl 0 rfl) ?_
          refine k_get (q0 := 8) (k := 0) (ci := 9) (v := .ref (ad 9)) hx hb hts inX9_signAt_X9 hown hI rfl rfl (by decide) mX9_signAt_fieldLink_9_StillText_Units_letters_I rfl rfl dX9_signAt_35 ?_
          refine lv_iload_n hx hb dX9_signAt_38 rfl (lv_at hl 1 rfl) ?_
          refine lv_bipush (v := nI 20) hx hb dX9_signAt_39 (by decide) ?_
          refine lv_imul hx hb dX9_signAt_41 ?_
          refine lv_iload_n hx hb dX9_signAt_42 rfl (lv_at hl 2 rfl) ?_
          refine lv_iadd hx hb dX9_signAt_43 ?_
          refine k_iald (q0 := 9) (t0 := 0) (n := 1600) (f := σ2 9) hx hb hI rfl rfl h.1 dX9_signAt_44 ?_
          replace h := h.2
          refine lv_goto (tgt := 54) hx hb dX9_signAt_45 (by decide) ?_
          exact k_iret hx hb hr hlocks hI h dX9_signAt_54
      · replace h := h.2 c5
        refine lv_iconst (v := (-1)) hx hb dX9_signAt_22 (by decide) ?_
        exact k_iret hx hb hr hlocks hI h dX9_signAt_23
theorem inX6_addUnit_X6 : ∀ w ∈ wsX60, w ∈ wsX6_addUnit := fun _ h => List.mem_cons_of_mem _ (List.mem_append_left _ (List.mem_append_right _ (h)))
theorem mX6_addUnit_fieldLink_18_StillText_Strip_begins_I : Cond.fieldLink RX6 18 "StillText$Strip" "begins" "[I" ∈ wsX6_addUnit := List.mem_cons_of_mem _ (List.mem_append_left _ (List.mem_append_left _ (List.mem_append_left _ (List.mem_of_getElem? (i := 0) rfl))))
theorem mX6_addUnit_fieldLink_31_StillText_Strip_length_I : Cond.fieldLink RX6 31 "StillText$Strip" "length" "I" ∈ wsX6_addUnit := List.mem_cons_of_mem _ (List.mem_append_left _ (List.mem_append_left _ (List.mem_append_left _ (List.mem_of_getElem? (i := 1) rfl))))
theorem mX6_addUnit_fieldLink_21_StillText_Strip_ends_I : Cond.fieldLink RX6 21 "StillText$Strip" "ends" "[I" ∈ wsX6_addUnit := List.mem_cons_of_mem _ (List.mem_append_left _ (List.mem_append_left _ (List.mem_append_left _ (List.mem_of_getElem? (i := 2) rfl))))
theorem mX6_addUnit_fieldLink_24_StillText_Strip_behind_I : Cond.fieldLink RX6 24 "StillText$Strip" "behind" "[I" ∈ wsX6_addUnit := List.mem_cons_of_mem _ (List.mem_append_left _ (List.mem_append_left _ (List.mem_append_left _ (List.mem_of_getElem? (i := 3) rfl))))
theorem mX6_addUnit_fieldLink_27_StillText_Strip_units_I : Cond.fieldLink RX6 27 "StillText$Strip" "units" "I" ∈ wsX6_addUnit := List.mem_cons_of_mem _ (List.mem_append_left _ (List.mem_append_left _ (List.mem_append_left _ (List.mem_of_getElem? (i := 4) rfl))))
set_option maxHeartbeats 4000000 in
set_option maxRecDepth 100000 in
theorem t_X6_addUnit_8_19 {p : Program} {e : Env} {s : State} {m : MethodId} {args : Array Value} {below : List Frame} {meth : Method} {c : Code} {A : Nat → Prop} {x2 x3 : Int32}  {Q : St → Prop} (C : Cx p s m args meth c cX6_addUnit 5 none RX6 wsX6_addUnit) :
    ∀ (n : Nat) (σ : St) (x4 : Int32) (H : Heap) (locs : List Loc) (ls : Array Slot), wpl_X6_addUnit_8_19 x2 x3 Q n σ x4 → Iw D (tyE cyI cyZ) NwC (ZsC tL tS) (wC cyI cyZ ad) A s H locs σ → lv_has ls 5 [(0, .ref (ad 15)), (1, .ref (ad 8)), (2, .int x2), (3, .int x3), (4, .int x4)] → W p l e r_X6_addUnit_8 s m args below meth c H locs 0 0 (MQ below (va_Qv Q (Kq D (tyE cyI cyZ) (wC cyI cyZ ad) A) A) args s 0 0 A) (F0 m 19 ls []) := by
  obtain ⟨hx, hb, hr, hml, hown, hts, hlocks⟩ := id C
  intro n
  induction n with
  | zero =>
    intro _ _ _ _ _ h
    exact h.elim
  | succ n ih =>
    intro σ x4 H locs ls h hI hl
    unfold wpl_X6_addUnit_8_19 at h
    refine lv_iload hx hb dX6_addUnit_19 (lv_at hl 4 rfl) ?_
    refine lv_iload_n hx hb dX6_addUnit_21 rfl (lv_at hl 3 rfl) ?_
    refine lv_icmp_ge (tgt := 42) hx hb dX6_addUnit_22 (by decide) (fun c3 => ?_) (fun c3 => ?_)
    · replace h := h.1 c3
      refine lv_aload_n hx hb dX6_addUnit_42 rfl (lv_at hl 0 rfl) ?_
      refine k_get (q0 := 15) (k := 3) (ci := 6) (v := .ref (ad 19)) hx hb hts inX6_addUnit_X6 hown hI rfl rfl (by decide) mX6_addUnit_fieldLink_21_StillText_Strip_ends_I rfl rfl dX6_addUnit_43 ?_
      refine lv_iload_n hx hb dX6_addUnit_46 rfl (lv_at hl 2 rfl) ?_
      refine lv_aload_n hx hb dX6_addUnit_47 rfl (lv_at hl 0 rfl) ?_
      refine k_get (q0 := 15) (k := 6) (ci := 6) (v := .int (σ 15 6)) hx hb hts inX6_addUnit_X6 hown hI rfl rfl (by decide) mX6_addUnit_fieldLink_31_StillText_Strip_length_I rfl rfl dX6_addUnit_48 ?_
      refine k_iast (q0 := 19) (t0 := 0) (n := 80) (σ' := up2 σ 19 x2.toNatClampNeg (σ 15 6)) hx hb hI rfl rfl h.1 (wsC_19 _ _ _ _ _ _) dX6_addUnit_51 (fun H locs hI => ?_)
      replace h := h.2
      refine lv_aload_n hx hb dX6_addUnit_52 rfl (lv_at hl 0 rfl) ?_
      refine k_get (q0 := 15) (k := 4) (ci := 6) (v := .ref (ad 20)) hx hb hts inX6_addUnit_X6 hown hI rfl rfl (by decide) mX6_addUnit_fieldLink_24_StillText_Strip_behind_I rfl rfl dX6_addUnit_53 ?_
      refine lv_iload_n hx hb dX6_addUnit_56 rfl (lv_at hl 2 rfl) ?_
      refine lv_aload_n hx hb dX6_addUnit_57 rfl (lv_at hl 1 rfl) ?_
      refine lv_iload_n hx hb dX6_addUnit_58 rfl (lv_at hl 2 rfl) ?_
      refine k_cVi (As := [.int x2]) (rest := [.int x2, .ref (ad 20)]) C (c_X9_behind (up2 σ 19 x2.toNatClampNeg (σ 15 6)) x2 _ h) (cwV 1 hts gX6_addUnit_X9_behind rfl rfl rfl hdX9_behind ⟨Nat.le_of_ble_eq_true rfl, Nat.le_of_ble_eq_true rfl⟩) hI 8 rfl rfl rfl hl.1 rfl (Nat.le_of_ble_eq_true rfl) dX6_addUnit_59 ⟨Nat.le_of_ble_eq_true rfl, Nat.le_of_ble_eq_true rfl⟩ (fun r4 σ5 H locs h hI => ?_)
      refine k_iast (q0 := 20) (t0 := 0) (n := 80) (σ' := up2 σ5 20 x2.toNatClampNeg r4) hx hb hI rfl rfl h.1 (wsC_20 _ _ _ _ _ _) dX6_addUnit_62 (fun H locs hI => ?_)
      replace h := h.2
      refine lv_aload_n hx hb dX6_addUnit_63 rfl (lv_at hl 0 rfl) ?_
      refine lv_dup hx hb dX6_addUnit_64 rfl ?_
      refine k_get (q0 := 15) (k := 5) (ci := 6) (v := .int (σ5 15 5)) hx hb hts inX6_addUnit_X6 hown hI rfl rfl (by decide) mX6_addUnit_fieldLink_27_StillText_Strip_units_I rfl rfl dX6_addUnit_65 ?_
      refine lv_iconst (v := nI 1) hx hb dX6_addUnit_68 (by decide) ?_
      refine lv_iadd hx hb dX6_addUnit_69 ?_
      refine k_put (q0 := 15) (k := 5) (ci := 6) (v := .int ((σ5 15 5) + (nI 1))) (σ' := up2 (up2 σ5 20 x2.toNatClampNeg r4) 15 5 ((σ5 15 5) + (nI 1))) hx hb hts inX6_addUnit_X6 tyX6 tyX6_ok nmX6 hown hI rfl rfl (by decide) mX6_addUnit_fieldLink_27_StillText_Strip_units_I rfl rfl rfl rfl (Nat.le_of_ble_eq_true rfl) (wsC_15_5 _ _ _ _ _) dX6_addUnit_70 (fun H locs hI => ?_)
      exact k_vret hx hb hr hlocks hI h dX6_addUnit_73
    · replace h := h.2 c3
      refine lv_aload_n hx hb dX6_addUnit_25 rfl (lv_at hl 0 rfl) ?_
      refine lv_aload_n hx hb dX6_addUnit_26 rfl (lv_at hl 1 rfl) ?_
      refine lv_iload_n hx hb dX6_addUnit_27 rfl (lv_at hl 2 rfl) ?_
      refine lv_iload hx hb dX6_addUnit_28 (lv_at hl 4 rfl) ?_
      refine k_cVi (As := [.int x2, .int x4]) (rest := [.ref (ad 15)]) C (c_X9_signAt σ x2 x4 _ h) (cwV 2 hts gX6_addUnit_X9_signAt rfl rfl rfl hdX9_signAt ⟨Nat.le_of_ble_eq_true rfl, Nat.le_of_ble_eq_true rfl⟩) hI 8 rfl rfl rfl hl.1 rfl (Nat.le_of_ble_eq_true rfl) dX6_addUnit_30 ⟨Nat.le_of_ble_eq_true rfl, Nat.le_of_ble_eq_true rfl⟩ (fun r6 σ7 H locs h hI => ?_)
      refine k_cVv (As := [.int r6]) (rest := []) C (c_X6_addSign σ7 r6 _ h) (cwV 1 hts gX6_addUnit_X6_addSign rfl rfl rfl hdX6_addSign ⟨Nat.le_of_ble_eq_true rfl, Nat.le_of_ble_eq_true rfl⟩) hI 15 rfl rfl rfl hl.1 rfl (Nat.le_of_ble_eq_true rfl) dX6_addUnit_33 ⟨Nat.le_of_ble_eq_true rfl, Nat.le_of_ble_eq_true rfl⟩ (fun σ9 H locs h hI => ?_)
      refine lv_iinc (v := (x4 + nI 1)) (lv' := [(4, .int (x4 + nI 1)), (0, .ref (ad 15)), (1, .ref (ad 8)), (2, .int x2), (3, .int x3)]) hx hb dX6_addUnit_36 hl (k := 4) rfl rfl (by decide) rfl (fun ls hl => ?_)
      refine lv_goto (tgt := 19) hx hb dX6_addUnit_39 (by decide) ?_
      exact ih _ _ _ _ _ h hI (lv_sub hl [1, 2, 3, 4, 0] rfl)
set_option maxHeartbeats 4000000 in
set_option maxRecDepth 100000 in
theorem c_X6_addUnit_8 (σ : St) (x2 : Int32) (Q : St → Prop) (h : wp_X6_addUnit_8 σ x2 Q) : Cv l D (tyE cyI cyZ) NwC (ZsC tL tS) (wC cyI cyZ ad) yX6_addUnit wsX6_addUnit r_X6_addUnit_8 [.ref (ad 15), .ref (ad 8), .int x2] σ Q := by
  refine k_metV (cc := cX6_addUnit) (maxL := 5) (ret := none) (by decide) rfl (Nat.le_of_ble_eq_true rfl) ?_
  intro p e s m below meth c A ls C hI hl
  obtain ⟨hx, hb, hr, hml, hown, hts, hlocks⟩ := id C
  have hl : lv_has ls 5 [(0, .ref (ad 15)), (1, .ref (ad 8)), (2, .int x2)] := hl
  unfold wp_X6_addUnit_8 at h
  refine lv_aload_n hx hb dX6_addUnit_0 rfl (lv_at hl 0 rfl) ?_
  refine k_get (q0 := 15) (k := 2) (ci := 6) (v := .ref (ad 18)) hx hb hts inX6_addUnit_X6 hown hI rfl rfl (by decide) mX6_addUnit_fieldLink_18_StillText_Strip_begins_I rfl rfl dX6_addUnit_1 ?_
  refine lv_iload_n hx hb dX6_addUnit_4 rfl (lv_at hl 2 rfl) ?_
  refine lv_aload_n hx hb dX6_addUnit_5 rfl (lv_at hl 0 rfl) ?_
  refine k_get (q0 := 15) (k := 6) (ci := 6) (v := .int (σ 15 6)) hx hb hts inX6_addUnit_X6 hown hI rfl rfl (by decide) mX6_addUnit_fieldLink_31_StillText_Strip_length_I rfl rfl dX6_addUnit_6 ?_
  refine k_iast (q0 := 18) (t0 := 0) (n := 80) (σ' := up2 σ 18 x2.toNatClampNeg (σ 15 6)) hx hb hI rfl rfl h.1 (wsC_18 _ _ _ _ _ _) dX6_addUnit_9 (fun H locs hI => ?_)
  replace h := h.2
  refine lv_aload_n hx hb dX6_addUnit_10 rfl (lv_at hl 1 rfl) ?_
  refine lv_iload_n hx hb dX6_addUnit_11 rfl (lv_at hl 2 rfl) ?_
  refine k_cVi (As := [.int x2]) (rest := []) C (c_X9_signs (up2 σ 18 x2.toNatClampNeg (σ 15 6)) x2 _ h) (cwV 1 hts gX6_addUnit_X9_signs rfl rfl rfl hdX9_signs ⟨Nat.le_of_ble_eq_true rfl, Nat.le_of_ble_eq_true rfl⟩) hI 8 rfl rfl rfl hl.1 rfl (Nat.le_of_ble_eq_true rfl) dX6_addUnit_12 ⟨Nat.le_of_ble_eq_true rfl, Nat.le_of_ble_eq_true rfl⟩ (fun r1 σ2 H locs h hI => ?_)
  refine lv_istore_n (lv' := [(3, .int r1), (0, .ref (ad 15)), (1, .ref (ad 8)), (2, .int x2)]) hx hb dX6_addUnit_15 rfl hl (by decide) rfl (fun ls hl => ?_)
  refine lv_iconst (v := nI 0) hx hb dX6_addUnit_16 (by decide) ?_
  refine lv_istore (lv' := [(4, .int (nI 0)), (3, .int r1), (0, .ref (ad 15)), (1, .ref (ad 8)), (2, .int x2)]) hx hb dX6_addUnit_17 hl (by decide) rfl (fun ls hl => ?_)
  obtain ⟨k10, h⟩ := h
  exact t_X6_addUnit_8_19 C  k10 _ _ _ _ _ h hI (lv_sub hl [2, 3, 4, 1, 0] rfl)
theorem inX6_lay_X6 : ∀ w ∈ wsX60, w ∈ wsX6_lay := fun _ h => List.mem_cons_of_mem _ (List.mem_append_left _ (List.mem_append_right _ (h)))
theorem mX6_lay_fieldLink_27_StillText_Strip_units_I : Cond.fieldLink RX6 27 "StillText$Strip" "units" "I" ∈ wsX6_lay := List.mem_cons_of_mem _ (List.mem_append_left _ (List.mem_append_left _ (List.mem_append_left _ (List.mem_of_getElem? (i := 0) rfl))))
theorem mX6_lay_fieldLink_31_StillText_Strip_length_I : Cond.fieldLink RX6 31 "StillText$Strip" "length" "I" ∈ wsX6_lay := List.mem_cons_of_mem _ (List.mem_append_left _ (List.mem_append_left _ (List.mem_append_left _ (List.mem_of_getElem? (i := 1) rfl))))
set_option maxHeartbeats 4000000 in
set_option maxRecDepth 100000 in
theorem t_X6_lay_8_12 {p : Program} {e : Env} {s : State} {m : MethodId} {args : Array Value} {below : List Frame} {meth : Method} {c : Code} {A : Nat → Prop} {x2 : Int32}  {Q : St → Prop} (C : Cx p s m args meth c cX6_lay 4 none RX6 wsX6_lay) :
    ∀ (n : Nat) (σ : St) (x3 : Int32) (H : Heap) (locs : List Loc) (ls : Array Slot), wpl_X6_lay_8_12 x2 Q n σ x3 → Iw D (tyE cyI cyZ) NwC (ZsC tL tS) (wC cyI cyZ ad) A s H locs σ → lv_has ls 4 [(0, .ref (ad 15)), (1, .ref (ad 8)), (2, .int x2), (3, .int x3)] → W p l e r_X6_lay_8 s m args below meth c H locs 0 0 (MQ below (va_Qv Q (Kq D (tyE cyI cyZ) (wC cyI cyZ ad) A) A) args s 0 0 A) (F0 m 12 ls []) := by
  obtain ⟨hx, hb, hr, hml, hown, hts, hlocks⟩ := id C
  intro n
  induction n with
  | zero =>
    intro _ _ _ _ _ h
    exact h.elim
  | succ n ih =>
    intro σ x3 H locs ls h hI hl
    unfold wpl_X6_lay_8_12 at h
    refine lv_iload_n hx hb dX6_lay_12 rfl (lv_at hl 3 rfl) ?_
    refine lv_aload_n hx hb dX6_lay_13 rfl (lv_at hl 1 rfl) ?_
    refine k_cVi (As := []) (rest := [.int x3]) C (c_X9_count_at8 σ  _ h) (cwV 0 hts gX6_lay_X9_count rfl rfl rfl hdX9_count ⟨Nat.le_of_ble_eq_true rfl, Nat.le_of_ble_eq_true rfl⟩) hI 8 rfl rfl rfl hl.1 rfl (Nat.le_of_ble_eq_true rfl) dX6_lay_14 ⟨Nat.le_of_ble_eq_true rfl, Nat.le_of_ble_eq_true rfl⟩ (fun r1 σ2 H locs h hI => ?_)
    refine lv_icmp_ge (tgt := 57) hx hb dX6_lay_17 (by decide) (fun c3 => ?_) (fun c3 => ?_)
    · replace h := h.1 c3
      exact k_vret hx hb hr hlocks hI h dX6_lay_57
    · replace h := h.2 c3
      refine lv_iload_n hx hb dX6_lay_20 rfl (lv_at hl 3 rfl) ?_
      refine lv_bipush (v := nI 80) hx hb dX6_lay_21 (by decide) ?_
      refine lv_icmp_ge (tgt := 57) hx hb dX6_lay_23 (by decide) (fun c4 => ?_) (fun c4 => ?_)
      · replace h := h.1 c4
        exact k_vret hx hb hr hlocks hI h dX6_lay_57
      · replace h := h.2 c4
        refine lv_iload_n hx hb dX6_lay_26 rfl (lv_at hl 3 rfl) ?_
        refine lv_if_le (tgt := 45) hx hb dX6_lay_27 (by decide) (fun c5 => ?_) (fun c5 => ?_)
        · replace h := h.1 c5
          refine lv_aload_n hx hb dX6_lay_45 rfl (lv_at hl 0 rfl) ?_
          refine lv_aload_n hx hb dX6_lay_46 rfl (lv_at hl 1 rfl) ?_
          refine lv_iload_n hx hb dX6_lay_47 rfl (lv_at hl 3 rfl) ?_
          refine k_cVv (As := [.ref (ad 8), .int x3]) (rest := []) C (c_X6_addUnit_8 σ2 x3 _ h) (cwV 2 hts gX6_lay_X6_addUnit rfl rfl rfl hdX6_addUnit ⟨Nat.le_of_ble_eq_true rfl, Nat.le_of_ble_eq_true rfl⟩) hI 15 rfl rfl rfl hl.1 rfl (Nat.le_of_ble_eq_true rfl) dX6_lay_48 ⟨Nat.le_of_ble_eq_true rfl, Nat.le_of_ble_eq_true rfl⟩ (fun σ7 H locs h hI => ?_)
          refine lv_iinc (v := (x3 + nI 1)) (lv' := [(3, .int (x3 + nI 1)), (0, .ref (ad 15)), (1, .ref (ad 8)), (2, .int x2)]) hx hb dX6_lay_51 hl (k := 3) rfl rfl (by decide) rfl (fun ls hl => ?_)
          refine lv_goto (tgt := 12) hx hb dX6_lay_54 (by decide) ?_
          exact ih _ _ _ _ _ h hI (lv_sub hl [1, 2, 3, 0] rfl)
        · replace h := h.2 c5
          refine lv_aload_n hx hb dX6_lay_30 rfl (lv_at hl 1 rfl) ?_
          refine lv_iload_n hx hb dX6_lay_31 rfl (lv_at hl 3 rfl) ?_
          refine lv_iconst (v := nI 1) hx hb dX6_lay_32 (by decide) ?_
          refine lv_isub hx hb dX6_lay_33 ?_
          refine k_cVi (As := [.int (x3 - (nI 1))]) (rest := []) C (c_X9_goesOn σ2 (x3 - (nI 1)) _ h) (cwV 1 hts gX6_lay_X9_goesOn rfl rfl rfl hdX9_goesOn ⟨Nat.le_of_ble_eq_true rfl, Nat.le_of_ble_eq_true rfl⟩) hI 8 rfl rfl rfl hl.1 rfl (Nat.le_of_ble_eq_true rfl) dX6_lay_34 ⟨Nat.le_of_ble_eq_true rfl, Nat.le_of_ble_eq_true rfl⟩ (fun r8 σ9 H locs h hI => ?_)
          refine lv_if_ne (tgt := 45) hx hb dX6_lay_37 (by decide) (fun c10 => ?_) (fun c10 => ?_)
          · replace h := h.1 c10
            refine lv_aload_n hx hb dX6_lay_45 rfl (lv_at hl 0 rfl) ?_
            refine lv_aload_n hx hb dX6_lay_46 rfl (lv_at hl 1 rfl) ?_
            refine lv_iload_n hx hb dX6_lay_47 rfl (lv_at hl 3 rfl) ?_
            refine k_cVv (As := [.ref (ad 8), .int x3]) (rest := []) C (c_X6_addUnit_8 σ9 x3 _ h) (cwV 2 hts gX6_lay_X6_addUnit rfl rfl rfl hdX6_addUnit ⟨Nat.le_of_ble_eq_true rfl, Nat.le_of_ble_eq_true rfl⟩) hI 15 rfl rfl rfl hl.1 rfl (Nat.le_of_ble_eq_true rfl) dX6_lay_48 ⟨Nat.le_of_ble_eq_true rfl, Nat.le_of_ble_eq_true rfl⟩ (fun σ12 H locs h hI => ?_)
            refine lv_iinc (v := (x3 + nI 1)) (lv' := [(3, .int (x3 + nI 1)), (0, .ref (ad 15)), (1, .ref (ad 8)), (2, .int x2)]) hx hb dX6_lay_51 hl (k := 3) rfl rfl (by decide) rfl (fun ls hl => ?_)
            refine lv_goto (tgt := 12) hx hb dX6_lay_54 (by decide) ?_
            exact ih _ _ _ _ _ h hI (lv_sub hl [1, 2, 3, 0] rfl)
          · replace h := h.2 c10
            refine lv_aload_n hx hb dX6_lay_40 rfl (lv_at hl 0 rfl) ?_
            refine lv_iload_n hx hb dX6_lay_41 rfl (lv_at hl 2 rfl) ?_
            refine k_cVv (As := [.int x2]) (rest := []) C (c_X6_addBlanks σ9 x2 _ h) (cwV 1 hts gX6_lay_X6_addBlanks rfl rfl rfl hdX6_addBlanks ⟨Nat.le_of_ble_eq_true rfl, Nat.le_of_ble_eq_true rfl⟩) hI 15 rfl rfl rfl hl.1 rfl (Nat.le_of_ble_eq_true rfl) dX6_lay_42 ⟨Nat.le_of_ble_eq_true rfl, Nat.le_of_ble_eq_true rfl⟩ (fun σ14 H locs h hI => ?_)
            refine lv_aload_n hx hb dX6_lay_45 rfl (lv_at hl 0 rfl) ?_
            refine lv_aload_n hx hb dX6_lay_46 rfl (lv_at hl 1 rfl) ?_
            refine lv_iload_n hx hb dX6_lay_47 rfl (lv_at hl 3 rfl) ?_
            refine k_cVv (As := [.ref (ad 8), .int x3]) (rest := []) C (c_X6_addUnit_8 σ14 x3 _ h) (cwV 2 hts gX6_lay_X6_addUnit rfl rfl rfl hdX6_addUnit ⟨Nat.le_of_ble_eq_true rfl, Nat.le_of_ble_eq_true rfl⟩) hI 15 rfl rfl rfl hl.1 rfl (Nat.le_of_ble_eq_true rfl) dX6_lay_48 ⟨Nat.le_of_ble_eq_true rfl, Nat.le_of_ble_eq_true rfl⟩ (fun σ16 H locs h hI => ?_)
            refine lv_iinc (v := (x3 + nI 1)) (lv' := [(3, .int (x3 + nI 1)), (0, .ref (ad 15)), (1, .ref (ad 8)), (2, .int x2)]) hx hb dX6_lay_51 hl (k := 3) rfl rfl (by decide) rfl (fun ls hl => ?_)
            refine lv_goto (tgt := 12) hx hb dX6_lay_54 (by decide) ?_
            exact ih _ _ _ _ _ h hI (lv_sub hl [1, 2, 3, 0] rfl)
set_option maxHeartbeats 4000000 in
set_option maxRecDepth 100000 in
theorem c_X6_lay_8 (σ : St) (x2 : Int32) (Q : St → Prop) (h : wp_X6_lay_8 σ x2 Q) : Cv l D (tyE cyI cyZ) NwC (ZsC tL tS) (wC cyI cyZ ad) yX6_lay wsX6_lay r_X6_lay_8 [.ref (ad 15), .ref (ad 8), .int x2] σ Q := by
  refine k_metV (cc := cX6_lay) (maxL := 4) (ret := none) (by decide) rfl (Nat.le_of_ble_eq_true rfl) ?_
  intro p e s m below meth c A ls C hI hl
  obtain ⟨hx, hb, hr, hml, hown, hts, hlocks⟩ := id C
  have hl : lv_has ls 4 [(0, .ref (ad 15)), (1, .ref (ad 8)), (2, .int x2)] := hl
  unfold wp_X6_lay_8 at h
  refine lv_aload_n hx hb dX6_lay_0 rfl (lv_at hl 0 rfl) ?_
  refine lv_iconst (v := nI 0) hx hb dX6_lay_1 (by decide) ?_
  refine k_put (q0 := 15) (k := 5) (ci := 6) (v := .int (nI 0)) (σ' := up2 σ 15 5 (nI 0)) hx hb hts inX6_lay_X6 tyX6 tyX6_ok nmX6 hown hI rfl rfl (by decide) mX6_lay_fieldLink_27_StillText_Strip_units_I rfl rfl rfl rfl (Nat.le_of_ble_eq_true rfl) (wsC_15_5 _ _ _ _ _) dX6_lay_2 (fun H locs hI => ?_)
  refine lv_aload_n hx hb dX6_lay_5 rfl (lv_at hl 0 rfl) ?_
  refine lv_iconst (v := nI 0) hx hb dX6_lay_6 (by decide) ?_
  refine k_put (q0 := 15) (k := 6) (ci := 6) (v := .int (nI 0)) (σ' := up2 (up2 σ 15 5 (nI 0)) 15 6 (nI 0)) hx hb hts inX6_lay_X6 tyX6 tyX6_ok nmX6 hown hI rfl rfl (by decide) mX6_lay_fieldLink_31_StillText_Strip_length_I rfl rfl rfl rfl (Nat.le_of_ble_eq_true rfl) (wsC_15_6 _ _ _ _ _) dX6_lay_7 (fun H locs hI => ?_)
  refine lv_iconst (v := nI 0) hx hb dX6_lay_10 (by decide) ?_
  refine lv_istore_n (lv' := [(3, .int (nI 0)), (0, .ref (ad 15)), (1, .ref (ad 8)), (2, .int x2)]) hx hb dX6_lay_11 rfl hl (by decide) rfl (fun ls hl => ?_)
  obtain ⟨k17, h⟩ := h
  exact t_X6_lay_8_12 C  k17 _ _ _ _ _ h hI (lv_sub hl [1, 2, 3, 0] rfl)
theorem inX5_begin_X5 : ∀ w ∈ wsX50, w ∈ wsX5_begin := fun _ h => List.mem_cons_of_mem _ (List.mem_append_left _ (List.mem_append_left _ (List.mem_append_right _ (h))))
theorem mX5_begin_fieldLink_12_StillText_Setting_strip_LStillText_Strip : Cond.fieldLink RX5 12 "StillText$Setting" "strip" "LStillText$Strip;" ∈ wsX5_begin := List.mem_cons_of_mem _ (List.mem_append_left _ (List.mem_append_left _ (List.mem_append_left _ (List.mem_append_left _ (List.mem_of_getElem? (i := 0) rfl)))))
theorem mX5_begin_fieldLink_32_StillText_Setting_count_I : Cond.fieldLink RX5 32 "StillText$Setting" "count" "I" ∈ wsX5_begin := List.mem_cons_of_mem _ (List.mem_append_left _ (List.mem_append_left _ (List.mem_append_left _ (List.mem_append_left _ (List.mem_of_getElem? (i := 1) rfl)))))
theorem mX5_begin_fieldLink_25_StillText_Setting_there_Z : Cond.fieldLink RX5 25 "StillText$Setting" "there" "Z" ∈ wsX5_begin := List.mem_cons_of_mem _ (List.mem_append_left _ (List.mem_append_left _ (List.mem_append_left _ (List.mem_append_left _ (List.mem_of_getElem? (i := 2) rfl)))))
theorem mX5_begin_fieldLink_29_StillText_Setting_ofText_Z : Cond.fieldLink RX5 29 "StillText$Setting" "ofText" "Z" ∈ wsX5_begin := List.mem_cons_of_mem _ (List.mem_append_left _ (List.mem_append_left _ (List.mem_append_left _ (List.mem_append_left _ (List.mem_of_getElem? (i := 3) rfl)))))
set_option maxHeartbeats 4000000 in
set_option maxRecDepth 100000 in
theorem c_X5_begin_8 (σ : St) (x2 : Int32) (Q : St → Prop) (h : wp_X5_begin_8 σ x2 Q) : Cv l D (tyE cyI cyZ) NwC (ZsC tL tS) (wC cyI cyZ ad) yX5_begin wsX5_begin r_X5_begin_8 [.ref (ad 14), .ref (ad 8), .int x2] σ Q := by
  refine k_metV (cc := cX5_begin) (maxL := 3) (ret := none) (by decide) rfl (Nat.le_of_ble_eq_true rfl) ?_
  intro p e s m below meth c A ls C hI hl
  obtain ⟨hx, hb, hr, hml, hown, hts, hlocks⟩ := id C
  have hl : lv_has ls 3 [(0, .ref (ad 14)), (1, .ref (ad 8)), (2, .int x2)] := hl
  unfold wp_X5_begin_8 at h
  refine lv_aload_n hx hb dX5_begin_0 rfl (lv_at hl 0 rfl) ?_
  refine k_get (q0 := 14) (k := 0) (ci := 5) (v := .ref (ad 15)) hx hb hts inX5_begin_X5 hown hI rfl rfl (by decide) mX5_begin_fieldLink_12_StillText_Setting_strip_LStillText_Strip rfl rfl dX5_begin_1 ?_
  refine lv_aload_n hx hb dX5_begin_4 rfl (lv_at hl 1 rfl) ?_
  refine lv_iload_n hx hb dX5_begin_5 rfl (lv_at hl 2 rfl) ?_
  refine k_cVv (As := [.ref (ad 8), .int x2]) (rest := []) C (c_X6_lay_8 σ x2 _ h) (cwV 2 hts gX5_begin_X6_lay rfl rfl rfl hdX6_lay ⟨Nat.le_of_ble_eq_true rfl, Nat.le_of_ble_eq_true rfl⟩) hI 15 rfl rfl rfl hl.1 rfl (Nat.le_of_ble_eq_true rfl) dX5_begin_6 ⟨Nat.le_of_ble_eq_true rfl, Nat.le_of_ble_eq_true rfl⟩ (fun σ2 H locs h hI => ?_)
  refine lv_aload_n hx hb dX5_begin_9 rfl (lv_at hl 0 rfl) ?_
  refine lv_iconst (v := nI 0) hx hb dX5_begin_10 (by decide) ?_
  refine k_put (q0 := 14) (k := 3) (ci := 5) (v := .int (nI 0)) (σ' := up2 σ2 14 3 (nI 0)) hx hb hts inX5_begin_X5 tyX5 tyX5_ok nmX5 hown hI rfl rfl (by decide) mX5_begin_fieldLink_32_StillText_Setting_count_I rfl rfl rfl rfl (Nat.le_of_ble_eq_true rfl) (wsC_14_3 _ _ _ _ _) dX5_begin_11 (fun H locs hI => ?_)
  refine lv_aload_n hx hb dX5_begin_14 rfl (lv_at hl 0 rfl) ?_
  refine lv_iconst (v := nI 1) hx hb dX5_begin_15 (by decide) ?_
  refine k_put (q0 := 14) (k := 4) (ci := 5) (v := .int (nI 1)) (σ' := up2 (up2 σ2 14 3 (nI 0)) 14 4 (nI 1)) hx hb hts inX5_begin_X5 tyX5 tyX5_ok nmX5 hown hI rfl rfl (by decide) mX5_begin_fieldLink_25_StillText_Setting_there_Z rfl rfl rfl rfl (Nat.le_of_ble_eq_true rfl) (wsC_14_4 _ _ _ _ _) dX5_begin_16 (fun H locs hI => ?_)
  refine lv_aload_n hx hb dX5_begin_19 rfl (lv_at hl 0 rfl) ?_
  refine lv_iconst (v := nI 1) hx hb dX5_begin_20 (by decide) ?_
  refine k_put (q0 := 14) (k := 5) (ci := 5) (v := .int (nI 1)) (σ' := up2 (up2 (up2 σ2 14 3 (nI 0)) 14 4 (nI 1)) 14 5 (nI 1)) hx hb hts inX5_begin_X5 tyX5 tyX5_ok nmX5 hown hI rfl rfl (by decide) mX5_begin_fieldLink_29_StillText_Setting_ofText_Z rfl rfl rfl rfl (Nat.le_of_ble_eq_true rfl) (wsC_14_5 _ _ _ _ _) dX5_begin_21 (fun H locs hI => ?_)
  exact k_vret hx hb hr hlocks hI h dX5_begin_24
theorem inX6_units_X6 : ∀ w ∈ wsX60, w ∈ wsX6_units := fun _ h => List.mem_cons_of_mem _ (List.mem_append_right _ (h))
theorem mX6_units_fieldLink_27_StillText_Strip_units_I : Cond.fieldLink RX6 27 "StillText$Strip" "units" "I" ∈ wsX6_units := List.mem_cons_of_mem _ (List.mem_append_left _ (List.mem_of_getElem? (i := 0) rfl))
set_option maxHeartbeats 4000000 in
set_option maxRecDepth 100000 in
theorem c_X6_units (σ : St) (Q : Int32 → St → Prop) (h : wp_X6_units σ  Q) : Ci l D (tyE cyI cyZ) NwC (ZsC tL tS) (wC cyI cyZ ad) yX6_units wsX6_units r_X6_units [.ref (ad 15)] σ Q := by
  refine k_metI (cc := cX6_units) (maxL := 1) (ret := (some .int)) (by decide) rfl (Nat.le_of_ble_eq_true rfl) ?_
  intro p e s m below meth c A ls C hI hl
  obtain ⟨hx, hb, hr, hml, hown, hts, hlocks⟩ := id C
  have hl : lv_has ls 1 [(0, .ref (ad 15))] := hl
  unfold wp_X6_units at h
  refine lv_aload_n hx hb dX6_units_0 rfl (lv_at hl 0 rfl) ?_
  refine k_get (q0 := 15) (k := 5) (ci := 6) (v := .int (σ 15 5)) hx hb hts inX6_units_X6 hown hI rfl rfl (by decide) mX6_units_fieldLink_27_StillText_Strip_units_I rfl rfl dX6_units_1 ?_
  exact k_iret hx hb hr hlocks hI h dX6_units_4
end
