section
variable {l : Launch} {D : va_G} {cyI cyZ : ClassId} {ad : Nat → Nat} {tL tS : Nat}
theorem inX7_appendNumber_X7 : ∀ w ∈ wsX70, w ∈ wsX7_appendNumber := fun _ h => List.mem_cons_of_mem _ (List.mem_append_right _ (h))
theorem mX7_appendNumber_fieldLink_15_StillText_Tape_length_I : Cond.fieldLink RX7 15 "StillText$Tape" "length" "I" ∈ wsX7_appendNumber := List.mem_cons_of_mem _ (List.mem_append_left _ (List.mem_of_getElem? (i := 0) rfl))
theorem mX7_appendNumber_fieldLink_9_StillText_Tape_bytes_I : Cond.fieldLink RX7 9 "StillText$Tape" "bytes" "[I" ∈ wsX7_appendNumber := List.mem_cons_of_mem _ (List.mem_append_left _ (List.mem_of_getElem? (i := 1) rfl))
set_option maxHeartbeats 4000000 in
set_option maxRecDepth 100000 in
theorem t_X7_appendNumber_3 {p : Program} {e : Env} {s : State} {m : MethodId} {args : Array Value} {below : List Frame} {meth : Method} {c : Code} {A : Nat → Prop} {x1 : Int32}  {Q : St → Prop} (C : Cx p s m args meth c cX7_appendNumber 3 none RX7 wsX7_appendNumber) :
    ∀ (n : Nat) (σ : St) (x2 : Int32) (H : Heap) (locs : List Loc) (ls : Array Slot), wpl_X7_appendNumber_3 x1 Q n σ x2 → Iw D (tyE cyI cyZ) NwC (ZsC tL tS) (wC cyI cyZ ad) A s H locs σ → lv_has ls 3 [(0, .ref (ad 1)), (1, .int x1), (2, .int x2)] → W p l e r_X7_appendNumber s m args below meth c H locs 0 0 (MQ below (va_Qv Q (Kq D (tyE cyI cyZ) (wC cyI cyZ ad) A) A) args s 0 0 A) (F0 m 3 ls []) := by
  obtain ⟨hx, hb, hr, hml, hown, hts, hlocks⟩ := id C
  intro n
  induction n with
  | zero =>
    intro _ _ _ _ _ h
    exact h.elim
  | succ n ih =>
    intro σ x2 H locs ls h hI hl
    unfold wpl_X7_appendNumber_3 at h
    refine lv_iload_n hx hb dX7_appendNumber_3 rfl (lv_at hl 2 rfl) ?_
    refine lv_if_lt (tgt := 49) hx hb dX7_appendNumber_4 (by decide) (fun c1 => ?_) (fun c1 => ?_)
    · replace h := h.1 c1
      exact k_vret hx hb hr hlocks hI h dX7_appendNumber_49
    · replace h := h.2 c1
      refine lv_aload_n hx hb dX7_appendNumber_7 rfl (lv_at hl 0 rfl) ?_
      refine k_get (q0 := 1) (k := 1) (ci := 7) (v := .int (σ 1 1)) hx hb hts inX7_appendNumber_X7 hown hI rfl rfl (by decide) mX7_appendNumber_fieldLink_15_StillText_Tape_length_I rfl rfl dX7_appendNumber_8 ?_
      refine lv_sipush (v := nI 600) hx hb dX7_appendNumber_11 (by decide) ?_
      refine lv_icmp_ge (tgt := 49) hx hb dX7_appendNumber_14 (by decide) (fun c2 => ?_) (fun c2 => ?_)
      · replace h := h.1 c2
        exact k_vret hx hb hr hlocks hI h dX7_appendNumber_49
      · replace h := h.2 c2
        refine lv_aload_n hx hb dX7_appendNumber_17 rfl (lv_at hl 0 rfl) ?_
        refine k_get (q0 := 1) (k := 0) (ci := 7) (v := .ref (ad 2)) hx hb hts inX7_appendNumber_X7 hown hI rfl rfl (by decide) mX7_appendNumber_fieldLink_9_StillText_Tape_bytes_I rfl rfl dX7_appendNumber_18 ?_
        refine lv_aload_n hx hb dX7_appendNumber_21 rfl (lv_at hl 0 rfl) ?_
        refine k_get (q0 := 1) (k := 1) (ci := 7) (v := .int (σ 1 1)) hx hb hts inX7_appendNumber_X7 hown hI rfl rfl (by decide) mX7_appendNumber_fieldLink_15_StillText_Tape_length_I rfl rfl dX7_appendNumber_22 ?_
        refine lv_iload_n hx hb dX7_appendNumber_25 rfl (lv_at hl 1 rfl) ?_
        refine lv_iload_n hx hb dX7_appendNumber_26 rfl (lv_at hl 2 rfl) ?_
        refine lv_iushr (v := (((x1).toUInt32 >>> ((x2).toUInt32 &&& Int32.toUInt32 31)).toInt32)) hx hb dX7_appendNumber_27 rfl ?_
        refine lv_sipush (v := nI 255) hx hb dX7_appendNumber_28 (by decide) ?_
        refine lv_iand hx hb dX7_appendNumber_31 ?_
        refine k_iast (q0 := 2) (t0 := 0) (n := 600) (σ' := up2 σ 2 (σ 1 1).toNatClampNeg ((((x1).toUInt32 >>> ((x2).toUInt32 &&& Int32.toUInt32 31)).toInt32) &&& (nI 255))) hx hb hI rfl rfl h.1 (wsC_2 _ _ _ _ _ _) dX7_appendNumber_32 (fun H locs hI => ?_)
        replace h := h.2
        refine lv_aload_n hx hb dX7_appendNumber_33 rfl (lv_at hl 0 rfl) ?_
        refine lv_dup hx hb dX7_appendNumber_34 rfl ?_
        refine k_get (q0 := 1) (k := 1) (ci := 7) (v := .int (σ 1 1)) hx hb hts inX7_appendNumber_X7 hown hI rfl rfl (by decide) mX7_appendNumber_fieldLink_15_StillText_Tape_length_I rfl rfl dX7_appendNumber_35 ?_
        refine lv_iconst (v := nI 1) hx hb dX7_appendNumber_38 (by decide) ?_
        refine lv_iadd hx hb dX7_appendNumber_39 ?_
        refine k_put (q0 := 1) (k := 1) (ci := 7) (v := .int ((σ 1 1) + (nI 1))) (σ' := up2 (up2 σ 2 (σ 1 1).toNatClampNeg ((((x1).toUInt32 >>> ((x2).toUInt32 &&& Int32.toUInt32 31)).toInt32) &&& (nI 255))) 1 1 ((σ 1 1) + (nI 1))) hx hb hts inX7_appendNumber_X7 tyX7 tyX7_ok nmX7 hown hI rfl rfl (by decide) mX7_appendNumber_fieldLink_15_StillText_Tape_length_I rfl rfl rfl rfl (Nat.le_of_ble_eq_true rfl) (wsC_1_1 _ _ _ _ _) dX7_appendNumber_40 (fun H locs hI => ?_)
        refine lv_iinc (v := (x2 - nI 8)) (lv' := [(2, .int (x2 - nI 8)), (0, .ref (ad 1)), (1, .int x1)]) hx hb dX7_appendNumber_43 hl (k := 2) rfl (k_dec8 _) (by decide) rfl (fun ls hl => ?_)
        refine lv_goto (tgt := 3) hx hb dX7_appendNumber_46 (by decide) ?_
        exact ih _ _ _ _ _ h hI (lv_sub hl [1, 2, 0] rfl)
set_option maxHeartbeats 4000000 in
set_option maxRecDepth 100000 in
theorem c_X7_appendNumber (σ : St) (x1 : Int32) (Q : St → Prop) (h : wp_X7_appendNumber σ x1 Q) : Cv l D (tyE cyI cyZ) NwC (ZsC tL tS) (wC cyI cyZ ad) yX7_appendNumber wsX7_appendNumber r_X7_appendNumber [.ref (ad 1), .int x1] σ Q := by
  refine k_metV (cc := cX7_appendNumber) (maxL := 3) (ret := none) (by decide) rfl (Nat.le_of_ble_eq_true rfl) ?_
  intro p e s m below meth c A ls C hI hl
  obtain ⟨hx, hb, hr, hml, hown, hts, hlocks⟩ := id C
  have hl : lv_has ls 3 [(0, .ref (ad 1)), (1, .int x1)] := hl
  unfold wp_X7_appendNumber at h
  refine lv_bipush (v := nI 24) hx hb dX7_appendNumber_0 (by decide) ?_
  refine lv_istore_n (lv' := [(2, .int (nI 24)), (0, .ref (ad 1)), (1, .int x1)]) hx hb dX7_appendNumber_2 rfl hl (by decide) rfl (fun ls hl => ?_)
  obtain ⟨k3, h⟩ := h
  exact t_X7_appendNumber_3 C  k3 _ _ _ _ _ h hI (lv_sub hl [1, 2, 0] rfl)
theorem inX7_append_X7 : ∀ w ∈ wsX70, w ∈ wsX7_append := fun _ h => List.mem_cons_of_mem _ (List.mem_append_right _ (h))
theorem mX7_append_fieldLink_15_StillText_Tape_length_I : Cond.fieldLink RX7 15 "StillText$Tape" "length" "I" ∈ wsX7_append := List.mem_cons_of_mem _ (List.mem_append_left _ (List.mem_of_getElem? (i := 0) rfl))
set_option maxHeartbeats 4000000 in
set_option maxRecDepth 100000 in
theorem c_X7_append (σ : St) (x1 x2 x3 x4 x5 : Int32) (Q : Int32 → St → Prop) (h : wp_X7_append σ x1 x2 x3 x4 x5 Q) : Ci l D (tyE cyI cyZ) NwC (ZsC tL tS) (wC cyI cyZ ad) yX7_append wsX7_append r_X7_append [.ref (ad 1), .int x1, .int x2, .int x3, .int x4, .int x5] σ Q := by
  refine k_metI (cc := cX7_append) (maxL := 6) (ret := (some .int)) (by decide) rfl (Nat.le_of_ble_eq_true rfl) ?_
  intro p e s m below meth c A ls C hI hl
  obtain ⟨hx, hb, hr, hml, hown, hts, hlocks⟩ := id C
  have hl : lv_has ls 6 [(0, .ref (ad 1)), (1, .int x1), (2, .int x2), (3, .int x3), (4, .int x4), (5, .int x5)] := hl
  unfold wp_X7_append at h
  refine lv_aload_n hx hb dX7_append_0 rfl (lv_at hl 0 rfl) ?_
  refine k_get (q0 := 1) (k := 1) (ci := 7) (v := .int (σ 1 1)) hx hb hts inX7_append_X7 hown hI rfl rfl (by decide) mX7_append_fieldLink_15_StillText_Tape_length_I rfl rfl dX7_append_1 ?_
  refine lv_bipush (v := nI 20) hx hb dX7_append_4 (by decide) ?_
  refine lv_iadd hx hb dX7_append_6 ?_
  refine lv_sipush (v := nI 600) hx hb dX7_append_7 (by decide) ?_
  refine lv_icmp_le (tgt := 15) hx hb dX7_append_10 (by decide) (fun c1 => ?_) (fun c1 => ?_)
  · replace h := h.1 c1
    refine lv_aload_n hx hb dX7_append_15 rfl (lv_at hl 0 rfl) ?_
    refine lv_iload_n hx hb dX7_append_16 rfl (lv_at hl 1 rfl) ?_
    refine k_cVv (As := [.int x1]) (rest := []) C (c_X7_appendNumber σ x1 _ h) (cwV 1 hts gX7_append_X7_appendNumber rfl rfl rfl hdX7_appendNumber ⟨Nat.le_of_ble_eq_true rfl, Nat.le_of_ble_eq_true rfl⟩) hI 1 rfl rfl rfl hl.1 rfl (Nat.le_of_ble_eq_true rfl) dX7_append_17 ⟨Nat.le_of_ble_eq_true rfl, Nat.le_of_ble_eq_true rfl⟩ (fun σ3 H locs h hI => ?_)
    refine lv_aload_n hx hb dX7_append_20 rfl (lv_at hl 0 rfl) ?_
    refine lv_iload_n hx hb dX7_append_21 rfl (lv_at hl 2 rfl) ?_
    refine k_cVv (As := [.int x2]) (rest := []) C (c_X7_appendNumber σ3 x2 _ h) (cwV 1 hts gX7_append_X7_appendNumber rfl rfl rfl hdX7_appendNumber ⟨Nat.le_of_ble_eq_true rfl, Nat.le_of_ble_eq_true rfl⟩) hI 1 rfl rfl rfl hl.1 rfl (Nat.le_of_ble_eq_true rfl) dX7_append_22 ⟨Nat.le_of_ble_eq_true rfl, Nat.le_of_ble_eq_true rfl⟩ (fun σ5 H locs h hI => ?_)
    refine lv_aload_n hx hb dX7_append_25 rfl (lv_at hl 0 rfl) ?_
    refine lv_iload_n hx hb dX7_append_26 rfl (lv_at hl 3 rfl) ?_
    refine k_cVv (As := [.int x3]) (rest := []) C (c_X7_appendNumber σ5 x3 _ h) (cwV 1 hts gX7_append_X7_appendNumber rfl rfl rfl hdX7_appendNumber ⟨Nat.le_of_ble_eq_true rfl, Nat.le_of_ble_eq_true rfl⟩) hI 1 rfl rfl rfl hl.1 rfl (Nat.le_of_ble_eq_true rfl) dX7_append_27 ⟨Nat.le_of_ble_eq_true rfl, Nat.le_of_ble_eq_true rfl⟩ (fun σ7 H locs h hI => ?_)
    refine lv_aload_n hx hb dX7_append_30 rfl (lv_at hl 0 rfl) ?_
    refine lv_iload hx hb dX7_append_31 (lv_at hl 4 rfl) ?_
    refine k_cVv (As := [.int x4]) (rest := []) C (c_X7_appendNumber σ7 x4 _ h) (cwV 1 hts gX7_append_X7_appendNumber rfl rfl rfl hdX7_appendNumber ⟨Nat.le_of_ble_eq_true rfl, Nat.le_of_ble_eq_true rfl⟩) hI 1 rfl rfl rfl hl.1 rfl (Nat.le_of_ble_eq_true rfl) dX7_append_33 ⟨Nat.le_of_ble_eq_true rfl, Nat.le_of_ble_eq_true rfl⟩ (fun σ9 H locs h hI => ?_)
    refine lv_aload_n hx hb dX7_append_36 rfl (lv_at hl 0 rfl) ?_
    refine lv_iload hx hb dX7_append_37 (lv_at hl 5 rfl) ?_
    refine k_cVv (As := [.int x5]) (rest := []) C (c_X7_appendNumber σ9 x5 _ h) (cwV 1 hts gX7_append_X7_appendNumber rfl rfl rfl hdX7_appendNumber ⟨Nat.le_of_ble_eq_true rfl, Nat.le_of_ble_eq_true rfl⟩) hI 1 rfl rfl rfl hl.1 rfl (Nat.le_of_ble_eq_true rfl) dX7_append_39 ⟨Nat.le_of_ble_eq_true rfl, Nat.le_of_ble_eq_true rfl⟩ (fun σ11 H locs h hI => ?_)
    refine lv_aload_n hx hb dX7_append_42 rfl (lv_at hl 0 rfl) ?_
    refine k_get (q0 := 1) (k := 1) (ci := 7) (v := .int (σ11 1 1)) hx hb hts inX7_append_X7 hown hI rfl rfl (by decide) mX7_append_fieldLink_15_StillText_Tape_length_I rfl rfl dX7_append_43 ?_
    exact k_iret hx hb hr hlocks hI h dX7_append_46
  · replace h := h.2 c1
    refine lv_iconst (v := (-1)) hx hb dX7_append_13 (by decide) ?_
    exact k_iret hx hb hr hlocks hI h dX7_append_14
theorem inX10_feed_X10 : ∀ w ∈ wsX100, w ∈ wsX10_feed := fun _ h => List.mem_cons_of_mem _ (List.mem_append_left _ (List.mem_append_right _ (h)))
theorem mX10_feed_fieldLink_10_StillText_tape_LStillText_Tape : Cond.fieldLink RX10 10 "StillText" "tape" "LStillText$Tape;" ∈ wsX10_feed := List.mem_cons_of_mem _ (List.mem_append_left _ (List.mem_append_left _ (List.mem_of_getElem? (i := 0) rfl)))
set_option maxHeartbeats 4000000 in
set_option maxRecDepth 100000 in
theorem c_X10_feed (σ : St) (x1 x2 x3 x4 x5 : Int32) (Q : Int32 → St → Prop) (h : wp_X10_feed σ x1 x2 x3 x4 x5 Q) : Ci l D (tyE cyI cyZ) NwC (ZsC tL tS) (wC cyI cyZ ad) yX10_feed wsX10_feed r_X10_feed [.ref (ad 0), .int x1, .int x2, .int x3, .int x4, .int x5] σ Q := by
  refine k_metI (cc := cX10_feed) (maxL := 6) (ret := (some .int)) (by decide) rfl (Nat.le_of_ble_eq_true rfl) ?_
  intro p e s m below meth c A ls C hI hl
  obtain ⟨hx, hb, hr, hml, hown, hts, hlocks⟩ := id C
  have hl : lv_has ls 6 [(0, .ref (ad 0)), (1, .int x1), (2, .int x2), (3, .int x3), (4, .int x4), (5, .int x5)] := hl
  unfold wp_X10_feed at h
  refine lv_aload_n hx hb dX10_feed_0 rfl (lv_at hl 0 rfl) ?_
  refine k_get (q0 := 0) (k := 0) (ci := 10) (v := .ref (ad 1)) hx hb hts inX10_feed_X10 hown hI rfl rfl (by decide) mX10_feed_fieldLink_10_StillText_tape_LStillText_Tape rfl rfl dX10_feed_1 ?_
  refine lv_iload_n hx hb dX10_feed_4 rfl (lv_at hl 1 rfl) ?_
  refine lv_iload_n hx hb dX10_feed_5 rfl (lv_at hl 2 rfl) ?_
  refine lv_iload_n hx hb dX10_feed_6 rfl (lv_at hl 3 rfl) ?_
  refine lv_iload hx hb dX10_feed_7 (lv_at hl 4 rfl) ?_
  refine lv_iload hx hb dX10_feed_9 (lv_at hl 5 rfl) ?_
  refine k_cVi (As := [.int x1, .int x2, .int x3, .int x4, .int x5]) (rest := []) C (c_X7_append σ x1 x2 x3 x4 x5 _ h) (cwV 5 hts gX10_feed_X7_append rfl rfl rfl hdX7_append ⟨Nat.le_of_ble_eq_true rfl, Nat.le_of_ble_eq_true rfl⟩) hI 1 rfl rfl rfl hl.1 rfl (Nat.le_of_ble_eq_true rfl) dX10_feed_11 ⟨Nat.le_of_ble_eq_true rfl, Nat.le_of_ble_eq_true rfl⟩ (fun r1 σ2 H locs h hI => ?_)
  exact k_iret hx hb hr hlocks hI h dX10_feed_14
set_option maxHeartbeats 4000000 in
set_option maxRecDepth 100000 in
theorem c_X10_within (σ : St) (x0 x1 x2 : Int32) (Q : Int32 → St → Prop) (h : wp_X10_within σ x0 x1 x2 Q) : Ci l D (tyE cyI cyZ) NwC (ZsC tL tS) (wC cyI cyZ ad) yX10_within wsX10_within r_X10_within [.int x0, .int x1, .int x2] σ Q := by
  refine k_metI (cc := cX10_within) (maxL := 3) (ret := (some .boolean)) (by decide) rfl (Nat.le_of_ble_eq_true rfl) ?_
  intro p e s m below meth c A ls C hI hl
  obtain ⟨hx, hb, hr, hml, hown, hts, hlocks⟩ := id C
  have hl : lv_has ls 3 [(0, .int x0), (1, .int x1), (2, .int x2)] := hl
  unfold wp_X10_within at h
  refine lv_iload_n hx hb dX10_within_0 rfl (lv_at hl 0 rfl) ?_
  refine lv_iload_n hx hb dX10_within_1 rfl (lv_at hl 1 rfl) ?_
  refine lv_icmp_lt (tgt := 14) hx hb dX10_within_2 (by decide) (fun c1 => ?_) (fun c1 => ?_)
  · replace h := h.1 c1
    refine lv_iconst (v := nI 0) hx hb dX10_within_14 (by decide) ?_
    exact k_zret hx hb hr hlocks hI (Or.inl rfl) h dX10_within_15
  · replace h := h.2 c1
    refine lv_iload_n hx hb dX10_within_5 rfl (lv_at hl 0 rfl) ?_
    refine lv_iload_n hx hb dX10_within_6 rfl (lv_at hl 2 rfl) ?_
    refine lv_icmp_gt (tgt := 14) hx hb dX10_within_7 (by decide) (fun c2 => ?_) (fun c2 => ?_)
    · replace h := h.1 c2
      refine lv_iconst (v := nI 0) hx hb dX10_within_14 (by decide) ?_
      exact k_zret hx hb hr hlocks hI (Or.inl rfl) h dX10_within_15
    · replace h := h.2 c2
      refine lv_iconst (v := nI 1) hx hb dX10_within_10 (by decide) ?_
      refine lv_goto (tgt := 15) hx hb dX10_within_11 (by decide) ?_
      exact k_zret hx hb hr hlocks hI (Or.inr rfl) h dX10_within_15
theorem inX7_keepFirst_X7 : ∀ w ∈ wsX70, w ∈ wsX7_keepFirst := fun _ h => List.mem_cons_of_mem _ (List.mem_append_right _ (h))
theorem mX7_keepFirst_fieldLink_15_StillText_Tape_length_I : Cond.fieldLink RX7 15 "StillText$Tape" "length" "I" ∈ wsX7_keepFirst := List.mem_cons_of_mem _ (List.mem_append_left _ (List.mem_of_getElem? (i := 0) rfl))
theorem mX7_keepFirst_initialized : Cond.initialized RX10 ∈ wsX7_keepFirst := List.mem_cons_of_mem _ (List.mem_append_left _ (List.mem_of_getElem? (i := 2) rfl))
theorem mX7_keepFirst_static_yX10_within : Cond.static yX10_within ∈ wsX7_keepFirst := List.mem_cons_of_mem _ (List.mem_append_left _ (List.mem_of_getElem? (i := 1) rfl))
set_option maxHeartbeats 4000000 in
set_option maxRecDepth 100000 in
theorem c_X7_keepFirst (σ : St) (x1 : Int32) (Q : Int32 → St → Prop) (h : wp_X7_keepFirst σ x1 Q) : Ci l D (tyE cyI cyZ) NwC (ZsC tL tS) (wC cyI cyZ ad) yX7_keepFirst wsX7_keepFirst r_X7_keepFirst [.ref (ad 1), .int x1] σ Q := by
  refine k_metI (cc := cX7_keepFirst) (maxL := 2) (ret := (some .boolean)) (by decide) rfl (Nat.le_of_ble_eq_true rfl) ?_
  intro p e s m below meth c A ls C hI hl
  obtain ⟨hx, hb, hr, hml, hown, hts, hlocks⟩ := id C
  have hl : lv_has ls 2 [(0, .ref (ad 1)), (1, .int x1)] := hl
  unfold wp_X7_keepFirst at h
  refine lv_iload_n hx hb dX7_keepFirst_0 rfl (lv_at hl 1 rfl) ?_
  refine lv_iconst (v := nI 0) hx hb dX7_keepFirst_1 (by decide) ?_
  refine lv_aload_n hx hb dX7_keepFirst_2 rfl (lv_at hl 0 rfl) ?_
  refine k_get (q0 := 1) (k := 1) (ci := 7) (v := .int (σ 1 1)) hx hb hts inX7_keepFirst_X7 hown hI rfl rfl (by decide) mX7_keepFirst_fieldLink_15_StillText_Tape_length_I rfl rfl dX7_keepFirst_3 ?_
  refine k_cNi (As := [.int x1, .int (nI 0), .int (σ 1 1)]) (rest := []) (host := RX10) C (c_X10_within σ x1 (nI 0) (σ 1 1) _ h) gX7_keepFirst_X10_within_n19 rfl rfl rfl (List.mem_of_getElem? (i := 4) rfl) mX7_keepFirst_initialized mX7_keepFirst_static_yX10_within hdX10_within ⟨Nat.le_of_ble_eq_true rfl, Nat.le_of_ble_eq_true rfl⟩ hI rfl hl.1 rfl (Nat.le_of_ble_eq_true rfl) dX7_keepFirst_6 ⟨Nat.le_of_ble_eq_true rfl, Nat.le_of_ble_eq_true rfl⟩ (fun r1 σ2 H locs h hI => ?_)
  refine lv_if_ne (tgt := 14) hx hb dX7_keepFirst_9 (by decide) (fun c3 => ?_) (fun c3 => ?_)
  · replace h := h.1 c3
    refine lv_aload_n hx hb dX7_keepFirst_14 rfl (lv_at hl 0 rfl) ?_
    refine lv_iload_n hx hb dX7_keepFirst_15 rfl (lv_at hl 1 rfl) ?_
    refine k_put (q0 := 1) (k := 1) (ci := 7) (v := .int x1) (σ' := up2 σ2 1 1 x1) hx hb hts inX7_keepFirst_X7 tyX7 tyX7_ok nmX7 hown hI rfl rfl (by decide) mX7_keepFirst_fieldLink_15_StillText_Tape_length_I rfl rfl rfl rfl (Nat.le_of_ble_eq_true rfl) (wsC_1_1 _ _ _ _ _) dX7_keepFirst_16 (fun H locs hI => ?_)
    refine lv_iconst (v := nI 1) hx hb dX7_keepFirst_19 (by decide) ?_
    exact k_zret hx hb hr hlocks hI (Or.inr rfl) h dX7_keepFirst_20
  · replace h := h.2 c3
    refine lv_iconst (v := nI 0) hx hb dX7_keepFirst_12 (by decide) ?_
    exact k_zret hx hb hr hlocks hI (Or.inl rfl) h dX7_keepFirst_13
theorem inX10_end_X10 : ∀ w ∈ wsX100, w ∈ wsX10_end := fun _ h => List.mem_cons_of_mem _ (List.mem_append_left _ (List.mem_append_right _ (h)))
theorem mX10_end_fieldLink_10_StillText_tape_LStillText_Tape : Cond.fieldLink RX10 10 "StillText" "tape" "LStillText$Tape;" ∈ wsX10_end := List.mem_cons_of_mem _ (List.mem_append_left _ (List.mem_append_left _ (List.mem_of_getElem? (i := 0) rfl)))
set_option maxHeartbeats 4000000 in
set_option maxRecDepth 100000 in
theorem c_X10_end (σ : St) (x1 : Int32) (Q : Int32 → St → Prop) (h : wp_X10_end σ x1 Q) : Ci l D (tyE cyI cyZ) NwC (ZsC tL tS) (wC cyI cyZ ad) yX10_end wsX10_end r_X10_end [.ref (ad 0), .int x1] σ Q := by
  refine k_metI (cc := cX10_end) (maxL := 2) (ret := (some .boolean)) (by decide) rfl (Nat.le_of_ble_eq_true rfl) ?_
  intro p e s m below meth c A ls C hI hl
  obtain ⟨hx, hb, hr, hml, hown, hts, hlocks⟩ := id C
  have hl : lv_has ls 2 [(0, .ref (ad 0)), (1, .int x1)] := hl
  unfold wp_X10_end at h
  refine lv_aload_n hx hb dX10_end_0 rfl (lv_at hl 0 rfl) ?_
  refine k_get (q0 := 0) (k := 0) (ci := 10) (v := .ref (ad 1)) hx hb hts inX10_end_X10 hown hI rfl rfl (by decide) mX10_end_fieldLink_10_StillText_tape_LStillText_Tape rfl rfl dX10_end_1 ?_
  refine lv_iload_n hx hb dX10_end_4 rfl (lv_at hl 1 rfl) ?_
  refine k_cVi (As := [.int x1]) (rest := []) C (c_X7_keepFirst σ x1 _ h) (cwV 1 hts gX10_end_X7_keepFirst rfl rfl rfl hdX7_keepFirst ⟨Nat.le_of_ble_eq_true rfl, Nat.le_of_ble_eq_true rfl⟩) hI 1 rfl rfl rfl hl.1 rfl (Nat.le_of_ble_eq_true rfl) dX10_end_5 ⟨Nat.le_of_ble_eq_true rfl, Nat.le_of_ble_eq_true rfl⟩ (fun r1 σ2 H locs h hI => ?_)
  exact k_zret hx hb hr hlocks hI h.1 h.2 dX10_end_8
theorem inX9_clear_X9 : ∀ w ∈ wsX90, w ∈ wsX9_clear := fun _ h => List.mem_cons_of_mem _ (List.mem_append_right _ (h))
theorem mX9_clear_fieldLink_21_StillText_Units_count_I : Cond.fieldLink RX9 21 "StillText$Units" "count" "I" ∈ wsX9_clear := List.mem_cons_of_mem _ (List.mem_append_left _ (List.mem_of_getElem? (i := 0) rfl))
set_option maxHeartbeats 4000000 in
set_option maxRecDepth 100000 in
theorem c_X9_clear (σ : St) (Q : St → Prop) (h : wp_X9_clear σ  Q) : Cv l D (tyE cyI cyZ) NwC (ZsC tL tS) (wC cyI cyZ ad) yX9_clear wsX9_clear r_X9_clear [.ref (ad 4)] σ Q := by
  refine k_metV (cc := cX9_clear) (maxL := 1) (ret := none) (by decide) rfl (Nat.le_of_ble_eq_true rfl) ?_
  intro p e s m below meth c A ls C hI hl
  obtain ⟨hx, hb, hr, hml, hown, hts, hlocks⟩ := id C
  have hl : lv_has ls 1 [(0, .ref (ad 4))] := hl
  unfold wp_X9_clear at h
  refine lv_aload_n hx hb dX9_clear_0 rfl (lv_at hl 0 rfl) ?_
  refine lv_iconst (v := nI 0) hx hb dX9_clear_1 (by decide) ?_
  refine k_put (q0 := 4) (k := 3) (ci := 9) (v := .int (nI 0)) (σ' := up2 σ 4 3 (nI 0)) hx hb hts inX9_clear_X9 tyX9 tyX9_ok nmX9 hown hI rfl rfl (by decide) mX9_clear_fieldLink_21_StillText_Units_count_I rfl rfl rfl rfl (Nat.le_of_ble_eq_true rfl) (wsC_4_3 _ _ _ _ _) dX9_clear_2 (fun H locs hI => ?_)
  exact k_vret hx hb hr hlocks hI h dX9_clear_5
theorem inX7_length_X7 : ∀ w ∈ wsX70, w ∈ wsX7_length := fun _ h => List.mem_cons_of_mem _ (List.mem_append_right _ (h))
theorem mX7_length_fieldLink_15_StillText_Tape_length_I : Cond.fieldLink RX7 15 "StillText$Tape" "length" "I" ∈ wsX7_length := List.mem_cons_of_mem _ (List.mem_append_left _ (List.mem_of_getElem? (i := 0) rfl))
set_option maxHeartbeats 4000000 in
set_option maxRecDepth 100000 in
theorem c_X7_length (σ : St) (Q : Int32 → St → Prop) (h : wp_X7_length σ  Q) : Ci l D (tyE cyI cyZ) NwC (ZsC tL tS) (wC cyI cyZ ad) yX7_length wsX7_length r_X7_length [.ref (ad 1)] σ Q := by
  refine k_metI (cc := cX7_length) (maxL := 1) (ret := (some .int)) (by decide) rfl (Nat.le_of_ble_eq_true rfl) ?_
  intro p e s m below meth c A ls C hI hl
  obtain ⟨hx, hb, hr, hml, hown, hts, hlocks⟩ := id C
  have hl : lv_has ls 1 [(0, .ref (ad 1))] := hl
  unfold wp_X7_length at h
  refine lv_aload_n hx hb dX7_length_0 rfl (lv_at hl 0 rfl) ?_
  refine k_get (q0 := 1) (k := 1) (ci := 7) (v := .int (σ 1 1)) hx hb hts inX7_length_X7 hown hI rfl rfl (by decide) mX7_length_fieldLink_15_StillText_Tape_length_I rfl rfl dX7_length_1 ?_
  exact k_iret hx hb hr hlocks hI h dX7_length_4
theorem inX7_byteAt_X7 : ∀ w ∈ wsX70, w ∈ wsX7_byteAt := fun _ h => List.mem_cons_of_mem _ (List.mem_append_right _ (h))
theorem mX7_byteAt_fieldLink_15_StillText_Tape_length_I : Cond.fieldLink RX7 15 "StillText$Tape" "length" "I" ∈ wsX7_byteAt := List.mem_cons_of_mem _ (List.mem_append_left _ (List.mem_of_getElem? (i := 0) rfl))
theorem mX7_byteAt_fieldLink_9_StillText_Tape_bytes_I : Cond.fieldLink RX7 9 "StillText$Tape" "bytes" "[I" ∈ wsX7_byteAt := List.mem_cons_of_mem _ (List.mem_append_left _ (List.mem_of_getElem? (i := 1) rfl))
set_option maxHeartbeats 4000000 in
set_option maxRecDepth 100000 in
theorem c_X7_byteAt (σ : St) (x1 : Int32) (Q : Int32 → St → Prop) (h : wp_X7_byteAt σ x1 Q) : Ci l D (tyE cyI cyZ) NwC (ZsC tL tS) (wC cyI cyZ ad) yX7_byteAt wsX7_byteAt r_X7_byteAt [.ref (ad 1), .int x1] σ Q := by
  refine k_metI (cc := cX7_byteAt) (maxL := 2) (ret := (some .int)) (by decide) rfl (Nat.le_of_ble_eq_true rfl) ?_
  intro p e s m below meth c A ls C hI hl
  obtain ⟨hx, hb, hr, hml, hown, hts, hlocks⟩ := id C
  have hl : lv_has ls 2 [(0, .ref (ad 1)), (1, .int x1)] := hl
  unfold wp_X7_byteAt at h
  refine lv_iload_n hx hb dX7_byteAt_0 rfl (lv_at hl 1 rfl) ?_
  refine lv_if_lt (tgt := 21) hx hb dX7_byteAt_1 (by decide) (fun c1 => ?_) (fun c1 => ?_)
  · replace h := h.1 c1
    refine lv_iconst (v := (-1)) hx hb dX7_byteAt_21 (by decide) ?_
    exact k_iret hx hb hr hlocks hI h dX7_byteAt_22
  · replace h := h.2 c1
    refine lv_iload_n hx hb dX7_byteAt_4 rfl (lv_at hl 1 rfl) ?_
    refine lv_aload_n hx hb dX7_byteAt_5 rfl (lv_at hl 0 rfl) ?_
    refine k_get (q0 := 1) (k := 1) (ci := 7) (v := .int (σ 1 1)) hx hb hts inX7_byteAt_X7 hown hI rfl rfl (by decide) mX7_byteAt_fieldLink_15_StillText_Tape_length_I rfl rfl dX7_byteAt_6 ?_
    refine lv_icmp_ge (tgt := 21) hx hb dX7_byteAt_9 (by decide) (fun c2 => ?_) (fun c2 => ?_)
    · replace h := h.1 c2
      refine lv_iconst (v := (-1)) hx hb dX7_byteAt_21 (by decide) ?_
      exact k_iret hx hb hr hlocks hI h dX7_byteAt_22
    · replace h := h.2 c2
      refine lv_aload_n hx hb dX7_byteAt_12 rfl (lv_at hl 0 rfl) ?_
      refine k_get (q0 := 1) (k := 0) (ci := 7) (v := .ref (ad 2)) hx hb hts inX7_byteAt_X7 hown hI rfl rfl (by decide) mX7_byteAt_fieldLink_9_StillText_Tape_bytes_I rfl rfl dX7_byteAt_13 ?_
      refine lv_iload_n hx hb dX7_byteAt_16 rfl (lv_at hl 1 rfl) ?_
      refine k_iald (q0 := 2) (t0 := 0) (n := 600) (f := σ 2) hx hb hI rfl rfl h.1 dX7_byteAt_17 ?_
      replace h := h.2
      refine lv_goto (tgt := 22) hx hb dX7_byteAt_18 (by decide) ?_
      exact k_iret hx hb hr hlocks hI h dX7_byteAt_22
set_option maxHeartbeats 4000000 in
set_option maxRecDepth 100000 in
theorem c_X10_isLetter (σ : St) (x0 : Int32) (Q : Int32 → St → Prop) (h : wp_X10_isLetter σ x0 Q) : Ci l D (tyE cyI cyZ) NwC (ZsC tL tS) (wC cyI cyZ ad) yX10_isLetter wsX10_isLetter r_X10_isLetter [.int x0] σ Q := by
  refine k_metI (cc := cX10_isLetter) (maxL := 1) (ret := (some .boolean)) (by decide) rfl (Nat.le_of_ble_eq_true rfl) ?_
  intro p e s m below meth c A ls C hI hl
  obtain ⟨hx, hb, hr, hml, hown, hts, hlocks⟩ := id C
  have hl : lv_has ls 1 [(0, .int x0)] := hl
  unfold wp_X10_isLetter at h
  refine lv_iload_n hx hb dX10_isLetter_0 rfl (lv_at hl 0 rfl) ?_
  refine lv_bipush (v := nI 97) hx hb dX10_isLetter_1 (by decide) ?_
  refine lv_icmp_lt (tgt := 16) hx hb dX10_isLetter_3 (by decide) (fun c1 => ?_) (fun c1 => ?_)
  · replace h := h.1 c1
    refine lv_iconst (v := nI 0) hx hb dX10_isLetter_16 (by decide) ?_
    exact k_zret hx hb hr hlocks hI (Or.inl rfl) h dX10_isLetter_17
  · replace h := h.2 c1
    refine lv_iload_n hx hb dX10_isLetter_6 rfl (lv_at hl 0 rfl) ?_
    refine lv_bipush (v := nI 122) hx hb dX10_isLetter_7 (by decide) ?_
    refine lv_icmp_gt (tgt := 16) hx hb dX10_isLetter_9 (by decide) (fun c2 => ?_) (fun c2 => ?_)
    · replace h := h.1 c2
      refine lv_iconst (v := nI 0) hx hb dX10_isLetter_16 (by decide) ?_
      exact k_zret hx hb hr hlocks hI (Or.inl rfl) h dX10_isLetter_17
    · replace h := h.2 c2
      refine lv_iconst (v := nI 1) hx hb dX10_isLetter_12 (by decide) ?_
      refine lv_goto (tgt := 17) hx hb dX10_isLetter_13 (by decide) ?_
      exact k_zret hx hb hr hlocks hI (Or.inr rfl) h dX10_isLetter_17
theorem inX3_refuse_X3 : ∀ w ∈ wsX30, w ∈ wsX3_refuse := fun _ h => List.mem_cons_of_mem _ (List.mem_append_right _ (h))
theorem mX3_refuse_fieldLink_18_StillText_Reading_kind_I : Cond.fieldLink RX3 18 "StillText$Reading" "kind" "I" ∈ wsX3_refuse := List.mem_cons_of_mem _ (List.mem_append_left _ (List.mem_of_getElem? (i := 0) rfl))
theorem mX3_refuse_fieldLink_22_StillText_Reading_place_I : Cond.fieldLink RX3 22 "StillText$Reading" "place" "I" ∈ wsX3_refuse := List.mem_cons_of_mem _ (List.mem_append_left _ (List.mem_of_getElem? (i := 1) rfl))
set_option maxHeartbeats 4000000 in
set_option maxRecDepth 100000 in
theorem c_X3_refuse (σ : St) (x1 x2 : Int32) (Q : St → Prop) (h : wp_X3_refuse σ x1 x2 Q) : Cv l D (tyE cyI cyZ) NwC (ZsC tL tS) (wC cyI cyZ ad) yX3_refuse wsX3_refuse r_X3_refuse [.ref (ad 3), .int x1, .int x2] σ Q := by
  refine k_metV (cc := cX3_refuse) (maxL := 3) (ret := none) (by decide) rfl (Nat.le_of_ble_eq_true rfl) ?_
  intro p e s m below meth c A ls C hI hl
  obtain ⟨hx, hb, hr, hml, hown, hts, hlocks⟩ := id C
  have hl : lv_has ls 3 [(0, .ref (ad 3)), (1, .int x1), (2, .int x2)] := hl
  unfold wp_X3_refuse at h
  refine lv_aload_n hx hb dX3_refuse_0 rfl (lv_at hl 0 rfl) ?_
  refine lv_iload_n hx hb dX3_refuse_1 rfl (lv_at hl 1 rfl) ?_
  refine k_put (q0 := 3) (k := 1) (ci := 3) (v := .int x1) (σ' := up2 σ 3 1 x1) hx hb hts inX3_refuse_X3 tyX3 tyX3_ok nmX3 hown hI rfl rfl (by decide) mX3_refuse_fieldLink_18_StillText_Reading_kind_I rfl rfl rfl rfl (Nat.le_of_ble_eq_true rfl) (wsC_3_1 _ _ _ _ _) dX3_refuse_2 (fun H locs hI => ?_)
  refine lv_aload_n hx hb dX3_refuse_5 rfl (lv_at hl 0 rfl) ?_
  refine lv_iload_n hx hb dX3_refuse_6 rfl (lv_at hl 2 rfl) ?_
  refine k_put (q0 := 3) (k := 2) (ci := 3) (v := .int x2) (σ' := up2 (up2 σ 3 1 x1) 3 2 x2) hx hb hts inX3_refuse_X3 tyX3 tyX3_ok nmX3 hown hI rfl rfl (by decide) mX3_refuse_fieldLink_22_StillText_Reading_place_I rfl rfl rfl rfl (Nat.le_of_ble_eq_true rfl) (wsC_3_2 _ _ _ _ _) dX3_refuse_7 (fun H locs hI => ?_)
  exact k_vret hx hb hr hlocks hI h dX3_refuse_10
theorem inX9_open_X9 : ∀ w ∈ wsX90, w ∈ wsX9_open := fun _ h => List.mem_cons_of_mem _ (List.mem_append_right _ (h))
theorem mX9_open_fieldLink_21_StillText_Units_count_I : Cond.fieldLink RX9 21 "StillText$Units" "count" "I" ∈ wsX9_open := List.mem_cons_of_mem _ (List.mem_append_left _ (List.mem_of_getElem? (i := 0) rfl))
theorem mX9_open_fieldLink_15_StillText_Units_sizes_I : Cond.fieldLink RX9 15 "StillText$Units" "sizes" "[I" ∈ wsX9_open := List.mem_cons_of_mem _ (List.mem_append_left _ (List.mem_of_getElem? (i := 1) rfl))
theorem mX9_open_fieldLink_18_StillText_Units_behind_I : Cond.fieldLink RX9 18 "StillText$Units" "behind" "[I" ∈ wsX9_open := List.mem_cons_of_mem _ (List.mem_append_left _ (List.mem_of_getElem? (i := 2) rfl))
set_option maxHeartbeats 4000000 in
set_option maxRecDepth 100000 in
theorem c_X9_open (σ : St) (Q : Int32 → St → Prop) (h : wp_X9_open σ  Q) : Ci l D (tyE cyI cyZ) NwC (ZsC tL tS) (wC cyI cyZ ad) yX9_open wsX9_open r_X9_open [.ref (ad 4)] σ Q := by
  refine k_metI (cc := cX9_open) (maxL := 1) (ret := (some .boolean)) (by decide) rfl (Nat.le_of_ble_eq_true rfl) ?_
  intro p e s m below meth c A ls C hI hl
  obtain ⟨hx, hb, hr, hml, hown, hts, hlocks⟩ := id C
  have hl : lv_has ls 1 [(0, .ref (ad 4))] := hl
  unfold wp_X9_open at h
  refine lv_aload_n hx hb dX9_open_0 rfl (lv_at hl 0 rfl) ?_
  refine k_get (q0 := 4) (k := 3) (ci := 9) (v := .int (σ 4 3)) hx hb hts inX9_open_X9 hown hI rfl rfl (by decide) mX9_open_fieldLink_21_StillText_Units_count_I rfl rfl dX9_open_1 ?_
  refine lv_bipush (v := nI 80) hx hb dX9_open_4 (by decide) ?_
  refine lv_icmp_lt (tgt := 11) hx hb dX9_open_6 (by decide) (fun c1 => ?_) (fun c1 => ?_)
  · replace h := h.1 c1
    refine lv_aload_n hx hb dX9_open_11 rfl (lv_at hl 0 rfl) ?_
    refine k_get (q0 := 4) (k := 1) (ci := 9) (v := .ref (ad 6)) hx hb hts inX9_open_X9 hown hI rfl rfl (by decide) mX9_open_fieldLink_15_StillText_Units_sizes_I rfl rfl dX9_open_12 ?_
    refine lv_aload_n hx hb dX9_open_15 rfl (lv_at hl 0 rfl) ?_
    refine k_get (q0 := 4) (k := 3) (ci := 9) (v := .int (σ 4 3)) hx hb hts inX9_open_X9 hown hI rfl rfl (by decide) mX9_open_fieldLink_21_StillText_Units_count_I rfl rfl dX9_open_16 ?_
    refine lv_iconst (v := nI 0) hx hb dX9_open_19 (by decide) ?_
    refine k_iast (q0 := 6) (t0 := 0) (n := 80) (σ' := up2 σ 6 (σ 4 3).toNatClampNeg (nI 0)) hx hb hI rfl rfl h.1 (wsC_6 _ _ _ _ _ _) dX9_open_20 (fun H locs hI => ?_)
    replace h := h.2
    refine lv_aload_n hx hb dX9_open_21 rfl (lv_at hl 0 rfl) ?_
    refine k_get (q0 := 4) (k := 2) (ci := 9) (v := .ref (ad 7)) hx hb hts inX9_open_X9 hown hI rfl rfl (by decide) mX9_open_fieldLink_18_StillText_Units_behind_I rfl rfl dX9_open_22 ?_
    refine lv_aload_n hx hb dX9_open_25 rfl (lv_at hl 0 rfl) ?_
    refine k_get (q0 := 4) (k := 3) (ci := 9) (v := .int (σ 4 3)) hx hb hts inX9_open_X9 hown hI rfl rfl (by decide) mX9_open_fieldLink_21_StillText_Units_count_I rfl rfl dX9_open_26 ?_
    refine lv_bipush (v := nI 32) hx hb dX9_open_29 (by decide) ?_
    refine k_iast (q0 := 7) (t0 := 0) (n := 80) (σ' := up2 (up2 σ 6 (σ 4 3).toNatClampNeg (nI 0)) 7 (σ 4 3).toNatClampNeg (nI 32)) hx hb hI rfl rfl h.1 (wsC_7 _ _ _ _ _ _) dX9_open_31 (fun H locs hI => ?_)
    replace h := h.2
    refine lv_aload_n hx hb dX9_open_32 rfl (lv_at hl 0 rfl) ?_
    refine lv_dup hx hb dX9_open_33 rfl ?_
    refine k_get (q0 := 4) (k := 3) (ci := 9) (v := .int (σ 4 3)) hx hb hts inX9_open_X9 hown hI rfl rfl (by decide) mX9_open_fieldLink_21_StillText_Units_count_I rfl rfl dX9_open_34 ?_
    refine lv_iconst (v := nI 1) hx hb dX9_open_37 (by decide) ?_
    refine lv_iadd hx hb dX9_open_38 ?_
    refine k_put (q0 := 4) (k := 3) (ci := 9) (v := .int ((σ 4 3) + (nI 1))) (σ' := up2 (up2 (up2 σ 6 (σ 4 3).toNatClampNeg (nI 0)) 7 (σ 4 3).toNatClampNeg (nI 32)) 4 3 ((σ 4 3) + (nI 1))) hx hb hts inX9_open_X9 tyX9 tyX9_ok nmX9 hown hI rfl rfl (by decide) mX9_open_fieldLink_21_StillText_Units_count_I rfl rfl rfl rfl (Nat.le_of_ble_eq_true rfl) (wsC_4_3 _ _ _ _ _) dX9_open_39 (fun H locs hI => ?_)
    refine lv_iconst (v := nI 1) hx hb dX9_open_42 (by decide) ?_
    exact k_zret hx hb hr hlocks hI (Or.inr rfl) h dX9_open_43
  · replace h := h.2 c1
    refine lv_iconst (v := nI 0) hx hb dX9_open_9 (by decide) ?_
    exact k_zret hx hb hr hlocks hI (Or.inl rfl) h dX9_open_10
theorem inX9_addLetter_X9 : ∀ w ∈ wsX90, w ∈ wsX9_addLetter := fun _ h => List.mem_cons_of_mem _ (List.mem_append_right _ (h))
theorem mX9_addLetter_fieldLink_21_StillText_Units_count_I : Cond.fieldLink RX9 21 "StillText$Units" "count" "I" ∈ wsX9_addLetter := List.mem_cons_of_mem _ (List.mem_append_left _ (List.mem_of_getElem? (i := 0) rfl))
theorem mX9_addLetter_fieldLink_15_StillText_Units_sizes_I : Cond.fieldLink RX9 15 "StillText$Units" "sizes" "[I" ∈ wsX9_addLetter := List.mem_cons_of_mem _ (List.mem_append_left _ (List.mem_of_getElem? (i := 1) rfl))
theorem mX9_addLetter_fieldLink_9_StillText_Units_letters_I : Cond.fieldLink RX9 9 "StillText$Units" "letters" "[I" ∈ wsX9_addLetter := List.mem_cons_of_mem _ (List.mem_append_left _ (List.mem_of_getElem? (i := 2) rfl))
set_option maxHeartbeats 4000000 in
set_option maxRecDepth 100000 in
theorem c_X9_addLetter (σ : St) (x1 : Int32) (Q : Int32 → St → Prop) (h : wp_X9_addLetter σ x1 Q) : Ci l D (tyE cyI cyZ) NwC (ZsC tL tS) (wC cyI cyZ ad) yX9_addLetter wsX9_addLetter r_X9_addLetter [.ref (ad 4), .int x1] σ Q := by
  refine k_metI (cc := cX9_addLetter) (maxL := 3) (ret := (some .boolean)) (by decide) rfl (Nat.le_of_ble_eq_true rfl) ?_
  intro p e s m below meth c A ls C hI hl
  obtain ⟨hx, hb, hr, hml, hown, hts, hlocks⟩ := id C
  have hl : lv_has ls 3 [(0, .ref (ad 4)), (1, .int x1)] := hl
  unfold wp_X9_addLetter at h
  refine lv_aload_n hx hb dX9_addLetter_0 rfl (lv_at hl 0 rfl) ?_
  refine k_get (q0 := 4) (k := 3) (ci := 9) (v := .int (σ 4 3)) hx hb hts inX9_addLetter_X9 hown hI rfl rfl (by decide) mX9_addLetter_fieldLink_21_StillText_Units_count_I rfl rfl dX9_addLetter_1 ?_
  refine lv_iconst (v := nI 1) hx hb dX9_addLetter_4 (by decide) ?_
  refine lv_isub hx hb dX9_addLetter_5 ?_
  refine lv_istore_n (lv' := [(2, .int ((σ 4 3) - (nI 1))), (0, .ref (ad 4)), (1, .int x1)]) hx hb dX9_addLetter_6 rfl hl (by decide) rfl (fun ls hl => ?_)
  refine lv_iload_n hx hb dX9_addLetter_7 rfl (lv_at hl 0 rfl) ?_
  refine lv_if_lt (tgt := 22) hx hb dX9_addLetter_8 (by decide) (fun c1 => ?_) (fun c1 => ?_)
  · replace h := h.1 c1
    refine lv_iconst (v := nI 0) hx hb dX9_addLetter_22 (by decide) ?_
    exact k_zret hx hb hr hlocks hI (Or.inl rfl) h dX9_addLetter_23
  · replace h := h.2 c1
    refine lv_aload_n hx hb dX9_addLetter_11 rfl (lv_at hl 1 rfl) ?_
    refine k_get (q0 := 4) (k := 1) (ci := 9) (v := .ref (ad 6)) hx hb hts inX9_addLetter_X9 hown hI rfl rfl (by decide) mX9_addLetter_fieldLink_15_StillText_Units_sizes_I rfl rfl dX9_addLetter_12 ?_
    refine lv_iload_n hx hb dX9_addLetter_15 rfl (lv_at hl 0 rfl) ?_
    refine k_iald (q0 := 6) (t0 := 0) (n := 80) (f := σ 6) hx hb hI rfl rfl h.1 dX9_addLetter_16 ?_
    replace h := h.2
    refine lv_bipush (v := nI 20) hx hb dX9_addLetter_17 (by decide) ?_
    refine lv_icmp_lt (tgt := 24) hx hb dX9_addLetter_19 (by decide) (fun c2 => ?_) (fun c2 => ?_)
    · replace h := h.1 c2
      refine lv_aload_n hx hb dX9_addLetter_24 rfl (lv_at hl 1 rfl) ?_
      refine k_get (q0 := 4) (k := 0) (ci := 9) (v := .ref (ad 5)) hx hb hts inX9_addLetter_X9 hown hI rfl rfl (by decide) mX9_addLetter_fieldLink_9_StillText_Units_letters_I rfl rfl dX9_addLetter_25 ?_
      refine lv_iload_n hx hb dX9_addLetter_28 rfl (lv_at hl 0 rfl) ?_
      refine lv_bipush (v := nI 20) hx hb dX9_addLetter_29 (by decide) ?_
      refine lv_imul hx hb dX9_addLetter_31 ?_
      refine lv_aload_n hx hb dX9_addLetter_32 rfl (lv_at hl 1 rfl) ?_
      refine k_get (q0 := 4) (k := 1) (ci := 9) (v := .ref (ad 6)) hx hb hts inX9_addLetter_X9 hown hI rfl rfl (by decide) mX9_addLetter_fieldLink_15_StillText_Units_sizes_I rfl rfl dX9_addLetter_33 ?_
      refine lv_iload_n hx hb dX9_addLetter_36 rfl (lv_at hl 0 rfl) ?_
      refine k_iald (q0 := 6) (t0 := 0) (n := 80) (f := σ 6) hx hb hI rfl rfl h.1 dX9_addLetter_37 ?_
      replace h := h.2
      refine lv_iadd hx hb dX9_addLetter_38 ?_
      refine lv_iload_n hx hb dX9_addLetter_39 rfl (lv_at hl 2 rfl) ?_
      refine k_iast (q0 := 5) (t0 := 0) (n := 1600) (σ' := up2 σ 5 ((((σ 4 3) - (nI 1)) * (nI 20)) + (σ 6 ((σ 4 3) - (nI 1)).toNatClampNeg)).toNatClampNeg x1) hx hb hI rfl rfl h.1 (wsC_5 _ _ _ _ _ _) dX9_addLetter_40 (fun H locs hI => ?_)
      replace h := h.2
      refine lv_aload_n hx hb dX9_addLetter_41 rfl (lv_at hl 1 rfl) ?_
      refine k_get (q0 := 4) (k := 1) (ci := 9) (v := .ref (ad 6)) hx hb hts inX9_addLetter_X9 hown hI rfl rfl (by decide) mX9_addLetter_fieldLink_15_StillText_Units_sizes_I rfl rfl dX9_addLetter_42 ?_
      refine lv_iload_n hx hb dX9_addLetter_45 rfl (lv_at hl 0 rfl) ?_
      refine lv_dup2_11 hx hb dX9_addLetter_46 rfl rfl ?_
      refine k_iald (q0 := 6) (t0 := 0) (n := 80) (f := σ 6) hx hb hI rfl rfl h.1 dX9_addLetter_47 ?_
      replace h := h.2
      refine lv_iconst (v := nI 1) hx hb dX9_addLetter_48 (by decide) ?_
      refine lv_iadd hx hb dX9_addLetter_49 ?_
      refine k_iast (q0 := 6) (t0 := 0) (n := 80) (σ' := up2 (up2 σ 5 ((((σ 4 3) - (nI 1)) * (nI 20)) + (σ 6 ((σ 4 3) - (nI 1)).toNatClampNeg)).toNatClampNeg x1) 6 ((σ 4 3) - (nI 1)).toNatClampNeg ((σ 6 ((σ 4 3) - (nI 1)).toNatClampNeg) + (nI 1))) hx hb hI rfl rfl h.1 (wsC_6 _ _ _ _ _ _) dX9_addLetter_50 (fun H locs hI => ?_)
      replace h := h.2
      refine lv_iconst (v := nI 1) hx hb dX9_addLetter_51 (by decide) ?_
      exact k_zret hx hb hr hlocks hI (Or.inr rfl) h dX9_addLetter_52
    · replace h := h.2 c2
      refine lv_iconst (v := nI 0) hx hb dX9_addLetter_22 (by decide) ?_
      exact k_zret hx hb hr hlocks hI (Or.inl rfl) h dX9_addLetter_23
theorem inX3_stateBehindLetter_X3 : ∀ w ∈ wsX30, w ∈ wsX3_stateBehindLetter := fun _ h => List.mem_cons_of_mem _ (List.mem_append_left _ (List.mem_append_right _ (h)))
theorem mX3_stateBehindLetter_fieldLink_12_StillText_Reading_units_LStillText_Units : Cond.fieldLink RX3 12 "StillText$Reading" "units" "LStillText$Units;" ∈ wsX3_stateBehindLetter := List.mem_cons_of_mem _ (List.mem_append_left _ (List.mem_append_left _ (List.mem_of_getElem? (i := 0) rfl)))
set_option maxHeartbeats 4000000 in
set_option maxRecDepth 100000 in
theorem c_X3_stateBehindLetter (σ : St) (x1 x2 x3 : Int32) (Q : Int32 → St → Prop) (h : wp_X3_stateBehindLetter σ x1 x2 x3 Q) : Ci l D (tyE cyI cyZ) NwC (ZsC tL tS) (wC cyI cyZ ad) yX3_stateBehindLetter wsX3_stateBehindLetter r_X3_stateBehindLetter [.ref (ad 3), .int x1, .int x2, .int x3] σ Q := by
  refine k_metI (cc := cX3_stateBehindLetter) (maxL := 4) (ret := (some .int)) (by decide) rfl (Nat.le_of_ble_eq_true rfl) ?_
  intro p e s m below meth c A ls C hI hl
  obtain ⟨hx, hb, hr, hml, hown, hts, hlocks⟩ := id C
  have hl : lv_has ls 4 [(0, .ref (ad 3)), (1, .int x1), (2, .int x2), (3, .int x3)] := hl
  unfold wp_X3_stateBehindLetter at h
  refine lv_iload_n hx hb dX3_stateBehindLetter_0 rfl (lv_at hl 1 rfl) ?_
  refine lv_iconst (v := nI 3) hx hb dX3_stateBehindLetter_1 (by decide) ?_
  refine lv_icmp_ne (tgt := 14) hx hb dX3_stateBehindLetter_2 (by decide) (fun c1 => ?_) (fun c1 => ?_)
  · replace h := h.1 c1
    refine lv_iload_n hx hb dX3_stateBehindLetter_14 rfl (lv_at hl 1 rfl) ?_
    refine lv_iconst (v := nI 1) hx hb dX3_stateBehindLetter_15 (by decide) ?_
    refine lv_icmp_eq (tgt := 38) hx hb dX3_stateBehindLetter_16 (by decide) (fun c2 => ?_) (fun c2 => ?_)
    · replace h := h.1 c2
      refine lv_aload_n hx hb dX3_stateBehindLetter_38 rfl (lv_at hl 0 rfl) ?_
      refine k_get (q0 := 3) (k := 0) (ci := 3) (v := .ref (ad 4)) hx hb hts inX3_stateBehindLetter_X3 hown hI rfl rfl (by decide) mX3_stateBehindLetter_fieldLink_12_StillText_Reading_units_LStillText_Units rfl rfl dX3_stateBehindLetter_39 ?_
      refine lv_iload_n hx hb dX3_stateBehindLetter_42 rfl (lv_at hl 2 rfl) ?_
      refine k_cVi (As := [.int x2]) (rest := []) C (c_X9_addLetter σ x2 _ h) (cwV 1 hts gX3_stateBehindLetter_X9_addLetter rfl rfl rfl hdX9_addLetter ⟨Nat.le_of_ble_eq_true rfl, Nat.le_of_ble_eq_true rfl⟩) hI 4 rfl rfl rfl hl.1 rfl (Nat.le_of_ble_eq_true rfl) dX3_stateBehindLetter_43 ⟨Nat.le_of_ble_eq_true rfl, Nat.le_of_ble_eq_true rfl⟩ (fun r3 σ4 H locs h hI => ?_)
      refine lv_if_ne (tgt := 55) hx hb dX3_stateBehindLetter_46 (by decide) (fun c5 => ?_) (fun c5 => ?_)
      · replace h := h.1 c5
        refine lv_iconst (v := nI 1) hx hb dX3_stateBehindLetter_55 (by decide) ?_
        exact k_iret hx hb hr hlocks hI h dX3_stateBehindLetter_56
      · replace h := h.2 c5
        refine lv_aload_n hx hb dX3_stateBehindLetter_49 rfl (lv_at hl 0 rfl) ?_
        refine lv_iconst (v := nI 2) hx hb dX3_stateBehindLetter_50 (by decide) ?_
        refine lv_iload_n hx hb dX3_stateBehindLetter_51 rfl (lv_at hl 3 rfl) ?_
        refine k_cVv (As := [.int (nI 2), .int x3]) (rest := []) C (c_X3_refuse σ4 (nI 2) x3 _ h) (cwV 2 hts gX3_stateBehindLetter_X3_refuse rfl rfl rfl hdX3_refuse ⟨Nat.le_of_ble_eq_true rfl, Nat.le_of_ble_eq_true rfl⟩) hI 3 rfl rfl rfl hl.1 rfl (Nat.le_of_ble_eq_true rfl) dX3_stateBehindLetter_52 ⟨Nat.le_of_ble_eq_true rfl, Nat.le_of_ble_eq_true rfl⟩ (fun σ7 H locs h hI => ?_)
        refine lv_iconst (v := nI 1) hx hb dX3_stateBehindLetter_55 (by decide) ?_
        exact k_iret hx hb hr hlocks hI h dX3_stateBehindLetter_56
    · replace h := h.2 c2
      refine lv_aload_n hx hb dX3_stateBehindLetter_19 rfl (lv_at hl 0 rfl) ?_
      refine k_get (q0 := 3) (k := 0) (ci := 3) (v := .ref (ad 4)) hx hb hts inX3_stateBehindLetter_X3 hown hI rfl rfl (by decide) mX3_stateBehindLetter_fieldLink_12_StillText_Reading_units_LStillText_Units rfl rfl dX3_stateBehindLetter_20 ?_
      refine k_cVi (As := []) (rest := []) C (c_X9_open σ  _ h) (cwV 0 hts gX3_stateBehindLetter_X9_open rfl rfl rfl hdX9_open ⟨Nat.le_of_ble_eq_true rfl, Nat.le_of_ble_eq_true rfl⟩) hI 4 rfl rfl rfl hl.1 rfl (Nat.le_of_ble_eq_true rfl) dX3_stateBehindLetter_23 ⟨Nat.le_of_ble_eq_true rfl, Nat.le_of_ble_eq_true rfl⟩ (fun r8 σ9 H locs h hI => ?_)
      refine lv_if_ne (tgt := 38) hx hb dX3_stateBehindLetter_26 (by decide) (fun c10 => ?_) (fun c10 => ?_)
      · replace h := h.1 c10
        refine lv_aload_n hx hb dX3_stateBehindLetter_38 rfl (lv_at hl 0 rfl) ?_
        refine k_get (q0 := 3) (k := 0) (ci := 3) (v := .ref (ad 4)) hx hb hts inX3_stateBehindLetter_X3 hown hI rfl rfl (by decide) mX3_stateBehindLetter_fieldLink_12_StillText_Reading_units_LStillText_Units rfl rfl dX3_stateBehindLetter_39 ?_
        refine lv_iload_n hx hb dX3_stateBehindLetter_42 rfl (lv_at hl 2 rfl) ?_
        refine k_cVi (As := [.int x2]) (rest := []) C (c_X9_addLetter σ9 x2 _ h) (cwV 1 hts gX3_stateBehindLetter_X9_addLetter rfl rfl rfl hdX9_addLetter ⟨Nat.le_of_ble_eq_true rfl, Nat.le_of_ble_eq_true rfl⟩) hI 4 rfl rfl rfl hl.1 rfl (Nat.le_of_ble_eq_true rfl) dX3_stateBehindLetter_43 ⟨Nat.le_of_ble_eq_true rfl, Nat.le_of_ble_eq_true rfl⟩ (fun r11 σ12 H locs h hI => ?_)
        refine lv_if_ne (tgt := 55) hx hb dX3_stateBehindLetter_46 (by decide) (fun c13 => ?_) (fun c13 => ?_)
        · replace h := h.1 c13
          refine lv_iconst (v := nI 1) hx hb dX3_stateBehindLetter_55 (by decide) ?_
          exact k_iret hx hb hr hlocks hI h dX3_stateBehindLetter_56
        · replace h := h.2 c13
          refine lv_aload_n hx hb dX3_stateBehindLetter_49 rfl (lv_at hl 0 rfl) ?_
          refine lv_iconst (v := nI 2) hx hb dX3_stateBehindLetter_50 (by decide) ?_
          refine lv_iload_n hx hb dX3_stateBehindLetter_51 rfl (lv_at hl 3 rfl) ?_
          refine k_cVv (As := [.int (nI 2), .int x3]) (rest := []) C (c_X3_refuse σ12 (nI 2) x3 _ h) (cwV 2 hts gX3_stateBehindLetter_X3_refuse rfl rfl rfl hdX3_refuse ⟨Nat.le_of_ble_eq_true rfl, Nat.le_of_ble_eq_true rfl⟩) hI 3 rfl rfl rfl hl.1 rfl (Nat.le_of_ble_eq_true rfl) dX3_stateBehindLetter_52 ⟨Nat.le_of_ble_eq_true rfl, Nat.le_of_ble_eq_true rfl⟩ (fun σ15 H locs h hI => ?_)
          refine lv_iconst (v := nI 1) hx hb dX3_stateBehindLetter_55 (by decide) ?_
          exact k_iret hx hb hr hlocks hI h dX3_stateBehindLetter_56
      · replace h := h.2 c10
        refine lv_aload_n hx hb dX3_stateBehindLetter_29 rfl (lv_at hl 0 rfl) ?_
        refine lv_iconst (v := nI 3) hx hb dX3_stateBehindLetter_30 (by decide) ?_
        refine lv_iload_n hx hb dX3_stateBehindLetter_31 rfl (lv_at hl 3 rfl) ?_
        refine k_cVv (As := [.int (nI 3), .int x3]) (rest := []) C (c_X3_refuse σ9 (nI 3) x3 _ h) (cwV 2 hts gX3_stateBehindLetter_X3_refuse rfl rfl rfl hdX3_refuse ⟨Nat.le_of_ble_eq_true rfl, Nat.le_of_ble_eq_true rfl⟩) hI 3 rfl rfl rfl hl.1 rfl (Nat.le_of_ble_eq_true rfl) dX3_stateBehindLetter_32 ⟨Nat.le_of_ble_eq_true rfl, Nat.le_of_ble_eq_true rfl⟩ (fun σ17 H locs h hI => ?_)
        refine lv_goto (tgt := 55) hx hb dX3_stateBehindLetter_35 (by decide) ?_
        refine lv_iconst (v := nI 1) hx hb dX3_stateBehindLetter_55 (by decide) ?_
        exact k_iret hx hb hr hlocks hI h dX3_stateBehindLetter_56
  · replace h := h.2 c1
    refine lv_aload_n hx hb dX3_stateBehindLetter_5 rfl (lv_at hl 0 rfl) ?_
    refine lv_iconst (v := nI 1) hx hb dX3_stateBehindLetter_6 (by decide) ?_
    refine lv_iload_n hx hb dX3_stateBehindLetter_7 rfl (lv_at hl 3 rfl) ?_
    refine k_cVv (As := [.int (nI 1), .int x3]) (rest := []) C (c_X3_refuse σ (nI 1) x3 _ h) (cwV 2 hts gX3_stateBehindLetter_X3_refuse rfl rfl rfl hdX3_refuse ⟨Nat.le_of_ble_eq_true rfl, Nat.le_of_ble_eq_true rfl⟩) hI 3 rfl rfl rfl hl.1 rfl (Nat.le_of_ble_eq_true rfl) dX3_stateBehindLetter_8 ⟨Nat.le_of_ble_eq_true rfl, Nat.le_of_ble_eq_true rfl⟩ (fun σ19 H locs h hI => ?_)
    refine lv_goto (tgt := 55) hx hb dX3_stateBehindLetter_11 (by decide) ?_
    refine lv_iconst (v := nI 1) hx hb dX3_stateBehindLetter_55 (by decide) ?_
    exact k_iret hx hb hr hlocks hI h dX3_stateBehindLetter_56
theorem inX9_close_X9 : ∀ w ∈ wsX90, w ∈ wsX9_close := fun _ h => List.mem_cons_of_mem _ (List.mem_append_right _ (h))
theorem mX9_close_fieldLink_21_StillText_Units_count_I : Cond.fieldLink RX9 21 "StillText$Units" "count" "I" ∈ wsX9_close := List.mem_cons_of_mem _ (List.mem_append_left _ (List.mem_of_getElem? (i := 0) rfl))
theorem mX9_close_fieldLink_18_StillText_Units_behind_I : Cond.fieldLink RX9 18 "StillText$Units" "behind" "[I" ∈ wsX9_close := List.mem_cons_of_mem _ (List.mem_append_left _ (List.mem_of_getElem? (i := 1) rfl))
set_option maxHeartbeats 4000000 in
set_option maxRecDepth 100000 in
theorem c_X9_close (σ : St) (x1 : Int32) (Q : St → Prop) (h : wp_X9_close σ x1 Q) : Cv l D (tyE cyI cyZ) NwC (ZsC tL tS) (wC cyI cyZ ad) yX9_close wsX9_close r_X9_close [.ref (ad 4), .int x1] σ Q := by
  refine k_metV (cc := cX9_close) (maxL := 2) (ret := none) (by decide) rfl (Nat.le_of_ble_eq_true rfl) ?_
  intro p e s m below meth c A ls C hI hl
  obtain ⟨hx, hb, hr, hml, hown, hts, hlocks⟩ := id C
  have hl : lv_has ls 2 [(0, .ref (ad 4)), (1, .int x1)] := hl
  unfold wp_X9_close at h
  refine lv_aload_n hx hb dX9_close_0 rfl (lv_at hl 0 rfl) ?_
  refine k_get (q0 := 4) (k := 3) (ci := 9) (v := .int (σ 4 3)) hx hb hts inX9_close_X9 hown hI rfl rfl (by decide) mX9_close_fieldLink_21_StillText_Units_count_I rfl rfl dX9_close_1 ?_
  refine lv_if_le (tgt := 19) hx hb dX9_close_4 (by decide) (fun c1 => ?_) (fun c1 => ?_)
  · replace h := h.1 c1
    exact k_vret hx hb hr hlocks hI h dX9_close_19
  · replace h := h.2 c1
    refine lv_aload_n hx hb dX9_close_7 rfl (lv_at hl 0 rfl) ?_
    refine k_get (q0 := 4) (k := 2) (ci := 9) (v := .ref (ad 7)) hx hb hts inX9_close_X9 hown hI rfl rfl (by decide) mX9_close_fieldLink_18_StillText_Units_behind_I rfl rfl dX9_close_8 ?_
    refine lv_aload_n hx hb dX9_close_11 rfl (lv_at hl 0 rfl) ?_
    refine k_get (q0 := 4) (k := 3) (ci := 9) (v := .int (σ 4 3)) hx hb hts inX9_close_X9 hown hI rfl rfl (by decide) mX9_close_fieldLink_21_StillText_Units_count_I rfl rfl dX9_close_12 ?_
    refine lv_iconst (v := nI 1) hx hb dX9_close_15 (by decide) ?_
    refine lv_isub hx hb dX9_close_16 ?_
    refine lv_iload_n hx hb dX9_close_17 rfl (lv_at hl 1 rfl) ?_
    refine k_iast (q0 := 7) (t0 := 0) (n := 80) (σ' := up2 σ 7 ((σ 4 3) - (nI 1)).toNatClampNeg x1) hx hb hI rfl rfl h.1 (wsC_7 _ _ _ _ _ _) dX9_close_18 (fun H locs hI => ?_)
    replace h := h.2
    exact k_vret hx hb hr hlocks hI h dX9_close_19
theorem mX3_stateBehind_initialized : Cond.initialized RX10 ∈ wsX3_stateBehind := List.mem_cons_of_mem _ (List.mem_append_left _ (List.mem_append_left _ (List.mem_append_left _ (List.mem_of_getElem? (i := 2) rfl))))
theorem mX3_stateBehind_static_yX10_isLetter : Cond.static yX10_isLetter ∈ wsX3_stateBehind := List.mem_cons_of_mem _ (List.mem_append_left _ (List.mem_append_left _ (List.mem_append_left _ (List.mem_of_getElem? (i := 1) rfl))))
theorem inX3_stateBehind_X3 : ∀ w ∈ wsX30, w ∈ wsX3_stateBehind := fun _ h => List.mem_cons_of_mem _ (List.mem_append_left _ (List.mem_append_right _ (h)))
theorem mX3_stateBehind_fieldLink_12_StillText_Reading_units_LStillText_Units : Cond.fieldLink RX3 12 "StillText$Reading" "units" "LStillText$Units;" ∈ wsX3_stateBehind := List.mem_cons_of_mem _ (List.mem_append_left _ (List.mem_append_left _ (List.mem_append_left _ (List.mem_of_getElem? (i := 0) rfl))))
set_option maxHeartbeats 4000000 in
set_option maxRecDepth 100000 in
theorem t_X3_stateBehind_64 {p : Program} {e : Env} {s : State} {m : MethodId} {args : Array Value} {below : List Frame} {meth : Method} {c : Code} {A : Nat → Prop} {x1 x2 x3 x4 : Int32}  {Q : Int32 → St → Prop} (C : Cx p s m args meth c cX3_stateBehind 6 (some .int) RX3 wsX3_stateBehind) :
    ∀ (σ : St) (H : Heap) (locs : List Loc) (ls : Array Slot), wpj_X3_stateBehind_64 x1 x2 x3 x4 Q σ → Iw D (tyE cyI cyZ) NwC (ZsC tL tS) (wC cyI cyZ ad) A s H locs σ → lv_has ls 6 [(0, .ref (ad 3)), (1, .int x1), (2, .int x2), (3, .int x3), (4, .int x4)] → W p l e r_X3_stateBehind s m args below meth c H locs 0 0 (MQ below (va_Qi Q (Kq D (tyE cyI cyZ) (wC cyI cyZ ad) A) A) args s 0 0 A) (F0 m 64 ls []) := by
  obtain ⟨hx, hb, hr, hml, hown, hts, hlocks⟩ := id C
  intro σ H locs ls h hI hl
  unfold wpj_X3_stateBehind_64 at h
  refine lv_iconst (v := nI 1) hx hb dX3_stateBehind_64 (by decide) ?_
  refine lv_goto (tgt := 69) hx hb dX3_stateBehind_65 (by decide) ?_
  refine lv_istore (lv' := [(5, .int (nI 1)), (0, .ref (ad 3)), (1, .int x1), (2, .int x2), (3, .int x3), (4, .int x4)]) hx hb dX3_stateBehind_69 hl (by decide) rfl (fun ls hl => ?_)
  refine lv_iload_n hx hb dX3_stateBehind_71 rfl (lv_at hl 2 rfl) ?_
  refine lv_iconst (v := nI 1) hx hb dX3_stateBehind_72 (by decide) ?_
  refine lv_icmp_ne (tgt := 106) hx hb dX3_stateBehind_73 (by decide) (fun c8 => ?_) (fun c8 => ?_)
  · replace h := h.1 c8
    refine lv_aload_n hx hb dX3_stateBehind_106 rfl (lv_at hl 1 rfl) ?_
    refine lv_iconst (v := nI 1) hx hb dX3_stateBehind_107 (by decide) ?_
    refine lv_iload_n hx hb dX3_stateBehind_108 rfl (lv_at hl 4 rfl) ?_
    refine k_cVv (As := [.int (nI 1), .int x3]) (rest := []) C (c_X3_refuse σ (nI 1) x3 _ h) (cwV 2 hts gX3_stateBehind_X3_refuse rfl rfl rfl hdX3_refuse ⟨Nat.le_of_ble_eq_true rfl, Nat.le_of_ble_eq_true rfl⟩) hI 3 rfl rfl rfl hl.1 rfl (Nat.le_of_ble_eq_true rfl) dX3_stateBehind_109 ⟨Nat.le_of_ble_eq_true rfl, Nat.le_of_ble_eq_true rfl⟩ (fun σ10 H locs h hI => ?_)
    refine lv_iload_n hx hb dX3_stateBehind_112 rfl (lv_at hl 2 rfl) ?_
    exact k_iret hx hb hr hlocks hI h dX3_stateBehind_113
  · replace h := h.2 c8
    refine lv_iload hx hb dX3_stateBehind_76 (lv_at hl 0 rfl) ?_
    refine lv_if_ne (tgt := 87) hx hb dX3_stateBehind_78 (by decide) (fun c11 => ?_) (fun c11 => ?_)
    · refine lv_aload_n hx hb dX3_stateBehind_87 rfl (lv_at hl 1 rfl) ?_
      refine k_get (q0 := 3) (k := 0) (ci := 3) (v := .ref (ad 4)) hx hb hts inX3_stateBehind_X3 hown hI rfl rfl (by decide) mX3_stateBehind_fieldLink_12_StillText_Reading_units_LStillText_Units rfl rfl dX3_stateBehind_88 ?_
      refine lv_iload_n hx hb dX3_stateBehind_91 rfl (lv_at hl 3 rfl) ?_
      refine k_cVv (As := [.int x2]) (rest := []) C (c_X9_close σ x2 _ h) (cwV 1 hts gX3_stateBehind_X9_close rfl rfl rfl hdX9_close ⟨Nat.le_of_ble_eq_true rfl, Nat.le_of_ble_eq_true rfl⟩) hI 4 rfl rfl rfl hl.1 rfl (Nat.le_of_ble_eq_true rfl) dX3_stateBehind_92 ⟨Nat.le_of_ble_eq_true rfl, Nat.le_of_ble_eq_true rfl⟩ (fun σ13 H locs h hI => ?_)
      refine lv_iload hx hb dX3_stateBehind_95 (lv_at hl 0 rfl) ?_
      refine lv_if_eq (tgt := 104) hx hb dX3_stateBehind_97 (by decide) (fun c14 => ?_) (fun c14 => ?_)
      · exact absurd c14 (by decide)
      · refine lv_iconst (v := nI 3) hx hb dX3_stateBehind_100 (by decide) ?_
        refine lv_goto (tgt := 105) hx hb dX3_stateBehind_101 (by decide) ?_
        exact k_iret hx hb hr hlocks hI h dX3_stateBehind_105
    · exact absurd c11 (by decide)
set_option maxHeartbeats 4000000 in
set_option maxRecDepth 100000 in
theorem t_X3_stateBehind_27 {p : Program} {e : Env} {s : State} {m : MethodId} {args : Array Value} {below : List Frame} {meth : Method} {c : Code} {A : Nat → Prop} {x1 x2 x3 : Int32}  {Q : Int32 → St → Prop} (C : Cx p s m args meth c cX3_stateBehind 6 (some .int) RX3 wsX3_stateBehind) :
    ∀ (σ : St) (H : Heap) (locs : List Loc) (ls : Array Slot), wpj_X3_stateBehind_27 x1 x2 x3 Q σ → Iw D (tyE cyI cyZ) NwC (ZsC tL tS) (wC cyI cyZ ad) A s H locs σ → lv_has ls 6 [(0, .ref (ad 3)), (1, .int x1), (2, .int x2), (3, .int x3)] → W p l e r_X3_stateBehind s m args below meth c H locs 0 0 (MQ below (va_Qi Q (Kq D (tyE cyI cyZ) (wC cyI cyZ ad) A) A) args s 0 0 A) (F0 m 27 ls []) := by
  obtain ⟨hx, hb, hr, hml, hown, hts, hlocks⟩ := id C
  intro σ H locs ls h hI hl
  unfold wpj_X3_stateBehind_27 at h
  refine lv_iconst (v := nI 1) hx hb dX3_stateBehind_27 (by decide) ?_
  refine lv_goto (tgt := 32) hx hb dX3_stateBehind_28 (by decide) ?_
  refine lv_istore (lv' := [(4, .int (nI 1)), (0, .ref (ad 3)), (1, .int x1), (2, .int x2), (3, .int x3)]) hx hb dX3_stateBehind_32 hl (by decide) rfl (fun ls hl => ?_)
  refine lv_iload hx hb dX3_stateBehind_34 (lv_at hl 0 rfl) ?_
  refine lv_if_eq (tgt := 46) hx hb dX3_stateBehind_36 (by decide) (fun c5 => ?_) (fun c5 => ?_)
  · exact absurd c5 (by decide)
  · refine lv_iload_n hx hb dX3_stateBehind_39 rfl (lv_at hl 2 rfl) ?_
    refine lv_iconst (v := nI 2) hx hb dX3_stateBehind_40 (by decide) ?_
    refine lv_icmp_eq (tgt := 46) hx hb dX3_stateBehind_41 (by decide) (fun c6 => ?_) (fun c6 => ?_)
    · replace h := h.1 c6
      refine lv_iload_n hx hb dX3_stateBehind_46 rfl (lv_at hl 3 rfl) ?_
      refine lv_bipush (v := nI 44) hx hb dX3_stateBehind_47 (by decide) ?_
      refine lv_icmp_eq (tgt := 64) hx hb dX3_stateBehind_49 (by decide) (fun c7 => ?_) (fun c7 => ?_)
      · replace h := h.1 c7
        exact t_X3_stateBehind_64 C  _ _ _ _ h hI (lv_sub hl [1, 2, 3, 4, 0] rfl)
      · replace h := h.2 c7
        refine lv_iload_n hx hb dX3_stateBehind_52 rfl (lv_at hl 3 rfl) ?_
        refine lv_bipush (v := nI 46) hx hb dX3_stateBehind_53 (by decide) ?_
        refine lv_icmp_eq (tgt := 64) hx hb dX3_stateBehind_55 (by decide) (fun c15 => ?_) (fun c15 => ?_)
        · replace h := h.1 c15
          exact t_X3_stateBehind_64 C  _ _ _ _ h hI (lv_sub hl [1, 2, 3, 4, 0] rfl)
        · replace h := h.2 c15
          refine lv_iload_n hx hb dX3_stateBehind_58 rfl (lv_at hl 3 rfl) ?_
          refine lv_bipush (v := nI 47) hx hb dX3_stateBehind_59 (by decide) ?_
          refine lv_icmp_ne (tgt := 68) hx hb dX3_stateBehind_61 (by decide) (fun c16 => ?_) (fun c16 => ?_)
          · replace h := h.1 c16
            refine lv_iconst (v := nI 0) hx hb dX3_stateBehind_68 (by decide) ?_
            refine lv_istore (lv' := [(5, .int (nI 0)), (4, .int (nI 1)), (0, .ref (ad 3)), (1, .int x1), (2, .int x2), (3, .int x3)]) hx hb dX3_stateBehind_69 hl (by decide) rfl (fun ls hl => ?_)
            refine lv_iload_n hx hb dX3_stateBehind_71 rfl (lv_at hl 3 rfl) ?_
            refine lv_iconst (v := nI 1) hx hb dX3_stateBehind_72 (by decide) ?_
            refine lv_icmp_ne (tgt := 106) hx hb dX3_stateBehind_73 (by decide) (fun c17 => ?_) (fun c17 => ?_)
            · replace h := h.1 c17
              refine lv_aload_n hx hb dX3_stateBehind_106 rfl (lv_at hl 2 rfl) ?_
              refine lv_iconst (v := nI 1) hx hb dX3_stateBehind_107 (by decide) ?_
              refine lv_iload_n hx hb dX3_stateBehind_108 rfl (lv_at hl 5 rfl) ?_
              refine k_cVv (As := [.int (nI 1), .int x3]) (rest := []) C (c_X3_refuse σ (nI 1) x3 _ h) (cwV 2 hts gX3_stateBehind_X3_refuse rfl rfl rfl hdX3_refuse ⟨Nat.le_of_ble_eq_true rfl, Nat.le_of_ble_eq_true rfl⟩) hI 3 rfl rfl rfl hl.1 rfl (Nat.le_of_ble_eq_true rfl) dX3_stateBehind_109 ⟨Nat.le_of_ble_eq_true rfl, Nat.le_of_ble_eq_true rfl⟩ (fun σ19 H locs h hI => ?_)
              refine lv_iload_n hx hb dX3_stateBehind_112 rfl (lv_at hl 3 rfl) ?_
              exact k_iret hx hb hr hlocks hI h dX3_stateBehind_113
            · replace h := h.2 c17
              refine lv_iload hx hb dX3_stateBehind_76 (lv_at hl 0 rfl) ?_
              refine lv_if_ne (tgt := 87) hx hb dX3_stateBehind_78 (by decide) (fun c20 => ?_) (fun c20 => ?_)
              · exact absurd c20 (by decide)
              · refine lv_iload_n hx hb dX3_stateBehind_81 rfl (lv_at hl 4 rfl) ?_
                refine lv_bipush (v := nI 45) hx hb dX3_stateBehind_82 (by decide) ?_
                refine lv_icmp_ne (tgt := 106) hx hb dX3_stateBehind_84 (by decide) (fun c21 => ?_) (fun c21 => ?_)
                · replace h := h.1 c21
                  refine lv_aload_n hx hb dX3_stateBehind_106 rfl (lv_at hl 2 rfl) ?_
                  refine lv_iconst (v := nI 1) hx hb dX3_stateBehind_107 (by decide) ?_
                  refine lv_iload_n hx hb dX3_stateBehind_108 rfl (lv_at hl 5 rfl) ?_
                  refine k_cVv (As := [.int (nI 1), .int x3]) (rest := []) C (c_X3_refuse σ (nI 1) x3 _ h) (cwV 2 hts gX3_stateBehind_X3_refuse rfl rfl rfl hdX3_refuse ⟨Nat.le_of_ble_eq_true rfl, Nat.le_of_ble_eq_true rfl⟩) hI 3 rfl rfl rfl hl.1 rfl (Nat.le_of_ble_eq_true rfl) dX3_stateBehind_109 ⟨Nat.le_of_ble_eq_true rfl, Nat.le_of_ble_eq_true rfl⟩ (fun σ23 H locs h hI => ?_)
                  refine lv_iload_n hx hb dX3_stateBehind_112 rfl (lv_at hl 3 rfl) ?_
                  exact k_iret hx hb hr hlocks hI h dX3_stateBehind_113
                · replace h := h.2 c21
                  refine lv_aload_n hx hb dX3_stateBehind_87 rfl (lv_at hl 2 rfl) ?_
                  refine k_get (q0 := 3) (k := 0) (ci := 3) (v := .ref (ad 4)) hx hb hts inX3_stateBehind_X3 hown hI rfl rfl (by decide) mX3_stateBehind_fieldLink_12_StillText_Reading_units_LStillText_Units rfl rfl dX3_stateBehind_88 ?_
                  refine lv_iload_n hx hb dX3_stateBehind_91 rfl (lv_at hl 4 rfl) ?_
                  refine k_cVv (As := [.int x2]) (rest := []) C (c_X9_close σ x2 _ h) (cwV 1 hts gX3_stateBehind_X9_close rfl rfl rfl hdX9_close ⟨Nat.le_of_ble_eq_true rfl, Nat.le_of_ble_eq_true rfl⟩) hI 4 rfl rfl rfl hl.1 rfl (Nat.le_of_ble_eq_true rfl) dX3_stateBehind_92 ⟨Nat.le_of_ble_eq_true rfl, Nat.le_of_ble_eq_true rfl⟩ (fun σ25 H locs h hI => ?_)
                  refine lv_iload hx hb dX3_stateBehind_95 (lv_at hl 0 rfl) ?_
                  refine lv_if_eq (tgt := 104) hx hb dX3_stateBehind_97 (by decide) (fun c26 => ?_) (fun c26 => ?_)
                  · refine lv_iconst (v := nI 2) hx hb dX3_stateBehind_104 (by decide) ?_
                    exact k_iret hx hb hr hlocks hI h dX3_stateBehind_105
                  · exact absurd c26 (by decide)
          · replace h := h.2 c16
            exact t_X3_stateBehind_64 C  _ _ _ _ h hI (lv_sub hl [1, 2, 3, 4, 0] rfl)
    · replace h := h.2 c6
      refine lv_iconst (v := nI 0) hx hb dX3_stateBehind_44 (by decide) ?_
      exact k_iret hx hb hr hlocks hI h dX3_stateBehind_45
set_option maxHeartbeats 4000000 in
set_option maxRecDepth 100000 in
theorem c_X3_stateBehind (σ : St) (x1 x2 x3 : Int32) (Q : Int32 → St → Prop) (h : wp_X3_stateBehind σ x1 x2 x3 Q) : Ci l D (tyE cyI cyZ) NwC (ZsC tL tS) (wC cyI cyZ ad) yX3_stateBehind wsX3_stateBehind r_X3_stateBehind [.ref (ad 3), .int x1, .int x2, .int x3] σ Q := by
  refine k_metI (cc := cX3_stateBehind) (maxL := 6) (ret := (some .int)) (by decide) rfl (Nat.le_of_ble_eq_true rfl) ?_
  intro p e s m below meth c A ls C hI hl
  obtain ⟨hx, hb, hr, hml, hown, hts, hlocks⟩ := id C
  have hl : lv_has ls 6 [(0, .ref (ad 3)), (1, .int x1), (2, .int x2), (3, .int x3)] := hl
  unfold wp_X3_stateBehind at h
  refine lv_iload_n hx hb dX3_stateBehind_0 rfl (lv_at hl 2 rfl) ?_
  refine k_cNi (As := [.int x2]) (rest := []) (host := RX10) C (c_X10_isLetter σ x2 _ h) gX3_stateBehind_X10_isLetter_n46 rfl rfl rfl (List.mem_of_getElem? (i := 3) rfl) mX3_stateBehind_initialized mX3_stateBehind_static_yX10_isLetter hdX10_isLetter ⟨Nat.le_of_ble_eq_true rfl, Nat.le_of_ble_eq_true rfl⟩ hI rfl hl.1 rfl (Nat.le_of_ble_eq_true rfl) dX3_stateBehind_1 ⟨Nat.le_of_ble_eq_true rfl, Nat.le_of_ble_eq_true rfl⟩ (fun r1 σ2 H locs h hI => ?_)
  refine lv_if_eq (tgt := 15) hx hb dX3_stateBehind_4 (by decide) (fun c3 => ?_) (fun c3 => ?_)
  · replace h := h.1 c3
    refine lv_iload_n hx hb dX3_stateBehind_15 rfl (lv_at hl 2 rfl) ?_
    refine lv_bipush (v := nI 32) hx hb dX3_stateBehind_16 (by decide) ?_
    refine lv_icmp_eq (tgt := 27) hx hb dX3_stateBehind_18 (by decide) (fun c4 => ?_) (fun c4 => ?_)
    · replace h := h.1 c4
      exact t_X3_stateBehind_27 C  _ _ _ _ h hI (lv_sub hl [0, 1, 2, 3] rfl)
    · replace h := h.2 c4
      refine lv_iload_n hx hb dX3_stateBehind_21 rfl (lv_at hl 2 rfl) ?_
      refine lv_bipush (v := nI 10) hx hb dX3_stateBehind_22 (by decide) ?_
      refine lv_icmp_ne (tgt := 31) hx hb dX3_stateBehind_24 (by decide) (fun c27 => ?_) (fun c27 => ?_)
      · replace h := h.1 c27
        refine lv_iconst (v := nI 0) hx hb dX3_stateBehind_31 (by decide) ?_
        refine lv_istore (lv' := [(4, .int (nI 0)), (0, .ref (ad 3)), (1, .int x1), (2, .int x2), (3, .int x3)]) hx hb dX3_stateBehind_32 hl (by decide) rfl (fun ls hl => ?_)
        refine lv_iload hx hb dX3_stateBehind_34 (lv_at hl 0 rfl) ?_
        refine lv_if_eq (tgt := 46) hx hb dX3_stateBehind_36 (by decide) (fun c28 => ?_) (fun c28 => ?_)
        · refine lv_iload_n hx hb dX3_stateBehind_46 rfl (lv_at hl 3 rfl) ?_
          refine lv_bipush (v := nI 44) hx hb dX3_stateBehind_47 (by decide) ?_
          refine lv_icmp_eq (tgt := 64) hx hb dX3_stateBehind_49 (by decide) (fun c29 => ?_) (fun c29 => ?_)
          · replace h := h.1 c29
            exact t_X3_stateBehind_64 C  _ _ _ _ h hI (lv_sub hl [1, 2, 3, 4, 0] rfl)
          · replace h := h.2 c29
            refine lv_iload_n hx hb dX3_stateBehind_52 rfl (lv_at hl 3 rfl) ?_
            refine lv_bipush (v := nI 46) hx hb dX3_stateBehind_53 (by decide) ?_
            refine lv_icmp_eq (tgt := 64) hx hb dX3_stateBehind_55 (by decide) (fun c30 => ?_) (fun c30 => ?_)
            · replace h := h.1 c30
              exact t_X3_stateBehind_64 C  _ _ _ _ h hI (lv_sub hl [1, 2, 3, 4, 0] rfl)
            · replace h := h.2 c30
              refine lv_iload_n hx hb dX3_stateBehind_58 rfl (lv_at hl 3 rfl) ?_
              refine lv_bipush (v := nI 47) hx hb dX3_stateBehind_59 (by decide) ?_
              refine lv_icmp_ne (tgt := 68) hx hb dX3_stateBehind_61 (by decide) (fun c31 => ?_) (fun c31 => ?_)
              · replace h := h.1 c31
                refine lv_iconst (v := nI 0) hx hb dX3_stateBehind_68 (by decide) ?_
                refine lv_istore (lv' := [(5, .int (nI 0)), (4, .int (nI 0)), (0, .ref (ad 3)), (1, .int x1), (2, .int x2), (3, .int x3)]) hx hb dX3_stateBehind_69 hl (by decide) rfl (fun ls hl => ?_)
                refine lv_iload_n hx hb dX3_stateBehind_71 rfl (lv_at hl 3 rfl) ?_
                refine lv_iconst (v := nI 1) hx hb dX3_stateBehind_72 (by decide) ?_
                refine lv_icmp_ne (tgt := 106) hx hb dX3_stateBehind_73 (by decide) (fun c32 => ?_) (fun c32 => ?_)
                · replace h := h.1 c32
                  refine lv_aload_n hx hb dX3_stateBehind_106 rfl (lv_at hl 2 rfl) ?_
                  refine lv_iconst (v := nI 1) hx hb dX3_stateBehind_107 (by decide) ?_
                  refine lv_iload_n hx hb dX3_stateBehind_108 rfl (lv_at hl 5 rfl) ?_
                  refine k_cVv (As := [.int (nI 1), .int x3]) (rest := []) C (c_X3_refuse σ2 (nI 1) x3 _ h) (cwV 2 hts gX3_stateBehind_X3_refuse rfl rfl rfl hdX3_refuse ⟨Nat.le_of_ble_eq_true rfl, Nat.le_of_ble_eq_true rfl⟩) hI 3 rfl rfl rfl hl.1 rfl (Nat.le_of_ble_eq_true rfl) dX3_stateBehind_109 ⟨Nat.le_of_ble_eq_true rfl, Nat.le_of_ble_eq_true rfl⟩ (fun σ34 H locs h hI => ?_)
                  refine lv_iload_n hx hb dX3_stateBehind_112 rfl (lv_at hl 3 rfl) ?_
                  exact k_iret hx hb hr hlocks hI h dX3_stateBehind_113
                · replace h := h.2 c32
                  refine lv_iload hx hb dX3_stateBehind_76 (lv_at hl 0 rfl) ?_
                  refine lv_if_ne (tgt := 87) hx hb dX3_stateBehind_78 (by decide) (fun c35 => ?_) (fun c35 => ?_)
                  · exact absurd c35 (by decide)
                  · refine lv_iload_n hx hb dX3_stateBehind_81 rfl (lv_at hl 4 rfl) ?_
                    refine lv_bipush (v := nI 45) hx hb dX3_stateBehind_82 (by decide) ?_
                    refine lv_icmp_ne (tgt := 106) hx hb dX3_stateBehind_84 (by decide) (fun c36 => ?_) (fun c36 => ?_)
                    · replace h := h.1 c36
                      refine lv_aload_n hx hb dX3_stateBehind_106 rfl (lv_at hl 2 rfl) ?_
                      refine lv_iconst (v := nI 1) hx hb dX3_stateBehind_107 (by decide) ?_
                      refine lv_iload_n hx hb dX3_stateBehind_108 rfl (lv_at hl 5 rfl) ?_
                      refine k_cVv (As := [.int (nI 1), .int x3]) (rest := []) C (c_X3_refuse σ2 (nI 1) x3 _ h) (cwV 2 hts gX3_stateBehind_X3_refuse rfl rfl rfl hdX3_refuse ⟨Nat.le_of_ble_eq_true rfl, Nat.le_of_ble_eq_true rfl⟩) hI 3 rfl rfl rfl hl.1 rfl (Nat.le_of_ble_eq_true rfl) dX3_stateBehind_109 ⟨Nat.le_of_ble_eq_true rfl, Nat.le_of_ble_eq_true rfl⟩ (fun σ38 H locs h hI => ?_)
                      refine lv_iload_n hx hb dX3_stateBehind_112 rfl (lv_at hl 3 rfl) ?_
                      exact k_iret hx hb hr hlocks hI h dX3_stateBehind_113
                    · replace h := h.2 c36
                      refine lv_aload_n hx hb dX3_stateBehind_87 rfl (lv_at hl 2 rfl) ?_
                      refine k_get (q0 := 3) (k := 0) (ci := 3) (v := .ref (ad 4)) hx hb hts inX3_stateBehind_X3 hown hI rfl rfl (by decide) mX3_stateBehind_fieldLink_12_StillText_Reading_units_LStillText_Units rfl rfl dX3_stateBehind_88 ?_
                      refine lv_iload_n hx hb dX3_stateBehind_91 rfl (lv_at hl 4 rfl) ?_
                      refine k_cVv (As := [.int x2]) (rest := []) C (c_X9_close σ2 x2 _ h) (cwV 1 hts gX3_stateBehind_X9_close rfl rfl rfl hdX9_close ⟨Nat.le_of_ble_eq_true rfl, Nat.le_of_ble_eq_true rfl⟩) hI 4 rfl rfl rfl hl.1 rfl (Nat.le_of_ble_eq_true rfl) dX3_stateBehind_92 ⟨Nat.le_of_ble_eq_true rfl, Nat.le_of_ble_eq_true rfl⟩ (fun σ40 H locs h hI => ?_)
                      refine lv_iload hx hb dX3_stateBehind_95 (lv_at hl 0 rfl) ?_
                      refine lv_if_eq (tgt := 104) hx hb dX3_stateBehind_97 (by decide) (fun c41 => ?_) (fun c41 => ?_)
                      · refine lv_iconst (v := nI 2) hx hb dX3_stateBehind_104 (by decide) ?_
                        exact k_iret hx hb hr hlocks hI h dX3_stateBehind_105
                      · exact absurd c41 (by decide)
              · replace h := h.2 c31
                exact t_X3_stateBehind_64 C  _ _ _ _ h hI (lv_sub hl [1, 2, 3, 4, 0] rfl)
        · exact absurd c28 (by decide)
      · replace h := h.2 c27
        exact t_X3_stateBehind_27 C  _ _ _ _ h hI (lv_sub hl [0, 1, 2, 3] rfl)
  · replace h := h.2 c3
    refine lv_aload_n hx hb dX3_stateBehind_7 rfl (lv_at hl 0 rfl) ?_
    refine lv_iload_n hx hb dX3_stateBehind_8 rfl (lv_at hl 1 rfl) ?_
    refine lv_iload_n hx hb dX3_stateBehind_9 rfl (lv_at hl 2 rfl) ?_
    refine lv_iload_n hx hb dX3_stateBehind_10 rfl (lv_at hl 3 rfl) ?_
    refine k_cVi (As := [.int x1, .int x2, .int x3]) (rest := []) C (c_X3_stateBehindLetter σ2 x1 x2 x3 _ h) (cwV 3 hts gX3_stateBehind_X3_stateBehindLetter rfl rfl rfl hdX3_stateBehindLetter ⟨Nat.le_of_ble_eq_true rfl, Nat.le_of_ble_eq_true rfl⟩) hI 3 rfl rfl rfl hl.1 rfl (Nat.le_of_ble_eq_true rfl) dX3_stateBehind_11 ⟨Nat.le_of_ble_eq_true rfl, Nat.le_of_ble_eq_true rfl⟩ (fun r42 σ43 H locs h hI => ?_)
    exact k_iret hx hb hr hlocks hI h dX3_stateBehind_14
theorem inX3_read_X3 : ∀ w ∈ wsX30, w ∈ wsX3_read := fun _ h => List.mem_cons_of_mem _ (List.mem_append_left _ (List.mem_append_left _ (List.mem_append_right _ (h))))
theorem mX3_read_fieldLink_12_StillText_Reading_units_LStillText_Units : Cond.fieldLink RX3 12 "StillText$Reading" "units" "LStillText$Units;" ∈ wsX3_read := List.mem_cons_of_mem _ (List.mem_append_left _ (List.mem_append_left _ (List.mem_append_left _ (List.mem_append_left _ (List.mem_of_getElem? (i := 0) rfl)))))
theorem mX3_read_fieldLink_18_StillText_Reading_kind_I : Cond.fieldLink RX3 18 "StillText$Reading" "kind" "I" ∈ wsX3_read := List.mem_cons_of_mem _ (List.mem_append_left _ (List.mem_append_left _ (List.mem_append_left _ (List.mem_append_left _ (List.mem_of_getElem? (i := 1) rfl)))))
theorem mX3_read_fieldLink_22_StillText_Reading_place_I : Cond.fieldLink RX3 22 "StillText$Reading" "place" "I" ∈ wsX3_read := List.mem_cons_of_mem _ (List.mem_append_left _ (List.mem_append_left _ (List.mem_append_left _ (List.mem_append_left _ (List.mem_of_getElem? (i := 2) rfl)))))
set_option maxHeartbeats 4000000 in
set_option maxRecDepth 100000 in
theorem t_X3_read_1_21 {p : Program} {e : Env} {s : State} {m : MethodId} {args : Array Value} {below : List Frame} {meth : Method} {c : Code} {A : Nat → Prop}  {Q : St → Prop} (C : Cx p s m args meth c cX3_read 4 none RX3 wsX3_read) :
    ∀ (n : Nat) (σ : St) (x2 x3 : Int32) (H : Heap) (locs : List Loc) (ls : Array Slot), wpl_X3_read_1_21 Q n σ x2 x3 → Iw D (tyE cyI cyZ) NwC (ZsC tL tS) (wC cyI cyZ ad) A s H locs σ → lv_has ls 4 [(0, .ref (ad 3)), (1, .ref (ad 1)), (2, .int x2), (3, .int x3)] → W p l e r_X3_read_1 s m args below meth c H locs 0 0 (MQ below (va_Qv Q (Kq D (tyE cyI cyZ) (wC cyI cyZ ad) A) A) args s 0 0 A) (F0 m 21 ls []) := by
  obtain ⟨hx, hb, hr, hml, hown, hts, hlocks⟩ := id C
  intro n
  induction n with
  | zero =>
    intro _ _ _ _ _ _ h
    exact h.elim
  | succ n ih =>
    intro σ x2 x3 H locs ls h hI hl
    unfold wpl_X3_read_1_21 at h
    refine lv_iload_n hx hb dX3_read_21 rfl (lv_at hl 3 rfl) ?_
    refine lv_aload_n hx hb dX3_read_22 rfl (lv_at hl 1 rfl) ?_
    refine k_cVi (As := []) (rest := [.int x3]) C (c_X7_length σ  _ h) (cwV 0 hts gX3_read_X7_length rfl rfl rfl hdX7_length ⟨Nat.le_of_ble_eq_true rfl, Nat.le_of_ble_eq_true rfl⟩) hI 1 rfl rfl rfl hl.1 rfl (Nat.le_of_ble_eq_true rfl) dX3_read_23 ⟨Nat.le_of_ble_eq_true rfl, Nat.le_of_ble_eq_true rfl⟩ (fun r3 σ4 H locs h hI => ?_)
    refine lv_icmp_ge (tgt := 54) hx hb dX3_read_26 (by decide) (fun c5 => ?_) (fun c5 => ?_)
    · replace h := h.1 c5
      refine lv_aload_n hx hb dX3_read_54 rfl (lv_at hl 0 rfl) ?_
      refine k_get (q0 := 3) (k := 1) (ci := 3) (v := .int (σ4 3 1)) hx hb hts inX3_read_X3 hown hI rfl rfl (by decide) mX3_read_fieldLink_18_StillText_Reading_kind_I rfl rfl dX3_read_55 ?_
      refine lv_if_ne (tgt := 75) hx hb dX3_read_58 (by decide) (fun c6 => ?_) (fun c6 => ?_)
      · replace h := h.1 c6
        exact k_vret hx hb hr hlocks hI h dX3_read_75
      · replace h := h.2 c6
        refine lv_iload_n hx hb dX3_read_61 rfl (lv_at hl 2 rfl) ?_
        refine lv_iconst (v := nI 2) hx hb dX3_read_62 (by decide) ?_
        refine lv_icmp_ne (tgt := 75) hx hb dX3_read_63 (by decide) (fun c7 => ?_) (fun c7 => ?_)
        · replace h := h.1 c7
          exact k_vret hx hb hr hlocks hI h dX3_read_75
        · replace h := h.2 c7
          refine lv_aload_n hx hb dX3_read_66 rfl (lv_at hl 0 rfl) ?_
          refine lv_iconst (v := nI 1) hx hb dX3_read_67 (by decide) ?_
          refine lv_aload_n hx hb dX3_read_68 rfl (lv_at hl 1 rfl) ?_
          refine k_cVi (As := []) (rest := [.int (nI 1), .ref (ad 3)]) C (c_X7_length σ4  _ h) (cwV 0 hts gX3_read_X7_length rfl rfl rfl hdX7_length ⟨Nat.le_of_ble_eq_true rfl, Nat.le_of_ble_eq_true rfl⟩) hI 1 rfl rfl rfl hl.1 rfl (Nat.le_of_ble_eq_true rfl) dX3_read_69 ⟨Nat.le_of_ble_eq_true rfl, Nat.le_of_ble_eq_true rfl⟩ (fun r8 σ9 H locs h hI => ?_)
          refine k_cVv (As := [.int (nI 1), .int r8]) (rest := []) C (c_X3_refuse σ9 (nI 1) r8 _ h) (cwV 2 hts gX3_read_X3_refuse rfl rfl rfl hdX3_refuse ⟨Nat.le_of_ble_eq_true rfl, Nat.le_of_ble_eq_true rfl⟩) hI 3 rfl rfl rfl hl.1 rfl (Nat.le_of_ble_eq_true rfl) dX3_read_72 ⟨Nat.le_of_ble_eq_true rfl, Nat.le_of_ble_eq_true rfl⟩ (fun σ11 H locs h hI => ?_)
          exact k_vret hx hb hr hlocks hI h dX3_read_75
    · replace h := h.2 c5
      refine lv_aload_n hx hb dX3_read_29 rfl (lv_at hl 0 rfl) ?_
      refine k_get (q0 := 3) (k := 1) (ci := 3) (v := .int (σ4 3 1)) hx hb hts inX3_read_X3 hown hI rfl rfl (by decide) mX3_read_fieldLink_18_StillText_Reading_kind_I rfl rfl dX3_read_30 ?_
      refine lv_if_ne (tgt := 54) hx hb dX3_read_33 (by decide) (fun c12 => ?_) (fun c12 => ?_)
      · replace h := h.1 c12
        refine lv_aload_n hx hb dX3_read_54 rfl (lv_at hl 0 rfl) ?_
        refine k_get (q0 := 3) (k := 1) (ci := 3) (v := .int (σ4 3 1)) hx hb hts inX3_read_X3 hown hI rfl rfl (by decide) mX3_read_fieldLink_18_StillText_Reading_kind_I rfl rfl dX3_read_55 ?_
        refine lv_if_ne (tgt := 75) hx hb dX3_read_58 (by decide) (fun c13 => ?_) (fun c13 => ?_)
        · replace h := h.1 c13
          exact k_vret hx hb hr hlocks hI h dX3_read_75
        · replace h := h.2 c13
          refine lv_iload_n hx hb dX3_read_61 rfl (lv_at hl 2 rfl) ?_
          refine lv_iconst (v := nI 2) hx hb dX3_read_62 (by decide) ?_
          refine lv_icmp_ne (tgt := 75) hx hb dX3_read_63 (by decide) (fun c14 => ?_) (fun c14 => ?_)
          · replace h := h.1 c14
            exact k_vret hx hb hr hlocks hI h dX3_read_75
          · replace h := h.2 c14
            refine lv_aload_n hx hb dX3_read_66 rfl (lv_at hl 0 rfl) ?_
            refine lv_iconst (v := nI 1) hx hb dX3_read_67 (by decide) ?_
            refine lv_aload_n hx hb dX3_read_68 rfl (lv_at hl 1 rfl) ?_
            refine k_cVi (As := []) (rest := [.int (nI 1), .ref (ad 3)]) C (c_X7_length σ4  _ h) (cwV 0 hts gX3_read_X7_length rfl rfl rfl hdX7_length ⟨Nat.le_of_ble_eq_true rfl, Nat.le_of_ble_eq_true rfl⟩) hI 1 rfl rfl rfl hl.1 rfl (Nat.le_of_ble_eq_true rfl) dX3_read_69 ⟨Nat.le_of_ble_eq_true rfl, Nat.le_of_ble_eq_true rfl⟩ (fun r15 σ16 H locs h hI => ?_)
            refine k_cVv (As := [.int (nI 1), .int r15]) (rest := []) C (c_X3_refuse σ16 (nI 1) r15 _ h) (cwV 2 hts gX3_read_X3_refuse rfl rfl rfl hdX3_refuse ⟨Nat.le_of_ble_eq_true rfl, Nat.le_of_ble_eq_true rfl⟩) hI 3 rfl rfl rfl hl.1 rfl (Nat.le_of_ble_eq_true rfl) dX3_read_72 ⟨Nat.le_of_ble_eq_true rfl, Nat.le_of_ble_eq_true rfl⟩ (fun σ18 H locs h hI => ?_)
            exact k_vret hx hb hr hlocks hI h dX3_read_75
      · replace h := h.2 c12
        refine lv_aload_n hx hb dX3_read_36 rfl (lv_at hl 0 rfl) ?_
        refine lv_iload_n hx hb dX3_read_37 rfl (lv_at hl 2 rfl) ?_
        refine lv_aload_n hx hb dX3_read_38 rfl (lv_at hl 1 rfl) ?_
        refine lv_iload_n hx hb dX3_read_39 rfl (lv_at hl 3 rfl) ?_
        refine k_cVi (As := [.int x3]) (rest := [.int x2, .ref (ad 3)]) C (c_X7_byteAt σ4 x3 _ h) (cwV 1 hts gX3_read_X7_byteAt rfl rfl rfl hdX7_byteAt ⟨Nat.le_of_ble_eq_true rfl, Nat.le_of_ble_eq_true rfl⟩) hI 1 rfl rfl rfl hl.1 rfl (Nat.le_of_ble_eq_true rfl) dX3_read_40 ⟨Nat.le_of_ble_eq_true rfl, Nat.le_of_ble_eq_true rfl⟩ (fun r19 σ20 H locs h hI => ?_)
        refine lv_iload_n hx hb dX3_read_43 rfl (lv_at hl 3 rfl) ?_
        refine k_cVi (As := [.int x2, .int r19, .int x3]) (rest := []) C (c_X3_stateBehind σ20 x2 r19 x3 _ h) (cwV 3 hts gX3_read_X3_stateBehind rfl rfl rfl hdX3_stateBehind ⟨Nat.le_of_ble_eq_true rfl, Nat.le_of_ble_eq_true rfl⟩) hI 3 rfl rfl rfl hl.1 rfl (Nat.le_of_ble_eq_true rfl) dX3_read_44 ⟨Nat.le_of_ble_eq_true rfl, Nat.le_of_ble_eq_true rfl⟩ (fun r21 σ22 H locs h hI => ?_)
        refine lv_istore_n (lv' := [(2, .int r21), (0, .ref (ad 3)), (1, .ref (ad 1)), (3, .int x3)]) hx hb dX3_read_47 rfl hl (by decide) rfl (fun ls hl => ?_)
        refine lv_iinc (v := (x3 + nI 1)) (lv' := [(3, .int (x3 + nI 1)), (2, .int r21), (0, .ref (ad 3)), (1, .ref (ad 1))]) hx hb dX3_read_48 hl (k := 3) rfl rfl (by decide) rfl (fun ls hl => ?_)
        refine lv_goto (tgt := 21) hx hb dX3_read_51 (by decide) ?_
        exact ih _ _ _ _ _ _ h hI (lv_sub hl [2, 3, 1, 0] rfl)
set_option maxHeartbeats 4000000 in
set_option maxRecDepth 100000 in
theorem c_X3_read_1 (σ : St) (Q : St → Prop) (h : wp_X3_read_1 σ  Q) : Cv l D (tyE cyI cyZ) NwC (ZsC tL tS) (wC cyI cyZ ad) yX3_read wsX3_read r_X3_read_1 [.ref (ad 3), .ref (ad 1)] σ Q := by
  refine k_metV (cc := cX3_read) (maxL := 4) (ret := none) (by decide) rfl (Nat.le_of_ble_eq_true rfl) ?_
  intro p e s m below meth c A ls C hI hl
  obtain ⟨hx, hb, hr, hml, hown, hts, hlocks⟩ := id C
  have hl : lv_has ls 4 [(0, .ref (ad 3)), (1, .ref (ad 1))] := hl
  unfold wp_X3_read_1 at h
  refine lv_aload_n hx hb dX3_read_0 rfl (lv_at hl 0 rfl) ?_
  refine k_get (q0 := 3) (k := 0) (ci := 3) (v := .ref (ad 4)) hx hb hts inX3_read_X3 hown hI rfl rfl (by decide) mX3_read_fieldLink_12_StillText_Reading_units_LStillText_Units rfl rfl dX3_read_1 ?_
  refine k_cVv (As := []) (rest := []) C (c_X9_clear σ  _ h) (cwV 0 hts gX3_read_X9_clear rfl rfl rfl hdX9_clear ⟨Nat.le_of_ble_eq_true rfl, Nat.le_of_ble_eq_true rfl⟩) hI 4 rfl rfl rfl hl.1 rfl (Nat.le_of_ble_eq_true rfl) dX3_read_4 ⟨Nat.le_of_ble_eq_true rfl, Nat.le_of_ble_eq_true rfl⟩ (fun σ2 H locs h hI => ?_)
  refine lv_aload_n hx hb dX3_read_7 rfl (lv_at hl 0 rfl) ?_
  refine lv_iconst (v := nI 0) hx hb dX3_read_8 (by decide) ?_
  refine k_put (q0 := 3) (k := 1) (ci := 3) (v := .int (nI 0)) (σ' := up2 σ2 3 1 (nI 0)) hx hb hts inX3_read_X3 tyX3 tyX3_ok nmX3 hown hI rfl rfl (by decide) mX3_read_fieldLink_18_StillText_Reading_kind_I rfl rfl rfl rfl (Nat.le_of_ble_eq_true rfl) (wsC_3_1 _ _ _ _ _) dX3_read_9 (fun H locs hI => ?_)
  refine lv_aload_n hx hb dX3_read_12 rfl (lv_at hl 0 rfl) ?_
  refine lv_iconst (v := (-1)) hx hb dX3_read_13 (by decide) ?_
  refine k_put (q0 := 3) (k := 2) (ci := 3) (v := .int (-1)) (σ' := up2 (up2 σ2 3 1 (nI 0)) 3 2 (-1)) hx hb hts inX3_read_X3 tyX3 tyX3_ok nmX3 hown hI rfl rfl (by decide) mX3_read_fieldLink_22_StillText_Reading_place_I rfl rfl rfl rfl (Nat.le_of_ble_eq_true rfl) (wsC_3_2 _ _ _ _ _) dX3_read_14 (fun H locs hI => ?_)
  refine lv_iconst (v := nI 0) hx hb dX3_read_17 (by decide) ?_
  refine lv_istore_n (lv' := [(2, .int (nI 0)), (0, .ref (ad 3)), (1, .ref (ad 1))]) hx hb dX3_read_18 rfl hl (by decide) rfl (fun ls hl => ?_)
  refine lv_iconst (v := nI 0) hx hb dX3_read_19 (by decide) ?_
  refine lv_istore_n (lv' := [(3, .int (nI 0)), (2, .int (nI 0)), (0, .ref (ad 3)), (1, .ref (ad 1))]) hx hb dX3_read_20 rfl hl (by decide) rfl (fun ls hl => ?_)
  obtain ⟨k23, h⟩ := h
  exact t_X3_read_1_21 C  k23 _ _ _ _ _ _ h hI (lv_sub hl [2, 3, 1, 0] rfl)
theorem inX7_clear_X7 : ∀ w ∈ wsX70, w ∈ wsX7_clear := fun _ h => List.mem_cons_of_mem _ (List.mem_append_right _ (h))
theorem mX7_clear_fieldLink_15_StillText_Tape_length_I : Cond.fieldLink RX7 15 "StillText$Tape" "length" "I" ∈ wsX7_clear := List.mem_cons_of_mem _ (List.mem_append_left _ (List.mem_of_getElem? (i := 0) rfl))
set_option maxHeartbeats 4000000 in
set_option maxRecDepth 100000 in
theorem c_X7_clear (σ : St) (Q : St → Prop) (h : wp_X7_clear σ  Q) : Cv l D (tyE cyI cyZ) NwC (ZsC tL tS) (wC cyI cyZ ad) yX7_clear wsX7_clear r_X7_clear [.ref (ad 1)] σ Q := by
  refine k_metV (cc := cX7_clear) (maxL := 1) (ret := none) (by decide) rfl (Nat.le_of_ble_eq_true rfl) ?_
  intro p e s m below meth c A ls C hI hl
  obtain ⟨hx, hb, hr, hml, hown, hts, hlocks⟩ := id C
  have hl : lv_has ls 1 [(0, .ref (ad 1))] := hl
  unfold wp_X7_clear at h
  refine lv_aload_n hx hb dX7_clear_0 rfl (lv_at hl 0 rfl) ?_
  refine lv_iconst (v := nI 0) hx hb dX7_clear_1 (by decide) ?_
  refine k_put (q0 := 1) (k := 1) (ci := 7) (v := .int (nI 0)) (σ' := up2 σ 1 1 (nI 0)) hx hb hts inX7_clear_X7 tyX7 tyX7_ok nmX7 hown hI rfl rfl (by decide) mX7_clear_fieldLink_15_StillText_Tape_length_I rfl rfl rfl rfl (Nat.le_of_ble_eq_true rfl) (wsC_1_1 _ _ _ _ _) dX7_clear_2 (fun H locs hI => ?_)
  exact k_vret hx hb hr hlocks hI h dX7_clear_5
theorem inX10_readTape_X10 : ∀ w ∈ wsX100, w ∈ wsX10_readTape := fun _ h => List.mem_cons_of_mem _ (List.mem_append_left _ (List.mem_append_left _ (List.mem_append_left _ (List.mem_append_right _ (h)))))
theorem mX10_readTape_fieldLink_19_StillText_reading_LStillText_Reading : Cond.fieldLink RX10 19 "StillText" "reading" "LStillText$Reading;" ∈ wsX10_readTape := List.mem_cons_of_mem _ (List.mem_append_left _ (List.mem_append_left _ (List.mem_append_left _ (List.mem_append_left _ (List.mem_append_left _ (List.mem_of_getElem? (i := 0) rfl))))))
theorem mX10_readTape_fieldLink_10_StillText_tape_LStillText_Tape : Cond.fieldLink RX10 10 "StillText" "tape" "LStillText$Tape;" ∈ wsX10_readTape := List.mem_cons_of_mem _ (List.mem_append_left _ (List.mem_append_left _ (List.mem_append_left _ (List.mem_append_left _ (List.mem_append_left _ (List.mem_of_getElem? (i := 1) rfl))))))
set_option maxHeartbeats 4000000 in
set_option maxRecDepth 100000 in
theorem c_X10_readTape (σ : St) (Q : St → Prop) (h : wp_X10_readTape σ  Q) : Cv l D (tyE cyI cyZ) NwC (ZsC tL tS) (wC cyI cyZ ad) yX10_readTape wsX10_readTape r_X10_readTape [.ref (ad 0)] σ Q := by
  refine k_metV (cc := cX10_readTape) (maxL := 1) (ret := none) (by decide) rfl (Nat.le_of_ble_eq_true rfl) ?_
  intro p e s m below meth c A ls C hI hl
  obtain ⟨hx, hb, hr, hml, hown, hts, hlocks⟩ := id C
  have hl : lv_has ls 1 [(0, .ref (ad 0))] := hl
  unfold wp_X10_readTape at h
  refine lv_aload_n hx hb dX10_readTape_0 rfl (lv_at hl 0 rfl) ?_
  refine k_get (q0 := 0) (k := 1) (ci := 10) (v := .ref (ad 3)) hx hb hts inX10_readTape_X10 hown hI rfl rfl (by decide) mX10_readTape_fieldLink_19_StillText_reading_LStillText_Reading rfl rfl dX10_readTape_1 ?_
  refine lv_aload_n hx hb dX10_readTape_4 rfl (lv_at hl 0 rfl) ?_
  refine k_get (q0 := 0) (k := 0) (ci := 10) (v := .ref (ad 1)) hx hb hts inX10_readTape_X10 hown hI rfl rfl (by decide) mX10_readTape_fieldLink_10_StillText_tape_LStillText_Tape rfl rfl dX10_readTape_5 ?_
  refine k_cVv (As := [.ref (ad 1)]) (rest := []) C (c_X3_read_1 σ  _ h) (cwV 1 hts gX10_readTape_X3_read rfl rfl rfl hdX3_read ⟨Nat.le_of_ble_eq_true rfl, Nat.le_of_ble_eq_true rfl⟩) hI 3 rfl rfl rfl hl.1 rfl (Nat.le_of_ble_eq_true rfl) dX10_readTape_8 ⟨Nat.le_of_ble_eq_true rfl, Nat.le_of_ble_eq_true rfl⟩ (fun σ2 H locs h hI => ?_)
  refine lv_aload_n hx hb dX10_readTape_11 rfl (lv_at hl 0 rfl) ?_
  refine k_get (q0 := 0) (k := 0) (ci := 10) (v := .ref (ad 1)) hx hb hts inX10_readTape_X10 hown hI rfl rfl (by decide) mX10_readTape_fieldLink_10_StillText_tape_LStillText_Tape rfl rfl dX10_readTape_12 ?_
  refine k_cVv (As := []) (rest := []) C (c_X7_clear σ2  _ h) (cwV 0 hts gX10_readTape_X7_clear rfl rfl rfl hdX7_clear ⟨Nat.le_of_ble_eq_true rfl, Nat.le_of_ble_eq_true rfl⟩) hI 1 rfl rfl rfl hl.1 rfl (Nat.le_of_ble_eq_true rfl) dX10_readTape_15 ⟨Nat.le_of_ble_eq_true rfl, Nat.le_of_ble_eq_true rfl⟩ (fun σ4 H locs h hI => ?_)
  exact k_vret hx hb hr hlocks hI h dX10_readTape_18
theorem inX3_hasFault_X3 : ∀ w ∈ wsX30, w ∈ wsX3_hasFault := fun _ h => List.mem_cons_of_mem _ (List.mem_append_right _ (h))
theorem mX3_hasFault_fieldLink_18_StillText_Reading_kind_I : Cond.fieldLink RX3 18 "StillText$Reading" "kind" "I" ∈ wsX3_hasFault := List.mem_cons_of_mem _ (List.mem_append_left _ (List.mem_of_getElem? (i := 0) rfl))
set_option maxHeartbeats 4000000 in
set_option maxRecDepth 100000 in
theorem c_X3_hasFault (σ : St) (Q : Int32 → St → Prop) (h : wp_X3_hasFault σ  Q) : Ci l D (tyE cyI cyZ) NwC (ZsC tL tS) (wC cyI cyZ ad) yX3_hasFault wsX3_hasFault r_X3_hasFault [.ref (ad 3)] σ Q := by
  refine k_metI (cc := cX3_hasFault) (maxL := 1) (ret := (some .boolean)) (by decide) rfl (Nat.le_of_ble_eq_true rfl) ?_
  intro p e s m below meth c A ls C hI hl
  obtain ⟨hx, hb, hr, hml, hown, hts, hlocks⟩ := id C
  have hl : lv_has ls 1 [(0, .ref (ad 3))] := hl
  unfold wp_X3_hasFault at h
  refine lv_aload_n hx hb dX3_hasFault_0 rfl (lv_at hl 0 rfl) ?_
  refine k_get (q0 := 3) (k := 1) (ci := 3) (v := .int (σ 3 1)) hx hb hts inX3_hasFault_X3 hown hI rfl rfl (by decide) mX3_hasFault_fieldLink_18_StillText_Reading_kind_I rfl rfl dX3_hasFault_1 ?_
  refine lv_if_eq (tgt := 11) hx hb dX3_hasFault_4 (by decide) (fun c1 => ?_) (fun c1 => ?_)
  · replace h := h.1 c1
    refine lv_iconst (v := nI 0) hx hb dX3_hasFault_11 (by decide) ?_
    exact k_zret hx hb hr hlocks hI (Or.inl rfl) h dX3_hasFault_12
  · replace h := h.2 c1
    refine lv_iconst (v := nI 1) hx hb dX3_hasFault_7 (by decide) ?_
    refine lv_goto (tgt := 12) hx hb dX3_hasFault_8 (by decide) ?_
    exact k_zret hx hb hr hlocks hI (Or.inr rfl) h dX3_hasFault_12
theorem inX3_units_X3 : ∀ w ∈ wsX30, w ∈ wsX3_units := fun _ h => List.mem_cons_of_mem _ (List.mem_append_right _ (h))
theorem mX3_units_fieldLink_12_StillText_Reading_units_LStillText_Units : Cond.fieldLink RX3 12 "StillText$Reading" "units" "LStillText$Units;" ∈ wsX3_units := List.mem_cons_of_mem _ (List.mem_append_left _ (List.mem_of_getElem? (i := 0) rfl))
set_option maxHeartbeats 4000000 in
set_option maxRecDepth 100000 in
theorem c_X3_units (σ : St) (Q : St → Prop) (h : wp_X3_units σ  Q) : Cr l D (tyE cyI cyZ) NwC (ZsC tL tS) (wC cyI cyZ ad) yX3_units wsX3_units r_X3_units [.ref (ad 3)] (ad 4) σ Q := by
  refine k_metR (cc := cX3_units) (maxL := 1) (ret := (some (.object "StillText$Units"))) (by decide) rfl (Nat.le_of_ble_eq_true rfl) ?_
  intro p e s m below meth c A ls C hI hl
  obtain ⟨hx, hb, hr, hml, hown, hts, hlocks⟩ := id C
  have hl : lv_has ls 1 [(0, .ref (ad 3))] := hl
  unfold wp_X3_units at h
  refine lv_aload_n hx hb dX3_units_0 rfl (lv_at hl 0 rfl) ?_
  refine k_get (q0 := 3) (k := 0) (ci := 3) (v := .ref (ad 4)) hx hb hts inX3_units_X3 hown hI rfl rfl (by decide) mX3_units_fieldLink_12_StillText_Reading_units_LStillText_Units rfl rfl dX3_units_1 ?_
  exact k_aret hx hb hr hlocks hI h dX3_units_4
theorem inX9_copyUnit_X9 : ∀ w ∈ wsX90, w ∈ wsX9_copyUnit := fun _ h => List.mem_cons_of_mem _ (List.mem_append_right _ (h))
theorem mX9_copyUnit_fieldLink_9_StillText_Units_letters_I : Cond.fieldLink RX9 9 "StillText$Units" "letters" "[I" ∈ wsX9_copyUnit := List.mem_cons_of_mem _ (List.mem_append_left _ (List.mem_of_getElem? (i := 0) rfl))
theorem mX9_copyUnit_methodLink_42_arraycopyName : Cond.methodLink RX9 42 arraycopyName ∈ wsX9_copyUnit := List.mem_cons_of_mem _ (List.mem_append_left _ (List.mem_of_getElem? (i := 1) rfl))
theorem mX9_copyUnit_native_arraycopyName : Cond.native arraycopyName ∈ wsX9_copyUnit := List.mem_cons_of_mem _ (List.mem_append_left _ (List.mem_of_getElem? (i := 2) rfl))
theorem mX9_copyUnit_static_arraycopyName : Cond.static arraycopyName ∈ wsX9_copyUnit := List.mem_cons_of_mem _ (List.mem_append_left _ (List.mem_of_getElem? (i := 3) rfl))
theorem mX9_copyUnit_initialized_java_lang_System : Cond.initialized "java/lang/System" ∈ wsX9_copyUnit := List.mem_cons_of_mem _ (List.mem_append_left _ (List.mem_of_getElem? (i := 4) rfl))
theorem mX9_copyUnit_fieldLink_15_StillText_Units_sizes_I : Cond.fieldLink RX9 15 "StillText$Units" "sizes" "[I" ∈ wsX9_copyUnit := List.mem_cons_of_mem _ (List.mem_append_left _ (List.mem_of_getElem? (i := 5) rfl))
theorem mX9_copyUnit_fieldLink_18_StillText_Units_behind_I : Cond.fieldLink RX9 18 "StillText$Units" "behind" "[I" ∈ wsX9_copyUnit := List.mem_cons_of_mem _ (List.mem_append_left _ (List.mem_of_getElem? (i := 6) rfl))
set_option maxHeartbeats 4000000 in
set_option maxRecDepth 100000 in
theorem c_X9_copyUnit_4 (σ : St) (x2 x3 : Int32) (Q : St → Prop) (h : wp_X9_copyUnit_4 σ x2 x3 Q) : Cv l D (tyE cyI cyZ) NwC (ZsC tL tS) (wC cyI cyZ ad) yX9_copyUnit wsX9_copyUnit r_X9_copyUnit_4 [.ref (ad 8), .ref (ad 4), .int x2, .int x3] σ Q := by
  refine k_metV (cc := cX9_copyUnit) (maxL := 4) (ret := none) (by decide) rfl (Nat.le_of_ble_eq_true rfl) ?_
  intro p e s m below meth c A ls C hI hl
  obtain ⟨hx, hb, hr, hml, hown, hts, hlocks⟩ := id C
  have hl : lv_has ls 4 [(0, .ref (ad 8)), (1, .ref (ad 4)), (2, .int x2), (3, .int x3)] := hl
  unfold wp_X9_copyUnit_4 at h
  refine lv_aload_n hx hb dX9_copyUnit_0 rfl (lv_at hl 1 rfl) ?_
  refine k_get (q0 := 4) (k := 0) (ci := 9) (v := .ref (ad 5)) hx hb hts inX9_copyUnit_X9 hown hI rfl rfl (by decide) mX9_copyUnit_fieldLink_9_StillText_Units_letters_I rfl rfl dX9_copyUnit_1 ?_
  refine lv_iload_n hx hb dX9_copyUnit_4 rfl (lv_at hl 2 rfl) ?_
  refine lv_bipush (v := nI 20) hx hb dX9_copyUnit_5 (by decide) ?_
  refine lv_imul hx hb dX9_copyUnit_7 ?_
  refine lv_aload_n hx hb dX9_copyUnit_8 rfl (lv_at hl 0 rfl) ?_
  refine k_get (q0 := 8) (k := 0) (ci := 9) (v := .ref (ad 9)) hx hb hts inX9_copyUnit_X9 hown hI rfl rfl (by decide) mX9_copyUnit_fieldLink_9_StillText_Units_letters_I rfl rfl dX9_copyUnit_9 ?_
  refine lv_iload_n hx hb dX9_copyUnit_12 rfl (lv_at hl 3 rfl) ?_
  refine lv_bipush (v := nI 20) hx hb dX9_copyUnit_13 (by decide) ?_
  refine lv_imul hx hb dX9_copyUnit_15 ?_
  refine lv_bipush (v := nI 20) hx hb dX9_copyUnit_16 (by decide) ?_
  refine k_copy (q0 := 5) (q1 := 9) (t0 := 0) (n0 := 1600) (n1 := 1600) (f := σ 5) (g := σ 9) (σ' := upA σ 9 (va_cpy (σ 5) (σ 9) (x2 * (nI 20)).toNatClampNeg (x3 * (nI 20)).toNatClampNeg (nI 20).toNatClampNeg)) C hl.1 mX9_copyUnit_methodLink_42_arraycopyName mX9_copyUnit_native_arraycopyName mX9_copyUnit_static_arraycopyName mX9_copyUnit_initialized_java_lang_System hI rfl rfl rfl rfl h.1 h.2.1 (by decide) h.2.2.1 h.2.2.2.1 (Nat.le_of_ble_eq_true rfl) (Nat.le_of_ble_eq_true rfl) (wsAC_9 _ _ _ _ _) dX9_copyUnit_18 (fun H locs hI => ?_)
  replace h := h.2.2.2.2
  refine lv_aload_n hx hb dX9_copyUnit_21 rfl (lv_at hl 0 rfl) ?_
  refine k_get (q0 := 8) (k := 1) (ci := 9) (v := .ref (ad 10)) hx hb hts inX9_copyUnit_X9 hown hI rfl rfl (by decide) mX9_copyUnit_fieldLink_15_StillText_Units_sizes_I rfl rfl dX9_copyUnit_22 ?_
  refine lv_iload_n hx hb dX9_copyUnit_25 rfl (lv_at hl 3 rfl) ?_
  refine lv_aload_n hx hb dX9_copyUnit_26 rfl (lv_at hl 1 rfl) ?_
  refine k_get (q0 := 4) (k := 1) (ci := 9) (v := .ref (ad 6)) hx hb hts inX9_copyUnit_X9 hown hI rfl rfl (by decide) mX9_copyUnit_fieldLink_15_StillText_Units_sizes_I rfl rfl dX9_copyUnit_27 ?_
  refine lv_iload_n hx hb dX9_copyUnit_30 rfl (lv_at hl 2 rfl) ?_
  refine k_iald (q0 := 6) (t0 := 0) (n := 80) (f := σ 6) hx hb hI rfl rfl h.1 dX9_copyUnit_31 ?_
  replace h := h.2
  refine k_iast (q0 := 10) (t0 := 0) (n := 80) (σ' := up2 (upA σ 9 (va_cpy (σ 5) (σ 9) (x2 * (nI 20)).toNatClampNeg (x3 * (nI 20)).toNatClampNeg (nI 20).toNatClampNeg)) 10 x3.toNatClampNeg (σ 6 x2.toNatClampNeg)) hx hb hI rfl rfl h.1 (wsC_10 _ _ _ _ _ _) dX9_copyUnit_32 (fun H locs hI => ?_)
  replace h := h.2
  refine lv_aload_n hx hb dX9_copyUnit_33 rfl (lv_at hl 0 rfl) ?_
  refine k_get (q0 := 8) (k := 2) (ci := 9) (v := .ref (ad 11)) hx hb hts inX9_copyUnit_X9 hown hI rfl rfl (by decide) mX9_copyUnit_fieldLink_18_StillText_Units_behind_I rfl rfl dX9_copyUnit_34 ?_
  refine lv_iload_n hx hb dX9_copyUnit_37 rfl (lv_at hl 3 rfl) ?_
  refine lv_aload_n hx hb dX9_copyUnit_38 rfl (lv_at hl 1 rfl) ?_
  refine k_get (q0 := 4) (k := 2) (ci := 9) (v := .ref (ad 7)) hx hb hts inX9_copyUnit_X9 hown hI rfl rfl (by decide) mX9_copyUnit_fieldLink_18_StillText_Units_behind_I rfl rfl dX9_copyUnit_39 ?_
  refine lv_iload_n hx hb dX9_copyUnit_42 rfl (lv_at hl 2 rfl) ?_
  refine k_iald (q0 := 7) (t0 := 0) (n := 80) (f := σ 7) hx hb hI rfl rfl h.1 dX9_copyUnit_43 ?_
  replace h := h.2
  refine k_iast (q0 := 11) (t0 := 0) (n := 80) (σ' := up2 (up2 (upA σ 9 (va_cpy (σ 5) (σ 9) (x2 * (nI 20)).toNatClampNeg (x3 * (nI 20)).toNatClampNeg (nI 20).toNatClampNeg)) 10 x3.toNatClampNeg (σ 6 x2.toNatClampNeg)) 11 x3.toNatClampNeg (σ 7 x2.toNatClampNeg)) hx hb hI rfl rfl h.1 (wsC_11 _ _ _ _ _ _) dX9_copyUnit_44 (fun H locs hI => ?_)
  replace h := h.2
  exact k_vret hx hb hr hlocks hI h dX9_copyUnit_45
theorem inX9_takeAll_X9 : ∀ w ∈ wsX90, w ∈ wsX9_takeAll := fun _ h => List.mem_cons_of_mem _ (List.mem_append_right _ (h))
theorem mX9_takeAll_fieldLink_21_StillText_Units_count_I : Cond.fieldLink RX9 21 "StillText$Units" "count" "I" ∈ wsX9_takeAll := List.mem_cons_of_mem _ (List.mem_append_left _ (List.mem_of_getElem? (i := 0) rfl))
set_option maxHeartbeats 4000000 in
set_option maxRecDepth 100000 in
theorem t_X9_takeAll_4_2 {p : Program} {e : Env} {s : State} {m : MethodId} {args : Array Value} {below : List Frame} {meth : Method} {c : Code} {A : Nat → Prop}  {Q : St → Prop} (C : Cx p s m args meth c cX9_takeAll 3 none RX9 wsX9_takeAll) :
    ∀ (n : Nat) (σ : St) (x2 : Int32) (H : Heap) (locs : List Loc) (ls : Array Slot), wpl_X9_takeAll_4_2 Q n σ x2 → Iw D (tyE cyI cyZ) NwC (ZsC tL tS) (wC cyI cyZ ad) A s H locs σ → lv_has ls 3 [(0, .ref (ad 8)), (1, .ref (ad 4)), (2, .int x2)] → W p l e r_X9_takeAll_4 s m args below meth c H locs 0 0 (MQ below (va_Qv Q (Kq D (tyE cyI cyZ) (wC cyI cyZ ad) A) A) args s 0 0 A) (F0 m 2 ls []) := by
  obtain ⟨hx, hb, hr, hml, hown, hts, hlocks⟩ := id C
  intro n
  induction n with
  | zero =>
    intro _ _ _ _ _ h
    exact h.elim
  | succ n ih =>
    intro σ x2 H locs ls h hI hl
    unfold wpl_X9_takeAll_4_2 at h
    refine lv_iload_n hx hb dX9_takeAll_2 rfl (lv_at hl 2 rfl) ?_
    refine lv_aload_n hx hb dX9_takeAll_3 rfl (lv_at hl 1 rfl) ?_
    refine k_get (q0 := 4) (k := 3) (ci := 9) (v := .int (σ 4 3)) hx hb hts inX9_takeAll_X9 hown hI rfl rfl (by decide) mX9_takeAll_fieldLink_21_StillText_Units_count_I rfl rfl dX9_takeAll_4 ?_
    refine lv_icmp_ge (tgt := 23) hx hb dX9_takeAll_7 (by decide) (fun c1 => ?_) (fun c1 => ?_)
    · replace h := h.1 c1
      refine lv_aload_n hx hb dX9_takeAll_23 rfl (lv_at hl 0 rfl) ?_
      refine lv_aload_n hx hb dX9_takeAll_24 rfl (lv_at hl 1 rfl) ?_
      refine k_get (q0 := 4) (k := 3) (ci := 9) (v := .int (σ 4 3)) hx hb hts inX9_takeAll_X9 hown hI rfl rfl (by decide) mX9_takeAll_fieldLink_21_StillText_Units_count_I rfl rfl dX9_takeAll_25 ?_
      refine k_put (q0 := 8) (k := 3) (ci := 9) (v := .int (σ 4 3)) (σ' := up2 σ 8 3 (σ 4 3)) hx hb hts inX9_takeAll_X9 tyX9 tyX9_ok nmX9 hown hI rfl rfl (by decide) mX9_takeAll_fieldLink_21_StillText_Units_count_I rfl rfl rfl rfl (Nat.le_of_ble_eq_true rfl) (wsC_8_3 _ _ _ _ _) dX9_takeAll_28 (fun H locs hI => ?_)
      exact k_vret hx hb hr hlocks hI h dX9_takeAll_31
    · replace h := h.2 c1
      refine lv_aload_n hx hb dX9_takeAll_10 rfl (lv_at hl 0 rfl) ?_
      refine lv_aload_n hx hb dX9_takeAll_11 rfl (lv_at hl 1 rfl) ?_
      refine lv_iload_n hx hb dX9_takeAll_12 rfl (lv_at hl 2 rfl) ?_
      refine lv_iload_n hx hb dX9_takeAll_13 rfl (lv_at hl 2 rfl) ?_
      refine k_cVv (As := [.ref (ad 4), .int x2, .int x2]) (rest := []) C (c_X9_copyUnit_4 σ x2 x2 _ h) (cwV 3 hts gX9_takeAll_X9_copyUnit rfl rfl rfl hdX9_copyUnit ⟨Nat.le_of_ble_eq_true rfl, Nat.le_of_ble_eq_true rfl⟩) hI 8 rfl rfl rfl hl.1 rfl (Nat.le_of_ble_eq_true rfl) dX9_takeAll_14 ⟨Nat.le_of_ble_eq_true rfl, Nat.le_of_ble_eq_true rfl⟩ (fun σ3 H locs h hI => ?_)
      refine lv_iinc (v := (x2 + nI 1)) (lv' := [(2, .int (x2 + nI 1)), (0, .ref (ad 8)), (1, .ref (ad 4))]) hx hb dX9_takeAll_17 hl (k := 2) rfl rfl (by decide) rfl (fun ls hl => ?_)
      refine lv_goto (tgt := 2) hx hb dX9_takeAll_20 (by decide) ?_
      exact ih _ _ _ _ _ h hI (lv_sub hl [1, 2, 0] rfl)
set_option maxHeartbeats 4000000 in
set_option maxRecDepth 100000 in
theorem c_X9_takeAll_4 (σ : St) (Q : St → Prop) (h : wp_X9_takeAll_4 σ  Q) : Cv l D (tyE cyI cyZ) NwC (ZsC tL tS) (wC cyI cyZ ad) yX9_takeAll wsX9_takeAll r_X9_takeAll_4 [.ref (ad 8), .ref (ad 4)] σ Q := by
  refine k_metV (cc := cX9_takeAll) (maxL := 3) (ret := none) (by decide) rfl (Nat.le_of_ble_eq_true rfl) ?_
  intro p e s m below meth c A ls C hI hl
  obtain ⟨hx, hb, hr, hml, hown, hts, hlocks⟩ := id C
  have hl : lv_has ls 3 [(0, .ref (ad 8)), (1, .ref (ad 4))] := hl
  unfold wp_X9_takeAll_4 at h
  refine lv_iconst (v := nI 0) hx hb dX9_takeAll_0 (by decide) ?_
  refine lv_istore_n (lv' := [(2, .int (nI 0)), (0, .ref (ad 8)), (1, .ref (ad 4))]) hx hb dX9_takeAll_1 rfl hl (by decide) rfl (fun ls hl => ?_)
  obtain ⟨k4, h⟩ := h
  exact t_X9_takeAll_4_2 C  k4 _ _ _ _ _ h hI (lv_sub hl [1, 2, 0] rfl)
theorem inX5_drop_X5 : ∀ w ∈ wsX50, w ∈ wsX5_drop := fun _ h => List.mem_cons_of_mem _ (List.mem_append_right _ (h))
theorem mX5_drop_fieldLink_25_StillText_Setting_there_Z : Cond.fieldLink RX5 25 "StillText$Setting" "there" "Z" ∈ wsX5_drop := List.mem_cons_of_mem _ (List.mem_append_left _ (List.mem_of_getElem? (i := 0) rfl))
set_option maxHeartbeats 4000000 in
set_option maxRecDepth 100000 in
theorem c_X5_drop (σ : St) (Q : St → Prop) (h : wp_X5_drop σ  Q) : Cv l D (tyE cyI cyZ) NwC (ZsC tL tS) (wC cyI cyZ ad) yX5_drop wsX5_drop r_X5_drop [.ref (ad 14)] σ Q := by
  refine k_metV (cc := cX5_drop) (maxL := 1) (ret := none) (by decide) rfl (Nat.le_of_ble_eq_true rfl) ?_
  intro p e s m below meth c A ls C hI hl
  obtain ⟨hx, hb, hr, hml, hown, hts, hlocks⟩ := id C
  have hl : lv_has ls 1 [(0, .ref (ad 14))] := hl
  unfold wp_X5_drop at h
  refine lv_aload_n hx hb dX5_drop_0 rfl (lv_at hl 0 rfl) ?_
  refine lv_iconst (v := nI 0) hx hb dX5_drop_1 (by decide) ?_
  refine k_put (q0 := 14) (k := 4) (ci := 5) (v := .int (nI 0)) (σ' := up2 σ 14 4 (nI 0)) hx hb hts inX5_drop_X5 tyX5 tyX5_ok nmX5 hown hI rfl rfl (by decide) mX5_drop_fieldLink_25_StillText_Setting_there_Z rfl rfl rfl rfl (Nat.le_of_ble_eq_true rfl) (wsC_14_4 _ _ _ _ _) dX5_drop_2 (fun H locs hI => ?_)
  exact k_vret hx hb hr hlocks hI h dX5_drop_5
theorem inX0_drop_X0 : ∀ w ∈ wsX00, w ∈ wsX0_drop := fun _ h => List.mem_cons_of_mem _ (List.mem_append_right _ (h))
theorem mX0_drop_fieldLink_18_StillText_Marks_count_I : Cond.fieldLink RX0 18 "StillText$Marks" "count" "I" ∈ wsX0_drop := List.mem_cons_of_mem _ (List.mem_append_left _ (List.mem_of_getElem? (i := 0) rfl))
set_option maxHeartbeats 4000000 in
set_option maxRecDepth 100000 in
theorem c_X0_drop (σ : St) (Q : St → Prop) (h : wp_X0_drop σ  Q) : Cv l D (tyE cyI cyZ) NwC (ZsC tL tS) (wC cyI cyZ ad) yX0_drop wsX0_drop r_X0_drop [.ref (ad 27)] σ Q := by
  refine k_metV (cc := cX0_drop) (maxL := 1) (ret := none) (by decide) rfl (Nat.le_of_ble_eq_true rfl) ?_
  intro p e s m below meth c A ls C hI hl
  obtain ⟨hx, hb, hr, hml, hown, hts, hlocks⟩ := id C
  have hl : lv_has ls 1 [(0, .ref (ad 27))] := hl
  unfold wp_X0_drop at h
  refine lv_aload_n hx hb dX0_drop_0 rfl (lv_at hl 0 rfl) ?_
  refine lv_iconst (v := nI 0) hx hb dX0_drop_1 (by decide) ?_
  refine k_put (q0 := 27) (k := 2) (ci := 0) (v := .int (nI 0)) (σ' := up2 σ 27 2 (nI 0)) hx hb hts inX0_drop_X0 tyX0 tyX0_ok nmX0 hown hI rfl rfl (by decide) mX0_drop_fieldLink_18_StillText_Marks_count_I rfl rfl rfl rfl (Nat.le_of_ble_eq_true rfl) (wsC_27_2 _ _ _ _ _) dX0_drop_2 (fun H locs hI => ?_)
  exact k_vret hx hb hr hlocks hI h dX0_drop_5
theorem inX9_count_X9 : ∀ w ∈ wsX90, w ∈ wsX9_count := fun _ h => List.mem_cons_of_mem _ (List.mem_append_right _ (h))
theorem mX9_count_fieldLink_21_StillText_Units_count_I : Cond.fieldLink RX9 21 "StillText$Units" "count" "I" ∈ wsX9_count := List.mem_cons_of_mem _ (List.mem_append_left _ (List.mem_of_getElem? (i := 0) rfl))
set_option maxHeartbeats 4000000 in
set_option maxRecDepth 100000 in
theorem c_X9_count_at8 (σ : St) (Q : Int32 → St → Prop) (h : wp_X9_count_at8 σ  Q) : Ci l D (tyE cyI cyZ) NwC (ZsC tL tS) (wC cyI cyZ ad) yX9_count wsX9_count r_X9_count_at8 [.ref (ad 8)] σ Q := by
  refine k_metI (cc := cX9_count) (maxL := 1) (ret := (some .int)) (by decide) rfl (Nat.le_of_ble_eq_true rfl) ?_
  intro p e s m below meth c A ls C hI hl
  obtain ⟨hx, hb, hr, hml, hown, hts, hlocks⟩ := id C
  have hl : lv_has ls 1 [(0, .ref (ad 8))] := hl
  unfold wp_X9_count_at8 at h
  refine lv_aload_n hx hb dX9_count_0 rfl (lv_at hl 0 rfl) ?_
  refine k_get (q0 := 8) (k := 3) (ci := 9) (v := .int (σ 8 3)) hx hb hts inX9_count_X9 hown hI rfl rfl (by decide) mX9_count_fieldLink_21_StillText_Units_count_I rfl rfl dX9_count_1 ?_
  exact k_iret hx hb hr hlocks hI h dX9_count_4
theorem inX10_text_X10 : ∀ w ∈ wsX100, w ∈ wsX10_text := fun _ h => List.mem_cons_of_mem _ (List.mem_append_left _ (List.mem_append_left _ (List.mem_append_left _ (List.mem_append_left _ (List.mem_append_left _ (List.mem_append_right _ (h)))))))
theorem mX10_text_fieldLink_19_StillText_reading_LStillText_Reading : Cond.fieldLink RX10 19 "StillText" "reading" "LStillText$Reading;" ∈ wsX10_text := List.mem_cons_of_mem _ (List.mem_append_left _ (List.mem_append_left _ (List.mem_append_left _ (List.mem_append_left _ (List.mem_append_left _ (List.mem_append_left _ (List.mem_append_left _ (List.mem_of_getElem? (i := 0) rfl))))))))
theorem mX10_text_fieldLink_26_StillText_units_LStillText_Units : Cond.fieldLink RX10 26 "StillText" "units" "LStillText$Units;" ∈ wsX10_text := List.mem_cons_of_mem _ (List.mem_append_left _ (List.mem_append_left _ (List.mem_append_left _ (List.mem_append_left _ (List.mem_append_left _ (List.mem_append_left _ (List.mem_append_left _ (List.mem_of_getElem? (i := 1) rfl))))))))
theorem mX10_text_fieldLink_40_StillText_setting_LStillText_Setting : Cond.fieldLink RX10 40 "StillText" "setting" "LStillText$Setting;" ∈ wsX10_text := List.mem_cons_of_mem _ (List.mem_append_left _ (List.mem_append_left _ (List.mem_append_left _ (List.mem_append_left _ (List.mem_append_left _ (List.mem_append_left _ (List.mem_append_left _ (List.mem_of_getElem? (i := 2) rfl))))))))
theorem mX10_text_fieldLink_67_StillText_marks_LStillText_Marks : Cond.fieldLink RX10 67 "StillText" "marks" "LStillText$Marks;" ∈ wsX10_text := List.mem_cons_of_mem _ (List.mem_append_left _ (List.mem_append_left _ (List.mem_append_left _ (List.mem_append_left _ (List.mem_append_left _ (List.mem_append_left _ (List.mem_append_left _ (List.mem_of_getElem? (i := 3) rfl))))))))
set_option maxHeartbeats 4000000 in
set_option maxRecDepth 100000 in
theorem c_X10_text (σ : St) (Q : Int32 → St → Prop) (h : wp_X10_text σ  Q) : Ci l D (tyE cyI cyZ) NwC (ZsC tL tS) (wC cyI cyZ ad) yX10_text wsX10_text r_X10_text [.ref (ad 0)] σ Q := by
  refine k_metI (cc := cX10_text) (maxL := 1) (ret := (some .int)) (by decide) rfl (Nat.le_of_ble_eq_true rfl) ?_
  intro p e s m below meth c A ls C hI hl
  obtain ⟨hx, hb, hr, hml, hown, hts, hlocks⟩ := id C
  have hl : lv_has ls 1 [(0, .ref (ad 0))] := hl
  unfold wp_X10_text at h
  refine lv_aload_n hx hb dX10_text_0 rfl (lv_at hl 0 rfl) ?_
  refine k_cVv (As := []) (rest := []) C (c_X10_readTape σ  _ h) (cwV 0 hts gX10_text_X10_readTape rfl rfl rfl hdX10_readTape ⟨Nat.le_of_ble_eq_true rfl, Nat.le_of_ble_eq_true rfl⟩) hI 0 rfl rfl rfl hl.1 rfl (Nat.le_of_ble_eq_true rfl) dX10_text_1 ⟨Nat.le_of_ble_eq_true rfl, Nat.le_of_ble_eq_true rfl⟩ (fun σ2 H locs h hI => ?_)
  refine lv_aload_n hx hb dX10_text_4 rfl (lv_at hl 0 rfl) ?_
  refine k_get (q0 := 0) (k := 1) (ci := 10) (v := .ref (ad 3)) hx hb hts inX10_text_X10 hown hI rfl rfl (by decide) mX10_text_fieldLink_19_StillText_reading_LStillText_Reading rfl rfl dX10_text_5 ?_
  refine k_cVi (As := []) (rest := []) C (c_X3_hasFault σ2  _ h) (cwV 0 hts gX10_text_X3_hasFault rfl rfl rfl hdX3_hasFault ⟨Nat.le_of_ble_eq_true rfl, Nat.le_of_ble_eq_true rfl⟩) hI 3 rfl rfl rfl hl.1 rfl (Nat.le_of_ble_eq_true rfl) dX10_text_8 ⟨Nat.le_of_ble_eq_true rfl, Nat.le_of_ble_eq_true rfl⟩ (fun r3 σ4 H locs h hI => ?_)
  refine lv_if_eq (tgt := 16) hx hb dX10_text_11 (by decide) (fun c5 => ?_) (fun c5 => ?_)
  · replace h := h.1 c5
    refine lv_aload_n hx hb dX10_text_16 rfl (lv_at hl 0 rfl) ?_
    refine k_get (q0 := 0) (k := 2) (ci := 10) (v := .ref (ad 8)) hx hb hts inX10_text_X10 hown hI rfl rfl (by decide) mX10_text_fieldLink_26_StillText_units_LStillText_Units rfl rfl dX10_text_17 ?_
    refine lv_aload_n hx hb dX10_text_20 rfl (lv_at hl 0 rfl) ?_
    refine k_get (q0 := 0) (k := 1) (ci := 10) (v := .ref (ad 3)) hx hb hts inX10_text_X10 hown hI rfl rfl (by decide) mX10_text_fieldLink_19_StillText_reading_LStillText_Reading rfl rfl dX10_text_21 ?_
    refine k_cVr (As := []) (rest := [.ref (ad 8)]) C (c_X3_units σ4  _ h) (cwV 0 hts gX10_text_X3_units rfl rfl rfl hdX3_units ⟨Nat.le_of_ble_eq_true rfl, Nat.le_of_ble_eq_true rfl⟩) hI 3 rfl rfl rfl hl.1 rfl (Nat.le_of_ble_eq_true rfl) dX10_text_24 ⟨Nat.le_of_ble_eq_true rfl, Nat.le_of_ble_eq_true rfl⟩ (fun σ7 H locs h hI => ?_)
    refine k_cVv (As := [.ref (ad 4)]) (rest := []) C (c_X9_takeAll_4 σ7  _ h) (cwV 1 hts gX10_text_X9_takeAll rfl rfl rfl hdX9_takeAll ⟨Nat.le_of_ble_eq_true rfl, Nat.le_of_ble_eq_true rfl⟩) hI 8 rfl rfl rfl hl.1 rfl (Nat.le_of_ble_eq_true rfl) dX10_text_27 ⟨Nat.le_of_ble_eq_true rfl, Nat.le_of_ble_eq_true rfl⟩ (fun σ9 H locs h hI => ?_)
    refine lv_aload_n hx hb dX10_text_30 rfl (lv_at hl 0 rfl) ?_
    refine k_get (q0 := 0) (k := 4) (ci := 10) (v := .ref (ad 14)) hx hb hts inX10_text_X10 hown hI rfl rfl (by decide) mX10_text_fieldLink_40_StillText_setting_LStillText_Setting rfl rfl dX10_text_31 ?_
    refine k_cVv (As := []) (rest := []) C (c_X5_drop σ9  _ h) (cwV 0 hts gX10_text_X5_drop rfl rfl rfl hdX5_drop ⟨Nat.le_of_ble_eq_true rfl, Nat.le_of_ble_eq_true rfl⟩) hI 14 rfl rfl rfl hl.1 rfl (Nat.le_of_ble_eq_true rfl) dX10_text_34 ⟨Nat.le_of_ble_eq_true rfl, Nat.le_of_ble_eq_true rfl⟩ (fun σ11 H locs h hI => ?_)
    refine lv_aload_n hx hb dX10_text_37 rfl (lv_at hl 0 rfl) ?_
    refine k_get (q0 := 0) (k := 7) (ci := 10) (v := .ref (ad 27)) hx hb hts inX10_text_X10 hown hI rfl rfl (by decide) mX10_text_fieldLink_67_StillText_marks_LStillText_Marks rfl rfl dX10_text_38 ?_
    refine k_cVv (As := []) (rest := []) C (c_X0_drop σ11  _ h) (cwV 0 hts gX10_text_X0_drop rfl rfl rfl hdX0_drop ⟨Nat.le_of_ble_eq_true rfl, Nat.le_of_ble_eq_true rfl⟩) hI 27 rfl rfl rfl hl.1 rfl (Nat.le_of_ble_eq_true rfl) dX10_text_41 ⟨Nat.le_of_ble_eq_true rfl, Nat.le_of_ble_eq_true rfl⟩ (fun σ13 H locs h hI => ?_)
    refine lv_aload_n hx hb dX10_text_44 rfl (lv_at hl 0 rfl) ?_
    refine k_get (q0 := 0) (k := 2) (ci := 10) (v := .ref (ad 8)) hx hb hts inX10_text_X10 hown hI rfl rfl (by decide) mX10_text_fieldLink_26_StillText_units_LStillText_Units rfl rfl dX10_text_45 ?_
    refine k_cVi (As := []) (rest := []) C (c_X9_count_at8 σ13  _ h) (cwV 0 hts gX10_text_X9_count rfl rfl rfl hdX9_count ⟨Nat.le_of_ble_eq_true rfl, Nat.le_of_ble_eq_true rfl⟩) hI 8 rfl rfl rfl hl.1 rfl (Nat.le_of_ble_eq_true rfl) dX10_text_48 ⟨Nat.le_of_ble_eq_true rfl, Nat.le_of_ble_eq_true rfl⟩ (fun r14 σ15 H locs h hI => ?_)
    exact k_iret hx hb hr hlocks hI h dX10_text_51
  · replace h := h.2 c5
    refine lv_iconst (v := (-1)) hx hb dX10_text_14 (by decide) ?_
    exact k_iret hx hb hr hlocks hI h dX10_text_15
theorem inX3_kind_X3 : ∀ w ∈ wsX30, w ∈ wsX3_kind := fun _ h => List.mem_cons_of_mem _ (List.mem_append_right _ (h))
theorem mX3_kind_fieldLink_18_StillText_Reading_kind_I : Cond.fieldLink RX3 18 "StillText$Reading" "kind" "I" ∈ wsX3_kind := List.mem_cons_of_mem _ (List.mem_append_left _ (List.mem_of_getElem? (i := 0) rfl))
set_option maxHeartbeats 4000000 in
set_option maxRecDepth 100000 in
theorem c_X3_kind (σ : St) (Q : Int32 → St → Prop) (h : wp_X3_kind σ  Q) : Ci l D (tyE cyI cyZ) NwC (ZsC tL tS) (wC cyI cyZ ad) yX3_kind wsX3_kind r_X3_kind [.ref (ad 3)] σ Q := by
  refine k_metI (cc := cX3_kind) (maxL := 1) (ret := (some .int)) (by decide) rfl (Nat.le_of_ble_eq_true rfl) ?_
  intro p e s m below meth c A ls C hI hl
  obtain ⟨hx, hb, hr, hml, hown, hts, hlocks⟩ := id C
  have hl : lv_has ls 1 [(0, .ref (ad 3))] := hl
  unfold wp_X3_kind at h
  refine lv_aload_n hx hb dX3_kind_0 rfl (lv_at hl 0 rfl) ?_
  refine k_get (q0 := 3) (k := 1) (ci := 3) (v := .int (σ 3 1)) hx hb hts inX3_kind_X3 hown hI rfl rfl (by decide) mX3_kind_fieldLink_18_StillText_Reading_kind_I rfl rfl dX3_kind_1 ?_
  exact k_iret hx hb hr hlocks hI h dX3_kind_4
theorem inX3_place_X3 : ∀ w ∈ wsX30, w ∈ wsX3_place := fun _ h => List.mem_cons_of_mem _ (List.mem_append_right _ (h))
theorem mX3_place_fieldLink_22_StillText_Reading_place_I : Cond.fieldLink RX3 22 "StillText$Reading" "place" "I" ∈ wsX3_place := List.mem_cons_of_mem _ (List.mem_append_left _ (List.mem_of_getElem? (i := 0) rfl))
set_option maxHeartbeats 4000000 in
set_option maxRecDepth 100000 in
theorem c_X3_place (σ : St) (Q : Int32 → St → Prop) (h : wp_X3_place σ  Q) : Ci l D (tyE cyI cyZ) NwC (ZsC tL tS) (wC cyI cyZ ad) yX3_place wsX3_place r_X3_place [.ref (ad 3)] σ Q := by
  refine k_metI (cc := cX3_place) (maxL := 1) (ret := (some .int)) (by decide) rfl (Nat.le_of_ble_eq_true rfl) ?_
  intro p e s m below meth c A ls C hI hl
  obtain ⟨hx, hb, hr, hml, hown, hts, hlocks⟩ := id C
  have hl : lv_has ls 1 [(0, .ref (ad 3))] := hl
  unfold wp_X3_place at h
  refine lv_aload_n hx hb dX3_place_0 rfl (lv_at hl 0 rfl) ?_
  refine k_get (q0 := 3) (k := 2) (ci := 3) (v := .int (σ 3 2)) hx hb hts inX3_place_X3 hown hI rfl rfl (by decide) mX3_place_fieldLink_22_StillText_Reading_place_I rfl rfl dX3_place_1 ?_
  exact k_iret hx hb hr hlocks hI h dX3_place_4
theorem inX10_fault_X10 : ∀ w ∈ wsX100, w ∈ wsX10_fault := fun _ h => List.mem_cons_of_mem _ (List.mem_append_left _ (List.mem_append_right _ (h)))
theorem mX10_fault_fieldLink_19_StillText_reading_LStillText_Reading : Cond.fieldLink RX10 19 "StillText" "reading" "LStillText$Reading;" ∈ wsX10_fault := List.mem_cons_of_mem _ (List.mem_append_left _ (List.mem_append_left _ (List.mem_of_getElem? (i := 0) rfl)))
set_option maxHeartbeats 4000000 in
set_option maxRecDepth 100000 in
theorem c_X10_fault (σ : St) (x1 : Int32) (Q : Int32 → St → Prop) (h : wp_X10_fault σ x1 Q) : Ci l D (tyE cyI cyZ) NwC (ZsC tL tS) (wC cyI cyZ ad) yX10_fault wsX10_fault r_X10_fault [.ref (ad 0), .int x1] σ Q := by
  refine k_metI (cc := cX10_fault) (maxL := 2) (ret := (some .int)) (by decide) rfl (Nat.le_of_ble_eq_true rfl) ?_
  intro p e s m below meth c A ls C hI hl
  obtain ⟨hx, hb, hr, hml, hown, hts, hlocks⟩ := id C
  have hl : lv_has ls 2 [(0, .ref (ad 0)), (1, .int x1)] := hl
  unfold wp_X10_fault at h
  refine lv_iload_n hx hb dX10_fault_0 rfl (lv_at hl 1 rfl) ?_
  by_cases c1 : x1 = nI 0
  · replace h := h.1 c1
    refine lv_lookup (off := 27) (tgt := 28) hx hb dX10_fault_1 (by decide) (by rw [c1]; rfl) (by decide) ?_
    refine lv_aload_n hx hb dX10_fault_28 rfl (lv_at hl 0 rfl) ?_
    refine k_get (q0 := 0) (k := 1) (ci := 10) (v := .ref (ad 3)) hx hb hts inX10_fault_X10 hown hI rfl rfl (by decide) mX10_fault_fieldLink_19_StillText_reading_LStillText_Reading rfl rfl dX10_fault_29 ?_
    refine k_cVi (As := []) (rest := []) C (c_X3_kind σ  _ h) (cwV 0 hts gX10_fault_X3_kind rfl rfl rfl hdX3_kind ⟨Nat.le_of_ble_eq_true rfl, Nat.le_of_ble_eq_true rfl⟩) hI 3 rfl rfl rfl hl.1 rfl (Nat.le_of_ble_eq_true rfl) dX10_fault_32 ⟨Nat.le_of_ble_eq_true rfl, Nat.le_of_ble_eq_true rfl⟩ (fun r2 σ3 H locs h hI => ?_)
    exact k_iret hx hb hr hlocks hI h dX10_fault_35
  · replace h := h.2 c1
    by_cases c4 : x1 = nI 1
    · replace h := h.1 c4
      refine lv_lookup (off := 35) (tgt := 36) hx hb dX10_fault_1 (by decide) (by rw [c4]; rfl) (by decide) ?_
      refine lv_aload_n hx hb dX10_fault_36 rfl (lv_at hl 0 rfl) ?_
      refine k_get (q0 := 0) (k := 1) (ci := 10) (v := .ref (ad 3)) hx hb hts inX10_fault_X10 hown hI rfl rfl (by decide) mX10_fault_fieldLink_19_StillText_reading_LStillText_Reading rfl rfl dX10_fault_37 ?_
      refine k_cVi (As := []) (rest := []) C (c_X3_place σ  _ h) (cwV 0 hts gX10_fault_X3_place rfl rfl rfl hdX3_place ⟨Nat.le_of_ble_eq_true rfl, Nat.le_of_ble_eq_true rfl⟩) hI 3 rfl rfl rfl hl.1 rfl (Nat.le_of_ble_eq_true rfl) dX10_fault_40 ⟨Nat.le_of_ble_eq_true rfl, Nat.le_of_ble_eq_true rfl⟩ (fun r5 σ6 H locs h hI => ?_)
      exact k_iret hx hb hr hlocks hI h dX10_fault_43
    · replace h := h.2 c4
      refine lv_lookup (off := 43) (tgt := 44) hx hb dX10_fault_1 (by decide) (by rw [lv_osw c1 (a := 0) (by decide), lv_osw c4 (a := 1) (by decide)]; rfl) (by decide) ?_
      refine lv_iconst (v := (-1)) hx hb dX10_fault_44 (by decide) ?_
      exact k_iret hx hb hr hlocks hI h dX10_fault_45
theorem inX9_has_X9 : ∀ w ∈ wsX90, w ∈ wsX9_has := fun _ h => List.mem_cons_of_mem _ (List.mem_append_right _ (h))
theorem mX9_has_fieldLink_21_StillText_Units_count_I : Cond.fieldLink RX9 21 "StillText$Units" "count" "I" ∈ wsX9_has := List.mem_cons_of_mem _ (List.mem_append_left _ (List.mem_of_getElem? (i := 0) rfl))
set_option maxHeartbeats 4000000 in
set_option maxRecDepth 100000 in
theorem c_X9_has (σ : St) (x1 : Int32) (Q : Int32 → St → Prop) (h : wp_X9_has σ x1 Q) : Ci l D (tyE cyI cyZ) NwC (ZsC tL tS) (wC cyI cyZ ad) yX9_has wsX9_has r_X9_has [.ref (ad 8), .int x1] σ Q := by
  refine k_metI (cc := cX9_has) (maxL := 2) (ret := (some .boolean)) (by decide) rfl (Nat.le_of_ble_eq_true rfl) ?_
  intro p e s m below meth c A ls C hI hl
  obtain ⟨hx, hb, hr, hml, hown, hts, hlocks⟩ := id C
  have hl : lv_has ls 2 [(0, .ref (ad 8)), (1, .int x1)] := hl
  unfold wp_X9_has at h
  refine lv_iload_n hx hb dX9_has_0 rfl (lv_at hl 1 rfl) ?_
  refine lv_if_lt (tgt := 16) hx hb dX9_has_1 (by decide) (fun c1 => ?_) (fun c1 => ?_)
  · replace h := h.1 c1
    refine lv_iconst (v := nI 0) hx hb dX9_has_16 (by decide) ?_
    exact k_zret hx hb hr hlocks hI (Or.inl rfl) h dX9_has_17
  · replace h := h.2 c1
    refine lv_iload_n hx hb dX9_has_4 rfl (lv_at hl 1 rfl) ?_
    refine lv_aload_n hx hb dX9_has_5 rfl (lv_at hl 0 rfl) ?_
    refine k_get (q0 := 8) (k := 3) (ci := 9) (v := .int (σ 8 3)) hx hb hts inX9_has_X9 hown hI rfl rfl (by decide) mX9_has_fieldLink_21_StillText_Units_count_I rfl rfl dX9_has_6 ?_
    refine lv_icmp_ge (tgt := 16) hx hb dX9_has_9 (by decide) (fun c2 => ?_) (fun c2 => ?_)
    · replace h := h.1 c2
      refine lv_iconst (v := nI 0) hx hb dX9_has_16 (by decide) ?_
      exact k_zret hx hb hr hlocks hI (Or.inl rfl) h dX9_has_17
    · replace h := h.2 c2
      refine lv_iconst (v := nI 1) hx hb dX9_has_12 (by decide) ?_
      refine lv_goto (tgt := 17) hx hb dX9_has_13 (by decide) ?_
      exact k_zret hx hb hr hlocks hI (Or.inr rfl) h dX9_has_17
theorem inX9_behind_X9 : ∀ w ∈ wsX90, w ∈ wsX9_behind := fun _ h => List.mem_cons_of_mem _ (List.mem_append_right _ (h))
theorem mX9_behind_fieldLink_18_StillText_Units_behind_I : Cond.fieldLink RX9 18 "StillText$Units" "behind" "[I" ∈ wsX9_behind := List.mem_cons_of_mem _ (List.mem_append_left _ (List.mem_of_getElem? (i := 0) rfl))
set_option maxHeartbeats 4000000 in
set_option maxRecDepth 100000 in
theorem c_X9_behind (σ : St) (x1 : Int32) (Q : Int32 → St → Prop) (h : wp_X9_behind σ x1 Q) : Ci l D (tyE cyI cyZ) NwC (ZsC tL tS) (wC cyI cyZ ad) yX9_behind wsX9_behind r_X9_behind [.ref (ad 8), .int x1] σ Q := by
  refine k_metI (cc := cX9_behind) (maxL := 2) (ret := (some .int)) (by decide) rfl (Nat.le_of_ble_eq_true rfl) ?_
  intro p e s m below meth c A ls C hI hl
  obtain ⟨hx, hb, hr, hml, hown, hts, hlocks⟩ := id C
  have hl : lv_has ls 2 [(0, .ref (ad 8)), (1, .int x1)] := hl
  unfold wp_X9_behind at h
  refine lv_aload_n hx hb dX9_behind_0 rfl (lv_at hl 0 rfl) ?_
  refine lv_iload_n hx hb dX9_behind_1 rfl (lv_at hl 1 rfl) ?_
  refine k_cVi (As := [.int x1]) (rest := []) C (c_X9_has σ x1 _ h) (cwV 1 hts gX9_behind_X9_has rfl rfl rfl hdX9_has ⟨Nat.le_of_ble_eq_true rfl, Nat.le_of_ble_eq_true rfl⟩) hI 8 rfl rfl rfl hl.1 rfl (Nat.le_of_ble_eq_true rfl) dX9_behind_2 ⟨Nat.le_of_ble_eq_true rfl, Nat.le_of_ble_eq_true rfl⟩ (fun r1 σ2 H locs h hI => ?_)
  refine lv_if_eq (tgt := 17) hx hb dX9_behind_5 (by decide) (fun c3 => ?_) (fun c3 => ?_)
  · replace h := h.1 c3
    refine lv_iconst (v := (-1)) hx hb dX9_behind_17 (by decide) ?_
    exact k_iret hx hb hr hlocks hI h dX9_behind_18
  · replace h := h.2 c3
    refine lv_aload_n hx hb dX9_behind_8 rfl (lv_at hl 0 rfl) ?_
    refine k_get (q0 := 8) (k := 2) (ci := 9) (v := .ref (ad 11)) hx hb hts inX9_behind_X9 hown hI rfl rfl (by decide) mX9_behind_fieldLink_18_StillText_Units_behind_I rfl rfl dX9_behind_9 ?_
    refine lv_iload_n hx hb dX9_behind_12 rfl (lv_at hl 1 rfl) ?_
    refine k_iald (q0 := 11) (t0 := 0) (n := 80) (f := σ2 11) hx hb hI rfl rfl h.1 dX9_behind_13 ?_
    replace h := h.2
    refine lv_goto (tgt := 18) hx hb dX9_behind_14 (by decide) ?_
    exact k_iret hx hb hr hlocks hI h dX9_behind_18
set_option maxHeartbeats 4000000 in
set_option maxRecDepth 100000 in
theorem c_X9_goesOn (σ : St) (x1 : Int32) (Q : Int32 → St → Prop) (h : wp_X9_goesOn σ x1 Q) : Ci l D (tyE cyI cyZ) NwC (ZsC tL tS) (wC cyI cyZ ad) yX9_goesOn wsX9_goesOn r_X9_goesOn [.ref (ad 8), .int x1] σ Q := by
  refine k_metI (cc := cX9_goesOn) (maxL := 2) (ret := (some .boolean)) (by decide) rfl (Nat.le_of_ble_eq_true rfl) ?_
  intro p e s m below meth c A ls C hI hl
  obtain ⟨hx, hb, hr, hml, hown, hts, hlocks⟩ := id C
  have hl : lv_has ls 2 [(0, .ref (ad 8)), (1, .int x1)] := hl
  unfold wp_X9_goesOn at h
  refine lv_aload_n hx hb dX9_goesOn_0 rfl (lv_at hl 0 rfl) ?_
  refine lv_iload_n hx hb dX9_goesOn_1 rfl (lv_at hl 1 rfl) ?_
  refine k_cVi (As := [.int x1]) (rest := []) C (c_X9_behind σ x1 _ h) (cwV 1 hts gX9_goesOn_X9_behind rfl rfl rfl hdX9_behind ⟨Nat.le_of_ble_eq_true rfl, Nat.le_of_ble_eq_true rfl⟩) hI 8 rfl rfl rfl hl.1 rfl (Nat.le_of_ble_eq_true rfl) dX9_goesOn_2 ⟨Nat.le_of_ble_eq_true rfl, Nat.le_of_ble_eq_true rfl⟩ (fun r1 σ2 H locs h hI => ?_)
  refine lv_bipush (v := nI 45) hx hb dX9_goesOn_5 (by decide) ?_
  refine lv_icmp_ne (tgt := 14) hx hb dX9_goesOn_7 (by decide) (fun c3 => ?_) (fun c3 => ?_)
  · replace h := h.1 c3
    refine lv_iconst (v := nI 0) hx hb dX9_goesOn_14 (by decide) ?_
    exact k_zret hx hb hr hlocks hI (Or.inl rfl) h dX9_goesOn_15
  · replace h := h.2 c3
    refine lv_iconst (v := nI 1) hx hb dX9_goesOn_10 (by decide) ?_
    refine lv_goto (tgt := 15) hx hb dX9_goesOn_11 (by decide) ?_
    exact k_zret hx hb hr hlocks hI (Or.inr rfl) h dX9_goesOn_15
set_option maxHeartbeats 4000000 in
set_option maxRecDepth 100000 in
theorem c_X9_isWholeWord (σ : St) (x1 : Int32) (Q : Int32 → St → Prop) (h : wp_X9_isWholeWord σ x1 Q) : Ci l D (tyE cyI cyZ) NwC (ZsC tL tS) (wC cyI cyZ ad) yX9_isWholeWord wsX9_isWholeWord r_X9_isWholeWord [.ref (ad 8), .int x1] σ Q := by
  refine k_metI (cc := cX9_isWholeWord) (maxL := 2) (ret := (some .boolean)) (by decide) rfl (Nat.le_of_ble_eq_true rfl) ?_
  intro p e s m below meth c A ls C hI hl
  obtain ⟨hx, hb, hr, hml, hown, hts, hlocks⟩ := id C
  have hl : lv_has ls 2 [(0, .ref (ad 8)), (1, .int x1)] := hl
  unfold wp_X9_isWholeWord at h
  refine lv_aload_n hx hb dX9_isWholeWord_0 rfl (lv_at hl 0 rfl) ?_
  refine lv_iload_n hx hb dX9_isWholeWord_1 rfl (lv_at hl 1 rfl) ?_
  refine k_cVi (As := [.int x1]) (rest := []) C (c_X9_has σ x1 _ h) (cwV 1 hts gX9_isWholeWord_X9_has rfl rfl rfl hdX9_has ⟨Nat.le_of_ble_eq_true rfl, Nat.le_of_ble_eq_true rfl⟩) hI 8 rfl rfl rfl hl.1 rfl (Nat.le_of_ble_eq_true rfl) dX9_isWholeWord_2 ⟨Nat.le_of_ble_eq_true rfl, Nat.le_of_ble_eq_true rfl⟩ (fun r1 σ2 H locs h hI => ?_)
  refine lv_if_eq (tgt := 30) hx hb dX9_isWholeWord_5 (by decide) (fun c3 => ?_) (fun c3 => ?_)
  · replace h := h.1 c3
    refine lv_iconst (v := nI 0) hx hb dX9_isWholeWord_30 (by decide) ?_
    exact k_zret hx hb hr hlocks hI (Or.inl rfl) h dX9_isWholeWord_31
  · replace h := h.2 c3
    refine lv_aload_n hx hb dX9_isWholeWord_8 rfl (lv_at hl 0 rfl) ?_
    refine lv_iload_n hx hb dX9_isWholeWord_9 rfl (lv_at hl 1 rfl) ?_
    refine k_cVi (As := [.int x1]) (rest := []) C (c_X9_goesOn σ2 x1 _ h) (cwV 1 hts gX9_isWholeWord_X9_goesOn rfl rfl rfl hdX9_goesOn ⟨Nat.le_of_ble_eq_true rfl, Nat.le_of_ble_eq_true rfl⟩) hI 8 rfl rfl rfl hl.1 rfl (Nat.le_of_ble_eq_true rfl) dX9_isWholeWord_10 ⟨Nat.le_of_ble_eq_true rfl, Nat.le_of_ble_eq_true rfl⟩ (fun r4 σ5 H locs h hI => ?_)
    refine lv_if_ne (tgt := 30) hx hb dX9_isWholeWord_13 (by decide) (fun c6 => ?_) (fun c6 => ?_)
    · replace h := h.1 c6
      refine lv_iconst (v := nI 0) hx hb dX9_isWholeWord_30 (by decide) ?_
      exact k_zret hx hb hr hlocks hI (Or.inl rfl) h dX9_isWholeWord_31
    · replace h := h.2 c6
      refine lv_aload_n hx hb dX9_isWholeWord_16 rfl (lv_at hl 0 rfl) ?_
      refine lv_iload_n hx hb dX9_isWholeWord_17 rfl (lv_at hl 1 rfl) ?_
      refine lv_iconst (v := nI 1) hx hb dX9_isWholeWord_18 (by decide) ?_
      refine lv_isub hx hb dX9_isWholeWord_19 ?_
      refine k_cVi (As := [.int (x1 - (nI 1))]) (rest := []) C (c_X9_goesOn σ5 (x1 - (nI 1)) _ h) (cwV 1 hts gX9_isWholeWord_X9_goesOn rfl rfl rfl hdX9_goesOn ⟨Nat.le_of_ble_eq_true rfl, Nat.le_of_ble_eq_true rfl⟩) hI 8 rfl rfl rfl hl.1 rfl (Nat.le_of_ble_eq_true rfl) dX9_isWholeWord_20 ⟨Nat.le_of_ble_eq_true rfl, Nat.le_of_ble_eq_true rfl⟩ (fun r7 σ8 H locs h hI => ?_)
      refine lv_if_ne (tgt := 30) hx hb dX9_isWholeWord_23 (by decide) (fun c9 => ?_) (fun c9 => ?_)
      · replace h := h.1 c9
        refine lv_iconst (v := nI 0) hx hb dX9_isWholeWord_30 (by decide) ?_
        exact k_zret hx hb hr hlocks hI (Or.inl rfl) h dX9_isWholeWord_31
      · replace h := h.2 c9
        refine lv_iconst (v := nI 1) hx hb dX9_isWholeWord_26 (by decide) ?_
        refine lv_goto (tgt := 31) hx hb dX9_isWholeWord_27 (by decide) ?_
        exact k_zret hx hb hr hlocks hI (Or.inr rfl) h dX9_isWholeWord_31
set_option maxHeartbeats 4000000 in
set_option maxRecDepth 100000 in
theorem c_X9_count_at4 (σ : St) (Q : Int32 → St → Prop) (h : wp_X9_count_at4 σ  Q) : Ci l D (tyE cyI cyZ) NwC (ZsC tL tS) (wC cyI cyZ ad) yX9_count wsX9_count r_X9_count_at4 [.ref (ad 4)] σ Q := by
  refine k_metI (cc := cX9_count) (maxL := 1) (ret := (some .int)) (by decide) rfl (Nat.le_of_ble_eq_true rfl) ?_
  intro p e s m below meth c A ls C hI hl
  obtain ⟨hx, hb, hr, hml, hown, hts, hlocks⟩ := id C
  have hl : lv_has ls 1 [(0, .ref (ad 4))] := hl
  unfold wp_X9_count_at4 at h
  refine lv_aload_n hx hb dX9_count_0 rfl (lv_at hl 0 rfl) ?_
  refine k_get (q0 := 4) (k := 3) (ci := 9) (v := .int (σ 4 3)) hx hb hts inX9_count_X9 hown hI rfl rfl (by decide) mX9_count_fieldLink_21_StillText_Units_count_I rfl rfl dX9_count_1 ?_
  exact k_iret hx hb hr hlocks hI h dX9_count_4
set_option maxHeartbeats 4000000 in
set_option maxRecDepth 100000 in
theorem c_X9_copyUnit_8 (σ : St) (x2 x3 : Int32) (Q : St → Prop) (h : wp_X9_copyUnit_8 σ x2 x3 Q) : Cv l D (tyE cyI cyZ) NwC (ZsC tL tS) (wC cyI cyZ ad) yX9_copyUnit wsX9_copyUnit r_X9_copyUnit_8 [.ref (ad 8), .ref (ad 8), .int x2, .int x3] σ Q := by
  refine k_metV (cc := cX9_copyUnit) (maxL := 4) (ret := none) (by decide) rfl (Nat.le_of_ble_eq_true rfl) ?_
  intro p e s m below meth c A ls C hI hl
  obtain ⟨hx, hb, hr, hml, hown, hts, hlocks⟩ := id C
  have hl : lv_has ls 4 [(0, .ref (ad 8)), (1, .ref (ad 8)), (2, .int x2), (3, .int x3)] := hl
  unfold wp_X9_copyUnit_8 at h
  refine lv_aload_n hx hb dX9_copyUnit_0 rfl (lv_at hl 1 rfl) ?_
  refine k_get (q0 := 8) (k := 0) (ci := 9) (v := .ref (ad 9)) hx hb hts inX9_copyUnit_X9 hown hI rfl rfl (by decide) mX9_copyUnit_fieldLink_9_StillText_Units_letters_I rfl rfl dX9_copyUnit_1 ?_
  refine lv_iload_n hx hb dX9_copyUnit_4 rfl (lv_at hl 2 rfl) ?_
  refine lv_bipush (v := nI 20) hx hb dX9_copyUnit_5 (by decide) ?_
  refine lv_imul hx hb dX9_copyUnit_7 ?_
  refine lv_aload_n hx hb dX9_copyUnit_8 rfl (lv_at hl 0 rfl) ?_
  refine k_get (q0 := 8) (k := 0) (ci := 9) (v := .ref (ad 9)) hx hb hts inX9_copyUnit_X9 hown hI rfl rfl (by decide) mX9_copyUnit_fieldLink_9_StillText_Units_letters_I rfl rfl dX9_copyUnit_9 ?_
  refine lv_iload_n hx hb dX9_copyUnit_12 rfl (lv_at hl 3 rfl) ?_
  refine lv_bipush (v := nI 20) hx hb dX9_copyUnit_13 (by decide) ?_
  refine lv_imul hx hb dX9_copyUnit_15 ?_
  refine lv_bipush (v := nI 20) hx hb dX9_copyUnit_16 (by decide) ?_
  refine k_copy (q0 := 9) (q1 := 9) (t0 := 0) (n0 := 1600) (n1 := 1600) (f := σ 9) (g := σ 9) (σ' := upA σ 9 (va_cpy (σ 9) (σ 9) (x2 * (nI 20)).toNatClampNeg (x3 * (nI 20)).toNatClampNeg (nI 20).toNatClampNeg)) C hl.1 mX9_copyUnit_methodLink_42_arraycopyName mX9_copyUnit_native_arraycopyName mX9_copyUnit_static_arraycopyName mX9_copyUnit_initialized_java_lang_System hI rfl rfl rfl rfl h.1 h.2.1 (by decide) h.2.2.1 h.2.2.2.1 (Nat.le_of_ble_eq_true rfl) (Nat.le_of_ble_eq_true rfl) (wsAC_9 _ _ _ _ _) dX9_copyUnit_18 (fun H locs hI => ?_)
  replace h := h.2.2.2.2
  refine lv_aload_n hx hb dX9_copyUnit_21 rfl (lv_at hl 0 rfl) ?_
  refine k_get (q0 := 8) (k := 1) (ci := 9) (v := .ref (ad 10)) hx hb hts inX9_copyUnit_X9 hown hI rfl rfl (by decide) mX9_copyUnit_fieldLink_15_StillText_Units_sizes_I rfl rfl dX9_copyUnit_22 ?_
  refine lv_iload_n hx hb dX9_copyUnit_25 rfl (lv_at hl 3 rfl) ?_
  refine lv_aload_n hx hb dX9_copyUnit_26 rfl (lv_at hl 1 rfl) ?_
  refine k_get (q0 := 8) (k := 1) (ci := 9) (v := .ref (ad 10)) hx hb hts inX9_copyUnit_X9 hown hI rfl rfl (by decide) mX9_copyUnit_fieldLink_15_StillText_Units_sizes_I rfl rfl dX9_copyUnit_27 ?_
  refine lv_iload_n hx hb dX9_copyUnit_30 rfl (lv_at hl 2 rfl) ?_
  refine k_iald (q0 := 10) (t0 := 0) (n := 80) (f := σ 10) hx hb hI rfl rfl h.1 dX9_copyUnit_31 ?_
  replace h := h.2
  refine k_iast (q0 := 10) (t0 := 0) (n := 80) (σ' := up2 (upA σ 9 (va_cpy (σ 9) (σ 9) (x2 * (nI 20)).toNatClampNeg (x3 * (nI 20)).toNatClampNeg (nI 20).toNatClampNeg)) 10 x3.toNatClampNeg (σ 10 x2.toNatClampNeg)) hx hb hI rfl rfl h.1 (wsC_10 _ _ _ _ _ _) dX9_copyUnit_32 (fun H locs hI => ?_)
  replace h := h.2
  refine lv_aload_n hx hb dX9_copyUnit_33 rfl (lv_at hl 0 rfl) ?_
  refine k_get (q0 := 8) (k := 2) (ci := 9) (v := .ref (ad 11)) hx hb hts inX9_copyUnit_X9 hown hI rfl rfl (by decide) mX9_copyUnit_fieldLink_18_StillText_Units_behind_I rfl rfl dX9_copyUnit_34 ?_
  refine lv_iload_n hx hb dX9_copyUnit_37 rfl (lv_at hl 3 rfl) ?_
  refine lv_aload_n hx hb dX9_copyUnit_38 rfl (lv_at hl 1 rfl) ?_
  refine k_get (q0 := 8) (k := 2) (ci := 9) (v := .ref (ad 11)) hx hb hts inX9_copyUnit_X9 hown hI rfl rfl (by decide) mX9_copyUnit_fieldLink_18_StillText_Units_behind_I rfl rfl dX9_copyUnit_39 ?_
  refine lv_iload_n hx hb dX9_copyUnit_42 rfl (lv_at hl 2 rfl) ?_
  refine k_iald (q0 := 11) (t0 := 0) (n := 80) (f := σ 11) hx hb hI rfl rfl h.1 dX9_copyUnit_43 ?_
  replace h := h.2
  refine k_iast (q0 := 11) (t0 := 0) (n := 80) (σ' := up2 (up2 (upA σ 9 (va_cpy (σ 9) (σ 9) (x2 * (nI 20)).toNatClampNeg (x3 * (nI 20)).toNatClampNeg (nI 20).toNatClampNeg)) 10 x3.toNatClampNeg (σ 10 x2.toNatClampNeg)) 11 x3.toNatClampNeg (σ 11 x2.toNatClampNeg)) hx hb hI rfl rfl h.1 (wsC_11 _ _ _ _ _ _) dX9_copyUnit_44 (fun H locs hI => ?_)
  replace h := h.2
  exact k_vret hx hb hr hlocks hI h dX9_copyUnit_45
end
