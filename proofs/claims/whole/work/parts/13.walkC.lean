section
variable {l : Launch} {D : va_G} {cyI cyZ : ClassId} {ad : Nat → Nat} {tL tS : Nat}
theorem inX10_rivers_X10 : ∀ w ∈ wsX100, w ∈ wsX10_rivers := fun _ h => List.mem_cons_of_mem _ (List.mem_append_left _ (List.mem_append_left _ (List.mem_append_right _ (h))))
theorem mX10_rivers_fieldLink_40_StillText_setting_LStillText_Setting : Cond.fieldLink RX10 40 "StillText" "setting" "LStillText$Setting;" ∈ wsX10_rivers := List.mem_cons_of_mem _ (List.mem_append_left _ (List.mem_append_left _ (List.mem_append_left _ (List.mem_append_left _ (List.mem_of_getElem? (i := 0) rfl)))))
set_option maxHeartbeats 4000000 in
set_option maxRecDepth 100000 in
theorem t_X10_rivers_21 {p : Program} {e : Env} {s : State} {m : MethodId} {args : Array Value} {below : List Frame} {meth : Method} {c : Code} {A : Nat → Prop} {x1 : Int32}  {Q : Int32 → St → Prop} (C : Cx p s m args meth c cX10_rivers 4 (some .int) RX10 wsX10_rivers) :
    ∀ (n : Nat) (σ : St) (x2 x3 : Int32) (H : Heap) (locs : List Loc) (ls : Array Slot), wpl_X10_rivers_21 x1 Q n σ x2 x3 → Iw D (tyE cyI cyZ) NwC (ZsC tL tS) (wC cyI cyZ ad) A s H locs σ → lv_has ls 4 [(0, .ref (ad 0)), (1, .int x1), (2, .int x2), (3, .int x3)] → W p l e r_X10_rivers s m args below meth c H locs 0 0 (MQ below (va_Qi Q (Kq D (tyE cyI cyZ) (wC cyI cyZ ad) A) A) args s 0 0 A) (F0 m 21 ls []) := by
  obtain ⟨hx, hb, hr, hml, hown, hts, hlocks⟩ := id C
  intro n
  induction n with
  | zero =>
    intro _ _ _ _ _ _ h
    exact h.elim
  | succ n ih =>
    intro σ x2 x3 H locs ls h hI hl
    unfold wpl_X10_rivers_21 at h
    refine lv_iload_n hx hb dX10_rivers_21 rfl (lv_at hl 3 rfl) ?_
    refine lv_bipush (v := nI 60) hx hb dX10_rivers_22 (by decide) ?_
    refine lv_icmp_ge (tgt := 45) hx hb dX10_rivers_24 (by decide) (fun c5 => ?_) (fun c5 => ?_)
    · replace h := h.1 c5
      refine lv_iload_n hx hb dX10_rivers_45 rfl (lv_at hl 2 rfl) ?_
      exact k_iret hx hb hr hlocks hI h dX10_rivers_46
    · replace h := h.2 c5
      refine lv_iload_n hx hb dX10_rivers_27 rfl (lv_at hl 2 rfl) ?_
      refine lv_aload_n hx hb dX10_rivers_28 rfl (lv_at hl 0 rfl) ?_
      refine k_get (q0 := 0) (k := 4) (ci := 10) (v := .ref (ad 14)) hx hb hts inX10_rivers_X10 hown hI rfl rfl (by decide) mX10_rivers_fieldLink_40_StillText_setting_LStillText_Setting rfl rfl dX10_rivers_29 ?_
      refine lv_iload_n hx hb dX10_rivers_32 rfl (lv_at hl 3 rfl) ?_
      refine lv_iload_n hx hb dX10_rivers_33 rfl (lv_at hl 1 rfl) ?_
      refine k_cVi (As := [.int x3, .int x1]) (rest := [.int x2]) C (c_X5_riversAt σ x3 x1 _ h) (cwV 2 hts gX10_rivers_X5_riversAt rfl rfl rfl hdX5_riversAt ⟨Nat.le_of_ble_eq_true rfl, Nat.le_of_ble_eq_true rfl⟩) hI 14 rfl rfl rfl hl.1 rfl (Nat.le_of_ble_eq_true rfl) dX10_rivers_34 ⟨Nat.le_of_ble_eq_true rfl, Nat.le_of_ble_eq_true rfl⟩ (fun r6 σ7 H locs h hI => ?_)
      refine lv_iadd hx hb dX10_rivers_37 ?_
      refine lv_istore_n (lv' := [(2, .int (x2 + r6)), (0, .ref (ad 0)), (1, .int x1), (3, .int x3)]) hx hb dX10_rivers_38 rfl hl (by decide) rfl (fun ls hl => ?_)
      refine lv_iinc (v := (x3 + nI 1)) (lv' := [(3, .int (x3 + nI 1)), (2, .int (x2 + r6)), (0, .ref (ad 0)), (1, .int x1)]) hx hb dX10_rivers_39 hl (k := 3) rfl rfl (by decide) rfl (fun ls hl => ?_)
      refine lv_goto (tgt := 21) hx hb dX10_rivers_42 (by decide) ?_
      exact ih _ _ _ _ _ _ h hI (lv_sub hl [2, 3, 1, 0] rfl)
set_option maxHeartbeats 4000000 in
set_option maxRecDepth 100000 in
theorem c_X10_rivers (σ : St) (x1 : Int32) (Q : Int32 → St → Prop) (h : wp_X10_rivers σ x1 Q) : Ci l D (tyE cyI cyZ) NwC (ZsC tL tS) (wC cyI cyZ ad) yX10_rivers wsX10_rivers r_X10_rivers [.ref (ad 0), .int x1] σ Q := by
  refine k_metI (cc := cX10_rivers) (maxL := 4) (ret := (some .int)) (by decide) rfl (Nat.le_of_ble_eq_true rfl) ?_
  intro p e s m below meth c A ls C hI hl
  obtain ⟨hx, hb, hr, hml, hown, hts, hlocks⟩ := id C
  have hl : lv_has ls 4 [(0, .ref (ad 0)), (1, .int x1)] := hl
  unfold wp_X10_rivers at h
  refine lv_aload_n hx hb dX10_rivers_0 rfl (lv_at hl 0 rfl) ?_
  refine k_get (q0 := 0) (k := 4) (ci := 10) (v := .ref (ad 14)) hx hb hts inX10_rivers_X10 hown hI rfl rfl (by decide) mX10_rivers_fieldLink_40_StillText_setting_LStillText_Setting rfl rfl dX10_rivers_1 ?_
  refine k_cVi (As := []) (rest := []) C (c_X5_isThere σ  _ h) (cwV 0 hts gX10_rivers_X5_isThere rfl rfl rfl hdX5_isThere ⟨Nat.le_of_ble_eq_true rfl, Nat.le_of_ble_eq_true rfl⟩) hI 14 rfl rfl rfl hl.1 rfl (Nat.le_of_ble_eq_true rfl) dX10_rivers_4 ⟨Nat.le_of_ble_eq_true rfl, Nat.le_of_ble_eq_true rfl⟩ (fun r1 σ2 H locs h hI => ?_)
  refine lv_if_eq (tgt := 15) hx hb dX10_rivers_7 (by decide) (fun c3 => ?_) (fun c3 => ?_)
  · replace h := h.1 c3
    refine lv_iconst (v := (-1)) hx hb dX10_rivers_15 (by decide) ?_
    exact k_iret hx hb hr hlocks hI h dX10_rivers_16
  · replace h := h.2 c3
    refine lv_iload_n hx hb dX10_rivers_10 rfl (lv_at hl 1 rfl) ?_
    refine lv_iconst (v := nI 1) hx hb dX10_rivers_11 (by decide) ?_
    refine lv_icmp_ge (tgt := 17) hx hb dX10_rivers_12 (by decide) (fun c4 => ?_) (fun c4 => ?_)
    · replace h := h.1 c4
      refine lv_iconst (v := nI 0) hx hb dX10_rivers_17 (by decide) ?_
      refine lv_istore_n (lv' := [(2, .int (nI 0)), (0, .ref (ad 0)), (1, .int x1)]) hx hb dX10_rivers_18 rfl hl (by decide) rfl (fun ls hl => ?_)
      refine lv_iconst (v := nI 0) hx hb dX10_rivers_19 (by decide) ?_
      refine lv_istore_n (lv' := [(3, .int (nI 0)), (2, .int (nI 0)), (0, .ref (ad 0)), (1, .int x1)]) hx hb dX10_rivers_20 rfl hl (by decide) rfl (fun ls hl => ?_)
      obtain ⟨k8, h⟩ := h
      exact t_X10_rivers_21 C  k8 _ _ _ _ _ _ h hI (lv_sub hl [2, 3, 1, 0] rfl)
    · replace h := h.2 c4
      refine lv_iconst (v := (-1)) hx hb dX10_rivers_15 (by decide) ?_
      exact k_iret hx hb hr hlocks hI h dX10_rivers_16
theorem mX2_change_initialized : Cond.initialized RX10 ∈ wsX2_change := List.mem_cons_of_mem _ (List.mem_append_left _ (List.mem_of_getElem? (i := 3) rfl))
theorem mX2_change_static_yX10_within : Cond.static yX10_within ∈ wsX2_change := List.mem_cons_of_mem _ (List.mem_append_left _ (List.mem_of_getElem? (i := 2) rfl))
theorem inX2_change_X2 : ∀ w ∈ wsX20, w ∈ wsX2_change := fun _ h => List.mem_cons_of_mem _ (List.mem_append_right _ (h))
theorem mX2_change_fieldLink_7_StillText_Pages_rows_I : Cond.fieldLink RX2 7 "StillText$Pages" "rows" "I" ∈ wsX2_change := List.mem_cons_of_mem _ (List.mem_append_left _ (List.mem_of_getElem? (i := 0) rfl))
theorem mX2_change_fieldLink_13_StillText_Pages_tints_I : Cond.fieldLink RX2 13 "StillText$Pages" "tints" "I" ∈ wsX2_change := List.mem_cons_of_mem _ (List.mem_append_left _ (List.mem_of_getElem? (i := 1) rfl))
set_option maxHeartbeats 4000000 in
set_option maxRecDepth 100000 in
theorem c_X2_change (σ : St) (x1 x2 : Int32) (Q : Int32 → St → Prop) (h : wp_X2_change σ x1 x2 Q) : Ci l D (tyE cyI cyZ) NwC (ZsC tL tS) (wC cyI cyZ ad) yX2_change wsX2_change r_X2_change [.ref (ad 26), .int x1, .int x2] σ Q := by
  refine k_metI (cc := cX2_change) (maxL := 3) (ret := (some .boolean)) (by decide) rfl (Nat.le_of_ble_eq_true rfl) ?_
  intro p e s m below meth c A ls C hI hl
  obtain ⟨hx, hb, hr, hml, hown, hts, hlocks⟩ := id C
  have hl : lv_has ls 3 [(0, .ref (ad 26)), (1, .int x1), (2, .int x2)] := hl
  unfold wp_X2_change at h
  refine lv_iload_n hx hb dX2_change_0 rfl (lv_at hl 1 rfl) ?_
  refine lv_iconst (v := nI 2) hx hb dX2_change_1 (by decide) ?_
  refine lv_bipush (v := nI 40) hx hb dX2_change_2 (by decide) ?_
  refine k_cNi (As := [.int x1, .int (nI 2), .int (nI 40)]) (rest := []) (host := RX10) C (c_X10_within σ x1 (nI 2) (nI 40) _ h) gX2_change_X10_within_n16 rfl rfl rfl (List.mem_of_getElem? (i := 2) rfl) mX2_change_initialized mX2_change_static_yX10_within hdX10_within ⟨Nat.le_of_ble_eq_true rfl, Nat.le_of_ble_eq_true rfl⟩ hI rfl hl.1 rfl (Nat.le_of_ble_eq_true rfl) dX2_change_4 ⟨Nat.le_of_ble_eq_true rfl, Nat.le_of_ble_eq_true rfl⟩ (fun r1 σ2 H locs h hI => ?_)
  refine lv_if_eq (tgt := 20) hx hb dX2_change_7 (by decide) (fun c3 => ?_) (fun c3 => ?_)
  · replace h := h.1 c3
    refine lv_iconst (v := nI 0) hx hb dX2_change_20 (by decide) ?_
    exact k_zret hx hb hr hlocks hI (Or.inl rfl) h dX2_change_21
  · replace h := h.2 c3
    refine lv_iload_n hx hb dX2_change_10 rfl (lv_at hl 2 rfl) ?_
    refine lv_iconst (v := nI 2) hx hb dX2_change_11 (by decide) ?_
    refine lv_bipush (v := nI 7) hx hb dX2_change_12 (by decide) ?_
    refine k_cNi (As := [.int x2, .int (nI 2), .int (nI 7)]) (rest := []) (host := RX10) C (c_X10_within σ2 x2 (nI 2) (nI 7) _ h) gX2_change_X10_within_n16 rfl rfl rfl (List.mem_of_getElem? (i := 2) rfl) mX2_change_initialized mX2_change_static_yX10_within hdX10_within ⟨Nat.le_of_ble_eq_true rfl, Nat.le_of_ble_eq_true rfl⟩ hI rfl hl.1 rfl (Nat.le_of_ble_eq_true rfl) dX2_change_14 ⟨Nat.le_of_ble_eq_true rfl, Nat.le_of_ble_eq_true rfl⟩ (fun r4 σ5 H locs h hI => ?_)
    refine lv_if_ne (tgt := 22) hx hb dX2_change_17 (by decide) (fun c6 => ?_) (fun c6 => ?_)
    · replace h := h.1 c6
      refine lv_aload_n hx hb dX2_change_22 rfl (lv_at hl 0 rfl) ?_
      refine lv_iload_n hx hb dX2_change_23 rfl (lv_at hl 1 rfl) ?_
      refine k_put (q0 := 26) (k := 0) (ci := 2) (v := .int x1) (σ' := up2 σ5 26 0 x1) hx hb hts inX2_change_X2 tyX2 tyX2_ok nmX2 hown hI rfl rfl (by decide) mX2_change_fieldLink_7_StillText_Pages_rows_I rfl rfl rfl rfl (Nat.le_of_ble_eq_true rfl) (wsC_26_0 _ _ _ _ _) dX2_change_24 (fun H locs hI => ?_)
      refine lv_aload_n hx hb dX2_change_27 rfl (lv_at hl 0 rfl) ?_
      refine lv_iload_n hx hb dX2_change_28 rfl (lv_at hl 2 rfl) ?_
      refine k_put (q0 := 26) (k := 1) (ci := 2) (v := .int x2) (σ' := up2 (up2 σ5 26 0 x1) 26 1 x2) hx hb hts inX2_change_X2 tyX2 tyX2_ok nmX2 hown hI rfl rfl (by decide) mX2_change_fieldLink_13_StillText_Pages_tints_I rfl rfl rfl rfl (Nat.le_of_ble_eq_true rfl) (wsC_26_1 _ _ _ _ _) dX2_change_29 (fun H locs hI => ?_)
      refine lv_iconst (v := nI 1) hx hb dX2_change_32 (by decide) ?_
      exact k_zret hx hb hr hlocks hI (Or.inr rfl) h dX2_change_33
    · replace h := h.2 c6
      refine lv_iconst (v := nI 0) hx hb dX2_change_20 (by decide) ?_
      exact k_zret hx hb hr hlocks hI (Or.inl rfl) h dX2_change_21
theorem inX10_page_X10 : ∀ w ∈ wsX100, w ∈ wsX10_page := fun _ h => List.mem_cons_of_mem _ (List.mem_append_left _ (List.mem_append_right _ (h)))
theorem mX10_page_fieldLink_60_StillText_pages_LStillText_Pages : Cond.fieldLink RX10 60 "StillText" "pages" "LStillText$Pages;" ∈ wsX10_page := List.mem_cons_of_mem _ (List.mem_append_left _ (List.mem_append_left _ (List.mem_of_getElem? (i := 0) rfl)))
set_option maxHeartbeats 4000000 in
set_option maxRecDepth 100000 in
theorem c_X10_page (σ : St) (x1 x2 : Int32) (Q : Int32 → St → Prop) (h : wp_X10_page σ x1 x2 Q) : Ci l D (tyE cyI cyZ) NwC (ZsC tL tS) (wC cyI cyZ ad) yX10_page wsX10_page r_X10_page [.ref (ad 0), .int x1, .int x2] σ Q := by
  refine k_metI (cc := cX10_page) (maxL := 3) (ret := (some .boolean)) (by decide) rfl (Nat.le_of_ble_eq_true rfl) ?_
  intro p e s m below meth c A ls C hI hl
  obtain ⟨hx, hb, hr, hml, hown, hts, hlocks⟩ := id C
  have hl : lv_has ls 3 [(0, .ref (ad 0)), (1, .int x1), (2, .int x2)] := hl
  unfold wp_X10_page at h
  refine lv_aload_n hx hb dX10_page_0 rfl (lv_at hl 0 rfl) ?_
  refine k_get (q0 := 0) (k := 6) (ci := 10) (v := .ref (ad 26)) hx hb hts inX10_page_X10 hown hI rfl rfl (by decide) mX10_page_fieldLink_60_StillText_pages_LStillText_Pages rfl rfl dX10_page_1 ?_
  refine lv_iload_n hx hb dX10_page_4 rfl (lv_at hl 1 rfl) ?_
  refine lv_iload_n hx hb dX10_page_5 rfl (lv_at hl 2 rfl) ?_
  refine k_cVi (As := [.int x1, .int x2]) (rest := []) C (c_X2_change σ x1 x2 _ h) (cwV 2 hts gX10_page_X2_change rfl rfl rfl hdX2_change ⟨Nat.le_of_ble_eq_true rfl, Nat.le_of_ble_eq_true rfl⟩) hI 26 rfl rfl rfl hl.1 rfl (Nat.le_of_ble_eq_true rfl) dX10_page_6 ⟨Nat.le_of_ble_eq_true rfl, Nat.le_of_ble_eq_true rfl⟩ (fun r1 σ2 H locs h hI => ?_)
  exact k_zret hx hb hr hlocks hI h.1 h.2 dX10_page_9
theorem inX5_isOfText_X5 : ∀ w ∈ wsX50, w ∈ wsX5_isOfText := fun _ h => List.mem_cons_of_mem _ (List.mem_append_right _ (h))
theorem mX5_isOfText_fieldLink_25_StillText_Setting_there_Z : Cond.fieldLink RX5 25 "StillText$Setting" "there" "Z" ∈ wsX5_isOfText := List.mem_cons_of_mem _ (List.mem_append_left _ (List.mem_of_getElem? (i := 0) rfl))
theorem mX5_isOfText_fieldLink_29_StillText_Setting_ofText_Z : Cond.fieldLink RX5 29 "StillText$Setting" "ofText" "Z" ∈ wsX5_isOfText := List.mem_cons_of_mem _ (List.mem_append_left _ (List.mem_of_getElem? (i := 1) rfl))
set_option maxHeartbeats 4000000 in
set_option maxRecDepth 100000 in
theorem c_X5_isOfText (σ : St) (Q : Int32 → St → Prop) (h : wp_X5_isOfText σ  Q) : Ci l D (tyE cyI cyZ) NwC (ZsC tL tS) (wC cyI cyZ ad) yX5_isOfText wsX5_isOfText r_X5_isOfText [.ref (ad 14)] σ Q := by
  refine k_metI (cc := cX5_isOfText) (maxL := 1) (ret := (some .boolean)) (by decide) rfl (Nat.le_of_ble_eq_true rfl) ?_
  intro p e s m below meth c A ls C hI hl
  obtain ⟨hx, hb, hr, hml, hown, hts, hlocks⟩ := id C
  have hl : lv_has ls 1 [(0, .ref (ad 14))] := hl
  unfold wp_X5_isOfText at h
  refine lv_aload_n hx hb dX5_isOfText_0 rfl (lv_at hl 0 rfl) ?_
  refine k_get (q0 := 14) (k := 4) (ci := 5) (v := .int (σ 14 4)) hx hb hts inX5_isOfText_X5 hown hI rfl rfl (by decide) mX5_isOfText_fieldLink_25_StillText_Setting_there_Z rfl rfl dX5_isOfText_1 ?_
  refine lv_if_eq (tgt := 18) hx hb dX5_isOfText_4 (by decide) (fun c1 => ?_) (fun c1 => ?_)
  · replace h := h.1 c1
    refine lv_iconst (v := nI 0) hx hb dX5_isOfText_18 (by decide) ?_
    exact k_zret hx hb hr hlocks hI (Or.inl rfl) h dX5_isOfText_19
  · replace h := h.2 c1
    refine lv_aload_n hx hb dX5_isOfText_7 rfl (lv_at hl 0 rfl) ?_
    refine k_get (q0 := 14) (k := 5) (ci := 5) (v := .int (σ 14 5)) hx hb hts inX5_isOfText_X5 hown hI rfl rfl (by decide) mX5_isOfText_fieldLink_29_StillText_Setting_ofText_Z rfl rfl dX5_isOfText_8 ?_
    refine lv_if_eq (tgt := 18) hx hb dX5_isOfText_11 (by decide) (fun c2 => ?_) (fun c2 => ?_)
    · replace h := h.1 c2
      refine lv_iconst (v := nI 0) hx hb dX5_isOfText_18 (by decide) ?_
      exact k_zret hx hb hr hlocks hI (Or.inl rfl) h dX5_isOfText_19
    · replace h := h.2 c2
      refine lv_iconst (v := nI 1) hx hb dX5_isOfText_14 (by decide) ?_
      refine lv_goto (tgt := 19) hx hb dX5_isOfText_15 (by decide) ?_
      exact k_zret hx hb hr hlocks hI (Or.inr rfl) h dX5_isOfText_19
theorem inX5_lineOf_X5 : ∀ w ∈ wsX50, w ∈ wsX5_lineOf := fun _ h => List.mem_cons_of_mem _ (List.mem_append_right _ (h))
theorem mX5_lineOf_fieldLink_32_StillText_Setting_count_I : Cond.fieldLink RX5 32 "StillText$Setting" "count" "I" ∈ wsX5_lineOf := List.mem_cons_of_mem _ (List.mem_append_left _ (List.mem_of_getElem? (i := 0) rfl))
theorem mX5_lineOf_fieldLink_18_StillText_Setting_firsts_I : Cond.fieldLink RX5 18 "StillText$Setting" "firsts" "[I" ∈ wsX5_lineOf := List.mem_cons_of_mem _ (List.mem_append_left _ (List.mem_of_getElem? (i := 1) rfl))
theorem mX5_lineOf_fieldLink_22_StillText_Setting_manys_I : Cond.fieldLink RX5 22 "StillText$Setting" "manys" "[I" ∈ wsX5_lineOf := List.mem_cons_of_mem _ (List.mem_append_left _ (List.mem_of_getElem? (i := 2) rfl))
set_option maxHeartbeats 4000000 in
set_option maxRecDepth 100000 in
theorem t_X5_lineOf_2 {p : Program} {e : Env} {s : State} {m : MethodId} {args : Array Value} {below : List Frame} {meth : Method} {c : Code} {A : Nat → Prop} {x1 : Int32}  {Q : Int32 → St → Prop} (C : Cx p s m args meth c cX5_lineOf 3 (some .int) RX5 wsX5_lineOf) :
    ∀ (n : Nat) (σ : St) (x2 : Int32) (H : Heap) (locs : List Loc) (ls : Array Slot), wpl_X5_lineOf_2 x1 Q n σ x2 → Iw D (tyE cyI cyZ) NwC (ZsC tL tS) (wC cyI cyZ ad) A s H locs σ → lv_has ls 3 [(0, .ref (ad 14)), (1, .int x1), (2, .int x2)] → W p l e r_X5_lineOf s m args below meth c H locs 0 0 (MQ below (va_Qi Q (Kq D (tyE cyI cyZ) (wC cyI cyZ ad) A) A) args s 0 0 A) (F0 m 2 ls []) := by
  obtain ⟨hx, hb, hr, hml, hown, hts, hlocks⟩ := id C
  intro n
  induction n with
  | zero =>
    intro _ _ _ _ _ h
    exact h.elim
  | succ n ih =>
    intro σ x2 H locs ls h hI hl
    unfold wpl_X5_lineOf_2 at h
    refine lv_iload_n hx hb dX5_lineOf_2 rfl (lv_at hl 2 rfl) ?_
    refine lv_aload_n hx hb dX5_lineOf_3 rfl (lv_at hl 0 rfl) ?_
    refine k_get (q0 := 14) (k := 3) (ci := 5) (v := .int (σ 14 3)) hx hb hts inX5_lineOf_X5 hown hI rfl rfl (by decide) mX5_lineOf_fieldLink_32_StillText_Setting_count_I rfl rfl dX5_lineOf_4 ?_
    refine lv_icmp_ge (tgt := 45) hx hb dX5_lineOf_7 (by decide) (fun c1 => ?_) (fun c1 => ?_)
    · replace h := h.1 c1
      refine lv_iconst (v := (-1)) hx hb dX5_lineOf_45 (by decide) ?_
      exact k_iret hx hb hr hlocks hI h dX5_lineOf_46
    · replace h := h.2 c1
      refine lv_iload_n hx hb dX5_lineOf_10 rfl (lv_at hl 1 rfl) ?_
      refine lv_aload_n hx hb dX5_lineOf_11 rfl (lv_at hl 0 rfl) ?_
      refine k_get (q0 := 14) (k := 1) (ci := 5) (v := .ref (ad 21)) hx hb hts inX5_lineOf_X5 hown hI rfl rfl (by decide) mX5_lineOf_fieldLink_18_StillText_Setting_firsts_I rfl rfl dX5_lineOf_12 ?_
      refine lv_iload_n hx hb dX5_lineOf_15 rfl (lv_at hl 2 rfl) ?_
      refine k_iald (q0 := 21) (t0 := 0) (n := 80) (f := σ 21) hx hb hI rfl rfl h.1 dX5_lineOf_16 ?_
      replace h := h.2
      refine lv_icmp_lt (tgt := 39) hx hb dX5_lineOf_17 (by decide) (fun c2 => ?_) (fun c2 => ?_)
      · replace h := h.1 c2
        refine lv_iinc (v := (x2 + nI 1)) (lv' := [(2, .int (x2 + nI 1)), (0, .ref (ad 14)), (1, .int x1)]) hx hb dX5_lineOf_39 hl (k := 2) rfl rfl (by decide) rfl (fun ls hl => ?_)
        refine lv_goto (tgt := 2) hx hb dX5_lineOf_42 (by decide) ?_
        exact ih _ _ _ _ _ h hI (lv_sub hl [1, 2, 0] rfl)
      · replace h := h.2 c2
        refine lv_iload_n hx hb dX5_lineOf_20 rfl (lv_at hl 1 rfl) ?_
        refine lv_aload_n hx hb dX5_lineOf_21 rfl (lv_at hl 0 rfl) ?_
        refine k_get (q0 := 14) (k := 1) (ci := 5) (v := .ref (ad 21)) hx hb hts inX5_lineOf_X5 hown hI rfl rfl (by decide) mX5_lineOf_fieldLink_18_StillText_Setting_firsts_I rfl rfl dX5_lineOf_22 ?_
        refine lv_iload_n hx hb dX5_lineOf_25 rfl (lv_at hl 2 rfl) ?_
        refine k_iald (q0 := 21) (t0 := 0) (n := 80) (f := σ 21) hx hb hI rfl rfl h.1 dX5_lineOf_26 ?_
        replace h := h.2
        refine lv_aload_n hx hb dX5_lineOf_27 rfl (lv_at hl 0 rfl) ?_
        refine k_get (q0 := 14) (k := 2) (ci := 5) (v := .ref (ad 22)) hx hb hts inX5_lineOf_X5 hown hI rfl rfl (by decide) mX5_lineOf_fieldLink_22_StillText_Setting_manys_I rfl rfl dX5_lineOf_28 ?_
        refine lv_iload_n hx hb dX5_lineOf_31 rfl (lv_at hl 2 rfl) ?_
        refine k_iald (q0 := 22) (t0 := 0) (n := 80) (f := σ 22) hx hb hI rfl rfl h.1 dX5_lineOf_32 ?_
        replace h := h.2
        refine lv_iadd hx hb dX5_lineOf_33 ?_
        refine lv_icmp_ge (tgt := 39) hx hb dX5_lineOf_34 (by decide) (fun c3 => ?_) (fun c3 => ?_)
        · replace h := h.1 c3
          refine lv_iinc (v := (x2 + nI 1)) (lv' := [(2, .int (x2 + nI 1)), (0, .ref (ad 14)), (1, .int x1)]) hx hb dX5_lineOf_39 hl (k := 2) rfl rfl (by decide) rfl (fun ls hl => ?_)
          refine lv_goto (tgt := 2) hx hb dX5_lineOf_42 (by decide) ?_
          exact ih _ _ _ _ _ h hI (lv_sub hl [1, 2, 0] rfl)
        · replace h := h.2 c3
          refine lv_iload_n hx hb dX5_lineOf_37 rfl (lv_at hl 2 rfl) ?_
          exact k_iret hx hb hr hlocks hI h dX5_lineOf_38
set_option maxHeartbeats 4000000 in
set_option maxRecDepth 100000 in
theorem c_X5_lineOf (σ : St) (x1 : Int32) (Q : Int32 → St → Prop) (h : wp_X5_lineOf σ x1 Q) : Ci l D (tyE cyI cyZ) NwC (ZsC tL tS) (wC cyI cyZ ad) yX5_lineOf wsX5_lineOf r_X5_lineOf [.ref (ad 14), .int x1] σ Q := by
  refine k_metI (cc := cX5_lineOf) (maxL := 3) (ret := (some .int)) (by decide) rfl (Nat.le_of_ble_eq_true rfl) ?_
  intro p e s m below meth c A ls C hI hl
  obtain ⟨hx, hb, hr, hml, hown, hts, hlocks⟩ := id C
  have hl : lv_has ls 3 [(0, .ref (ad 14)), (1, .int x1)] := hl
  unfold wp_X5_lineOf at h
  refine lv_iconst (v := nI 0) hx hb dX5_lineOf_0 (by decide) ?_
  refine lv_istore_n (lv' := [(2, .int (nI 0)), (0, .ref (ad 14)), (1, .int x1)]) hx hb dX5_lineOf_1 rfl hl (by decide) rfl (fun ls hl => ?_)
  obtain ⟨k4, h⟩ := h
  exact t_X5_lineOf_2 C  k4 _ _ _ _ _ h hI (lv_sub hl [1, 2, 0] rfl)
theorem inX0_add_X0 : ∀ w ∈ wsX00, w ∈ wsX0_add := fun _ h => List.mem_cons_of_mem _ (List.mem_append_right _ (h))
theorem mX0_add_fieldLink_18_StillText_Marks_count_I : Cond.fieldLink RX0 18 "StillText$Marks" "count" "I" ∈ wsX0_add := List.mem_cons_of_mem _ (List.mem_append_left _ (List.mem_of_getElem? (i := 0) rfl))
theorem mX0_add_fieldLink_9_StillText_Marks_units_I : Cond.fieldLink RX0 9 "StillText$Marks" "units" "[I" ∈ wsX0_add := List.mem_cons_of_mem _ (List.mem_append_left _ (List.mem_of_getElem? (i := 1) rfl))
theorem mX0_add_fieldLink_15_StillText_Marks_kept_I : Cond.fieldLink RX0 15 "StillText$Marks" "kept" "[I" ∈ wsX0_add := List.mem_cons_of_mem _ (List.mem_append_left _ (List.mem_of_getElem? (i := 2) rfl))
set_option maxHeartbeats 4000000 in
set_option maxRecDepth 100000 in
theorem c_X0_add (σ : St) (x1 x2 : Int32) (Q : Int32 → St → Prop) (h : wp_X0_add σ x1 x2 Q) : Ci l D (tyE cyI cyZ) NwC (ZsC tL tS) (wC cyI cyZ ad) yX0_add wsX0_add r_X0_add [.ref (ad 27), .int x1, .int x2] σ Q := by
  refine k_metI (cc := cX0_add) (maxL := 3) (ret := (some .int)) (by decide) rfl (Nat.le_of_ble_eq_true rfl) ?_
  intro p e s m below meth c A ls C hI hl
  obtain ⟨hx, hb, hr, hml, hown, hts, hlocks⟩ := id C
  have hl : lv_has ls 3 [(0, .ref (ad 27)), (1, .int x1), (2, .int x2)] := hl
  unfold wp_X0_add at h
  refine lv_aload_n hx hb dX0_add_0 rfl (lv_at hl 0 rfl) ?_
  refine k_get (q0 := 27) (k := 2) (ci := 0) (v := .int (σ 27 2)) hx hb hts inX0_add_X0 hown hI rfl rfl (by decide) mX0_add_fieldLink_18_StillText_Marks_count_I rfl rfl dX0_add_1 ?_
  refine lv_bipush (v := nI 20) hx hb dX0_add_4 (by decide) ?_
  refine lv_icmp_lt (tgt := 11) hx hb dX0_add_6 (by decide) (fun c1 => ?_) (fun c1 => ?_)
  · replace h := h.1 c1
    refine lv_aload_n hx hb dX0_add_11 rfl (lv_at hl 0 rfl) ?_
    refine k_get (q0 := 27) (k := 0) (ci := 0) (v := .ref (ad 28)) hx hb hts inX0_add_X0 hown hI rfl rfl (by decide) mX0_add_fieldLink_9_StillText_Marks_units_I rfl rfl dX0_add_12 ?_
    refine lv_aload_n hx hb dX0_add_15 rfl (lv_at hl 0 rfl) ?_
    refine k_get (q0 := 27) (k := 2) (ci := 0) (v := .int (σ 27 2)) hx hb hts inX0_add_X0 hown hI rfl rfl (by decide) mX0_add_fieldLink_18_StillText_Marks_count_I rfl rfl dX0_add_16 ?_
    refine lv_iload_n hx hb dX0_add_19 rfl (lv_at hl 1 rfl) ?_
    refine k_iast (q0 := 28) (t0 := 0) (n := 20) (σ' := up2 σ 28 (σ 27 2).toNatClampNeg x1) hx hb hI rfl rfl h.1 (wsC_28 _ _ _ _ _ _) dX0_add_20 (fun H locs hI => ?_)
    replace h := h.2
    refine lv_aload_n hx hb dX0_add_21 rfl (lv_at hl 0 rfl) ?_
    refine k_get (q0 := 27) (k := 1) (ci := 0) (v := .ref (ad 29)) hx hb hts inX0_add_X0 hown hI rfl rfl (by decide) mX0_add_fieldLink_15_StillText_Marks_kept_I rfl rfl dX0_add_22 ?_
    refine lv_aload_n hx hb dX0_add_25 rfl (lv_at hl 0 rfl) ?_
    refine k_get (q0 := 27) (k := 2) (ci := 0) (v := .int (σ 27 2)) hx hb hts inX0_add_X0 hown hI rfl rfl (by decide) mX0_add_fieldLink_18_StillText_Marks_count_I rfl rfl dX0_add_26 ?_
    refine lv_iload_n hx hb dX0_add_29 rfl (lv_at hl 2 rfl) ?_
    refine k_iast (q0 := 29) (t0 := 0) (n := 20) (σ' := up2 (up2 σ 28 (σ 27 2).toNatClampNeg x1) 29 (σ 27 2).toNatClampNeg x2) hx hb hI rfl rfl h.1 (wsC_29 _ _ _ _ _ _) dX0_add_30 (fun H locs hI => ?_)
    replace h := h.2
    refine lv_aload_n hx hb dX0_add_31 rfl (lv_at hl 0 rfl) ?_
    refine lv_dup hx hb dX0_add_32 rfl ?_
    refine k_get (q0 := 27) (k := 2) (ci := 0) (v := .int (σ 27 2)) hx hb hts inX0_add_X0 hown hI rfl rfl (by decide) mX0_add_fieldLink_18_StillText_Marks_count_I rfl rfl dX0_add_33 ?_
    refine lv_iconst (v := nI 1) hx hb dX0_add_36 (by decide) ?_
    refine lv_iadd hx hb dX0_add_37 ?_
    refine k_put (q0 := 27) (k := 2) (ci := 0) (v := .int ((σ 27 2) + (nI 1))) (σ' := up2 (up2 (up2 σ 28 (σ 27 2).toNatClampNeg x1) 29 (σ 27 2).toNatClampNeg x2) 27 2 ((σ 27 2) + (nI 1))) hx hb hts inX0_add_X0 tyX0 tyX0_ok nmX0 hown hI rfl rfl (by decide) mX0_add_fieldLink_18_StillText_Marks_count_I rfl rfl rfl rfl (Nat.le_of_ble_eq_true rfl) (wsC_27_2 _ _ _ _ _) dX0_add_38 (fun H locs hI => ?_)
    refine lv_aload_n hx hb dX0_add_41 rfl (lv_at hl 0 rfl) ?_
    refine k_get (q0 := 27) (k := 2) (ci := 0) (v := .int ((σ 27 2) + (nI 1))) hx hb hts inX0_add_X0 hown hI rfl rfl (by decide) mX0_add_fieldLink_18_StillText_Marks_count_I rfl rfl dX0_add_42 ?_
    refine lv_iconst (v := nI 1) hx hb dX0_add_45 (by decide) ?_
    refine lv_isub hx hb dX0_add_46 ?_
    exact k_iret hx hb hr hlocks hI h dX0_add_47
  · replace h := h.2 c1
    refine lv_iconst (v := (-1)) hx hb dX0_add_9 (by decide) ?_
    exact k_iret hx hb hr hlocks hI h dX0_add_10
theorem inX10_mark_X10 : ∀ w ∈ wsX100, w ∈ wsX10_mark := fun _ h => List.mem_cons_of_mem _ (List.mem_append_left _ (List.mem_append_left _ (List.mem_append_left _ (List.mem_append_left _ (List.mem_append_right _ (h))))))
theorem mX10_mark_fieldLink_40_StillText_setting_LStillText_Setting : Cond.fieldLink RX10 40 "StillText" "setting" "LStillText$Setting;" ∈ wsX10_mark := List.mem_cons_of_mem _ (List.mem_append_left _ (List.mem_append_left _ (List.mem_append_left _ (List.mem_append_left _ (List.mem_append_left _ (List.mem_append_left _ (List.mem_of_getElem? (i := 0) rfl)))))))
theorem mX10_mark_fieldLink_26_StillText_units_LStillText_Units : Cond.fieldLink RX10 26 "StillText" "units" "LStillText$Units;" ∈ wsX10_mark := List.mem_cons_of_mem _ (List.mem_append_left _ (List.mem_append_left _ (List.mem_append_left _ (List.mem_append_left _ (List.mem_append_left _ (List.mem_append_left _ (List.mem_of_getElem? (i := 1) rfl)))))))
theorem mX10_mark_fieldLink_67_StillText_marks_LStillText_Marks : Cond.fieldLink RX10 67 "StillText" "marks" "LStillText$Marks;" ∈ wsX10_mark := List.mem_cons_of_mem _ (List.mem_append_left _ (List.mem_append_left _ (List.mem_append_left _ (List.mem_append_left _ (List.mem_append_left _ (List.mem_append_left _ (List.mem_of_getElem? (i := 2) rfl)))))))
theorem mX10_mark_fieldLink_60_StillText_pages_LStillText_Pages : Cond.fieldLink RX10 60 "StillText" "pages" "LStillText$Pages;" ∈ wsX10_mark := List.mem_cons_of_mem _ (List.mem_append_left _ (List.mem_append_left _ (List.mem_append_left _ (List.mem_append_left _ (List.mem_append_left _ (List.mem_append_left _ (List.mem_of_getElem? (i := 3) rfl)))))))
set_option maxHeartbeats 4000000 in
set_option maxRecDepth 100000 in
theorem c_X10_mark (σ : St) (x1 : Int32) (Q : Int32 → St → Prop) (h : wp_X10_mark σ x1 Q) : Ci l D (tyE cyI cyZ) NwC (ZsC tL tS) (wC cyI cyZ ad) yX10_mark wsX10_mark r_X10_mark [.ref (ad 0), .int x1] σ Q := by
  refine k_metI (cc := cX10_mark) (maxL := 2) (ret := (some .int)) (by decide) rfl (Nat.le_of_ble_eq_true rfl) ?_
  intro p e s m below meth c A ls C hI hl
  obtain ⟨hx, hb, hr, hml, hown, hts, hlocks⟩ := id C
  have hl : lv_has ls 2 [(0, .ref (ad 0)), (1, .int x1)] := hl
  unfold wp_X10_mark at h
  refine lv_aload_n hx hb dX10_mark_0 rfl (lv_at hl 0 rfl) ?_
  refine k_get (q0 := 0) (k := 4) (ci := 10) (v := .ref (ad 14)) hx hb hts inX10_mark_X10 hown hI rfl rfl (by decide) mX10_mark_fieldLink_40_StillText_setting_LStillText_Setting rfl rfl dX10_mark_1 ?_
  refine k_cVi (As := []) (rest := []) C (c_X5_isOfText σ  _ h) (cwV 0 hts gX10_mark_X5_isOfText rfl rfl rfl hdX5_isOfText ⟨Nat.le_of_ble_eq_true rfl, Nat.le_of_ble_eq_true rfl⟩) hI 14 rfl rfl rfl hl.1 rfl (Nat.le_of_ble_eq_true rfl) dX10_mark_4 ⟨Nat.le_of_ble_eq_true rfl, Nat.le_of_ble_eq_true rfl⟩ (fun r1 σ2 H locs h hI => ?_)
  refine lv_if_eq (tgt := 21) hx hb dX10_mark_7 (by decide) (fun c3 => ?_) (fun c3 => ?_)
  · replace h := h.1 c3
    refine lv_iconst (v := (-1)) hx hb dX10_mark_21 (by decide) ?_
    exact k_iret hx hb hr hlocks hI h dX10_mark_22
  · replace h := h.2 c3
    refine lv_aload_n hx hb dX10_mark_10 rfl (lv_at hl 0 rfl) ?_
    refine k_get (q0 := 0) (k := 2) (ci := 10) (v := .ref (ad 8)) hx hb hts inX10_mark_X10 hown hI rfl rfl (by decide) mX10_mark_fieldLink_26_StillText_units_LStillText_Units rfl rfl dX10_mark_11 ?_
    refine lv_iload_n hx hb dX10_mark_14 rfl (lv_at hl 1 rfl) ?_
    refine k_cVi (As := [.int x1]) (rest := []) C (c_X9_has σ2 x1 _ h) (cwV 1 hts gX10_mark_X9_has rfl rfl rfl hdX9_has ⟨Nat.le_of_ble_eq_true rfl, Nat.le_of_ble_eq_true rfl⟩) hI 8 rfl rfl rfl hl.1 rfl (Nat.le_of_ble_eq_true rfl) dX10_mark_15 ⟨Nat.le_of_ble_eq_true rfl, Nat.le_of_ble_eq_true rfl⟩ (fun r4 σ5 H locs h hI => ?_)
    refine lv_if_ne (tgt := 23) hx hb dX10_mark_18 (by decide) (fun c6 => ?_) (fun c6 => ?_)
    · replace h := h.1 c6
      refine lv_aload_n hx hb dX10_mark_23 rfl (lv_at hl 0 rfl) ?_
      refine k_get (q0 := 0) (k := 7) (ci := 10) (v := .ref (ad 27)) hx hb hts inX10_mark_X10 hown hI rfl rfl (by decide) mX10_mark_fieldLink_67_StillText_marks_LStillText_Marks rfl rfl dX10_mark_24 ?_
      refine lv_iload_n hx hb dX10_mark_27 rfl (lv_at hl 1 rfl) ?_
      refine lv_aload_n hx hb dX10_mark_28 rfl (lv_at hl 0 rfl) ?_
      refine k_get (q0 := 0) (k := 6) (ci := 10) (v := .ref (ad 26)) hx hb hts inX10_mark_X10 hown hI rfl rfl (by decide) mX10_mark_fieldLink_60_StillText_pages_LStillText_Pages rfl rfl dX10_mark_29 ?_
      refine lv_aload_n hx hb dX10_mark_32 rfl (lv_at hl 0 rfl) ?_
      refine k_get (q0 := 0) (k := 4) (ci := 10) (v := .ref (ad 14)) hx hb hts inX10_mark_X10 hown hI rfl rfl (by decide) mX10_mark_fieldLink_40_StillText_setting_LStillText_Setting rfl rfl dX10_mark_33 ?_
      refine lv_iload_n hx hb dX10_mark_36 rfl (lv_at hl 1 rfl) ?_
      refine k_cVi (As := [.int x1]) (rest := [.ref (ad 26), .int x1, .ref (ad 27)]) C (c_X5_lineOf σ5 x1 _ h) (cwV 1 hts gX10_mark_X5_lineOf rfl rfl rfl hdX5_lineOf ⟨Nat.le_of_ble_eq_true rfl, Nat.le_of_ble_eq_true rfl⟩) hI 14 rfl rfl rfl hl.1 rfl (Nat.le_of_ble_eq_true rfl) dX10_mark_37 ⟨Nat.le_of_ble_eq_true rfl, Nat.le_of_ble_eq_true rfl⟩ (fun r7 σ8 H locs h hI => ?_)
      refine k_cVi (As := [.int r7]) (rest := [.int x1, .ref (ad 27)]) C (c_X2_pageOf σ8 r7 _ h) (cwV 1 hts gX10_mark_X2_pageOf rfl rfl rfl hdX2_pageOf ⟨Nat.le_of_ble_eq_true rfl, Nat.le_of_ble_eq_true rfl⟩) hI 26 rfl rfl rfl hl.1 rfl (Nat.le_of_ble_eq_true rfl) dX10_mark_40 ⟨Nat.le_of_ble_eq_true rfl, Nat.le_of_ble_eq_true rfl⟩ (fun r9 σ10 H locs h hI => ?_)
      refine k_cVi (As := [.int x1, .int r9]) (rest := []) C (c_X0_add σ10 x1 r9 _ h) (cwV 2 hts gX10_mark_X0_add rfl rfl rfl hdX0_add ⟨Nat.le_of_ble_eq_true rfl, Nat.le_of_ble_eq_true rfl⟩) hI 27 rfl rfl rfl hl.1 rfl (Nat.le_of_ble_eq_true rfl) dX10_mark_43 ⟨Nat.le_of_ble_eq_true rfl, Nat.le_of_ble_eq_true rfl⟩ (fun r11 σ12 H locs h hI => ?_)
      exact k_iret hx hb hr hlocks hI h dX10_mark_46
    · replace h := h.2 c6
      refine lv_iconst (v := (-1)) hx hb dX10_mark_21 (by decide) ?_
      exact k_iret hx hb hr hlocks hI h dX10_mark_22
theorem inX0_has_X0 : ∀ w ∈ wsX00, w ∈ wsX0_has := fun _ h => List.mem_cons_of_mem _ (List.mem_append_right _ (h))
theorem mX0_has_fieldLink_18_StillText_Marks_count_I : Cond.fieldLink RX0 18 "StillText$Marks" "count" "I" ∈ wsX0_has := List.mem_cons_of_mem _ (List.mem_append_left _ (List.mem_of_getElem? (i := 0) rfl))
set_option maxHeartbeats 4000000 in
set_option maxRecDepth 100000 in
theorem c_X0_has (σ : St) (x1 : Int32) (Q : Int32 → St → Prop) (h : wp_X0_has σ x1 Q) : Ci l D (tyE cyI cyZ) NwC (ZsC tL tS) (wC cyI cyZ ad) yX0_has wsX0_has r_X0_has [.ref (ad 27), .int x1] σ Q := by
  refine k_metI (cc := cX0_has) (maxL := 2) (ret := (some .boolean)) (by decide) rfl (Nat.le_of_ble_eq_true rfl) ?_
  intro p e s m below meth c A ls C hI hl
  obtain ⟨hx, hb, hr, hml, hown, hts, hlocks⟩ := id C
  have hl : lv_has ls 2 [(0, .ref (ad 27)), (1, .int x1)] := hl
  unfold wp_X0_has at h
  refine lv_iload_n hx hb dX0_has_0 rfl (lv_at hl 1 rfl) ?_
  refine lv_if_lt (tgt := 16) hx hb dX0_has_1 (by decide) (fun c1 => ?_) (fun c1 => ?_)
  · replace h := h.1 c1
    refine lv_iconst (v := nI 0) hx hb dX0_has_16 (by decide) ?_
    exact k_zret hx hb hr hlocks hI (Or.inl rfl) h dX0_has_17
  · replace h := h.2 c1
    refine lv_iload_n hx hb dX0_has_4 rfl (lv_at hl 1 rfl) ?_
    refine lv_aload_n hx hb dX0_has_5 rfl (lv_at hl 0 rfl) ?_
    refine k_get (q0 := 27) (k := 2) (ci := 0) (v := .int (σ 27 2)) hx hb hts inX0_has_X0 hown hI rfl rfl (by decide) mX0_has_fieldLink_18_StillText_Marks_count_I rfl rfl dX0_has_6 ?_
    refine lv_icmp_ge (tgt := 16) hx hb dX0_has_9 (by decide) (fun c2 => ?_) (fun c2 => ?_)
    · replace h := h.1 c2
      refine lv_iconst (v := nI 0) hx hb dX0_has_16 (by decide) ?_
      exact k_zret hx hb hr hlocks hI (Or.inl rfl) h dX0_has_17
    · replace h := h.2 c2
      refine lv_iconst (v := nI 1) hx hb dX0_has_12 (by decide) ?_
      refine lv_goto (tgt := 17) hx hb dX0_has_13 (by decide) ?_
      exact k_zret hx hb hr hlocks hI (Or.inr rfl) h dX0_has_17
theorem inX0_unitOf_X0 : ∀ w ∈ wsX00, w ∈ wsX0_unitOf := fun _ h => List.mem_cons_of_mem _ (List.mem_append_right _ (h))
theorem mX0_unitOf_fieldLink_9_StillText_Marks_units_I : Cond.fieldLink RX0 9 "StillText$Marks" "units" "[I" ∈ wsX0_unitOf := List.mem_cons_of_mem _ (List.mem_append_left _ (List.mem_of_getElem? (i := 0) rfl))
set_option maxHeartbeats 4000000 in
set_option maxRecDepth 100000 in
theorem c_X0_unitOf (σ : St) (x1 : Int32) (Q : Int32 → St → Prop) (h : wp_X0_unitOf σ x1 Q) : Ci l D (tyE cyI cyZ) NwC (ZsC tL tS) (wC cyI cyZ ad) yX0_unitOf wsX0_unitOf r_X0_unitOf [.ref (ad 27), .int x1] σ Q := by
  refine k_metI (cc := cX0_unitOf) (maxL := 2) (ret := (some .int)) (by decide) rfl (Nat.le_of_ble_eq_true rfl) ?_
  intro p e s m below meth c A ls C hI hl
  obtain ⟨hx, hb, hr, hml, hown, hts, hlocks⟩ := id C
  have hl : lv_has ls 2 [(0, .ref (ad 27)), (1, .int x1)] := hl
  unfold wp_X0_unitOf at h
  refine lv_aload_n hx hb dX0_unitOf_0 rfl (lv_at hl 0 rfl) ?_
  refine lv_iload_n hx hb dX0_unitOf_1 rfl (lv_at hl 1 rfl) ?_
  refine k_cVi (As := [.int x1]) (rest := []) C (c_X0_has σ x1 _ h) (cwV 1 hts gX0_unitOf_X0_has rfl rfl rfl hdX0_has ⟨Nat.le_of_ble_eq_true rfl, Nat.le_of_ble_eq_true rfl⟩) hI 27 rfl rfl rfl hl.1 rfl (Nat.le_of_ble_eq_true rfl) dX0_unitOf_2 ⟨Nat.le_of_ble_eq_true rfl, Nat.le_of_ble_eq_true rfl⟩ (fun r1 σ2 H locs h hI => ?_)
  refine lv_if_eq (tgt := 17) hx hb dX0_unitOf_5 (by decide) (fun c3 => ?_) (fun c3 => ?_)
  · replace h := h.1 c3
    refine lv_iconst (v := (-1)) hx hb dX0_unitOf_17 (by decide) ?_
    exact k_iret hx hb hr hlocks hI h dX0_unitOf_18
  · replace h := h.2 c3
    refine lv_aload_n hx hb dX0_unitOf_8 rfl (lv_at hl 0 rfl) ?_
    refine k_get (q0 := 27) (k := 0) (ci := 0) (v := .ref (ad 28)) hx hb hts inX0_unitOf_X0 hown hI rfl rfl (by decide) mX0_unitOf_fieldLink_9_StillText_Marks_units_I rfl rfl dX0_unitOf_9 ?_
    refine lv_iload_n hx hb dX0_unitOf_12 rfl (lv_at hl 1 rfl) ?_
    refine k_iald (q0 := 28) (t0 := 0) (n := 20) (f := σ2 28) hx hb hI rfl rfl h.1 dX0_unitOf_13 ?_
    replace h := h.2
    refine lv_goto (tgt := 18) hx hb dX0_unitOf_14 (by decide) ?_
    exact k_iret hx hb hr hlocks hI h dX0_unitOf_18
theorem inX0_pageOf_X0 : ∀ w ∈ wsX00, w ∈ wsX0_pageOf := fun _ h => List.mem_cons_of_mem _ (List.mem_append_right _ (h))
theorem mX0_pageOf_fieldLink_15_StillText_Marks_kept_I : Cond.fieldLink RX0 15 "StillText$Marks" "kept" "[I" ∈ wsX0_pageOf := List.mem_cons_of_mem _ (List.mem_append_left _ (List.mem_of_getElem? (i := 0) rfl))
set_option maxHeartbeats 4000000 in
set_option maxRecDepth 100000 in
theorem c_X0_pageOf (σ : St) (x1 : Int32) (Q : Int32 → St → Prop) (h : wp_X0_pageOf σ x1 Q) : Ci l D (tyE cyI cyZ) NwC (ZsC tL tS) (wC cyI cyZ ad) yX0_pageOf wsX0_pageOf r_X0_pageOf [.ref (ad 27), .int x1] σ Q := by
  refine k_metI (cc := cX0_pageOf) (maxL := 2) (ret := (some .int)) (by decide) rfl (Nat.le_of_ble_eq_true rfl) ?_
  intro p e s m below meth c A ls C hI hl
  obtain ⟨hx, hb, hr, hml, hown, hts, hlocks⟩ := id C
  have hl : lv_has ls 2 [(0, .ref (ad 27)), (1, .int x1)] := hl
  unfold wp_X0_pageOf at h
  refine lv_aload_n hx hb dX0_pageOf_0 rfl (lv_at hl 0 rfl) ?_
  refine lv_iload_n hx hb dX0_pageOf_1 rfl (lv_at hl 1 rfl) ?_
  refine k_cVi (As := [.int x1]) (rest := []) C (c_X0_has σ x1 _ h) (cwV 1 hts gX0_pageOf_X0_has rfl rfl rfl hdX0_has ⟨Nat.le_of_ble_eq_true rfl, Nat.le_of_ble_eq_true rfl⟩) hI 27 rfl rfl rfl hl.1 rfl (Nat.le_of_ble_eq_true rfl) dX0_pageOf_2 ⟨Nat.le_of_ble_eq_true rfl, Nat.le_of_ble_eq_true rfl⟩ (fun r1 σ2 H locs h hI => ?_)
  refine lv_if_eq (tgt := 17) hx hb dX0_pageOf_5 (by decide) (fun c3 => ?_) (fun c3 => ?_)
  · replace h := h.1 c3
    refine lv_iconst (v := (-1)) hx hb dX0_pageOf_17 (by decide) ?_
    exact k_iret hx hb hr hlocks hI h dX0_pageOf_18
  · replace h := h.2 c3
    refine lv_aload_n hx hb dX0_pageOf_8 rfl (lv_at hl 0 rfl) ?_
    refine k_get (q0 := 27) (k := 1) (ci := 0) (v := .ref (ad 29)) hx hb hts inX0_pageOf_X0 hown hI rfl rfl (by decide) mX0_pageOf_fieldLink_15_StillText_Marks_kept_I rfl rfl dX0_pageOf_9 ?_
    refine lv_iload_n hx hb dX0_pageOf_12 rfl (lv_at hl 1 rfl) ?_
    refine k_iald (q0 := 29) (t0 := 0) (n := 20) (f := σ2 29) hx hb hI rfl rfl h.1 dX0_pageOf_13 ?_
    replace h := h.2
    refine lv_goto (tgt := 18) hx hb dX0_pageOf_14 (by decide) ?_
    exact k_iret hx hb hr hlocks hI h dX0_pageOf_18
theorem inX10_shiftOf_X10 : ∀ w ∈ wsX100, w ∈ wsX10_shiftOf := fun _ h => List.mem_cons_of_mem _ (List.mem_append_left _ (List.mem_append_left _ (List.mem_append_left _ (List.mem_append_right _ (h)))))
theorem mX10_shiftOf_fieldLink_40_StillText_setting_LStillText_Setting : Cond.fieldLink RX10 40 "StillText" "setting" "LStillText$Setting;" ∈ wsX10_shiftOf := List.mem_cons_of_mem _ (List.mem_append_left _ (List.mem_append_left _ (List.mem_append_left _ (List.mem_append_left _ (List.mem_append_left _ (List.mem_of_getElem? (i := 0) rfl))))))
theorem mX10_shiftOf_fieldLink_60_StillText_pages_LStillText_Pages : Cond.fieldLink RX10 60 "StillText" "pages" "LStillText$Pages;" ∈ wsX10_shiftOf := List.mem_cons_of_mem _ (List.mem_append_left _ (List.mem_append_left _ (List.mem_append_left _ (List.mem_append_left _ (List.mem_append_left _ (List.mem_of_getElem? (i := 1) rfl))))))
theorem mX10_shiftOf_fieldLink_67_StillText_marks_LStillText_Marks : Cond.fieldLink RX10 67 "StillText" "marks" "LStillText$Marks;" ∈ wsX10_shiftOf := List.mem_cons_of_mem _ (List.mem_append_left _ (List.mem_append_left _ (List.mem_append_left _ (List.mem_append_left _ (List.mem_append_left _ (List.mem_of_getElem? (i := 2) rfl))))))
set_option maxHeartbeats 4000000 in
set_option maxRecDepth 100000 in
theorem c_X10_shiftOf (σ : St) (x1 : Int32) (Q : Int32 → St → Prop) (h : wp_X10_shiftOf σ x1 Q) : Ci l D (tyE cyI cyZ) NwC (ZsC tL tS) (wC cyI cyZ ad) yX10_shiftOf wsX10_shiftOf r_X10_shiftOf [.ref (ad 0), .int x1] σ Q := by
  refine k_metI (cc := cX10_shiftOf) (maxL := 2) (ret := (some .int)) (by decide) rfl (Nat.le_of_ble_eq_true rfl) ?_
  intro p e s m below meth c A ls C hI hl
  obtain ⟨hx, hb, hr, hml, hown, hts, hlocks⟩ := id C
  have hl : lv_has ls 2 [(0, .ref (ad 0)), (1, .int x1)] := hl
  unfold wp_X10_shiftOf at h
  refine lv_aload_n hx hb dX10_shiftOf_0 rfl (lv_at hl 0 rfl) ?_
  refine k_get (q0 := 0) (k := 4) (ci := 10) (v := .ref (ad 14)) hx hb hts inX10_shiftOf_X10 hown hI rfl rfl (by decide) mX10_shiftOf_fieldLink_40_StillText_setting_LStillText_Setting rfl rfl dX10_shiftOf_1 ?_
  refine k_cVi (As := []) (rest := []) C (c_X5_isOfText σ  _ h) (cwV 0 hts gX10_shiftOf_X5_isOfText rfl rfl rfl hdX5_isOfText ⟨Nat.le_of_ble_eq_true rfl, Nat.le_of_ble_eq_true rfl⟩) hI 14 rfl rfl rfl hl.1 rfl (Nat.le_of_ble_eq_true rfl) dX10_shiftOf_4 ⟨Nat.le_of_ble_eq_true rfl, Nat.le_of_ble_eq_true rfl⟩ (fun r1 σ2 H locs h hI => ?_)
  refine lv_if_ne (tgt := 14) hx hb dX10_shiftOf_7 (by decide) (fun c3 => ?_) (fun c3 => ?_)
  · replace h := h.1 c3
    refine lv_aload_n hx hb dX10_shiftOf_14 rfl (lv_at hl 0 rfl) ?_
    refine k_get (q0 := 0) (k := 6) (ci := 10) (v := .ref (ad 26)) hx hb hts inX10_shiftOf_X10 hown hI rfl rfl (by decide) mX10_shiftOf_fieldLink_60_StillText_pages_LStillText_Pages rfl rfl dX10_shiftOf_15 ?_
    refine lv_aload_n hx hb dX10_shiftOf_18 rfl (lv_at hl 0 rfl) ?_
    refine k_get (q0 := 0) (k := 4) (ci := 10) (v := .ref (ad 14)) hx hb hts inX10_shiftOf_X10 hown hI rfl rfl (by decide) mX10_shiftOf_fieldLink_40_StillText_setting_LStillText_Setting rfl rfl dX10_shiftOf_19 ?_
    refine lv_aload_n hx hb dX10_shiftOf_22 rfl (lv_at hl 0 rfl) ?_
    refine k_get (q0 := 0) (k := 7) (ci := 10) (v := .ref (ad 27)) hx hb hts inX10_shiftOf_X10 hown hI rfl rfl (by decide) mX10_shiftOf_fieldLink_67_StillText_marks_LStillText_Marks rfl rfl dX10_shiftOf_23 ?_
    refine lv_iload_n hx hb dX10_shiftOf_26 rfl (lv_at hl 1 rfl) ?_
    refine k_cVi (As := [.int x1]) (rest := [.ref (ad 14), .ref (ad 26)]) C (c_X0_unitOf σ2 x1 _ h) (cwV 1 hts gX10_shiftOf_X0_unitOf rfl rfl rfl hdX0_unitOf ⟨Nat.le_of_ble_eq_true rfl, Nat.le_of_ble_eq_true rfl⟩) hI 27 rfl rfl rfl hl.1 rfl (Nat.le_of_ble_eq_true rfl) dX10_shiftOf_27 ⟨Nat.le_of_ble_eq_true rfl, Nat.le_of_ble_eq_true rfl⟩ (fun r4 σ5 H locs h hI => ?_)
    refine k_cVi (As := [.int r4]) (rest := [.ref (ad 26)]) C (c_X5_lineOf σ5 r4 _ h) (cwV 1 hts gX10_shiftOf_X5_lineOf rfl rfl rfl hdX5_lineOf ⟨Nat.le_of_ble_eq_true rfl, Nat.le_of_ble_eq_true rfl⟩) hI 14 rfl rfl rfl hl.1 rfl (Nat.le_of_ble_eq_true rfl) dX10_shiftOf_30 ⟨Nat.le_of_ble_eq_true rfl, Nat.le_of_ble_eq_true rfl⟩ (fun r6 σ7 H locs h hI => ?_)
    refine k_cVi (As := [.int r6]) (rest := []) C (c_X2_pageOf σ7 r6 _ h) (cwV 1 hts gX10_shiftOf_X2_pageOf rfl rfl rfl hdX2_pageOf ⟨Nat.le_of_ble_eq_true rfl, Nat.le_of_ble_eq_true rfl⟩) hI 26 rfl rfl rfl hl.1 rfl (Nat.le_of_ble_eq_true rfl) dX10_shiftOf_33 ⟨Nat.le_of_ble_eq_true rfl, Nat.le_of_ble_eq_true rfl⟩ (fun r8 σ9 H locs h hI => ?_)
    refine lv_aload_n hx hb dX10_shiftOf_36 rfl (lv_at hl 0 rfl) ?_
    refine k_get (q0 := 0) (k := 7) (ci := 10) (v := .ref (ad 27)) hx hb hts inX10_shiftOf_X10 hown hI rfl rfl (by decide) mX10_shiftOf_fieldLink_67_StillText_marks_LStillText_Marks rfl rfl dX10_shiftOf_37 ?_
    refine lv_iload_n hx hb dX10_shiftOf_40 rfl (lv_at hl 1 rfl) ?_
    refine k_cVi (As := [.int x1]) (rest := [.int r8]) C (c_X0_pageOf σ9 x1 _ h) (cwV 1 hts gX10_shiftOf_X0_pageOf rfl rfl rfl hdX0_pageOf ⟨Nat.le_of_ble_eq_true rfl, Nat.le_of_ble_eq_true rfl⟩) hI 27 rfl rfl rfl hl.1 rfl (Nat.le_of_ble_eq_true rfl) dX10_shiftOf_41 ⟨Nat.le_of_ble_eq_true rfl, Nat.le_of_ble_eq_true rfl⟩ (fun r10 σ11 H locs h hI => ?_)
    refine lv_isub hx hb dX10_shiftOf_44 ?_
    exact k_iret hx hb hr hlocks hI h dX10_shiftOf_45
  · replace h := h.2 c3
    refine lv_sipush (v := (-1000)) hx hb dX10_shiftOf_10 (by decide) ?_
    exact k_iret hx hb hr hlocks hI h dX10_shiftOf_13
theorem inX10_marked_X10 : ∀ w ∈ wsX100, w ∈ wsX10_marked := fun _ h => List.mem_cons_of_mem _ (List.mem_append_left _ (List.mem_append_left _ (List.mem_append_left _ (List.mem_append_right _ (h)))))
theorem mX10_marked_fieldLink_67_StillText_marks_LStillText_Marks : Cond.fieldLink RX10 67 "StillText" "marks" "LStillText$Marks;" ∈ wsX10_marked := List.mem_cons_of_mem _ (List.mem_append_left _ (List.mem_append_left _ (List.mem_append_left _ (List.mem_append_left _ (List.mem_append_left _ (List.mem_of_getElem? (i := 0) rfl))))))
set_option maxHeartbeats 4000000 in
set_option maxRecDepth 100000 in
theorem c_X10_marked (σ : St) (x1 x2 : Int32) (Q : Int32 → St → Prop) (h : wp_X10_marked σ x1 x2 Q) : Ci l D (tyE cyI cyZ) NwC (ZsC tL tS) (wC cyI cyZ ad) yX10_marked wsX10_marked r_X10_marked [.ref (ad 0), .int x1, .int x2] σ Q := by
  refine k_metI (cc := cX10_marked) (maxL := 3) (ret := (some .int)) (by decide) rfl (Nat.le_of_ble_eq_true rfl) ?_
  intro p e s m below meth c A ls C hI hl
  obtain ⟨hx, hb, hr, hml, hown, hts, hlocks⟩ := id C
  have hl : lv_has ls 3 [(0, .ref (ad 0)), (1, .int x1), (2, .int x2)] := hl
  unfold wp_X10_marked at h
  refine lv_aload_n hx hb dX10_marked_0 rfl (lv_at hl 0 rfl) ?_
  refine k_get (q0 := 0) (k := 7) (ci := 10) (v := .ref (ad 27)) hx hb hts inX10_marked_X10 hown hI rfl rfl (by decide) mX10_marked_fieldLink_67_StillText_marks_LStillText_Marks rfl rfl dX10_marked_1 ?_
  refine lv_iload_n hx hb dX10_marked_4 rfl (lv_at hl 1 rfl) ?_
  refine k_cVi (As := [.int x1]) (rest := []) C (c_X0_has σ x1 _ h) (cwV 1 hts gX10_marked_X0_has rfl rfl rfl hdX0_has ⟨Nat.le_of_ble_eq_true rfl, Nat.le_of_ble_eq_true rfl⟩) hI 27 rfl rfl rfl hl.1 rfl (Nat.le_of_ble_eq_true rfl) dX10_marked_5 ⟨Nat.le_of_ble_eq_true rfl, Nat.le_of_ble_eq_true rfl⟩ (fun r1 σ2 H locs h hI => ?_)
  refine lv_if_ne (tgt := 13) hx hb dX10_marked_8 (by decide) (fun c3 => ?_) (fun c3 => ?_)
  · replace h := h.1 c3
    refine lv_iload_n hx hb dX10_marked_13 rfl (lv_at hl 2 rfl) ?_
    by_cases c4 : x2 = nI 0
    · replace h := h.1 c4
      refine lv_tableIn (off := 26) (tgt := 40) hx hb dX10_marked_14 (by rw [c4]; decide) (by rw [c4]; decide) (by rw [c4]; rfl) (by decide) ?_
      refine lv_aload_n hx hb dX10_marked_40 rfl (lv_at hl 0 rfl) ?_
      refine k_get (q0 := 0) (k := 7) (ci := 10) (v := .ref (ad 27)) hx hb hts inX10_marked_X10 hown hI rfl rfl (by decide) mX10_marked_fieldLink_67_StillText_marks_LStillText_Marks rfl rfl dX10_marked_41 ?_
      refine lv_iload_n hx hb dX10_marked_44 rfl (lv_at hl 1 rfl) ?_
      refine k_cVi (As := [.int x1]) (rest := []) C (c_X0_unitOf σ2 x1 _ h) (cwV 1 hts gX10_marked_X0_unitOf rfl rfl rfl hdX0_unitOf ⟨Nat.le_of_ble_eq_true rfl, Nat.le_of_ble_eq_true rfl⟩) hI 27 rfl rfl rfl hl.1 rfl (Nat.le_of_ble_eq_true rfl) dX10_marked_45 ⟨Nat.le_of_ble_eq_true rfl, Nat.le_of_ble_eq_true rfl⟩ (fun r5 σ6 H locs h hI => ?_)
      exact k_iret hx hb hr hlocks hI h dX10_marked_48
    · replace h := h.2 c4
      by_cases c7 : x2 = nI 1
      · replace h := h.1 c7
        refine lv_tableIn (off := 35) (tgt := 49) hx hb dX10_marked_14 (by rw [c7]; decide) (by rw [c7]; decide) (by rw [c7]; rfl) (by decide) ?_
        refine lv_aload_n hx hb dX10_marked_49 rfl (lv_at hl 0 rfl) ?_
        refine k_get (q0 := 0) (k := 7) (ci := 10) (v := .ref (ad 27)) hx hb hts inX10_marked_X10 hown hI rfl rfl (by decide) mX10_marked_fieldLink_67_StillText_marks_LStillText_Marks rfl rfl dX10_marked_50 ?_
        refine lv_iload_n hx hb dX10_marked_53 rfl (lv_at hl 1 rfl) ?_
        refine k_cVi (As := [.int x1]) (rest := []) C (c_X0_pageOf σ2 x1 _ h) (cwV 1 hts gX10_marked_X0_pageOf rfl rfl rfl hdX0_pageOf ⟨Nat.le_of_ble_eq_true rfl, Nat.le_of_ble_eq_true rfl⟩) hI 27 rfl rfl rfl hl.1 rfl (Nat.le_of_ble_eq_true rfl) dX10_marked_54 ⟨Nat.le_of_ble_eq_true rfl, Nat.le_of_ble_eq_true rfl⟩ (fun r8 σ9 H locs h hI => ?_)
        exact k_iret hx hb hr hlocks hI h dX10_marked_57
      · replace h := h.2 c7
        by_cases c10 : x2 = nI 2
        · replace h := h.1 c10
          refine lv_tableIn (off := 44) (tgt := 58) hx hb dX10_marked_14 (by rw [c10]; decide) (by rw [c10]; decide) (by rw [c10]; rfl) (by decide) ?_
          refine lv_aload_n hx hb dX10_marked_58 rfl (lv_at hl 0 rfl) ?_
          refine lv_iload_n hx hb dX10_marked_59 rfl (lv_at hl 1 rfl) ?_
          refine k_cVi (As := [.int x1]) (rest := []) C (c_X10_shiftOf σ2 x1 _ h) (cwV 1 hts gX10_marked_X10_shiftOf rfl rfl rfl hdX10_shiftOf ⟨Nat.le_of_ble_eq_true rfl, Nat.le_of_ble_eq_true rfl⟩) hI 0 rfl rfl rfl hl.1 rfl (Nat.le_of_ble_eq_true rfl) dX10_marked_60 ⟨Nat.le_of_ble_eq_true rfl, Nat.le_of_ble_eq_true rfl⟩ (fun r11 σ12 H locs h hI => ?_)
          exact k_iret hx hb hr hlocks hI h dX10_marked_63
        · replace h := h.2 c10
          have ec4 := lv_neT c4 (a := 0) (by decide)
          have ec7 := lv_neT c7 (a := 1) (by decide)
          have ec10 := lv_neT c10 (a := 2) (by decide)
          refine lv_tableOut (tgt := 64) hx hb dX10_marked_14 (by omega) (by decide) ?_
          refine lv_iconst (v := (-1)) hx hb dX10_marked_64 (by decide) ?_
          exact k_iret hx hb hr hlocks hI h dX10_marked_65
  · replace h := h.2 c3
    refine lv_iconst (v := (-1)) hx hb dX10_marked_11 (by decide) ?_
    exact k_iret hx hb hr hlocks hI h dX10_marked_12
theorem mX8_isOnGrid_initialized : Cond.initialized RX10 ∈ wsX8_isOnGrid := List.mem_cons_of_mem _ (List.mem_of_getElem? (i := 1) rfl)
theorem mX8_isOnGrid_static_yX10_within : Cond.static yX10_within ∈ wsX8_isOnGrid := List.mem_cons_of_mem _ (List.mem_of_getElem? (i := 0) rfl)
set_option maxHeartbeats 4000000 in
set_option maxRecDepth 100000 in
theorem c_X8_isOnGrid (σ : St) (x0 x1 : Int32) (Q : Int32 → St → Prop) (h : wp_X8_isOnGrid σ x0 x1 Q) : Ci l D (tyE cyI cyZ) NwC (ZsC tL tS) (wC cyI cyZ ad) yX8_isOnGrid wsX8_isOnGrid r_X8_isOnGrid [.int x0, .int x1] σ Q := by
  refine k_metI (cc := cX8_isOnGrid) (maxL := 2) (ret := (some .boolean)) (by decide) rfl (Nat.le_of_ble_eq_true rfl) ?_
  intro p e s m below meth c A ls C hI hl
  obtain ⟨hx, hb, hr, hml, hown, hts, hlocks⟩ := id C
  have hl : lv_has ls 2 [(0, .int x0), (1, .int x1)] := hl
  unfold wp_X8_isOnGrid at h
  refine lv_iload_n hx hb dX8_isOnGrid_0 rfl (lv_at hl 0 rfl) ?_
  refine lv_iconst (v := nI 0) hx hb dX8_isOnGrid_1 (by decide) ?_
  refine lv_bipush (v := nI 10) hx hb dX8_isOnGrid_2 (by decide) ?_
  refine k_cNi (As := [.int x0, .int (nI 0), .int (nI 10)]) (rest := []) (host := RX10) C (c_X10_within σ x0 (nI 0) (nI 10) _ h) gX8_isOnGrid_X10_within_n36 rfl rfl rfl (List.mem_of_getElem? (i := 5) rfl) mX8_isOnGrid_initialized mX8_isOnGrid_static_yX10_within hdX10_within ⟨Nat.le_of_ble_eq_true rfl, Nat.le_of_ble_eq_true rfl⟩ hI rfl hl.1 rfl (Nat.le_of_ble_eq_true rfl) dX8_isOnGrid_4 ⟨Nat.le_of_ble_eq_true rfl, Nat.le_of_ble_eq_true rfl⟩ (fun r1 σ2 H locs h hI => ?_)
  refine lv_if_eq (tgt := 23) hx hb dX8_isOnGrid_7 (by decide) (fun c3 => ?_) (fun c3 => ?_)
  · replace h := h.1 c3
    refine lv_iconst (v := nI 0) hx hb dX8_isOnGrid_23 (by decide) ?_
    exact k_zret hx hb hr hlocks hI (Or.inl rfl) h dX8_isOnGrid_24
  · replace h := h.2 c3
    refine lv_iload_n hx hb dX8_isOnGrid_10 rfl (lv_at hl 1 rfl) ?_
    refine lv_iconst (v := nI 0) hx hb dX8_isOnGrid_11 (by decide) ?_
    refine lv_iconst (v := nI 2) hx hb dX8_isOnGrid_12 (by decide) ?_
    refine k_cNi (As := [.int x1, .int (nI 0), .int (nI 2)]) (rest := []) (host := RX10) C (c_X10_within σ2 x1 (nI 0) (nI 2) _ h) gX8_isOnGrid_X10_within_n36 rfl rfl rfl (List.mem_of_getElem? (i := 5) rfl) mX8_isOnGrid_initialized mX8_isOnGrid_static_yX10_within hdX10_within ⟨Nat.le_of_ble_eq_true rfl, Nat.le_of_ble_eq_true rfl⟩ hI rfl hl.1 rfl (Nat.le_of_ble_eq_true rfl) dX8_isOnGrid_13 ⟨Nat.le_of_ble_eq_true rfl, Nat.le_of_ble_eq_true rfl⟩ (fun r4 σ5 H locs h hI => ?_)
    refine lv_if_eq (tgt := 23) hx hb dX8_isOnGrid_16 (by decide) (fun c6 => ?_) (fun c6 => ?_)
    · replace h := h.1 c6
      refine lv_iconst (v := nI 0) hx hb dX8_isOnGrid_23 (by decide) ?_
      exact k_zret hx hb hr hlocks hI (Or.inl rfl) h dX8_isOnGrid_24
    · replace h := h.2 c6
      refine lv_iconst (v := nI 1) hx hb dX8_isOnGrid_19 (by decide) ?_
      refine lv_goto (tgt := 24) hx hb dX8_isOnGrid_20 (by decide) ?_
      exact k_zret hx hb hr hlocks hI (Or.inr rfl) h dX8_isOnGrid_24
theorem inX8_makeBest_X8 : ∀ w ∈ wsX80, w ∈ wsX8_makeBest := fun _ h => List.mem_cons_of_mem _ (List.mem_append_right _ (h))
theorem mX8_makeBest_fieldLink_26_StillText_Trials_bestLong_I : Cond.fieldLink RX8 26 "StillText$Trials" "bestLong" "I" ∈ wsX8_makeBest := List.mem_cons_of_mem _ (List.mem_append_left _ (List.mem_of_getElem? (i := 0) rfl))
theorem mX8_makeBest_fieldLink_29_StillText_Trials_bestSpread_I : Cond.fieldLink RX8 29 "StillText$Trials" "bestSpread" "I" ∈ wsX8_makeBest := List.mem_cons_of_mem _ (List.mem_append_left _ (List.mem_of_getElem? (i := 1) rfl))
theorem mX8_makeBest_fieldLink_11_StillText_Trials_beaten_Z : Cond.fieldLink RX8 11 "StillText$Trials" "beaten" "[Z" ∈ wsX8_makeBest := List.mem_cons_of_mem _ (List.mem_append_left _ (List.mem_of_getElem? (i := 2) rfl))
set_option maxHeartbeats 4000000 in
set_option maxRecDepth 100000 in
theorem t_X8_makeBest_12 {p : Program} {e : Env} {s : State} {m : MethodId} {args : Array Value} {below : List Frame} {meth : Method} {c : Code} {A : Nat → Prop} {x1 x2 : Int32}  {Q : St → Prop} (C : Cx p s m args meth c cX8_makeBest 4 none RX8 wsX8_makeBest) :
    ∀ (n : Nat) (σ : St) (x3 : Int32) (H : Heap) (locs : List Loc) (ls : Array Slot), wpl_X8_makeBest_12 x1 x2 Q n σ x3 → Iw D (tyE cyI cyZ) NwC (ZsC tL tS) (wC cyI cyZ ad) A s H locs σ → lv_has ls 4 [(0, .ref (ad 30)), (1, .int x1), (2, .int x2), (3, .int x3)] → W p l e r_X8_makeBest s m args below meth c H locs 0 0 (MQ below (va_Qv Q (Kq D (tyE cyI cyZ) (wC cyI cyZ ad) A) A) args s 0 0 A) (F0 m 12 ls []) := by
  obtain ⟨hx, hb, hr, hml, hown, hts, hlocks⟩ := id C
  intro n
  induction n with
  | zero =>
    intro _ _ _ _ _ h
    exact h.elim
  | succ n ih =>
    intro σ x3 H locs ls h hI hl
    unfold wpl_X8_makeBest_12 at h
    refine lv_iload_n hx hb dX8_makeBest_12 rfl (lv_at hl 3 rfl) ?_
    refine lv_iconst (v := nI 4) hx hb dX8_makeBest_13 (by decide) ?_
    refine lv_icmp_ge (tgt := 30) hx hb dX8_makeBest_14 (by decide) (fun c1 => ?_) (fun c1 => ?_)
    · replace h := h.1 c1
      exact k_vret hx hb hr hlocks hI h dX8_makeBest_30
    · replace h := h.2 c1
      refine lv_aload_n hx hb dX8_makeBest_17 rfl (lv_at hl 0 rfl) ?_
      refine k_get (q0 := 30) (k := 0) (ci := 8) (v := .ref (ad 31)) hx hb hts inX8_makeBest_X8 hown hI rfl rfl (by decide) mX8_makeBest_fieldLink_11_StillText_Trials_beaten_Z rfl rfl dX8_makeBest_18 ?_
      refine lv_iload_n hx hb dX8_makeBest_21 rfl (lv_at hl 3 rfl) ?_
      refine lv_iconst (v := nI 0) hx hb dX8_makeBest_22 (by decide) ?_
      refine k_zast (q0 := 31) (t0 := 1) (n := 4) (σ' := up2 σ 31 x3.toNatClampNeg (nI 0)) hx hb hI rfl rfl h.1 (Or.inl rfl) (wsC_31 _ _ _ _ _ _) dX8_makeBest_23 (fun H locs hI => ?_)
      replace h := h.2
      refine lv_iinc (v := (x3 + nI 1)) (lv' := [(3, .int (x3 + nI 1)), (0, .ref (ad 30)), (1, .int x1), (2, .int x2)]) hx hb dX8_makeBest_24 hl (k := 3) rfl rfl (by decide) rfl (fun ls hl => ?_)
      refine lv_goto (tgt := 12) hx hb dX8_makeBest_27 (by decide) ?_
      exact ih _ _ _ _ _ h hI (lv_sub hl [1, 2, 3, 0] rfl)
set_option maxHeartbeats 4000000 in
set_option maxRecDepth 100000 in
theorem c_X8_makeBest (σ : St) (x1 x2 : Int32) (Q : St → Prop) (h : wp_X8_makeBest σ x1 x2 Q) : Cv l D (tyE cyI cyZ) NwC (ZsC tL tS) (wC cyI cyZ ad) yX8_makeBest wsX8_makeBest r_X8_makeBest [.ref (ad 30), .int x1, .int x2] σ Q := by
  refine k_metV (cc := cX8_makeBest) (maxL := 4) (ret := none) (by decide) rfl (Nat.le_of_ble_eq_true rfl) ?_
  intro p e s m below meth c A ls C hI hl
  obtain ⟨hx, hb, hr, hml, hown, hts, hlocks⟩ := id C
  have hl : lv_has ls 4 [(0, .ref (ad 30)), (1, .int x1), (2, .int x2)] := hl
  unfold wp_X8_makeBest at h
  refine lv_aload_n hx hb dX8_makeBest_0 rfl (lv_at hl 0 rfl) ?_
  refine lv_iload_n hx hb dX8_makeBest_1 rfl (lv_at hl 1 rfl) ?_
  refine k_put (q0 := 30) (k := 2) (ci := 8) (v := .int x1) (σ' := up2 σ 30 2 x1) hx hb hts inX8_makeBest_X8 tyX8 tyX8_ok nmX8 hown hI rfl rfl (by decide) mX8_makeBest_fieldLink_26_StillText_Trials_bestLong_I rfl rfl rfl rfl (Nat.le_of_ble_eq_true rfl) (wsC_30_2 _ _ _ _ _) dX8_makeBest_2 (fun H locs hI => ?_)
  refine lv_aload_n hx hb dX8_makeBest_5 rfl (lv_at hl 0 rfl) ?_
  refine lv_iload_n hx hb dX8_makeBest_6 rfl (lv_at hl 2 rfl) ?_
  refine k_put (q0 := 30) (k := 3) (ci := 8) (v := .int x2) (σ' := up2 (up2 σ 30 2 x1) 30 3 x2) hx hb hts inX8_makeBest_X8 tyX8 tyX8_ok nmX8 hown hI rfl rfl (by decide) mX8_makeBest_fieldLink_29_StillText_Trials_bestSpread_I rfl rfl rfl rfl (Nat.le_of_ble_eq_true rfl) (wsC_30_3 _ _ _ _ _) dX8_makeBest_7 (fun H locs hI => ?_)
  refine lv_iconst (v := nI 0) hx hb dX8_makeBest_10 (by decide) ?_
  refine lv_istore_n (lv' := [(3, .int (nI 0)), (0, .ref (ad 30)), (1, .int x1), (2, .int x2)]) hx hb dX8_makeBest_11 rfl hl (by decide) rfl (fun ls hl => ?_)
  obtain ⟨k2, h⟩ := h
  exact t_X8_makeBest_12 C  k2 _ _ _ _ _ h hI (lv_sub hl [1, 2, 3, 0] rfl)
theorem inX8_longOn_X8 : ∀ w ∈ wsX80, w ∈ wsX8_longOn := fun _ h => List.mem_cons_of_mem _ (List.mem_append_right _ (h))
theorem mX8_longOn_fieldLink_26_StillText_Trials_bestLong_I : Cond.fieldLink RX8 26 "StillText$Trials" "bestLong" "I" ∈ wsX8_longOn := List.mem_cons_of_mem _ (List.mem_append_left _ (List.mem_of_getElem? (i := 0) rfl))
theorem mX8_longOn_fieldLink_72_StillText_Trials_LONG_STEPS_I : Cond.fieldLink RX8 72 "StillText$Trials" "LONG_STEPS" "[I" ∈ wsX8_longOn := List.mem_cons_of_mem _ (List.mem_append_left _ (List.mem_of_getElem? (i := 1) rfl))
set_option maxHeartbeats 4000000 in
set_option maxRecDepth 100000 in
theorem c_X8_longOn (σ : St) (x1 : Int32) (Q : Int32 → St → Prop) (h : wp_X8_longOn σ x1 Q) : Ci l D (tyE cyI cyZ) NwC (ZsC tL tS) (wC cyI cyZ ad) yX8_longOn wsX8_longOn r_X8_longOn [.ref (ad 30), .int x1] σ Q := by
  refine k_metI (cc := cX8_longOn) (maxL := 2) (ret := (some .int)) (by decide) rfl (Nat.le_of_ble_eq_true rfl) ?_
  intro p e s m below meth c A ls C hI hl
  obtain ⟨hx, hb, hr, hml, hown, hts, hlocks⟩ := id C
  have hl : lv_has ls 2 [(0, .ref (ad 30)), (1, .int x1)] := hl
  unfold wp_X8_longOn at h
  refine lv_aload_n hx hb dX8_longOn_0 rfl (lv_at hl 0 rfl) ?_
  refine k_get (q0 := 30) (k := 2) (ci := 8) (v := .int (σ 30 2)) hx hb hts inX8_longOn_X8 hown hI rfl rfl (by decide) mX8_longOn_fieldLink_26_StillText_Trials_bestLong_I rfl rfl dX8_longOn_1 ?_
  refine k_gets (q := (RX8, "LONG_STEPS", "[I", tL, 4, fLs)) hx hb hts hown hI (List.mem_of_getElem? (i := 0) rfl) mX8_longOn_fieldLink_72_StillText_Trials_LONG_STEPS_I rfl dX8_longOn_4 ?_
  refine lv_iload_n hx hb dX8_longOn_7 rfl (lv_at hl 1 rfl) ?_
  refine k_tiald (q := (RX8, "LONG_STEPS", "[I", tL, 4, fLs)) hx hb hI (List.mem_of_getElem? (i := 0) rfl) h.1 dX8_longOn_8 ?_
  replace h := h.2
  refine lv_iadd hx hb dX8_longOn_9 ?_
  exact k_iret hx hb hr hlocks hI h dX8_longOn_10
theorem inX8_spreadOn_X8 : ∀ w ∈ wsX80, w ∈ wsX8_spreadOn := fun _ h => List.mem_cons_of_mem _ (List.mem_append_right _ (h))
theorem mX8_spreadOn_fieldLink_29_StillText_Trials_bestSpread_I : Cond.fieldLink RX8 29 "StillText$Trials" "bestSpread" "I" ∈ wsX8_spreadOn := List.mem_cons_of_mem _ (List.mem_append_left _ (List.mem_of_getElem? (i := 0) rfl))
theorem mX8_spreadOn_fieldLink_76_StillText_Trials_SPREAD_STEPS_I : Cond.fieldLink RX8 76 "StillText$Trials" "SPREAD_STEPS" "[I" ∈ wsX8_spreadOn := List.mem_cons_of_mem _ (List.mem_append_left _ (List.mem_of_getElem? (i := 1) rfl))
set_option maxHeartbeats 4000000 in
set_option maxRecDepth 100000 in
theorem c_X8_spreadOn (σ : St) (x1 : Int32) (Q : Int32 → St → Prop) (h : wp_X8_spreadOn σ x1 Q) : Ci l D (tyE cyI cyZ) NwC (ZsC tL tS) (wC cyI cyZ ad) yX8_spreadOn wsX8_spreadOn r_X8_spreadOn [.ref (ad 30), .int x1] σ Q := by
  refine k_metI (cc := cX8_spreadOn) (maxL := 2) (ret := (some .int)) (by decide) rfl (Nat.le_of_ble_eq_true rfl) ?_
  intro p e s m below meth c A ls C hI hl
  obtain ⟨hx, hb, hr, hml, hown, hts, hlocks⟩ := id C
  have hl : lv_has ls 2 [(0, .ref (ad 30)), (1, .int x1)] := hl
  unfold wp_X8_spreadOn at h
  refine lv_aload_n hx hb dX8_spreadOn_0 rfl (lv_at hl 0 rfl) ?_
  refine k_get (q0 := 30) (k := 3) (ci := 8) (v := .int (σ 30 3)) hx hb hts inX8_spreadOn_X8 hown hI rfl rfl (by decide) mX8_spreadOn_fieldLink_29_StillText_Trials_bestSpread_I rfl rfl dX8_spreadOn_1 ?_
  refine k_gets (q := (RX8, "SPREAD_STEPS", "[I", tS, 4, fSs)) hx hb hts hown hI (List.mem_of_getElem? (i := 1) rfl) mX8_spreadOn_fieldLink_76_StillText_Trials_SPREAD_STEPS_I rfl dX8_spreadOn_4 ?_
  refine lv_iload_n hx hb dX8_spreadOn_7 rfl (lv_at hl 1 rfl) ?_
  refine k_tiald (q := (RX8, "SPREAD_STEPS", "[I", tS, 4, fSs)) hx hb hI (List.mem_of_getElem? (i := 1) rfl) h.1 dX8_spreadOn_8 ?_
  replace h := h.2
  refine lv_iadd hx hb dX8_spreadOn_9 ?_
  exact k_iret hx hb hr hlocks hI h dX8_spreadOn_10
theorem inX8_nextWay_X8 : ∀ w ∈ wsX80, w ∈ wsX8_nextWay := fun _ h => List.mem_cons_of_mem _ (List.mem_append_right _ (h))
theorem mX8_nextWay_fieldLink_11_StillText_Trials_beaten_Z : Cond.fieldLink RX8 11 "StillText$Trials" "beaten" "[Z" ∈ wsX8_nextWay := List.mem_cons_of_mem _ (List.mem_append_left _ (List.mem_of_getElem? (i := 0) rfl))
set_option maxHeartbeats 4000000 in
set_option maxRecDepth 100000 in
theorem t_X8_nextWay_2 {p : Program} {e : Env} {s : State} {m : MethodId} {args : Array Value} {below : List Frame} {meth : Method} {c : Code} {A : Nat → Prop}  {Q : Int32 → St → Prop} (C : Cx p s m args meth c cX8_nextWay 2 (some .int) RX8 wsX8_nextWay) :
    ∀ (n : Nat) (σ : St) (x1 : Int32) (H : Heap) (locs : List Loc) (ls : Array Slot), wpl_X8_nextWay_2 Q n σ x1 → Iw D (tyE cyI cyZ) NwC (ZsC tL tS) (wC cyI cyZ ad) A s H locs σ → lv_has ls 2 [(0, .ref (ad 30)), (1, .int x1)] → W p l e r_X8_nextWay s m args below meth c H locs 0 0 (MQ below (va_Qi Q (Kq D (tyE cyI cyZ) (wC cyI cyZ ad) A) A) args s 0 0 A) (F0 m 2 ls []) := by
  obtain ⟨hx, hb, hr, hml, hown, hts, hlocks⟩ := id C
  intro n
  induction n with
  | zero =>
    intro _ _ _ _ _ h
    exact h.elim
  | succ n ih =>
    intro σ x1 H locs ls h hI hl
    unfold wpl_X8_nextWay_2 at h
    refine lv_iload_n hx hb dX8_nextWay_2 rfl (lv_at hl 1 rfl) ?_
    refine lv_iconst (v := nI 4) hx hb dX8_nextWay_3 (by decide) ?_
    refine lv_icmp_ge (tgt := 40) hx hb dX8_nextWay_4 (by decide) (fun c1 => ?_) (fun c1 => ?_)
    · replace h := h.1 c1
      refine lv_iconst (v := (-1)) hx hb dX8_nextWay_40 (by decide) ?_
      exact k_iret hx hb hr hlocks hI h dX8_nextWay_41
    · replace h := h.2 c1
      refine lv_aload_n hx hb dX8_nextWay_7 rfl (lv_at hl 0 rfl) ?_
      refine k_get (q0 := 30) (k := 0) (ci := 8) (v := .ref (ad 31)) hx hb hts inX8_nextWay_X8 hown hI rfl rfl (by decide) mX8_nextWay_fieldLink_11_StillText_Trials_beaten_Z rfl rfl dX8_nextWay_8 ?_
      refine lv_iload_n hx hb dX8_nextWay_11 rfl (lv_at hl 1 rfl) ?_
      refine k_zald (q0 := 31) (t0 := 1) (n := 4) (f := σ 31) hx hb hI rfl rfl h.1 dX8_nextWay_12 ?_
      replace h := h.2
      refine lv_if_ne (tgt := 34) hx hb dX8_nextWay_13 (by decide) (fun c2 => ?_) (fun c2 => ?_)
      · replace h := h.1 c2
        refine lv_iinc (v := (x1 + nI 1)) (lv' := [(1, .int (x1 + nI 1)), (0, .ref (ad 30))]) hx hb dX8_nextWay_34 hl (k := 1) rfl rfl (by decide) rfl (fun ls hl => ?_)
        refine lv_goto (tgt := 2) hx hb dX8_nextWay_37 (by decide) ?_
        exact ih _ _ _ _ _ h hI (lv_sub hl [1, 0] rfl)
      · replace h := h.2 c2
        refine lv_aload_n hx hb dX8_nextWay_16 rfl (lv_at hl 0 rfl) ?_
        refine lv_iload_n hx hb dX8_nextWay_17 rfl (lv_at hl 1 rfl) ?_
        refine k_cVi (As := [.int x1]) (rest := []) C (c_X8_longOn σ x1 _ h) (cwV 1 hts gX8_nextWay_X8_longOn rfl rfl rfl hdX8_longOn ⟨Nat.le_of_ble_eq_true rfl, Nat.le_of_ble_eq_true rfl⟩) hI 30 rfl rfl rfl hl.1 rfl (Nat.le_of_ble_eq_true rfl) dX8_nextWay_18 ⟨Nat.le_of_ble_eq_true rfl, Nat.le_of_ble_eq_true rfl⟩ (fun r3 σ4 H locs h hI => ?_)
        refine lv_aload_n hx hb dX8_nextWay_21 rfl (lv_at hl 0 rfl) ?_
        refine lv_iload_n hx hb dX8_nextWay_22 rfl (lv_at hl 1 rfl) ?_
        refine k_cVi (As := [.int x1]) (rest := [.int r3]) C (c_X8_spreadOn σ4 x1 _ h) (cwV 1 hts gX8_nextWay_X8_spreadOn rfl rfl rfl hdX8_spreadOn ⟨Nat.le_of_ble_eq_true rfl, Nat.le_of_ble_eq_true rfl⟩) hI 30 rfl rfl rfl hl.1 rfl (Nat.le_of_ble_eq_true rfl) dX8_nextWay_23 ⟨Nat.le_of_ble_eq_true rfl, Nat.le_of_ble_eq_true rfl⟩ (fun r5 σ6 H locs h hI => ?_)
        refine k_cSi (As := [.int r3, .int r5]) (rest := []) C (c_X8_isOnGrid σ6 r3 r5 _ h) (va_cwS 2 hts gX8_nextWay_X8_isOnGrid rfl rfl rfl hdX8_isOnGrid ⟨Nat.le_of_ble_eq_true rfl, Nat.le_of_ble_eq_true rfl⟩) hI rfl hl.1 rfl (Nat.le_of_ble_eq_true rfl) dX8_nextWay_26 ⟨Nat.le_of_ble_eq_true rfl, Nat.le_of_ble_eq_true rfl⟩ (fun r7 σ8 H locs h hI => ?_)
        refine lv_if_eq (tgt := 34) hx hb dX8_nextWay_29 (by decide) (fun c9 => ?_) (fun c9 => ?_)
        · replace h := h.1 c9
          refine lv_iinc (v := (x1 + nI 1)) (lv' := [(1, .int (x1 + nI 1)), (0, .ref (ad 30))]) hx hb dX8_nextWay_34 hl (k := 1) rfl rfl (by decide) rfl (fun ls hl => ?_)
          refine lv_goto (tgt := 2) hx hb dX8_nextWay_37 (by decide) ?_
          exact ih _ _ _ _ _ h hI (lv_sub hl [1, 0] rfl)
        · replace h := h.2 c9
          refine lv_iload_n hx hb dX8_nextWay_32 rfl (lv_at hl 1 rfl) ?_
          exact k_iret hx hb hr hlocks hI h dX8_nextWay_33
set_option maxHeartbeats 4000000 in
set_option maxRecDepth 100000 in
theorem c_X8_nextWay (σ : St) (Q : Int32 → St → Prop) (h : wp_X8_nextWay σ  Q) : Ci l D (tyE cyI cyZ) NwC (ZsC tL tS) (wC cyI cyZ ad) yX8_nextWay wsX8_nextWay r_X8_nextWay [.ref (ad 30)] σ Q := by
  refine k_metI (cc := cX8_nextWay) (maxL := 2) (ret := (some .int)) (by decide) rfl (Nat.le_of_ble_eq_true rfl) ?_
  intro p e s m below meth c A ls C hI hl
  obtain ⟨hx, hb, hr, hml, hown, hts, hlocks⟩ := id C
  have hl : lv_has ls 2 [(0, .ref (ad 30))] := hl
  unfold wp_X8_nextWay at h
  refine lv_iconst (v := nI 0) hx hb dX8_nextWay_0 (by decide) ?_
  refine lv_istore_n (lv' := [(1, .int (nI 0)), (0, .ref (ad 30))]) hx hb dX8_nextWay_1 rfl hl (by decide) rfl (fun ls hl => ?_)
  obtain ⟨k10, h⟩ := h
  exact t_X8_nextWay_2 C  k10 _ _ _ _ _ h hI (lv_sub hl [1, 0] rfl)
theorem mX8_begin_initialized : Cond.initialized RX10 ∈ wsX8_begin := List.mem_cons_of_mem _ (List.mem_append_left _ (List.mem_append_left _ (List.mem_of_getElem? (i := 11) rfl)))
theorem mX8_begin_static_yX10_within : Cond.static yX10_within ∈ wsX8_begin := List.mem_cons_of_mem _ (List.mem_append_left _ (List.mem_append_left _ (List.mem_of_getElem? (i := 10) rfl)))
theorem inX8_begin_X8 : ∀ w ∈ wsX80, w ∈ wsX8_begin := fun _ h => List.mem_cons_of_mem _ (List.mem_append_right _ (h))
theorem mX8_begin_fieldLink_22_StillText_Trials_begun_Z : Cond.fieldLink RX8 22 "StillText$Trials" "begun" "Z" ∈ wsX8_begin := List.mem_cons_of_mem _ (List.mem_append_left _ (List.mem_append_left _ (List.mem_of_getElem? (i := 0) rfl)))
theorem mX8_begin_fieldLink_15_StillText_Trials_lead_I : Cond.fieldLink RX8 15 "StillText$Trials" "lead" "I" ∈ wsX8_begin := List.mem_cons_of_mem _ (List.mem_append_left _ (List.mem_append_left _ (List.mem_of_getElem? (i := 1) rfl)))
theorem mX8_begin_fieldLink_40_StillText_Trials_answers_I : Cond.fieldLink RX8 40 "StillText$Trials" "answers" "I" ∈ wsX8_begin := List.mem_cons_of_mem _ (List.mem_append_left _ (List.mem_append_left _ (List.mem_of_getElem? (i := 2) rfl)))
theorem mX8_begin_fieldLink_43_StillText_Trials_won_I : Cond.fieldLink RX8 43 "StillText$Trials" "won" "I" ∈ wsX8_begin := List.mem_cons_of_mem _ (List.mem_append_left _ (List.mem_append_left _ (List.mem_of_getElem? (i := 3) rfl)))
theorem mX8_begin_fieldLink_46_StillText_Trials_ahead_I : Cond.fieldLink RX8 46 "StillText$Trials" "ahead" "I" ∈ wsX8_begin := List.mem_cons_of_mem _ (List.mem_append_left _ (List.mem_append_left _ (List.mem_of_getElem? (i := 4) rfl)))
theorem mX8_begin_fieldLink_19_StillText_Trials_way_I : Cond.fieldLink RX8 19 "StillText$Trials" "way" "I" ∈ wsX8_begin := List.mem_cons_of_mem _ (List.mem_append_left _ (List.mem_append_left _ (List.mem_of_getElem? (i := 5) rfl)))
set_option maxHeartbeats 4000000 in
set_option maxRecDepth 100000 in
theorem c_X8_begin (σ : St) (x1 x2 x3 : Int32) (Q : Int32 → St → Prop) (h : wp_X8_begin σ x1 x2 x3 Q) : Ci l D (tyE cyI cyZ) NwC (ZsC tL tS) (wC cyI cyZ ad) yX8_begin wsX8_begin r_X8_begin [.ref (ad 30), .int x1, .int x2, .int x3] σ Q := by
  refine k_metI (cc := cX8_begin) (maxL := 4) (ret := (some .boolean)) (by decide) rfl (Nat.le_of_ble_eq_true rfl) ?_
  intro p e s m below meth c A ls C hI hl
  obtain ⟨hx, hb, hr, hml, hown, hts, hlocks⟩ := id C
  have hl : lv_has ls 4 [(0, .ref (ad 30)), (1, .int x1), (2, .int x2), (3, .int x3)] := hl
  unfold wp_X8_begin at h
  refine lv_iload_n hx hb dX8_begin_0 rfl (lv_at hl 1 rfl) ?_
  refine lv_iload_n hx hb dX8_begin_1 rfl (lv_at hl 2 rfl) ?_
  refine k_cSi (As := [.int x1, .int x2]) (rest := []) C (c_X8_isOnGrid σ x1 x2 _ h) (va_cwS 2 hts gX8_begin_X8_isOnGrid rfl rfl rfl hdX8_isOnGrid ⟨Nat.le_of_ble_eq_true rfl, Nat.le_of_ble_eq_true rfl⟩) hI rfl hl.1 rfl (Nat.le_of_ble_eq_true rfl) dX8_begin_2 ⟨Nat.le_of_ble_eq_true rfl, Nat.le_of_ble_eq_true rfl⟩ (fun r1 σ2 H locs h hI => ?_)
  refine lv_if_eq (tgt := 18) hx hb dX8_begin_5 (by decide) (fun c3 => ?_) (fun c3 => ?_)
  · replace h := h.1 c3
    refine lv_iconst (v := nI 0) hx hb dX8_begin_18 (by decide) ?_
    exact k_zret hx hb hr hlocks hI (Or.inl rfl) h dX8_begin_19
  · replace h := h.2 c3
    refine lv_iload_n hx hb dX8_begin_8 rfl (lv_at hl 3 rfl) ?_
    refine lv_iconst (v := nI 1) hx hb dX8_begin_9 (by decide) ?_
    refine lv_bipush (v := nI 9) hx hb dX8_begin_10 (by decide) ?_
    refine k_cNi (As := [.int x3, .int (nI 1), .int (nI 9)]) (rest := []) (host := RX10) C (c_X10_within σ2 x3 (nI 1) (nI 9) _ h) gX8_begin_X10_within_n36 rfl rfl rfl (List.mem_of_getElem? (i := 5) rfl) mX8_begin_initialized mX8_begin_static_yX10_within hdX10_within ⟨Nat.le_of_ble_eq_true rfl, Nat.le_of_ble_eq_true rfl⟩ hI rfl hl.1 rfl (Nat.le_of_ble_eq_true rfl) dX8_begin_12 ⟨Nat.le_of_ble_eq_true rfl, Nat.le_of_ble_eq_true rfl⟩ (fun r4 σ5 H locs h hI => ?_)
    refine lv_if_ne (tgt := 20) hx hb dX8_begin_15 (by decide) (fun c6 => ?_) (fun c6 => ?_)
    · replace h := h.1 c6
      refine lv_aload_n hx hb dX8_begin_20 rfl (lv_at hl 0 rfl) ?_
      refine lv_iconst (v := nI 1) hx hb dX8_begin_21 (by decide) ?_
      refine k_put (q0 := 30) (k := 1) (ci := 8) (v := .int (nI 1)) (σ' := up2 σ5 30 1 (nI 1)) hx hb hts inX8_begin_X8 tyX8 tyX8_ok nmX8 hown hI rfl rfl (by decide) mX8_begin_fieldLink_22_StillText_Trials_begun_Z rfl rfl rfl rfl (Nat.le_of_ble_eq_true rfl) (wsC_30_1 _ _ _ _ _) dX8_begin_22 (fun H locs hI => ?_)
      refine lv_aload_n hx hb dX8_begin_25 rfl (lv_at hl 0 rfl) ?_
      refine lv_iload_n hx hb dX8_begin_26 rfl (lv_at hl 3 rfl) ?_
      refine k_put (q0 := 30) (k := 4) (ci := 8) (v := .int x3) (σ' := up2 (up2 σ5 30 1 (nI 1)) 30 4 x3) hx hb hts inX8_begin_X8 tyX8 tyX8_ok nmX8 hown hI rfl rfl (by decide) mX8_begin_fieldLink_15_StillText_Trials_lead_I rfl rfl rfl rfl (Nat.le_of_ble_eq_true rfl) (wsC_30_4 _ _ _ _ _) dX8_begin_27 (fun H locs hI => ?_)
      refine lv_aload_n hx hb dX8_begin_30 rfl (lv_at hl 0 rfl) ?_
      refine lv_iconst (v := nI 0) hx hb dX8_begin_31 (by decide) ?_
      refine k_put (q0 := 30) (k := 7) (ci := 8) (v := .int (nI 0)) (σ' := up2 (up2 (up2 σ5 30 1 (nI 1)) 30 4 x3) 30 7 (nI 0)) hx hb hts inX8_begin_X8 tyX8 tyX8_ok nmX8 hown hI rfl rfl (by decide) mX8_begin_fieldLink_40_StillText_Trials_answers_I rfl rfl rfl rfl (Nat.le_of_ble_eq_true rfl) (wsC_30_7 _ _ _ _ _) dX8_begin_32 (fun H locs hI => ?_)
      refine lv_aload_n hx hb dX8_begin_35 rfl (lv_at hl 0 rfl) ?_
      refine lv_iconst (v := nI 0) hx hb dX8_begin_36 (by decide) ?_
      refine k_put (q0 := 30) (k := 8) (ci := 8) (v := .int (nI 0)) (σ' := up2 (up2 (up2 (up2 σ5 30 1 (nI 1)) 30 4 x3) 30 7 (nI 0)) 30 8 (nI 0)) hx hb hts inX8_begin_X8 tyX8 tyX8_ok nmX8 hown hI rfl rfl (by decide) mX8_begin_fieldLink_43_StillText_Trials_won_I rfl rfl rfl rfl (Nat.le_of_ble_eq_true rfl) (wsC_30_8 _ _ _ _ _) dX8_begin_37 (fun H locs hI => ?_)
      refine lv_aload_n hx hb dX8_begin_40 rfl (lv_at hl 0 rfl) ?_
      refine lv_iconst (v := nI 0) hx hb dX8_begin_41 (by decide) ?_
      refine k_put (q0 := 30) (k := 6) (ci := 8) (v := .int (nI 0)) (σ' := up2 (up2 (up2 (up2 (up2 σ5 30 1 (nI 1)) 30 4 x3) 30 7 (nI 0)) 30 8 (nI 0)) 30 6 (nI 0)) hx hb hts inX8_begin_X8 tyX8 tyX8_ok nmX8 hown hI rfl rfl (by decide) mX8_begin_fieldLink_46_StillText_Trials_ahead_I rfl rfl rfl rfl (Nat.le_of_ble_eq_true rfl) (wsC_30_6 _ _ _ _ _) dX8_begin_42 (fun H locs hI => ?_)
      refine lv_aload_n hx hb dX8_begin_45 rfl (lv_at hl 0 rfl) ?_
      refine lv_iload_n hx hb dX8_begin_46 rfl (lv_at hl 1 rfl) ?_
      refine lv_iload_n hx hb dX8_begin_47 rfl (lv_at hl 2 rfl) ?_
      refine k_cVv (As := [.int x1, .int x2]) (rest := []) C (c_X8_makeBest (up2 (up2 (up2 (up2 (up2 σ5 30 1 (nI 1)) 30 4 x3) 30 7 (nI 0)) 30 8 (nI 0)) 30 6 (nI 0)) x1 x2 _ h) (cwV 2 hts gX8_begin_X8_makeBest rfl rfl rfl hdX8_makeBest ⟨Nat.le_of_ble_eq_true rfl, Nat.le_of_ble_eq_true rfl⟩) hI 30 rfl rfl rfl hl.1 rfl (Nat.le_of_ble_eq_true rfl) dX8_begin_48 ⟨Nat.le_of_ble_eq_true rfl, Nat.le_of_ble_eq_true rfl⟩ (fun σ8 H locs h hI => ?_)
      refine lv_aload_n hx hb dX8_begin_51 rfl (lv_at hl 0 rfl) ?_
      refine lv_aload_n hx hb dX8_begin_52 rfl (lv_at hl 0 rfl) ?_
      refine k_cVi (As := []) (rest := [.ref (ad 30)]) C (c_X8_nextWay σ8  _ h) (cwV 0 hts gX8_begin_X8_nextWay rfl rfl rfl hdX8_nextWay ⟨Nat.le_of_ble_eq_true rfl, Nat.le_of_ble_eq_true rfl⟩) hI 30 rfl rfl rfl hl.1 rfl (Nat.le_of_ble_eq_true rfl) dX8_begin_53 ⟨Nat.le_of_ble_eq_true rfl, Nat.le_of_ble_eq_true rfl⟩ (fun r9 σ10 H locs h hI => ?_)
      refine k_put (q0 := 30) (k := 5) (ci := 8) (v := .int r9) (σ' := up2 σ10 30 5 r9) hx hb hts inX8_begin_X8 tyX8 tyX8_ok nmX8 hown hI rfl rfl (by decide) mX8_begin_fieldLink_19_StillText_Trials_way_I rfl rfl rfl rfl (Nat.le_of_ble_eq_true rfl) (wsC_30_5 _ _ _ _ _) dX8_begin_56 (fun H locs hI => ?_)
      refine lv_iconst (v := nI 1) hx hb dX8_begin_59 (by decide) ?_
      exact k_zret hx hb hr hlocks hI (Or.inr rfl) h dX8_begin_60
    · replace h := h.2 c6
      refine lv_iconst (v := nI 0) hx hb dX8_begin_18 (by decide) ?_
      exact k_zret hx hb hr hlocks hI (Or.inl rfl) h dX8_begin_19
theorem inX10_test_X10 : ∀ w ∈ wsX100, w ∈ wsX10_test := fun _ h => List.mem_cons_of_mem _ (List.mem_append_left _ (List.mem_append_right _ (h)))
theorem mX10_test_fieldLink_74_StillText_trials_LStillText_Trials : Cond.fieldLink RX10 74 "StillText" "trials" "LStillText$Trials;" ∈ wsX10_test := List.mem_cons_of_mem _ (List.mem_append_left _ (List.mem_append_left _ (List.mem_append_left _ (List.mem_of_getElem? (i := 0) rfl))))
set_option maxHeartbeats 4000000 in
set_option maxRecDepth 100000 in
theorem c_X10_test (σ : St) (x1 x2 x3 : Int32) (Q : Int32 → St → Prop) (h : wp_X10_test σ x1 x2 x3 Q) : Ci l D (tyE cyI cyZ) NwC (ZsC tL tS) (wC cyI cyZ ad) yX10_test wsX10_test r_X10_test [.ref (ad 0), .int x1, .int x2, .int x3] σ Q := by
  refine k_metI (cc := cX10_test) (maxL := 4) (ret := (some .boolean)) (by decide) rfl (Nat.le_of_ble_eq_true rfl) ?_
  intro p e s m below meth c A ls C hI hl
  obtain ⟨hx, hb, hr, hml, hown, hts, hlocks⟩ := id C
  have hl : lv_has ls 4 [(0, .ref (ad 0)), (1, .int x1), (2, .int x2), (3, .int x3)] := hl
  unfold wp_X10_test at h
  refine lv_aload_n hx hb dX10_test_0 rfl (lv_at hl 0 rfl) ?_
  refine k_get (q0 := 0) (k := 8) (ci := 10) (v := .ref (ad 30)) hx hb hts inX10_test_X10 hown hI rfl rfl (by decide) mX10_test_fieldLink_74_StillText_trials_LStillText_Trials rfl rfl dX10_test_1 ?_
  refine lv_iload_n hx hb dX10_test_4 rfl (lv_at hl 1 rfl) ?_
  refine lv_iload_n hx hb dX10_test_5 rfl (lv_at hl 2 rfl) ?_
  refine lv_iload_n hx hb dX10_test_6 rfl (lv_at hl 3 rfl) ?_
  refine k_cVi (As := [.int x1, .int x2, .int x3]) (rest := []) C (c_X8_begin σ x1 x2 x3 _ h) (cwV 3 hts gX10_test_X8_begin rfl rfl rfl hdX8_begin ⟨Nat.le_of_ble_eq_true rfl, Nat.le_of_ble_eq_true rfl⟩) hI 30 rfl rfl rfl hl.1 rfl (Nat.le_of_ble_eq_true rfl) dX10_test_7 ⟨Nat.le_of_ble_eq_true rfl, Nat.le_of_ble_eq_true rfl⟩ (fun r1 σ2 H locs h hI => ?_)
  exact k_zret hx hb hr hlocks hI h.1 h.2 dX10_test_10
theorem inX8_tell_X8 : ∀ w ∈ wsX80, w ∈ wsX8_tell := fun _ h => List.mem_cons_of_mem _ (List.mem_append_right _ (h))
theorem mX8_tell_fieldLink_22_StillText_Trials_begun_Z : Cond.fieldLink RX8 22 "StillText$Trials" "begun" "Z" ∈ wsX8_tell := List.mem_cons_of_mem _ (List.mem_append_left _ (List.mem_of_getElem? (i := 0) rfl))
theorem mX8_tell_fieldLink_26_StillText_Trials_bestLong_I : Cond.fieldLink RX8 26 "StillText$Trials" "bestLong" "I" ∈ wsX8_tell := List.mem_cons_of_mem _ (List.mem_append_left _ (List.mem_of_getElem? (i := 1) rfl))
theorem mX8_tell_fieldLink_29_StillText_Trials_bestSpread_I : Cond.fieldLink RX8 29 "StillText$Trials" "bestSpread" "I" ∈ wsX8_tell := List.mem_cons_of_mem _ (List.mem_append_left _ (List.mem_of_getElem? (i := 2) rfl))
theorem mX8_tell_fieldLink_19_StillText_Trials_way_I : Cond.fieldLink RX8 19 "StillText$Trials" "way" "I" ∈ wsX8_tell := List.mem_cons_of_mem _ (List.mem_append_left _ (List.mem_of_getElem? (i := 3) rfl))
theorem mX8_tell_fieldLink_40_StillText_Trials_answers_I : Cond.fieldLink RX8 40 "StillText$Trials" "answers" "I" ∈ wsX8_tell := List.mem_cons_of_mem _ (List.mem_append_left _ (List.mem_of_getElem? (i := 4) rfl))
theorem mX8_tell_fieldLink_43_StillText_Trials_won_I : Cond.fieldLink RX8 43 "StillText$Trials" "won" "I" ∈ wsX8_tell := List.mem_cons_of_mem _ (List.mem_append_left _ (List.mem_of_getElem? (i := 5) rfl))
set_option maxHeartbeats 4000000 in
set_option maxRecDepth 100000 in
theorem c_X8_tell (σ : St) (x1 : Int32) (Q : Int32 → St → Prop) (h : wp_X8_tell σ x1 Q) : Ci l D (tyE cyI cyZ) NwC (ZsC tL tS) (wC cyI cyZ ad) yX8_tell wsX8_tell r_X8_tell [.ref (ad 30), .int x1] σ Q := by
  refine k_metI (cc := cX8_tell) (maxL := 2) (ret := (some .int)) (by decide) rfl (Nat.le_of_ble_eq_true rfl) ?_
  intro p e s m below meth c A ls C hI hl
  obtain ⟨hx, hb, hr, hml, hown, hts, hlocks⟩ := id C
  have hl : lv_has ls 2 [(0, .ref (ad 30)), (1, .int x1)] := hl
  unfold wp_X8_tell at h
  refine lv_aload_n hx hb dX8_tell_0 rfl (lv_at hl 0 rfl) ?_
  refine k_get (q0 := 30) (k := 1) (ci := 8) (v := .int (σ 30 1)) hx hb hts inX8_tell_X8 hown hI rfl rfl (by decide) mX8_tell_fieldLink_22_StillText_Trials_begun_Z rfl rfl dX8_tell_1 ?_
  refine lv_if_ne (tgt := 9) hx hb dX8_tell_4 (by decide) (fun c1 => ?_) (fun c1 => ?_)
  · replace h := h.1 c1
    refine lv_iload_n hx hb dX8_tell_9 rfl (lv_at hl 1 rfl) ?_
    by_cases c2 : x1 = nI 0
    · replace h := h.1 c2
      refine lv_tableIn (off := 38) (tgt := 48) hx hb dX8_tell_10 (by rw [c2]; decide) (by rw [c2]; decide) (by rw [c2]; rfl) (by decide) ?_
      refine lv_aload_n hx hb dX8_tell_48 rfl (lv_at hl 0 rfl) ?_
      refine k_get (q0 := 30) (k := 2) (ci := 8) (v := .int (σ 30 2)) hx hb hts inX8_tell_X8 hown hI rfl rfl (by decide) mX8_tell_fieldLink_26_StillText_Trials_bestLong_I rfl rfl dX8_tell_49 ?_
      exact k_iret hx hb hr hlocks hI h dX8_tell_52
    · replace h := h.2 c2
      by_cases c3 : x1 = nI 1
      · replace h := h.1 c3
        refine lv_tableIn (off := 43) (tgt := 53) hx hb dX8_tell_10 (by rw [c3]; decide) (by rw [c3]; decide) (by rw [c3]; rfl) (by decide) ?_
        refine lv_aload_n hx hb dX8_tell_53 rfl (lv_at hl 0 rfl) ?_
        refine k_get (q0 := 30) (k := 3) (ci := 8) (v := .int (σ 30 3)) hx hb hts inX8_tell_X8 hown hI rfl rfl (by decide) mX8_tell_fieldLink_29_StillText_Trials_bestSpread_I rfl rfl dX8_tell_54 ?_
        exact k_iret hx hb hr hlocks hI h dX8_tell_57
      · replace h := h.2 c3
        by_cases c4 : x1 = nI 2
        · replace h := h.1 c4
          refine lv_tableIn (off := 48) (tgt := 58) hx hb dX8_tell_10 (by rw [c4]; decide) (by rw [c4]; decide) (by rw [c4]; rfl) (by decide) ?_
          refine lv_aload_n hx hb dX8_tell_58 rfl (lv_at hl 0 rfl) ?_
          refine k_get (q0 := 30) (k := 5) (ci := 8) (v := .int (σ 30 5)) hx hb hts inX8_tell_X8 hown hI rfl rfl (by decide) mX8_tell_fieldLink_19_StillText_Trials_way_I rfl rfl dX8_tell_59 ?_
          refine lv_iconst (v := (-1)) hx hb dX8_tell_62 (by decide) ?_
          refine lv_icmp_ne (tgt := 70) hx hb dX8_tell_63 (by decide) (fun c5 => ?_) (fun c5 => ?_)
          · replace h := h.1 c5
            refine lv_aload_n hx hb dX8_tell_70 rfl (lv_at hl 0 rfl) ?_
            refine lv_aload_n hx hb dX8_tell_71 rfl (lv_at hl 0 rfl) ?_
            refine k_get (q0 := 30) (k := 5) (ci := 8) (v := .int (σ 30 5)) hx hb hts inX8_tell_X8 hown hI rfl rfl (by decide) mX8_tell_fieldLink_19_StillText_Trials_way_I rfl rfl dX8_tell_72 ?_
            refine k_cVi (As := [.int (σ 30 5)]) (rest := []) C (c_X8_longOn σ (σ 30 5) _ h) (cwV 1 hts gX8_tell_X8_longOn rfl rfl rfl hdX8_longOn ⟨Nat.le_of_ble_eq_true rfl, Nat.le_of_ble_eq_true rfl⟩) hI 30 rfl rfl rfl hl.1 rfl (Nat.le_of_ble_eq_true rfl) dX8_tell_75 ⟨Nat.le_of_ble_eq_true rfl, Nat.le_of_ble_eq_true rfl⟩ (fun r6 σ7 H locs h hI => ?_)
            exact k_iret hx hb hr hlocks hI h dX8_tell_78
          · replace h := h.2 c5
            refine lv_iconst (v := (-1)) hx hb dX8_tell_66 (by decide) ?_
            refine lv_goto (tgt := 78) hx hb dX8_tell_67 (by decide) ?_
            exact k_iret hx hb hr hlocks hI h dX8_tell_78
        · replace h := h.2 c4
          by_cases c8 : x1 = nI 3
          · replace h := h.1 c8
            refine lv_tableIn (off := 69) (tgt := 79) hx hb dX8_tell_10 (by rw [c8]; decide) (by rw [c8]; decide) (by rw [c8]; rfl) (by decide) ?_
            refine lv_aload_n hx hb dX8_tell_79 rfl (lv_at hl 0 rfl) ?_
            refine k_get (q0 := 30) (k := 5) (ci := 8) (v := .int (σ 30 5)) hx hb hts inX8_tell_X8 hown hI rfl rfl (by decide) mX8_tell_fieldLink_19_StillText_Trials_way_I rfl rfl dX8_tell_80 ?_
            refine lv_iconst (v := (-1)) hx hb dX8_tell_83 (by decide) ?_
            refine lv_icmp_ne (tgt := 91) hx hb dX8_tell_84 (by decide) (fun c9 => ?_) (fun c9 => ?_)
            · replace h := h.1 c9
              refine lv_aload_n hx hb dX8_tell_91 rfl (lv_at hl 0 rfl) ?_
              refine lv_aload_n hx hb dX8_tell_92 rfl (lv_at hl 0 rfl) ?_
              refine k_get (q0 := 30) (k := 5) (ci := 8) (v := .int (σ 30 5)) hx hb hts inX8_tell_X8 hown hI rfl rfl (by decide) mX8_tell_fieldLink_19_StillText_Trials_way_I rfl rfl dX8_tell_93 ?_
              refine k_cVi (As := [.int (σ 30 5)]) (rest := []) C (c_X8_spreadOn σ (σ 30 5) _ h) (cwV 1 hts gX8_tell_X8_spreadOn rfl rfl rfl hdX8_spreadOn ⟨Nat.le_of_ble_eq_true rfl, Nat.le_of_ble_eq_true rfl⟩) hI 30 rfl rfl rfl hl.1 rfl (Nat.le_of_ble_eq_true rfl) dX8_tell_96 ⟨Nat.le_of_ble_eq_true rfl, Nat.le_of_ble_eq_true rfl⟩ (fun r10 σ11 H locs h hI => ?_)
              exact k_iret hx hb hr hlocks hI h dX8_tell_99
            · replace h := h.2 c9
              refine lv_iconst (v := (-1)) hx hb dX8_tell_87 (by decide) ?_
              refine lv_goto (tgt := 99) hx hb dX8_tell_88 (by decide) ?_
              exact k_iret hx hb hr hlocks hI h dX8_tell_99
          · replace h := h.2 c8
            by_cases c12 : x1 = nI 4
            · replace h := h.1 c12
              refine lv_tableIn (off := 90) (tgt := 100) hx hb dX8_tell_10 (by rw [c12]; decide) (by rw [c12]; decide) (by rw [c12]; rfl) (by decide) ?_
              refine lv_aload_n hx hb dX8_tell_100 rfl (lv_at hl 0 rfl) ?_
              refine k_get (q0 := 30) (k := 7) (ci := 8) (v := .int (σ 30 7)) hx hb hts inX8_tell_X8 hown hI rfl rfl (by decide) mX8_tell_fieldLink_40_StillText_Trials_answers_I rfl rfl dX8_tell_101 ?_
              exact k_iret hx hb hr hlocks hI h dX8_tell_104
            · replace h := h.2 c12
              by_cases c13 : x1 = nI 5
              · replace h := h.1 c13
                refine lv_tableIn (off := 95) (tgt := 105) hx hb dX8_tell_10 (by rw [c13]; decide) (by rw [c13]; decide) (by rw [c13]; rfl) (by decide) ?_
                refine lv_aload_n hx hb dX8_tell_105 rfl (lv_at hl 0 rfl) ?_
                refine k_get (q0 := 30) (k := 8) (ci := 8) (v := .int (σ 30 8)) hx hb hts inX8_tell_X8 hown hI rfl rfl (by decide) mX8_tell_fieldLink_43_StillText_Trials_won_I rfl rfl dX8_tell_106 ?_
                exact k_iret hx hb hr hlocks hI h dX8_tell_109
              · replace h := h.2 c13
                have ec2 := lv_neT c2 (a := 0) (by decide)
                have ec3 := lv_neT c3 (a := 1) (by decide)
                have ec4 := lv_neT c4 (a := 2) (by decide)
                have ec8 := lv_neT c8 (a := 3) (by decide)
                have ec12 := lv_neT c12 (a := 4) (by decide)
                have ec13 := lv_neT c13 (a := 5) (by decide)
                refine lv_tableOut (tgt := 110) hx hb dX8_tell_10 (by omega) (by decide) ?_
                refine lv_iconst (v := (-1)) hx hb dX8_tell_110 (by decide) ?_
                exact k_iret hx hb hr hlocks hI h dX8_tell_111
  · replace h := h.2 c1
    refine lv_iconst (v := (-1)) hx hb dX8_tell_7 (by decide) ?_
    exact k_iret hx hb hr hlocks hI h dX8_tell_8
theorem inX10_tested_X10 : ∀ w ∈ wsX100, w ∈ wsX10_tested := fun _ h => List.mem_cons_of_mem _ (List.mem_append_left _ (List.mem_append_right _ (h)))
theorem mX10_tested_fieldLink_74_StillText_trials_LStillText_Trials : Cond.fieldLink RX10 74 "StillText" "trials" "LStillText$Trials;" ∈ wsX10_tested := List.mem_cons_of_mem _ (List.mem_append_left _ (List.mem_append_left _ (List.mem_of_getElem? (i := 0) rfl)))
set_option maxHeartbeats 4000000 in
set_option maxRecDepth 100000 in
theorem c_X10_tested (σ : St) (x1 : Int32) (Q : Int32 → St → Prop) (h : wp_X10_tested σ x1 Q) : Ci l D (tyE cyI cyZ) NwC (ZsC tL tS) (wC cyI cyZ ad) yX10_tested wsX10_tested r_X10_tested [.ref (ad 0), .int x1] σ Q := by
  refine k_metI (cc := cX10_tested) (maxL := 2) (ret := (some .int)) (by decide) rfl (Nat.le_of_ble_eq_true rfl) ?_
  intro p e s m below meth c A ls C hI hl
  obtain ⟨hx, hb, hr, hml, hown, hts, hlocks⟩ := id C
  have hl : lv_has ls 2 [(0, .ref (ad 0)), (1, .int x1)] := hl
  unfold wp_X10_tested at h
  refine lv_aload_n hx hb dX10_tested_0 rfl (lv_at hl 0 rfl) ?_
  refine k_get (q0 := 0) (k := 8) (ci := 10) (v := .ref (ad 30)) hx hb hts inX10_tested_X10 hown hI rfl rfl (by decide) mX10_tested_fieldLink_74_StillText_trials_LStillText_Trials rfl rfl dX10_tested_1 ?_
  refine lv_iload_n hx hb dX10_tested_4 rfl (lv_at hl 1 rfl) ?_
  refine k_cVi (As := [.int x1]) (rest := []) C (c_X8_tell σ x1 _ h) (cwV 1 hts gX10_tested_X8_tell rfl rfl rfl hdX8_tell ⟨Nat.le_of_ble_eq_true rfl, Nat.le_of_ble_eq_true rfl⟩) hI 30 rfl rfl rfl hl.1 rfl (Nat.le_of_ble_eq_true rfl) dX10_tested_5 ⟨Nat.le_of_ble_eq_true rfl, Nat.le_of_ble_eq_true rfl⟩ (fun r1 σ2 H locs h hI => ?_)
  exact k_iret hx hb hr hlocks hI h dX10_tested_8
theorem inX8_settle_X8 : ∀ w ∈ wsX80, w ∈ wsX8_settle := fun _ h => List.mem_cons_of_mem _ (List.mem_append_right _ (h))
theorem mX8_settle_fieldLink_46_StillText_Trials_ahead_I : Cond.fieldLink RX8 46 "StillText$Trials" "ahead" "I" ∈ wsX8_settle := List.mem_cons_of_mem _ (List.mem_append_left _ (List.mem_append_left _ (List.mem_of_getElem? (i := 0) rfl)))
theorem mX8_settle_methodLink_67_Lib_Math_abs_name : Cond.methodLink RX8 67 Lib.Math.abs.name ∈ wsX8_settle := List.mem_cons_of_mem _ (List.mem_append_left _ (List.mem_append_left _ (List.mem_of_getElem? (i := 1) rfl)))
theorem mX8_settle_static_Lib_Math_abs_name : Cond.static Lib.Math.abs.name ∈ wsX8_settle := List.mem_cons_of_mem _ (List.mem_append_left _ (List.mem_append_left _ (List.mem_of_getElem? (i := 2) rfl)))
theorem mX8_settle_initialized_java_lang_Math : Cond.initialized "java/lang/Math" ∈ wsX8_settle := List.mem_cons_of_mem _ (List.mem_append_left _ (List.mem_append_left _ (List.mem_of_getElem? (i := 3) rfl)))
theorem mX8_settle_code_Lib_Math_abs_name_Lib_Math_abs_code_1_some_int : Cond.code Lib.Math.abs.name Lib.Math.abs.code 1 (some .int) ∈ wsX8_settle := List.mem_cons_of_mem _ (List.mem_append_left _ (List.mem_append_left _ (List.mem_of_getElem? (i := 4) rfl)))
theorem mX8_settle_fieldLink_15_StillText_Trials_lead_I : Cond.fieldLink RX8 15 "StillText$Trials" "lead" "I" ∈ wsX8_settle := List.mem_cons_of_mem _ (List.mem_append_left _ (List.mem_append_left _ (List.mem_of_getElem? (i := 5) rfl)))
theorem mX8_settle_fieldLink_43_StillText_Trials_won_I : Cond.fieldLink RX8 43 "StillText$Trials" "won" "I" ∈ wsX8_settle := List.mem_cons_of_mem _ (List.mem_append_left _ (List.mem_append_left _ (List.mem_of_getElem? (i := 6) rfl)))
theorem mX8_settle_fieldLink_19_StillText_Trials_way_I : Cond.fieldLink RX8 19 "StillText$Trials" "way" "I" ∈ wsX8_settle := List.mem_cons_of_mem _ (List.mem_append_left _ (List.mem_append_left _ (List.mem_of_getElem? (i := 8) rfl)))
theorem mX8_settle_fieldLink_11_StillText_Trials_beaten_Z : Cond.fieldLink RX8 11 "StillText$Trials" "beaten" "[Z" ∈ wsX8_settle := List.mem_cons_of_mem _ (List.mem_append_left _ (List.mem_append_left _ (List.mem_of_getElem? (i := 7) rfl)))
set_option maxHeartbeats 4000000 in
set_option maxRecDepth 100000 in
theorem c_X8_settle (σ : St) (Q : Int32 → St → Prop) (h : wp_X8_settle σ  Q) : Ci l D (tyE cyI cyZ) NwC (ZsC tL tS) (wC cyI cyZ ad) yX8_settle wsX8_settle r_X8_settle [.ref (ad 30)] σ Q := by
  refine k_metI (cc := cX8_settle) (maxL := 2) (ret := (some .int)) (by decide) rfl (Nat.le_of_ble_eq_true rfl) ?_
  intro p e s m below meth c A ls C hI hl
  obtain ⟨hx, hb, hr, hml, hown, hts, hlocks⟩ := id C
  have hl : lv_has ls 2 [(0, .ref (ad 30))] := hl
  unfold wp_X8_settle at h
  refine lv_aload_n hx hb dX8_settle_0 rfl (lv_at hl 0 rfl) ?_
  refine k_get (q0 := 30) (k := 6) (ci := 8) (v := .int (σ 30 6)) hx hb hts inX8_settle_X8 hown hI rfl rfl (by decide) mX8_settle_fieldLink_46_StillText_Trials_ahead_I rfl rfl dX8_settle_1 ?_
  refine k_abs C hl.1 mX8_settle_methodLink_67_Lib_Math_abs_name mX8_settle_static_Lib_Math_abs_name mX8_settle_initialized_java_lang_Math mX8_settle_code_Lib_Math_abs_name_Lib_Math_abs_code_1_some_int (Nat.le_of_ble_eq_true rfl) (Nat.le_of_ble_eq_true rfl) (Nat.le_of_ble_eq_true rfl) (Nat.le_of_ble_eq_true rfl) dX8_settle_4 ?_
  refine lv_aload_n hx hb dX8_settle_7 rfl (lv_at hl 0 rfl) ?_
  refine k_get (q0 := 30) (k := 4) (ci := 8) (v := .int (σ 30 4)) hx hb hts inX8_settle_X8 hown hI rfl rfl (by decide) mX8_settle_fieldLink_15_StillText_Trials_lead_I rfl rfl dX8_settle_8 ?_
  refine lv_icmp_ge (tgt := 16) hx hb dX8_settle_11 (by decide) (fun c1 => ?_) (fun c1 => ?_)
  · replace h := h.1 c1
    refine lv_aload_n hx hb dX8_settle_16 rfl (lv_at hl 0 rfl) ?_
    refine k_get (q0 := 30) (k := 6) (ci := 8) (v := .int (σ 30 6)) hx hb hts inX8_settle_X8 hown hI rfl rfl (by decide) mX8_settle_fieldLink_46_StillText_Trials_ahead_I rfl rfl dX8_settle_17 ?_
    refine lv_if_le (tgt := 27) hx hb dX8_settle_20 (by decide) (fun c2 => ?_) (fun c2 => ?_)
    · replace h := h.1 c2
      refine lv_iconst (v := nI 0) hx hb dX8_settle_27 (by decide) ?_
      refine lv_istore_n (lv' := [(1, .int (nI 0)), (0, .ref (ad 30))]) hx hb dX8_settle_28 rfl hl (by decide) rfl (fun ls hl => ?_)
      refine lv_aload_n hx hb dX8_settle_29 rfl (lv_at hl 1 rfl) ?_
      refine lv_iconst (v := nI 0) hx hb dX8_settle_30 (by decide) ?_
      refine k_put (q0 := 30) (k := 6) (ci := 8) (v := .int (nI 0)) (σ' := up2 σ 30 6 (nI 0)) hx hb hts inX8_settle_X8 tyX8 tyX8_ok nmX8 hown hI rfl rfl (by decide) mX8_settle_fieldLink_46_StillText_Trials_ahead_I rfl rfl rfl rfl (Nat.le_of_ble_eq_true rfl) (wsC_30_6 _ _ _ _ _) dX8_settle_31 (fun H locs hI => ?_)
      refine lv_aload_n hx hb dX8_settle_34 rfl (lv_at hl 1 rfl) ?_
      refine lv_dup hx hb dX8_settle_35 rfl ?_
      refine k_get (q0 := 30) (k := 8) (ci := 8) (v := .int (σ 30 8)) hx hb hts inX8_settle_X8 hown hI rfl rfl (by decide) mX8_settle_fieldLink_43_StillText_Trials_won_I rfl rfl dX8_settle_36 ?_
      refine lv_iconst (v := nI 1) hx hb dX8_settle_39 (by decide) ?_
      refine lv_iadd hx hb dX8_settle_40 ?_
      refine k_put (q0 := 30) (k := 8) (ci := 8) (v := .int ((σ 30 8) + (nI 1))) (σ' := up2 (up2 σ 30 6 (nI 0)) 30 8 ((σ 30 8) + (nI 1))) hx hb hts inX8_settle_X8 tyX8 tyX8_ok nmX8 hown hI rfl rfl (by decide) mX8_settle_fieldLink_43_StillText_Trials_won_I rfl rfl rfl rfl (Nat.le_of_ble_eq_true rfl) (wsC_30_8 _ _ _ _ _) dX8_settle_41 (fun H locs hI => ?_)
      refine lv_iload_n hx hb dX8_settle_44 rfl (lv_at hl 0 rfl) ?_
      refine lv_if_eq (tgt := 61) hx hb dX8_settle_45 (by decide) (fun c3 => ?_) (fun c3 => ?_)
      · refine lv_aload_n hx hb dX8_settle_61 rfl (lv_at hl 1 rfl) ?_
        refine lv_aload_n hx hb dX8_settle_62 rfl (lv_at hl 1 rfl) ?_
        refine lv_aload_n hx hb dX8_settle_63 rfl (lv_at hl 1 rfl) ?_
        refine k_get (q0 := 30) (k := 5) (ci := 8) (v := .int (σ 30 5)) hx hb hts inX8_settle_X8 hown hI rfl rfl (by decide) mX8_settle_fieldLink_19_StillText_Trials_way_I rfl rfl dX8_settle_64 ?_
        refine k_cVi (As := [.int (σ 30 5)]) (rest := [.ref (ad 30)]) C (c_X8_longOn (up2 (up2 σ 30 6 (nI 0)) 30 8 ((σ 30 8) + (nI 1))) (σ 30 5) _ h) (cwV 1 hts gX8_settle_X8_longOn rfl rfl rfl hdX8_longOn ⟨Nat.le_of_ble_eq_true rfl, Nat.le_of_ble_eq_true rfl⟩) hI 30 rfl rfl rfl hl.1 rfl (Nat.le_of_ble_eq_true rfl) dX8_settle_67 ⟨Nat.le_of_ble_eq_true rfl, Nat.le_of_ble_eq_true rfl⟩ (fun r4 σ5 H locs h hI => ?_)
        refine lv_aload_n hx hb dX8_settle_70 rfl (lv_at hl 1 rfl) ?_
        refine lv_aload_n hx hb dX8_settle_71 rfl (lv_at hl 1 rfl) ?_
        refine k_get (q0 := 30) (k := 5) (ci := 8) (v := .int (σ5 30 5)) hx hb hts inX8_settle_X8 hown hI rfl rfl (by decide) mX8_settle_fieldLink_19_StillText_Trials_way_I rfl rfl dX8_settle_72 ?_
        refine k_cVi (As := [.int (σ5 30 5)]) (rest := [.int r4, .ref (ad 30)]) C (c_X8_spreadOn σ5 (σ5 30 5) _ h) (cwV 1 hts gX8_settle_X8_spreadOn rfl rfl rfl hdX8_spreadOn ⟨Nat.le_of_ble_eq_true rfl, Nat.le_of_ble_eq_true rfl⟩) hI 30 rfl rfl rfl hl.1 rfl (Nat.le_of_ble_eq_true rfl) dX8_settle_75 ⟨Nat.le_of_ble_eq_true rfl, Nat.le_of_ble_eq_true rfl⟩ (fun r6 σ7 H locs h hI => ?_)
        refine k_cVv (As := [.int r4, .int r6]) (rest := []) C (c_X8_makeBest σ7 r4 r6 _ h) (cwV 2 hts gX8_settle_X8_makeBest rfl rfl rfl hdX8_makeBest ⟨Nat.le_of_ble_eq_true rfl, Nat.le_of_ble_eq_true rfl⟩) hI 30 rfl rfl rfl hl.1 rfl (Nat.le_of_ble_eq_true rfl) dX8_settle_78 ⟨Nat.le_of_ble_eq_true rfl, Nat.le_of_ble_eq_true rfl⟩ (fun σ9 H locs h hI => ?_)
        refine lv_aload_n hx hb dX8_settle_81 rfl (lv_at hl 1 rfl) ?_
        refine lv_aload_n hx hb dX8_settle_82 rfl (lv_at hl 1 rfl) ?_
        refine k_cVi (As := []) (rest := [.ref (ad 30)]) C (c_X8_nextWay σ9  _ h) (cwV 0 hts gX8_settle_X8_nextWay rfl rfl rfl hdX8_nextWay ⟨Nat.le_of_ble_eq_true rfl, Nat.le_of_ble_eq_true rfl⟩) hI 30 rfl rfl rfl hl.1 rfl (Nat.le_of_ble_eq_true rfl) dX8_settle_83 ⟨Nat.le_of_ble_eq_true rfl, Nat.le_of_ble_eq_true rfl⟩ (fun r10 σ11 H locs h hI => ?_)
        refine k_put (q0 := 30) (k := 5) (ci := 8) (v := .int r10) (σ' := up2 σ11 30 5 r10) hx hb hts inX8_settle_X8 tyX8 tyX8_ok nmX8 hown hI rfl rfl (by decide) mX8_settle_fieldLink_19_StillText_Trials_way_I rfl rfl rfl rfl (Nat.le_of_ble_eq_true rfl) (wsC_30_5 _ _ _ _ _) dX8_settle_86 (fun H locs hI => ?_)
        refine lv_iload_n hx hb dX8_settle_89 rfl (lv_at hl 0 rfl) ?_
        refine lv_if_eq (tgt := 97) hx hb dX8_settle_90 (by decide) (fun c12 => ?_) (fun c12 => ?_)
        · refine lv_iconst (v := nI 2) hx hb dX8_settle_97 (by decide) ?_
          exact k_iret hx hb hr hlocks hI h dX8_settle_98
        · exact absurd c12 (by decide)
      · exact absurd c3 (by decide)
    · replace h := h.2 c2
      refine lv_iconst (v := nI 1) hx hb dX8_settle_23 (by decide) ?_
      refine lv_goto (tgt := 28) hx hb dX8_settle_24 (by decide) ?_
      refine lv_istore_n (lv' := [(1, .int (nI 1)), (0, .ref (ad 30))]) hx hb dX8_settle_28 rfl hl (by decide) rfl (fun ls hl => ?_)
      refine lv_aload_n hx hb dX8_settle_29 rfl (lv_at hl 1 rfl) ?_
      refine lv_iconst (v := nI 0) hx hb dX8_settle_30 (by decide) ?_
      refine k_put (q0 := 30) (k := 6) (ci := 8) (v := .int (nI 0)) (σ' := up2 σ 30 6 (nI 0)) hx hb hts inX8_settle_X8 tyX8 tyX8_ok nmX8 hown hI rfl rfl (by decide) mX8_settle_fieldLink_46_StillText_Trials_ahead_I rfl rfl rfl rfl (Nat.le_of_ble_eq_true rfl) (wsC_30_6 _ _ _ _ _) dX8_settle_31 (fun H locs hI => ?_)
      refine lv_aload_n hx hb dX8_settle_34 rfl (lv_at hl 1 rfl) ?_
      refine lv_dup hx hb dX8_settle_35 rfl ?_
      refine k_get (q0 := 30) (k := 8) (ci := 8) (v := .int (σ 30 8)) hx hb hts inX8_settle_X8 hown hI rfl rfl (by decide) mX8_settle_fieldLink_43_StillText_Trials_won_I rfl rfl dX8_settle_36 ?_
      refine lv_iconst (v := nI 1) hx hb dX8_settle_39 (by decide) ?_
      refine lv_iadd hx hb dX8_settle_40 ?_
      refine k_put (q0 := 30) (k := 8) (ci := 8) (v := .int ((σ 30 8) + (nI 1))) (σ' := up2 (up2 σ 30 6 (nI 0)) 30 8 ((σ 30 8) + (nI 1))) hx hb hts inX8_settle_X8 tyX8 tyX8_ok nmX8 hown hI rfl rfl (by decide) mX8_settle_fieldLink_43_StillText_Trials_won_I rfl rfl rfl rfl (Nat.le_of_ble_eq_true rfl) (wsC_30_8 _ _ _ _ _) dX8_settle_41 (fun H locs hI => ?_)
      refine lv_iload_n hx hb dX8_settle_44 rfl (lv_at hl 0 rfl) ?_
      refine lv_if_eq (tgt := 61) hx hb dX8_settle_45 (by decide) (fun c13 => ?_) (fun c13 => ?_)
      · exact absurd c13 (by decide)
      · refine lv_aload_n hx hb dX8_settle_48 rfl (lv_at hl 1 rfl) ?_
        refine k_get (q0 := 30) (k := 0) (ci := 8) (v := .ref (ad 31)) hx hb hts inX8_settle_X8 hown hI rfl rfl (by decide) mX8_settle_fieldLink_11_StillText_Trials_beaten_Z rfl rfl dX8_settle_49 ?_
        refine lv_aload_n hx hb dX8_settle_52 rfl (lv_at hl 1 rfl) ?_
        refine k_get (q0 := 30) (k := 5) (ci := 8) (v := .int (σ 30 5)) hx hb hts inX8_settle_X8 hown hI rfl rfl (by decide) mX8_settle_fieldLink_19_StillText_Trials_way_I rfl rfl dX8_settle_53 ?_
        refine lv_iconst (v := nI 1) hx hb dX8_settle_56 (by decide) ?_
        refine k_zast (q0 := 31) (t0 := 1) (n := 4) (σ' := up2 (up2 (up2 σ 30 6 (nI 0)) 30 8 ((σ 30 8) + (nI 1))) 31 (σ 30 5).toNatClampNeg (nI 1)) hx hb hI rfl rfl h.1 (Or.inr rfl) (wsC_31 _ _ _ _ _ _) dX8_settle_57 (fun H locs hI => ?_)
        replace h := h.2
        refine lv_goto (tgt := 81) hx hb dX8_settle_58 (by decide) ?_
        refine lv_aload_n hx hb dX8_settle_81 rfl (lv_at hl 1 rfl) ?_
        refine lv_aload_n hx hb dX8_settle_82 rfl (lv_at hl 1 rfl) ?_
        refine k_cVi (As := []) (rest := [.ref (ad 30)]) C (c_X8_nextWay (up2 (up2 (up2 σ 30 6 (nI 0)) 30 8 ((σ 30 8) + (nI 1))) 31 (σ 30 5).toNatClampNeg (nI 1))  _ h) (cwV 0 hts gX8_settle_X8_nextWay rfl rfl rfl hdX8_nextWay ⟨Nat.le_of_ble_eq_true rfl, Nat.le_of_ble_eq_true rfl⟩) hI 30 rfl rfl rfl hl.1 rfl (Nat.le_of_ble_eq_true rfl) dX8_settle_83 ⟨Nat.le_of_ble_eq_true rfl, Nat.le_of_ble_eq_true rfl⟩ (fun r14 σ15 H locs h hI => ?_)
        refine k_put (q0 := 30) (k := 5) (ci := 8) (v := .int r14) (σ' := up2 σ15 30 5 r14) hx hb hts inX8_settle_X8 tyX8 tyX8_ok nmX8 hown hI rfl rfl (by decide) mX8_settle_fieldLink_19_StillText_Trials_way_I rfl rfl rfl rfl (Nat.le_of_ble_eq_true rfl) (wsC_30_5 _ _ _ _ _) dX8_settle_86 (fun H locs hI => ?_)
        refine lv_iload_n hx hb dX8_settle_89 rfl (lv_at hl 0 rfl) ?_
        refine lv_if_eq (tgt := 97) hx hb dX8_settle_90 (by decide) (fun c16 => ?_) (fun c16 => ?_)
        · exact absurd c16 (by decide)
        · refine lv_iconst (v := nI 1) hx hb dX8_settle_93 (by decide) ?_
          refine lv_goto (tgt := 98) hx hb dX8_settle_94 (by decide) ?_
          exact k_iret hx hb hr hlocks hI h dX8_settle_98
  · replace h := h.2 c1
    refine lv_iconst (v := nI 0) hx hb dX8_settle_14 (by decide) ?_
    exact k_iret hx hb hr hlocks hI h dX8_settle_15
theorem inX8_hear_X8 : ∀ w ∈ wsX80, w ∈ wsX8_hear := fun _ h => List.mem_cons_of_mem _ (List.mem_append_right _ (h))
theorem mX8_hear_fieldLink_19_StillText_Trials_way_I : Cond.fieldLink RX8 19 "StillText$Trials" "way" "I" ∈ wsX8_hear := List.mem_cons_of_mem _ (List.mem_append_left _ (List.mem_append_left _ (List.mem_of_getElem? (i := 0) rfl)))
theorem mX8_hear_fieldLink_40_StillText_Trials_answers_I : Cond.fieldLink RX8 40 "StillText$Trials" "answers" "I" ∈ wsX8_hear := List.mem_cons_of_mem _ (List.mem_append_left _ (List.mem_append_left _ (List.mem_of_getElem? (i := 1) rfl)))
theorem mX8_hear_fieldLink_46_StillText_Trials_ahead_I : Cond.fieldLink RX8 46 "StillText$Trials" "ahead" "I" ∈ wsX8_hear := List.mem_cons_of_mem _ (List.mem_append_left _ (List.mem_append_left _ (List.mem_of_getElem? (i := 2) rfl)))
set_option maxHeartbeats 4000000 in
set_option maxRecDepth 100000 in
theorem c_X8_hear (σ : St) (x1 : Int32) (Q : Int32 → St → Prop) (h : wp_X8_hear σ x1 Q) : Ci l D (tyE cyI cyZ) NwC (ZsC tL tS) (wC cyI cyZ ad) yX8_hear wsX8_hear r_X8_hear [.ref (ad 30), .int x1] σ Q := by
  refine k_metI (cc := cX8_hear) (maxL := 3) (ret := (some .int)) (by decide) rfl (Nat.le_of_ble_eq_true rfl) ?_
  intro p e s m below meth c A ls C hI hl
  obtain ⟨hx, hb, hr, hml, hown, hts, hlocks⟩ := id C
  have hl : lv_has ls 3 [(0, .ref (ad 30)), (1, .int x1)] := hl
  unfold wp_X8_hear at h
  refine lv_aload_n hx hb dX8_hear_0 rfl (lv_at hl 0 rfl) ?_
  refine k_get (q0 := 30) (k := 5) (ci := 8) (v := .int (σ 30 5)) hx hb hts inX8_hear_X8 hown hI rfl rfl (by decide) mX8_hear_fieldLink_19_StillText_Trials_way_I rfl rfl dX8_hear_1 ?_
  refine lv_iconst (v := (-1)) hx hb dX8_hear_4 (by decide) ?_
  refine lv_icmp_ne (tgt := 10) hx hb dX8_hear_5 (by decide) (fun c1 => ?_) (fun c1 => ?_)
  · replace h := h.1 c1
    refine lv_aload_n hx hb dX8_hear_10 rfl (lv_at hl 0 rfl) ?_
    refine lv_dup hx hb dX8_hear_11 rfl ?_
    refine k_get (q0 := 30) (k := 7) (ci := 8) (v := .int (σ 30 7)) hx hb hts inX8_hear_X8 hown hI rfl rfl (by decide) mX8_hear_fieldLink_40_StillText_Trials_answers_I rfl rfl dX8_hear_12 ?_
    refine lv_iconst (v := nI 1) hx hb dX8_hear_15 (by decide) ?_
    refine lv_iadd hx hb dX8_hear_16 ?_
    refine k_put (q0 := 30) (k := 7) (ci := 8) (v := .int ((σ 30 7) + (nI 1))) (σ' := up2 σ 30 7 ((σ 30 7) + (nI 1))) hx hb hts inX8_hear_X8 tyX8 tyX8_ok nmX8 hown hI rfl rfl (by decide) mX8_hear_fieldLink_40_StillText_Trials_answers_I rfl rfl rfl rfl (Nat.le_of_ble_eq_true rfl) (wsC_30_7 _ _ _ _ _) dX8_hear_17 (fun H locs hI => ?_)
    refine lv_aload_n hx hb dX8_hear_20 rfl (lv_at hl 0 rfl) ?_
    refine lv_dup hx hb dX8_hear_21 rfl ?_
    refine k_get (q0 := 30) (k := 6) (ci := 8) (v := .int (σ 30 6)) hx hb hts inX8_hear_X8 hown hI rfl rfl (by decide) mX8_hear_fieldLink_46_StillText_Trials_ahead_I rfl rfl dX8_hear_22 ?_
    refine lv_iload_n hx hb dX8_hear_25 rfl (lv_at hl 1 rfl) ?_
    refine lv_if_eq (tgt := 33) hx hb dX8_hear_26 (by decide) (fun c2 => ?_) (fun c2 => ?_)
    · replace h := h.1 c2
      refine lv_iconst (v := (-1)) hx hb dX8_hear_33 (by decide) ?_
      refine lv_iadd hx hb dX8_hear_34 ?_
      refine k_put (q0 := 30) (k := 6) (ci := 8) (v := .int ((σ 30 6) + (-1))) (σ' := up2 (up2 σ 30 7 ((σ 30 7) + (nI 1))) 30 6 ((σ 30 6) + (-1))) hx hb hts inX8_hear_X8 tyX8 tyX8_ok nmX8 hown hI rfl rfl (by decide) mX8_hear_fieldLink_46_StillText_Trials_ahead_I rfl rfl rfl rfl (Nat.le_of_ble_eq_true rfl) (wsC_30_6 _ _ _ _ _) dX8_hear_35 (fun H locs hI => ?_)
      refine lv_aload_n hx hb dX8_hear_38 rfl (lv_at hl 0 rfl) ?_
      refine k_cVi (As := []) (rest := []) C (c_X8_settle (up2 (up2 σ 30 7 ((σ 30 7) + (nI 1))) 30 6 ((σ 30 6) + (-1)))  _ h) (cwV 0 hts gX8_hear_X8_settle rfl rfl rfl hdX8_settle ⟨Nat.le_of_ble_eq_true rfl, Nat.le_of_ble_eq_true rfl⟩) hI 30 rfl rfl rfl hl.1 rfl (Nat.le_of_ble_eq_true rfl) dX8_hear_39 ⟨Nat.le_of_ble_eq_true rfl, Nat.le_of_ble_eq_true rfl⟩ (fun r3 σ4 H locs h hI => ?_)
      refine lv_istore_n (lv' := [(2, .int r3), (0, .ref (ad 30)), (1, .int x1)]) hx hb dX8_hear_42 rfl hl (by decide) rfl (fun ls hl => ?_)
      refine lv_aload_n hx hb dX8_hear_43 rfl (lv_at hl 1 rfl) ?_
      refine k_get (q0 := 30) (k := 7) (ci := 8) (v := .int (σ4 30 7)) hx hb hts inX8_hear_X8 hown hI rfl rfl (by decide) mX8_hear_fieldLink_40_StillText_Trials_answers_I rfl rfl dX8_hear_44 ?_
      refine lv_sipush (v := nI 200) hx hb dX8_hear_47 (by decide) ?_
      refine lv_icmp_lt (tgt := 58) hx hb dX8_hear_50 (by decide) (fun c5 => ?_) (fun c5 => ?_)
      · replace h := h.1 c5
        refine lv_aload_n hx hb dX8_hear_58 rfl (lv_at hl 1 rfl) ?_
        refine k_get (q0 := 30) (k := 5) (ci := 8) (v := .int (σ4 30 5)) hx hb hts inX8_hear_X8 hown hI rfl rfl (by decide) mX8_hear_fieldLink_19_StillText_Trials_way_I rfl rfl dX8_hear_59 ?_
        refine lv_iconst (v := (-1)) hx hb dX8_hear_62 (by decide) ?_
        refine lv_icmp_ne (tgt := 70) hx hb dX8_hear_63 (by decide) (fun c6 => ?_) (fun c6 => ?_)
        · replace h := h.1 c6
          refine lv_iload_n hx hb dX8_hear_70 rfl (lv_at hl 0 rfl) ?_
          exact k_iret hx hb hr hlocks hI h dX8_hear_71
        · replace h := h.2 c6
          refine lv_iconst (v := nI 3) hx hb dX8_hear_66 (by decide) ?_
          refine lv_goto (tgt := 71) hx hb dX8_hear_67 (by decide) ?_
          exact k_iret hx hb hr hlocks hI h dX8_hear_71
      · replace h := h.2 c5
        refine lv_aload_n hx hb dX8_hear_53 rfl (lv_at hl 1 rfl) ?_
        refine lv_iconst (v := (-1)) hx hb dX8_hear_54 (by decide) ?_
        refine k_put (q0 := 30) (k := 5) (ci := 8) (v := .int (-1)) (σ' := up2 σ4 30 5 (-1)) hx hb hts inX8_hear_X8 tyX8 tyX8_ok nmX8 hown hI rfl rfl (by decide) mX8_hear_fieldLink_19_StillText_Trials_way_I rfl rfl rfl rfl (Nat.le_of_ble_eq_true rfl) (wsC_30_5 _ _ _ _ _) dX8_hear_55 (fun H locs hI => ?_)
        refine lv_aload_n hx hb dX8_hear_58 rfl (lv_at hl 1 rfl) ?_
        refine k_get (q0 := 30) (k := 5) (ci := 8) (v := .int (-1)) hx hb hts inX8_hear_X8 hown hI rfl rfl (by decide) mX8_hear_fieldLink_19_StillText_Trials_way_I rfl rfl dX8_hear_59 ?_
        refine lv_iconst (v := (-1)) hx hb dX8_hear_62 (by decide) ?_
        refine lv_icmp_ne (tgt := 70) hx hb dX8_hear_63 (by decide) (fun c7 => ?_) (fun c7 => ?_)
        · exact absurd c7 (by decide)
        · refine lv_iconst (v := nI 3) hx hb dX8_hear_66 (by decide) ?_
          refine lv_goto (tgt := 71) hx hb dX8_hear_67 (by decide) ?_
          exact k_iret hx hb hr hlocks hI h dX8_hear_71
    · replace h := h.2 c2
      refine lv_iconst (v := nI 1) hx hb dX8_hear_29 (by decide) ?_
      refine lv_goto (tgt := 34) hx hb dX8_hear_30 (by decide) ?_
      refine lv_iadd hx hb dX8_hear_34 ?_
      refine k_put (q0 := 30) (k := 6) (ci := 8) (v := .int ((σ 30 6) + (nI 1))) (σ' := up2 (up2 σ 30 7 ((σ 30 7) + (nI 1))) 30 6 ((σ 30 6) + (nI 1))) hx hb hts inX8_hear_X8 tyX8 tyX8_ok nmX8 hown hI rfl rfl (by decide) mX8_hear_fieldLink_46_StillText_Trials_ahead_I rfl rfl rfl rfl (Nat.le_of_ble_eq_true rfl) (wsC_30_6 _ _ _ _ _) dX8_hear_35 (fun H locs hI => ?_)
      refine lv_aload_n hx hb dX8_hear_38 rfl (lv_at hl 0 rfl) ?_
      refine k_cVi (As := []) (rest := []) C (c_X8_settle (up2 (up2 σ 30 7 ((σ 30 7) + (nI 1))) 30 6 ((σ 30 6) + (nI 1)))  _ h) (cwV 0 hts gX8_hear_X8_settle rfl rfl rfl hdX8_settle ⟨Nat.le_of_ble_eq_true rfl, Nat.le_of_ble_eq_true rfl⟩) hI 30 rfl rfl rfl hl.1 rfl (Nat.le_of_ble_eq_true rfl) dX8_hear_39 ⟨Nat.le_of_ble_eq_true rfl, Nat.le_of_ble_eq_true rfl⟩ (fun r8 σ9 H locs h hI => ?_)
      refine lv_istore_n (lv' := [(2, .int r8), (0, .ref (ad 30)), (1, .int x1)]) hx hb dX8_hear_42 rfl hl (by decide) rfl (fun ls hl => ?_)
      refine lv_aload_n hx hb dX8_hear_43 rfl (lv_at hl 1 rfl) ?_
      refine k_get (q0 := 30) (k := 7) (ci := 8) (v := .int (σ9 30 7)) hx hb hts inX8_hear_X8 hown hI rfl rfl (by decide) mX8_hear_fieldLink_40_StillText_Trials_answers_I rfl rfl dX8_hear_44 ?_
      refine lv_sipush (v := nI 200) hx hb dX8_hear_47 (by decide) ?_
      refine lv_icmp_lt (tgt := 58) hx hb dX8_hear_50 (by decide) (fun c10 => ?_) (fun c10 => ?_)
      · replace h := h.1 c10
        refine lv_aload_n hx hb dX8_hear_58 rfl (lv_at hl 1 rfl) ?_
        refine k_get (q0 := 30) (k := 5) (ci := 8) (v := .int (σ9 30 5)) hx hb hts inX8_hear_X8 hown hI rfl rfl (by decide) mX8_hear_fieldLink_19_StillText_Trials_way_I rfl rfl dX8_hear_59 ?_
        refine lv_iconst (v := (-1)) hx hb dX8_hear_62 (by decide) ?_
        refine lv_icmp_ne (tgt := 70) hx hb dX8_hear_63 (by decide) (fun c11 => ?_) (fun c11 => ?_)
        · replace h := h.1 c11
          refine lv_iload_n hx hb dX8_hear_70 rfl (lv_at hl 0 rfl) ?_
          exact k_iret hx hb hr hlocks hI h dX8_hear_71
        · replace h := h.2 c11
          refine lv_iconst (v := nI 3) hx hb dX8_hear_66 (by decide) ?_
          refine lv_goto (tgt := 71) hx hb dX8_hear_67 (by decide) ?_
          exact k_iret hx hb hr hlocks hI h dX8_hear_71
      · replace h := h.2 c10
        refine lv_aload_n hx hb dX8_hear_53 rfl (lv_at hl 1 rfl) ?_
        refine lv_iconst (v := (-1)) hx hb dX8_hear_54 (by decide) ?_
        refine k_put (q0 := 30) (k := 5) (ci := 8) (v := .int (-1)) (σ' := up2 σ9 30 5 (-1)) hx hb hts inX8_hear_X8 tyX8 tyX8_ok nmX8 hown hI rfl rfl (by decide) mX8_hear_fieldLink_19_StillText_Trials_way_I rfl rfl rfl rfl (Nat.le_of_ble_eq_true rfl) (wsC_30_5 _ _ _ _ _) dX8_hear_55 (fun H locs hI => ?_)
        refine lv_aload_n hx hb dX8_hear_58 rfl (lv_at hl 1 rfl) ?_
        refine k_get (q0 := 30) (k := 5) (ci := 8) (v := .int (-1)) hx hb hts inX8_hear_X8 hown hI rfl rfl (by decide) mX8_hear_fieldLink_19_StillText_Trials_way_I rfl rfl dX8_hear_59 ?_
        refine lv_iconst (v := (-1)) hx hb dX8_hear_62 (by decide) ?_
        refine lv_icmp_ne (tgt := 70) hx hb dX8_hear_63 (by decide) (fun c12 => ?_) (fun c12 => ?_)
        · exact absurd c12 (by decide)
        · refine lv_iconst (v := nI 3) hx hb dX8_hear_66 (by decide) ?_
          refine lv_goto (tgt := 71) hx hb dX8_hear_67 (by decide) ?_
          exact k_iret hx hb hr hlocks hI h dX8_hear_71
  · replace h := h.2 c1
    refine lv_iconst (v := (-1)) hx hb dX8_hear_8 (by decide) ?_
    exact k_iret hx hb hr hlocks hI h dX8_hear_9
theorem inX10_answer_X10 : ∀ w ∈ wsX100, w ∈ wsX10_answer := fun _ h => List.mem_cons_of_mem _ (List.mem_append_left _ (List.mem_append_right _ (h)))
theorem mX10_answer_fieldLink_74_StillText_trials_LStillText_Trials : Cond.fieldLink RX10 74 "StillText" "trials" "LStillText$Trials;" ∈ wsX10_answer := List.mem_cons_of_mem _ (List.mem_append_left _ (List.mem_append_left _ (List.mem_append_left _ (List.mem_of_getElem? (i := 0) rfl))))
set_option maxHeartbeats 4000000 in
set_option maxRecDepth 100000 in
theorem c_X10_answer (σ : St) (x1 : Int32) (Q : Int32 → St → Prop) (h : wp_X10_answer σ x1 Q) : Ci l D (tyE cyI cyZ) NwC (ZsC tL tS) (wC cyI cyZ ad) yX10_answer wsX10_answer r_X10_answer [.ref (ad 0), .int x1] σ Q := by
  refine k_metI (cc := cX10_answer) (maxL := 2) (ret := (some .int)) (by decide) rfl (Nat.le_of_ble_eq_true rfl) ?_
  intro p e s m below meth c A ls C hI hl
  obtain ⟨hx, hb, hr, hml, hown, hts, hlocks⟩ := id C
  have hl : lv_has ls 2 [(0, .ref (ad 0)), (1, .int x1)] := hl
  unfold wp_X10_answer at h
  refine lv_aload_n hx hb dX10_answer_0 rfl (lv_at hl 0 rfl) ?_
  refine k_get (q0 := 0) (k := 8) (ci := 10) (v := .ref (ad 30)) hx hb hts inX10_answer_X10 hown hI rfl rfl (by decide) mX10_answer_fieldLink_74_StillText_trials_LStillText_Trials rfl rfl dX10_answer_1 ?_
  refine lv_iload_n hx hb dX10_answer_4 rfl (lv_at hl 1 rfl) ?_
  refine k_cVi (As := [.int x1]) (rest := []) C (c_X8_hear σ x1 _ h) (cwV 1 hts gX10_answer_X8_hear rfl rfl rfl hdX8_hear ⟨Nat.le_of_ble_eq_true rfl, Nat.le_of_ble_eq_true rfl⟩) hI 30 rfl rfl rfl hl.1 rfl (Nat.le_of_ble_eq_true rfl) dX10_answer_5 ⟨Nat.le_of_ble_eq_true rfl, Nat.le_of_ble_eq_true rfl⟩ (fun r1 σ2 H locs h hI => ?_)
  exact k_iret hx hb hr hlocks hI h dX10_answer_8
theorem inX8_haveBegun_X8 : ∀ w ∈ wsX80, w ∈ wsX8_haveBegun := fun _ h => List.mem_cons_of_mem _ (List.mem_append_right _ (h))
theorem mX8_haveBegun_fieldLink_22_StillText_Trials_begun_Z : Cond.fieldLink RX8 22 "StillText$Trials" "begun" "Z" ∈ wsX8_haveBegun := List.mem_cons_of_mem _ (List.mem_append_left _ (List.mem_of_getElem? (i := 0) rfl))
set_option maxHeartbeats 4000000 in
set_option maxRecDepth 100000 in
theorem c_X8_haveBegun (σ : St) (Q : Int32 → St → Prop) (h : wp_X8_haveBegun σ  Q) : Ci l D (tyE cyI cyZ) NwC (ZsC tL tS) (wC cyI cyZ ad) yX8_haveBegun wsX8_haveBegun r_X8_haveBegun [.ref (ad 30)] σ Q := by
  refine k_metI (cc := cX8_haveBegun) (maxL := 1) (ret := (some .boolean)) (by decide) rfl (Nat.le_of_ble_eq_true rfl) ?_
  intro p e s m below meth c A ls C hI hl
  obtain ⟨hx, hb, hr, hml, hown, hts, hlocks⟩ := id C
  have hl : lv_has ls 1 [(0, .ref (ad 30))] := hl
  unfold wp_X8_haveBegun at h
  refine lv_aload_n hx hb dX8_haveBegun_0 rfl (lv_at hl 0 rfl) ?_
  refine k_get (q0 := 30) (k := 1) (ci := 8) (v := .int (σ 30 1)) hx hb hts inX8_haveBegun_X8 hown hI rfl rfl (by decide) mX8_haveBegun_fieldLink_22_StillText_Trials_begun_Z rfl rfl dX8_haveBegun_1 ?_
  exact k_zret hx hb hr hlocks hI h.1 h.2 dX8_haveBegun_4
theorem inX8_bestLongest_X8 : ∀ w ∈ wsX80, w ∈ wsX8_bestLongest := fun _ h => List.mem_cons_of_mem _ (List.mem_append_right _ (h))
theorem mX8_bestLongest_fieldLink_26_StillText_Trials_bestLong_I : Cond.fieldLink RX8 26 "StillText$Trials" "bestLong" "I" ∈ wsX8_bestLongest := List.mem_cons_of_mem _ (List.mem_append_left _ (List.mem_of_getElem? (i := 0) rfl))
set_option maxHeartbeats 4000000 in
set_option maxRecDepth 100000 in
theorem c_X8_bestLongest (σ : St) (Q : Int32 → St → Prop) (h : wp_X8_bestLongest σ  Q) : Ci l D (tyE cyI cyZ) NwC (ZsC tL tS) (wC cyI cyZ ad) yX8_bestLongest wsX8_bestLongest r_X8_bestLongest [.ref (ad 30)] σ Q := by
  refine k_metI (cc := cX8_bestLongest) (maxL := 1) (ret := (some .int)) (by decide) rfl (Nat.le_of_ble_eq_true rfl) ?_
  intro p e s m below meth c A ls C hI hl
  obtain ⟨hx, hb, hr, hml, hown, hts, hlocks⟩ := id C
  have hl : lv_has ls 1 [(0, .ref (ad 30))] := hl
  unfold wp_X8_bestLongest at h
  refine lv_bipush (v := nI 20) hx hb dX8_bestLongest_0 (by decide) ?_
  refine lv_iconst (v := nI 4) hx hb dX8_bestLongest_2 (by decide) ?_
  refine lv_aload_n hx hb dX8_bestLongest_3 rfl (lv_at hl 0 rfl) ?_
  refine k_get (q0 := 30) (k := 2) (ci := 8) (v := .int (σ 30 2)) hx hb hts inX8_bestLongest_X8 hown hI rfl rfl (by decide) mX8_bestLongest_fieldLink_26_StillText_Trials_bestLong_I rfl rfl dX8_bestLongest_4 ?_
  refine lv_imul hx hb dX8_bestLongest_7 ?_
  refine lv_iadd hx hb dX8_bestLongest_8 ?_
  exact k_iret hx hb hr hlocks hI h dX8_bestLongest_9
theorem inX8_bestSpread_X8 : ∀ w ∈ wsX80, w ∈ wsX8_bestSpread := fun _ h => List.mem_cons_of_mem _ (List.mem_append_right _ (h))
theorem mX8_bestSpread_fieldLink_29_StillText_Trials_bestSpread_I : Cond.fieldLink RX8 29 "StillText$Trials" "bestSpread" "I" ∈ wsX8_bestSpread := List.mem_cons_of_mem _ (List.mem_append_left _ (List.mem_of_getElem? (i := 0) rfl))
set_option maxHeartbeats 4000000 in
set_option maxRecDepth 100000 in
theorem c_X8_bestSpread (σ : St) (Q : Int32 → St → Prop) (h : wp_X8_bestSpread σ  Q) : Ci l D (tyE cyI cyZ) NwC (ZsC tL tS) (wC cyI cyZ ad) yX8_bestSpread wsX8_bestSpread r_X8_bestSpread [.ref (ad 30)] σ Q := by
  refine k_metI (cc := cX8_bestSpread) (maxL := 1) (ret := (some .int)) (by decide) rfl (Nat.le_of_ble_eq_true rfl) ?_
  intro p e s m below meth c A ls C hI hl
  obtain ⟨hx, hb, hr, hml, hown, hts, hlocks⟩ := id C
  have hl : lv_has ls 1 [(0, .ref (ad 30))] := hl
  unfold wp_X8_bestSpread at h
  refine lv_iconst (v := nI 1) hx hb dX8_bestSpread_0 (by decide) ?_
  refine lv_aload_n hx hb dX8_bestSpread_1 rfl (lv_at hl 0 rfl) ?_
  refine k_get (q0 := 30) (k := 3) (ci := 8) (v := .int (σ 30 3)) hx hb hts inX8_bestSpread_X8 hown hI rfl rfl (by decide) mX8_bestSpread_fieldLink_29_StillText_Trials_bestSpread_I rfl rfl dX8_bestSpread_2 ?_
  refine lv_iadd hx hb dX8_bestSpread_5 ?_
  exact k_iret hx hb hr hlocks hI h dX8_bestSpread_6
theorem inX10_use_X10 : ∀ w ∈ wsX100, w ∈ wsX10_use := fun _ h => List.mem_cons_of_mem _ (List.mem_append_left _ (List.mem_append_left _ (List.mem_append_right _ (h))))
theorem mX10_use_fieldLink_74_StillText_trials_LStillText_Trials : Cond.fieldLink RX10 74 "StillText" "trials" "LStillText$Trials;" ∈ wsX10_use := List.mem_cons_of_mem _ (List.mem_append_left _ (List.mem_append_left _ (List.mem_append_left _ (List.mem_append_left _ (List.mem_of_getElem? (i := 0) rfl)))))
theorem mX10_use_fieldLink_33_StillText_measures_LStillText_Measures : Cond.fieldLink RX10 33 "StillText" "measures" "LStillText$Measures;" ∈ wsX10_use := List.mem_cons_of_mem _ (List.mem_append_left _ (List.mem_append_left _ (List.mem_append_left _ (List.mem_append_left _ (List.mem_of_getElem? (i := 1) rfl)))))
set_option maxHeartbeats 4000000 in
set_option maxRecDepth 100000 in
theorem c_X10_use (σ : St) (Q : Int32 → St → Prop) (h : wp_X10_use σ  Q) : Ci l D (tyE cyI cyZ) NwC (ZsC tL tS) (wC cyI cyZ ad) yX10_use wsX10_use r_X10_use [.ref (ad 0)] σ Q := by
  refine k_metI (cc := cX10_use) (maxL := 1) (ret := (some .boolean)) (by decide) rfl (Nat.le_of_ble_eq_true rfl) ?_
  intro p e s m below meth c A ls C hI hl
  obtain ⟨hx, hb, hr, hml, hown, hts, hlocks⟩ := id C
  have hl : lv_has ls 1 [(0, .ref (ad 0))] := hl
  unfold wp_X10_use at h
  refine lv_aload_n hx hb dX10_use_0 rfl (lv_at hl 0 rfl) ?_
  refine k_get (q0 := 0) (k := 8) (ci := 10) (v := .ref (ad 30)) hx hb hts inX10_use_X10 hown hI rfl rfl (by decide) mX10_use_fieldLink_74_StillText_trials_LStillText_Trials rfl rfl dX10_use_1 ?_
  refine k_cVi (As := []) (rest := []) C (c_X8_haveBegun σ  _ h) (cwV 0 hts gX10_use_X8_haveBegun rfl rfl rfl hdX8_haveBegun ⟨Nat.le_of_ble_eq_true rfl, Nat.le_of_ble_eq_true rfl⟩) hI 30 rfl rfl rfl hl.1 rfl (Nat.le_of_ble_eq_true rfl) dX10_use_4 ⟨Nat.le_of_ble_eq_true rfl, Nat.le_of_ble_eq_true rfl⟩ (fun r1 σ2 H locs h hI => ?_)
  refine lv_if_eq (tgt := 38) hx hb dX10_use_7 (by decide) (fun c3 => ?_) (fun c3 => ?_)
  · replace h := h.1 c3
    refine lv_iconst (v := nI 0) hx hb dX10_use_38 (by decide) ?_
    exact k_zret hx hb hr hlocks hI (Or.inl rfl) h dX10_use_39
  · replace h := h.2 c3
    refine lv_aload_n hx hb dX10_use_10 rfl (lv_at hl 0 rfl) ?_
    refine k_get (q0 := 0) (k := 3) (ci := 10) (v := .ref (ad 12)) hx hb hts inX10_use_X10 hown hI rfl rfl (by decide) mX10_use_fieldLink_33_StillText_measures_LStillText_Measures rfl rfl dX10_use_11 ?_
    refine lv_aload_n hx hb dX10_use_14 rfl (lv_at hl 0 rfl) ?_
    refine k_get (q0 := 0) (k := 8) (ci := 10) (v := .ref (ad 30)) hx hb hts inX10_use_X10 hown hI rfl rfl (by decide) mX10_use_fieldLink_74_StillText_trials_LStillText_Trials rfl rfl dX10_use_15 ?_
    refine k_cVi (As := []) (rest := [.ref (ad 12)]) C (c_X8_bestLongest σ2  _ h) (cwV 0 hts gX10_use_X8_bestLongest rfl rfl rfl hdX8_bestLongest ⟨Nat.le_of_ble_eq_true rfl, Nat.le_of_ble_eq_true rfl⟩) hI 30 rfl rfl rfl hl.1 rfl (Nat.le_of_ble_eq_true rfl) dX10_use_18 ⟨Nat.le_of_ble_eq_true rfl, Nat.le_of_ble_eq_true rfl⟩ (fun r4 σ5 H locs h hI => ?_)
    refine lv_aload_n hx hb dX10_use_21 rfl (lv_at hl 0 rfl) ?_
    refine k_get (q0 := 0) (k := 8) (ci := 10) (v := .ref (ad 30)) hx hb hts inX10_use_X10 hown hI rfl rfl (by decide) mX10_use_fieldLink_74_StillText_trials_LStillText_Trials rfl rfl dX10_use_22 ?_
    refine k_cVi (As := []) (rest := [.int r4, .ref (ad 12)]) C (c_X8_bestSpread σ5  _ h) (cwV 0 hts gX10_use_X8_bestSpread rfl rfl rfl hdX8_bestSpread ⟨Nat.le_of_ble_eq_true rfl, Nat.le_of_ble_eq_true rfl⟩) hI 30 rfl rfl rfl hl.1 rfl (Nat.le_of_ble_eq_true rfl) dX10_use_25 ⟨Nat.le_of_ble_eq_true rfl, Nat.le_of_ble_eq_true rfl⟩ (fun r6 σ7 H locs h hI => ?_)
    refine k_cVi (As := [.int r4, .int r6]) (rest := []) C (c_X1_changeLine σ7 r4 r6 _ h) (cwV 2 hts gX10_use_X1_changeLine rfl rfl rfl hdX1_changeLine ⟨Nat.le_of_ble_eq_true rfl, Nat.le_of_ble_eq_true rfl⟩) hI 12 rfl rfl rfl hl.1 rfl (Nat.le_of_ble_eq_true rfl) dX10_use_28 ⟨Nat.le_of_ble_eq_true rfl, Nat.le_of_ble_eq_true rfl⟩ (fun r8 σ9 H locs h hI => ?_)
    refine lv_if_eq (tgt := 38) hx hb dX10_use_31 (by decide) (fun c10 => ?_) (fun c10 => ?_)
    · replace h := h.1 c10
      refine lv_iconst (v := nI 0) hx hb dX10_use_38 (by decide) ?_
      exact k_zret hx hb hr hlocks hI (Or.inl rfl) h dX10_use_39
    · replace h := h.2 c10
      refine lv_iconst (v := nI 1) hx hb dX10_use_34 (by decide) ?_
      refine lv_goto (tgt := 39) hx hb dX10_use_35 (by decide) ?_
      exact k_zret hx hb hr hlocks hI (Or.inr rfl) h dX10_use_39
end
