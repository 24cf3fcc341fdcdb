section
variable {l : Launch} {D : va_G} {cyI : ClassId} {ad : Nat → Nat}
theorem inX11_keeps_X11 : ∀ w ∈ wsX110, w ∈ wsX11_keeps := fun _ h => List.mem_cons_of_mem _ (List.mem_append_right _ (h))
theorem mX11_keeps_fieldLink_62_StillTextModel_upper_I : Cond.fieldLink RX11 62 "StillTextModel" "upper" "[I" ∈ wsX11_keeps := List.mem_cons_of_mem _ (List.mem_append_left _ (List.mem_of_getElem? (i := 0) rfl))
theorem mX11_keeps_fieldLink_71_StillTextModel_lineFrom_I : Cond.fieldLink RX11 71 "StillTextModel" "lineFrom" "[I" ∈ wsX11_keeps := List.mem_cons_of_mem _ (List.mem_append_left _ (List.mem_of_getElem? (i := 1) rfl))
theorem mX11_keeps_fieldLink_170_StillTextModel_lines_I : Cond.fieldLink RX11 170 "StillTextModel" "lines" "I" ∈ wsX11_keeps := List.mem_cons_of_mem _ (List.mem_append_left _ (List.mem_of_getElem? (i := 2) rfl))
theorem mX11_keeps_fieldLink_74_StillTextModel_lineMany_I : Cond.fieldLink RX11 74 "StillTextModel" "lineMany" "[I" ∈ wsX11_keeps := List.mem_cons_of_mem _ (List.mem_append_left _ (List.mem_of_getElem? (i := 3) rfl))
theorem mX11_keeps_fieldLink_77_StillTextModel_lineSigns_I : Cond.fieldLink RX11 77 "StillTextModel" "lineSigns" "[I" ∈ wsX11_keeps := List.mem_cons_of_mem _ (List.mem_append_left _ (List.mem_of_getElem? (i := 4) rfl))
theorem mX11_keeps_fieldLink_80_StillTextModel_signs_I : Cond.fieldLink RX11 80 "StillTextModel" "signs" "[I" ∈ wsX11_keeps := List.mem_cons_of_mem _ (List.mem_append_left _ (List.mem_of_getElem? (i := 5) rfl))
set_option maxHeartbeats 4000000 in
set_option maxRecDepth 100000 in
theorem t_X11_keeps_44 {p : Program} {e : Env} {s : State} {m : MethodId} {args : Array Value} {below : List Frame} {meth : Method} {c : Code} {A : Nat → Prop} {x1 x2 x3 : Int32}  {Q : St → Prop} (C : Cx p s m args meth c cX11_keeps 5 none RX11 wsX11_keeps) :
    ∀ (n : Nat) (σ : St) (x4 : Int32) (H : Heap) (locs : List Loc) (ls : Array Slot), wpl_X11_keeps_44 x1 x2 x3 Q n σ x4 → Iw D (tyM cyI) [] [] (wM cyI ad) A s H locs σ → lv_has ls 5 [(0, .ref (ad 0)), (1, .int x1), (2, .int x2), (3, .int x3), (4, .int x4)] → W p l e r_X11_keeps s m args below meth c H locs 0 0 (MQ below (va_Qv Q (Kq D (tyM cyI) (wM cyI ad) A) A) args s 0 0 A) (F0 m 44 ls []) := by
  obtain ⟨hx, hb, hr, hml, hown, hts, hlocks⟩ := id C
  intro n
  induction n with
  | zero =>
    intro _ _ _ _ _ h
    exact h.elim
  | succ n ih =>
    intro σ x4 H locs ls h hI hl
    unfold wpl_X11_keeps_44 at h
    refine lv_iload hx hb dX11_keeps_44 (lv_at hl 4 rfl) ?_
    refine lv_iload_n hx hb dX11_keeps_46 rfl (lv_at hl 3 rfl) ?_
    refine lv_icmp_ge (tgt := 78) hx hb dX11_keeps_47 (by decide) (fun c3 => ?_) (fun c3 => ?_)
    · replace h := h.1 c3
      refine lv_aload_n hx hb dX11_keeps_78 rfl (lv_at hl 0 rfl) ?_
      refine lv_dup hx hb dX11_keeps_79 rfl ?_
      refine k_get (q0 := 0) (k := 26) (ci := 11) (v := .int (σ 0 26)) hx hb hts inX11_keeps_X11 hown hI rfl rfl (by decide) mX11_keeps_fieldLink_170_StillTextModel_lines_I rfl rfl dX11_keeps_80 ?_
      refine lv_iconst (v := nI 1) hx hb dX11_keeps_83 (by decide) ?_
      refine lv_iadd hx hb dX11_keeps_84 ?_
      refine k_put (q0 := 0) (k := 26) (ci := 11) (v := .int ((σ 0 26) + (nI 1))) (σ' := up2 σ 0 26 ((σ 0 26) + (nI 1))) hx hb hts inX11_keeps_X11 tyX11 tyX11_ok nmX11 hown hI rfl rfl (by decide) mX11_keeps_fieldLink_170_StillTextModel_lines_I rfl rfl rfl rfl (Nat.le_of_ble_eq_true rfl) (wsM_0_26 _ _ _ _) dX11_keeps_85 (fun H locs hI => ?_)
      exact k_vret hx hb hr hlocks hI h dX11_keeps_88
    · replace h := h.2 c3
      refine lv_aload_n hx hb dX11_keeps_50 rfl (lv_at hl 0 rfl) ?_
      refine k_get (q0 := 0) (k := 30) (ci := 11) (v := .ref (ad 16)) hx hb hts inX11_keeps_X11 hown hI rfl rfl (by decide) mX11_keeps_fieldLink_80_StillTextModel_signs_I rfl rfl dX11_keeps_51 ?_
      refine lv_bipush (v := nI 60) hx hb dX11_keeps_54 (by decide) ?_
      refine lv_aload_n hx hb dX11_keeps_56 rfl (lv_at hl 0 rfl) ?_
      refine k_get (q0 := 0) (k := 26) (ci := 11) (v := .int (σ 0 26)) hx hb hts inX11_keeps_X11 hown hI rfl rfl (by decide) mX11_keeps_fieldLink_170_StillTextModel_lines_I rfl rfl dX11_keeps_57 ?_
      refine lv_imul hx hb dX11_keeps_60 ?_
      refine lv_iload hx hb dX11_keeps_61 (lv_at hl 4 rfl) ?_
      refine lv_iadd hx hb dX11_keeps_63 ?_
      refine lv_aload_n hx hb dX11_keeps_64 rfl (lv_at hl 0 rfl) ?_
      refine k_get (q0 := 0) (k := 21) (ci := 11) (v := .ref (ad 10)) hx hb hts inX11_keeps_X11 hown hI rfl rfl (by decide) mX11_keeps_fieldLink_62_StillTextModel_upper_I rfl rfl dX11_keeps_65 ?_
      refine lv_iload hx hb dX11_keeps_68 (lv_at hl 4 rfl) ?_
      refine k_iald (q0 := 10) (t0 := 0) (n := 200) (f := σ 10) hx hb hI rfl rfl h.1 dX11_keeps_70 ?_
      replace h := h.2
      refine k_iast (q0 := 16) (t0 := 0) (n := 4800) (σ' := up2 σ 16 (((nI 60) * (σ 0 26)) + x4).toNatClampNeg (σ 10 x4.toNatClampNeg)) hx hb hI rfl rfl h.1 (wsM_16 _ _ _ _ _) dX11_keeps_71 (fun H locs hI => ?_)
      replace h := h.2
      refine lv_iinc (v := (x4 + nI 1)) (lv' := [(4, .int (x4 + nI 1)), (0, .ref (ad 0)), (1, .int x1), (2, .int x2), (3, .int x3)]) hx hb dX11_keeps_72 hl (k := 4) rfl rfl (by decide) rfl (fun ls hl => ?_)
      refine lv_goto (tgt := 44) hx hb dX11_keeps_75 (by decide) ?_
      exact ih _ _ _ _ _ h hI (lv_sub hl [1, 2, 3, 4, 0] rfl)
set_option maxHeartbeats 4000000 in
set_option maxRecDepth 100000 in
theorem c_X11_keeps (σ : St) (x1 x2 : Int32) (Q : St → Prop) (h : wp_X11_keeps σ x1 x2 Q) : Cv l D (tyM cyI) [] [] (wM cyI ad) yX11_keeps wsX11_keeps r_X11_keeps [.ref (ad 0), .int x1, .int x2] σ Q := by
  refine k_metV (cc := cX11_keeps) (maxL := 5) (ret := none) (by decide) rfl (Nat.le_of_ble_eq_true rfl) ?_
  intro p e s m below meth c A ls C hI hl
  obtain ⟨hx, hb, hr, hml, hown, hts, hlocks⟩ := id C
  have hl : lv_has ls 5 [(0, .ref (ad 0)), (1, .int x1), (2, .int x2)] := hl
  unfold wp_X11_keeps at h
  refine lv_aload_n hx hb dX11_keeps_0 rfl (lv_at hl 0 rfl) ?_
  refine lv_aload_n hx hb dX11_keeps_1 rfl (lv_at hl 0 rfl) ?_
  refine k_get (q0 := 0) (k := 21) (ci := 11) (v := .ref (ad 10)) hx hb hts inX11_keeps_X11 hown hI rfl rfl (by decide) mX11_keeps_fieldLink_62_StillTextModel_upper_I rfl rfl dX11_keeps_2 ?_
  refine lv_iload_n hx hb dX11_keeps_5 rfl (lv_at hl 1 rfl) ?_
  refine lv_iload_n hx hb dX11_keeps_6 rfl (lv_at hl 2 rfl) ?_
  refine k_cVi (As := [.ref (ad 10), .int x1, .int x2]) (rest := []) C (c_X11_lays_10 σ x1 x2 _ h) (cwV 3 hts gX11_keeps_X11_lays rfl rfl rfl hdX11_lays ⟨Nat.le_of_ble_eq_true rfl, Nat.le_of_ble_eq_true rfl⟩) hI 0 rfl rfl rfl hl.1 rfl (Nat.le_of_ble_eq_true rfl) dX11_keeps_7 ⟨Nat.le_of_ble_eq_true rfl, Nat.le_of_ble_eq_true rfl⟩ (fun r1 σ2 H locs h hI => ?_)
  refine lv_istore_n (lv' := [(3, .int r1), (0, .ref (ad 0)), (1, .int x1), (2, .int x2)]) hx hb dX11_keeps_10 rfl hl (by decide) rfl (fun ls hl => ?_)
  refine lv_aload_n hx hb dX11_keeps_11 rfl (lv_at hl 1 rfl) ?_
  refine k_get (q0 := 0) (k := 27) (ci := 11) (v := .ref (ad 13)) hx hb hts inX11_keeps_X11 hown hI rfl rfl (by decide) mX11_keeps_fieldLink_71_StillTextModel_lineFrom_I rfl rfl dX11_keeps_12 ?_
  refine lv_aload_n hx hb dX11_keeps_15 rfl (lv_at hl 1 rfl) ?_
  refine k_get (q0 := 0) (k := 26) (ci := 11) (v := .int (σ2 0 26)) hx hb hts inX11_keeps_X11 hown hI rfl rfl (by decide) mX11_keeps_fieldLink_170_StillTextModel_lines_I rfl rfl dX11_keeps_16 ?_
  refine lv_iload_n hx hb dX11_keeps_19 rfl (lv_at hl 2 rfl) ?_
  refine k_iast (q0 := 13) (t0 := 0) (n := 80) (σ' := up2 σ2 13 (σ2 0 26).toNatClampNeg x1) hx hb hI rfl rfl h.1 (wsM_13 _ _ _ _ _) dX11_keeps_20 (fun H locs hI => ?_)
  replace h := h.2
  refine lv_aload_n hx hb dX11_keeps_21 rfl (lv_at hl 1 rfl) ?_
  refine k_get (q0 := 0) (k := 28) (ci := 11) (v := .ref (ad 14)) hx hb hts inX11_keeps_X11 hown hI rfl rfl (by decide) mX11_keeps_fieldLink_74_StillTextModel_lineMany_I rfl rfl dX11_keeps_22 ?_
  refine lv_aload_n hx hb dX11_keeps_25 rfl (lv_at hl 1 rfl) ?_
  refine k_get (q0 := 0) (k := 26) (ci := 11) (v := .int (σ2 0 26)) hx hb hts inX11_keeps_X11 hown hI rfl rfl (by decide) mX11_keeps_fieldLink_170_StillTextModel_lines_I rfl rfl dX11_keeps_26 ?_
  refine lv_iload_n hx hb dX11_keeps_29 rfl (lv_at hl 3 rfl) ?_
  refine k_iast (q0 := 14) (t0 := 0) (n := 80) (σ' := up2 (up2 σ2 13 (σ2 0 26).toNatClampNeg x1) 14 (σ2 0 26).toNatClampNeg x2) hx hb hI rfl rfl h.1 (wsM_14 _ _ _ _ _) dX11_keeps_30 (fun H locs hI => ?_)
  replace h := h.2
  refine lv_aload_n hx hb dX11_keeps_31 rfl (lv_at hl 1 rfl) ?_
  refine k_get (q0 := 0) (k := 29) (ci := 11) (v := .ref (ad 15)) hx hb hts inX11_keeps_X11 hown hI rfl rfl (by decide) mX11_keeps_fieldLink_77_StillTextModel_lineSigns_I rfl rfl dX11_keeps_32 ?_
  refine lv_aload_n hx hb dX11_keeps_35 rfl (lv_at hl 1 rfl) ?_
  refine k_get (q0 := 0) (k := 26) (ci := 11) (v := .int (σ2 0 26)) hx hb hts inX11_keeps_X11 hown hI rfl rfl (by decide) mX11_keeps_fieldLink_170_StillTextModel_lines_I rfl rfl dX11_keeps_36 ?_
  refine lv_iload_n hx hb dX11_keeps_39 rfl (lv_at hl 0 rfl) ?_
  refine k_iast (q0 := 15) (t0 := 0) (n := 80) (σ' := up2 (up2 (up2 σ2 13 (σ2 0 26).toNatClampNeg x1) 14 (σ2 0 26).toNatClampNeg x2) 15 (σ2 0 26).toNatClampNeg r1) hx hb hI rfl rfl h.1 (wsM_15 _ _ _ _ _) dX11_keeps_40 (fun H locs hI => ?_)
  replace h := h.2
  refine lv_iconst (v := nI 0) hx hb dX11_keeps_41 (by decide) ?_
  refine lv_istore (lv' := [(4, .int (nI 0)), (3, .int r1), (0, .ref (ad 0)), (1, .int x1), (2, .int x2)]) hx hb dX11_keeps_42 hl (by decide) rfl (fun ls hl => ?_)
  obtain ⟨k4, h⟩ := h
  exact t_X11_keeps_44 C  k4 _ _ _ _ _ h hI (lv_sub hl [2, 3, 4, 1, 0] rfl)
theorem inX11_set_X11 : ∀ w ∈ wsX110, w ∈ wsX11_set := fun _ h => List.mem_cons_of_mem _ (List.mem_append_right _ (h))
theorem mX11_set_fieldLink_118_StillTextModel_units_I : Cond.fieldLink RX11 118 "StillTextModel" "units" "I" ∈ wsX11_set := List.mem_cons_of_mem _ (List.mem_append_left _ (List.mem_append_left _ (List.mem_of_getElem? (i := 0) rfl)))
theorem mX11_set_constant_150_1000000000 : Cond.constant RX11 150 (1000000000) ∈ wsX11_set := List.mem_cons_of_mem _ (List.mem_append_left _ (List.mem_append_left _ (List.mem_of_getElem? (i := 1) rfl)))
theorem mX11_set_fieldLink_132_StillTextModel_isSet_Z : Cond.fieldLink RX11 132 "StillTextModel" "isSet" "Z" ∈ wsX11_set := List.mem_cons_of_mem _ (List.mem_append_left _ (List.mem_append_left _ (List.mem_of_getElem? (i := 3) rfl)))
theorem mX11_set_fieldLink_136_StillTextModel_isFresh_Z : Cond.fieldLink RX11 136 "StillTextModel" "isFresh" "Z" ∈ wsX11_set := List.mem_cons_of_mem _ (List.mem_append_left _ (List.mem_append_left _ (List.mem_of_getElem? (i := 4) rfl)))
theorem mX11_set_fieldLink_170_StillTextModel_lines_I : Cond.fieldLink RX11 170 "StillTextModel" "lines" "I" ∈ wsX11_set := List.mem_cons_of_mem _ (List.mem_append_left _ (List.mem_append_left _ (List.mem_of_getElem? (i := 5) rfl)))
theorem mX11_set_fieldLink_62_StillTextModel_upper_I : Cond.fieldLink RX11 62 "StillTextModel" "upper" "[I" ∈ wsX11_set := List.mem_cons_of_mem _ (List.mem_append_left _ (List.mem_append_left _ (List.mem_of_getElem? (i := 6) rfl)))
theorem mX11_set_fieldLink_68_StillTextModel_least_I : Cond.fieldLink RX11 68 "StillTextModel" "least" "[I" ∈ wsX11_set := List.mem_cons_of_mem _ (List.mem_append_left _ (List.mem_append_left _ (List.mem_of_getElem? (i := 2) rfl)))
set_option maxHeartbeats 4000000 in
set_option maxRecDepth 100000 in
theorem t_X11_set_163 {p : Program} {e : Env} {s : State} {m : MethodId} {args : Array Value} {below : List Frame} {meth : Method} {c : Code} {A : Nat → Prop} {x1 x2 x3 x4 x5 x6 : Int32} {K93 : St → Int32 → Int32 → Prop} {Q : Int32 → St → Prop} (C : Cx p s m args meth c cX11_set 8 (some .int) RX11 wsX11_set) (hK93 : ∀ (σ : St) (x2 x3 : Int32) (H : Heap) (locs : List Loc) (ls : Array Slot), K93 σ x2 x3 → Iw D (tyM cyI) [] [] (wM cyI ad) A s H locs σ → lv_has ls 8 [(0, .ref (ad 0)), (1, .int x1), (2, .int x2), (3, .int x3)] → W p l e r_X11_set s m args below meth c H locs 0 0 (MQ below (va_Qi Q (Kq D (tyM cyI) (wM cyI ad) A) A) args s 0 0 A) (F0 m 93 ls [])) :
    ∀ (n : Nat) (σ : St) (x7 : Int32) (H : Heap) (locs : List Loc) (ls : Array Slot), wpl_X11_set_163 x1 x2 x3 x4 x5 x6 K93 Q n σ x7 → Iw D (tyM cyI) [] [] (wM cyI ad) A s H locs σ → lv_has ls 8 [(0, .ref (ad 0)), (1, .int x1), (2, .int x2), (3, .int x3), (4, .int x4), (5, .int x5), (6, .int x6), (7, .int x7)] → W p l e r_X11_set s m args below meth c H locs 0 0 (MQ below (va_Qi Q (Kq D (tyM cyI) (wM cyI ad) A) A) args s 0 0 A) (F0 m 163 ls []) := by
  obtain ⟨hx, hb, hr, hml, hown, hts, hlocks⟩ := id C
  intro n
  induction n with
  | zero =>
    intro _ _ _ _ _ h
    exact h.elim
  | succ n ih =>
    intro σ x7 H locs ls h hI hl
    unfold wpl_X11_set_163 at h
    refine lv_aload_n hx hb dX11_set_163 rfl (lv_at hl 0 rfl) ?_
    refine lv_iload_n hx hb dX11_set_164 rfl (lv_at hl 3 rfl) ?_
    refine lv_iload_n hx hb dX11_set_165 rfl (lv_at hl 2 rfl) ?_
    refine lv_iload hx hb dX11_set_166 (lv_at hl 7 rfl) ?_
    refine lv_iload hx hb dX11_set_168 (lv_at hl 5 rfl) ?_
    refine k_cVi (As := [.int x3, .int x2, .int x7, .int x5]) (rest := []) C (c_X11_costOf σ x3 x2 x7 x5 _ h) (cwV 4 hts gX11_set_X11_costOf rfl rfl rfl hdX11_costOf ⟨Nat.le_of_ble_eq_true rfl, Nat.le_of_ble_eq_true rfl⟩) hI 0 rfl rfl rfl hl.1 rfl (Nat.le_of_ble_eq_true rfl) dX11_set_170 ⟨Nat.le_of_ble_eq_true rfl, Nat.le_of_ble_eq_true rfl⟩ (fun r20 σ21 H locs h hI => ?_)
    refine lv_iload hx hb dX11_set_173 (lv_at hl 6 rfl) ?_
    refine lv_icmp_eq (tgt := 184) hx hb dX11_set_175 (by decide) (fun c22 => ?_) (fun c22 => ?_)
    · replace h := h.1 c22
      refine lv_iload hx hb dX11_set_184 (lv_at hl 7 rfl) ?_
      refine lv_istore_n (lv' := [(2, .int x7), (0, .ref (ad 0)), (1, .int x1), (3, .int x3), (4, .int x4), (5, .int x5), (6, .int x6), (7, .int x7)]) hx hb dX11_set_186 rfl hl (by decide) rfl (fun ls hl => ?_)
      refine lv_iload hx hb dX11_set_187 (lv_at hl 4 rfl) ?_
      refine lv_istore_n (lv' := [(3, .int x4), (2, .int x7), (0, .ref (ad 0)), (1, .int x1), (4, .int x4), (5, .int x5), (6, .int x6), (7, .int x7)]) hx hb dX11_set_189 rfl hl (by decide) rfl (fun ls hl => ?_)
      refine lv_goto (tgt := 93) hx hb dX11_set_190 (by decide) ?_
      exact hK93 _ _ _ _ _ _ h hI (lv_sub hl [2, 3, 1, 0] rfl)
    · replace h := h.2 c22
      refine lv_iinc (v := (x7 - nI 1)) (lv' := [(7, .int (x7 - nI 1)), (0, .ref (ad 0)), (1, .int x1), (2, .int x2), (3, .int x3), (4, .int x4), (5, .int x5), (6, .int x6)]) hx hb dX11_set_178 hl (k := 7) rfl (k_dec1 _) (by decide) rfl (fun ls hl => ?_)
      refine lv_goto (tgt := 163) hx hb dX11_set_181 (by decide) ?_
      exact ih _ _ _ _ _ h hI (lv_sub hl [1, 2, 3, 4, 5, 6, 7, 0] rfl)
set_option maxHeartbeats 4000000 in
set_option maxRecDepth 100000 in
theorem t_X11_set_93 {p : Program} {e : Env} {s : State} {m : MethodId} {args : Array Value} {below : List Frame} {meth : Method} {c : Code} {A : Nat → Prop} {x1 : Int32}  {Q : Int32 → St → Prop} (C : Cx p s m args meth c cX11_set 8 (some .int) RX11 wsX11_set) :
    ∀ (n : Nat) (σ : St) (x2 x3 : Int32) (H : Heap) (locs : List Loc) (ls : Array Slot), wpl_X11_set_93 x1 Q n σ x2 x3 → Iw D (tyM cyI) [] [] (wM cyI ad) A s H locs σ → lv_has ls 8 [(0, .ref (ad 0)), (1, .int x1), (2, .int x2), (3, .int x3)] → W p l e r_X11_set s m args below meth c H locs 0 0 (MQ below (va_Qi Q (Kq D (tyM cyI) (wM cyI ad) A) A) args s 0 0 A) (F0 m 93 ls []) := by
  obtain ⟨hx, hb, hr, hml, hown, hts, hlocks⟩ := id C
  intro n
  induction n with
  | zero =>
    intro _ _ _ _ _ _ h
    exact h.elim
  | succ n ih =>
    intro σ x2 x3 H locs ls h hI hl
    unfold wpl_X11_set_93 at h
    refine lv_iload_n hx hb dX11_set_93 rfl (lv_at hl 3 rfl) ?_
    refine lv_aload_n hx hb dX11_set_94 rfl (lv_at hl 0 rfl) ?_
    refine k_get (q0 := 0) (k := 0) (ci := 11) (v := .int (σ 0 0)) hx hb hts inX11_set_X11 hown hI rfl rfl (by decide) mX11_set_fieldLink_118_StillTextModel_units_I rfl rfl dX11_set_95 ?_
    refine lv_icmp_ge (tgt := 193) hx hb dX11_set_98 (by decide) (fun c8 => ?_) (fun c8 => ?_)
    · replace h := h.1 c8
      refine lv_iload_n hx hb dX11_set_193 rfl (lv_at hl 1 rfl) ?_
      exact k_iret hx hb hr hlocks hI h dX11_set_194
    · replace h := h.2 c8
      refine lv_aload_n hx hb dX11_set_101 rfl (lv_at hl 0 rfl) ?_
      refine lv_iload_n hx hb dX11_set_102 rfl (lv_at hl 3 rfl) ?_
      refine lv_iload_n hx hb dX11_set_103 rfl (lv_at hl 2 rfl) ?_
      refine k_cVv (As := [.int x3, .int x2]) (rest := []) C (c_X11_keeps σ x3 x2 _ h) (cwV 2 hts gX11_set_X11_keeps rfl rfl rfl hdX11_keeps ⟨Nat.le_of_ble_eq_true rfl, Nat.le_of_ble_eq_true rfl⟩) hI 0 rfl rfl rfl hl.1 rfl (Nat.le_of_ble_eq_true rfl) dX11_set_104 ⟨Nat.le_of_ble_eq_true rfl, Nat.le_of_ble_eq_true rfl⟩ (fun σ10 H locs h hI => ?_)
      refine lv_iload_n hx hb dX11_set_107 rfl (lv_at hl 3 rfl) ?_
      refine lv_iload_n hx hb dX11_set_108 rfl (lv_at hl 2 rfl) ?_
      refine lv_iadd hx hb dX11_set_109 ?_
      refine lv_istore (lv' := [(4, .int (x3 + x2)), (0, .ref (ad 0)), (1, .int x1), (2, .int x2), (3, .int x3)]) hx hb dX11_set_110 hl (by decide) rfl (fun ls hl => ?_)
      refine lv_iload hx hb dX11_set_112 (lv_at hl 0 rfl) ?_
      refine lv_aload_n hx hb dX11_set_114 rfl (lv_at hl 1 rfl) ?_
      refine k_get (q0 := 0) (k := 0) (ci := 11) (v := .int (σ10 0 0)) hx hb hts inX11_set_X11 hown hI rfl rfl (by decide) mX11_set_fieldLink_118_StillTextModel_units_I rfl rfl dX11_set_115 ?_
      refine lv_icmp_ge (tgt := 187) hx hb dX11_set_118 (by decide) (fun c11 => ?_) (fun c11 => ?_)
      · replace h := h.1 c11
        refine lv_iload hx hb dX11_set_187 (lv_at hl 0 rfl) ?_
        refine lv_istore_n (lv' := [(3, .int (x3 + x2)), (4, .int (x3 + x2)), (0, .ref (ad 0)), (1, .int x1), (2, .int x2)]) hx hb dX11_set_189 rfl hl (by decide) rfl (fun ls hl => ?_)
        refine lv_goto (tgt := 93) hx hb dX11_set_190 (by decide) ?_
        exact ih _ _ _ _ _ _ h hI (lv_sub hl [2, 3, 4, 0] rfl)
      · replace h := h.2 c11
        refine lv_aload_n hx hb dX11_set_121 rfl (lv_at hl 1 rfl) ?_
        refine lv_aload_n hx hb dX11_set_122 rfl (lv_at hl 1 rfl) ?_
        refine k_get (q0 := 0) (k := 21) (ci := 11) (v := .ref (ad 10)) hx hb hts inX11_set_X11 hown hI rfl rfl (by decide) mX11_set_fieldLink_62_StillTextModel_upper_I rfl rfl dX11_set_123 ?_
        refine lv_iload_n hx hb dX11_set_126 rfl (lv_at hl 4 rfl) ?_
        refine lv_iload_n hx hb dX11_set_127 rfl (lv_at hl 3 rfl) ?_
        refine k_cVi (As := [.ref (ad 10), .int x3, .int x2]) (rest := []) C (c_X11_lays_10 σ10 x3 x2 _ h) (cwV 3 hts gX11_set_X11_lays rfl rfl rfl hdX11_lays ⟨Nat.le_of_ble_eq_true rfl, Nat.le_of_ble_eq_true rfl⟩) hI 0 rfl rfl rfl hl.1 rfl (Nat.le_of_ble_eq_true rfl) dX11_set_128 ⟨Nat.le_of_ble_eq_true rfl, Nat.le_of_ble_eq_true rfl⟩ (fun r12 σ13 H locs h hI => ?_)
        refine lv_istore (lv' := [(5, .int r12), (4, .int (x3 + x2)), (0, .ref (ad 0)), (1, .int x1), (2, .int x2), (3, .int x3)]) hx hb dX11_set_131 hl (by decide) rfl (fun ls hl => ?_)
        refine lv_aload_n hx hb dX11_set_133 rfl (lv_at hl 2 rfl) ?_
        refine k_get (q0 := 0) (k := 23) (ci := 11) (v := .ref (ad 12)) hx hb hts inX11_set_X11 hown hI rfl rfl (by decide) mX11_set_fieldLink_68_StillTextModel_least_I rfl rfl dX11_set_134 ?_
        refine lv_aload_n hx hb dX11_set_137 rfl (lv_at hl 2 rfl) ?_
        refine lv_iload_n hx hb dX11_set_138 rfl (lv_at hl 5 rfl) ?_
        refine lv_iload_n hx hb dX11_set_139 rfl (lv_at hl 4 rfl) ?_
        refine k_cVi (As := [.int x3, .int x2]) (rest := [.ref (ad 12)]) C (c_X11_place σ13 x3 x2 _ h) (cwV 2 hts gX11_set_X11_place rfl rfl rfl hdX11_place ⟨Nat.le_of_ble_eq_true rfl, Nat.le_of_ble_eq_true rfl⟩) hI 0 rfl rfl rfl hl.1 rfl (Nat.le_of_ble_eq_true rfl) dX11_set_140 ⟨Nat.le_of_ble_eq_true rfl, Nat.le_of_ble_eq_true rfl⟩ (fun r14 σ15 H locs h hI => ?_)
        refine k_iald (q0 := 12) (t0 := 0) (n := 4941) (f := σ15 12) hx hb hI rfl rfl h.1 dX11_set_143 ?_
        replace h := h.2
        refine lv_aload_n hx hb dX11_set_144 rfl (lv_at hl 2 rfl) ?_
        refine lv_iload_n hx hb dX11_set_145 rfl (lv_at hl 5 rfl) ?_
        refine lv_iload_n hx hb dX11_set_146 rfl (lv_at hl 4 rfl) ?_
        refine lv_iload hx hb dX11_set_147 (lv_at hl 0 rfl) ?_
        refine k_cVi (As := [.int x3, .int x2, .int r12]) (rest := [.int (σ15 12 r14.toNatClampNeg)]) C (c_X11_lineStrain σ15 x3 x2 r12 _ h) (cwV 3 hts gX11_set_X11_lineStrain rfl rfl rfl hdX11_lineStrain ⟨Nat.le_of_ble_eq_true rfl, Nat.le_of_ble_eq_true rfl⟩) hI 0 rfl rfl rfl hl.1 rfl (Nat.le_of_ble_eq_true rfl) dX11_set_149 ⟨Nat.le_of_ble_eq_true rfl, Nat.le_of_ble_eq_true rfl⟩ (fun r16 σ17 H locs h hI => ?_)
        refine lv_isub hx hb dX11_set_152 ?_
        refine lv_istore (lv' := [(6, .int ((σ15 12 r14.toNatClampNeg) - r16)), (5, .int r12), (4, .int (x3 + x2)), (0, .ref (ad 0)), (1, .int x1), (2, .int x2), (3, .int x3)]) hx hb dX11_set_153 hl (by decide) rfl (fun ls hl => ?_)
        refine lv_aload_n hx hb dX11_set_155 rfl (lv_at hl 3 rfl) ?_
        refine lv_iload hx hb dX11_set_156 (lv_at hl 2 rfl) ?_
        refine k_cVi (As := [.int (x3 + x2)]) (rest := []) C (c_X11_most σ17 (x3 + x2) _ h) (cwV 1 hts gX11_set_X11_most rfl rfl rfl hdX11_most ⟨Nat.le_of_ble_eq_true rfl, Nat.le_of_ble_eq_true rfl⟩) hI 0 rfl rfl rfl hl.1 rfl (Nat.le_of_ble_eq_true rfl) dX11_set_158 ⟨Nat.le_of_ble_eq_true rfl, Nat.le_of_ble_eq_true rfl⟩ (fun r18 σ19 H locs h hI => ?_)
        refine lv_istore (lv' := [(7, .int r18), (6, .int ((σ15 12 r14.toNatClampNeg) - r16)), (5, .int r12), (4, .int (x3 + x2)), (0, .ref (ad 0)), (1, .int x1), (2, .int x2), (3, .int x3)]) hx hb dX11_set_161 hl (by decide) rfl (fun ls hl => ?_)
        obtain ⟨k23, h⟩ := h
        exact t_X11_set_163 C ih k23 _ _ _ _ _ h hI (lv_sub hl [4, 5, 6, 7, 3, 2, 1, 0] rfl)
set_option maxHeartbeats 4000000 in
set_option maxRecDepth 100000 in
theorem t_X11_set_26 {p : Program} {e : Env} {s : State} {m : MethodId} {args : Array Value} {below : List Frame} {meth : Method} {c : Code} {A : Nat → Prop}  {Q : Int32 → St → Prop} (C : Cx p s m args meth c cX11_set 8 (some .int) RX11 wsX11_set) :
    ∀ (n : Nat) (σ : St) (x1 x2 x3 : Int32) (H : Heap) (locs : List Loc) (ls : Array Slot), wpl_X11_set_26 Q n σ x1 x2 x3 → Iw D (tyM cyI) [] [] (wM cyI ad) A s H locs σ → lv_has ls 8 [(0, .ref (ad 0)), (1, .int x1), (2, .int x2), (3, .int x3)] → W p l e r_X11_set s m args below meth c H locs 0 0 (MQ below (va_Qi Q (Kq D (tyM cyI) (wM cyI ad) A) A) args s 0 0 A) (F0 m 26 ls []) := by
  obtain ⟨hx, hb, hr, hml, hown, hts, hlocks⟩ := id C
  intro n
  induction n with
  | zero =>
    intro _ _ _ _ _ _ _ h
    exact h.elim
  | succ n ih =>
    intro σ x1 x2 x3 H locs ls h hI hl
    unfold wpl_X11_set_26 at h
    refine lv_iload_n hx hb dX11_set_26 rfl (lv_at hl 3 rfl) ?_
    refine lv_if_le (tgt := 68) hx hb dX11_set_27 (by decide) (fun c6 => ?_) (fun c6 => ?_)
    · replace h := h.1 c6
      refine lv_iload_n hx hb dX11_set_68 rfl (lv_at hl 1 rfl) ?_
      refine lv_ldc (v := nI 1000000000) hx hb hown (hts _ mX11_set_constant_150_1000000000) dX11_set_69 ?_
      refine lv_icmp_lt (tgt := 76) hx hb dX11_set_71 (by decide) (fun c7 => ?_) (fun c7 => ?_)
      · replace h := h.1 c7
        refine lv_aload_n hx hb dX11_set_76 rfl (lv_at hl 0 rfl) ?_
        refine lv_iconst (v := nI 1) hx hb dX11_set_77 (by decide) ?_
        refine k_put (q0 := 0) (k := 24) (ci := 11) (v := .int (nI 1)) (σ' := up2 σ 0 24 (nI 1)) hx hb hts inX11_set_X11 tyX11 tyX11_ok nmX11 hown hI rfl rfl (by decide) mX11_set_fieldLink_132_StillTextModel_isSet_Z rfl rfl rfl rfl (Nat.le_of_ble_eq_true rfl) (wsM_0_24 _ _ _ _) dX11_set_78 (fun H locs hI => ?_)
        refine lv_aload_n hx hb dX11_set_81 rfl (lv_at hl 0 rfl) ?_
        refine lv_iconst (v := nI 1) hx hb dX11_set_82 (by decide) ?_
        refine k_put (q0 := 0) (k := 25) (ci := 11) (v := .int (nI 1)) (σ' := up2 (up2 σ 0 24 (nI 1)) 0 25 (nI 1)) hx hb hts inX11_set_X11 tyX11 tyX11_ok nmX11 hown hI rfl rfl (by decide) mX11_set_fieldLink_136_StillTextModel_isFresh_Z rfl rfl rfl rfl (Nat.le_of_ble_eq_true rfl) (wsM_0_25 _ _ _ _) dX11_set_83 (fun H locs hI => ?_)
        refine lv_aload_n hx hb dX11_set_86 rfl (lv_at hl 0 rfl) ?_
        refine lv_iconst (v := nI 0) hx hb dX11_set_87 (by decide) ?_
        refine k_put (q0 := 0) (k := 26) (ci := 11) (v := .int (nI 0)) (σ' := up2 (up2 (up2 σ 0 24 (nI 1)) 0 25 (nI 1)) 0 26 (nI 0)) hx hb hts inX11_set_X11 tyX11 tyX11_ok nmX11 hown hI rfl rfl (by decide) mX11_set_fieldLink_170_StillTextModel_lines_I rfl rfl rfl rfl (Nat.le_of_ble_eq_true rfl) (wsM_0_26 _ _ _ _) dX11_set_88 (fun H locs hI => ?_)
        refine lv_iconst (v := nI 0) hx hb dX11_set_91 (by decide) ?_
        refine lv_istore_n (lv' := [(3, .int (nI 0)), (0, .ref (ad 0)), (1, .int x1), (2, .int x2)]) hx hb dX11_set_92 rfl hl (by decide) rfl (fun ls hl => ?_)
        obtain ⟨k24, h⟩ := h
        exact t_X11_set_93 C  k24 _ _ _ _ _ _ h hI (lv_sub hl [1, 2, 3, 0] rfl)
      · replace h := h.2 c7
        refine lv_iconst (v := (-1)) hx hb dX11_set_74 (by decide) ?_
        exact k_iret hx hb hr hlocks hI h dX11_set_75
    · replace h := h.2 c6
      refine lv_aload_n hx hb dX11_set_30 rfl (lv_at hl 0 rfl) ?_
      refine k_get (q0 := 0) (k := 23) (ci := 11) (v := .ref (ad 12)) hx hb hts inX11_set_X11 hown hI rfl rfl (by decide) mX11_set_fieldLink_68_StillTextModel_least_I rfl rfl dX11_set_31 ?_
      refine lv_aload_n hx hb dX11_set_34 rfl (lv_at hl 0 rfl) ?_
      refine lv_iconst (v := nI 0) hx hb dX11_set_35 (by decide) ?_
      refine lv_iload_n hx hb dX11_set_36 rfl (lv_at hl 3 rfl) ?_
      refine k_cVi (As := [.int (nI 0), .int x3]) (rest := [.ref (ad 12)]) C (c_X11_place σ (nI 0) x3 _ h) (cwV 2 hts gX11_set_X11_place rfl rfl rfl hdX11_place ⟨Nat.le_of_ble_eq_true rfl, Nat.le_of_ble_eq_true rfl⟩) hI 0 rfl rfl rfl hl.1 rfl (Nat.le_of_ble_eq_true rfl) dX11_set_37 ⟨Nat.le_of_ble_eq_true rfl, Nat.le_of_ble_eq_true rfl⟩ (fun r25 σ26 H locs h hI => ?_)
      refine k_iald (q0 := 12) (t0 := 0) (n := 4941) (f := σ26 12) hx hb hI rfl rfl h.1 dX11_set_40 ?_
      replace h := h.2
      refine lv_iload_n hx hb dX11_set_41 rfl (lv_at hl 1 rfl) ?_
      refine lv_icmp_lt (tgt := 48) hx hb dX11_set_42 (by decide) (fun c27 => ?_) (fun c27 => ?_)
      · replace h := h.1 c27
        refine lv_aload_n hx hb dX11_set_48 rfl (lv_at hl 0 rfl) ?_
        refine k_get (q0 := 0) (k := 23) (ci := 11) (v := .ref (ad 12)) hx hb hts inX11_set_X11 hown hI rfl rfl (by decide) mX11_set_fieldLink_68_StillTextModel_least_I rfl rfl dX11_set_49 ?_
        refine lv_aload_n hx hb dX11_set_52 rfl (lv_at hl 0 rfl) ?_
        refine lv_iconst (v := nI 0) hx hb dX11_set_53 (by decide) ?_
        refine lv_iload_n hx hb dX11_set_54 rfl (lv_at hl 3 rfl) ?_
        refine k_cVi (As := [.int (nI 0), .int x3]) (rest := [.ref (ad 12)]) C (c_X11_place σ26 (nI 0) x3 _ h) (cwV 2 hts gX11_set_X11_place rfl rfl rfl hdX11_place ⟨Nat.le_of_ble_eq_true rfl, Nat.le_of_ble_eq_true rfl⟩) hI 0 rfl rfl rfl hl.1 rfl (Nat.le_of_ble_eq_true rfl) dX11_set_55 ⟨Nat.le_of_ble_eq_true rfl, Nat.le_of_ble_eq_true rfl⟩ (fun r28 σ29 H locs h hI => ?_)
        refine k_iald (q0 := 12) (t0 := 0) (n := 4941) (f := σ29 12) hx hb hI rfl rfl h.1 dX11_set_58 ?_
        replace h := h.2
        refine lv_istore_n (lv' := [(1, .int (σ29 12 r28.toNatClampNeg)), (0, .ref (ad 0)), (2, .int x2), (3, .int x3)]) hx hb dX11_set_59 rfl hl (by decide) rfl (fun ls hl => ?_)
        refine lv_iload_n hx hb dX11_set_60 rfl (lv_at hl 3 rfl) ?_
        refine lv_istore_n (lv' := [(2, .int x3), (1, .int (σ29 12 r28.toNatClampNeg)), (0, .ref (ad 0)), (3, .int x3)]) hx hb dX11_set_61 rfl hl (by decide) rfl (fun ls hl => ?_)
        refine lv_iinc (v := (x3 - nI 1)) (lv' := [(3, .int (x3 - nI 1)), (2, .int x3), (1, .int (σ29 12 r28.toNatClampNeg)), (0, .ref (ad 0))]) hx hb dX11_set_62 hl (k := 3) rfl (k_dec1 _) (by decide) rfl (fun ls hl => ?_)
        refine lv_goto (tgt := 26) hx hb dX11_set_65 (by decide) ?_
        exact ih _ _ _ _ _ _ _ h hI (lv_sub hl [3, 2, 1, 0] rfl)
      · replace h := h.2 c27
        refine lv_goto (tgt := 62) hx hb dX11_set_45 (by decide) ?_
        refine lv_iinc (v := (x3 - nI 1)) (lv' := [(3, .int (x3 - nI 1)), (0, .ref (ad 0)), (1, .int x1), (2, .int x2)]) hx hb dX11_set_62 hl (k := 3) rfl (k_dec1 _) (by decide) rfl (fun ls hl => ?_)
        refine lv_goto (tgt := 26) hx hb dX11_set_65 (by decide) ?_
        exact ih _ _ _ _ _ _ _ h hI (lv_sub hl [1, 2, 3, 0] rfl)
set_option maxHeartbeats 4000000 in
set_option maxRecDepth 100000 in
theorem c_X11_set (σ : St) (Q : Int32 → St → Prop) (h : wp_X11_set σ  Q) : Ci l D (tyM cyI) [] [] (wM cyI ad) yX11_set wsX11_set r_X11_set [.ref (ad 0)] σ Q := by
  refine k_metI (cc := cX11_set) (maxL := 8) (ret := (some .int)) (by decide) rfl (Nat.le_of_ble_eq_true rfl) ?_
  intro p e s m below meth c A ls C hI hl
  obtain ⟨hx, hb, hr, hml, hown, hts, hlocks⟩ := id C
  have hl : lv_has ls 8 [(0, .ref (ad 0))] := hl
  unfold wp_X11_set at h
  refine lv_aload_n hx hb dX11_set_0 rfl (lv_at hl 0 rfl) ?_
  refine k_cVv (As := []) (rest := []) C (c_X11_weighs σ  _ h) (cwV 0 hts gX11_set_X11_weighs rfl rfl rfl hdX11_weighs ⟨Nat.le_of_ble_eq_true rfl, Nat.le_of_ble_eq_true rfl⟩) hI 0 rfl rfl rfl hl.1 rfl (Nat.le_of_ble_eq_true rfl) dX11_set_1 ⟨Nat.le_of_ble_eq_true rfl, Nat.le_of_ble_eq_true rfl⟩ (fun σ2 H locs h hI => ?_)
  refine lv_aload_n hx hb dX11_set_4 rfl (lv_at hl 0 rfl) ?_
  refine k_get (q0 := 0) (k := 0) (ci := 11) (v := .int (σ2 0 0)) hx hb hts inX11_set_X11 hown hI rfl rfl (by decide) mX11_set_fieldLink_118_StillTextModel_units_I rfl rfl dX11_set_5 ?_
  refine lv_if_ne (tgt := 15) hx hb dX11_set_8 (by decide) (fun c3 => ?_) (fun c3 => ?_)
  · replace h := h.1 c3
    refine lv_ldc (v := nI 1000000000) hx hb hown (hts _ mX11_set_constant_150_1000000000) dX11_set_15 ?_
    refine lv_istore_n (lv' := [(1, .int (nI 1000000000)), (0, .ref (ad 0))]) hx hb dX11_set_17 rfl hl (by decide) rfl (fun ls hl => ?_)
    refine lv_iconst (v := nI 0) hx hb dX11_set_18 (by decide) ?_
    refine lv_istore_n (lv' := [(2, .int (nI 0)), (1, .int (nI 1000000000)), (0, .ref (ad 0))]) hx hb dX11_set_19 rfl hl (by decide) rfl (fun ls hl => ?_)
    refine lv_aload_n hx hb dX11_set_20 rfl (lv_at hl 2 rfl) ?_
    refine lv_iconst (v := nI 0) hx hb dX11_set_21 (by decide) ?_
    refine k_cVi (As := [.int (nI 0)]) (rest := []) C (c_X11_most σ2 (nI 0) _ h) (cwV 1 hts gX11_set_X11_most rfl rfl rfl hdX11_most ⟨Nat.le_of_ble_eq_true rfl, Nat.le_of_ble_eq_true rfl⟩) hI 0 rfl rfl rfl hl.1 rfl (Nat.le_of_ble_eq_true rfl) dX11_set_22 ⟨Nat.le_of_ble_eq_true rfl, Nat.le_of_ble_eq_true rfl⟩ (fun r4 σ5 H locs h hI => ?_)
    refine lv_istore_n (lv' := [(3, .int r4), (2, .int (nI 0)), (1, .int (nI 1000000000)), (0, .ref (ad 0))]) hx hb dX11_set_25 rfl hl (by decide) rfl (fun ls hl => ?_)
    obtain ⟨k30, h⟩ := h
    exact t_X11_set_26 C  k30 _ _ _ _ _ _ _ h hI (lv_sub hl [3, 2, 1, 0] rfl)
  · replace h := h.2 c3
    refine lv_iconst (v := nI 0) hx hb dX11_set_11 (by decide) ?_
    refine lv_goto (tgt := 17) hx hb dX11_set_12 (by decide) ?_
    refine lv_istore_n (lv' := [(1, .int (nI 0)), (0, .ref (ad 0))]) hx hb dX11_set_17 rfl hl (by decide) rfl (fun ls hl => ?_)
    refine lv_iconst (v := nI 0) hx hb dX11_set_18 (by decide) ?_
    refine lv_istore_n (lv' := [(2, .int (nI 0)), (1, .int (nI 0)), (0, .ref (ad 0))]) hx hb dX11_set_19 rfl hl (by decide) rfl (fun ls hl => ?_)
    refine lv_aload_n hx hb dX11_set_20 rfl (lv_at hl 2 rfl) ?_
    refine lv_iconst (v := nI 0) hx hb dX11_set_21 (by decide) ?_
    refine k_cVi (As := [.int (nI 0)]) (rest := []) C (c_X11_most σ2 (nI 0) _ h) (cwV 1 hts gX11_set_X11_most rfl rfl rfl hdX11_most ⟨Nat.le_of_ble_eq_true rfl, Nat.le_of_ble_eq_true rfl⟩) hI 0 rfl rfl rfl hl.1 rfl (Nat.le_of_ble_eq_true rfl) dX11_set_22 ⟨Nat.le_of_ble_eq_true rfl, Nat.le_of_ble_eq_true rfl⟩ (fun r31 σ32 H locs h hI => ?_)
    refine lv_istore_n (lv' := [(3, .int r31), (2, .int (nI 0)), (1, .int (nI 0)), (0, .ref (ad 0))]) hx hb dX11_set_25 rfl hl (by decide) rfl (fun ls hl => ?_)
    obtain ⟨k33, h⟩ := h
    exact t_X11_set_26 C  k33 _ _ _ _ _ _ _ h hI (lv_sub hl [3, 2, 1, 0] rfl)
theorem inX11_lines_X11 : ∀ w ∈ wsX110, w ∈ wsX11_lines := fun _ h => List.mem_cons_of_mem _ (List.mem_append_right _ (h))
theorem mX11_lines_fieldLink_132_StillTextModel_isSet_Z : Cond.fieldLink RX11 132 "StillTextModel" "isSet" "Z" ∈ wsX11_lines := List.mem_cons_of_mem _ (List.mem_append_left _ (List.mem_of_getElem? (i := 0) rfl))
theorem mX11_lines_fieldLink_170_StillTextModel_lines_I : Cond.fieldLink RX11 170 "StillTextModel" "lines" "I" ∈ wsX11_lines := List.mem_cons_of_mem _ (List.mem_append_left _ (List.mem_of_getElem? (i := 1) rfl))
set_option maxHeartbeats 4000000 in
set_option maxRecDepth 100000 in
theorem c_X11_lines (σ : St) (Q : Int32 → St → Prop) (h : wp_X11_lines σ  Q) : Ci l D (tyM cyI) [] [] (wM cyI ad) yX11_lines wsX11_lines r_X11_lines [.ref (ad 0)] σ Q := by
  refine k_metI (cc := cX11_lines) (maxL := 1) (ret := (some .int)) (by decide) rfl (Nat.le_of_ble_eq_true rfl) ?_
  intro p e s m below meth c A ls C hI hl
  obtain ⟨hx, hb, hr, hml, hown, hts, hlocks⟩ := id C
  have hl : lv_has ls 1 [(0, .ref (ad 0))] := hl
  unfold wp_X11_lines at h
  refine lv_aload_n hx hb dX11_lines_0 rfl (lv_at hl 0 rfl) ?_
  refine k_get (q0 := 0) (k := 24) (ci := 11) (v := .int (σ 0 24)) hx hb hts inX11_lines_X11 hown hI rfl rfl (by decide) mX11_lines_fieldLink_132_StillTextModel_isSet_Z rfl rfl dX11_lines_1 ?_
  refine lv_if_eq (tgt := 14) hx hb dX11_lines_4 (by decide) (fun c1 => ?_) (fun c1 => ?_)
  · replace h := h.1 c1
    refine lv_iconst (v := (-1)) hx hb dX11_lines_14 (by decide) ?_
    exact k_iret hx hb hr hlocks hI h dX11_lines_15
  · replace h := h.2 c1
    refine lv_aload_n hx hb dX11_lines_7 rfl (lv_at hl 0 rfl) ?_
    refine k_get (q0 := 0) (k := 26) (ci := 11) (v := .int (σ 0 26)) hx hb hts inX11_lines_X11 hown hI rfl rfl (by decide) mX11_lines_fieldLink_170_StillTextModel_lines_I rfl rfl dX11_lines_8 ?_
    refine lv_goto (tgt := 15) hx hb dX11_lines_11 (by decide) ?_
    exact k_iret hx hb hr hlocks hI h dX11_lines_15
theorem inX11_line_X11 : ∀ w ∈ wsX110, w ∈ wsX11_line := fun _ h => List.mem_cons_of_mem _ (List.mem_append_right _ (h))
theorem mX11_line_fieldLink_132_StillTextModel_isSet_Z : Cond.fieldLink RX11 132 "StillTextModel" "isSet" "Z" ∈ wsX11_line := List.mem_cons_of_mem _ (List.mem_append_left _ (List.mem_of_getElem? (i := 0) rfl))
theorem mX11_line_fieldLink_170_StillTextModel_lines_I : Cond.fieldLink RX11 170 "StillTextModel" "lines" "I" ∈ wsX11_line := List.mem_cons_of_mem _ (List.mem_append_left _ (List.mem_of_getElem? (i := 1) rfl))
theorem mX11_line_fieldLink_71_StillTextModel_lineFrom_I : Cond.fieldLink RX11 71 "StillTextModel" "lineFrom" "[I" ∈ wsX11_line := List.mem_cons_of_mem _ (List.mem_append_left _ (List.mem_of_getElem? (i := 2) rfl))
theorem mX11_line_fieldLink_74_StillTextModel_lineMany_I : Cond.fieldLink RX11 74 "StillTextModel" "lineMany" "[I" ∈ wsX11_line := List.mem_cons_of_mem _ (List.mem_append_left _ (List.mem_of_getElem? (i := 3) rfl))
theorem mX11_line_fieldLink_77_StillTextModel_lineSigns_I : Cond.fieldLink RX11 77 "StillTextModel" "lineSigns" "[I" ∈ wsX11_line := List.mem_cons_of_mem _ (List.mem_append_left _ (List.mem_of_getElem? (i := 4) rfl))
theorem mX11_line_fieldLink_83_StillTextModel_rows_I : Cond.fieldLink RX11 83 "StillTextModel" "rows" "I" ∈ wsX11_line := List.mem_cons_of_mem _ (List.mem_append_left _ (List.mem_of_getElem? (i := 5) rfl))
theorem mX11_line_fieldLink_86_StillTextModel_tints_I : Cond.fieldLink RX11 86 "StillTextModel" "tints" "I" ∈ wsX11_line := List.mem_cons_of_mem _ (List.mem_append_left _ (List.mem_of_getElem? (i := 6) rfl))
set_option maxHeartbeats 4000000 in
set_option maxRecDepth 100000 in
theorem c_X11_line (σ : St) (x1 x2 : Int32) (Q : Int32 → St → Prop) (h : wp_X11_line σ x1 x2 Q) : Ci l D (tyM cyI) [] [] (wM cyI ad) yX11_line wsX11_line r_X11_line [.ref (ad 0), .int x1, .int x2] σ Q := by
  refine k_metI (cc := cX11_line) (maxL := 3) (ret := (some .int)) (by decide) rfl (Nat.le_of_ble_eq_true rfl) ?_
  intro p e s m below meth c A ls C hI hl
  obtain ⟨hx, hb, hr, hml, hown, hts, hlocks⟩ := id C
  have hl : lv_has ls 3 [(0, .ref (ad 0)), (1, .int x1), (2, .int x2)] := hl
  unfold wp_X11_line at h
  refine lv_aload_n hx hb dX11_line_0 rfl (lv_at hl 0 rfl) ?_
  refine k_get (q0 := 0) (k := 24) (ci := 11) (v := .int (σ 0 24)) hx hb hts inX11_line_X11 hown hI rfl rfl (by decide) mX11_line_fieldLink_132_StillTextModel_isSet_Z rfl rfl dX11_line_1 ?_
  refine lv_if_eq (tgt := 19) hx hb dX11_line_4 (by decide) (fun c1 => ?_) (fun c1 => ?_)
  · replace h := h.1 c1
    refine lv_iconst (v := (-1)) hx hb dX11_line_19 (by decide) ?_
    exact k_iret hx hb hr hlocks hI h dX11_line_20
  · replace h := h.2 c1
    refine lv_iload_n hx hb dX11_line_7 rfl (lv_at hl 1 rfl) ?_
    refine lv_if_lt (tgt := 19) hx hb dX11_line_8 (by decide) (fun c2 => ?_) (fun c2 => ?_)
    · replace h := h.1 c2
      refine lv_iconst (v := (-1)) hx hb dX11_line_19 (by decide) ?_
      exact k_iret hx hb hr hlocks hI h dX11_line_20
    · replace h := h.2 c2
      refine lv_iload_n hx hb dX11_line_11 rfl (lv_at hl 1 rfl) ?_
      refine lv_aload_n hx hb dX11_line_12 rfl (lv_at hl 0 rfl) ?_
      refine k_get (q0 := 0) (k := 26) (ci := 11) (v := .int (σ 0 26)) hx hb hts inX11_line_X11 hown hI rfl rfl (by decide) mX11_line_fieldLink_170_StillTextModel_lines_I rfl rfl dX11_line_13 ?_
      refine lv_icmp_lt (tgt := 21) hx hb dX11_line_16 (by decide) (fun c3 => ?_) (fun c3 => ?_)
      · replace h := h.1 c3
        refine lv_iload_n hx hb dX11_line_21 rfl (lv_at hl 2 rfl) ?_
        by_cases c4 : x2 = nI 0
        · replace h := h.1 c4
          refine lv_tableIn (off := 34) (tgt := 56) hx hb dX11_line_22 (by rw [c4]; decide) (by rw [c4]; decide) (by rw [c4]; rfl) (by decide) ?_
          refine lv_aload_n hx hb dX11_line_56 rfl (lv_at hl 0 rfl) ?_
          refine k_get (q0 := 0) (k := 27) (ci := 11) (v := .ref (ad 13)) hx hb hts inX11_line_X11 hown hI rfl rfl (by decide) mX11_line_fieldLink_71_StillTextModel_lineFrom_I rfl rfl dX11_line_57 ?_
          refine lv_iload_n hx hb dX11_line_60 rfl (lv_at hl 1 rfl) ?_
          refine k_iald (q0 := 13) (t0 := 0) (n := 80) (f := σ 13) hx hb hI rfl rfl h.1 dX11_line_61 ?_
          replace h := h.2
          exact k_iret hx hb hr hlocks hI h dX11_line_62
        · replace h := h.2 c4
          by_cases c5 : x2 = nI 1
          · replace h := h.1 c5
            refine lv_tableIn (off := 41) (tgt := 63) hx hb dX11_line_22 (by rw [c5]; decide) (by rw [c5]; decide) (by rw [c5]; rfl) (by decide) ?_
            refine lv_aload_n hx hb dX11_line_63 rfl (lv_at hl 0 rfl) ?_
            refine k_get (q0 := 0) (k := 28) (ci := 11) (v := .ref (ad 14)) hx hb hts inX11_line_X11 hown hI rfl rfl (by decide) mX11_line_fieldLink_74_StillTextModel_lineMany_I rfl rfl dX11_line_64 ?_
            refine lv_iload_n hx hb dX11_line_67 rfl (lv_at hl 1 rfl) ?_
            refine k_iald (q0 := 14) (t0 := 0) (n := 80) (f := σ 14) hx hb hI rfl rfl h.1 dX11_line_68 ?_
            replace h := h.2
            exact k_iret hx hb hr hlocks hI h dX11_line_69
          · replace h := h.2 c5
            by_cases c6 : x2 = nI 2
            · replace h := h.1 c6
              refine lv_tableIn (off := 48) (tgt := 70) hx hb dX11_line_22 (by rw [c6]; decide) (by rw [c6]; decide) (by rw [c6]; rfl) (by decide) ?_
              refine lv_aload_n hx hb dX11_line_70 rfl (lv_at hl 0 rfl) ?_
              refine k_get (q0 := 0) (k := 29) (ci := 11) (v := .ref (ad 15)) hx hb hts inX11_line_X11 hown hI rfl rfl (by decide) mX11_line_fieldLink_77_StillTextModel_lineSigns_I rfl rfl dX11_line_71 ?_
              refine lv_iload_n hx hb dX11_line_74 rfl (lv_at hl 1 rfl) ?_
              refine k_iald (q0 := 15) (t0 := 0) (n := 80) (f := σ 15) hx hb hI rfl rfl h.1 dX11_line_75 ?_
              replace h := h.2
              exact k_iret hx hb hr hlocks hI h dX11_line_76
            · replace h := h.2 c6
              by_cases c7 : x2 = nI 3
              · replace h := h.1 c7
                refine lv_tableIn (off := 55) (tgt := 77) hx hb dX11_line_22 (by rw [c7]; decide) (by rw [c7]; decide) (by rw [c7]; rfl) (by decide) ?_
                refine lv_iload_n hx hb dX11_line_77 rfl (lv_at hl 1 rfl) ?_
                refine lv_aload_n hx hb dX11_line_78 rfl (lv_at hl 0 rfl) ?_
                refine k_get (q0 := 0) (k := 31) (ci := 11) (v := .int (σ 0 31)) hx hb hts inX11_line_X11 hown hI rfl rfl (by decide) mX11_line_fieldLink_83_StillTextModel_rows_I rfl rfl dX11_line_79 ?_
                refine lv_irem hx hb dX11_line_82 h.1 ?_
                replace h := h.2
                refine lv_iload_n hx hb dX11_line_83 rfl (lv_at hl 1 rfl) ?_
                refine lv_aload_n hx hb dX11_line_84 rfl (lv_at hl 0 rfl) ?_
                refine k_get (q0 := 0) (k := 31) (ci := 11) (v := .int (σ 0 31)) hx hb hts inX11_line_X11 hown hI rfl rfl (by decide) mX11_line_fieldLink_83_StillTextModel_rows_I rfl rfl dX11_line_85 ?_
                refine lv_idiv hx hb dX11_line_88 h.1 ?_
                replace h := h.2
                refine lv_iadd hx hb dX11_line_89 ?_
                refine lv_aload_n hx hb dX11_line_90 rfl (lv_at hl 0 rfl) ?_
                refine k_get (q0 := 0) (k := 32) (ci := 11) (v := .int (σ 0 32)) hx hb hts inX11_line_X11 hown hI rfl rfl (by decide) mX11_line_fieldLink_86_StillTextModel_tints_I rfl rfl dX11_line_91 ?_
                refine lv_irem hx hb dX11_line_94 h.1 ?_
                replace h := h.2
                exact k_iret hx hb hr hlocks hI h dX11_line_95
              · replace h := h.2 c7
                by_cases c8 : x2 = nI 4
                · replace h := h.1 c8
                  refine lv_tableIn (off := 74) (tgt := 96) hx hb dX11_line_22 (by rw [c8]; decide) (by rw [c8]; decide) (by rw [c8]; rfl) (by decide) ?_
                  refine lv_iload_n hx hb dX11_line_96 rfl (lv_at hl 1 rfl) ?_
                  refine lv_aload_n hx hb dX11_line_97 rfl (lv_at hl 0 rfl) ?_
                  refine k_get (q0 := 0) (k := 31) (ci := 11) (v := .int (σ 0 31)) hx hb hts inX11_line_X11 hown hI rfl rfl (by decide) mX11_line_fieldLink_83_StillTextModel_rows_I rfl rfl dX11_line_98 ?_
                  refine lv_idiv hx hb dX11_line_101 h.1 ?_
                  replace h := h.2
                  exact k_iret hx hb hr hlocks hI h dX11_line_102
                · replace h := h.2 c8
                  have ec4 := lv_neT c4 (a := 0) (by decide)
                  have ec5 := lv_neT c5 (a := 1) (by decide)
                  have ec6 := lv_neT c6 (a := 2) (by decide)
                  have ec7 := lv_neT c7 (a := 3) (by decide)
                  have ec8 := lv_neT c8 (a := 4) (by decide)
                  refine lv_tableOut (tgt := 103) hx hb dX11_line_22 (by omega) (by decide) ?_
                  refine lv_iconst (v := (-1)) hx hb dX11_line_103 (by decide) ?_
                  exact k_iret hx hb hr hlocks hI h dX11_line_104
      · replace h := h.2 c3
        refine lv_iconst (v := (-1)) hx hb dX11_line_19 (by decide) ?_
        exact k_iret hx hb hr hlocks hI h dX11_line_20
theorem inX11_sign_X11 : ∀ w ∈ wsX110, w ∈ wsX11_sign := fun _ h => List.mem_cons_of_mem _ (List.mem_append_right _ (h))
theorem mX11_sign_fieldLink_132_StillTextModel_isSet_Z : Cond.fieldLink RX11 132 "StillTextModel" "isSet" "Z" ∈ wsX11_sign := List.mem_cons_of_mem _ (List.mem_append_left _ (List.mem_of_getElem? (i := 0) rfl))
theorem mX11_sign_fieldLink_170_StillTextModel_lines_I : Cond.fieldLink RX11 170 "StillTextModel" "lines" "I" ∈ wsX11_sign := List.mem_cons_of_mem _ (List.mem_append_left _ (List.mem_of_getElem? (i := 1) rfl))
theorem mX11_sign_fieldLink_77_StillTextModel_lineSigns_I : Cond.fieldLink RX11 77 "StillTextModel" "lineSigns" "[I" ∈ wsX11_sign := List.mem_cons_of_mem _ (List.mem_append_left _ (List.mem_of_getElem? (i := 2) rfl))
theorem mX11_sign_fieldLink_80_StillTextModel_signs_I : Cond.fieldLink RX11 80 "StillTextModel" "signs" "[I" ∈ wsX11_sign := List.mem_cons_of_mem _ (List.mem_append_left _ (List.mem_of_getElem? (i := 3) rfl))
set_option maxHeartbeats 4000000 in
set_option maxRecDepth 100000 in
theorem c_X11_sign (σ : St) (x1 x2 : Int32) (Q : Int32 → St → Prop) (h : wp_X11_sign σ x1 x2 Q) : Ci l D (tyM cyI) [] [] (wM cyI ad) yX11_sign wsX11_sign r_X11_sign [.ref (ad 0), .int x1, .int x2] σ Q := by
  refine k_metI (cc := cX11_sign) (maxL := 3) (ret := (some .int)) (by decide) rfl (Nat.le_of_ble_eq_true rfl) ?_
  intro p e s m below meth c A ls C hI hl
  obtain ⟨hx, hb, hr, hml, hown, hts, hlocks⟩ := id C
  have hl : lv_has ls 3 [(0, .ref (ad 0)), (1, .int x1), (2, .int x2)] := hl
  unfold wp_X11_sign at h
  refine lv_aload_n hx hb dX11_sign_0 rfl (lv_at hl 0 rfl) ?_
  refine k_get (q0 := 0) (k := 24) (ci := 11) (v := .int (σ 0 24)) hx hb hts inX11_sign_X11 hown hI rfl rfl (by decide) mX11_sign_fieldLink_132_StillTextModel_isSet_Z rfl rfl dX11_sign_1 ?_
  refine lv_if_eq (tgt := 47) hx hb dX11_sign_4 (by decide) (fun c1 => ?_) (fun c1 => ?_)
  · replace h := h.1 c1
    refine lv_iconst (v := (-1)) hx hb dX11_sign_47 (by decide) ?_
    exact k_iret hx hb hr hlocks hI h dX11_sign_48
  · replace h := h.2 c1
    refine lv_iload_n hx hb dX11_sign_7 rfl (lv_at hl 1 rfl) ?_
    refine lv_if_lt (tgt := 47) hx hb dX11_sign_8 (by decide) (fun c2 => ?_) (fun c2 => ?_)
    · replace h := h.1 c2
      refine lv_iconst (v := (-1)) hx hb dX11_sign_47 (by decide) ?_
      exact k_iret hx hb hr hlocks hI h dX11_sign_48
    · replace h := h.2 c2
      refine lv_iload_n hx hb dX11_sign_11 rfl (lv_at hl 1 rfl) ?_
      refine lv_aload_n hx hb dX11_sign_12 rfl (lv_at hl 0 rfl) ?_
      refine k_get (q0 := 0) (k := 26) (ci := 11) (v := .int (σ 0 26)) hx hb hts inX11_sign_X11 hown hI rfl rfl (by decide) mX11_sign_fieldLink_170_StillTextModel_lines_I rfl rfl dX11_sign_13 ?_
      refine lv_icmp_ge (tgt := 47) hx hb dX11_sign_16 (by decide) (fun c3 => ?_) (fun c3 => ?_)
      · replace h := h.1 c3
        refine lv_iconst (v := (-1)) hx hb dX11_sign_47 (by decide) ?_
        exact k_iret hx hb hr hlocks hI h dX11_sign_48
      · replace h := h.2 c3
        refine lv_iload_n hx hb dX11_sign_19 rfl (lv_at hl 2 rfl) ?_
        refine lv_if_lt (tgt := 47) hx hb dX11_sign_20 (by decide) (fun c4 => ?_) (fun c4 => ?_)
        · replace h := h.1 c4
          refine lv_iconst (v := (-1)) hx hb dX11_sign_47 (by decide) ?_
          exact k_iret hx hb hr hlocks hI h dX11_sign_48
        · replace h := h.2 c4
          refine lv_iload_n hx hb dX11_sign_23 rfl (lv_at hl 2 rfl) ?_
          refine lv_aload_n hx hb dX11_sign_24 rfl (lv_at hl 0 rfl) ?_
          refine k_get (q0 := 0) (k := 29) (ci := 11) (v := .ref (ad 15)) hx hb hts inX11_sign_X11 hown hI rfl rfl (by decide) mX11_sign_fieldLink_77_StillTextModel_lineSigns_I rfl rfl dX11_sign_25 ?_
          refine lv_iload_n hx hb dX11_sign_28 rfl (lv_at hl 1 rfl) ?_
          refine k_iald (q0 := 15) (t0 := 0) (n := 80) (f := σ 15) hx hb hI rfl rfl h.1 dX11_sign_29 ?_
          replace h := h.2
          refine lv_icmp_ge (tgt := 47) hx hb dX11_sign_30 (by decide) (fun c5 => ?_) (fun c5 => ?_)
          · replace h := h.1 c5
            refine lv_iconst (v := (-1)) hx hb dX11_sign_47 (by decide) ?_
            exact k_iret hx hb hr hlocks hI h dX11_sign_48
          · replace h := h.2 c5
            refine lv_aload_n hx hb dX11_sign_33 rfl (lv_at hl 0 rfl) ?_
            refine k_get (q0 := 0) (k := 30) (ci := 11) (v := .ref (ad 16)) hx hb hts inX11_sign_X11 hown hI rfl rfl (by decide) mX11_sign_fieldLink_80_StillTextModel_signs_I rfl rfl dX11_sign_34 ?_
            refine lv_bipush (v := nI 60) hx hb dX11_sign_37 (by decide) ?_
            refine lv_iload_n hx hb dX11_sign_39 rfl (lv_at hl 1 rfl) ?_
            refine lv_imul hx hb dX11_sign_40 ?_
            refine lv_iload_n hx hb dX11_sign_41 rfl (lv_at hl 2 rfl) ?_
            refine lv_iadd hx hb dX11_sign_42 ?_
            refine k_iald (q0 := 16) (t0 := 0) (n := 4800) (f := σ 16) hx hb hI rfl rfl h.1 dX11_sign_43 ?_
            replace h := h.2
            refine lv_goto (tgt := 48) hx hb dX11_sign_44 (by decide) ?_
            exact k_iret hx hb hr hlocks hI h dX11_sign_48
theorem inX11_rivers_X11 : ∀ w ∈ wsX110, w ∈ wsX11_rivers := fun _ h => List.mem_cons_of_mem _ (List.mem_append_right _ (h))
theorem mX11_rivers_fieldLink_132_StillTextModel_isSet_Z : Cond.fieldLink RX11 132 "StillTextModel" "isSet" "Z" ∈ wsX11_rivers := List.mem_cons_of_mem _ (List.mem_append_left _ (List.mem_of_getElem? (i := 0) rfl))
theorem mX11_rivers_fieldLink_170_StillTextModel_lines_I : Cond.fieldLink RX11 170 "StillTextModel" "lines" "I" ∈ wsX11_rivers := List.mem_cons_of_mem _ (List.mem_append_left _ (List.mem_of_getElem? (i := 1) rfl))
theorem mX11_rivers_fieldLink_77_StillTextModel_lineSigns_I : Cond.fieldLink RX11 77 "StillTextModel" "lineSigns" "[I" ∈ wsX11_rivers := List.mem_cons_of_mem _ (List.mem_append_left _ (List.mem_of_getElem? (i := 2) rfl))
theorem mX11_rivers_fieldLink_80_StillTextModel_signs_I : Cond.fieldLink RX11 80 "StillTextModel" "signs" "[I" ∈ wsX11_rivers := List.mem_cons_of_mem _ (List.mem_append_left _ (List.mem_of_getElem? (i := 3) rfl))
set_option maxHeartbeats 4000000 in
set_option maxRecDepth 100000 in
theorem t_X11_rivers_30 {p : Program} {e : Env} {s : State} {m : MethodId} {args : Array Value} {below : List Frame} {meth : Method} {c : Code} {A : Nat → Prop} {x1 x3 : Int32} {K18 : St → Int32 → Int32 → Prop} {Q : Int32 → St → Prop} (C : Cx p s m args meth c cX11_rivers 7 (some .int) RX11 wsX11_rivers) (hK18 : ∀ (σ : St) (x2 x3 : Int32) (H : Heap) (locs : List Loc) (ls : Array Slot), K18 σ x2 x3 → Iw D (tyM cyI) [] [] (wM cyI ad) A s H locs σ → lv_has ls 7 [(0, .ref (ad 0)), (1, .int x1), (2, .int x2), (3, .int x3)] → W p l e r_X11_rivers s m args below meth c H locs 0 0 (MQ below (va_Qi Q (Kq D (tyM cyI) (wM cyI ad) A) A) args s 0 0 A) (F0 m 18 ls [])) :
    ∀ (n : Nat) (σ : St) (x2 x4 x5 : Int32) (H : Heap) (locs : List Loc) (ls : Array Slot), wpl_X11_rivers_30 x1 x3 K18 Q n σ x2 x4 x5 → Iw D (tyM cyI) [] [] (wM cyI ad) A s H locs σ → lv_has ls 7 [(0, .ref (ad 0)), (1, .int x1), (2, .int x2), (3, .int x3), (4, .int x4), (5, .int x5)] → W p l e r_X11_rivers s m args below meth c H locs 0 0 (MQ below (va_Qi Q (Kq D (tyM cyI) (wM cyI ad) A) A) args s 0 0 A) (F0 m 30 ls []) := by
  obtain ⟨hx, hb, hr, hml, hown, hts, hlocks⟩ := id C
  intro n
  induction n with
  | zero =>
    intro _ _ _ _ _ _ _ h
    exact h.elim
  | succ n ih =>
    intro σ x2 x4 x5 H locs ls h hI hl
    unfold wpl_X11_rivers_30 at h
    refine lv_iload hx hb dX11_rivers_30 (lv_at hl 5 rfl) ?_
    refine lv_aload_n hx hb dX11_rivers_32 rfl (lv_at hl 0 rfl) ?_
    refine k_get (q0 := 0) (k := 26) (ci := 11) (v := .int (σ 0 26)) hx hb hts inX11_rivers_X11 hown hI rfl rfl (by decide) mX11_rivers_fieldLink_170_StillTextModel_lines_I rfl rfl dX11_rivers_33 ?_
    refine lv_icmp_gt (tgt := 118) hx hb dX11_rivers_36 (by decide) (fun c4 => ?_) (fun c4 => ?_)
    · replace h := h.1 c4
      refine lv_iinc (v := (x3 + nI 1)) (lv' := [(3, .int (x3 + nI 1)), (0, .ref (ad 0)), (1, .int x1), (2, .int x2), (4, .int x4), (5, .int x5)]) hx hb dX11_rivers_118 hl (k := 3) rfl rfl (by decide) rfl (fun ls hl => ?_)
      refine lv_goto (tgt := 18) hx hb dX11_rivers_121 (by decide) ?_
      exact hK18 _ _ _ _ _ _ h hI (lv_sub hl [1, 2, 3, 0] rfl)
    · replace h := h.2 c4
      refine lv_iload hx hb dX11_rivers_39 (lv_at hl 5 rfl) ?_
      refine lv_aload_n hx hb dX11_rivers_41 rfl (lv_at hl 0 rfl) ?_
      refine k_get (q0 := 0) (k := 26) (ci := 11) (v := .int (σ 0 26)) hx hb hts inX11_rivers_X11 hown hI rfl rfl (by decide) mX11_rivers_fieldLink_170_StillTextModel_lines_I rfl rfl dX11_rivers_42 ?_
      refine lv_icmp_ge (tgt := 80) hx hb dX11_rivers_45 (by decide) (fun c5 => ?_) (fun c5 => ?_)
      · replace h := h.1 c5
        refine lv_iconst (v := nI 0) hx hb dX11_rivers_80 (by decide) ?_
        refine lv_istore (lv' := [(6, .int (nI 0)), (0, .ref (ad 0)), (1, .int x1), (2, .int x2), (3, .int x3), (4, .int x4), (5, .int x5)]) hx hb dX11_rivers_81 hl (by decide) rfl (fun ls hl => ?_)
        refine lv_iload hx hb dX11_rivers_83 (lv_at hl 0 rfl) ?_
        refine lv_if_ne (tgt := 97) hx hb dX11_rivers_85 (by decide) (fun c6 => ?_) (fun c6 => ?_)
        · exact absurd c6 (by decide)
        · refine lv_iload hx hb dX11_rivers_88 (lv_at hl 5 rfl) ?_
          refine lv_iload_n hx hb dX11_rivers_90 rfl (lv_at hl 2 rfl) ?_
          refine lv_icmp_le (tgt := 97) hx hb dX11_rivers_91 (by decide) (fun c7 => ?_) (fun c7 => ?_)
          · replace h := h.1 c7
            refine lv_iload hx hb dX11_rivers_97 (lv_at hl 0 rfl) ?_
            refine lv_if_eq (tgt := 109) hx hb dX11_rivers_99 (by decide) (fun c8 => ?_) (fun c8 => ?_)
            · refine lv_iconst (v := nI 0) hx hb dX11_rivers_109 (by decide) ?_
              refine lv_istore (lv' := [(4, .int (nI 0)), (6, .int (nI 0)), (0, .ref (ad 0)), (1, .int x1), (2, .int x2), (3, .int x3), (5, .int x5)]) hx hb dX11_rivers_110 hl (by decide) rfl (fun ls hl => ?_)
              refine lv_iinc (v := (x5 + nI 1)) (lv' := [(5, .int (x5 + nI 1)), (4, .int (nI 0)), (6, .int (nI 0)), (0, .ref (ad 0)), (1, .int x1), (2, .int x2), (3, .int x3)]) hx hb dX11_rivers_112 hl (k := 6) rfl rfl (by decide) rfl (fun ls hl => ?_)
              refine lv_goto (tgt := 30) hx hb dX11_rivers_115 (by decide) ?_
              exact ih _ _ _ _ _ _ _ h hI (lv_sub hl [3, 4, 5, 6, 1, 0] rfl)
            · exact absurd c8 (by decide)
          · replace h := h.2 c7
            refine lv_iinc (v := (x2 + nI 1)) (lv' := [(2, .int (x2 + nI 1)), (6, .int (nI 0)), (0, .ref (ad 0)), (1, .int x1), (3, .int x3), (4, .int x4), (5, .int x5)]) hx hb dX11_rivers_94 hl (k := 3) rfl rfl (by decide) rfl (fun ls hl => ?_)
            refine lv_iload hx hb dX11_rivers_97 (lv_at hl 1 rfl) ?_
            refine lv_if_eq (tgt := 109) hx hb dX11_rivers_99 (by decide) (fun c9 => ?_) (fun c9 => ?_)
            · refine lv_iconst (v := nI 0) hx hb dX11_rivers_109 (by decide) ?_
              refine lv_istore (lv' := [(4, .int (nI 0)), (2, .int (x2 + nI 1)), (6, .int (nI 0)), (0, .ref (ad 0)), (1, .int x1), (3, .int x3), (5, .int x5)]) hx hb dX11_rivers_110 hl (by decide) rfl (fun ls hl => ?_)
              refine lv_iinc (v := (x5 + nI 1)) (lv' := [(5, .int (x5 + nI 1)), (4, .int (nI 0)), (2, .int (x2 + nI 1)), (6, .int (nI 0)), (0, .ref (ad 0)), (1, .int x1), (3, .int x3)]) hx hb dX11_rivers_112 hl (k := 6) rfl rfl (by decide) rfl (fun ls hl => ?_)
              refine lv_goto (tgt := 30) hx hb dX11_rivers_115 (by decide) ?_
              exact ih _ _ _ _ _ _ _ h hI (lv_sub hl [4, 5, 2, 6, 1, 0] rfl)
            · exact absurd c9 (by decide)
      · replace h := h.2 c5
        refine lv_iload_n hx hb dX11_rivers_48 rfl (lv_at hl 3 rfl) ?_
        refine lv_aload_n hx hb dX11_rivers_49 rfl (lv_at hl 0 rfl) ?_
        refine k_get (q0 := 0) (k := 29) (ci := 11) (v := .ref (ad 15)) hx hb hts inX11_rivers_X11 hown hI rfl rfl (by decide) mX11_rivers_fieldLink_77_StillTextModel_lineSigns_I rfl rfl dX11_rivers_50 ?_
        refine lv_iload hx hb dX11_rivers_53 (lv_at hl 5 rfl) ?_
        refine k_iald (q0 := 15) (t0 := 0) (n := 80) (f := σ 15) hx hb hI rfl rfl h.1 dX11_rivers_55 ?_
        replace h := h.2
        refine lv_icmp_ge (tgt := 80) hx hb dX11_rivers_56 (by decide) (fun c10 => ?_) (fun c10 => ?_)
        · replace h := h.1 c10
          refine lv_iconst (v := nI 0) hx hb dX11_rivers_80 (by decide) ?_
          refine lv_istore (lv' := [(6, .int (nI 0)), (0, .ref (ad 0)), (1, .int x1), (2, .int x2), (3, .int x3), (4, .int x4), (5, .int x5)]) hx hb dX11_rivers_81 hl (by decide) rfl (fun ls hl => ?_)
          refine lv_iload hx hb dX11_rivers_83 (lv_at hl 0 rfl) ?_
          refine lv_if_ne (tgt := 97) hx hb dX11_rivers_85 (by decide) (fun c11 => ?_) (fun c11 => ?_)
          · exact absurd c11 (by decide)
          · refine lv_iload hx hb dX11_rivers_88 (lv_at hl 5 rfl) ?_
            refine lv_iload_n hx hb dX11_rivers_90 rfl (lv_at hl 2 rfl) ?_
            refine lv_icmp_le (tgt := 97) hx hb dX11_rivers_91 (by decide) (fun c12 => ?_) (fun c12 => ?_)
            · replace h := h.1 c12
              refine lv_iload hx hb dX11_rivers_97 (lv_at hl 0 rfl) ?_
              refine lv_if_eq (tgt := 109) hx hb dX11_rivers_99 (by decide) (fun c13 => ?_) (fun c13 => ?_)
              · refine lv_iconst (v := nI 0) hx hb dX11_rivers_109 (by decide) ?_
                refine lv_istore (lv' := [(4, .int (nI 0)), (6, .int (nI 0)), (0, .ref (ad 0)), (1, .int x1), (2, .int x2), (3, .int x3), (5, .int x5)]) hx hb dX11_rivers_110 hl (by decide) rfl (fun ls hl => ?_)
                refine lv_iinc (v := (x5 + nI 1)) (lv' := [(5, .int (x5 + nI 1)), (4, .int (nI 0)), (6, .int (nI 0)), (0, .ref (ad 0)), (1, .int x1), (2, .int x2), (3, .int x3)]) hx hb dX11_rivers_112 hl (k := 6) rfl rfl (by decide) rfl (fun ls hl => ?_)
                refine lv_goto (tgt := 30) hx hb dX11_rivers_115 (by decide) ?_
                exact ih _ _ _ _ _ _ _ h hI (lv_sub hl [3, 4, 5, 6, 1, 0] rfl)
              · exact absurd c13 (by decide)
            · replace h := h.2 c12
              refine lv_iinc (v := (x2 + nI 1)) (lv' := [(2, .int (x2 + nI 1)), (6, .int (nI 0)), (0, .ref (ad 0)), (1, .int x1), (3, .int x3), (4, .int x4), (5, .int x5)]) hx hb dX11_rivers_94 hl (k := 3) rfl rfl (by decide) rfl (fun ls hl => ?_)
              refine lv_iload hx hb dX11_rivers_97 (lv_at hl 1 rfl) ?_
              refine lv_if_eq (tgt := 109) hx hb dX11_rivers_99 (by decide) (fun c14 => ?_) (fun c14 => ?_)
              · refine lv_iconst (v := nI 0) hx hb dX11_rivers_109 (by decide) ?_
                refine lv_istore (lv' := [(4, .int (nI 0)), (2, .int (x2 + nI 1)), (6, .int (nI 0)), (0, .ref (ad 0)), (1, .int x1), (3, .int x3), (5, .int x5)]) hx hb dX11_rivers_110 hl (by decide) rfl (fun ls hl => ?_)
                refine lv_iinc (v := (x5 + nI 1)) (lv' := [(5, .int (x5 + nI 1)), (4, .int (nI 0)), (2, .int (x2 + nI 1)), (6, .int (nI 0)), (0, .ref (ad 0)), (1, .int x1), (3, .int x3)]) hx hb dX11_rivers_112 hl (k := 6) rfl rfl (by decide) rfl (fun ls hl => ?_)
                refine lv_goto (tgt := 30) hx hb dX11_rivers_115 (by decide) ?_
                exact ih _ _ _ _ _ _ _ h hI (lv_sub hl [4, 5, 2, 6, 1, 0] rfl)
              · exact absurd c14 (by decide)
        · replace h := h.2 c10
          refine lv_aload_n hx hb dX11_rivers_59 rfl (lv_at hl 0 rfl) ?_
          refine k_get (q0 := 0) (k := 30) (ci := 11) (v := .ref (ad 16)) hx hb hts inX11_rivers_X11 hown hI rfl rfl (by decide) mX11_rivers_fieldLink_80_StillTextModel_signs_I rfl rfl dX11_rivers_60 ?_
          refine lv_bipush (v := nI 60) hx hb dX11_rivers_63 (by decide) ?_
          refine lv_iload hx hb dX11_rivers_65 (lv_at hl 5 rfl) ?_
          refine lv_imul hx hb dX11_rivers_67 ?_
          refine lv_iload_n hx hb dX11_rivers_68 rfl (lv_at hl 3 rfl) ?_
          refine lv_iadd hx hb dX11_rivers_69 ?_
          refine k_iald (q0 := 16) (t0 := 0) (n := 4800) (f := σ 16) hx hb hI rfl rfl h.1 dX11_rivers_70 ?_
          replace h := h.2
          refine lv_bipush (v := nI 32) hx hb dX11_rivers_71 (by decide) ?_
          refine lv_icmp_ne (tgt := 80) hx hb dX11_rivers_73 (by decide) (fun c15 => ?_) (fun c15 => ?_)
          · replace h := h.1 c15
            refine lv_iconst (v := nI 0) hx hb dX11_rivers_80 (by decide) ?_
            refine lv_istore (lv' := [(6, .int (nI 0)), (0, .ref (ad 0)), (1, .int x1), (2, .int x2), (3, .int x3), (4, .int x4), (5, .int x5)]) hx hb dX11_rivers_81 hl (by decide) rfl (fun ls hl => ?_)
            refine lv_iload hx hb dX11_rivers_83 (lv_at hl 0 rfl) ?_
            refine lv_if_ne (tgt := 97) hx hb dX11_rivers_85 (by decide) (fun c16 => ?_) (fun c16 => ?_)
            · exact absurd c16 (by decide)
            · refine lv_iload hx hb dX11_rivers_88 (lv_at hl 5 rfl) ?_
              refine lv_iload_n hx hb dX11_rivers_90 rfl (lv_at hl 2 rfl) ?_
              refine lv_icmp_le (tgt := 97) hx hb dX11_rivers_91 (by decide) (fun c17 => ?_) (fun c17 => ?_)
              · replace h := h.1 c17
                refine lv_iload hx hb dX11_rivers_97 (lv_at hl 0 rfl) ?_
                refine lv_if_eq (tgt := 109) hx hb dX11_rivers_99 (by decide) (fun c18 => ?_) (fun c18 => ?_)
                · refine lv_iconst (v := nI 0) hx hb dX11_rivers_109 (by decide) ?_
                  refine lv_istore (lv' := [(4, .int (nI 0)), (6, .int (nI 0)), (0, .ref (ad 0)), (1, .int x1), (2, .int x2), (3, .int x3), (5, .int x5)]) hx hb dX11_rivers_110 hl (by decide) rfl (fun ls hl => ?_)
                  refine lv_iinc (v := (x5 + nI 1)) (lv' := [(5, .int (x5 + nI 1)), (4, .int (nI 0)), (6, .int (nI 0)), (0, .ref (ad 0)), (1, .int x1), (2, .int x2), (3, .int x3)]) hx hb dX11_rivers_112 hl (k := 6) rfl rfl (by decide) rfl (fun ls hl => ?_)
                  refine lv_goto (tgt := 30) hx hb dX11_rivers_115 (by decide) ?_
                  exact ih _ _ _ _ _ _ _ h hI (lv_sub hl [3, 4, 5, 6, 1, 0] rfl)
                · exact absurd c18 (by decide)
              · replace h := h.2 c17
                refine lv_iinc (v := (x2 + nI 1)) (lv' := [(2, .int (x2 + nI 1)), (6, .int (nI 0)), (0, .ref (ad 0)), (1, .int x1), (3, .int x3), (4, .int x4), (5, .int x5)]) hx hb dX11_rivers_94 hl (k := 3) rfl rfl (by decide) rfl (fun ls hl => ?_)
                refine lv_iload hx hb dX11_rivers_97 (lv_at hl 1 rfl) ?_
                refine lv_if_eq (tgt := 109) hx hb dX11_rivers_99 (by decide) (fun c19 => ?_) (fun c19 => ?_)
                · refine lv_iconst (v := nI 0) hx hb dX11_rivers_109 (by decide) ?_
                  refine lv_istore (lv' := [(4, .int (nI 0)), (2, .int (x2 + nI 1)), (6, .int (nI 0)), (0, .ref (ad 0)), (1, .int x1), (3, .int x3), (5, .int x5)]) hx hb dX11_rivers_110 hl (by decide) rfl (fun ls hl => ?_)
                  refine lv_iinc (v := (x5 + nI 1)) (lv' := [(5, .int (x5 + nI 1)), (4, .int (nI 0)), (2, .int (x2 + nI 1)), (6, .int (nI 0)), (0, .ref (ad 0)), (1, .int x1), (3, .int x3)]) hx hb dX11_rivers_112 hl (k := 6) rfl rfl (by decide) rfl (fun ls hl => ?_)
                  refine lv_goto (tgt := 30) hx hb dX11_rivers_115 (by decide) ?_
                  exact ih _ _ _ _ _ _ _ h hI (lv_sub hl [4, 5, 2, 6, 1, 0] rfl)
                · exact absurd c19 (by decide)
          · replace h := h.2 c15
            refine lv_iconst (v := nI 1) hx hb dX11_rivers_76 (by decide) ?_
            refine lv_goto (tgt := 81) hx hb dX11_rivers_77 (by decide) ?_
            refine lv_istore (lv' := [(6, .int (nI 1)), (0, .ref (ad 0)), (1, .int x1), (2, .int x2), (3, .int x3), (4, .int x4), (5, .int x5)]) hx hb dX11_rivers_81 hl (by decide) rfl (fun ls hl => ?_)
            refine lv_iload hx hb dX11_rivers_83 (lv_at hl 0 rfl) ?_
            refine lv_if_ne (tgt := 97) hx hb dX11_rivers_85 (by decide) (fun c20 => ?_) (fun c20 => ?_)
            · refine lv_iload hx hb dX11_rivers_97 (lv_at hl 0 rfl) ?_
              refine lv_if_eq (tgt := 109) hx hb dX11_rivers_99 (by decide) (fun c21 => ?_) (fun c21 => ?_)
              · exact absurd c21 (by decide)
              · refine lv_iload hx hb dX11_rivers_102 (lv_at hl 5 rfl) ?_
                refine lv_iconst (v := nI 1) hx hb dX11_rivers_104 (by decide) ?_
                refine lv_iadd hx hb dX11_rivers_105 ?_
                refine lv_goto (tgt := 110) hx hb dX11_rivers_106 (by decide) ?_
                refine lv_istore (lv' := [(4, .int (x4 + (nI 1))), (6, .int (nI 1)), (0, .ref (ad 0)), (1, .int x1), (2, .int x2), (3, .int x3), (5, .int x5)]) hx hb dX11_rivers_110 hl (by decide) rfl (fun ls hl => ?_)
                refine lv_iinc (v := (x5 + nI 1)) (lv' := [(5, .int (x5 + nI 1)), (4, .int (x4 + (nI 1))), (6, .int (nI 1)), (0, .ref (ad 0)), (1, .int x1), (2, .int x2), (3, .int x3)]) hx hb dX11_rivers_112 hl (k := 6) rfl rfl (by decide) rfl (fun ls hl => ?_)
                refine lv_goto (tgt := 30) hx hb dX11_rivers_115 (by decide) ?_
                exact ih _ _ _ _ _ _ _ h hI (lv_sub hl [3, 4, 5, 6, 1, 0] rfl)
            · exact absurd c20 (by decide)
set_option maxHeartbeats 4000000 in
set_option maxRecDepth 100000 in
theorem t_X11_rivers_18 {p : Program} {e : Env} {s : State} {m : MethodId} {args : Array Value} {below : List Frame} {meth : Method} {c : Code} {A : Nat → Prop} {x1 : Int32}  {Q : Int32 → St → Prop} (C : Cx p s m args meth c cX11_rivers 7 (some .int) RX11 wsX11_rivers) :
    ∀ (n : Nat) (σ : St) (x2 x3 : Int32) (H : Heap) (locs : List Loc) (ls : Array Slot), wpl_X11_rivers_18 x1 Q n σ x2 x3 → Iw D (tyM cyI) [] [] (wM cyI ad) A s H locs σ → lv_has ls 7 [(0, .ref (ad 0)), (1, .int x1), (2, .int x2), (3, .int x3)] → W p l e r_X11_rivers s m args below meth c H locs 0 0 (MQ below (va_Qi Q (Kq D (tyM cyI) (wM cyI ad) A) A) args s 0 0 A) (F0 m 18 ls []) := by
  obtain ⟨hx, hb, hr, hml, hown, hts, hlocks⟩ := id C
  intro n
  induction n with
  | zero =>
    intro _ _ _ _ _ _ h
    exact h.elim
  | succ n ih =>
    intro σ x2 x3 H locs ls h hI hl
    unfold wpl_X11_rivers_18 at h
    refine lv_iload_n hx hb dX11_rivers_18 rfl (lv_at hl 3 rfl) ?_
    refine lv_bipush (v := nI 60) hx hb dX11_rivers_19 (by decide) ?_
    refine lv_icmp_ge (tgt := 124) hx hb dX11_rivers_21 (by decide) (fun c3 => ?_) (fun c3 => ?_)
    · replace h := h.1 c3
      refine lv_iload_n hx hb dX11_rivers_124 rfl (lv_at hl 2 rfl) ?_
      exact k_iret hx hb hr hlocks hI h dX11_rivers_125
    · replace h := h.2 c3
      refine lv_iconst (v := nI 0) hx hb dX11_rivers_24 (by decide) ?_
      refine lv_istore (lv' := [(4, .int (nI 0)), (0, .ref (ad 0)), (1, .int x1), (2, .int x2), (3, .int x3)]) hx hb dX11_rivers_25 hl (by decide) rfl (fun ls hl => ?_)
      refine lv_iconst (v := nI 0) hx hb dX11_rivers_27 (by decide) ?_
      refine lv_istore (lv' := [(5, .int (nI 0)), (4, .int (nI 0)), (0, .ref (ad 0)), (1, .int x1), (2, .int x2), (3, .int x3)]) hx hb dX11_rivers_28 hl (by decide) rfl (fun ls hl => ?_)
      obtain ⟨k22, h⟩ := h
      exact t_X11_rivers_30 C ih k22 _ _ _ _ _ _ _ h hI (lv_sub hl [2, 3, 4, 5, 1, 0] rfl)
set_option maxHeartbeats 4000000 in
set_option maxRecDepth 100000 in
theorem c_X11_rivers (σ : St) (x1 : Int32) (Q : Int32 → St → Prop) (h : wp_X11_rivers σ x1 Q) : Ci l D (tyM cyI) [] [] (wM cyI ad) yX11_rivers wsX11_rivers r_X11_rivers [.ref (ad 0), .int x1] σ Q := by
  refine k_metI (cc := cX11_rivers) (maxL := 7) (ret := (some .int)) (by decide) rfl (Nat.le_of_ble_eq_true rfl) ?_
  intro p e s m below meth c A ls C hI hl
  obtain ⟨hx, hb, hr, hml, hown, hts, hlocks⟩ := id C
  have hl : lv_has ls 7 [(0, .ref (ad 0)), (1, .int x1)] := hl
  unfold wp_X11_rivers at h
  refine lv_aload_n hx hb dX11_rivers_0 rfl (lv_at hl 0 rfl) ?_
  refine k_get (q0 := 0) (k := 24) (ci := 11) (v := .int (σ 0 24)) hx hb hts inX11_rivers_X11 hown hI rfl rfl (by decide) mX11_rivers_fieldLink_132_StillTextModel_isSet_Z rfl rfl dX11_rivers_1 ?_
  refine lv_if_eq (tgt := 12) hx hb dX11_rivers_4 (by decide) (fun c1 => ?_) (fun c1 => ?_)
  · replace h := h.1 c1
    refine lv_iconst (v := (-1)) hx hb dX11_rivers_12 (by decide) ?_
    exact k_iret hx hb hr hlocks hI h dX11_rivers_13
  · replace h := h.2 c1
    refine lv_iload_n hx hb dX11_rivers_7 rfl (lv_at hl 1 rfl) ?_
    refine lv_iconst (v := nI 1) hx hb dX11_rivers_8 (by decide) ?_
    refine lv_icmp_ge (tgt := 14) hx hb dX11_rivers_9 (by decide) (fun c2 => ?_) (fun c2 => ?_)
    · replace h := h.1 c2
      refine lv_iconst (v := nI 0) hx hb dX11_rivers_14 (by decide) ?_
      refine lv_istore_n (lv' := [(2, .int (nI 0)), (0, .ref (ad 0)), (1, .int x1)]) hx hb dX11_rivers_15 rfl hl (by decide) rfl (fun ls hl => ?_)
      refine lv_iconst (v := nI 0) hx hb dX11_rivers_16 (by decide) ?_
      refine lv_istore_n (lv' := [(3, .int (nI 0)), (2, .int (nI 0)), (0, .ref (ad 0)), (1, .int x1)]) hx hb dX11_rivers_17 rfl hl (by decide) rfl (fun ls hl => ?_)
      obtain ⟨k23, h⟩ := h
      exact t_X11_rivers_18 C  k23 _ _ _ _ _ _ h hI (lv_sub hl [2, 3, 1, 0] rfl)
    · replace h := h.2 c2
      refine lv_iconst (v := (-1)) hx hb dX11_rivers_12 (by decide) ?_
      exact k_iret hx hb hr hlocks hI h dX11_rivers_13
theorem inX11_page_X11 : ∀ w ∈ wsX110, w ∈ wsX11_page := fun _ h => List.mem_cons_of_mem _ (List.mem_append_right _ (h))
theorem mX11_page_fieldLink_83_StillTextModel_rows_I : Cond.fieldLink RX11 83 "StillTextModel" "rows" "I" ∈ wsX11_page := List.mem_cons_of_mem _ (List.mem_append_left _ (List.mem_of_getElem? (i := 0) rfl))
theorem mX11_page_fieldLink_86_StillTextModel_tints_I : Cond.fieldLink RX11 86 "StillTextModel" "tints" "I" ∈ wsX11_page := List.mem_cons_of_mem _ (List.mem_append_left _ (List.mem_of_getElem? (i := 1) rfl))
set_option maxHeartbeats 4000000 in
set_option maxRecDepth 100000 in
theorem c_X11_page (σ : St) (x1 x2 : Int32) (Q : Int32 → St → Prop) (h : wp_X11_page σ x1 x2 Q) : Ci l D (tyM cyI) [] [] (wM cyI ad) yX11_page wsX11_page r_X11_page [.ref (ad 0), .int x1, .int x2] σ Q := by
  refine k_metI (cc := cX11_page) (maxL := 3) (ret := (some .boolean)) (by decide) rfl (Nat.le_of_ble_eq_true rfl) ?_
  intro p e s m below meth c A ls C hI hl
  obtain ⟨hx, hb, hr, hml, hown, hts, hlocks⟩ := id C
  have hl : lv_has ls 3 [(0, .ref (ad 0)), (1, .int x1), (2, .int x2)] := hl
  unfold wp_X11_page at h
  refine lv_iload_n hx hb dX11_page_0 rfl (lv_at hl 1 rfl) ?_
  refine lv_iconst (v := nI 2) hx hb dX11_page_1 (by decide) ?_
  refine lv_bipush (v := nI 40) hx hb dX11_page_2 (by decide) ?_
  refine k_cSi (As := [.int x1, .int (nI 2), .int (nI 40)]) (rest := []) C (c_X11_isIn σ x1 (nI 2) (nI 40) _ h) (va_cwS 3 hts gX11_page_X11_isIn rfl rfl rfl hdX11_isIn ⟨Nat.le_of_ble_eq_true rfl, Nat.le_of_ble_eq_true rfl⟩) hI rfl hl.1 rfl (Nat.le_of_ble_eq_true rfl) dX11_page_4 ⟨Nat.le_of_ble_eq_true rfl, Nat.le_of_ble_eq_true rfl⟩ (fun r1 σ2 H locs h hI => ?_)
  refine lv_if_eq (tgt := 20) hx hb dX11_page_7 (by decide) (fun c3 => ?_) (fun c3 => ?_)
  · replace h := h.1 c3
    refine lv_iconst (v := nI 0) hx hb dX11_page_20 (by decide) ?_
    exact k_zret hx hb hr hlocks hI (Or.inl rfl) h dX11_page_21
  · replace h := h.2 c3
    refine lv_iload_n hx hb dX11_page_10 rfl (lv_at hl 2 rfl) ?_
    refine lv_iconst (v := nI 2) hx hb dX11_page_11 (by decide) ?_
    refine lv_bipush (v := nI 7) hx hb dX11_page_12 (by decide) ?_
    refine k_cSi (As := [.int x2, .int (nI 2), .int (nI 7)]) (rest := []) C (c_X11_isIn σ2 x2 (nI 2) (nI 7) _ h) (va_cwS 3 hts gX11_page_X11_isIn rfl rfl rfl hdX11_isIn ⟨Nat.le_of_ble_eq_true rfl, Nat.le_of_ble_eq_true rfl⟩) hI rfl hl.1 rfl (Nat.le_of_ble_eq_true rfl) dX11_page_14 ⟨Nat.le_of_ble_eq_true rfl, Nat.le_of_ble_eq_true rfl⟩ (fun r4 σ5 H locs h hI => ?_)
    refine lv_if_ne (tgt := 22) hx hb dX11_page_17 (by decide) (fun c6 => ?_) (fun c6 => ?_)
    · replace h := h.1 c6
      refine lv_aload_n hx hb dX11_page_22 rfl (lv_at hl 0 rfl) ?_
      refine lv_iload_n hx hb dX11_page_23 rfl (lv_at hl 1 rfl) ?_
      refine k_put (q0 := 0) (k := 31) (ci := 11) (v := .int x1) (σ' := up2 σ5 0 31 x1) hx hb hts inX11_page_X11 tyX11 tyX11_ok nmX11 hown hI rfl rfl (by decide) mX11_page_fieldLink_83_StillTextModel_rows_I rfl rfl rfl rfl (Nat.le_of_ble_eq_true rfl) (wsM_0_31 _ _ _ _) dX11_page_24 (fun H locs hI => ?_)
      refine lv_aload_n hx hb dX11_page_27 rfl (lv_at hl 0 rfl) ?_
      refine lv_iload_n hx hb dX11_page_28 rfl (lv_at hl 2 rfl) ?_
      refine k_put (q0 := 0) (k := 32) (ci := 11) (v := .int x2) (σ' := up2 (up2 σ5 0 31 x1) 0 32 x2) hx hb hts inX11_page_X11 tyX11 tyX11_ok nmX11 hown hI rfl rfl (by decide) mX11_page_fieldLink_86_StillTextModel_tints_I rfl rfl rfl rfl (Nat.le_of_ble_eq_true rfl) (wsM_0_32 _ _ _ _) dX11_page_29 (fun H locs hI => ?_)
      refine lv_iconst (v := nI 1) hx hb dX11_page_32 (by decide) ?_
      exact k_zret hx hb hr hlocks hI (Or.inr rfl) h dX11_page_33
    · replace h := h.2 c6
      refine lv_iconst (v := nI 0) hx hb dX11_page_20 (by decide) ?_
      exact k_zret hx hb hr hlocks hI (Or.inl rfl) h dX11_page_21
theorem inX11_pageOf_X11 : ∀ w ∈ wsX110, w ∈ wsX11_pageOf := fun _ h => List.mem_cons_of_mem _ (List.mem_append_right _ (h))
theorem mX11_pageOf_fieldLink_71_StillTextModel_lineFrom_I : Cond.fieldLink RX11 71 "StillTextModel" "lineFrom" "[I" ∈ wsX11_pageOf := List.mem_cons_of_mem _ (List.mem_append_left _ (List.mem_of_getElem? (i := 0) rfl))
theorem mX11_pageOf_fieldLink_74_StillTextModel_lineMany_I : Cond.fieldLink RX11 74 "StillTextModel" "lineMany" "[I" ∈ wsX11_pageOf := List.mem_cons_of_mem _ (List.mem_append_left _ (List.mem_of_getElem? (i := 1) rfl))
theorem mX11_pageOf_fieldLink_83_StillTextModel_rows_I : Cond.fieldLink RX11 83 "StillTextModel" "rows" "I" ∈ wsX11_pageOf := List.mem_cons_of_mem _ (List.mem_append_left _ (List.mem_of_getElem? (i := 2) rfl))
set_option maxHeartbeats 4000000 in
set_option maxRecDepth 100000 in
theorem t_X11_pageOf_2 {p : Program} {e : Env} {s : State} {m : MethodId} {args : Array Value} {below : List Frame} {meth : Method} {c : Code} {A : Nat → Prop} {x1 : Int32}  {Q : Int32 → St → Prop} (C : Cx p s m args meth c cX11_pageOf 3 (some .int) RX11 wsX11_pageOf) :
    ∀ (n : Nat) (σ : St) (x2 : Int32) (H : Heap) (locs : List Loc) (ls : Array Slot), wpl_X11_pageOf_2 x1 Q n σ x2 → Iw D (tyM cyI) [] [] (wM cyI ad) A s H locs σ → lv_has ls 3 [(0, .ref (ad 0)), (1, .int x1), (2, .int x2)] → W p l e r_X11_pageOf s m args below meth c H locs 0 0 (MQ below (va_Qi Q (Kq D (tyM cyI) (wM cyI ad) A) A) args s 0 0 A) (F0 m 2 ls []) := by
  obtain ⟨hx, hb, hr, hml, hown, hts, hlocks⟩ := id C
  intro n
  induction n with
  | zero =>
    intro _ _ _ _ _ h
    exact h.elim
  | succ n ih =>
    intro σ x2 H locs ls h hI hl
    unfold wpl_X11_pageOf_2 at h
    refine lv_iload_n hx hb dX11_pageOf_2 rfl (lv_at hl 1 rfl) ?_
    refine lv_aload_n hx hb dX11_pageOf_3 rfl (lv_at hl 0 rfl) ?_
    refine k_get (q0 := 0) (k := 27) (ci := 11) (v := .ref (ad 13)) hx hb hts inX11_pageOf_X11 hown hI rfl rfl (by decide) mX11_pageOf_fieldLink_71_StillTextModel_lineFrom_I rfl rfl dX11_pageOf_4 ?_
    refine lv_iload_n hx hb dX11_pageOf_7 rfl (lv_at hl 2 rfl) ?_
    refine k_iald (q0 := 13) (t0 := 0) (n := 80) (f := σ 13) hx hb hI rfl rfl h.1 dX11_pageOf_8 ?_
    replace h := h.2
    refine lv_aload_n hx hb dX11_pageOf_9 rfl (lv_at hl 0 rfl) ?_
    refine k_get (q0 := 0) (k := 28) (ci := 11) (v := .ref (ad 14)) hx hb hts inX11_pageOf_X11 hown hI rfl rfl (by decide) mX11_pageOf_fieldLink_74_StillTextModel_lineMany_I rfl rfl dX11_pageOf_10 ?_
    refine lv_iload_n hx hb dX11_pageOf_13 rfl (lv_at hl 2 rfl) ?_
    refine k_iald (q0 := 14) (t0 := 0) (n := 80) (f := σ 14) hx hb hI rfl rfl h.1 dX11_pageOf_14 ?_
    replace h := h.2
    refine lv_iadd hx hb dX11_pageOf_15 ?_
    refine lv_icmp_lt (tgt := 25) hx hb dX11_pageOf_16 (by decide) (fun c1 => ?_) (fun c1 => ?_)
    · replace h := h.1 c1
      refine lv_iload_n hx hb dX11_pageOf_25 rfl (lv_at hl 2 rfl) ?_
      refine lv_aload_n hx hb dX11_pageOf_26 rfl (lv_at hl 0 rfl) ?_
      refine k_get (q0 := 0) (k := 31) (ci := 11) (v := .int (σ 0 31)) hx hb hts inX11_pageOf_X11 hown hI rfl rfl (by decide) mX11_pageOf_fieldLink_83_StillTextModel_rows_I rfl rfl dX11_pageOf_27 ?_
      refine lv_idiv hx hb dX11_pageOf_30 h.1 ?_
      replace h := h.2
      exact k_iret hx hb hr hlocks hI h dX11_pageOf_31
    · replace h := h.2 c1
      refine lv_iinc (v := (x2 + nI 1)) (lv' := [(2, .int (x2 + nI 1)), (0, .ref (ad 0)), (1, .int x1)]) hx hb dX11_pageOf_19 hl (k := 2) rfl rfl (by decide) rfl (fun ls hl => ?_)
      refine lv_goto (tgt := 2) hx hb dX11_pageOf_22 (by decide) ?_
      exact ih _ _ _ _ _ h hI (lv_sub hl [1, 2, 0] rfl)
set_option maxHeartbeats 4000000 in
set_option maxRecDepth 100000 in
theorem c_X11_pageOf (σ : St) (x1 : Int32) (Q : Int32 → St → Prop) (h : wp_X11_pageOf σ x1 Q) : Ci l D (tyM cyI) [] [] (wM cyI ad) yX11_pageOf wsX11_pageOf r_X11_pageOf [.ref (ad 0), .int x1] σ Q := by
  refine k_metI (cc := cX11_pageOf) (maxL := 3) (ret := (some .int)) (by decide) rfl (Nat.le_of_ble_eq_true rfl) ?_
  intro p e s m below meth c A ls C hI hl
  obtain ⟨hx, hb, hr, hml, hown, hts, hlocks⟩ := id C
  have hl : lv_has ls 3 [(0, .ref (ad 0)), (1, .int x1)] := hl
  unfold wp_X11_pageOf at h
  refine lv_iconst (v := nI 0) hx hb dX11_pageOf_0 (by decide) ?_
  refine lv_istore_n (lv' := [(2, .int (nI 0)), (0, .ref (ad 0)), (1, .int x1)]) hx hb dX11_pageOf_1 rfl hl (by decide) rfl (fun ls hl => ?_)
  obtain ⟨k2, h⟩ := h
  exact t_X11_pageOf_2 C  k2 _ _ _ _ _ h hI (lv_sub hl [1, 2, 0] rfl)
theorem inX11_mark_X11 : ∀ w ∈ wsX110, w ∈ wsX11_mark := fun _ h => List.mem_cons_of_mem _ (List.mem_append_right _ (h))
theorem mX11_mark_fieldLink_136_StillTextModel_isFresh_Z : Cond.fieldLink RX11 136 "StillTextModel" "isFresh" "Z" ∈ wsX11_mark := List.mem_cons_of_mem _ (List.mem_append_left _ (List.mem_of_getElem? (i := 0) rfl))
theorem mX11_mark_fieldLink_118_StillTextModel_units_I : Cond.fieldLink RX11 118 "StillTextModel" "units" "I" ∈ wsX11_mark := List.mem_cons_of_mem _ (List.mem_append_left _ (List.mem_of_getElem? (i := 1) rfl))
theorem mX11_mark_fieldLink_139_StillTextModel_marks_I : Cond.fieldLink RX11 139 "StillTextModel" "marks" "I" ∈ wsX11_mark := List.mem_cons_of_mem _ (List.mem_append_left _ (List.mem_of_getElem? (i := 2) rfl))
theorem mX11_mark_fieldLink_89_StillTextModel_markUnit_I : Cond.fieldLink RX11 89 "StillTextModel" "markUnit" "[I" ∈ wsX11_mark := List.mem_cons_of_mem _ (List.mem_append_left _ (List.mem_of_getElem? (i := 3) rfl))
theorem mX11_mark_fieldLink_92_StillTextModel_markPage_I : Cond.fieldLink RX11 92 "StillTextModel" "markPage" "[I" ∈ wsX11_mark := List.mem_cons_of_mem _ (List.mem_append_left _ (List.mem_of_getElem? (i := 4) rfl))
set_option maxHeartbeats 4000000 in
set_option maxRecDepth 100000 in
theorem c_X11_mark (σ : St) (x1 : Int32) (Q : Int32 → St → Prop) (h : wp_X11_mark σ x1 Q) : Ci l D (tyM cyI) [] [] (wM cyI ad) yX11_mark wsX11_mark r_X11_mark [.ref (ad 0), .int x1] σ Q := by
  refine k_metI (cc := cX11_mark) (maxL := 2) (ret := (some .int)) (by decide) rfl (Nat.le_of_ble_eq_true rfl) ?_
  intro p e s m below meth c A ls C hI hl
  obtain ⟨hx, hb, hr, hml, hown, hts, hlocks⟩ := id C
  have hl : lv_has ls 2 [(0, .ref (ad 0)), (1, .int x1)] := hl
  unfold wp_X11_mark at h
  refine lv_aload_n hx hb dX11_mark_0 rfl (lv_at hl 0 rfl) ?_
  refine k_get (q0 := 0) (k := 25) (ci := 11) (v := .int (σ 0 25)) hx hb hts inX11_mark_X11 hown hI rfl rfl (by decide) mX11_mark_fieldLink_136_StillTextModel_isFresh_Z rfl rfl dX11_mark_1 ?_
  refine lv_if_eq (tgt := 28) hx hb dX11_mark_4 (by decide) (fun c1 => ?_) (fun c1 => ?_)
  · replace h := h.1 c1
    refine lv_iconst (v := (-1)) hx hb dX11_mark_28 (by decide) ?_
    exact k_iret hx hb hr hlocks hI h dX11_mark_29
  · replace h := h.2 c1
    refine lv_iload_n hx hb dX11_mark_7 rfl (lv_at hl 1 rfl) ?_
    refine lv_if_lt (tgt := 28) hx hb dX11_mark_8 (by decide) (fun c2 => ?_) (fun c2 => ?_)
    · replace h := h.1 c2
      refine lv_iconst (v := (-1)) hx hb dX11_mark_28 (by decide) ?_
      exact k_iret hx hb hr hlocks hI h dX11_mark_29
    · replace h := h.2 c2
      refine lv_iload_n hx hb dX11_mark_11 rfl (lv_at hl 1 rfl) ?_
      refine lv_aload_n hx hb dX11_mark_12 rfl (lv_at hl 0 rfl) ?_
      refine k_get (q0 := 0) (k := 0) (ci := 11) (v := .int (σ 0 0)) hx hb hts inX11_mark_X11 hown hI rfl rfl (by decide) mX11_mark_fieldLink_118_StillTextModel_units_I rfl rfl dX11_mark_13 ?_
      refine lv_icmp_ge (tgt := 28) hx hb dX11_mark_16 (by decide) (fun c3 => ?_) (fun c3 => ?_)
      · replace h := h.1 c3
        refine lv_iconst (v := (-1)) hx hb dX11_mark_28 (by decide) ?_
        exact k_iret hx hb hr hlocks hI h dX11_mark_29
      · replace h := h.2 c3
        refine lv_aload_n hx hb dX11_mark_19 rfl (lv_at hl 0 rfl) ?_
        refine k_get (q0 := 0) (k := 33) (ci := 11) (v := .int (σ 0 33)) hx hb hts inX11_mark_X11 hown hI rfl rfl (by decide) mX11_mark_fieldLink_139_StillTextModel_marks_I rfl rfl dX11_mark_20 ?_
        refine lv_bipush (v := nI 20) hx hb dX11_mark_23 (by decide) ?_
        refine lv_icmp_ne (tgt := 30) hx hb dX11_mark_25 (by decide) (fun c4 => ?_) (fun c4 => ?_)
        · replace h := h.1 c4
          refine lv_aload_n hx hb dX11_mark_30 rfl (lv_at hl 0 rfl) ?_
          refine k_get (q0 := 0) (k := 34) (ci := 11) (v := .ref (ad 17)) hx hb hts inX11_mark_X11 hown hI rfl rfl (by decide) mX11_mark_fieldLink_89_StillTextModel_markUnit_I rfl rfl dX11_mark_31 ?_
          refine lv_aload_n hx hb dX11_mark_34 rfl (lv_at hl 0 rfl) ?_
          refine k_get (q0 := 0) (k := 33) (ci := 11) (v := .int (σ 0 33)) hx hb hts inX11_mark_X11 hown hI rfl rfl (by decide) mX11_mark_fieldLink_139_StillTextModel_marks_I rfl rfl dX11_mark_35 ?_
          refine lv_iload_n hx hb dX11_mark_38 rfl (lv_at hl 1 rfl) ?_
          refine k_iast (q0 := 17) (t0 := 0) (n := 20) (σ' := up2 σ 17 (σ 0 33).toNatClampNeg x1) hx hb hI rfl rfl h.1 (wsM_17 _ _ _ _ _) dX11_mark_39 (fun H locs hI => ?_)
          replace h := h.2
          refine lv_aload_n hx hb dX11_mark_40 rfl (lv_at hl 0 rfl) ?_
          refine k_get (q0 := 0) (k := 35) (ci := 11) (v := .ref (ad 18)) hx hb hts inX11_mark_X11 hown hI rfl rfl (by decide) mX11_mark_fieldLink_92_StillTextModel_markPage_I rfl rfl dX11_mark_41 ?_
          refine lv_aload_n hx hb dX11_mark_44 rfl (lv_at hl 0 rfl) ?_
          refine k_get (q0 := 0) (k := 33) (ci := 11) (v := .int (σ 0 33)) hx hb hts inX11_mark_X11 hown hI rfl rfl (by decide) mX11_mark_fieldLink_139_StillTextModel_marks_I rfl rfl dX11_mark_45 ?_
          refine lv_aload_n hx hb dX11_mark_48 rfl (lv_at hl 0 rfl) ?_
          refine lv_iload_n hx hb dX11_mark_49 rfl (lv_at hl 1 rfl) ?_
          refine k_cVi (As := [.int x1]) (rest := [.int (σ 0 33), .ref (ad 18)]) C (c_X11_pageOf (up2 σ 17 (σ 0 33).toNatClampNeg x1) x1 _ h) (cwV 1 hts gX11_mark_X11_pageOf rfl rfl rfl hdX11_pageOf ⟨Nat.le_of_ble_eq_true rfl, Nat.le_of_ble_eq_true rfl⟩) hI 0 rfl rfl rfl hl.1 rfl (Nat.le_of_ble_eq_true rfl) dX11_mark_50 ⟨Nat.le_of_ble_eq_true rfl, Nat.le_of_ble_eq_true rfl⟩ (fun r5 σ6 H locs h hI => ?_)
          refine k_iast (q0 := 18) (t0 := 0) (n := 20) (σ' := up2 σ6 18 (σ 0 33).toNatClampNeg r5) hx hb hI rfl rfl h.1 (wsM_18 _ _ _ _ _) dX11_mark_53 (fun H locs hI => ?_)
          replace h := h.2
          refine lv_aload_n hx hb dX11_mark_54 rfl (lv_at hl 0 rfl) ?_
          refine lv_dup hx hb dX11_mark_55 rfl ?_
          refine k_get (q0 := 0) (k := 33) (ci := 11) (v := .int (σ6 0 33)) hx hb hts inX11_mark_X11 hown hI rfl rfl (by decide) mX11_mark_fieldLink_139_StillTextModel_marks_I rfl rfl dX11_mark_56 ?_
          refine lv_iconst (v := nI 1) hx hb dX11_mark_59 (by decide) ?_
          refine lv_iadd hx hb dX11_mark_60 ?_
          refine k_put (q0 := 0) (k := 33) (ci := 11) (v := .int ((σ6 0 33) + (nI 1))) (σ' := up2 (up2 σ6 18 (σ 0 33).toNatClampNeg r5) 0 33 ((σ6 0 33) + (nI 1))) hx hb hts inX11_mark_X11 tyX11 tyX11_ok nmX11 hown hI rfl rfl (by decide) mX11_mark_fieldLink_139_StillTextModel_marks_I rfl rfl rfl rfl (Nat.le_of_ble_eq_true rfl) (wsM_0_33 _ _ _ _) dX11_mark_61 (fun H locs hI => ?_)
          refine lv_aload_n hx hb dX11_mark_64 rfl (lv_at hl 0 rfl) ?_
          refine k_get (q0 := 0) (k := 33) (ci := 11) (v := .int ((σ6 0 33) + (nI 1))) hx hb hts inX11_mark_X11 hown hI rfl rfl (by decide) mX11_mark_fieldLink_139_StillTextModel_marks_I rfl rfl dX11_mark_65 ?_
          refine lv_iconst (v := nI 1) hx hb dX11_mark_68 (by decide) ?_
          refine lv_isub hx hb dX11_mark_69 ?_
          exact k_iret hx hb hr hlocks hI h dX11_mark_70
        · replace h := h.2 c4
          refine lv_iconst (v := (-1)) hx hb dX11_mark_28 (by decide) ?_
          exact k_iret hx hb hr hlocks hI h dX11_mark_29
theorem inX11_marked_X11 : ∀ w ∈ wsX110, w ∈ wsX11_marked := fun _ h => List.mem_cons_of_mem _ (List.mem_append_right _ (h))
theorem mX11_marked_fieldLink_139_StillTextModel_marks_I : Cond.fieldLink RX11 139 "StillTextModel" "marks" "I" ∈ wsX11_marked := List.mem_cons_of_mem _ (List.mem_append_left _ (List.mem_of_getElem? (i := 0) rfl))
theorem mX11_marked_fieldLink_136_StillTextModel_isFresh_Z : Cond.fieldLink RX11 136 "StillTextModel" "isFresh" "Z" ∈ wsX11_marked := List.mem_cons_of_mem _ (List.mem_append_left _ (List.mem_of_getElem? (i := 3) rfl))
theorem mX11_marked_fieldLink_89_StillTextModel_markUnit_I : Cond.fieldLink RX11 89 "StillTextModel" "markUnit" "[I" ∈ wsX11_marked := List.mem_cons_of_mem _ (List.mem_append_left _ (List.mem_of_getElem? (i := 1) rfl))
theorem mX11_marked_fieldLink_92_StillTextModel_markPage_I : Cond.fieldLink RX11 92 "StillTextModel" "markPage" "[I" ∈ wsX11_marked := List.mem_cons_of_mem _ (List.mem_append_left _ (List.mem_of_getElem? (i := 2) rfl))
set_option maxHeartbeats 4000000 in
set_option maxRecDepth 100000 in
theorem c_X11_marked (σ : St) (x1 x2 : Int32) (Q : Int32 → St → Prop) (h : wp_X11_marked σ x1 x2 Q) : Ci l D (tyM cyI) [] [] (wM cyI ad) yX11_marked wsX11_marked r_X11_marked [.ref (ad 0), .int x1, .int x2] σ Q := by
  refine k_metI (cc := cX11_marked) (maxL := 3) (ret := (some .int)) (by decide) rfl (Nat.le_of_ble_eq_true rfl) ?_
  intro p e s m below meth c A ls C hI hl
  obtain ⟨hx, hb, hr, hml, hown, hts, hlocks⟩ := id C
  have hl : lv_has ls 3 [(0, .ref (ad 0)), (1, .int x1), (2, .int x2)] := hl
  unfold wp_X11_marked at h
  refine lv_iload_n hx hb dX11_marked_0 rfl (lv_at hl 1 rfl) ?_
  refine lv_if_lt (tgt := 21) hx hb dX11_marked_1 (by decide) (fun c1 => ?_) (fun c1 => ?_)
  · replace h := h.1 c1
    refine lv_iconst (v := (-1)) hx hb dX11_marked_21 (by decide) ?_
    exact k_iret hx hb hr hlocks hI h dX11_marked_22
  · replace h := h.2 c1
    refine lv_iload_n hx hb dX11_marked_4 rfl (lv_at hl 1 rfl) ?_
    refine lv_aload_n hx hb dX11_marked_5 rfl (lv_at hl 0 rfl) ?_
    refine k_get (q0 := 0) (k := 33) (ci := 11) (v := .int (σ 0 33)) hx hb hts inX11_marked_X11 hown hI rfl rfl (by decide) mX11_marked_fieldLink_139_StillTextModel_marks_I rfl rfl dX11_marked_6 ?_
    refine lv_icmp_ge (tgt := 21) hx hb dX11_marked_9 (by decide) (fun c2 => ?_) (fun c2 => ?_)
    · replace h := h.1 c2
      refine lv_iconst (v := (-1)) hx hb dX11_marked_21 (by decide) ?_
      exact k_iret hx hb hr hlocks hI h dX11_marked_22
    · replace h := h.2 c2
      refine lv_iload_n hx hb dX11_marked_12 rfl (lv_at hl 2 rfl) ?_
      refine lv_if_lt (tgt := 21) hx hb dX11_marked_13 (by decide) (fun c3 => ?_) (fun c3 => ?_)
      · replace h := h.1 c3
        refine lv_iconst (v := (-1)) hx hb dX11_marked_21 (by decide) ?_
        exact k_iret hx hb hr hlocks hI h dX11_marked_22
      · replace h := h.2 c3
        refine lv_iload_n hx hb dX11_marked_16 rfl (lv_at hl 2 rfl) ?_
        refine lv_iconst (v := nI 2) hx hb dX11_marked_17 (by decide) ?_
        refine lv_icmp_le (tgt := 23) hx hb dX11_marked_18 (by decide) (fun c4 => ?_) (fun c4 => ?_)
        · replace h := h.1 c4
          refine lv_iload_n hx hb dX11_marked_23 rfl (lv_at hl 2 rfl) ?_
          refine lv_if_ne (tgt := 34) hx hb dX11_marked_24 (by decide) (fun c5 => ?_) (fun c5 => ?_)
          · replace h := h.1 c5
            refine lv_iload_n hx hb dX11_marked_34 rfl (lv_at hl 2 rfl) ?_
            refine lv_iconst (v := nI 1) hx hb dX11_marked_35 (by decide) ?_
            refine lv_icmp_ne (tgt := 46) hx hb dX11_marked_36 (by decide) (fun c6 => ?_) (fun c6 => ?_)
            · replace h := h.1 c6
              refine lv_aload_n hx hb dX11_marked_46 rfl (lv_at hl 0 rfl) ?_
              refine k_get (q0 := 0) (k := 25) (ci := 11) (v := .int (σ 0 25)) hx hb hts inX11_marked_X11 hown hI rfl rfl (by decide) mX11_marked_fieldLink_136_StillTextModel_isFresh_Z rfl rfl dX11_marked_47 ?_
              refine lv_if_eq (tgt := 73) hx hb dX11_marked_50 (by decide) (fun c7 => ?_) (fun c7 => ?_)
              · replace h := h.1 c7
                refine lv_sipush (v := (-1000)) hx hb dX11_marked_73 (by decide) ?_
                exact k_iret hx hb hr hlocks hI h dX11_marked_76
              · replace h := h.2 c7
                refine lv_aload_n hx hb dX11_marked_53 rfl (lv_at hl 0 rfl) ?_
                refine lv_aload_n hx hb dX11_marked_54 rfl (lv_at hl 0 rfl) ?_
                refine k_get (q0 := 0) (k := 34) (ci := 11) (v := .ref (ad 17)) hx hb hts inX11_marked_X11 hown hI rfl rfl (by decide) mX11_marked_fieldLink_89_StillTextModel_markUnit_I rfl rfl dX11_marked_55 ?_
                refine lv_iload_n hx hb dX11_marked_58 rfl (lv_at hl 1 rfl) ?_
                refine k_iald (q0 := 17) (t0 := 0) (n := 20) (f := σ 17) hx hb hI rfl rfl h.1 dX11_marked_59 ?_
                replace h := h.2
                refine k_cVi (As := [.int (σ 17 x1.toNatClampNeg)]) (rest := []) C (c_X11_pageOf σ (σ 17 x1.toNatClampNeg) _ h) (cwV 1 hts gX11_marked_X11_pageOf rfl rfl rfl hdX11_pageOf ⟨Nat.le_of_ble_eq_true rfl, Nat.le_of_ble_eq_true rfl⟩) hI 0 rfl rfl rfl hl.1 rfl (Nat.le_of_ble_eq_true rfl) dX11_marked_60 ⟨Nat.le_of_ble_eq_true rfl, Nat.le_of_ble_eq_true rfl⟩ (fun r8 σ9 H locs h hI => ?_)
                refine lv_aload_n hx hb dX11_marked_63 rfl (lv_at hl 0 rfl) ?_
                refine k_get (q0 := 0) (k := 35) (ci := 11) (v := .ref (ad 18)) hx hb hts inX11_marked_X11 hown hI rfl rfl (by decide) mX11_marked_fieldLink_92_StillTextModel_markPage_I rfl rfl dX11_marked_64 ?_
                refine lv_iload_n hx hb dX11_marked_67 rfl (lv_at hl 1 rfl) ?_
                refine k_iald (q0 := 18) (t0 := 0) (n := 20) (f := σ9 18) hx hb hI rfl rfl h.1 dX11_marked_68 ?_
                replace h := h.2
                refine lv_isub hx hb dX11_marked_69 ?_
                refine lv_goto (tgt := 76) hx hb dX11_marked_70 (by decide) ?_
                exact k_iret hx hb hr hlocks hI h dX11_marked_76
            · replace h := h.2 c6
              refine lv_aload_n hx hb dX11_marked_39 rfl (lv_at hl 0 rfl) ?_
              refine k_get (q0 := 0) (k := 35) (ci := 11) (v := .ref (ad 18)) hx hb hts inX11_marked_X11 hown hI rfl rfl (by decide) mX11_marked_fieldLink_92_StillTextModel_markPage_I rfl rfl dX11_marked_40 ?_
              refine lv_iload_n hx hb dX11_marked_43 rfl (lv_at hl 1 rfl) ?_
              refine k_iald (q0 := 18) (t0 := 0) (n := 20) (f := σ 18) hx hb hI rfl rfl h.1 dX11_marked_44 ?_
              replace h := h.2
              exact k_iret hx hb hr hlocks hI h dX11_marked_45
          · replace h := h.2 c5
            refine lv_aload_n hx hb dX11_marked_27 rfl (lv_at hl 0 rfl) ?_
            refine k_get (q0 := 0) (k := 34) (ci := 11) (v := .ref (ad 17)) hx hb hts inX11_marked_X11 hown hI rfl rfl (by decide) mX11_marked_fieldLink_89_StillTextModel_markUnit_I rfl rfl dX11_marked_28 ?_
            refine lv_iload_n hx hb dX11_marked_31 rfl (lv_at hl 1 rfl) ?_
            refine k_iald (q0 := 17) (t0 := 0) (n := 20) (f := σ 17) hx hb hI rfl rfl h.1 dX11_marked_32 ?_
            replace h := h.2
            exact k_iret hx hb hr hlocks hI h dX11_marked_33
        · replace h := h.2 c4
          refine lv_iconst (v := (-1)) hx hb dX11_marked_21 (by decide) ?_
          exact k_iret hx hb hr hlocks hI h dX11_marked_22
theorem inX11_neighbourLong_X11 : ∀ w ∈ wsX110, w ∈ wsX11_neighbourLong := fun _ h => List.mem_cons_of_mem _ (List.mem_append_right _ (h))
theorem mX11_neighbourLong_fieldLink_182_StillTextModel_bestLong_I : Cond.fieldLink RX11 182 "StillTextModel" "bestLong" "I" ∈ wsX11_neighbourLong := List.mem_cons_of_mem _ (List.mem_append_left _ (List.mem_of_getElem? (i := 0) rfl))
theorem mX11_neighbourLong_fieldLink_185_StillTextModel_now_I : Cond.fieldLink RX11 185 "StillTextModel" "now" "I" ∈ wsX11_neighbourLong := List.mem_cons_of_mem _ (List.mem_append_left _ (List.mem_of_getElem? (i := 1) rfl))
set_option maxHeartbeats 4000000 in
set_option maxRecDepth 100000 in
theorem c_X11_neighbourLong (σ : St) (Q : Int32 → St → Prop) (h : wp_X11_neighbourLong σ  Q) : Ci l D (tyM cyI) [] [] (wM cyI ad) yX11_neighbourLong wsX11_neighbourLong r_X11_neighbourLong [.ref (ad 0)] σ Q := by
  refine k_metI (cc := cX11_neighbourLong) (maxL := 1) (ret := (some .int)) (by decide) rfl (Nat.le_of_ble_eq_true rfl) ?_
  intro p e s m below meth c A ls C hI hl
  obtain ⟨hx, hb, hr, hml, hown, hts, hlocks⟩ := id C
  have hl : lv_has ls 1 [(0, .ref (ad 0))] := hl
  unfold wp_X11_neighbourLong at h
  refine lv_aload_n hx hb dX11_neighbourLong_0 rfl (lv_at hl 0 rfl) ?_
  refine k_get (q0 := 0) (k := 37) (ci := 11) (v := .int (σ 0 37)) hx hb hts inX11_neighbourLong_X11 hown hI rfl rfl (by decide) mX11_neighbourLong_fieldLink_182_StillTextModel_bestLong_I rfl rfl dX11_neighbourLong_1 ?_
  refine lv_aload_n hx hb dX11_neighbourLong_4 rfl (lv_at hl 0 rfl) ?_
  refine k_get (q0 := 0) (k := 43) (ci := 11) (v := .int (σ 0 43)) hx hb hts inX11_neighbourLong_X11 hown hI rfl rfl (by decide) mX11_neighbourLong_fieldLink_185_StillTextModel_now_I rfl rfl dX11_neighbourLong_5 ?_
  refine lv_if_ne (tgt := 15) hx hb dX11_neighbourLong_8 (by decide) (fun c1 => ?_) (fun c1 => ?_)
  · replace h := h.1 c1
    refine lv_aload_n hx hb dX11_neighbourLong_15 rfl (lv_at hl 0 rfl) ?_
    refine k_get (q0 := 0) (k := 43) (ci := 11) (v := .int (σ 0 43)) hx hb hts inX11_neighbourLong_X11 hown hI rfl rfl (by decide) mX11_neighbourLong_fieldLink_185_StillTextModel_now_I rfl rfl dX11_neighbourLong_16 ?_
    refine lv_iconst (v := nI 1) hx hb dX11_neighbourLong_19 (by decide) ?_
    refine lv_icmp_ne (tgt := 27) hx hb dX11_neighbourLong_20 (by decide) (fun c2 => ?_) (fun c2 => ?_)
    · replace h := h.1 c2
      refine lv_iconst (v := nI 0) hx hb dX11_neighbourLong_27 (by decide) ?_
      refine lv_iadd hx hb dX11_neighbourLong_28 ?_
      exact k_iret hx hb hr hlocks hI h dX11_neighbourLong_29
    · replace h := h.2 c2
      refine lv_iconst (v := (-1)) hx hb dX11_neighbourLong_23 (by decide) ?_
      refine lv_goto (tgt := 28) hx hb dX11_neighbourLong_24 (by decide) ?_
      refine lv_iadd hx hb dX11_neighbourLong_28 ?_
      exact k_iret hx hb hr hlocks hI h dX11_neighbourLong_29
  · replace h := h.2 c1
    refine lv_iconst (v := nI 1) hx hb dX11_neighbourLong_11 (by decide) ?_
    refine lv_goto (tgt := 28) hx hb dX11_neighbourLong_12 (by decide) ?_
    refine lv_iadd hx hb dX11_neighbourLong_28 ?_
    exact k_iret hx hb hr hlocks hI h dX11_neighbourLong_29
theorem inX11_neighbourSpread_X11 : ∀ w ∈ wsX110, w ∈ wsX11_neighbourSpread := fun _ h => List.mem_cons_of_mem _ (List.mem_append_right _ (h))
theorem mX11_neighbourSpread_fieldLink_188_StillTextModel_bestSpread_I : Cond.fieldLink RX11 188 "StillTextModel" "bestSpread" "I" ∈ wsX11_neighbourSpread := List.mem_cons_of_mem _ (List.mem_append_left _ (List.mem_of_getElem? (i := 0) rfl))
theorem mX11_neighbourSpread_fieldLink_185_StillTextModel_now_I : Cond.fieldLink RX11 185 "StillTextModel" "now" "I" ∈ wsX11_neighbourSpread := List.mem_cons_of_mem _ (List.mem_append_left _ (List.mem_of_getElem? (i := 1) rfl))
set_option maxHeartbeats 4000000 in
set_option maxRecDepth 100000 in
theorem c_X11_neighbourSpread (σ : St) (Q : Int32 → St → Prop) (h : wp_X11_neighbourSpread σ  Q) : Ci l D (tyM cyI) [] [] (wM cyI ad) yX11_neighbourSpread wsX11_neighbourSpread r_X11_neighbourSpread [.ref (ad 0)] σ Q := by
  refine k_metI (cc := cX11_neighbourSpread) (maxL := 1) (ret := (some .int)) (by decide) rfl (Nat.le_of_ble_eq_true rfl) ?_
  intro p e s m below meth c A ls C hI hl
  obtain ⟨hx, hb, hr, hml, hown, hts, hlocks⟩ := id C
  have hl : lv_has ls 1 [(0, .ref (ad 0))] := hl
  unfold wp_X11_neighbourSpread at h
  refine lv_aload_n hx hb dX11_neighbourSpread_0 rfl (lv_at hl 0 rfl) ?_
  refine k_get (q0 := 0) (k := 38) (ci := 11) (v := .int (σ 0 38)) hx hb hts inX11_neighbourSpread_X11 hown hI rfl rfl (by decide) mX11_neighbourSpread_fieldLink_188_StillTextModel_bestSpread_I rfl rfl dX11_neighbourSpread_1 ?_
  refine lv_aload_n hx hb dX11_neighbourSpread_4 rfl (lv_at hl 0 rfl) ?_
  refine k_get (q0 := 0) (k := 43) (ci := 11) (v := .int (σ 0 43)) hx hb hts inX11_neighbourSpread_X11 hown hI rfl rfl (by decide) mX11_neighbourSpread_fieldLink_185_StillTextModel_now_I rfl rfl dX11_neighbourSpread_5 ?_
  refine lv_iconst (v := nI 2) hx hb dX11_neighbourSpread_8 (by decide) ?_
  refine lv_icmp_ne (tgt := 16) hx hb dX11_neighbourSpread_9 (by decide) (fun c1 => ?_) (fun c1 => ?_)
  · replace h := h.1 c1
    refine lv_aload_n hx hb dX11_neighbourSpread_16 rfl (lv_at hl 0 rfl) ?_
    refine k_get (q0 := 0) (k := 43) (ci := 11) (v := .int (σ 0 43)) hx hb hts inX11_neighbourSpread_X11 hown hI rfl rfl (by decide) mX11_neighbourSpread_fieldLink_185_StillTextModel_now_I rfl rfl dX11_neighbourSpread_17 ?_
    refine lv_iconst (v := nI 3) hx hb dX11_neighbourSpread_20 (by decide) ?_
    refine lv_icmp_ne (tgt := 28) hx hb dX11_neighbourSpread_21 (by decide) (fun c2 => ?_) (fun c2 => ?_)
    · replace h := h.1 c2
      refine lv_iconst (v := nI 0) hx hb dX11_neighbourSpread_28 (by decide) ?_
      refine lv_iadd hx hb dX11_neighbourSpread_29 ?_
      exact k_iret hx hb hr hlocks hI h dX11_neighbourSpread_30
    · replace h := h.2 c2
      refine lv_iconst (v := (-1)) hx hb dX11_neighbourSpread_24 (by decide) ?_
      refine lv_goto (tgt := 29) hx hb dX11_neighbourSpread_25 (by decide) ?_
      refine lv_iadd hx hb dX11_neighbourSpread_29 ?_
      exact k_iret hx hb hr hlocks hI h dX11_neighbourSpread_30
  · replace h := h.2 c1
    refine lv_iconst (v := nI 1) hx hb dX11_neighbourSpread_12 (by decide) ?_
    refine lv_goto (tgt := 29) hx hb dX11_neighbourSpread_13 (by decide) ?_
    refine lv_iadd hx hb dX11_neighbourSpread_29 ?_
    exact k_iret hx hb hr hlocks hI h dX11_neighbourSpread_30
theorem inX11_finds_X11 : ∀ w ∈ wsX110, w ∈ wsX11_finds := fun _ h => List.mem_cons_of_mem _ (List.mem_append_right _ (h))
theorem mX11_finds_fieldLink_185_StillTextModel_now_I : Cond.fieldLink RX11 185 "StillTextModel" "now" "I" ∈ wsX11_finds := List.mem_cons_of_mem _ (List.mem_append_left _ (List.mem_of_getElem? (i := 0) rfl))
theorem mX11_finds_fieldLink_198_StillTextModel_ahead_I : Cond.fieldLink RX11 198 "StillTextModel" "ahead" "I" ∈ wsX11_finds := List.mem_cons_of_mem _ (List.mem_append_left _ (List.mem_of_getElem? (i := 1) rfl))
set_option maxHeartbeats 4000000 in
set_option maxRecDepth 100000 in
theorem t_X11_finds_5 {p : Program} {e : Env} {s : State} {m : MethodId} {args : Array Value} {below : List Frame} {meth : Method} {c : Code} {A : Nat → Prop} {x1 : Int32}  {Q : St → Prop} (C : Cx p s m args meth c cX11_finds 2 none RX11 wsX11_finds) :
    ∀ (n : Nat) (σ : St) (H : Heap) (locs : List Loc) (ls : Array Slot), wpl_X11_finds_5 x1 Q n σ → Iw D (tyM cyI) [] [] (wM cyI ad) A s H locs σ → lv_has ls 2 [(0, .ref (ad 0)), (1, .int x1)] → W p l e r_X11_finds s m args below meth c H locs 0 0 (MQ below (va_Qv Q (Kq D (tyM cyI) (wM cyI ad) A) A) args s 0 0 A) (F0 m 5 ls []) := by
  obtain ⟨hx, hb, hr, hml, hown, hts, hlocks⟩ := id C
  intro n
  induction n with
  | zero =>
    intro _  _ _ _ h
    exact h.elim
  | succ n ih =>
    intro σ  H locs ls h hI hl
    unfold wpl_X11_finds_5 at h
    refine lv_aload_n hx hb dX11_finds_5 rfl (lv_at hl 0 rfl) ?_
    refine k_get (q0 := 0) (k := 43) (ci := 11) (v := .int (σ 0 43)) hx hb hts inX11_finds_X11 hown hI rfl rfl (by decide) mX11_finds_fieldLink_185_StillTextModel_now_I rfl rfl dX11_finds_6 ?_
    refine lv_iconst (v := nI 4) hx hb dX11_finds_9 (by decide) ?_
    refine lv_icmp_ge (tgt := 51) hx hb dX11_finds_10 (by decide) (fun c1 => ?_) (fun c1 => ?_)
    · replace h := h.1 c1
      refine lv_aload_n hx hb dX11_finds_51 rfl (lv_at hl 0 rfl) ?_
      refine lv_iconst (v := nI 0) hx hb dX11_finds_52 (by decide) ?_
      refine k_put (q0 := 0) (k := 40) (ci := 11) (v := .int (nI 0)) (σ' := up2 σ 0 40 (nI 0)) hx hb hts inX11_finds_X11 tyX11 tyX11_ok nmX11 hown hI rfl rfl (by decide) mX11_finds_fieldLink_198_StillTextModel_ahead_I rfl rfl rfl rfl (Nat.le_of_ble_eq_true rfl) (wsM_0_40 _ _ _ _) dX11_finds_53 (fun H locs hI => ?_)
      exact k_vret hx hb hr hlocks hI h dX11_finds_56
    · replace h := h.2 c1
      refine lv_aload_n hx hb dX11_finds_13 rfl (lv_at hl 0 rfl) ?_
      refine k_cVi (As := []) (rest := []) C (c_X11_neighbourLong σ  _ h) (cwV 0 hts gX11_finds_X11_neighbourLong rfl rfl rfl hdX11_neighbourLong ⟨Nat.le_of_ble_eq_true rfl, Nat.le_of_ble_eq_true rfl⟩) hI 0 rfl rfl rfl hl.1 rfl (Nat.le_of_ble_eq_true rfl) dX11_finds_14 ⟨Nat.le_of_ble_eq_true rfl, Nat.le_of_ble_eq_true rfl⟩ (fun r2 σ3 H locs h hI => ?_)
      refine lv_iconst (v := nI 0) hx hb dX11_finds_17 (by decide) ?_
      refine lv_bipush (v := nI 10) hx hb dX11_finds_18 (by decide) ?_
      refine k_cSi (As := [.int r2, .int (nI 0), .int (nI 10)]) (rest := []) C (c_X11_isIn σ3 r2 (nI 0) (nI 10) _ h) (va_cwS 3 hts gX11_finds_X11_isIn rfl rfl rfl hdX11_isIn ⟨Nat.le_of_ble_eq_true rfl, Nat.le_of_ble_eq_true rfl⟩) hI rfl hl.1 rfl (Nat.le_of_ble_eq_true rfl) dX11_finds_20 ⟨Nat.le_of_ble_eq_true rfl, Nat.le_of_ble_eq_true rfl⟩ (fun r4 σ5 H locs h hI => ?_)
      refine lv_if_eq (tgt := 38) hx hb dX11_finds_23 (by decide) (fun c6 => ?_) (fun c6 => ?_)
      · replace h := h.1 c6
        refine lv_aload_n hx hb dX11_finds_38 rfl (lv_at hl 0 rfl) ?_
        refine lv_dup hx hb dX11_finds_39 rfl ?_
        refine k_get (q0 := 0) (k := 43) (ci := 11) (v := .int (σ5 0 43)) hx hb hts inX11_finds_X11 hown hI rfl rfl (by decide) mX11_finds_fieldLink_185_StillTextModel_now_I rfl rfl dX11_finds_40 ?_
        refine lv_iconst (v := nI 1) hx hb dX11_finds_43 (by decide) ?_
        refine lv_iadd hx hb dX11_finds_44 ?_
        refine k_put (q0 := 0) (k := 43) (ci := 11) (v := .int ((σ5 0 43) + (nI 1))) (σ' := up2 σ5 0 43 ((σ5 0 43) + (nI 1))) hx hb hts inX11_finds_X11 tyX11 tyX11_ok nmX11 hown hI rfl rfl (by decide) mX11_finds_fieldLink_185_StillTextModel_now_I rfl rfl rfl rfl (Nat.le_of_ble_eq_true rfl) (wsM_0_43 _ _ _ _) dX11_finds_45 (fun H locs hI => ?_)
        refine lv_goto (tgt := 5) hx hb dX11_finds_48 (by decide) ?_
        exact ih _  _ _ _ h hI (lv_sub hl [0, 1] rfl)
      · replace h := h.2 c6
        refine lv_aload_n hx hb dX11_finds_26 rfl (lv_at hl 0 rfl) ?_
        refine k_cVi (As := []) (rest := []) C (c_X11_neighbourSpread σ5  _ h) (cwV 0 hts gX11_finds_X11_neighbourSpread rfl rfl rfl hdX11_neighbourSpread ⟨Nat.le_of_ble_eq_true rfl, Nat.le_of_ble_eq_true rfl⟩) hI 0 rfl rfl rfl hl.1 rfl (Nat.le_of_ble_eq_true rfl) dX11_finds_27 ⟨Nat.le_of_ble_eq_true rfl, Nat.le_of_ble_eq_true rfl⟩ (fun r7 σ8 H locs h hI => ?_)
        refine lv_iconst (v := nI 0) hx hb dX11_finds_30 (by decide) ?_
        refine lv_iconst (v := nI 2) hx hb dX11_finds_31 (by decide) ?_
        refine k_cSi (As := [.int r7, .int (nI 0), .int (nI 2)]) (rest := []) C (c_X11_isIn σ8 r7 (nI 0) (nI 2) _ h) (va_cwS 3 hts gX11_finds_X11_isIn rfl rfl rfl hdX11_isIn ⟨Nat.le_of_ble_eq_true rfl, Nat.le_of_ble_eq_true rfl⟩) hI rfl hl.1 rfl (Nat.le_of_ble_eq_true rfl) dX11_finds_32 ⟨Nat.le_of_ble_eq_true rfl, Nat.le_of_ble_eq_true rfl⟩ (fun r9 σ10 H locs h hI => ?_)
        refine lv_if_ne (tgt := 51) hx hb dX11_finds_35 (by decide) (fun c11 => ?_) (fun c11 => ?_)
        · replace h := h.1 c11
          refine lv_aload_n hx hb dX11_finds_51 rfl (lv_at hl 0 rfl) ?_
          refine lv_iconst (v := nI 0) hx hb dX11_finds_52 (by decide) ?_
          refine k_put (q0 := 0) (k := 40) (ci := 11) (v := .int (nI 0)) (σ' := up2 σ10 0 40 (nI 0)) hx hb hts inX11_finds_X11 tyX11 tyX11_ok nmX11 hown hI rfl rfl (by decide) mX11_finds_fieldLink_198_StillTextModel_ahead_I rfl rfl rfl rfl (Nat.le_of_ble_eq_true rfl) (wsM_0_40 _ _ _ _) dX11_finds_53 (fun H locs hI => ?_)
          exact k_vret hx hb hr hlocks hI h dX11_finds_56
        · replace h := h.2 c11
          refine lv_aload_n hx hb dX11_finds_38 rfl (lv_at hl 0 rfl) ?_
          refine lv_dup hx hb dX11_finds_39 rfl ?_
          refine k_get (q0 := 0) (k := 43) (ci := 11) (v := .int (σ10 0 43)) hx hb hts inX11_finds_X11 hown hI rfl rfl (by decide) mX11_finds_fieldLink_185_StillTextModel_now_I rfl rfl dX11_finds_40 ?_
          refine lv_iconst (v := nI 1) hx hb dX11_finds_43 (by decide) ?_
          refine lv_iadd hx hb dX11_finds_44 ?_
          refine k_put (q0 := 0) (k := 43) (ci := 11) (v := .int ((σ10 0 43) + (nI 1))) (σ' := up2 σ10 0 43 ((σ10 0 43) + (nI 1))) hx hb hts inX11_finds_X11 tyX11 tyX11_ok nmX11 hown hI rfl rfl (by decide) mX11_finds_fieldLink_185_StillTextModel_now_I rfl rfl rfl rfl (Nat.le_of_ble_eq_true rfl) (wsM_0_43 _ _ _ _) dX11_finds_45 (fun H locs hI => ?_)
          refine lv_goto (tgt := 5) hx hb dX11_finds_48 (by decide) ?_
          exact ih _  _ _ _ h hI (lv_sub hl [0, 1] rfl)
set_option maxHeartbeats 4000000 in
set_option maxRecDepth 100000 in
theorem c_X11_finds (σ : St) (x1 : Int32) (Q : St → Prop) (h : wp_X11_finds σ x1 Q) : Cv l D (tyM cyI) [] [] (wM cyI ad) yX11_finds wsX11_finds r_X11_finds [.ref (ad 0), .int x1] σ Q := by
  refine k_metV (cc := cX11_finds) (maxL := 2) (ret := none) (by decide) rfl (Nat.le_of_ble_eq_true rfl) ?_
  intro p e s m below meth c A ls C hI hl
  obtain ⟨hx, hb, hr, hml, hown, hts, hlocks⟩ := id C
  have hl : lv_has ls 2 [(0, .ref (ad 0)), (1, .int x1)] := hl
  unfold wp_X11_finds at h
  refine lv_aload_n hx hb dX11_finds_0 rfl (lv_at hl 0 rfl) ?_
  refine lv_iload_n hx hb dX11_finds_1 rfl (lv_at hl 1 rfl) ?_
  refine k_put (q0 := 0) (k := 43) (ci := 11) (v := .int x1) (σ' := up2 σ 0 43 x1) hx hb hts inX11_finds_X11 tyX11 tyX11_ok nmX11 hown hI rfl rfl (by decide) mX11_finds_fieldLink_185_StillTextModel_now_I rfl rfl rfl rfl (Nat.le_of_ble_eq_true rfl) (wsM_0_43 _ _ _ _) dX11_finds_2 (fun H locs hI => ?_)
  obtain ⟨k12, h⟩ := h
  exact t_X11_finds_5 C  k12 _  _ _ _ h hI (lv_sub hl [0, 1] rfl)
theorem inX11_test_X11 : ∀ w ∈ wsX110, w ∈ wsX11_test := fun _ h => List.mem_cons_of_mem _ (List.mem_append_right _ (h))
theorem mX11_test_fieldLink_201_StillTextModel_hasTests_Z : Cond.fieldLink RX11 201 "StillTextModel" "hasTests" "Z" ∈ wsX11_test := List.mem_cons_of_mem _ (List.mem_append_left _ (List.mem_of_getElem? (i := 0) rfl))
theorem mX11_test_fieldLink_182_StillTextModel_bestLong_I : Cond.fieldLink RX11 182 "StillTextModel" "bestLong" "I" ∈ wsX11_test := List.mem_cons_of_mem _ (List.mem_append_left _ (List.mem_of_getElem? (i := 1) rfl))
theorem mX11_test_fieldLink_188_StillTextModel_bestSpread_I : Cond.fieldLink RX11 188 "StillTextModel" "bestSpread" "I" ∈ wsX11_test := List.mem_cons_of_mem _ (List.mem_append_left _ (List.mem_of_getElem? (i := 2) rfl))
theorem mX11_test_fieldLink_204_StillTextModel_lead_I : Cond.fieldLink RX11 204 "StillTextModel" "lead" "I" ∈ wsX11_test := List.mem_cons_of_mem _ (List.mem_append_left _ (List.mem_of_getElem? (i := 3) rfl))
theorem mX11_test_fieldLink_207_StillTextModel_answers_I : Cond.fieldLink RX11 207 "StillTextModel" "answers" "I" ∈ wsX11_test := List.mem_cons_of_mem _ (List.mem_append_left _ (List.mem_of_getElem? (i := 4) rfl))
theorem mX11_test_fieldLink_210_StillTextModel_won_I : Cond.fieldLink RX11 210 "StillTextModel" "won" "I" ∈ wsX11_test := List.mem_cons_of_mem _ (List.mem_append_left _ (List.mem_of_getElem? (i := 5) rfl))
set_option maxHeartbeats 4000000 in
set_option maxRecDepth 100000 in
theorem c_X11_test (σ : St) (x1 x2 x3 : Int32) (Q : Int32 → St → Prop) (h : wp_X11_test σ x1 x2 x3 Q) : Ci l D (tyM cyI) [] [] (wM cyI ad) yX11_test wsX11_test r_X11_test [.ref (ad 0), .int x1, .int x2, .int x3] σ Q := by
  refine k_metI (cc := cX11_test) (maxL := 4) (ret := (some .boolean)) (by decide) rfl (Nat.le_of_ble_eq_true rfl) ?_
  intro p e s m below meth c A ls C hI hl
  obtain ⟨hx, hb, hr, hml, hown, hts, hlocks⟩ := id C
  have hl : lv_has ls 4 [(0, .ref (ad 0)), (1, .int x1), (2, .int x2), (3, .int x3)] := hl
  unfold wp_X11_test at h
  refine lv_iload_n hx hb dX11_test_0 rfl (lv_at hl 1 rfl) ?_
  refine lv_iconst (v := nI 0) hx hb dX11_test_1 (by decide) ?_
  refine lv_bipush (v := nI 10) hx hb dX11_test_2 (by decide) ?_
  refine k_cSi (As := [.int x1, .int (nI 0), .int (nI 10)]) (rest := []) C (c_X11_isIn σ x1 (nI 0) (nI 10) _ h) (va_cwS 3 hts gX11_test_X11_isIn rfl rfl rfl hdX11_isIn ⟨Nat.le_of_ble_eq_true rfl, Nat.le_of_ble_eq_true rfl⟩) hI rfl hl.1 rfl (Nat.le_of_ble_eq_true rfl) dX11_test_4 ⟨Nat.le_of_ble_eq_true rfl, Nat.le_of_ble_eq_true rfl⟩ (fun r1 σ2 H locs h hI => ?_)
  refine lv_if_eq (tgt := 29) hx hb dX11_test_7 (by decide) (fun c3 => ?_) (fun c3 => ?_)
  · replace h := h.1 c3
    refine lv_iconst (v := nI 0) hx hb dX11_test_29 (by decide) ?_
    exact k_zret hx hb hr hlocks hI (Or.inl rfl) h dX11_test_30
  · replace h := h.2 c3
    refine lv_iload_n hx hb dX11_test_10 rfl (lv_at hl 2 rfl) ?_
    refine lv_iconst (v := nI 0) hx hb dX11_test_11 (by decide) ?_
    refine lv_iconst (v := nI 2) hx hb dX11_test_12 (by decide) ?_
    refine k_cSi (As := [.int x2, .int (nI 0), .int (nI 2)]) (rest := []) C (c_X11_isIn σ2 x2 (nI 0) (nI 2) _ h) (va_cwS 3 hts gX11_test_X11_isIn rfl rfl rfl hdX11_isIn ⟨Nat.le_of_ble_eq_true rfl, Nat.le_of_ble_eq_true rfl⟩) hI rfl hl.1 rfl (Nat.le_of_ble_eq_true rfl) dX11_test_13 ⟨Nat.le_of_ble_eq_true rfl, Nat.le_of_ble_eq_true rfl⟩ (fun r4 σ5 H locs h hI => ?_)
    refine lv_if_eq (tgt := 29) hx hb dX11_test_16 (by decide) (fun c6 => ?_) (fun c6 => ?_)
    · replace h := h.1 c6
      refine lv_iconst (v := nI 0) hx hb dX11_test_29 (by decide) ?_
      exact k_zret hx hb hr hlocks hI (Or.inl rfl) h dX11_test_30
    · replace h := h.2 c6
      refine lv_iload_n hx hb dX11_test_19 rfl (lv_at hl 3 rfl) ?_
      refine lv_iconst (v := nI 1) hx hb dX11_test_20 (by decide) ?_
      refine lv_bipush (v := nI 9) hx hb dX11_test_21 (by decide) ?_
      refine k_cSi (As := [.int x3, .int (nI 1), .int (nI 9)]) (rest := []) C (c_X11_isIn σ5 x3 (nI 1) (nI 9) _ h) (va_cwS 3 hts gX11_test_X11_isIn rfl rfl rfl hdX11_isIn ⟨Nat.le_of_ble_eq_true rfl, Nat.le_of_ble_eq_true rfl⟩) hI rfl hl.1 rfl (Nat.le_of_ble_eq_true rfl) dX11_test_23 ⟨Nat.le_of_ble_eq_true rfl, Nat.le_of_ble_eq_true rfl⟩ (fun r7 σ8 H locs h hI => ?_)
      refine lv_if_ne (tgt := 31) hx hb dX11_test_26 (by decide) (fun c9 => ?_) (fun c9 => ?_)
      · replace h := h.1 c9
        refine lv_aload_n hx hb dX11_test_31 rfl (lv_at hl 0 rfl) ?_
        refine lv_iconst (v := nI 1) hx hb dX11_test_32 (by decide) ?_
        refine k_put (q0 := 0) (k := 36) (ci := 11) (v := .int (nI 1)) (σ' := up2 σ8 0 36 (nI 1)) hx hb hts inX11_test_X11 tyX11 tyX11_ok nmX11 hown hI rfl rfl (by decide) mX11_test_fieldLink_201_StillTextModel_hasTests_Z rfl rfl rfl rfl (Nat.le_of_ble_eq_true rfl) (wsM_0_36 _ _ _ _) dX11_test_33 (fun H locs hI => ?_)
        refine lv_aload_n hx hb dX11_test_36 rfl (lv_at hl 0 rfl) ?_
        refine lv_iload_n hx hb dX11_test_37 rfl (lv_at hl 1 rfl) ?_
        refine k_put (q0 := 0) (k := 37) (ci := 11) (v := .int x1) (σ' := up2 (up2 σ8 0 36 (nI 1)) 0 37 x1) hx hb hts inX11_test_X11 tyX11 tyX11_ok nmX11 hown hI rfl rfl (by decide) mX11_test_fieldLink_182_StillTextModel_bestLong_I rfl rfl rfl rfl (Nat.le_of_ble_eq_true rfl) (wsM_0_37 _ _ _ _) dX11_test_38 (fun H locs hI => ?_)
        refine lv_aload_n hx hb dX11_test_41 rfl (lv_at hl 0 rfl) ?_
        refine lv_iload_n hx hb dX11_test_42 rfl (lv_at hl 2 rfl) ?_
        refine k_put (q0 := 0) (k := 38) (ci := 11) (v := .int x2) (σ' := up2 (up2 (up2 σ8 0 36 (nI 1)) 0 37 x1) 0 38 x2) hx hb hts inX11_test_X11 tyX11 tyX11_ok nmX11 hown hI rfl rfl (by decide) mX11_test_fieldLink_188_StillTextModel_bestSpread_I rfl rfl rfl rfl (Nat.le_of_ble_eq_true rfl) (wsM_0_38 _ _ _ _) dX11_test_43 (fun H locs hI => ?_)
        refine lv_aload_n hx hb dX11_test_46 rfl (lv_at hl 0 rfl) ?_
        refine lv_iload_n hx hb dX11_test_47 rfl (lv_at hl 3 rfl) ?_
        refine k_put (q0 := 0) (k := 39) (ci := 11) (v := .int x3) (σ' := up2 (up2 (up2 (up2 σ8 0 36 (nI 1)) 0 37 x1) 0 38 x2) 0 39 x3) hx hb hts inX11_test_X11 tyX11 tyX11_ok nmX11 hown hI rfl rfl (by decide) mX11_test_fieldLink_204_StillTextModel_lead_I rfl rfl rfl rfl (Nat.le_of_ble_eq_true rfl) (wsM_0_39 _ _ _ _) dX11_test_48 (fun H locs hI => ?_)
        refine lv_aload_n hx hb dX11_test_51 rfl (lv_at hl 0 rfl) ?_
        refine lv_iconst (v := nI 0) hx hb dX11_test_52 (by decide) ?_
        refine k_put (q0 := 0) (k := 41) (ci := 11) (v := .int (nI 0)) (σ' := up2 (up2 (up2 (up2 (up2 σ8 0 36 (nI 1)) 0 37 x1) 0 38 x2) 0 39 x3) 0 41 (nI 0)) hx hb hts inX11_test_X11 tyX11 tyX11_ok nmX11 hown hI rfl rfl (by decide) mX11_test_fieldLink_207_StillTextModel_answers_I rfl rfl rfl rfl (Nat.le_of_ble_eq_true rfl) (wsM_0_41 _ _ _ _) dX11_test_53 (fun H locs hI => ?_)
        refine lv_aload_n hx hb dX11_test_56 rfl (lv_at hl 0 rfl) ?_
        refine lv_iconst (v := nI 0) hx hb dX11_test_57 (by decide) ?_
        refine k_put (q0 := 0) (k := 42) (ci := 11) (v := .int (nI 0)) (σ' := up2 (up2 (up2 (up2 (up2 (up2 σ8 0 36 (nI 1)) 0 37 x1) 0 38 x2) 0 39 x3) 0 41 (nI 0)) 0 42 (nI 0)) hx hb hts inX11_test_X11 tyX11 tyX11_ok nmX11 hown hI rfl rfl (by decide) mX11_test_fieldLink_210_StillTextModel_won_I rfl rfl rfl rfl (Nat.le_of_ble_eq_true rfl) (wsM_0_42 _ _ _ _) dX11_test_58 (fun H locs hI => ?_)
        refine lv_aload_n hx hb dX11_test_61 rfl (lv_at hl 0 rfl) ?_
        refine lv_iconst (v := nI 0) hx hb dX11_test_62 (by decide) ?_
        refine k_cVv (As := [.int (nI 0)]) (rest := []) C (c_X11_finds (up2 (up2 (up2 (up2 (up2 (up2 σ8 0 36 (nI 1)) 0 37 x1) 0 38 x2) 0 39 x3) 0 41 (nI 0)) 0 42 (nI 0)) (nI 0) _ h) (cwV 1 hts gX11_test_X11_finds rfl rfl rfl hdX11_finds ⟨Nat.le_of_ble_eq_true rfl, Nat.le_of_ble_eq_true rfl⟩) hI 0 rfl rfl rfl hl.1 rfl (Nat.le_of_ble_eq_true rfl) dX11_test_63 ⟨Nat.le_of_ble_eq_true rfl, Nat.le_of_ble_eq_true rfl⟩ (fun σ11 H locs h hI => ?_)
        refine lv_iconst (v := nI 1) hx hb dX11_test_66 (by decide) ?_
        exact k_zret hx hb hr hlocks hI (Or.inr rfl) h dX11_test_67
      · replace h := h.2 c9
        refine lv_iconst (v := nI 0) hx hb dX11_test_29 (by decide) ?_
        exact k_zret hx hb hr hlocks hI (Or.inl rfl) h dX11_test_30
theorem inX11_isOver_X11 : ∀ w ∈ wsX110, w ∈ wsX11_isOver := fun _ h => List.mem_cons_of_mem _ (List.mem_append_right _ (h))
theorem mX11_isOver_fieldLink_185_StillTextModel_now_I : Cond.fieldLink RX11 185 "StillTextModel" "now" "I" ∈ wsX11_isOver := List.mem_cons_of_mem _ (List.mem_append_left _ (List.mem_of_getElem? (i := 0) rfl))
theorem mX11_isOver_fieldLink_207_StillTextModel_answers_I : Cond.fieldLink RX11 207 "StillTextModel" "answers" "I" ∈ wsX11_isOver := List.mem_cons_of_mem _ (List.mem_append_left _ (List.mem_of_getElem? (i := 1) rfl))
set_option maxHeartbeats 4000000 in
set_option maxRecDepth 100000 in
theorem c_X11_isOver (σ : St) (Q : Int32 → St → Prop) (h : wp_X11_isOver σ  Q) : Ci l D (tyM cyI) [] [] (wM cyI ad) yX11_isOver wsX11_isOver r_X11_isOver [.ref (ad 0)] σ Q := by
  refine k_metI (cc := cX11_isOver) (maxL := 1) (ret := (some .boolean)) (by decide) rfl (Nat.le_of_ble_eq_true rfl) ?_
  intro p e s m below meth c A ls C hI hl
  obtain ⟨hx, hb, hr, hml, hown, hts, hlocks⟩ := id C
  have hl : lv_has ls 1 [(0, .ref (ad 0))] := hl
  unfold wp_X11_isOver at h
  refine lv_aload_n hx hb dX11_isOver_0 rfl (lv_at hl 0 rfl) ?_
  refine k_get (q0 := 0) (k := 43) (ci := 11) (v := .int (σ 0 43)) hx hb hts inX11_isOver_X11 hown hI rfl rfl (by decide) mX11_isOver_fieldLink_185_StillTextModel_now_I rfl rfl dX11_isOver_1 ?_
  refine lv_iconst (v := nI 4) hx hb dX11_isOver_4 (by decide) ?_
  refine lv_icmp_eq (tgt := 18) hx hb dX11_isOver_5 (by decide) (fun c1 => ?_) (fun c1 => ?_)
  · replace h := h.1 c1
    refine lv_iconst (v := nI 1) hx hb dX11_isOver_18 (by decide) ?_
    refine lv_goto (tgt := 23) hx hb dX11_isOver_19 (by decide) ?_
    exact k_zret hx hb hr hlocks hI (Or.inr rfl) h dX11_isOver_23
  · replace h := h.2 c1
    refine lv_aload_n hx hb dX11_isOver_8 rfl (lv_at hl 0 rfl) ?_
    refine k_get (q0 := 0) (k := 41) (ci := 11) (v := .int (σ 0 41)) hx hb hts inX11_isOver_X11 hown hI rfl rfl (by decide) mX11_isOver_fieldLink_207_StillTextModel_answers_I rfl rfl dX11_isOver_9 ?_
    refine lv_sipush (v := nI 200) hx hb dX11_isOver_12 (by decide) ?_
    refine lv_icmp_ne (tgt := 22) hx hb dX11_isOver_15 (by decide) (fun c2 => ?_) (fun c2 => ?_)
    · replace h := h.1 c2
      refine lv_iconst (v := nI 0) hx hb dX11_isOver_22 (by decide) ?_
      exact k_zret hx hb hr hlocks hI (Or.inl rfl) h dX11_isOver_23
    · replace h := h.2 c2
      refine lv_iconst (v := nI 1) hx hb dX11_isOver_18 (by decide) ?_
      refine lv_goto (tgt := 23) hx hb dX11_isOver_19 (by decide) ?_
      exact k_zret hx hb hr hlocks hI (Or.inr rfl) h dX11_isOver_23
theorem inX11_tested_X11 : ∀ w ∈ wsX110, w ∈ wsX11_tested := fun _ h => List.mem_cons_of_mem _ (List.mem_append_right _ (h))
theorem mX11_tested_fieldLink_201_StillTextModel_hasTests_Z : Cond.fieldLink RX11 201 "StillTextModel" "hasTests" "Z" ∈ wsX11_tested := List.mem_cons_of_mem _ (List.mem_append_left _ (List.mem_of_getElem? (i := 0) rfl))
theorem mX11_tested_fieldLink_182_StillTextModel_bestLong_I : Cond.fieldLink RX11 182 "StillTextModel" "bestLong" "I" ∈ wsX11_tested := List.mem_cons_of_mem _ (List.mem_append_left _ (List.mem_of_getElem? (i := 1) rfl))
theorem mX11_tested_fieldLink_188_StillTextModel_bestSpread_I : Cond.fieldLink RX11 188 "StillTextModel" "bestSpread" "I" ∈ wsX11_tested := List.mem_cons_of_mem _ (List.mem_append_left _ (List.mem_of_getElem? (i := 2) rfl))
theorem mX11_tested_fieldLink_207_StillTextModel_answers_I : Cond.fieldLink RX11 207 "StillTextModel" "answers" "I" ∈ wsX11_tested := List.mem_cons_of_mem _ (List.mem_append_left _ (List.mem_of_getElem? (i := 3) rfl))
theorem mX11_tested_fieldLink_210_StillTextModel_won_I : Cond.fieldLink RX11 210 "StillTextModel" "won" "I" ∈ wsX11_tested := List.mem_cons_of_mem _ (List.mem_append_left _ (List.mem_of_getElem? (i := 4) rfl))
set_option maxHeartbeats 4000000 in
set_option maxRecDepth 100000 in
theorem c_X11_tested (σ : St) (x1 : Int32) (Q : Int32 → St → Prop) (h : wp_X11_tested σ x1 Q) : Ci l D (tyM cyI) [] [] (wM cyI ad) yX11_tested wsX11_tested r_X11_tested [.ref (ad 0), .int x1] σ Q := by
  refine k_metI (cc := cX11_tested) (maxL := 2) (ret := (some .int)) (by decide) rfl (Nat.le_of_ble_eq_true rfl) ?_
  intro p e s m below meth c A ls C hI hl
  obtain ⟨hx, hb, hr, hml, hown, hts, hlocks⟩ := id C
  have hl : lv_has ls 2 [(0, .ref (ad 0)), (1, .int x1)] := hl
  unfold wp_X11_tested at h
  refine lv_aload_n hx hb dX11_tested_0 rfl (lv_at hl 0 rfl) ?_
  refine k_get (q0 := 0) (k := 36) (ci := 11) (v := .int (σ 0 36)) hx hb hts inX11_tested_X11 hown hI rfl rfl (by decide) mX11_tested_fieldLink_201_StillTextModel_hasTests_Z rfl rfl dX11_tested_1 ?_
  refine lv_if_ne (tgt := 9) hx hb dX11_tested_4 (by decide) (fun c1 => ?_) (fun c1 => ?_)
  · replace h := h.1 c1
    refine lv_iload_n hx hb dX11_tested_9 rfl (lv_at hl 1 rfl) ?_
    by_cases c2 : x1 = nI 0
    · replace h := h.1 c2
      refine lv_tableIn (off := 38) (tgt := 48) hx hb dX11_tested_10 (by rw [c2]; decide) (by rw [c2]; decide) (by rw [c2]; rfl) (by decide) ?_
      refine lv_aload_n hx hb dX11_tested_48 rfl (lv_at hl 0 rfl) ?_
      refine k_get (q0 := 0) (k := 37) (ci := 11) (v := .int (σ 0 37)) hx hb hts inX11_tested_X11 hown hI rfl rfl (by decide) mX11_tested_fieldLink_182_StillTextModel_bestLong_I rfl rfl dX11_tested_49 ?_
      exact k_iret hx hb hr hlocks hI h dX11_tested_52
    · replace h := h.2 c2
      by_cases c3 : x1 = nI 1
      · replace h := h.1 c3
        refine lv_tableIn (off := 43) (tgt := 53) hx hb dX11_tested_10 (by rw [c3]; decide) (by rw [c3]; decide) (by rw [c3]; rfl) (by decide) ?_
        refine lv_aload_n hx hb dX11_tested_53 rfl (lv_at hl 0 rfl) ?_
        refine k_get (q0 := 0) (k := 38) (ci := 11) (v := .int (σ 0 38)) hx hb hts inX11_tested_X11 hown hI rfl rfl (by decide) mX11_tested_fieldLink_188_StillTextModel_bestSpread_I rfl rfl dX11_tested_54 ?_
        exact k_iret hx hb hr hlocks hI h dX11_tested_57
      · replace h := h.2 c3
        by_cases c4 : x1 = nI 2
        · replace h := h.1 c4
          refine lv_tableIn (off := 48) (tgt := 58) hx hb dX11_tested_10 (by rw [c4]; decide) (by rw [c4]; decide) (by rw [c4]; rfl) (by decide) ?_
          refine lv_aload_n hx hb dX11_tested_58 rfl (lv_at hl 0 rfl) ?_
          refine k_cVi (As := []) (rest := []) C (c_X11_isOver σ  _ h) (cwV 0 hts gX11_tested_X11_isOver rfl rfl rfl hdX11_isOver ⟨Nat.le_of_ble_eq_true rfl, Nat.le_of_ble_eq_true rfl⟩) hI 0 rfl rfl rfl hl.1 rfl (Nat.le_of_ble_eq_true rfl) dX11_tested_59 ⟨Nat.le_of_ble_eq_true rfl, Nat.le_of_ble_eq_true rfl⟩ (fun r5 σ6 H locs h hI => ?_)
          refine lv_if_eq (tgt := 69) hx hb dX11_tested_62 (by decide) (fun c7 => ?_) (fun c7 => ?_)
          · replace h := h.1 c7
            refine lv_aload_n hx hb dX11_tested_69 rfl (lv_at hl 0 rfl) ?_
            refine k_cVi (As := []) (rest := []) C (c_X11_neighbourLong σ6  _ h) (cwV 0 hts gX11_tested_X11_neighbourLong rfl rfl rfl hdX11_neighbourLong ⟨Nat.le_of_ble_eq_true rfl, Nat.le_of_ble_eq_true rfl⟩) hI 0 rfl rfl rfl hl.1 rfl (Nat.le_of_ble_eq_true rfl) dX11_tested_70 ⟨Nat.le_of_ble_eq_true rfl, Nat.le_of_ble_eq_true rfl⟩ (fun r8 σ9 H locs h hI => ?_)
            exact k_iret hx hb hr hlocks hI h dX11_tested_73
          · replace h := h.2 c7
            refine lv_iconst (v := (-1)) hx hb dX11_tested_65 (by decide) ?_
            refine lv_goto (tgt := 73) hx hb dX11_tested_66 (by decide) ?_
            exact k_iret hx hb hr hlocks hI h dX11_tested_73
        · replace h := h.2 c4
          by_cases c10 : x1 = nI 3
          · replace h := h.1 c10
            refine lv_tableIn (off := 64) (tgt := 74) hx hb dX11_tested_10 (by rw [c10]; decide) (by rw [c10]; decide) (by rw [c10]; rfl) (by decide) ?_
            refine lv_aload_n hx hb dX11_tested_74 rfl (lv_at hl 0 rfl) ?_
            refine k_cVi (As := []) (rest := []) C (c_X11_isOver σ  _ h) (cwV 0 hts gX11_tested_X11_isOver rfl rfl rfl hdX11_isOver ⟨Nat.le_of_ble_eq_true rfl, Nat.le_of_ble_eq_true rfl⟩) hI 0 rfl rfl rfl hl.1 rfl (Nat.le_of_ble_eq_true rfl) dX11_tested_75 ⟨Nat.le_of_ble_eq_true rfl, Nat.le_of_ble_eq_true rfl⟩ (fun r11 σ12 H locs h hI => ?_)
            refine lv_if_eq (tgt := 85) hx hb dX11_tested_78 (by decide) (fun c13 => ?_) (fun c13 => ?_)
            · replace h := h.1 c13
              refine lv_aload_n hx hb dX11_tested_85 rfl (lv_at hl 0 rfl) ?_
              refine k_cVi (As := []) (rest := []) C (c_X11_neighbourSpread σ12  _ h) (cwV 0 hts gX11_tested_X11_neighbourSpread rfl rfl rfl hdX11_neighbourSpread ⟨Nat.le_of_ble_eq_true rfl, Nat.le_of_ble_eq_true rfl⟩) hI 0 rfl rfl rfl hl.1 rfl (Nat.le_of_ble_eq_true rfl) dX11_tested_86 ⟨Nat.le_of_ble_eq_true rfl, Nat.le_of_ble_eq_true rfl⟩ (fun r14 σ15 H locs h hI => ?_)
              exact k_iret hx hb hr hlocks hI h dX11_tested_89
            · replace h := h.2 c13
              refine lv_iconst (v := (-1)) hx hb dX11_tested_81 (by decide) ?_
              refine lv_goto (tgt := 89) hx hb dX11_tested_82 (by decide) ?_
              exact k_iret hx hb hr hlocks hI h dX11_tested_89
          · replace h := h.2 c10
            by_cases c16 : x1 = nI 4
            · replace h := h.1 c16
              refine lv_tableIn (off := 80) (tgt := 90) hx hb dX11_tested_10 (by rw [c16]; decide) (by rw [c16]; decide) (by rw [c16]; rfl) (by decide) ?_
              refine lv_aload_n hx hb dX11_tested_90 rfl (lv_at hl 0 rfl) ?_
              refine k_get (q0 := 0) (k := 41) (ci := 11) (v := .int (σ 0 41)) hx hb hts inX11_tested_X11 hown hI rfl rfl (by decide) mX11_tested_fieldLink_207_StillTextModel_answers_I rfl rfl dX11_tested_91 ?_
              exact k_iret hx hb hr hlocks hI h dX11_tested_94
            · replace h := h.2 c16
              by_cases c17 : x1 = nI 5
              · replace h := h.1 c17
                refine lv_tableIn (off := 85) (tgt := 95) hx hb dX11_tested_10 (by rw [c17]; decide) (by rw [c17]; decide) (by rw [c17]; rfl) (by decide) ?_
                refine lv_aload_n hx hb dX11_tested_95 rfl (lv_at hl 0 rfl) ?_
                refine k_get (q0 := 0) (k := 42) (ci := 11) (v := .int (σ 0 42)) hx hb hts inX11_tested_X11 hown hI rfl rfl (by decide) mX11_tested_fieldLink_210_StillTextModel_won_I rfl rfl dX11_tested_96 ?_
                exact k_iret hx hb hr hlocks hI h dX11_tested_99
              · replace h := h.2 c17
                have ec2 := lv_neT c2 (a := 0) (by decide)
                have ec3 := lv_neT c3 (a := 1) (by decide)
                have ec4 := lv_neT c4 (a := 2) (by decide)
                have ec10 := lv_neT c10 (a := 3) (by decide)
                have ec16 := lv_neT c16 (a := 4) (by decide)
                have ec17 := lv_neT c17 (a := 5) (by decide)
                refine lv_tableOut (tgt := 100) hx hb dX11_tested_10 (by omega) (by decide) ?_
                refine lv_iconst (v := (-1)) hx hb dX11_tested_100 (by decide) ?_
                exact k_iret hx hb hr hlocks hI h dX11_tested_101
  · replace h := h.2 c1
    refine lv_iconst (v := (-1)) hx hb dX11_tested_7 (by decide) ?_
    exact k_iret hx hb hr hlocks hI h dX11_tested_8
end
