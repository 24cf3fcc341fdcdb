section
variable {l : Launch} {D : va_G} {cyI : ClassId} {ad : Nat → Nat}
theorem inX11_measure_X11 : ∀ w ∈ wsX110, w ∈ wsX11_measure := fun _ h => List.mem_cons_of_mem _ (List.mem_append_right _ (h))
theorem mX11_measure_fieldLink_38_StillTextModel_longest_I : Cond.fieldLink RX11 38 "StillTextModel" "longest" "I" ∈ wsX11_measure := List.mem_cons_of_mem _ (List.mem_append_left _ (List.mem_of_getElem? (i := 0) rfl))
theorem mX11_measure_fieldLink_41_StillTextModel_spread_I : Cond.fieldLink RX11 41 "StillTextModel" "spread" "I" ∈ wsX11_measure := List.mem_cons_of_mem _ (List.mem_append_left _ (List.mem_of_getElem? (i := 1) rfl))
set_option maxHeartbeats 4000000 in
set_option maxRecDepth 100000 in
theorem c_X11_measure (σ : St) (x1 x2 : Int32) (Q : Int32 → St → Prop) (h : wp_X11_measure σ x1 x2 Q) : Ci l D (tyM cyI) [] [] (wM cyI ad) yX11_measure wsX11_measure r_X11_measure [.ref (ad 0), .int x1, .int x2] σ Q := by
  refine k_metI (cc := cX11_measure) (maxL := 3) (ret := (some .boolean)) (by decide) rfl (Nat.le_of_ble_eq_true rfl) ?_
  intro p e s m below meth c A ls C hI hl
  obtain ⟨hx, hb, hr, hml, hown, hts, hlocks⟩ := id C
  have hl : lv_has ls 3 [(0, .ref (ad 0)), (1, .int x1), (2, .int x2)] := hl
  unfold wp_X11_measure at h
  refine lv_iload_n hx hb dX11_measure_0 rfl (lv_at hl 1 rfl) ?_
  refine lv_bipush (v := nI 10) hx hb dX11_measure_1 (by decide) ?_
  refine lv_bipush (v := nI 60) hx hb dX11_measure_3 (by decide) ?_
  refine k_cSi (As := [.int x1, .int (nI 10), .int (nI 60)]) (rest := []) C (c_X11_isIn σ x1 (nI 10) (nI 60) _ h) (va_cwS 3 hts gX11_measure_X11_isIn rfl rfl rfl hdX11_isIn ⟨Nat.le_of_ble_eq_true rfl, Nat.le_of_ble_eq_true rfl⟩) hI rfl hl.1 rfl (Nat.le_of_ble_eq_true rfl) dX11_measure_5 ⟨Nat.le_of_ble_eq_true rfl, Nat.le_of_ble_eq_true rfl⟩ (fun r1 σ2 H locs h hI => ?_)
  refine lv_if_eq (tgt := 20) hx hb dX11_measure_8 (by decide) (fun c3 => ?_) (fun c3 => ?_)
  · replace h := h.1 c3
    refine lv_iconst (v := nI 0) hx hb dX11_measure_20 (by decide) ?_
    exact k_zret hx hb hr hlocks hI (Or.inl rfl) h dX11_measure_21
  · replace h := h.2 c3
    refine lv_iload_n hx hb dX11_measure_11 rfl (lv_at hl 2 rfl) ?_
    refine lv_iconst (v := nI 1) hx hb dX11_measure_12 (by decide) ?_
    refine lv_iconst (v := nI 3) hx hb dX11_measure_13 (by decide) ?_
    refine k_cSi (As := [.int x2, .int (nI 1), .int (nI 3)]) (rest := []) C (c_X11_isIn σ2 x2 (nI 1) (nI 3) _ h) (va_cwS 3 hts gX11_measure_X11_isIn rfl rfl rfl hdX11_isIn ⟨Nat.le_of_ble_eq_true rfl, Nat.le_of_ble_eq_true rfl⟩) hI rfl hl.1 rfl (Nat.le_of_ble_eq_true rfl) dX11_measure_14 ⟨Nat.le_of_ble_eq_true rfl, Nat.le_of_ble_eq_true rfl⟩ (fun r4 σ5 H locs h hI => ?_)
    refine lv_if_ne (tgt := 22) hx hb dX11_measure_17 (by decide) (fun c6 => ?_) (fun c6 => ?_)
    · replace h := h.1 c6
      refine lv_aload_n hx hb dX11_measure_22 rfl (lv_at hl 0 rfl) ?_
      refine lv_iload_n hx hb dX11_measure_23 rfl (lv_at hl 1 rfl) ?_
      refine k_put (q0 := 0) (k := 13) (ci := 11) (v := .int x1) (σ' := up2 σ5 0 13 x1) hx hb hts inX11_measure_X11 tyX11 tyX11_ok nmX11 hown hI rfl rfl (by decide) mX11_measure_fieldLink_38_StillTextModel_longest_I rfl rfl rfl rfl (Nat.le_of_ble_eq_true rfl) (wsM_0_13 _ _ _ _) dX11_measure_24 (fun H locs hI => ?_)
      refine lv_aload_n hx hb dX11_measure_27 rfl (lv_at hl 0 rfl) ?_
      refine lv_iload_n hx hb dX11_measure_28 rfl (lv_at hl 2 rfl) ?_
      refine k_put (q0 := 0) (k := 14) (ci := 11) (v := .int x2) (σ' := up2 (up2 σ5 0 13 x1) 0 14 x2) hx hb hts inX11_measure_X11 tyX11 tyX11_ok nmX11 hown hI rfl rfl (by decide) mX11_measure_fieldLink_41_StillTextModel_spread_I rfl rfl rfl rfl (Nat.le_of_ble_eq_true rfl) (wsM_0_14 _ _ _ _) dX11_measure_29 (fun H locs hI => ?_)
      refine lv_iconst (v := nI 1) hx hb dX11_measure_32 (by decide) ?_
      exact k_zret hx hb hr hlocks hI (Or.inr rfl) h dX11_measure_33
    · replace h := h.2 c6
      refine lv_iconst (v := nI 0) hx hb dX11_measure_20 (by decide) ?_
      exact k_zret hx hb hr hlocks hI (Or.inl rfl) h dX11_measure_21
theorem inX11_strains_X11 : ∀ w ∈ wsX110, w ∈ wsX11_strains := fun _ h => List.mem_cons_of_mem _ (List.mem_append_right _ (h))
theorem mX11_strains_fieldLink_44_StillTextModel_shortest_I : Cond.fieldLink RX11 44 "StillTextModel" "shortest" "I" ∈ wsX11_strains := List.mem_cons_of_mem _ (List.mem_append_left _ (List.mem_of_getElem? (i := 0) rfl))
theorem mX11_strains_fieldLink_47_StillTextModel_phrase_I : Cond.fieldLink RX11 47 "StillTextModel" "phrase" "I" ∈ wsX11_strains := List.mem_cons_of_mem _ (List.mem_append_left _ (List.mem_of_getElem? (i := 1) rfl))
theorem mX11_strains_fieldLink_50_StillTextModel_inner_I : Cond.fieldLink RX11 50 "StillTextModel" "inner" "I" ∈ wsX11_strains := List.mem_cons_of_mem _ (List.mem_append_left _ (List.mem_of_getElem? (i := 2) rfl))
theorem mX11_strains_fieldLink_53_StillTextModel_cut_I : Cond.fieldLink RX11 53 "StillTextModel" "cut" "I" ∈ wsX11_strains := List.mem_cons_of_mem _ (List.mem_append_left _ (List.mem_of_getElem? (i := 3) rfl))
theorem mX11_strains_fieldLink_56_StillTextModel_river_I : Cond.fieldLink RX11 56 "StillTextModel" "river" "I" ∈ wsX11_strains := List.mem_cons_of_mem _ (List.mem_append_left _ (List.mem_of_getElem? (i := 4) rfl))
set_option maxHeartbeats 4000000 in
set_option maxRecDepth 100000 in
theorem c_X11_strains (σ : St) (x1 x2 x3 x4 x5 : Int32) (Q : Int32 → St → Prop) (h : wp_X11_strains σ x1 x2 x3 x4 x5 Q) : Ci l D (tyM cyI) [] [] (wM cyI ad) yX11_strains wsX11_strains r_X11_strains [.ref (ad 0), .int x1, .int x2, .int x3, .int x4, .int x5] σ Q := by
  refine k_metI (cc := cX11_strains) (maxL := 6) (ret := (some .boolean)) (by decide) rfl (Nat.le_of_ble_eq_true rfl) ?_
  intro p e s m below meth c A ls C hI hl
  obtain ⟨hx, hb, hr, hml, hown, hts, hlocks⟩ := id C
  have hl : lv_has ls 6 [(0, .ref (ad 0)), (1, .int x1), (2, .int x2), (3, .int x3), (4, .int x4), (5, .int x5)] := hl
  unfold wp_X11_strains at h
  refine lv_iload_n hx hb dX11_strains_0 rfl (lv_at hl 1 rfl) ?_
  refine lv_iconst (v := nI 0) hx hb dX11_strains_1 (by decide) ?_
  refine lv_bipush (v := nI 100) hx hb dX11_strains_2 (by decide) ?_
  refine k_cSi (As := [.int x1, .int (nI 0), .int (nI 100)]) (rest := []) C (c_X11_isIn σ x1 (nI 0) (nI 100) _ h) (va_cwS 3 hts gX11_strains_X11_isIn rfl rfl rfl hdX11_isIn ⟨Nat.le_of_ble_eq_true rfl, Nat.le_of_ble_eq_true rfl⟩) hI rfl hl.1 rfl (Nat.le_of_ble_eq_true rfl) dX11_strains_4 ⟨Nat.le_of_ble_eq_true rfl, Nat.le_of_ble_eq_true rfl⟩ (fun r1 σ2 H locs h hI => ?_)
  refine lv_if_eq (tgt := 56) hx hb dX11_strains_7 (by decide) (fun c3 => ?_) (fun c3 => ?_)
  · replace h := h.1 c3
    refine lv_iconst (v := nI 0) hx hb dX11_strains_56 (by decide) ?_
    exact k_zret hx hb hr hlocks hI (Or.inl rfl) h dX11_strains_57
  · replace h := h.2 c3
    refine lv_iload_n hx hb dX11_strains_10 rfl (lv_at hl 2 rfl) ?_
    refine lv_iconst (v := nI 0) hx hb dX11_strains_11 (by decide) ?_
    refine lv_sipush (v := nI 10000) hx hb dX11_strains_12 (by decide) ?_
    refine k_cSi (As := [.int x2, .int (nI 0), .int (nI 10000)]) (rest := []) C (c_X11_isIn σ2 x2 (nI 0) (nI 10000) _ h) (va_cwS 3 hts gX11_strains_X11_isIn rfl rfl rfl hdX11_isIn ⟨Nat.le_of_ble_eq_true rfl, Nat.le_of_ble_eq_true rfl⟩) hI rfl hl.1 rfl (Nat.le_of_ble_eq_true rfl) dX11_strains_15 ⟨Nat.le_of_ble_eq_true rfl, Nat.le_of_ble_eq_true rfl⟩ (fun r4 σ5 H locs h hI => ?_)
    refine lv_if_eq (tgt := 56) hx hb dX11_strains_18 (by decide) (fun c6 => ?_) (fun c6 => ?_)
    · replace h := h.1 c6
      refine lv_iconst (v := nI 0) hx hb dX11_strains_56 (by decide) ?_
      exact k_zret hx hb hr hlocks hI (Or.inl rfl) h dX11_strains_57
    · replace h := h.2 c6
      refine lv_iload_n hx hb dX11_strains_21 rfl (lv_at hl 3 rfl) ?_
      refine lv_iconst (v := nI 0) hx hb dX11_strains_22 (by decide) ?_
      refine lv_sipush (v := nI 10000) hx hb dX11_strains_23 (by decide) ?_
      refine k_cSi (As := [.int x3, .int (nI 0), .int (nI 10000)]) (rest := []) C (c_X11_isIn σ5 x3 (nI 0) (nI 10000) _ h) (va_cwS 3 hts gX11_strains_X11_isIn rfl rfl rfl hdX11_isIn ⟨Nat.le_of_ble_eq_true rfl, Nat.le_of_ble_eq_true rfl⟩) hI rfl hl.1 rfl (Nat.le_of_ble_eq_true rfl) dX11_strains_26 ⟨Nat.le_of_ble_eq_true rfl, Nat.le_of_ble_eq_true rfl⟩ (fun r7 σ8 H locs h hI => ?_)
      refine lv_if_eq (tgt := 56) hx hb dX11_strains_29 (by decide) (fun c9 => ?_) (fun c9 => ?_)
      · replace h := h.1 c9
        refine lv_iconst (v := nI 0) hx hb dX11_strains_56 (by decide) ?_
        exact k_zret hx hb hr hlocks hI (Or.inl rfl) h dX11_strains_57
      · replace h := h.2 c9
        refine lv_iload hx hb dX11_strains_32 (lv_at hl 4 rfl) ?_
        refine lv_iconst (v := nI 0) hx hb dX11_strains_34 (by decide) ?_
        refine lv_sipush (v := nI 10000) hx hb dX11_strains_35 (by decide) ?_
        refine k_cSi (As := [.int x4, .int (nI 0), .int (nI 10000)]) (rest := []) C (c_X11_isIn σ8 x4 (nI 0) (nI 10000) _ h) (va_cwS 3 hts gX11_strains_X11_isIn rfl rfl rfl hdX11_isIn ⟨Nat.le_of_ble_eq_true rfl, Nat.le_of_ble_eq_true rfl⟩) hI rfl hl.1 rfl (Nat.le_of_ble_eq_true rfl) dX11_strains_38 ⟨Nat.le_of_ble_eq_true rfl, Nat.le_of_ble_eq_true rfl⟩ (fun r10 σ11 H locs h hI => ?_)
        refine lv_if_eq (tgt := 56) hx hb dX11_strains_41 (by decide) (fun c12 => ?_) (fun c12 => ?_)
        · replace h := h.1 c12
          refine lv_iconst (v := nI 0) hx hb dX11_strains_56 (by decide) ?_
          exact k_zret hx hb hr hlocks hI (Or.inl rfl) h dX11_strains_57
        · replace h := h.2 c12
          refine lv_iload hx hb dX11_strains_44 (lv_at hl 5 rfl) ?_
          refine lv_iconst (v := nI 0) hx hb dX11_strains_46 (by decide) ?_
          refine lv_sipush (v := nI 1000) hx hb dX11_strains_47 (by decide) ?_
          refine k_cSi (As := [.int x5, .int (nI 0), .int (nI 1000)]) (rest := []) C (c_X11_isIn σ11 x5 (nI 0) (nI 1000) _ h) (va_cwS 3 hts gX11_strains_X11_isIn rfl rfl rfl hdX11_isIn ⟨Nat.le_of_ble_eq_true rfl, Nat.le_of_ble_eq_true rfl⟩) hI rfl hl.1 rfl (Nat.le_of_ble_eq_true rfl) dX11_strains_50 ⟨Nat.le_of_ble_eq_true rfl, Nat.le_of_ble_eq_true rfl⟩ (fun r13 σ14 H locs h hI => ?_)
          refine lv_if_ne (tgt := 58) hx hb dX11_strains_53 (by decide) (fun c15 => ?_) (fun c15 => ?_)
          · replace h := h.1 c15
            refine lv_aload_n hx hb dX11_strains_58 rfl (lv_at hl 0 rfl) ?_
            refine lv_iload_n hx hb dX11_strains_59 rfl (lv_at hl 1 rfl) ?_
            refine k_put (q0 := 0) (k := 15) (ci := 11) (v := .int x1) (σ' := up2 σ14 0 15 x1) hx hb hts inX11_strains_X11 tyX11 tyX11_ok nmX11 hown hI rfl rfl (by decide) mX11_strains_fieldLink_44_StillTextModel_shortest_I rfl rfl rfl rfl (Nat.le_of_ble_eq_true rfl) (wsM_0_15 _ _ _ _) dX11_strains_60 (fun H locs hI => ?_)
            refine lv_aload_n hx hb dX11_strains_63 rfl (lv_at hl 0 rfl) ?_
            refine lv_iload_n hx hb dX11_strains_64 rfl (lv_at hl 2 rfl) ?_
            refine k_put (q0 := 0) (k := 16) (ci := 11) (v := .int x2) (σ' := up2 (up2 σ14 0 15 x1) 0 16 x2) hx hb hts inX11_strains_X11 tyX11 tyX11_ok nmX11 hown hI rfl rfl (by decide) mX11_strains_fieldLink_47_StillTextModel_phrase_I rfl rfl rfl rfl (Nat.le_of_ble_eq_true rfl) (wsM_0_16 _ _ _ _) dX11_strains_65 (fun H locs hI => ?_)
            refine lv_aload_n hx hb dX11_strains_68 rfl (lv_at hl 0 rfl) ?_
            refine lv_iload_n hx hb dX11_strains_69 rfl (lv_at hl 3 rfl) ?_
            refine k_put (q0 := 0) (k := 17) (ci := 11) (v := .int x3) (σ' := up2 (up2 (up2 σ14 0 15 x1) 0 16 x2) 0 17 x3) hx hb hts inX11_strains_X11 tyX11 tyX11_ok nmX11 hown hI rfl rfl (by decide) mX11_strains_fieldLink_50_StillTextModel_inner_I rfl rfl rfl rfl (Nat.le_of_ble_eq_true rfl) (wsM_0_17 _ _ _ _) dX11_strains_70 (fun H locs hI => ?_)
            refine lv_aload_n hx hb dX11_strains_73 rfl (lv_at hl 0 rfl) ?_
            refine lv_iload hx hb dX11_strains_74 (lv_at hl 4 rfl) ?_
            refine k_put (q0 := 0) (k := 18) (ci := 11) (v := .int x4) (σ' := up2 (up2 (up2 (up2 σ14 0 15 x1) 0 16 x2) 0 17 x3) 0 18 x4) hx hb hts inX11_strains_X11 tyX11 tyX11_ok nmX11 hown hI rfl rfl (by decide) mX11_strains_fieldLink_53_StillTextModel_cut_I rfl rfl rfl rfl (Nat.le_of_ble_eq_true rfl) (wsM_0_18 _ _ _ _) dX11_strains_76 (fun H locs hI => ?_)
            refine lv_aload_n hx hb dX11_strains_79 rfl (lv_at hl 0 rfl) ?_
            refine lv_iload hx hb dX11_strains_80 (lv_at hl 5 rfl) ?_
            refine k_put (q0 := 0) (k := 19) (ci := 11) (v := .int x5) (σ' := up2 (up2 (up2 (up2 (up2 σ14 0 15 x1) 0 16 x2) 0 17 x3) 0 18 x4) 0 19 x5) hx hb hts inX11_strains_X11 tyX11 tyX11_ok nmX11 hown hI rfl rfl (by decide) mX11_strains_fieldLink_56_StillTextModel_river_I rfl rfl rfl rfl (Nat.le_of_ble_eq_true rfl) (wsM_0_19 _ _ _ _) dX11_strains_82 (fun H locs hI => ?_)
            refine lv_iconst (v := nI 1) hx hb dX11_strains_85 (by decide) ?_
            exact k_zret hx hb hr hlocks hI (Or.inr rfl) h dX11_strains_86
          · replace h := h.2 c15
            refine lv_iconst (v := nI 0) hx hb dX11_strains_56 (by decide) ?_
            exact k_zret hx hb hr hlocks hI (Or.inl rfl) h dX11_strains_57
theorem inX11_like_X11 : ∀ w ∈ wsX110, w ∈ wsX11_like := fun _ h => List.mem_cons_of_mem _ (List.mem_append_right _ (h))
theorem mX11_like_fieldLink_59_StillTextModel_likes_I : Cond.fieldLink RX11 59 "StillTextModel" "likes" "[I" ∈ wsX11_like := List.mem_cons_of_mem _ (List.mem_append_left _ (List.mem_of_getElem? (i := 0) rfl))
set_option maxHeartbeats 4000000 in
set_option maxRecDepth 100000 in
theorem c_X11_like (σ : St) (x1 x2 x3 : Int32) (Q : Int32 → St → Prop) (h : wp_X11_like σ x1 x2 x3 Q) : Ci l D (tyM cyI) [] [] (wM cyI ad) yX11_like wsX11_like r_X11_like [.ref (ad 0), .int x1, .int x2, .int x3] σ Q := by
  refine k_metI (cc := cX11_like) (maxL := 5) (ret := (some .int)) (by decide) rfl (Nat.le_of_ble_eq_true rfl) ?_
  intro p e s m below meth c A ls C hI hl
  obtain ⟨hx, hb, hr, hml, hown, hts, hlocks⟩ := id C
  have hl : lv_has ls 5 [(0, .ref (ad 0)), (1, .int x1), (2, .int x2), (3, .int x3)] := hl
  unfold wp_X11_like at h
  refine lv_iload_n hx hb dX11_like_0 rfl (lv_at hl 1 rfl) ?_
  refine k_cSi (As := [.int x1]) (rest := []) C (c_X11_isLetter σ x1 _ h) (va_cwS 1 hts gX11_like_X11_isLetter rfl rfl rfl hdX11_isLetter ⟨Nat.le_of_ble_eq_true rfl, Nat.le_of_ble_eq_true rfl⟩) hI rfl hl.1 rfl (Nat.le_of_ble_eq_true rfl) dX11_like_1 ⟨Nat.le_of_ble_eq_true rfl, Nat.le_of_ble_eq_true rfl⟩ (fun r1 σ2 H locs h hI => ?_)
  refine lv_if_eq (tgt := 25) hx hb dX11_like_4 (by decide) (fun c3 => ?_) (fun c3 => ?_)
  · replace h := h.1 c3
    refine lv_iconst (v := (-1)) hx hb dX11_like_25 (by decide) ?_
    exact k_iret hx hb hr hlocks hI h dX11_like_26
  · replace h := h.2 c3
    refine lv_iload_n hx hb dX11_like_7 rfl (lv_at hl 2 rfl) ?_
    refine k_cSi (As := [.int x2]) (rest := []) C (c_X11_isLetter σ2 x2 _ h) (va_cwS 1 hts gX11_like_X11_isLetter rfl rfl rfl hdX11_isLetter ⟨Nat.le_of_ble_eq_true rfl, Nat.le_of_ble_eq_true rfl⟩) hI rfl hl.1 rfl (Nat.le_of_ble_eq_true rfl) dX11_like_8 ⟨Nat.le_of_ble_eq_true rfl, Nat.le_of_ble_eq_true rfl⟩ (fun r4 σ5 H locs h hI => ?_)
    refine lv_if_eq (tgt := 25) hx hb dX11_like_11 (by decide) (fun c6 => ?_) (fun c6 => ?_)
    · replace h := h.1 c6
      refine lv_iconst (v := (-1)) hx hb dX11_like_25 (by decide) ?_
      exact k_iret hx hb hr hlocks hI h dX11_like_26
    · replace h := h.2 c6
      refine lv_iload_n hx hb dX11_like_14 rfl (lv_at hl 3 rfl) ?_
      refine lv_iconst (v := nI 0) hx hb dX11_like_15 (by decide) ?_
      refine lv_sipush (v := nI 1000) hx hb dX11_like_16 (by decide) ?_
      refine k_cSi (As := [.int x3, .int (nI 0), .int (nI 1000)]) (rest := []) C (c_X11_isIn σ5 x3 (nI 0) (nI 1000) _ h) (va_cwS 3 hts gX11_like_X11_isIn rfl rfl rfl hdX11_isIn ⟨Nat.le_of_ble_eq_true rfl, Nat.le_of_ble_eq_true rfl⟩) hI rfl hl.1 rfl (Nat.le_of_ble_eq_true rfl) dX11_like_19 ⟨Nat.le_of_ble_eq_true rfl, Nat.le_of_ble_eq_true rfl⟩ (fun r7 σ8 H locs h hI => ?_)
      refine lv_if_ne (tgt := 27) hx hb dX11_like_22 (by decide) (fun c9 => ?_) (fun c9 => ?_)
      · replace h := h.1 c9
        refine lv_aload_n hx hb dX11_like_27 rfl (lv_at hl 0 rfl) ?_
        refine k_get (q0 := 0) (k := 20) (ci := 11) (v := .ref (ad 9)) hx hb hts inX11_like_X11 hown hI rfl rfl (by decide) mX11_like_fieldLink_59_StillTextModel_likes_I rfl rfl dX11_like_28 ?_
        refine lv_bipush (v := nI 26) hx hb dX11_like_31 (by decide) ?_
        refine lv_iload_n hx hb dX11_like_33 rfl (lv_at hl 1 rfl) ?_
        refine lv_bipush (v := nI 97) hx hb dX11_like_34 (by decide) ?_
        refine lv_isub hx hb dX11_like_36 ?_
        refine lv_imul hx hb dX11_like_37 ?_
        refine lv_iload_n hx hb dX11_like_38 rfl (lv_at hl 2 rfl) ?_
        refine lv_iadd hx hb dX11_like_39 ?_
        refine lv_bipush (v := nI 97) hx hb dX11_like_40 (by decide) ?_
        refine lv_isub hx hb dX11_like_42 ?_
        refine k_iald (q0 := 9) (t0 := 0) (n := 676) (f := σ8 9) hx hb hI rfl rfl h.1 dX11_like_43 ?_
        replace h := h.2
        refine lv_istore (lv' := [(4, .int (σ8 9 ((((nI 26) * (x1 - (nI 97))) + x2) - (nI 97)).toNatClampNeg)), (0, .ref (ad 0)), (1, .int x1), (2, .int x2), (3, .int x3)]) hx hb dX11_like_44 hl (by decide) rfl (fun ls hl => ?_)
        refine lv_aload_n hx hb dX11_like_46 rfl (lv_at hl 1 rfl) ?_
        refine k_get (q0 := 0) (k := 20) (ci := 11) (v := .ref (ad 9)) hx hb hts inX11_like_X11 hown hI rfl rfl (by decide) mX11_like_fieldLink_59_StillTextModel_likes_I rfl rfl dX11_like_47 ?_
        refine lv_bipush (v := nI 26) hx hb dX11_like_50 (by decide) ?_
        refine lv_iload_n hx hb dX11_like_52 rfl (lv_at hl 2 rfl) ?_
        refine lv_bipush (v := nI 97) hx hb dX11_like_53 (by decide) ?_
        refine lv_isub hx hb dX11_like_55 ?_
        refine lv_imul hx hb dX11_like_56 ?_
        refine lv_iload_n hx hb dX11_like_57 rfl (lv_at hl 3 rfl) ?_
        refine lv_iadd hx hb dX11_like_58 ?_
        refine lv_bipush (v := nI 97) hx hb dX11_like_59 (by decide) ?_
        refine lv_isub hx hb dX11_like_61 ?_
        refine lv_iload_n hx hb dX11_like_62 rfl (lv_at hl 4 rfl) ?_
        refine k_iast (q0 := 9) (t0 := 0) (n := 676) (σ' := up2 σ8 9 ((((nI 26) * (x1 - (nI 97))) + x2) - (nI 97)).toNatClampNeg x3) hx hb hI rfl rfl h.1 (wsM_9 _ _ _ _ _) dX11_like_63 (fun H locs hI => ?_)
        replace h := h.2
        refine lv_aload_n hx hb dX11_like_64 rfl (lv_at hl 1 rfl) ?_
        refine k_get (q0 := 0) (k := 20) (ci := 11) (v := .ref (ad 9)) hx hb hts inX11_like_X11 hown hI rfl rfl (by decide) mX11_like_fieldLink_59_StillTextModel_likes_I rfl rfl dX11_like_65 ?_
        refine lv_bipush (v := nI 26) hx hb dX11_like_68 (by decide) ?_
        refine lv_iload_n hx hb dX11_like_70 rfl (lv_at hl 3 rfl) ?_
        refine lv_bipush (v := nI 97) hx hb dX11_like_71 (by decide) ?_
        refine lv_isub hx hb dX11_like_73 ?_
        refine lv_imul hx hb dX11_like_74 ?_
        refine lv_iload_n hx hb dX11_like_75 rfl (lv_at hl 2 rfl) ?_
        refine lv_iadd hx hb dX11_like_76 ?_
        refine lv_bipush (v := nI 97) hx hb dX11_like_77 (by decide) ?_
        refine lv_isub hx hb dX11_like_79 ?_
        refine lv_iload_n hx hb dX11_like_80 rfl (lv_at hl 4 rfl) ?_
        refine k_iast (q0 := 9) (t0 := 0) (n := 676) (σ' := up2 (up2 σ8 9 ((((nI 26) * (x1 - (nI 97))) + x2) - (nI 97)).toNatClampNeg x3) 9 ((((nI 26) * (x2 - (nI 97))) + x1) - (nI 97)).toNatClampNeg x3) hx hb hI rfl rfl h.1 (wsM_9 _ _ _ _ _) dX11_like_81 (fun H locs hI => ?_)
        replace h := h.2
        refine lv_iload hx hb dX11_like_82 (lv_at hl 0 rfl) ?_
        exact k_iret hx hb hr hlocks hI h dX11_like_84
      · replace h := h.2 c9
        refine lv_iconst (v := (-1)) hx hb dX11_like_25 (by decide) ?_
        exact k_iret hx hb hr hlocks hI h dX11_like_26
theorem inX11_most_X11 : ∀ w ∈ wsX110, w ∈ wsX11_most := fun _ h => List.mem_cons_of_mem _ (List.mem_append_right _ (h))
theorem mX11_most_fieldLink_118_StillTextModel_units_I : Cond.fieldLink RX11 118 "StillTextModel" "units" "I" ∈ wsX11_most := List.mem_cons_of_mem _ (List.mem_append_left _ (List.mem_of_getElem? (i := 0) rfl))
set_option maxHeartbeats 4000000 in
set_option maxRecDepth 100000 in
theorem c_X11_most (σ : St) (x1 : Int32) (Q : Int32 → St → Prop) (h : wp_X11_most σ x1 Q) : Ci l D (tyM cyI) [] [] (wM cyI ad) yX11_most wsX11_most r_X11_most [.ref (ad 0), .int x1] σ Q := by
  refine k_metI (cc := cX11_most) (maxL := 2) (ret := (some .int)) (by decide) rfl (Nat.le_of_ble_eq_true rfl) ?_
  intro p e s m below meth c A ls C hI hl
  obtain ⟨hx, hb, hr, hml, hown, hts, hlocks⟩ := id C
  have hl : lv_has ls 2 [(0, .ref (ad 0)), (1, .int x1)] := hl
  unfold wp_X11_most at h
  refine lv_aload_n hx hb dX11_most_0 rfl (lv_at hl 0 rfl) ?_
  refine k_get (q0 := 0) (k := 0) (ci := 11) (v := .int (σ 0 0)) hx hb hts inX11_most_X11 hown hI rfl rfl (by decide) mX11_most_fieldLink_118_StillTextModel_units_I rfl rfl dX11_most_1 ?_
  refine lv_iload_n hx hb dX11_most_4 rfl (lv_at hl 1 rfl) ?_
  refine lv_isub hx hb dX11_most_5 ?_
  refine lv_bipush (v := nI 60) hx hb dX11_most_6 (by decide) ?_
  refine lv_icmp_ge (tgt := 20) hx hb dX11_most_8 (by decide) (fun c1 => ?_) (fun c1 => ?_)
  · replace h := h.1 c1
    refine lv_bipush (v := nI 60) hx hb dX11_most_20 (by decide) ?_
    exact k_iret hx hb hr hlocks hI h dX11_most_22
  · replace h := h.2 c1
    refine lv_aload_n hx hb dX11_most_11 rfl (lv_at hl 0 rfl) ?_
    refine k_get (q0 := 0) (k := 0) (ci := 11) (v := .int (σ 0 0)) hx hb hts inX11_most_X11 hown hI rfl rfl (by decide) mX11_most_fieldLink_118_StillTextModel_units_I rfl rfl dX11_most_12 ?_
    refine lv_iload_n hx hb dX11_most_15 rfl (lv_at hl 1 rfl) ?_
    refine lv_isub hx hb dX11_most_16 ?_
    refine lv_goto (tgt := 22) hx hb dX11_most_17 (by decide) ?_
    exact k_iret hx hb hr hlocks hI h dX11_most_22
theorem inX11_lays_X11 : ∀ w ∈ wsX110, w ∈ wsX11_lays := fun _ h => List.mem_cons_of_mem _ (List.mem_append_right _ (h))
theorem mX11_lays_fieldLink_7_StillTextModel_size_I : Cond.fieldLink RX11 7 "StillTextModel" "size" "[I" ∈ wsX11_lays := List.mem_cons_of_mem _ (List.mem_append_left _ (List.mem_of_getElem? (i := 2) rfl))
theorem mX11_lays_fieldLink_16_StillTextModel_behind_I : Cond.fieldLink RX11 16 "StillTextModel" "behind" "[I" ∈ wsX11_lays := List.mem_cons_of_mem _ (List.mem_append_left _ (List.mem_of_getElem? (i := 0) rfl))
theorem mX11_lays_fieldLink_38_StillTextModel_longest_I : Cond.fieldLink RX11 38 "StillTextModel" "longest" "I" ∈ wsX11_lays := List.mem_cons_of_mem _ (List.mem_append_left _ (List.mem_of_getElem? (i := 4) rfl))
theorem mX11_lays_fieldLink_13_StillTextModel_letter_I : Cond.fieldLink RX11 13 "StillTextModel" "letter" "[I" ∈ wsX11_lays := List.mem_cons_of_mem _ (List.mem_append_left _ (List.mem_of_getElem? (i := 3) rfl))
theorem mX11_lays_fieldLink_41_StillTextModel_spread_I : Cond.fieldLink RX11 41 "StillTextModel" "spread" "I" ∈ wsX11_lays := List.mem_cons_of_mem _ (List.mem_append_left _ (List.mem_of_getElem? (i := 1) rfl))
set_option maxHeartbeats 4000000 in
set_option maxRecDepth 100000 in
theorem t_X11_lays_10_64 {p : Program} {e : Env} {s : State} {m : MethodId} {args : Array Value} {below : List Frame} {meth : Method} {c : Code} {A : Nat → Prop} {x2 x3 x5 : Int32} {K6 : St → Int32 → Int32 → Prop} {Q : Int32 → St → Prop} (C : Cx p s m args meth c cX11_lays 7 (some .int) RX11 wsX11_lays) (hK6 : ∀ (σ : St) (x4 x5 : Int32) (H : Heap) (locs : List Loc) (ls : Array Slot), K6 σ x4 x5 → Iw D (tyM cyI) [] [] (wM cyI ad) A s H locs σ → lv_has ls 7 [(0, .ref (ad 0)), (1, .ref (ad 10)), (2, .int x2), (3, .int x3), (4, .int x4), (5, .int x5)] → W p l e r_X11_lays_10 s m args below meth c H locs 0 0 (MQ below (va_Qi Q (Kq D (tyM cyI) (wM cyI ad) A) A) args s 0 0 A) (F0 m 6 ls [])) :
    ∀ (n : Nat) (σ : St) (x4 x6 : Int32) (H : Heap) (locs : List Loc) (ls : Array Slot), wpl_X11_lays_10_64 x2 x3 x5 K6 Q n σ x4 x6 → Iw D (tyM cyI) [] [] (wM cyI ad) A s H locs σ → lv_has ls 7 [(0, .ref (ad 0)), (1, .ref (ad 10)), (2, .int x2), (3, .int x3), (4, .int x4), (5, .int x5), (6, .int x6)] → W p l e r_X11_lays_10 s m args below meth c H locs 0 0 (MQ below (va_Qi Q (Kq D (tyM cyI) (wM cyI ad) A) A) args s 0 0 A) (F0 m 64 ls []) := by
  obtain ⟨hx, hb, hr, hml, hown, hts, hlocks⟩ := id C
  intro n
  induction n with
  | zero =>
    intro _ _ _ _ _ _ h
    exact h.elim
  | succ n ih =>
    intro σ x4 x6 H locs ls h hI hl
    unfold wpl_X11_lays_10_64 at h
    refine lv_iload hx hb dX11_lays_64 (lv_at hl 6 rfl) ?_
    refine lv_aload_n hx hb dX11_lays_66 rfl (lv_at hl 0 rfl) ?_
    refine k_get (q0 := 0) (k := 1) (ci := 11) (v := .ref (ad 1)) hx hb hts inX11_lays_X11 hown hI rfl rfl (by decide) mX11_lays_fieldLink_7_StillTextModel_size_I rfl rfl dX11_lays_67 ?_
    refine lv_iload hx hb dX11_lays_70 (lv_at hl 5 rfl) ?_
    refine k_iald (q0 := 1) (t0 := 0) (n := 80) (f := σ 1) hx hb hI rfl rfl h.1 dX11_lays_72 ?_
    replace h := h.2
    refine lv_icmp_ge (tgt := 102) hx hb dX11_lays_73 (by decide) (fun c3 => ?_) (fun c3 => ?_)
    · replace h := h.1 c3
      refine lv_aload_n hx hb dX11_lays_102 rfl (lv_at hl 0 rfl) ?_
      refine k_get (q0 := 0) (k := 3) (ci := 11) (v := .ref (ad 3)) hx hb hts inX11_lays_X11 hown hI rfl rfl (by decide) mX11_lays_fieldLink_16_StillTextModel_behind_I rfl rfl dX11_lays_103 ?_
      refine lv_iload hx hb dX11_lays_106 (lv_at hl 5 rfl) ?_
      refine k_iald (q0 := 3) (t0 := 0) (n := 80) (f := σ 3) hx hb hI rfl rfl h.1 dX11_lays_108 ?_
      replace h := h.2
      refine lv_bipush (v := nI 44) hx hb dX11_lays_109 (by decide) ?_
      refine lv_icmp_eq (tgt := 148) hx hb dX11_lays_111 (by decide) (fun c4 => ?_) (fun c4 => ?_)
      · replace h := h.1 c4
        refine lv_iconst (v := nI 1) hx hb dX11_lays_148 (by decide) ?_
        refine lv_goto (tgt := 153) hx hb dX11_lays_149 (by decide) ?_
        refine lv_istore (lv' := [(6, .int (nI 1)), (0, .ref (ad 0)), (1, .ref (ad 10)), (2, .int x2), (3, .int x3), (4, .int x4), (5, .int x5)]) hx hb dX11_lays_153 hl (by decide) rfl (fun ls hl => ?_)
        refine lv_iload hx hb dX11_lays_155 (lv_at hl 0 rfl) ?_
        refine lv_if_eq (tgt := 174) hx hb dX11_lays_157 (by decide) (fun c5 => ?_) (fun c5 => ?_)
        · exact absurd c5 (by decide)
        · refine lv_aload_n hx hb dX11_lays_160 rfl (lv_at hl 2 rfl) ?_
          refine lv_iload hx hb dX11_lays_161 (lv_at hl 5 rfl) ?_
          refine lv_aload_n hx hb dX11_lays_163 rfl (lv_at hl 1 rfl) ?_
          refine k_get (q0 := 0) (k := 3) (ci := 11) (v := .ref (ad 3)) hx hb hts inX11_lays_X11 hown hI rfl rfl (by decide) mX11_lays_fieldLink_16_StillTextModel_behind_I rfl rfl dX11_lays_164 ?_
          refine lv_iload hx hb dX11_lays_167 (lv_at hl 6 rfl) ?_
          refine k_iald (q0 := 3) (t0 := 0) (n := 80) (f := σ 3) hx hb hI rfl rfl h.1 dX11_lays_169 ?_
          replace h := h.2
          refine k_iast (q0 := 10) (t0 := 0) (n := 200) (σ' := up2 σ 10 x4.toNatClampNeg (σ 3 x5.toNatClampNeg)) hx hb hI rfl rfl h.1 (wsM_10 _ _ _ _ _) dX11_lays_170 (fun H locs hI => ?_)
          replace h := h.2
          refine lv_iinc (v := (x4 + nI 1)) (lv' := [(4, .int (x4 + nI 1)), (6, .int (nI 1)), (0, .ref (ad 0)), (1, .ref (ad 10)), (2, .int x2), (3, .int x3), (5, .int x5)]) hx hb dX11_lays_171 hl (k := 5) rfl rfl (by decide) rfl (fun ls hl => ?_)
          refine lv_iload hx hb dX11_lays_174 (lv_at hl 0 rfl) ?_
          refine lv_aload_n hx hb dX11_lays_176 rfl (lv_at hl 2 rfl) ?_
          refine k_get (q0 := 0) (k := 13) (ci := 11) (v := .int (σ 0 13)) hx hb hts inX11_lays_X11 hown hI rfl rfl (by decide) mX11_lays_fieldLink_38_StillTextModel_longest_I rfl rfl dX11_lays_177 ?_
          refine lv_icmp_le (tgt := 185) hx hb dX11_lays_180 (by decide) (fun c6 => ?_) (fun c6 => ?_)
          · replace h := h.1 c6
            refine lv_iinc (v := (x5 + nI 1)) (lv' := [(5, .int (x5 + nI 1)), (4, .int (x4 + nI 1)), (6, .int (nI 1)), (0, .ref (ad 0)), (1, .ref (ad 10)), (2, .int x2), (3, .int x3)]) hx hb dX11_lays_185 hl (k := 6) rfl rfl (by decide) rfl (fun ls hl => ?_)
            refine lv_goto (tgt := 6) hx hb dX11_lays_188 (by decide) ?_
            exact hK6 _ _ _ _ _ _ h hI (lv_sub hl [3, 4, 5, 6, 1, 0] rfl)
          · replace h := h.2 c6
            refine lv_iconst (v := (-1)) hx hb dX11_lays_183 (by decide) ?_
            exact k_iret hx hb hr hlocks hI h dX11_lays_184
      · replace h := h.2 c4
        refine lv_aload_n hx hb dX11_lays_114 rfl (lv_at hl 0 rfl) ?_
        refine k_get (q0 := 0) (k := 3) (ci := 11) (v := .ref (ad 3)) hx hb hts inX11_lays_X11 hown hI rfl rfl (by decide) mX11_lays_fieldLink_16_StillTextModel_behind_I rfl rfl dX11_lays_115 ?_
        refine lv_iload hx hb dX11_lays_118 (lv_at hl 5 rfl) ?_
        refine k_iald (q0 := 3) (t0 := 0) (n := 80) (f := σ 3) hx hb hI rfl rfl h.1 dX11_lays_120 ?_
        replace h := h.2
        refine lv_bipush (v := nI 46) hx hb dX11_lays_121 (by decide) ?_
        refine lv_icmp_eq (tgt := 148) hx hb dX11_lays_123 (by decide) (fun c7 => ?_) (fun c7 => ?_)
        · replace h := h.1 c7
          refine lv_iconst (v := nI 1) hx hb dX11_lays_148 (by decide) ?_
          refine lv_goto (tgt := 153) hx hb dX11_lays_149 (by decide) ?_
          refine lv_istore (lv' := [(6, .int (nI 1)), (0, .ref (ad 0)), (1, .ref (ad 10)), (2, .int x2), (3, .int x3), (4, .int x4), (5, .int x5)]) hx hb dX11_lays_153 hl (by decide) rfl (fun ls hl => ?_)
          refine lv_iload hx hb dX11_lays_155 (lv_at hl 0 rfl) ?_
          refine lv_if_eq (tgt := 174) hx hb dX11_lays_157 (by decide) (fun c8 => ?_) (fun c8 => ?_)
          · exact absurd c8 (by decide)
          · refine lv_aload_n hx hb dX11_lays_160 rfl (lv_at hl 2 rfl) ?_
            refine lv_iload hx hb dX11_lays_161 (lv_at hl 5 rfl) ?_
            refine lv_aload_n hx hb dX11_lays_163 rfl (lv_at hl 1 rfl) ?_
            refine k_get (q0 := 0) (k := 3) (ci := 11) (v := .ref (ad 3)) hx hb hts inX11_lays_X11 hown hI rfl rfl (by decide) mX11_lays_fieldLink_16_StillTextModel_behind_I rfl rfl dX11_lays_164 ?_
            refine lv_iload hx hb dX11_lays_167 (lv_at hl 6 rfl) ?_
            refine k_iald (q0 := 3) (t0 := 0) (n := 80) (f := σ 3) hx hb hI rfl rfl h.1 dX11_lays_169 ?_
            replace h := h.2
            refine k_iast (q0 := 10) (t0 := 0) (n := 200) (σ' := up2 σ 10 x4.toNatClampNeg (σ 3 x5.toNatClampNeg)) hx hb hI rfl rfl h.1 (wsM_10 _ _ _ _ _) dX11_lays_170 (fun H locs hI => ?_)
            replace h := h.2
            refine lv_iinc (v := (x4 + nI 1)) (lv' := [(4, .int (x4 + nI 1)), (6, .int (nI 1)), (0, .ref (ad 0)), (1, .ref (ad 10)), (2, .int x2), (3, .int x3), (5, .int x5)]) hx hb dX11_lays_171 hl (k := 5) rfl rfl (by decide) rfl (fun ls hl => ?_)
            refine lv_iload hx hb dX11_lays_174 (lv_at hl 0 rfl) ?_
            refine lv_aload_n hx hb dX11_lays_176 rfl (lv_at hl 2 rfl) ?_
            refine k_get (q0 := 0) (k := 13) (ci := 11) (v := .int (σ 0 13)) hx hb hts inX11_lays_X11 hown hI rfl rfl (by decide) mX11_lays_fieldLink_38_StillTextModel_longest_I rfl rfl dX11_lays_177 ?_
            refine lv_icmp_le (tgt := 185) hx hb dX11_lays_180 (by decide) (fun c9 => ?_) (fun c9 => ?_)
            · replace h := h.1 c9
              refine lv_iinc (v := (x5 + nI 1)) (lv' := [(5, .int (x5 + nI 1)), (4, .int (x4 + nI 1)), (6, .int (nI 1)), (0, .ref (ad 0)), (1, .ref (ad 10)), (2, .int x2), (3, .int x3)]) hx hb dX11_lays_185 hl (k := 6) rfl rfl (by decide) rfl (fun ls hl => ?_)
              refine lv_goto (tgt := 6) hx hb dX11_lays_188 (by decide) ?_
              exact hK6 _ _ _ _ _ _ h hI (lv_sub hl [3, 4, 5, 6, 1, 0] rfl)
            · replace h := h.2 c9
              refine lv_iconst (v := (-1)) hx hb dX11_lays_183 (by decide) ?_
              exact k_iret hx hb hr hlocks hI h dX11_lays_184
        · replace h := h.2 c7
          refine lv_aload_n hx hb dX11_lays_126 rfl (lv_at hl 0 rfl) ?_
          refine k_get (q0 := 0) (k := 3) (ci := 11) (v := .ref (ad 3)) hx hb hts inX11_lays_X11 hown hI rfl rfl (by decide) mX11_lays_fieldLink_16_StillTextModel_behind_I rfl rfl dX11_lays_127 ?_
          refine lv_iload hx hb dX11_lays_130 (lv_at hl 5 rfl) ?_
          refine k_iald (q0 := 3) (t0 := 0) (n := 80) (f := σ 3) hx hb hI rfl rfl h.1 dX11_lays_132 ?_
          replace h := h.2
          refine lv_bipush (v := nI 45) hx hb dX11_lays_133 (by decide) ?_
          refine lv_icmp_ne (tgt := 152) hx hb dX11_lays_135 (by decide) (fun c10 => ?_) (fun c10 => ?_)
          · replace h := h.1 c10
            refine lv_iconst (v := nI 0) hx hb dX11_lays_152 (by decide) ?_
            refine lv_istore (lv' := [(6, .int (nI 0)), (0, .ref (ad 0)), (1, .ref (ad 10)), (2, .int x2), (3, .int x3), (4, .int x4), (5, .int x5)]) hx hb dX11_lays_153 hl (by decide) rfl (fun ls hl => ?_)
            refine lv_iload hx hb dX11_lays_155 (lv_at hl 0 rfl) ?_
            refine lv_if_eq (tgt := 174) hx hb dX11_lays_157 (by decide) (fun c11 => ?_) (fun c11 => ?_)
            · refine lv_iload hx hb dX11_lays_174 (lv_at hl 5 rfl) ?_
              refine lv_aload_n hx hb dX11_lays_176 rfl (lv_at hl 1 rfl) ?_
              refine k_get (q0 := 0) (k := 13) (ci := 11) (v := .int (σ 0 13)) hx hb hts inX11_lays_X11 hown hI rfl rfl (by decide) mX11_lays_fieldLink_38_StillTextModel_longest_I rfl rfl dX11_lays_177 ?_
              refine lv_icmp_le (tgt := 185) hx hb dX11_lays_180 (by decide) (fun c12 => ?_) (fun c12 => ?_)
              · replace h := h.1 c12
                refine lv_iinc (v := (x5 + nI 1)) (lv' := [(5, .int (x5 + nI 1)), (6, .int (nI 0)), (0, .ref (ad 0)), (1, .ref (ad 10)), (2, .int x2), (3, .int x3), (4, .int x4)]) hx hb dX11_lays_185 hl (k := 6) rfl rfl (by decide) rfl (fun ls hl => ?_)
                refine lv_goto (tgt := 6) hx hb dX11_lays_188 (by decide) ?_
                exact hK6 _ _ _ _ _ _ h hI (lv_sub hl [2, 3, 4, 5, 6, 0] rfl)
              · replace h := h.2 c12
                refine lv_iconst (v := (-1)) hx hb dX11_lays_183 (by decide) ?_
                exact k_iret hx hb hr hlocks hI h dX11_lays_184
            · exact absurd c11 (by decide)
          · replace h := h.2 c10
            refine lv_iload hx hb dX11_lays_138 (lv_at hl 5 rfl) ?_
            refine lv_iload_n hx hb dX11_lays_140 rfl (lv_at hl 2 rfl) ?_
            refine lv_iload_n hx hb dX11_lays_141 rfl (lv_at hl 3 rfl) ?_
            refine lv_iadd hx hb dX11_lays_142 ?_
            refine lv_iconst (v := nI 1) hx hb dX11_lays_143 (by decide) ?_
            refine lv_isub hx hb dX11_lays_144 ?_
            refine lv_icmp_ne (tgt := 152) hx hb dX11_lays_145 (by decide) (fun c13 => ?_) (fun c13 => ?_)
            · replace h := h.1 c13
              refine lv_iconst (v := nI 0) hx hb dX11_lays_152 (by decide) ?_
              refine lv_istore (lv' := [(6, .int (nI 0)), (0, .ref (ad 0)), (1, .ref (ad 10)), (2, .int x2), (3, .int x3), (4, .int x4), (5, .int x5)]) hx hb dX11_lays_153 hl (by decide) rfl (fun ls hl => ?_)
              refine lv_iload hx hb dX11_lays_155 (lv_at hl 0 rfl) ?_
              refine lv_if_eq (tgt := 174) hx hb dX11_lays_157 (by decide) (fun c14 => ?_) (fun c14 => ?_)
              · refine lv_iload hx hb dX11_lays_174 (lv_at hl 5 rfl) ?_
                refine lv_aload_n hx hb dX11_lays_176 rfl (lv_at hl 1 rfl) ?_
                refine k_get (q0 := 0) (k := 13) (ci := 11) (v := .int (σ 0 13)) hx hb hts inX11_lays_X11 hown hI rfl rfl (by decide) mX11_lays_fieldLink_38_StillTextModel_longest_I rfl rfl dX11_lays_177 ?_
                refine lv_icmp_le (tgt := 185) hx hb dX11_lays_180 (by decide) (fun c15 => ?_) (fun c15 => ?_)
                · replace h := h.1 c15
                  refine lv_iinc (v := (x5 + nI 1)) (lv' := [(5, .int (x5 + nI 1)), (6, .int (nI 0)), (0, .ref (ad 0)), (1, .ref (ad 10)), (2, .int x2), (3, .int x3), (4, .int x4)]) hx hb dX11_lays_185 hl (k := 6) rfl rfl (by decide) rfl (fun ls hl => ?_)
                  refine lv_goto (tgt := 6) hx hb dX11_lays_188 (by decide) ?_
                  exact hK6 _ _ _ _ _ _ h hI (lv_sub hl [2, 3, 4, 5, 6, 0] rfl)
                · replace h := h.2 c15
                  refine lv_iconst (v := (-1)) hx hb dX11_lays_183 (by decide) ?_
                  exact k_iret hx hb hr hlocks hI h dX11_lays_184
              · exact absurd c14 (by decide)
            · replace h := h.2 c13
              refine lv_iconst (v := nI 1) hx hb dX11_lays_148 (by decide) ?_
              refine lv_goto (tgt := 153) hx hb dX11_lays_149 (by decide) ?_
              refine lv_istore (lv' := [(6, .int (nI 1)), (0, .ref (ad 0)), (1, .ref (ad 10)), (2, .int x2), (3, .int x3), (4, .int x4), (5, .int x5)]) hx hb dX11_lays_153 hl (by decide) rfl (fun ls hl => ?_)
              refine lv_iload hx hb dX11_lays_155 (lv_at hl 0 rfl) ?_
              refine lv_if_eq (tgt := 174) hx hb dX11_lays_157 (by decide) (fun c16 => ?_) (fun c16 => ?_)
              · exact absurd c16 (by decide)
              · refine lv_aload_n hx hb dX11_lays_160 rfl (lv_at hl 2 rfl) ?_
                refine lv_iload hx hb dX11_lays_161 (lv_at hl 5 rfl) ?_
                refine lv_aload_n hx hb dX11_lays_163 rfl (lv_at hl 1 rfl) ?_
                refine k_get (q0 := 0) (k := 3) (ci := 11) (v := .ref (ad 3)) hx hb hts inX11_lays_X11 hown hI rfl rfl (by decide) mX11_lays_fieldLink_16_StillTextModel_behind_I rfl rfl dX11_lays_164 ?_
                refine lv_iload hx hb dX11_lays_167 (lv_at hl 6 rfl) ?_
                refine k_iald (q0 := 3) (t0 := 0) (n := 80) (f := σ 3) hx hb hI rfl rfl h.1 dX11_lays_169 ?_
                replace h := h.2
                refine k_iast (q0 := 10) (t0 := 0) (n := 200) (σ' := up2 σ 10 x4.toNatClampNeg (σ 3 x5.toNatClampNeg)) hx hb hI rfl rfl h.1 (wsM_10 _ _ _ _ _) dX11_lays_170 (fun H locs hI => ?_)
                replace h := h.2
                refine lv_iinc (v := (x4 + nI 1)) (lv' := [(4, .int (x4 + nI 1)), (6, .int (nI 1)), (0, .ref (ad 0)), (1, .ref (ad 10)), (2, .int x2), (3, .int x3), (5, .int x5)]) hx hb dX11_lays_171 hl (k := 5) rfl rfl (by decide) rfl (fun ls hl => ?_)
                refine lv_iload hx hb dX11_lays_174 (lv_at hl 0 rfl) ?_
                refine lv_aload_n hx hb dX11_lays_176 rfl (lv_at hl 2 rfl) ?_
                refine k_get (q0 := 0) (k := 13) (ci := 11) (v := .int (σ 0 13)) hx hb hts inX11_lays_X11 hown hI rfl rfl (by decide) mX11_lays_fieldLink_38_StillTextModel_longest_I rfl rfl dX11_lays_177 ?_
                refine lv_icmp_le (tgt := 185) hx hb dX11_lays_180 (by decide) (fun c17 => ?_) (fun c17 => ?_)
                · replace h := h.1 c17
                  refine lv_iinc (v := (x5 + nI 1)) (lv' := [(5, .int (x5 + nI 1)), (4, .int (x4 + nI 1)), (6, .int (nI 1)), (0, .ref (ad 0)), (1, .ref (ad 10)), (2, .int x2), (3, .int x3)]) hx hb dX11_lays_185 hl (k := 6) rfl rfl (by decide) rfl (fun ls hl => ?_)
                  refine lv_goto (tgt := 6) hx hb dX11_lays_188 (by decide) ?_
                  exact hK6 _ _ _ _ _ _ h hI (lv_sub hl [3, 4, 5, 6, 1, 0] rfl)
                · replace h := h.2 c17
                  refine lv_iconst (v := (-1)) hx hb dX11_lays_183 (by decide) ?_
                  exact k_iret hx hb hr hlocks hI h dX11_lays_184
    · replace h := h.2 c3
      refine lv_aload_n hx hb dX11_lays_76 rfl (lv_at hl 1 rfl) ?_
      refine lv_iload hx hb dX11_lays_77 (lv_at hl 4 rfl) ?_
      refine lv_aload_n hx hb dX11_lays_79 rfl (lv_at hl 0 rfl) ?_
      refine k_get (q0 := 0) (k := 2) (ci := 11) (v := .ref (ad 2)) hx hb hts inX11_lays_X11 hown hI rfl rfl (by decide) mX11_lays_fieldLink_13_StillTextModel_letter_I rfl rfl dX11_lays_80 ?_
      refine lv_bipush (v := nI 20) hx hb dX11_lays_83 (by decide) ?_
      refine lv_iload hx hb dX11_lays_85 (lv_at hl 5 rfl) ?_
      refine lv_imul hx hb dX11_lays_87 ?_
      refine lv_iload hx hb dX11_lays_88 (lv_at hl 6 rfl) ?_
      refine lv_iadd hx hb dX11_lays_90 ?_
      refine k_iald (q0 := 2) (t0 := 0) (n := 1600) (f := σ 2) hx hb hI rfl rfl h.1 dX11_lays_91 ?_
      replace h := h.2
      refine k_iast (q0 := 10) (t0 := 0) (n := 200) (σ' := up2 σ 10 x4.toNatClampNeg (σ 2 (((nI 20) * x5) + x6).toNatClampNeg)) hx hb hI rfl rfl h.1 (wsM_10 _ _ _ _ _) dX11_lays_92 (fun H locs hI => ?_)
      replace h := h.2
      refine lv_iinc (v := (x4 + nI 1)) (lv' := [(4, .int (x4 + nI 1)), (0, .ref (ad 0)), (1, .ref (ad 10)), (2, .int x2), (3, .int x3), (5, .int x5), (6, .int x6)]) hx hb dX11_lays_93 hl (k := 4) rfl rfl (by decide) rfl (fun ls hl => ?_)
      refine lv_iinc (v := (x6 + nI 1)) (lv' := [(6, .int (x6 + nI 1)), (4, .int (x4 + nI 1)), (0, .ref (ad 0)), (1, .ref (ad 10)), (2, .int x2), (3, .int x3), (5, .int x5)]) hx hb dX11_lays_96 hl (k := 6) rfl rfl (by decide) rfl (fun ls hl => ?_)
      refine lv_goto (tgt := 64) hx hb dX11_lays_99 (by decide) ?_
      exact ih _ _ _ _ _ _ h hI (lv_sub hl [2, 3, 4, 5, 1, 6, 0] rfl)
set_option maxHeartbeats 4000000 in
set_option maxRecDepth 100000 in
theorem t_X11_lays_10_37 {p : Program} {e : Env} {s : State} {m : MethodId} {args : Array Value} {below : List Frame} {meth : Method} {c : Code} {A : Nat → Prop} {x2 x3 x5 : Int32} {K6 : St → Int32 → Int32 → Prop} {Q : Int32 → St → Prop} (C : Cx p s m args meth c cX11_lays 7 (some .int) RX11 wsX11_lays) (hK6 : ∀ (σ : St) (x4 x5 : Int32) (H : Heap) (locs : List Loc) (ls : Array Slot), K6 σ x4 x5 → Iw D (tyM cyI) [] [] (wM cyI ad) A s H locs σ → lv_has ls 7 [(0, .ref (ad 0)), (1, .ref (ad 10)), (2, .int x2), (3, .int x3), (4, .int x4), (5, .int x5)] → W p l e r_X11_lays_10 s m args below meth c H locs 0 0 (MQ below (va_Qi Q (Kq D (tyM cyI) (wM cyI ad) A) A) args s 0 0 A) (F0 m 6 ls [])) :
    ∀ (n : Nat) (σ : St) (x4 x6 : Int32) (H : Heap) (locs : List Loc) (ls : Array Slot), wpl_X11_lays_10_37 x2 x3 x5 K6 Q n σ x4 x6 → Iw D (tyM cyI) [] [] (wM cyI ad) A s H locs σ → lv_has ls 7 [(0, .ref (ad 0)), (1, .ref (ad 10)), (2, .int x2), (3, .int x3), (4, .int x4), (5, .int x5), (6, .int x6)] → W p l e r_X11_lays_10 s m args below meth c H locs 0 0 (MQ below (va_Qi Q (Kq D (tyM cyI) (wM cyI ad) A) A) args s 0 0 A) (F0 m 37 ls []) := by
  obtain ⟨hx, hb, hr, hml, hown, hts, hlocks⟩ := id C
  intro n
  induction n with
  | zero =>
    intro _ _ _ _ _ _ h
    exact h.elim
  | succ n ih =>
    intro σ x4 x6 H locs ls h hI hl
    unfold wpl_X11_lays_10_37 at h
    refine lv_iload hx hb dX11_lays_37 (lv_at hl 6 rfl) ?_
    refine lv_aload_n hx hb dX11_lays_39 rfl (lv_at hl 0 rfl) ?_
    refine k_get (q0 := 0) (k := 14) (ci := 11) (v := .int (σ 0 14)) hx hb hts inX11_lays_X11 hown hI rfl rfl (by decide) mX11_lays_fieldLink_41_StillTextModel_spread_I rfl rfl dX11_lays_40 ?_
    refine lv_icmp_ge (tgt := 61) hx hb dX11_lays_43 (by decide) (fun c21 => ?_) (fun c21 => ?_)
    · replace h := h.1 c21
      refine lv_iconst (v := nI 0) hx hb dX11_lays_61 (by decide) ?_
      refine lv_istore (lv' := [(6, .int (nI 0)), (0, .ref (ad 0)), (1, .ref (ad 10)), (2, .int x2), (3, .int x3), (4, .int x4), (5, .int x5)]) hx hb dX11_lays_62 hl (by decide) rfl (fun ls hl => ?_)
      obtain ⟨k22, h⟩ := h
      exact t_X11_lays_10_64 C hK6 k22 _ _ _ _ _ _ h hI (lv_sub hl [1, 2, 3, 4, 5, 6, 0] rfl)
    · replace h := h.2 c21
      refine lv_aload_n hx hb dX11_lays_46 rfl (lv_at hl 1 rfl) ?_
      refine lv_iload hx hb dX11_lays_47 (lv_at hl 4 rfl) ?_
      refine lv_bipush (v := nI 32) hx hb dX11_lays_49 (by decide) ?_
      refine k_iast (q0 := 10) (t0 := 0) (n := 200) (σ' := up2 σ 10 x4.toNatClampNeg (nI 32)) hx hb hI rfl rfl h.1 (wsM_10 _ _ _ _ _) dX11_lays_51 (fun H locs hI => ?_)
      replace h := h.2
      refine lv_iinc (v := (x4 + nI 1)) (lv' := [(4, .int (x4 + nI 1)), (0, .ref (ad 0)), (1, .ref (ad 10)), (2, .int x2), (3, .int x3), (5, .int x5), (6, .int x6)]) hx hb dX11_lays_52 hl (k := 4) rfl rfl (by decide) rfl (fun ls hl => ?_)
      refine lv_iinc (v := (x6 + nI 1)) (lv' := [(6, .int (x6 + nI 1)), (4, .int (x4 + nI 1)), (0, .ref (ad 0)), (1, .ref (ad 10)), (2, .int x2), (3, .int x3), (5, .int x5)]) hx hb dX11_lays_55 hl (k := 6) rfl rfl (by decide) rfl (fun ls hl => ?_)
      refine lv_goto (tgt := 37) hx hb dX11_lays_58 (by decide) ?_
      exact ih _ _ _ _ _ _ h hI (lv_sub hl [2, 3, 4, 5, 1, 6, 0] rfl)
set_option maxHeartbeats 4000000 in
set_option maxRecDepth 100000 in
theorem t_X11_lays_10_6 {p : Program} {e : Env} {s : State} {m : MethodId} {args : Array Value} {below : List Frame} {meth : Method} {c : Code} {A : Nat → Prop} {x2 x3 : Int32}  {Q : Int32 → St → Prop} (C : Cx p s m args meth c cX11_lays 7 (some .int) RX11 wsX11_lays) :
    ∀ (n : Nat) (σ : St) (x4 x5 : Int32) (H : Heap) (locs : List Loc) (ls : Array Slot), wpl_X11_lays_10_6 x2 x3 Q n σ x4 x5 → Iw D (tyM cyI) [] [] (wM cyI ad) A s H locs σ → lv_has ls 7 [(0, .ref (ad 0)), (1, .ref (ad 10)), (2, .int x2), (3, .int x3), (4, .int x4), (5, .int x5)] → W p l e r_X11_lays_10 s m args below meth c H locs 0 0 (MQ below (va_Qi Q (Kq D (tyM cyI) (wM cyI ad) A) A) args s 0 0 A) (F0 m 6 ls []) := by
  obtain ⟨hx, hb, hr, hml, hown, hts, hlocks⟩ := id C
  intro n
  induction n with
  | zero =>
    intro _ _ _ _ _ _ h
    exact h.elim
  | succ n ih =>
    intro σ x4 x5 H locs ls h hI hl
    unfold wpl_X11_lays_10_6 at h
    refine lv_iload hx hb dX11_lays_6 (lv_at hl 5 rfl) ?_
    refine lv_iload_n hx hb dX11_lays_8 rfl (lv_at hl 2 rfl) ?_
    refine lv_iload_n hx hb dX11_lays_9 rfl (lv_at hl 3 rfl) ?_
    refine lv_iadd hx hb dX11_lays_10 ?_
    refine lv_icmp_ge (tgt := 191) hx hb dX11_lays_11 (by decide) (fun c1 => ?_) (fun c1 => ?_)
    · replace h := h.1 c1
      refine lv_iload hx hb dX11_lays_191 (lv_at hl 4 rfl) ?_
      exact k_iret hx hb hr hlocks hI h dX11_lays_193
    · replace h := h.2 c1
      refine lv_iload hx hb dX11_lays_14 (lv_at hl 5 rfl) ?_
      refine lv_iload_n hx hb dX11_lays_16 rfl (lv_at hl 2 rfl) ?_
      refine lv_icmp_le (tgt := 61) hx hb dX11_lays_17 (by decide) (fun c2 => ?_) (fun c2 => ?_)
      · replace h := h.1 c2
        refine lv_iconst (v := nI 0) hx hb dX11_lays_61 (by decide) ?_
        refine lv_istore (lv' := [(6, .int (nI 0)), (0, .ref (ad 0)), (1, .ref (ad 10)), (2, .int x2), (3, .int x3), (4, .int x4), (5, .int x5)]) hx hb dX11_lays_62 hl (by decide) rfl (fun ls hl => ?_)
        obtain ⟨k18, h⟩ := h
        exact t_X11_lays_10_64 C ih k18 _ _ _ _ _ _ h hI (lv_sub hl [1, 2, 3, 4, 5, 6, 0] rfl)
      · replace h := h.2 c2
        refine lv_aload_n hx hb dX11_lays_20 rfl (lv_at hl 0 rfl) ?_
        refine k_get (q0 := 0) (k := 3) (ci := 11) (v := .ref (ad 3)) hx hb hts inX11_lays_X11 hown hI rfl rfl (by decide) mX11_lays_fieldLink_16_StillTextModel_behind_I rfl rfl dX11_lays_21 ?_
        refine lv_iload hx hb dX11_lays_24 (lv_at hl 5 rfl) ?_
        refine lv_iconst (v := nI 1) hx hb dX11_lays_26 (by decide) ?_
        refine lv_isub hx hb dX11_lays_27 ?_
        refine k_iald (q0 := 3) (t0 := 0) (n := 80) (f := σ 3) hx hb hI rfl rfl h.1 dX11_lays_28 ?_
        replace h := h.2
        refine lv_bipush (v := nI 45) hx hb dX11_lays_29 (by decide) ?_
        refine lv_icmp_eq (tgt := 61) hx hb dX11_lays_31 (by decide) (fun c19 => ?_) (fun c19 => ?_)
        · replace h := h.1 c19
          refine lv_iconst (v := nI 0) hx hb dX11_lays_61 (by decide) ?_
          refine lv_istore (lv' := [(6, .int (nI 0)), (0, .ref (ad 0)), (1, .ref (ad 10)), (2, .int x2), (3, .int x3), (4, .int x4), (5, .int x5)]) hx hb dX11_lays_62 hl (by decide) rfl (fun ls hl => ?_)
          obtain ⟨k20, h⟩ := h
          exact t_X11_lays_10_64 C ih k20 _ _ _ _ _ _ h hI (lv_sub hl [1, 2, 3, 4, 5, 6, 0] rfl)
        · replace h := h.2 c19
          refine lv_iconst (v := nI 0) hx hb dX11_lays_34 (by decide) ?_
          refine lv_istore (lv' := [(6, .int (nI 0)), (0, .ref (ad 0)), (1, .ref (ad 10)), (2, .int x2), (3, .int x3), (4, .int x4), (5, .int x5)]) hx hb dX11_lays_35 hl (by decide) rfl (fun ls hl => ?_)
          obtain ⟨k23, h⟩ := h
          exact t_X11_lays_10_37 C ih k23 _ _ _ _ _ _ h hI (lv_sub hl [1, 2, 3, 4, 5, 6, 0] rfl)
set_option maxHeartbeats 4000000 in
set_option maxRecDepth 100000 in
theorem c_X11_lays_10 (σ : St) (x2 x3 : Int32) (Q : Int32 → St → Prop) (h : wp_X11_lays_10 σ x2 x3 Q) : Ci l D (tyM cyI) [] [] (wM cyI ad) yX11_lays wsX11_lays r_X11_lays_10 [.ref (ad 0), .ref (ad 10), .int x2, .int x3] σ Q := by
  refine k_metI (cc := cX11_lays) (maxL := 7) (ret := (some .int)) (by decide) rfl (Nat.le_of_ble_eq_true rfl) ?_
  intro p e s m below meth c A ls C hI hl
  obtain ⟨hx, hb, hr, hml, hown, hts, hlocks⟩ := id C
  have hl : lv_has ls 7 [(0, .ref (ad 0)), (1, .ref (ad 10)), (2, .int x2), (3, .int x3)] := hl
  unfold wp_X11_lays_10 at h
  refine lv_iconst (v := nI 0) hx hb dX11_lays_0 (by decide) ?_
  refine lv_istore (lv' := [(4, .int (nI 0)), (0, .ref (ad 0)), (1, .ref (ad 10)), (2, .int x2), (3, .int x3)]) hx hb dX11_lays_1 hl (by decide) rfl (fun ls hl => ?_)
  refine lv_iload_n hx hb dX11_lays_3 rfl (lv_at hl 3 rfl) ?_
  refine lv_istore (lv' := [(5, .int x2), (4, .int (nI 0)), (0, .ref (ad 0)), (1, .ref (ad 10)), (2, .int x2), (3, .int x3)]) hx hb dX11_lays_4 hl (by decide) rfl (fun ls hl => ?_)
  obtain ⟨k24, h⟩ := h
  exact t_X11_lays_10_6 C  k24 _ _ _ _ _ _ h hI (lv_sub hl [2, 3, 4, 5, 1, 0] rfl)
set_option maxHeartbeats 4000000 in
set_option maxRecDepth 100000 in
theorem c_X11_place (σ : St) (x1 x2 : Int32) (Q : Int32 → St → Prop) (h : wp_X11_place σ x1 x2 Q) : Ci l D (tyM cyI) [] [] (wM cyI ad) yX11_place wsX11_place r_X11_place [.ref (ad 0), .int x1, .int x2] σ Q := by
  refine k_metI (cc := cX11_place) (maxL := 3) (ret := (some .int)) (by decide) rfl (Nat.le_of_ble_eq_true rfl) ?_
  intro p e s m below meth c A ls C hI hl
  obtain ⟨hx, hb, hr, hml, hown, hts, hlocks⟩ := id C
  have hl : lv_has ls 3 [(0, .ref (ad 0)), (1, .int x1), (2, .int x2)] := hl
  unfold wp_X11_place at h
  refine lv_bipush (v := nI 61) hx hb dX11_place_0 (by decide) ?_
  refine lv_iload_n hx hb dX11_place_2 rfl (lv_at hl 1 rfl) ?_
  refine lv_imul hx hb dX11_place_3 ?_
  refine lv_iload_n hx hb dX11_place_4 rfl (lv_at hl 2 rfl) ?_
  refine lv_iadd hx hb dX11_place_5 ?_
  exact k_iret hx hb hr hlocks hI h dX11_place_6
set_option maxHeartbeats 4000000 in
set_option maxRecDepth 100000 in
theorem t_X11_lays_11_64 {p : Program} {e : Env} {s : State} {m : MethodId} {args : Array Value} {below : List Frame} {meth : Method} {c : Code} {A : Nat → Prop} {x2 x3 x5 : Int32} {K6 : St → Int32 → Int32 → Prop} {Q : Int32 → St → Prop} (C : Cx p s m args meth c cX11_lays 7 (some .int) RX11 wsX11_lays) (hK6 : ∀ (σ : St) (x4 x5 : Int32) (H : Heap) (locs : List Loc) (ls : Array Slot), K6 σ x4 x5 → Iw D (tyM cyI) [] [] (wM cyI ad) A s H locs σ → lv_has ls 7 [(0, .ref (ad 0)), (1, .ref (ad 11)), (2, .int x2), (3, .int x3), (4, .int x4), (5, .int x5)] → W p l e r_X11_lays_11 s m args below meth c H locs 0 0 (MQ below (va_Qi Q (Kq D (tyM cyI) (wM cyI ad) A) A) args s 0 0 A) (F0 m 6 ls [])) :
    ∀ (n : Nat) (σ : St) (x4 x6 : Int32) (H : Heap) (locs : List Loc) (ls : Array Slot), wpl_X11_lays_11_64 x2 x3 x5 K6 Q n σ x4 x6 → Iw D (tyM cyI) [] [] (wM cyI ad) A s H locs σ → lv_has ls 7 [(0, .ref (ad 0)), (1, .ref (ad 11)), (2, .int x2), (3, .int x3), (4, .int x4), (5, .int x5), (6, .int x6)] → W p l e r_X11_lays_11 s m args below meth c H locs 0 0 (MQ below (va_Qi Q (Kq D (tyM cyI) (wM cyI ad) A) A) args s 0 0 A) (F0 m 64 ls []) := by
  obtain ⟨hx, hb, hr, hml, hown, hts, hlocks⟩ := id C
  intro n
  induction n with
  | zero =>
    intro _ _ _ _ _ _ h
    exact h.elim
  | succ n ih =>
    intro σ x4 x6 H locs ls h hI hl
    unfold wpl_X11_lays_11_64 at h
    refine lv_iload hx hb dX11_lays_64 (lv_at hl 6 rfl) ?_
    refine lv_aload_n hx hb dX11_lays_66 rfl (lv_at hl 0 rfl) ?_
    refine k_get (q0 := 0) (k := 1) (ci := 11) (v := .ref (ad 1)) hx hb hts inX11_lays_X11 hown hI rfl rfl (by decide) mX11_lays_fieldLink_7_StillTextModel_size_I rfl rfl dX11_lays_67 ?_
    refine lv_iload hx hb dX11_lays_70 (lv_at hl 5 rfl) ?_
    refine k_iald (q0 := 1) (t0 := 0) (n := 80) (f := σ 1) hx hb hI rfl rfl h.1 dX11_lays_72 ?_
    replace h := h.2
    refine lv_icmp_ge (tgt := 102) hx hb dX11_lays_73 (by decide) (fun c3 => ?_) (fun c3 => ?_)
    · replace h := h.1 c3
      refine lv_aload_n hx hb dX11_lays_102 rfl (lv_at hl 0 rfl) ?_
      refine k_get (q0 := 0) (k := 3) (ci := 11) (v := .ref (ad 3)) hx hb hts inX11_lays_X11 hown hI rfl rfl (by decide) mX11_lays_fieldLink_16_StillTextModel_behind_I rfl rfl dX11_lays_103 ?_
      refine lv_iload hx hb dX11_lays_106 (lv_at hl 5 rfl) ?_
      refine k_iald (q0 := 3) (t0 := 0) (n := 80) (f := σ 3) hx hb hI rfl rfl h.1 dX11_lays_108 ?_
      replace h := h.2
      refine lv_bipush (v := nI 44) hx hb dX11_lays_109 (by decide) ?_
      refine lv_icmp_eq (tgt := 148) hx hb dX11_lays_111 (by decide) (fun c4 => ?_) (fun c4 => ?_)
      · replace h := h.1 c4
        refine lv_iconst (v := nI 1) hx hb dX11_lays_148 (by decide) ?_
        refine lv_goto (tgt := 153) hx hb dX11_lays_149 (by decide) ?_
        refine lv_istore (lv' := [(6, .int (nI 1)), (0, .ref (ad 0)), (1, .ref (ad 11)), (2, .int x2), (3, .int x3), (4, .int x4), (5, .int x5)]) hx hb dX11_lays_153 hl (by decide) rfl (fun ls hl => ?_)
        refine lv_iload hx hb dX11_lays_155 (lv_at hl 0 rfl) ?_
        refine lv_if_eq (tgt := 174) hx hb dX11_lays_157 (by decide) (fun c5 => ?_) (fun c5 => ?_)
        · exact absurd c5 (by decide)
        · refine lv_aload_n hx hb dX11_lays_160 rfl (lv_at hl 2 rfl) ?_
          refine lv_iload hx hb dX11_lays_161 (lv_at hl 5 rfl) ?_
          refine lv_aload_n hx hb dX11_lays_163 rfl (lv_at hl 1 rfl) ?_
          refine k_get (q0 := 0) (k := 3) (ci := 11) (v := .ref (ad 3)) hx hb hts inX11_lays_X11 hown hI rfl rfl (by decide) mX11_lays_fieldLink_16_StillTextModel_behind_I rfl rfl dX11_lays_164 ?_
          refine lv_iload hx hb dX11_lays_167 (lv_at hl 6 rfl) ?_
          refine k_iald (q0 := 3) (t0 := 0) (n := 80) (f := σ 3) hx hb hI rfl rfl h.1 dX11_lays_169 ?_
          replace h := h.2
          refine k_iast (q0 := 11) (t0 := 0) (n := 200) (σ' := up2 σ 11 x4.toNatClampNeg (σ 3 x5.toNatClampNeg)) hx hb hI rfl rfl h.1 (wsM_11 _ _ _ _ _) dX11_lays_170 (fun H locs hI => ?_)
          replace h := h.2
          refine lv_iinc (v := (x4 + nI 1)) (lv' := [(4, .int (x4 + nI 1)), (6, .int (nI 1)), (0, .ref (ad 0)), (1, .ref (ad 11)), (2, .int x2), (3, .int x3), (5, .int x5)]) hx hb dX11_lays_171 hl (k := 5) rfl rfl (by decide) rfl (fun ls hl => ?_)
          refine lv_iload hx hb dX11_lays_174 (lv_at hl 0 rfl) ?_
          refine lv_aload_n hx hb dX11_lays_176 rfl (lv_at hl 2 rfl) ?_
          refine k_get (q0 := 0) (k := 13) (ci := 11) (v := .int (σ 0 13)) hx hb hts inX11_lays_X11 hown hI rfl rfl (by decide) mX11_lays_fieldLink_38_StillTextModel_longest_I rfl rfl dX11_lays_177 ?_
          refine lv_icmp_le (tgt := 185) hx hb dX11_lays_180 (by decide) (fun c6 => ?_) (fun c6 => ?_)
          · replace h := h.1 c6
            refine lv_iinc (v := (x5 + nI 1)) (lv' := [(5, .int (x5 + nI 1)), (4, .int (x4 + nI 1)), (6, .int (nI 1)), (0, .ref (ad 0)), (1, .ref (ad 11)), (2, .int x2), (3, .int x3)]) hx hb dX11_lays_185 hl (k := 6) rfl rfl (by decide) rfl (fun ls hl => ?_)
            refine lv_goto (tgt := 6) hx hb dX11_lays_188 (by decide) ?_
            exact hK6 _ _ _ _ _ _ h hI (lv_sub hl [3, 4, 5, 6, 1, 0] rfl)
          · replace h := h.2 c6
            refine lv_iconst (v := (-1)) hx hb dX11_lays_183 (by decide) ?_
            exact k_iret hx hb hr hlocks hI h dX11_lays_184
      · replace h := h.2 c4
        refine lv_aload_n hx hb dX11_lays_114 rfl (lv_at hl 0 rfl) ?_
        refine k_get (q0 := 0) (k := 3) (ci := 11) (v := .ref (ad 3)) hx hb hts inX11_lays_X11 hown hI rfl rfl (by decide) mX11_lays_fieldLink_16_StillTextModel_behind_I rfl rfl dX11_lays_115 ?_
        refine lv_iload hx hb dX11_lays_118 (lv_at hl 5 rfl) ?_
        refine k_iald (q0 := 3) (t0 := 0) (n := 80) (f := σ 3) hx hb hI rfl rfl h.1 dX11_lays_120 ?_
        replace h := h.2
        refine lv_bipush (v := nI 46) hx hb dX11_lays_121 (by decide) ?_
        refine lv_icmp_eq (tgt := 148) hx hb dX11_lays_123 (by decide) (fun c7 => ?_) (fun c7 => ?_)
        · replace h := h.1 c7
          refine lv_iconst (v := nI 1) hx hb dX11_lays_148 (by decide) ?_
          refine lv_goto (tgt := 153) hx hb dX11_lays_149 (by decide) ?_
          refine lv_istore (lv' := [(6, .int (nI 1)), (0, .ref (ad 0)), (1, .ref (ad 11)), (2, .int x2), (3, .int x3), (4, .int x4), (5, .int x5)]) hx hb dX11_lays_153 hl (by decide) rfl (fun ls hl => ?_)
          refine lv_iload hx hb dX11_lays_155 (lv_at hl 0 rfl) ?_
          refine lv_if_eq (tgt := 174) hx hb dX11_lays_157 (by decide) (fun c8 => ?_) (fun c8 => ?_)
          · exact absurd c8 (by decide)
          · refine lv_aload_n hx hb dX11_lays_160 rfl (lv_at hl 2 rfl) ?_
            refine lv_iload hx hb dX11_lays_161 (lv_at hl 5 rfl) ?_
            refine lv_aload_n hx hb dX11_lays_163 rfl (lv_at hl 1 rfl) ?_
            refine k_get (q0 := 0) (k := 3) (ci := 11) (v := .ref (ad 3)) hx hb hts inX11_lays_X11 hown hI rfl rfl (by decide) mX11_lays_fieldLink_16_StillTextModel_behind_I rfl rfl dX11_lays_164 ?_
            refine lv_iload hx hb dX11_lays_167 (lv_at hl 6 rfl) ?_
            refine k_iald (q0 := 3) (t0 := 0) (n := 80) (f := σ 3) hx hb hI rfl rfl h.1 dX11_lays_169 ?_
            replace h := h.2
            refine k_iast (q0 := 11) (t0 := 0) (n := 200) (σ' := up2 σ 11 x4.toNatClampNeg (σ 3 x5.toNatClampNeg)) hx hb hI rfl rfl h.1 (wsM_11 _ _ _ _ _) dX11_lays_170 (fun H locs hI => ?_)
            replace h := h.2
            refine lv_iinc (v := (x4 + nI 1)) (lv' := [(4, .int (x4 + nI 1)), (6, .int (nI 1)), (0, .ref (ad 0)), (1, .ref (ad 11)), (2, .int x2), (3, .int x3), (5, .int x5)]) hx hb dX11_lays_171 hl (k := 5) rfl rfl (by decide) rfl (fun ls hl => ?_)
            refine lv_iload hx hb dX11_lays_174 (lv_at hl 0 rfl) ?_
            refine lv_aload_n hx hb dX11_lays_176 rfl (lv_at hl 2 rfl) ?_
            refine k_get (q0 := 0) (k := 13) (ci := 11) (v := .int (σ 0 13)) hx hb hts inX11_lays_X11 hown hI rfl rfl (by decide) mX11_lays_fieldLink_38_StillTextModel_longest_I rfl rfl dX11_lays_177 ?_
            refine lv_icmp_le (tgt := 185) hx hb dX11_lays_180 (by decide) (fun c9 => ?_) (fun c9 => ?_)
            · replace h := h.1 c9
              refine lv_iinc (v := (x5 + nI 1)) (lv' := [(5, .int (x5 + nI 1)), (4, .int (x4 + nI 1)), (6, .int (nI 1)), (0, .ref (ad 0)), (1, .ref (ad 11)), (2, .int x2), (3, .int x3)]) hx hb dX11_lays_185 hl (k := 6) rfl rfl (by decide) rfl (fun ls hl => ?_)
              refine lv_goto (tgt := 6) hx hb dX11_lays_188 (by decide) ?_
              exact hK6 _ _ _ _ _ _ h hI (lv_sub hl [3, 4, 5, 6, 1, 0] rfl)
            · replace h := h.2 c9
              refine lv_iconst (v := (-1)) hx hb dX11_lays_183 (by decide) ?_
              exact k_iret hx hb hr hlocks hI h dX11_lays_184
        · replace h := h.2 c7
          refine lv_aload_n hx hb dX11_lays_126 rfl (lv_at hl 0 rfl) ?_
          refine k_get (q0 := 0) (k := 3) (ci := 11) (v := .ref (ad 3)) hx hb hts inX11_lays_X11 hown hI rfl rfl (by decide) mX11_lays_fieldLink_16_StillTextModel_behind_I rfl rfl dX11_lays_127 ?_
          refine lv_iload hx hb dX11_lays_130 (lv_at hl 5 rfl) ?_
          refine k_iald (q0 := 3) (t0 := 0) (n := 80) (f := σ 3) hx hb hI rfl rfl h.1 dX11_lays_132 ?_
          replace h := h.2
          refine lv_bipush (v := nI 45) hx hb dX11_lays_133 (by decide) ?_
          refine lv_icmp_ne (tgt := 152) hx hb dX11_lays_135 (by decide) (fun c10 => ?_) (fun c10 => ?_)
          · replace h := h.1 c10
            refine lv_iconst (v := nI 0) hx hb dX11_lays_152 (by decide) ?_
            refine lv_istore (lv' := [(6, .int (nI 0)), (0, .ref (ad 0)), (1, .ref (ad 11)), (2, .int x2), (3, .int x3), (4, .int x4), (5, .int x5)]) hx hb dX11_lays_153 hl (by decide) rfl (fun ls hl => ?_)
            refine lv_iload hx hb dX11_lays_155 (lv_at hl 0 rfl) ?_
            refine lv_if_eq (tgt := 174) hx hb dX11_lays_157 (by decide) (fun c11 => ?_) (fun c11 => ?_)
            · refine lv_iload hx hb dX11_lays_174 (lv_at hl 5 rfl) ?_
              refine lv_aload_n hx hb dX11_lays_176 rfl (lv_at hl 1 rfl) ?_
              refine k_get (q0 := 0) (k := 13) (ci := 11) (v := .int (σ 0 13)) hx hb hts inX11_lays_X11 hown hI rfl rfl (by decide) mX11_lays_fieldLink_38_StillTextModel_longest_I rfl rfl dX11_lays_177 ?_
              refine lv_icmp_le (tgt := 185) hx hb dX11_lays_180 (by decide) (fun c12 => ?_) (fun c12 => ?_)
              · replace h := h.1 c12
                refine lv_iinc (v := (x5 + nI 1)) (lv' := [(5, .int (x5 + nI 1)), (6, .int (nI 0)), (0, .ref (ad 0)), (1, .ref (ad 11)), (2, .int x2), (3, .int x3), (4, .int x4)]) hx hb dX11_lays_185 hl (k := 6) rfl rfl (by decide) rfl (fun ls hl => ?_)
                refine lv_goto (tgt := 6) hx hb dX11_lays_188 (by decide) ?_
                exact hK6 _ _ _ _ _ _ h hI (lv_sub hl [2, 3, 4, 5, 6, 0] rfl)
              · replace h := h.2 c12
                refine lv_iconst (v := (-1)) hx hb dX11_lays_183 (by decide) ?_
                exact k_iret hx hb hr hlocks hI h dX11_lays_184
            · exact absurd c11 (by decide)
          · replace h := h.2 c10
            refine lv_iload hx hb dX11_lays_138 (lv_at hl 5 rfl) ?_
            refine lv_iload_n hx hb dX11_lays_140 rfl (lv_at hl 2 rfl) ?_
            refine lv_iload_n hx hb dX11_lays_141 rfl (lv_at hl 3 rfl) ?_
            refine lv_iadd hx hb dX11_lays_142 ?_
            refine lv_iconst (v := nI 1) hx hb dX11_lays_143 (by decide) ?_
            refine lv_isub hx hb dX11_lays_144 ?_
            refine lv_icmp_ne (tgt := 152) hx hb dX11_lays_145 (by decide) (fun c13 => ?_) (fun c13 => ?_)
            · replace h := h.1 c13
              refine lv_iconst (v := nI 0) hx hb dX11_lays_152 (by decide) ?_
              refine lv_istore (lv' := [(6, .int (nI 0)), (0, .ref (ad 0)), (1, .ref (ad 11)), (2, .int x2), (3, .int x3), (4, .int x4), (5, .int x5)]) hx hb dX11_lays_153 hl (by decide) rfl (fun ls hl => ?_)
              refine lv_iload hx hb dX11_lays_155 (lv_at hl 0 rfl) ?_
              refine lv_if_eq (tgt := 174) hx hb dX11_lays_157 (by decide) (fun c14 => ?_) (fun c14 => ?_)
              · refine lv_iload hx hb dX11_lays_174 (lv_at hl 5 rfl) ?_
                refine lv_aload_n hx hb dX11_lays_176 rfl (lv_at hl 1 rfl) ?_
                refine k_get (q0 := 0) (k := 13) (ci := 11) (v := .int (σ 0 13)) hx hb hts inX11_lays_X11 hown hI rfl rfl (by decide) mX11_lays_fieldLink_38_StillTextModel_longest_I rfl rfl dX11_lays_177 ?_
                refine lv_icmp_le (tgt := 185) hx hb dX11_lays_180 (by decide) (fun c15 => ?_) (fun c15 => ?_)
                · replace h := h.1 c15
                  refine lv_iinc (v := (x5 + nI 1)) (lv' := [(5, .int (x5 + nI 1)), (6, .int (nI 0)), (0, .ref (ad 0)), (1, .ref (ad 11)), (2, .int x2), (3, .int x3), (4, .int x4)]) hx hb dX11_lays_185 hl (k := 6) rfl rfl (by decide) rfl (fun ls hl => ?_)
                  refine lv_goto (tgt := 6) hx hb dX11_lays_188 (by decide) ?_
                  exact hK6 _ _ _ _ _ _ h hI (lv_sub hl [2, 3, 4, 5, 6, 0] rfl)
                · replace h := h.2 c15
                  refine lv_iconst (v := (-1)) hx hb dX11_lays_183 (by decide) ?_
                  exact k_iret hx hb hr hlocks hI h dX11_lays_184
              · exact absurd c14 (by decide)
            · replace h := h.2 c13
              refine lv_iconst (v := nI 1) hx hb dX11_lays_148 (by decide) ?_
              refine lv_goto (tgt := 153) hx hb dX11_lays_149 (by decide) ?_
              refine lv_istore (lv' := [(6, .int (nI 1)), (0, .ref (ad 0)), (1, .ref (ad 11)), (2, .int x2), (3, .int x3), (4, .int x4), (5, .int x5)]) hx hb dX11_lays_153 hl (by decide) rfl (fun ls hl => ?_)
              refine lv_iload hx hb dX11_lays_155 (lv_at hl 0 rfl) ?_
              refine lv_if_eq (tgt := 174) hx hb dX11_lays_157 (by decide) (fun c16 => ?_) (fun c16 => ?_)
              · exact absurd c16 (by decide)
              · refine lv_aload_n hx hb dX11_lays_160 rfl (lv_at hl 2 rfl) ?_
                refine lv_iload hx hb dX11_lays_161 (lv_at hl 5 rfl) ?_
                refine lv_aload_n hx hb dX11_lays_163 rfl (lv_at hl 1 rfl) ?_
                refine k_get (q0 := 0) (k := 3) (ci := 11) (v := .ref (ad 3)) hx hb hts inX11_lays_X11 hown hI rfl rfl (by decide) mX11_lays_fieldLink_16_StillTextModel_behind_I rfl rfl dX11_lays_164 ?_
                refine lv_iload hx hb dX11_lays_167 (lv_at hl 6 rfl) ?_
                refine k_iald (q0 := 3) (t0 := 0) (n := 80) (f := σ 3) hx hb hI rfl rfl h.1 dX11_lays_169 ?_
                replace h := h.2
                refine k_iast (q0 := 11) (t0 := 0) (n := 200) (σ' := up2 σ 11 x4.toNatClampNeg (σ 3 x5.toNatClampNeg)) hx hb hI rfl rfl h.1 (wsM_11 _ _ _ _ _) dX11_lays_170 (fun H locs hI => ?_)
                replace h := h.2
                refine lv_iinc (v := (x4 + nI 1)) (lv' := [(4, .int (x4 + nI 1)), (6, .int (nI 1)), (0, .ref (ad 0)), (1, .ref (ad 11)), (2, .int x2), (3, .int x3), (5, .int x5)]) hx hb dX11_lays_171 hl (k := 5) rfl rfl (by decide) rfl (fun ls hl => ?_)
                refine lv_iload hx hb dX11_lays_174 (lv_at hl 0 rfl) ?_
                refine lv_aload_n hx hb dX11_lays_176 rfl (lv_at hl 2 rfl) ?_
                refine k_get (q0 := 0) (k := 13) (ci := 11) (v := .int (σ 0 13)) hx hb hts inX11_lays_X11 hown hI rfl rfl (by decide) mX11_lays_fieldLink_38_StillTextModel_longest_I rfl rfl dX11_lays_177 ?_
                refine lv_icmp_le (tgt := 185) hx hb dX11_lays_180 (by decide) (fun c17 => ?_) (fun c17 => ?_)
                · replace h := h.1 c17
                  refine lv_iinc (v := (x5 + nI 1)) (lv' := [(5, .int (x5 + nI 1)), (4, .int (x4 + nI 1)), (6, .int (nI 1)), (0, .ref (ad 0)), (1, .ref (ad 11)), (2, .int x2), (3, .int x3)]) hx hb dX11_lays_185 hl (k := 6) rfl rfl (by decide) rfl (fun ls hl => ?_)
                  refine lv_goto (tgt := 6) hx hb dX11_lays_188 (by decide) ?_
                  exact hK6 _ _ _ _ _ _ h hI (lv_sub hl [3, 4, 5, 6, 1, 0] rfl)
                · replace h := h.2 c17
                  refine lv_iconst (v := (-1)) hx hb dX11_lays_183 (by decide) ?_
                  exact k_iret hx hb hr hlocks hI h dX11_lays_184
    · replace h := h.2 c3
      refine lv_aload_n hx hb dX11_lays_76 rfl (lv_at hl 1 rfl) ?_
      refine lv_iload hx hb dX11_lays_77 (lv_at hl 4 rfl) ?_
      refine lv_aload_n hx hb dX11_lays_79 rfl (lv_at hl 0 rfl) ?_
      refine k_get (q0 := 0) (k := 2) (ci := 11) (v := .ref (ad 2)) hx hb hts inX11_lays_X11 hown hI rfl rfl (by decide) mX11_lays_fieldLink_13_StillTextModel_letter_I rfl rfl dX11_lays_80 ?_
      refine lv_bipush (v := nI 20) hx hb dX11_lays_83 (by decide) ?_
      refine lv_iload hx hb dX11_lays_85 (lv_at hl 5 rfl) ?_
      refine lv_imul hx hb dX11_lays_87 ?_
      refine lv_iload hx hb dX11_lays_88 (lv_at hl 6 rfl) ?_
      refine lv_iadd hx hb dX11_lays_90 ?_
      refine k_iald (q0 := 2) (t0 := 0) (n := 1600) (f := σ 2) hx hb hI rfl rfl h.1 dX11_lays_91 ?_
      replace h := h.2
      refine k_iast (q0 := 11) (t0 := 0) (n := 200) (σ' := up2 σ 11 x4.toNatClampNeg (σ 2 (((nI 20) * x5) + x6).toNatClampNeg)) hx hb hI rfl rfl h.1 (wsM_11 _ _ _ _ _) dX11_lays_92 (fun H locs hI => ?_)
      replace h := h.2
      refine lv_iinc (v := (x4 + nI 1)) (lv' := [(4, .int (x4 + nI 1)), (0, .ref (ad 0)), (1, .ref (ad 11)), (2, .int x2), (3, .int x3), (5, .int x5), (6, .int x6)]) hx hb dX11_lays_93 hl (k := 4) rfl rfl (by decide) rfl (fun ls hl => ?_)
      refine lv_iinc (v := (x6 + nI 1)) (lv' := [(6, .int (x6 + nI 1)), (4, .int (x4 + nI 1)), (0, .ref (ad 0)), (1, .ref (ad 11)), (2, .int x2), (3, .int x3), (5, .int x5)]) hx hb dX11_lays_96 hl (k := 6) rfl rfl (by decide) rfl (fun ls hl => ?_)
      refine lv_goto (tgt := 64) hx hb dX11_lays_99 (by decide) ?_
      exact ih _ _ _ _ _ _ h hI (lv_sub hl [2, 3, 4, 5, 1, 6, 0] rfl)
set_option maxHeartbeats 4000000 in
set_option maxRecDepth 100000 in
theorem t_X11_lays_11_37 {p : Program} {e : Env} {s : State} {m : MethodId} {args : Array Value} {below : List Frame} {meth : Method} {c : Code} {A : Nat → Prop} {x2 x3 x5 : Int32} {K6 : St → Int32 → Int32 → Prop} {Q : Int32 → St → Prop} (C : Cx p s m args meth c cX11_lays 7 (some .int) RX11 wsX11_lays) (hK6 : ∀ (σ : St) (x4 x5 : Int32) (H : Heap) (locs : List Loc) (ls : Array Slot), K6 σ x4 x5 → Iw D (tyM cyI) [] [] (wM cyI ad) A s H locs σ → lv_has ls 7 [(0, .ref (ad 0)), (1, .ref (ad 11)), (2, .int x2), (3, .int x3), (4, .int x4), (5, .int x5)] → W p l e r_X11_lays_11 s m args below meth c H locs 0 0 (MQ below (va_Qi Q (Kq D (tyM cyI) (wM cyI ad) A) A) args s 0 0 A) (F0 m 6 ls [])) :
    ∀ (n : Nat) (σ : St) (x4 x6 : Int32) (H : Heap) (locs : List Loc) (ls : Array Slot), wpl_X11_lays_11_37 x2 x3 x5 K6 Q n σ x4 x6 → Iw D (tyM cyI) [] [] (wM cyI ad) A s H locs σ → lv_has ls 7 [(0, .ref (ad 0)), (1, .ref (ad 11)), (2, .int x2), (3, .int x3), (4, .int x4), (5, .int x5), (6, .int x6)] → W p l e r_X11_lays_11 s m args below meth c H locs 0 0 (MQ below (va_Qi Q (Kq D (tyM cyI) (wM cyI ad) A) A) args s 0 0 A) (F0 m 37 ls []) := by
  obtain ⟨hx, hb, hr, hml, hown, hts, hlocks⟩ := id C
  intro n
  induction n with
  | zero =>
    intro _ _ _ _ _ _ h
    exact h.elim
  | succ n ih =>
    intro σ x4 x6 H locs ls h hI hl
    unfold wpl_X11_lays_11_37 at h
    refine lv_iload hx hb dX11_lays_37 (lv_at hl 6 rfl) ?_
    refine lv_aload_n hx hb dX11_lays_39 rfl (lv_at hl 0 rfl) ?_
    refine k_get (q0 := 0) (k := 14) (ci := 11) (v := .int (σ 0 14)) hx hb hts inX11_lays_X11 hown hI rfl rfl (by decide) mX11_lays_fieldLink_41_StillTextModel_spread_I rfl rfl dX11_lays_40 ?_
    refine lv_icmp_ge (tgt := 61) hx hb dX11_lays_43 (by decide) (fun c21 => ?_) (fun c21 => ?_)
    · replace h := h.1 c21
      refine lv_iconst (v := nI 0) hx hb dX11_lays_61 (by decide) ?_
      refine lv_istore (lv' := [(6, .int (nI 0)), (0, .ref (ad 0)), (1, .ref (ad 11)), (2, .int x2), (3, .int x3), (4, .int x4), (5, .int x5)]) hx hb dX11_lays_62 hl (by decide) rfl (fun ls hl => ?_)
      obtain ⟨k22, h⟩ := h
      exact t_X11_lays_11_64 C hK6 k22 _ _ _ _ _ _ h hI (lv_sub hl [1, 2, 3, 4, 5, 6, 0] rfl)
    · replace h := h.2 c21
      refine lv_aload_n hx hb dX11_lays_46 rfl (lv_at hl 1 rfl) ?_
      refine lv_iload hx hb dX11_lays_47 (lv_at hl 4 rfl) ?_
      refine lv_bipush (v := nI 32) hx hb dX11_lays_49 (by decide) ?_
      refine k_iast (q0 := 11) (t0 := 0) (n := 200) (σ' := up2 σ 11 x4.toNatClampNeg (nI 32)) hx hb hI rfl rfl h.1 (wsM_11 _ _ _ _ _) dX11_lays_51 (fun H locs hI => ?_)
      replace h := h.2
      refine lv_iinc (v := (x4 + nI 1)) (lv' := [(4, .int (x4 + nI 1)), (0, .ref (ad 0)), (1, .ref (ad 11)), (2, .int x2), (3, .int x3), (5, .int x5), (6, .int x6)]) hx hb dX11_lays_52 hl (k := 4) rfl rfl (by decide) rfl (fun ls hl => ?_)
      refine lv_iinc (v := (x6 + nI 1)) (lv' := [(6, .int (x6 + nI 1)), (4, .int (x4 + nI 1)), (0, .ref (ad 0)), (1, .ref (ad 11)), (2, .int x2), (3, .int x3), (5, .int x5)]) hx hb dX11_lays_55 hl (k := 6) rfl rfl (by decide) rfl (fun ls hl => ?_)
      refine lv_goto (tgt := 37) hx hb dX11_lays_58 (by decide) ?_
      exact ih _ _ _ _ _ _ h hI (lv_sub hl [2, 3, 4, 5, 1, 6, 0] rfl)
set_option maxHeartbeats 4000000 in
set_option maxRecDepth 100000 in
theorem t_X11_lays_11_6 {p : Program} {e : Env} {s : State} {m : MethodId} {args : Array Value} {below : List Frame} {meth : Method} {c : Code} {A : Nat → Prop} {x2 x3 : Int32}  {Q : Int32 → St → Prop} (C : Cx p s m args meth c cX11_lays 7 (some .int) RX11 wsX11_lays) :
    ∀ (n : Nat) (σ : St) (x4 x5 : Int32) (H : Heap) (locs : List Loc) (ls : Array Slot), wpl_X11_lays_11_6 x2 x3 Q n σ x4 x5 → Iw D (tyM cyI) [] [] (wM cyI ad) A s H locs σ → lv_has ls 7 [(0, .ref (ad 0)), (1, .ref (ad 11)), (2, .int x2), (3, .int x3), (4, .int x4), (5, .int x5)] → W p l e r_X11_lays_11 s m args below meth c H locs 0 0 (MQ below (va_Qi Q (Kq D (tyM cyI) (wM cyI ad) A) A) args s 0 0 A) (F0 m 6 ls []) := by
  obtain ⟨hx, hb, hr, hml, hown, hts, hlocks⟩ := id C
  intro n
  induction n with
  | zero =>
    intro _ _ _ _ _ _ h
    exact h.elim
  | succ n ih =>
    intro σ x4 x5 H locs ls h hI hl
    unfold wpl_X11_lays_11_6 at h
    refine lv_iload hx hb dX11_lays_6 (lv_at hl 5 rfl) ?_
    refine lv_iload_n hx hb dX11_lays_8 rfl (lv_at hl 2 rfl) ?_
    refine lv_iload_n hx hb dX11_lays_9 rfl (lv_at hl 3 rfl) ?_
    refine lv_iadd hx hb dX11_lays_10 ?_
    refine lv_icmp_ge (tgt := 191) hx hb dX11_lays_11 (by decide) (fun c1 => ?_) (fun c1 => ?_)
    · replace h := h.1 c1
      refine lv_iload hx hb dX11_lays_191 (lv_at hl 4 rfl) ?_
      exact k_iret hx hb hr hlocks hI h dX11_lays_193
    · replace h := h.2 c1
      refine lv_iload hx hb dX11_lays_14 (lv_at hl 5 rfl) ?_
      refine lv_iload_n hx hb dX11_lays_16 rfl (lv_at hl 2 rfl) ?_
      refine lv_icmp_le (tgt := 61) hx hb dX11_lays_17 (by decide) (fun c2 => ?_) (fun c2 => ?_)
      · replace h := h.1 c2
        refine lv_iconst (v := nI 0) hx hb dX11_lays_61 (by decide) ?_
        refine lv_istore (lv' := [(6, .int (nI 0)), (0, .ref (ad 0)), (1, .ref (ad 11)), (2, .int x2), (3, .int x3), (4, .int x4), (5, .int x5)]) hx hb dX11_lays_62 hl (by decide) rfl (fun ls hl => ?_)
        obtain ⟨k18, h⟩ := h
        exact t_X11_lays_11_64 C ih k18 _ _ _ _ _ _ h hI (lv_sub hl [1, 2, 3, 4, 5, 6, 0] rfl)
      · replace h := h.2 c2
        refine lv_aload_n hx hb dX11_lays_20 rfl (lv_at hl 0 rfl) ?_
        refine k_get (q0 := 0) (k := 3) (ci := 11) (v := .ref (ad 3)) hx hb hts inX11_lays_X11 hown hI rfl rfl (by decide) mX11_lays_fieldLink_16_StillTextModel_behind_I rfl rfl dX11_lays_21 ?_
        refine lv_iload hx hb dX11_lays_24 (lv_at hl 5 rfl) ?_
        refine lv_iconst (v := nI 1) hx hb dX11_lays_26 (by decide) ?_
        refine lv_isub hx hb dX11_lays_27 ?_
        refine k_iald (q0 := 3) (t0 := 0) (n := 80) (f := σ 3) hx hb hI rfl rfl h.1 dX11_lays_28 ?_
        replace h := h.2
        refine lv_bipush (v := nI 45) hx hb dX11_lays_29 (by decide) ?_
        refine lv_icmp_eq (tgt := 61) hx hb dX11_lays_31 (by decide) (fun c19 => ?_) (fun c19 => ?_)
        · replace h := h.1 c19
          refine lv_iconst (v := nI 0) hx hb dX11_lays_61 (by decide) ?_
          refine lv_istore (lv' := [(6, .int (nI 0)), (0, .ref (ad 0)), (1, .ref (ad 11)), (2, .int x2), (3, .int x3), (4, .int x4), (5, .int x5)]) hx hb dX11_lays_62 hl (by decide) rfl (fun ls hl => ?_)
          obtain ⟨k20, h⟩ := h
          exact t_X11_lays_11_64 C ih k20 _ _ _ _ _ _ h hI (lv_sub hl [1, 2, 3, 4, 5, 6, 0] rfl)
        · replace h := h.2 c19
          refine lv_iconst (v := nI 0) hx hb dX11_lays_34 (by decide) ?_
          refine lv_istore (lv' := [(6, .int (nI 0)), (0, .ref (ad 0)), (1, .ref (ad 11)), (2, .int x2), (3, .int x3), (4, .int x4), (5, .int x5)]) hx hb dX11_lays_35 hl (by decide) rfl (fun ls hl => ?_)
          obtain ⟨k23, h⟩ := h
          exact t_X11_lays_11_37 C ih k23 _ _ _ _ _ _ h hI (lv_sub hl [1, 2, 3, 4, 5, 6, 0] rfl)
set_option maxHeartbeats 4000000 in
set_option maxRecDepth 100000 in
theorem c_X11_lays_11 (σ : St) (x2 x3 : Int32) (Q : Int32 → St → Prop) (h : wp_X11_lays_11 σ x2 x3 Q) : Ci l D (tyM cyI) [] [] (wM cyI ad) yX11_lays wsX11_lays r_X11_lays_11 [.ref (ad 0), .ref (ad 11), .int x2, .int x3] σ Q := by
  refine k_metI (cc := cX11_lays) (maxL := 7) (ret := (some .int)) (by decide) rfl (Nat.le_of_ble_eq_true rfl) ?_
  intro p e s m below meth c A ls C hI hl
  obtain ⟨hx, hb, hr, hml, hown, hts, hlocks⟩ := id C
  have hl : lv_has ls 7 [(0, .ref (ad 0)), (1, .ref (ad 11)), (2, .int x2), (3, .int x3)] := hl
  unfold wp_X11_lays_11 at h
  refine lv_iconst (v := nI 0) hx hb dX11_lays_0 (by decide) ?_
  refine lv_istore (lv' := [(4, .int (nI 0)), (0, .ref (ad 0)), (1, .ref (ad 11)), (2, .int x2), (3, .int x3)]) hx hb dX11_lays_1 hl (by decide) rfl (fun ls hl => ?_)
  refine lv_iload_n hx hb dX11_lays_3 rfl (lv_at hl 3 rfl) ?_
  refine lv_istore (lv' := [(5, .int x2), (4, .int (nI 0)), (0, .ref (ad 0)), (1, .ref (ad 11)), (2, .int x2), (3, .int x3)]) hx hb dX11_lays_4 hl (by decide) rfl (fun ls hl => ?_)
  obtain ⟨k24, h⟩ := h
  exact t_X11_lays_11_6 C  k24 _ _ _ _ _ _ h hI (lv_sub hl [2, 3, 4, 5, 1, 0] rfl)
theorem inX11_pairStrain_X11 : ∀ w ∈ wsX110, w ∈ wsX11_pairStrain := fun _ h => List.mem_cons_of_mem _ (List.mem_append_right _ (h))
theorem mX11_pairStrain_fieldLink_62_StillTextModel_upper_I : Cond.fieldLink RX11 62 "StillTextModel" "upper" "[I" ∈ wsX11_pairStrain := List.mem_cons_of_mem _ (List.mem_append_left _ (List.mem_of_getElem? (i := 0) rfl))
theorem mX11_pairStrain_fieldLink_65_StillTextModel_lower_I : Cond.fieldLink RX11 65 "StillTextModel" "lower" "[I" ∈ wsX11_pairStrain := List.mem_cons_of_mem _ (List.mem_append_left _ (List.mem_of_getElem? (i := 1) rfl))
theorem mX11_pairStrain_fieldLink_59_StillTextModel_likes_I : Cond.fieldLink RX11 59 "StillTextModel" "likes" "[I" ∈ wsX11_pairStrain := List.mem_cons_of_mem _ (List.mem_append_left _ (List.mem_of_getElem? (i := 3) rfl))
theorem mX11_pairStrain_fieldLink_56_StillTextModel_river_I : Cond.fieldLink RX11 56 "StillTextModel" "river" "I" ∈ wsX11_pairStrain := List.mem_cons_of_mem _ (List.mem_append_left _ (List.mem_of_getElem? (i := 2) rfl))
set_option maxHeartbeats 4000000 in
set_option maxRecDepth 100000 in
theorem t_X11_pairStrain_48 {p : Program} {e : Env} {s : State} {m : MethodId} {args : Array Value} {below : List Frame} {meth : Method} {c : Code} {A : Nat → Prop} {x1 x2 x3 x4 : Int32} {K5 : St → Int32 → Int32 → Prop} {Q : Int32 → St → Prop} (C : Cx p s m args meth c cX11_pairStrain 5 (some .int) RX11 wsX11_pairStrain) (hK5 : ∀ (σ : St) (x3 x4 : Int32) (H : Heap) (locs : List Loc) (ls : Array Slot), K5 σ x3 x4 → Iw D (tyM cyI) [] [] (wM cyI ad) A s H locs σ → lv_has ls 5 [(0, .ref (ad 0)), (1, .int x1), (2, .int x2), (3, .int x3), (4, .int x4)] → W p l e r_X11_pairStrain s m args below meth c H locs 0 0 (MQ below (va_Qi Q (Kq D (tyM cyI) (wM cyI ad) A) A) args s 0 0 A) (F0 m 5 ls [])) :
    ∀ (σ : St) (H : Heap) (locs : List Loc) (ls : Array Slot), wpj_X11_pairStrain_48 x1 x2 x3 x4 K5 Q σ → Iw D (tyM cyI) [] [] (wM cyI ad) A s H locs σ → lv_has ls 5 [(0, .ref (ad 0)), (1, .int x1), (2, .int x2), (3, .int x3), (4, .int x4)] → W p l e r_X11_pairStrain s m args below meth c H locs 0 0 (MQ below (va_Qi Q (Kq D (tyM cyI) (wM cyI ad) A) A) args s 0 0 A) (F0 m 48 ls []) := by
  obtain ⟨hx, hb, hr, hml, hown, hts, hlocks⟩ := id C
  intro σ H locs ls h hI hl
  unfold wpj_X11_pairStrain_48 at h
  refine lv_aload_n hx hb dX11_pairStrain_48 rfl (lv_at hl 0 rfl) ?_
  refine k_get (q0 := 0) (k := 21) (ci := 11) (v := .ref (ad 10)) hx hb hts inX11_pairStrain_X11 hown hI rfl rfl (by decide) mX11_pairStrain_fieldLink_62_StillTextModel_upper_I rfl rfl dX11_pairStrain_49 ?_
  refine lv_iload hx hb dX11_pairStrain_52 (lv_at hl 4 rfl) ?_
  refine k_iald (q0 := 10) (t0 := 0) (n := 200) (f := σ 10) hx hb hI rfl rfl h.1 dX11_pairStrain_54 ?_
  replace h := h.2
  refine k_cSi (As := [.int (σ 10 x4.toNatClampNeg)]) (rest := []) C (c_X11_isLetter σ (σ 10 x4.toNatClampNeg) _ h) (va_cwS 1 hts gX11_pairStrain_X11_isLetter rfl rfl rfl hdX11_isLetter ⟨Nat.le_of_ble_eq_true rfl, Nat.le_of_ble_eq_true rfl⟩) hI rfl hl.1 rfl (Nat.le_of_ble_eq_true rfl) dX11_pairStrain_55 ⟨Nat.le_of_ble_eq_true rfl, Nat.le_of_ble_eq_true rfl⟩ (fun r4 σ5 H locs h hI => ?_)
  refine lv_if_eq (tgt := 106) hx hb dX11_pairStrain_58 (by decide) (fun c6 => ?_) (fun c6 => ?_)
  · replace h := h.1 c6
    refine lv_iinc (v := (x4 + nI 1)) (lv' := [(4, .int (x4 + nI 1)), (0, .ref (ad 0)), (1, .int x1), (2, .int x2), (3, .int x3)]) hx hb dX11_pairStrain_106 hl (k := 4) rfl rfl (by decide) rfl (fun ls hl => ?_)
    refine lv_goto (tgt := 5) hx hb dX11_pairStrain_109 (by decide) ?_
    exact hK5 _ _ _ _ _ _ h hI (lv_sub hl [1, 2, 3, 4, 0] rfl)
  · replace h := h.2 c6
    refine lv_aload_n hx hb dX11_pairStrain_61 rfl (lv_at hl 0 rfl) ?_
    refine k_get (q0 := 0) (k := 22) (ci := 11) (v := .ref (ad 11)) hx hb hts inX11_pairStrain_X11 hown hI rfl rfl (by decide) mX11_pairStrain_fieldLink_65_StillTextModel_lower_I rfl rfl dX11_pairStrain_62 ?_
    refine lv_iload hx hb dX11_pairStrain_65 (lv_at hl 4 rfl) ?_
    refine k_iald (q0 := 11) (t0 := 0) (n := 200) (f := σ5 11) hx hb hI rfl rfl h.1 dX11_pairStrain_67 ?_
    replace h := h.2
    refine k_cSi (As := [.int (σ5 11 x4.toNatClampNeg)]) (rest := []) C (c_X11_isLetter σ5 (σ5 11 x4.toNatClampNeg) _ h) (va_cwS 1 hts gX11_pairStrain_X11_isLetter rfl rfl rfl hdX11_isLetter ⟨Nat.le_of_ble_eq_true rfl, Nat.le_of_ble_eq_true rfl⟩) hI rfl hl.1 rfl (Nat.le_of_ble_eq_true rfl) dX11_pairStrain_68 ⟨Nat.le_of_ble_eq_true rfl, Nat.le_of_ble_eq_true rfl⟩ (fun r7 σ8 H locs h hI => ?_)
    refine lv_if_eq (tgt := 106) hx hb dX11_pairStrain_71 (by decide) (fun c9 => ?_) (fun c9 => ?_)
    · replace h := h.1 c9
      refine lv_iinc (v := (x4 + nI 1)) (lv' := [(4, .int (x4 + nI 1)), (0, .ref (ad 0)), (1, .int x1), (2, .int x2), (3, .int x3)]) hx hb dX11_pairStrain_106 hl (k := 4) rfl rfl (by decide) rfl (fun ls hl => ?_)
      refine lv_goto (tgt := 5) hx hb dX11_pairStrain_109 (by decide) ?_
      exact hK5 _ _ _ _ _ _ h hI (lv_sub hl [1, 2, 3, 4, 0] rfl)
    · replace h := h.2 c9
      refine lv_iload_n hx hb dX11_pairStrain_74 rfl (lv_at hl 3 rfl) ?_
      refine lv_aload_n hx hb dX11_pairStrain_75 rfl (lv_at hl 0 rfl) ?_
      refine k_get (q0 := 0) (k := 20) (ci := 11) (v := .ref (ad 9)) hx hb hts inX11_pairStrain_X11 hown hI rfl rfl (by decide) mX11_pairStrain_fieldLink_59_StillTextModel_likes_I rfl rfl dX11_pairStrain_76 ?_
      refine lv_bipush (v := nI 26) hx hb dX11_pairStrain_79 (by decide) ?_
      refine lv_aload_n hx hb dX11_pairStrain_81 rfl (lv_at hl 0 rfl) ?_
      refine k_get (q0 := 0) (k := 21) (ci := 11) (v := .ref (ad 10)) hx hb hts inX11_pairStrain_X11 hown hI rfl rfl (by decide) mX11_pairStrain_fieldLink_62_StillTextModel_upper_I rfl rfl dX11_pairStrain_82 ?_
      refine lv_iload hx hb dX11_pairStrain_85 (lv_at hl 4 rfl) ?_
      refine k_iald (q0 := 10) (t0 := 0) (n := 200) (f := σ8 10) hx hb hI rfl rfl h.1 dX11_pairStrain_87 ?_
      replace h := h.2
      refine lv_bipush (v := nI 97) hx hb dX11_pairStrain_88 (by decide) ?_
      refine lv_isub hx hb dX11_pairStrain_90 ?_
      refine lv_imul hx hb dX11_pairStrain_91 ?_
      refine lv_aload_n hx hb dX11_pairStrain_92 rfl (lv_at hl 0 rfl) ?_
      refine k_get (q0 := 0) (k := 22) (ci := 11) (v := .ref (ad 11)) hx hb hts inX11_pairStrain_X11 hown hI rfl rfl (by decide) mX11_pairStrain_fieldLink_65_StillTextModel_lower_I rfl rfl dX11_pairStrain_93 ?_
      refine lv_iload hx hb dX11_pairStrain_96 (lv_at hl 4 rfl) ?_
      refine k_iald (q0 := 11) (t0 := 0) (n := 200) (f := σ8 11) hx hb hI rfl rfl h.1 dX11_pairStrain_98 ?_
      replace h := h.2
      refine lv_iadd hx hb dX11_pairStrain_99 ?_
      refine lv_bipush (v := nI 97) hx hb dX11_pairStrain_100 (by decide) ?_
      refine lv_isub hx hb dX11_pairStrain_102 ?_
      refine k_iald (q0 := 9) (t0 := 0) (n := 676) (f := σ8 9) hx hb hI rfl rfl h.1 dX11_pairStrain_103 ?_
      replace h := h.2
      refine lv_iadd hx hb dX11_pairStrain_104 ?_
      refine lv_istore_n (lv' := [(3, .int (x3 + (σ8 9 ((((nI 26) * ((σ8 10 x4.toNatClampNeg) - (nI 97))) + (σ8 11 x4.toNatClampNeg)) - (nI 97)).toNatClampNeg))), (0, .ref (ad 0)), (1, .int x1), (2, .int x2), (4, .int x4)]) hx hb dX11_pairStrain_105 rfl hl (by decide) rfl (fun ls hl => ?_)
      refine lv_iinc (v := (x4 + nI 1)) (lv' := [(4, .int (x4 + nI 1)), (3, .int (x3 + (σ8 9 ((((nI 26) * ((σ8 10 x4.toNatClampNeg) - (nI 97))) + (σ8 11 x4.toNatClampNeg)) - (nI 97)).toNatClampNeg))), (0, .ref (ad 0)), (1, .int x1), (2, .int x2)]) hx hb dX11_pairStrain_106 hl (k := 4) rfl rfl (by decide) rfl (fun ls hl => ?_)
      refine lv_goto (tgt := 5) hx hb dX11_pairStrain_109 (by decide) ?_
      exact hK5 _ _ _ _ _ _ h hI (lv_sub hl [2, 3, 4, 1, 0] rfl)
set_option maxHeartbeats 4000000 in
set_option maxRecDepth 100000 in
theorem t_X11_pairStrain_5 {p : Program} {e : Env} {s : State} {m : MethodId} {args : Array Value} {below : List Frame} {meth : Method} {c : Code} {A : Nat → Prop} {x1 x2 : Int32}  {Q : Int32 → St → Prop} (C : Cx p s m args meth c cX11_pairStrain 5 (some .int) RX11 wsX11_pairStrain) :
    ∀ (n : Nat) (σ : St) (x3 x4 : Int32) (H : Heap) (locs : List Loc) (ls : Array Slot), wpl_X11_pairStrain_5 x1 x2 Q n σ x3 x4 → Iw D (tyM cyI) [] [] (wM cyI ad) A s H locs σ → lv_has ls 5 [(0, .ref (ad 0)), (1, .int x1), (2, .int x2), (3, .int x3), (4, .int x4)] → W p l e r_X11_pairStrain s m args below meth c H locs 0 0 (MQ below (va_Qi Q (Kq D (tyM cyI) (wM cyI ad) A) A) args s 0 0 A) (F0 m 5 ls []) := by
  obtain ⟨hx, hb, hr, hml, hown, hts, hlocks⟩ := id C
  intro n
  induction n with
  | zero =>
    intro _ _ _ _ _ _ h
    exact h.elim
  | succ n ih =>
    intro σ x3 x4 H locs ls h hI hl
    unfold wpl_X11_pairStrain_5 at h
    refine lv_iload hx hb dX11_pairStrain_5 (lv_at hl 4 rfl) ?_
    refine lv_iload_n hx hb dX11_pairStrain_7 rfl (lv_at hl 1 rfl) ?_
    refine lv_icmp_ge (tgt := 112) hx hb dX11_pairStrain_8 (by decide) (fun c1 => ?_) (fun c1 => ?_)
    · replace h := h.1 c1
      refine lv_iload_n hx hb dX11_pairStrain_112 rfl (lv_at hl 3 rfl) ?_
      exact k_iret hx hb hr hlocks hI h dX11_pairStrain_113
    · replace h := h.2 c1
      refine lv_iload hx hb dX11_pairStrain_11 (lv_at hl 4 rfl) ?_
      refine lv_iload_n hx hb dX11_pairStrain_13 rfl (lv_at hl 2 rfl) ?_
      refine lv_icmp_ge (tgt := 112) hx hb dX11_pairStrain_14 (by decide) (fun c2 => ?_) (fun c2 => ?_)
      · replace h := h.1 c2
        refine lv_iload_n hx hb dX11_pairStrain_112 rfl (lv_at hl 3 rfl) ?_
        exact k_iret hx hb hr hlocks hI h dX11_pairStrain_113
      · replace h := h.2 c2
        refine lv_aload_n hx hb dX11_pairStrain_17 rfl (lv_at hl 0 rfl) ?_
        refine k_get (q0 := 0) (k := 21) (ci := 11) (v := .ref (ad 10)) hx hb hts inX11_pairStrain_X11 hown hI rfl rfl (by decide) mX11_pairStrain_fieldLink_62_StillTextModel_upper_I rfl rfl dX11_pairStrain_18 ?_
        refine lv_iload hx hb dX11_pairStrain_21 (lv_at hl 4 rfl) ?_
        refine k_iald (q0 := 10) (t0 := 0) (n := 200) (f := σ 10) hx hb hI rfl rfl h.1 dX11_pairStrain_23 ?_
        replace h := h.2
        refine lv_bipush (v := nI 32) hx hb dX11_pairStrain_24 (by decide) ?_
        refine lv_icmp_ne (tgt := 48) hx hb dX11_pairStrain_26 (by decide) (fun c3 => ?_) (fun c3 => ?_)
        · replace h := h.1 c3
          exact t_X11_pairStrain_48 C ih _ _ _ _ h hI (lv_sub hl [0, 1, 2, 3, 4] rfl)
        · replace h := h.2 c3
          refine lv_aload_n hx hb dX11_pairStrain_29 rfl (lv_at hl 0 rfl) ?_
          refine k_get (q0 := 0) (k := 22) (ci := 11) (v := .ref (ad 11)) hx hb hts inX11_pairStrain_X11 hown hI rfl rfl (by decide) mX11_pairStrain_fieldLink_65_StillTextModel_lower_I rfl rfl dX11_pairStrain_30 ?_
          refine lv_iload hx hb dX11_pairStrain_33 (lv_at hl 4 rfl) ?_
          refine k_iald (q0 := 11) (t0 := 0) (n := 200) (f := σ 11) hx hb hI rfl rfl h.1 dX11_pairStrain_35 ?_
          replace h := h.2
          refine lv_bipush (v := nI 32) hx hb dX11_pairStrain_36 (by decide) ?_
          refine lv_icmp_ne (tgt := 48) hx hb dX11_pairStrain_38 (by decide) (fun c10 => ?_) (fun c10 => ?_)
          · replace h := h.1 c10
            exact t_X11_pairStrain_48 C ih _ _ _ _ h hI (lv_sub hl [0, 1, 2, 3, 4] rfl)
          · replace h := h.2 c10
            refine lv_iload_n hx hb dX11_pairStrain_41 rfl (lv_at hl 3 rfl) ?_
            refine lv_aload_n hx hb dX11_pairStrain_42 rfl (lv_at hl 0 rfl) ?_
            refine k_get (q0 := 0) (k := 19) (ci := 11) (v := .int (σ 0 19)) hx hb hts inX11_pairStrain_X11 hown hI rfl rfl (by decide) mX11_pairStrain_fieldLink_56_StillTextModel_river_I rfl rfl dX11_pairStrain_43 ?_
            refine lv_iadd hx hb dX11_pairStrain_46 ?_
            refine lv_istore_n (lv' := [(3, .int (x3 + (σ 0 19))), (0, .ref (ad 0)), (1, .int x1), (2, .int x2), (4, .int x4)]) hx hb dX11_pairStrain_47 rfl hl (by decide) rfl (fun ls hl => ?_)
            exact t_X11_pairStrain_48 C ih _ _ _ _ h hI (lv_sub hl [1, 2, 3, 0, 4] rfl)
set_option maxHeartbeats 4000000 in
set_option maxRecDepth 100000 in
theorem c_X11_pairStrain (σ : St) (x1 x2 : Int32) (Q : Int32 → St → Prop) (h : wp_X11_pairStrain σ x1 x2 Q) : Ci l D (tyM cyI) [] [] (wM cyI ad) yX11_pairStrain wsX11_pairStrain r_X11_pairStrain [.ref (ad 0), .int x1, .int x2] σ Q := by
  refine k_metI (cc := cX11_pairStrain) (maxL := 5) (ret := (some .int)) (by decide) rfl (Nat.le_of_ble_eq_true rfl) ?_
  intro p e s m below meth c A ls C hI hl
  obtain ⟨hx, hb, hr, hml, hown, hts, hlocks⟩ := id C
  have hl : lv_has ls 5 [(0, .ref (ad 0)), (1, .int x1), (2, .int x2)] := hl
  unfold wp_X11_pairStrain at h
  refine lv_iconst (v := nI 0) hx hb dX11_pairStrain_0 (by decide) ?_
  refine lv_istore_n (lv' := [(3, .int (nI 0)), (0, .ref (ad 0)), (1, .int x1), (2, .int x2)]) hx hb dX11_pairStrain_1 rfl hl (by decide) rfl (fun ls hl => ?_)
  refine lv_iconst (v := nI 0) hx hb dX11_pairStrain_2 (by decide) ?_
  refine lv_istore (lv' := [(4, .int (nI 0)), (3, .int (nI 0)), (0, .ref (ad 0)), (1, .int x1), (2, .int x2)]) hx hb dX11_pairStrain_3 hl (by decide) rfl (fun ls hl => ?_)
  obtain ⟨k11, h⟩ := h
  exact t_X11_pairStrain_5 C  k11 _ _ _ _ _ _ h hI (lv_sub hl [2, 3, 4, 1, 0] rfl)
theorem inX11_costOf_X11 : ∀ w ∈ wsX110, w ∈ wsX11_costOf := fun _ h => List.mem_cons_of_mem _ (List.mem_append_right _ (h))
theorem mX11_costOf_fieldLink_68_StillTextModel_least_I : Cond.fieldLink RX11 68 "StillTextModel" "least" "[I" ∈ wsX11_costOf := List.mem_cons_of_mem _ (List.mem_append_left _ (List.mem_append_left _ (List.mem_of_getElem? (i := 0) rfl)))
theorem mX11_costOf_constant_150_1000000000 : Cond.constant RX11 150 (1000000000) ∈ wsX11_costOf := List.mem_cons_of_mem _ (List.mem_append_left _ (List.mem_append_left _ (List.mem_of_getElem? (i := 1) rfl)))
theorem mX11_costOf_fieldLink_65_StillTextModel_lower_I : Cond.fieldLink RX11 65 "StillTextModel" "lower" "[I" ∈ wsX11_costOf := List.mem_cons_of_mem _ (List.mem_append_left _ (List.mem_append_left _ (List.mem_of_getElem? (i := 2) rfl)))
set_option maxHeartbeats 4000000 in
set_option maxRecDepth 100000 in
theorem c_X11_costOf (σ : St) (x1 x2 x3 x4 : Int32) (Q : Int32 → St → Prop) (h : wp_X11_costOf σ x1 x2 x3 x4 Q) : Ci l D (tyM cyI) [] [] (wM cyI ad) yX11_costOf wsX11_costOf r_X11_costOf [.ref (ad 0), .int x1, .int x2, .int x3, .int x4] σ Q := by
  refine k_metI (cc := cX11_costOf) (maxL := 7) (ret := (some .int)) (by decide) rfl (Nat.le_of_ble_eq_true rfl) ?_
  intro p e s m below meth c A ls C hI hl
  obtain ⟨hx, hb, hr, hml, hown, hts, hlocks⟩ := id C
  have hl : lv_has ls 7 [(0, .ref (ad 0)), (1, .int x1), (2, .int x2), (3, .int x3), (4, .int x4)] := hl
  unfold wp_X11_costOf at h
  refine lv_iload_n hx hb dX11_costOf_0 rfl (lv_at hl 1 rfl) ?_
  refine lv_iload_n hx hb dX11_costOf_1 rfl (lv_at hl 2 rfl) ?_
  refine lv_iadd hx hb dX11_costOf_2 ?_
  refine lv_istore (lv' := [(5, .int (x1 + x2)), (0, .ref (ad 0)), (1, .int x1), (2, .int x2), (3, .int x3), (4, .int x4)]) hx hb dX11_costOf_3 hl (by decide) rfl (fun ls hl => ?_)
  refine lv_aload_n hx hb dX11_costOf_5 rfl (lv_at hl 1 rfl) ?_
  refine k_get (q0 := 0) (k := 23) (ci := 11) (v := .ref (ad 12)) hx hb hts inX11_costOf_X11 hown hI rfl rfl (by decide) mX11_costOf_fieldLink_68_StillTextModel_least_I rfl rfl dX11_costOf_6 ?_
  refine lv_aload_n hx hb dX11_costOf_9 rfl (lv_at hl 1 rfl) ?_
  refine lv_iload hx hb dX11_costOf_10 (lv_at hl 0 rfl) ?_
  refine lv_iload_n hx hb dX11_costOf_12 rfl (lv_at hl 4 rfl) ?_
  refine k_cVi (As := [.int (x1 + x2), .int x3]) (rest := [.ref (ad 12)]) C (c_X11_place σ (x1 + x2) x3 _ h) (cwV 2 hts gX11_costOf_X11_place rfl rfl rfl hdX11_place ⟨Nat.le_of_ble_eq_true rfl, Nat.le_of_ble_eq_true rfl⟩) hI 0 rfl rfl rfl hl.1 rfl (Nat.le_of_ble_eq_true rfl) dX11_costOf_13 ⟨Nat.le_of_ble_eq_true rfl, Nat.le_of_ble_eq_true rfl⟩ (fun r1 σ2 H locs h hI => ?_)
  refine k_iald (q0 := 12) (t0 := 0) (n := 4941) (f := σ2 12) hx hb hI rfl rfl h.1 dX11_costOf_16 ?_
  replace h := h.2
  refine lv_ldc (v := nI 1000000000) hx hb hown (hts _ mX11_costOf_constant_150_1000000000) dX11_costOf_17 ?_
  refine lv_icmp_lt (tgt := 25) hx hb dX11_costOf_19 (by decide) (fun c3 => ?_) (fun c3 => ?_)
  · replace h := h.1 c3
    refine lv_aload_n hx hb dX11_costOf_25 rfl (lv_at hl 1 rfl) ?_
    refine lv_aload_n hx hb dX11_costOf_26 rfl (lv_at hl 1 rfl) ?_
    refine k_get (q0 := 0) (k := 22) (ci := 11) (v := .ref (ad 11)) hx hb hts inX11_costOf_X11 hown hI rfl rfl (by decide) mX11_costOf_fieldLink_65_StillTextModel_lower_I rfl rfl dX11_costOf_27 ?_
    refine lv_iload hx hb dX11_costOf_30 (lv_at hl 0 rfl) ?_
    refine lv_iload_n hx hb dX11_costOf_32 rfl (lv_at hl 4 rfl) ?_
    refine k_cVi (As := [.ref (ad 11), .int (x1 + x2), .int x3]) (rest := []) C (c_X11_lays_11 σ2 (x1 + x2) x3 _ h) (cwV 3 hts gX11_costOf_X11_lays rfl rfl rfl hdX11_lays ⟨Nat.le_of_ble_eq_true rfl, Nat.le_of_ble_eq_true rfl⟩) hI 0 rfl rfl rfl hl.1 rfl (Nat.le_of_ble_eq_true rfl) dX11_costOf_33 ⟨Nat.le_of_ble_eq_true rfl, Nat.le_of_ble_eq_true rfl⟩ (fun r4 σ5 H locs h hI => ?_)
    refine lv_istore (lv' := [(6, .int r4), (5, .int (x1 + x2)), (0, .ref (ad 0)), (1, .int x1), (2, .int x2), (3, .int x3), (4, .int x4)]) hx hb dX11_costOf_36 hl (by decide) rfl (fun ls hl => ?_)
    refine lv_iload hx hb dX11_costOf_38 (lv_at hl 0 rfl) ?_
    refine lv_iconst (v := (-1)) hx hb dX11_costOf_40 (by decide) ?_
    refine lv_icmp_ne (tgt := 49) hx hb dX11_costOf_41 (by decide) (fun c6 => ?_) (fun c6 => ?_)
    · replace h := h.1 c6
      refine lv_aload_n hx hb dX11_costOf_49 rfl (lv_at hl 2 rfl) ?_
      refine lv_iload hx hb dX11_costOf_50 (lv_at hl 6 rfl) ?_
      refine lv_iload hx hb dX11_costOf_52 (lv_at hl 0 rfl) ?_
      refine k_cVi (As := [.int x4, .int r4]) (rest := []) C (c_X11_pairStrain σ5 x4 r4 _ h) (cwV 2 hts gX11_costOf_X11_pairStrain rfl rfl rfl hdX11_pairStrain ⟨Nat.le_of_ble_eq_true rfl, Nat.le_of_ble_eq_true rfl⟩) hI 0 rfl rfl rfl hl.1 rfl (Nat.le_of_ble_eq_true rfl) dX11_costOf_54 ⟨Nat.le_of_ble_eq_true rfl, Nat.le_of_ble_eq_true rfl⟩ (fun r7 σ8 H locs h hI => ?_)
      refine lv_aload_n hx hb dX11_costOf_57 rfl (lv_at hl 2 rfl) ?_
      refine k_get (q0 := 0) (k := 23) (ci := 11) (v := .ref (ad 12)) hx hb hts inX11_costOf_X11 hown hI rfl rfl (by decide) mX11_costOf_fieldLink_68_StillTextModel_least_I rfl rfl dX11_costOf_58 ?_
      refine lv_aload_n hx hb dX11_costOf_61 rfl (lv_at hl 2 rfl) ?_
      refine lv_iload hx hb dX11_costOf_62 (lv_at hl 1 rfl) ?_
      refine lv_iload_n hx hb dX11_costOf_64 rfl (lv_at hl 5 rfl) ?_
      refine k_cVi (As := [.int (x1 + x2), .int x3]) (rest := [.ref (ad 12), .int r7]) C (c_X11_place σ8 (x1 + x2) x3 _ h) (cwV 2 hts gX11_costOf_X11_place rfl rfl rfl hdX11_place ⟨Nat.le_of_ble_eq_true rfl, Nat.le_of_ble_eq_true rfl⟩) hI 0 rfl rfl rfl hl.1 rfl (Nat.le_of_ble_eq_true rfl) dX11_costOf_65 ⟨Nat.le_of_ble_eq_true rfl, Nat.le_of_ble_eq_true rfl⟩ (fun r9 σ10 H locs h hI => ?_)
      refine k_iald (q0 := 12) (t0 := 0) (n := 4941) (f := σ10 12) hx hb hI rfl rfl h.1 dX11_costOf_68 ?_
      replace h := h.2
      refine lv_iadd hx hb dX11_costOf_69 ?_
      exact k_iret hx hb hr hlocks hI h dX11_costOf_70
    · replace h := h.2 c6
      refine lv_ldc (v := nI 1000000000) hx hb hown (hts _ mX11_costOf_constant_150_1000000000) dX11_costOf_44 ?_
      refine lv_goto (tgt := 70) hx hb dX11_costOf_46 (by decide) ?_
      exact k_iret hx hb hr hlocks hI h dX11_costOf_70
  · replace h := h.2 c3
    refine lv_ldc (v := nI 1000000000) hx hb hown (hts _ mX11_costOf_constant_150_1000000000) dX11_costOf_22 ?_
    exact k_iret hx hb hr hlocks hI h dX11_costOf_24
theorem inX11_lineStrain_X11 : ∀ w ∈ wsX110, w ∈ wsX11_lineStrain := fun _ h => List.mem_cons_of_mem _ (List.mem_append_right _ (h))
theorem mX11_lineStrain_fieldLink_118_StillTextModel_units_I : Cond.fieldLink RX11 118 "StillTextModel" "units" "I" ∈ wsX11_lineStrain := List.mem_cons_of_mem _ (List.mem_append_left _ (List.mem_of_getElem? (i := 0) rfl))
theorem mX11_lineStrain_fieldLink_38_StillTextModel_longest_I : Cond.fieldLink RX11 38 "StillTextModel" "longest" "I" ∈ wsX11_lineStrain := List.mem_cons_of_mem _ (List.mem_append_left _ (List.mem_of_getElem? (i := 1) rfl))
theorem mX11_lineStrain_fieldLink_16_StillTextModel_behind_I : Cond.fieldLink RX11 16 "StillTextModel" "behind" "[I" ∈ wsX11_lineStrain := List.mem_cons_of_mem _ (List.mem_append_left _ (List.mem_of_getElem? (i := 2) rfl))
theorem mX11_lineStrain_fieldLink_44_StillTextModel_shortest_I : Cond.fieldLink RX11 44 "StillTextModel" "shortest" "I" ∈ wsX11_lineStrain := List.mem_cons_of_mem _ (List.mem_append_left _ (List.mem_of_getElem? (i := 3) rfl))
theorem mX11_lineStrain_fieldLink_47_StillTextModel_phrase_I : Cond.fieldLink RX11 47 "StillTextModel" "phrase" "I" ∈ wsX11_lineStrain := List.mem_cons_of_mem _ (List.mem_append_left _ (List.mem_of_getElem? (i := 4) rfl))
theorem mX11_lineStrain_fieldLink_50_StillTextModel_inner_I : Cond.fieldLink RX11 50 "StillTextModel" "inner" "I" ∈ wsX11_lineStrain := List.mem_cons_of_mem _ (List.mem_append_left _ (List.mem_of_getElem? (i := 6) rfl))
theorem mX11_lineStrain_fieldLink_53_StillTextModel_cut_I : Cond.fieldLink RX11 53 "StillTextModel" "cut" "I" ∈ wsX11_lineStrain := List.mem_cons_of_mem _ (List.mem_append_left _ (List.mem_of_getElem? (i := 5) rfl))
set_option maxHeartbeats 4000000 in
set_option maxRecDepth 100000 in
theorem c_X11_lineStrain (σ : St) (x1 x2 x3 : Int32) (Q : Int32 → St → Prop) (h : wp_X11_lineStrain σ x1 x2 x3 Q) : Ci l D (tyM cyI) [] [] (wM cyI ad) yX11_lineStrain wsX11_lineStrain r_X11_lineStrain [.ref (ad 0), .int x1, .int x2, .int x3] σ Q := by
  refine k_metI (cc := cX11_lineStrain) (maxL := 6) (ret := (some .int)) (by decide) rfl (Nat.le_of_ble_eq_true rfl) ?_
  intro p e s m below meth c A ls C hI hl
  obtain ⟨hx, hb, hr, hml, hown, hts, hlocks⟩ := id C
  have hl : lv_has ls 6 [(0, .ref (ad 0)), (1, .int x1), (2, .int x2), (3, .int x3)] := hl
  unfold wp_X11_lineStrain at h
  refine lv_iload_n hx hb dX11_lineStrain_0 rfl (lv_at hl 1 rfl) ?_
  refine lv_iload_n hx hb dX11_lineStrain_1 rfl (lv_at hl 2 rfl) ?_
  refine lv_iadd hx hb dX11_lineStrain_2 ?_
  refine lv_aload_n hx hb dX11_lineStrain_3 rfl (lv_at hl 0 rfl) ?_
  refine k_get (q0 := 0) (k := 0) (ci := 11) (v := .int (σ 0 0)) hx hb hts inX11_lineStrain_X11 hown hI rfl rfl (by decide) mX11_lineStrain_fieldLink_118_StillTextModel_units_I rfl rfl dX11_lineStrain_4 ?_
  refine lv_icmp_ne (tgt := 12) hx hb dX11_lineStrain_7 (by decide) (fun c1 => ?_) (fun c1 => ?_)
  · replace h := h.1 c1
    refine lv_aload_n hx hb dX11_lineStrain_12 rfl (lv_at hl 0 rfl) ?_
    refine k_get (q0 := 0) (k := 13) (ci := 11) (v := .int (σ 0 13)) hx hb hts inX11_lineStrain_X11 hown hI rfl rfl (by decide) mX11_lineStrain_fieldLink_38_StillTextModel_longest_I rfl rfl dX11_lineStrain_13 ?_
    refine lv_iload_n hx hb dX11_lineStrain_16 rfl (lv_at hl 3 rfl) ?_
    refine lv_isub hx hb dX11_lineStrain_17 ?_
    refine lv_istore (lv' := [(4, .int ((σ 0 13) - x3)), (0, .ref (ad 0)), (1, .int x1), (2, .int x2), (3, .int x3)]) hx hb dX11_lineStrain_18 hl (by decide) rfl (fun ls hl => ?_)
    refine lv_aload_n hx hb dX11_lineStrain_20 rfl (lv_at hl 1 rfl) ?_
    refine k_get (q0 := 0) (k := 3) (ci := 11) (v := .ref (ad 3)) hx hb hts inX11_lineStrain_X11 hown hI rfl rfl (by decide) mX11_lineStrain_fieldLink_16_StillTextModel_behind_I rfl rfl dX11_lineStrain_21 ?_
    refine lv_iload_n hx hb dX11_lineStrain_24 rfl (lv_at hl 2 rfl) ?_
    refine lv_iload_n hx hb dX11_lineStrain_25 rfl (lv_at hl 3 rfl) ?_
    refine lv_iadd hx hb dX11_lineStrain_26 ?_
    refine lv_iconst (v := nI 1) hx hb dX11_lineStrain_27 (by decide) ?_
    refine lv_isub hx hb dX11_lineStrain_28 ?_
    refine k_iald (q0 := 3) (t0 := 0) (n := 80) (f := σ 3) hx hb hI rfl rfl h.1 dX11_lineStrain_29 ?_
    replace h := h.2
    refine lv_istore (lv' := [(5, .int (σ 3 ((x1 + x2) - (nI 1)).toNatClampNeg)), (4, .int ((σ 0 13) - x3)), (0, .ref (ad 0)), (1, .int x1), (2, .int x2), (3, .int x3)]) hx hb dX11_lineStrain_30 hl (by decide) rfl (fun ls hl => ?_)
    refine lv_iload hx hb dX11_lineStrain_32 (lv_at hl 1 rfl) ?_
    refine lv_iload hx hb dX11_lineStrain_34 (lv_at hl 1 rfl) ?_
    refine lv_imul hx hb dX11_lineStrain_36 ?_
    refine lv_aload_n hx hb dX11_lineStrain_37 rfl (lv_at hl 2 rfl) ?_
    refine k_get (q0 := 0) (k := 15) (ci := 11) (v := .int (σ 0 15)) hx hb hts inX11_lineStrain_X11 hown hI rfl rfl (by decide) mX11_lineStrain_fieldLink_44_StillTextModel_shortest_I rfl rfl dX11_lineStrain_38 ?_
    refine lv_imul hx hb dX11_lineStrain_41 ?_
    refine lv_iload hx hb dX11_lineStrain_42 (lv_at hl 0 rfl) ?_
    refine lv_bipush (v := nI 46) hx hb dX11_lineStrain_44 (by decide) ?_
    refine lv_icmp_ne (tgt := 53) hx hb dX11_lineStrain_46 (by decide) (fun c2 => ?_) (fun c2 => ?_)
    · replace h := h.1 c2
      refine lv_iload hx hb dX11_lineStrain_53 (lv_at hl 0 rfl) ?_
      refine lv_bipush (v := nI 44) hx hb dX11_lineStrain_55 (by decide) ?_
      refine lv_icmp_eq (tgt := 67) hx hb dX11_lineStrain_57 (by decide) (fun c3 => ?_) (fun c3 => ?_)
      · replace h := h.1 c3
        refine lv_aload_n hx hb dX11_lineStrain_67 rfl (lv_at hl 2 rfl) ?_
        refine k_get (q0 := 0) (k := 16) (ci := 11) (v := .int (σ 0 16)) hx hb hts inX11_lineStrain_X11 hown hI rfl rfl (by decide) mX11_lineStrain_fieldLink_47_StillTextModel_phrase_I rfl rfl dX11_lineStrain_68 ?_
        refine lv_goto (tgt := 92) hx hb dX11_lineStrain_71 (by decide) ?_
        refine lv_iadd hx hb dX11_lineStrain_92 ?_
        exact k_iret hx hb hr hlocks hI h dX11_lineStrain_93
      · replace h := h.2 c3
        refine lv_iload hx hb dX11_lineStrain_60 (lv_at hl 0 rfl) ?_
        refine lv_bipush (v := nI 47) hx hb dX11_lineStrain_62 (by decide) ?_
        refine lv_icmp_ne (tgt := 74) hx hb dX11_lineStrain_64 (by decide) (fun c4 => ?_) (fun c4 => ?_)
        · replace h := h.1 c4
          refine lv_iload hx hb dX11_lineStrain_74 (lv_at hl 0 rfl) ?_
          refine lv_bipush (v := nI 45) hx hb dX11_lineStrain_76 (by decide) ?_
          refine lv_icmp_ne (tgt := 88) hx hb dX11_lineStrain_78 (by decide) (fun c5 => ?_) (fun c5 => ?_)
          · replace h := h.1 c5
            refine lv_aload_n hx hb dX11_lineStrain_88 rfl (lv_at hl 2 rfl) ?_
            refine k_get (q0 := 0) (k := 17) (ci := 11) (v := .int (σ 0 17)) hx hb hts inX11_lineStrain_X11 hown hI rfl rfl (by decide) mX11_lineStrain_fieldLink_50_StillTextModel_inner_I rfl rfl dX11_lineStrain_89 ?_
            refine lv_iadd hx hb dX11_lineStrain_92 ?_
            exact k_iret hx hb hr hlocks hI h dX11_lineStrain_93
          · replace h := h.2 c5
            refine lv_aload_n hx hb dX11_lineStrain_81 rfl (lv_at hl 2 rfl) ?_
            refine k_get (q0 := 0) (k := 18) (ci := 11) (v := .int (σ 0 18)) hx hb hts inX11_lineStrain_X11 hown hI rfl rfl (by decide) mX11_lineStrain_fieldLink_53_StillTextModel_cut_I rfl rfl dX11_lineStrain_82 ?_
            refine lv_goto (tgt := 92) hx hb dX11_lineStrain_85 (by decide) ?_
            refine lv_iadd hx hb dX11_lineStrain_92 ?_
            exact k_iret hx hb hr hlocks hI h dX11_lineStrain_93
        · replace h := h.2 c4
          refine lv_aload_n hx hb dX11_lineStrain_67 rfl (lv_at hl 2 rfl) ?_
          refine k_get (q0 := 0) (k := 16) (ci := 11) (v := .int (σ 0 16)) hx hb hts inX11_lineStrain_X11 hown hI rfl rfl (by decide) mX11_lineStrain_fieldLink_47_StillTextModel_phrase_I rfl rfl dX11_lineStrain_68 ?_
          refine lv_goto (tgt := 92) hx hb dX11_lineStrain_71 (by decide) ?_
          refine lv_iadd hx hb dX11_lineStrain_92 ?_
          exact k_iret hx hb hr hlocks hI h dX11_lineStrain_93
    · replace h := h.2 c2
      refine lv_iconst (v := nI 0) hx hb dX11_lineStrain_49 (by decide) ?_
      refine lv_goto (tgt := 92) hx hb dX11_lineStrain_50 (by decide) ?_
      refine lv_iadd hx hb dX11_lineStrain_92 ?_
      exact k_iret hx hb hr hlocks hI h dX11_lineStrain_93
  · replace h := h.2 c1
    refine lv_iconst (v := nI 0) hx hb dX11_lineStrain_10 (by decide) ?_
    exact k_iret hx hb hr hlocks hI h dX11_lineStrain_11
theorem inX11_weighs_X11 : ∀ w ∈ wsX110, w ∈ wsX11_weighs := fun _ h => List.mem_cons_of_mem _ (List.mem_append_right _ (h))
theorem mX11_weighs_fieldLink_118_StillTextModel_units_I : Cond.fieldLink RX11 118 "StillTextModel" "units" "I" ∈ wsX11_weighs := List.mem_cons_of_mem _ (List.mem_append_left _ (List.mem_append_left _ (List.mem_of_getElem? (i := 0) rfl)))
theorem mX11_weighs_fieldLink_62_StillTextModel_upper_I : Cond.fieldLink RX11 62 "StillTextModel" "upper" "[I" ∈ wsX11_weighs := List.mem_cons_of_mem _ (List.mem_append_left _ (List.mem_append_left _ (List.mem_of_getElem? (i := 1) rfl)))
theorem mX11_weighs_constant_150_1000000000 : Cond.constant RX11 150 (1000000000) ∈ wsX11_weighs := List.mem_cons_of_mem _ (List.mem_append_left _ (List.mem_append_left _ (List.mem_of_getElem? (i := 2) rfl)))
theorem mX11_weighs_fieldLink_68_StillTextModel_least_I : Cond.fieldLink RX11 68 "StillTextModel" "least" "[I" ∈ wsX11_weighs := List.mem_cons_of_mem _ (List.mem_append_left _ (List.mem_append_left _ (List.mem_of_getElem? (i := 3) rfl)))
set_option maxHeartbeats 4000000 in
set_option maxRecDepth 100000 in
theorem t_X11_weighs_58 {p : Program} {e : Env} {s : State} {m : MethodId} {args : Array Value} {below : List Frame} {meth : Method} {c : Code} {A : Nat → Prop} {x1 x2 x3 : Int32} {K13 : St → Int32 → Prop} {Q : St → Prop} (C : Cx p s m args meth c cX11_weighs 7 none RX11 wsX11_weighs) (hK13 : ∀ (σ : St) (x2 : Int32) (H : Heap) (locs : List Loc) (ls : Array Slot), K13 σ x2 → Iw D (tyM cyI) [] [] (wM cyI ad) A s H locs σ → lv_has ls 7 [(0, .ref (ad 0)), (1, .int x1), (2, .int x2)] → W p l e r_X11_weighs s m args below meth c H locs 0 0 (MQ below (va_Qv Q (Kq D (tyM cyI) (wM cyI ad) A) A) args s 0 0 A) (F0 m 13 ls [])) :
    ∀ (n : Nat) (σ : St) (x4 x5 : Int32) (H : Heap) (locs : List Loc) (ls : Array Slot), wpl_X11_weighs_58 x1 x2 x3 K13 Q n σ x4 x5 → Iw D (tyM cyI) [] [] (wM cyI ad) A s H locs σ → lv_has ls 7 [(0, .ref (ad 0)), (1, .int x1), (2, .int x2), (3, .int x3), (4, .int x4), (5, .int x5)] → W p l e r_X11_weighs s m args below meth c H locs 0 0 (MQ below (va_Qv Q (Kq D (tyM cyI) (wM cyI ad) A) A) args s 0 0 A) (F0 m 58 ls []) := by
  obtain ⟨hx, hb, hr, hml, hown, hts, hlocks⟩ := id C
  intro n
  induction n with
  | zero =>
    intro _ _ _ _ _ _ h
    exact h.elim
  | succ n ih =>
    intro σ x4 x5 H locs ls h hI hl
    unfold wpl_X11_weighs_58 at h
    refine lv_iload_n hx hb dX11_weighs_58 rfl (lv_at hl 3 rfl) ?_
    refine lv_iconst (v := (-1)) hx hb dX11_weighs_59 (by decide) ?_
    refine lv_icmp_eq (tgt := 113) hx hb dX11_weighs_60 (by decide) (fun c8 => ?_) (fun c8 => ?_)
    · replace h := h.1 c8
      refine lv_aload_n hx hb dX11_weighs_113 rfl (lv_at hl 0 rfl) ?_
      refine k_get (q0 := 0) (k := 23) (ci := 11) (v := .ref (ad 12)) hx hb hts inX11_weighs_X11 hown hI rfl rfl (by decide) mX11_weighs_fieldLink_68_StillTextModel_least_I rfl rfl dX11_weighs_114 ?_
      refine lv_aload_n hx hb dX11_weighs_117 rfl (lv_at hl 0 rfl) ?_
      refine lv_iload_n hx hb dX11_weighs_118 rfl (lv_at hl 1 rfl) ?_
      refine lv_iload_n hx hb dX11_weighs_119 rfl (lv_at hl 2 rfl) ?_
      refine k_cVi (As := [.int x1, .int x2]) (rest := [.ref (ad 12)]) C (c_X11_place σ x1 x2 _ h) (cwV 2 hts gX11_weighs_X11_place rfl rfl rfl hdX11_place ⟨Nat.le_of_ble_eq_true rfl, Nat.le_of_ble_eq_true rfl⟩) hI 0 rfl rfl rfl hl.1 rfl (Nat.le_of_ble_eq_true rfl) dX11_weighs_120 ⟨Nat.le_of_ble_eq_true rfl, Nat.le_of_ble_eq_true rfl⟩ (fun r9 σ10 H locs h hI => ?_)
      refine lv_iload hx hb dX11_weighs_123 (lv_at hl 4 rfl) ?_
      refine lv_ldc (v := nI 1000000000) hx hb hown (hts _ mX11_weighs_constant_150_1000000000) dX11_weighs_125 ?_
      refine lv_icmp_lt (tgt := 135) hx hb dX11_weighs_127 (by decide) (fun c11 => ?_) (fun c11 => ?_)
      · replace h := h.1 c11
        refine lv_iload hx hb dX11_weighs_135 (lv_at hl 4 rfl) ?_
        refine lv_aload_n hx hb dX11_weighs_137 rfl (lv_at hl 0 rfl) ?_
        refine lv_iload_n hx hb dX11_weighs_138 rfl (lv_at hl 1 rfl) ?_
        refine lv_iload_n hx hb dX11_weighs_139 rfl (lv_at hl 2 rfl) ?_
        refine lv_iload_n hx hb dX11_weighs_140 rfl (lv_at hl 3 rfl) ?_
        refine k_cVi (As := [.int x1, .int x2, .int x3]) (rest := [.int x4, .int r9, .ref (ad 12)]) C (c_X11_lineStrain σ10 x1 x2 x3 _ h) (cwV 3 hts gX11_weighs_X11_lineStrain rfl rfl rfl hdX11_lineStrain ⟨Nat.le_of_ble_eq_true rfl, Nat.le_of_ble_eq_true rfl⟩) hI 0 rfl rfl rfl hl.1 rfl (Nat.le_of_ble_eq_true rfl) dX11_weighs_141 ⟨Nat.le_of_ble_eq_true rfl, Nat.le_of_ble_eq_true rfl⟩ (fun r12 σ13 H locs h hI => ?_)
        refine lv_iadd hx hb dX11_weighs_144 ?_
        refine k_iast (q0 := 12) (t0 := 0) (n := 4941) (σ' := up2 σ13 12 r9.toNatClampNeg (x4 + r12)) hx hb hI rfl rfl h.1 (wsM_12 _ _ _ _ _) dX11_weighs_145 (fun H locs hI => ?_)
        replace h := h.2
        refine lv_iinc (v := (x2 + nI 1)) (lv' := [(2, .int (x2 + nI 1)), (0, .ref (ad 0)), (1, .int x1), (3, .int x3), (4, .int x4), (5, .int x5)]) hx hb dX11_weighs_146 hl (k := 2) rfl rfl (by decide) rfl (fun ls hl => ?_)
        refine lv_goto (tgt := 13) hx hb dX11_weighs_149 (by decide) ?_
        exact hK13 _ _ _ _ _ h hI (lv_sub hl [1, 2, 0] rfl)
      · replace h := h.2 c11
        refine lv_ldc (v := nI 1000000000) hx hb hown (hts _ mX11_weighs_constant_150_1000000000) dX11_weighs_130 ?_
        refine lv_goto (tgt := 145) hx hb dX11_weighs_132 (by decide) ?_
        refine k_iast (q0 := 12) (t0 := 0) (n := 4941) (σ' := up2 σ10 12 r9.toNatClampNeg (nI 1000000000)) hx hb hI rfl rfl h.1 (wsM_12 _ _ _ _ _) dX11_weighs_145 (fun H locs hI => ?_)
        replace h := h.2
        refine lv_iinc (v := (x2 + nI 1)) (lv' := [(2, .int (x2 + nI 1)), (0, .ref (ad 0)), (1, .int x1), (3, .int x3), (4, .int x4), (5, .int x5)]) hx hb dX11_weighs_146 hl (k := 2) rfl rfl (by decide) rfl (fun ls hl => ?_)
        refine lv_goto (tgt := 13) hx hb dX11_weighs_149 (by decide) ?_
        exact hK13 _ _ _ _ _ h hI (lv_sub hl [1, 2, 0] rfl)
    · replace h := h.2 c8
      refine lv_iload_n hx hb dX11_weighs_63 rfl (lv_at hl 1 rfl) ?_
      refine lv_iload_n hx hb dX11_weighs_64 rfl (lv_at hl 2 rfl) ?_
      refine lv_iadd hx hb dX11_weighs_65 ?_
      refine lv_aload_n hx hb dX11_weighs_66 rfl (lv_at hl 0 rfl) ?_
      refine k_get (q0 := 0) (k := 0) (ci := 11) (v := .int (σ 0 0)) hx hb hts inX11_weighs_X11 hown hI rfl rfl (by decide) mX11_weighs_fieldLink_118_StillTextModel_units_I rfl rfl dX11_weighs_67 ?_
      refine lv_icmp_ge (tgt := 113) hx hb dX11_weighs_70 (by decide) (fun c14 => ?_) (fun c14 => ?_)
      · replace h := h.1 c14
        refine lv_aload_n hx hb dX11_weighs_113 rfl (lv_at hl 0 rfl) ?_
        refine k_get (q0 := 0) (k := 23) (ci := 11) (v := .ref (ad 12)) hx hb hts inX11_weighs_X11 hown hI rfl rfl (by decide) mX11_weighs_fieldLink_68_StillTextModel_least_I rfl rfl dX11_weighs_114 ?_
        refine lv_aload_n hx hb dX11_weighs_117 rfl (lv_at hl 0 rfl) ?_
        refine lv_iload_n hx hb dX11_weighs_118 rfl (lv_at hl 1 rfl) ?_
        refine lv_iload_n hx hb dX11_weighs_119 rfl (lv_at hl 2 rfl) ?_
        refine k_cVi (As := [.int x1, .int x2]) (rest := [.ref (ad 12)]) C (c_X11_place σ x1 x2 _ h) (cwV 2 hts gX11_weighs_X11_place rfl rfl rfl hdX11_place ⟨Nat.le_of_ble_eq_true rfl, Nat.le_of_ble_eq_true rfl⟩) hI 0 rfl rfl rfl hl.1 rfl (Nat.le_of_ble_eq_true rfl) dX11_weighs_120 ⟨Nat.le_of_ble_eq_true rfl, Nat.le_of_ble_eq_true rfl⟩ (fun r15 σ16 H locs h hI => ?_)
        refine lv_iload hx hb dX11_weighs_123 (lv_at hl 4 rfl) ?_
        refine lv_ldc (v := nI 1000000000) hx hb hown (hts _ mX11_weighs_constant_150_1000000000) dX11_weighs_125 ?_
        refine lv_icmp_lt (tgt := 135) hx hb dX11_weighs_127 (by decide) (fun c17 => ?_) (fun c17 => ?_)
        · replace h := h.1 c17
          refine lv_iload hx hb dX11_weighs_135 (lv_at hl 4 rfl) ?_
          refine lv_aload_n hx hb dX11_weighs_137 rfl (lv_at hl 0 rfl) ?_
          refine lv_iload_n hx hb dX11_weighs_138 rfl (lv_at hl 1 rfl) ?_
          refine lv_iload_n hx hb dX11_weighs_139 rfl (lv_at hl 2 rfl) ?_
          refine lv_iload_n hx hb dX11_weighs_140 rfl (lv_at hl 3 rfl) ?_
          refine k_cVi (As := [.int x1, .int x2, .int x3]) (rest := [.int x4, .int r15, .ref (ad 12)]) C (c_X11_lineStrain σ16 x1 x2 x3 _ h) (cwV 3 hts gX11_weighs_X11_lineStrain rfl rfl rfl hdX11_lineStrain ⟨Nat.le_of_ble_eq_true rfl, Nat.le_of_ble_eq_true rfl⟩) hI 0 rfl rfl rfl hl.1 rfl (Nat.le_of_ble_eq_true rfl) dX11_weighs_141 ⟨Nat.le_of_ble_eq_true rfl, Nat.le_of_ble_eq_true rfl⟩ (fun r18 σ19 H locs h hI => ?_)
          refine lv_iadd hx hb dX11_weighs_144 ?_
          refine k_iast (q0 := 12) (t0 := 0) (n := 4941) (σ' := up2 σ19 12 r15.toNatClampNeg (x4 + r18)) hx hb hI rfl rfl h.1 (wsM_12 _ _ _ _ _) dX11_weighs_145 (fun H locs hI => ?_)
          replace h := h.2
          refine lv_iinc (v := (x2 + nI 1)) (lv' := [(2, .int (x2 + nI 1)), (0, .ref (ad 0)), (1, .int x1), (3, .int x3), (4, .int x4), (5, .int x5)]) hx hb dX11_weighs_146 hl (k := 2) rfl rfl (by decide) rfl (fun ls hl => ?_)
          refine lv_goto (tgt := 13) hx hb dX11_weighs_149 (by decide) ?_
          exact hK13 _ _ _ _ _ h hI (lv_sub hl [1, 2, 0] rfl)
        · replace h := h.2 c17
          refine lv_ldc (v := nI 1000000000) hx hb hown (hts _ mX11_weighs_constant_150_1000000000) dX11_weighs_130 ?_
          refine lv_goto (tgt := 145) hx hb dX11_weighs_132 (by decide) ?_
          refine k_iast (q0 := 12) (t0 := 0) (n := 4941) (σ' := up2 σ16 12 r15.toNatClampNeg (nI 1000000000)) hx hb hI rfl rfl h.1 (wsM_12 _ _ _ _ _) dX11_weighs_145 (fun H locs hI => ?_)
          replace h := h.2
          refine lv_iinc (v := (x2 + nI 1)) (lv' := [(2, .int (x2 + nI 1)), (0, .ref (ad 0)), (1, .int x1), (3, .int x3), (4, .int x4), (5, .int x5)]) hx hb dX11_weighs_146 hl (k := 2) rfl rfl (by decide) rfl (fun ls hl => ?_)
          refine lv_goto (tgt := 13) hx hb dX11_weighs_149 (by decide) ?_
          exact hK13 _ _ _ _ _ h hI (lv_sub hl [1, 2, 0] rfl)
      · replace h := h.2 c14
        refine lv_iload hx hb dX11_weighs_73 (lv_at hl 5 rfl) ?_
        refine lv_aload_n hx hb dX11_weighs_75 rfl (lv_at hl 0 rfl) ?_
        refine lv_iload_n hx hb dX11_weighs_76 rfl (lv_at hl 1 rfl) ?_
        refine lv_iload_n hx hb dX11_weighs_77 rfl (lv_at hl 2 rfl) ?_
        refine lv_iadd hx hb dX11_weighs_78 ?_
        refine k_cVi (As := [.int (x1 + x2)]) (rest := [.int x5]) C (c_X11_most σ (x1 + x2) _ h) (cwV 1 hts gX11_weighs_X11_most rfl rfl rfl hdX11_most ⟨Nat.le_of_ble_eq_true rfl, Nat.le_of_ble_eq_true rfl⟩) hI 0 rfl rfl rfl hl.1 rfl (Nat.le_of_ble_eq_true rfl) dX11_weighs_79 ⟨Nat.le_of_ble_eq_true rfl, Nat.le_of_ble_eq_true rfl⟩ (fun r20 σ21 H locs h hI => ?_)
        refine lv_icmp_gt (tgt := 113) hx hb dX11_weighs_82 (by decide) (fun c22 => ?_) (fun c22 => ?_)
        · replace h := h.1 c22
          refine lv_aload_n hx hb dX11_weighs_113 rfl (lv_at hl 0 rfl) ?_
          refine k_get (q0 := 0) (k := 23) (ci := 11) (v := .ref (ad 12)) hx hb hts inX11_weighs_X11 hown hI rfl rfl (by decide) mX11_weighs_fieldLink_68_StillTextModel_least_I rfl rfl dX11_weighs_114 ?_
          refine lv_aload_n hx hb dX11_weighs_117 rfl (lv_at hl 0 rfl) ?_
          refine lv_iload_n hx hb dX11_weighs_118 rfl (lv_at hl 1 rfl) ?_
          refine lv_iload_n hx hb dX11_weighs_119 rfl (lv_at hl 2 rfl) ?_
          refine k_cVi (As := [.int x1, .int x2]) (rest := [.ref (ad 12)]) C (c_X11_place σ21 x1 x2 _ h) (cwV 2 hts gX11_weighs_X11_place rfl rfl rfl hdX11_place ⟨Nat.le_of_ble_eq_true rfl, Nat.le_of_ble_eq_true rfl⟩) hI 0 rfl rfl rfl hl.1 rfl (Nat.le_of_ble_eq_true rfl) dX11_weighs_120 ⟨Nat.le_of_ble_eq_true rfl, Nat.le_of_ble_eq_true rfl⟩ (fun r23 σ24 H locs h hI => ?_)
          refine lv_iload hx hb dX11_weighs_123 (lv_at hl 4 rfl) ?_
          refine lv_ldc (v := nI 1000000000) hx hb hown (hts _ mX11_weighs_constant_150_1000000000) dX11_weighs_125 ?_
          refine lv_icmp_lt (tgt := 135) hx hb dX11_weighs_127 (by decide) (fun c25 => ?_) (fun c25 => ?_)
          · replace h := h.1 c25
            refine lv_iload hx hb dX11_weighs_135 (lv_at hl 4 rfl) ?_
            refine lv_aload_n hx hb dX11_weighs_137 rfl (lv_at hl 0 rfl) ?_
            refine lv_iload_n hx hb dX11_weighs_138 rfl (lv_at hl 1 rfl) ?_
            refine lv_iload_n hx hb dX11_weighs_139 rfl (lv_at hl 2 rfl) ?_
            refine lv_iload_n hx hb dX11_weighs_140 rfl (lv_at hl 3 rfl) ?_
            refine k_cVi (As := [.int x1, .int x2, .int x3]) (rest := [.int x4, .int r23, .ref (ad 12)]) C (c_X11_lineStrain σ24 x1 x2 x3 _ h) (cwV 3 hts gX11_weighs_X11_lineStrain rfl rfl rfl hdX11_lineStrain ⟨Nat.le_of_ble_eq_true rfl, Nat.le_of_ble_eq_true rfl⟩) hI 0 rfl rfl rfl hl.1 rfl (Nat.le_of_ble_eq_true rfl) dX11_weighs_141 ⟨Nat.le_of_ble_eq_true rfl, Nat.le_of_ble_eq_true rfl⟩ (fun r26 σ27 H locs h hI => ?_)
            refine lv_iadd hx hb dX11_weighs_144 ?_
            refine k_iast (q0 := 12) (t0 := 0) (n := 4941) (σ' := up2 σ27 12 r23.toNatClampNeg (x4 + r26)) hx hb hI rfl rfl h.1 (wsM_12 _ _ _ _ _) dX11_weighs_145 (fun H locs hI => ?_)
            replace h := h.2
            refine lv_iinc (v := (x2 + nI 1)) (lv' := [(2, .int (x2 + nI 1)), (0, .ref (ad 0)), (1, .int x1), (3, .int x3), (4, .int x4), (5, .int x5)]) hx hb dX11_weighs_146 hl (k := 2) rfl rfl (by decide) rfl (fun ls hl => ?_)
            refine lv_goto (tgt := 13) hx hb dX11_weighs_149 (by decide) ?_
            exact hK13 _ _ _ _ _ h hI (lv_sub hl [1, 2, 0] rfl)
          · replace h := h.2 c25
            refine lv_ldc (v := nI 1000000000) hx hb hown (hts _ mX11_weighs_constant_150_1000000000) dX11_weighs_130 ?_
            refine lv_goto (tgt := 145) hx hb dX11_weighs_132 (by decide) ?_
            refine k_iast (q0 := 12) (t0 := 0) (n := 4941) (σ' := up2 σ24 12 r23.toNatClampNeg (nI 1000000000)) hx hb hI rfl rfl h.1 (wsM_12 _ _ _ _ _) dX11_weighs_145 (fun H locs hI => ?_)
            replace h := h.2
            refine lv_iinc (v := (x2 + nI 1)) (lv' := [(2, .int (x2 + nI 1)), (0, .ref (ad 0)), (1, .int x1), (3, .int x3), (4, .int x4), (5, .int x5)]) hx hb dX11_weighs_146 hl (k := 2) rfl rfl (by decide) rfl (fun ls hl => ?_)
            refine lv_goto (tgt := 13) hx hb dX11_weighs_149 (by decide) ?_
            exact hK13 _ _ _ _ _ h hI (lv_sub hl [1, 2, 0] rfl)
        · replace h := h.2 c22
          refine lv_aload_n hx hb dX11_weighs_85 rfl (lv_at hl 0 rfl) ?_
          refine lv_iload_n hx hb dX11_weighs_86 rfl (lv_at hl 1 rfl) ?_
          refine lv_iload_n hx hb dX11_weighs_87 rfl (lv_at hl 2 rfl) ?_
          refine lv_iload hx hb dX11_weighs_88 (lv_at hl 5 rfl) ?_
          refine lv_iload_n hx hb dX11_weighs_90 rfl (lv_at hl 3 rfl) ?_
          refine k_cVi (As := [.int x1, .int x2, .int x5, .int x3]) (rest := []) C (c_X11_costOf σ21 x1 x2 x5 x3 _ h) (cwV 4 hts gX11_weighs_X11_costOf rfl rfl rfl hdX11_costOf ⟨Nat.le_of_ble_eq_true rfl, Nat.le_of_ble_eq_true rfl⟩) hI 0 rfl rfl rfl hl.1 rfl (Nat.le_of_ble_eq_true rfl) dX11_weighs_91 ⟨Nat.le_of_ble_eq_true rfl, Nat.le_of_ble_eq_true rfl⟩ (fun r28 σ29 H locs h hI => ?_)
          refine lv_istore (lv' := [(6, .int r28), (0, .ref (ad 0)), (1, .int x1), (2, .int x2), (3, .int x3), (4, .int x4), (5, .int x5)]) hx hb dX11_weighs_94 hl (by decide) rfl (fun ls hl => ?_)
          refine lv_iload hx hb dX11_weighs_96 (lv_at hl 0 rfl) ?_
          refine lv_iload hx hb dX11_weighs_98 (lv_at hl 5 rfl) ?_
          refine lv_icmp_ge (tgt := 107) hx hb dX11_weighs_100 (by decide) (fun c30 => ?_) (fun c30 => ?_)
          · replace h := h.1 c30
            refine lv_iinc (v := (x5 + nI 1)) (lv' := [(5, .int (x5 + nI 1)), (6, .int r28), (0, .ref (ad 0)), (1, .int x1), (2, .int x2), (3, .int x3), (4, .int x4)]) hx hb dX11_weighs_107 hl (k := 6) rfl rfl (by decide) rfl (fun ls hl => ?_)
            refine lv_goto (tgt := 58) hx hb dX11_weighs_110 (by decide) ?_
            exact ih _ _ _ _ _ _ h hI (lv_sub hl [2, 3, 4, 5, 6, 0] rfl)
          · replace h := h.2 c30
            refine lv_iload hx hb dX11_weighs_103 (lv_at hl 0 rfl) ?_
            refine lv_istore (lv' := [(4, .int r28), (6, .int r28), (0, .ref (ad 0)), (1, .int x1), (2, .int x2), (3, .int x3), (5, .int x5)]) hx hb dX11_weighs_105 hl (by decide) rfl (fun ls hl => ?_)
            refine lv_iinc (v := (x5 + nI 1)) (lv' := [(5, .int (x5 + nI 1)), (4, .int r28), (6, .int r28), (0, .ref (ad 0)), (1, .int x1), (2, .int x2), (3, .int x3)]) hx hb dX11_weighs_107 hl (k := 6) rfl rfl (by decide) rfl (fun ls hl => ?_)
            refine lv_goto (tgt := 58) hx hb dX11_weighs_110 (by decide) ?_
            exact ih _ _ _ _ _ _ h hI (lv_sub hl [3, 4, 5, 6, 1, 0] rfl)
set_option maxHeartbeats 4000000 in
set_option maxRecDepth 100000 in
theorem t_X11_weighs_13 {p : Program} {e : Env} {s : State} {m : MethodId} {args : Array Value} {below : List Frame} {meth : Method} {c : Code} {A : Nat → Prop} {x1 : Int32} {K7 : St → Int32 → Prop} {Q : St → Prop} (C : Cx p s m args meth c cX11_weighs 7 none RX11 wsX11_weighs) (hK7 : ∀ (σ : St) (x1 : Int32) (H : Heap) (locs : List Loc) (ls : Array Slot), K7 σ x1 → Iw D (tyM cyI) [] [] (wM cyI ad) A s H locs σ → lv_has ls 7 [(0, .ref (ad 0)), (1, .int x1)] → W p l e r_X11_weighs s m args below meth c H locs 0 0 (MQ below (va_Qv Q (Kq D (tyM cyI) (wM cyI ad) A) A) args s 0 0 A) (F0 m 7 ls [])) :
    ∀ (n : Nat) (σ : St) (x2 : Int32) (H : Heap) (locs : List Loc) (ls : Array Slot), wpl_X11_weighs_13 x1 K7 Q n σ x2 → Iw D (tyM cyI) [] [] (wM cyI ad) A s H locs σ → lv_has ls 7 [(0, .ref (ad 0)), (1, .int x1), (2, .int x2)] → W p l e r_X11_weighs s m args below meth c H locs 0 0 (MQ below (va_Qv Q (Kq D (tyM cyI) (wM cyI ad) A) A) args s 0 0 A) (F0 m 13 ls []) := by
  obtain ⟨hx, hb, hr, hml, hown, hts, hlocks⟩ := id C
  intro n
  induction n with
  | zero =>
    intro _ _ _ _ _ h
    exact h.elim
  | succ n ih =>
    intro σ x2 H locs ls h hI hl
    unfold wpl_X11_weighs_13 at h
    refine lv_iload_n hx hb dX11_weighs_13 rfl (lv_at hl 2 rfl) ?_
    refine lv_aload_n hx hb dX11_weighs_14 rfl (lv_at hl 0 rfl) ?_
    refine lv_iload_n hx hb dX11_weighs_15 rfl (lv_at hl 1 rfl) ?_
    refine k_cVi (As := [.int x1]) (rest := [.int x2]) C (c_X11_most σ x1 _ h) (cwV 1 hts gX11_weighs_X11_most rfl rfl rfl hdX11_most ⟨Nat.le_of_ble_eq_true rfl, Nat.le_of_ble_eq_true rfl⟩) hI 0 rfl rfl rfl hl.1 rfl (Nat.le_of_ble_eq_true rfl) dX11_weighs_16 ⟨Nat.le_of_ble_eq_true rfl, Nat.le_of_ble_eq_true rfl⟩ (fun r2 σ3 H locs h hI => ?_)
    refine lv_icmp_gt (tgt := 152) hx hb dX11_weighs_19 (by decide) (fun c4 => ?_) (fun c4 => ?_)
    · replace h := h.1 c4
      refine lv_iinc (v := (x1 - nI 1)) (lv' := [(1, .int (x1 - nI 1)), (0, .ref (ad 0)), (2, .int x2)]) hx hb dX11_weighs_152 hl (k := 1) rfl (k_dec1 _) (by decide) rfl (fun ls hl => ?_)
      refine lv_goto (tgt := 7) hx hb dX11_weighs_155 (by decide) ?_
      exact hK7 _ _ _ _ _ h hI (lv_sub hl [1, 0] rfl)
    · replace h := h.2 c4
      refine lv_aload_n hx hb dX11_weighs_22 rfl (lv_at hl 0 rfl) ?_
      refine lv_aload_n hx hb dX11_weighs_23 rfl (lv_at hl 0 rfl) ?_
      refine k_get (q0 := 0) (k := 21) (ci := 11) (v := .ref (ad 10)) hx hb hts inX11_weighs_X11 hown hI rfl rfl (by decide) mX11_weighs_fieldLink_62_StillTextModel_upper_I rfl rfl dX11_weighs_24 ?_
      refine lv_iload_n hx hb dX11_weighs_27 rfl (lv_at hl 1 rfl) ?_
      refine lv_iload_n hx hb dX11_weighs_28 rfl (lv_at hl 2 rfl) ?_
      refine k_cVi (As := [.ref (ad 10), .int x1, .int x2]) (rest := []) C (c_X11_lays_10 σ3 x1 x2 _ h) (cwV 3 hts gX11_weighs_X11_lays rfl rfl rfl hdX11_lays ⟨Nat.le_of_ble_eq_true rfl, Nat.le_of_ble_eq_true rfl⟩) hI 0 rfl rfl rfl hl.1 rfl (Nat.le_of_ble_eq_true rfl) dX11_weighs_29 ⟨Nat.le_of_ble_eq_true rfl, Nat.le_of_ble_eq_true rfl⟩ (fun r5 σ6 H locs h hI => ?_)
      refine lv_istore_n (lv' := [(3, .int r5), (0, .ref (ad 0)), (1, .int x1), (2, .int x2)]) hx hb dX11_weighs_32 rfl hl (by decide) rfl (fun ls hl => ?_)
      refine lv_ldc (v := nI 1000000000) hx hb hown (hts _ mX11_weighs_constant_150_1000000000) dX11_weighs_33 ?_
      refine lv_istore (lv' := [(4, .int (nI 1000000000)), (3, .int r5), (0, .ref (ad 0)), (1, .int x1), (2, .int x2)]) hx hb dX11_weighs_35 hl (by decide) rfl (fun ls hl => ?_)
      refine lv_iload_n hx hb dX11_weighs_37 rfl (lv_at hl 1 rfl) ?_
      refine lv_iconst (v := (-1)) hx hb dX11_weighs_38 (by decide) ?_
      refine lv_icmp_eq (tgt := 55) hx hb dX11_weighs_39 (by decide) (fun c7 => ?_) (fun c7 => ?_)
      · replace h := h.1 c7
        refine lv_iconst (v := nI 1) hx hb dX11_weighs_55 (by decide) ?_
        refine lv_istore (lv' := [(5, .int (nI 1)), (4, .int (nI 1000000000)), (3, .int r5), (0, .ref (ad 0)), (1, .int x1), (2, .int x2)]) hx hb dX11_weighs_56 hl (by decide) rfl (fun ls hl => ?_)
        obtain ⟨k31, h⟩ := h
        exact t_X11_weighs_58 C ih k31 _ _ _ _ _ _ h hI (lv_sub hl [3, 4, 5, 2, 1, 0] rfl)
      · replace h := h.2 c7
        refine lv_iload_n hx hb dX11_weighs_42 rfl (lv_at hl 3 rfl) ?_
        refine lv_iload_n hx hb dX11_weighs_43 rfl (lv_at hl 4 rfl) ?_
        refine lv_iadd hx hb dX11_weighs_44 ?_
        refine lv_aload_n hx hb dX11_weighs_45 rfl (lv_at hl 2 rfl) ?_
        refine k_get (q0 := 0) (k := 0) (ci := 11) (v := .int (σ6 0 0)) hx hb hts inX11_weighs_X11 hown hI rfl rfl (by decide) mX11_weighs_fieldLink_118_StillTextModel_units_I rfl rfl dX11_weighs_46 ?_
        refine lv_icmp_ne (tgt := 55) hx hb dX11_weighs_49 (by decide) (fun c32 => ?_) (fun c32 => ?_)
        · replace h := h.1 c32
          refine lv_iconst (v := nI 1) hx hb dX11_weighs_55 (by decide) ?_
          refine lv_istore (lv' := [(5, .int (nI 1)), (4, .int (nI 1000000000)), (3, .int r5), (0, .ref (ad 0)), (1, .int x1), (2, .int x2)]) hx hb dX11_weighs_56 hl (by decide) rfl (fun ls hl => ?_)
          obtain ⟨k33, h⟩ := h
          exact t_X11_weighs_58 C ih k33 _ _ _ _ _ _ h hI (lv_sub hl [3, 4, 5, 2, 1, 0] rfl)
        · replace h := h.2 c32
          refine lv_iconst (v := nI 0) hx hb dX11_weighs_52 (by decide) ?_
          refine lv_istore (lv' := [(4, .int (nI 0)), (3, .int r5), (0, .ref (ad 0)), (1, .int x1), (2, .int x2)]) hx hb dX11_weighs_53 hl (by decide) rfl (fun ls hl => ?_)
          refine lv_iconst (v := nI 1) hx hb dX11_weighs_55 (by decide) ?_
          refine lv_istore (lv' := [(5, .int (nI 1)), (4, .int (nI 0)), (3, .int r5), (0, .ref (ad 0)), (1, .int x1), (2, .int x2)]) hx hb dX11_weighs_56 hl (by decide) rfl (fun ls hl => ?_)
          obtain ⟨k34, h⟩ := h
          exact t_X11_weighs_58 C ih k34 _ _ _ _ _ _ h hI (lv_sub hl [3, 4, 5, 2, 1, 0] rfl)
set_option maxHeartbeats 4000000 in
set_option maxRecDepth 100000 in
theorem t_X11_weighs_7 {p : Program} {e : Env} {s : State} {m : MethodId} {args : Array Value} {below : List Frame} {meth : Method} {c : Code} {A : Nat → Prop}  {Q : St → Prop} (C : Cx p s m args meth c cX11_weighs 7 none RX11 wsX11_weighs) :
    ∀ (n : Nat) (σ : St) (x1 : Int32) (H : Heap) (locs : List Loc) (ls : Array Slot), wpl_X11_weighs_7 Q n σ x1 → Iw D (tyM cyI) [] [] (wM cyI ad) A s H locs σ → lv_has ls 7 [(0, .ref (ad 0)), (1, .int x1)] → W p l e r_X11_weighs s m args below meth c H locs 0 0 (MQ below (va_Qv Q (Kq D (tyM cyI) (wM cyI ad) A) A) args s 0 0 A) (F0 m 7 ls []) := by
  obtain ⟨hx, hb, hr, hml, hown, hts, hlocks⟩ := id C
  intro n
  induction n with
  | zero =>
    intro _ _ _ _ _ h
    exact h.elim
  | succ n ih =>
    intro σ x1 H locs ls h hI hl
    unfold wpl_X11_weighs_7 at h
    refine lv_iload_n hx hb dX11_weighs_7 rfl (lv_at hl 1 rfl) ?_
    refine lv_if_lt (tgt := 158) hx hb dX11_weighs_8 (by decide) (fun c1 => ?_) (fun c1 => ?_)
    · replace h := h.1 c1
      exact k_vret hx hb hr hlocks hI h dX11_weighs_158
    · replace h := h.2 c1
      refine lv_iconst (v := nI 1) hx hb dX11_weighs_11 (by decide) ?_
      refine lv_istore_n (lv' := [(2, .int (nI 1)), (0, .ref (ad 0)), (1, .int x1)]) hx hb dX11_weighs_12 rfl hl (by decide) rfl (fun ls hl => ?_)
      obtain ⟨k35, h⟩ := h
      exact t_X11_weighs_13 C ih k35 _ _ _ _ _ h hI (lv_sub hl [1, 2, 0] rfl)
set_option maxHeartbeats 4000000 in
set_option maxRecDepth 100000 in
theorem c_X11_weighs (σ : St) (Q : St → Prop) (h : wp_X11_weighs σ  Q) : Cv l D (tyM cyI) [] [] (wM cyI ad) yX11_weighs wsX11_weighs r_X11_weighs [.ref (ad 0)] σ Q := by
  refine k_metV (cc := cX11_weighs) (maxL := 7) (ret := none) (by decide) rfl (Nat.le_of_ble_eq_true rfl) ?_
  intro p e s m below meth c A ls C hI hl
  obtain ⟨hx, hb, hr, hml, hown, hts, hlocks⟩ := id C
  have hl : lv_has ls 7 [(0, .ref (ad 0))] := hl
  unfold wp_X11_weighs at h
  refine lv_aload_n hx hb dX11_weighs_0 rfl (lv_at hl 0 rfl) ?_
  refine k_get (q0 := 0) (k := 0) (ci := 11) (v := .int (σ 0 0)) hx hb hts inX11_weighs_X11 hown hI rfl rfl (by decide) mX11_weighs_fieldLink_118_StillTextModel_units_I rfl rfl dX11_weighs_1 ?_
  refine lv_iconst (v := nI 1) hx hb dX11_weighs_4 (by decide) ?_
  refine lv_isub hx hb dX11_weighs_5 ?_
  refine lv_istore_n (lv' := [(1, .int ((σ 0 0) - (nI 1))), (0, .ref (ad 0))]) hx hb dX11_weighs_6 rfl hl (by decide) rfl (fun ls hl => ?_)
  obtain ⟨k36, h⟩ := h
  exact t_X11_weighs_7 C  k36 _ _ _ _ _ h hI (lv_sub hl [1, 0] rfl)
end
