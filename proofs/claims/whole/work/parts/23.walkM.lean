section
variable {l : Launch} {D : va_G} {cyI : ClassId} {ad : Nat → Nat}
theorem inX11_answer_X11 : ∀ w ∈ wsX110, w ∈ wsX11_answer := fun _ h => List.mem_cons_of_mem _ (List.mem_append_right _ (h))
theorem mX11_answer_fieldLink_201_StillTextModel_hasTests_Z : Cond.fieldLink RX11 201 "StillTextModel" "hasTests" "Z" ∈ wsX11_answer := List.mem_cons_of_mem _ (List.mem_append_left _ (List.mem_append_left _ (List.mem_of_getElem? (i := 0) rfl)))
theorem mX11_answer_fieldLink_207_StillTextModel_answers_I : Cond.fieldLink RX11 207 "StillTextModel" "answers" "I" ∈ wsX11_answer := List.mem_cons_of_mem _ (List.mem_append_left _ (List.mem_append_left _ (List.mem_of_getElem? (i := 1) rfl)))
theorem mX11_answer_fieldLink_198_StillTextModel_ahead_I : Cond.fieldLink RX11 198 "StillTextModel" "ahead" "I" ∈ wsX11_answer := List.mem_cons_of_mem _ (List.mem_append_left _ (List.mem_append_left _ (List.mem_of_getElem? (i := 2) rfl)))
theorem mX11_answer_fieldLink_204_StillTextModel_lead_I : Cond.fieldLink RX11 204 "StillTextModel" "lead" "I" ∈ wsX11_answer := List.mem_cons_of_mem _ (List.mem_append_left _ (List.mem_append_left _ (List.mem_of_getElem? (i := 3) rfl)))
theorem mX11_answer_fieldLink_210_StillTextModel_won_I : Cond.fieldLink RX11 210 "StillTextModel" "won" "I" ∈ wsX11_answer := List.mem_cons_of_mem _ (List.mem_append_left _ (List.mem_append_left _ (List.mem_of_getElem? (i := 4) rfl)))
theorem mX11_answer_fieldLink_182_StillTextModel_bestLong_I : Cond.fieldLink RX11 182 "StillTextModel" "bestLong" "I" ∈ wsX11_answer := List.mem_cons_of_mem _ (List.mem_append_left _ (List.mem_append_left _ (List.mem_of_getElem? (i := 6) rfl)))
theorem mX11_answer_fieldLink_188_StillTextModel_bestSpread_I : Cond.fieldLink RX11 188 "StillTextModel" "bestSpread" "I" ∈ wsX11_answer := List.mem_cons_of_mem _ (List.mem_append_left _ (List.mem_append_left _ (List.mem_of_getElem? (i := 7) rfl)))
theorem mX11_answer_fieldLink_185_StillTextModel_now_I : Cond.fieldLink RX11 185 "StillTextModel" "now" "I" ∈ wsX11_answer := List.mem_cons_of_mem _ (List.mem_append_left _ (List.mem_append_left _ (List.mem_of_getElem? (i := 5) rfl)))
set_option maxHeartbeats 4000000 in
set_option maxRecDepth 100000 in
theorem t_X11_answer_40 {p : Program} {e : Env} {s : State} {m : MethodId} {args : Array Value} {below : List Frame} {meth : Method} {c : Code} {A : Nat → Prop} {x1 s2 s1 : Int32}  {Q : Int32 → St → Prop} (C : Cx p s m args meth c cX11_answer 5 (some .int) RX11 wsX11_answer) :
    ∀ (σ : St) (H : Heap) (locs : List Loc) (ls : Array Slot), wpj_X11_answer_40 x1 s2 s1 Q σ → Iw D (tyM cyI) [] [] (wM cyI ad) A s H locs σ → lv_has ls 5 [(0, .ref (ad 0)), (1, .int x1)] → W p l e r_X11_answer s m args below meth c H locs 0 0 (MQ below (va_Qi Q (Kq D (tyM cyI) (wM cyI ad) A) A) args s 0 0 A) (F0 m 40 ls [.int s2, .int s1, .ref (ad 0)]) := by
  obtain ⟨hx, hb, hr, hml, hown, hts, hlocks⟩ := id C
  intro σ H locs ls h hI hl
  unfold wpj_X11_answer_40 at h
  refine lv_iadd hx hb dX11_answer_40 ?_
  refine k_put (q0 := 0) (k := 40) (ci := 11) (v := .int (s1 + s2)) (σ' := up2 σ 0 40 (s1 + s2)) hx hb hts inX11_answer_X11 tyX11 tyX11_ok nmX11 hown hI rfl rfl (by decide) mX11_answer_fieldLink_198_StillTextModel_ahead_I rfl rfl rfl rfl (Nat.le_of_ble_eq_true rfl) (wsM_0_40 _ _ _ _) dX11_answer_41 (fun H locs hI => ?_)
  refine lv_iconst (v := nI 0) hx hb dX11_answer_44 (by decide) ?_
  refine lv_istore_n (lv' := [(2, .int (nI 0)), (0, .ref (ad 0)), (1, .int x1)]) hx hb dX11_answer_45 rfl hl (by decide) rfl (fun ls hl => ?_)
  refine lv_aload_n hx hb dX11_answer_46 rfl (lv_at hl 1 rfl) ?_
  refine k_get (q0 := 0) (k := 40) (ci := 11) (v := .int (s1 + s2)) hx hb hts inX11_answer_X11 hown hI rfl rfl (by decide) mX11_answer_fieldLink_198_StillTextModel_ahead_I rfl rfl dX11_answer_47 ?_
  refine lv_aload_n hx hb dX11_answer_50 rfl (lv_at hl 1 rfl) ?_
  refine k_get (q0 := 0) (k := 39) (ci := 11) (v := .int (σ 0 39)) hx hb hts inX11_answer_X11 hown hI rfl rfl (by decide) mX11_answer_fieldLink_204_StillTextModel_lead_I rfl rfl dX11_answer_51 ?_
  refine lv_icmp_ne (tgt := 82) hx hb dX11_answer_54 (by decide) (fun c6 => ?_) (fun c6 => ?_)
  · replace h := h.1 c6
    refine lv_aload_n hx hb dX11_answer_82 rfl (lv_at hl 1 rfl) ?_
    refine k_get (q0 := 0) (k := 40) (ci := 11) (v := .int (s1 + s2)) hx hb hts inX11_answer_X11 hown hI rfl rfl (by decide) mX11_answer_fieldLink_198_StillTextModel_ahead_I rfl rfl dX11_answer_83 ?_
    refine lv_aload_n hx hb dX11_answer_86 rfl (lv_at hl 1 rfl) ?_
    refine k_get (q0 := 0) (k := 39) (ci := 11) (v := .int (σ 0 39)) hx hb hts inX11_answer_X11 hown hI rfl rfl (by decide) mX11_answer_fieldLink_204_StillTextModel_lead_I rfl rfl dX11_answer_87 ?_
    refine lv_ineg hx hb dX11_answer_90 ?_
    refine lv_icmp_ne (tgt := 133) hx hb dX11_answer_91 (by decide) (fun c7 => ?_) (fun c7 => ?_)
    · replace h := h.1 c7
      refine lv_aload_n hx hb dX11_answer_133 rfl (lv_at hl 1 rfl) ?_
      refine k_cVi (As := []) (rest := []) C (c_X11_isOver (up2 σ 0 40 (s1 + s2))  _ h) (cwV 0 hts gX11_answer_X11_isOver rfl rfl rfl hdX11_isOver ⟨Nat.le_of_ble_eq_true rfl, Nat.le_of_ble_eq_true rfl⟩) hI 0 rfl rfl rfl hl.1 rfl (Nat.le_of_ble_eq_true rfl) dX11_answer_134 ⟨Nat.le_of_ble_eq_true rfl, Nat.le_of_ble_eq_true rfl⟩ (fun r8 σ9 H locs h hI => ?_)
      refine lv_if_eq (tgt := 144) hx hb dX11_answer_137 (by decide) (fun c10 => ?_) (fun c10 => ?_)
      · replace h := h.1 c10
        refine lv_iload_n hx hb dX11_answer_144 rfl (lv_at hl 0 rfl) ?_
        exact k_iret hx hb hr hlocks hI h dX11_answer_145
      · replace h := h.2 c10
        refine lv_iconst (v := nI 3) hx hb dX11_answer_140 (by decide) ?_
        refine lv_goto (tgt := 145) hx hb dX11_answer_141 (by decide) ?_
        exact k_iret hx hb hr hlocks hI h dX11_answer_145
    · replace h := h.2 c7
      refine lv_iconst (v := nI 2) hx hb dX11_answer_94 (by decide) ?_
      refine lv_istore_n (lv' := [(2, .int (nI 2)), (0, .ref (ad 0)), (1, .int x1)]) hx hb dX11_answer_95 rfl hl (by decide) rfl (fun ls hl => ?_)
      refine lv_aload_n hx hb dX11_answer_96 rfl (lv_at hl 1 rfl) ?_
      refine lv_dup hx hb dX11_answer_97 rfl ?_
      refine k_get (q0 := 0) (k := 42) (ci := 11) (v := .int (σ 0 42)) hx hb hts inX11_answer_X11 hown hI rfl rfl (by decide) mX11_answer_fieldLink_210_StillTextModel_won_I rfl rfl dX11_answer_98 ?_
      refine lv_iconst (v := nI 1) hx hb dX11_answer_101 (by decide) ?_
      refine lv_iadd hx hb dX11_answer_102 ?_
      refine k_put (q0 := 0) (k := 42) (ci := 11) (v := .int ((σ 0 42) + (nI 1))) (σ' := up2 (up2 σ 0 40 (s1 + s2)) 0 42 ((σ 0 42) + (nI 1))) hx hb hts inX11_answer_X11 tyX11 tyX11_ok nmX11 hown hI rfl rfl (by decide) mX11_answer_fieldLink_210_StillTextModel_won_I rfl rfl rfl rfl (Nat.le_of_ble_eq_true rfl) (wsM_0_42 _ _ _ _) dX11_answer_103 (fun H locs hI => ?_)
      refine lv_aload_n hx hb dX11_answer_106 rfl (lv_at hl 1 rfl) ?_
      refine k_cVi (As := []) (rest := []) C (c_X11_neighbourLong (up2 (up2 σ 0 40 (s1 + s2)) 0 42 ((σ 0 42) + (nI 1)))  _ h) (cwV 0 hts gX11_answer_X11_neighbourLong rfl rfl rfl hdX11_neighbourLong ⟨Nat.le_of_ble_eq_true rfl, Nat.le_of_ble_eq_true rfl⟩) hI 0 rfl rfl rfl hl.1 rfl (Nat.le_of_ble_eq_true rfl) dX11_answer_107 ⟨Nat.le_of_ble_eq_true rfl, Nat.le_of_ble_eq_true rfl⟩ (fun r11 σ12 H locs h hI => ?_)
      refine lv_istore_n (lv' := [(3, .int r11), (2, .int (nI 2)), (0, .ref (ad 0)), (1, .int x1)]) hx hb dX11_answer_110 rfl hl (by decide) rfl (fun ls hl => ?_)
      refine lv_aload_n hx hb dX11_answer_111 rfl (lv_at hl 2 rfl) ?_
      refine k_cVi (As := []) (rest := []) C (c_X11_neighbourSpread σ12  _ h) (cwV 0 hts gX11_answer_X11_neighbourSpread rfl rfl rfl hdX11_neighbourSpread ⟨Nat.le_of_ble_eq_true rfl, Nat.le_of_ble_eq_true rfl⟩) hI 0 rfl rfl rfl hl.1 rfl (Nat.le_of_ble_eq_true rfl) dX11_answer_112 ⟨Nat.le_of_ble_eq_true rfl, Nat.le_of_ble_eq_true rfl⟩ (fun r13 σ14 H locs h hI => ?_)
      refine lv_istore (lv' := [(4, .int r13), (3, .int r11), (2, .int (nI 2)), (0, .ref (ad 0)), (1, .int x1)]) hx hb dX11_answer_115 hl (by decide) rfl (fun ls hl => ?_)
      refine lv_aload_n hx hb dX11_answer_117 rfl (lv_at hl 3 rfl) ?_
      refine lv_iload_n hx hb dX11_answer_118 rfl (lv_at hl 1 rfl) ?_
      refine k_put (q0 := 0) (k := 37) (ci := 11) (v := .int r11) (σ' := up2 σ14 0 37 r11) hx hb hts inX11_answer_X11 tyX11 tyX11_ok nmX11 hown hI rfl rfl (by decide) mX11_answer_fieldLink_182_StillTextModel_bestLong_I rfl rfl rfl rfl (Nat.le_of_ble_eq_true rfl) (wsM_0_37 _ _ _ _) dX11_answer_119 (fun H locs hI => ?_)
      refine lv_aload_n hx hb dX11_answer_122 rfl (lv_at hl 3 rfl) ?_
      refine lv_iload hx hb dX11_answer_123 (lv_at hl 0 rfl) ?_
      refine k_put (q0 := 0) (k := 38) (ci := 11) (v := .int r13) (σ' := up2 (up2 σ14 0 37 r11) 0 38 r13) hx hb hts inX11_answer_X11 tyX11 tyX11_ok nmX11 hown hI rfl rfl (by decide) mX11_answer_fieldLink_188_StillTextModel_bestSpread_I rfl rfl rfl rfl (Nat.le_of_ble_eq_true rfl) (wsM_0_38 _ _ _ _) dX11_answer_125 (fun H locs hI => ?_)
      refine lv_aload_n hx hb dX11_answer_128 rfl (lv_at hl 3 rfl) ?_
      refine lv_iconst (v := nI 0) hx hb dX11_answer_129 (by decide) ?_
      refine k_cVv (As := [.int (nI 0)]) (rest := []) C (c_X11_finds (up2 (up2 σ14 0 37 r11) 0 38 r13) (nI 0) _ h) (cwV 1 hts gX11_answer_X11_finds rfl rfl rfl hdX11_finds ⟨Nat.le_of_ble_eq_true rfl, Nat.le_of_ble_eq_true rfl⟩) hI 0 rfl rfl rfl hl.1 rfl (Nat.le_of_ble_eq_true rfl) dX11_answer_130 ⟨Nat.le_of_ble_eq_true rfl, Nat.le_of_ble_eq_true rfl⟩ (fun σ16 H locs h hI => ?_)
      refine lv_aload_n hx hb dX11_answer_133 rfl (lv_at hl 3 rfl) ?_
      refine k_cVi (As := []) (rest := []) C (c_X11_isOver σ16  _ h) (cwV 0 hts gX11_answer_X11_isOver rfl rfl rfl hdX11_isOver ⟨Nat.le_of_ble_eq_true rfl, Nat.le_of_ble_eq_true rfl⟩) hI 0 rfl rfl rfl hl.1 rfl (Nat.le_of_ble_eq_true rfl) dX11_answer_134 ⟨Nat.le_of_ble_eq_true rfl, Nat.le_of_ble_eq_true rfl⟩ (fun r17 σ18 H locs h hI => ?_)
      refine lv_if_eq (tgt := 144) hx hb dX11_answer_137 (by decide) (fun c19 => ?_) (fun c19 => ?_)
      · replace h := h.1 c19
        refine lv_iload_n hx hb dX11_answer_144 rfl (lv_at hl 2 rfl) ?_
        exact k_iret hx hb hr hlocks hI h dX11_answer_145
      · replace h := h.2 c19
        refine lv_iconst (v := nI 3) hx hb dX11_answer_140 (by decide) ?_
        refine lv_goto (tgt := 145) hx hb dX11_answer_141 (by decide) ?_
        exact k_iret hx hb hr hlocks hI h dX11_answer_145
  · replace h := h.2 c6
    refine lv_iconst (v := nI 1) hx hb dX11_answer_57 (by decide) ?_
    refine lv_istore_n (lv' := [(2, .int (nI 1)), (0, .ref (ad 0)), (1, .int x1)]) hx hb dX11_answer_58 rfl hl (by decide) rfl (fun ls hl => ?_)
    refine lv_aload_n hx hb dX11_answer_59 rfl (lv_at hl 1 rfl) ?_
    refine lv_dup hx hb dX11_answer_60 rfl ?_
    refine k_get (q0 := 0) (k := 42) (ci := 11) (v := .int (σ 0 42)) hx hb hts inX11_answer_X11 hown hI rfl rfl (by decide) mX11_answer_fieldLink_210_StillTextModel_won_I rfl rfl dX11_answer_61 ?_
    refine lv_iconst (v := nI 1) hx hb dX11_answer_64 (by decide) ?_
    refine lv_iadd hx hb dX11_answer_65 ?_
    refine k_put (q0 := 0) (k := 42) (ci := 11) (v := .int ((σ 0 42) + (nI 1))) (σ' := up2 (up2 σ 0 40 (s1 + s2)) 0 42 ((σ 0 42) + (nI 1))) hx hb hts inX11_answer_X11 tyX11 tyX11_ok nmX11 hown hI rfl rfl (by decide) mX11_answer_fieldLink_210_StillTextModel_won_I rfl rfl rfl rfl (Nat.le_of_ble_eq_true rfl) (wsM_0_42 _ _ _ _) dX11_answer_66 (fun H locs hI => ?_)
    refine lv_aload_n hx hb dX11_answer_69 rfl (lv_at hl 1 rfl) ?_
    refine lv_aload_n hx hb dX11_answer_70 rfl (lv_at hl 1 rfl) ?_
    refine k_get (q0 := 0) (k := 43) (ci := 11) (v := .int (σ 0 43)) hx hb hts inX11_answer_X11 hown hI rfl rfl (by decide) mX11_answer_fieldLink_185_StillTextModel_now_I rfl rfl dX11_answer_71 ?_
    refine lv_iconst (v := nI 1) hx hb dX11_answer_74 (by decide) ?_
    refine lv_iadd hx hb dX11_answer_75 ?_
    refine k_cVv (As := [.int ((σ 0 43) + (nI 1))]) (rest := []) C (c_X11_finds (up2 (up2 σ 0 40 (s1 + s2)) 0 42 ((σ 0 42) + (nI 1))) ((σ 0 43) + (nI 1)) _ h) (cwV 1 hts gX11_answer_X11_finds rfl rfl rfl hdX11_finds ⟨Nat.le_of_ble_eq_true rfl, Nat.le_of_ble_eq_true rfl⟩) hI 0 rfl rfl rfl hl.1 rfl (Nat.le_of_ble_eq_true rfl) dX11_answer_76 ⟨Nat.le_of_ble_eq_true rfl, Nat.le_of_ble_eq_true rfl⟩ (fun σ21 H locs h hI => ?_)
    refine lv_goto (tgt := 133) hx hb dX11_answer_79 (by decide) ?_
    refine lv_aload_n hx hb dX11_answer_133 rfl (lv_at hl 1 rfl) ?_
    refine k_cVi (As := []) (rest := []) C (c_X11_isOver σ21  _ h) (cwV 0 hts gX11_answer_X11_isOver rfl rfl rfl hdX11_isOver ⟨Nat.le_of_ble_eq_true rfl, Nat.le_of_ble_eq_true rfl⟩) hI 0 rfl rfl rfl hl.1 rfl (Nat.le_of_ble_eq_true rfl) dX11_answer_134 ⟨Nat.le_of_ble_eq_true rfl, Nat.le_of_ble_eq_true rfl⟩ (fun r22 σ23 H locs h hI => ?_)
    refine lv_if_eq (tgt := 144) hx hb dX11_answer_137 (by decide) (fun c24 => ?_) (fun c24 => ?_)
    · replace h := h.1 c24
      refine lv_iload_n hx hb dX11_answer_144 rfl (lv_at hl 0 rfl) ?_
      exact k_iret hx hb hr hlocks hI h dX11_answer_145
    · replace h := h.2 c24
      refine lv_iconst (v := nI 3) hx hb dX11_answer_140 (by decide) ?_
      refine lv_goto (tgt := 145) hx hb dX11_answer_141 (by decide) ?_
      exact k_iret hx hb hr hlocks hI h dX11_answer_145
set_option maxHeartbeats 4000000 in
set_option maxRecDepth 100000 in
theorem c_X11_answer (σ : St) (x1 : Int32) (Q : Int32 → St → Prop) (h : wp_X11_answer σ x1 Q) : Ci l D (tyM cyI) [] [] (wM cyI ad) yX11_answer wsX11_answer r_X11_answer [.ref (ad 0), .int x1] σ Q := by
  refine k_metI (cc := cX11_answer) (maxL := 5) (ret := (some .int)) (by decide) rfl (Nat.le_of_ble_eq_true rfl) ?_
  intro p e s m below meth c A ls C hI hl
  obtain ⟨hx, hb, hr, hml, hown, hts, hlocks⟩ := id C
  have hl : lv_has ls 5 [(0, .ref (ad 0)), (1, .int x1)] := hl
  unfold wp_X11_answer at h
  refine lv_aload_n hx hb dX11_answer_0 rfl (lv_at hl 0 rfl) ?_
  refine k_get (q0 := 0) (k := 36) (ci := 11) (v := .int (σ 0 36)) hx hb hts inX11_answer_X11 hown hI rfl rfl (by decide) mX11_answer_fieldLink_201_StillTextModel_hasTests_Z rfl rfl dX11_answer_1 ?_
  refine lv_if_eq (tgt := 14) hx hb dX11_answer_4 (by decide) (fun c1 => ?_) (fun c1 => ?_)
  · replace h := h.1 c1
    refine lv_iconst (v := (-1)) hx hb dX11_answer_14 (by decide) ?_
    exact k_iret hx hb hr hlocks hI h dX11_answer_15
  · replace h := h.2 c1
    refine lv_aload_n hx hb dX11_answer_7 rfl (lv_at hl 0 rfl) ?_
    refine k_cVi (As := []) (rest := []) C (c_X11_isOver σ  _ h) (cwV 0 hts gX11_answer_X11_isOver rfl rfl rfl hdX11_isOver ⟨Nat.le_of_ble_eq_true rfl, Nat.le_of_ble_eq_true rfl⟩) hI 0 rfl rfl rfl hl.1 rfl (Nat.le_of_ble_eq_true rfl) dX11_answer_8 ⟨Nat.le_of_ble_eq_true rfl, Nat.le_of_ble_eq_true rfl⟩ (fun r2 σ3 H locs h hI => ?_)
    refine lv_if_eq (tgt := 16) hx hb dX11_answer_11 (by decide) (fun c4 => ?_) (fun c4 => ?_)
    · replace h := h.1 c4
      refine lv_aload_n hx hb dX11_answer_16 rfl (lv_at hl 0 rfl) ?_
      refine lv_dup hx hb dX11_answer_17 rfl ?_
      refine k_get (q0 := 0) (k := 41) (ci := 11) (v := .int (σ3 0 41)) hx hb hts inX11_answer_X11 hown hI rfl rfl (by decide) mX11_answer_fieldLink_207_StillTextModel_answers_I rfl rfl dX11_answer_18 ?_
      refine lv_iconst (v := nI 1) hx hb dX11_answer_21 (by decide) ?_
      refine lv_iadd hx hb dX11_answer_22 ?_
      refine k_put (q0 := 0) (k := 41) (ci := 11) (v := .int ((σ3 0 41) + (nI 1))) (σ' := up2 σ3 0 41 ((σ3 0 41) + (nI 1))) hx hb hts inX11_answer_X11 tyX11 tyX11_ok nmX11 hown hI rfl rfl (by decide) mX11_answer_fieldLink_207_StillTextModel_answers_I rfl rfl rfl rfl (Nat.le_of_ble_eq_true rfl) (wsM_0_41 _ _ _ _) dX11_answer_23 (fun H locs hI => ?_)
      refine lv_aload_n hx hb dX11_answer_26 rfl (lv_at hl 0 rfl) ?_
      refine lv_dup hx hb dX11_answer_27 rfl ?_
      refine k_get (q0 := 0) (k := 40) (ci := 11) (v := .int (σ3 0 40)) hx hb hts inX11_answer_X11 hown hI rfl rfl (by decide) mX11_answer_fieldLink_198_StillTextModel_ahead_I rfl rfl dX11_answer_28 ?_
      refine lv_iload_n hx hb dX11_answer_31 rfl (lv_at hl 1 rfl) ?_
      refine lv_if_eq (tgt := 39) hx hb dX11_answer_32 (by decide) (fun c5 => ?_) (fun c5 => ?_)
      · replace h := h.1 c5
        refine lv_iconst (v := (-1)) hx hb dX11_answer_39 (by decide) ?_
        exact t_X11_answer_40 C  _ _ _ _ h hI (lv_sub hl [0, 1] rfl)
      · replace h := h.2 c5
        refine lv_iconst (v := nI 1) hx hb dX11_answer_35 (by decide) ?_
        refine lv_goto (tgt := 40) hx hb dX11_answer_36 (by decide) ?_
        exact t_X11_answer_40 C  _ _ _ _ h hI (lv_sub hl [0, 1] rfl)
    · replace h := h.2 c4
      refine lv_iconst (v := (-1)) hx hb dX11_answer_14 (by decide) ?_
      exact k_iret hx hb hr hlocks hI h dX11_answer_15
theorem inX11_use_X11 : ∀ w ∈ wsX110, w ∈ wsX11_use := fun _ h => List.mem_cons_of_mem _ (List.mem_append_right _ (h))
theorem mX11_use_fieldLink_201_StillTextModel_hasTests_Z : Cond.fieldLink RX11 201 "StillTextModel" "hasTests" "Z" ∈ wsX11_use := List.mem_cons_of_mem _ (List.mem_append_left _ (List.mem_of_getElem? (i := 0) rfl))
theorem mX11_use_fieldLink_182_StillTextModel_bestLong_I : Cond.fieldLink RX11 182 "StillTextModel" "bestLong" "I" ∈ wsX11_use := List.mem_cons_of_mem _ (List.mem_append_left _ (List.mem_of_getElem? (i := 1) rfl))
theorem mX11_use_fieldLink_38_StillTextModel_longest_I : Cond.fieldLink RX11 38 "StillTextModel" "longest" "I" ∈ wsX11_use := List.mem_cons_of_mem _ (List.mem_append_left _ (List.mem_of_getElem? (i := 2) rfl))
theorem mX11_use_fieldLink_188_StillTextModel_bestSpread_I : Cond.fieldLink RX11 188 "StillTextModel" "bestSpread" "I" ∈ wsX11_use := List.mem_cons_of_mem _ (List.mem_append_left _ (List.mem_of_getElem? (i := 3) rfl))
theorem mX11_use_fieldLink_41_StillTextModel_spread_I : Cond.fieldLink RX11 41 "StillTextModel" "spread" "I" ∈ wsX11_use := List.mem_cons_of_mem _ (List.mem_append_left _ (List.mem_of_getElem? (i := 4) rfl))
set_option maxHeartbeats 4000000 in
set_option maxRecDepth 100000 in
theorem c_X11_use (σ : St) (Q : Int32 → St → Prop) (h : wp_X11_use σ  Q) : Ci l D (tyM cyI) [] [] (wM cyI ad) yX11_use wsX11_use r_X11_use [.ref (ad 0)] σ Q := by
  refine k_metI (cc := cX11_use) (maxL := 1) (ret := (some .boolean)) (by decide) rfl (Nat.le_of_ble_eq_true rfl) ?_
  intro p e s m below meth c A ls C hI hl
  obtain ⟨hx, hb, hr, hml, hown, hts, hlocks⟩ := id C
  have hl : lv_has ls 1 [(0, .ref (ad 0))] := hl
  unfold wp_X11_use at h
  refine lv_aload_n hx hb dX11_use_0 rfl (lv_at hl 0 rfl) ?_
  refine k_get (q0 := 0) (k := 36) (ci := 11) (v := .int (σ 0 36)) hx hb hts inX11_use_X11 hown hI rfl rfl (by decide) mX11_use_fieldLink_201_StillTextModel_hasTests_Z rfl rfl dX11_use_1 ?_
  refine lv_if_ne (tgt := 9) hx hb dX11_use_4 (by decide) (fun c1 => ?_) (fun c1 => ?_)
  · replace h := h.1 c1
    refine lv_aload_n hx hb dX11_use_9 rfl (lv_at hl 0 rfl) ?_
    refine lv_bipush (v := nI 20) hx hb dX11_use_10 (by decide) ?_
    refine lv_iconst (v := nI 4) hx hb dX11_use_12 (by decide) ?_
    refine lv_aload_n hx hb dX11_use_13 rfl (lv_at hl 0 rfl) ?_
    refine k_get (q0 := 0) (k := 37) (ci := 11) (v := .int (σ 0 37)) hx hb hts inX11_use_X11 hown hI rfl rfl (by decide) mX11_use_fieldLink_182_StillTextModel_bestLong_I rfl rfl dX11_use_14 ?_
    refine lv_imul hx hb dX11_use_17 ?_
    refine lv_iadd hx hb dX11_use_18 ?_
    refine k_put (q0 := 0) (k := 13) (ci := 11) (v := .int ((nI 20) + ((nI 4) * (σ 0 37)))) (σ' := up2 σ 0 13 ((nI 20) + ((nI 4) * (σ 0 37)))) hx hb hts inX11_use_X11 tyX11 tyX11_ok nmX11 hown hI rfl rfl (by decide) mX11_use_fieldLink_38_StillTextModel_longest_I rfl rfl rfl rfl (Nat.le_of_ble_eq_true rfl) (wsM_0_13 _ _ _ _) dX11_use_19 (fun H locs hI => ?_)
    refine lv_aload_n hx hb dX11_use_22 rfl (lv_at hl 0 rfl) ?_
    refine lv_iconst (v := nI 1) hx hb dX11_use_23 (by decide) ?_
    refine lv_aload_n hx hb dX11_use_24 rfl (lv_at hl 0 rfl) ?_
    refine k_get (q0 := 0) (k := 38) (ci := 11) (v := .int (σ 0 38)) hx hb hts inX11_use_X11 hown hI rfl rfl (by decide) mX11_use_fieldLink_188_StillTextModel_bestSpread_I rfl rfl dX11_use_25 ?_
    refine lv_iadd hx hb dX11_use_28 ?_
    refine k_put (q0 := 0) (k := 14) (ci := 11) (v := .int ((nI 1) + (σ 0 38))) (σ' := up2 (up2 σ 0 13 ((nI 20) + ((nI 4) * (σ 0 37)))) 0 14 ((nI 1) + (σ 0 38))) hx hb hts inX11_use_X11 tyX11 tyX11_ok nmX11 hown hI rfl rfl (by decide) mX11_use_fieldLink_41_StillTextModel_spread_I rfl rfl rfl rfl (Nat.le_of_ble_eq_true rfl) (wsM_0_14 _ _ _ _) dX11_use_29 (fun H locs hI => ?_)
    refine lv_iconst (v := nI 1) hx hb dX11_use_32 (by decide) ?_
    exact k_zret hx hb hr hlocks hI (Or.inr rfl) h dX11_use_33
  · replace h := h.2 c1
    refine lv_iconst (v := nI 0) hx hb dX11_use_7 (by decide) ?_
    exact k_zret hx hb hr hlocks hI (Or.inl rfl) h dX11_use_8
end
