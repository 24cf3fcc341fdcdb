section
variable {l : Launch} {D : va_G} {cyI : ClassId} {ad : Nat → Nat}
theorem inX11_feed_X11 : ∀ w ∈ wsX110, w ∈ wsX11_feed := fun _ h => List.mem_cons_of_mem _ (List.mem_append_right _ (h))
theorem mX11_feed_fieldLink_95_StillTextModel_taped_I : Cond.fieldLink RX11 95 "StillTextModel" "taped" "I" ∈ wsX11_feed := List.mem_cons_of_mem _ (List.mem_append_left _ (List.mem_of_getElem? (i := 0) rfl))
theorem mX11_feed_fieldLink_22_StillTextModel_tape_I : Cond.fieldLink RX11 22 "StillTextModel" "tape" "[I" ∈ wsX11_feed := List.mem_cons_of_mem _ (List.mem_append_left _ (List.mem_of_getElem? (i := 1) rfl))
set_option maxHeartbeats 4000000 in
set_option maxRecDepth 100000 in
theorem t_X11_feed_71 {p : Program} {e : Env} {s : State} {m : MethodId} {args : Array Value} {below : List Frame} {meth : Method} {c : Code} {A : Nat → Prop} {x1 x2 x3 x4 x5 x6 s0 : Int32} {K18 : St → Int32 → Prop} {Q : Int32 → St → Prop} (C : Cx p s m args meth c cX11_feed 8 (some .int) RX11 wsX11_feed) (hK18 : ∀ (σ : St) (x6 : Int32) (H : Heap) (locs : List Loc) (ls : Array Slot), K18 σ x6 → Iw D (tyM cyI) [] [] (wM cyI ad) A s H locs σ → lv_has ls 8 [(0, .ref (ad 0)), (1, .int x1), (2, .int x2), (3, .int x3), (4, .int x4), (5, .int x5), (6, .int x6)] → W p l e r_X11_feed s m args below meth c H locs 0 0 (MQ below (va_Qi Q (Kq D (tyM cyI) (wM cyI ad) A) A) args s 0 0 A) (F0 m 18 ls [])) :
    ∀ (σ : St) (H : Heap) (locs : List Loc) (ls : Array Slot), wpj_X11_feed_71 x1 x2 x3 x4 x5 x6 s0 K18 Q σ → Iw D (tyM cyI) [] [] (wM cyI ad) A s H locs σ → lv_has ls 8 [(0, .ref (ad 0)), (1, .int x1), (2, .int x2), (3, .int x3), (4, .int x4), (5, .int x5), (6, .int x6)] → W p l e r_X11_feed s m args below meth c H locs 0 0 (MQ below (va_Qi Q (Kq D (tyM cyI) (wM cyI ad) A) A) args s 0 0 A) (F0 m 71 ls [.int s0]) := by
  obtain ⟨hx, hb, hr, hml, hown, hts, hlocks⟩ := id C
  intro σ H locs ls h hI hl
  unfold wpj_X11_feed_71 at h
  refine lv_istore (lv' := [(7, .int s0), (0, .ref (ad 0)), (1, .int x1), (2, .int x2), (3, .int x3), (4, .int x4), (5, .int x5), (6, .int x6)]) hx hb dX11_feed_71 hl (by decide) rfl (fun ls hl => ?_)
  refine lv_aload_n hx hb dX11_feed_73 rfl (lv_at hl 1 rfl) ?_
  refine k_get (q0 := 0) (k := 5) (ci := 11) (v := .ref (ad 5)) hx hb hts inX11_feed_X11 hown hI rfl rfl (by decide) mX11_feed_fieldLink_22_StillTextModel_tape_I rfl rfl dX11_feed_74 ?_
  refine lv_aload_n hx hb dX11_feed_77 rfl (lv_at hl 1 rfl) ?_
  refine k_get (q0 := 0) (k := 6) (ci := 11) (v := .int (σ 0 6)) hx hb hts inX11_feed_X11 hown hI rfl rfl (by decide) mX11_feed_fieldLink_95_StillTextModel_taped_I rfl rfl dX11_feed_78 ?_
  refine lv_iload hx hb dX11_feed_81 (lv_at hl 0 rfl) ?_
  refine lv_bipush (v := nI 8) hx hb dX11_feed_83 (by decide) ?_
  refine lv_iconst (v := nI 3) hx hb dX11_feed_85 (by decide) ?_
  refine lv_iload hx hb dX11_feed_86 (lv_at hl 7 rfl) ?_
  refine lv_iconst (v := nI 4) hx hb dX11_feed_88 (by decide) ?_
  refine lv_irem hx hb dX11_feed_89 (by decide) ?_
  refine lv_isub hx hb dX11_feed_90 ?_
  refine lv_imul hx hb dX11_feed_91 ?_
  refine lv_ishr hx hb dX11_feed_92 ?_
  refine lv_sipush (v := nI 255) hx hb dX11_feed_93 (by decide) ?_
  refine lv_iand hx hb dX11_feed_96 ?_
  refine k_iast (q0 := 5) (t0 := 0) (n := 600) (σ' := up2 σ 5 (σ 0 6).toNatClampNeg ((s0 >>> (((nI 8) * ((nI 3) - (x6 - x6 / (nI 4) * (nI 4)))) &&& 31)) &&& (nI 255))) hx hb hI rfl rfl h.1 (wsM_5 _ _ _ _ _) dX11_feed_97 (fun H locs hI => ?_)
  replace h := h.2
  refine lv_aload_n hx hb dX11_feed_98 rfl (lv_at hl 1 rfl) ?_
  refine lv_dup hx hb dX11_feed_99 rfl ?_
  refine k_get (q0 := 0) (k := 6) (ci := 11) (v := .int (σ 0 6)) hx hb hts inX11_feed_X11 hown hI rfl rfl (by decide) mX11_feed_fieldLink_95_StillTextModel_taped_I rfl rfl dX11_feed_100 ?_
  refine lv_iconst (v := nI 1) hx hb dX11_feed_103 (by decide) ?_
  refine lv_iadd hx hb dX11_feed_104 ?_
  refine k_put (q0 := 0) (k := 6) (ci := 11) (v := .int ((σ 0 6) + (nI 1))) (σ' := up2 (up2 σ 5 (σ 0 6).toNatClampNeg ((s0 >>> (((nI 8) * ((nI 3) - (x6 - x6 / (nI 4) * (nI 4)))) &&& 31)) &&& (nI 255))) 0 6 ((σ 0 6) + (nI 1))) hx hb hts inX11_feed_X11 tyX11 tyX11_ok nmX11 hown hI rfl rfl (by decide) mX11_feed_fieldLink_95_StillTextModel_taped_I rfl rfl rfl rfl (Nat.le_of_ble_eq_true rfl) (wsM_0_6 _ _ _ _) dX11_feed_105 (fun H locs hI => ?_)
  refine lv_iinc (v := (x6 + nI 1)) (lv' := [(6, .int (x6 + nI 1)), (7, .int s0), (0, .ref (ad 0)), (1, .int x1), (2, .int x2), (3, .int x3), (4, .int x4), (5, .int x5)]) hx hb dX11_feed_108 hl (k := 7) rfl rfl (by decide) rfl (fun ls hl => ?_)
  refine lv_goto (tgt := 18) hx hb dX11_feed_111 (by decide) ?_
  exact hK18 _ _ _ _ _ h hI (lv_sub hl [2, 3, 4, 5, 6, 7, 0] rfl)
set_option maxHeartbeats 4000000 in
set_option maxRecDepth 100000 in
theorem t_X11_feed_18 {p : Program} {e : Env} {s : State} {m : MethodId} {args : Array Value} {below : List Frame} {meth : Method} {c : Code} {A : Nat → Prop} {x1 x2 x3 x4 x5 : Int32}  {Q : Int32 → St → Prop} (C : Cx p s m args meth c cX11_feed 8 (some .int) RX11 wsX11_feed) :
    ∀ (n : Nat) (σ : St) (x6 : Int32) (H : Heap) (locs : List Loc) (ls : Array Slot), wpl_X11_feed_18 x1 x2 x3 x4 x5 Q n σ x6 → Iw D (tyM cyI) [] [] (wM cyI ad) A s H locs σ → lv_has ls 8 [(0, .ref (ad 0)), (1, .int x1), (2, .int x2), (3, .int x3), (4, .int x4), (5, .int x5), (6, .int x6)] → W p l e r_X11_feed s m args below meth c H locs 0 0 (MQ below (va_Qi Q (Kq D (tyM cyI) (wM cyI ad) A) A) args s 0 0 A) (F0 m 18 ls []) := by
  obtain ⟨hx, hb, hr, hml, hown, hts, hlocks⟩ := id C
  intro n
  induction n with
  | zero =>
    intro _ _ _ _ _ h
    exact h.elim
  | succ n ih =>
    intro σ x6 H locs ls h hI hl
    unfold wpl_X11_feed_18 at h
    refine lv_iload hx hb dX11_feed_18 (lv_at hl 6 rfl) ?_
    refine lv_bipush (v := nI 20) hx hb dX11_feed_20 (by decide) ?_
    refine lv_icmp_ge (tgt := 114) hx hb dX11_feed_22 (by decide) (fun c2 => ?_) (fun c2 => ?_)
    · replace h := h.1 c2
      refine lv_aload_n hx hb dX11_feed_114 rfl (lv_at hl 0 rfl) ?_
      refine k_get (q0 := 0) (k := 6) (ci := 11) (v := .int (σ 0 6)) hx hb hts inX11_feed_X11 hown hI rfl rfl (by decide) mX11_feed_fieldLink_95_StillTextModel_taped_I rfl rfl dX11_feed_115 ?_
      exact k_iret hx hb hr hlocks hI h dX11_feed_118
    · replace h := h.2 c2
      refine lv_iload hx hb dX11_feed_25 (lv_at hl 6 rfl) ?_
      refine lv_iconst (v := nI 4) hx hb dX11_feed_27 (by decide) ?_
      refine lv_icmp_ge (tgt := 35) hx hb dX11_feed_28 (by decide) (fun c3 => ?_) (fun c3 => ?_)
      · replace h := h.1 c3
        refine lv_iload hx hb dX11_feed_35 (lv_at hl 6 rfl) ?_
        refine lv_bipush (v := nI 8) hx hb dX11_feed_37 (by decide) ?_
        refine lv_icmp_ge (tgt := 46) hx hb dX11_feed_39 (by decide) (fun c4 => ?_) (fun c4 => ?_)
        · replace h := h.1 c4
          refine lv_iload hx hb dX11_feed_46 (lv_at hl 6 rfl) ?_
          refine lv_bipush (v := nI 12) hx hb dX11_feed_48 (by decide) ?_
          refine lv_icmp_ge (tgt := 57) hx hb dX11_feed_50 (by decide) (fun c5 => ?_) (fun c5 => ?_)
          · replace h := h.1 c5
            refine lv_iload hx hb dX11_feed_57 (lv_at hl 6 rfl) ?_
            refine lv_bipush (v := nI 16) hx hb dX11_feed_59 (by decide) ?_
            refine lv_icmp_ge (tgt := 69) hx hb dX11_feed_61 (by decide) (fun c6 => ?_) (fun c6 => ?_)
            · replace h := h.1 c6
              refine lv_iload hx hb dX11_feed_69 (lv_at hl 5 rfl) ?_
              exact t_X11_feed_71 C ih _ _ _ _ h hI (lv_sub hl [0, 1, 2, 3, 4, 5, 6] rfl)
            · replace h := h.2 c6
              refine lv_iload hx hb dX11_feed_64 (lv_at hl 4 rfl) ?_
              refine lv_goto (tgt := 71) hx hb dX11_feed_66 (by decide) ?_
              exact t_X11_feed_71 C ih _ _ _ _ h hI (lv_sub hl [0, 1, 2, 3, 4, 5, 6] rfl)
          · replace h := h.2 c5
            refine lv_iload_n hx hb dX11_feed_53 rfl (lv_at hl 3 rfl) ?_
            refine lv_goto (tgt := 71) hx hb dX11_feed_54 (by decide) ?_
            exact t_X11_feed_71 C ih _ _ _ _ h hI (lv_sub hl [0, 1, 2, 3, 4, 5, 6] rfl)
        · replace h := h.2 c4
          refine lv_iload_n hx hb dX11_feed_42 rfl (lv_at hl 2 rfl) ?_
          refine lv_goto (tgt := 71) hx hb dX11_feed_43 (by decide) ?_
          exact t_X11_feed_71 C ih _ _ _ _ h hI (lv_sub hl [0, 1, 2, 3, 4, 5, 6] rfl)
      · replace h := h.2 c3
        refine lv_iload_n hx hb dX11_feed_31 rfl (lv_at hl 1 rfl) ?_
        refine lv_goto (tgt := 71) hx hb dX11_feed_32 (by decide) ?_
        exact t_X11_feed_71 C ih _ _ _ _ h hI (lv_sub hl [0, 1, 2, 3, 4, 5, 6] rfl)
set_option maxHeartbeats 4000000 in
set_option maxRecDepth 100000 in
theorem c_X11_feed (σ : St) (x1 x2 x3 x4 x5 : Int32) (Q : Int32 → St → Prop) (h : wp_X11_feed σ x1 x2 x3 x4 x5 Q) : Ci l D (tyM cyI) [] [] (wM cyI ad) yX11_feed wsX11_feed r_X11_feed [.ref (ad 0), .int x1, .int x2, .int x3, .int x4, .int x5] σ Q := by
  refine k_metI (cc := cX11_feed) (maxL := 8) (ret := (some .int)) (by decide) rfl (Nat.le_of_ble_eq_true rfl) ?_
  intro p e s m below meth c A ls C hI hl
  obtain ⟨hx, hb, hr, hml, hown, hts, hlocks⟩ := id C
  have hl : lv_has ls 8 [(0, .ref (ad 0)), (1, .int x1), (2, .int x2), (3, .int x3), (4, .int x4), (5, .int x5)] := hl
  unfold wp_X11_feed at h
  refine lv_aload_n hx hb dX11_feed_0 rfl (lv_at hl 0 rfl) ?_
  refine k_get (q0 := 0) (k := 6) (ci := 11) (v := .int (σ 0 6)) hx hb hts inX11_feed_X11 hown hI rfl rfl (by decide) mX11_feed_fieldLink_95_StillTextModel_taped_I rfl rfl dX11_feed_1 ?_
  refine lv_bipush (v := nI 20) hx hb dX11_feed_4 (by decide) ?_
  refine lv_iadd hx hb dX11_feed_6 ?_
  refine lv_sipush (v := nI 600) hx hb dX11_feed_7 (by decide) ?_
  refine lv_icmp_le (tgt := 15) hx hb dX11_feed_10 (by decide) (fun c1 => ?_) (fun c1 => ?_)
  · replace h := h.1 c1
    refine lv_iconst (v := nI 0) hx hb dX11_feed_15 (by decide) ?_
    refine lv_istore (lv' := [(6, .int (nI 0)), (0, .ref (ad 0)), (1, .int x1), (2, .int x2), (3, .int x3), (4, .int x4), (5, .int x5)]) hx hb dX11_feed_16 hl (by decide) rfl (fun ls hl => ?_)
    obtain ⟨k7, h⟩ := h
    exact t_X11_feed_18 C  k7 _ _ _ _ _ h hI (lv_sub hl [1, 2, 3, 4, 5, 6, 0] rfl)
  · replace h := h.2 c1
    refine lv_iconst (v := (-1)) hx hb dX11_feed_13 (by decide) ?_
    exact k_iret hx hb hr hlocks hI h dX11_feed_14
theorem inX11_end_X11 : ∀ w ∈ wsX110, w ∈ wsX11_end := fun _ h => List.mem_cons_of_mem _ (List.mem_append_right _ (h))
theorem mX11_end_fieldLink_95_StillTextModel_taped_I : Cond.fieldLink RX11 95 "StillTextModel" "taped" "I" ∈ wsX11_end := List.mem_cons_of_mem _ (List.mem_append_left _ (List.mem_of_getElem? (i := 0) rfl))
set_option maxHeartbeats 4000000 in
set_option maxRecDepth 100000 in
theorem c_X11_end (σ : St) (x1 : Int32) (Q : Int32 → St → Prop) (h : wp_X11_end σ x1 Q) : Ci l D (tyM cyI) [] [] (wM cyI ad) yX11_end wsX11_end r_X11_end [.ref (ad 0), .int x1] σ Q := by
  refine k_metI (cc := cX11_end) (maxL := 2) (ret := (some .boolean)) (by decide) rfl (Nat.le_of_ble_eq_true rfl) ?_
  intro p e s m below meth c A ls C hI hl
  obtain ⟨hx, hb, hr, hml, hown, hts, hlocks⟩ := id C
  have hl : lv_has ls 2 [(0, .ref (ad 0)), (1, .int x1)] := hl
  unfold wp_X11_end at h
  refine lv_iload_n hx hb dX11_end_0 rfl (lv_at hl 1 rfl) ?_
  refine lv_if_lt (tgt := 12) hx hb dX11_end_1 (by decide) (fun c1 => ?_) (fun c1 => ?_)
  · replace h := h.1 c1
    refine lv_iconst (v := nI 0) hx hb dX11_end_12 (by decide) ?_
    exact k_zret hx hb hr hlocks hI (Or.inl rfl) h dX11_end_13
  · replace h := h.2 c1
    refine lv_iload_n hx hb dX11_end_4 rfl (lv_at hl 1 rfl) ?_
    refine lv_aload_n hx hb dX11_end_5 rfl (lv_at hl 0 rfl) ?_
    refine k_get (q0 := 0) (k := 6) (ci := 11) (v := .int (σ 0 6)) hx hb hts inX11_end_X11 hown hI rfl rfl (by decide) mX11_end_fieldLink_95_StillTextModel_taped_I rfl rfl dX11_end_6 ?_
    refine lv_icmp_le (tgt := 14) hx hb dX11_end_9 (by decide) (fun c2 => ?_) (fun c2 => ?_)
    · replace h := h.1 c2
      refine lv_aload_n hx hb dX11_end_14 rfl (lv_at hl 0 rfl) ?_
      refine lv_iload_n hx hb dX11_end_15 rfl (lv_at hl 1 rfl) ?_
      refine k_put (q0 := 0) (k := 6) (ci := 11) (v := .int x1) (σ' := up2 σ 0 6 x1) hx hb hts inX11_end_X11 tyX11 tyX11_ok nmX11 hown hI rfl rfl (by decide) mX11_end_fieldLink_95_StillTextModel_taped_I rfl rfl rfl rfl (Nat.le_of_ble_eq_true rfl) (wsM_0_6 _ _ _ _) dX11_end_16 (fun H locs hI => ?_)
      refine lv_iconst (v := nI 1) hx hb dX11_end_19 (by decide) ?_
      exact k_zret hx hb hr hlocks hI (Or.inr rfl) h dX11_end_20
    · replace h := h.2 c2
      refine lv_iconst (v := nI 0) hx hb dX11_end_12 (by decide) ?_
      exact k_zret hx hb hr hlocks hI (Or.inl rfl) h dX11_end_13
set_option maxHeartbeats 4000000 in
set_option maxRecDepth 100000 in
theorem c_X11_isLetter (σ : St) (x0 : Int32) (Q : Int32 → St → Prop) (h : wp_X11_isLetter σ x0 Q) : Ci l D (tyM cyI) [] [] (wM cyI ad) yX11_isLetter wsX11_isLetter r_X11_isLetter [.int x0] σ Q := by
  refine k_metI (cc := cX11_isLetter) (maxL := 1) (ret := (some .boolean)) (by decide) rfl (Nat.le_of_ble_eq_true rfl) ?_
  intro p e s m below meth c A ls C hI hl
  obtain ⟨hx, hb, hr, hml, hown, hts, hlocks⟩ := id C
  have hl : lv_has ls 1 [(0, .int x0)] := hl
  unfold wp_X11_isLetter at h
  refine lv_iload_n hx hb dX11_isLetter_0 rfl (lv_at hl 0 rfl) ?_
  refine lv_bipush (v := nI 97) hx hb dX11_isLetter_1 (by decide) ?_
  refine lv_icmp_lt (tgt := 16) hx hb dX11_isLetter_3 (by decide) (fun c1 => ?_) (fun c1 => ?_)
  · replace h := h.1 c1
    refine lv_iconst (v := nI 0) hx hb dX11_isLetter_16 (by decide) ?_
    exact k_zret hx hb hr hlocks hI (Or.inl rfl) h dX11_isLetter_17
  · replace h := h.2 c1
    refine lv_iload_n hx hb dX11_isLetter_6 rfl (lv_at hl 0 rfl) ?_
    refine lv_bipush (v := nI 122) hx hb dX11_isLetter_7 (by decide) ?_
    refine lv_icmp_gt (tgt := 16) hx hb dX11_isLetter_9 (by decide) (fun c2 => ?_) (fun c2 => ?_)
    · replace h := h.1 c2
      refine lv_iconst (v := nI 0) hx hb dX11_isLetter_16 (by decide) ?_
      exact k_zret hx hb hr hlocks hI (Or.inl rfl) h dX11_isLetter_17
    · replace h := h.2 c2
      refine lv_iconst (v := nI 1) hx hb dX11_isLetter_12 (by decide) ?_
      refine lv_goto (tgt := 17) hx hb dX11_isLetter_13 (by decide) ?_
      exact k_zret hx hb hr hlocks hI (Or.inr rfl) h dX11_isLetter_17
theorem inX11_fails_X11 : ∀ w ∈ wsX110, w ∈ wsX11_fails := fun _ h => List.mem_cons_of_mem _ (List.mem_append_right _ (h))
theorem mX11_fails_fieldLink_98_StillTextModel_fault_I : Cond.fieldLink RX11 98 "StillTextModel" "fault" "I" ∈ wsX11_fails := List.mem_cons_of_mem _ (List.mem_append_left _ (List.mem_of_getElem? (i := 0) rfl))
theorem mX11_fails_fieldLink_25_StillTextModel_faultPlace_I : Cond.fieldLink RX11 25 "StillTextModel" "faultPlace" "I" ∈ wsX11_fails := List.mem_cons_of_mem _ (List.mem_append_left _ (List.mem_of_getElem? (i := 1) rfl))
set_option maxHeartbeats 4000000 in
set_option maxRecDepth 100000 in
theorem c_X11_fails (σ : St) (x1 x2 : Int32) (Q : Int32 → St → Prop) (h : wp_X11_fails σ x1 x2 Q) : Ci l D (tyM cyI) [] [] (wM cyI ad) yX11_fails wsX11_fails r_X11_fails [.ref (ad 0), .int x1, .int x2] σ Q := by
  refine k_metI (cc := cX11_fails) (maxL := 3) (ret := (some .boolean)) (by decide) rfl (Nat.le_of_ble_eq_true rfl) ?_
  intro p e s m below meth c A ls C hI hl
  obtain ⟨hx, hb, hr, hml, hown, hts, hlocks⟩ := id C
  have hl : lv_has ls 3 [(0, .ref (ad 0)), (1, .int x1), (2, .int x2)] := hl
  unfold wp_X11_fails at h
  refine lv_aload_n hx hb dX11_fails_0 rfl (lv_at hl 0 rfl) ?_
  refine lv_iload_n hx hb dX11_fails_1 rfl (lv_at hl 1 rfl) ?_
  refine k_put (q0 := 0) (k := 7) (ci := 11) (v := .int x1) (σ' := up2 σ 0 7 x1) hx hb hts inX11_fails_X11 tyX11 tyX11_ok nmX11 hown hI rfl rfl (by decide) mX11_fails_fieldLink_98_StillTextModel_fault_I rfl rfl rfl rfl (Nat.le_of_ble_eq_true rfl) (wsM_0_7 _ _ _ _) dX11_fails_2 (fun H locs hI => ?_)
  refine lv_aload_n hx hb dX11_fails_5 rfl (lv_at hl 0 rfl) ?_
  refine lv_iload_n hx hb dX11_fails_6 rfl (lv_at hl 2 rfl) ?_
  refine k_put (q0 := 0) (k := 8) (ci := 11) (v := .int x2) (σ' := up2 (up2 σ 0 7 x1) 0 8 x2) hx hb hts inX11_fails_X11 tyX11 tyX11_ok nmX11 hown hI rfl rfl (by decide) mX11_fails_fieldLink_25_StillTextModel_faultPlace_I rfl rfl rfl rfl (Nat.le_of_ble_eq_true rfl) (wsM_0_8 _ _ _ _) dX11_fails_7 (fun H locs hI => ?_)
  refine lv_iconst (v := nI 0) hx hb dX11_fails_10 (by decide) ?_
  exact k_zret hx hb hr hlocks hI (Or.inl rfl) h dX11_fails_11
set_option maxHeartbeats 4000000 in
set_option maxRecDepth 100000 in
theorem c_X11_isEnd (σ : St) (x0 : Int32) (Q : Int32 → St → Prop) (h : wp_X11_isEnd σ x0 Q) : Ci l D (tyM cyI) [] [] (wM cyI ad) yX11_isEnd wsX11_isEnd r_X11_isEnd [.int x0] σ Q := by
  refine k_metI (cc := cX11_isEnd) (maxL := 1) (ret := (some .boolean)) (by decide) rfl (Nat.le_of_ble_eq_true rfl) ?_
  intro p e s m below meth c A ls C hI hl
  obtain ⟨hx, hb, hr, hml, hown, hts, hlocks⟩ := id C
  have hl : lv_has ls 1 [(0, .int x0)] := hl
  unfold wp_X11_isEnd at h
  refine lv_iload_n hx hb dX11_isEnd_0 rfl (lv_at hl 0 rfl) ?_
  refine lv_bipush (v := nI 44) hx hb dX11_isEnd_1 (by decide) ?_
  refine lv_icmp_eq (tgt := 18) hx hb dX11_isEnd_3 (by decide) (fun c1 => ?_) (fun c1 => ?_)
  · replace h := h.1 c1
    refine lv_iconst (v := nI 1) hx hb dX11_isEnd_18 (by decide) ?_
    refine lv_goto (tgt := 23) hx hb dX11_isEnd_19 (by decide) ?_
    exact k_zret hx hb hr hlocks hI (Or.inr rfl) h dX11_isEnd_23
  · replace h := h.2 c1
    refine lv_iload_n hx hb dX11_isEnd_6 rfl (lv_at hl 0 rfl) ?_
    refine lv_bipush (v := nI 46) hx hb dX11_isEnd_7 (by decide) ?_
    refine lv_icmp_eq (tgt := 18) hx hb dX11_isEnd_9 (by decide) (fun c2 => ?_) (fun c2 => ?_)
    · replace h := h.1 c2
      refine lv_iconst (v := nI 1) hx hb dX11_isEnd_18 (by decide) ?_
      refine lv_goto (tgt := 23) hx hb dX11_isEnd_19 (by decide) ?_
      exact k_zret hx hb hr hlocks hI (Or.inr rfl) h dX11_isEnd_23
    · replace h := h.2 c2
      refine lv_iload_n hx hb dX11_isEnd_12 rfl (lv_at hl 0 rfl) ?_
      refine lv_bipush (v := nI 47) hx hb dX11_isEnd_13 (by decide) ?_
      refine lv_icmp_ne (tgt := 22) hx hb dX11_isEnd_15 (by decide) (fun c3 => ?_) (fun c3 => ?_)
      · replace h := h.1 c3
        refine lv_iconst (v := nI 0) hx hb dX11_isEnd_22 (by decide) ?_
        exact k_zret hx hb hr hlocks hI (Or.inl rfl) h dX11_isEnd_23
      · replace h := h.2 c3
        refine lv_iconst (v := nI 1) hx hb dX11_isEnd_18 (by decide) ?_
        refine lv_goto (tgt := 23) hx hb dX11_isEnd_19 (by decide) ?_
        exact k_zret hx hb hr hlocks hI (Or.inr rfl) h dX11_isEnd_23
set_option maxHeartbeats 4000000 in
set_option maxRecDepth 100000 in
theorem c_X11_isBlank (σ : St) (x0 : Int32) (Q : Int32 → St → Prop) (h : wp_X11_isBlank σ x0 Q) : Ci l D (tyM cyI) [] [] (wM cyI ad) yX11_isBlank wsX11_isBlank r_X11_isBlank [.int x0] σ Q := by
  refine k_metI (cc := cX11_isBlank) (maxL := 1) (ret := (some .boolean)) (by decide) rfl (Nat.le_of_ble_eq_true rfl) ?_
  intro p e s m below meth c A ls C hI hl
  obtain ⟨hx, hb, hr, hml, hown, hts, hlocks⟩ := id C
  have hl : lv_has ls 1 [(0, .int x0)] := hl
  unfold wp_X11_isBlank at h
  refine lv_iload_n hx hb dX11_isBlank_0 rfl (lv_at hl 0 rfl) ?_
  refine lv_bipush (v := nI 10) hx hb dX11_isBlank_1 (by decide) ?_
  refine lv_icmp_eq (tgt := 12) hx hb dX11_isBlank_3 (by decide) (fun c1 => ?_) (fun c1 => ?_)
  · replace h := h.1 c1
    refine lv_iconst (v := nI 1) hx hb dX11_isBlank_12 (by decide) ?_
    refine lv_goto (tgt := 17) hx hb dX11_isBlank_13 (by decide) ?_
    exact k_zret hx hb hr hlocks hI (Or.inr rfl) h dX11_isBlank_17
  · replace h := h.2 c1
    refine lv_iload_n hx hb dX11_isBlank_6 rfl (lv_at hl 0 rfl) ?_
    refine lv_bipush (v := nI 32) hx hb dX11_isBlank_7 (by decide) ?_
    refine lv_icmp_ne (tgt := 16) hx hb dX11_isBlank_9 (by decide) (fun c2 => ?_) (fun c2 => ?_)
    · replace h := h.1 c2
      refine lv_iconst (v := nI 0) hx hb dX11_isBlank_16 (by decide) ?_
      exact k_zret hx hb hr hlocks hI (Or.inl rfl) h dX11_isBlank_17
    · replace h := h.2 c2
      refine lv_iconst (v := nI 1) hx hb dX11_isBlank_12 (by decide) ?_
      refine lv_goto (tgt := 17) hx hb dX11_isBlank_13 (by decide) ?_
      exact k_zret hx hb hr hlocks hI (Or.inr rfl) h dX11_isBlank_17
theorem inX11_isText_X11 : ∀ w ∈ wsX110, w ∈ wsX11_isText := fun _ h => List.mem_cons_of_mem _ (List.mem_append_right _ (h))
theorem mX11_isText_fieldLink_95_StillTextModel_taped_I : Cond.fieldLink RX11 95 "StillTextModel" "taped" "I" ∈ wsX11_isText := List.mem_cons_of_mem _ (List.mem_append_left _ (List.mem_of_getElem? (i := 0) rfl))
theorem mX11_isText_fieldLink_101_StillTextModel_reads_I : Cond.fieldLink RX11 101 "StillTextModel" "reads" "I" ∈ wsX11_isText := List.mem_cons_of_mem _ (List.mem_append_left _ (List.mem_of_getElem? (i := 1) rfl))
theorem mX11_isText_fieldLink_22_StillTextModel_tape_I : Cond.fieldLink RX11 22 "StillTextModel" "tape" "[I" ∈ wsX11_isText := List.mem_cons_of_mem _ (List.mem_append_left _ (List.mem_of_getElem? (i := 2) rfl))
theorem mX11_isText_fieldLink_35_StillTextModel_readBehind_I : Cond.fieldLink RX11 35 "StillTextModel" "readBehind" "[I" ∈ wsX11_isText := List.mem_cons_of_mem _ (List.mem_append_left _ (List.mem_of_getElem? (i := 4) rfl))
theorem mX11_isText_fieldLink_29_StillTextModel_readSize_I : Cond.fieldLink RX11 29 "StillTextModel" "readSize" "[I" ∈ wsX11_isText := List.mem_cons_of_mem _ (List.mem_append_left _ (List.mem_of_getElem? (i := 3) rfl))
theorem mX11_isText_fieldLink_32_StillTextModel_readLetter_I : Cond.fieldLink RX11 32 "StillTextModel" "readLetter" "[I" ∈ wsX11_isText := List.mem_cons_of_mem _ (List.mem_append_left _ (List.mem_of_getElem? (i := 5) rfl))
set_option maxHeartbeats 4000000 in
set_option maxRecDepth 100000 in
theorem t_X11_isText_104 {p : Program} {e : Env} {s : State} {m : MethodId} {args : Array Value} {below : List Frame} {meth : Method} {c : Code} {A : Nat → Prop} {x1 x2 x3 x4 : Int32} {K19 : St → Int32 → Int32 → Prop} {Q : Int32 → St → Prop} (C : Cx p s m args meth c cX11_isText 5 (some .boolean) RX11 wsX11_isText) (hK19 : ∀ (σ : St) (x2 x3 : Int32) (H : Heap) (locs : List Loc) (ls : Array Slot), K19 σ x2 x3 → Iw D (tyM cyI) [] [] (wM cyI ad) A s H locs σ → lv_has ls 5 [(0, .ref (ad 0)), (1, .int x1), (2, .int x2), (3, .int x3)] → W p l e r_X11_isText s m args below meth c H locs 0 0 (MQ below (va_Qi Q (Kq D (tyM cyI) (wM cyI ad) A) A) args s 0 0 A) (F0 m 19 ls [])) :
    ∀ (σ : St) (H : Heap) (locs : List Loc) (ls : Array Slot), wpj_X11_isText_104 x1 x2 x3 x4 K19 Q σ → Iw D (tyM cyI) [] [] (wM cyI ad) A s H locs σ → lv_has ls 5 [(0, .ref (ad 0)), (1, .int x1), (2, .int x2), (3, .int x3), (4, .int x4)] → W p l e r_X11_isText s m args below meth c H locs 0 0 (MQ below (va_Qi Q (Kq D (tyM cyI) (wM cyI ad) A) A) args s 0 0 A) (F0 m 104 ls []) := by
  obtain ⟨hx, hb, hr, hml, hown, hts, hlocks⟩ := id C
  intro σ H locs ls h hI hl
  unfold wpj_X11_isText_104 at h
  refine lv_aload_n hx hb dX11_isText_104 rfl (lv_at hl 0 rfl) ?_
  refine k_get (q0 := 0) (k := 10) (ci := 11) (v := .ref (ad 6)) hx hb hts inX11_isText_X11 hown hI rfl rfl (by decide) mX11_isText_fieldLink_29_StillTextModel_readSize_I rfl rfl dX11_isText_105 ?_
  refine lv_aload_n hx hb dX11_isText_108 rfl (lv_at hl 0 rfl) ?_
  refine k_get (q0 := 0) (k := 9) (ci := 11) (v := .int (σ 0 9)) hx hb hts inX11_isText_X11 hown hI rfl rfl (by decide) mX11_isText_fieldLink_101_StillTextModel_reads_I rfl rfl dX11_isText_109 ?_
  refine lv_iconst (v := nI 1) hx hb dX11_isText_112 (by decide) ?_
  refine lv_isub hx hb dX11_isText_113 ?_
  refine k_iald (q0 := 6) (t0 := 0) (n := 80) (f := σ 6) hx hb hI rfl rfl h.1 dX11_isText_114 ?_
  replace h := h.2
  refine lv_bipush (v := nI 20) hx hb dX11_isText_115 (by decide) ?_
  refine lv_icmp_ne (tgt := 127) hx hb dX11_isText_117 (by decide) (fun c32 => ?_) (fun c32 => ?_)
  · replace h := h.1 c32
    refine lv_aload_n hx hb dX11_isText_127 rfl (lv_at hl 0 rfl) ?_
    refine k_get (q0 := 0) (k := 11) (ci := 11) (v := .ref (ad 7)) hx hb hts inX11_isText_X11 hown hI rfl rfl (by decide) mX11_isText_fieldLink_32_StillTextModel_readLetter_I rfl rfl dX11_isText_128 ?_
    refine lv_bipush (v := nI 20) hx hb dX11_isText_131 (by decide) ?_
    refine lv_aload_n hx hb dX11_isText_133 rfl (lv_at hl 0 rfl) ?_
    refine k_get (q0 := 0) (k := 9) (ci := 11) (v := .int (σ 0 9)) hx hb hts inX11_isText_X11 hown hI rfl rfl (by decide) mX11_isText_fieldLink_101_StillTextModel_reads_I rfl rfl dX11_isText_134 ?_
    refine lv_iconst (v := nI 1) hx hb dX11_isText_137 (by decide) ?_
    refine lv_isub hx hb dX11_isText_138 ?_
    refine lv_imul hx hb dX11_isText_139 ?_
    refine lv_aload_n hx hb dX11_isText_140 rfl (lv_at hl 0 rfl) ?_
    refine k_get (q0 := 0) (k := 10) (ci := 11) (v := .ref (ad 6)) hx hb hts inX11_isText_X11 hown hI rfl rfl (by decide) mX11_isText_fieldLink_29_StillTextModel_readSize_I rfl rfl dX11_isText_141 ?_
    refine lv_aload_n hx hb dX11_isText_144 rfl (lv_at hl 0 rfl) ?_
    refine k_get (q0 := 0) (k := 9) (ci := 11) (v := .int (σ 0 9)) hx hb hts inX11_isText_X11 hown hI rfl rfl (by decide) mX11_isText_fieldLink_101_StillTextModel_reads_I rfl rfl dX11_isText_145 ?_
    refine lv_iconst (v := nI 1) hx hb dX11_isText_148 (by decide) ?_
    refine lv_isub hx hb dX11_isText_149 ?_
    refine k_iald (q0 := 6) (t0 := 0) (n := 80) (f := σ 6) hx hb hI rfl rfl h.1 dX11_isText_150 ?_
    replace h := h.2
    refine lv_iadd hx hb dX11_isText_151 ?_
    refine lv_iload hx hb dX11_isText_152 (lv_at hl 4 rfl) ?_
    refine k_iast (q0 := 7) (t0 := 0) (n := 1600) (σ' := up2 σ 7 (((nI 20) * ((σ 0 9) - (nI 1))) + (σ 6 ((σ 0 9) - (nI 1)).toNatClampNeg)).toNatClampNeg x4) hx hb hI rfl rfl h.1 (wsM_7 _ _ _ _ _) dX11_isText_154 (fun H locs hI => ?_)
    replace h := h.2
    refine lv_aload_n hx hb dX11_isText_155 rfl (lv_at hl 0 rfl) ?_
    refine k_get (q0 := 0) (k := 10) (ci := 11) (v := .ref (ad 6)) hx hb hts inX11_isText_X11 hown hI rfl rfl (by decide) mX11_isText_fieldLink_29_StillTextModel_readSize_I rfl rfl dX11_isText_156 ?_
    refine lv_aload_n hx hb dX11_isText_159 rfl (lv_at hl 0 rfl) ?_
    refine k_get (q0 := 0) (k := 9) (ci := 11) (v := .int (σ 0 9)) hx hb hts inX11_isText_X11 hown hI rfl rfl (by decide) mX11_isText_fieldLink_101_StillTextModel_reads_I rfl rfl dX11_isText_160 ?_
    refine lv_iconst (v := nI 1) hx hb dX11_isText_163 (by decide) ?_
    refine lv_isub hx hb dX11_isText_164 ?_
    refine lv_dup2_11 hx hb dX11_isText_165 rfl rfl ?_
    refine k_iald (q0 := 6) (t0 := 0) (n := 80) (f := σ 6) hx hb hI rfl rfl h.1 dX11_isText_166 ?_
    replace h := h.2
    refine lv_iconst (v := nI 1) hx hb dX11_isText_167 (by decide) ?_
    refine lv_iadd hx hb dX11_isText_168 ?_
    refine k_iast (q0 := 6) (t0 := 0) (n := 80) (σ' := up2 (up2 σ 7 (((nI 20) * ((σ 0 9) - (nI 1))) + (σ 6 ((σ 0 9) - (nI 1)).toNatClampNeg)).toNatClampNeg x4) 6 ((σ 0 9) - (nI 1)).toNatClampNeg ((σ 6 ((σ 0 9) - (nI 1)).toNatClampNeg) + (nI 1))) hx hb hI rfl rfl h.1 (wsM_6 _ _ _ _ _) dX11_isText_169 (fun H locs hI => ?_)
    replace h := h.2
    refine lv_iconst (v := nI 1) hx hb dX11_isText_170 (by decide) ?_
    refine lv_istore_n (lv' := [(2, .int (nI 1)), (0, .ref (ad 0)), (1, .int x1), (3, .int x3), (4, .int x4)]) hx hb dX11_isText_171 rfl hl (by decide) rfl (fun ls hl => ?_)
    refine lv_goto (tgt := 253) hx hb dX11_isText_172 (by decide) ?_
    refine lv_iinc (v := (x3 + nI 1)) (lv' := [(3, .int (x3 + nI 1)), (2, .int (nI 1)), (0, .ref (ad 0)), (1, .int x1), (4, .int x4)]) hx hb dX11_isText_253 hl (k := 3) rfl rfl (by decide) rfl (fun ls hl => ?_)
    refine lv_goto (tgt := 19) hx hb dX11_isText_256 (by decide) ?_
    exact hK19 _ _ _ _ _ _ h hI (lv_sub hl [2, 3, 1, 0] rfl)
  · replace h := h.2 c32
    refine lv_aload_n hx hb dX11_isText_120 rfl (lv_at hl 0 rfl) ?_
    refine lv_iconst (v := nI 2) hx hb dX11_isText_121 (by decide) ?_
    refine lv_iload_n hx hb dX11_isText_122 rfl (lv_at hl 3 rfl) ?_
    refine k_cVi (As := [.int (nI 2), .int x3]) (rest := []) C (c_X11_fails σ (nI 2) x3 _ h) (cwV 2 hts gX11_isText_X11_fails rfl rfl rfl hdX11_fails ⟨Nat.le_of_ble_eq_true rfl, Nat.le_of_ble_eq_true rfl⟩) hI 0 rfl rfl rfl hl.1 rfl (Nat.le_of_ble_eq_true rfl) dX11_isText_123 ⟨Nat.le_of_ble_eq_true rfl, Nat.le_of_ble_eq_true rfl⟩ (fun r33 σ34 H locs h hI => ?_)
    exact k_zret hx hb hr hlocks hI h.1 h.2 dX11_isText_126
set_option maxHeartbeats 4000000 in
set_option maxRecDepth 100000 in
theorem t_X11_isText_19 {p : Program} {e : Env} {s : State} {m : MethodId} {args : Array Value} {below : List Frame} {meth : Method} {c : Code} {A : Nat → Prop} {x1 : Int32}  {Q : Int32 → St → Prop} (C : Cx p s m args meth c cX11_isText 5 (some .boolean) RX11 wsX11_isText) :
    ∀ (n : Nat) (σ : St) (x2 x3 : Int32) (H : Heap) (locs : List Loc) (ls : Array Slot), wpl_X11_isText_19 x1 Q n σ x2 x3 → Iw D (tyM cyI) [] [] (wM cyI ad) A s H locs σ → lv_has ls 5 [(0, .ref (ad 0)), (1, .int x1), (2, .int x2), (3, .int x3)] → W p l e r_X11_isText s m args below meth c H locs 0 0 (MQ below (va_Qi Q (Kq D (tyM cyI) (wM cyI ad) A) A) args s 0 0 A) (F0 m 19 ls []) := by
  obtain ⟨hx, hb, hr, hml, hown, hts, hlocks⟩ := id C
  intro n
  induction n with
  | zero =>
    intro _ _ _ _ _ _ h
    exact h.elim
  | succ n ih =>
    intro σ x2 x3 H locs ls h hI hl
    unfold wpl_X11_isText_19 at h
    refine lv_iload_n hx hb dX11_isText_19 rfl (lv_at hl 3 rfl) ?_
    refine lv_iload_n hx hb dX11_isText_20 rfl (lv_at hl 1 rfl) ?_
    refine lv_icmp_ge (tgt := 259) hx hb dX11_isText_21 (by decide) (fun c1 => ?_) (fun c1 => ?_)
    · replace h := h.1 c1
      refine lv_iload_n hx hb dX11_isText_259 rfl (lv_at hl 2 rfl) ?_
      refine lv_iconst (v := nI 2) hx hb dX11_isText_260 (by decide) ?_
      refine lv_icmp_ne (tgt := 271) hx hb dX11_isText_261 (by decide) (fun c2 => ?_) (fun c2 => ?_)
      · replace h := h.1 c2
        refine lv_aload_n hx hb dX11_isText_271 rfl (lv_at hl 0 rfl) ?_
        refine lv_iconst (v := nI 0) hx hb dX11_isText_272 (by decide) ?_
        refine lv_iconst (v := (-1)) hx hb dX11_isText_273 (by decide) ?_
        refine k_cVi (As := [.int (nI 0), .int (-1)]) (rest := []) C (c_X11_fails σ (nI 0) (-1) _ h) (cwV 2 hts gX11_isText_X11_fails rfl rfl rfl hdX11_fails ⟨Nat.le_of_ble_eq_true rfl, Nat.le_of_ble_eq_true rfl⟩) hI 0 rfl rfl rfl hl.1 rfl (Nat.le_of_ble_eq_true rfl) dX11_isText_274 ⟨Nat.le_of_ble_eq_true rfl, Nat.le_of_ble_eq_true rfl⟩ (fun r3 σ4 H locs h hI => ?_)
        refine lv_pop hx hb dX11_isText_277 rfl ?_
        refine lv_iconst (v := nI 1) hx hb dX11_isText_278 (by decide) ?_
        exact k_zret hx hb hr hlocks hI (Or.inr rfl) h dX11_isText_279
      · replace h := h.2 c2
        refine lv_aload_n hx hb dX11_isText_264 rfl (lv_at hl 0 rfl) ?_
        refine lv_iconst (v := nI 1) hx hb dX11_isText_265 (by decide) ?_
        refine lv_iload_n hx hb dX11_isText_266 rfl (lv_at hl 1 rfl) ?_
        refine k_cVi (As := [.int (nI 1), .int x1]) (rest := []) C (c_X11_fails σ (nI 1) x1 _ h) (cwV 2 hts gX11_isText_X11_fails rfl rfl rfl hdX11_fails ⟨Nat.le_of_ble_eq_true rfl, Nat.le_of_ble_eq_true rfl⟩) hI 0 rfl rfl rfl hl.1 rfl (Nat.le_of_ble_eq_true rfl) dX11_isText_267 ⟨Nat.le_of_ble_eq_true rfl, Nat.le_of_ble_eq_true rfl⟩ (fun r5 σ6 H locs h hI => ?_)
        exact k_zret hx hb hr hlocks hI h.1 h.2 dX11_isText_270
    · replace h := h.2 c1
      refine lv_aload_n hx hb dX11_isText_24 rfl (lv_at hl 0 rfl) ?_
      refine k_get (q0 := 0) (k := 5) (ci := 11) (v := .ref (ad 5)) hx hb hts inX11_isText_X11 hown hI rfl rfl (by decide) mX11_isText_fieldLink_22_StillTextModel_tape_I rfl rfl dX11_isText_25 ?_
      refine lv_iload_n hx hb dX11_isText_28 rfl (lv_at hl 3 rfl) ?_
      refine k_iald (q0 := 5) (t0 := 0) (n := 600) (f := σ 5) hx hb hI rfl rfl h.1 dX11_isText_29 ?_
      replace h := h.2
      refine lv_istore (lv' := [(4, .int (σ 5 x3.toNatClampNeg)), (0, .ref (ad 0)), (1, .int x1), (2, .int x2), (3, .int x3)]) hx hb dX11_isText_30 hl (by decide) rfl (fun ls hl => ?_)
      refine lv_iload hx hb dX11_isText_32 (lv_at hl 0 rfl) ?_
      refine k_cSi (As := [.int (σ 5 x3.toNatClampNeg)]) (rest := []) C (c_X11_isLetter σ (σ 5 x3.toNatClampNeg) _ h) (va_cwS 1 hts gX11_isText_X11_isLetter rfl rfl rfl hdX11_isLetter ⟨Nat.le_of_ble_eq_true rfl, Nat.le_of_ble_eq_true rfl⟩) hI rfl hl.1 rfl (Nat.le_of_ble_eq_true rfl) dX11_isText_34 ⟨Nat.le_of_ble_eq_true rfl, Nat.le_of_ble_eq_true rfl⟩ (fun r7 σ8 H locs h hI => ?_)
      refine lv_if_eq (tgt := 175) hx hb dX11_isText_37 (by decide) (fun c9 => ?_) (fun c9 => ?_)
      · replace h := h.1 c9
        refine lv_iload hx hb dX11_isText_175 (lv_at hl 0 rfl) ?_
        refine lv_bipush (v := nI 45) hx hb dX11_isText_177 (by decide) ?_
        refine lv_icmp_eq (tgt := 190) hx hb dX11_isText_179 (by decide) (fun c10 => ?_) (fun c10 => ?_)
        · replace h := h.1 c10
          refine lv_iload_n hx hb dX11_isText_190 rfl (lv_at hl 3 rfl) ?_
          refine lv_iconst (v := nI 1) hx hb dX11_isText_191 (by decide) ?_
          refine lv_icmp_eq (tgt := 202) hx hb dX11_isText_192 (by decide) (fun c11 => ?_) (fun c11 => ?_)
          · replace h := h.1 c11
            refine lv_aload_n hx hb dX11_isText_202 rfl (lv_at hl 1 rfl) ?_
            refine k_get (q0 := 0) (k := 12) (ci := 11) (v := .ref (ad 8)) hx hb hts inX11_isText_X11 hown hI rfl rfl (by decide) mX11_isText_fieldLink_35_StillTextModel_readBehind_I rfl rfl dX11_isText_203 ?_
            refine lv_aload_n hx hb dX11_isText_206 rfl (lv_at hl 1 rfl) ?_
            refine k_get (q0 := 0) (k := 9) (ci := 11) (v := .int (σ8 0 9)) hx hb hts inX11_isText_X11 hown hI rfl rfl (by decide) mX11_isText_fieldLink_101_StillTextModel_reads_I rfl rfl dX11_isText_207 ?_
            refine lv_iconst (v := nI 1) hx hb dX11_isText_210 (by decide) ?_
            refine lv_isub hx hb dX11_isText_211 ?_
            refine lv_iload hx hb dX11_isText_212 (lv_at hl 0 rfl) ?_
            refine k_iast (q0 := 8) (t0 := 0) (n := 80) (σ' := up2 σ8 8 ((σ8 0 9) - (nI 1)).toNatClampNeg (σ 5 x3.toNatClampNeg)) hx hb hI rfl rfl h.1 (wsM_8 _ _ _ _ _) dX11_isText_214 (fun H locs hI => ?_)
            replace h := h.2
            refine lv_iload hx hb dX11_isText_215 (lv_at hl 0 rfl) ?_
            refine lv_bipush (v := nI 45) hx hb dX11_isText_217 (by decide) ?_
            refine lv_icmp_ne (tgt := 226) hx hb dX11_isText_219 (by decide) (fun c12 => ?_) (fun c12 => ?_)
            · replace h := h.1 c12
              refine lv_iconst (v := nI 3) hx hb dX11_isText_226 (by decide) ?_
              refine lv_istore_n (lv' := [(2, .int (nI 3)), (4, .int (σ 5 x3.toNatClampNeg)), (0, .ref (ad 0)), (1, .int x1), (3, .int x3)]) hx hb dX11_isText_227 rfl hl (by decide) rfl (fun ls hl => ?_)
              refine lv_goto (tgt := 253) hx hb dX11_isText_228 (by decide) ?_
              refine lv_iinc (v := (x3 + nI 1)) (lv' := [(3, .int (x3 + nI 1)), (2, .int (nI 3)), (4, .int (σ 5 x3.toNatClampNeg)), (0, .ref (ad 0)), (1, .int x1)]) hx hb dX11_isText_253 hl (k := 4) rfl rfl (by decide) rfl (fun ls hl => ?_)
              refine lv_goto (tgt := 19) hx hb dX11_isText_256 (by decide) ?_
              exact ih _ _ _ _ _ _ h hI (lv_sub hl [3, 4, 1, 0] rfl)
            · replace h := h.2 c12
              refine lv_iconst (v := nI 2) hx hb dX11_isText_222 (by decide) ?_
              refine lv_goto (tgt := 227) hx hb dX11_isText_223 (by decide) ?_
              refine lv_istore_n (lv' := [(2, .int (nI 2)), (4, .int (σ 5 x3.toNatClampNeg)), (0, .ref (ad 0)), (1, .int x1), (3, .int x3)]) hx hb dX11_isText_227 rfl hl (by decide) rfl (fun ls hl => ?_)
              refine lv_goto (tgt := 253) hx hb dX11_isText_228 (by decide) ?_
              refine lv_iinc (v := (x3 + nI 1)) (lv' := [(3, .int (x3 + nI 1)), (2, .int (nI 2)), (4, .int (σ 5 x3.toNatClampNeg)), (0, .ref (ad 0)), (1, .int x1)]) hx hb dX11_isText_253 hl (k := 4) rfl rfl (by decide) rfl (fun ls hl => ?_)
              refine lv_goto (tgt := 19) hx hb dX11_isText_256 (by decide) ?_
              exact ih _ _ _ _ _ _ h hI (lv_sub hl [3, 4, 1, 0] rfl)
          · replace h := h.2 c11
            refine lv_aload_n hx hb dX11_isText_195 rfl (lv_at hl 1 rfl) ?_
            refine lv_iconst (v := nI 1) hx hb dX11_isText_196 (by decide) ?_
            refine lv_iload_n hx hb dX11_isText_197 rfl (lv_at hl 4 rfl) ?_
            refine k_cVi (As := [.int (nI 1), .int x3]) (rest := []) C (c_X11_fails σ8 (nI 1) x3 _ h) (cwV 2 hts gX11_isText_X11_fails rfl rfl rfl hdX11_fails ⟨Nat.le_of_ble_eq_true rfl, Nat.le_of_ble_eq_true rfl⟩) hI 0 rfl rfl rfl hl.1 rfl (Nat.le_of_ble_eq_true rfl) dX11_isText_198 ⟨Nat.le_of_ble_eq_true rfl, Nat.le_of_ble_eq_true rfl⟩ (fun r13 σ14 H locs h hI => ?_)
            exact k_zret hx hb hr hlocks hI h.1 h.2 dX11_isText_201
        · replace h := h.2 c10
          refine lv_iload hx hb dX11_isText_182 (lv_at hl 0 rfl) ?_
          refine k_cSi (As := [.int (σ 5 x3.toNatClampNeg)]) (rest := []) C (c_X11_isEnd σ8 (σ 5 x3.toNatClampNeg) _ h) (va_cwS 1 hts gX11_isText_X11_isEnd rfl rfl rfl hdX11_isEnd ⟨Nat.le_of_ble_eq_true rfl, Nat.le_of_ble_eq_true rfl⟩) hI rfl hl.1 rfl (Nat.le_of_ble_eq_true rfl) dX11_isText_184 ⟨Nat.le_of_ble_eq_true rfl, Nat.le_of_ble_eq_true rfl⟩ (fun r15 σ16 H locs h hI => ?_)
          refine lv_if_eq (tgt := 231) hx hb dX11_isText_187 (by decide) (fun c17 => ?_) (fun c17 => ?_)
          · replace h := h.1 c17
            refine lv_iload hx hb dX11_isText_231 (lv_at hl 0 rfl) ?_
            refine k_cSi (As := [.int (σ 5 x3.toNatClampNeg)]) (rest := []) C (c_X11_isBlank σ16 (σ 5 x3.toNatClampNeg) _ h) (va_cwS 1 hts gX11_isText_X11_isBlank rfl rfl rfl hdX11_isBlank ⟨Nat.le_of_ble_eq_true rfl, Nat.le_of_ble_eq_true rfl⟩) hI rfl hl.1 rfl (Nat.le_of_ble_eq_true rfl) dX11_isText_233 ⟨Nat.le_of_ble_eq_true rfl, Nat.le_of_ble_eq_true rfl⟩ (fun r18 σ19 H locs h hI => ?_)
            refine lv_if_eq (tgt := 244) hx hb dX11_isText_236 (by decide) (fun c20 => ?_) (fun c20 => ?_)
            · replace h := h.1 c20
              refine lv_aload_n hx hb dX11_isText_244 rfl (lv_at hl 1 rfl) ?_
              refine lv_iconst (v := nI 1) hx hb dX11_isText_245 (by decide) ?_
              refine lv_iload_n hx hb dX11_isText_246 rfl (lv_at hl 4 rfl) ?_
              refine k_cVi (As := [.int (nI 1), .int x3]) (rest := []) C (c_X11_fails σ19 (nI 1) x3 _ h) (cwV 2 hts gX11_isText_X11_fails rfl rfl rfl hdX11_fails ⟨Nat.le_of_ble_eq_true rfl, Nat.le_of_ble_eq_true rfl⟩) hI 0 rfl rfl rfl hl.1 rfl (Nat.le_of_ble_eq_true rfl) dX11_isText_247 ⟨Nat.le_of_ble_eq_true rfl, Nat.le_of_ble_eq_true rfl⟩ (fun r21 σ22 H locs h hI => ?_)
              exact k_zret hx hb hr hlocks hI h.1 h.2 dX11_isText_250
            · replace h := h.2 c20
              refine lv_iload_n hx hb dX11_isText_239 rfl (lv_at hl 3 rfl) ?_
              refine lv_iconst (v := nI 2) hx hb dX11_isText_240 (by decide) ?_
              refine lv_icmp_ne (tgt := 251) hx hb dX11_isText_241 (by decide) (fun c23 => ?_) (fun c23 => ?_)
              · replace h := h.1 c23
                refine lv_iconst (v := nI 0) hx hb dX11_isText_251 (by decide) ?_
                refine lv_istore_n (lv' := [(2, .int (nI 0)), (4, .int (σ 5 x3.toNatClampNeg)), (0, .ref (ad 0)), (1, .int x1), (3, .int x3)]) hx hb dX11_isText_252 rfl hl (by decide) rfl (fun ls hl => ?_)
                refine lv_iinc (v := (x3 + nI 1)) (lv' := [(3, .int (x3 + nI 1)), (2, .int (nI 0)), (4, .int (σ 5 x3.toNatClampNeg)), (0, .ref (ad 0)), (1, .int x1)]) hx hb dX11_isText_253 hl (k := 4) rfl rfl (by decide) rfl (fun ls hl => ?_)
                refine lv_goto (tgt := 19) hx hb dX11_isText_256 (by decide) ?_
                exact ih _ _ _ _ _ _ h hI (lv_sub hl [3, 4, 1, 0] rfl)
              · replace h := h.2 c23
                refine lv_aload_n hx hb dX11_isText_244 rfl (lv_at hl 1 rfl) ?_
                refine lv_iconst (v := nI 1) hx hb dX11_isText_245 (by decide) ?_
                refine lv_iload_n hx hb dX11_isText_246 rfl (lv_at hl 4 rfl) ?_
                refine k_cVi (As := [.int (nI 1), .int x3]) (rest := []) C (c_X11_fails σ19 (nI 1) x3 _ h) (cwV 2 hts gX11_isText_X11_fails rfl rfl rfl hdX11_fails ⟨Nat.le_of_ble_eq_true rfl, Nat.le_of_ble_eq_true rfl⟩) hI 0 rfl rfl rfl hl.1 rfl (Nat.le_of_ble_eq_true rfl) dX11_isText_247 ⟨Nat.le_of_ble_eq_true rfl, Nat.le_of_ble_eq_true rfl⟩ (fun r24 σ25 H locs h hI => ?_)
                exact k_zret hx hb hr hlocks hI h.1 h.2 dX11_isText_250
          · replace h := h.2 c17
            refine lv_iload_n hx hb dX11_isText_190 rfl (lv_at hl 3 rfl) ?_
            refine lv_iconst (v := nI 1) hx hb dX11_isText_191 (by decide) ?_
            refine lv_icmp_eq (tgt := 202) hx hb dX11_isText_192 (by decide) (fun c26 => ?_) (fun c26 => ?_)
            · replace h := h.1 c26
              refine lv_aload_n hx hb dX11_isText_202 rfl (lv_at hl 1 rfl) ?_
              refine k_get (q0 := 0) (k := 12) (ci := 11) (v := .ref (ad 8)) hx hb hts inX11_isText_X11 hown hI rfl rfl (by decide) mX11_isText_fieldLink_35_StillTextModel_readBehind_I rfl rfl dX11_isText_203 ?_
              refine lv_aload_n hx hb dX11_isText_206 rfl (lv_at hl 1 rfl) ?_
              refine k_get (q0 := 0) (k := 9) (ci := 11) (v := .int (σ16 0 9)) hx hb hts inX11_isText_X11 hown hI rfl rfl (by decide) mX11_isText_fieldLink_101_StillTextModel_reads_I rfl rfl dX11_isText_207 ?_
              refine lv_iconst (v := nI 1) hx hb dX11_isText_210 (by decide) ?_
              refine lv_isub hx hb dX11_isText_211 ?_
              refine lv_iload hx hb dX11_isText_212 (lv_at hl 0 rfl) ?_
              refine k_iast (q0 := 8) (t0 := 0) (n := 80) (σ' := up2 σ16 8 ((σ16 0 9) - (nI 1)).toNatClampNeg (σ 5 x3.toNatClampNeg)) hx hb hI rfl rfl h.1 (wsM_8 _ _ _ _ _) dX11_isText_214 (fun H locs hI => ?_)
              replace h := h.2
              refine lv_iload hx hb dX11_isText_215 (lv_at hl 0 rfl) ?_
              refine lv_bipush (v := nI 45) hx hb dX11_isText_217 (by decide) ?_
              refine lv_icmp_ne (tgt := 226) hx hb dX11_isText_219 (by decide) (fun c27 => ?_) (fun c27 => ?_)
              · replace h := h.1 c27
                refine lv_iconst (v := nI 3) hx hb dX11_isText_226 (by decide) ?_
                refine lv_istore_n (lv' := [(2, .int (nI 3)), (4, .int (σ 5 x3.toNatClampNeg)), (0, .ref (ad 0)), (1, .int x1), (3, .int x3)]) hx hb dX11_isText_227 rfl hl (by decide) rfl (fun ls hl => ?_)
                refine lv_goto (tgt := 253) hx hb dX11_isText_228 (by decide) ?_
                refine lv_iinc (v := (x3 + nI 1)) (lv' := [(3, .int (x3 + nI 1)), (2, .int (nI 3)), (4, .int (σ 5 x3.toNatClampNeg)), (0, .ref (ad 0)), (1, .int x1)]) hx hb dX11_isText_253 hl (k := 4) rfl rfl (by decide) rfl (fun ls hl => ?_)
                refine lv_goto (tgt := 19) hx hb dX11_isText_256 (by decide) ?_
                exact ih _ _ _ _ _ _ h hI (lv_sub hl [3, 4, 1, 0] rfl)
              · replace h := h.2 c27
                refine lv_iconst (v := nI 2) hx hb dX11_isText_222 (by decide) ?_
                refine lv_goto (tgt := 227) hx hb dX11_isText_223 (by decide) ?_
                refine lv_istore_n (lv' := [(2, .int (nI 2)), (4, .int (σ 5 x3.toNatClampNeg)), (0, .ref (ad 0)), (1, .int x1), (3, .int x3)]) hx hb dX11_isText_227 rfl hl (by decide) rfl (fun ls hl => ?_)
                refine lv_goto (tgt := 253) hx hb dX11_isText_228 (by decide) ?_
                refine lv_iinc (v := (x3 + nI 1)) (lv' := [(3, .int (x3 + nI 1)), (2, .int (nI 2)), (4, .int (σ 5 x3.toNatClampNeg)), (0, .ref (ad 0)), (1, .int x1)]) hx hb dX11_isText_253 hl (k := 4) rfl rfl (by decide) rfl (fun ls hl => ?_)
                refine lv_goto (tgt := 19) hx hb dX11_isText_256 (by decide) ?_
                exact ih _ _ _ _ _ _ h hI (lv_sub hl [3, 4, 1, 0] rfl)
            · replace h := h.2 c26
              refine lv_aload_n hx hb dX11_isText_195 rfl (lv_at hl 1 rfl) ?_
              refine lv_iconst (v := nI 1) hx hb dX11_isText_196 (by decide) ?_
              refine lv_iload_n hx hb dX11_isText_197 rfl (lv_at hl 4 rfl) ?_
              refine k_cVi (As := [.int (nI 1), .int x3]) (rest := []) C (c_X11_fails σ16 (nI 1) x3 _ h) (cwV 2 hts gX11_isText_X11_fails rfl rfl rfl hdX11_fails ⟨Nat.le_of_ble_eq_true rfl, Nat.le_of_ble_eq_true rfl⟩) hI 0 rfl rfl rfl hl.1 rfl (Nat.le_of_ble_eq_true rfl) dX11_isText_198 ⟨Nat.le_of_ble_eq_true rfl, Nat.le_of_ble_eq_true rfl⟩ (fun r28 σ29 H locs h hI => ?_)
              exact k_zret hx hb hr hlocks hI h.1 h.2 dX11_isText_201
      · replace h := h.2 c9
        refine lv_iload_n hx hb dX11_isText_40 rfl (lv_at hl 3 rfl) ?_
        refine lv_iconst (v := nI 3) hx hb dX11_isText_41 (by decide) ?_
        refine lv_icmp_ne (tgt := 52) hx hb dX11_isText_42 (by decide) (fun c30 => ?_) (fun c30 => ?_)
        · replace h := h.1 c30
          refine lv_iload_n hx hb dX11_isText_52 rfl (lv_at hl 3 rfl) ?_
          refine lv_iconst (v := nI 1) hx hb dX11_isText_53 (by decide) ?_
          refine lv_icmp_eq (tgt := 104) hx hb dX11_isText_54 (by decide) (fun c31 => ?_) (fun c31 => ?_)
          · replace h := h.1 c31
            exact t_X11_isText_104 C ih _ _ _ _ h hI (lv_sub hl [1, 2, 3, 4, 0] rfl)
          · replace h := h.2 c31
            refine lv_aload_n hx hb dX11_isText_57 rfl (lv_at hl 1 rfl) ?_
            refine k_get (q0 := 0) (k := 9) (ci := 11) (v := .int (σ8 0 9)) hx hb hts inX11_isText_X11 hown hI rfl rfl (by decide) mX11_isText_fieldLink_101_StillTextModel_reads_I rfl rfl dX11_isText_58 ?_
            refine lv_bipush (v := nI 80) hx hb dX11_isText_61 (by decide) ?_
            refine lv_icmp_ne (tgt := 73) hx hb dX11_isText_63 (by decide) (fun c35 => ?_) (fun c35 => ?_)
            · replace h := h.1 c35
              refine lv_aload_n hx hb dX11_isText_73 rfl (lv_at hl 1 rfl) ?_
              refine k_get (q0 := 0) (k := 10) (ci := 11) (v := .ref (ad 6)) hx hb hts inX11_isText_X11 hown hI rfl rfl (by decide) mX11_isText_fieldLink_29_StillTextModel_readSize_I rfl rfl dX11_isText_74 ?_
              refine lv_aload_n hx hb dX11_isText_77 rfl (lv_at hl 1 rfl) ?_
              refine k_get (q0 := 0) (k := 9) (ci := 11) (v := .int (σ8 0 9)) hx hb hts inX11_isText_X11 hown hI rfl rfl (by decide) mX11_isText_fieldLink_101_StillTextModel_reads_I rfl rfl dX11_isText_78 ?_
              refine lv_iconst (v := nI 0) hx hb dX11_isText_81 (by decide) ?_
              refine k_iast (q0 := 6) (t0 := 0) (n := 80) (σ' := up2 σ8 6 (σ8 0 9).toNatClampNeg (nI 0)) hx hb hI rfl rfl h.1 (wsM_6 _ _ _ _ _) dX11_isText_82 (fun H locs hI => ?_)
              replace h := h.2
              refine lv_aload_n hx hb dX11_isText_83 rfl (lv_at hl 1 rfl) ?_
              refine k_get (q0 := 0) (k := 12) (ci := 11) (v := .ref (ad 8)) hx hb hts inX11_isText_X11 hown hI rfl rfl (by decide) mX11_isText_fieldLink_35_StillTextModel_readBehind_I rfl rfl dX11_isText_84 ?_
              refine lv_aload_n hx hb dX11_isText_87 rfl (lv_at hl 1 rfl) ?_
              refine k_get (q0 := 0) (k := 9) (ci := 11) (v := .int (σ8 0 9)) hx hb hts inX11_isText_X11 hown hI rfl rfl (by decide) mX11_isText_fieldLink_101_StillTextModel_reads_I rfl rfl dX11_isText_88 ?_
              refine lv_bipush (v := nI 32) hx hb dX11_isText_91 (by decide) ?_
              refine k_iast (q0 := 8) (t0 := 0) (n := 80) (σ' := up2 (up2 σ8 6 (σ8 0 9).toNatClampNeg (nI 0)) 8 (σ8 0 9).toNatClampNeg (nI 32)) hx hb hI rfl rfl h.1 (wsM_8 _ _ _ _ _) dX11_isText_93 (fun H locs hI => ?_)
              replace h := h.2
              refine lv_aload_n hx hb dX11_isText_94 rfl (lv_at hl 1 rfl) ?_
              refine lv_dup hx hb dX11_isText_95 rfl ?_
              refine k_get (q0 := 0) (k := 9) (ci := 11) (v := .int (σ8 0 9)) hx hb hts inX11_isText_X11 hown hI rfl rfl (by decide) mX11_isText_fieldLink_101_StillTextModel_reads_I rfl rfl dX11_isText_96 ?_
              refine lv_iconst (v := nI 1) hx hb dX11_isText_99 (by decide) ?_
              refine lv_iadd hx hb dX11_isText_100 ?_
              refine k_put (q0 := 0) (k := 9) (ci := 11) (v := .int ((σ8 0 9) + (nI 1))) (σ' := up2 (up2 (up2 σ8 6 (σ8 0 9).toNatClampNeg (nI 0)) 8 (σ8 0 9).toNatClampNeg (nI 32)) 0 9 ((σ8 0 9) + (nI 1))) hx hb hts inX11_isText_X11 tyX11 tyX11_ok nmX11 hown hI rfl rfl (by decide) mX11_isText_fieldLink_101_StillTextModel_reads_I rfl rfl rfl rfl (Nat.le_of_ble_eq_true rfl) (wsM_0_9 _ _ _ _) dX11_isText_101 (fun H locs hI => ?_)
              exact t_X11_isText_104 C ih _ _ _ _ h hI (lv_sub hl [1, 2, 3, 4, 0] rfl)
            · replace h := h.2 c35
              refine lv_aload_n hx hb dX11_isText_66 rfl (lv_at hl 1 rfl) ?_
              refine lv_iconst (v := nI 3) hx hb dX11_isText_67 (by decide) ?_
              refine lv_iload_n hx hb dX11_isText_68 rfl (lv_at hl 4 rfl) ?_
              refine k_cVi (As := [.int (nI 3), .int x3]) (rest := []) C (c_X11_fails σ8 (nI 3) x3 _ h) (cwV 2 hts gX11_isText_X11_fails rfl rfl rfl hdX11_fails ⟨Nat.le_of_ble_eq_true rfl, Nat.le_of_ble_eq_true rfl⟩) hI 0 rfl rfl rfl hl.1 rfl (Nat.le_of_ble_eq_true rfl) dX11_isText_69 ⟨Nat.le_of_ble_eq_true rfl, Nat.le_of_ble_eq_true rfl⟩ (fun r36 σ37 H locs h hI => ?_)
              exact k_zret hx hb hr hlocks hI h.1 h.2 dX11_isText_72
        · replace h := h.2 c30
          refine lv_aload_n hx hb dX11_isText_45 rfl (lv_at hl 1 rfl) ?_
          refine lv_iconst (v := nI 1) hx hb dX11_isText_46 (by decide) ?_
          refine lv_iload_n hx hb dX11_isText_47 rfl (lv_at hl 4 rfl) ?_
          refine k_cVi (As := [.int (nI 1), .int x3]) (rest := []) C (c_X11_fails σ8 (nI 1) x3 _ h) (cwV 2 hts gX11_isText_X11_fails rfl rfl rfl hdX11_fails ⟨Nat.le_of_ble_eq_true rfl, Nat.le_of_ble_eq_true rfl⟩) hI 0 rfl rfl rfl hl.1 rfl (Nat.le_of_ble_eq_true rfl) dX11_isText_48 ⟨Nat.le_of_ble_eq_true rfl, Nat.le_of_ble_eq_true rfl⟩ (fun r38 σ39 H locs h hI => ?_)
          exact k_zret hx hb hr hlocks hI h.1 h.2 dX11_isText_51
set_option maxHeartbeats 4000000 in
set_option maxRecDepth 100000 in
theorem c_X11_isText (σ : St) (Q : Int32 → St → Prop) (h : wp_X11_isText σ  Q) : Ci l D (tyM cyI) [] [] (wM cyI ad) yX11_isText wsX11_isText r_X11_isText [.ref (ad 0)] σ Q := by
  refine k_metI (cc := cX11_isText) (maxL := 5) (ret := (some .boolean)) (by decide) rfl (Nat.le_of_ble_eq_true rfl) ?_
  intro p e s m below meth c A ls C hI hl
  obtain ⟨hx, hb, hr, hml, hown, hts, hlocks⟩ := id C
  have hl : lv_has ls 5 [(0, .ref (ad 0))] := hl
  unfold wp_X11_isText at h
  refine lv_aload_n hx hb dX11_isText_0 rfl (lv_at hl 0 rfl) ?_
  refine k_get (q0 := 0) (k := 6) (ci := 11) (v := .int (σ 0 6)) hx hb hts inX11_isText_X11 hown hI rfl rfl (by decide) mX11_isText_fieldLink_95_StillTextModel_taped_I rfl rfl dX11_isText_1 ?_
  refine lv_istore_n (lv' := [(1, .int (σ 0 6)), (0, .ref (ad 0))]) hx hb dX11_isText_4 rfl hl (by decide) rfl (fun ls hl => ?_)
  refine lv_aload_n hx hb dX11_isText_5 rfl (lv_at hl 1 rfl) ?_
  refine lv_iconst (v := nI 0) hx hb dX11_isText_6 (by decide) ?_
  refine k_put (q0 := 0) (k := 6) (ci := 11) (v := .int (nI 0)) (σ' := up2 σ 0 6 (nI 0)) hx hb hts inX11_isText_X11 tyX11 tyX11_ok nmX11 hown hI rfl rfl (by decide) mX11_isText_fieldLink_95_StillTextModel_taped_I rfl rfl rfl rfl (Nat.le_of_ble_eq_true rfl) (wsM_0_6 _ _ _ _) dX11_isText_7 (fun H locs hI => ?_)
  refine lv_aload_n hx hb dX11_isText_10 rfl (lv_at hl 1 rfl) ?_
  refine lv_iconst (v := nI 0) hx hb dX11_isText_11 (by decide) ?_
  refine k_put (q0 := 0) (k := 9) (ci := 11) (v := .int (nI 0)) (σ' := up2 (up2 σ 0 6 (nI 0)) 0 9 (nI 0)) hx hb hts inX11_isText_X11 tyX11 tyX11_ok nmX11 hown hI rfl rfl (by decide) mX11_isText_fieldLink_101_StillTextModel_reads_I rfl rfl rfl rfl (Nat.le_of_ble_eq_true rfl) (wsM_0_9 _ _ _ _) dX11_isText_12 (fun H locs hI => ?_)
  refine lv_iconst (v := nI 0) hx hb dX11_isText_15 (by decide) ?_
  refine lv_istore_n (lv' := [(2, .int (nI 0)), (1, .int (σ 0 6)), (0, .ref (ad 0))]) hx hb dX11_isText_16 rfl hl (by decide) rfl (fun ls hl => ?_)
  refine lv_iconst (v := nI 0) hx hb dX11_isText_17 (by decide) ?_
  refine lv_istore_n (lv' := [(3, .int (nI 0)), (2, .int (nI 0)), (1, .int (σ 0 6)), (0, .ref (ad 0))]) hx hb dX11_isText_18 rfl hl (by decide) rfl (fun ls hl => ?_)
  obtain ⟨k40, h⟩ := h
  exact t_X11_isText_19 C  k40 _ _ _ _ _ _ h hI (lv_sub hl [3, 2, 1, 0] rfl)
theorem inX11_takes_X11 : ∀ w ∈ wsX110, w ∈ wsX11_takes := fun _ h => List.mem_cons_of_mem _ (List.mem_append_right _ (h))
theorem mX11_takes_fieldLink_7_StillTextModel_size_I : Cond.fieldLink RX11 7 "StillTextModel" "size" "[I" ∈ wsX11_takes := List.mem_cons_of_mem _ (List.mem_append_left _ (List.mem_of_getElem? (i := 0) rfl))
theorem mX11_takes_fieldLink_29_StillTextModel_readSize_I : Cond.fieldLink RX11 29 "StillTextModel" "readSize" "[I" ∈ wsX11_takes := List.mem_cons_of_mem _ (List.mem_append_left _ (List.mem_of_getElem? (i := 1) rfl))
theorem mX11_takes_fieldLink_16_StillTextModel_behind_I : Cond.fieldLink RX11 16 "StillTextModel" "behind" "[I" ∈ wsX11_takes := List.mem_cons_of_mem _ (List.mem_append_left _ (List.mem_of_getElem? (i := 2) rfl))
theorem mX11_takes_fieldLink_35_StillTextModel_readBehind_I : Cond.fieldLink RX11 35 "StillTextModel" "readBehind" "[I" ∈ wsX11_takes := List.mem_cons_of_mem _ (List.mem_append_left _ (List.mem_of_getElem? (i := 3) rfl))
theorem mX11_takes_fieldLink_13_StillTextModel_letter_I : Cond.fieldLink RX11 13 "StillTextModel" "letter" "[I" ∈ wsX11_takes := List.mem_cons_of_mem _ (List.mem_append_left _ (List.mem_of_getElem? (i := 4) rfl))
theorem mX11_takes_fieldLink_32_StillTextModel_readLetter_I : Cond.fieldLink RX11 32 "StillTextModel" "readLetter" "[I" ∈ wsX11_takes := List.mem_cons_of_mem _ (List.mem_append_left _ (List.mem_of_getElem? (i := 5) rfl))
set_option maxHeartbeats 4000000 in
set_option maxRecDepth 100000 in
theorem t_X11_takes_26 {p : Program} {e : Env} {s : State} {m : MethodId} {args : Array Value} {below : List Frame} {meth : Method} {c : Code} {A : Nat → Prop} {x1 x2 : Int32}  {Q : St → Prop} (C : Cx p s m args meth c cX11_takes 4 none RX11 wsX11_takes) :
    ∀ (n : Nat) (σ : St) (x3 : Int32) (H : Heap) (locs : List Loc) (ls : Array Slot), wpl_X11_takes_26 x1 x2 Q n σ x3 → Iw D (tyM cyI) [] [] (wM cyI ad) A s H locs σ → lv_has ls 4 [(0, .ref (ad 0)), (1, .int x1), (2, .int x2), (3, .int x3)] → W p l e r_X11_takes s m args below meth c H locs 0 0 (MQ below (va_Qv Q (Kq D (tyM cyI) (wM cyI ad) A) A) args s 0 0 A) (F0 m 26 ls []) := by
  obtain ⟨hx, hb, hr, hml, hown, hts, hlocks⟩ := id C
  intro n
  induction n with
  | zero =>
    intro _ _ _ _ _ h
    exact h.elim
  | succ n ih =>
    intro σ x3 H locs ls h hI hl
    unfold wpl_X11_takes_26 at h
    refine lv_iload_n hx hb dX11_takes_26 rfl (lv_at hl 3 rfl) ?_
    refine lv_aload_n hx hb dX11_takes_27 rfl (lv_at hl 0 rfl) ?_
    refine k_get (q0 := 0) (k := 1) (ci := 11) (v := .ref (ad 1)) hx hb hts inX11_takes_X11 hown hI rfl rfl (by decide) mX11_takes_fieldLink_7_StillTextModel_size_I rfl rfl dX11_takes_28 ?_
    refine lv_iload_n hx hb dX11_takes_31 rfl (lv_at hl 2 rfl) ?_
    refine k_iald (q0 := 1) (t0 := 0) (n := 80) (f := σ 1) hx hb hI rfl rfl h.1 dX11_takes_32 ?_
    replace h := h.2
    refine lv_icmp_ge (tgt := 64) hx hb dX11_takes_33 (by decide) (fun c1 => ?_) (fun c1 => ?_)
    · replace h := h.1 c1
      exact k_vret hx hb hr hlocks hI h dX11_takes_64
    · replace h := h.2 c1
      refine lv_aload_n hx hb dX11_takes_36 rfl (lv_at hl 0 rfl) ?_
      refine k_get (q0 := 0) (k := 2) (ci := 11) (v := .ref (ad 2)) hx hb hts inX11_takes_X11 hown hI rfl rfl (by decide) mX11_takes_fieldLink_13_StillTextModel_letter_I rfl rfl dX11_takes_37 ?_
      refine lv_bipush (v := nI 20) hx hb dX11_takes_40 (by decide) ?_
      refine lv_iload_n hx hb dX11_takes_42 rfl (lv_at hl 2 rfl) ?_
      refine lv_imul hx hb dX11_takes_43 ?_
      refine lv_iload_n hx hb dX11_takes_44 rfl (lv_at hl 3 rfl) ?_
      refine lv_iadd hx hb dX11_takes_45 ?_
      refine lv_aload_n hx hb dX11_takes_46 rfl (lv_at hl 0 rfl) ?_
      refine k_get (q0 := 0) (k := 11) (ci := 11) (v := .ref (ad 7)) hx hb hts inX11_takes_X11 hown hI rfl rfl (by decide) mX11_takes_fieldLink_32_StillTextModel_readLetter_I rfl rfl dX11_takes_47 ?_
      refine lv_bipush (v := nI 20) hx hb dX11_takes_50 (by decide) ?_
      refine lv_iload_n hx hb dX11_takes_52 rfl (lv_at hl 1 rfl) ?_
      refine lv_imul hx hb dX11_takes_53 ?_
      refine lv_iload_n hx hb dX11_takes_54 rfl (lv_at hl 3 rfl) ?_
      refine lv_iadd hx hb dX11_takes_55 ?_
      refine k_iald (q0 := 7) (t0 := 0) (n := 1600) (f := σ 7) hx hb hI rfl rfl h.1 dX11_takes_56 ?_
      replace h := h.2
      refine k_iast (q0 := 2) (t0 := 0) (n := 1600) (σ' := up2 σ 2 (((nI 20) * x2) + x3).toNatClampNeg (σ 7 (((nI 20) * x1) + x3).toNatClampNeg)) hx hb hI rfl rfl h.1 (wsM_2 _ _ _ _ _) dX11_takes_57 (fun H locs hI => ?_)
      replace h := h.2
      refine lv_iinc (v := (x3 + nI 1)) (lv' := [(3, .int (x3 + nI 1)), (0, .ref (ad 0)), (1, .int x1), (2, .int x2)]) hx hb dX11_takes_58 hl (k := 3) rfl rfl (by decide) rfl (fun ls hl => ?_)
      refine lv_goto (tgt := 26) hx hb dX11_takes_61 (by decide) ?_
      exact ih _ _ _ _ _ h hI (lv_sub hl [1, 2, 3, 0] rfl)
set_option maxHeartbeats 4000000 in
set_option maxRecDepth 100000 in
theorem c_X11_takes (σ : St) (x1 x2 : Int32) (Q : St → Prop) (h : wp_X11_takes σ x1 x2 Q) : Cv l D (tyM cyI) [] [] (wM cyI ad) yX11_takes wsX11_takes r_X11_takes [.ref (ad 0), .int x1, .int x2] σ Q := by
  refine k_metV (cc := cX11_takes) (maxL := 4) (ret := none) (by decide) rfl (Nat.le_of_ble_eq_true rfl) ?_
  intro p e s m below meth c A ls C hI hl
  obtain ⟨hx, hb, hr, hml, hown, hts, hlocks⟩ := id C
  have hl : lv_has ls 4 [(0, .ref (ad 0)), (1, .int x1), (2, .int x2)] := hl
  unfold wp_X11_takes at h
  refine lv_aload_n hx hb dX11_takes_0 rfl (lv_at hl 0 rfl) ?_
  refine k_get (q0 := 0) (k := 1) (ci := 11) (v := .ref (ad 1)) hx hb hts inX11_takes_X11 hown hI rfl rfl (by decide) mX11_takes_fieldLink_7_StillTextModel_size_I rfl rfl dX11_takes_1 ?_
  refine lv_iload_n hx hb dX11_takes_4 rfl (lv_at hl 2 rfl) ?_
  refine lv_aload_n hx hb dX11_takes_5 rfl (lv_at hl 0 rfl) ?_
  refine k_get (q0 := 0) (k := 10) (ci := 11) (v := .ref (ad 6)) hx hb hts inX11_takes_X11 hown hI rfl rfl (by decide) mX11_takes_fieldLink_29_StillTextModel_readSize_I rfl rfl dX11_takes_6 ?_
  refine lv_iload_n hx hb dX11_takes_9 rfl (lv_at hl 1 rfl) ?_
  refine k_iald (q0 := 6) (t0 := 0) (n := 80) (f := σ 6) hx hb hI rfl rfl h.1 dX11_takes_10 ?_
  replace h := h.2
  refine k_iast (q0 := 1) (t0 := 0) (n := 80) (σ' := up2 σ 1 x2.toNatClampNeg (σ 6 x1.toNatClampNeg)) hx hb hI rfl rfl h.1 (wsM_1 _ _ _ _ _) dX11_takes_11 (fun H locs hI => ?_)
  replace h := h.2
  refine lv_aload_n hx hb dX11_takes_12 rfl (lv_at hl 0 rfl) ?_
  refine k_get (q0 := 0) (k := 3) (ci := 11) (v := .ref (ad 3)) hx hb hts inX11_takes_X11 hown hI rfl rfl (by decide) mX11_takes_fieldLink_16_StillTextModel_behind_I rfl rfl dX11_takes_13 ?_
  refine lv_iload_n hx hb dX11_takes_16 rfl (lv_at hl 2 rfl) ?_
  refine lv_aload_n hx hb dX11_takes_17 rfl (lv_at hl 0 rfl) ?_
  refine k_get (q0 := 0) (k := 12) (ci := 11) (v := .ref (ad 8)) hx hb hts inX11_takes_X11 hown hI rfl rfl (by decide) mX11_takes_fieldLink_35_StillTextModel_readBehind_I rfl rfl dX11_takes_18 ?_
  refine lv_iload_n hx hb dX11_takes_21 rfl (lv_at hl 1 rfl) ?_
  refine k_iald (q0 := 8) (t0 := 0) (n := 80) (f := σ 8) hx hb hI rfl rfl h.1 dX11_takes_22 ?_
  replace h := h.2
  refine k_iast (q0 := 3) (t0 := 0) (n := 80) (σ' := up2 (up2 σ 1 x2.toNatClampNeg (σ 6 x1.toNatClampNeg)) 3 x2.toNatClampNeg (σ 8 x1.toNatClampNeg)) hx hb hI rfl rfl h.1 (wsM_3 _ _ _ _ _) dX11_takes_23 (fun H locs hI => ?_)
  replace h := h.2
  refine lv_iconst (v := nI 0) hx hb dX11_takes_24 (by decide) ?_
  refine lv_istore_n (lv' := [(3, .int (nI 0)), (0, .ref (ad 0)), (1, .int x1), (2, .int x2)]) hx hb dX11_takes_25 rfl hl (by decide) rfl (fun ls hl => ?_)
  obtain ⟨k2, h⟩ := h
  exact t_X11_takes_26 C  k2 _ _ _ _ _ h hI (lv_sub hl [1, 2, 3, 0] rfl)
theorem inX11_words_X11 : ∀ w ∈ wsX110, w ∈ wsX11_words := fun _ h => List.mem_cons_of_mem _ (List.mem_append_right _ (h))
theorem mX11_words_fieldLink_118_StillTextModel_units_I : Cond.fieldLink RX11 118 "StillTextModel" "units" "I" ∈ wsX11_words := List.mem_cons_of_mem _ (List.mem_append_left _ (List.mem_of_getElem? (i := 0) rfl))
theorem mX11_words_fieldLink_19_StillTextModel_wordOf_I : Cond.fieldLink RX11 19 "StillTextModel" "wordOf" "[I" ∈ wsX11_words := List.mem_cons_of_mem _ (List.mem_append_left _ (List.mem_of_getElem? (i := 2) rfl))
theorem mX11_words_fieldLink_16_StillTextModel_behind_I : Cond.fieldLink RX11 16 "StillTextModel" "behind" "[I" ∈ wsX11_words := List.mem_cons_of_mem _ (List.mem_append_left _ (List.mem_of_getElem? (i := 1) rfl))
set_option maxHeartbeats 4000000 in
set_option maxRecDepth 100000 in
theorem t_X11_words_4 {p : Program} {e : Env} {s : State} {m : MethodId} {args : Array Value} {below : List Frame} {meth : Method} {c : Code} {A : Nat → Prop}  {Q : St → Prop} (C : Cx p s m args meth c cX11_words 3 none RX11 wsX11_words) :
    ∀ (n : Nat) (σ : St) (x1 x2 : Int32) (H : Heap) (locs : List Loc) (ls : Array Slot), wpl_X11_words_4 Q n σ x1 x2 → Iw D (tyM cyI) [] [] (wM cyI ad) A s H locs σ → lv_has ls 3 [(0, .ref (ad 0)), (1, .int x1), (2, .int x2)] → W p l e r_X11_words s m args below meth c H locs 0 0 (MQ below (va_Qv Q (Kq D (tyM cyI) (wM cyI ad) A) A) args s 0 0 A) (F0 m 4 ls []) := by
  obtain ⟨hx, hb, hr, hml, hown, hts, hlocks⟩ := id C
  intro n
  induction n with
  | zero =>
    intro _ _ _ _ _ _ h
    exact h.elim
  | succ n ih =>
    intro σ x1 x2 H locs ls h hI hl
    unfold wpl_X11_words_4 at h
    refine lv_iload_n hx hb dX11_words_4 rfl (lv_at hl 2 rfl) ?_
    refine lv_aload_n hx hb dX11_words_5 rfl (lv_at hl 0 rfl) ?_
    refine k_get (q0 := 0) (k := 0) (ci := 11) (v := .int (σ 0 0)) hx hb hts inX11_words_X11 hown hI rfl rfl (by decide) mX11_words_fieldLink_118_StillTextModel_units_I rfl rfl dX11_words_6 ?_
    refine lv_icmp_ge (tgt := 45) hx hb dX11_words_9 (by decide) (fun c1 => ?_) (fun c1 => ?_)
    · replace h := h.1 c1
      exact k_vret hx hb hr hlocks hI h dX11_words_45
    · replace h := h.2 c1
      refine lv_iload_n hx hb dX11_words_12 rfl (lv_at hl 2 rfl) ?_
      refine lv_if_le (tgt := 32) hx hb dX11_words_13 (by decide) (fun c2 => ?_) (fun c2 => ?_)
      · replace h := h.1 c2
        refine lv_aload_n hx hb dX11_words_32 rfl (lv_at hl 0 rfl) ?_
        refine k_get (q0 := 0) (k := 4) (ci := 11) (v := .ref (ad 4)) hx hb hts inX11_words_X11 hown hI rfl rfl (by decide) mX11_words_fieldLink_19_StillTextModel_wordOf_I rfl rfl dX11_words_33 ?_
        refine lv_iload_n hx hb dX11_words_36 rfl (lv_at hl 2 rfl) ?_
        refine lv_iload_n hx hb dX11_words_37 rfl (lv_at hl 1 rfl) ?_
        refine k_iast (q0 := 4) (t0 := 0) (n := 80) (σ' := up2 σ 4 x2.toNatClampNeg x1) hx hb hI rfl rfl h.1 (wsM_4 _ _ _ _ _) dX11_words_38 (fun H locs hI => ?_)
        replace h := h.2
        refine lv_iinc (v := (x2 + nI 1)) (lv' := [(2, .int (x2 + nI 1)), (0, .ref (ad 0)), (1, .int x1)]) hx hb dX11_words_39 hl (k := 2) rfl rfl (by decide) rfl (fun ls hl => ?_)
        refine lv_goto (tgt := 4) hx hb dX11_words_42 (by decide) ?_
        exact ih _ _ _ _ _ _ h hI (lv_sub hl [1, 2, 0] rfl)
      · replace h := h.2 c2
        refine lv_aload_n hx hb dX11_words_16 rfl (lv_at hl 0 rfl) ?_
        refine k_get (q0 := 0) (k := 3) (ci := 11) (v := .ref (ad 3)) hx hb hts inX11_words_X11 hown hI rfl rfl (by decide) mX11_words_fieldLink_16_StillTextModel_behind_I rfl rfl dX11_words_17 ?_
        refine lv_iload_n hx hb dX11_words_20 rfl (lv_at hl 2 rfl) ?_
        refine lv_iconst (v := nI 1) hx hb dX11_words_21 (by decide) ?_
        refine lv_isub hx hb dX11_words_22 ?_
        refine k_iald (q0 := 3) (t0 := 0) (n := 80) (f := σ 3) hx hb hI rfl rfl h.1 dX11_words_23 ?_
        replace h := h.2
        refine lv_bipush (v := nI 45) hx hb dX11_words_24 (by decide) ?_
        refine lv_icmp_eq (tgt := 32) hx hb dX11_words_26 (by decide) (fun c3 => ?_) (fun c3 => ?_)
        · replace h := h.1 c3
          refine lv_aload_n hx hb dX11_words_32 rfl (lv_at hl 0 rfl) ?_
          refine k_get (q0 := 0) (k := 4) (ci := 11) (v := .ref (ad 4)) hx hb hts inX11_words_X11 hown hI rfl rfl (by decide) mX11_words_fieldLink_19_StillTextModel_wordOf_I rfl rfl dX11_words_33 ?_
          refine lv_iload_n hx hb dX11_words_36 rfl (lv_at hl 2 rfl) ?_
          refine lv_iload_n hx hb dX11_words_37 rfl (lv_at hl 1 rfl) ?_
          refine k_iast (q0 := 4) (t0 := 0) (n := 80) (σ' := up2 σ 4 x2.toNatClampNeg x1) hx hb hI rfl rfl h.1 (wsM_4 _ _ _ _ _) dX11_words_38 (fun H locs hI => ?_)
          replace h := h.2
          refine lv_iinc (v := (x2 + nI 1)) (lv' := [(2, .int (x2 + nI 1)), (0, .ref (ad 0)), (1, .int x1)]) hx hb dX11_words_39 hl (k := 2) rfl rfl (by decide) rfl (fun ls hl => ?_)
          refine lv_goto (tgt := 4) hx hb dX11_words_42 (by decide) ?_
          exact ih _ _ _ _ _ _ h hI (lv_sub hl [1, 2, 0] rfl)
        · replace h := h.2 c3
          refine lv_iinc (v := (x1 + nI 1)) (lv' := [(1, .int (x1 + nI 1)), (0, .ref (ad 0)), (2, .int x2)]) hx hb dX11_words_29 hl (k := 1) rfl rfl (by decide) rfl (fun ls hl => ?_)
          refine lv_aload_n hx hb dX11_words_32 rfl (lv_at hl 1 rfl) ?_
          refine k_get (q0 := 0) (k := 4) (ci := 11) (v := .ref (ad 4)) hx hb hts inX11_words_X11 hown hI rfl rfl (by decide) mX11_words_fieldLink_19_StillTextModel_wordOf_I rfl rfl dX11_words_33 ?_
          refine lv_iload_n hx hb dX11_words_36 rfl (lv_at hl 2 rfl) ?_
          refine lv_iload_n hx hb dX11_words_37 rfl (lv_at hl 0 rfl) ?_
          refine k_iast (q0 := 4) (t0 := 0) (n := 80) (σ' := up2 σ 4 x2.toNatClampNeg (x1 + nI 1)) hx hb hI rfl rfl h.1 (wsM_4 _ _ _ _ _) dX11_words_38 (fun H locs hI => ?_)
          replace h := h.2
          refine lv_iinc (v := (x2 + nI 1)) (lv' := [(2, .int (x2 + nI 1)), (1, .int (x1 + nI 1)), (0, .ref (ad 0))]) hx hb dX11_words_39 hl (k := 2) rfl rfl (by decide) rfl (fun ls hl => ?_)
          refine lv_goto (tgt := 4) hx hb dX11_words_42 (by decide) ?_
          exact ih _ _ _ _ _ _ h hI (lv_sub hl [2, 1, 0] rfl)
set_option maxHeartbeats 4000000 in
set_option maxRecDepth 100000 in
theorem c_X11_words (σ : St) (Q : St → Prop) (h : wp_X11_words σ  Q) : Cv l D (tyM cyI) [] [] (wM cyI ad) yX11_words wsX11_words r_X11_words [.ref (ad 0)] σ Q := by
  refine k_metV (cc := cX11_words) (maxL := 3) (ret := none) (by decide) rfl (Nat.le_of_ble_eq_true rfl) ?_
  intro p e s m below meth c A ls C hI hl
  obtain ⟨hx, hb, hr, hml, hown, hts, hlocks⟩ := id C
  have hl : lv_has ls 3 [(0, .ref (ad 0))] := hl
  unfold wp_X11_words at h
  refine lv_iconst (v := nI 0) hx hb dX11_words_0 (by decide) ?_
  refine lv_istore_n (lv' := [(1, .int (nI 0)), (0, .ref (ad 0))]) hx hb dX11_words_1 rfl hl (by decide) rfl (fun ls hl => ?_)
  refine lv_iconst (v := nI 0) hx hb dX11_words_2 (by decide) ?_
  refine lv_istore_n (lv' := [(2, .int (nI 0)), (1, .int (nI 0)), (0, .ref (ad 0))]) hx hb dX11_words_3 rfl hl (by decide) rfl (fun ls hl => ?_)
  obtain ⟨k4, h⟩ := h
  exact t_X11_words_4 C  k4 _ _ _ _ _ _ h hI (lv_sub hl [2, 1, 0] rfl)
theorem inX11_text_X11 : ∀ w ∈ wsX110, w ∈ wsX11_text := fun _ h => List.mem_cons_of_mem _ (List.mem_append_right _ (h))
theorem mX11_text_fieldLink_101_StillTextModel_reads_I : Cond.fieldLink RX11 101 "StillTextModel" "reads" "I" ∈ wsX11_text := List.mem_cons_of_mem _ (List.mem_append_left _ (List.mem_append_left _ (List.mem_of_getElem? (i := 0) rfl)))
theorem mX11_text_fieldLink_118_StillTextModel_units_I : Cond.fieldLink RX11 118 "StillTextModel" "units" "I" ∈ wsX11_text := List.mem_cons_of_mem _ (List.mem_append_left _ (List.mem_append_left _ (List.mem_of_getElem? (i := 1) rfl)))
theorem mX11_text_fieldLink_132_StillTextModel_isSet_Z : Cond.fieldLink RX11 132 "StillTextModel" "isSet" "Z" ∈ wsX11_text := List.mem_cons_of_mem _ (List.mem_append_left _ (List.mem_append_left _ (List.mem_of_getElem? (i := 2) rfl)))
theorem mX11_text_fieldLink_136_StillTextModel_isFresh_Z : Cond.fieldLink RX11 136 "StillTextModel" "isFresh" "Z" ∈ wsX11_text := List.mem_cons_of_mem _ (List.mem_append_left _ (List.mem_append_left _ (List.mem_of_getElem? (i := 3) rfl)))
theorem mX11_text_fieldLink_139_StillTextModel_marks_I : Cond.fieldLink RX11 139 "StillTextModel" "marks" "I" ∈ wsX11_text := List.mem_cons_of_mem _ (List.mem_append_left _ (List.mem_append_left _ (List.mem_of_getElem? (i := 4) rfl)))
set_option maxHeartbeats 4000000 in
set_option maxRecDepth 100000 in
theorem t_X11_text_19 {p : Program} {e : Env} {s : State} {m : MethodId} {args : Array Value} {below : List Frame} {meth : Method} {c : Code} {A : Nat → Prop}  {Q : Int32 → St → Prop} (C : Cx p s m args meth c cX11_text 2 (some .int) RX11 wsX11_text) :
    ∀ (n : Nat) (σ : St) (x1 : Int32) (H : Heap) (locs : List Loc) (ls : Array Slot), wpl_X11_text_19 Q n σ x1 → Iw D (tyM cyI) [] [] (wM cyI ad) A s H locs σ → lv_has ls 2 [(0, .ref (ad 0)), (1, .int x1)] → W p l e r_X11_text s m args below meth c H locs 0 0 (MQ below (va_Qi Q (Kq D (tyM cyI) (wM cyI ad) A) A) args s 0 0 A) (F0 m 19 ls []) := by
  obtain ⟨hx, hb, hr, hml, hown, hts, hlocks⟩ := id C
  intro n
  induction n with
  | zero =>
    intro _ _ _ _ _ h
    exact h.elim
  | succ n ih =>
    intro σ x1 H locs ls h hI hl
    unfold wpl_X11_text_19 at h
    refine lv_iload_n hx hb dX11_text_19 rfl (lv_at hl 1 rfl) ?_
    refine lv_aload_n hx hb dX11_text_20 rfl (lv_at hl 0 rfl) ?_
    refine k_get (q0 := 0) (k := 0) (ci := 11) (v := .int (σ 0 0)) hx hb hts inX11_text_X11 hown hI rfl rfl (by decide) mX11_text_fieldLink_118_StillTextModel_units_I rfl rfl dX11_text_21 ?_
    refine lv_icmp_ge (tgt := 39) hx hb dX11_text_24 (by decide) (fun c4 => ?_) (fun c4 => ?_)
    · replace h := h.1 c4
      refine lv_aload_n hx hb dX11_text_39 rfl (lv_at hl 0 rfl) ?_
      refine k_cVv (As := []) (rest := []) C (c_X11_words σ  _ h) (cwV 0 hts gX11_text_X11_words rfl rfl rfl hdX11_words ⟨Nat.le_of_ble_eq_true rfl, Nat.le_of_ble_eq_true rfl⟩) hI 0 rfl rfl rfl hl.1 rfl (Nat.le_of_ble_eq_true rfl) dX11_text_40 ⟨Nat.le_of_ble_eq_true rfl, Nat.le_of_ble_eq_true rfl⟩ (fun σ6 H locs h hI => ?_)
      refine lv_aload_n hx hb dX11_text_43 rfl (lv_at hl 0 rfl) ?_
      refine lv_iconst (v := nI 0) hx hb dX11_text_44 (by decide) ?_
      refine k_put (q0 := 0) (k := 24) (ci := 11) (v := .int (nI 0)) (σ' := up2 σ6 0 24 (nI 0)) hx hb hts inX11_text_X11 tyX11 tyX11_ok nmX11 hown hI rfl rfl (by decide) mX11_text_fieldLink_132_StillTextModel_isSet_Z rfl rfl rfl rfl (Nat.le_of_ble_eq_true rfl) (wsM_0_24 _ _ _ _) dX11_text_45 (fun H locs hI => ?_)
      refine lv_aload_n hx hb dX11_text_48 rfl (lv_at hl 0 rfl) ?_
      refine lv_iconst (v := nI 0) hx hb dX11_text_49 (by decide) ?_
      refine k_put (q0 := 0) (k := 25) (ci := 11) (v := .int (nI 0)) (σ' := up2 (up2 σ6 0 24 (nI 0)) 0 25 (nI 0)) hx hb hts inX11_text_X11 tyX11 tyX11_ok nmX11 hown hI rfl rfl (by decide) mX11_text_fieldLink_136_StillTextModel_isFresh_Z rfl rfl rfl rfl (Nat.le_of_ble_eq_true rfl) (wsM_0_25 _ _ _ _) dX11_text_50 (fun H locs hI => ?_)
      refine lv_aload_n hx hb dX11_text_53 rfl (lv_at hl 0 rfl) ?_
      refine lv_iconst (v := nI 0) hx hb dX11_text_54 (by decide) ?_
      refine k_put (q0 := 0) (k := 33) (ci := 11) (v := .int (nI 0)) (σ' := up2 (up2 (up2 σ6 0 24 (nI 0)) 0 25 (nI 0)) 0 33 (nI 0)) hx hb hts inX11_text_X11 tyX11 tyX11_ok nmX11 hown hI rfl rfl (by decide) mX11_text_fieldLink_139_StillTextModel_marks_I rfl rfl rfl rfl (Nat.le_of_ble_eq_true rfl) (wsM_0_33 _ _ _ _) dX11_text_55 (fun H locs hI => ?_)
      refine lv_aload_n hx hb dX11_text_58 rfl (lv_at hl 0 rfl) ?_
      refine k_get (q0 := 0) (k := 0) (ci := 11) (v := .int (σ6 0 0)) hx hb hts inX11_text_X11 hown hI rfl rfl (by decide) mX11_text_fieldLink_118_StillTextModel_units_I rfl rfl dX11_text_59 ?_
      exact k_iret hx hb hr hlocks hI h dX11_text_62
    · replace h := h.2 c4
      refine lv_aload_n hx hb dX11_text_27 rfl (lv_at hl 0 rfl) ?_
      refine lv_iload_n hx hb dX11_text_28 rfl (lv_at hl 1 rfl) ?_
      refine lv_iload_n hx hb dX11_text_29 rfl (lv_at hl 1 rfl) ?_
      refine k_cVv (As := [.int x1, .int x1]) (rest := []) C (c_X11_takes σ x1 x1 _ h) (cwV 2 hts gX11_text_X11_takes rfl rfl rfl hdX11_takes ⟨Nat.le_of_ble_eq_true rfl, Nat.le_of_ble_eq_true rfl⟩) hI 0 rfl rfl rfl hl.1 rfl (Nat.le_of_ble_eq_true rfl) dX11_text_30 ⟨Nat.le_of_ble_eq_true rfl, Nat.le_of_ble_eq_true rfl⟩ (fun σ8 H locs h hI => ?_)
      refine lv_iinc (v := (x1 + nI 1)) (lv' := [(1, .int (x1 + nI 1)), (0, .ref (ad 0))]) hx hb dX11_text_33 hl (k := 1) rfl rfl (by decide) rfl (fun ls hl => ?_)
      refine lv_goto (tgt := 19) hx hb dX11_text_36 (by decide) ?_
      exact ih _ _ _ _ _ h hI (lv_sub hl [1, 0] rfl)
set_option maxHeartbeats 4000000 in
set_option maxRecDepth 100000 in
theorem c_X11_text (σ : St) (Q : Int32 → St → Prop) (h : wp_X11_text σ  Q) : Ci l D (tyM cyI) [] [] (wM cyI ad) yX11_text wsX11_text r_X11_text [.ref (ad 0)] σ Q := by
  refine k_metI (cc := cX11_text) (maxL := 2) (ret := (some .int)) (by decide) rfl (Nat.le_of_ble_eq_true rfl) ?_
  intro p e s m below meth c A ls C hI hl
  obtain ⟨hx, hb, hr, hml, hown, hts, hlocks⟩ := id C
  have hl : lv_has ls 2 [(0, .ref (ad 0))] := hl
  unfold wp_X11_text at h
  refine lv_aload_n hx hb dX11_text_0 rfl (lv_at hl 0 rfl) ?_
  refine k_cVi (As := []) (rest := []) C (c_X11_isText σ  _ h) (cwV 0 hts gX11_text_X11_isText rfl rfl rfl hdX11_isText ⟨Nat.le_of_ble_eq_true rfl, Nat.le_of_ble_eq_true rfl⟩) hI 0 rfl rfl rfl hl.1 rfl (Nat.le_of_ble_eq_true rfl) dX11_text_1 ⟨Nat.le_of_ble_eq_true rfl, Nat.le_of_ble_eq_true rfl⟩ (fun r1 σ2 H locs h hI => ?_)
  refine lv_if_ne (tgt := 9) hx hb dX11_text_4 (by decide) (fun c3 => ?_) (fun c3 => ?_)
  · replace h := h.1 c3
    refine lv_aload_n hx hb dX11_text_9 rfl (lv_at hl 0 rfl) ?_
    refine lv_aload_n hx hb dX11_text_10 rfl (lv_at hl 0 rfl) ?_
    refine k_get (q0 := 0) (k := 9) (ci := 11) (v := .int (σ2 0 9)) hx hb hts inX11_text_X11 hown hI rfl rfl (by decide) mX11_text_fieldLink_101_StillTextModel_reads_I rfl rfl dX11_text_11 ?_
    refine k_put (q0 := 0) (k := 0) (ci := 11) (v := .int (σ2 0 9)) (σ' := up2 σ2 0 0 (σ2 0 9)) hx hb hts inX11_text_X11 tyX11 tyX11_ok nmX11 hown hI rfl rfl (by decide) mX11_text_fieldLink_118_StillTextModel_units_I rfl rfl rfl rfl (Nat.le_of_ble_eq_true rfl) (wsM_0_0 _ _ _ _) dX11_text_14 (fun H locs hI => ?_)
    refine lv_iconst (v := nI 0) hx hb dX11_text_17 (by decide) ?_
    refine lv_istore_n (lv' := [(1, .int (nI 0)), (0, .ref (ad 0))]) hx hb dX11_text_18 rfl hl (by decide) rfl (fun ls hl => ?_)
    obtain ⟨k9, h⟩ := h
    exact t_X11_text_19 C  k9 _ _ _ _ _ h hI (lv_sub hl [1, 0] rfl)
  · replace h := h.2 c3
    refine lv_iconst (v := (-1)) hx hb dX11_text_7 (by decide) ?_
    exact k_iret hx hb hr hlocks hI h dX11_text_8
theorem inX11_fault_X11 : ∀ w ∈ wsX110, w ∈ wsX11_fault := fun _ h => List.mem_cons_of_mem _ (List.mem_append_right _ (h))
theorem mX11_fault_fieldLink_25_StillTextModel_faultPlace_I : Cond.fieldLink RX11 25 "StillTextModel" "faultPlace" "I" ∈ wsX11_fault := List.mem_cons_of_mem _ (List.mem_append_left _ (List.mem_of_getElem? (i := 1) rfl))
theorem mX11_fault_fieldLink_98_StillTextModel_fault_I : Cond.fieldLink RX11 98 "StillTextModel" "fault" "I" ∈ wsX11_fault := List.mem_cons_of_mem _ (List.mem_append_left _ (List.mem_of_getElem? (i := 0) rfl))
set_option maxHeartbeats 4000000 in
set_option maxRecDepth 100000 in
theorem c_X11_fault (σ : St) (x1 : Int32) (Q : Int32 → St → Prop) (h : wp_X11_fault σ x1 Q) : Ci l D (tyM cyI) [] [] (wM cyI ad) yX11_fault wsX11_fault r_X11_fault [.ref (ad 0), .int x1] σ Q := by
  refine k_metI (cc := cX11_fault) (maxL := 2) (ret := (some .int)) (by decide) rfl (Nat.le_of_ble_eq_true rfl) ?_
  intro p e s m below meth c A ls C hI hl
  obtain ⟨hx, hb, hr, hml, hown, hts, hlocks⟩ := id C
  have hl : lv_has ls 2 [(0, .ref (ad 0)), (1, .int x1)] := hl
  unfold wp_X11_fault at h
  refine lv_iload_n hx hb dX11_fault_0 rfl (lv_at hl 1 rfl) ?_
  refine lv_if_ne (tgt := 11) hx hb dX11_fault_1 (by decide) (fun c1 => ?_) (fun c1 => ?_)
  · replace h := h.1 c1
    refine lv_iload_n hx hb dX11_fault_11 rfl (lv_at hl 1 rfl) ?_
    refine lv_iconst (v := nI 1) hx hb dX11_fault_12 (by decide) ?_
    refine lv_icmp_ne (tgt := 23) hx hb dX11_fault_13 (by decide) (fun c2 => ?_) (fun c2 => ?_)
    · replace h := h.1 c2
      refine lv_iconst (v := (-1)) hx hb dX11_fault_23 (by decide) ?_
      exact k_iret hx hb hr hlocks hI h dX11_fault_24
    · replace h := h.2 c2
      refine lv_aload_n hx hb dX11_fault_16 rfl (lv_at hl 0 rfl) ?_
      refine k_get (q0 := 0) (k := 8) (ci := 11) (v := .int (σ 0 8)) hx hb hts inX11_fault_X11 hown hI rfl rfl (by decide) mX11_fault_fieldLink_25_StillTextModel_faultPlace_I rfl rfl dX11_fault_17 ?_
      refine lv_goto (tgt := 24) hx hb dX11_fault_20 (by decide) ?_
      exact k_iret hx hb hr hlocks hI h dX11_fault_24
  · replace h := h.2 c1
    refine lv_aload_n hx hb dX11_fault_4 rfl (lv_at hl 0 rfl) ?_
    refine k_get (q0 := 0) (k := 7) (ci := 11) (v := .int (σ 0 7)) hx hb hts inX11_fault_X11 hown hI rfl rfl (by decide) mX11_fault_fieldLink_98_StillTextModel_fault_I rfl rfl dX11_fault_5 ?_
    refine lv_goto (tgt := 24) hx hb dX11_fault_8 (by decide) ?_
    exact k_iret hx hb hr hlocks hI h dX11_fault_24
theorem inX11_put_X11 : ∀ w ∈ wsX110, w ∈ wsX11_put := fun _ h => List.mem_cons_of_mem _ (List.mem_append_right _ (h))
theorem mX11_put_fieldLink_95_StillTextModel_taped_I : Cond.fieldLink RX11 95 "StillTextModel" "taped" "I" ∈ wsX11_put := List.mem_cons_of_mem _ (List.mem_append_left _ (List.mem_append_left _ (List.mem_of_getElem? (i := 2) rfl)))
theorem mX11_put_fieldLink_118_StillTextModel_units_I : Cond.fieldLink RX11 118 "StillTextModel" "units" "I" ∈ wsX11_put := List.mem_cons_of_mem _ (List.mem_append_left _ (List.mem_append_left _ (List.mem_of_getElem? (i := 0) rfl)))
theorem mX11_put_fieldLink_16_StillTextModel_behind_I : Cond.fieldLink RX11 16 "StillTextModel" "behind" "[I" ∈ wsX11_put := List.mem_cons_of_mem _ (List.mem_append_left _ (List.mem_append_left _ (List.mem_of_getElem? (i := 1) rfl)))
theorem mX11_put_fieldLink_101_StillTextModel_reads_I : Cond.fieldLink RX11 101 "StillTextModel" "reads" "I" ∈ wsX11_put := List.mem_cons_of_mem _ (List.mem_append_left _ (List.mem_append_left _ (List.mem_of_getElem? (i := 3) rfl)))
theorem mX11_put_fieldLink_139_StillTextModel_marks_I : Cond.fieldLink RX11 139 "StillTextModel" "marks" "I" ∈ wsX11_put := List.mem_cons_of_mem _ (List.mem_append_left _ (List.mem_append_left _ (List.mem_of_getElem? (i := 6) rfl)))
theorem mX11_put_fieldLink_136_StillTextModel_isFresh_Z : Cond.fieldLink RX11 136 "StillTextModel" "isFresh" "Z" ∈ wsX11_put := List.mem_cons_of_mem _ (List.mem_append_left _ (List.mem_append_left _ (List.mem_of_getElem? (i := 8) rfl)))
theorem mX11_put_fieldLink_89_StillTextModel_markUnit_I : Cond.fieldLink RX11 89 "StillTextModel" "markUnit" "[I" ∈ wsX11_put := List.mem_cons_of_mem _ (List.mem_append_left _ (List.mem_append_left _ (List.mem_of_getElem? (i := 7) rfl)))
theorem mX11_put_fieldLink_7_StillTextModel_size_I : Cond.fieldLink RX11 7 "StillTextModel" "size" "[I" ∈ wsX11_put := List.mem_cons_of_mem _ (List.mem_append_left _ (List.mem_append_left _ (List.mem_of_getElem? (i := 4) rfl)))
theorem mX11_put_fieldLink_13_StillTextModel_letter_I : Cond.fieldLink RX11 13 "StillTextModel" "letter" "[I" ∈ wsX11_put := List.mem_cons_of_mem _ (List.mem_append_left _ (List.mem_append_left _ (List.mem_of_getElem? (i := 5) rfl)))
set_option maxHeartbeats 4000000 in
set_option maxRecDepth 100000 in
theorem t_X11_put_215 {p : Program} {e : Env} {s : State} {m : MethodId} {args : Array Value} {below : List Frame} {meth : Method} {c : Code} {A : Nat → Prop} {x1 x2 : Int32}  {Q : Int32 → St → Prop} (C : Cx p s m args meth c cX11_put 5 (some .int) RX11 wsX11_put) :
    ∀ (n : Nat) (σ : St) (x3 : Int32) (H : Heap) (locs : List Loc) (ls : Array Slot), wpl_X11_put_215 x1 x2 Q n σ x3 → Iw D (tyM cyI) [] [] (wM cyI ad) A s H locs σ → lv_has ls 5 [(0, .ref (ad 0)), (1, .int x1), (2, .int x2), (3, .int x3)] → W p l e r_X11_put s m args below meth c H locs 0 0 (MQ below (va_Qi Q (Kq D (tyM cyI) (wM cyI ad) A) A) args s 0 0 A) (F0 m 215 ls []) := by
  obtain ⟨hx, hb, hr, hml, hown, hts, hlocks⟩ := id C
  intro n
  induction n with
  | zero =>
    intro _ _ _ _ _ h
    exact h.elim
  | succ n ih =>
    intro σ x3 H locs ls h hI hl
    unfold wpl_X11_put_215 at h
    refine lv_iload_n hx hb dX11_put_215 rfl (lv_at hl 3 rfl) ?_
    refine lv_aload_n hx hb dX11_put_216 rfl (lv_at hl 0 rfl) ?_
    refine k_get (q0 := 0) (k := 33) (ci := 11) (v := .int (σ 0 33)) hx hb hts inX11_put_X11 hown hI rfl rfl (by decide) mX11_put_fieldLink_139_StillTextModel_marks_I rfl rfl dX11_put_217 ?_
    refine lv_icmp_ge (tgt := 249) hx hb dX11_put_220 (by decide) (fun c14 => ?_) (fun c14 => ?_)
    · replace h := h.1 c14
      refine lv_aload_n hx hb dX11_put_249 rfl (lv_at hl 0 rfl) ?_
      refine lv_iconst (v := nI 0) hx hb dX11_put_250 (by decide) ?_
      refine k_put (q0 := 0) (k := 25) (ci := 11) (v := .int (nI 0)) (σ' := up2 σ 0 25 (nI 0)) hx hb hts inX11_put_X11 tyX11 tyX11_ok nmX11 hown hI rfl rfl (by decide) mX11_put_fieldLink_136_StillTextModel_isFresh_Z rfl rfl rfl rfl (Nat.le_of_ble_eq_true rfl) (wsM_0_25 _ _ _ _) dX11_put_251 (fun H locs hI => ?_)
      refine lv_aload_n hx hb dX11_put_254 rfl (lv_at hl 0 rfl) ?_
      refine k_get (q0 := 0) (k := 0) (ci := 11) (v := .int (σ 0 0)) hx hb hts inX11_put_X11 hown hI rfl rfl (by decide) mX11_put_fieldLink_118_StillTextModel_units_I rfl rfl dX11_put_255 ?_
      exact k_iret hx hb hr hlocks hI h dX11_put_258
    · replace h := h.2 c14
      refine lv_aload_n hx hb dX11_put_223 rfl (lv_at hl 0 rfl) ?_
      refine k_get (q0 := 0) (k := 34) (ci := 11) (v := .ref (ad 17)) hx hb hts inX11_put_X11 hown hI rfl rfl (by decide) mX11_put_fieldLink_89_StillTextModel_markUnit_I rfl rfl dX11_put_224 ?_
      refine lv_iload_n hx hb dX11_put_227 rfl (lv_at hl 3 rfl) ?_
      refine k_iald (q0 := 17) (t0 := 0) (n := 20) (f := σ 17) hx hb hI rfl rfl h.1 dX11_put_228 ?_
      replace h := h.2
      refine lv_iload_n hx hb dX11_put_229 rfl (lv_at hl 1 rfl) ?_
      refine lv_icmp_le (tgt := 243) hx hb dX11_put_230 (by decide) (fun c15 => ?_) (fun c15 => ?_)
      · replace h := h.1 c15
        refine lv_iinc (v := (x3 + nI 1)) (lv' := [(3, .int (x3 + nI 1)), (0, .ref (ad 0)), (1, .int x1), (2, .int x2)]) hx hb dX11_put_243 hl (k := 3) rfl rfl (by decide) rfl (fun ls hl => ?_)
        refine lv_goto (tgt := 215) hx hb dX11_put_246 (by decide) ?_
        exact ih _ _ _ _ _ h hI (lv_sub hl [1, 2, 3, 0] rfl)
      · replace h := h.2 c15
        refine lv_aload_n hx hb dX11_put_233 rfl (lv_at hl 0 rfl) ?_
        refine k_get (q0 := 0) (k := 34) (ci := 11) (v := .ref (ad 17)) hx hb hts inX11_put_X11 hown hI rfl rfl (by decide) mX11_put_fieldLink_89_StillTextModel_markUnit_I rfl rfl dX11_put_234 ?_
        refine lv_iload_n hx hb dX11_put_237 rfl (lv_at hl 3 rfl) ?_
        refine lv_dup2_11 hx hb dX11_put_238 rfl rfl ?_
        refine k_iald (q0 := 17) (t0 := 0) (n := 20) (f := σ 17) hx hb hI rfl rfl h.1 dX11_put_239 ?_
        replace h := h.2
        refine lv_iload_n hx hb dX11_put_240 rfl (lv_at hl 2 rfl) ?_
        refine lv_iadd hx hb dX11_put_241 ?_
        refine k_iast (q0 := 17) (t0 := 0) (n := 20) (σ' := up2 σ 17 x3.toNatClampNeg ((σ 17 x3.toNatClampNeg) + x2)) hx hb hI rfl rfl h.1 (wsM_17 _ _ _ _ _) dX11_put_242 (fun H locs hI => ?_)
        replace h := h.2
        refine lv_iinc (v := (x3 + nI 1)) (lv' := [(3, .int (x3 + nI 1)), (0, .ref (ad 0)), (1, .int x1), (2, .int x2)]) hx hb dX11_put_243 hl (k := 3) rfl rfl (by decide) rfl (fun ls hl => ?_)
        refine lv_goto (tgt := 215) hx hb dX11_put_246 (by decide) ?_
        exact ih _ _ _ _ _ h hI (lv_sub hl [1, 2, 3, 0] rfl)
set_option maxHeartbeats 4000000 in
set_option maxRecDepth 100000 in
theorem t_X11_put_187 {p : Program} {e : Env} {s : State} {m : MethodId} {args : Array Value} {below : List Frame} {meth : Method} {c : Code} {A : Nat → Prop} {x1 x2 : Int32}  {Q : Int32 → St → Prop} (C : Cx p s m args meth c cX11_put 5 (some .int) RX11 wsX11_put) :
    ∀ (n : Nat) (σ : St) (x3 : Int32) (H : Heap) (locs : List Loc) (ls : Array Slot), wpl_X11_put_187 x1 x2 Q n σ x3 → Iw D (tyM cyI) [] [] (wM cyI ad) A s H locs σ → lv_has ls 5 [(0, .ref (ad 0)), (1, .int x1), (2, .int x2), (3, .int x3)] → W p l e r_X11_put s m args below meth c H locs 0 0 (MQ below (va_Qi Q (Kq D (tyM cyI) (wM cyI ad) A) A) args s 0 0 A) (F0 m 187 ls []) := by
  obtain ⟨hx, hb, hr, hml, hown, hts, hlocks⟩ := id C
  intro n
  induction n with
  | zero =>
    intro _ _ _ _ _ h
    exact h.elim
  | succ n ih =>
    intro σ x3 H locs ls h hI hl
    unfold wpl_X11_put_187 at h
    refine lv_iload_n hx hb dX11_put_187 rfl (lv_at hl 3 rfl) ?_
    refine lv_aload_n hx hb dX11_put_188 rfl (lv_at hl 0 rfl) ?_
    refine k_get (q0 := 0) (k := 9) (ci := 11) (v := .int (σ 0 9)) hx hb hts inX11_put_X11 hown hI rfl rfl (by decide) mX11_put_fieldLink_101_StillTextModel_reads_I rfl rfl dX11_put_189 ?_
    refine lv_icmp_ge (tgt := 209) hx hb dX11_put_192 (by decide) (fun c11 => ?_) (fun c11 => ?_)
    · replace h := h.1 c11
      refine lv_aload_n hx hb dX11_put_209 rfl (lv_at hl 0 rfl) ?_
      refine k_cVv (As := []) (rest := []) C (c_X11_words σ  _ h) (cwV 0 hts gX11_put_X11_words rfl rfl rfl hdX11_words ⟨Nat.le_of_ble_eq_true rfl, Nat.le_of_ble_eq_true rfl⟩) hI 0 rfl rfl rfl hl.1 rfl (Nat.le_of_ble_eq_true rfl) dX11_put_210 ⟨Nat.le_of_ble_eq_true rfl, Nat.le_of_ble_eq_true rfl⟩ (fun σ13 H locs h hI => ?_)
      refine lv_iconst (v := nI 0) hx hb dX11_put_213 (by decide) ?_
      refine lv_istore_n (lv' := [(3, .int (nI 0)), (0, .ref (ad 0)), (1, .int x1), (2, .int x2)]) hx hb dX11_put_214 rfl hl (by decide) rfl (fun ls hl => ?_)
      obtain ⟨k16, h⟩ := h
      exact t_X11_put_215 C  k16 _ _ _ _ _ h hI (lv_sub hl [1, 2, 3, 0] rfl)
    · replace h := h.2 c11
      refine lv_aload_n hx hb dX11_put_195 rfl (lv_at hl 0 rfl) ?_
      refine lv_iload_n hx hb dX11_put_196 rfl (lv_at hl 3 rfl) ?_
      refine lv_iload_n hx hb dX11_put_197 rfl (lv_at hl 1 rfl) ?_
      refine lv_iload_n hx hb dX11_put_198 rfl (lv_at hl 3 rfl) ?_
      refine lv_iadd hx hb dX11_put_199 ?_
      refine k_cVv (As := [.int x3, .int (x1 + x3)]) (rest := []) C (c_X11_takes σ x3 (x1 + x3) _ h) (cwV 2 hts gX11_put_X11_takes rfl rfl rfl hdX11_takes ⟨Nat.le_of_ble_eq_true rfl, Nat.le_of_ble_eq_true rfl⟩) hI 0 rfl rfl rfl hl.1 rfl (Nat.le_of_ble_eq_true rfl) dX11_put_200 ⟨Nat.le_of_ble_eq_true rfl, Nat.le_of_ble_eq_true rfl⟩ (fun σ18 H locs h hI => ?_)
      refine lv_iinc (v := (x3 + nI 1)) (lv' := [(3, .int (x3 + nI 1)), (0, .ref (ad 0)), (1, .int x1), (2, .int x2)]) hx hb dX11_put_203 hl (k := 3) rfl rfl (by decide) rfl (fun ls hl => ?_)
      refine lv_goto (tgt := 187) hx hb dX11_put_206 (by decide) ?_
      exact ih _ _ _ _ _ h hI (lv_sub hl [1, 2, 3, 0] rfl)
set_option maxHeartbeats 4000000 in
set_option maxRecDepth 100000 in
theorem t_X11_put_130 {p : Program} {e : Env} {s : State} {m : MethodId} {args : Array Value} {below : List Frame} {meth : Method} {c : Code} {A : Nat → Prop} {x1 x2 x3 : Int32} {K94 : St → Int32 → Prop} {Q : Int32 → St → Prop} (C : Cx p s m args meth c cX11_put 5 (some .int) RX11 wsX11_put) (hK94 : ∀ (σ : St) (x3 : Int32) (H : Heap) (locs : List Loc) (ls : Array Slot), K94 σ x3 → Iw D (tyM cyI) [] [] (wM cyI ad) A s H locs σ → lv_has ls 5 [(0, .ref (ad 0)), (1, .int x1), (2, .int x2), (3, .int x3)] → W p l e r_X11_put s m args below meth c H locs 0 0 (MQ below (va_Qi Q (Kq D (tyM cyI) (wM cyI ad) A) A) args s 0 0 A) (F0 m 94 ls [])) :
    ∀ (n : Nat) (σ : St) (x4 : Int32) (H : Heap) (locs : List Loc) (ls : Array Slot), wpl_X11_put_130 x1 x2 x3 K94 Q n σ x4 → Iw D (tyM cyI) [] [] (wM cyI ad) A s H locs σ → lv_has ls 5 [(0, .ref (ad 0)), (1, .int x1), (2, .int x2), (3, .int x3), (4, .int x4)] → W p l e r_X11_put s m args below meth c H locs 0 0 (MQ below (va_Qi Q (Kq D (tyM cyI) (wM cyI ad) A) A) args s 0 0 A) (F0 m 130 ls []) := by
  obtain ⟨hx, hb, hr, hml, hown, hts, hlocks⟩ := id C
  intro n
  induction n with
  | zero =>
    intro _ _ _ _ _ h
    exact h.elim
  | succ n ih =>
    intro σ x4 H locs ls h hI hl
    unfold wpl_X11_put_130 at h
    refine lv_iload hx hb dX11_put_130 (lv_at hl 4 rfl) ?_
    refine lv_bipush (v := nI 20) hx hb dX11_put_132 (by decide) ?_
    refine lv_icmp_ge (tgt := 169) hx hb dX11_put_134 (by decide) (fun c20 => ?_) (fun c20 => ?_)
    · replace h := h.1 c20
      refine lv_iinc (v := (x3 - nI 1)) (lv' := [(3, .int (x3 - nI 1)), (0, .ref (ad 0)), (1, .int x1), (2, .int x2), (4, .int x4)]) hx hb dX11_put_169 hl (k := 3) rfl (k_dec1 _) (by decide) rfl (fun ls hl => ?_)
      refine lv_goto (tgt := 94) hx hb dX11_put_172 (by decide) ?_
      exact hK94 _ _ _ _ _ h hI (lv_sub hl [1, 2, 3, 0] rfl)
    · replace h := h.2 c20
      refine lv_aload_n hx hb dX11_put_137 rfl (lv_at hl 0 rfl) ?_
      refine k_get (q0 := 0) (k := 2) (ci := 11) (v := .ref (ad 2)) hx hb hts inX11_put_X11 hown hI rfl rfl (by decide) mX11_put_fieldLink_13_StillTextModel_letter_I rfl rfl dX11_put_138 ?_
      refine lv_bipush (v := nI 20) hx hb dX11_put_141 (by decide) ?_
      refine lv_iload_n hx hb dX11_put_143 rfl (lv_at hl 3 rfl) ?_
      refine lv_iload_n hx hb dX11_put_144 rfl (lv_at hl 2 rfl) ?_
      refine lv_iadd hx hb dX11_put_145 ?_
      refine lv_imul hx hb dX11_put_146 ?_
      refine lv_iload hx hb dX11_put_147 (lv_at hl 4 rfl) ?_
      refine lv_iadd hx hb dX11_put_149 ?_
      refine lv_aload_n hx hb dX11_put_150 rfl (lv_at hl 0 rfl) ?_
      refine k_get (q0 := 0) (k := 2) (ci := 11) (v := .ref (ad 2)) hx hb hts inX11_put_X11 hown hI rfl rfl (by decide) mX11_put_fieldLink_13_StillTextModel_letter_I rfl rfl dX11_put_151 ?_
      refine lv_bipush (v := nI 20) hx hb dX11_put_154 (by decide) ?_
      refine lv_iload_n hx hb dX11_put_156 rfl (lv_at hl 3 rfl) ?_
      refine lv_imul hx hb dX11_put_157 ?_
      refine lv_iload hx hb dX11_put_158 (lv_at hl 4 rfl) ?_
      refine lv_iadd hx hb dX11_put_160 ?_
      refine k_iald (q0 := 2) (t0 := 0) (n := 1600) (f := σ 2) hx hb hI rfl rfl h.1 dX11_put_161 ?_
      replace h := h.2
      refine k_iast (q0 := 2) (t0 := 0) (n := 1600) (σ' := up2 σ 2 (((nI 20) * (x3 + x2)) + x4).toNatClampNeg (σ 2 (((nI 20) * x3) + x4).toNatClampNeg)) hx hb hI rfl rfl h.1 (wsM_2 _ _ _ _ _) dX11_put_162 (fun H locs hI => ?_)
      replace h := h.2
      refine lv_iinc (v := (x4 + nI 1)) (lv' := [(4, .int (x4 + nI 1)), (0, .ref (ad 0)), (1, .int x1), (2, .int x2), (3, .int x3)]) hx hb dX11_put_163 hl (k := 4) rfl rfl (by decide) rfl (fun ls hl => ?_)
      refine lv_goto (tgt := 130) hx hb dX11_put_166 (by decide) ?_
      exact ih _ _ _ _ _ h hI (lv_sub hl [1, 2, 3, 4, 0] rfl)
set_option maxHeartbeats 4000000 in
set_option maxRecDepth 100000 in
theorem t_X11_put_94 {p : Program} {e : Env} {s : State} {m : MethodId} {args : Array Value} {below : List Frame} {meth : Method} {c : Code} {A : Nat → Prop} {x1 x2 : Int32}  {Q : Int32 → St → Prop} (C : Cx p s m args meth c cX11_put 5 (some .int) RX11 wsX11_put) :
    ∀ (n : Nat) (σ : St) (x3 : Int32) (H : Heap) (locs : List Loc) (ls : Array Slot), wpl_X11_put_94 x1 x2 Q n σ x3 → Iw D (tyM cyI) [] [] (wM cyI ad) A s H locs σ → lv_has ls 5 [(0, .ref (ad 0)), (1, .int x1), (2, .int x2), (3, .int x3)] → W p l e r_X11_put s m args below meth c H locs 0 0 (MQ below (va_Qi Q (Kq D (tyM cyI) (wM cyI ad) A) A) args s 0 0 A) (F0 m 94 ls []) := by
  obtain ⟨hx, hb, hr, hml, hown, hts, hlocks⟩ := id C
  intro n
  induction n with
  | zero =>
    intro _ _ _ _ _ h
    exact h.elim
  | succ n ih =>
    intro σ x3 H locs ls h hI hl
    unfold wpl_X11_put_94 at h
    refine lv_iload_n hx hb dX11_put_94 rfl (lv_at hl 3 rfl) ?_
    refine lv_iload_n hx hb dX11_put_95 rfl (lv_at hl 1 rfl) ?_
    refine lv_icmp_le (tgt := 175) hx hb dX11_put_96 (by decide) (fun c10 => ?_) (fun c10 => ?_)
    · replace h := h.1 c10
      refine lv_aload_n hx hb dX11_put_175 rfl (lv_at hl 0 rfl) ?_
      refine lv_dup hx hb dX11_put_176 rfl ?_
      refine k_get (q0 := 0) (k := 0) (ci := 11) (v := .int (σ 0 0)) hx hb hts inX11_put_X11 hown hI rfl rfl (by decide) mX11_put_fieldLink_118_StillTextModel_units_I rfl rfl dX11_put_177 ?_
      refine lv_iload_n hx hb dX11_put_180 rfl (lv_at hl 2 rfl) ?_
      refine lv_iadd hx hb dX11_put_181 ?_
      refine k_put (q0 := 0) (k := 0) (ci := 11) (v := .int ((σ 0 0) + x2)) (σ' := up2 σ 0 0 ((σ 0 0) + x2)) hx hb hts inX11_put_X11 tyX11 tyX11_ok nmX11 hown hI rfl rfl (by decide) mX11_put_fieldLink_118_StillTextModel_units_I rfl rfl rfl rfl (Nat.le_of_ble_eq_true rfl) (wsM_0_0 _ _ _ _) dX11_put_182 (fun H locs hI => ?_)
      refine lv_iconst (v := nI 0) hx hb dX11_put_185 (by decide) ?_
      refine lv_istore_n (lv' := [(3, .int (nI 0)), (0, .ref (ad 0)), (1, .int x1), (2, .int x2)]) hx hb dX11_put_186 rfl hl (by decide) rfl (fun ls hl => ?_)
      obtain ⟨k19, h⟩ := h
      exact t_X11_put_187 C  k19 _ _ _ _ _ h hI (lv_sub hl [1, 2, 3, 0] rfl)
    · replace h := h.2 c10
      refine lv_aload_n hx hb dX11_put_99 rfl (lv_at hl 0 rfl) ?_
      refine k_get (q0 := 0) (k := 1) (ci := 11) (v := .ref (ad 1)) hx hb hts inX11_put_X11 hown hI rfl rfl (by decide) mX11_put_fieldLink_7_StillTextModel_size_I rfl rfl dX11_put_100 ?_
      refine lv_iload_n hx hb dX11_put_103 rfl (lv_at hl 3 rfl) ?_
      refine lv_iload_n hx hb dX11_put_104 rfl (lv_at hl 2 rfl) ?_
      refine lv_iadd hx hb dX11_put_105 ?_
      refine lv_aload_n hx hb dX11_put_106 rfl (lv_at hl 0 rfl) ?_
      refine k_get (q0 := 0) (k := 1) (ci := 11) (v := .ref (ad 1)) hx hb hts inX11_put_X11 hown hI rfl rfl (by decide) mX11_put_fieldLink_7_StillTextModel_size_I rfl rfl dX11_put_107 ?_
      refine lv_iload_n hx hb dX11_put_110 rfl (lv_at hl 3 rfl) ?_
      refine k_iald (q0 := 1) (t0 := 0) (n := 80) (f := σ 1) hx hb hI rfl rfl h.1 dX11_put_111 ?_
      replace h := h.2
      refine k_iast (q0 := 1) (t0 := 0) (n := 80) (σ' := up2 σ 1 (x3 + x2).toNatClampNeg (σ 1 x3.toNatClampNeg)) hx hb hI rfl rfl h.1 (wsM_1 _ _ _ _ _) dX11_put_112 (fun H locs hI => ?_)
      replace h := h.2
      refine lv_aload_n hx hb dX11_put_113 rfl (lv_at hl 0 rfl) ?_
      refine k_get (q0 := 0) (k := 3) (ci := 11) (v := .ref (ad 3)) hx hb hts inX11_put_X11 hown hI rfl rfl (by decide) mX11_put_fieldLink_16_StillTextModel_behind_I rfl rfl dX11_put_114 ?_
      refine lv_iload_n hx hb dX11_put_117 rfl (lv_at hl 3 rfl) ?_
      refine lv_iload_n hx hb dX11_put_118 rfl (lv_at hl 2 rfl) ?_
      refine lv_iadd hx hb dX11_put_119 ?_
      refine lv_aload_n hx hb dX11_put_120 rfl (lv_at hl 0 rfl) ?_
      refine k_get (q0 := 0) (k := 3) (ci := 11) (v := .ref (ad 3)) hx hb hts inX11_put_X11 hown hI rfl rfl (by decide) mX11_put_fieldLink_16_StillTextModel_behind_I rfl rfl dX11_put_121 ?_
      refine lv_iload_n hx hb dX11_put_124 rfl (lv_at hl 3 rfl) ?_
      refine k_iald (q0 := 3) (t0 := 0) (n := 80) (f := σ 3) hx hb hI rfl rfl h.1 dX11_put_125 ?_
      replace h := h.2
      refine k_iast (q0 := 3) (t0 := 0) (n := 80) (σ' := up2 (up2 σ 1 (x3 + x2).toNatClampNeg (σ 1 x3.toNatClampNeg)) 3 (x3 + x2).toNatClampNeg (σ 3 x3.toNatClampNeg)) hx hb hI rfl rfl h.1 (wsM_3 _ _ _ _ _) dX11_put_126 (fun H locs hI => ?_)
      replace h := h.2
      refine lv_iconst (v := nI 0) hx hb dX11_put_127 (by decide) ?_
      refine lv_istore (lv' := [(4, .int (nI 0)), (0, .ref (ad 0)), (1, .int x1), (2, .int x2), (3, .int x3)]) hx hb dX11_put_128 hl (by decide) rfl (fun ls hl => ?_)
      obtain ⟨k21, h⟩ := h
      exact t_X11_put_130 C ih k21 _ _ _ _ _ h hI (lv_sub hl [1, 2, 3, 4, 0] rfl)
set_option maxHeartbeats 4000000 in
set_option maxRecDepth 100000 in
theorem c_X11_put (σ : St) (x1 : Int32) (Q : Int32 → St → Prop) (h : wp_X11_put σ x1 Q) : Ci l D (tyM cyI) [] [] (wM cyI ad) yX11_put wsX11_put r_X11_put [.ref (ad 0), .int x1] σ Q := by
  refine k_metI (cc := cX11_put) (maxL := 5) (ret := (some .int)) (by decide) rfl (Nat.le_of_ble_eq_true rfl) ?_
  intro p e s m below meth c A ls C hI hl
  obtain ⟨hx, hb, hr, hml, hown, hts, hlocks⟩ := id C
  have hl : lv_has ls 5 [(0, .ref (ad 0)), (1, .int x1)] := hl
  unfold wp_X11_put at h
  refine lv_iload_n hx hb dX11_put_0 rfl (lv_at hl 1 rfl) ?_
  refine lv_if_lt (tgt := 40) hx hb dX11_put_1 (by decide) (fun c1 => ?_) (fun c1 => ?_)
  · replace h := h.1 c1
    refine lv_aload_n hx hb dX11_put_40 rfl (lv_at hl 0 rfl) ?_
    refine lv_iconst (v := nI 0) hx hb dX11_put_41 (by decide) ?_
    refine k_put (q0 := 0) (k := 6) (ci := 11) (v := .int (nI 0)) (σ' := up2 σ 0 6 (nI 0)) hx hb hts inX11_put_X11 tyX11 tyX11_ok nmX11 hown hI rfl rfl (by decide) mX11_put_fieldLink_95_StillTextModel_taped_I rfl rfl rfl rfl (Nat.le_of_ble_eq_true rfl) (wsM_0_6 _ _ _ _) dX11_put_42 (fun H locs hI => ?_)
    refine lv_iconst (v := (-1)) hx hb dX11_put_45 (by decide) ?_
    exact k_iret hx hb hr hlocks hI h dX11_put_46
  · replace h := h.2 c1
    refine lv_iload_n hx hb dX11_put_4 rfl (lv_at hl 1 rfl) ?_
    refine lv_aload_n hx hb dX11_put_5 rfl (lv_at hl 0 rfl) ?_
    refine k_get (q0 := 0) (k := 0) (ci := 11) (v := .int (σ 0 0)) hx hb hts inX11_put_X11 hown hI rfl rfl (by decide) mX11_put_fieldLink_118_StillTextModel_units_I rfl rfl dX11_put_6 ?_
    refine lv_icmp_ge (tgt := 40) hx hb dX11_put_9 (by decide) (fun c2 => ?_) (fun c2 => ?_)
    · replace h := h.1 c2
      refine lv_aload_n hx hb dX11_put_40 rfl (lv_at hl 0 rfl) ?_
      refine lv_iconst (v := nI 0) hx hb dX11_put_41 (by decide) ?_
      refine k_put (q0 := 0) (k := 6) (ci := 11) (v := .int (nI 0)) (σ' := up2 σ 0 6 (nI 0)) hx hb hts inX11_put_X11 tyX11 tyX11_ok nmX11 hown hI rfl rfl (by decide) mX11_put_fieldLink_95_StillTextModel_taped_I rfl rfl rfl rfl (Nat.le_of_ble_eq_true rfl) (wsM_0_6 _ _ _ _) dX11_put_42 (fun H locs hI => ?_)
      refine lv_iconst (v := (-1)) hx hb dX11_put_45 (by decide) ?_
      exact k_iret hx hb hr hlocks hI h dX11_put_46
    · replace h := h.2 c2
      refine lv_aload_n hx hb dX11_put_12 rfl (lv_at hl 0 rfl) ?_
      refine k_get (q0 := 0) (k := 3) (ci := 11) (v := .ref (ad 3)) hx hb hts inX11_put_X11 hown hI rfl rfl (by decide) mX11_put_fieldLink_16_StillTextModel_behind_I rfl rfl dX11_put_13 ?_
      refine lv_iload_n hx hb dX11_put_16 rfl (lv_at hl 1 rfl) ?_
      refine k_iald (q0 := 3) (t0 := 0) (n := 80) (f := σ 3) hx hb hI rfl rfl h.1 dX11_put_17 ?_
      replace h := h.2
      refine lv_bipush (v := nI 45) hx hb dX11_put_18 (by decide) ?_
      refine lv_icmp_eq (tgt := 40) hx hb dX11_put_20 (by decide) (fun c3 => ?_) (fun c3 => ?_)
      · replace h := h.1 c3
        refine lv_aload_n hx hb dX11_put_40 rfl (lv_at hl 0 rfl) ?_
        refine lv_iconst (v := nI 0) hx hb dX11_put_41 (by decide) ?_
        refine k_put (q0 := 0) (k := 6) (ci := 11) (v := .int (nI 0)) (σ' := up2 σ 0 6 (nI 0)) hx hb hts inX11_put_X11 tyX11 tyX11_ok nmX11 hown hI rfl rfl (by decide) mX11_put_fieldLink_95_StillTextModel_taped_I rfl rfl rfl rfl (Nat.le_of_ble_eq_true rfl) (wsM_0_6 _ _ _ _) dX11_put_42 (fun H locs hI => ?_)
        refine lv_iconst (v := (-1)) hx hb dX11_put_45 (by decide) ?_
        exact k_iret hx hb hr hlocks hI h dX11_put_46
      · replace h := h.2 c3
        refine lv_iload_n hx hb dX11_put_23 rfl (lv_at hl 1 rfl) ?_
        refine lv_if_le (tgt := 47) hx hb dX11_put_24 (by decide) (fun c4 => ?_) (fun c4 => ?_)
        · replace h := h.1 c4
          refine lv_aload_n hx hb dX11_put_47 rfl (lv_at hl 0 rfl) ?_
          refine k_cVi (As := []) (rest := []) C (c_X11_isText σ  _ h) (cwV 0 hts gX11_put_X11_isText rfl rfl rfl hdX11_isText ⟨Nat.le_of_ble_eq_true rfl, Nat.le_of_ble_eq_true rfl⟩) hI 0 rfl rfl rfl hl.1 rfl (Nat.le_of_ble_eq_true rfl) dX11_put_48 ⟨Nat.le_of_ble_eq_true rfl, Nat.le_of_ble_eq_true rfl⟩ (fun r5 σ6 H locs h hI => ?_)
          refine lv_if_eq (tgt := 77) hx hb dX11_put_51 (by decide) (fun c7 => ?_) (fun c7 => ?_)
          · replace h := h.1 c7
            refine lv_bipush (v := (-2)) hx hb dX11_put_77 (by decide) ?_
            exact k_iret hx hb hr hlocks hI h dX11_put_79
          · replace h := h.2 c7
            refine lv_aload_n hx hb dX11_put_54 rfl (lv_at hl 0 rfl) ?_
            refine k_get (q0 := 0) (k := 9) (ci := 11) (v := .int (σ6 0 9)) hx hb hts inX11_put_X11 hown hI rfl rfl (by decide) mX11_put_fieldLink_101_StillTextModel_reads_I rfl rfl dX11_put_55 ?_
            refine lv_if_eq (tgt := 77) hx hb dX11_put_58 (by decide) (fun c8 => ?_) (fun c8 => ?_)
            · replace h := h.1 c8
              refine lv_bipush (v := (-2)) hx hb dX11_put_77 (by decide) ?_
              exact k_iret hx hb hr hlocks hI h dX11_put_79
            · replace h := h.2 c8
              refine lv_aload_n hx hb dX11_put_61 rfl (lv_at hl 0 rfl) ?_
              refine k_get (q0 := 0) (k := 0) (ci := 11) (v := .int (σ6 0 0)) hx hb hts inX11_put_X11 hown hI rfl rfl (by decide) mX11_put_fieldLink_118_StillTextModel_units_I rfl rfl dX11_put_62 ?_
              refine lv_iconst (v := nI 1) hx hb dX11_put_65 (by decide) ?_
              refine lv_isub hx hb dX11_put_66 ?_
              refine lv_aload_n hx hb dX11_put_67 rfl (lv_at hl 0 rfl) ?_
              refine k_get (q0 := 0) (k := 9) (ci := 11) (v := .int (σ6 0 9)) hx hb hts inX11_put_X11 hown hI rfl rfl (by decide) mX11_put_fieldLink_101_StillTextModel_reads_I rfl rfl dX11_put_68 ?_
              refine lv_iadd hx hb dX11_put_71 ?_
              refine lv_bipush (v := nI 80) hx hb dX11_put_72 (by decide) ?_
              refine lv_icmp_le (tgt := 80) hx hb dX11_put_74 (by decide) (fun c9 => ?_) (fun c9 => ?_)
              · replace h := h.1 c9
                refine lv_aload_n hx hb dX11_put_80 rfl (lv_at hl 0 rfl) ?_
                refine k_get (q0 := 0) (k := 9) (ci := 11) (v := .int (σ6 0 9)) hx hb hts inX11_put_X11 hown hI rfl rfl (by decide) mX11_put_fieldLink_101_StillTextModel_reads_I rfl rfl dX11_put_81 ?_
                refine lv_iconst (v := nI 1) hx hb dX11_put_84 (by decide) ?_
                refine lv_isub hx hb dX11_put_85 ?_
                refine lv_istore_n (lv' := [(2, .int ((σ6 0 9) - (nI 1))), (0, .ref (ad 0)), (1, .int x1)]) hx hb dX11_put_86 rfl hl (by decide) rfl (fun ls hl => ?_)
                refine lv_aload_n hx hb dX11_put_87 rfl (lv_at hl 1 rfl) ?_
                refine k_get (q0 := 0) (k := 0) (ci := 11) (v := .int (σ6 0 0)) hx hb hts inX11_put_X11 hown hI rfl rfl (by decide) mX11_put_fieldLink_118_StillTextModel_units_I rfl rfl dX11_put_88 ?_
                refine lv_iconst (v := nI 1) hx hb dX11_put_91 (by decide) ?_
                refine lv_isub hx hb dX11_put_92 ?_
                refine lv_istore_n (lv' := [(3, .int ((σ6 0 0) - (nI 1))), (2, .int ((σ6 0 9) - (nI 1))), (0, .ref (ad 0)), (1, .int x1)]) hx hb dX11_put_93 rfl hl (by decide) rfl (fun ls hl => ?_)
                obtain ⟨k22, h⟩ := h
                exact t_X11_put_94 C  k22 _ _ _ _ _ h hI (lv_sub hl [2, 3, 1, 0] rfl)
              · replace h := h.2 c9
                refine lv_bipush (v := (-2)) hx hb dX11_put_77 (by decide) ?_
                exact k_iret hx hb hr hlocks hI h dX11_put_79
        · replace h := h.2 c4
          refine lv_aload_n hx hb dX11_put_27 rfl (lv_at hl 0 rfl) ?_
          refine k_get (q0 := 0) (k := 3) (ci := 11) (v := .ref (ad 3)) hx hb hts inX11_put_X11 hown hI rfl rfl (by decide) mX11_put_fieldLink_16_StillTextModel_behind_I rfl rfl dX11_put_28 ?_
          refine lv_iload_n hx hb dX11_put_31 rfl (lv_at hl 1 rfl) ?_
          refine lv_iconst (v := nI 1) hx hb dX11_put_32 (by decide) ?_
          refine lv_isub hx hb dX11_put_33 ?_
          refine k_iald (q0 := 3) (t0 := 0) (n := 80) (f := σ 3) hx hb hI rfl rfl h.1 dX11_put_34 ?_
          replace h := h.2
          refine lv_bipush (v := nI 45) hx hb dX11_put_35 (by decide) ?_
          refine lv_icmp_ne (tgt := 47) hx hb dX11_put_37 (by decide) (fun c23 => ?_) (fun c23 => ?_)
          · replace h := h.1 c23
            refine lv_aload_n hx hb dX11_put_47 rfl (lv_at hl 0 rfl) ?_
            refine k_cVi (As := []) (rest := []) C (c_X11_isText σ  _ h) (cwV 0 hts gX11_put_X11_isText rfl rfl rfl hdX11_isText ⟨Nat.le_of_ble_eq_true rfl, Nat.le_of_ble_eq_true rfl⟩) hI 0 rfl rfl rfl hl.1 rfl (Nat.le_of_ble_eq_true rfl) dX11_put_48 ⟨Nat.le_of_ble_eq_true rfl, Nat.le_of_ble_eq_true rfl⟩ (fun r24 σ25 H locs h hI => ?_)
            refine lv_if_eq (tgt := 77) hx hb dX11_put_51 (by decide) (fun c26 => ?_) (fun c26 => ?_)
            · replace h := h.1 c26
              refine lv_bipush (v := (-2)) hx hb dX11_put_77 (by decide) ?_
              exact k_iret hx hb hr hlocks hI h dX11_put_79
            · replace h := h.2 c26
              refine lv_aload_n hx hb dX11_put_54 rfl (lv_at hl 0 rfl) ?_
              refine k_get (q0 := 0) (k := 9) (ci := 11) (v := .int (σ25 0 9)) hx hb hts inX11_put_X11 hown hI rfl rfl (by decide) mX11_put_fieldLink_101_StillTextModel_reads_I rfl rfl dX11_put_55 ?_
              refine lv_if_eq (tgt := 77) hx hb dX11_put_58 (by decide) (fun c27 => ?_) (fun c27 => ?_)
              · replace h := h.1 c27
                refine lv_bipush (v := (-2)) hx hb dX11_put_77 (by decide) ?_
                exact k_iret hx hb hr hlocks hI h dX11_put_79
              · replace h := h.2 c27
                refine lv_aload_n hx hb dX11_put_61 rfl (lv_at hl 0 rfl) ?_
                refine k_get (q0 := 0) (k := 0) (ci := 11) (v := .int (σ25 0 0)) hx hb hts inX11_put_X11 hown hI rfl rfl (by decide) mX11_put_fieldLink_118_StillTextModel_units_I rfl rfl dX11_put_62 ?_
                refine lv_iconst (v := nI 1) hx hb dX11_put_65 (by decide) ?_
                refine lv_isub hx hb dX11_put_66 ?_
                refine lv_aload_n hx hb dX11_put_67 rfl (lv_at hl 0 rfl) ?_
                refine k_get (q0 := 0) (k := 9) (ci := 11) (v := .int (σ25 0 9)) hx hb hts inX11_put_X11 hown hI rfl rfl (by decide) mX11_put_fieldLink_101_StillTextModel_reads_I rfl rfl dX11_put_68 ?_
                refine lv_iadd hx hb dX11_put_71 ?_
                refine lv_bipush (v := nI 80) hx hb dX11_put_72 (by decide) ?_
                refine lv_icmp_le (tgt := 80) hx hb dX11_put_74 (by decide) (fun c28 => ?_) (fun c28 => ?_)
                · replace h := h.1 c28
                  refine lv_aload_n hx hb dX11_put_80 rfl (lv_at hl 0 rfl) ?_
                  refine k_get (q0 := 0) (k := 9) (ci := 11) (v := .int (σ25 0 9)) hx hb hts inX11_put_X11 hown hI rfl rfl (by decide) mX11_put_fieldLink_101_StillTextModel_reads_I rfl rfl dX11_put_81 ?_
                  refine lv_iconst (v := nI 1) hx hb dX11_put_84 (by decide) ?_
                  refine lv_isub hx hb dX11_put_85 ?_
                  refine lv_istore_n (lv' := [(2, .int ((σ25 0 9) - (nI 1))), (0, .ref (ad 0)), (1, .int x1)]) hx hb dX11_put_86 rfl hl (by decide) rfl (fun ls hl => ?_)
                  refine lv_aload_n hx hb dX11_put_87 rfl (lv_at hl 1 rfl) ?_
                  refine k_get (q0 := 0) (k := 0) (ci := 11) (v := .int (σ25 0 0)) hx hb hts inX11_put_X11 hown hI rfl rfl (by decide) mX11_put_fieldLink_118_StillTextModel_units_I rfl rfl dX11_put_88 ?_
                  refine lv_iconst (v := nI 1) hx hb dX11_put_91 (by decide) ?_
                  refine lv_isub hx hb dX11_put_92 ?_
                  refine lv_istore_n (lv' := [(3, .int ((σ25 0 0) - (nI 1))), (2, .int ((σ25 0 9) - (nI 1))), (0, .ref (ad 0)), (1, .int x1)]) hx hb dX11_put_93 rfl hl (by decide) rfl (fun ls hl => ?_)
                  obtain ⟨k29, h⟩ := h
                  exact t_X11_put_94 C  k29 _ _ _ _ _ h hI (lv_sub hl [2, 3, 1, 0] rfl)
                · replace h := h.2 c28
                  refine lv_bipush (v := (-2)) hx hb dX11_put_77 (by decide) ?_
                  exact k_iret hx hb hr hlocks hI h dX11_put_79
          · replace h := h.2 c23
            refine lv_aload_n hx hb dX11_put_40 rfl (lv_at hl 0 rfl) ?_
            refine lv_iconst (v := nI 0) hx hb dX11_put_41 (by decide) ?_
            refine k_put (q0 := 0) (k := 6) (ci := 11) (v := .int (nI 0)) (σ' := up2 σ 0 6 (nI 0)) hx hb hts inX11_put_X11 tyX11 tyX11_ok nmX11 hown hI rfl rfl (by decide) mX11_put_fieldLink_95_StillTextModel_taped_I rfl rfl rfl rfl (Nat.le_of_ble_eq_true rfl) (wsM_0_6 _ _ _ _) dX11_put_42 (fun H locs hI => ?_)
            refine lv_iconst (v := (-1)) hx hb dX11_put_45 (by decide) ?_
            exact k_iret hx hb hr hlocks hI h dX11_put_46
theorem inX11_unit_X11 : ∀ w ∈ wsX110, w ∈ wsX11_unit := fun _ h => List.mem_cons_of_mem _ (List.mem_append_right _ (h))
theorem mX11_unit_fieldLink_118_StillTextModel_units_I : Cond.fieldLink RX11 118 "StillTextModel" "units" "I" ∈ wsX11_unit := List.mem_cons_of_mem _ (List.mem_append_left _ (List.mem_of_getElem? (i := 0) rfl))
theorem mX11_unit_fieldLink_19_StillTextModel_wordOf_I : Cond.fieldLink RX11 19 "StillTextModel" "wordOf" "[I" ∈ wsX11_unit := List.mem_cons_of_mem _ (List.mem_append_left _ (List.mem_of_getElem? (i := 3) rfl))
theorem mX11_unit_fieldLink_16_StillTextModel_behind_I : Cond.fieldLink RX11 16 "StillTextModel" "behind" "[I" ∈ wsX11_unit := List.mem_cons_of_mem _ (List.mem_append_left _ (List.mem_of_getElem? (i := 2) rfl))
theorem mX11_unit_fieldLink_7_StillTextModel_size_I : Cond.fieldLink RX11 7 "StillTextModel" "size" "[I" ∈ wsX11_unit := List.mem_cons_of_mem _ (List.mem_append_left _ (List.mem_of_getElem? (i := 1) rfl))
set_option maxHeartbeats 4000000 in
set_option maxRecDepth 100000 in
theorem c_X11_unit (σ : St) (x1 x2 : Int32) (Q : Int32 → St → Prop) (h : wp_X11_unit σ x1 x2 Q) : Ci l D (tyM cyI) [] [] (wM cyI ad) yX11_unit wsX11_unit r_X11_unit [.ref (ad 0), .int x1, .int x2] σ Q := by
  refine k_metI (cc := cX11_unit) (maxL := 3) (ret := (some .int)) (by decide) rfl (Nat.le_of_ble_eq_true rfl) ?_
  intro p e s m below meth c A ls C hI hl
  obtain ⟨hx, hb, hr, hml, hown, hts, hlocks⟩ := id C
  have hl : lv_has ls 3 [(0, .ref (ad 0)), (1, .int x1), (2, .int x2)] := hl
  unfold wp_X11_unit at h
  refine lv_iload_n hx hb dX11_unit_0 rfl (lv_at hl 1 rfl) ?_
  refine lv_if_lt (tgt := 12) hx hb dX11_unit_1 (by decide) (fun c1 => ?_) (fun c1 => ?_)
  · replace h := h.1 c1
    refine lv_iconst (v := (-1)) hx hb dX11_unit_12 (by decide) ?_
    exact k_iret hx hb hr hlocks hI h dX11_unit_13
  · replace h := h.2 c1
    refine lv_iload_n hx hb dX11_unit_4 rfl (lv_at hl 1 rfl) ?_
    refine lv_aload_n hx hb dX11_unit_5 rfl (lv_at hl 0 rfl) ?_
    refine k_get (q0 := 0) (k := 0) (ci := 11) (v := .int (σ 0 0)) hx hb hts inX11_unit_X11 hown hI rfl rfl (by decide) mX11_unit_fieldLink_118_StillTextModel_units_I rfl rfl dX11_unit_6 ?_
    refine lv_icmp_lt (tgt := 14) hx hb dX11_unit_9 (by decide) (fun c2 => ?_) (fun c2 => ?_)
    · replace h := h.1 c2
      refine lv_iload_n hx hb dX11_unit_14 rfl (lv_at hl 2 rfl) ?_
      refine lv_if_ne (tgt := 27) hx hb dX11_unit_15 (by decide) (fun c3 => ?_) (fun c3 => ?_)
      · replace h := h.1 c3
        refine lv_iload_n hx hb dX11_unit_27 rfl (lv_at hl 2 rfl) ?_
        refine lv_iconst (v := nI 1) hx hb dX11_unit_28 (by decide) ?_
        refine lv_icmp_ne (tgt := 41) hx hb dX11_unit_29 (by decide) (fun c4 => ?_) (fun c4 => ?_)
        · replace h := h.1 c4
          refine lv_iload_n hx hb dX11_unit_41 rfl (lv_at hl 2 rfl) ?_
          refine lv_iconst (v := nI 2) hx hb dX11_unit_42 (by decide) ?_
          refine lv_icmp_ne (tgt := 55) hx hb dX11_unit_43 (by decide) (fun c5 => ?_) (fun c5 => ?_)
          · replace h := h.1 c5
            refine lv_iconst (v := (-1)) hx hb dX11_unit_55 (by decide) ?_
            exact k_iret hx hb hr hlocks hI h dX11_unit_56
          · replace h := h.2 c5
            refine lv_aload_n hx hb dX11_unit_46 rfl (lv_at hl 0 rfl) ?_
            refine k_get (q0 := 0) (k := 4) (ci := 11) (v := .ref (ad 4)) hx hb hts inX11_unit_X11 hown hI rfl rfl (by decide) mX11_unit_fieldLink_19_StillTextModel_wordOf_I rfl rfl dX11_unit_47 ?_
            refine lv_iload_n hx hb dX11_unit_50 rfl (lv_at hl 1 rfl) ?_
            refine k_iald (q0 := 4) (t0 := 0) (n := 80) (f := σ 4) hx hb hI rfl rfl h.1 dX11_unit_51 ?_
            replace h := h.2
            refine lv_goto (tgt := 56) hx hb dX11_unit_52 (by decide) ?_
            exact k_iret hx hb hr hlocks hI h dX11_unit_56
        · replace h := h.2 c4
          refine lv_aload_n hx hb dX11_unit_32 rfl (lv_at hl 0 rfl) ?_
          refine k_get (q0 := 0) (k := 3) (ci := 11) (v := .ref (ad 3)) hx hb hts inX11_unit_X11 hown hI rfl rfl (by decide) mX11_unit_fieldLink_16_StillTextModel_behind_I rfl rfl dX11_unit_33 ?_
          refine lv_iload_n hx hb dX11_unit_36 rfl (lv_at hl 1 rfl) ?_
          refine k_iald (q0 := 3) (t0 := 0) (n := 80) (f := σ 3) hx hb hI rfl rfl h.1 dX11_unit_37 ?_
          replace h := h.2
          refine lv_goto (tgt := 56) hx hb dX11_unit_38 (by decide) ?_
          exact k_iret hx hb hr hlocks hI h dX11_unit_56
      · replace h := h.2 c3
        refine lv_aload_n hx hb dX11_unit_18 rfl (lv_at hl 0 rfl) ?_
        refine k_get (q0 := 0) (k := 1) (ci := 11) (v := .ref (ad 1)) hx hb hts inX11_unit_X11 hown hI rfl rfl (by decide) mX11_unit_fieldLink_7_StillTextModel_size_I rfl rfl dX11_unit_19 ?_
        refine lv_iload_n hx hb dX11_unit_22 rfl (lv_at hl 1 rfl) ?_
        refine k_iald (q0 := 1) (t0 := 0) (n := 80) (f := σ 1) hx hb hI rfl rfl h.1 dX11_unit_23 ?_
        replace h := h.2
        refine lv_goto (tgt := 56) hx hb dX11_unit_24 (by decide) ?_
        exact k_iret hx hb hr hlocks hI h dX11_unit_56
    · replace h := h.2 c2
      refine lv_iconst (v := (-1)) hx hb dX11_unit_12 (by decide) ?_
      exact k_iret hx hb hr hlocks hI h dX11_unit_13
set_option maxHeartbeats 4000000 in
set_option maxRecDepth 100000 in
theorem c_X11_isIn (σ : St) (x0 x1 x2 : Int32) (Q : Int32 → St → Prop) (h : wp_X11_isIn σ x0 x1 x2 Q) : Ci l D (tyM cyI) [] [] (wM cyI ad) yX11_isIn wsX11_isIn r_X11_isIn [.int x0, .int x1, .int x2] σ Q := by
  refine k_metI (cc := cX11_isIn) (maxL := 3) (ret := (some .boolean)) (by decide) rfl (Nat.le_of_ble_eq_true rfl) ?_
  intro p e s m below meth c A ls C hI hl
  obtain ⟨hx, hb, hr, hml, hown, hts, hlocks⟩ := id C
  have hl : lv_has ls 3 [(0, .int x0), (1, .int x1), (2, .int x2)] := hl
  unfold wp_X11_isIn at h
  refine lv_iload_n hx hb dX11_isIn_0 rfl (lv_at hl 0 rfl) ?_
  refine lv_iload_n hx hb dX11_isIn_1 rfl (lv_at hl 1 rfl) ?_
  refine lv_icmp_lt (tgt := 14) hx hb dX11_isIn_2 (by decide) (fun c1 => ?_) (fun c1 => ?_)
  · replace h := h.1 c1
    refine lv_iconst (v := nI 0) hx hb dX11_isIn_14 (by decide) ?_
    exact k_zret hx hb hr hlocks hI (Or.inl rfl) h dX11_isIn_15
  · replace h := h.2 c1
    refine lv_iload_n hx hb dX11_isIn_5 rfl (lv_at hl 0 rfl) ?_
    refine lv_iload_n hx hb dX11_isIn_6 rfl (lv_at hl 2 rfl) ?_
    refine lv_icmp_gt (tgt := 14) hx hb dX11_isIn_7 (by decide) (fun c2 => ?_) (fun c2 => ?_)
    · replace h := h.1 c2
      refine lv_iconst (v := nI 0) hx hb dX11_isIn_14 (by decide) ?_
      exact k_zret hx hb hr hlocks hI (Or.inl rfl) h dX11_isIn_15
    · replace h := h.2 c2
      refine lv_iconst (v := nI 1) hx hb dX11_isIn_10 (by decide) ?_
      refine lv_goto (tgt := 15) hx hb dX11_isIn_11 (by decide) ?_
      exact k_zret hx hb hr hlocks hI (Or.inr rfl) h dX11_isIn_15
end
