/-! the law's cases (written by wip/gen/law.py) -/
theorem hdV_X10_answer : yX10_answer.cls = RX10 ∧ yX10_answer.cls ≠ "java/lang/invoke/MethodHandle" ∧ yX10_answer.cls ≠ "java/lang/invoke/VarHandle" ∧ (parseMethodDescriptor yX10_answer.desc).map (fun d => d.parameters.length) = some 1 := by decide +kernel
theorem hdV_X10_end : yX10_end.cls = RX10 ∧ yX10_end.cls ≠ "java/lang/invoke/MethodHandle" ∧ yX10_end.cls ≠ "java/lang/invoke/VarHandle" ∧ (parseMethodDescriptor yX10_end.desc).map (fun d => d.parameters.length) = some 1 := by decide +kernel
theorem hdV_X10_fault : yX10_fault.cls = RX10 ∧ yX10_fault.cls ≠ "java/lang/invoke/MethodHandle" ∧ yX10_fault.cls ≠ "java/lang/invoke/VarHandle" ∧ (parseMethodDescriptor yX10_fault.desc).map (fun d => d.parameters.length) = some 1 := by decide +kernel
theorem hdV_X10_feed : yX10_feed.cls = RX10 ∧ yX10_feed.cls ≠ "java/lang/invoke/MethodHandle" ∧ yX10_feed.cls ≠ "java/lang/invoke/VarHandle" ∧ (parseMethodDescriptor yX10_feed.desc).map (fun d => d.parameters.length) = some 5 := by decide +kernel
theorem hdV_X10_like : yX10_like.cls = RX10 ∧ yX10_like.cls ≠ "java/lang/invoke/MethodHandle" ∧ yX10_like.cls ≠ "java/lang/invoke/VarHandle" ∧ (parseMethodDescriptor yX10_like.desc).map (fun d => d.parameters.length) = some 3 := by decide +kernel
theorem hdV_X10_line : yX10_line.cls = RX10 ∧ yX10_line.cls ≠ "java/lang/invoke/MethodHandle" ∧ yX10_line.cls ≠ "java/lang/invoke/VarHandle" ∧ (parseMethodDescriptor yX10_line.desc).map (fun d => d.parameters.length) = some 2 := by decide +kernel
theorem hdV_X10_lines : yX10_lines.cls = RX10 ∧ yX10_lines.cls ≠ "java/lang/invoke/MethodHandle" ∧ yX10_lines.cls ≠ "java/lang/invoke/VarHandle" ∧ (parseMethodDescriptor yX10_lines.desc).map (fun d => d.parameters.length) = some 0 := by decide +kernel
theorem hdV_X10_mark : yX10_mark.cls = RX10 ∧ yX10_mark.cls ≠ "java/lang/invoke/MethodHandle" ∧ yX10_mark.cls ≠ "java/lang/invoke/VarHandle" ∧ (parseMethodDescriptor yX10_mark.desc).map (fun d => d.parameters.length) = some 1 := by decide +kernel
theorem hdV_X10_marked : yX10_marked.cls = RX10 ∧ yX10_marked.cls ≠ "java/lang/invoke/MethodHandle" ∧ yX10_marked.cls ≠ "java/lang/invoke/VarHandle" ∧ (parseMethodDescriptor yX10_marked.desc).map (fun d => d.parameters.length) = some 2 := by decide +kernel
theorem hdV_X10_measure : yX10_measure.cls = RX10 ∧ yX10_measure.cls ≠ "java/lang/invoke/MethodHandle" ∧ yX10_measure.cls ≠ "java/lang/invoke/VarHandle" ∧ (parseMethodDescriptor yX10_measure.desc).map (fun d => d.parameters.length) = some 2 := by decide +kernel
theorem hdV_X10_page : yX10_page.cls = RX10 ∧ yX10_page.cls ≠ "java/lang/invoke/MethodHandle" ∧ yX10_page.cls ≠ "java/lang/invoke/VarHandle" ∧ (parseMethodDescriptor yX10_page.desc).map (fun d => d.parameters.length) = some 2 := by decide +kernel
theorem hdV_X10_put : yX10_put.cls = RX10 ∧ yX10_put.cls ≠ "java/lang/invoke/MethodHandle" ∧ yX10_put.cls ≠ "java/lang/invoke/VarHandle" ∧ (parseMethodDescriptor yX10_put.desc).map (fun d => d.parameters.length) = some 1 := by decide +kernel
theorem hdV_X10_rivers : yX10_rivers.cls = RX10 ∧ yX10_rivers.cls ≠ "java/lang/invoke/MethodHandle" ∧ yX10_rivers.cls ≠ "java/lang/invoke/VarHandle" ∧ (parseMethodDescriptor yX10_rivers.desc).map (fun d => d.parameters.length) = some 1 := by decide +kernel
theorem hdV_X10_set : yX10_set.cls = RX10 ∧ yX10_set.cls ≠ "java/lang/invoke/MethodHandle" ∧ yX10_set.cls ≠ "java/lang/invoke/VarHandle" ∧ (parseMethodDescriptor yX10_set.desc).map (fun d => d.parameters.length) = some 0 := by decide +kernel
theorem hdV_X10_sign : yX10_sign.cls = RX10 ∧ yX10_sign.cls ≠ "java/lang/invoke/MethodHandle" ∧ yX10_sign.cls ≠ "java/lang/invoke/VarHandle" ∧ (parseMethodDescriptor yX10_sign.desc).map (fun d => d.parameters.length) = some 2 := by decide +kernel
theorem hdV_X10_strains : yX10_strains.cls = RX10 ∧ yX10_strains.cls ≠ "java/lang/invoke/MethodHandle" ∧ yX10_strains.cls ≠ "java/lang/invoke/VarHandle" ∧ (parseMethodDescriptor yX10_strains.desc).map (fun d => d.parameters.length) = some 5 := by decide +kernel
theorem hdV_X10_test : yX10_test.cls = RX10 ∧ yX10_test.cls ≠ "java/lang/invoke/MethodHandle" ∧ yX10_test.cls ≠ "java/lang/invoke/VarHandle" ∧ (parseMethodDescriptor yX10_test.desc).map (fun d => d.parameters.length) = some 3 := by decide +kernel
theorem hdV_X10_tested : yX10_tested.cls = RX10 ∧ yX10_tested.cls ≠ "java/lang/invoke/MethodHandle" ∧ yX10_tested.cls ≠ "java/lang/invoke/VarHandle" ∧ (parseMethodDescriptor yX10_tested.desc).map (fun d => d.parameters.length) = some 1 := by decide +kernel
theorem hdV_X10_text : yX10_text.cls = RX10 ∧ yX10_text.cls ≠ "java/lang/invoke/MethodHandle" ∧ yX10_text.cls ≠ "java/lang/invoke/VarHandle" ∧ (parseMethodDescriptor yX10_text.desc).map (fun d => d.parameters.length) = some 0 := by decide +kernel
theorem hdV_X10_unit : yX10_unit.cls = RX10 ∧ yX10_unit.cls ≠ "java/lang/invoke/MethodHandle" ∧ yX10_unit.cls ≠ "java/lang/invoke/VarHandle" ∧ (parseMethodDescriptor yX10_unit.desc).map (fun d => d.parameters.length) = some 2 := by decide +kernel
theorem hdV_X10_use : yX10_use.cls = RX10 ∧ yX10_use.cls ≠ "java/lang/invoke/MethodHandle" ∧ yX10_use.cls ≠ "java/lang/invoke/VarHandle" ∧ (parseMethodDescriptor yX10_use.desc).map (fun d => d.parameters.length) = some 0 := by decide +kernel
theorem hdV_X11_answer : yX11_answer.cls = RX11 ∧ yX11_answer.cls ≠ "java/lang/invoke/MethodHandle" ∧ yX11_answer.cls ≠ "java/lang/invoke/VarHandle" ∧ (parseMethodDescriptor yX11_answer.desc).map (fun d => d.parameters.length) = some 1 := by decide +kernel
theorem hdV_X11_end : yX11_end.cls = RX11 ∧ yX11_end.cls ≠ "java/lang/invoke/MethodHandle" ∧ yX11_end.cls ≠ "java/lang/invoke/VarHandle" ∧ (parseMethodDescriptor yX11_end.desc).map (fun d => d.parameters.length) = some 1 := by decide +kernel
theorem hdV_X11_fault : yX11_fault.cls = RX11 ∧ yX11_fault.cls ≠ "java/lang/invoke/MethodHandle" ∧ yX11_fault.cls ≠ "java/lang/invoke/VarHandle" ∧ (parseMethodDescriptor yX11_fault.desc).map (fun d => d.parameters.length) = some 1 := by decide +kernel
theorem hdV_X11_feed : yX11_feed.cls = RX11 ∧ yX11_feed.cls ≠ "java/lang/invoke/MethodHandle" ∧ yX11_feed.cls ≠ "java/lang/invoke/VarHandle" ∧ (parseMethodDescriptor yX11_feed.desc).map (fun d => d.parameters.length) = some 5 := by decide +kernel
theorem hdV_X11_like : yX11_like.cls = RX11 ∧ yX11_like.cls ≠ "java/lang/invoke/MethodHandle" ∧ yX11_like.cls ≠ "java/lang/invoke/VarHandle" ∧ (parseMethodDescriptor yX11_like.desc).map (fun d => d.parameters.length) = some 3 := by decide +kernel
theorem hdV_X11_line : yX11_line.cls = RX11 ∧ yX11_line.cls ≠ "java/lang/invoke/MethodHandle" ∧ yX11_line.cls ≠ "java/lang/invoke/VarHandle" ∧ (parseMethodDescriptor yX11_line.desc).map (fun d => d.parameters.length) = some 2 := by decide +kernel
theorem hdV_X11_lines : yX11_lines.cls = RX11 ∧ yX11_lines.cls ≠ "java/lang/invoke/MethodHandle" ∧ yX11_lines.cls ≠ "java/lang/invoke/VarHandle" ∧ (parseMethodDescriptor yX11_lines.desc).map (fun d => d.parameters.length) = some 0 := by decide +kernel
theorem hdV_X11_mark : yX11_mark.cls = RX11 ∧ yX11_mark.cls ≠ "java/lang/invoke/MethodHandle" ∧ yX11_mark.cls ≠ "java/lang/invoke/VarHandle" ∧ (parseMethodDescriptor yX11_mark.desc).map (fun d => d.parameters.length) = some 1 := by decide +kernel
theorem hdV_X11_marked : yX11_marked.cls = RX11 ∧ yX11_marked.cls ≠ "java/lang/invoke/MethodHandle" ∧ yX11_marked.cls ≠ "java/lang/invoke/VarHandle" ∧ (parseMethodDescriptor yX11_marked.desc).map (fun d => d.parameters.length) = some 2 := by decide +kernel
theorem hdV_X11_measure : yX11_measure.cls = RX11 ∧ yX11_measure.cls ≠ "java/lang/invoke/MethodHandle" ∧ yX11_measure.cls ≠ "java/lang/invoke/VarHandle" ∧ (parseMethodDescriptor yX11_measure.desc).map (fun d => d.parameters.length) = some 2 := by decide +kernel
theorem hdV_X11_page : yX11_page.cls = RX11 ∧ yX11_page.cls ≠ "java/lang/invoke/MethodHandle" ∧ yX11_page.cls ≠ "java/lang/invoke/VarHandle" ∧ (parseMethodDescriptor yX11_page.desc).map (fun d => d.parameters.length) = some 2 := by decide +kernel
theorem hdV_X11_put : yX11_put.cls = RX11 ∧ yX11_put.cls ≠ "java/lang/invoke/MethodHandle" ∧ yX11_put.cls ≠ "java/lang/invoke/VarHandle" ∧ (parseMethodDescriptor yX11_put.desc).map (fun d => d.parameters.length) = some 1 := by decide +kernel
theorem hdV_X11_rivers : yX11_rivers.cls = RX11 ∧ yX11_rivers.cls ≠ "java/lang/invoke/MethodHandle" ∧ yX11_rivers.cls ≠ "java/lang/invoke/VarHandle" ∧ (parseMethodDescriptor yX11_rivers.desc).map (fun d => d.parameters.length) = some 1 := by decide +kernel
theorem hdV_X11_set : yX11_set.cls = RX11 ∧ yX11_set.cls ≠ "java/lang/invoke/MethodHandle" ∧ yX11_set.cls ≠ "java/lang/invoke/VarHandle" ∧ (parseMethodDescriptor yX11_set.desc).map (fun d => d.parameters.length) = some 0 := by decide +kernel
theorem hdV_X11_sign : yX11_sign.cls = RX11 ∧ yX11_sign.cls ≠ "java/lang/invoke/MethodHandle" ∧ yX11_sign.cls ≠ "java/lang/invoke/VarHandle" ∧ (parseMethodDescriptor yX11_sign.desc).map (fun d => d.parameters.length) = some 2 := by decide +kernel
theorem hdV_X11_strains : yX11_strains.cls = RX11 ∧ yX11_strains.cls ≠ "java/lang/invoke/MethodHandle" ∧ yX11_strains.cls ≠ "java/lang/invoke/VarHandle" ∧ (parseMethodDescriptor yX11_strains.desc).map (fun d => d.parameters.length) = some 5 := by decide +kernel
theorem hdV_X11_test : yX11_test.cls = RX11 ∧ yX11_test.cls ≠ "java/lang/invoke/MethodHandle" ∧ yX11_test.cls ≠ "java/lang/invoke/VarHandle" ∧ (parseMethodDescriptor yX11_test.desc).map (fun d => d.parameters.length) = some 3 := by decide +kernel
theorem hdV_X11_tested : yX11_tested.cls = RX11 ∧ yX11_tested.cls ≠ "java/lang/invoke/MethodHandle" ∧ yX11_tested.cls ≠ "java/lang/invoke/VarHandle" ∧ (parseMethodDescriptor yX11_tested.desc).map (fun d => d.parameters.length) = some 1 := by decide +kernel
theorem hdV_X11_text : yX11_text.cls = RX11 ∧ yX11_text.cls ≠ "java/lang/invoke/MethodHandle" ∧ yX11_text.cls ≠ "java/lang/invoke/VarHandle" ∧ (parseMethodDescriptor yX11_text.desc).map (fun d => d.parameters.length) = some 0 := by decide +kernel
theorem hdV_X11_unit : yX11_unit.cls = RX11 ∧ yX11_unit.cls ≠ "java/lang/invoke/MethodHandle" ∧ yX11_unit.cls ≠ "java/lang/invoke/VarHandle" ∧ (parseMethodDescriptor yX11_unit.desc).map (fun d => d.parameters.length) = some 2 := by decide +kernel
theorem hdV_X11_use : yX11_use.cls = RX11 ∧ yX11_use.cls ≠ "java/lang/invoke/MethodHandle" ∧ yX11_use.cls ≠ "java/lang/invoke/VarHandle" ∧ (parseMethodDescriptor yX11_use.desc).map (fun d => d.parameters.length) = some 0 := by decide +kernel
set_option maxHeartbeats 4000000 in
set_option maxRecDepth 100000 in
theorem lc_0 {p : Program} {l : Launch} {e : Env} {s : State} {m : MethodId} {below : List Frame} {meth : Method} {c : Code} {H : Heap} {locs : List Loc} {Q : State → Prop} {ls : Array Slot} {D : va_G} {cyI cyZ : ClassId} {tL tS : Nat} {adC adM : Nat → Nat} {σ τ : St} {b L i : Nat} {xs : Nat → Int32} (C0 : Cx p s m #[Value.ref b] meth c code 4 ret RL lw_tbl) (hX : va_X b L xs s s.heap) (hbl : b < s.heap.size) (hL : L ≤ 3072) (hi : i + 6 ≤ L) (hI : LI D cyI cyZ tL tS adC adM s H locs σ τ) (hR : Rel σ τ) (hl : lv_has ls 4 [(0, .ref b), (1, .ref (adC 0)), (2, .ref (adM 0)), (3, .int (nI i))])
    (kk : ∀ (σ' τ' : St) (H1 : Heap) (locs1 : List Loc), LI D cyI cyZ tL tS adC adM s H1 locs1 σ' τ' → Rel σ' τ' → W p l e room_1 s m #[Value.ref b] below meth c H1 locs1 51 29470 Q (F0 m 771 ls [])) : W p l e room_1 s m #[Value.ref b] below meth c H locs 51 29470 Q (F0 m 132 ls []) := by
  obtain ⟨hx, hb, hr, hml, hown, hts, hlocks⟩ := id C0
  have hbA : ¬ (fun q : Nat => s.heap.size ≤ q) b := Nat.not_le.mpr hbl
  have vin : ∀ k : Nat, k < 6 → vp_in (nI i + nI k) L := fun k hk => by rw [nI_add]; exact (vp_in_iffN (by omega)).mpr (by omega)
  refine lv_aload_n hx hb dL_law_132 rfl (lv_at hl 1 rfl) ?_
  refine lv_aload_n hx hb dL_law_133 rfl (lv_at hl 0 rfl) ?_
  refine lv_iload_n hx hb dL_law_134 rfl (lv_at hl 3 rfl) ?_
  refine lv_iconst (v := nI 1) hx hb dL_law_135 (by decide) ?_
  refine lv_iadd hx hb dL_law_136 ?_
  refine va_sld hx hb hX hbl hbA hI.2.2.1 (vin 1 (by omega)) dL_law_137 ?_
  refine lv_aload_n hx hb dL_law_138 rfl (lv_at hl 0 rfl) ?_
  refine lv_iload_n hx hb dL_law_139 rfl (lv_at hl 3 rfl) ?_
  refine lv_iconst (v := nI 2) hx hb dL_law_140 (by decide) ?_
  refine lv_iadd hx hb dL_law_141 ?_
  refine va_sld hx hb hX hbl hbA hI.2.2.1 (vin 2 (by omega)) dL_law_142 ?_
  refine lv_aload_n hx hb dL_law_143 rfl (lv_at hl 0 rfl) ?_
  refine lv_iload_n hx hb dL_law_144 rfl (lv_at hl 3 rfl) ?_
  refine lv_iconst (v := nI 3) hx hb dL_law_145 (by decide) ?_
  refine lv_iadd hx hb dL_law_146 ?_
  refine va_sld hx hb hX hbl hbA hI.2.2.1 (vin 3 (by omega)) dL_law_147 ?_
  refine lv_aload_n hx hb dL_law_148 rfl (lv_at hl 0 rfl) ?_
  refine lv_iload_n hx hb dL_law_149 rfl (lv_at hl 3 rfl) ?_
  refine lv_iconst (v := nI 4) hx hb dL_law_150 (by decide) ?_
  refine lv_iadd hx hb dL_law_151 ?_
  refine va_sld hx hb hX hbl hbA hI.2.2.1 (vin 4 (by omega)) dL_law_152 ?_
  refine lv_aload_n hx hb dL_law_153 rfl (lv_at hl 0 rfl) ?_
  refine lv_iload_n hx hb dL_law_154 rfl (lv_at hl 3 rfl) ?_
  refine lv_iconst (v := nI 5) hx hb dL_law_155 (by decide) ?_
  refine lv_iadd hx hb dL_law_156 ?_
  refine va_sld hx hb hX hbl hbA hI.2.2.1 (vin 5 (by omega)) dL_law_157 ?_
  refine l_cC (As := [.int (xs (nI i + nI 1).toNatClampNeg), .int (xs (nI i + nI 2).toNatClampNeg), .int (xs (nI i + nI 3).toNatClampNeg), .int (xs (nI i + nI 4).toNatClampNeg), .int (xs (nI i + nI 5).toNatClampNeg)]) (rest := []) C0 (c_X10_feed σ (xs (nI i + nI 1).toNatClampNeg) (xs (nI i + nI 2).toNatClampNeg) (xs (nI i + nI 3).toNatClampNeg) (xs (nI i + nI 4).toNatClampNeg) (xs (nI i + nI 5).toNatClampNeg) _ (op_feed hR (xs (nI i + nI 1).toNatClampNeg) (xs (nI i + nI 2).toNatClampNeg) (xs (nI i + nI 3).toNatClampNeg) (xs (nI i + nI 4).toNatClampNeg) (xs (nI i + nI 5).toNatClampNeg))) (cwV 5 hts gW_X10_feed rfl rfl rfl hdV_X10_feed ⟨(Nat.le_of_ble_eq_true rfl), (Nat.le_of_ble_eq_true rfl)⟩) hI rfl hl.1 rfl (Nat.le_of_ble_eq_true rfl) dL_law_158 ⟨(Nat.le_of_ble_eq_true rfl), (Nat.le_of_ble_eq_true rfl)⟩ (fun r1 σ1 H locs h1 hI => ?_)
  refine lv_aload_n hx hb dL_law_161 rfl (lv_at hl 2 rfl) ?_
  refine lv_aload_n hx hb dL_law_162 rfl (lv_at hl 0 rfl) ?_
  refine lv_iload_n hx hb dL_law_163 rfl (lv_at hl 3 rfl) ?_
  refine lv_iconst (v := nI 1) hx hb dL_law_164 (by decide) ?_
  refine lv_iadd hx hb dL_law_165 ?_
  refine va_sld hx hb hX hbl hbA hI.2.2.1 (vin 1 (by omega)) dL_law_166 ?_
  refine lv_aload_n hx hb dL_law_167 rfl (lv_at hl 0 rfl) ?_
  refine lv_iload_n hx hb dL_law_168 rfl (lv_at hl 3 rfl) ?_
  refine lv_iconst (v := nI 2) hx hb dL_law_169 (by decide) ?_
  refine lv_iadd hx hb dL_law_170 ?_
  refine va_sld hx hb hX hbl hbA hI.2.2.1 (vin 2 (by omega)) dL_law_171 ?_
  refine lv_aload_n hx hb dL_law_172 rfl (lv_at hl 0 rfl) ?_
  refine lv_iload_n hx hb dL_law_173 rfl (lv_at hl 3 rfl) ?_
  refine lv_iconst (v := nI 3) hx hb dL_law_174 (by decide) ?_
  refine lv_iadd hx hb dL_law_175 ?_
  refine va_sld hx hb hX hbl hbA hI.2.2.1 (vin 3 (by omega)) dL_law_176 ?_
  refine lv_aload_n hx hb dL_law_177 rfl (lv_at hl 0 rfl) ?_
  refine lv_iload_n hx hb dL_law_178 rfl (lv_at hl 3 rfl) ?_
  refine lv_iconst (v := nI 4) hx hb dL_law_179 (by decide) ?_
  refine lv_iadd hx hb dL_law_180 ?_
  refine va_sld hx hb hX hbl hbA hI.2.2.1 (vin 4 (by omega)) dL_law_181 ?_
  refine lv_aload_n hx hb dL_law_182 rfl (lv_at hl 0 rfl) ?_
  refine lv_iload_n hx hb dL_law_183 rfl (lv_at hl 3 rfl) ?_
  refine lv_iconst (v := nI 5) hx hb dL_law_184 (by decide) ?_
  refine lv_iadd hx hb dL_law_185 ?_
  refine va_sld hx hb hX hbl hbA hI.2.2.1 (vin 5 (by omega)) dL_law_186 ?_
  refine l_cM (As := [.int (xs (nI i + nI 1).toNatClampNeg), .int (xs (nI i + nI 2).toNatClampNeg), .int (xs (nI i + nI 3).toNatClampNeg), .int (xs (nI i + nI 4).toNatClampNeg), .int (xs (nI i + nI 5).toNatClampNeg)]) (rest := [.int r1]) C0 (c_X11_feed τ (xs (nI i + nI 1).toNatClampNeg) (xs (nI i + nI 2).toNatClampNeg) (xs (nI i + nI 3).toNatClampNeg) (xs (nI i + nI 4).toNatClampNeg) (xs (nI i + nI 5).toNatClampNeg) _ h1) (cwV 5 hts gW_X11_feed rfl rfl rfl hdV_X11_feed ⟨(Nat.le_of_ble_eq_true rfl), (Nat.le_of_ble_eq_true rfl)⟩) hI rfl hl.1 rfl (Nat.le_of_ble_eq_true rfl) dL_law_187 ⟨(Nat.le_of_ble_eq_true rfl), (Nat.le_of_ble_eq_true rfl)⟩ (fun r2 τ1 H locs h2 hI => ?_)
  exact lv_icmp_eq (tgt := 771) hx hb dL_law_190 (by decide) (fun _ => kk _ _ _ _ hI h2.2) (fun q => absurd h2.1 q)
set_option maxHeartbeats 4000000 in
set_option maxRecDepth 100000 in
theorem lc_1 {p : Program} {l : Launch} {e : Env} {s : State} {m : MethodId} {below : List Frame} {meth : Method} {c : Code} {H : Heap} {locs : List Loc} {Q : State → Prop} {ls : Array Slot} {D : va_G} {cyI cyZ : ClassId} {tL tS : Nat} {adC adM : Nat → Nat} {σ τ : St} {b L i : Nat} {xs : Nat → Int32} (C0 : Cx p s m #[Value.ref b] meth c code 4 ret RL lw_tbl) (hX : va_X b L xs s s.heap) (hbl : b < s.heap.size) (hL : L ≤ 3072) (hi : i + 6 ≤ L) (hI : LI D cyI cyZ tL tS adC adM s H locs σ τ) (hR : Rel σ τ) (hl : lv_has ls 4 [(0, .ref b), (1, .ref (adC 0)), (2, .ref (adM 0)), (3, .int (nI i))])
    (kk : ∀ (σ' τ' : St) (H1 : Heap) (locs1 : List Loc), LI D cyI cyZ tL tS adC adM s H1 locs1 σ' τ' → Rel σ' τ' → W p l e room_1 s m #[Value.ref b] below meth c H1 locs1 51 29470 Q (F0 m 771 ls [])) : W p l e room_1 s m #[Value.ref b] below meth c H locs 51 29470 Q (F0 m 195 ls []) := by
  obtain ⟨hx, hb, hr, hml, hown, hts, hlocks⟩ := id C0
  have hbA : ¬ (fun q : Nat => s.heap.size ≤ q) b := Nat.not_le.mpr hbl
  have vin : ∀ k : Nat, k < 6 → vp_in (nI i + nI k) L := fun k hk => by rw [nI_add]; exact (vp_in_iffN (by omega)).mpr (by omega)
  refine lv_aload_n hx hb dL_law_195 rfl (lv_at hl 1 rfl) ?_
  refine lv_aload_n hx hb dL_law_196 rfl (lv_at hl 0 rfl) ?_
  refine lv_iload_n hx hb dL_law_197 rfl (lv_at hl 3 rfl) ?_
  refine lv_iconst (v := nI 1) hx hb dL_law_198 (by decide) ?_
  refine lv_iadd hx hb dL_law_199 ?_
  refine va_sld hx hb hX hbl hbA hI.2.2.1 (vin 1 (by omega)) dL_law_200 ?_
  refine l_cC (As := [.int (xs (nI i + nI 1).toNatClampNeg)]) (rest := []) C0 (c_X10_end σ (xs (nI i + nI 1).toNatClampNeg) _ (op_end hR (xs (nI i + nI 1).toNatClampNeg))) (cwV 1 hts gW_X10_end rfl rfl rfl hdV_X10_end ⟨(Nat.le_of_ble_eq_true rfl), (Nat.le_of_ble_eq_true rfl)⟩) hI rfl hl.1 rfl (Nat.le_of_ble_eq_true rfl) dL_law_201 ⟨(Nat.le_of_ble_eq_true rfl), (Nat.le_of_ble_eq_true rfl)⟩ (fun r1 σ1 H locs h1 hI => ?_)
  refine lv_aload_n hx hb dL_law_204 rfl (lv_at hl 2 rfl) ?_
  refine lv_aload_n hx hb dL_law_205 rfl (lv_at hl 0 rfl) ?_
  refine lv_iload_n hx hb dL_law_206 rfl (lv_at hl 3 rfl) ?_
  refine lv_iconst (v := nI 1) hx hb dL_law_207 (by decide) ?_
  refine lv_iadd hx hb dL_law_208 ?_
  refine va_sld hx hb hX hbl hbA hI.2.2.1 (vin 1 (by omega)) dL_law_209 ?_
  refine l_cM (As := [.int (xs (nI i + nI 1).toNatClampNeg)]) (rest := [.int r1]) C0 (c_X11_end τ (xs (nI i + nI 1).toNatClampNeg) _ h1) (cwV 1 hts gW_X11_end rfl rfl rfl hdV_X11_end ⟨(Nat.le_of_ble_eq_true rfl), (Nat.le_of_ble_eq_true rfl)⟩) hI rfl hl.1 rfl (Nat.le_of_ble_eq_true rfl) dL_law_210 ⟨(Nat.le_of_ble_eq_true rfl), (Nat.le_of_ble_eq_true rfl)⟩ (fun r2 τ1 H locs h2 hI => ?_)
  exact lv_icmp_eq (tgt := 771) hx hb dL_law_213 (by decide) (fun _ => kk _ _ _ _ hI h2.2) (fun q => absurd h2.1 q)
set_option maxHeartbeats 4000000 in
set_option maxRecDepth 100000 in
theorem lc_2 {p : Program} {l : Launch} {e : Env} {s : State} {m : MethodId} {below : List Frame} {meth : Method} {c : Code} {H : Heap} {locs : List Loc} {Q : State → Prop} {ls : Array Slot} {D : va_G} {cyI cyZ : ClassId} {tL tS : Nat} {adC adM : Nat → Nat} {σ τ : St} {b L i : Nat} {xs : Nat → Int32} (C0 : Cx p s m #[Value.ref b] meth c code 4 ret RL lw_tbl) (hX : va_X b L xs s s.heap) (hbl : b < s.heap.size) (hL : L ≤ 3072) (hi : i + 6 ≤ L) (hI : LI D cyI cyZ tL tS adC adM s H locs σ τ) (hR : Rel σ τ) (hl : lv_has ls 4 [(0, .ref b), (1, .ref (adC 0)), (2, .ref (adM 0)), (3, .int (nI i))])
    (kk : ∀ (σ' τ' : St) (H1 : Heap) (locs1 : List Loc), LI D cyI cyZ tL tS adC adM s H1 locs1 σ' τ' → Rel σ' τ' → W p l e room_1 s m #[Value.ref b] below meth c H1 locs1 51 29470 Q (F0 m 771 ls [])) : W p l e room_1 s m #[Value.ref b] below meth c H locs 51 29470 Q (F0 m 218 ls []) := by
  obtain ⟨hx, hb, hr, hml, hown, hts, hlocks⟩ := id C0
  have hbA : ¬ (fun q : Nat => s.heap.size ≤ q) b := Nat.not_le.mpr hbl
  have vin : ∀ k : Nat, k < 6 → vp_in (nI i + nI k) L := fun k hk => by rw [nI_add]; exact (vp_in_iffN (by omega)).mpr (by omega)
  refine lv_aload_n hx hb dL_law_218 rfl (lv_at hl 1 rfl) ?_
  refine l_cC (As := []) (rest := []) C0 (c_X10_text σ  _ (op_text hR )) (cwV 0 hts gW_X10_text rfl rfl rfl hdV_X10_text ⟨(Nat.le_of_ble_eq_true rfl), (Nat.le_of_ble_eq_true rfl)⟩) hI rfl hl.1 rfl (Nat.le_of_ble_eq_true rfl) dL_law_219 ⟨(Nat.le_of_ble_eq_true rfl), (Nat.le_of_ble_eq_true rfl)⟩ (fun r1 σ1 H locs h1 hI => ?_)
  refine lv_aload_n hx hb dL_law_222 rfl (lv_at hl 2 rfl) ?_
  refine l_cM (As := []) (rest := [.int r1]) C0 (c_X11_text τ  _ h1) (cwV 0 hts gW_X11_text rfl rfl rfl hdV_X11_text ⟨(Nat.le_of_ble_eq_true rfl), (Nat.le_of_ble_eq_true rfl)⟩) hI rfl hl.1 rfl (Nat.le_of_ble_eq_true rfl) dL_law_223 ⟨(Nat.le_of_ble_eq_true rfl), (Nat.le_of_ble_eq_true rfl)⟩ (fun r2 τ1 H locs h2 hI => ?_)
  exact lv_icmp_eq (tgt := 771) hx hb dL_law_226 (by decide) (fun _ => kk _ _ _ _ hI h2.2) (fun q => absurd h2.1 q)
set_option maxHeartbeats 4000000 in
set_option maxRecDepth 100000 in
theorem lc_3 {p : Program} {l : Launch} {e : Env} {s : State} {m : MethodId} {below : List Frame} {meth : Method} {c : Code} {H : Heap} {locs : List Loc} {Q : State → Prop} {ls : Array Slot} {D : va_G} {cyI cyZ : ClassId} {tL tS : Nat} {adC adM : Nat → Nat} {σ τ : St} {b L i : Nat} {xs : Nat → Int32} (C0 : Cx p s m #[Value.ref b] meth c code 4 ret RL lw_tbl) (hX : va_X b L xs s s.heap) (hbl : b < s.heap.size) (hL : L ≤ 3072) (hi : i + 6 ≤ L) (hI : LI D cyI cyZ tL tS adC adM s H locs σ τ) (hR : Rel σ τ) (hl : lv_has ls 4 [(0, .ref b), (1, .ref (adC 0)), (2, .ref (adM 0)), (3, .int (nI i))])
    (kk : ∀ (σ' τ' : St) (H1 : Heap) (locs1 : List Loc), LI D cyI cyZ tL tS adC adM s H1 locs1 σ' τ' → Rel σ' τ' → W p l e room_1 s m #[Value.ref b] below meth c H1 locs1 51 29470 Q (F0 m 771 ls [])) : W p l e room_1 s m #[Value.ref b] below meth c H locs 51 29470 Q (F0 m 231 ls []) := by
  obtain ⟨hx, hb, hr, hml, hown, hts, hlocks⟩ := id C0
  have hbA : ¬ (fun q : Nat => s.heap.size ≤ q) b := Nat.not_le.mpr hbl
  have vin : ∀ k : Nat, k < 6 → vp_in (nI i + nI k) L := fun k hk => by rw [nI_add]; exact (vp_in_iffN (by omega)).mpr (by omega)
  refine lv_aload_n hx hb dL_law_231 rfl (lv_at hl 1 rfl) ?_
  refine lv_aload_n hx hb dL_law_232 rfl (lv_at hl 0 rfl) ?_
  refine lv_iload_n hx hb dL_law_233 rfl (lv_at hl 3 rfl) ?_
  refine lv_iconst (v := nI 1) hx hb dL_law_234 (by decide) ?_
  refine lv_iadd hx hb dL_law_235 ?_
  refine va_sld hx hb hX hbl hbA hI.2.2.1 (vin 1 (by omega)) dL_law_236 ?_
  refine l_cC (As := [.int (xs (nI i + nI 1).toNatClampNeg)]) (rest := []) C0 (c_X10_fault σ (xs (nI i + nI 1).toNatClampNeg) _ (op_fault hR (xs (nI i + nI 1).toNatClampNeg))) (cwV 1 hts gW_X10_fault rfl rfl rfl hdV_X10_fault ⟨(Nat.le_of_ble_eq_true rfl), (Nat.le_of_ble_eq_true rfl)⟩) hI rfl hl.1 rfl (Nat.le_of_ble_eq_true rfl) dL_law_237 ⟨(Nat.le_of_ble_eq_true rfl), (Nat.le_of_ble_eq_true rfl)⟩ (fun r1 σ1 H locs h1 hI => ?_)
  refine lv_aload_n hx hb dL_law_240 rfl (lv_at hl 2 rfl) ?_
  refine lv_aload_n hx hb dL_law_241 rfl (lv_at hl 0 rfl) ?_
  refine lv_iload_n hx hb dL_law_242 rfl (lv_at hl 3 rfl) ?_
  refine lv_iconst (v := nI 1) hx hb dL_law_243 (by decide) ?_
  refine lv_iadd hx hb dL_law_244 ?_
  refine va_sld hx hb hX hbl hbA hI.2.2.1 (vin 1 (by omega)) dL_law_245 ?_
  refine l_cM (As := [.int (xs (nI i + nI 1).toNatClampNeg)]) (rest := [.int r1]) C0 (c_X11_fault τ (xs (nI i + nI 1).toNatClampNeg) _ h1) (cwV 1 hts gW_X11_fault rfl rfl rfl hdV_X11_fault ⟨(Nat.le_of_ble_eq_true rfl), (Nat.le_of_ble_eq_true rfl)⟩) hI rfl hl.1 rfl (Nat.le_of_ble_eq_true rfl) dL_law_246 ⟨(Nat.le_of_ble_eq_true rfl), (Nat.le_of_ble_eq_true rfl)⟩ (fun r2 τ1 H locs h2 hI => ?_)
  exact lv_icmp_eq (tgt := 771) hx hb dL_law_249 (by decide) (fun _ => kk _ _ _ _ hI h2.2) (fun q => absurd h2.1 q)
set_option maxHeartbeats 4000000 in
set_option maxRecDepth 100000 in
theorem lc_4 {p : Program} {l : Launch} {e : Env} {s : State} {m : MethodId} {below : List Frame} {meth : Method} {c : Code} {H : Heap} {locs : List Loc} {Q : State → Prop} {ls : Array Slot} {D : va_G} {cyI cyZ : ClassId} {tL tS : Nat} {adC adM : Nat → Nat} {σ τ : St} {b L i : Nat} {xs : Nat → Int32} (C0 : Cx p s m #[Value.ref b] meth c code 4 ret RL lw_tbl) (hX : va_X b L xs s s.heap) (hbl : b < s.heap.size) (hL : L ≤ 3072) (hi : i + 6 ≤ L) (hI : LI D cyI cyZ tL tS adC adM s H locs σ τ) (hR : Rel σ τ) (hl : lv_has ls 4 [(0, .ref b), (1, .ref (adC 0)), (2, .ref (adM 0)), (3, .int (nI i))])
    (kk : ∀ (σ' τ' : St) (H1 : Heap) (locs1 : List Loc), LI D cyI cyZ tL tS adC adM s H1 locs1 σ' τ' → Rel σ' τ' → W p l e room_1 s m #[Value.ref b] below meth c H1 locs1 51 29470 Q (F0 m 771 ls [])) : W p l e room_1 s m #[Value.ref b] below meth c H locs 51 29470 Q (F0 m 254 ls []) := by
  obtain ⟨hx, hb, hr, hml, hown, hts, hlocks⟩ := id C0
  have hbA : ¬ (fun q : Nat => s.heap.size ≤ q) b := Nat.not_le.mpr hbl
  have vin : ∀ k : Nat, k < 6 → vp_in (nI i + nI k) L := fun k hk => by rw [nI_add]; exact (vp_in_iffN (by omega)).mpr (by omega)
  refine lv_aload_n hx hb dL_law_254 rfl (lv_at hl 1 rfl) ?_
  refine lv_aload_n hx hb dL_law_255 rfl (lv_at hl 0 rfl) ?_
  refine lv_iload_n hx hb dL_law_256 rfl (lv_at hl 3 rfl) ?_
  refine lv_iconst (v := nI 1) hx hb dL_law_257 (by decide) ?_
  refine lv_iadd hx hb dL_law_258 ?_
  refine va_sld hx hb hX hbl hbA hI.2.2.1 (vin 1 (by omega)) dL_law_259 ?_
  refine l_cC (As := [.int (xs (nI i + nI 1).toNatClampNeg)]) (rest := []) C0 (c_X10_put σ (xs (nI i + nI 1).toNatClampNeg) _ (op_put hR (xs (nI i + nI 1).toNatClampNeg))) (cwV 1 hts gW_X10_put rfl rfl rfl hdV_X10_put ⟨(Nat.le_of_ble_eq_true rfl), (Nat.le_of_ble_eq_true rfl)⟩) hI rfl hl.1 rfl (Nat.le_of_ble_eq_true rfl) dL_law_260 ⟨(Nat.le_of_ble_eq_true rfl), (Nat.le_of_ble_eq_true rfl)⟩ (fun r1 σ1 H locs h1 hI => ?_)
  refine lv_aload_n hx hb dL_law_263 rfl (lv_at hl 2 rfl) ?_
  refine lv_aload_n hx hb dL_law_264 rfl (lv_at hl 0 rfl) ?_
  refine lv_iload_n hx hb dL_law_265 rfl (lv_at hl 3 rfl) ?_
  refine lv_iconst (v := nI 1) hx hb dL_law_266 (by decide) ?_
  refine lv_iadd hx hb dL_law_267 ?_
  refine va_sld hx hb hX hbl hbA hI.2.2.1 (vin 1 (by omega)) dL_law_268 ?_
  refine l_cM (As := [.int (xs (nI i + nI 1).toNatClampNeg)]) (rest := [.int r1]) C0 (c_X11_put τ (xs (nI i + nI 1).toNatClampNeg) _ h1) (cwV 1 hts gW_X11_put rfl rfl rfl hdV_X11_put ⟨(Nat.le_of_ble_eq_true rfl), (Nat.le_of_ble_eq_true rfl)⟩) hI rfl hl.1 rfl (Nat.le_of_ble_eq_true rfl) dL_law_269 ⟨(Nat.le_of_ble_eq_true rfl), (Nat.le_of_ble_eq_true rfl)⟩ (fun r2 τ1 H locs h2 hI => ?_)
  exact lv_icmp_eq (tgt := 771) hx hb dL_law_272 (by decide) (fun _ => kk _ _ _ _ hI h2.2) (fun q => absurd h2.1 q)
set_option maxHeartbeats 4000000 in
set_option maxRecDepth 100000 in
theorem lc_5 {p : Program} {l : Launch} {e : Env} {s : State} {m : MethodId} {below : List Frame} {meth : Method} {c : Code} {H : Heap} {locs : List Loc} {Q : State → Prop} {ls : Array Slot} {D : va_G} {cyI cyZ : ClassId} {tL tS : Nat} {adC adM : Nat → Nat} {σ τ : St} {b L i : Nat} {xs : Nat → Int32} (C0 : Cx p s m #[Value.ref b] meth c code 4 ret RL lw_tbl) (hX : va_X b L xs s s.heap) (hbl : b < s.heap.size) (hL : L ≤ 3072) (hi : i + 6 ≤ L) (hI : LI D cyI cyZ tL tS adC adM s H locs σ τ) (hR : Rel σ τ) (hl : lv_has ls 4 [(0, .ref b), (1, .ref (adC 0)), (2, .ref (adM 0)), (3, .int (nI i))])
    (kk : ∀ (σ' τ' : St) (H1 : Heap) (locs1 : List Loc), LI D cyI cyZ tL tS adC adM s H1 locs1 σ' τ' → Rel σ' τ' → W p l e room_1 s m #[Value.ref b] below meth c H1 locs1 51 29470 Q (F0 m 771 ls [])) : W p l e room_1 s m #[Value.ref b] below meth c H locs 51 29470 Q (F0 m 277 ls []) := by
  obtain ⟨hx, hb, hr, hml, hown, hts, hlocks⟩ := id C0
  have hbA : ¬ (fun q : Nat => s.heap.size ≤ q) b := Nat.not_le.mpr hbl
  have vin : ∀ k : Nat, k < 6 → vp_in (nI i + nI k) L := fun k hk => by rw [nI_add]; exact (vp_in_iffN (by omega)).mpr (by omega)
  refine lv_aload_n hx hb dL_law_277 rfl (lv_at hl 1 rfl) ?_
  refine lv_aload_n hx hb dL_law_278 rfl (lv_at hl 0 rfl) ?_
  refine lv_iload_n hx hb dL_law_279 rfl (lv_at hl 3 rfl) ?_
  refine lv_iconst (v := nI 1) hx hb dL_law_280 (by decide) ?_
  refine lv_iadd hx hb dL_law_281 ?_
  refine va_sld hx hb hX hbl hbA hI.2.2.1 (vin 1 (by omega)) dL_law_282 ?_
  refine lv_aload_n hx hb dL_law_283 rfl (lv_at hl 0 rfl) ?_
  refine lv_iload_n hx hb dL_law_284 rfl (lv_at hl 3 rfl) ?_
  refine lv_iconst (v := nI 2) hx hb dL_law_285 (by decide) ?_
  refine lv_iadd hx hb dL_law_286 ?_
  refine va_sld hx hb hX hbl hbA hI.2.2.1 (vin 2 (by omega)) dL_law_287 ?_
  refine l_cC (As := [.int (xs (nI i + nI 1).toNatClampNeg), .int (xs (nI i + nI 2).toNatClampNeg)]) (rest := []) C0 (c_X10_unit σ (xs (nI i + nI 1).toNatClampNeg) (xs (nI i + nI 2).toNatClampNeg) _ (op_unit hR (xs (nI i + nI 1).toNatClampNeg) (xs (nI i + nI 2).toNatClampNeg))) (cwV 2 hts gW_X10_unit rfl rfl rfl hdV_X10_unit ⟨(Nat.le_of_ble_eq_true rfl), (Nat.le_of_ble_eq_true rfl)⟩) hI rfl hl.1 rfl (Nat.le_of_ble_eq_true rfl) dL_law_288 ⟨(Nat.le_of_ble_eq_true rfl), (Nat.le_of_ble_eq_true rfl)⟩ (fun r1 σ1 H locs h1 hI => ?_)
  refine lv_aload_n hx hb dL_law_291 rfl (lv_at hl 2 rfl) ?_
  refine lv_aload_n hx hb dL_law_292 rfl (lv_at hl 0 rfl) ?_
  refine lv_iload_n hx hb dL_law_293 rfl (lv_at hl 3 rfl) ?_
  refine lv_iconst (v := nI 1) hx hb dL_law_294 (by decide) ?_
  refine lv_iadd hx hb dL_law_295 ?_
  refine va_sld hx hb hX hbl hbA hI.2.2.1 (vin 1 (by omega)) dL_law_296 ?_
  refine lv_aload_n hx hb dL_law_297 rfl (lv_at hl 0 rfl) ?_
  refine lv_iload_n hx hb dL_law_298 rfl (lv_at hl 3 rfl) ?_
  refine lv_iconst (v := nI 2) hx hb dL_law_299 (by decide) ?_
  refine lv_iadd hx hb dL_law_300 ?_
  refine va_sld hx hb hX hbl hbA hI.2.2.1 (vin 2 (by omega)) dL_law_301 ?_
  refine l_cM (As := [.int (xs (nI i + nI 1).toNatClampNeg), .int (xs (nI i + nI 2).toNatClampNeg)]) (rest := [.int r1]) C0 (c_X11_unit τ (xs (nI i + nI 1).toNatClampNeg) (xs (nI i + nI 2).toNatClampNeg) _ h1) (cwV 2 hts gW_X11_unit rfl rfl rfl hdV_X11_unit ⟨(Nat.le_of_ble_eq_true rfl), (Nat.le_of_ble_eq_true rfl)⟩) hI rfl hl.1 rfl (Nat.le_of_ble_eq_true rfl) dL_law_302 ⟨(Nat.le_of_ble_eq_true rfl), (Nat.le_of_ble_eq_true rfl)⟩ (fun r2 τ1 H locs h2 hI => ?_)
  exact lv_icmp_eq (tgt := 771) hx hb dL_law_305 (by decide) (fun _ => kk _ _ _ _ hI h2.2) (fun q => absurd h2.1 q)
set_option maxHeartbeats 4000000 in
set_option maxRecDepth 100000 in
theorem lc_6 {p : Program} {l : Launch} {e : Env} {s : State} {m : MethodId} {below : List Frame} {meth : Method} {c : Code} {H : Heap} {locs : List Loc} {Q : State → Prop} {ls : Array Slot} {D : va_G} {cyI cyZ : ClassId} {tL tS : Nat} {adC adM : Nat → Nat} {σ τ : St} {b L i : Nat} {xs : Nat → Int32} (C0 : Cx p s m #[Value.ref b] meth c code 4 ret RL lw_tbl) (hX : va_X b L xs s s.heap) (hbl : b < s.heap.size) (hL : L ≤ 3072) (hi : i + 6 ≤ L) (hI : LI D cyI cyZ tL tS adC adM s H locs σ τ) (hR : Rel σ τ) (hl : lv_has ls 4 [(0, .ref b), (1, .ref (adC 0)), (2, .ref (adM 0)), (3, .int (nI i))])
    (kk : ∀ (σ' τ' : St) (H1 : Heap) (locs1 : List Loc), LI D cyI cyZ tL tS adC adM s H1 locs1 σ' τ' → Rel σ' τ' → W p l e room_1 s m #[Value.ref b] below meth c H1 locs1 51 29470 Q (F0 m 771 ls [])) : W p l e room_1 s m #[Value.ref b] below meth c H locs 51 29470 Q (F0 m 310 ls []) := by
  obtain ⟨hx, hb, hr, hml, hown, hts, hlocks⟩ := id C0
  have hbA : ¬ (fun q : Nat => s.heap.size ≤ q) b := Nat.not_le.mpr hbl
  have vin : ∀ k : Nat, k < 6 → vp_in (nI i + nI k) L := fun k hk => by rw [nI_add]; exact (vp_in_iffN (by omega)).mpr (by omega)
  refine lv_aload_n hx hb dL_law_310 rfl (lv_at hl 1 rfl) ?_
  refine lv_aload_n hx hb dL_law_311 rfl (lv_at hl 0 rfl) ?_
  refine lv_iload_n hx hb dL_law_312 rfl (lv_at hl 3 rfl) ?_
  refine lv_iconst (v := nI 1) hx hb dL_law_313 (by decide) ?_
  refine lv_iadd hx hb dL_law_314 ?_
  refine va_sld hx hb hX hbl hbA hI.2.2.1 (vin 1 (by omega)) dL_law_315 ?_
  refine lv_aload_n hx hb dL_law_316 rfl (lv_at hl 0 rfl) ?_
  refine lv_iload_n hx hb dL_law_317 rfl (lv_at hl 3 rfl) ?_
  refine lv_iconst (v := nI 2) hx hb dL_law_318 (by decide) ?_
  refine lv_iadd hx hb dL_law_319 ?_
  refine va_sld hx hb hX hbl hbA hI.2.2.1 (vin 2 (by omega)) dL_law_320 ?_
  refine l_cC (As := [.int (xs (nI i + nI 1).toNatClampNeg), .int (xs (nI i + nI 2).toNatClampNeg)]) (rest := []) C0 (c_X10_measure σ (xs (nI i + nI 1).toNatClampNeg) (xs (nI i + nI 2).toNatClampNeg) _ (op_measure hR (xs (nI i + nI 1).toNatClampNeg) (xs (nI i + nI 2).toNatClampNeg))) (cwV 2 hts gW_X10_measure rfl rfl rfl hdV_X10_measure ⟨(Nat.le_of_ble_eq_true rfl), (Nat.le_of_ble_eq_true rfl)⟩) hI rfl hl.1 rfl (Nat.le_of_ble_eq_true rfl) dL_law_321 ⟨(Nat.le_of_ble_eq_true rfl), (Nat.le_of_ble_eq_true rfl)⟩ (fun r1 σ1 H locs h1 hI => ?_)
  refine lv_aload_n hx hb dL_law_324 rfl (lv_at hl 2 rfl) ?_
  refine lv_aload_n hx hb dL_law_325 rfl (lv_at hl 0 rfl) ?_
  refine lv_iload_n hx hb dL_law_326 rfl (lv_at hl 3 rfl) ?_
  refine lv_iconst (v := nI 1) hx hb dL_law_327 (by decide) ?_
  refine lv_iadd hx hb dL_law_328 ?_
  refine va_sld hx hb hX hbl hbA hI.2.2.1 (vin 1 (by omega)) dL_law_329 ?_
  refine lv_aload_n hx hb dL_law_330 rfl (lv_at hl 0 rfl) ?_
  refine lv_iload_n hx hb dL_law_331 rfl (lv_at hl 3 rfl) ?_
  refine lv_iconst (v := nI 2) hx hb dL_law_332 (by decide) ?_
  refine lv_iadd hx hb dL_law_333 ?_
  refine va_sld hx hb hX hbl hbA hI.2.2.1 (vin 2 (by omega)) dL_law_334 ?_
  refine l_cM (As := [.int (xs (nI i + nI 1).toNatClampNeg), .int (xs (nI i + nI 2).toNatClampNeg)]) (rest := [.int r1]) C0 (c_X11_measure τ (xs (nI i + nI 1).toNatClampNeg) (xs (nI i + nI 2).toNatClampNeg) _ h1) (cwV 2 hts gW_X11_measure rfl rfl rfl hdV_X11_measure ⟨(Nat.le_of_ble_eq_true rfl), (Nat.le_of_ble_eq_true rfl)⟩) hI rfl hl.1 rfl (Nat.le_of_ble_eq_true rfl) dL_law_335 ⟨(Nat.le_of_ble_eq_true rfl), (Nat.le_of_ble_eq_true rfl)⟩ (fun r2 τ1 H locs h2 hI => ?_)
  exact lv_icmp_eq (tgt := 771) hx hb dL_law_338 (by decide) (fun _ => kk _ _ _ _ hI h2.2) (fun q => absurd h2.1 q)
set_option maxHeartbeats 4000000 in
set_option maxRecDepth 100000 in
theorem lc_7 {p : Program} {l : Launch} {e : Env} {s : State} {m : MethodId} {below : List Frame} {meth : Method} {c : Code} {H : Heap} {locs : List Loc} {Q : State → Prop} {ls : Array Slot} {D : va_G} {cyI cyZ : ClassId} {tL tS : Nat} {adC adM : Nat → Nat} {σ τ : St} {b L i : Nat} {xs : Nat → Int32} (C0 : Cx p s m #[Value.ref b] meth c code 4 ret RL lw_tbl) (hX : va_X b L xs s s.heap) (hbl : b < s.heap.size) (hL : L ≤ 3072) (hi : i + 6 ≤ L) (hI : LI D cyI cyZ tL tS adC adM s H locs σ τ) (hR : Rel σ τ) (hl : lv_has ls 4 [(0, .ref b), (1, .ref (adC 0)), (2, .ref (adM 0)), (3, .int (nI i))])
    (kk : ∀ (σ' τ' : St) (H1 : Heap) (locs1 : List Loc), LI D cyI cyZ tL tS adC adM s H1 locs1 σ' τ' → Rel σ' τ' → W p l e room_1 s m #[Value.ref b] below meth c H1 locs1 51 29470 Q (F0 m 771 ls [])) : W p l e room_1 s m #[Value.ref b] below meth c H locs 51 29470 Q (F0 m 343 ls []) := by
  obtain ⟨hx, hb, hr, hml, hown, hts, hlocks⟩ := id C0
  have hbA : ¬ (fun q : Nat => s.heap.size ≤ q) b := Nat.not_le.mpr hbl
  have vin : ∀ k : Nat, k < 6 → vp_in (nI i + nI k) L := fun k hk => by rw [nI_add]; exact (vp_in_iffN (by omega)).mpr (by omega)
  refine lv_aload_n hx hb dL_law_343 rfl (lv_at hl 1 rfl) ?_
  refine lv_aload_n hx hb dL_law_344 rfl (lv_at hl 0 rfl) ?_
  refine lv_iload_n hx hb dL_law_345 rfl (lv_at hl 3 rfl) ?_
  refine lv_iconst (v := nI 1) hx hb dL_law_346 (by decide) ?_
  refine lv_iadd hx hb dL_law_347 ?_
  refine va_sld hx hb hX hbl hbA hI.2.2.1 (vin 1 (by omega)) dL_law_348 ?_
  refine lv_aload_n hx hb dL_law_349 rfl (lv_at hl 0 rfl) ?_
  refine lv_iload_n hx hb dL_law_350 rfl (lv_at hl 3 rfl) ?_
  refine lv_iconst (v := nI 2) hx hb dL_law_351 (by decide) ?_
  refine lv_iadd hx hb dL_law_352 ?_
  refine va_sld hx hb hX hbl hbA hI.2.2.1 (vin 2 (by omega)) dL_law_353 ?_
  refine lv_aload_n hx hb dL_law_354 rfl (lv_at hl 0 rfl) ?_
  refine lv_iload_n hx hb dL_law_355 rfl (lv_at hl 3 rfl) ?_
  refine lv_iconst (v := nI 3) hx hb dL_law_356 (by decide) ?_
  refine lv_iadd hx hb dL_law_357 ?_
  refine va_sld hx hb hX hbl hbA hI.2.2.1 (vin 3 (by omega)) dL_law_358 ?_
  refine lv_aload_n hx hb dL_law_359 rfl (lv_at hl 0 rfl) ?_
  refine lv_iload_n hx hb dL_law_360 rfl (lv_at hl 3 rfl) ?_
  refine lv_iconst (v := nI 4) hx hb dL_law_361 (by decide) ?_
  refine lv_iadd hx hb dL_law_362 ?_
  refine va_sld hx hb hX hbl hbA hI.2.2.1 (vin 4 (by omega)) dL_law_363 ?_
  refine lv_aload_n hx hb dL_law_364 rfl (lv_at hl 0 rfl) ?_
  refine lv_iload_n hx hb dL_law_365 rfl (lv_at hl 3 rfl) ?_
  refine lv_iconst (v := nI 5) hx hb dL_law_366 (by decide) ?_
  refine lv_iadd hx hb dL_law_367 ?_
  refine va_sld hx hb hX hbl hbA hI.2.2.1 (vin 5 (by omega)) dL_law_368 ?_
  refine l_cC (As := [.int (xs (nI i + nI 1).toNatClampNeg), .int (xs (nI i + nI 2).toNatClampNeg), .int (xs (nI i + nI 3).toNatClampNeg), .int (xs (nI i + nI 4).toNatClampNeg), .int (xs (nI i + nI 5).toNatClampNeg)]) (rest := []) C0 (c_X10_strains σ (xs (nI i + nI 1).toNatClampNeg) (xs (nI i + nI 2).toNatClampNeg) (xs (nI i + nI 3).toNatClampNeg) (xs (nI i + nI 4).toNatClampNeg) (xs (nI i + nI 5).toNatClampNeg) _ (op_strains hR (xs (nI i + nI 1).toNatClampNeg) (xs (nI i + nI 2).toNatClampNeg) (xs (nI i + nI 3).toNatClampNeg) (xs (nI i + nI 4).toNatClampNeg) (xs (nI i + nI 5).toNatClampNeg))) (cwV 5 hts gW_X10_strains rfl rfl rfl hdV_X10_strains ⟨(Nat.le_of_ble_eq_true rfl), (Nat.le_of_ble_eq_true rfl)⟩) hI rfl hl.1 rfl (Nat.le_of_ble_eq_true rfl) dL_law_369 ⟨(Nat.le_of_ble_eq_true rfl), (Nat.le_of_ble_eq_true rfl)⟩ (fun r1 σ1 H locs h1 hI => ?_)
  refine lv_aload_n hx hb dL_law_372 rfl (lv_at hl 2 rfl) ?_
  refine lv_aload_n hx hb dL_law_373 rfl (lv_at hl 0 rfl) ?_
  refine lv_iload_n hx hb dL_law_374 rfl (lv_at hl 3 rfl) ?_
  refine lv_iconst (v := nI 1) hx hb dL_law_375 (by decide) ?_
  refine lv_iadd hx hb dL_law_376 ?_
  refine va_sld hx hb hX hbl hbA hI.2.2.1 (vin 1 (by omega)) dL_law_377 ?_
  refine lv_aload_n hx hb dL_law_378 rfl (lv_at hl 0 rfl) ?_
  refine lv_iload_n hx hb dL_law_379 rfl (lv_at hl 3 rfl) ?_
  refine lv_iconst (v := nI 2) hx hb dL_law_380 (by decide) ?_
  refine lv_iadd hx hb dL_law_381 ?_
  refine va_sld hx hb hX hbl hbA hI.2.2.1 (vin 2 (by omega)) dL_law_382 ?_
  refine lv_aload_n hx hb dL_law_383 rfl (lv_at hl 0 rfl) ?_
  refine lv_iload_n hx hb dL_law_384 rfl (lv_at hl 3 rfl) ?_
  refine lv_iconst (v := nI 3) hx hb dL_law_385 (by decide) ?_
  refine lv_iadd hx hb dL_law_386 ?_
  refine va_sld hx hb hX hbl hbA hI.2.2.1 (vin 3 (by omega)) dL_law_387 ?_
  refine lv_aload_n hx hb dL_law_388 rfl (lv_at hl 0 rfl) ?_
  refine lv_iload_n hx hb dL_law_389 rfl (lv_at hl 3 rfl) ?_
  refine lv_iconst (v := nI 4) hx hb dL_law_390 (by decide) ?_
  refine lv_iadd hx hb dL_law_391 ?_
  refine va_sld hx hb hX hbl hbA hI.2.2.1 (vin 4 (by omega)) dL_law_392 ?_
  refine lv_aload_n hx hb dL_law_393 rfl (lv_at hl 0 rfl) ?_
  refine lv_iload_n hx hb dL_law_394 rfl (lv_at hl 3 rfl) ?_
  refine lv_iconst (v := nI 5) hx hb dL_law_395 (by decide) ?_
  refine lv_iadd hx hb dL_law_396 ?_
  refine va_sld hx hb hX hbl hbA hI.2.2.1 (vin 5 (by omega)) dL_law_397 ?_
  refine l_cM (As := [.int (xs (nI i + nI 1).toNatClampNeg), .int (xs (nI i + nI 2).toNatClampNeg), .int (xs (nI i + nI 3).toNatClampNeg), .int (xs (nI i + nI 4).toNatClampNeg), .int (xs (nI i + nI 5).toNatClampNeg)]) (rest := [.int r1]) C0 (c_X11_strains τ (xs (nI i + nI 1).toNatClampNeg) (xs (nI i + nI 2).toNatClampNeg) (xs (nI i + nI 3).toNatClampNeg) (xs (nI i + nI 4).toNatClampNeg) (xs (nI i + nI 5).toNatClampNeg) _ h1) (cwV 5 hts gW_X11_strains rfl rfl rfl hdV_X11_strains ⟨(Nat.le_of_ble_eq_true rfl), (Nat.le_of_ble_eq_true rfl)⟩) hI rfl hl.1 rfl (Nat.le_of_ble_eq_true rfl) dL_law_398 ⟨(Nat.le_of_ble_eq_true rfl), (Nat.le_of_ble_eq_true rfl)⟩ (fun r2 τ1 H locs h2 hI => ?_)
  exact lv_icmp_eq (tgt := 771) hx hb dL_law_401 (by decide) (fun _ => kk _ _ _ _ hI h2.2) (fun q => absurd h2.1 q)
set_option maxHeartbeats 4000000 in
set_option maxRecDepth 100000 in
theorem lc_8 {p : Program} {l : Launch} {e : Env} {s : State} {m : MethodId} {below : List Frame} {meth : Method} {c : Code} {H : Heap} {locs : List Loc} {Q : State → Prop} {ls : Array Slot} {D : va_G} {cyI cyZ : ClassId} {tL tS : Nat} {adC adM : Nat → Nat} {σ τ : St} {b L i : Nat} {xs : Nat → Int32} (C0 : Cx p s m #[Value.ref b] meth c code 4 ret RL lw_tbl) (hX : va_X b L xs s s.heap) (hbl : b < s.heap.size) (hL : L ≤ 3072) (hi : i + 6 ≤ L) (hI : LI D cyI cyZ tL tS adC adM s H locs σ τ) (hR : Rel σ τ) (hl : lv_has ls 4 [(0, .ref b), (1, .ref (adC 0)), (2, .ref (adM 0)), (3, .int (nI i))])
    (kk : ∀ (σ' τ' : St) (H1 : Heap) (locs1 : List Loc), LI D cyI cyZ tL tS adC adM s H1 locs1 σ' τ' → Rel σ' τ' → W p l e room_1 s m #[Value.ref b] below meth c H1 locs1 51 29470 Q (F0 m 771 ls [])) : W p l e room_1 s m #[Value.ref b] below meth c H locs 51 29470 Q (F0 m 406 ls []) := by
  obtain ⟨hx, hb, hr, hml, hown, hts, hlocks⟩ := id C0
  have hbA : ¬ (fun q : Nat => s.heap.size ≤ q) b := Nat.not_le.mpr hbl
  have vin : ∀ k : Nat, k < 6 → vp_in (nI i + nI k) L := fun k hk => by rw [nI_add]; exact (vp_in_iffN (by omega)).mpr (by omega)
  refine lv_aload_n hx hb dL_law_406 rfl (lv_at hl 1 rfl) ?_
  refine lv_aload_n hx hb dL_law_407 rfl (lv_at hl 0 rfl) ?_
  refine lv_iload_n hx hb dL_law_408 rfl (lv_at hl 3 rfl) ?_
  refine lv_iconst (v := nI 1) hx hb dL_law_409 (by decide) ?_
  refine lv_iadd hx hb dL_law_410 ?_
  refine va_sld hx hb hX hbl hbA hI.2.2.1 (vin 1 (by omega)) dL_law_411 ?_
  refine lv_aload_n hx hb dL_law_412 rfl (lv_at hl 0 rfl) ?_
  refine lv_iload_n hx hb dL_law_413 rfl (lv_at hl 3 rfl) ?_
  refine lv_iconst (v := nI 2) hx hb dL_law_414 (by decide) ?_
  refine lv_iadd hx hb dL_law_415 ?_
  refine va_sld hx hb hX hbl hbA hI.2.2.1 (vin 2 (by omega)) dL_law_416 ?_
  refine lv_aload_n hx hb dL_law_417 rfl (lv_at hl 0 rfl) ?_
  refine lv_iload_n hx hb dL_law_418 rfl (lv_at hl 3 rfl) ?_
  refine lv_iconst (v := nI 3) hx hb dL_law_419 (by decide) ?_
  refine lv_iadd hx hb dL_law_420 ?_
  refine va_sld hx hb hX hbl hbA hI.2.2.1 (vin 3 (by omega)) dL_law_421 ?_
  refine l_cC (As := [.int (xs (nI i + nI 1).toNatClampNeg), .int (xs (nI i + nI 2).toNatClampNeg), .int (xs (nI i + nI 3).toNatClampNeg)]) (rest := []) C0 (c_X10_like σ (xs (nI i + nI 1).toNatClampNeg) (xs (nI i + nI 2).toNatClampNeg) (xs (nI i + nI 3).toNatClampNeg) _ (op_like hR (xs (nI i + nI 1).toNatClampNeg) (xs (nI i + nI 2).toNatClampNeg) (xs (nI i + nI 3).toNatClampNeg))) (cwV 3 hts gW_X10_like rfl rfl rfl hdV_X10_like ⟨(Nat.le_of_ble_eq_true rfl), (Nat.le_of_ble_eq_true rfl)⟩) hI rfl hl.1 rfl (Nat.le_of_ble_eq_true rfl) dL_law_422 ⟨(Nat.le_of_ble_eq_true rfl), (Nat.le_of_ble_eq_true rfl)⟩ (fun r1 σ1 H locs h1 hI => ?_)
  refine lv_aload_n hx hb dL_law_425 rfl (lv_at hl 2 rfl) ?_
  refine lv_aload_n hx hb dL_law_426 rfl (lv_at hl 0 rfl) ?_
  refine lv_iload_n hx hb dL_law_427 rfl (lv_at hl 3 rfl) ?_
  refine lv_iconst (v := nI 1) hx hb dL_law_428 (by decide) ?_
  refine lv_iadd hx hb dL_law_429 ?_
  refine va_sld hx hb hX hbl hbA hI.2.2.1 (vin 1 (by omega)) dL_law_430 ?_
  refine lv_aload_n hx hb dL_law_431 rfl (lv_at hl 0 rfl) ?_
  refine lv_iload_n hx hb dL_law_432 rfl (lv_at hl 3 rfl) ?_
  refine lv_iconst (v := nI 2) hx hb dL_law_433 (by decide) ?_
  refine lv_iadd hx hb dL_law_434 ?_
  refine va_sld hx hb hX hbl hbA hI.2.2.1 (vin 2 (by omega)) dL_law_435 ?_
  refine lv_aload_n hx hb dL_law_436 rfl (lv_at hl 0 rfl) ?_
  refine lv_iload_n hx hb dL_law_437 rfl (lv_at hl 3 rfl) ?_
  refine lv_iconst (v := nI 3) hx hb dL_law_438 (by decide) ?_
  refine lv_iadd hx hb dL_law_439 ?_
  refine va_sld hx hb hX hbl hbA hI.2.2.1 (vin 3 (by omega)) dL_law_440 ?_
  refine l_cM (As := [.int (xs (nI i + nI 1).toNatClampNeg), .int (xs (nI i + nI 2).toNatClampNeg), .int (xs (nI i + nI 3).toNatClampNeg)]) (rest := [.int r1]) C0 (c_X11_like τ (xs (nI i + nI 1).toNatClampNeg) (xs (nI i + nI 2).toNatClampNeg) (xs (nI i + nI 3).toNatClampNeg) _ h1) (cwV 3 hts gW_X11_like rfl rfl rfl hdV_X11_like ⟨(Nat.le_of_ble_eq_true rfl), (Nat.le_of_ble_eq_true rfl)⟩) hI rfl hl.1 rfl (Nat.le_of_ble_eq_true rfl) dL_law_441 ⟨(Nat.le_of_ble_eq_true rfl), (Nat.le_of_ble_eq_true rfl)⟩ (fun r2 τ1 H locs h2 hI => ?_)
  exact lv_icmp_eq (tgt := 771) hx hb dL_law_444 (by decide) (fun _ => kk _ _ _ _ hI h2.2) (fun q => absurd h2.1 q)
set_option maxHeartbeats 4000000 in
set_option maxRecDepth 100000 in
theorem lc_9 {p : Program} {l : Launch} {e : Env} {s : State} {m : MethodId} {below : List Frame} {meth : Method} {c : Code} {H : Heap} {locs : List Loc} {Q : State → Prop} {ls : Array Slot} {D : va_G} {cyI cyZ : ClassId} {tL tS : Nat} {adC adM : Nat → Nat} {σ τ : St} {b L i : Nat} {xs : Nat → Int32} (C0 : Cx p s m #[Value.ref b] meth c code 4 ret RL lw_tbl) (hX : va_X b L xs s s.heap) (hbl : b < s.heap.size) (hL : L ≤ 3072) (hi : i + 6 ≤ L) (hI : LI D cyI cyZ tL tS adC adM s H locs σ τ) (hR : Rel σ τ) (hl : lv_has ls 4 [(0, .ref b), (1, .ref (adC 0)), (2, .ref (adM 0)), (3, .int (nI i))])
    (kk : ∀ (σ' τ' : St) (H1 : Heap) (locs1 : List Loc), LI D cyI cyZ tL tS adC adM s H1 locs1 σ' τ' → Rel σ' τ' → W p l e room_1 s m #[Value.ref b] below meth c H1 locs1 51 29470 Q (F0 m 771 ls [])) : W p l e room_1 s m #[Value.ref b] below meth c H locs 51 29470 Q (F0 m 449 ls []) := by
  obtain ⟨hx, hb, hr, hml, hown, hts, hlocks⟩ := id C0
  have hbA : ¬ (fun q : Nat => s.heap.size ≤ q) b := Nat.not_le.mpr hbl
  have vin : ∀ k : Nat, k < 6 → vp_in (nI i + nI k) L := fun k hk => by rw [nI_add]; exact (vp_in_iffN (by omega)).mpr (by omega)
  refine lv_aload_n hx hb dL_law_449 rfl (lv_at hl 1 rfl) ?_
  refine l_cC (As := []) (rest := []) C0 (c_X10_set σ  _ (op_set hR )) (cwV 0 hts gW_X10_set rfl rfl rfl hdV_X10_set ⟨(Nat.le_of_ble_eq_true rfl), (Nat.le_of_ble_eq_true rfl)⟩) hI rfl hl.1 rfl (Nat.le_of_ble_eq_true rfl) dL_law_450 ⟨(Nat.le_of_ble_eq_true rfl), (Nat.le_of_ble_eq_true rfl)⟩ (fun r1 σ1 H locs h1 hI => ?_)
  refine lv_aload_n hx hb dL_law_453 rfl (lv_at hl 2 rfl) ?_
  refine l_cM (As := []) (rest := [.int r1]) C0 (c_X11_set τ  _ h1) (cwV 0 hts gW_X11_set rfl rfl rfl hdV_X11_set ⟨(Nat.le_of_ble_eq_true rfl), (Nat.le_of_ble_eq_true rfl)⟩) hI rfl hl.1 rfl (Nat.le_of_ble_eq_true rfl) dL_law_454 ⟨(Nat.le_of_ble_eq_true rfl), (Nat.le_of_ble_eq_true rfl)⟩ (fun r2 τ1 H locs h2 hI => ?_)
  exact lv_icmp_eq (tgt := 771) hx hb dL_law_457 (by decide) (fun _ => kk _ _ _ _ hI h2.2) (fun q => absurd h2.1 q)
set_option maxHeartbeats 4000000 in
set_option maxRecDepth 100000 in
theorem lc_10 {p : Program} {l : Launch} {e : Env} {s : State} {m : MethodId} {below : List Frame} {meth : Method} {c : Code} {H : Heap} {locs : List Loc} {Q : State → Prop} {ls : Array Slot} {D : va_G} {cyI cyZ : ClassId} {tL tS : Nat} {adC adM : Nat → Nat} {σ τ : St} {b L i : Nat} {xs : Nat → Int32} (C0 : Cx p s m #[Value.ref b] meth c code 4 ret RL lw_tbl) (hX : va_X b L xs s s.heap) (hbl : b < s.heap.size) (hL : L ≤ 3072) (hi : i + 6 ≤ L) (hI : LI D cyI cyZ tL tS adC adM s H locs σ τ) (hR : Rel σ τ) (hl : lv_has ls 4 [(0, .ref b), (1, .ref (adC 0)), (2, .ref (adM 0)), (3, .int (nI i))])
    (kk : ∀ (σ' τ' : St) (H1 : Heap) (locs1 : List Loc), LI D cyI cyZ tL tS adC adM s H1 locs1 σ' τ' → Rel σ' τ' → W p l e room_1 s m #[Value.ref b] below meth c H1 locs1 51 29470 Q (F0 m 771 ls [])) : W p l e room_1 s m #[Value.ref b] below meth c H locs 51 29470 Q (F0 m 462 ls []) := by
  obtain ⟨hx, hb, hr, hml, hown, hts, hlocks⟩ := id C0
  have hbA : ¬ (fun q : Nat => s.heap.size ≤ q) b := Nat.not_le.mpr hbl
  have vin : ∀ k : Nat, k < 6 → vp_in (nI i + nI k) L := fun k hk => by rw [nI_add]; exact (vp_in_iffN (by omega)).mpr (by omega)
  refine lv_aload_n hx hb dL_law_462 rfl (lv_at hl 1 rfl) ?_
  refine l_cC (As := []) (rest := []) C0 (c_X10_lines σ  _ (op_lines hR )) (cwV 0 hts gW_X10_lines rfl rfl rfl hdV_X10_lines ⟨(Nat.le_of_ble_eq_true rfl), (Nat.le_of_ble_eq_true rfl)⟩) hI rfl hl.1 rfl (Nat.le_of_ble_eq_true rfl) dL_law_463 ⟨(Nat.le_of_ble_eq_true rfl), (Nat.le_of_ble_eq_true rfl)⟩ (fun r1 σ1 H locs h1 hI => ?_)
  refine lv_aload_n hx hb dL_law_466 rfl (lv_at hl 2 rfl) ?_
  refine l_cM (As := []) (rest := [.int r1]) C0 (c_X11_lines τ  _ h1) (cwV 0 hts gW_X11_lines rfl rfl rfl hdV_X11_lines ⟨(Nat.le_of_ble_eq_true rfl), (Nat.le_of_ble_eq_true rfl)⟩) hI rfl hl.1 rfl (Nat.le_of_ble_eq_true rfl) dL_law_467 ⟨(Nat.le_of_ble_eq_true rfl), (Nat.le_of_ble_eq_true rfl)⟩ (fun r2 τ1 H locs h2 hI => ?_)
  exact lv_icmp_eq (tgt := 771) hx hb dL_law_470 (by decide) (fun _ => kk _ _ _ _ hI h2.2) (fun q => absurd h2.1 q)
set_option maxHeartbeats 4000000 in
set_option maxRecDepth 100000 in
theorem lc_11 {p : Program} {l : Launch} {e : Env} {s : State} {m : MethodId} {below : List Frame} {meth : Method} {c : Code} {H : Heap} {locs : List Loc} {Q : State → Prop} {ls : Array Slot} {D : va_G} {cyI cyZ : ClassId} {tL tS : Nat} {adC adM : Nat → Nat} {σ τ : St} {b L i : Nat} {xs : Nat → Int32} (C0 : Cx p s m #[Value.ref b] meth c code 4 ret RL lw_tbl) (hX : va_X b L xs s s.heap) (hbl : b < s.heap.size) (hL : L ≤ 3072) (hi : i + 6 ≤ L) (hI : LI D cyI cyZ tL tS adC adM s H locs σ τ) (hR : Rel σ τ) (hl : lv_has ls 4 [(0, .ref b), (1, .ref (adC 0)), (2, .ref (adM 0)), (3, .int (nI i))])
    (kk : ∀ (σ' τ' : St) (H1 : Heap) (locs1 : List Loc), LI D cyI cyZ tL tS adC adM s H1 locs1 σ' τ' → Rel σ' τ' → W p l e room_1 s m #[Value.ref b] below meth c H1 locs1 51 29470 Q (F0 m 771 ls [])) : W p l e room_1 s m #[Value.ref b] below meth c H locs 51 29470 Q (F0 m 475 ls []) := by
  obtain ⟨hx, hb, hr, hml, hown, hts, hlocks⟩ := id C0
  have hbA : ¬ (fun q : Nat => s.heap.size ≤ q) b := Nat.not_le.mpr hbl
  have vin : ∀ k : Nat, k < 6 → vp_in (nI i + nI k) L := fun k hk => by rw [nI_add]; exact (vp_in_iffN (by omega)).mpr (by omega)
  refine lv_aload_n hx hb dL_law_475 rfl (lv_at hl 1 rfl) ?_
  refine lv_aload_n hx hb dL_law_476 rfl (lv_at hl 0 rfl) ?_
  refine lv_iload_n hx hb dL_law_477 rfl (lv_at hl 3 rfl) ?_
  refine lv_iconst (v := nI 1) hx hb dL_law_478 (by decide) ?_
  refine lv_iadd hx hb dL_law_479 ?_
  refine va_sld hx hb hX hbl hbA hI.2.2.1 (vin 1 (by omega)) dL_law_480 ?_
  refine lv_aload_n hx hb dL_law_481 rfl (lv_at hl 0 rfl) ?_
  refine lv_iload_n hx hb dL_law_482 rfl (lv_at hl 3 rfl) ?_
  refine lv_iconst (v := nI 2) hx hb dL_law_483 (by decide) ?_
  refine lv_iadd hx hb dL_law_484 ?_
  refine va_sld hx hb hX hbl hbA hI.2.2.1 (vin 2 (by omega)) dL_law_485 ?_
  refine l_cC (As := [.int (xs (nI i + nI 1).toNatClampNeg), .int (xs (nI i + nI 2).toNatClampNeg)]) (rest := []) C0 (c_X10_line σ (xs (nI i + nI 1).toNatClampNeg) (xs (nI i + nI 2).toNatClampNeg) _ (op_line hR (xs (nI i + nI 1).toNatClampNeg) (xs (nI i + nI 2).toNatClampNeg))) (cwV 2 hts gW_X10_line rfl rfl rfl hdV_X10_line ⟨(Nat.le_of_ble_eq_true rfl), (Nat.le_of_ble_eq_true rfl)⟩) hI rfl hl.1 rfl (Nat.le_of_ble_eq_true rfl) dL_law_486 ⟨(Nat.le_of_ble_eq_true rfl), (Nat.le_of_ble_eq_true rfl)⟩ (fun r1 σ1 H locs h1 hI => ?_)
  refine lv_aload_n hx hb dL_law_489 rfl (lv_at hl 2 rfl) ?_
  refine lv_aload_n hx hb dL_law_490 rfl (lv_at hl 0 rfl) ?_
  refine lv_iload_n hx hb dL_law_491 rfl (lv_at hl 3 rfl) ?_
  refine lv_iconst (v := nI 1) hx hb dL_law_492 (by decide) ?_
  refine lv_iadd hx hb dL_law_493 ?_
  refine va_sld hx hb hX hbl hbA hI.2.2.1 (vin 1 (by omega)) dL_law_494 ?_
  refine lv_aload_n hx hb dL_law_495 rfl (lv_at hl 0 rfl) ?_
  refine lv_iload_n hx hb dL_law_496 rfl (lv_at hl 3 rfl) ?_
  refine lv_iconst (v := nI 2) hx hb dL_law_497 (by decide) ?_
  refine lv_iadd hx hb dL_law_498 ?_
  refine va_sld hx hb hX hbl hbA hI.2.2.1 (vin 2 (by omega)) dL_law_499 ?_
  refine l_cM (As := [.int (xs (nI i + nI 1).toNatClampNeg), .int (xs (nI i + nI 2).toNatClampNeg)]) (rest := [.int r1]) C0 (c_X11_line τ (xs (nI i + nI 1).toNatClampNeg) (xs (nI i + nI 2).toNatClampNeg) _ h1) (cwV 2 hts gW_X11_line rfl rfl rfl hdV_X11_line ⟨(Nat.le_of_ble_eq_true rfl), (Nat.le_of_ble_eq_true rfl)⟩) hI rfl hl.1 rfl (Nat.le_of_ble_eq_true rfl) dL_law_500 ⟨(Nat.le_of_ble_eq_true rfl), (Nat.le_of_ble_eq_true rfl)⟩ (fun r2 τ1 H locs h2 hI => ?_)
  exact lv_icmp_eq (tgt := 771) hx hb dL_law_503 (by decide) (fun _ => kk _ _ _ _ hI h2.2) (fun q => absurd h2.1 q)
set_option maxHeartbeats 4000000 in
set_option maxRecDepth 100000 in
theorem lc_12 {p : Program} {l : Launch} {e : Env} {s : State} {m : MethodId} {below : List Frame} {meth : Method} {c : Code} {H : Heap} {locs : List Loc} {Q : State → Prop} {ls : Array Slot} {D : va_G} {cyI cyZ : ClassId} {tL tS : Nat} {adC adM : Nat → Nat} {σ τ : St} {b L i : Nat} {xs : Nat → Int32} (C0 : Cx p s m #[Value.ref b] meth c code 4 ret RL lw_tbl) (hX : va_X b L xs s s.heap) (hbl : b < s.heap.size) (hL : L ≤ 3072) (hi : i + 6 ≤ L) (hI : LI D cyI cyZ tL tS adC adM s H locs σ τ) (hR : Rel σ τ) (hl : lv_has ls 4 [(0, .ref b), (1, .ref (adC 0)), (2, .ref (adM 0)), (3, .int (nI i))])
    (kk : ∀ (σ' τ' : St) (H1 : Heap) (locs1 : List Loc), LI D cyI cyZ tL tS adC adM s H1 locs1 σ' τ' → Rel σ' τ' → W p l e room_1 s m #[Value.ref b] below meth c H1 locs1 51 29470 Q (F0 m 771 ls [])) : W p l e room_1 s m #[Value.ref b] below meth c H locs 51 29470 Q (F0 m 508 ls []) := by
  obtain ⟨hx, hb, hr, hml, hown, hts, hlocks⟩ := id C0
  have hbA : ¬ (fun q : Nat => s.heap.size ≤ q) b := Nat.not_le.mpr hbl
  have vin : ∀ k : Nat, k < 6 → vp_in (nI i + nI k) L := fun k hk => by rw [nI_add]; exact (vp_in_iffN (by omega)).mpr (by omega)
  refine lv_aload_n hx hb dL_law_508 rfl (lv_at hl 1 rfl) ?_
  refine lv_aload_n hx hb dL_law_509 rfl (lv_at hl 0 rfl) ?_
  refine lv_iload_n hx hb dL_law_510 rfl (lv_at hl 3 rfl) ?_
  refine lv_iconst (v := nI 1) hx hb dL_law_511 (by decide) ?_
  refine lv_iadd hx hb dL_law_512 ?_
  refine va_sld hx hb hX hbl hbA hI.2.2.1 (vin 1 (by omega)) dL_law_513 ?_
  refine lv_aload_n hx hb dL_law_514 rfl (lv_at hl 0 rfl) ?_
  refine lv_iload_n hx hb dL_law_515 rfl (lv_at hl 3 rfl) ?_
  refine lv_iconst (v := nI 2) hx hb dL_law_516 (by decide) ?_
  refine lv_iadd hx hb dL_law_517 ?_
  refine va_sld hx hb hX hbl hbA hI.2.2.1 (vin 2 (by omega)) dL_law_518 ?_
  refine l_cC (As := [.int (xs (nI i + nI 1).toNatClampNeg), .int (xs (nI i + nI 2).toNatClampNeg)]) (rest := []) C0 (c_X10_sign σ (xs (nI i + nI 1).toNatClampNeg) (xs (nI i + nI 2).toNatClampNeg) _ (op_sign hR (xs (nI i + nI 1).toNatClampNeg) (xs (nI i + nI 2).toNatClampNeg))) (cwV 2 hts gW_X10_sign rfl rfl rfl hdV_X10_sign ⟨(Nat.le_of_ble_eq_true rfl), (Nat.le_of_ble_eq_true rfl)⟩) hI rfl hl.1 rfl (Nat.le_of_ble_eq_true rfl) dL_law_519 ⟨(Nat.le_of_ble_eq_true rfl), (Nat.le_of_ble_eq_true rfl)⟩ (fun r1 σ1 H locs h1 hI => ?_)
  refine lv_aload_n hx hb dL_law_522 rfl (lv_at hl 2 rfl) ?_
  refine lv_aload_n hx hb dL_law_523 rfl (lv_at hl 0 rfl) ?_
  refine lv_iload_n hx hb dL_law_524 rfl (lv_at hl 3 rfl) ?_
  refine lv_iconst (v := nI 1) hx hb dL_law_525 (by decide) ?_
  refine lv_iadd hx hb dL_law_526 ?_
  refine va_sld hx hb hX hbl hbA hI.2.2.1 (vin 1 (by omega)) dL_law_527 ?_
  refine lv_aload_n hx hb dL_law_528 rfl (lv_at hl 0 rfl) ?_
  refine lv_iload_n hx hb dL_law_529 rfl (lv_at hl 3 rfl) ?_
  refine lv_iconst (v := nI 2) hx hb dL_law_530 (by decide) ?_
  refine lv_iadd hx hb dL_law_531 ?_
  refine va_sld hx hb hX hbl hbA hI.2.2.1 (vin 2 (by omega)) dL_law_532 ?_
  refine l_cM (As := [.int (xs (nI i + nI 1).toNatClampNeg), .int (xs (nI i + nI 2).toNatClampNeg)]) (rest := [.int r1]) C0 (c_X11_sign τ (xs (nI i + nI 1).toNatClampNeg) (xs (nI i + nI 2).toNatClampNeg) _ h1) (cwV 2 hts gW_X11_sign rfl rfl rfl hdV_X11_sign ⟨(Nat.le_of_ble_eq_true rfl), (Nat.le_of_ble_eq_true rfl)⟩) hI rfl hl.1 rfl (Nat.le_of_ble_eq_true rfl) dL_law_533 ⟨(Nat.le_of_ble_eq_true rfl), (Nat.le_of_ble_eq_true rfl)⟩ (fun r2 τ1 H locs h2 hI => ?_)
  exact lv_icmp_eq (tgt := 771) hx hb dL_law_536 (by decide) (fun _ => kk _ _ _ _ hI h2.2) (fun q => absurd h2.1 q)
set_option maxHeartbeats 4000000 in
set_option maxRecDepth 100000 in
theorem lc_13 {p : Program} {l : Launch} {e : Env} {s : State} {m : MethodId} {below : List Frame} {meth : Method} {c : Code} {H : Heap} {locs : List Loc} {Q : State → Prop} {ls : Array Slot} {D : va_G} {cyI cyZ : ClassId} {tL tS : Nat} {adC adM : Nat → Nat} {σ τ : St} {b L i : Nat} {xs : Nat → Int32} (C0 : Cx p s m #[Value.ref b] meth c code 4 ret RL lw_tbl) (hX : va_X b L xs s s.heap) (hbl : b < s.heap.size) (hL : L ≤ 3072) (hi : i + 6 ≤ L) (hI : LI D cyI cyZ tL tS adC adM s H locs σ τ) (hR : Rel σ τ) (hl : lv_has ls 4 [(0, .ref b), (1, .ref (adC 0)), (2, .ref (adM 0)), (3, .int (nI i))])
    (kk : ∀ (σ' τ' : St) (H1 : Heap) (locs1 : List Loc), LI D cyI cyZ tL tS adC adM s H1 locs1 σ' τ' → Rel σ' τ' → W p l e room_1 s m #[Value.ref b] below meth c H1 locs1 51 29470 Q (F0 m 771 ls [])) : W p l e room_1 s m #[Value.ref b] below meth c H locs 51 29470 Q (F0 m 541 ls []) := by
  obtain ⟨hx, hb, hr, hml, hown, hts, hlocks⟩ := id C0
  have hbA : ¬ (fun q : Nat => s.heap.size ≤ q) b := Nat.not_le.mpr hbl
  have vin : ∀ k : Nat, k < 6 → vp_in (nI i + nI k) L := fun k hk => by rw [nI_add]; exact (vp_in_iffN (by omega)).mpr (by omega)
  refine lv_aload_n hx hb dL_law_541 rfl (lv_at hl 1 rfl) ?_
  refine lv_aload_n hx hb dL_law_542 rfl (lv_at hl 0 rfl) ?_
  refine lv_iload_n hx hb dL_law_543 rfl (lv_at hl 3 rfl) ?_
  refine lv_iconst (v := nI 1) hx hb dL_law_544 (by decide) ?_
  refine lv_iadd hx hb dL_law_545 ?_
  refine va_sld hx hb hX hbl hbA hI.2.2.1 (vin 1 (by omega)) dL_law_546 ?_
  refine l_cC (As := [.int (xs (nI i + nI 1).toNatClampNeg)]) (rest := []) C0 (c_X10_rivers σ (xs (nI i + nI 1).toNatClampNeg) _ (op_rivers hR (xs (nI i + nI 1).toNatClampNeg))) (cwV 1 hts gW_X10_rivers rfl rfl rfl hdV_X10_rivers ⟨(Nat.le_of_ble_eq_true rfl), (Nat.le_of_ble_eq_true rfl)⟩) hI rfl hl.1 rfl (Nat.le_of_ble_eq_true rfl) dL_law_547 ⟨(Nat.le_of_ble_eq_true rfl), (Nat.le_of_ble_eq_true rfl)⟩ (fun r1 σ1 H locs h1 hI => ?_)
  refine lv_aload_n hx hb dL_law_550 rfl (lv_at hl 2 rfl) ?_
  refine lv_aload_n hx hb dL_law_551 rfl (lv_at hl 0 rfl) ?_
  refine lv_iload_n hx hb dL_law_552 rfl (lv_at hl 3 rfl) ?_
  refine lv_iconst (v := nI 1) hx hb dL_law_553 (by decide) ?_
  refine lv_iadd hx hb dL_law_554 ?_
  refine va_sld hx hb hX hbl hbA hI.2.2.1 (vin 1 (by omega)) dL_law_555 ?_
  refine l_cM (As := [.int (xs (nI i + nI 1).toNatClampNeg)]) (rest := [.int r1]) C0 (c_X11_rivers τ (xs (nI i + nI 1).toNatClampNeg) _ h1) (cwV 1 hts gW_X11_rivers rfl rfl rfl hdV_X11_rivers ⟨(Nat.le_of_ble_eq_true rfl), (Nat.le_of_ble_eq_true rfl)⟩) hI rfl hl.1 rfl (Nat.le_of_ble_eq_true rfl) dL_law_556 ⟨(Nat.le_of_ble_eq_true rfl), (Nat.le_of_ble_eq_true rfl)⟩ (fun r2 τ1 H locs h2 hI => ?_)
  exact lv_icmp_eq (tgt := 771) hx hb dL_law_559 (by decide) (fun _ => kk _ _ _ _ hI h2.2) (fun q => absurd h2.1 q)
set_option maxHeartbeats 4000000 in
set_option maxRecDepth 100000 in
theorem lc_14 {p : Program} {l : Launch} {e : Env} {s : State} {m : MethodId} {below : List Frame} {meth : Method} {c : Code} {H : Heap} {locs : List Loc} {Q : State → Prop} {ls : Array Slot} {D : va_G} {cyI cyZ : ClassId} {tL tS : Nat} {adC adM : Nat → Nat} {σ τ : St} {b L i : Nat} {xs : Nat → Int32} (C0 : Cx p s m #[Value.ref b] meth c code 4 ret RL lw_tbl) (hX : va_X b L xs s s.heap) (hbl : b < s.heap.size) (hL : L ≤ 3072) (hi : i + 6 ≤ L) (hI : LI D cyI cyZ tL tS adC adM s H locs σ τ) (hR : Rel σ τ) (hl : lv_has ls 4 [(0, .ref b), (1, .ref (adC 0)), (2, .ref (adM 0)), (3, .int (nI i))])
    (kk : ∀ (σ' τ' : St) (H1 : Heap) (locs1 : List Loc), LI D cyI cyZ tL tS adC adM s H1 locs1 σ' τ' → Rel σ' τ' → W p l e room_1 s m #[Value.ref b] below meth c H1 locs1 51 29470 Q (F0 m 771 ls [])) : W p l e room_1 s m #[Value.ref b] below meth c H locs 51 29470 Q (F0 m 564 ls []) := by
  obtain ⟨hx, hb, hr, hml, hown, hts, hlocks⟩ := id C0
  have hbA : ¬ (fun q : Nat => s.heap.size ≤ q) b := Nat.not_le.mpr hbl
  have vin : ∀ k : Nat, k < 6 → vp_in (nI i + nI k) L := fun k hk => by rw [nI_add]; exact (vp_in_iffN (by omega)).mpr (by omega)
  refine lv_aload_n hx hb dL_law_564 rfl (lv_at hl 1 rfl) ?_
  refine lv_aload_n hx hb dL_law_565 rfl (lv_at hl 0 rfl) ?_
  refine lv_iload_n hx hb dL_law_566 rfl (lv_at hl 3 rfl) ?_
  refine lv_iconst (v := nI 1) hx hb dL_law_567 (by decide) ?_
  refine lv_iadd hx hb dL_law_568 ?_
  refine va_sld hx hb hX hbl hbA hI.2.2.1 (vin 1 (by omega)) dL_law_569 ?_
  refine lv_aload_n hx hb dL_law_570 rfl (lv_at hl 0 rfl) ?_
  refine lv_iload_n hx hb dL_law_571 rfl (lv_at hl 3 rfl) ?_
  refine lv_iconst (v := nI 2) hx hb dL_law_572 (by decide) ?_
  refine lv_iadd hx hb dL_law_573 ?_
  refine va_sld hx hb hX hbl hbA hI.2.2.1 (vin 2 (by omega)) dL_law_574 ?_
  refine l_cC (As := [.int (xs (nI i + nI 1).toNatClampNeg), .int (xs (nI i + nI 2).toNatClampNeg)]) (rest := []) C0 (c_X10_page σ (xs (nI i + nI 1).toNatClampNeg) (xs (nI i + nI 2).toNatClampNeg) _ (op_page hR (xs (nI i + nI 1).toNatClampNeg) (xs (nI i + nI 2).toNatClampNeg))) (cwV 2 hts gW_X10_page rfl rfl rfl hdV_X10_page ⟨(Nat.le_of_ble_eq_true rfl), (Nat.le_of_ble_eq_true rfl)⟩) hI rfl hl.1 rfl (Nat.le_of_ble_eq_true rfl) dL_law_575 ⟨(Nat.le_of_ble_eq_true rfl), (Nat.le_of_ble_eq_true rfl)⟩ (fun r1 σ1 H locs h1 hI => ?_)
  refine lv_aload_n hx hb dL_law_578 rfl (lv_at hl 2 rfl) ?_
  refine lv_aload_n hx hb dL_law_579 rfl (lv_at hl 0 rfl) ?_
  refine lv_iload_n hx hb dL_law_580 rfl (lv_at hl 3 rfl) ?_
  refine lv_iconst (v := nI 1) hx hb dL_law_581 (by decide) ?_
  refine lv_iadd hx hb dL_law_582 ?_
  refine va_sld hx hb hX hbl hbA hI.2.2.1 (vin 1 (by omega)) dL_law_583 ?_
  refine lv_aload_n hx hb dL_law_584 rfl (lv_at hl 0 rfl) ?_
  refine lv_iload_n hx hb dL_law_585 rfl (lv_at hl 3 rfl) ?_
  refine lv_iconst (v := nI 2) hx hb dL_law_586 (by decide) ?_
  refine lv_iadd hx hb dL_law_587 ?_
  refine va_sld hx hb hX hbl hbA hI.2.2.1 (vin 2 (by omega)) dL_law_588 ?_
  refine l_cM (As := [.int (xs (nI i + nI 1).toNatClampNeg), .int (xs (nI i + nI 2).toNatClampNeg)]) (rest := [.int r1]) C0 (c_X11_page τ (xs (nI i + nI 1).toNatClampNeg) (xs (nI i + nI 2).toNatClampNeg) _ h1) (cwV 2 hts gW_X11_page rfl rfl rfl hdV_X11_page ⟨(Nat.le_of_ble_eq_true rfl), (Nat.le_of_ble_eq_true rfl)⟩) hI rfl hl.1 rfl (Nat.le_of_ble_eq_true rfl) dL_law_589 ⟨(Nat.le_of_ble_eq_true rfl), (Nat.le_of_ble_eq_true rfl)⟩ (fun r2 τ1 H locs h2 hI => ?_)
  exact lv_icmp_eq (tgt := 771) hx hb dL_law_592 (by decide) (fun _ => kk _ _ _ _ hI h2.2) (fun q => absurd h2.1 q)
set_option maxHeartbeats 4000000 in
set_option maxRecDepth 100000 in
theorem lc_15 {p : Program} {l : Launch} {e : Env} {s : State} {m : MethodId} {below : List Frame} {meth : Method} {c : Code} {H : Heap} {locs : List Loc} {Q : State → Prop} {ls : Array Slot} {D : va_G} {cyI cyZ : ClassId} {tL tS : Nat} {adC adM : Nat → Nat} {σ τ : St} {b L i : Nat} {xs : Nat → Int32} (C0 : Cx p s m #[Value.ref b] meth c code 4 ret RL lw_tbl) (hX : va_X b L xs s s.heap) (hbl : b < s.heap.size) (hL : L ≤ 3072) (hi : i + 6 ≤ L) (hI : LI D cyI cyZ tL tS adC adM s H locs σ τ) (hR : Rel σ τ) (hl : lv_has ls 4 [(0, .ref b), (1, .ref (adC 0)), (2, .ref (adM 0)), (3, .int (nI i))])
    (kk : ∀ (σ' τ' : St) (H1 : Heap) (locs1 : List Loc), LI D cyI cyZ tL tS adC adM s H1 locs1 σ' τ' → Rel σ' τ' → W p l e room_1 s m #[Value.ref b] below meth c H1 locs1 51 29470 Q (F0 m 771 ls [])) : W p l e room_1 s m #[Value.ref b] below meth c H locs 51 29470 Q (F0 m 597 ls []) := by
  obtain ⟨hx, hb, hr, hml, hown, hts, hlocks⟩ := id C0
  have hbA : ¬ (fun q : Nat => s.heap.size ≤ q) b := Nat.not_le.mpr hbl
  have vin : ∀ k : Nat, k < 6 → vp_in (nI i + nI k) L := fun k hk => by rw [nI_add]; exact (vp_in_iffN (by omega)).mpr (by omega)
  refine lv_aload_n hx hb dL_law_597 rfl (lv_at hl 1 rfl) ?_
  refine lv_aload_n hx hb dL_law_598 rfl (lv_at hl 0 rfl) ?_
  refine lv_iload_n hx hb dL_law_599 rfl (lv_at hl 3 rfl) ?_
  refine lv_iconst (v := nI 1) hx hb dL_law_600 (by decide) ?_
  refine lv_iadd hx hb dL_law_601 ?_
  refine va_sld hx hb hX hbl hbA hI.2.2.1 (vin 1 (by omega)) dL_law_602 ?_
  refine l_cC (As := [.int (xs (nI i + nI 1).toNatClampNeg)]) (rest := []) C0 (c_X10_mark σ (xs (nI i + nI 1).toNatClampNeg) _ (op_mark hR (xs (nI i + nI 1).toNatClampNeg))) (cwV 1 hts gW_X10_mark rfl rfl rfl hdV_X10_mark ⟨(Nat.le_of_ble_eq_true rfl), (Nat.le_of_ble_eq_true rfl)⟩) hI rfl hl.1 rfl (Nat.le_of_ble_eq_true rfl) dL_law_603 ⟨(Nat.le_of_ble_eq_true rfl), (Nat.le_of_ble_eq_true rfl)⟩ (fun r1 σ1 H locs h1 hI => ?_)
  refine lv_aload_n hx hb dL_law_606 rfl (lv_at hl 2 rfl) ?_
  refine lv_aload_n hx hb dL_law_607 rfl (lv_at hl 0 rfl) ?_
  refine lv_iload_n hx hb dL_law_608 rfl (lv_at hl 3 rfl) ?_
  refine lv_iconst (v := nI 1) hx hb dL_law_609 (by decide) ?_
  refine lv_iadd hx hb dL_law_610 ?_
  refine va_sld hx hb hX hbl hbA hI.2.2.1 (vin 1 (by omega)) dL_law_611 ?_
  refine l_cM (As := [.int (xs (nI i + nI 1).toNatClampNeg)]) (rest := [.int r1]) C0 (c_X11_mark τ (xs (nI i + nI 1).toNatClampNeg) _ h1) (cwV 1 hts gW_X11_mark rfl rfl rfl hdV_X11_mark ⟨(Nat.le_of_ble_eq_true rfl), (Nat.le_of_ble_eq_true rfl)⟩) hI rfl hl.1 rfl (Nat.le_of_ble_eq_true rfl) dL_law_612 ⟨(Nat.le_of_ble_eq_true rfl), (Nat.le_of_ble_eq_true rfl)⟩ (fun r2 τ1 H locs h2 hI => ?_)
  exact lv_icmp_eq (tgt := 771) hx hb dL_law_615 (by decide) (fun _ => kk _ _ _ _ hI h2.2) (fun q => absurd h2.1 q)
set_option maxHeartbeats 4000000 in
set_option maxRecDepth 100000 in
theorem lc_16 {p : Program} {l : Launch} {e : Env} {s : State} {m : MethodId} {below : List Frame} {meth : Method} {c : Code} {H : Heap} {locs : List Loc} {Q : State → Prop} {ls : Array Slot} {D : va_G} {cyI cyZ : ClassId} {tL tS : Nat} {adC adM : Nat → Nat} {σ τ : St} {b L i : Nat} {xs : Nat → Int32} (C0 : Cx p s m #[Value.ref b] meth c code 4 ret RL lw_tbl) (hX : va_X b L xs s s.heap) (hbl : b < s.heap.size) (hL : L ≤ 3072) (hi : i + 6 ≤ L) (hI : LI D cyI cyZ tL tS adC adM s H locs σ τ) (hR : Rel σ τ) (hl : lv_has ls 4 [(0, .ref b), (1, .ref (adC 0)), (2, .ref (adM 0)), (3, .int (nI i))])
    (kk : ∀ (σ' τ' : St) (H1 : Heap) (locs1 : List Loc), LI D cyI cyZ tL tS adC adM s H1 locs1 σ' τ' → Rel σ' τ' → W p l e room_1 s m #[Value.ref b] below meth c H1 locs1 51 29470 Q (F0 m 771 ls [])) : W p l e room_1 s m #[Value.ref b] below meth c H locs 51 29470 Q (F0 m 620 ls []) := by
  obtain ⟨hx, hb, hr, hml, hown, hts, hlocks⟩ := id C0
  have hbA : ¬ (fun q : Nat => s.heap.size ≤ q) b := Nat.not_le.mpr hbl
  have vin : ∀ k : Nat, k < 6 → vp_in (nI i + nI k) L := fun k hk => by rw [nI_add]; exact (vp_in_iffN (by omega)).mpr (by omega)
  refine lv_aload_n hx hb dL_law_620 rfl (lv_at hl 1 rfl) ?_
  refine lv_aload_n hx hb dL_law_621 rfl (lv_at hl 0 rfl) ?_
  refine lv_iload_n hx hb dL_law_622 rfl (lv_at hl 3 rfl) ?_
  refine lv_iconst (v := nI 1) hx hb dL_law_623 (by decide) ?_
  refine lv_iadd hx hb dL_law_624 ?_
  refine va_sld hx hb hX hbl hbA hI.2.2.1 (vin 1 (by omega)) dL_law_625 ?_
  refine lv_aload_n hx hb dL_law_626 rfl (lv_at hl 0 rfl) ?_
  refine lv_iload_n hx hb dL_law_627 rfl (lv_at hl 3 rfl) ?_
  refine lv_iconst (v := nI 2) hx hb dL_law_628 (by decide) ?_
  refine lv_iadd hx hb dL_law_629 ?_
  refine va_sld hx hb hX hbl hbA hI.2.2.1 (vin 2 (by omega)) dL_law_630 ?_
  refine l_cC (As := [.int (xs (nI i + nI 1).toNatClampNeg), .int (xs (nI i + nI 2).toNatClampNeg)]) (rest := []) C0 (c_X10_marked σ (xs (nI i + nI 1).toNatClampNeg) (xs (nI i + nI 2).toNatClampNeg) _ (op_marked hR (xs (nI i + nI 1).toNatClampNeg) (xs (nI i + nI 2).toNatClampNeg))) (cwV 2 hts gW_X10_marked rfl rfl rfl hdV_X10_marked ⟨(Nat.le_of_ble_eq_true rfl), (Nat.le_of_ble_eq_true rfl)⟩) hI rfl hl.1 rfl (Nat.le_of_ble_eq_true rfl) dL_law_631 ⟨(Nat.le_of_ble_eq_true rfl), (Nat.le_of_ble_eq_true rfl)⟩ (fun r1 σ1 H locs h1 hI => ?_)
  refine lv_aload_n hx hb dL_law_634 rfl (lv_at hl 2 rfl) ?_
  refine lv_aload_n hx hb dL_law_635 rfl (lv_at hl 0 rfl) ?_
  refine lv_iload_n hx hb dL_law_636 rfl (lv_at hl 3 rfl) ?_
  refine lv_iconst (v := nI 1) hx hb dL_law_637 (by decide) ?_
  refine lv_iadd hx hb dL_law_638 ?_
  refine va_sld hx hb hX hbl hbA hI.2.2.1 (vin 1 (by omega)) dL_law_639 ?_
  refine lv_aload_n hx hb dL_law_640 rfl (lv_at hl 0 rfl) ?_
  refine lv_iload_n hx hb dL_law_641 rfl (lv_at hl 3 rfl) ?_
  refine lv_iconst (v := nI 2) hx hb dL_law_642 (by decide) ?_
  refine lv_iadd hx hb dL_law_643 ?_
  refine va_sld hx hb hX hbl hbA hI.2.2.1 (vin 2 (by omega)) dL_law_644 ?_
  refine l_cM (As := [.int (xs (nI i + nI 1).toNatClampNeg), .int (xs (nI i + nI 2).toNatClampNeg)]) (rest := [.int r1]) C0 (c_X11_marked τ (xs (nI i + nI 1).toNatClampNeg) (xs (nI i + nI 2).toNatClampNeg) _ h1) (cwV 2 hts gW_X11_marked rfl rfl rfl hdV_X11_marked ⟨(Nat.le_of_ble_eq_true rfl), (Nat.le_of_ble_eq_true rfl)⟩) hI rfl hl.1 rfl (Nat.le_of_ble_eq_true rfl) dL_law_645 ⟨(Nat.le_of_ble_eq_true rfl), (Nat.le_of_ble_eq_true rfl)⟩ (fun r2 τ1 H locs h2 hI => ?_)
  exact lv_icmp_eq (tgt := 771) hx hb dL_law_648 (by decide) (fun _ => kk _ _ _ _ hI h2.2) (fun q => absurd h2.1 q)
set_option maxHeartbeats 4000000 in
set_option maxRecDepth 100000 in
theorem lc_17 {p : Program} {l : Launch} {e : Env} {s : State} {m : MethodId} {below : List Frame} {meth : Method} {c : Code} {H : Heap} {locs : List Loc} {Q : State → Prop} {ls : Array Slot} {D : va_G} {cyI cyZ : ClassId} {tL tS : Nat} {adC adM : Nat → Nat} {σ τ : St} {b L i : Nat} {xs : Nat → Int32} (C0 : Cx p s m #[Value.ref b] meth c code 4 ret RL lw_tbl) (hX : va_X b L xs s s.heap) (hbl : b < s.heap.size) (hL : L ≤ 3072) (hi : i + 6 ≤ L) (hI : LI D cyI cyZ tL tS adC adM s H locs σ τ) (hR : Rel σ τ) (hl : lv_has ls 4 [(0, .ref b), (1, .ref (adC 0)), (2, .ref (adM 0)), (3, .int (nI i))])
    (kk : ∀ (σ' τ' : St) (H1 : Heap) (locs1 : List Loc), LI D cyI cyZ tL tS adC adM s H1 locs1 σ' τ' → Rel σ' τ' → W p l e room_1 s m #[Value.ref b] below meth c H1 locs1 51 29470 Q (F0 m 771 ls [])) : W p l e room_1 s m #[Value.ref b] below meth c H locs 51 29470 Q (F0 m 653 ls []) := by
  obtain ⟨hx, hb, hr, hml, hown, hts, hlocks⟩ := id C0
  have hbA : ¬ (fun q : Nat => s.heap.size ≤ q) b := Nat.not_le.mpr hbl
  have vin : ∀ k : Nat, k < 6 → vp_in (nI i + nI k) L := fun k hk => by rw [nI_add]; exact (vp_in_iffN (by omega)).mpr (by omega)
  refine lv_aload_n hx hb dL_law_653 rfl (lv_at hl 1 rfl) ?_
  refine lv_aload_n hx hb dL_law_654 rfl (lv_at hl 0 rfl) ?_
  refine lv_iload_n hx hb dL_law_655 rfl (lv_at hl 3 rfl) ?_
  refine lv_iconst (v := nI 1) hx hb dL_law_656 (by decide) ?_
  refine lv_iadd hx hb dL_law_657 ?_
  refine va_sld hx hb hX hbl hbA hI.2.2.1 (vin 1 (by omega)) dL_law_658 ?_
  refine lv_aload_n hx hb dL_law_659 rfl (lv_at hl 0 rfl) ?_
  refine lv_iload_n hx hb dL_law_660 rfl (lv_at hl 3 rfl) ?_
  refine lv_iconst (v := nI 2) hx hb dL_law_661 (by decide) ?_
  refine lv_iadd hx hb dL_law_662 ?_
  refine va_sld hx hb hX hbl hbA hI.2.2.1 (vin 2 (by omega)) dL_law_663 ?_
  refine lv_aload_n hx hb dL_law_664 rfl (lv_at hl 0 rfl) ?_
  refine lv_iload_n hx hb dL_law_665 rfl (lv_at hl 3 rfl) ?_
  refine lv_iconst (v := nI 3) hx hb dL_law_666 (by decide) ?_
  refine lv_iadd hx hb dL_law_667 ?_
  refine va_sld hx hb hX hbl hbA hI.2.2.1 (vin 3 (by omega)) dL_law_668 ?_
  refine l_cC (As := [.int (xs (nI i + nI 1).toNatClampNeg), .int (xs (nI i + nI 2).toNatClampNeg), .int (xs (nI i + nI 3).toNatClampNeg)]) (rest := []) C0 (c_X10_test σ (xs (nI i + nI 1).toNatClampNeg) (xs (nI i + nI 2).toNatClampNeg) (xs (nI i + nI 3).toNatClampNeg) _ (op_test hR (xs (nI i + nI 1).toNatClampNeg) (xs (nI i + nI 2).toNatClampNeg) (xs (nI i + nI 3).toNatClampNeg))) (cwV 3 hts gW_X10_test rfl rfl rfl hdV_X10_test ⟨(Nat.le_of_ble_eq_true rfl), (Nat.le_of_ble_eq_true rfl)⟩) hI rfl hl.1 rfl (Nat.le_of_ble_eq_true rfl) dL_law_669 ⟨(Nat.le_of_ble_eq_true rfl), (Nat.le_of_ble_eq_true rfl)⟩ (fun r1 σ1 H locs h1 hI => ?_)
  refine lv_aload_n hx hb dL_law_672 rfl (lv_at hl 2 rfl) ?_
  refine lv_aload_n hx hb dL_law_673 rfl (lv_at hl 0 rfl) ?_
  refine lv_iload_n hx hb dL_law_674 rfl (lv_at hl 3 rfl) ?_
  refine lv_iconst (v := nI 1) hx hb dL_law_675 (by decide) ?_
  refine lv_iadd hx hb dL_law_676 ?_
  refine va_sld hx hb hX hbl hbA hI.2.2.1 (vin 1 (by omega)) dL_law_677 ?_
  refine lv_aload_n hx hb dL_law_678 rfl (lv_at hl 0 rfl) ?_
  refine lv_iload_n hx hb dL_law_679 rfl (lv_at hl 3 rfl) ?_
  refine lv_iconst (v := nI 2) hx hb dL_law_680 (by decide) ?_
  refine lv_iadd hx hb dL_law_681 ?_
  refine va_sld hx hb hX hbl hbA hI.2.2.1 (vin 2 (by omega)) dL_law_682 ?_
  refine lv_aload_n hx hb dL_law_683 rfl (lv_at hl 0 rfl) ?_
  refine lv_iload_n hx hb dL_law_684 rfl (lv_at hl 3 rfl) ?_
  refine lv_iconst (v := nI 3) hx hb dL_law_685 (by decide) ?_
  refine lv_iadd hx hb dL_law_686 ?_
  refine va_sld hx hb hX hbl hbA hI.2.2.1 (vin 3 (by omega)) dL_law_687 ?_
  refine l_cM (As := [.int (xs (nI i + nI 1).toNatClampNeg), .int (xs (nI i + nI 2).toNatClampNeg), .int (xs (nI i + nI 3).toNatClampNeg)]) (rest := [.int r1]) C0 (c_X11_test τ (xs (nI i + nI 1).toNatClampNeg) (xs (nI i + nI 2).toNatClampNeg) (xs (nI i + nI 3).toNatClampNeg) _ h1) (cwV 3 hts gW_X11_test rfl rfl rfl hdV_X11_test ⟨(Nat.le_of_ble_eq_true rfl), (Nat.le_of_ble_eq_true rfl)⟩) hI rfl hl.1 rfl (Nat.le_of_ble_eq_true rfl) dL_law_688 ⟨(Nat.le_of_ble_eq_true rfl), (Nat.le_of_ble_eq_true rfl)⟩ (fun r2 τ1 H locs h2 hI => ?_)
  exact lv_icmp_eq (tgt := 771) hx hb dL_law_691 (by decide) (fun _ => kk _ _ _ _ hI h2.2) (fun q => absurd h2.1 q)
set_option maxHeartbeats 4000000 in
set_option maxRecDepth 100000 in
theorem lc_18 {p : Program} {l : Launch} {e : Env} {s : State} {m : MethodId} {below : List Frame} {meth : Method} {c : Code} {H : Heap} {locs : List Loc} {Q : State → Prop} {ls : Array Slot} {D : va_G} {cyI cyZ : ClassId} {tL tS : Nat} {adC adM : Nat → Nat} {σ τ : St} {b L i : Nat} {xs : Nat → Int32} (C0 : Cx p s m #[Value.ref b] meth c code 4 ret RL lw_tbl) (hX : va_X b L xs s s.heap) (hbl : b < s.heap.size) (hL : L ≤ 3072) (hi : i + 6 ≤ L) (hI : LI D cyI cyZ tL tS adC adM s H locs σ τ) (hR : Rel σ τ) (hl : lv_has ls 4 [(0, .ref b), (1, .ref (adC 0)), (2, .ref (adM 0)), (3, .int (nI i))])
    (kk : ∀ (σ' τ' : St) (H1 : Heap) (locs1 : List Loc), LI D cyI cyZ tL tS adC adM s H1 locs1 σ' τ' → Rel σ' τ' → W p l e room_1 s m #[Value.ref b] below meth c H1 locs1 51 29470 Q (F0 m 771 ls [])) : W p l e room_1 s m #[Value.ref b] below meth c H locs 51 29470 Q (F0 m 696 ls []) := by
  obtain ⟨hx, hb, hr, hml, hown, hts, hlocks⟩ := id C0
  have hbA : ¬ (fun q : Nat => s.heap.size ≤ q) b := Nat.not_le.mpr hbl
  have vin : ∀ k : Nat, k < 6 → vp_in (nI i + nI k) L := fun k hk => by rw [nI_add]; exact (vp_in_iffN (by omega)).mpr (by omega)
  refine lv_aload_n hx hb dL_law_696 rfl (lv_at hl 1 rfl) ?_
  refine lv_aload_n hx hb dL_law_697 rfl (lv_at hl 0 rfl) ?_
  refine lv_iload_n hx hb dL_law_698 rfl (lv_at hl 3 rfl) ?_
  refine lv_iconst (v := nI 1) hx hb dL_law_699 (by decide) ?_
  refine lv_iadd hx hb dL_law_700 ?_
  refine va_sld hx hb hX hbl hbA hI.2.2.1 (vin 1 (by omega)) dL_law_701 ?_
  refine l_cC (As := [.int (xs (nI i + nI 1).toNatClampNeg)]) (rest := []) C0 (c_X10_tested σ (xs (nI i + nI 1).toNatClampNeg) _ (op_tested hR (xs (nI i + nI 1).toNatClampNeg))) (cwV 1 hts gW_X10_tested rfl rfl rfl hdV_X10_tested ⟨(Nat.le_of_ble_eq_true rfl), (Nat.le_of_ble_eq_true rfl)⟩) hI rfl hl.1 rfl (Nat.le_of_ble_eq_true rfl) dL_law_702 ⟨(Nat.le_of_ble_eq_true rfl), (Nat.le_of_ble_eq_true rfl)⟩ (fun r1 σ1 H locs h1 hI => ?_)
  refine lv_aload_n hx hb dL_law_705 rfl (lv_at hl 2 rfl) ?_
  refine lv_aload_n hx hb dL_law_706 rfl (lv_at hl 0 rfl) ?_
  refine lv_iload_n hx hb dL_law_707 rfl (lv_at hl 3 rfl) ?_
  refine lv_iconst (v := nI 1) hx hb dL_law_708 (by decide) ?_
  refine lv_iadd hx hb dL_law_709 ?_
  refine va_sld hx hb hX hbl hbA hI.2.2.1 (vin 1 (by omega)) dL_law_710 ?_
  refine l_cM (As := [.int (xs (nI i + nI 1).toNatClampNeg)]) (rest := [.int r1]) C0 (c_X11_tested τ (xs (nI i + nI 1).toNatClampNeg) _ h1) (cwV 1 hts gW_X11_tested rfl rfl rfl hdV_X11_tested ⟨(Nat.le_of_ble_eq_true rfl), (Nat.le_of_ble_eq_true rfl)⟩) hI rfl hl.1 rfl (Nat.le_of_ble_eq_true rfl) dL_law_711 ⟨(Nat.le_of_ble_eq_true rfl), (Nat.le_of_ble_eq_true rfl)⟩ (fun r2 τ1 H locs h2 hI => ?_)
  exact lv_icmp_eq (tgt := 771) hx hb dL_law_714 (by decide) (fun _ => kk _ _ _ _ hI h2.2) (fun q => absurd h2.1 q)
set_option maxHeartbeats 4000000 in
set_option maxRecDepth 100000 in
theorem lc_19 {p : Program} {l : Launch} {e : Env} {s : State} {m : MethodId} {below : List Frame} {meth : Method} {c : Code} {H : Heap} {locs : List Loc} {Q : State → Prop} {ls : Array Slot} {D : va_G} {cyI cyZ : ClassId} {tL tS : Nat} {adC adM : Nat → Nat} {σ τ : St} {b L i : Nat} {xs : Nat → Int32} (C0 : Cx p s m #[Value.ref b] meth c code 4 ret RL lw_tbl) (hX : va_X b L xs s s.heap) (hbl : b < s.heap.size) (hL : L ≤ 3072) (hi : i + 6 ≤ L) (hI : LI D cyI cyZ tL tS adC adM s H locs σ τ) (hR : Rel σ τ) (hl : lv_has ls 4 [(0, .ref b), (1, .ref (adC 0)), (2, .ref (adM 0)), (3, .int (nI i))])
    (kk : ∀ (σ' τ' : St) (H1 : Heap) (locs1 : List Loc), LI D cyI cyZ tL tS adC adM s H1 locs1 σ' τ' → Rel σ' τ' → W p l e room_1 s m #[Value.ref b] below meth c H1 locs1 51 29470 Q (F0 m 771 ls [])) : W p l e room_1 s m #[Value.ref b] below meth c H locs 51 29470 Q (F0 m 719 ls []) := by
  obtain ⟨hx, hb, hr, hml, hown, hts, hlocks⟩ := id C0
  have hbA : ¬ (fun q : Nat => s.heap.size ≤ q) b := Nat.not_le.mpr hbl
  have vin : ∀ k : Nat, k < 6 → vp_in (nI i + nI k) L := fun k hk => by rw [nI_add]; exact (vp_in_iffN (by omega)).mpr (by omega)
  refine lv_aload_n hx hb dL_law_719 rfl (lv_at hl 1 rfl) ?_
  refine lv_aload_n hx hb dL_law_720 rfl (lv_at hl 0 rfl) ?_
  refine lv_iload_n hx hb dL_law_721 rfl (lv_at hl 3 rfl) ?_
  refine lv_iconst (v := nI 1) hx hb dL_law_722 (by decide) ?_
  refine lv_iadd hx hb dL_law_723 ?_
  refine va_sld hx hb hX hbl hbA hI.2.2.1 (vin 1 (by omega)) dL_law_724 ?_
  refine lv_if_eq (tgt := 732) hx hb dL_law_725 (by decide) (fun c725 => ?_) (fun c725 => ?_)
  ·
    refine lv_iconst (v := nI 0) hx hb dL_law_732 (by decide) ?_
    refine l_cC (As := [.int (nI 0)]) (rest := []) C0 (c_X10_answer σ (nI 0) _ (op_answer hR (nI 0))) (cwV 1 hts gW_X10_answer rfl rfl rfl hdV_X10_answer ⟨(Nat.le_of_ble_eq_true rfl), (Nat.le_of_ble_eq_true rfl)⟩) hI rfl hl.1 rfl (Nat.le_of_ble_eq_true rfl) dL_law_733 ⟨(Nat.le_of_ble_eq_true rfl), (Nat.le_of_ble_eq_true rfl)⟩ (fun r1 σ1 H locs h1 hI => ?_)
    refine lv_aload_n hx hb dL_law_736 rfl (lv_at hl 2 rfl) ?_
    refine lv_aload_n hx hb dL_law_737 rfl (lv_at hl 0 rfl) ?_
    refine lv_iload_n hx hb dL_law_738 rfl (lv_at hl 3 rfl) ?_
    refine lv_iconst (v := nI 1) hx hb dL_law_739 (by decide) ?_
    refine lv_iadd hx hb dL_law_740 ?_
    refine va_sld hx hb hX hbl hbA hI.2.2.1 (vin 1 (by omega)) dL_law_741 ?_
    refine lv_if_eq (tgt := 749) hx hb dL_law_742 (by decide) (fun c742 => ?_) (fun c742 => ?_)
    ·
      refine lv_iconst (v := nI 0) hx hb dL_law_749 (by decide) ?_
      refine l_cM (As := [.int (nI 0)]) (rest := [.int r1]) C0 (c_X11_answer τ (nI 0) _ h1) (cwV 1 hts gW_X11_answer rfl rfl rfl hdV_X11_answer ⟨(Nat.le_of_ble_eq_true rfl), (Nat.le_of_ble_eq_true rfl)⟩) hI rfl hl.1 rfl (Nat.le_of_ble_eq_true rfl) dL_law_750 ⟨(Nat.le_of_ble_eq_true rfl), (Nat.le_of_ble_eq_true rfl)⟩ (fun r2 τ1 H locs h2 hI => ?_)
      exact lv_icmp_eq (tgt := 771) hx hb dL_law_753 (by decide) (fun _ => kk _ _ _ _ hI h2.2) (fun q => absurd h2.1 q)
    · exact absurd c725 c742
  ·
    refine lv_iconst (v := nI 1) hx hb dL_law_728 (by decide) ?_
    refine lv_goto (tgt := 733) hx hb dL_law_729 (by decide) ?_
    refine l_cC (As := [.int (nI 1)]) (rest := []) C0 (c_X10_answer σ (nI 1) _ (op_answer hR (nI 1))) (cwV 1 hts gW_X10_answer rfl rfl rfl hdV_X10_answer ⟨(Nat.le_of_ble_eq_true rfl), (Nat.le_of_ble_eq_true rfl)⟩) hI rfl hl.1 rfl (Nat.le_of_ble_eq_true rfl) dL_law_733 ⟨(Nat.le_of_ble_eq_true rfl), (Nat.le_of_ble_eq_true rfl)⟩ (fun r1 σ1 H locs h1 hI => ?_)
    refine lv_aload_n hx hb dL_law_736 rfl (lv_at hl 2 rfl) ?_
    refine lv_aload_n hx hb dL_law_737 rfl (lv_at hl 0 rfl) ?_
    refine lv_iload_n hx hb dL_law_738 rfl (lv_at hl 3 rfl) ?_
    refine lv_iconst (v := nI 1) hx hb dL_law_739 (by decide) ?_
    refine lv_iadd hx hb dL_law_740 ?_
    refine va_sld hx hb hX hbl hbA hI.2.2.1 (vin 1 (by omega)) dL_law_741 ?_
    refine lv_if_eq (tgt := 749) hx hb dL_law_742 (by decide) (fun c742 => ?_) (fun c742 => ?_)
    · exact absurd c742 c725
    ·
      refine lv_iconst (v := nI 1) hx hb dL_law_745 (by decide) ?_
      refine lv_goto (tgt := 750) hx hb dL_law_746 (by decide) ?_
      refine l_cM (As := [.int (nI 1)]) (rest := [.int r1]) C0 (c_X11_answer τ (nI 1) _ h1) (cwV 1 hts gW_X11_answer rfl rfl rfl hdV_X11_answer ⟨(Nat.le_of_ble_eq_true rfl), (Nat.le_of_ble_eq_true rfl)⟩) hI rfl hl.1 rfl (Nat.le_of_ble_eq_true rfl) dL_law_750 ⟨(Nat.le_of_ble_eq_true rfl), (Nat.le_of_ble_eq_true rfl)⟩ (fun r2 τ1 H locs h2 hI => ?_)
      exact lv_icmp_eq (tgt := 771) hx hb dL_law_753 (by decide) (fun _ => kk _ _ _ _ hI h2.2) (fun q => absurd h2.1 q)
set_option maxHeartbeats 4000000 in
set_option maxRecDepth 100000 in
theorem lc_20 {p : Program} {l : Launch} {e : Env} {s : State} {m : MethodId} {below : List Frame} {meth : Method} {c : Code} {H : Heap} {locs : List Loc} {Q : State → Prop} {ls : Array Slot} {D : va_G} {cyI cyZ : ClassId} {tL tS : Nat} {adC adM : Nat → Nat} {σ τ : St} {b L i : Nat} {xs : Nat → Int32} (C0 : Cx p s m #[Value.ref b] meth c code 4 ret RL lw_tbl) (hX : va_X b L xs s s.heap) (hbl : b < s.heap.size) (hL : L ≤ 3072) (hi : i + 6 ≤ L) (hI : LI D cyI cyZ tL tS adC adM s H locs σ τ) (hR : Rel σ τ) (hl : lv_has ls 4 [(0, .ref b), (1, .ref (adC 0)), (2, .ref (adM 0)), (3, .int (nI i))])
    (kk : ∀ (σ' τ' : St) (H1 : Heap) (locs1 : List Loc), LI D cyI cyZ tL tS adC adM s H1 locs1 σ' τ' → Rel σ' τ' → W p l e room_1 s m #[Value.ref b] below meth c H1 locs1 51 29470 Q (F0 m 771 ls [])) : W p l e room_1 s m #[Value.ref b] below meth c H locs 51 29470 Q (F0 m 758 ls []) := by
  obtain ⟨hx, hb, hr, hml, hown, hts, hlocks⟩ := id C0
  have hbA : ¬ (fun q : Nat => s.heap.size ≤ q) b := Nat.not_le.mpr hbl
  have vin : ∀ k : Nat, k < 6 → vp_in (nI i + nI k) L := fun k hk => by rw [nI_add]; exact (vp_in_iffN (by omega)).mpr (by omega)
  refine lv_aload_n hx hb dL_law_758 rfl (lv_at hl 1 rfl) ?_
  refine l_cC (As := []) (rest := []) C0 (c_X10_use σ  _ (op_use hR )) (cwV 0 hts gW_X10_use rfl rfl rfl hdV_X10_use ⟨(Nat.le_of_ble_eq_true rfl), (Nat.le_of_ble_eq_true rfl)⟩) hI rfl hl.1 rfl (Nat.le_of_ble_eq_true rfl) dL_law_759 ⟨(Nat.le_of_ble_eq_true rfl), (Nat.le_of_ble_eq_true rfl)⟩ (fun r1 σ1 H locs h1 hI => ?_)
  refine lv_aload_n hx hb dL_law_762 rfl (lv_at hl 2 rfl) ?_
  refine l_cM (As := []) (rest := [.int r1]) C0 (c_X11_use τ  _ h1) (cwV 0 hts gW_X11_use rfl rfl rfl hdV_X11_use ⟨(Nat.le_of_ble_eq_true rfl), (Nat.le_of_ble_eq_true rfl)⟩) hI rfl hl.1 rfl (Nat.le_of_ble_eq_true rfl) dL_law_763 ⟨(Nat.le_of_ble_eq_true rfl), (Nat.le_of_ble_eq_true rfl)⟩ (fun r2 τ1 H locs h2 hI => ?_)
  exact lv_icmp_eq (tgt := 771) hx hb dL_law_766 (by decide) (fun _ => kk _ _ _ _ hI h2.2) (fun q => absurd h2.1 q)
