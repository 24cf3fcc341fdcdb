/-! THE LAW -/
def R_law : String := "StillTextLaw"
def lw_P (b : Addr) (xs : List Int32) (args : Array Value) (s : State) : Prop := args = #[.ref b] ∧ s.IntsAt b xs ∧ xs.length ≤ 3072 ∧ (Jvm.Cond.and given_1 narrow_1).before args s = true
def lw_Q (_ : Array Value) (s : State) (o : Outcome) (t : State) : Prop := o = .returned (some (.int 1)) ∧ Framed s o t [] 51 29470
def lw_Z (below : List Frame) (a : Array Value) (s : State) : State → Prop := fun t => ∃ o, t.status = .running ∧ Ended t below o ∧ lw_Q a s o t
/-- the law's own end, with 1 on the stack, nothing written that was there before, its room as the claim has it -/
theorem lw_ret {p : Program} {l : Launch} {e : Env} {s : State} {m : MethodId} {below : List Frame} {meth : Method} {c : Code} {b : Nat} (hx : p.tables.exec = Jvm.exec) (hb : c.code = code) (hr : meth.sig.returnType = ret) (hlocks : meth.locks = false) {pc : Nat} {H : Heap} {ls : Array Slot} (hdg : decode code pc = .ok (.ireturn, 1)) : W p l e room_1 s m #[Value.ref b] below meth c H [] 51 29470 (lw_Z below #[Value.ref b] s) (F0 m pc ls [.int 1]) := by
  intro T hT X
  obtain ⟨fs, hret, hrun, hended, hW, hframe⟩ := X.leave (v := some (.int 1)) (hlocks := hlocks) (fun h => by rw [hr] at h; cases h)
  have hmeth' : T.vm.method? m = some meth := X.method'
  refine ⟨T.setFrames fs, ?_, .returned (some (.int 1)), hrun, hended, rfl, ⟨_, rfl⟩, hW, hframe⟩
  jvm_step X.here [X.here.top, hx, hb, hdg, hmeth', hr, ret, narrow_b1]
  (try refine ⟨rfl, ?_⟩); (try refine ⟨rfl, ?_⟩)
  first | (intro acts; rw [hret _ acts rfl rfl rfl]) | rw [hret _ _ rfl rfl rfl]
  exact Steps.refl _
/-- what holds at the law's entry: the machine, the code, the tables' words (any of lw_tbl by 'hts w (by decide +kernel)'), the script of L ints xs at the cell b, what the Statement gives of the start (any of its parts by flat_of_before) -/
def lw_At (p : Program) (s : State) (m : MethodId) (meth : Method) (c : Code) (b L : Nat) (xs : Nat → Int32) : Prop :=
  p.tables.exec = Jvm.exec ∧ c.code = code ∧ meth.sig.returnType = ret ∧ c.maxLocals = 4 ∧ s.vm.findClass R_law = some m.cls ∧ (∀ w ∈ lw_tbl, w.before #[Value.ref b] s = true) ∧ va_X b L xs s s.heap ∧ b < s.heap.size ∧ meth.locks = false ∧ (Jvm.Cond.and given_1 narrow_1).before #[Value.ref b] s = true

/-- both worlds -/
def LI (D : va_G) (cyI cyZ : ClassId) (tL tS : Nat) (adC adM : Nat → Nat) (s : State) (H : Heap) (locs : List Loc) (σ τ : St) : Prop :=
  va_P D vwCl (wC cyI cyZ adC σ ++ wM cyI adM τ) H ∧ va_D (fun q : Nat => s.heap.size ≤ q) (wC cyI cyZ adC σ ++ wM cyI adM τ) ∧ va_S (fun q : Nat => s.heap.size ≤ q) s.heap H locs ∧ va_K D vwCl (tyE cyI cyZ) s ∧ Zz NwC (ZsC tL tS) (fun q : Nat => s.heap.size ≤ q) s s.heap
section LAWS
variable {p : Program} {l : Launch} {e : Env} {R : Room} {s : State} {m : MethodId} {args : Array Value} {below : List Frame} {meth : Method} {c : Code} {H : Heap} {locs : List Loc} {cells slots : Nat} {Q : State → Prop}
variable {cc : ByteArray} {pc : Nat} {ls : Array Slot} {rest st0 : List Value} {D : va_G} {cyI cyZ : ClassId} {tL tS : Nat} {adC adM : Nat → Nat} {σ τ : St}
theorem LI.C (h : LI D cyI cyZ tL tS adC adM s H locs σ τ) : Iw D (tyE cyI cyZ) NwC (ZsC tL tS) (wC cyI cyZ adC) (fun q : Nat => s.heap.size ≤ q) s H locs σ :=
  ⟨h.1.sub [0, 1, 2, 3, 4, 5, 6, 7, 8, 9, 10, 11, 12, 13, 14, 15, 16, 17, 18, 19, 20, 21, 22, 23, 24, 25, 26, 27, 28, 29, 30, 31] rfl, h.2.1.sub [0, 1, 2, 3, 4, 5, 6, 7, 8, 9, 10, 11, 12, 13, 14, 15, 16, 17, 18, 19, 20, 21, 22, 23, 24, 25, 26, 27, 28, 29, 30, 31] (by decide) rfl, h.2.2.1, h.2.2.2.1, fun _ h => h, h.2.2.2.2⟩
theorem LI.M (h : LI D cyI cyZ tL tS adC adM s H locs σ τ) : Iw D (tyM cyI) [] [] (wM cyI adM) (fun q : Nat => s.heap.size ≤ q) s H locs τ :=
  ⟨h.1.sub [32, 33, 34, 35, 36, 37, 38, 39, 40, 41, 42, 43, 44, 45, 46, 47, 48, 49, 50] rfl, h.2.1.sub [32, 33, 34, 35, 36, 37, 38, 39, 40, 41, 42, 43, 44, 45, 46, 47, 48, 49, 50] (by decide) rfl, h.2.2.1, h.2.2.2.1.sub [0] rfl, fun _ h => h, fun _ h => by simp at h, fun _ h => by simp at h⟩
theorem LI.backC {σ' : St} {t : State} {H1 : Heap} {locs1 : List Loc} (h : LI D cyI cyZ tL tS adC adM s H locs σ τ) (ht : t.heap = H1) (hB : Kq D (tyE cyI cyZ) (wC cyI cyZ adC) (va_A (wC cyI cyZ adC σ) H.size) σ' t) (hk : ∀ q : Nat, q < H.size → ¬ va_A (wC cyI cyZ adC σ) H.size q → H1[q]? = H[q]?) (hS1 : va_S (fun q : Nat => s.heap.size ≤ q) s.heap H1 locs1) : LI D cyI cyZ tL tS adC adM s H1 locs1 σ' τ := by
  have hF := h.C.free
  obtain ⟨hP, hD, hS, hK, hZ⟩ := h
  obtain ⟨hP1, hK1, hD1⟩ := hB
  subst ht
  obtain ⟨hP2, hD2⟩ := va_join (wc := wC cyI cyZ adC σ) (wr := wM cyI adM τ) (w1 := wC cyI cyZ adC σ') hP hD [0, 1, 2, 3, 4, 5, 6, 7, 8, 9, 10, 11, 12, 13, 14, 15, 16, 17, 18, 19, 20, 21, 22, 23, 24, 25, 26, 27, 28, 29, 30, 31] [32, 33, 34, 35, 36, 37, 38, 39, 40, 41, 42, 43, 44, 45, 46, 47, 48, 49, 50] rfl rfl (by decide) (by decide) hk hF hP1 hD1
  exact ⟨hP2.sub [19, 20, 21, 22, 23, 24, 25, 26, 27, 28, 29, 30, 31, 32, 33, 34, 35, 36, 37, 38, 39, 40, 41, 42, 43, 44, 45, 46, 47, 48, 49, 50, 0, 1, 2, 3, 4, 5, 6, 7, 8, 9, 10, 11, 12, 13, 14, 15, 16, 17, 18] rfl, hD2.sub [19, 20, 21, 22, 23, 24, 25, 26, 27, 28, 29, 30, 31, 32, 33, 34, 35, 36, 37, 38, 39, 40, 41, 42, 43, 44, 45, 46, 47, 48, 49, 50, 0, 1, 2, 3, 4, 5, 6, 7, 8, 9, 10, 11, 12, 13, 14, 15, 16, 17, 18] (by decide) rfl, hS1, hK, hZ⟩
theorem LI.backM {τ' : St} {t : State} {H1 : Heap} {locs1 : List Loc} (h : LI D cyI cyZ tL tS adC adM s H locs σ τ) (ht : t.heap = H1) (hB : Kq D (tyM cyI) (wM cyI adM) (va_A (wM cyI adM τ) H.size) τ' t) (hk : ∀ q : Nat, q < H.size → ¬ va_A (wM cyI adM τ) H.size q → H1[q]? = H[q]?) (hS1 : va_S (fun q : Nat => s.heap.size ≤ q) s.heap H1 locs1) : LI D cyI cyZ tL tS adC adM s H1 locs1 σ τ' := by
  have hF := h.M.free
  obtain ⟨hP, hD, hS, hK, hZ⟩ := h
  obtain ⟨hP1, hK1, hD1⟩ := hB
  subst ht
  obtain ⟨hP2, hD2⟩ := va_join (wc := wM cyI adM τ) (wr := wC cyI cyZ adC σ) (w1 := wM cyI adM τ') hP hD [32, 33, 34, 35, 36, 37, 38, 39, 40, 41, 42, 43, 44, 45, 46, 47, 48, 49, 50] [0, 1, 2, 3, 4, 5, 6, 7, 8, 9, 10, 11, 12, 13, 14, 15, 16, 17, 18, 19, 20, 21, 22, 23, 24, 25, 26, 27, 28, 29, 30, 31] rfl rfl (by decide) (by decide) hk hF hP1 hD1
  exact ⟨hP2, hD2, hS1, hK, hZ⟩
variable {y : MethodName} {bytes : ByteArray} {maxL nL n index : Nat} {ret2 ret3 : Option FieldType} {ws : List Cond} {rm : Room} {Ts : List Cond} {own : String} {As : List Value}
theorem l_cC {post : Int32 → St → Prop} (C0 : Cx p s m args meth c cc nL ret2 own Ts) (hM : Ci l D (tyE cyI cyZ) NwC (ZsC tL tS) (wC cyI cyZ adC) y ws rm (.ref (adC 0) :: As) σ post) (cw : CallW R s args own RX10 index y bytes maxL ret3 ws rm 0 0 n) (hI : LI D cyI cyZ tL tS adC adM s H locs σ τ) (hn : As.length = n) (hsz : ls.size = nL) (hst : st0 = As.reverse ++ .ref (adC 0) :: rest) (hW : (rest.map fun v => v.category).sum ≤ 8) (hdg : decode cc pc = .ok (.invokevirtual index, 3)) (hf : cells ≤ R.cells ∧ slots ≤ R.slots)
    (kk : ∀ (r : Int32) (σ' : St) (H1 : Heap) (locs1 : List Loc), post r σ' → LI D cyI cyZ tL tS adC adM s H1 locs1 σ' τ → W p l e R s m args below meth c H1 locs1 cells slots Q (F0 m (pc + 3) ls (.int r :: rest))) : W p l e R s m args below meth c H locs cells slots Q (F0 m pc ls st0) := by
  have hIC := hI.C
  have hF := hIC.free
  exact va_calli (va_runV (As := As) (rest := rest) ⟨C0.1, C0.2.1, C0.2.2.2.1, C0.2.2.2.2.1, C0.2.2.2.2.2.1⟩ (hM H.size) cw ⟨Kp.blind, va_recv (q0 := 0) (ci := 10) hIC.2.2.2.1 hIC.1 rfl rfl, fun U hU hW => ⟨rfl, hIC.pre hU hW⟩⟩ rfl hn hsz hst (lv_room hW) hdg hf) hIC.2.2.1 (fun q _ h => hF q h) hF (fun r u t H1 locs1 ht _ hw hB _ hk hS => kk r u H1 locs1 hw (hI.backC ht hB hk hS))
theorem l_cM {post : Int32 → St → Prop} (C0 : Cx p s m args meth c cc nL ret2 own Ts) (hM : Ci l D (tyM cyI) [] [] (wM cyI adM) y ws rm (.ref (adM 0) :: As) τ post) (cw : CallW R s args own RX11 index y bytes maxL ret3 ws rm 0 0 n) (hI : LI D cyI cyZ tL tS adC adM s H locs σ τ) (hn : As.length = n) (hsz : ls.size = nL) (hst : st0 = As.reverse ++ .ref (adM 0) :: rest) (hW : (rest.map fun v => v.category).sum ≤ 8) (hdg : decode cc pc = .ok (.invokevirtual index, 3)) (hf : cells ≤ R.cells ∧ slots ≤ R.slots)
    (kk : ∀ (r : Int32) (τ' : St) (H1 : Heap) (locs1 : List Loc), post r τ' → LI D cyI cyZ tL tS adC adM s H1 locs1 σ τ' → W p l e R s m args below meth c H1 locs1 cells slots Q (F0 m (pc + 3) ls (.int r :: rest))) : W p l e R s m args below meth c H locs cells slots Q (F0 m pc ls st0) := by
  have hIM := hI.M
  have hF := hIM.free
  exact va_calli (va_runV (As := As) (rest := rest) ⟨C0.1, C0.2.1, C0.2.2.2.1, C0.2.2.2.2.1, C0.2.2.2.2.2.1⟩ (hM H.size) cw ⟨Kp.blind, va_recv (q0 := 0) (ci := 11) hIM.2.2.2.1 hIM.1 rfl rfl, fun U hU hW => ⟨rfl, hIM.pre hU hW⟩⟩ rfl hn hsz hst (lv_room hW) hdg hf) hIM.2.2.1 (fun q _ h => hF q h) hF (fun r u t H1 locs1 ht _ hw hB _ hk hS => kk r u H1 locs1 hw (hI.backM ht hB hk hS))
end LAWS
/-- as they are made -/
theorem rel0 : Rel σ0C σ0M := by
  refine ⟨⟨0, by omega, rfl, rfl, fun i hi => absurd hi (Nat.not_lt_zero _)⟩, ⟨rfl, rfl⟩, ⟨0, fun _ => 0, fun _ => nI 0, fun _ _ => nI 0, ⟨by omega, fun k hk => absurd hk (Nat.not_lt_zero _)⟩, ⟨rfl, fun k hk => absurd hk (Nat.not_lt_zero _)⟩, ⟨rfl, fun k hk => absurd hk (Nat.not_lt_zero _)⟩, ⟨0, by omega, rfl, rfl, fun k hk => absurd hk (Nat.not_lt_zero _)⟩, ⟨Or.inl rfl, Or.inl rfl, Or.inl rfl, rfl, ⟨fun q => absurd q (by decide), fun q => absurd q.1 (by decide)⟩, fun q => absurd q (by decide)⟩⟩, ⟨30, 1, 1, 20, 60, 100, 5, fun _ _ => 0, ⟨by omega, by omega, by omega, by omega, by omega, by omega, by omega, by omega, by omega, fun _ _ _ _ => Nat.zero_le _⟩, ⟨rfl, rfl, rfl, rfl, rfl, rfl, fun a b ha hb => ?_⟩, ⟨rfl, rfl, rfl, rfl, rfl, rfl, rfl, fun a b ha hb => rfl⟩⟩, ⟨10, 3, by omega, by omega, by omega, by omega, rfl, rfl, rfl, rfl⟩, Or.inl ⟨rfl, rfl, rfl⟩⟩
  have e : σ0C 13 = upd (fun _ => nI 0) 754 (nI 5) := rfl
  rw [e]
  unfold pl28
  by_cases h : a = 26 ∧ b = 26
  · obtain ⟨rfl, rfl⟩ := h
    rfl
  · rw [if_neg h, upd_ne (by omega)]
    split <;> rfl
