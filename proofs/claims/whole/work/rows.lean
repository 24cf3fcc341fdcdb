section
-- ===== PART A: goes FIRST, ahead of the names: the tables' words, and 'selects' of the private methods out of them =====
/-- a private method of a class that the tables say can be made, by its rows of tables_1 -/
def lw_okq (q : MethodName × Nat) : Prop := (q.1.cls ≠ "java/lang/invoke/MethodHandle" ∧ q.1.cls ≠ "java/lang/invoke/VarHandle") ∧ Cond.instantiable q.1.cls q.2 ∈ tables_1 ∧ Cond.privateMethod q.1 ∈ tables_1 ∧ Cond.instanceMethod q.1 ∈ tables_1
theorem lw_p0 : lw_okq (⟨"StillText$Tape", "appendNumber", "(I)V"⟩, 2) := ⟨⟨by decide +kernel, by decide +kernel⟩, List.mem_of_getElem? (i := 24) (by decide +kernel), List.mem_of_getElem? (i := 285) (by decide +kernel), List.mem_of_getElem? (i := 286) (by decide +kernel)⟩
theorem lw_p1 : lw_okq (⟨"StillText", "readTape", "()V"⟩, 9) := ⟨⟨by decide +kernel, by decide +kernel⟩, List.mem_of_getElem? (i := 16) (by decide +kernel), List.mem_of_getElem? (i := 304) (by decide +kernel), List.mem_of_getElem? (i := 305) (by decide +kernel)⟩
theorem lw_p2 : lw_okq (⟨"StillText$Reading", "stateBehind", "(III)I"⟩, 3) := ⟨⟨by decide +kernel, by decide +kernel⟩, List.mem_of_getElem? (i := 38) (by decide +kernel), List.mem_of_getElem? (i := 324) (by decide +kernel), List.mem_of_getElem? (i := 325) (by decide +kernel)⟩
theorem lw_p3 : lw_okq (⟨"StillText$Reading", "stateBehindLetter", "(III)I"⟩, 3) := ⟨⟨by decide +kernel, by decide +kernel⟩, List.mem_of_getElem? (i := 38) (by decide +kernel), List.mem_of_getElem? (i := 331) (by decide +kernel), List.mem_of_getElem? (i := 332) (by decide +kernel)⟩
theorem lw_p4 : lw_okq (⟨"StillText$Reading", "refuse", "(II)V"⟩, 3) := ⟨⟨by decide +kernel, by decide +kernel⟩, List.mem_of_getElem? (i := 38) (by decide +kernel), List.mem_of_getElem? (i := 335) (by decide +kernel), List.mem_of_getElem? (i := 336) (by decide +kernel)⟩
theorem lw_p5 : lw_okq (⟨"StillText$Units", "copyUnit", "(LStillText$Units;II)V"⟩, 4) := ⟨⟨by decide +kernel, by decide +kernel⟩, List.mem_of_getElem? (i := 44) (by decide +kernel), List.mem_of_getElem? (i := 367) (by decide +kernel), List.mem_of_getElem? (i := 368) (by decide +kernel)⟩
theorem lw_p6 : lw_okq (⟨"StillText$Strip", "addBlanks", "(I)V"⟩, 7) := ⟨⟨by decide +kernel, by decide +kernel⟩, List.mem_of_getElem? (i := 112) (by decide +kernel), List.mem_of_getElem? (i := 503) (by decide +kernel), List.mem_of_getElem? (i := 504) (by decide +kernel)⟩
theorem lw_p7 : lw_okq (⟨"StillText$Strip", "addSign", "(I)V"⟩, 7) := ⟨⟨by decide +kernel, by decide +kernel⟩, List.mem_of_getElem? (i := 112) (by decide +kernel), List.mem_of_getElem? (i := 507) (by decide +kernel), List.mem_of_getElem? (i := 508) (by decide +kernel)⟩
theorem lw_p8 : lw_okq (⟨"StillText$Strip", "addUnit", "(LStillText$Units;I)V"⟩, 7) := ⟨⟨by decide +kernel, by decide +kernel⟩, List.mem_of_getElem? (i := 112) (by decide +kernel), List.mem_of_getElem? (i := 512) (by decide +kernel), List.mem_of_getElem? (i := 513) (by decide +kernel)⟩
theorem lw_p9 : lw_okq (⟨"StillText$Setter", "fits", "(II)Z"⟩, 5) := ⟨⟨by decide +kernel, by decide +kernel⟩, List.mem_of_getElem? (i := 159) (by decide +kernel), List.mem_of_getElem? (i := 530) (by decide +kernel), List.mem_of_getElem? (i := 531) (by decide +kernel)⟩
theorem lw_p10 : lw_okq (⟨"StillText$Strip", "holds", "(II)Z"⟩, 7) := ⟨⟨by decide +kernel, by decide +kernel⟩, List.mem_of_getElem? (i := 112) (by decide +kernel), List.mem_of_getElem? (i := 542) (by decide +kernel), List.mem_of_getElem? (i := 543) (by decide +kernel)⟩
theorem lw_p11 : lw_okq (⟨"StillText$Setter", "weigh", "(II)I"⟩, 5) := ⟨⟨by decide +kernel, by decide +kernel⟩, List.mem_of_getElem? (i := 159) (by decide +kernel), List.mem_of_getElem? (i := 554) (by decide +kernel), List.mem_of_getElem? (i := 555) (by decide +kernel)⟩
theorem lw_p12 : lw_okq (⟨"StillText$Measures", "strainOfEnd", "(I)I"⟩, 7) := ⟨⟨by decide +kernel, by decide +kernel⟩, List.mem_of_getElem? (i := 75) (by decide +kernel), List.mem_of_getElem? (i := 563) (by decide +kernel), List.mem_of_getElem? (i := 564) (by decide +kernel)⟩
theorem lw_p13 : lw_okq (⟨"StillText$Setter", "leastBelow", "(III)I"⟩, 5) := ⟨⟨by decide +kernel, by decide +kernel⟩, List.mem_of_getElem? (i := 159) (by decide +kernel), List.mem_of_getElem? (i := 568) (by decide +kernel), List.mem_of_getElem? (i := 569) (by decide +kernel)⟩
theorem lw_p14 : lw_okq (⟨"StillText", "shiftOf", "(I)I"⟩, 9) := ⟨⟨by decide +kernel, by decide +kernel⟩, List.mem_of_getElem? (i := 16) (by decide +kernel), List.mem_of_getElem? (i := 701) (by decide +kernel), List.mem_of_getElem? (i := 702) (by decide +kernel)⟩
theorem lw_p15 : lw_okq (⟨"StillText$Trials", "makeBest", "(II)V"⟩, 9) := ⟨⟨by decide +kernel, by decide +kernel⟩, List.mem_of_getElem? (i := 214) (by decide +kernel), List.mem_of_getElem? (i := 717) (by decide +kernel), List.mem_of_getElem? (i := 718) (by decide +kernel)⟩
def lw_privs_1 : List (MethodName × Nat) := [(⟨"StillText$Tape", "appendNumber", "(I)V"⟩, 2), (⟨"StillText", "readTape", "()V"⟩, 9), (⟨"StillText$Reading", "stateBehind", "(III)I"⟩, 3), (⟨"StillText$Reading", "stateBehindLetter", "(III)I"⟩, 3), (⟨"StillText$Reading", "refuse", "(II)V"⟩, 3), (⟨"StillText$Units", "copyUnit", "(LStillText$Units;II)V"⟩, 4), (⟨"StillText$Strip", "addBlanks", "(I)V"⟩, 7), (⟨"StillText$Strip", "addSign", "(I)V"⟩, 7), (⟨"StillText$Strip", "addUnit", "(LStillText$Units;I)V"⟩, 7), (⟨"StillText$Setter", "fits", "(II)Z"⟩, 5), (⟨"StillText$Strip", "holds", "(II)Z"⟩, 7), (⟨"StillText$Setter", "weigh", "(II)I"⟩, 5), (⟨"StillText$Measures", "strainOfEnd", "(I)I"⟩, 7), (⟨"StillText$Setter", "leastBelow", "(III)I"⟩, 5), (⟨"StillText", "shiftOf", "(I)I"⟩, 9), (⟨"StillText$Trials", "makeBest", "(II)V"⟩, 9)]
theorem lw_r1 : ∀ q ∈ lw_privs_1, lw_okq q := List.forall_mem_cons.mpr ⟨lw_p0, List.forall_mem_cons.mpr ⟨lw_p1, List.forall_mem_cons.mpr ⟨lw_p2, List.forall_mem_cons.mpr ⟨lw_p3, List.forall_mem_cons.mpr ⟨lw_p4, List.forall_mem_cons.mpr ⟨lw_p5, List.forall_mem_cons.mpr ⟨lw_p6, List.forall_mem_cons.mpr ⟨lw_p7, List.forall_mem_cons.mpr ⟨lw_p8, List.forall_mem_cons.mpr ⟨lw_p9, List.forall_mem_cons.mpr ⟨lw_p10, List.forall_mem_cons.mpr ⟨lw_p11, List.forall_mem_cons.mpr ⟨lw_p12, List.forall_mem_cons.mpr ⟨lw_p13, List.forall_mem_cons.mpr ⟨lw_p14, List.forall_mem_cons.mpr ⟨lw_p15, fun _ h => absurd h List.not_mem_nil⟩⟩⟩⟩⟩⟩⟩⟩⟩⟩⟩⟩⟩⟩⟩⟩
theorem lw_p16 : lw_okq (⟨"StillText$Trials", "nextWay", "()I"⟩, 9) := ⟨⟨by decide +kernel, by decide +kernel⟩, List.mem_of_getElem? (i := 214) (by decide +kernel), List.mem_of_getElem? (i := 721) (by decide +kernel), List.mem_of_getElem? (i := 722) (by decide +kernel)⟩
theorem lw_p17 : lw_okq (⟨"StillText$Trials", "longOn", "(I)I"⟩, 9) := ⟨⟨by decide +kernel, by decide +kernel⟩, List.mem_of_getElem? (i := 214) (by decide +kernel), List.mem_of_getElem? (i := 725) (by decide +kernel), List.mem_of_getElem? (i := 726) (by decide +kernel)⟩
theorem lw_p18 : lw_okq (⟨"StillText$Trials", "spreadOn", "(I)I"⟩, 9) := ⟨⟨by decide +kernel, by decide +kernel⟩, List.mem_of_getElem? (i := 214) (by decide +kernel), List.mem_of_getElem? (i := 731) (by decide +kernel), List.mem_of_getElem? (i := 732) (by decide +kernel)⟩
theorem lw_p19 : lw_okq (⟨"StillText$Trials", "settle", "()I"⟩, 9) := ⟨⟨by decide +kernel, by decide +kernel⟩, List.mem_of_getElem? (i := 214) (by decide +kernel), List.mem_of_getElem? (i := 753) (by decide +kernel), List.mem_of_getElem? (i := 754) (by decide +kernel)⟩
theorem lw_p20 : lw_okq (⟨"StillTextModel", "isText", "()Z"⟩, 44) := ⟨⟨by decide +kernel, by decide +kernel⟩, List.mem_of_getElem? (i := 776) (by decide +kernel), List.mem_of_getElem? (i := 927) (by decide +kernel), List.mem_of_getElem? (i := 928) (by decide +kernel)⟩
theorem lw_p21 : lw_okq (⟨"StillTextModel", "fails", "(II)Z"⟩, 44) := ⟨⟨by decide +kernel, by decide +kernel⟩, List.mem_of_getElem? (i := 776) (by decide +kernel), List.mem_of_getElem? (i := 934) (by decide +kernel), List.mem_of_getElem? (i := 935) (by decide +kernel)⟩
theorem lw_p22 : lw_okq (⟨"StillTextModel", "takes", "(II)V"⟩, 44) := ⟨⟨by decide +kernel, by decide +kernel⟩, List.mem_of_getElem? (i := 776) (by decide +kernel), List.mem_of_getElem? (i := 944) (by decide +kernel), List.mem_of_getElem? (i := 945) (by decide +kernel)⟩
theorem lw_p23 : lw_okq (⟨"StillTextModel", "words", "()V"⟩, 44) := ⟨⟨by decide +kernel, by decide +kernel⟩, List.mem_of_getElem? (i := 776) (by decide +kernel), List.mem_of_getElem? (i := 948) (by decide +kernel), List.mem_of_getElem? (i := 949) (by decide +kernel)⟩
theorem lw_p24 : lw_okq (⟨"StillTextModel", "weighs", "()V"⟩, 44) := ⟨⟨by decide +kernel, by decide +kernel⟩, List.mem_of_getElem? (i := 776) (by decide +kernel), List.mem_of_getElem? (i := 983) (by decide +kernel), List.mem_of_getElem? (i := 984) (by decide +kernel)⟩
theorem lw_p25 : lw_okq (⟨"StillTextModel", "most", "(I)I"⟩, 44) := ⟨⟨by decide +kernel, by decide +kernel⟩, List.mem_of_getElem? (i := 776) (by decide +kernel), List.mem_of_getElem? (i := 987) (by decide +kernel), List.mem_of_getElem? (i := 988) (by decide +kernel)⟩
theorem lw_p26 : lw_okq (⟨"StillTextModel", "lays", "([III)I"⟩, 44) := ⟨⟨by decide +kernel, by decide +kernel⟩, List.mem_of_getElem? (i := 776) (by decide +kernel), List.mem_of_getElem? (i := 991) (by decide +kernel), List.mem_of_getElem? (i := 992) (by decide +kernel)⟩
theorem lw_p27 : lw_okq (⟨"StillTextModel", "costOf", "(IIII)I"⟩, 44) := ⟨⟨by decide +kernel, by decide +kernel⟩, List.mem_of_getElem? (i := 776) (by decide +kernel), List.mem_of_getElem? (i := 996) (by decide +kernel), List.mem_of_getElem? (i := 997) (by decide +kernel)⟩
theorem lw_p28 : lw_okq (⟨"StillTextModel", "place", "(II)I"⟩, 44) := ⟨⟨by decide +kernel, by decide +kernel⟩, List.mem_of_getElem? (i := 776) (by decide +kernel), List.mem_of_getElem? (i := 1000) (by decide +kernel), List.mem_of_getElem? (i := 1001) (by decide +kernel)⟩
theorem lw_p29 : lw_okq (⟨"StillTextModel", "pairStrain", "(II)I"⟩, 44) := ⟨⟨by decide +kernel, by decide +kernel⟩, List.mem_of_getElem? (i := 776) (by decide +kernel), List.mem_of_getElem? (i := 1004) (by decide +kernel), List.mem_of_getElem? (i := 1005) (by decide +kernel)⟩
theorem lw_p30 : lw_okq (⟨"StillTextModel", "lineStrain", "(III)I"⟩, 44) := ⟨⟨by decide +kernel, by decide +kernel⟩, List.mem_of_getElem? (i := 776) (by decide +kernel), List.mem_of_getElem? (i := 1008) (by decide +kernel), List.mem_of_getElem? (i := 1009) (by decide +kernel)⟩
theorem lw_p31 : lw_okq (⟨"StillTextModel", "keeps", "(II)V"⟩, 44) := ⟨⟨by decide +kernel, by decide +kernel⟩, List.mem_of_getElem? (i := 776) (by decide +kernel), List.mem_of_getElem? (i := 1012) (by decide +kernel), List.mem_of_getElem? (i := 1013) (by decide +kernel)⟩
def lw_privs_2 : List (MethodName × Nat) := [(⟨"StillText$Trials", "nextWay", "()I"⟩, 9), (⟨"StillText$Trials", "longOn", "(I)I"⟩, 9), (⟨"StillText$Trials", "spreadOn", "(I)I"⟩, 9), (⟨"StillText$Trials", "settle", "()I"⟩, 9), (⟨"StillTextModel", "isText", "()Z"⟩, 44), (⟨"StillTextModel", "fails", "(II)Z"⟩, 44), (⟨"StillTextModel", "takes", "(II)V"⟩, 44), (⟨"StillTextModel", "words", "()V"⟩, 44), (⟨"StillTextModel", "weighs", "()V"⟩, 44), (⟨"StillTextModel", "most", "(I)I"⟩, 44), (⟨"StillTextModel", "lays", "([III)I"⟩, 44), (⟨"StillTextModel", "costOf", "(IIII)I"⟩, 44), (⟨"StillTextModel", "place", "(II)I"⟩, 44), (⟨"StillTextModel", "pairStrain", "(II)I"⟩, 44), (⟨"StillTextModel", "lineStrain", "(III)I"⟩, 44), (⟨"StillTextModel", "keeps", "(II)V"⟩, 44)]
theorem lw_r2 : ∀ q ∈ lw_privs_2, lw_okq q := List.forall_mem_cons.mpr ⟨lw_p16, List.forall_mem_cons.mpr ⟨lw_p17, List.forall_mem_cons.mpr ⟨lw_p18, List.forall_mem_cons.mpr ⟨lw_p19, List.forall_mem_cons.mpr ⟨lw_p20, List.forall_mem_cons.mpr ⟨lw_p21, List.forall_mem_cons.mpr ⟨lw_p22, List.forall_mem_cons.mpr ⟨lw_p23, List.forall_mem_cons.mpr ⟨lw_p24, List.forall_mem_cons.mpr ⟨lw_p25, List.forall_mem_cons.mpr ⟨lw_p26, List.forall_mem_cons.mpr ⟨lw_p27, List.forall_mem_cons.mpr ⟨lw_p28, List.forall_mem_cons.mpr ⟨lw_p29, List.forall_mem_cons.mpr ⟨lw_p30, List.forall_mem_cons.mpr ⟨lw_p31, fun _ h => absurd h List.not_mem_nil⟩⟩⟩⟩⟩⟩⟩⟩⟩⟩⟩⟩⟩⟩⟩⟩
theorem lw_p32 : lw_okq (⟨"StillTextModel", "pageOf", "(I)I"⟩, 44) := ⟨⟨by decide +kernel, by decide +kernel⟩, List.mem_of_getElem? (i := 776) (by decide +kernel), List.mem_of_getElem? (i := 1040) (by decide +kernel), List.mem_of_getElem? (i := 1041) (by decide +kernel)⟩
theorem lw_p33 : lw_okq (⟨"StillTextModel", "finds", "(I)V"⟩, 44) := ⟨⟨by decide +kernel, by decide +kernel⟩, List.mem_of_getElem? (i := 776) (by decide +kernel), List.mem_of_getElem? (i := 1052) (by decide +kernel), List.mem_of_getElem? (i := 1053) (by decide +kernel)⟩
theorem lw_p34 : lw_okq (⟨"StillTextModel", "neighbourLong", "()I"⟩, 44) := ⟨⟨by decide +kernel, by decide +kernel⟩, List.mem_of_getElem? (i := 776) (by decide +kernel), List.mem_of_getElem? (i := 1056) (by decide +kernel), List.mem_of_getElem? (i := 1057) (by decide +kernel)⟩
theorem lw_p35 : lw_okq (⟨"StillTextModel", "neighbourSpread", "()I"⟩, 44) := ⟨⟨by decide +kernel, by decide +kernel⟩, List.mem_of_getElem? (i := 776) (by decide +kernel), List.mem_of_getElem? (i := 1060) (by decide +kernel), List.mem_of_getElem? (i := 1061) (by decide +kernel)⟩
theorem lw_p36 : lw_okq (⟨"StillTextModel", "isOver", "()Z"⟩, 44) := ⟨⟨by decide +kernel, by decide +kernel⟩, List.mem_of_getElem? (i := 776) (by decide +kernel), List.mem_of_getElem? (i := 1068) (by decide +kernel), List.mem_of_getElem? (i := 1069) (by decide +kernel)⟩
def lw_privs_3 : List (MethodName × Nat) := [(⟨"StillTextModel", "pageOf", "(I)I"⟩, 44), (⟨"StillTextModel", "finds", "(I)V"⟩, 44), (⟨"StillTextModel", "neighbourLong", "()I"⟩, 44), (⟨"StillTextModel", "neighbourSpread", "()I"⟩, 44), (⟨"StillTextModel", "isOver", "()Z"⟩, 44)]
theorem lw_r3 : ∀ q ∈ lw_privs_3, lw_okq q := List.forall_mem_cons.mpr ⟨lw_p32, List.forall_mem_cons.mpr ⟨lw_p33, List.forall_mem_cons.mpr ⟨lw_p34, List.forall_mem_cons.mpr ⟨lw_p35, List.forall_mem_cons.mpr ⟨lw_p36, fun _ h => absurd h List.not_mem_nil⟩⟩⟩⟩⟩
def lw_privs : List (MethodName × Nat) := lw_privs_1 ++ (lw_privs_2 ++ (lw_privs_3))
def lw_tbl : List Cond := k2_sels lw_privs ++ tables_1
theorem lw_privs_ok : ∀ q ∈ lw_privs, lw_okq q := by
  show ∀ q ∈ lw_privs_1 ++ (lw_privs_2 ++ (lw_privs_3)), lw_okq q
  exact List.forall_mem_append.mpr ⟨lw_r1, List.forall_mem_append.mpr ⟨lw_r2, lw_r3⟩⟩
end
section
/-! ===== BEGIN words of one list among another's, by their places ===== -/
theorem goodIn_r {big : List Cond} (ws : List Cond) (ps : List Nat) (hp : ws = ps.filterMap (fun i => big[i]?)) (h : ws.all goodWord = true) : GoodIn big ws := by
  intro w hw
  have h1 := List.all_eq_true.mp h w hw
  rw [hp] at hw
  obtain ⟨i, -, hi⟩ := List.mem_filterMap.mp hw
  have hm : w ∈ big := by first | exact List.mem_of_getElem? hi | exact List.getElem?_mem hi
  exact ⟨hm, good_of_word h1⟩
theorem goodIn_app {big a b : List Cond} (ha : GoodIn big a) (hb : GoodIn big b) : GoodIn big (a ++ b) := fun w h => (List.mem_append.mp h).elim (ha w) (hb w)
theorem goodIn_ca {big a b : List Cond} {c : Cond} (ha : GoodIn big (c :: a)) (hb : GoodIn big b) : GoodIn big (c :: (a ++ b)) := fun w h => (List.mem_cons.mp h).elim (fun e => ha w (List.mem_cons.mpr (Or.inl e))) (fun h => (List.mem_append.mp h).elim (fun h => ha w (List.mem_cons.mpr (Or.inr h))) (hb w))
theorem goodIn_sub {big ws : List Cond} (hm : ∀ w ∈ ws, w ∈ big) (h : ws.all goodWord = true) : GoodIn big ws := fun w hw => ⟨hm w hw, good_of_word (List.all_eq_true.mp h w hw)⟩
/-! ===== END ===== -/

/-! ===== BEGIN printed: names, fields, word lists, decode rows ===== -/
def RX0 : String := "StillText$Marks"
def TX0 : u_T := fun k => match k with
  | 0 => ("StillText$Marks", "units", "[I", true)
  | 1 => ("StillText$Marks", "kept", "[I", true)
  | _ => ("StillText$Marks", "count", "I", false)
def tyX0 : Nat → FieldType := fun k => match k with
  | 0 => .array .int
  | 1 => .array .int
  | _ => .int
abbrev wsX00 : List Cond := u_ws RX0 TX0 3
theorem nmX0 : ∀ a, a < 3 → ∀ b, b < 3 → a ≠ b → (TX0 a).2.1 ≠ (TX0 b).2.1 := by decide +kernel
theorem tyX0_ok : ∀ k, k < 3 → parseFieldDescriptor (TX0 k).2.2.1 = some (tyX0 k) := by decide +kernel
abbrev cX0_init : ByteArray := prog_2_method_1_code
def yX0_init : MethodName := ⟨RX0, "<init>", "()V"⟩
abbrev cX0_has : ByteArray := prog_2_method_2_code
def yX0_has : MethodName := ⟨RX0, "has", "(I)Z"⟩
abbrev cX0_add : ByteArray := prog_2_method_3_code
def yX0_add : MethodName := ⟨RX0, "add", "(II)I"⟩
abbrev cX0_unitOf : ByteArray := prog_2_method_4_code
def yX0_unitOf : MethodName := ⟨RX0, "unitOf", "(I)I"⟩
abbrev cX0_pageOf : ByteArray := prog_2_method_5_code
def yX0_pageOf : MethodName := ⟨RX0, "pageOf", "(I)I"⟩
abbrev cX0_moveBehind : ByteArray := prog_2_method_6_code
def yX0_moveBehind : MethodName := ⟨RX0, "moveBehind", "(II)V"⟩
abbrev cX0_drop : ByteArray := prog_2_method_7_code
def yX0_drop : MethodName := ⟨RX0, "drop", "()V"⟩
def RX1 : String := "StillText$Measures"
def TX1 : u_T := fun k => match k with
  | 0 => ("StillText$Measures", "longest", "I", false)
  | 1 => ("StillText$Measures", "spread", "I", false)
  | 2 => ("StillText$Measures", "shortest", "I", false)
  | 3 => ("StillText$Measures", "phrase", "I", false)
  | 4 => ("StillText$Measures", "inner", "I", false)
  | 5 => ("StillText$Measures", "cut", "I", false)
  | _ => ("StillText$Measures", "places", "[I", true)
def tyX1 : Nat → FieldType := fun k => match k with
  | 0 => .int
  | 1 => .int
  | 2 => .int
  | 3 => .int
  | 4 => .int
  | 5 => .int
  | _ => .array .int
abbrev wsX10 : List Cond := u_ws RX1 TX1 7
theorem nmX1 : ∀ a, a < 7 → ∀ b, b < 7 → a ≠ b → (TX1 a).2.1 ≠ (TX1 b).2.1 := by decide +kernel
theorem tyX1_ok : ∀ k, k < 7 → parseFieldDescriptor (TX1 k).2.2.1 = some (tyX1 k) := by decide +kernel
abbrev cX1_init : ByteArray := prog_3_method_1_code
def yX1_init : MethodName := ⟨RX1, "<init>", "()V"⟩
abbrev cX1_kindOf : ByteArray := prog_3_method_2_code
def yX1_kindOf : MethodName := ⟨RX1, "kindOf", "(I)I"⟩
abbrev cX1_longest : ByteArray := prog_3_method_3_code
def yX1_longest : MethodName := ⟨RX1, "longest", "()I"⟩
abbrev cX1_spread : ByteArray := prog_3_method_4_code
def yX1_spread : MethodName := ⟨RX1, "spread", "()I"⟩
abbrev cX1_changeLine : ByteArray := prog_3_method_5_code
def yX1_changeLine : MethodName := ⟨RX1, "changeLine", "(II)Z"⟩
abbrev cX1_changeStrains : ByteArray := prog_3_method_6_code
def yX1_changeStrains : MethodName := ⟨RX1, "changeStrains", "(IIIII)Z"⟩
abbrev cX1_changeLikeness : ByteArray := prog_3_method_7_code
def yX1_changeLikeness : MethodName := ⟨RX1, "changeLikeness", "(III)I"⟩
abbrev cX1_strainOfPlace : ByteArray := prog_3_method_8_code
def yX1_strainOfPlace : MethodName := ⟨RX1, "strainOfPlace", "(II)I"⟩
abbrev cX1_strainOfLine : ByteArray := prog_3_method_9_code
def yX1_strainOfLine : MethodName := ⟨RX1, "strainOfLine", "(II)I"⟩
abbrev cX1_strainOfEnd : ByteArray := prog_3_method_10_code
def yX1_strainOfEnd : MethodName := ⟨RX1, "strainOfEnd", "(I)I"⟩
abbrev cX1_pair : ByteArray := prog_3_method_11_code
def yX1_pair : MethodName := ⟨RX1, "pair", "(II)I"⟩
def RX2 : String := "StillText$Pages"
def TX2 : u_T := fun k => match k with
  | 0 => ("StillText$Pages", "rows", "I", false)
  | _ => ("StillText$Pages", "tints", "I", false)
def tyX2 : Nat → FieldType := fun k => match k with
  | 0 => .int
  | _ => .int
abbrev wsX20 : List Cond := u_ws RX2 TX2 2
theorem nmX2 : ∀ a, a < 2 → ∀ b, b < 2 → a ≠ b → (TX2 a).2.1 ≠ (TX2 b).2.1 := by decide +kernel
theorem tyX2_ok : ∀ k, k < 2 → parseFieldDescriptor (TX2 k).2.2.1 = some (tyX2 k) := by decide +kernel
abbrev cX2_init : ByteArray := prog_4_method_1_code
def yX2_init : MethodName := ⟨RX2, "<init>", "()V"⟩
abbrev cX2_change : ByteArray := prog_4_method_2_code
def yX2_change : MethodName := ⟨RX2, "change", "(II)Z"⟩
abbrev cX2_pageOf : ByteArray := prog_4_method_3_code
def yX2_pageOf : MethodName := ⟨RX2, "pageOf", "(I)I"⟩
abbrev cX2_tintOf : ByteArray := prog_4_method_4_code
def yX2_tintOf : MethodName := ⟨RX2, "tintOf", "(I)I"⟩
def RX3 : String := "StillText$Reading"
def TX3 : u_T := fun k => match k with
  | 0 => ("StillText$Reading", "units", "LStillText$Units;", true)
  | 1 => ("StillText$Reading", "kind", "I", false)
  | _ => ("StillText$Reading", "place", "I", false)
def tyX3 : Nat → FieldType := fun k => match k with
  | 0 => .object "StillText$Units"
  | 1 => .int
  | _ => .int
abbrev wsX30 : List Cond := u_ws RX3 TX3 3
theorem nmX3 : ∀ a, a < 3 → ∀ b, b < 3 → a ≠ b → (TX3 a).2.1 ≠ (TX3 b).2.1 := by decide +kernel
theorem tyX3_ok : ∀ k, k < 3 → parseFieldDescriptor (TX3 k).2.2.1 = some (tyX3 k) := by decide +kernel
abbrev cX3_init : ByteArray := prog_5_method_1_code
def yX3_init : MethodName := ⟨RX3, "<init>", "()V"⟩
abbrev cX3_units : ByteArray := prog_5_method_2_code
def yX3_units : MethodName := ⟨RX3, "units", "()LStillText$Units;"⟩
abbrev cX3_hasFault : ByteArray := prog_5_method_3_code
def yX3_hasFault : MethodName := ⟨RX3, "hasFault", "()Z"⟩
abbrev cX3_kind : ByteArray := prog_5_method_4_code
def yX3_kind : MethodName := ⟨RX3, "kind", "()I"⟩
abbrev cX3_place : ByteArray := prog_5_method_5_code
def yX3_place : MethodName := ⟨RX3, "place", "()I"⟩
abbrev cX3_read : ByteArray := prog_5_method_6_code
def yX3_read : MethodName := ⟨RX3, "read", "(LStillText$Tape;)V"⟩
abbrev cX3_stateBehind : ByteArray := prog_5_method_7_code
def yX3_stateBehind : MethodName := ⟨RX3, "stateBehind", "(III)I"⟩
abbrev cX3_stateBehindLetter : ByteArray := prog_5_method_8_code
def yX3_stateBehindLetter : MethodName := ⟨RX3, "stateBehindLetter", "(III)I"⟩
abbrev cX3_refuse : ByteArray := prog_5_method_9_code
def yX3_refuse : MethodName := ⟨RX3, "refuse", "(II)V"⟩
def RX4 : String := "StillText$Setter"
def TX4 : u_T := fun k => match k with
  | 0 => ("StillText$Setter", "strip", "LStillText$Strip;", true)
  | 1 => ("StillText$Setter", "measures", "LStillText$Measures;", true)
  | 2 => ("StillText$Setter", "most", "[I", true)
  | 3 => ("StillText$Setter", "least", "[I", true)
  | _ => ("StillText$Setter", "chosen", "I", false)
def tyX4 : Nat → FieldType := fun k => match k with
  | 0 => .object "StillText$Strip"
  | 1 => .object "StillText$Measures"
  | 2 => .array .int
  | 3 => .array .int
  | _ => .int
abbrev wsX40 : List Cond := u_ws RX4 TX4 5
theorem nmX4 : ∀ a, a < 5 → ∀ b, b < 5 → a ≠ b → (TX4 a).2.1 ≠ (TX4 b).2.1 := by decide +kernel
theorem tyX4_ok : ∀ k, k < 5 → parseFieldDescriptor (TX4 k).2.2.1 = some (tyX4 k) := by decide +kernel
abbrev cX4_init : ByteArray := prog_6_method_1_code
def yX4_init : MethodName := ⟨RX4, "<init>", "(LStillText$Strip;LStillText$Measures;)V"⟩
abbrev cX4_weighLines : ByteArray := prog_6_method_2_code
def yX4_weighLines : MethodName := ⟨RX4, "weighLines", "()V"⟩
abbrev cX4_putLines : ByteArray := prog_6_method_3_code
def yX4_putLines : MethodName := ⟨RX4, "putLines", "(LStillText$Setting;)I"⟩
abbrev cX4_fits : ByteArray := prog_6_method_4_code
def yX4_fits : MethodName := ⟨RX4, "fits", "(II)Z"⟩
abbrev cX4_weigh : ByteArray := prog_6_method_5_code
def yX4_weigh : MethodName := ⟨RX4, "weigh", "(II)I"⟩
abbrev cX4_leastBelow : ByteArray := prog_6_method_6_code
def yX4_leastBelow : MethodName := ⟨RX4, "leastBelow", "(III)I"⟩
abbrev cX4_place : ByteArray := prog_6_method_7_code
def yX4_place : MethodName := ⟨RX4, "place", "(II)I"⟩
def RX5 : String := "StillText$Setting"
def TX5 : u_T := fun k => match k with
  | 0 => ("StillText$Setting", "strip", "LStillText$Strip;", true)
  | 1 => ("StillText$Setting", "firsts", "[I", true)
  | 2 => ("StillText$Setting", "manys", "[I", true)
  | 3 => ("StillText$Setting", "count", "I", false)
  | 4 => ("StillText$Setting", "there", "Z", false)
  | _ => ("StillText$Setting", "ofText", "Z", false)
def tyX5 : Nat → FieldType := fun k => match k with
  | 0 => .object "StillText$Strip"
  | 1 => .array .int
  | 2 => .array .int
  | 3 => .int
  | 4 => .boolean
  | _ => .boolean
abbrev wsX50 : List Cond := u_ws RX5 TX5 6
theorem nmX5 : ∀ a, a < 6 → ∀ b, b < 6 → a ≠ b → (TX5 a).2.1 ≠ (TX5 b).2.1 := by decide +kernel
theorem tyX5_ok : ∀ k, k < 6 → parseFieldDescriptor (TX5 k).2.2.1 = some (tyX5 k) := by decide +kernel
abbrev cX5_init : ByteArray := prog_7_method_1_code
def yX5_init : MethodName := ⟨RX5, "<init>", "()V"⟩
abbrev cX5_strip : ByteArray := prog_7_method_2_code
def yX5_strip : MethodName := ⟨RX5, "strip", "()LStillText$Strip;"⟩
abbrev cX5_isThere : ByteArray := prog_7_method_3_code
def yX5_isThere : MethodName := ⟨RX5, "isThere", "()Z"⟩
abbrev cX5_isOfText : ByteArray := prog_7_method_4_code
def yX5_isOfText : MethodName := ⟨RX5, "isOfText", "()Z"⟩
abbrev cX5_count : ByteArray := prog_7_method_5_code
def yX5_count : MethodName := ⟨RX5, "count", "()I"⟩
abbrev cX5_has : ByteArray := prog_7_method_6_code
def yX5_has : MethodName := ⟨RX5, "has", "(I)Z"⟩
abbrev cX5_drop : ByteArray := prog_7_method_7_code
def yX5_drop : MethodName := ⟨RX5, "drop", "()V"⟩
abbrev cX5_outdate : ByteArray := prog_7_method_8_code
def yX5_outdate : MethodName := ⟨RX5, "outdate", "()V"⟩
abbrev cX5_begin : ByteArray := prog_7_method_9_code
def yX5_begin : MethodName := ⟨RX5, "begin", "(LStillText$Units;I)V"⟩
abbrev cX5_addLine : ByteArray := prog_7_method_10_code
def yX5_addLine : MethodName := ⟨RX5, "addLine", "(II)V"⟩
abbrev cX5_first : ByteArray := prog_7_method_11_code
def yX5_first : MethodName := ⟨RX5, "first", "(I)I"⟩
abbrev cX5_unitsIn : ByteArray := prog_7_method_12_code
def yX5_unitsIn : MethodName := ⟨RX5, "unitsIn", "(I)I"⟩
abbrev cX5_signsIn : ByteArray := prog_7_method_13_code
def yX5_signsIn : MethodName := ⟨RX5, "signsIn", "(I)I"⟩
abbrev cX5_signAt : ByteArray := prog_7_method_14_code
def yX5_signAt : MethodName := ⟨RX5, "signAt", "(II)I"⟩
abbrev cX5_lineOf : ByteArray := prog_7_method_15_code
def yX5_lineOf : MethodName := ⟨RX5, "lineOf", "(I)I"⟩
abbrev cX5_riversAt : ByteArray := prog_7_method_16_code
def yX5_riversAt : MethodName := ⟨RX5, "riversAt", "(II)I"⟩
def RX6 : String := "StillText$Strip"
def TX6 : u_T := fun k => match k with
  | 0 => ("StillText$Strip", "signs", "[I", true)
  | 1 => ("StillText$Strip", "kinds", "[I", true)
  | 2 => ("StillText$Strip", "begins", "[I", true)
  | 3 => ("StillText$Strip", "ends", "[I", true)
  | 4 => ("StillText$Strip", "behind", "[I", true)
  | 5 => ("StillText$Strip", "units", "I", false)
  | _ => ("StillText$Strip", "length", "I", false)
def tyX6 : Nat → FieldType := fun k => match k with
  | 0 => .array .int
  | 1 => .array .int
  | 2 => .array .int
  | 3 => .array .int
  | 4 => .array .int
  | 5 => .int
  | _ => .int
abbrev wsX60 : List Cond := u_ws RX6 TX6 7
theorem nmX6 : ∀ a, a < 7 → ∀ b, b < 7 → a ≠ b → (TX6 a).2.1 ≠ (TX6 b).2.1 := by decide +kernel
theorem tyX6_ok : ∀ k, k < 7 → parseFieldDescriptor (TX6 k).2.2.1 = some (tyX6 k) := by decide +kernel
abbrev cX6_init : ByteArray := prog_8_method_1_code
def yX6_init : MethodName := ⟨RX6, "<init>", "()V"⟩
abbrev cX6_units : ByteArray := prog_8_method_2_code
def yX6_units : MethodName := ⟨RX6, "units", "()I"⟩
abbrev cX6_lay : ByteArray := prog_8_method_3_code
def yX6_lay : MethodName := ⟨RX6, "lay", "(LStillText$Units;I)V"⟩
abbrev cX6_addBlanks : ByteArray := prog_8_method_4_code
def yX6_addBlanks : MethodName := ⟨RX6, "addBlanks", "(I)V"⟩
abbrev cX6_addUnit : ByteArray := prog_8_method_5_code
def yX6_addUnit : MethodName := ⟨RX6, "addUnit", "(LStillText$Units;I)V"⟩
abbrev cX6_addSign : ByteArray := prog_8_method_6_code
def yX6_addSign : MethodName := ⟨RX6, "addSign", "(I)V"⟩
abbrev cX6_holds : ByteArray := prog_8_method_7_code
def yX6_holds : MethodName := ⟨RX6, "holds", "(II)Z"⟩
abbrev cX6_behindLine : ByteArray := prog_8_method_8_code
def yX6_behindLine : MethodName := ⟨RX6, "behindLine", "(II)I"⟩
abbrev cX6_body : ByteArray := prog_8_method_9_code
def yX6_body : MethodName := ⟨RX6, "body", "(II)I"⟩
abbrev cX6_signsOf : ByteArray := prog_8_method_10_code
def yX6_signsOf : MethodName := ⟨RX6, "signsOf", "(II)I"⟩
abbrev cX6_signAt : ByteArray := prog_8_method_11_code
def yX6_signAt : MethodName := ⟨RX6, "signAt", "(III)I"⟩
abbrev cX6_beginOf : ByteArray := prog_8_method_12_code
def yX6_beginOf : MethodName := ⟨RX6, "beginOf", "(I)I"⟩
abbrev cX6_strainOfPlaces : ByteArray := prog_8_method_13_code
def yX6_strainOfPlaces : MethodName := ⟨RX6, "strainOfPlaces", "(IIIILStillText$Measures;)I"⟩
def RX7 : String := "StillText$Tape"
def TX7 : u_T := fun k => match k with
  | 0 => ("StillText$Tape", "bytes", "[I", true)
  | _ => ("StillText$Tape", "length", "I", false)
def tyX7 : Nat → FieldType := fun k => match k with
  | 0 => .array .int
  | _ => .int
abbrev wsX70 : List Cond := u_ws RX7 TX7 2
theorem nmX7 : ∀ a, a < 2 → ∀ b, b < 2 → a ≠ b → (TX7 a).2.1 ≠ (TX7 b).2.1 := by decide +kernel
theorem tyX7_ok : ∀ k, k < 2 → parseFieldDescriptor (TX7 k).2.2.1 = some (tyX7 k) := by decide +kernel
abbrev cX7_init : ByteArray := prog_9_method_1_code
def yX7_init : MethodName := ⟨RX7, "<init>", "()V"⟩
abbrev cX7_length : ByteArray := prog_9_method_2_code
def yX7_length : MethodName := ⟨RX7, "length", "()I"⟩
abbrev cX7_byteAt : ByteArray := prog_9_method_3_code
def yX7_byteAt : MethodName := ⟨RX7, "byteAt", "(I)I"⟩
abbrev cX7_clear : ByteArray := prog_9_method_4_code
def yX7_clear : MethodName := ⟨RX7, "clear", "()V"⟩
abbrev cX7_keepFirst : ByteArray := prog_9_method_5_code
def yX7_keepFirst : MethodName := ⟨RX7, "keepFirst", "(I)Z"⟩
abbrev cX7_append : ByteArray := prog_9_method_6_code
def yX7_append : MethodName := ⟨RX7, "append", "(IIIII)I"⟩
abbrev cX7_appendNumber : ByteArray := prog_9_method_7_code
def yX7_appendNumber : MethodName := ⟨RX7, "appendNumber", "(I)V"⟩
def RX8 : String := "StillText$Trials"
def TX8 : u_T := fun k => match k with
  | 0 => ("StillText$Trials", "beaten", "[Z", true)
  | 1 => ("StillText$Trials", "begun", "Z", false)
  | 2 => ("StillText$Trials", "bestLong", "I", false)
  | 3 => ("StillText$Trials", "bestSpread", "I", false)
  | 4 => ("StillText$Trials", "lead", "I", false)
  | 5 => ("StillText$Trials", "way", "I", false)
  | 6 => ("StillText$Trials", "ahead", "I", false)
  | 7 => ("StillText$Trials", "answers", "I", false)
  | _ => ("StillText$Trials", "won", "I", false)
def tyX8 : Nat → FieldType := fun k => match k with
  | 0 => .array .boolean
  | 1 => .boolean
  | 2 => .int
  | 3 => .int
  | 4 => .int
  | 5 => .int
  | 6 => .int
  | 7 => .int
  | _ => .int
abbrev wsX80 : List Cond := u_ws RX8 TX8 9
theorem nmX8 : ∀ a, a < 9 → ∀ b, b < 9 → a ≠ b → (TX8 a).2.1 ≠ (TX8 b).2.1 := by decide +kernel
theorem tyX8_ok : ∀ k, k < 9 → parseFieldDescriptor (TX8 k).2.2.1 = some (tyX8 k) := by decide +kernel
abbrev cX8_init : ByteArray := prog_10_method_1_code
def yX8_init : MethodName := ⟨RX8, "<init>", "()V"⟩
abbrev cX8_haveBegun : ByteArray := prog_10_method_2_code
def yX8_haveBegun : MethodName := ⟨RX8, "haveBegun", "()Z"⟩
abbrev cX8_bestLongest : ByteArray := prog_10_method_3_code
def yX8_bestLongest : MethodName := ⟨RX8, "bestLongest", "()I"⟩
abbrev cX8_bestSpread : ByteArray := prog_10_method_4_code
def yX8_bestSpread : MethodName := ⟨RX8, "bestSpread", "()I"⟩
abbrev cX8_begin : ByteArray := prog_10_method_5_code
def yX8_begin : MethodName := ⟨RX8, "begin", "(III)Z"⟩
abbrev cX8_tell : ByteArray := prog_10_method_6_code
def yX8_tell : MethodName := ⟨RX8, "tell", "(I)I"⟩
abbrev cX8_hear : ByteArray := prog_10_method_7_code
def yX8_hear : MethodName := ⟨RX8, "hear", "(Z)I"⟩
abbrev cX8_settle : ByteArray := prog_10_method_8_code
def yX8_settle : MethodName := ⟨RX8, "settle", "()I"⟩
abbrev cX8_makeBest : ByteArray := prog_10_method_9_code
def yX8_makeBest : MethodName := ⟨RX8, "makeBest", "(II)V"⟩
abbrev cX8_nextWay : ByteArray := prog_10_method_10_code
def yX8_nextWay : MethodName := ⟨RX8, "nextWay", "()I"⟩
abbrev cX8_longOn : ByteArray := prog_10_method_11_code
def yX8_longOn : MethodName := ⟨RX8, "longOn", "(I)I"⟩
abbrev cX8_spreadOn : ByteArray := prog_10_method_12_code
def yX8_spreadOn : MethodName := ⟨RX8, "spreadOn", "(I)I"⟩
abbrev cX8_isOnGrid : ByteArray := prog_10_method_13_code
def yX8_isOnGrid : MethodName := ⟨RX8, "isOnGrid", "(II)Z"⟩
def RX9 : String := "StillText$Units"
def TX9 : u_T := fun k => match k with
  | 0 => ("StillText$Units", "letters", "[I", true)
  | 1 => ("StillText$Units", "sizes", "[I", true)
  | 2 => ("StillText$Units", "behind", "[I", true)
  | _ => ("StillText$Units", "count", "I", false)
def tyX9 : Nat → FieldType := fun k => match k with
  | 0 => .array .int
  | 1 => .array .int
  | 2 => .array .int
  | _ => .int
abbrev wsX90 : List Cond := u_ws RX9 TX9 4
theorem nmX9 : ∀ a, a < 4 → ∀ b, b < 4 → a ≠ b → (TX9 a).2.1 ≠ (TX9 b).2.1 := by decide +kernel
theorem tyX9_ok : ∀ k, k < 4 → parseFieldDescriptor (TX9 k).2.2.1 = some (tyX9 k) := by decide +kernel
abbrev cX9_init : ByteArray := prog_11_method_1_code
def yX9_init : MethodName := ⟨RX9, "<init>", "()V"⟩
abbrev cX9_count : ByteArray := prog_11_method_2_code
def yX9_count : MethodName := ⟨RX9, "count", "()I"⟩
abbrev cX9_has : ByteArray := prog_11_method_3_code
def yX9_has : MethodName := ⟨RX9, "has", "(I)Z"⟩
abbrev cX9_letters : ByteArray := prog_11_method_4_code
def yX9_letters : MethodName := ⟨RX9, "letters", "(I)I"⟩
abbrev cX9_behind : ByteArray := prog_11_method_5_code
def yX9_behind : MethodName := ⟨RX9, "behind", "(I)I"⟩
abbrev cX9_goesOn : ByteArray := prog_11_method_6_code
def yX9_goesOn : MethodName := ⟨RX9, "goesOn", "(I)Z"⟩
abbrev cX9_isWholeWord : ByteArray := prog_11_method_7_code
def yX9_isWholeWord : MethodName := ⟨RX9, "isWholeWord", "(I)Z"⟩
abbrev cX9_wordNumber : ByteArray := prog_11_method_8_code
def yX9_wordNumber : MethodName := ⟨RX9, "wordNumber", "(I)I"⟩
abbrev cX9_signs : ByteArray := prog_11_method_9_code
def yX9_signs : MethodName := ⟨RX9, "signs", "(I)I"⟩
abbrev cX9_signAt : ByteArray := prog_11_method_10_code
def yX9_signAt : MethodName := ⟨RX9, "signAt", "(II)I"⟩
abbrev cX9_fitAlone : ByteArray := prog_11_method_11_code
def yX9_fitAlone : MethodName := ⟨RX9, "fitAlone", "(I)Z"⟩
abbrev cX9_clear : ByteArray := prog_11_method_12_code
def yX9_clear : MethodName := ⟨RX9, "clear", "()V"⟩
abbrev cX9_open : ByteArray := prog_11_method_13_code
def yX9_open : MethodName := ⟨RX9, "open", "()Z"⟩
abbrev cX9_addLetter : ByteArray := prog_11_method_14_code
def yX9_addLetter : MethodName := ⟨RX9, "addLetter", "(I)Z"⟩
abbrev cX9_close : ByteArray := prog_11_method_15_code
def yX9_close : MethodName := ⟨RX9, "close", "(I)V"⟩
abbrev cX9_takeAll : ByteArray := prog_11_method_16_code
def yX9_takeAll : MethodName := ⟨RX9, "takeAll", "(LStillText$Units;)V"⟩
abbrev cX9_replace : ByteArray := prog_11_method_17_code
def yX9_replace : MethodName := ⟨RX9, "replace", "(ILStillText$Units;)V"⟩
abbrev cX9_copyUnit : ByteArray := prog_11_method_18_code
def yX9_copyUnit : MethodName := ⟨RX9, "copyUnit", "(LStillText$Units;II)V"⟩
def RX10 : String := "StillText"
def TX10 : u_T := fun k => match k with
  | 0 => ("StillText", "tape", "LStillText$Tape;", true)
  | 1 => ("StillText", "reading", "LStillText$Reading;", true)
  | 2 => ("StillText", "units", "LStillText$Units;", true)
  | 3 => ("StillText", "measures", "LStillText$Measures;", true)
  | 4 => ("StillText", "setting", "LStillText$Setting;", true)
  | 5 => ("StillText", "setter", "LStillText$Setter;", true)
  | 6 => ("StillText", "pages", "LStillText$Pages;", true)
  | 7 => ("StillText", "marks", "LStillText$Marks;", true)
  | _ => ("StillText", "trials", "LStillText$Trials;", true)
def tyX10 : Nat → FieldType := fun k => match k with
  | 0 => .object "StillText$Tape"
  | 1 => .object "StillText$Reading"
  | 2 => .object "StillText$Units"
  | 3 => .object "StillText$Measures"
  | 4 => .object "StillText$Setting"
  | 5 => .object "StillText$Setter"
  | 6 => .object "StillText$Pages"
  | 7 => .object "StillText$Marks"
  | _ => .object "StillText$Trials"
abbrev wsX100 : List Cond := u_ws RX10 TX10 9
theorem nmX10 : ∀ a, a < 9 → ∀ b, b < 9 → a ≠ b → (TX10 a).2.1 ≠ (TX10 b).2.1 := by decide +kernel
theorem tyX10_ok : ∀ k, k < 9 → parseFieldDescriptor (TX10 k).2.2.1 = some (tyX10 k) := by decide +kernel
abbrev cX10_init : ByteArray := prog_1_method_1_code
def yX10_init : MethodName := ⟨RX10, "<init>", "()V"⟩
abbrev cX10_feed : ByteArray := prog_1_method_2_code
def yX10_feed : MethodName := ⟨RX10, "feed", "(IIIII)I"⟩
abbrev cX10_end : ByteArray := prog_1_method_3_code
def yX10_end : MethodName := ⟨RX10, "end", "(I)Z"⟩
abbrev cX10_text : ByteArray := prog_1_method_4_code
def yX10_text : MethodName := ⟨RX10, "text", "()I"⟩
abbrev cX10_fault : ByteArray := prog_1_method_5_code
def yX10_fault : MethodName := ⟨RX10, "fault", "(I)I"⟩
abbrev cX10_put : ByteArray := prog_1_method_6_code
def yX10_put : MethodName := ⟨RX10, "put", "(I)I"⟩
abbrev cX10_unit : ByteArray := prog_1_method_7_code
def yX10_unit : MethodName := ⟨RX10, "unit", "(II)I"⟩
abbrev cX10_measure : ByteArray := prog_1_method_8_code
def yX10_measure : MethodName := ⟨RX10, "measure", "(II)Z"⟩
abbrev cX10_strains : ByteArray := prog_1_method_9_code
def yX10_strains : MethodName := ⟨RX10, "strains", "(IIIII)Z"⟩
abbrev cX10_like : ByteArray := prog_1_method_10_code
def yX10_like : MethodName := ⟨RX10, "like", "(III)I"⟩
abbrev cX10_set : ByteArray := prog_1_method_11_code
def yX10_set : MethodName := ⟨RX10, "set", "()I"⟩
abbrev cX10_lines : ByteArray := prog_1_method_12_code
def yX10_lines : MethodName := ⟨RX10, "lines", "()I"⟩
abbrev cX10_line : ByteArray := prog_1_method_13_code
def yX10_line : MethodName := ⟨RX10, "line", "(II)I"⟩
abbrev cX10_sign : ByteArray := prog_1_method_14_code
def yX10_sign : MethodName := ⟨RX10, "sign", "(II)I"⟩
abbrev cX10_rivers : ByteArray := prog_1_method_15_code
def yX10_rivers : MethodName := ⟨RX10, "rivers", "(I)I"⟩
abbrev cX10_page : ByteArray := prog_1_method_16_code
def yX10_page : MethodName := ⟨RX10, "page", "(II)Z"⟩
abbrev cX10_mark : ByteArray := prog_1_method_17_code
def yX10_mark : MethodName := ⟨RX10, "mark", "(I)I"⟩
abbrev cX10_marked : ByteArray := prog_1_method_18_code
def yX10_marked : MethodName := ⟨RX10, "marked", "(II)I"⟩
abbrev cX10_test : ByteArray := prog_1_method_19_code
def yX10_test : MethodName := ⟨RX10, "test", "(III)Z"⟩
abbrev cX10_tested : ByteArray := prog_1_method_20_code
def yX10_tested : MethodName := ⟨RX10, "tested", "(I)I"⟩
abbrev cX10_answer : ByteArray := prog_1_method_21_code
def yX10_answer : MethodName := ⟨RX10, "answer", "(Z)I"⟩
abbrev cX10_use : ByteArray := prog_1_method_22_code
def yX10_use : MethodName := ⟨RX10, "use", "()Z"⟩
abbrev cX10_readTape : ByteArray := prog_1_method_23_code
def yX10_readTape : MethodName := ⟨RX10, "readTape", "()V"⟩
abbrev cX10_shiftOf : ByteArray := prog_1_method_24_code
def yX10_shiftOf : MethodName := ⟨RX10, "shiftOf", "(I)I"⟩
abbrev cX10_within : ByteArray := prog_1_method_25_code
def yX10_within : MethodName := ⟨RX10, "within", "(III)Z"⟩
abbrev cX10_isLetter : ByteArray := prog_1_method_26_code
def yX10_isLetter : MethodName := ⟨RX10, "isLetter", "(I)Z"⟩
def RX11 : String := "StillTextModel"
def TX11 : u_T := fun k => match k with
  | 0 => ("StillTextModel", "units", "I", false)
  | 1 => ("StillTextModel", "size", "[I", true)
  | 2 => ("StillTextModel", "letter", "[I", true)
  | 3 => ("StillTextModel", "behind", "[I", true)
  | 4 => ("StillTextModel", "wordOf", "[I", true)
  | 5 => ("StillTextModel", "tape", "[I", true)
  | 6 => ("StillTextModel", "taped", "I", false)
  | 7 => ("StillTextModel", "fault", "I", false)
  | 8 => ("StillTextModel", "faultPlace", "I", false)
  | 9 => ("StillTextModel", "reads", "I", false)
  | 10 => ("StillTextModel", "readSize", "[I", true)
  | 11 => ("StillTextModel", "readLetter", "[I", true)
  | 12 => ("StillTextModel", "readBehind", "[I", true)
  | 13 => ("StillTextModel", "longest", "I", false)
  | 14 => ("StillTextModel", "spread", "I", false)
  | 15 => ("StillTextModel", "shortest", "I", false)
  | 16 => ("StillTextModel", "phrase", "I", false)
  | 17 => ("StillTextModel", "inner", "I", false)
  | 18 => ("StillTextModel", "cut", "I", false)
  | 19 => ("StillTextModel", "river", "I", false)
  | 20 => ("StillTextModel", "likes", "[I", true)
  | 21 => ("StillTextModel", "upper", "[I", true)
  | 22 => ("StillTextModel", "lower", "[I", true)
  | 23 => ("StillTextModel", "least", "[I", true)
  | 24 => ("StillTextModel", "isSet", "Z", false)
  | 25 => ("StillTextModel", "isFresh", "Z", false)
  | 26 => ("StillTextModel", "lines", "I", false)
  | 27 => ("StillTextModel", "lineFrom", "[I", true)
  | 28 => ("StillTextModel", "lineMany", "[I", true)
  | 29 => ("StillTextModel", "lineSigns", "[I", true)
  | 30 => ("StillTextModel", "signs", "[I", true)
  | 31 => ("StillTextModel", "rows", "I", false)
  | 32 => ("StillTextModel", "tints", "I", false)
  | 33 => ("StillTextModel", "marks", "I", false)
  | 34 => ("StillTextModel", "markUnit", "[I", true)
  | 35 => ("StillTextModel", "markPage", "[I", true)
  | 36 => ("StillTextModel", "hasTests", "Z", false)
  | 37 => ("StillTextModel", "bestLong", "I", false)
  | 38 => ("StillTextModel", "bestSpread", "I", false)
  | 39 => ("StillTextModel", "lead", "I", false)
  | 40 => ("StillTextModel", "ahead", "I", false)
  | 41 => ("StillTextModel", "answers", "I", false)
  | 42 => ("StillTextModel", "won", "I", false)
  | _ => ("StillTextModel", "now", "I", false)
def tyX11 : Nat → FieldType := fun k => match k with
  | 0 => .int
  | 1 => .array .int
  | 2 => .array .int
  | 3 => .array .int
  | 4 => .array .int
  | 5 => .array .int
  | 6 => .int
  | 7 => .int
  | 8 => .int
  | 9 => .int
  | 10 => .array .int
  | 11 => .array .int
  | 12 => .array .int
  | 13 => .int
  | 14 => .int
  | 15 => .int
  | 16 => .int
  | 17 => .int
  | 18 => .int
  | 19 => .int
  | 20 => .array .int
  | 21 => .array .int
  | 22 => .array .int
  | 23 => .array .int
  | 24 => .boolean
  | 25 => .boolean
  | 26 => .int
  | 27 => .array .int
  | 28 => .array .int
  | 29 => .array .int
  | 30 => .array .int
  | 31 => .int
  | 32 => .int
  | 33 => .int
  | 34 => .array .int
  | 35 => .array .int
  | 36 => .boolean
  | 37 => .int
  | 38 => .int
  | 39 => .int
  | 40 => .int
  | 41 => .int
  | 42 => .int
  | _ => .int
abbrev wsX110 : List Cond := u_ws RX11 TX11 44
theorem nmX11 : ∀ a, a < 44 → ∀ b, b < 44 → a ≠ b → (TX11 a).2.1 ≠ (TX11 b).2.1 := by decide +kernel
theorem tyX11_ok : ∀ k, k < 44 → parseFieldDescriptor (TX11 k).2.2.1 = some (tyX11 k) := by decide +kernel
abbrev cX11_init : ByteArray := prog_13_method_1_code
def yX11_init : MethodName := ⟨RX11, "<init>", "()V"⟩
abbrev cX11_feed : ByteArray := prog_13_method_2_code
def yX11_feed : MethodName := ⟨RX11, "feed", "(IIIII)I"⟩
abbrev cX11_end : ByteArray := prog_13_method_3_code
def yX11_end : MethodName := ⟨RX11, "end", "(I)Z"⟩
abbrev cX11_isLetter : ByteArray := prog_13_method_4_code
def yX11_isLetter : MethodName := ⟨RX11, "isLetter", "(I)Z"⟩
abbrev cX11_isBlank : ByteArray := prog_13_method_5_code
def yX11_isBlank : MethodName := ⟨RX11, "isBlank", "(I)Z"⟩
abbrev cX11_isEnd : ByteArray := prog_13_method_6_code
def yX11_isEnd : MethodName := ⟨RX11, "isEnd", "(I)Z"⟩
abbrev cX11_fails : ByteArray := prog_13_method_7_code
def yX11_fails : MethodName := ⟨RX11, "fails", "(II)Z"⟩
abbrev cX11_isText : ByteArray := prog_13_method_8_code
def yX11_isText : MethodName := ⟨RX11, "isText", "()Z"⟩
abbrev cX11_takes : ByteArray := prog_13_method_9_code
def yX11_takes : MethodName := ⟨RX11, "takes", "(II)V"⟩
abbrev cX11_words : ByteArray := prog_13_method_10_code
def yX11_words : MethodName := ⟨RX11, "words", "()V"⟩
abbrev cX11_text : ByteArray := prog_13_method_11_code
def yX11_text : MethodName := ⟨RX11, "text", "()I"⟩
abbrev cX11_fault : ByteArray := prog_13_method_12_code
def yX11_fault : MethodName := ⟨RX11, "fault", "(I)I"⟩
abbrev cX11_put : ByteArray := prog_13_method_13_code
def yX11_put : MethodName := ⟨RX11, "put", "(I)I"⟩
abbrev cX11_unit : ByteArray := prog_13_method_14_code
def yX11_unit : MethodName := ⟨RX11, "unit", "(II)I"⟩
abbrev cX11_isIn : ByteArray := prog_13_method_15_code
def yX11_isIn : MethodName := ⟨RX11, "isIn", "(III)Z"⟩
abbrev cX11_measure : ByteArray := prog_13_method_16_code
def yX11_measure : MethodName := ⟨RX11, "measure", "(II)Z"⟩
abbrev cX11_strains : ByteArray := prog_13_method_17_code
def yX11_strains : MethodName := ⟨RX11, "strains", "(IIIII)Z"⟩
abbrev cX11_like : ByteArray := prog_13_method_18_code
def yX11_like : MethodName := ⟨RX11, "like", "(III)I"⟩
abbrev cX11_lays : ByteArray := prog_13_method_19_code
def yX11_lays : MethodName := ⟨RX11, "lays", "([III)I"⟩
abbrev cX11_lineStrain : ByteArray := prog_13_method_20_code
def yX11_lineStrain : MethodName := ⟨RX11, "lineStrain", "(III)I"⟩
abbrev cX11_pairStrain : ByteArray := prog_13_method_21_code
def yX11_pairStrain : MethodName := ⟨RX11, "pairStrain", "(II)I"⟩
abbrev cX11_place : ByteArray := prog_13_method_22_code
def yX11_place : MethodName := ⟨RX11, "place", "(II)I"⟩
abbrev cX11_most : ByteArray := prog_13_method_23_code
def yX11_most : MethodName := ⟨RX11, "most", "(I)I"⟩
abbrev cX11_costOf : ByteArray := prog_13_method_24_code
def yX11_costOf : MethodName := ⟨RX11, "costOf", "(IIII)I"⟩
abbrev cX11_weighs : ByteArray := prog_13_method_25_code
def yX11_weighs : MethodName := ⟨RX11, "weighs", "()V"⟩
abbrev cX11_keeps : ByteArray := prog_13_method_26_code
def yX11_keeps : MethodName := ⟨RX11, "keeps", "(II)V"⟩
abbrev cX11_set : ByteArray := prog_13_method_27_code
def yX11_set : MethodName := ⟨RX11, "set", "()I"⟩
abbrev cX11_lines : ByteArray := prog_13_method_28_code
def yX11_lines : MethodName := ⟨RX11, "lines", "()I"⟩
abbrev cX11_page : ByteArray := prog_13_method_29_code
def yX11_page : MethodName := ⟨RX11, "page", "(II)Z"⟩
abbrev cX11_line : ByteArray := prog_13_method_30_code
def yX11_line : MethodName := ⟨RX11, "line", "(II)I"⟩
abbrev cX11_sign : ByteArray := prog_13_method_31_code
def yX11_sign : MethodName := ⟨RX11, "sign", "(II)I"⟩
abbrev cX11_rivers : ByteArray := prog_13_method_32_code
def yX11_rivers : MethodName := ⟨RX11, "rivers", "(I)I"⟩
abbrev cX11_pageOf : ByteArray := prog_13_method_33_code
def yX11_pageOf : MethodName := ⟨RX11, "pageOf", "(I)I"⟩
abbrev cX11_mark : ByteArray := prog_13_method_34_code
def yX11_mark : MethodName := ⟨RX11, "mark", "(I)I"⟩
abbrev cX11_marked : ByteArray := prog_13_method_35_code
def yX11_marked : MethodName := ⟨RX11, "marked", "(II)I"⟩
abbrev cX11_neighbourLong : ByteArray := prog_13_method_36_code
def yX11_neighbourLong : MethodName := ⟨RX11, "neighbourLong", "()I"⟩
abbrev cX11_neighbourSpread : ByteArray := prog_13_method_37_code
def yX11_neighbourSpread : MethodName := ⟨RX11, "neighbourSpread", "()I"⟩
abbrev cX11_finds : ByteArray := prog_13_method_38_code
def yX11_finds : MethodName := ⟨RX11, "finds", "(I)V"⟩
abbrev cX11_test : ByteArray := prog_13_method_39_code
def yX11_test : MethodName := ⟨RX11, "test", "(III)Z"⟩
abbrev cX11_isOver : ByteArray := prog_13_method_40_code
def yX11_isOver : MethodName := ⟨RX11, "isOver", "()Z"⟩
abbrev cX11_tested : ByteArray := prog_13_method_41_code
def yX11_tested : MethodName := ⟨RX11, "tested", "(I)I"⟩
abbrev cX11_answer : ByteArray := prog_13_method_42_code
def yX11_answer : MethodName := ⟨RX11, "answer", "(Z)I"⟩
abbrev cX11_use : ByteArray := prog_13_method_43_code
def yX11_use : MethodName := ⟨RX11, "use", "()Z"⟩
def RJ9 : String := "java/lang/Math"
def TJ9 : u_T := fun k => match k with
  | _ => ("", "", "", false)
def tyJ9 : Nat → FieldType := fun k => match k with
  | _ => .int
abbrev wsJ90 : List Cond := u_ws RJ9 TJ9 0
theorem nmJ9 : ∀ a, a < 0 → ∀ b, b < 0 → a ≠ b → (TJ9 a).2.1 ≠ (TJ9 b).2.1 := by decide +kernel
theorem tyJ9_ok : ∀ k, k < 0 → parseFieldDescriptor (TJ9 k).2.2.1 = some (tyJ9 k) := by decide +kernel
abbrev cJ9_abs_0f7a4 : ByteArray := prog_14_method_59_code
def yJ9_abs_0f7a4 : MethodName := ⟨RJ9, "abs", "(I)I"⟩
abbrev cJ9_min_7cf53 : ByteArray := prog_14_method_69_code
def yJ9_min_7cf53 : MethodName := ⟨RJ9, "min", "(II)I"⟩
def RJ10 : String := "java/lang/System"
def TJ10 : u_T := fun k => match k with
  | _ => ("", "", "", false)
def tyJ10 : Nat → FieldType := fun k => match k with
  | _ => .int
abbrev wsJ100 : List Cond := u_ws RJ10 TJ10 0
theorem nmJ10 : ∀ a, a < 0 → ∀ b, b < 0 → a ≠ b → (TJ10 a).2.1 ≠ (TJ10 b).2.1 := by decide +kernel
theorem tyJ10_ok : ∀ k, k < 0 → parseFieldDescriptor (TJ10 k).2.2.1 = some (tyJ10 k) := by decide +kernel
def RL : String := "StillTextLaw"
abbrev cL_law : ByteArray := code
def yL_law : MethodName := ⟨RL, "law", "([I)Z"⟩
def wsX0_init : List Cond := .code yX0_init cX0_init 1 none :: ([.methodLink RX0 3 objectInit, .instanceMethod objectInit, .code objectInit ⟨#[0xb1]⟩ 1 none, .arrayClass .int, .fieldLink RX0 9 "StillText$Marks" "units" "[I", .fieldLink RX0 15 "StillText$Marks" "kept" "[I"] ++ wsX00)
def wsX0_has : List Cond := .code yX0_has cX0_has 2 (some .boolean) :: ([.fieldLink RX0 18 "StillText$Marks" "count" "I"] ++ wsX00)
def wsX0_add : List Cond := .code yX0_add cX0_add 3 (some .int) :: ([.fieldLink RX0 18 "StillText$Marks" "count" "I", .fieldLink RX0 9 "StillText$Marks" "units" "[I", .fieldLink RX0 15 "StillText$Marks" "kept" "[I"] ++ wsX00)
def wsX0_unitOf : List Cond := .code yX0_unitOf cX0_unitOf 2 (some .int) :: ([.fieldLink RX0 9 "StillText$Marks" "units" "[I", .methodLink RX0 22 yX0_has, .instanceMethod yX0_has, .selects RX0 yX0_has yX0_has, .initialized RX0, .code yX0_has cX0_has 2 (some .boolean), .fieldLink RX0 18 "StillText$Marks" "count" "I"] ++ wsX00)
def wsX0_pageOf : List Cond := .code yX0_pageOf cX0_pageOf 2 (some .int) :: ([.fieldLink RX0 15 "StillText$Marks" "kept" "[I", .methodLink RX0 22 yX0_has, .instanceMethod yX0_has, .selects RX0 yX0_has yX0_has, .initialized RX0, .code yX0_has cX0_has 2 (some .boolean), .fieldLink RX0 18 "StillText$Marks" "count" "I"] ++ wsX00)
def wsX0_moveBehind : List Cond := .code yX0_moveBehind cX0_moveBehind 4 none :: ([.fieldLink RX0 18 "StillText$Marks" "count" "I", .fieldLink RX0 9 "StillText$Marks" "units" "[I"] ++ wsX00)
def wsX0_drop : List Cond := .code yX0_drop cX0_drop 1 none :: ([.fieldLink RX0 18 "StillText$Marks" "count" "I"] ++ wsX00)
def wsX1_pair : List Cond := .code yX1_pair cX1_pair 2 (some .int) :: ([])
def wsX1_init : List Cond := .code yX1_init cX1_init 1 none :: ([.methodLink RX1 3 objectInit, .instanceMethod objectInit, .code objectInit ⟨#[0xb1]⟩ 1 none, .fieldLink RX1 9 "StillText$Measures" "longest" "I", .fieldLink RX1 15 "StillText$Measures" "spread" "I", .fieldLink RX1 18 "StillText$Measures" "shortest" "I", .fieldLink RX1 21 "StillText$Measures" "phrase" "I", .fieldLink RX1 24 "StillText$Measures" "inner" "I", .fieldLink RX1 27 "StillText$Measures" "cut" "I", .arrayClass .int, .fieldLink RX1 30 "StillText$Measures" "places" "[I", .methodLink RX1 34 yX1_pair, .static yX1_pair, .initialized RX1, .code yX1_pair cX1_pair 2 (some .int)] ++ wsX10)
def wsX10_isLetter : List Cond := .code yX10_isLetter cX10_isLetter 1 (some .boolean) :: ([])
def wsX1_kindOf : List Cond := .code yX1_kindOf cX1_kindOf 1 (some .int) :: ([.static yX10_isLetter, .initialized RX10, .code yX10_isLetter cX10_isLetter 1 (some .boolean)])
def wsX1_longest : List Cond := .code yX1_longest cX1_longest 1 (some .int) :: ([.fieldLink RX1 9 "StillText$Measures" "longest" "I"] ++ wsX10)
def wsX1_spread : List Cond := .code yX1_spread cX1_spread 1 (some .int) :: ([.fieldLink RX1 15 "StillText$Measures" "spread" "I"] ++ wsX10)
def wsX10_within : List Cond := .code yX10_within cX10_within 3 (some .boolean) :: ([])
def wsX1_changeLine : List Cond := .code yX1_changeLine cX1_changeLine 3 (some .boolean) :: ([.fieldLink RX1 9 "StillText$Measures" "longest" "I", .fieldLink RX1 15 "StillText$Measures" "spread" "I", .static yX10_within, .initialized RX10, .code yX10_within cX10_within 3 (some .boolean)] ++ wsX10)
def wsX1_changeStrains : List Cond := .code yX1_changeStrains cX1_changeStrains 7 (some .boolean) :: ([.fieldLink RX1 18 "StillText$Measures" "shortest" "I", .fieldLink RX1 21 "StillText$Measures" "phrase" "I", .fieldLink RX1 24 "StillText$Measures" "inner" "I", .fieldLink RX1 27 "StillText$Measures" "cut" "I", .fieldLink RX1 30 "StillText$Measures" "places" "[I", .static yX10_within, .initialized RX10, .code yX10_within cX10_within 3 (some .boolean), .methodLink RX1 34 yX1_pair, .static yX1_pair, .initialized RX1, .code yX1_pair cX1_pair 2 (some .int)] ++ wsX10)
def wsX1_changeLikeness : List Cond := .code yX1_changeLikeness cX1_changeLikeness 5 (some .int) :: ([.fieldLink RX1 30 "StillText$Measures" "places" "[I", .static yX10_isLetter, .initialized RX10, .code yX10_isLetter cX10_isLetter 1 (some .boolean), .static yX10_within, .code yX10_within cX10_within 3 (some .boolean), .methodLink RX1 46 yX1_kindOf, .static yX1_kindOf, .initialized RX1, .code yX1_kindOf cX1_kindOf 1 (some .int), .methodLink RX1 34 yX1_pair, .static yX1_pair, .code yX1_pair cX1_pair 2 (some .int)] ++ wsX10)
def wsX1_strainOfPlace : List Cond := .code yX1_strainOfPlace cX1_strainOfPlace 3 (some .int) :: ([.fieldLink RX1 30 "StillText$Measures" "places" "[I", .methodLink RX1 34 yX1_pair, .static yX1_pair, .initialized RX1, .code yX1_pair cX1_pair 2 (some .int)] ++ wsX10)
def wsX1_strainOfEnd : List Cond := .code yX1_strainOfEnd cX1_strainOfEnd 2 (some .int) :: ([.fieldLink RX1 21 "StillText$Measures" "phrase" "I", .fieldLink RX1 27 "StillText$Measures" "cut" "I", .fieldLink RX1 24 "StillText$Measures" "inner" "I"] ++ wsX10)
def wsX1_strainOfLine : List Cond := .code yX1_strainOfLine cX1_strainOfLine 4 (some .int) :: ([.fieldLink RX1 9 "StillText$Measures" "longest" "I", .fieldLink RX1 18 "StillText$Measures" "shortest" "I", .methodLink RX1 50 yX1_strainOfEnd, .instanceMethod yX1_strainOfEnd, .selects RX1 yX1_strainOfEnd yX1_strainOfEnd, .initialized RX1, .code yX1_strainOfEnd cX1_strainOfEnd 2 (some .int), .fieldLink RX1 21 "StillText$Measures" "phrase" "I", .fieldLink RX1 27 "StillText$Measures" "cut" "I", .fieldLink RX1 24 "StillText$Measures" "inner" "I"] ++ wsX10)
def wsX2_init : List Cond := .code yX2_init cX2_init 1 none :: ([.methodLink RX2 1 objectInit, .instanceMethod objectInit, .code objectInit ⟨#[0xb1]⟩ 1 none, .fieldLink RX2 7 "StillText$Pages" "rows" "I", .fieldLink RX2 13 "StillText$Pages" "tints" "I"] ++ wsX20)
def wsX2_change : List Cond := .code yX2_change cX2_change 3 (some .boolean) :: ([.fieldLink RX2 7 "StillText$Pages" "rows" "I", .fieldLink RX2 13 "StillText$Pages" "tints" "I", .static yX10_within, .initialized RX10, .code yX10_within cX10_within 3 (some .boolean)] ++ wsX20)
def wsX2_pageOf : List Cond := .code yX2_pageOf cX2_pageOf 2 (some .int) :: ([.fieldLink RX2 7 "StillText$Pages" "rows" "I"] ++ wsX20)
def wsX2_tintOf : List Cond := .code yX2_tintOf cX2_tintOf 2 (some .int) :: ([.fieldLink RX2 7 "StillText$Pages" "rows" "I", .fieldLink RX2 13 "StillText$Pages" "tints" "I"] ++ wsX20)
def wsX9_init : List Cond := .code yX9_init cX9_init 1 none :: ([.methodLink RX9 3 objectInit, .instanceMethod objectInit, .code objectInit ⟨#[0xb1]⟩ 1 none, .arrayClass .int, .fieldLink RX9 9 "StillText$Units" "letters" "[I", .fieldLink RX9 15 "StillText$Units" "sizes" "[I", .fieldLink RX9 18 "StillText$Units" "behind" "[I"] ++ wsX90)
def wsX3_init : List Cond := .code yX3_init cX3_init 1 none :: ([.methodLink RX3 3 objectInit, .instanceMethod objectInit, .code objectInit ⟨#[0xb1]⟩ 1 none, .classLink RX3 9 RX9, .instantiable RX9 4, .initialized RX9, .fieldLink RX3 12 "StillText$Reading" "units" "LStillText$Units;", .fieldLink RX3 18 "StillText$Reading" "kind" "I", .fieldLink RX3 22 "StillText$Reading" "place" "I", .instanceMethod yX9_init, .code yX9_init cX9_init 1 none, .methodLink RX9 3 objectInit, .arrayClass .int, .fieldLink RX9 9 "StillText$Units" "letters" "[I", .fieldLink RX9 15 "StillText$Units" "sizes" "[I", .fieldLink RX9 18 "StillText$Units" "behind" "[I"] ++ wsX90 ++ wsX30)
def wsX3_units : List Cond := .code yX3_units cX3_units 1 (some (.object "StillText$Units")) :: ([.fieldLink RX3 12 "StillText$Reading" "units" "LStillText$Units;"] ++ wsX30)
def wsX3_hasFault : List Cond := .code yX3_hasFault cX3_hasFault 1 (some .boolean) :: ([.fieldLink RX3 18 "StillText$Reading" "kind" "I"] ++ wsX30)
def wsX3_kind : List Cond := .code yX3_kind cX3_kind 1 (some .int) :: ([.fieldLink RX3 18 "StillText$Reading" "kind" "I"] ++ wsX30)
def wsX3_place : List Cond := .code yX3_place cX3_place 1 (some .int) :: ([.fieldLink RX3 22 "StillText$Reading" "place" "I"] ++ wsX30)
def wsX9_clear : List Cond := .code yX9_clear cX9_clear 1 none :: ([.fieldLink RX9 21 "StillText$Units" "count" "I"] ++ wsX90)
def wsX7_length : List Cond := .code yX7_length cX7_length 1 (some .int) :: ([.fieldLink RX7 15 "StillText$Tape" "length" "I"] ++ wsX70)
def wsX7_byteAt : List Cond := .code yX7_byteAt cX7_byteAt 2 (some .int) :: ([.fieldLink RX7 15 "StillText$Tape" "length" "I", .fieldLink RX7 9 "StillText$Tape" "bytes" "[I"] ++ wsX70)
def wsX3_refuse : List Cond := .code yX3_refuse cX3_refuse 3 none :: ([.fieldLink RX3 18 "StillText$Reading" "kind" "I", .fieldLink RX3 22 "StillText$Reading" "place" "I"] ++ wsX30)
def wsX9_open : List Cond := .code yX9_open cX9_open 1 (some .boolean) :: ([.fieldLink RX9 21 "StillText$Units" "count" "I", .fieldLink RX9 15 "StillText$Units" "sizes" "[I", .fieldLink RX9 18 "StillText$Units" "behind" "[I"] ++ wsX90)
def wsX9_addLetter : List Cond := .code yX9_addLetter cX9_addLetter 3 (some .boolean) :: ([.fieldLink RX9 21 "StillText$Units" "count" "I", .fieldLink RX9 15 "StillText$Units" "sizes" "[I", .fieldLink RX9 9 "StillText$Units" "letters" "[I"] ++ wsX90)
def wsX3_stateBehindLetter : List Cond := .code yX3_stateBehindLetter cX3_stateBehindLetter 4 (some .int) :: ([.fieldLink RX3 12 "StillText$Reading" "units" "LStillText$Units;", .methodLink RX3 42 yX3_refuse, .instanceMethod yX3_refuse, .selects RX3 yX3_refuse yX3_refuse, .initialized RX3, .code yX3_refuse cX3_refuse 3 none, .fieldLink RX3 18 "StillText$Reading" "kind" "I", .fieldLink RX3 22 "StillText$Reading" "place" "I", .methodLink RX3 57 yX9_open, .instanceMethod yX9_open, .selects RX9 yX9_open yX9_open, .initialized RX9, .code yX9_open cX9_open 1 (some .boolean), .fieldLink RX9 21 "StillText$Units" "count" "I", .fieldLink RX9 15 "StillText$Units" "sizes" "[I", .fieldLink RX9 18 "StillText$Units" "behind" "[I", .methodLink RX3 61 yX9_addLetter, .instanceMethod yX9_addLetter, .selects RX9 yX9_addLetter yX9_addLetter, .code yX9_addLetter cX9_addLetter 3 (some .boolean), .fieldLink RX9 9 "StillText$Units" "letters" "[I"] ++ wsX30 ++ wsX90)
def wsX9_close : List Cond := .code yX9_close cX9_close 2 none :: ([.fieldLink RX9 21 "StillText$Units" "count" "I", .fieldLink RX9 18 "StillText$Units" "behind" "[I"] ++ wsX90)
def wsX3_stateBehind_r1 : List Cond := [Cond.fieldLink RX3 12 "StillText$Reading" "units" "LStillText$Units;", Cond.static yX10_isLetter, Cond.initialized RX10, Cond.code yX10_isLetter cX10_isLetter 1 (some .boolean), Cond.methodLink RX3 50 yX3_stateBehindLetter, Cond.instanceMethod yX3_stateBehindLetter, Cond.selects RX3 yX3_stateBehindLetter yX3_stateBehindLetter, Cond.initialized RX3, Cond.code yX3_stateBehindLetter cX3_stateBehindLetter 4 (some .int), Cond.methodLink RX3 42 yX3_refuse, Cond.instanceMethod yX3_refuse, Cond.selects RX3 yX3_refuse yX3_refuse, Cond.code yX3_refuse cX3_refuse 3 none, Cond.fieldLink RX3 18 "StillText$Reading" "kind" "I", Cond.fieldLink RX3 22 "StillText$Reading" "place" "I", Cond.methodLink RX3 57 yX9_open, Cond.instanceMethod yX9_open, Cond.selects RX9 yX9_open yX9_open, Cond.initialized RX9, Cond.code yX9_open cX9_open 1 (some .boolean), Cond.fieldLink RX9 21 "StillText$Units" "count" "I", Cond.fieldLink RX9 15 "StillText$Units" "sizes" "[I", Cond.fieldLink RX9 18 "StillText$Units" "behind" "[I", Cond.methodLink RX3 61 yX9_addLetter]
def wsX3_stateBehind_r2 : List Cond := [Cond.instanceMethod yX9_addLetter, Cond.selects RX9 yX9_addLetter yX9_addLetter, Cond.code yX9_addLetter cX9_addLetter 3 (some .boolean), Cond.fieldLink RX9 9 "StillText$Units" "letters" "[I", Cond.methodLink RX3 53 yX9_close, Cond.instanceMethod yX9_close, Cond.selects RX9 yX9_close yX9_close, Cond.code yX9_close cX9_close 2 none]
def wsX3_stateBehind : List Cond := .code yX3_stateBehind cX3_stateBehind 6 (some .int) :: ((wsX3_stateBehind_r1 ++ wsX3_stateBehind_r2) ++ wsX30 ++ wsX90)
def wsX3_read_r1 : List Cond := [Cond.fieldLink RX3 12 "StillText$Reading" "units" "LStillText$Units;", Cond.fieldLink RX3 18 "StillText$Reading" "kind" "I", Cond.fieldLink RX3 22 "StillText$Reading" "place" "I", Cond.methodLink RX3 25 yX9_clear, Cond.instanceMethod yX9_clear, Cond.selects RX9 yX9_clear yX9_clear, Cond.initialized RX9, Cond.code yX9_clear cX9_clear 1 none, Cond.fieldLink RX9 21 "StillText$Units" "count" "I", Cond.methodLink RX3 28 yX7_length, Cond.instanceMethod yX7_length, Cond.selects RX7 yX7_length yX7_length, Cond.initialized RX7, Cond.code yX7_length cX7_length 1 (some .int), Cond.fieldLink RX7 15 "StillText$Tape" "length" "I", Cond.methodLink RX3 34 yX7_byteAt, Cond.instanceMethod yX7_byteAt, Cond.selects RX7 yX7_byteAt yX7_byteAt, Cond.code yX7_byteAt cX7_byteAt 2 (some .int), Cond.fieldLink RX7 9 "StillText$Tape" "bytes" "[I", Cond.methodLink RX3 38 yX3_stateBehind, Cond.instanceMethod yX3_stateBehind, Cond.selects RX3 yX3_stateBehind yX3_stateBehind, Cond.initialized RX3]
def wsX3_read_r2 : List Cond := [Cond.code yX3_stateBehind cX3_stateBehind 6 (some .int), Cond.static yX10_isLetter, Cond.initialized RX10, Cond.code yX10_isLetter cX10_isLetter 1 (some .boolean), Cond.methodLink RX3 50 yX3_stateBehindLetter, Cond.instanceMethod yX3_stateBehindLetter, Cond.selects RX3 yX3_stateBehindLetter yX3_stateBehindLetter, Cond.code yX3_stateBehindLetter cX3_stateBehindLetter 4 (some .int), Cond.methodLink RX3 42 yX3_refuse, Cond.instanceMethod yX3_refuse, Cond.selects RX3 yX3_refuse yX3_refuse, Cond.code yX3_refuse cX3_refuse 3 none, Cond.methodLink RX3 57 yX9_open, Cond.instanceMethod yX9_open, Cond.selects RX9 yX9_open yX9_open, Cond.code yX9_open cX9_open 1 (some .boolean), Cond.fieldLink RX9 15 "StillText$Units" "sizes" "[I", Cond.fieldLink RX9 18 "StillText$Units" "behind" "[I", Cond.methodLink RX3 61 yX9_addLetter, Cond.instanceMethod yX9_addLetter, Cond.selects RX9 yX9_addLetter yX9_addLetter, Cond.code yX9_addLetter cX9_addLetter 3 (some .boolean), Cond.fieldLink RX9 9 "StillText$Units" "letters" "[I", Cond.methodLink RX3 53 yX9_close]
def wsX3_read_r3 : List Cond := [Cond.instanceMethod yX9_close, Cond.selects RX9 yX9_close yX9_close, Cond.code yX9_close cX9_close 2 none]
def wsX3_read : List Cond := .code yX3_read cX3_read 4 none :: ((wsX3_read_r1 ++ (wsX3_read_r2 ++ wsX3_read_r3)) ++ wsX30 ++ wsX90 ++ wsX70)
def wsX4_init : List Cond := .code yX4_init cX4_init 3 none :: ([.methodLink RX4 3 objectInit, .instanceMethod objectInit, .code objectInit ⟨#[0xb1]⟩ 1 none, .arrayClass .int, .fieldLink RX4 9 "StillText$Setter" "most" "[I", .fieldLink RX4 15 "StillText$Setter" "least" "[I", .fieldLink RX4 18 "StillText$Setter" "strip" "LStillText$Strip;", .fieldLink RX4 22 "StillText$Setter" "measures" "LStillText$Measures;"] ++ wsX40)
def wsX6_units : List Cond := .code yX6_units cX6_units 1 (some .int) :: ([.fieldLink RX6 27 "StillText$Strip" "units" "I"] ++ wsX60)
def wsX6_holds : List Cond := .code yX6_holds cX6_holds 3 (some .boolean) :: ([.fieldLink RX6 27 "StillText$Strip" "units" "I"] ++ wsX60)
def wsX6_body : List Cond := .code yX6_body cX6_body 3 (some .int) :: ([.fieldLink RX6 21 "StillText$Strip" "ends" "[I", .fieldLink RX6 18 "StillText$Strip" "begins" "[I", .methodLink RX6 69 yX6_holds, .instanceMethod yX6_holds, .selects RX6 yX6_holds yX6_holds, .initialized RX6, .code yX6_holds cX6_holds 3 (some .boolean), .fieldLink RX6 27 "StillText$Strip" "units" "I"] ++ wsX60)
def wsX6_behindLine : List Cond := .code yX6_behindLine cX6_behindLine 3 (some .int) :: ([.fieldLink RX6 24 "StillText$Strip" "behind" "[I", .methodLink RX6 69 yX6_holds, .instanceMethod yX6_holds, .selects RX6 yX6_holds yX6_holds, .initialized RX6, .code yX6_holds cX6_holds 3 (some .boolean), .fieldLink RX6 27 "StillText$Strip" "units" "I"] ++ wsX60)
def wsX6_signsOf : List Cond := .code yX6_signsOf cX6_signsOf 3 (some .int) :: ([.methodLink RX6 73 yX6_body, .instanceMethod yX6_body, .selects RX6 yX6_body yX6_body, .initialized RX6, .code yX6_body cX6_body 3 (some .int), .fieldLink RX6 21 "StillText$Strip" "ends" "[I", .fieldLink RX6 18 "StillText$Strip" "begins" "[I", .methodLink RX6 69 yX6_holds, .instanceMethod yX6_holds, .selects RX6 yX6_holds yX6_holds, .code yX6_holds cX6_holds 3 (some .boolean), .fieldLink RX6 27 "StillText$Strip" "units" "I", .methodLink RX6 76 yX6_behindLine, .instanceMethod yX6_behindLine, .selects RX6 yX6_behindLine yX6_behindLine, .code yX6_behindLine cX6_behindLine 3 (some .int), .fieldLink RX6 24 "StillText$Strip" "behind" "[I"] ++ wsX60)
def wsX4_fits_r1 : List Cond := [Cond.fieldLink RX4 18 "StillText$Setter" "strip" "LStillText$Strip;", Cond.fieldLink RX4 22 "StillText$Setter" "measures" "LStillText$Measures;", Cond.methodLink RX4 26 yX6_units, Cond.instanceMethod yX6_units, Cond.selects RX6 yX6_units yX6_units, Cond.initialized RX6, Cond.code yX6_units cX6_units 1 (some .int), Cond.fieldLink RX6 27 "StillText$Strip" "units" "I", Cond.methodLink RX4 60 yX6_signsOf, Cond.instanceMethod yX6_signsOf, Cond.selects RX6 yX6_signsOf yX6_signsOf, Cond.code yX6_signsOf cX6_signsOf 3 (some .int), Cond.methodLink RX6 73 yX6_body, Cond.instanceMethod yX6_body, Cond.selects RX6 yX6_body yX6_body, Cond.code yX6_body cX6_body 3 (some .int), Cond.fieldLink RX6 21 "StillText$Strip" "ends" "[I", Cond.fieldLink RX6 18 "StillText$Strip" "begins" "[I", Cond.methodLink RX6 69 yX6_holds, Cond.instanceMethod yX6_holds, Cond.selects RX6 yX6_holds yX6_holds, Cond.code yX6_holds cX6_holds 3 (some .boolean), Cond.methodLink RX6 76 yX6_behindLine, Cond.instanceMethod yX6_behindLine]
def wsX4_fits_r2 : List Cond := [Cond.selects RX6 yX6_behindLine yX6_behindLine, Cond.code yX6_behindLine cX6_behindLine 3 (some .int), Cond.fieldLink RX6 24 "StillText$Strip" "behind" "[I", Cond.methodLink RX4 63 yX1_longest, Cond.instanceMethod yX1_longest, Cond.selects RX1 yX1_longest yX1_longest, Cond.initialized RX1, Cond.code yX1_longest cX1_longest 1 (some .int), Cond.fieldLink RX1 9 "StillText$Measures" "longest" "I"]
def wsX4_fits : List Cond := .code yX4_fits cX4_fits 3 (some .boolean) :: ((wsX4_fits_r1 ++ wsX4_fits_r2) ++ wsX40 ++ wsX60 ++ wsX10)
def wsX4_place : List Cond := .code yX4_place cX4_place 2 (some .int) :: ([])
def wsX6_beginOf : List Cond := .code yX6_beginOf cX6_beginOf 2 (some .int) :: ([.fieldLink RX6 18 "StillText$Strip" "begins" "[I", .methodLink RX6 69 yX6_holds, .instanceMethod yX6_holds, .selects RX6 yX6_holds yX6_holds, .initialized RX6, .code yX6_holds cX6_holds 3 (some .boolean), .fieldLink RX6 27 "StillText$Strip" "units" "I"] ++ wsX60)
def wsX6_strainOfPlaces : List Cond := .code yX6_strainOfPlaces cX6_strainOfPlaces 8 (some .int) :: ([.fieldLink RX6 31 "StillText$Strip" "length" "I", .fieldLink RX6 15 "StillText$Strip" "kinds" "[I", .methodLink RX6 82 yX1_strainOfPlace, .instanceMethod yX1_strainOfPlace, .selects RX1 yX1_strainOfPlace yX1_strainOfPlace, .initialized RX1, .code yX1_strainOfPlace cX1_strainOfPlace 3 (some .int), .fieldLink RX1 30 "StillText$Measures" "places" "[I", .methodLink RX1 34 yX1_pair, .static yX1_pair, .code yX1_pair cX1_pair 2 (some .int)] ++ wsX60 ++ wsX10)
def wsX4_leastBelow_r1 : List Cond := [Cond.fieldLink RX4 47 "StillText$Setter" "chosen" "I", Cond.fieldLink RX4 18 "StillText$Setter" "strip" "LStillText$Strip;", Cond.fieldLink RX4 9 "StillText$Setter" "most" "[I", Cond.methodLink RX4 78 Lib.Math.min.name, Cond.static Lib.Math.min.name, Cond.initialized "java/lang/Math", Cond.code Lib.Math.min.name Lib.Math.min.code 2 (some .int), Cond.fieldLink RX4 22 "StillText$Setter" "measures" "LStillText$Measures;", Cond.fieldLink RX4 15 "StillText$Setter" "least" "[I", Cond.methodLink RX4 26 yX6_units, Cond.instanceMethod yX6_units, Cond.selects RX6 yX6_units yX6_units, Cond.initialized RX6, Cond.code yX6_units cX6_units 1 (some .int), Cond.fieldLink RX6 27 "StillText$Strip" "units" "I", Cond.methodLink RX4 74 yX6_beginOf, Cond.instanceMethod yX6_beginOf, Cond.selects RX6 yX6_beginOf yX6_beginOf, Cond.code yX6_beginOf cX6_beginOf 2 (some .int), Cond.fieldLink RX6 18 "StillText$Strip" "begins" "[I", Cond.methodLink RX6 69 yX6_holds, Cond.instanceMethod yX6_holds, Cond.selects RX6 yX6_holds yX6_holds, Cond.code yX6_holds cX6_holds 3 (some .boolean)]
def wsX4_leastBelow_r2 : List Cond := [Cond.methodLink RX4 57 yX6_body, Cond.instanceMethod yX6_body, Cond.selects RX6 yX6_body yX6_body, Cond.code yX6_body cX6_body 3 (some .int), Cond.fieldLink RX6 21 "StillText$Strip" "ends" "[I", Cond.methodLink RX4 83 yX6_strainOfPlaces, Cond.instanceMethod yX6_strainOfPlaces, Cond.selects RX6 yX6_strainOfPlaces yX6_strainOfPlaces, Cond.code yX6_strainOfPlaces cX6_strainOfPlaces 8 (some .int), Cond.fieldLink RX6 31 "StillText$Strip" "length" "I", Cond.fieldLink RX6 15 "StillText$Strip" "kinds" "[I", Cond.methodLink RX6 82 yX1_strainOfPlace, Cond.instanceMethod yX1_strainOfPlace, Cond.selects RX1 yX1_strainOfPlace yX1_strainOfPlace, Cond.initialized RX1, Cond.code yX1_strainOfPlace cX1_strainOfPlace 3 (some .int), Cond.fieldLink RX1 30 "StillText$Measures" "places" "[I", Cond.methodLink RX1 34 yX1_pair, Cond.static yX1_pair, Cond.code yX1_pair cX1_pair 2 (some .int), Cond.methodLink RX4 36 yX4_place, Cond.static yX4_place, Cond.initialized RX4, Cond.code yX4_place cX4_place 2 (some .int)]
def wsX4_leastBelow : List Cond := .code yX4_leastBelow cX4_leastBelow 12 (some .int) :: ((wsX4_leastBelow_r1 ++ wsX4_leastBelow_r2) ++ wsX40 ++ wsX60 ++ wsX10)
def wsX4_weigh_r1 : List Cond := [Cond.fieldLink RX4 18 "StillText$Setter" "strip" "LStillText$Strip;", Cond.fieldLink RX4 22 "StillText$Setter" "measures" "LStillText$Measures;", Cond.methodLink RX4 26 yX6_units, Cond.instanceMethod yX6_units, Cond.selects RX6 yX6_units yX6_units, Cond.initialized RX6, Cond.code yX6_units cX6_units 1 (some .int), Cond.fieldLink RX6 27 "StillText$Strip" "units" "I", Cond.methodLink RX4 60 yX6_signsOf, Cond.instanceMethod yX6_signsOf, Cond.selects RX6 yX6_signsOf yX6_signsOf, Cond.code yX6_signsOf cX6_signsOf 3 (some .int), Cond.methodLink RX6 73 yX6_body, Cond.instanceMethod yX6_body, Cond.selects RX6 yX6_body yX6_body, Cond.code yX6_body cX6_body 3 (some .int), Cond.fieldLink RX6 21 "StillText$Strip" "ends" "[I", Cond.fieldLink RX6 18 "StillText$Strip" "begins" "[I", Cond.methodLink RX6 69 yX6_holds, Cond.instanceMethod yX6_holds, Cond.selects RX6 yX6_holds yX6_holds, Cond.code yX6_holds cX6_holds 3 (some .boolean), Cond.methodLink RX6 76 yX6_behindLine, Cond.instanceMethod yX6_behindLine]
def wsX4_weigh_r2 : List Cond := [Cond.selects RX6 yX6_behindLine yX6_behindLine, Cond.code yX6_behindLine cX6_behindLine 3 (some .int), Cond.fieldLink RX6 24 "StillText$Strip" "behind" "[I", Cond.methodLink RX4 68 yX6_behindLine, Cond.methodLink RX4 71 yX1_strainOfLine, Cond.instanceMethod yX1_strainOfLine, Cond.selects RX1 yX1_strainOfLine yX1_strainOfLine, Cond.initialized RX1, Cond.code yX1_strainOfLine cX1_strainOfLine 4 (some .int), Cond.fieldLink RX1 9 "StillText$Measures" "longest" "I", Cond.fieldLink RX1 18 "StillText$Measures" "shortest" "I", Cond.methodLink RX1 50 yX1_strainOfEnd, Cond.instanceMethod yX1_strainOfEnd, Cond.selects RX1 yX1_strainOfEnd yX1_strainOfEnd, Cond.code yX1_strainOfEnd cX1_strainOfEnd 2 (some .int), Cond.fieldLink RX1 21 "StillText$Measures" "phrase" "I", Cond.fieldLink RX1 27 "StillText$Measures" "cut" "I", Cond.fieldLink RX1 24 "StillText$Measures" "inner" "I", Cond.methodLink RX4 57 yX6_body, Cond.methodLink RX4 43 yX4_leastBelow, Cond.instanceMethod yX4_leastBelow, Cond.selects RX4 yX4_leastBelow yX4_leastBelow, Cond.initialized RX4, Cond.code yX4_leastBelow cX4_leastBelow 12 (some .int)]
def wsX4_weigh_r3 : List Cond := [Cond.fieldLink RX4 47 "StillText$Setter" "chosen" "I", Cond.fieldLink RX4 9 "StillText$Setter" "most" "[I", Cond.methodLink RX4 78 Lib.Math.min.name, Cond.static Lib.Math.min.name, Cond.initialized "java/lang/Math", Cond.code Lib.Math.min.name Lib.Math.min.code 2 (some .int), Cond.fieldLink RX4 15 "StillText$Setter" "least" "[I", Cond.methodLink RX4 74 yX6_beginOf, Cond.instanceMethod yX6_beginOf, Cond.selects RX6 yX6_beginOf yX6_beginOf, Cond.code yX6_beginOf cX6_beginOf 2 (some .int), Cond.methodLink RX4 83 yX6_strainOfPlaces, Cond.instanceMethod yX6_strainOfPlaces, Cond.selects RX6 yX6_strainOfPlaces yX6_strainOfPlaces, Cond.code yX6_strainOfPlaces cX6_strainOfPlaces 8 (some .int), Cond.fieldLink RX6 31 "StillText$Strip" "length" "I", Cond.fieldLink RX6 15 "StillText$Strip" "kinds" "[I", Cond.methodLink RX6 82 yX1_strainOfPlace, Cond.instanceMethod yX1_strainOfPlace, Cond.selects RX1 yX1_strainOfPlace yX1_strainOfPlace, Cond.code yX1_strainOfPlace cX1_strainOfPlace 3 (some .int), Cond.fieldLink RX1 30 "StillText$Measures" "places" "[I", Cond.methodLink RX1 34 yX1_pair, Cond.static yX1_pair]
def wsX4_weigh_r4 : List Cond := [Cond.code yX1_pair cX1_pair 2 (some .int), Cond.methodLink RX4 36 yX4_place, Cond.static yX4_place, Cond.code yX4_place cX4_place 2 (some .int)]
def wsX4_weigh : List Cond := .code yX4_weigh cX4_weigh 4 (some .int) :: ((wsX4_weigh_r1 ++ (wsX4_weigh_r2 ++ (wsX4_weigh_r3 ++ wsX4_weigh_r4))) ++ wsX40 ++ wsX60 ++ wsX10)
def wsX4_weighLines_r1 : List Cond := [Cond.fieldLink RX4 18 "StillText$Setter" "strip" "LStillText$Strip;", Cond.fieldLink RX4 15 "StillText$Setter" "least" "[I", Cond.fieldLink RX4 9 "StillText$Setter" "most" "[I", Cond.methodLink RX4 26 yX6_units, Cond.instanceMethod yX6_units, Cond.selects RX6 yX6_units yX6_units, Cond.initialized RX6, Cond.code yX6_units cX6_units 1 (some .int), Cond.fieldLink RX6 27 "StillText$Strip" "units" "I", Cond.methodLink RX4 32 yX4_fits, Cond.instanceMethod yX4_fits, Cond.selects RX4 yX4_fits yX4_fits, Cond.initialized RX4, Cond.code yX4_fits cX4_fits 3 (some .boolean), Cond.fieldLink RX4 22 "StillText$Setter" "measures" "LStillText$Measures;", Cond.methodLink RX4 60 yX6_signsOf, Cond.instanceMethod yX6_signsOf, Cond.selects RX6 yX6_signsOf yX6_signsOf, Cond.code yX6_signsOf cX6_signsOf 3 (some .int), Cond.methodLink RX6 73 yX6_body, Cond.instanceMethod yX6_body, Cond.selects RX6 yX6_body yX6_body, Cond.code yX6_body cX6_body 3 (some .int), Cond.fieldLink RX6 21 "StillText$Strip" "ends" "[I"]
def wsX4_weighLines_r2 : List Cond := [Cond.fieldLink RX6 18 "StillText$Strip" "begins" "[I", Cond.methodLink RX6 69 yX6_holds, Cond.instanceMethod yX6_holds, Cond.selects RX6 yX6_holds yX6_holds, Cond.code yX6_holds cX6_holds 3 (some .boolean), Cond.methodLink RX6 76 yX6_behindLine, Cond.instanceMethod yX6_behindLine, Cond.selects RX6 yX6_behindLine yX6_behindLine, Cond.code yX6_behindLine cX6_behindLine 3 (some .int), Cond.fieldLink RX6 24 "StillText$Strip" "behind" "[I", Cond.methodLink RX4 63 yX1_longest, Cond.instanceMethod yX1_longest, Cond.selects RX1 yX1_longest yX1_longest, Cond.initialized RX1, Cond.code yX1_longest cX1_longest 1 (some .int), Cond.fieldLink RX1 9 "StillText$Measures" "longest" "I", Cond.methodLink RX4 36 yX4_place, Cond.static yX4_place, Cond.code yX4_place cX4_place 2 (some .int), Cond.methodLink RX4 40 yX4_weigh, Cond.instanceMethod yX4_weigh, Cond.selects RX4 yX4_weigh yX4_weigh, Cond.code yX4_weigh cX4_weigh 4 (some .int), Cond.methodLink RX4 68 yX6_behindLine]
def wsX4_weighLines_r3 : List Cond := [Cond.methodLink RX4 71 yX1_strainOfLine, Cond.instanceMethod yX1_strainOfLine, Cond.selects RX1 yX1_strainOfLine yX1_strainOfLine, Cond.code yX1_strainOfLine cX1_strainOfLine 4 (some .int), Cond.fieldLink RX1 18 "StillText$Measures" "shortest" "I", Cond.methodLink RX1 50 yX1_strainOfEnd, Cond.instanceMethod yX1_strainOfEnd, Cond.selects RX1 yX1_strainOfEnd yX1_strainOfEnd, Cond.code yX1_strainOfEnd cX1_strainOfEnd 2 (some .int), Cond.fieldLink RX1 21 "StillText$Measures" "phrase" "I", Cond.fieldLink RX1 27 "StillText$Measures" "cut" "I", Cond.fieldLink RX1 24 "StillText$Measures" "inner" "I", Cond.methodLink RX4 57 yX6_body, Cond.methodLink RX4 43 yX4_leastBelow, Cond.instanceMethod yX4_leastBelow, Cond.selects RX4 yX4_leastBelow yX4_leastBelow, Cond.code yX4_leastBelow cX4_leastBelow 12 (some .int), Cond.fieldLink RX4 47 "StillText$Setter" "chosen" "I", Cond.methodLink RX4 78 Lib.Math.min.name, Cond.static Lib.Math.min.name, Cond.initialized "java/lang/Math", Cond.code Lib.Math.min.name Lib.Math.min.code 2 (some .int), Cond.methodLink RX4 74 yX6_beginOf, Cond.instanceMethod yX6_beginOf]
def wsX4_weighLines_r4 : List Cond := [Cond.selects RX6 yX6_beginOf yX6_beginOf, Cond.code yX6_beginOf cX6_beginOf 2 (some .int), Cond.methodLink RX4 83 yX6_strainOfPlaces, Cond.instanceMethod yX6_strainOfPlaces, Cond.selects RX6 yX6_strainOfPlaces yX6_strainOfPlaces, Cond.code yX6_strainOfPlaces cX6_strainOfPlaces 8 (some .int), Cond.fieldLink RX6 31 "StillText$Strip" "length" "I", Cond.fieldLink RX6 15 "StillText$Strip" "kinds" "[I", Cond.methodLink RX6 82 yX1_strainOfPlace, Cond.instanceMethod yX1_strainOfPlace, Cond.selects RX1 yX1_strainOfPlace yX1_strainOfPlace, Cond.code yX1_strainOfPlace cX1_strainOfPlace 3 (some .int), Cond.fieldLink RX1 30 "StillText$Measures" "places" "[I", Cond.methodLink RX1 34 yX1_pair, Cond.static yX1_pair, Cond.code yX1_pair cX1_pair 2 (some .int)]
def wsX4_weighLines : List Cond := .code yX4_weighLines cX4_weighLines 3 none :: ((wsX4_weighLines_r1 ++ (wsX4_weighLines_r2 ++ (wsX4_weighLines_r3 ++ wsX4_weighLines_r4))) ++ wsX40 ++ wsX60 ++ wsX10)
def wsX5_addLine : List Cond := .code yX5_addLine cX5_addLine 3 none :: ([.fieldLink RX5 32 "StillText$Setting" "count" "I", .fieldLink RX5 18 "StillText$Setting" "firsts" "[I", .fieldLink RX5 22 "StillText$Setting" "manys" "[I"] ++ wsX50)
def wsX4_putLines_r1 : List Cond := [Cond.fieldLink RX4 18 "StillText$Setter" "strip" "LStillText$Strip;", Cond.fieldLink RX4 47 "StillText$Setter" "chosen" "I", Cond.methodLink RX4 43 yX4_leastBelow, Cond.instanceMethod yX4_leastBelow, Cond.selects RX4 yX4_leastBelow yX4_leastBelow, Cond.initialized RX4, Cond.code yX4_leastBelow cX4_leastBelow 12 (some .int), Cond.fieldLink RX4 9 "StillText$Setter" "most" "[I", Cond.methodLink RX4 78 Lib.Math.min.name, Cond.static Lib.Math.min.name, Cond.initialized "java/lang/Math", Cond.code Lib.Math.min.name Lib.Math.min.code 2 (some .int), Cond.fieldLink RX4 22 "StillText$Setter" "measures" "LStillText$Measures;", Cond.fieldLink RX4 15 "StillText$Setter" "least" "[I", Cond.methodLink RX4 26 yX6_units, Cond.instanceMethod yX6_units, Cond.selects RX6 yX6_units yX6_units, Cond.initialized RX6, Cond.code yX6_units cX6_units 1 (some .int), Cond.fieldLink RX6 27 "StillText$Strip" "units" "I", Cond.methodLink RX4 74 yX6_beginOf, Cond.instanceMethod yX6_beginOf, Cond.selects RX6 yX6_beginOf yX6_beginOf, Cond.code yX6_beginOf cX6_beginOf 2 (some .int)]
def wsX4_putLines_r2 : List Cond := [Cond.fieldLink RX6 18 "StillText$Strip" "begins" "[I", Cond.methodLink RX6 69 yX6_holds, Cond.instanceMethod yX6_holds, Cond.selects RX6 yX6_holds yX6_holds, Cond.code yX6_holds cX6_holds 3 (some .boolean), Cond.methodLink RX4 57 yX6_body, Cond.instanceMethod yX6_body, Cond.selects RX6 yX6_body yX6_body, Cond.code yX6_body cX6_body 3 (some .int), Cond.fieldLink RX6 21 "StillText$Strip" "ends" "[I", Cond.methodLink RX4 83 yX6_strainOfPlaces, Cond.instanceMethod yX6_strainOfPlaces, Cond.selects RX6 yX6_strainOfPlaces yX6_strainOfPlaces, Cond.code yX6_strainOfPlaces cX6_strainOfPlaces 8 (some .int), Cond.fieldLink RX6 31 "StillText$Strip" "length" "I", Cond.fieldLink RX6 15 "StillText$Strip" "kinds" "[I", Cond.methodLink RX6 82 yX1_strainOfPlace, Cond.instanceMethod yX1_strainOfPlace, Cond.selects RX1 yX1_strainOfPlace yX1_strainOfPlace, Cond.initialized RX1, Cond.code yX1_strainOfPlace cX1_strainOfPlace 3 (some .int), Cond.fieldLink RX1 30 "StillText$Measures" "places" "[I", Cond.methodLink RX1 34 yX1_pair, Cond.static yX1_pair]
def wsX4_putLines_r3 : List Cond := [Cond.code yX1_pair cX1_pair 2 (some .int), Cond.methodLink RX4 36 yX4_place, Cond.static yX4_place, Cond.code yX4_place cX4_place 2 (some .int), Cond.methodLink RX4 51 yX5_addLine, Cond.instanceMethod yX5_addLine, Cond.selects RX5 yX5_addLine yX5_addLine, Cond.initialized RX5, Cond.code yX5_addLine cX5_addLine 3 none, Cond.fieldLink RX5 32 "StillText$Setting" "count" "I", Cond.fieldLink RX5 18 "StillText$Setting" "firsts" "[I", Cond.fieldLink RX5 22 "StillText$Setting" "manys" "[I"]
def wsX4_putLines : List Cond := .code yX4_putLines cX4_putLines 6 (some .int) :: ((wsX4_putLines_r1 ++ (wsX4_putLines_r2 ++ wsX4_putLines_r3)) ++ wsX40 ++ wsX60 ++ wsX10 ++ wsX50)
def wsX6_init : List Cond := .code yX6_init cX6_init 1 none :: ([.methodLink RX6 3 objectInit, .instanceMethod objectInit, .code objectInit ⟨#[0xb1]⟩ 1 none, .arrayClass .int, .fieldLink RX6 11 "StillText$Strip" "signs" "[I", .fieldLink RX6 15 "StillText$Strip" "kinds" "[I", .fieldLink RX6 18 "StillText$Strip" "begins" "[I", .fieldLink RX6 21 "StillText$Strip" "ends" "[I", .fieldLink RX6 24 "StillText$Strip" "behind" "[I"] ++ wsX60)
def wsX5_init : List Cond := .code yX5_init cX5_init 1 none :: ([.methodLink RX5 3 objectInit, .instanceMethod objectInit, .code objectInit ⟨#[0xb1]⟩ 1 none, .classLink RX5 9 RX6, .instantiable RX6 7, .initialized RX6, .fieldLink RX5 12 "StillText$Setting" "strip" "LStillText$Strip;", .arrayClass .int, .fieldLink RX5 18 "StillText$Setting" "firsts" "[I", .fieldLink RX5 22 "StillText$Setting" "manys" "[I", .instanceMethod yX6_init, .code yX6_init cX6_init 1 none, .methodLink RX6 3 objectInit, .fieldLink RX6 11 "StillText$Strip" "signs" "[I", .fieldLink RX6 15 "StillText$Strip" "kinds" "[I", .fieldLink RX6 18 "StillText$Strip" "begins" "[I", .fieldLink RX6 21 "StillText$Strip" "ends" "[I", .fieldLink RX6 24 "StillText$Strip" "behind" "[I"] ++ wsX60 ++ wsX50)
def wsX5_strip : List Cond := .code yX5_strip cX5_strip 1 (some (.object "StillText$Strip")) :: ([.fieldLink RX5 12 "StillText$Setting" "strip" "LStillText$Strip;"] ++ wsX50)
def wsX5_isThere : List Cond := .code yX5_isThere cX5_isThere 1 (some .boolean) :: ([.fieldLink RX5 25 "StillText$Setting" "there" "Z"] ++ wsX50)
def wsX5_isOfText : List Cond := .code yX5_isOfText cX5_isOfText 1 (some .boolean) :: ([.fieldLink RX5 25 "StillText$Setting" "there" "Z", .fieldLink RX5 29 "StillText$Setting" "ofText" "Z"] ++ wsX50)
def wsX5_count : List Cond := .code yX5_count cX5_count 1 (some .int) :: ([.fieldLink RX5 32 "StillText$Setting" "count" "I"] ++ wsX50)
def wsX5_has : List Cond := .code yX5_has cX5_has 2 (some .boolean) :: ([.fieldLink RX5 25 "StillText$Setting" "there" "Z", .fieldLink RX5 32 "StillText$Setting" "count" "I"] ++ wsX50)
def wsX5_drop : List Cond := .code yX5_drop cX5_drop 1 none :: ([.fieldLink RX5 25 "StillText$Setting" "there" "Z"] ++ wsX50)
def wsX5_outdate : List Cond := .code yX5_outdate cX5_outdate 1 none :: ([.fieldLink RX5 29 "StillText$Setting" "ofText" "Z"] ++ wsX50)
def wsX9_count : List Cond := .code yX9_count cX9_count 1 (some .int) :: ([.fieldLink RX9 21 "StillText$Units" "count" "I"] ++ wsX90)
def wsX9_has : List Cond := .code yX9_has cX9_has 2 (some .boolean) :: ([.fieldLink RX9 21 "StillText$Units" "count" "I"] ++ wsX90)
def wsX9_behind : List Cond := .code yX9_behind cX9_behind 2 (some .int) :: ([.fieldLink RX9 18 "StillText$Units" "behind" "[I", .methodLink RX9 25 yX9_has, .instanceMethod yX9_has, .selects RX9 yX9_has yX9_has, .initialized RX9, .code yX9_has cX9_has 2 (some .boolean), .fieldLink RX9 21 "StillText$Units" "count" "I"] ++ wsX90)
def wsX9_goesOn : List Cond := .code yX9_goesOn cX9_goesOn 2 (some .boolean) :: ([.methodLink RX9 29 yX9_behind, .instanceMethod yX9_behind, .selects RX9 yX9_behind yX9_behind, .initialized RX9, .code yX9_behind cX9_behind 2 (some .int), .fieldLink RX9 18 "StillText$Units" "behind" "[I", .methodLink RX9 25 yX9_has, .instanceMethod yX9_has, .selects RX9 yX9_has yX9_has, .code yX9_has cX9_has 2 (some .boolean), .fieldLink RX9 21 "StillText$Units" "count" "I"] ++ wsX90)
def wsX6_addSign : List Cond := .code yX6_addSign cX6_addSign 2 none :: ([.fieldLink RX6 31 "StillText$Strip" "length" "I", .fieldLink RX6 11 "StillText$Strip" "signs" "[I", .fieldLink RX6 15 "StillText$Strip" "kinds" "[I", .methodLink RX6 64 yX1_kindOf, .static yX1_kindOf, .initialized RX1, .code yX1_kindOf cX1_kindOf 1 (some .int), .static yX10_isLetter, .initialized RX10, .code yX10_isLetter cX10_isLetter 1 (some .boolean)] ++ wsX60)
def wsX6_addBlanks : List Cond := .code yX6_addBlanks cX6_addBlanks 3 none :: ([.methodLink RX6 52 yX6_addSign, .instanceMethod yX6_addSign, .selects RX6 yX6_addSign yX6_addSign, .initialized RX6, .code yX6_addSign cX6_addSign 2 none, .fieldLink RX6 31 "StillText$Strip" "length" "I", .fieldLink RX6 11 "StillText$Strip" "signs" "[I", .fieldLink RX6 15 "StillText$Strip" "kinds" "[I", .methodLink RX6 64 yX1_kindOf, .static yX1_kindOf, .initialized RX1, .code yX1_kindOf cX1_kindOf 1 (some .int), .static yX10_isLetter, .initialized RX10, .code yX10_isLetter cX10_isLetter 1 (some .boolean)] ++ wsX60)
def wsX9_signs : List Cond := .code yX9_signs cX9_signs 3 (some .int) :: ([.fieldLink RX9 18 "StillText$Units" "behind" "[I", .fieldLink RX9 15 "StillText$Units" "sizes" "[I", .methodLink RX9 25 yX9_has, .instanceMethod yX9_has, .selects RX9 yX9_has yX9_has, .initialized RX9, .code yX9_has cX9_has 2 (some .boolean), .fieldLink RX9 21 "StillText$Units" "count" "I"] ++ wsX90)
def wsX9_signAt : List Cond := .code yX9_signAt cX9_signAt 3 (some .int) :: ([.fieldLink RX9 15 "StillText$Units" "sizes" "[I", .fieldLink RX9 9 "StillText$Units" "letters" "[I", .fieldLink RX9 18 "StillText$Units" "behind" "[I", .methodLink RX9 25 yX9_has, .instanceMethod yX9_has, .selects RX9 yX9_has yX9_has, .initialized RX9, .code yX9_has cX9_has 2 (some .boolean), .fieldLink RX9 21 "StillText$Units" "count" "I"] ++ wsX90)
def wsX6_addUnit_r1 : List Cond := [Cond.fieldLink RX6 18 "StillText$Strip" "begins" "[I", Cond.fieldLink RX6 31 "StillText$Strip" "length" "I", Cond.fieldLink RX6 21 "StillText$Strip" "ends" "[I", Cond.fieldLink RX6 24 "StillText$Strip" "behind" "[I", Cond.fieldLink RX6 27 "StillText$Strip" "units" "I", Cond.methodLink RX6 55 yX9_signs, Cond.instanceMethod yX9_signs, Cond.selects RX9 yX9_signs yX9_signs, Cond.initialized RX9, Cond.code yX9_signs cX9_signs 3 (some .int), Cond.fieldLink RX9 18 "StillText$Units" "behind" "[I", Cond.fieldLink RX9 15 "StillText$Units" "sizes" "[I", Cond.methodLink RX9 25 yX9_has, Cond.instanceMethod yX9_has, Cond.selects RX9 yX9_has yX9_has, Cond.code yX9_has cX9_has 2 (some .boolean), Cond.fieldLink RX9 21 "StillText$Units" "count" "I", Cond.methodLink RX6 58 yX9_signAt, Cond.instanceMethod yX9_signAt, Cond.selects RX9 yX9_signAt yX9_signAt, Cond.code yX9_signAt cX9_signAt 3 (some .int), Cond.fieldLink RX9 9 "StillText$Units" "letters" "[I", Cond.methodLink RX6 52 yX6_addSign, Cond.instanceMethod yX6_addSign]
def wsX6_addUnit_r2 : List Cond := [Cond.selects RX6 yX6_addSign yX6_addSign, Cond.initialized RX6, Cond.code yX6_addSign cX6_addSign 2 none, Cond.fieldLink RX6 11 "StillText$Strip" "signs" "[I", Cond.fieldLink RX6 15 "StillText$Strip" "kinds" "[I", Cond.methodLink RX6 64 yX1_kindOf, Cond.static yX1_kindOf, Cond.initialized RX1, Cond.code yX1_kindOf cX1_kindOf 1 (some .int), Cond.static yX10_isLetter, Cond.initialized RX10, Cond.code yX10_isLetter cX10_isLetter 1 (some .boolean), Cond.methodLink RX6 62 yX9_behind, Cond.instanceMethod yX9_behind, Cond.selects RX9 yX9_behind yX9_behind, Cond.code yX9_behind cX9_behind 2 (some .int)]
def wsX6_addUnit : List Cond := .code yX6_addUnit cX6_addUnit 5 none :: ((wsX6_addUnit_r1 ++ wsX6_addUnit_r2) ++ wsX60 ++ wsX90)
def wsX6_lay_r1 : List Cond := [Cond.fieldLink RX6 27 "StillText$Strip" "units" "I", Cond.fieldLink RX6 31 "StillText$Strip" "length" "I", Cond.methodLink RX6 34 yX9_count, Cond.instanceMethod yX9_count, Cond.selects RX9 yX9_count yX9_count, Cond.initialized RX9, Cond.code yX9_count cX9_count 1 (some .int), Cond.fieldLink RX9 21 "StillText$Units" "count" "I", Cond.methodLink RX6 40 yX9_goesOn, Cond.instanceMethod yX9_goesOn, Cond.selects RX9 yX9_goesOn yX9_goesOn, Cond.code yX9_goesOn cX9_goesOn 2 (some .boolean), Cond.methodLink RX9 29 yX9_behind, Cond.instanceMethod yX9_behind, Cond.selects RX9 yX9_behind yX9_behind, Cond.code yX9_behind cX9_behind 2 (some .int), Cond.fieldLink RX9 18 "StillText$Units" "behind" "[I", Cond.methodLink RX9 25 yX9_has, Cond.instanceMethod yX9_has, Cond.selects RX9 yX9_has yX9_has, Cond.code yX9_has cX9_has 2 (some .boolean), Cond.methodLink RX6 44 yX6_addBlanks, Cond.instanceMethod yX6_addBlanks, Cond.selects RX6 yX6_addBlanks yX6_addBlanks]
def wsX6_lay_r2 : List Cond := [Cond.initialized RX6, Cond.code yX6_addBlanks cX6_addBlanks 3 none, Cond.methodLink RX6 52 yX6_addSign, Cond.instanceMethod yX6_addSign, Cond.selects RX6 yX6_addSign yX6_addSign, Cond.code yX6_addSign cX6_addSign 2 none, Cond.fieldLink RX6 11 "StillText$Strip" "signs" "[I", Cond.fieldLink RX6 15 "StillText$Strip" "kinds" "[I", Cond.methodLink RX6 64 yX1_kindOf, Cond.static yX1_kindOf, Cond.initialized RX1, Cond.code yX1_kindOf cX1_kindOf 1 (some .int), Cond.static yX10_isLetter, Cond.initialized RX10, Cond.code yX10_isLetter cX10_isLetter 1 (some .boolean), Cond.methodLink RX6 48 yX6_addUnit, Cond.instanceMethod yX6_addUnit, Cond.selects RX6 yX6_addUnit yX6_addUnit, Cond.code yX6_addUnit cX6_addUnit 5 none, Cond.fieldLink RX6 18 "StillText$Strip" "begins" "[I", Cond.fieldLink RX6 21 "StillText$Strip" "ends" "[I", Cond.fieldLink RX6 24 "StillText$Strip" "behind" "[I", Cond.methodLink RX6 55 yX9_signs, Cond.instanceMethod yX9_signs]
def wsX6_lay_r3 : List Cond := [Cond.selects RX9 yX9_signs yX9_signs, Cond.code yX9_signs cX9_signs 3 (some .int), Cond.fieldLink RX9 15 "StillText$Units" "sizes" "[I", Cond.methodLink RX6 58 yX9_signAt, Cond.instanceMethod yX9_signAt, Cond.selects RX9 yX9_signAt yX9_signAt, Cond.code yX9_signAt cX9_signAt 3 (some .int), Cond.fieldLink RX9 9 "StillText$Units" "letters" "[I", Cond.methodLink RX6 62 yX9_behind]
def wsX6_lay : List Cond := .code yX6_lay cX6_lay 4 none :: ((wsX6_lay_r1 ++ (wsX6_lay_r2 ++ wsX6_lay_r3)) ++ wsX60 ++ wsX90)
def wsX5_begin_r1 : List Cond := [Cond.fieldLink RX5 12 "StillText$Setting" "strip" "LStillText$Strip;", Cond.fieldLink RX5 32 "StillText$Setting" "count" "I", Cond.fieldLink RX5 25 "StillText$Setting" "there" "Z", Cond.fieldLink RX5 29 "StillText$Setting" "ofText" "Z", Cond.methodLink RX5 36 yX6_lay, Cond.instanceMethod yX6_lay, Cond.selects RX6 yX6_lay yX6_lay, Cond.initialized RX6, Cond.code yX6_lay cX6_lay 4 none, Cond.fieldLink RX6 27 "StillText$Strip" "units" "I", Cond.fieldLink RX6 31 "StillText$Strip" "length" "I", Cond.methodLink RX6 34 yX9_count, Cond.instanceMethod yX9_count, Cond.selects RX9 yX9_count yX9_count, Cond.initialized RX9, Cond.code yX9_count cX9_count 1 (some .int), Cond.fieldLink RX9 21 "StillText$Units" "count" "I", Cond.methodLink RX6 40 yX9_goesOn, Cond.instanceMethod yX9_goesOn, Cond.selects RX9 yX9_goesOn yX9_goesOn, Cond.code yX9_goesOn cX9_goesOn 2 (some .boolean), Cond.methodLink RX9 29 yX9_behind, Cond.instanceMethod yX9_behind, Cond.selects RX9 yX9_behind yX9_behind]
def wsX5_begin_r2 : List Cond := [Cond.code yX9_behind cX9_behind 2 (some .int), Cond.fieldLink RX9 18 "StillText$Units" "behind" "[I", Cond.methodLink RX9 25 yX9_has, Cond.instanceMethod yX9_has, Cond.selects RX9 yX9_has yX9_has, Cond.code yX9_has cX9_has 2 (some .boolean), Cond.methodLink RX6 44 yX6_addBlanks, Cond.instanceMethod yX6_addBlanks, Cond.selects RX6 yX6_addBlanks yX6_addBlanks, Cond.code yX6_addBlanks cX6_addBlanks 3 none, Cond.methodLink RX6 52 yX6_addSign, Cond.instanceMethod yX6_addSign, Cond.selects RX6 yX6_addSign yX6_addSign, Cond.code yX6_addSign cX6_addSign 2 none, Cond.fieldLink RX6 11 "StillText$Strip" "signs" "[I", Cond.fieldLink RX6 15 "StillText$Strip" "kinds" "[I", Cond.methodLink RX6 64 yX1_kindOf, Cond.static yX1_kindOf, Cond.initialized RX1, Cond.code yX1_kindOf cX1_kindOf 1 (some .int), Cond.static yX10_isLetter, Cond.initialized RX10, Cond.code yX10_isLetter cX10_isLetter 1 (some .boolean), Cond.methodLink RX6 48 yX6_addUnit]
def wsX5_begin_r3 : List Cond := [Cond.instanceMethod yX6_addUnit, Cond.selects RX6 yX6_addUnit yX6_addUnit, Cond.code yX6_addUnit cX6_addUnit 5 none, Cond.fieldLink RX6 18 "StillText$Strip" "begins" "[I", Cond.fieldLink RX6 21 "StillText$Strip" "ends" "[I", Cond.fieldLink RX6 24 "StillText$Strip" "behind" "[I", Cond.methodLink RX6 55 yX9_signs, Cond.instanceMethod yX9_signs, Cond.selects RX9 yX9_signs yX9_signs, Cond.code yX9_signs cX9_signs 3 (some .int), Cond.fieldLink RX9 15 "StillText$Units" "sizes" "[I", Cond.methodLink RX6 58 yX9_signAt, Cond.instanceMethod yX9_signAt, Cond.selects RX9 yX9_signAt yX9_signAt, Cond.code yX9_signAt cX9_signAt 3 (some .int), Cond.fieldLink RX9 9 "StillText$Units" "letters" "[I", Cond.methodLink RX6 62 yX9_behind]
def wsX5_begin : List Cond := .code yX5_begin cX5_begin 3 none :: ((wsX5_begin_r1 ++ (wsX5_begin_r2 ++ wsX5_begin_r3)) ++ wsX50 ++ wsX60 ++ wsX90)
def wsX5_first : List Cond := .code yX5_first cX5_first 2 (some .int) :: ([.fieldLink RX5 18 "StillText$Setting" "firsts" "[I", .methodLink RX5 40 yX5_has, .instanceMethod yX5_has, .selects RX5 yX5_has yX5_has, .initialized RX5, .code yX5_has cX5_has 2 (some .boolean), .fieldLink RX5 25 "StillText$Setting" "there" "Z", .fieldLink RX5 32 "StillText$Setting" "count" "I"] ++ wsX50)
def wsX5_unitsIn : List Cond := .code yX5_unitsIn cX5_unitsIn 2 (some .int) :: ([.fieldLink RX5 22 "StillText$Setting" "manys" "[I", .methodLink RX5 40 yX5_has, .instanceMethod yX5_has, .selects RX5 yX5_has yX5_has, .initialized RX5, .code yX5_has cX5_has 2 (some .boolean), .fieldLink RX5 25 "StillText$Setting" "there" "Z", .fieldLink RX5 32 "StillText$Setting" "count" "I"] ++ wsX50)
def wsX5_signsIn_r1 : List Cond := [Cond.fieldLink RX5 12 "StillText$Setting" "strip" "LStillText$Strip;", Cond.fieldLink RX5 18 "StillText$Setting" "firsts" "[I", Cond.fieldLink RX5 22 "StillText$Setting" "manys" "[I", Cond.methodLink RX5 40 yX5_has, Cond.instanceMethod yX5_has, Cond.selects RX5 yX5_has yX5_has, Cond.initialized RX5, Cond.code yX5_has cX5_has 2 (some .boolean), Cond.fieldLink RX5 25 "StillText$Setting" "there" "Z", Cond.fieldLink RX5 32 "StillText$Setting" "count" "I", Cond.methodLink RX5 44 yX6_signsOf, Cond.instanceMethod yX6_signsOf, Cond.selects RX6 yX6_signsOf yX6_signsOf, Cond.initialized RX6, Cond.code yX6_signsOf cX6_signsOf 3 (some .int), Cond.methodLink RX6 73 yX6_body, Cond.instanceMethod yX6_body, Cond.selects RX6 yX6_body yX6_body, Cond.code yX6_body cX6_body 3 (some .int), Cond.fieldLink RX6 21 "StillText$Strip" "ends" "[I", Cond.fieldLink RX6 18 "StillText$Strip" "begins" "[I", Cond.methodLink RX6 69 yX6_holds, Cond.instanceMethod yX6_holds, Cond.selects RX6 yX6_holds yX6_holds]
def wsX5_signsIn_r2 : List Cond := [Cond.code yX6_holds cX6_holds 3 (some .boolean), Cond.fieldLink RX6 27 "StillText$Strip" "units" "I", Cond.methodLink RX6 76 yX6_behindLine, Cond.instanceMethod yX6_behindLine, Cond.selects RX6 yX6_behindLine yX6_behindLine, Cond.code yX6_behindLine cX6_behindLine 3 (some .int), Cond.fieldLink RX6 24 "StillText$Strip" "behind" "[I"]
def wsX5_signsIn : List Cond := .code yX5_signsIn cX5_signsIn 2 (some .int) :: ((wsX5_signsIn_r1 ++ wsX5_signsIn_r2) ++ wsX50 ++ wsX60)
def wsX6_signAt : List Cond := .code yX6_signAt cX6_signAt 4 (some .int) :: ([.fieldLink RX6 11 "StillText$Strip" "signs" "[I", .fieldLink RX6 18 "StillText$Strip" "begins" "[I", .methodLink RX6 79 yX6_signsOf, .instanceMethod yX6_signsOf, .selects RX6 yX6_signsOf yX6_signsOf, .initialized RX6, .code yX6_signsOf cX6_signsOf 3 (some .int), .methodLink RX6 73 yX6_body, .instanceMethod yX6_body, .selects RX6 yX6_body yX6_body, .code yX6_body cX6_body 3 (some .int), .fieldLink RX6 21 "StillText$Strip" "ends" "[I", .methodLink RX6 69 yX6_holds, .instanceMethod yX6_holds, .selects RX6 yX6_holds yX6_holds, .code yX6_holds cX6_holds 3 (some .boolean), .fieldLink RX6 27 "StillText$Strip" "units" "I", .methodLink RX6 76 yX6_behindLine, .instanceMethod yX6_behindLine, .selects RX6 yX6_behindLine yX6_behindLine, .code yX6_behindLine cX6_behindLine 3 (some .int), .fieldLink RX6 24 "StillText$Strip" "behind" "[I"] ++ wsX60)
def wsX5_signAt_r1 : List Cond := [Cond.fieldLink RX5 12 "StillText$Setting" "strip" "LStillText$Strip;", Cond.fieldLink RX5 18 "StillText$Setting" "firsts" "[I", Cond.fieldLink RX5 22 "StillText$Setting" "manys" "[I", Cond.methodLink RX5 40 yX5_has, Cond.instanceMethod yX5_has, Cond.selects RX5 yX5_has yX5_has, Cond.initialized RX5, Cond.code yX5_has cX5_has 2 (some .boolean), Cond.fieldLink RX5 25 "StillText$Setting" "there" "Z", Cond.fieldLink RX5 32 "StillText$Setting" "count" "I", Cond.methodLink RX5 48 yX6_signAt, Cond.instanceMethod yX6_signAt, Cond.selects RX6 yX6_signAt yX6_signAt, Cond.initialized RX6, Cond.code yX6_signAt cX6_signAt 4 (some .int), Cond.fieldLink RX6 11 "StillText$Strip" "signs" "[I", Cond.fieldLink RX6 18 "StillText$Strip" "begins" "[I", Cond.methodLink RX6 79 yX6_signsOf, Cond.instanceMethod yX6_signsOf, Cond.selects RX6 yX6_signsOf yX6_signsOf, Cond.code yX6_signsOf cX6_signsOf 3 (some .int), Cond.methodLink RX6 73 yX6_body, Cond.instanceMethod yX6_body, Cond.selects RX6 yX6_body yX6_body]
def wsX5_signAt_r2 : List Cond := [Cond.code yX6_body cX6_body 3 (some .int), Cond.fieldLink RX6 21 "StillText$Strip" "ends" "[I", Cond.methodLink RX6 69 yX6_holds, Cond.instanceMethod yX6_holds, Cond.selects RX6 yX6_holds yX6_holds, Cond.code yX6_holds cX6_holds 3 (some .boolean), Cond.fieldLink RX6 27 "StillText$Strip" "units" "I", Cond.methodLink RX6 76 yX6_behindLine, Cond.instanceMethod yX6_behindLine, Cond.selects RX6 yX6_behindLine yX6_behindLine, Cond.code yX6_behindLine cX6_behindLine 3 (some .int), Cond.fieldLink RX6 24 "StillText$Strip" "behind" "[I"]
def wsX5_signAt : List Cond := .code yX5_signAt cX5_signAt 3 (some .int) :: ((wsX5_signAt_r1 ++ wsX5_signAt_r2) ++ wsX50 ++ wsX60)
def wsX5_lineOf : List Cond := .code yX5_lineOf cX5_lineOf 3 (some .int) :: ([.fieldLink RX5 32 "StillText$Setting" "count" "I", .fieldLink RX5 18 "StillText$Setting" "firsts" "[I", .fieldLink RX5 22 "StillText$Setting" "manys" "[I"] ++ wsX50)
def wsX5_riversAt_r1 : List Cond := [Cond.fieldLink RX5 32 "StillText$Setting" "count" "I", Cond.methodLink RX5 52 yX5_signAt, Cond.instanceMethod yX5_signAt, Cond.selects RX5 yX5_signAt yX5_signAt, Cond.initialized RX5, Cond.code yX5_signAt cX5_signAt 3 (some .int), Cond.fieldLink RX5 12 "StillText$Setting" "strip" "LStillText$Strip;", Cond.fieldLink RX5 18 "StillText$Setting" "firsts" "[I", Cond.fieldLink RX5 22 "StillText$Setting" "manys" "[I", Cond.methodLink RX5 40 yX5_has, Cond.instanceMethod yX5_has, Cond.selects RX5 yX5_has yX5_has, Cond.code yX5_has cX5_has 2 (some .boolean), Cond.fieldLink RX5 25 "StillText$Setting" "there" "Z", Cond.methodLink RX5 48 yX6_signAt, Cond.instanceMethod yX6_signAt, Cond.selects RX6 yX6_signAt yX6_signAt, Cond.initialized RX6, Cond.code yX6_signAt cX6_signAt 4 (some .int), Cond.fieldLink RX6 11 "StillText$Strip" "signs" "[I", Cond.fieldLink RX6 18 "StillText$Strip" "begins" "[I", Cond.methodLink RX6 79 yX6_signsOf, Cond.instanceMethod yX6_signsOf, Cond.selects RX6 yX6_signsOf yX6_signsOf]
def wsX5_riversAt_r2 : List Cond := [Cond.code yX6_signsOf cX6_signsOf 3 (some .int), Cond.methodLink RX6 73 yX6_body, Cond.instanceMethod yX6_body, Cond.selects RX6 yX6_body yX6_body, Cond.code yX6_body cX6_body 3 (some .int), Cond.fieldLink RX6 21 "StillText$Strip" "ends" "[I", Cond.methodLink RX6 69 yX6_holds, Cond.instanceMethod yX6_holds, Cond.selects RX6 yX6_holds yX6_holds, Cond.code yX6_holds cX6_holds 3 (some .boolean), Cond.fieldLink RX6 27 "StillText$Strip" "units" "I", Cond.methodLink RX6 76 yX6_behindLine, Cond.instanceMethod yX6_behindLine, Cond.selects RX6 yX6_behindLine yX6_behindLine, Cond.code yX6_behindLine cX6_behindLine 3 (some .int), Cond.fieldLink RX6 24 "StillText$Strip" "behind" "[I"]
def wsX5_riversAt : List Cond := .code yX5_riversAt cX5_riversAt 6 (some .int) :: ((wsX5_riversAt_r1 ++ wsX5_riversAt_r2) ++ wsX50 ++ wsX60)
def wsX7_init : List Cond := .code yX7_init cX7_init 1 none :: ([.methodLink RX7 3 objectInit, .instanceMethod objectInit, .code objectInit ⟨#[0xb1]⟩ 1 none, .arrayClass .int, .fieldLink RX7 9 "StillText$Tape" "bytes" "[I"] ++ wsX70)
def wsX7_clear : List Cond := .code yX7_clear cX7_clear 1 none :: ([.fieldLink RX7 15 "StillText$Tape" "length" "I"] ++ wsX70)
def wsX7_keepFirst : List Cond := .code yX7_keepFirst cX7_keepFirst 2 (some .boolean) :: ([.fieldLink RX7 15 "StillText$Tape" "length" "I", .static yX10_within, .initialized RX10, .code yX10_within cX10_within 3 (some .boolean)] ++ wsX70)
def wsX7_appendNumber : List Cond := .code yX7_appendNumber cX7_appendNumber 3 none :: ([.fieldLink RX7 15 "StillText$Tape" "length" "I", .fieldLink RX7 9 "StillText$Tape" "bytes" "[I"] ++ wsX70)
def wsX7_append : List Cond := .code yX7_append cX7_append 6 (some .int) :: ([.fieldLink RX7 15 "StillText$Tape" "length" "I", .methodLink RX7 23 yX7_appendNumber, .instanceMethod yX7_appendNumber, .selects RX7 yX7_appendNumber yX7_appendNumber, .initialized RX7, .code yX7_appendNumber cX7_appendNumber 3 none, .fieldLink RX7 9 "StillText$Tape" "bytes" "[I"] ++ wsX70)
def wsX8_init : List Cond := .code yX8_init cX8_init 1 none :: ([.methodLink RX8 3 objectInit, .instanceMethod objectInit, .code objectInit ⟨#[0xb1]⟩ 1 none, .arrayClass .boolean, .fieldLink RX8 11 "StillText$Trials" "beaten" "[Z", .fieldLink RX8 15 "StillText$Trials" "lead" "I", .fieldLink RX8 19 "StillText$Trials" "way" "I"] ++ wsX80)
def wsX8_haveBegun : List Cond := .code yX8_haveBegun cX8_haveBegun 1 (some .boolean) :: ([.fieldLink RX8 22 "StillText$Trials" "begun" "Z"] ++ wsX80)
def wsX8_bestLongest : List Cond := .code yX8_bestLongest cX8_bestLongest 1 (some .int) :: ([.fieldLink RX8 26 "StillText$Trials" "bestLong" "I"] ++ wsX80)
def wsX8_bestSpread : List Cond := .code yX8_bestSpread cX8_bestSpread 1 (some .int) :: ([.fieldLink RX8 29 "StillText$Trials" "bestSpread" "I"] ++ wsX80)
def wsX8_isOnGrid : List Cond := .code yX8_isOnGrid cX8_isOnGrid 2 (some .boolean) :: ([.static yX10_within, .initialized RX10, .code yX10_within cX10_within 3 (some .boolean)])
def wsX8_makeBest : List Cond := .code yX8_makeBest cX8_makeBest 4 none :: ([.fieldLink RX8 26 "StillText$Trials" "bestLong" "I", .fieldLink RX8 29 "StillText$Trials" "bestSpread" "I", .fieldLink RX8 11 "StillText$Trials" "beaten" "[Z"] ++ wsX80)
def wsX8_longOn : List Cond := .code yX8_longOn cX8_longOn 2 (some .int) :: ([.fieldLink RX8 26 "StillText$Trials" "bestLong" "I", .fieldLink RX8 72 "StillText$Trials" "LONG_STEPS" "[I"] ++ wsX80)
def wsX8_spreadOn : List Cond := .code yX8_spreadOn cX8_spreadOn 2 (some .int) :: ([.fieldLink RX8 29 "StillText$Trials" "bestSpread" "I", .fieldLink RX8 76 "StillText$Trials" "SPREAD_STEPS" "[I"] ++ wsX80)
def wsX8_nextWay : List Cond := .code yX8_nextWay cX8_nextWay 2 (some .int) :: ([.fieldLink RX8 11 "StillText$Trials" "beaten" "[Z", .methodLink RX8 57 yX8_longOn, .instanceMethod yX8_longOn, .selects RX8 yX8_longOn yX8_longOn, .initialized RX8, .code yX8_longOn cX8_longOn 2 (some .int), .fieldLink RX8 26 "StillText$Trials" "bestLong" "I", .fieldLink RX8 72 "StillText$Trials" "LONG_STEPS" "[I", .methodLink RX8 61 yX8_spreadOn, .instanceMethod yX8_spreadOn, .selects RX8 yX8_spreadOn yX8_spreadOn, .code yX8_spreadOn cX8_spreadOn 2 (some .int), .fieldLink RX8 29 "StillText$Trials" "bestSpread" "I", .fieldLink RX8 76 "StillText$Trials" "SPREAD_STEPS" "[I", .methodLink RX8 32 yX8_isOnGrid, .static yX8_isOnGrid, .code yX8_isOnGrid cX8_isOnGrid 2 (some .boolean), .static yX10_within, .initialized RX10, .code yX10_within cX10_within 3 (some .boolean)] ++ wsX80)
def wsX8_begin_r1 : List Cond := [Cond.fieldLink RX8 22 "StillText$Trials" "begun" "Z", Cond.fieldLink RX8 15 "StillText$Trials" "lead" "I", Cond.fieldLink RX8 40 "StillText$Trials" "answers" "I", Cond.fieldLink RX8 43 "StillText$Trials" "won" "I", Cond.fieldLink RX8 46 "StillText$Trials" "ahead" "I", Cond.fieldLink RX8 19 "StillText$Trials" "way" "I", Cond.methodLink RX8 32 yX8_isOnGrid, Cond.static yX8_isOnGrid, Cond.initialized RX8, Cond.code yX8_isOnGrid cX8_isOnGrid 2 (some .boolean), Cond.static yX10_within, Cond.initialized RX10, Cond.code yX10_within cX10_within 3 (some .boolean), Cond.methodLink RX8 49 yX8_makeBest, Cond.instanceMethod yX8_makeBest, Cond.selects RX8 yX8_makeBest yX8_makeBest, Cond.code yX8_makeBest cX8_makeBest 4 none, Cond.fieldLink RX8 26 "StillText$Trials" "bestLong" "I", Cond.fieldLink RX8 29 "StillText$Trials" "bestSpread" "I", Cond.fieldLink RX8 11 "StillText$Trials" "beaten" "[Z", Cond.methodLink RX8 53 yX8_nextWay, Cond.instanceMethod yX8_nextWay, Cond.selects RX8 yX8_nextWay yX8_nextWay, Cond.code yX8_nextWay cX8_nextWay 2 (some .int)]
def wsX8_begin_r2 : List Cond := [Cond.methodLink RX8 57 yX8_longOn, Cond.instanceMethod yX8_longOn, Cond.selects RX8 yX8_longOn yX8_longOn, Cond.code yX8_longOn cX8_longOn 2 (some .int), Cond.fieldLink RX8 72 "StillText$Trials" "LONG_STEPS" "[I", Cond.methodLink RX8 61 yX8_spreadOn, Cond.instanceMethod yX8_spreadOn, Cond.selects RX8 yX8_spreadOn yX8_spreadOn, Cond.code yX8_spreadOn cX8_spreadOn 2 (some .int), Cond.fieldLink RX8 76 "StillText$Trials" "SPREAD_STEPS" "[I"]
def wsX8_begin : List Cond := .code yX8_begin cX8_begin 4 (some .boolean) :: ((wsX8_begin_r1 ++ wsX8_begin_r2) ++ wsX80)
def wsX8_tell : List Cond := .code yX8_tell cX8_tell 2 (some .int) :: ([.fieldLink RX8 22 "StillText$Trials" "begun" "Z", .fieldLink RX8 26 "StillText$Trials" "bestLong" "I", .fieldLink RX8 29 "StillText$Trials" "bestSpread" "I", .fieldLink RX8 19 "StillText$Trials" "way" "I", .fieldLink RX8 40 "StillText$Trials" "answers" "I", .fieldLink RX8 43 "StillText$Trials" "won" "I", .methodLink RX8 57 yX8_longOn, .instanceMethod yX8_longOn, .selects RX8 yX8_longOn yX8_longOn, .initialized RX8, .code yX8_longOn cX8_longOn 2 (some .int), .fieldLink RX8 72 "StillText$Trials" "LONG_STEPS" "[I", .methodLink RX8 61 yX8_spreadOn, .instanceMethod yX8_spreadOn, .selects RX8 yX8_spreadOn yX8_spreadOn, .code yX8_spreadOn cX8_spreadOn 2 (some .int), .fieldLink RX8 76 "StillText$Trials" "SPREAD_STEPS" "[I"] ++ wsX80)
def wsX8_settle_r1 : List Cond := [Cond.fieldLink RX8 46 "StillText$Trials" "ahead" "I", Cond.methodLink RX8 67 Lib.Math.abs.name, Cond.static Lib.Math.abs.name, Cond.initialized "java/lang/Math", Cond.code Lib.Math.abs.name Lib.Math.abs.code 1 (some .int), Cond.fieldLink RX8 15 "StillText$Trials" "lead" "I", Cond.fieldLink RX8 43 "StillText$Trials" "won" "I", Cond.fieldLink RX8 11 "StillText$Trials" "beaten" "[Z", Cond.fieldLink RX8 19 "StillText$Trials" "way" "I", Cond.methodLink RX8 57 yX8_longOn, Cond.instanceMethod yX8_longOn, Cond.selects RX8 yX8_longOn yX8_longOn, Cond.initialized RX8, Cond.code yX8_longOn cX8_longOn 2 (some .int), Cond.fieldLink RX8 26 "StillText$Trials" "bestLong" "I", Cond.fieldLink RX8 72 "StillText$Trials" "LONG_STEPS" "[I", Cond.methodLink RX8 61 yX8_spreadOn, Cond.instanceMethod yX8_spreadOn, Cond.selects RX8 yX8_spreadOn yX8_spreadOn, Cond.code yX8_spreadOn cX8_spreadOn 2 (some .int), Cond.fieldLink RX8 29 "StillText$Trials" "bestSpread" "I", Cond.fieldLink RX8 76 "StillText$Trials" "SPREAD_STEPS" "[I", Cond.methodLink RX8 49 yX8_makeBest, Cond.instanceMethod yX8_makeBest]
def wsX8_settle_r2 : List Cond := [Cond.selects RX8 yX8_makeBest yX8_makeBest, Cond.code yX8_makeBest cX8_makeBest 4 none, Cond.methodLink RX8 53 yX8_nextWay, Cond.instanceMethod yX8_nextWay, Cond.selects RX8 yX8_nextWay yX8_nextWay, Cond.code yX8_nextWay cX8_nextWay 2 (some .int), Cond.methodLink RX8 32 yX8_isOnGrid, Cond.static yX8_isOnGrid, Cond.code yX8_isOnGrid cX8_isOnGrid 2 (some .boolean), Cond.static yX10_within, Cond.initialized RX10, Cond.code yX10_within cX10_within 3 (some .boolean)]
def wsX8_settle : List Cond := .code yX8_settle cX8_settle 2 (some .int) :: ((wsX8_settle_r1 ++ wsX8_settle_r2) ++ wsX80)
def wsX8_hear_r1 : List Cond := [Cond.fieldLink RX8 19 "StillText$Trials" "way" "I", Cond.fieldLink RX8 40 "StillText$Trials" "answers" "I", Cond.fieldLink RX8 46 "StillText$Trials" "ahead" "I", Cond.methodLink RX8 64 yX8_settle, Cond.instanceMethod yX8_settle, Cond.selects RX8 yX8_settle yX8_settle, Cond.initialized RX8, Cond.code yX8_settle cX8_settle 2 (some .int), Cond.methodLink RX8 67 Lib.Math.abs.name, Cond.static Lib.Math.abs.name, Cond.initialized "java/lang/Math", Cond.code Lib.Math.abs.name Lib.Math.abs.code 1 (some .int), Cond.fieldLink RX8 15 "StillText$Trials" "lead" "I", Cond.fieldLink RX8 43 "StillText$Trials" "won" "I", Cond.fieldLink RX8 11 "StillText$Trials" "beaten" "[Z", Cond.methodLink RX8 57 yX8_longOn, Cond.instanceMethod yX8_longOn, Cond.selects RX8 yX8_longOn yX8_longOn, Cond.code yX8_longOn cX8_longOn 2 (some .int), Cond.fieldLink RX8 26 "StillText$Trials" "bestLong" "I", Cond.fieldLink RX8 72 "StillText$Trials" "LONG_STEPS" "[I", Cond.methodLink RX8 61 yX8_spreadOn, Cond.instanceMethod yX8_spreadOn, Cond.selects RX8 yX8_spreadOn yX8_spreadOn]
def wsX8_hear_r2 : List Cond := [Cond.code yX8_spreadOn cX8_spreadOn 2 (some .int), Cond.fieldLink RX8 29 "StillText$Trials" "bestSpread" "I", Cond.fieldLink RX8 76 "StillText$Trials" "SPREAD_STEPS" "[I", Cond.methodLink RX8 49 yX8_makeBest, Cond.instanceMethod yX8_makeBest, Cond.selects RX8 yX8_makeBest yX8_makeBest, Cond.code yX8_makeBest cX8_makeBest 4 none, Cond.methodLink RX8 53 yX8_nextWay, Cond.instanceMethod yX8_nextWay, Cond.selects RX8 yX8_nextWay yX8_nextWay, Cond.code yX8_nextWay cX8_nextWay 2 (some .int), Cond.methodLink RX8 32 yX8_isOnGrid, Cond.static yX8_isOnGrid, Cond.code yX8_isOnGrid cX8_isOnGrid 2 (some .boolean), Cond.static yX10_within, Cond.initialized RX10, Cond.code yX10_within cX10_within 3 (some .boolean)]
def wsX8_hear : List Cond := .code yX8_hear cX8_hear 3 (some .int) :: ((wsX8_hear_r1 ++ wsX8_hear_r2) ++ wsX80)
def wsX9_letters : List Cond := .code yX9_letters cX9_letters 2 (some .int) :: ([.fieldLink RX9 15 "StillText$Units" "sizes" "[I", .methodLink RX9 25 yX9_has, .instanceMethod yX9_has, .selects RX9 yX9_has yX9_has, .initialized RX9, .code yX9_has cX9_has 2 (some .boolean), .fieldLink RX9 21 "StillText$Units" "count" "I"] ++ wsX90)
def wsX9_isWholeWord : List Cond := .code yX9_isWholeWord cX9_isWholeWord 2 (some .boolean) :: ([.methodLink RX9 25 yX9_has, .instanceMethod yX9_has, .selects RX9 yX9_has yX9_has, .initialized RX9, .code yX9_has cX9_has 2 (some .boolean), .fieldLink RX9 21 "StillText$Units" "count" "I", .methodLink RX9 32 yX9_goesOn, .instanceMethod yX9_goesOn, .selects RX9 yX9_goesOn yX9_goesOn, .code yX9_goesOn cX9_goesOn 2 (some .boolean), .methodLink RX9 29 yX9_behind, .instanceMethod yX9_behind, .selects RX9 yX9_behind yX9_behind, .code yX9_behind cX9_behind 2 (some .int), .fieldLink RX9 18 "StillText$Units" "behind" "[I"] ++ wsX90)
def wsX9_wordNumber : List Cond := .code yX9_wordNumber cX9_wordNumber 4 (some .int) :: ([.fieldLink RX9 21 "StillText$Units" "count" "I", .methodLink RX9 32 yX9_goesOn, .instanceMethod yX9_goesOn, .selects RX9 yX9_goesOn yX9_goesOn, .initialized RX9, .code yX9_goesOn cX9_goesOn 2 (some .boolean), .methodLink RX9 29 yX9_behind, .instanceMethod yX9_behind, .selects RX9 yX9_behind yX9_behind, .code yX9_behind cX9_behind 2 (some .int), .fieldLink RX9 18 "StillText$Units" "behind" "[I", .methodLink RX9 25 yX9_has, .instanceMethod yX9_has, .selects RX9 yX9_has yX9_has, .code yX9_has cX9_has 2 (some .boolean)] ++ wsX90)
def wsX9_fitAlone : List Cond := .code yX9_fitAlone cX9_fitAlone 3 (some .boolean) :: ([.fieldLink RX9 21 "StillText$Units" "count" "I", .methodLink RX9 35 yX9_signs, .instanceMethod yX9_signs, .selects RX9 yX9_signs yX9_signs, .initialized RX9, .code yX9_signs cX9_signs 3 (some .int), .fieldLink RX9 18 "StillText$Units" "behind" "[I", .fieldLink RX9 15 "StillText$Units" "sizes" "[I", .methodLink RX9 25 yX9_has, .instanceMethod yX9_has, .selects RX9 yX9_has yX9_has, .code yX9_has cX9_has 2 (some .boolean), .methodLink RX9 32 yX9_goesOn, .instanceMethod yX9_goesOn, .selects RX9 yX9_goesOn yX9_goesOn, .code yX9_goesOn cX9_goesOn 2 (some .boolean), .methodLink RX9 29 yX9_behind, .instanceMethod yX9_behind, .selects RX9 yX9_behind yX9_behind, .code yX9_behind cX9_behind 2 (some .int)] ++ wsX90)
def wsX9_copyUnit : List Cond := .code yX9_copyUnit cX9_copyUnit 4 none :: ([.fieldLink RX9 9 "StillText$Units" "letters" "[I", .methodLink RX9 42 arraycopyName, .native arraycopyName, .static arraycopyName, .initialized "java/lang/System", .fieldLink RX9 15 "StillText$Units" "sizes" "[I", .fieldLink RX9 18 "StillText$Units" "behind" "[I"] ++ wsX90)
def wsX9_takeAll : List Cond := .code yX9_takeAll cX9_takeAll 3 none :: ([.fieldLink RX9 21 "StillText$Units" "count" "I", .methodLink RX9 38 yX9_copyUnit, .instanceMethod yX9_copyUnit, .selects RX9 yX9_copyUnit yX9_copyUnit, .initialized RX9, .code yX9_copyUnit cX9_copyUnit 4 none, .fieldLink RX9 9 "StillText$Units" "letters" "[I", .methodLink RX9 42 arraycopyName, .native arraycopyName, .static arraycopyName, .initialized "java/lang/System", .fieldLink RX9 15 "StillText$Units" "sizes" "[I", .fieldLink RX9 18 "StillText$Units" "behind" "[I"] ++ wsX90)
def wsX9_replace : List Cond := .code yX9_replace cX9_replace 5 none :: ([.fieldLink RX9 21 "StillText$Units" "count" "I", .methodLink RX9 25 yX9_has, .instanceMethod yX9_has, .selects RX9 yX9_has yX9_has, .initialized RX9, .code yX9_has cX9_has 2 (some .boolean), .methodLink RX9 38 yX9_copyUnit, .instanceMethod yX9_copyUnit, .selects RX9 yX9_copyUnit yX9_copyUnit, .code yX9_copyUnit cX9_copyUnit 4 none, .fieldLink RX9 9 "StillText$Units" "letters" "[I", .methodLink RX9 42 arraycopyName, .native arraycopyName, .static arraycopyName, .initialized "java/lang/System", .fieldLink RX9 15 "StillText$Units" "sizes" "[I", .fieldLink RX9 18 "StillText$Units" "behind" "[I"] ++ wsX90)
def wsX10_init_r1 : List Cond := [Cond.methodLink RX10 1 objectInit, Cond.instanceMethod objectInit, Cond.code objectInit ⟨#[0xb1]⟩ 1 none, Cond.classLink RX10 7 RX7, Cond.instantiable RX7 2, Cond.initialized RX7, Cond.fieldLink RX10 10 "StillText" "tape" "LStillText$Tape;", Cond.classLink RX10 16 RX3, Cond.instantiable RX3 3, Cond.initialized RX3, Cond.fieldLink RX10 19 "StillText" "reading" "LStillText$Reading;", Cond.classLink RX10 23 RX9, Cond.instantiable RX9 4, Cond.initialized RX9, Cond.fieldLink RX10 26 "StillText" "units" "LStillText$Units;", Cond.classLink RX10 30 RX1, Cond.instantiable RX1 7, Cond.initialized RX1, Cond.fieldLink RX10 33 "StillText" "measures" "LStillText$Measures;", Cond.classLink RX10 37 RX5, Cond.instantiable RX5 6, Cond.initialized RX5, Cond.fieldLink RX10 40 "StillText" "setting" "LStillText$Setting;", Cond.classLink RX10 44 RX4]
def wsX10_init_r2 : List Cond := [Cond.instantiable RX4 5, Cond.initialized RX4, Cond.fieldLink RX10 53 "StillText" "setter" "LStillText$Setter;", Cond.classLink RX10 57 RX2, Cond.instantiable RX2 2, Cond.initialized RX2, Cond.fieldLink RX10 60 "StillText" "pages" "LStillText$Pages;", Cond.classLink RX10 64 RX0, Cond.instantiable RX0 3, Cond.initialized RX0, Cond.fieldLink RX10 67 "StillText" "marks" "LStillText$Marks;", Cond.classLink RX10 71 RX8, Cond.instantiable RX8 9, Cond.initialized RX8, Cond.fieldLink RX10 74 "StillText" "trials" "LStillText$Trials;", Cond.instanceMethod yX7_init, Cond.code yX7_init cX7_init 1 none, Cond.methodLink RX7 3 objectInit, Cond.arrayClass .int, Cond.fieldLink RX7 9 "StillText$Tape" "bytes" "[I", Cond.instanceMethod yX3_init, Cond.code yX3_init cX3_init 1 none, Cond.methodLink RX3 3 objectInit, Cond.classLink RX3 9 RX9]
def wsX10_init_r3 : List Cond := [Cond.fieldLink RX3 12 "StillText$Reading" "units" "LStillText$Units;", Cond.fieldLink RX3 18 "StillText$Reading" "kind" "I", Cond.fieldLink RX3 22 "StillText$Reading" "place" "I", Cond.instanceMethod yX9_init, Cond.code yX9_init cX9_init 1 none, Cond.methodLink RX9 3 objectInit, Cond.fieldLink RX9 9 "StillText$Units" "letters" "[I", Cond.fieldLink RX9 15 "StillText$Units" "sizes" "[I", Cond.fieldLink RX9 18 "StillText$Units" "behind" "[I", Cond.methodLink RX10 32 yX1_init, Cond.instanceMethod yX1_init, Cond.code yX1_init cX1_init 1 none, Cond.methodLink RX1 3 objectInit, Cond.fieldLink RX1 9 "StillText$Measures" "longest" "I", Cond.fieldLink RX1 15 "StillText$Measures" "spread" "I", Cond.fieldLink RX1 18 "StillText$Measures" "shortest" "I", Cond.fieldLink RX1 21 "StillText$Measures" "phrase" "I", Cond.fieldLink RX1 24 "StillText$Measures" "inner" "I", Cond.fieldLink RX1 27 "StillText$Measures" "cut" "I", Cond.fieldLink RX1 30 "StillText$Measures" "places" "[I", Cond.methodLink RX1 34 yX1_pair, Cond.static yX1_pair, Cond.code yX1_pair cX1_pair 2 (some .int), Cond.instanceMethod yX5_init]
def wsX10_init_r4 : List Cond := [Cond.code yX5_init cX5_init 1 none, Cond.methodLink RX5 3 objectInit, Cond.classLink RX5 9 RX6, Cond.instantiable RX6 7, Cond.initialized RX6, Cond.fieldLink RX5 12 "StillText$Setting" "strip" "LStillText$Strip;", Cond.fieldLink RX5 18 "StillText$Setting" "firsts" "[I", Cond.fieldLink RX5 22 "StillText$Setting" "manys" "[I", Cond.instanceMethod yX6_init, Cond.code yX6_init cX6_init 1 none, Cond.methodLink RX6 3 objectInit, Cond.fieldLink RX6 11 "StillText$Strip" "signs" "[I", Cond.fieldLink RX6 15 "StillText$Strip" "kinds" "[I", Cond.fieldLink RX6 18 "StillText$Strip" "begins" "[I", Cond.fieldLink RX6 21 "StillText$Strip" "ends" "[I", Cond.fieldLink RX6 24 "StillText$Strip" "behind" "[I", Cond.methodLink RX10 46 yX5_strip, Cond.instanceMethod yX5_strip, Cond.selects RX5 yX5_strip yX5_strip, Cond.code yX5_strip cX5_strip 1 (some (.object "StillText$Strip")), Cond.methodLink RX10 50 yX4_init, Cond.instanceMethod yX4_init, Cond.code yX4_init cX4_init 3 none, Cond.methodLink RX4 3 objectInit]
def wsX10_init_r5 : List Cond := [Cond.fieldLink RX4 9 "StillText$Setter" "most" "[I", Cond.fieldLink RX4 15 "StillText$Setter" "least" "[I", Cond.fieldLink RX4 18 "StillText$Setter" "strip" "LStillText$Strip;", Cond.fieldLink RX4 22 "StillText$Setter" "measures" "LStillText$Measures;", Cond.instanceMethod yX2_init, Cond.code yX2_init cX2_init 1 none, Cond.methodLink RX2 1 objectInit, Cond.fieldLink RX2 7 "StillText$Pages" "rows" "I", Cond.fieldLink RX2 13 "StillText$Pages" "tints" "I", Cond.instanceMethod yX0_init, Cond.code yX0_init cX0_init 1 none, Cond.methodLink RX0 3 objectInit, Cond.fieldLink RX0 9 "StillText$Marks" "units" "[I", Cond.fieldLink RX0 15 "StillText$Marks" "kept" "[I", Cond.instanceMethod yX8_init, Cond.code yX8_init cX8_init 1 none, Cond.methodLink RX8 3 objectInit, Cond.arrayClass .boolean, Cond.fieldLink RX8 11 "StillText$Trials" "beaten" "[Z", Cond.fieldLink RX8 15 "StillText$Trials" "lead" "I", Cond.fieldLink RX8 19 "StillText$Trials" "way" "I"]
def wsX10_init : List Cond := .code yX10_init cX10_init 1 none :: ((wsX10_init_r1 ++ (wsX10_init_r2 ++ (wsX10_init_r3 ++ (wsX10_init_r4 ++ wsX10_init_r5)))) ++ wsX70 ++ wsX100 ++ wsX30 ++ wsX90 ++ wsX10 ++ wsX50 ++ wsX40 ++ wsX20 ++ wsX00 ++ wsX80 ++ wsX60)
def wsX10_feed : List Cond := .code yX10_feed cX10_feed 6 (some .int) :: ([.fieldLink RX10 10 "StillText" "tape" "LStillText$Tape;", .methodLink RX10 78 yX7_append, .instanceMethod yX7_append, .selects RX7 yX7_append yX7_append, .initialized RX7, .code yX7_append cX7_append 6 (some .int), .fieldLink RX7 15 "StillText$Tape" "length" "I", .methodLink RX7 23 yX7_appendNumber, .instanceMethod yX7_appendNumber, .selects RX7 yX7_appendNumber yX7_appendNumber, .code yX7_appendNumber cX7_appendNumber 3 none, .fieldLink RX7 9 "StillText$Tape" "bytes" "[I"] ++ wsX100 ++ wsX70)
def wsX10_end : List Cond := .code yX10_end cX10_end 2 (some .boolean) :: ([.fieldLink RX10 10 "StillText" "tape" "LStillText$Tape;", .methodLink RX10 82 yX7_keepFirst, .instanceMethod yX7_keepFirst, .selects RX7 yX7_keepFirst yX7_keepFirst, .initialized RX7, .code yX7_keepFirst cX7_keepFirst 2 (some .boolean), .fieldLink RX7 15 "StillText$Tape" "length" "I", .static yX10_within, .initialized RX10, .code yX10_within cX10_within 3 (some .boolean)] ++ wsX100 ++ wsX70)
def wsX10_readTape_r1 : List Cond := [Cond.fieldLink RX10 19 "StillText" "reading" "LStillText$Reading;", Cond.fieldLink RX10 10 "StillText" "tape" "LStillText$Tape;", Cond.methodLink RX10 242 yX3_read, Cond.instanceMethod yX3_read, Cond.selects RX3 yX3_read yX3_read, Cond.initialized RX3, Cond.code yX3_read cX3_read 4 none, Cond.fieldLink RX3 12 "StillText$Reading" "units" "LStillText$Units;", Cond.fieldLink RX3 18 "StillText$Reading" "kind" "I", Cond.fieldLink RX3 22 "StillText$Reading" "place" "I", Cond.methodLink RX3 25 yX9_clear, Cond.instanceMethod yX9_clear, Cond.selects RX9 yX9_clear yX9_clear, Cond.initialized RX9, Cond.code yX9_clear cX9_clear 1 none, Cond.fieldLink RX9 21 "StillText$Units" "count" "I", Cond.methodLink RX3 28 yX7_length, Cond.instanceMethod yX7_length, Cond.selects RX7 yX7_length yX7_length, Cond.initialized RX7, Cond.code yX7_length cX7_length 1 (some .int), Cond.fieldLink RX7 15 "StillText$Tape" "length" "I", Cond.methodLink RX3 34 yX7_byteAt, Cond.instanceMethod yX7_byteAt]
def wsX10_readTape_r2 : List Cond := [Cond.selects RX7 yX7_byteAt yX7_byteAt, Cond.code yX7_byteAt cX7_byteAt 2 (some .int), Cond.fieldLink RX7 9 "StillText$Tape" "bytes" "[I", Cond.methodLink RX3 38 yX3_stateBehind, Cond.instanceMethod yX3_stateBehind, Cond.selects RX3 yX3_stateBehind yX3_stateBehind, Cond.code yX3_stateBehind cX3_stateBehind 6 (some .int), Cond.static yX10_isLetter, Cond.initialized RX10, Cond.code yX10_isLetter cX10_isLetter 1 (some .boolean), Cond.methodLink RX3 50 yX3_stateBehindLetter, Cond.instanceMethod yX3_stateBehindLetter, Cond.selects RX3 yX3_stateBehindLetter yX3_stateBehindLetter, Cond.code yX3_stateBehindLetter cX3_stateBehindLetter 4 (some .int), Cond.methodLink RX3 42 yX3_refuse, Cond.instanceMethod yX3_refuse, Cond.selects RX3 yX3_refuse yX3_refuse, Cond.code yX3_refuse cX3_refuse 3 none, Cond.methodLink RX3 57 yX9_open, Cond.instanceMethod yX9_open, Cond.selects RX9 yX9_open yX9_open, Cond.code yX9_open cX9_open 1 (some .boolean), Cond.fieldLink RX9 15 "StillText$Units" "sizes" "[I", Cond.fieldLink RX9 18 "StillText$Units" "behind" "[I"]
def wsX10_readTape_r3 : List Cond := [Cond.methodLink RX3 61 yX9_addLetter, Cond.instanceMethod yX9_addLetter, Cond.selects RX9 yX9_addLetter yX9_addLetter, Cond.code yX9_addLetter cX9_addLetter 3 (some .boolean), Cond.fieldLink RX9 9 "StillText$Units" "letters" "[I", Cond.methodLink RX3 53 yX9_close, Cond.instanceMethod yX9_close, Cond.selects RX9 yX9_close yX9_close, Cond.code yX9_close cX9_close 2 none, Cond.methodLink RX10 117 yX7_clear, Cond.instanceMethod yX7_clear, Cond.selects RX7 yX7_clear yX7_clear, Cond.code yX7_clear cX7_clear 1 none]
def wsX10_readTape : List Cond := .code yX10_readTape cX10_readTape 1 none :: ((wsX10_readTape_r1 ++ (wsX10_readTape_r2 ++ wsX10_readTape_r3)) ++ wsX100 ++ wsX30 ++ wsX90 ++ wsX70)
def wsX10_text_r1 : List Cond := [Cond.fieldLink RX10 19 "StillText" "reading" "LStillText$Reading;", Cond.fieldLink RX10 26 "StillText" "units" "LStillText$Units;", Cond.fieldLink RX10 40 "StillText" "setting" "LStillText$Setting;", Cond.fieldLink RX10 67 "StillText" "marks" "LStillText$Marks;", Cond.methodLink RX10 86 yX10_readTape, Cond.instanceMethod yX10_readTape, Cond.selects RX10 yX10_readTape yX10_readTape, Cond.initialized RX10, Cond.code yX10_readTape cX10_readTape 1 none, Cond.fieldLink RX10 10 "StillText" "tape" "LStillText$Tape;", Cond.methodLink RX10 242 yX3_read, Cond.instanceMethod yX3_read, Cond.selects RX3 yX3_read yX3_read, Cond.initialized RX3, Cond.code yX3_read cX3_read 4 none, Cond.fieldLink RX3 12 "StillText$Reading" "units" "LStillText$Units;", Cond.fieldLink RX3 18 "StillText$Reading" "kind" "I", Cond.fieldLink RX3 22 "StillText$Reading" "place" "I", Cond.methodLink RX3 25 yX9_clear, Cond.instanceMethod yX9_clear, Cond.selects RX9 yX9_clear yX9_clear, Cond.initialized RX9, Cond.code yX9_clear cX9_clear 1 none, Cond.fieldLink RX9 21 "StillText$Units" "count" "I"]
def wsX10_text_r2 : List Cond := [Cond.methodLink RX3 28 yX7_length, Cond.instanceMethod yX7_length, Cond.selects RX7 yX7_length yX7_length, Cond.initialized RX7, Cond.code yX7_length cX7_length 1 (some .int), Cond.fieldLink RX7 15 "StillText$Tape" "length" "I", Cond.methodLink RX3 34 yX7_byteAt, Cond.instanceMethod yX7_byteAt, Cond.selects RX7 yX7_byteAt yX7_byteAt, Cond.code yX7_byteAt cX7_byteAt 2 (some .int), Cond.fieldLink RX7 9 "StillText$Tape" "bytes" "[I", Cond.methodLink RX3 38 yX3_stateBehind, Cond.instanceMethod yX3_stateBehind, Cond.selects RX3 yX3_stateBehind yX3_stateBehind, Cond.code yX3_stateBehind cX3_stateBehind 6 (some .int), Cond.static yX10_isLetter, Cond.code yX10_isLetter cX10_isLetter 1 (some .boolean), Cond.methodLink RX3 50 yX3_stateBehindLetter, Cond.instanceMethod yX3_stateBehindLetter, Cond.selects RX3 yX3_stateBehindLetter yX3_stateBehindLetter, Cond.code yX3_stateBehindLetter cX3_stateBehindLetter 4 (some .int), Cond.methodLink RX3 42 yX3_refuse, Cond.instanceMethod yX3_refuse, Cond.selects RX3 yX3_refuse yX3_refuse]
def wsX10_text_r3 : List Cond := [Cond.code yX3_refuse cX3_refuse 3 none, Cond.methodLink RX3 57 yX9_open, Cond.instanceMethod yX9_open, Cond.selects RX9 yX9_open yX9_open, Cond.code yX9_open cX9_open 1 (some .boolean), Cond.fieldLink RX9 15 "StillText$Units" "sizes" "[I", Cond.fieldLink RX9 18 "StillText$Units" "behind" "[I", Cond.methodLink RX3 61 yX9_addLetter, Cond.instanceMethod yX9_addLetter, Cond.selects RX9 yX9_addLetter yX9_addLetter, Cond.code yX9_addLetter cX9_addLetter 3 (some .boolean), Cond.fieldLink RX9 9 "StillText$Units" "letters" "[I", Cond.methodLink RX3 53 yX9_close, Cond.instanceMethod yX9_close, Cond.selects RX9 yX9_close yX9_close, Cond.code yX9_close cX9_close 2 none, Cond.methodLink RX10 117 yX7_clear, Cond.instanceMethod yX7_clear, Cond.selects RX7 yX7_clear yX7_clear, Cond.code yX7_clear cX7_clear 1 none, Cond.methodLink RX10 89 yX3_hasFault, Cond.instanceMethod yX3_hasFault, Cond.selects RX3 yX3_hasFault yX3_hasFault, Cond.code yX3_hasFault cX3_hasFault 1 (some .boolean)]
def wsX10_text_r4 : List Cond := [Cond.methodLink RX10 93 yX3_units, Cond.instanceMethod yX3_units, Cond.selects RX3 yX3_units yX3_units, Cond.code yX3_units cX3_units 1 (some (.object "StillText$Units")), Cond.methodLink RX10 96 yX9_takeAll, Cond.instanceMethod yX9_takeAll, Cond.selects RX9 yX9_takeAll yX9_takeAll, Cond.code yX9_takeAll cX9_takeAll 3 none, Cond.methodLink RX9 38 yX9_copyUnit, Cond.instanceMethod yX9_copyUnit, Cond.selects RX9 yX9_copyUnit yX9_copyUnit, Cond.code yX9_copyUnit cX9_copyUnit 4 none, Cond.methodLink RX9 42 arraycopyName, Cond.native arraycopyName, Cond.static arraycopyName, Cond.initialized "java/lang/System", Cond.methodLink RX10 100 yX5_drop, Cond.instanceMethod yX5_drop, Cond.selects RX5 yX5_drop yX5_drop, Cond.initialized RX5, Cond.code yX5_drop cX5_drop 1 none, Cond.fieldLink RX5 25 "StillText$Setting" "there" "Z", Cond.methodLink RX10 103 yX0_drop, Cond.instanceMethod yX0_drop]
def wsX10_text_r5 : List Cond := [Cond.selects RX0 yX0_drop yX0_drop, Cond.initialized RX0, Cond.code yX0_drop cX0_drop 1 none, Cond.fieldLink RX0 18 "StillText$Marks" "count" "I", Cond.methodLink RX10 104 yX9_count, Cond.instanceMethod yX9_count, Cond.selects RX9 yX9_count yX9_count, Cond.code yX9_count cX9_count 1 (some .int)]
def wsX10_text : List Cond := .code yX10_text cX10_text 1 (some .int) :: ((wsX10_text_r1 ++ (wsX10_text_r2 ++ (wsX10_text_r3 ++ (wsX10_text_r4 ++ wsX10_text_r5)))) ++ wsX100 ++ wsX30 ++ wsX90 ++ wsX70 ++ wsX50 ++ wsX00)
def wsX10_fault : List Cond := .code yX10_fault cX10_fault 2 (some .int) :: ([.fieldLink RX10 19 "StillText" "reading" "LStillText$Reading;", .methodLink RX10 108 yX3_kind, .instanceMethod yX3_kind, .selects RX3 yX3_kind yX3_kind, .initialized RX3, .code yX3_kind cX3_kind 1 (some .int), .fieldLink RX3 18 "StillText$Reading" "kind" "I", .methodLink RX10 111 yX3_place, .instanceMethod yX3_place, .selects RX3 yX3_place yX3_place, .code yX3_place cX3_place 1 (some .int), .fieldLink RX3 22 "StillText$Reading" "place" "I"] ++ wsX100 ++ wsX30)
def wsX10_put_r1 : List Cond := [Cond.fieldLink RX10 26 "StillText" "units" "LStillText$Units;", Cond.fieldLink RX10 10 "StillText" "tape" "LStillText$Tape;", Cond.fieldLink RX10 19 "StillText" "reading" "LStillText$Reading;", Cond.fieldLink RX10 67 "StillText" "marks" "LStillText$Marks;", Cond.fieldLink RX10 40 "StillText" "setting" "LStillText$Setting;", Cond.methodLink RX10 114 yX9_isWholeWord, Cond.instanceMethod yX9_isWholeWord, Cond.selects RX9 yX9_isWholeWord yX9_isWholeWord, Cond.initialized RX9, Cond.code yX9_isWholeWord cX9_isWholeWord 2 (some .boolean), Cond.methodLink RX9 25 yX9_has, Cond.instanceMethod yX9_has, Cond.selects RX9 yX9_has yX9_has, Cond.code yX9_has cX9_has 2 (some .boolean), Cond.fieldLink RX9 21 "StillText$Units" "count" "I", Cond.methodLink RX9 32 yX9_goesOn, Cond.instanceMethod yX9_goesOn, Cond.selects RX9 yX9_goesOn yX9_goesOn, Cond.code yX9_goesOn cX9_goesOn 2 (some .boolean), Cond.methodLink RX9 29 yX9_behind, Cond.instanceMethod yX9_behind, Cond.selects RX9 yX9_behind yX9_behind, Cond.code yX9_behind cX9_behind 2 (some .int), Cond.fieldLink RX9 18 "StillText$Units" "behind" "[I"]
def wsX10_put_r2 : List Cond := [Cond.methodLink RX10 117 yX7_clear, Cond.instanceMethod yX7_clear, Cond.selects RX7 yX7_clear yX7_clear, Cond.initialized RX7, Cond.code yX7_clear cX7_clear 1 none, Cond.fieldLink RX7 15 "StillText$Tape" "length" "I", Cond.methodLink RX10 86 yX10_readTape, Cond.instanceMethod yX10_readTape, Cond.selects RX10 yX10_readTape yX10_readTape, Cond.initialized RX10, Cond.code yX10_readTape cX10_readTape 1 none, Cond.methodLink RX10 242 yX3_read, Cond.instanceMethod yX3_read, Cond.selects RX3 yX3_read yX3_read, Cond.initialized RX3, Cond.code yX3_read cX3_read 4 none, Cond.fieldLink RX3 12 "StillText$Reading" "units" "LStillText$Units;", Cond.fieldLink RX3 18 "StillText$Reading" "kind" "I", Cond.fieldLink RX3 22 "StillText$Reading" "place" "I", Cond.methodLink RX3 25 yX9_clear, Cond.instanceMethod yX9_clear, Cond.selects RX9 yX9_clear yX9_clear, Cond.code yX9_clear cX9_clear 1 none, Cond.methodLink RX3 28 yX7_length]
def wsX10_put_r3 : List Cond := [Cond.instanceMethod yX7_length, Cond.selects RX7 yX7_length yX7_length, Cond.code yX7_length cX7_length 1 (some .int), Cond.methodLink RX3 34 yX7_byteAt, Cond.instanceMethod yX7_byteAt, Cond.selects RX7 yX7_byteAt yX7_byteAt, Cond.code yX7_byteAt cX7_byteAt 2 (some .int), Cond.fieldLink RX7 9 "StillText$Tape" "bytes" "[I", Cond.methodLink RX3 38 yX3_stateBehind, Cond.instanceMethod yX3_stateBehind, Cond.selects RX3 yX3_stateBehind yX3_stateBehind, Cond.code yX3_stateBehind cX3_stateBehind 6 (some .int), Cond.static yX10_isLetter, Cond.code yX10_isLetter cX10_isLetter 1 (some .boolean), Cond.methodLink RX3 50 yX3_stateBehindLetter, Cond.instanceMethod yX3_stateBehindLetter, Cond.selects RX3 yX3_stateBehindLetter yX3_stateBehindLetter, Cond.code yX3_stateBehindLetter cX3_stateBehindLetter 4 (some .int), Cond.methodLink RX3 42 yX3_refuse, Cond.instanceMethod yX3_refuse, Cond.selects RX3 yX3_refuse yX3_refuse, Cond.code yX3_refuse cX3_refuse 3 none, Cond.methodLink RX3 57 yX9_open, Cond.instanceMethod yX9_open]
def wsX10_put_r4 : List Cond := [Cond.selects RX9 yX9_open yX9_open, Cond.code yX9_open cX9_open 1 (some .boolean), Cond.fieldLink RX9 15 "StillText$Units" "sizes" "[I", Cond.methodLink RX3 61 yX9_addLetter, Cond.instanceMethod yX9_addLetter, Cond.selects RX9 yX9_addLetter yX9_addLetter, Cond.code yX9_addLetter cX9_addLetter 3 (some .boolean), Cond.fieldLink RX9 9 "StillText$Units" "letters" "[I", Cond.methodLink RX3 53 yX9_close, Cond.instanceMethod yX9_close, Cond.selects RX9 yX9_close yX9_close, Cond.code yX9_close cX9_close 2 none, Cond.methodLink RX10 93 yX3_units, Cond.instanceMethod yX3_units, Cond.selects RX3 yX3_units yX3_units, Cond.code yX3_units cX3_units 1 (some (.object "StillText$Units")), Cond.methodLink RX10 104 yX9_count, Cond.instanceMethod yX9_count, Cond.selects RX9 yX9_count yX9_count, Cond.code yX9_count cX9_count 1 (some .int), Cond.methodLink RX10 89 yX3_hasFault, Cond.instanceMethod yX3_hasFault, Cond.selects RX3 yX3_hasFault yX3_hasFault, Cond.code yX3_hasFault cX3_hasFault 1 (some .boolean)]
def wsX10_put_r5 : List Cond := [Cond.methodLink RX10 120 yX9_replace, Cond.instanceMethod yX9_replace, Cond.selects RX9 yX9_replace yX9_replace, Cond.code yX9_replace cX9_replace 5 none, Cond.methodLink RX9 38 yX9_copyUnit, Cond.instanceMethod yX9_copyUnit, Cond.selects RX9 yX9_copyUnit yX9_copyUnit, Cond.code yX9_copyUnit cX9_copyUnit 4 none, Cond.methodLink RX9 42 arraycopyName, Cond.native arraycopyName, Cond.static arraycopyName, Cond.initialized "java/lang/System", Cond.methodLink RX10 124 yX0_moveBehind, Cond.instanceMethod yX0_moveBehind, Cond.selects RX0 yX0_moveBehind yX0_moveBehind, Cond.initialized RX0, Cond.code yX0_moveBehind cX0_moveBehind 4 none, Cond.fieldLink RX0 18 "StillText$Marks" "count" "I", Cond.fieldLink RX0 9 "StillText$Marks" "units" "[I", Cond.methodLink RX10 128 yX5_outdate, Cond.instanceMethod yX5_outdate, Cond.selects RX5 yX5_outdate yX5_outdate, Cond.initialized RX5, Cond.code yX5_outdate cX5_outdate 1 none]
def wsX10_put_r6 : List Cond := [Cond.fieldLink RX5 29 "StillText$Setting" "ofText" "Z"]
def wsX10_put : List Cond := .code yX10_put cX10_put 3 (some .int) :: ((wsX10_put_r1 ++ (wsX10_put_r2 ++ (wsX10_put_r3 ++ (wsX10_put_r4 ++ (wsX10_put_r5 ++ wsX10_put_r6))))) ++ wsX100 ++ wsX90 ++ wsX70 ++ wsX30 ++ wsX00 ++ wsX50)
def wsX10_unit_r1 : List Cond := [Cond.fieldLink RX10 26 "StillText" "units" "LStillText$Units;", Cond.methodLink RX10 131 yX9_has, Cond.instanceMethod yX9_has, Cond.selects RX9 yX9_has yX9_has, Cond.initialized RX9, Cond.code yX9_has cX9_has 2 (some .boolean), Cond.fieldLink RX9 21 "StillText$Units" "count" "I", Cond.methodLink RX10 134 yX9_letters, Cond.instanceMethod yX9_letters, Cond.selects RX9 yX9_letters yX9_letters, Cond.code yX9_letters cX9_letters 2 (some .int), Cond.fieldLink RX9 15 "StillText$Units" "sizes" "[I", Cond.methodLink RX9 25 yX9_has, Cond.methodLink RX10 138 yX9_behind, Cond.instanceMethod yX9_behind, Cond.selects RX9 yX9_behind yX9_behind, Cond.code yX9_behind cX9_behind 2 (some .int), Cond.fieldLink RX9 18 "StillText$Units" "behind" "[I", Cond.methodLink RX10 141 yX9_wordNumber, Cond.instanceMethod yX9_wordNumber, Cond.selects RX9 yX9_wordNumber yX9_wordNumber, Cond.code yX9_wordNumber cX9_wordNumber 4 (some .int), Cond.methodLink RX9 32 yX9_goesOn, Cond.instanceMethod yX9_goesOn]
def wsX10_unit_r2 : List Cond := [Cond.selects RX9 yX9_goesOn yX9_goesOn, Cond.code yX9_goesOn cX9_goesOn 2 (some .boolean), Cond.methodLink RX9 29 yX9_behind]
def wsX10_unit : List Cond := .code yX10_unit cX10_unit 3 (some .int) :: ((wsX10_unit_r1 ++ wsX10_unit_r2) ++ wsX100 ++ wsX90)
def wsX10_measure : List Cond := .code yX10_measure cX10_measure 3 (some .boolean) :: ([.fieldLink RX10 33 "StillText" "measures" "LStillText$Measures;", .methodLink RX10 144 yX1_changeLine, .instanceMethod yX1_changeLine, .selects RX1 yX1_changeLine yX1_changeLine, .initialized RX1, .code yX1_changeLine cX1_changeLine 3 (some .boolean), .fieldLink RX1 9 "StillText$Measures" "longest" "I", .fieldLink RX1 15 "StillText$Measures" "spread" "I", .static yX10_within, .initialized RX10, .code yX10_within cX10_within 3 (some .boolean)] ++ wsX100 ++ wsX10)
def wsX10_strains : List Cond := .code yX10_strains cX10_strains 6 (some .boolean) :: ([.fieldLink RX10 33 "StillText" "measures" "LStillText$Measures;", .methodLink RX10 148 yX1_changeStrains, .instanceMethod yX1_changeStrains, .selects RX1 yX1_changeStrains yX1_changeStrains, .initialized RX1, .code yX1_changeStrains cX1_changeStrains 7 (some .boolean), .fieldLink RX1 18 "StillText$Measures" "shortest" "I", .fieldLink RX1 21 "StillText$Measures" "phrase" "I", .fieldLink RX1 24 "StillText$Measures" "inner" "I", .fieldLink RX1 27 "StillText$Measures" "cut" "I", .fieldLink RX1 30 "StillText$Measures" "places" "[I", .static yX10_within, .initialized RX10, .code yX10_within cX10_within 3 (some .boolean), .methodLink RX1 34 yX1_pair, .static yX1_pair, .code yX1_pair cX1_pair 2 (some .int)] ++ wsX100 ++ wsX10)
def wsX10_like : List Cond := .code yX10_like cX10_like 4 (some .int) :: ([.fieldLink RX10 33 "StillText" "measures" "LStillText$Measures;", .methodLink RX10 152 yX1_changeLikeness, .instanceMethod yX1_changeLikeness, .selects RX1 yX1_changeLikeness yX1_changeLikeness, .initialized RX1, .code yX1_changeLikeness cX1_changeLikeness 5 (some .int), .fieldLink RX1 30 "StillText$Measures" "places" "[I", .static yX10_isLetter, .initialized RX10, .code yX10_isLetter cX10_isLetter 1 (some .boolean), .static yX10_within, .code yX10_within cX10_within 3 (some .boolean), .methodLink RX1 46 yX1_kindOf, .static yX1_kindOf, .code yX1_kindOf cX1_kindOf 1 (some .int), .methodLink RX1 34 yX1_pair, .static yX1_pair, .code yX1_pair cX1_pair 2 (some .int)] ++ wsX100 ++ wsX10)
def wsX10_set_r1 : List Cond := [Cond.fieldLink RX10 26 "StillText" "units" "LStillText$Units;", Cond.fieldLink RX10 33 "StillText" "measures" "LStillText$Measures;", Cond.fieldLink RX10 40 "StillText" "setting" "LStillText$Setting;", Cond.fieldLink RX10 53 "StillText" "setter" "LStillText$Setter;", Cond.methodLink RX10 156 yX1_longest, Cond.instanceMethod yX1_longest, Cond.selects RX1 yX1_longest yX1_longest, Cond.initialized RX1, Cond.code yX1_longest cX1_longest 1 (some .int), Cond.fieldLink RX1 9 "StillText$Measures" "longest" "I", Cond.methodLink RX10 159 yX9_fitAlone, Cond.instanceMethod yX9_fitAlone, Cond.selects RX9 yX9_fitAlone yX9_fitAlone, Cond.initialized RX9, Cond.code yX9_fitAlone cX9_fitAlone 3 (some .boolean), Cond.fieldLink RX9 21 "StillText$Units" "count" "I", Cond.methodLink RX9 35 yX9_signs, Cond.instanceMethod yX9_signs, Cond.selects RX9 yX9_signs yX9_signs, Cond.code yX9_signs cX9_signs 3 (some .int), Cond.fieldLink RX9 18 "StillText$Units" "behind" "[I", Cond.fieldLink RX9 15 "StillText$Units" "sizes" "[I", Cond.methodLink RX9 25 yX9_has, Cond.instanceMethod yX9_has]
def wsX10_set_r2 : List Cond := [Cond.selects RX9 yX9_has yX9_has, Cond.code yX9_has cX9_has 2 (some .boolean), Cond.methodLink RX9 32 yX9_goesOn, Cond.instanceMethod yX9_goesOn, Cond.selects RX9 yX9_goesOn yX9_goesOn, Cond.code yX9_goesOn cX9_goesOn 2 (some .boolean), Cond.methodLink RX9 29 yX9_behind, Cond.instanceMethod yX9_behind, Cond.selects RX9 yX9_behind yX9_behind, Cond.code yX9_behind cX9_behind 2 (some .int), Cond.methodLink RX10 162 yX1_spread, Cond.instanceMethod yX1_spread, Cond.selects RX1 yX1_spread yX1_spread, Cond.code yX1_spread cX1_spread 1 (some .int), Cond.fieldLink RX1 15 "StillText$Measures" "spread" "I", Cond.methodLink RX10 165 yX5_begin, Cond.instanceMethod yX5_begin, Cond.selects RX5 yX5_begin yX5_begin, Cond.initialized RX5, Cond.code yX5_begin cX5_begin 3 none, Cond.fieldLink RX5 12 "StillText$Setting" "strip" "LStillText$Strip;", Cond.fieldLink RX5 32 "StillText$Setting" "count" "I", Cond.fieldLink RX5 25 "StillText$Setting" "there" "Z", Cond.fieldLink RX5 29 "StillText$Setting" "ofText" "Z"]
def wsX10_set_r3 : List Cond := [Cond.methodLink RX5 36 yX6_lay, Cond.instanceMethod yX6_lay, Cond.selects RX6 yX6_lay yX6_lay, Cond.initialized RX6, Cond.code yX6_lay cX6_lay 4 none, Cond.fieldLink RX6 27 "StillText$Strip" "units" "I", Cond.fieldLink RX6 31 "StillText$Strip" "length" "I", Cond.methodLink RX6 34 yX9_count, Cond.instanceMethod yX9_count, Cond.selects RX9 yX9_count yX9_count, Cond.code yX9_count cX9_count 1 (some .int), Cond.methodLink RX6 40 yX9_goesOn, Cond.methodLink RX6 44 yX6_addBlanks, Cond.instanceMethod yX6_addBlanks, Cond.selects RX6 yX6_addBlanks yX6_addBlanks, Cond.code yX6_addBlanks cX6_addBlanks 3 none, Cond.methodLink RX6 52 yX6_addSign, Cond.instanceMethod yX6_addSign, Cond.selects RX6 yX6_addSign yX6_addSign, Cond.code yX6_addSign cX6_addSign 2 none, Cond.fieldLink RX6 11 "StillText$Strip" "signs" "[I", Cond.fieldLink RX6 15 "StillText$Strip" "kinds" "[I", Cond.methodLink RX6 64 yX1_kindOf, Cond.static yX1_kindOf]
def wsX10_set_r4 : List Cond := [Cond.code yX1_kindOf cX1_kindOf 1 (some .int), Cond.static yX10_isLetter, Cond.initialized RX10, Cond.code yX10_isLetter cX10_isLetter 1 (some .boolean), Cond.methodLink RX6 48 yX6_addUnit, Cond.instanceMethod yX6_addUnit, Cond.selects RX6 yX6_addUnit yX6_addUnit, Cond.code yX6_addUnit cX6_addUnit 5 none, Cond.fieldLink RX6 18 "StillText$Strip" "begins" "[I", Cond.fieldLink RX6 21 "StillText$Strip" "ends" "[I", Cond.fieldLink RX6 24 "StillText$Strip" "behind" "[I", Cond.methodLink RX6 55 yX9_signs, Cond.methodLink RX6 58 yX9_signAt, Cond.instanceMethod yX9_signAt, Cond.selects RX9 yX9_signAt yX9_signAt, Cond.code yX9_signAt cX9_signAt 3 (some .int), Cond.fieldLink RX9 9 "StillText$Units" "letters" "[I", Cond.methodLink RX6 62 yX9_behind, Cond.methodLink RX10 169 yX4_weighLines, Cond.instanceMethod yX4_weighLines, Cond.selects RX4 yX4_weighLines yX4_weighLines, Cond.initialized RX4, Cond.code yX4_weighLines cX4_weighLines 3 none, Cond.fieldLink RX4 18 "StillText$Setter" "strip" "LStillText$Strip;"]
def wsX10_set_r5 : List Cond := [Cond.fieldLink RX4 15 "StillText$Setter" "least" "[I", Cond.fieldLink RX4 9 "StillText$Setter" "most" "[I", Cond.methodLink RX4 26 yX6_units, Cond.instanceMethod yX6_units, Cond.selects RX6 yX6_units yX6_units, Cond.code yX6_units cX6_units 1 (some .int), Cond.methodLink RX4 32 yX4_fits, Cond.instanceMethod yX4_fits, Cond.selects RX4 yX4_fits yX4_fits, Cond.code yX4_fits cX4_fits 3 (some .boolean), Cond.fieldLink RX4 22 "StillText$Setter" "measures" "LStillText$Measures;", Cond.methodLink RX4 60 yX6_signsOf, Cond.instanceMethod yX6_signsOf, Cond.selects RX6 yX6_signsOf yX6_signsOf, Cond.code yX6_signsOf cX6_signsOf 3 (some .int), Cond.methodLink RX6 73 yX6_body, Cond.instanceMethod yX6_body, Cond.selects RX6 yX6_body yX6_body, Cond.code yX6_body cX6_body 3 (some .int), Cond.methodLink RX6 69 yX6_holds, Cond.instanceMethod yX6_holds, Cond.selects RX6 yX6_holds yX6_holds, Cond.code yX6_holds cX6_holds 3 (some .boolean), Cond.methodLink RX6 76 yX6_behindLine]
def wsX10_set_r6 : List Cond := [Cond.instanceMethod yX6_behindLine, Cond.selects RX6 yX6_behindLine yX6_behindLine, Cond.code yX6_behindLine cX6_behindLine 3 (some .int), Cond.methodLink RX4 63 yX1_longest, Cond.methodLink RX4 36 yX4_place, Cond.static yX4_place, Cond.code yX4_place cX4_place 2 (some .int), Cond.methodLink RX4 40 yX4_weigh, Cond.instanceMethod yX4_weigh, Cond.selects RX4 yX4_weigh yX4_weigh, Cond.code yX4_weigh cX4_weigh 4 (some .int), Cond.methodLink RX4 68 yX6_behindLine, Cond.methodLink RX4 71 yX1_strainOfLine, Cond.instanceMethod yX1_strainOfLine, Cond.selects RX1 yX1_strainOfLine yX1_strainOfLine, Cond.code yX1_strainOfLine cX1_strainOfLine 4 (some .int), Cond.fieldLink RX1 18 "StillText$Measures" "shortest" "I", Cond.methodLink RX1 50 yX1_strainOfEnd, Cond.instanceMethod yX1_strainOfEnd, Cond.selects RX1 yX1_strainOfEnd yX1_strainOfEnd, Cond.code yX1_strainOfEnd cX1_strainOfEnd 2 (some .int), Cond.fieldLink RX1 21 "StillText$Measures" "phrase" "I", Cond.fieldLink RX1 27 "StillText$Measures" "cut" "I", Cond.fieldLink RX1 24 "StillText$Measures" "inner" "I"]
def wsX10_set_r7 : List Cond := [Cond.methodLink RX4 57 yX6_body, Cond.methodLink RX4 43 yX4_leastBelow, Cond.instanceMethod yX4_leastBelow, Cond.selects RX4 yX4_leastBelow yX4_leastBelow, Cond.code yX4_leastBelow cX4_leastBelow 12 (some .int), Cond.fieldLink RX4 47 "StillText$Setter" "chosen" "I", Cond.methodLink RX4 78 Lib.Math.min.name, Cond.static Lib.Math.min.name, Cond.initialized "java/lang/Math", Cond.code Lib.Math.min.name Lib.Math.min.code 2 (some .int), Cond.methodLink RX4 74 yX6_beginOf, Cond.instanceMethod yX6_beginOf, Cond.selects RX6 yX6_beginOf yX6_beginOf, Cond.code yX6_beginOf cX6_beginOf 2 (some .int), Cond.methodLink RX4 83 yX6_strainOfPlaces, Cond.instanceMethod yX6_strainOfPlaces, Cond.selects RX6 yX6_strainOfPlaces yX6_strainOfPlaces, Cond.code yX6_strainOfPlaces cX6_strainOfPlaces 8 (some .int), Cond.methodLink RX6 82 yX1_strainOfPlace, Cond.instanceMethod yX1_strainOfPlace, Cond.selects RX1 yX1_strainOfPlace yX1_strainOfPlace, Cond.code yX1_strainOfPlace cX1_strainOfPlace 3 (some .int), Cond.fieldLink RX1 30 "StillText$Measures" "places" "[I", Cond.methodLink RX1 34 yX1_pair]
def wsX10_set_r8 : List Cond := [Cond.static yX1_pair, Cond.code yX1_pair cX1_pair 2 (some .int), Cond.methodLink RX10 172 yX4_putLines, Cond.instanceMethod yX4_putLines, Cond.selects RX4 yX4_putLines yX4_putLines, Cond.code yX4_putLines cX4_putLines 6 (some .int), Cond.methodLink RX4 51 yX5_addLine, Cond.instanceMethod yX5_addLine, Cond.selects RX5 yX5_addLine yX5_addLine, Cond.code yX5_addLine cX5_addLine 3 none, Cond.fieldLink RX5 18 "StillText$Setting" "firsts" "[I", Cond.fieldLink RX5 22 "StillText$Setting" "manys" "[I"]
def wsX10_set : List Cond := .code yX10_set cX10_set 1 (some .int) :: ((wsX10_set_r1 ++ (wsX10_set_r2 ++ (wsX10_set_r3 ++ (wsX10_set_r4 ++ (wsX10_set_r5 ++ (wsX10_set_r6 ++ (wsX10_set_r7 ++ wsX10_set_r8))))))) ++ wsX100 ++ wsX10 ++ wsX90 ++ wsX50 ++ wsX60 ++ wsX40)
def wsX10_lines : List Cond := .code yX10_lines cX10_lines 1 (some .int) :: ([.fieldLink RX10 40 "StillText" "setting" "LStillText$Setting;", .methodLink RX10 176 yX5_isThere, .instanceMethod yX5_isThere, .selects RX5 yX5_isThere yX5_isThere, .initialized RX5, .code yX5_isThere cX5_isThere 1 (some .boolean), .fieldLink RX5 25 "StillText$Setting" "there" "Z", .methodLink RX10 179 yX5_count, .instanceMethod yX5_count, .selects RX5 yX5_count yX5_count, .code yX5_count cX5_count 1 (some .int), .fieldLink RX5 32 "StillText$Setting" "count" "I"] ++ wsX100 ++ wsX50)
def wsX10_line_r1 : List Cond := [Cond.fieldLink RX10 40 "StillText" "setting" "LStillText$Setting;", Cond.fieldLink RX10 60 "StillText" "pages" "LStillText$Pages;", Cond.methodLink RX10 180 yX5_has, Cond.instanceMethod yX5_has, Cond.selects RX5 yX5_has yX5_has, Cond.initialized RX5, Cond.code yX5_has cX5_has 2 (some .boolean), Cond.fieldLink RX5 25 "StillText$Setting" "there" "Z", Cond.fieldLink RX5 32 "StillText$Setting" "count" "I", Cond.methodLink RX10 181 yX5_first, Cond.instanceMethod yX5_first, Cond.selects RX5 yX5_first yX5_first, Cond.code yX5_first cX5_first 2 (some .int), Cond.fieldLink RX5 18 "StillText$Setting" "firsts" "[I", Cond.methodLink RX5 40 yX5_has, Cond.methodLink RX10 184 yX5_unitsIn, Cond.instanceMethod yX5_unitsIn, Cond.selects RX5 yX5_unitsIn yX5_unitsIn, Cond.code yX5_unitsIn cX5_unitsIn 2 (some .int), Cond.fieldLink RX5 22 "StillText$Setting" "manys" "[I", Cond.methodLink RX10 187 yX5_signsIn, Cond.instanceMethod yX5_signsIn, Cond.selects RX5 yX5_signsIn yX5_signsIn, Cond.code yX5_signsIn cX5_signsIn 2 (some .int)]
def wsX10_line_r2 : List Cond := [Cond.fieldLink RX5 12 "StillText$Setting" "strip" "LStillText$Strip;", Cond.methodLink RX5 44 yX6_signsOf, Cond.instanceMethod yX6_signsOf, Cond.selects RX6 yX6_signsOf yX6_signsOf, Cond.initialized RX6, Cond.code yX6_signsOf cX6_signsOf 3 (some .int), Cond.methodLink RX6 73 yX6_body, Cond.instanceMethod yX6_body, Cond.selects RX6 yX6_body yX6_body, Cond.code yX6_body cX6_body 3 (some .int), Cond.fieldLink RX6 21 "StillText$Strip" "ends" "[I", Cond.fieldLink RX6 18 "StillText$Strip" "begins" "[I", Cond.methodLink RX6 69 yX6_holds, Cond.instanceMethod yX6_holds, Cond.selects RX6 yX6_holds yX6_holds, Cond.code yX6_holds cX6_holds 3 (some .boolean), Cond.fieldLink RX6 27 "StillText$Strip" "units" "I", Cond.methodLink RX6 76 yX6_behindLine, Cond.instanceMethod yX6_behindLine, Cond.selects RX6 yX6_behindLine yX6_behindLine, Cond.code yX6_behindLine cX6_behindLine 3 (some .int), Cond.fieldLink RX6 24 "StillText$Strip" "behind" "[I", Cond.methodLink RX10 190 yX2_tintOf, Cond.instanceMethod yX2_tintOf]
def wsX10_line_r3 : List Cond := [Cond.selects RX2 yX2_tintOf yX2_tintOf, Cond.initialized RX2, Cond.code yX2_tintOf cX2_tintOf 2 (some .int), Cond.fieldLink RX2 7 "StillText$Pages" "rows" "I", Cond.fieldLink RX2 13 "StillText$Pages" "tints" "I", Cond.methodLink RX10 193 yX2_pageOf, Cond.instanceMethod yX2_pageOf, Cond.selects RX2 yX2_pageOf yX2_pageOf, Cond.code yX2_pageOf cX2_pageOf 2 (some .int)]
def wsX10_line : List Cond := .code yX10_line cX10_line 3 (some .int) :: ((wsX10_line_r1 ++ (wsX10_line_r2 ++ wsX10_line_r3)) ++ wsX100 ++ wsX50 ++ wsX60 ++ wsX20)
def wsX10_sign_r1 : List Cond := [Cond.fieldLink RX10 40 "StillText" "setting" "LStillText$Setting;", Cond.methodLink RX10 196 yX5_signAt, Cond.instanceMethod yX5_signAt, Cond.selects RX5 yX5_signAt yX5_signAt, Cond.initialized RX5, Cond.code yX5_signAt cX5_signAt 3 (some .int), Cond.fieldLink RX5 12 "StillText$Setting" "strip" "LStillText$Strip;", Cond.fieldLink RX5 18 "StillText$Setting" "firsts" "[I", Cond.fieldLink RX5 22 "StillText$Setting" "manys" "[I", Cond.methodLink RX5 40 yX5_has, Cond.instanceMethod yX5_has, Cond.selects RX5 yX5_has yX5_has, Cond.code yX5_has cX5_has 2 (some .boolean), Cond.fieldLink RX5 25 "StillText$Setting" "there" "Z", Cond.fieldLink RX5 32 "StillText$Setting" "count" "I", Cond.methodLink RX5 48 yX6_signAt, Cond.instanceMethod yX6_signAt, Cond.selects RX6 yX6_signAt yX6_signAt, Cond.initialized RX6, Cond.code yX6_signAt cX6_signAt 4 (some .int), Cond.fieldLink RX6 11 "StillText$Strip" "signs" "[I", Cond.fieldLink RX6 18 "StillText$Strip" "begins" "[I", Cond.methodLink RX6 79 yX6_signsOf, Cond.instanceMethod yX6_signsOf]
def wsX10_sign_r2 : List Cond := [Cond.selects RX6 yX6_signsOf yX6_signsOf, Cond.code yX6_signsOf cX6_signsOf 3 (some .int), Cond.methodLink RX6 73 yX6_body, Cond.instanceMethod yX6_body, Cond.selects RX6 yX6_body yX6_body, Cond.code yX6_body cX6_body 3 (some .int), Cond.fieldLink RX6 21 "StillText$Strip" "ends" "[I", Cond.methodLink RX6 69 yX6_holds, Cond.instanceMethod yX6_holds, Cond.selects RX6 yX6_holds yX6_holds, Cond.code yX6_holds cX6_holds 3 (some .boolean), Cond.fieldLink RX6 27 "StillText$Strip" "units" "I", Cond.methodLink RX6 76 yX6_behindLine, Cond.instanceMethod yX6_behindLine, Cond.selects RX6 yX6_behindLine yX6_behindLine, Cond.code yX6_behindLine cX6_behindLine 3 (some .int), Cond.fieldLink RX6 24 "StillText$Strip" "behind" "[I"]
def wsX10_sign : List Cond := .code yX10_sign cX10_sign 3 (some .int) :: ((wsX10_sign_r1 ++ wsX10_sign_r2) ++ wsX100 ++ wsX50 ++ wsX60)
def wsX10_rivers_r1 : List Cond := [Cond.fieldLink RX10 40 "StillText" "setting" "LStillText$Setting;", Cond.methodLink RX10 176 yX5_isThere, Cond.instanceMethod yX5_isThere, Cond.selects RX5 yX5_isThere yX5_isThere, Cond.initialized RX5, Cond.code yX5_isThere cX5_isThere 1 (some .boolean), Cond.fieldLink RX5 25 "StillText$Setting" "there" "Z", Cond.methodLink RX10 200 yX5_riversAt, Cond.instanceMethod yX5_riversAt, Cond.selects RX5 yX5_riversAt yX5_riversAt, Cond.code yX5_riversAt cX5_riversAt 6 (some .int), Cond.fieldLink RX5 32 "StillText$Setting" "count" "I", Cond.methodLink RX5 52 yX5_signAt, Cond.instanceMethod yX5_signAt, Cond.selects RX5 yX5_signAt yX5_signAt, Cond.code yX5_signAt cX5_signAt 3 (some .int), Cond.fieldLink RX5 12 "StillText$Setting" "strip" "LStillText$Strip;", Cond.fieldLink RX5 18 "StillText$Setting" "firsts" "[I", Cond.fieldLink RX5 22 "StillText$Setting" "manys" "[I", Cond.methodLink RX5 40 yX5_has, Cond.instanceMethod yX5_has, Cond.selects RX5 yX5_has yX5_has, Cond.code yX5_has cX5_has 2 (some .boolean), Cond.methodLink RX5 48 yX6_signAt]
def wsX10_rivers_r2 : List Cond := [Cond.instanceMethod yX6_signAt, Cond.selects RX6 yX6_signAt yX6_signAt, Cond.initialized RX6, Cond.code yX6_signAt cX6_signAt 4 (some .int), Cond.fieldLink RX6 11 "StillText$Strip" "signs" "[I", Cond.fieldLink RX6 18 "StillText$Strip" "begins" "[I", Cond.methodLink RX6 79 yX6_signsOf, Cond.instanceMethod yX6_signsOf, Cond.selects RX6 yX6_signsOf yX6_signsOf, Cond.code yX6_signsOf cX6_signsOf 3 (some .int), Cond.methodLink RX6 73 yX6_body, Cond.instanceMethod yX6_body, Cond.selects RX6 yX6_body yX6_body, Cond.code yX6_body cX6_body 3 (some .int), Cond.fieldLink RX6 21 "StillText$Strip" "ends" "[I", Cond.methodLink RX6 69 yX6_holds, Cond.instanceMethod yX6_holds, Cond.selects RX6 yX6_holds yX6_holds, Cond.code yX6_holds cX6_holds 3 (some .boolean), Cond.fieldLink RX6 27 "StillText$Strip" "units" "I", Cond.methodLink RX6 76 yX6_behindLine, Cond.instanceMethod yX6_behindLine, Cond.selects RX6 yX6_behindLine yX6_behindLine, Cond.code yX6_behindLine cX6_behindLine 3 (some .int)]
def wsX10_rivers_r3 : List Cond := [Cond.fieldLink RX6 24 "StillText$Strip" "behind" "[I"]
def wsX10_rivers : List Cond := .code yX10_rivers cX10_rivers 4 (some .int) :: ((wsX10_rivers_r1 ++ (wsX10_rivers_r2 ++ wsX10_rivers_r3)) ++ wsX100 ++ wsX50 ++ wsX60)
def wsX10_page : List Cond := .code yX10_page cX10_page 3 (some .boolean) :: ([.fieldLink RX10 60 "StillText" "pages" "LStillText$Pages;", .methodLink RX10 203 yX2_change, .instanceMethod yX2_change, .selects RX2 yX2_change yX2_change, .initialized RX2, .code yX2_change cX2_change 3 (some .boolean), .fieldLink RX2 7 "StillText$Pages" "rows" "I", .fieldLink RX2 13 "StillText$Pages" "tints" "I", .static yX10_within, .initialized RX10, .code yX10_within cX10_within 3 (some .boolean)] ++ wsX100 ++ wsX20)
def wsX10_mark_r1 : List Cond := [Cond.fieldLink RX10 40 "StillText" "setting" "LStillText$Setting;", Cond.fieldLink RX10 26 "StillText" "units" "LStillText$Units;", Cond.fieldLink RX10 67 "StillText" "marks" "LStillText$Marks;", Cond.fieldLink RX10 60 "StillText" "pages" "LStillText$Pages;", Cond.methodLink RX10 206 yX5_isOfText, Cond.instanceMethod yX5_isOfText, Cond.selects RX5 yX5_isOfText yX5_isOfText, Cond.initialized RX5, Cond.code yX5_isOfText cX5_isOfText 1 (some .boolean), Cond.fieldLink RX5 25 "StillText$Setting" "there" "Z", Cond.fieldLink RX5 29 "StillText$Setting" "ofText" "Z", Cond.methodLink RX10 131 yX9_has, Cond.instanceMethod yX9_has, Cond.selects RX9 yX9_has yX9_has, Cond.initialized RX9, Cond.code yX9_has cX9_has 2 (some .boolean), Cond.fieldLink RX9 21 "StillText$Units" "count" "I", Cond.methodLink RX10 209 yX5_lineOf, Cond.instanceMethod yX5_lineOf, Cond.selects RX5 yX5_lineOf yX5_lineOf, Cond.code yX5_lineOf cX5_lineOf 3 (some .int), Cond.fieldLink RX5 32 "StillText$Setting" "count" "I", Cond.fieldLink RX5 18 "StillText$Setting" "firsts" "[I", Cond.fieldLink RX5 22 "StillText$Setting" "manys" "[I"]
def wsX10_mark_r2 : List Cond := [Cond.methodLink RX10 193 yX2_pageOf, Cond.instanceMethod yX2_pageOf, Cond.selects RX2 yX2_pageOf yX2_pageOf, Cond.initialized RX2, Cond.code yX2_pageOf cX2_pageOf 2 (some .int), Cond.fieldLink RX2 7 "StillText$Pages" "rows" "I", Cond.methodLink RX10 212 yX0_add, Cond.instanceMethod yX0_add, Cond.selects RX0 yX0_add yX0_add, Cond.initialized RX0, Cond.code yX0_add cX0_add 3 (some .int), Cond.fieldLink RX0 18 "StillText$Marks" "count" "I", Cond.fieldLink RX0 9 "StillText$Marks" "units" "[I", Cond.fieldLink RX0 15 "StillText$Marks" "kept" "[I"]
def wsX10_mark : List Cond := .code yX10_mark cX10_mark 2 (some .int) :: ((wsX10_mark_r1 ++ wsX10_mark_r2) ++ wsX100 ++ wsX50 ++ wsX90 ++ wsX20 ++ wsX00)
def wsX10_shiftOf_r1 : List Cond := [Cond.fieldLink RX10 40 "StillText" "setting" "LStillText$Setting;", Cond.fieldLink RX10 60 "StillText" "pages" "LStillText$Pages;", Cond.fieldLink RX10 67 "StillText" "marks" "LStillText$Marks;", Cond.methodLink RX10 206 yX5_isOfText, Cond.instanceMethod yX5_isOfText, Cond.selects RX5 yX5_isOfText yX5_isOfText, Cond.initialized RX5, Cond.code yX5_isOfText cX5_isOfText 1 (some .boolean), Cond.fieldLink RX5 25 "StillText$Setting" "there" "Z", Cond.fieldLink RX5 29 "StillText$Setting" "ofText" "Z", Cond.methodLink RX10 216 yX0_unitOf, Cond.instanceMethod yX0_unitOf, Cond.selects RX0 yX0_unitOf yX0_unitOf, Cond.initialized RX0, Cond.code yX0_unitOf cX0_unitOf 2 (some .int), Cond.fieldLink RX0 9 "StillText$Marks" "units" "[I", Cond.methodLink RX0 22 yX0_has, Cond.instanceMethod yX0_has, Cond.selects RX0 yX0_has yX0_has, Cond.code yX0_has cX0_has 2 (some .boolean), Cond.fieldLink RX0 18 "StillText$Marks" "count" "I", Cond.methodLink RX10 209 yX5_lineOf, Cond.instanceMethod yX5_lineOf, Cond.selects RX5 yX5_lineOf yX5_lineOf]
def wsX10_shiftOf_r2 : List Cond := [Cond.code yX5_lineOf cX5_lineOf 3 (some .int), Cond.fieldLink RX5 32 "StillText$Setting" "count" "I", Cond.fieldLink RX5 18 "StillText$Setting" "firsts" "[I", Cond.fieldLink RX5 22 "StillText$Setting" "manys" "[I", Cond.methodLink RX10 193 yX2_pageOf, Cond.instanceMethod yX2_pageOf, Cond.selects RX2 yX2_pageOf yX2_pageOf, Cond.initialized RX2, Cond.code yX2_pageOf cX2_pageOf 2 (some .int), Cond.fieldLink RX2 7 "StillText$Pages" "rows" "I", Cond.methodLink RX10 219 yX0_pageOf, Cond.instanceMethod yX0_pageOf, Cond.selects RX0 yX0_pageOf yX0_pageOf, Cond.code yX0_pageOf cX0_pageOf 2 (some .int), Cond.fieldLink RX0 15 "StillText$Marks" "kept" "[I"]
def wsX10_shiftOf : List Cond := .code yX10_shiftOf cX10_shiftOf 2 (some .int) :: ((wsX10_shiftOf_r1 ++ wsX10_shiftOf_r2) ++ wsX100 ++ wsX50 ++ wsX00 ++ wsX20)
def wsX10_marked_r1 : List Cond := [Cond.fieldLink RX10 67 "StillText" "marks" "LStillText$Marks;", Cond.methodLink RX10 215 yX0_has, Cond.instanceMethod yX0_has, Cond.selects RX0 yX0_has yX0_has, Cond.initialized RX0, Cond.code yX0_has cX0_has 2 (some .boolean), Cond.fieldLink RX0 18 "StillText$Marks" "count" "I", Cond.methodLink RX10 216 yX0_unitOf, Cond.instanceMethod yX0_unitOf, Cond.selects RX0 yX0_unitOf yX0_unitOf, Cond.code yX0_unitOf cX0_unitOf 2 (some .int), Cond.fieldLink RX0 9 "StillText$Marks" "units" "[I", Cond.methodLink RX0 22 yX0_has, Cond.methodLink RX10 219 yX0_pageOf, Cond.instanceMethod yX0_pageOf, Cond.selects RX0 yX0_pageOf yX0_pageOf, Cond.code yX0_pageOf cX0_pageOf 2 (some .int), Cond.fieldLink RX0 15 "StillText$Marks" "kept" "[I", Cond.methodLink RX10 220 yX10_shiftOf, Cond.instanceMethod yX10_shiftOf, Cond.selects RX10 yX10_shiftOf yX10_shiftOf, Cond.initialized RX10, Cond.code yX10_shiftOf cX10_shiftOf 2 (some .int), Cond.fieldLink RX10 40 "StillText" "setting" "LStillText$Setting;"]
def wsX10_marked_r2 : List Cond := [Cond.fieldLink RX10 60 "StillText" "pages" "LStillText$Pages;", Cond.methodLink RX10 206 yX5_isOfText, Cond.instanceMethod yX5_isOfText, Cond.selects RX5 yX5_isOfText yX5_isOfText, Cond.initialized RX5, Cond.code yX5_isOfText cX5_isOfText 1 (some .boolean), Cond.fieldLink RX5 25 "StillText$Setting" "there" "Z", Cond.fieldLink RX5 29 "StillText$Setting" "ofText" "Z", Cond.methodLink RX10 209 yX5_lineOf, Cond.instanceMethod yX5_lineOf, Cond.selects RX5 yX5_lineOf yX5_lineOf, Cond.code yX5_lineOf cX5_lineOf 3 (some .int), Cond.fieldLink RX5 32 "StillText$Setting" "count" "I", Cond.fieldLink RX5 18 "StillText$Setting" "firsts" "[I", Cond.fieldLink RX5 22 "StillText$Setting" "manys" "[I", Cond.methodLink RX10 193 yX2_pageOf, Cond.instanceMethod yX2_pageOf, Cond.selects RX2 yX2_pageOf yX2_pageOf, Cond.initialized RX2, Cond.code yX2_pageOf cX2_pageOf 2 (some .int), Cond.fieldLink RX2 7 "StillText$Pages" "rows" "I"]
def wsX10_marked : List Cond := .code yX10_marked cX10_marked 3 (some .int) :: ((wsX10_marked_r1 ++ wsX10_marked_r2) ++ wsX100 ++ wsX00 ++ wsX50 ++ wsX20)
def wsX10_test_r1 : List Cond := [Cond.fieldLink RX10 74 "StillText" "trials" "LStillText$Trials;", Cond.methodLink RX10 223 yX8_begin, Cond.instanceMethod yX8_begin, Cond.selects RX8 yX8_begin yX8_begin, Cond.initialized RX8, Cond.code yX8_begin cX8_begin 4 (some .boolean), Cond.fieldLink RX8 22 "StillText$Trials" "begun" "Z", Cond.fieldLink RX8 15 "StillText$Trials" "lead" "I", Cond.fieldLink RX8 40 "StillText$Trials" "answers" "I", Cond.fieldLink RX8 43 "StillText$Trials" "won" "I", Cond.fieldLink RX8 46 "StillText$Trials" "ahead" "I", Cond.fieldLink RX8 19 "StillText$Trials" "way" "I", Cond.methodLink RX8 32 yX8_isOnGrid, Cond.static yX8_isOnGrid, Cond.code yX8_isOnGrid cX8_isOnGrid 2 (some .boolean), Cond.static yX10_within, Cond.initialized RX10, Cond.code yX10_within cX10_within 3 (some .boolean), Cond.methodLink RX8 49 yX8_makeBest, Cond.instanceMethod yX8_makeBest, Cond.selects RX8 yX8_makeBest yX8_makeBest, Cond.code yX8_makeBest cX8_makeBest 4 none, Cond.fieldLink RX8 26 "StillText$Trials" "bestLong" "I", Cond.fieldLink RX8 29 "StillText$Trials" "bestSpread" "I"]
def wsX10_test_r2 : List Cond := [Cond.fieldLink RX8 11 "StillText$Trials" "beaten" "[Z", Cond.methodLink RX8 53 yX8_nextWay, Cond.instanceMethod yX8_nextWay, Cond.selects RX8 yX8_nextWay yX8_nextWay, Cond.code yX8_nextWay cX8_nextWay 2 (some .int), Cond.methodLink RX8 57 yX8_longOn, Cond.instanceMethod yX8_longOn, Cond.selects RX8 yX8_longOn yX8_longOn, Cond.code yX8_longOn cX8_longOn 2 (some .int), Cond.fieldLink RX8 72 "StillText$Trials" "LONG_STEPS" "[I", Cond.methodLink RX8 61 yX8_spreadOn, Cond.instanceMethod yX8_spreadOn, Cond.selects RX8 yX8_spreadOn yX8_spreadOn, Cond.code yX8_spreadOn cX8_spreadOn 2 (some .int), Cond.fieldLink RX8 76 "StillText$Trials" "SPREAD_STEPS" "[I"]
def wsX10_test : List Cond := .code yX10_test cX10_test 4 (some .boolean) :: ((wsX10_test_r1 ++ wsX10_test_r2) ++ wsX100 ++ wsX80)
def wsX10_tested : List Cond := .code yX10_tested cX10_tested 2 (some .int) :: ([.fieldLink RX10 74 "StillText" "trials" "LStillText$Trials;", .methodLink RX10 226 yX8_tell, .instanceMethod yX8_tell, .selects RX8 yX8_tell yX8_tell, .initialized RX8, .code yX8_tell cX8_tell 2 (some .int), .fieldLink RX8 22 "StillText$Trials" "begun" "Z", .fieldLink RX8 26 "StillText$Trials" "bestLong" "I", .fieldLink RX8 29 "StillText$Trials" "bestSpread" "I", .fieldLink RX8 19 "StillText$Trials" "way" "I", .fieldLink RX8 40 "StillText$Trials" "answers" "I", .fieldLink RX8 43 "StillText$Trials" "won" "I", .methodLink RX8 57 yX8_longOn, .instanceMethod yX8_longOn, .selects RX8 yX8_longOn yX8_longOn, .code yX8_longOn cX8_longOn 2 (some .int), .fieldLink RX8 72 "StillText$Trials" "LONG_STEPS" "[I", .methodLink RX8 61 yX8_spreadOn, .instanceMethod yX8_spreadOn, .selects RX8 yX8_spreadOn yX8_spreadOn, .code yX8_spreadOn cX8_spreadOn 2 (some .int), .fieldLink RX8 76 "StillText$Trials" "SPREAD_STEPS" "[I"] ++ wsX100 ++ wsX80)
def wsX10_answer_r1 : List Cond := [Cond.fieldLink RX10 74 "StillText" "trials" "LStillText$Trials;", Cond.methodLink RX10 229 yX8_hear, Cond.instanceMethod yX8_hear, Cond.selects RX8 yX8_hear yX8_hear, Cond.initialized RX8, Cond.code yX8_hear cX8_hear 3 (some .int), Cond.fieldLink RX8 19 "StillText$Trials" "way" "I", Cond.fieldLink RX8 40 "StillText$Trials" "answers" "I", Cond.fieldLink RX8 46 "StillText$Trials" "ahead" "I", Cond.methodLink RX8 64 yX8_settle, Cond.instanceMethod yX8_settle, Cond.selects RX8 yX8_settle yX8_settle, Cond.code yX8_settle cX8_settle 2 (some .int), Cond.methodLink RX8 67 Lib.Math.abs.name, Cond.static Lib.Math.abs.name, Cond.initialized "java/lang/Math", Cond.code Lib.Math.abs.name Lib.Math.abs.code 1 (some .int), Cond.fieldLink RX8 15 "StillText$Trials" "lead" "I", Cond.fieldLink RX8 43 "StillText$Trials" "won" "I", Cond.fieldLink RX8 11 "StillText$Trials" "beaten" "[Z", Cond.methodLink RX8 57 yX8_longOn, Cond.instanceMethod yX8_longOn, Cond.selects RX8 yX8_longOn yX8_longOn, Cond.code yX8_longOn cX8_longOn 2 (some .int)]
def wsX10_answer_r2 : List Cond := [Cond.fieldLink RX8 26 "StillText$Trials" "bestLong" "I", Cond.fieldLink RX8 72 "StillText$Trials" "LONG_STEPS" "[I", Cond.methodLink RX8 61 yX8_spreadOn, Cond.instanceMethod yX8_spreadOn, Cond.selects RX8 yX8_spreadOn yX8_spreadOn, Cond.code yX8_spreadOn cX8_spreadOn 2 (some .int), Cond.fieldLink RX8 29 "StillText$Trials" "bestSpread" "I", Cond.fieldLink RX8 76 "StillText$Trials" "SPREAD_STEPS" "[I", Cond.methodLink RX8 49 yX8_makeBest, Cond.instanceMethod yX8_makeBest, Cond.selects RX8 yX8_makeBest yX8_makeBest, Cond.code yX8_makeBest cX8_makeBest 4 none, Cond.methodLink RX8 53 yX8_nextWay, Cond.instanceMethod yX8_nextWay, Cond.selects RX8 yX8_nextWay yX8_nextWay, Cond.code yX8_nextWay cX8_nextWay 2 (some .int), Cond.methodLink RX8 32 yX8_isOnGrid, Cond.static yX8_isOnGrid, Cond.code yX8_isOnGrid cX8_isOnGrid 2 (some .boolean), Cond.static yX10_within, Cond.initialized RX10, Cond.code yX10_within cX10_within 3 (some .boolean)]
def wsX10_answer : List Cond := .code yX10_answer cX10_answer 2 (some .int) :: ((wsX10_answer_r1 ++ wsX10_answer_r2) ++ wsX100 ++ wsX80)
def wsX10_use_r1 : List Cond := [Cond.fieldLink RX10 74 "StillText" "trials" "LStillText$Trials;", Cond.fieldLink RX10 33 "StillText" "measures" "LStillText$Measures;", Cond.methodLink RX10 233 yX8_haveBegun, Cond.instanceMethod yX8_haveBegun, Cond.selects RX8 yX8_haveBegun yX8_haveBegun, Cond.initialized RX8, Cond.code yX8_haveBegun cX8_haveBegun 1 (some .boolean), Cond.fieldLink RX8 22 "StillText$Trials" "begun" "Z", Cond.methodLink RX10 236 yX8_bestLongest, Cond.instanceMethod yX8_bestLongest, Cond.selects RX8 yX8_bestLongest yX8_bestLongest, Cond.code yX8_bestLongest cX8_bestLongest 1 (some .int), Cond.fieldLink RX8 26 "StillText$Trials" "bestLong" "I", Cond.methodLink RX10 239 yX8_bestSpread, Cond.instanceMethod yX8_bestSpread, Cond.selects RX8 yX8_bestSpread yX8_bestSpread, Cond.code yX8_bestSpread cX8_bestSpread 1 (some .int), Cond.fieldLink RX8 29 "StillText$Trials" "bestSpread" "I", Cond.methodLink RX10 144 yX1_changeLine, Cond.instanceMethod yX1_changeLine, Cond.selects RX1 yX1_changeLine yX1_changeLine, Cond.initialized RX1, Cond.code yX1_changeLine cX1_changeLine 3 (some .boolean), Cond.fieldLink RX1 9 "StillText$Measures" "longest" "I"]
def wsX10_use_r2 : List Cond := [Cond.fieldLink RX1 15 "StillText$Measures" "spread" "I", Cond.static yX10_within, Cond.initialized RX10, Cond.code yX10_within cX10_within 3 (some .boolean)]
def wsX10_use : List Cond := .code yX10_use cX10_use 1 (some .boolean) :: ((wsX10_use_r1 ++ wsX10_use_r2) ++ wsX100 ++ wsX80 ++ wsX10)
def wsX11_init_r1 : List Cond := [Cond.methodLink RX11 1 objectInit, Cond.instanceMethod objectInit, Cond.code objectInit ⟨#[0xb1]⟩ 1 none, Cond.arrayClass .int, Cond.fieldLink RX11 7 "StillTextModel" "size" "[I", Cond.fieldLink RX11 13 "StillTextModel" "letter" "[I", Cond.fieldLink RX11 16 "StillTextModel" "behind" "[I", Cond.fieldLink RX11 19 "StillTextModel" "wordOf" "[I", Cond.fieldLink RX11 22 "StillTextModel" "tape" "[I", Cond.fieldLink RX11 25 "StillTextModel" "faultPlace" "I", Cond.fieldLink RX11 29 "StillTextModel" "readSize" "[I", Cond.fieldLink RX11 32 "StillTextModel" "readLetter" "[I", Cond.fieldLink RX11 35 "StillTextModel" "readBehind" "[I", Cond.fieldLink RX11 38 "StillTextModel" "longest" "I", Cond.fieldLink RX11 41 "StillTextModel" "spread" "I", Cond.fieldLink RX11 44 "StillTextModel" "shortest" "I", Cond.fieldLink RX11 47 "StillTextModel" "phrase" "I", Cond.fieldLink RX11 50 "StillTextModel" "inner" "I", Cond.fieldLink RX11 53 "StillTextModel" "cut" "I", Cond.fieldLink RX11 56 "StillTextModel" "river" "I", Cond.fieldLink RX11 59 "StillTextModel" "likes" "[I", Cond.fieldLink RX11 62 "StillTextModel" "upper" "[I", Cond.fieldLink RX11 65 "StillTextModel" "lower" "[I", Cond.fieldLink RX11 68 "StillTextModel" "least" "[I"]
def wsX11_init_r2 : List Cond := [Cond.fieldLink RX11 71 "StillTextModel" "lineFrom" "[I", Cond.fieldLink RX11 74 "StillTextModel" "lineMany" "[I", Cond.fieldLink RX11 77 "StillTextModel" "lineSigns" "[I", Cond.fieldLink RX11 80 "StillTextModel" "signs" "[I", Cond.fieldLink RX11 83 "StillTextModel" "rows" "I", Cond.fieldLink RX11 86 "StillTextModel" "tints" "I", Cond.fieldLink RX11 89 "StillTextModel" "markUnit" "[I", Cond.fieldLink RX11 92 "StillTextModel" "markPage" "[I"]
def wsX11_init : List Cond := .code yX11_init cX11_init 1 none :: ((wsX11_init_r1 ++ wsX11_init_r2) ++ wsX110)
def wsX11_feed : List Cond := .code yX11_feed cX11_feed 8 (some .int) :: ([.fieldLink RX11 95 "StillTextModel" "taped" "I", .fieldLink RX11 22 "StillTextModel" "tape" "[I"] ++ wsX110)
def wsX11_end : List Cond := .code yX11_end cX11_end 2 (some .boolean) :: ([.fieldLink RX11 95 "StillTextModel" "taped" "I"] ++ wsX110)
def wsX11_isLetter : List Cond := .code yX11_isLetter cX11_isLetter 1 (some .boolean) :: ([])
def wsX11_isBlank : List Cond := .code yX11_isBlank cX11_isBlank 1 (some .boolean) :: ([])
def wsX11_isEnd : List Cond := .code yX11_isEnd cX11_isEnd 1 (some .boolean) :: ([])
def wsX11_fails : List Cond := .code yX11_fails cX11_fails 3 (some .boolean) :: ([.fieldLink RX11 98 "StillTextModel" "fault" "I", .fieldLink RX11 25 "StillTextModel" "faultPlace" "I"] ++ wsX110)
def wsX11_isText : List Cond := .code yX11_isText cX11_isText 5 (some .boolean) :: ([.fieldLink RX11 95 "StillTextModel" "taped" "I", .fieldLink RX11 101 "StillTextModel" "reads" "I", .fieldLink RX11 22 "StillTextModel" "tape" "[I", .fieldLink RX11 29 "StillTextModel" "readSize" "[I", .fieldLink RX11 35 "StillTextModel" "readBehind" "[I", .fieldLink RX11 32 "StillTextModel" "readLetter" "[I", .methodLink RX11 104 yX11_isLetter, .static yX11_isLetter, .initialized RX11, .code yX11_isLetter cX11_isLetter 1 (some .boolean), .methodLink RX11 108 yX11_fails, .instanceMethod yX11_fails, .selects RX11 yX11_fails yX11_fails, .code yX11_fails cX11_fails 3 (some .boolean), .fieldLink RX11 98 "StillTextModel" "fault" "I", .fieldLink RX11 25 "StillTextModel" "faultPlace" "I", .methodLink RX11 112 yX11_isEnd, .static yX11_isEnd, .code yX11_isEnd cX11_isEnd 1 (some .boolean), .methodLink RX11 115 yX11_isBlank, .static yX11_isBlank, .code yX11_isBlank cX11_isBlank 1 (some .boolean)] ++ wsX110)
def wsX11_takes : List Cond := .code yX11_takes cX11_takes 4 none :: ([.fieldLink RX11 7 "StillTextModel" "size" "[I", .fieldLink RX11 29 "StillTextModel" "readSize" "[I", .fieldLink RX11 16 "StillTextModel" "behind" "[I", .fieldLink RX11 35 "StillTextModel" "readBehind" "[I", .fieldLink RX11 13 "StillTextModel" "letter" "[I", .fieldLink RX11 32 "StillTextModel" "readLetter" "[I"] ++ wsX110)
def wsX11_words : List Cond := .code yX11_words cX11_words 3 none :: ([.fieldLink RX11 118 "StillTextModel" "units" "I", .fieldLink RX11 16 "StillTextModel" "behind" "[I", .fieldLink RX11 19 "StillTextModel" "wordOf" "[I"] ++ wsX110)
def wsX11_text_r1 : List Cond := [Cond.fieldLink RX11 101 "StillTextModel" "reads" "I", Cond.fieldLink RX11 118 "StillTextModel" "units" "I", Cond.fieldLink RX11 132 "StillTextModel" "isSet" "Z", Cond.fieldLink RX11 136 "StillTextModel" "isFresh" "Z", Cond.fieldLink RX11 139 "StillTextModel" "marks" "I", Cond.methodLink RX11 121 yX11_isText, Cond.instanceMethod yX11_isText, Cond.selects RX11 yX11_isText yX11_isText, Cond.initialized RX11, Cond.code yX11_isText cX11_isText 5 (some .boolean), Cond.fieldLink RX11 95 "StillTextModel" "taped" "I", Cond.fieldLink RX11 22 "StillTextModel" "tape" "[I", Cond.fieldLink RX11 29 "StillTextModel" "readSize" "[I", Cond.fieldLink RX11 35 "StillTextModel" "readBehind" "[I", Cond.fieldLink RX11 32 "StillTextModel" "readLetter" "[I", Cond.methodLink RX11 104 yX11_isLetter, Cond.static yX11_isLetter, Cond.code yX11_isLetter cX11_isLetter 1 (some .boolean), Cond.methodLink RX11 108 yX11_fails, Cond.instanceMethod yX11_fails, Cond.selects RX11 yX11_fails yX11_fails, Cond.code yX11_fails cX11_fails 3 (some .boolean), Cond.fieldLink RX11 98 "StillTextModel" "fault" "I", Cond.fieldLink RX11 25 "StillTextModel" "faultPlace" "I"]
def wsX11_text_r2 : List Cond := [Cond.methodLink RX11 112 yX11_isEnd, Cond.static yX11_isEnd, Cond.code yX11_isEnd cX11_isEnd 1 (some .boolean), Cond.methodLink RX11 115 yX11_isBlank, Cond.static yX11_isBlank, Cond.code yX11_isBlank cX11_isBlank 1 (some .boolean), Cond.methodLink RX11 125 yX11_takes, Cond.instanceMethod yX11_takes, Cond.selects RX11 yX11_takes yX11_takes, Cond.code yX11_takes cX11_takes 4 none, Cond.fieldLink RX11 7 "StillTextModel" "size" "[I", Cond.fieldLink RX11 16 "StillTextModel" "behind" "[I", Cond.fieldLink RX11 13 "StillTextModel" "letter" "[I", Cond.methodLink RX11 129 yX11_words, Cond.instanceMethod yX11_words, Cond.selects RX11 yX11_words yX11_words, Cond.code yX11_words cX11_words 3 none, Cond.fieldLink RX11 19 "StillTextModel" "wordOf" "[I"]
def wsX11_text : List Cond := .code yX11_text cX11_text 2 (some .int) :: ((wsX11_text_r1 ++ wsX11_text_r2) ++ wsX110)
def wsX11_fault : List Cond := .code yX11_fault cX11_fault 2 (some .int) :: ([.fieldLink RX11 98 "StillTextModel" "fault" "I", .fieldLink RX11 25 "StillTextModel" "faultPlace" "I"] ++ wsX110)
def wsX11_put_r1 : List Cond := [Cond.fieldLink RX11 118 "StillTextModel" "units" "I", Cond.fieldLink RX11 16 "StillTextModel" "behind" "[I", Cond.fieldLink RX11 95 "StillTextModel" "taped" "I", Cond.fieldLink RX11 101 "StillTextModel" "reads" "I", Cond.fieldLink RX11 7 "StillTextModel" "size" "[I", Cond.fieldLink RX11 13 "StillTextModel" "letter" "[I", Cond.fieldLink RX11 139 "StillTextModel" "marks" "I", Cond.fieldLink RX11 89 "StillTextModel" "markUnit" "[I", Cond.fieldLink RX11 136 "StillTextModel" "isFresh" "Z", Cond.methodLink RX11 121 yX11_isText, Cond.instanceMethod yX11_isText, Cond.selects RX11 yX11_isText yX11_isText, Cond.initialized RX11, Cond.code yX11_isText cX11_isText 5 (some .boolean), Cond.fieldLink RX11 22 "StillTextModel" "tape" "[I", Cond.fieldLink RX11 29 "StillTextModel" "readSize" "[I", Cond.fieldLink RX11 35 "StillTextModel" "readBehind" "[I", Cond.fieldLink RX11 32 "StillTextModel" "readLetter" "[I", Cond.methodLink RX11 104 yX11_isLetter, Cond.static yX11_isLetter, Cond.code yX11_isLetter cX11_isLetter 1 (some .boolean), Cond.methodLink RX11 108 yX11_fails, Cond.instanceMethod yX11_fails, Cond.selects RX11 yX11_fails yX11_fails]
def wsX11_put_r2 : List Cond := [Cond.code yX11_fails cX11_fails 3 (some .boolean), Cond.fieldLink RX11 98 "StillTextModel" "fault" "I", Cond.fieldLink RX11 25 "StillTextModel" "faultPlace" "I", Cond.methodLink RX11 112 yX11_isEnd, Cond.static yX11_isEnd, Cond.code yX11_isEnd cX11_isEnd 1 (some .boolean), Cond.methodLink RX11 115 yX11_isBlank, Cond.static yX11_isBlank, Cond.code yX11_isBlank cX11_isBlank 1 (some .boolean), Cond.methodLink RX11 125 yX11_takes, Cond.instanceMethod yX11_takes, Cond.selects RX11 yX11_takes yX11_takes, Cond.code yX11_takes cX11_takes 4 none, Cond.methodLink RX11 129 yX11_words, Cond.instanceMethod yX11_words, Cond.selects RX11 yX11_words yX11_words, Cond.code yX11_words cX11_words 3 none, Cond.fieldLink RX11 19 "StillTextModel" "wordOf" "[I"]
def wsX11_put : List Cond := .code yX11_put cX11_put 5 (some .int) :: ((wsX11_put_r1 ++ wsX11_put_r2) ++ wsX110)
def wsX11_unit : List Cond := .code yX11_unit cX11_unit 3 (some .int) :: ([.fieldLink RX11 118 "StillTextModel" "units" "I", .fieldLink RX11 7 "StillTextModel" "size" "[I", .fieldLink RX11 16 "StillTextModel" "behind" "[I", .fieldLink RX11 19 "StillTextModel" "wordOf" "[I"] ++ wsX110)
def wsX11_isIn : List Cond := .code yX11_isIn cX11_isIn 3 (some .boolean) :: ([])
def wsX11_measure : List Cond := .code yX11_measure cX11_measure 3 (some .boolean) :: ([.fieldLink RX11 38 "StillTextModel" "longest" "I", .fieldLink RX11 41 "StillTextModel" "spread" "I", .methodLink RX11 142 yX11_isIn, .static yX11_isIn, .initialized RX11, .code yX11_isIn cX11_isIn 3 (some .boolean)] ++ wsX110)
def wsX11_strains : List Cond := .code yX11_strains cX11_strains 6 (some .boolean) :: ([.fieldLink RX11 44 "StillTextModel" "shortest" "I", .fieldLink RX11 47 "StillTextModel" "phrase" "I", .fieldLink RX11 50 "StillTextModel" "inner" "I", .fieldLink RX11 53 "StillTextModel" "cut" "I", .fieldLink RX11 56 "StillTextModel" "river" "I", .methodLink RX11 142 yX11_isIn, .static yX11_isIn, .initialized RX11, .code yX11_isIn cX11_isIn 3 (some .boolean)] ++ wsX110)
def wsX11_like : List Cond := .code yX11_like cX11_like 5 (some .int) :: ([.fieldLink RX11 59 "StillTextModel" "likes" "[I", .methodLink RX11 104 yX11_isLetter, .static yX11_isLetter, .initialized RX11, .code yX11_isLetter cX11_isLetter 1 (some .boolean), .methodLink RX11 142 yX11_isIn, .static yX11_isIn, .code yX11_isIn cX11_isIn 3 (some .boolean)] ++ wsX110)
def wsX11_lays : List Cond := .code yX11_lays cX11_lays 7 (some .int) :: ([.fieldLink RX11 16 "StillTextModel" "behind" "[I", .fieldLink RX11 41 "StillTextModel" "spread" "I", .fieldLink RX11 7 "StillTextModel" "size" "[I", .fieldLink RX11 13 "StillTextModel" "letter" "[I", .fieldLink RX11 38 "StillTextModel" "longest" "I"] ++ wsX110)
def wsX11_lineStrain : List Cond := .code yX11_lineStrain cX11_lineStrain 6 (some .int) :: ([.fieldLink RX11 118 "StillTextModel" "units" "I", .fieldLink RX11 38 "StillTextModel" "longest" "I", .fieldLink RX11 16 "StillTextModel" "behind" "[I", .fieldLink RX11 44 "StillTextModel" "shortest" "I", .fieldLink RX11 47 "StillTextModel" "phrase" "I", .fieldLink RX11 53 "StillTextModel" "cut" "I", .fieldLink RX11 50 "StillTextModel" "inner" "I"] ++ wsX110)
def wsX11_pairStrain : List Cond := .code yX11_pairStrain cX11_pairStrain 5 (some .int) :: ([.fieldLink RX11 62 "StillTextModel" "upper" "[I", .fieldLink RX11 65 "StillTextModel" "lower" "[I", .fieldLink RX11 56 "StillTextModel" "river" "I", .fieldLink RX11 59 "StillTextModel" "likes" "[I", .methodLink RX11 104 yX11_isLetter, .static yX11_isLetter, .initialized RX11, .code yX11_isLetter cX11_isLetter 1 (some .boolean)] ++ wsX110)
def wsX11_place : List Cond := .code yX11_place cX11_place 3 (some .int) :: ([])
def wsX11_most : List Cond := .code yX11_most cX11_most 2 (some .int) :: ([.fieldLink RX11 118 "StillTextModel" "units" "I"] ++ wsX110)
def wsX11_costOf_r1 : List Cond := [Cond.fieldLink RX11 68 "StillTextModel" "least" "[I", Cond.constant RX11 150 (1000000000), Cond.fieldLink RX11 65 "StillTextModel" "lower" "[I", Cond.methodLink RX11 146 yX11_place, Cond.instanceMethod yX11_place, Cond.selects RX11 yX11_place yX11_place, Cond.initialized RX11, Cond.code yX11_place cX11_place 3 (some .int), Cond.methodLink RX11 151 yX11_lays, Cond.instanceMethod yX11_lays, Cond.selects RX11 yX11_lays yX11_lays, Cond.code yX11_lays cX11_lays 7 (some .int), Cond.fieldLink RX11 16 "StillTextModel" "behind" "[I", Cond.fieldLink RX11 41 "StillTextModel" "spread" "I", Cond.fieldLink RX11 7 "StillTextModel" "size" "[I", Cond.fieldLink RX11 13 "StillTextModel" "letter" "[I", Cond.fieldLink RX11 38 "StillTextModel" "longest" "I", Cond.methodLink RX11 155 yX11_pairStrain, Cond.instanceMethod yX11_pairStrain, Cond.selects RX11 yX11_pairStrain yX11_pairStrain, Cond.code yX11_pairStrain cX11_pairStrain 5 (some .int), Cond.fieldLink RX11 62 "StillTextModel" "upper" "[I", Cond.fieldLink RX11 56 "StillTextModel" "river" "I", Cond.fieldLink RX11 59 "StillTextModel" "likes" "[I"]
def wsX11_costOf_r2 : List Cond := [Cond.methodLink RX11 104 yX11_isLetter, Cond.static yX11_isLetter, Cond.code yX11_isLetter cX11_isLetter 1 (some .boolean)]
def wsX11_costOf : List Cond := .code yX11_costOf cX11_costOf 7 (some .int) :: ((wsX11_costOf_r1 ++ wsX11_costOf_r2) ++ wsX110)
def wsX11_weighs_r1 : List Cond := [Cond.fieldLink RX11 118 "StillTextModel" "units" "I", Cond.fieldLink RX11 62 "StillTextModel" "upper" "[I", Cond.constant RX11 150 (1000000000), Cond.fieldLink RX11 68 "StillTextModel" "least" "[I", Cond.methodLink RX11 158 yX11_most, Cond.instanceMethod yX11_most, Cond.selects RX11 yX11_most yX11_most, Cond.initialized RX11, Cond.code yX11_most cX11_most 2 (some .int), Cond.methodLink RX11 151 yX11_lays, Cond.instanceMethod yX11_lays, Cond.selects RX11 yX11_lays yX11_lays, Cond.code yX11_lays cX11_lays 7 (some .int), Cond.fieldLink RX11 16 "StillTextModel" "behind" "[I", Cond.fieldLink RX11 41 "StillTextModel" "spread" "I", Cond.fieldLink RX11 7 "StillTextModel" "size" "[I", Cond.fieldLink RX11 13 "StillTextModel" "letter" "[I", Cond.fieldLink RX11 38 "StillTextModel" "longest" "I", Cond.methodLink RX11 162 yX11_costOf, Cond.instanceMethod yX11_costOf, Cond.selects RX11 yX11_costOf yX11_costOf, Cond.code yX11_costOf cX11_costOf 7 (some .int), Cond.fieldLink RX11 65 "StillTextModel" "lower" "[I", Cond.methodLink RX11 146 yX11_place]
def wsX11_weighs_r2 : List Cond := [Cond.instanceMethod yX11_place, Cond.selects RX11 yX11_place yX11_place, Cond.code yX11_place cX11_place 3 (some .int), Cond.methodLink RX11 155 yX11_pairStrain, Cond.instanceMethod yX11_pairStrain, Cond.selects RX11 yX11_pairStrain yX11_pairStrain, Cond.code yX11_pairStrain cX11_pairStrain 5 (some .int), Cond.fieldLink RX11 56 "StillTextModel" "river" "I", Cond.fieldLink RX11 59 "StillTextModel" "likes" "[I", Cond.methodLink RX11 104 yX11_isLetter, Cond.static yX11_isLetter, Cond.code yX11_isLetter cX11_isLetter 1 (some .boolean), Cond.methodLink RX11 166 yX11_lineStrain, Cond.instanceMethod yX11_lineStrain, Cond.selects RX11 yX11_lineStrain yX11_lineStrain, Cond.code yX11_lineStrain cX11_lineStrain 6 (some .int), Cond.fieldLink RX11 44 "StillTextModel" "shortest" "I", Cond.fieldLink RX11 47 "StillTextModel" "phrase" "I", Cond.fieldLink RX11 53 "StillTextModel" "cut" "I", Cond.fieldLink RX11 50 "StillTextModel" "inner" "I"]
def wsX11_weighs : List Cond := .code yX11_weighs cX11_weighs 7 none :: ((wsX11_weighs_r1 ++ wsX11_weighs_r2) ++ wsX110)
def wsX11_keeps : List Cond := .code yX11_keeps cX11_keeps 5 none :: ([.fieldLink RX11 62 "StillTextModel" "upper" "[I", .fieldLink RX11 71 "StillTextModel" "lineFrom" "[I", .fieldLink RX11 170 "StillTextModel" "lines" "I", .fieldLink RX11 74 "StillTextModel" "lineMany" "[I", .fieldLink RX11 77 "StillTextModel" "lineSigns" "[I", .fieldLink RX11 80 "StillTextModel" "signs" "[I", .methodLink RX11 151 yX11_lays, .instanceMethod yX11_lays, .selects RX11 yX11_lays yX11_lays, .initialized RX11, .code yX11_lays cX11_lays 7 (some .int), .fieldLink RX11 16 "StillTextModel" "behind" "[I", .fieldLink RX11 41 "StillTextModel" "spread" "I", .fieldLink RX11 7 "StillTextModel" "size" "[I", .fieldLink RX11 13 "StillTextModel" "letter" "[I", .fieldLink RX11 38 "StillTextModel" "longest" "I"] ++ wsX110)
def wsX11_set_r1 : List Cond := [Cond.fieldLink RX11 118 "StillTextModel" "units" "I", Cond.constant RX11 150 (1000000000), Cond.fieldLink RX11 68 "StillTextModel" "least" "[I", Cond.fieldLink RX11 132 "StillTextModel" "isSet" "Z", Cond.fieldLink RX11 136 "StillTextModel" "isFresh" "Z", Cond.fieldLink RX11 170 "StillTextModel" "lines" "I", Cond.fieldLink RX11 62 "StillTextModel" "upper" "[I", Cond.methodLink RX11 173 yX11_weighs, Cond.instanceMethod yX11_weighs, Cond.selects RX11 yX11_weighs yX11_weighs, Cond.initialized RX11, Cond.code yX11_weighs cX11_weighs 7 none, Cond.methodLink RX11 158 yX11_most, Cond.instanceMethod yX11_most, Cond.selects RX11 yX11_most yX11_most, Cond.code yX11_most cX11_most 2 (some .int), Cond.methodLink RX11 151 yX11_lays, Cond.instanceMethod yX11_lays, Cond.selects RX11 yX11_lays yX11_lays, Cond.code yX11_lays cX11_lays 7 (some .int), Cond.fieldLink RX11 16 "StillTextModel" "behind" "[I", Cond.fieldLink RX11 41 "StillTextModel" "spread" "I", Cond.fieldLink RX11 7 "StillTextModel" "size" "[I", Cond.fieldLink RX11 13 "StillTextModel" "letter" "[I"]
def wsX11_set_r2 : List Cond := [Cond.fieldLink RX11 38 "StillTextModel" "longest" "I", Cond.methodLink RX11 162 yX11_costOf, Cond.instanceMethod yX11_costOf, Cond.selects RX11 yX11_costOf yX11_costOf, Cond.code yX11_costOf cX11_costOf 7 (some .int), Cond.fieldLink RX11 65 "StillTextModel" "lower" "[I", Cond.methodLink RX11 146 yX11_place, Cond.instanceMethod yX11_place, Cond.selects RX11 yX11_place yX11_place, Cond.code yX11_place cX11_place 3 (some .int), Cond.methodLink RX11 155 yX11_pairStrain, Cond.instanceMethod yX11_pairStrain, Cond.selects RX11 yX11_pairStrain yX11_pairStrain, Cond.code yX11_pairStrain cX11_pairStrain 5 (some .int), Cond.fieldLink RX11 56 "StillTextModel" "river" "I", Cond.fieldLink RX11 59 "StillTextModel" "likes" "[I", Cond.methodLink RX11 104 yX11_isLetter, Cond.static yX11_isLetter, Cond.code yX11_isLetter cX11_isLetter 1 (some .boolean), Cond.methodLink RX11 166 yX11_lineStrain, Cond.instanceMethod yX11_lineStrain, Cond.selects RX11 yX11_lineStrain yX11_lineStrain, Cond.code yX11_lineStrain cX11_lineStrain 6 (some .int), Cond.fieldLink RX11 44 "StillTextModel" "shortest" "I"]
def wsX11_set_r3 : List Cond := [Cond.fieldLink RX11 47 "StillTextModel" "phrase" "I", Cond.fieldLink RX11 53 "StillTextModel" "cut" "I", Cond.fieldLink RX11 50 "StillTextModel" "inner" "I", Cond.methodLink RX11 176 yX11_keeps, Cond.instanceMethod yX11_keeps, Cond.selects RX11 yX11_keeps yX11_keeps, Cond.code yX11_keeps cX11_keeps 5 none, Cond.fieldLink RX11 71 "StillTextModel" "lineFrom" "[I", Cond.fieldLink RX11 74 "StillTextModel" "lineMany" "[I", Cond.fieldLink RX11 77 "StillTextModel" "lineSigns" "[I", Cond.fieldLink RX11 80 "StillTextModel" "signs" "[I"]
def wsX11_set : List Cond := .code yX11_set cX11_set 8 (some .int) :: ((wsX11_set_r1 ++ (wsX11_set_r2 ++ wsX11_set_r3)) ++ wsX110)
def wsX11_lines : List Cond := .code yX11_lines cX11_lines 1 (some .int) :: ([.fieldLink RX11 132 "StillTextModel" "isSet" "Z", .fieldLink RX11 170 "StillTextModel" "lines" "I"] ++ wsX110)
def wsX11_page : List Cond := .code yX11_page cX11_page 3 (some .boolean) :: ([.fieldLink RX11 83 "StillTextModel" "rows" "I", .fieldLink RX11 86 "StillTextModel" "tints" "I", .methodLink RX11 142 yX11_isIn, .static yX11_isIn, .initialized RX11, .code yX11_isIn cX11_isIn 3 (some .boolean)] ++ wsX110)
def wsX11_line : List Cond := .code yX11_line cX11_line 3 (some .int) :: ([.fieldLink RX11 132 "StillTextModel" "isSet" "Z", .fieldLink RX11 170 "StillTextModel" "lines" "I", .fieldLink RX11 71 "StillTextModel" "lineFrom" "[I", .fieldLink RX11 74 "StillTextModel" "lineMany" "[I", .fieldLink RX11 77 "StillTextModel" "lineSigns" "[I", .fieldLink RX11 83 "StillTextModel" "rows" "I", .fieldLink RX11 86 "StillTextModel" "tints" "I"] ++ wsX110)
def wsX11_sign : List Cond := .code yX11_sign cX11_sign 3 (some .int) :: ([.fieldLink RX11 132 "StillTextModel" "isSet" "Z", .fieldLink RX11 170 "StillTextModel" "lines" "I", .fieldLink RX11 77 "StillTextModel" "lineSigns" "[I", .fieldLink RX11 80 "StillTextModel" "signs" "[I"] ++ wsX110)
def wsX11_rivers : List Cond := .code yX11_rivers cX11_rivers 7 (some .int) :: ([.fieldLink RX11 132 "StillTextModel" "isSet" "Z", .fieldLink RX11 170 "StillTextModel" "lines" "I", .fieldLink RX11 77 "StillTextModel" "lineSigns" "[I", .fieldLink RX11 80 "StillTextModel" "signs" "[I"] ++ wsX110)
def wsX11_pageOf : List Cond := .code yX11_pageOf cX11_pageOf 3 (some .int) :: ([.fieldLink RX11 71 "StillTextModel" "lineFrom" "[I", .fieldLink RX11 74 "StillTextModel" "lineMany" "[I", .fieldLink RX11 83 "StillTextModel" "rows" "I"] ++ wsX110)
def wsX11_mark : List Cond := .code yX11_mark cX11_mark 2 (some .int) :: ([.fieldLink RX11 136 "StillTextModel" "isFresh" "Z", .fieldLink RX11 118 "StillTextModel" "units" "I", .fieldLink RX11 139 "StillTextModel" "marks" "I", .fieldLink RX11 89 "StillTextModel" "markUnit" "[I", .fieldLink RX11 92 "StillTextModel" "markPage" "[I", .methodLink RX11 179 yX11_pageOf, .instanceMethod yX11_pageOf, .selects RX11 yX11_pageOf yX11_pageOf, .initialized RX11, .code yX11_pageOf cX11_pageOf 3 (some .int), .fieldLink RX11 71 "StillTextModel" "lineFrom" "[I", .fieldLink RX11 74 "StillTextModel" "lineMany" "[I", .fieldLink RX11 83 "StillTextModel" "rows" "I"] ++ wsX110)
def wsX11_marked : List Cond := .code yX11_marked cX11_marked 3 (some .int) :: ([.fieldLink RX11 139 "StillTextModel" "marks" "I", .fieldLink RX11 89 "StillTextModel" "markUnit" "[I", .fieldLink RX11 92 "StillTextModel" "markPage" "[I", .fieldLink RX11 136 "StillTextModel" "isFresh" "Z", .methodLink RX11 179 yX11_pageOf, .instanceMethod yX11_pageOf, .selects RX11 yX11_pageOf yX11_pageOf, .initialized RX11, .code yX11_pageOf cX11_pageOf 3 (some .int), .fieldLink RX11 71 "StillTextModel" "lineFrom" "[I", .fieldLink RX11 74 "StillTextModel" "lineMany" "[I", .fieldLink RX11 83 "StillTextModel" "rows" "I"] ++ wsX110)
def wsX11_neighbourLong : List Cond := .code yX11_neighbourLong cX11_neighbourLong 1 (some .int) :: ([.fieldLink RX11 182 "StillTextModel" "bestLong" "I", .fieldLink RX11 185 "StillTextModel" "now" "I"] ++ wsX110)
def wsX11_neighbourSpread : List Cond := .code yX11_neighbourSpread cX11_neighbourSpread 1 (some .int) :: ([.fieldLink RX11 188 "StillTextModel" "bestSpread" "I", .fieldLink RX11 185 "StillTextModel" "now" "I"] ++ wsX110)
def wsX11_finds : List Cond := .code yX11_finds cX11_finds 2 none :: ([.fieldLink RX11 185 "StillTextModel" "now" "I", .fieldLink RX11 198 "StillTextModel" "ahead" "I", .methodLink RX11 191 yX11_neighbourLong, .instanceMethod yX11_neighbourLong, .selects RX11 yX11_neighbourLong yX11_neighbourLong, .initialized RX11, .code yX11_neighbourLong cX11_neighbourLong 1 (some .int), .fieldLink RX11 182 "StillTextModel" "bestLong" "I", .methodLink RX11 142 yX11_isIn, .static yX11_isIn, .code yX11_isIn cX11_isIn 3 (some .boolean), .methodLink RX11 195 yX11_neighbourSpread, .instanceMethod yX11_neighbourSpread, .selects RX11 yX11_neighbourSpread yX11_neighbourSpread, .code yX11_neighbourSpread cX11_neighbourSpread 1 (some .int), .fieldLink RX11 188 "StillTextModel" "bestSpread" "I"] ++ wsX110)
def wsX11_test : List Cond := .code yX11_test cX11_test 4 (some .boolean) :: ([.fieldLink RX11 201 "StillTextModel" "hasTests" "Z", .fieldLink RX11 182 "StillTextModel" "bestLong" "I", .fieldLink RX11 188 "StillTextModel" "bestSpread" "I", .fieldLink RX11 204 "StillTextModel" "lead" "I", .fieldLink RX11 207 "StillTextModel" "answers" "I", .fieldLink RX11 210 "StillTextModel" "won" "I", .methodLink RX11 142 yX11_isIn, .static yX11_isIn, .initialized RX11, .code yX11_isIn cX11_isIn 3 (some .boolean), .methodLink RX11 213 yX11_finds, .instanceMethod yX11_finds, .selects RX11 yX11_finds yX11_finds, .code yX11_finds cX11_finds 2 none, .fieldLink RX11 185 "StillTextModel" "now" "I", .fieldLink RX11 198 "StillTextModel" "ahead" "I", .methodLink RX11 191 yX11_neighbourLong, .instanceMethod yX11_neighbourLong, .selects RX11 yX11_neighbourLong yX11_neighbourLong, .code yX11_neighbourLong cX11_neighbourLong 1 (some .int), .methodLink RX11 195 yX11_neighbourSpread, .instanceMethod yX11_neighbourSpread, .selects RX11 yX11_neighbourSpread yX11_neighbourSpread, .code yX11_neighbourSpread cX11_neighbourSpread 1 (some .int)] ++ wsX110)
def wsX11_isOver : List Cond := .code yX11_isOver cX11_isOver 1 (some .boolean) :: ([.fieldLink RX11 185 "StillTextModel" "now" "I", .fieldLink RX11 207 "StillTextModel" "answers" "I"] ++ wsX110)
def wsX11_tested : List Cond := .code yX11_tested cX11_tested 2 (some .int) :: ([.fieldLink RX11 201 "StillTextModel" "hasTests" "Z", .fieldLink RX11 182 "StillTextModel" "bestLong" "I", .fieldLink RX11 188 "StillTextModel" "bestSpread" "I", .fieldLink RX11 207 "StillTextModel" "answers" "I", .fieldLink RX11 210 "StillTextModel" "won" "I", .methodLink RX11 217 yX11_isOver, .instanceMethod yX11_isOver, .selects RX11 yX11_isOver yX11_isOver, .initialized RX11, .code yX11_isOver cX11_isOver 1 (some .boolean), .fieldLink RX11 185 "StillTextModel" "now" "I", .methodLink RX11 191 yX11_neighbourLong, .instanceMethod yX11_neighbourLong, .selects RX11 yX11_neighbourLong yX11_neighbourLong, .code yX11_neighbourLong cX11_neighbourLong 1 (some .int), .methodLink RX11 195 yX11_neighbourSpread, .instanceMethod yX11_neighbourSpread, .selects RX11 yX11_neighbourSpread yX11_neighbourSpread, .code yX11_neighbourSpread cX11_neighbourSpread 1 (some .int)] ++ wsX110)
def wsX11_answer_r1 : List Cond := [Cond.fieldLink RX11 201 "StillTextModel" "hasTests" "Z", Cond.fieldLink RX11 207 "StillTextModel" "answers" "I", Cond.fieldLink RX11 198 "StillTextModel" "ahead" "I", Cond.fieldLink RX11 204 "StillTextModel" "lead" "I", Cond.fieldLink RX11 210 "StillTextModel" "won" "I", Cond.fieldLink RX11 185 "StillTextModel" "now" "I", Cond.fieldLink RX11 182 "StillTextModel" "bestLong" "I", Cond.fieldLink RX11 188 "StillTextModel" "bestSpread" "I", Cond.methodLink RX11 217 yX11_isOver, Cond.instanceMethod yX11_isOver, Cond.selects RX11 yX11_isOver yX11_isOver, Cond.initialized RX11, Cond.code yX11_isOver cX11_isOver 1 (some .boolean), Cond.methodLink RX11 213 yX11_finds, Cond.instanceMethod yX11_finds, Cond.selects RX11 yX11_finds yX11_finds, Cond.code yX11_finds cX11_finds 2 none, Cond.methodLink RX11 191 yX11_neighbourLong, Cond.instanceMethod yX11_neighbourLong, Cond.selects RX11 yX11_neighbourLong yX11_neighbourLong, Cond.code yX11_neighbourLong cX11_neighbourLong 1 (some .int), Cond.methodLink RX11 142 yX11_isIn, Cond.static yX11_isIn, Cond.code yX11_isIn cX11_isIn 3 (some .boolean)]
def wsX11_answer_r2 : List Cond := [Cond.methodLink RX11 195 yX11_neighbourSpread, Cond.instanceMethod yX11_neighbourSpread, Cond.selects RX11 yX11_neighbourSpread yX11_neighbourSpread, Cond.code yX11_neighbourSpread cX11_neighbourSpread 1 (some .int)]
def wsX11_answer : List Cond := .code yX11_answer cX11_answer 5 (some .int) :: ((wsX11_answer_r1 ++ wsX11_answer_r2) ++ wsX110)
def wsX11_use : List Cond := .code yX11_use cX11_use 1 (some .boolean) :: ([.fieldLink RX11 201 "StillTextModel" "hasTests" "Z", .fieldLink RX11 182 "StillTextModel" "bestLong" "I", .fieldLink RX11 38 "StillTextModel" "longest" "I", .fieldLink RX11 188 "StillTextModel" "bestSpread" "I", .fieldLink RX11 41 "StillTextModel" "spread" "I"] ++ wsX110)
def wsJ9_abs_0f7a4 : List Cond := .code yJ9_abs_0f7a4 cJ9_abs_0f7a4 1 (some .int) :: ([])
def wsJ9_min_7cf53 : List Cond := .code yJ9_min_7cf53 cJ9_min_7cf53 2 (some .int) :: ([])
def wsL_law_r1 : List Cond := [Cond.classLink RL 7 RX10, Cond.instantiable RX10 9, Cond.initialized RX10, Cond.classLink RL 10 RX11, Cond.instantiable RX11 44, Cond.initialized RX11, Cond.methodLink RL 9 yX10_init, Cond.instanceMethod yX10_init, Cond.code yX10_init cX10_init 1 none, Cond.methodLink RX10 1 objectInit, Cond.instanceMethod objectInit, Cond.code objectInit ⟨#[0xb1]⟩ 1 none, Cond.classLink RX10 7 RX7, Cond.instantiable RX7 2, Cond.initialized RX7, Cond.fieldLink RX10 10 "StillText" "tape" "LStillText$Tape;", Cond.classLink RX10 16 RX3, Cond.instantiable RX3 3, Cond.initialized RX3, Cond.fieldLink RX10 19 "StillText" "reading" "LStillText$Reading;", Cond.classLink RX10 23 RX9, Cond.instantiable RX9 4, Cond.initialized RX9, Cond.fieldLink RX10 26 "StillText" "units" "LStillText$Units;"]
def wsL_law_r2 : List Cond := [Cond.classLink RX10 30 RX1, Cond.instantiable RX1 7, Cond.initialized RX1, Cond.fieldLink RX10 33 "StillText" "measures" "LStillText$Measures;", Cond.classLink RX10 37 RX5, Cond.instantiable RX5 6, Cond.initialized RX5, Cond.fieldLink RX10 40 "StillText" "setting" "LStillText$Setting;", Cond.classLink RX10 44 RX4, Cond.instantiable RX4 5, Cond.initialized RX4, Cond.fieldLink RX10 53 "StillText" "setter" "LStillText$Setter;", Cond.classLink RX10 57 RX2, Cond.instantiable RX2 2, Cond.initialized RX2, Cond.fieldLink RX10 60 "StillText" "pages" "LStillText$Pages;", Cond.classLink RX10 64 RX0, Cond.instantiable RX0 3, Cond.initialized RX0, Cond.fieldLink RX10 67 "StillText" "marks" "LStillText$Marks;", Cond.classLink RX10 71 RX8, Cond.instantiable RX8 9, Cond.initialized RX8, Cond.fieldLink RX10 74 "StillText" "trials" "LStillText$Trials;"]
def wsL_law_r3 : List Cond := [Cond.instanceMethod yX7_init, Cond.code yX7_init cX7_init 1 none, Cond.methodLink RX7 3 objectInit, Cond.arrayClass .int, Cond.fieldLink RX7 9 "StillText$Tape" "bytes" "[I", Cond.instanceMethod yX3_init, Cond.code yX3_init cX3_init 1 none, Cond.methodLink RX3 3 objectInit, Cond.classLink RX3 9 RX9, Cond.fieldLink RX3 12 "StillText$Reading" "units" "LStillText$Units;", Cond.fieldLink RX3 18 "StillText$Reading" "kind" "I", Cond.fieldLink RX3 22 "StillText$Reading" "place" "I", Cond.instanceMethod yX9_init, Cond.code yX9_init cX9_init 1 none, Cond.methodLink RX9 3 objectInit, Cond.fieldLink RX9 9 "StillText$Units" "letters" "[I", Cond.fieldLink RX9 15 "StillText$Units" "sizes" "[I", Cond.fieldLink RX9 18 "StillText$Units" "behind" "[I", Cond.methodLink RX10 32 yX1_init, Cond.instanceMethod yX1_init, Cond.code yX1_init cX1_init 1 none, Cond.methodLink RX1 3 objectInit, Cond.fieldLink RX1 9 "StillText$Measures" "longest" "I", Cond.fieldLink RX1 15 "StillText$Measures" "spread" "I"]
def wsL_law_r4 : List Cond := [Cond.fieldLink RX1 18 "StillText$Measures" "shortest" "I", Cond.fieldLink RX1 21 "StillText$Measures" "phrase" "I", Cond.fieldLink RX1 24 "StillText$Measures" "inner" "I", Cond.fieldLink RX1 27 "StillText$Measures" "cut" "I", Cond.fieldLink RX1 30 "StillText$Measures" "places" "[I", Cond.methodLink RX1 34 yX1_pair, Cond.static yX1_pair, Cond.code yX1_pair cX1_pair 2 (some .int), Cond.instanceMethod yX5_init, Cond.code yX5_init cX5_init 1 none, Cond.methodLink RX5 3 objectInit, Cond.classLink RX5 9 RX6, Cond.instantiable RX6 7, Cond.initialized RX6, Cond.fieldLink RX5 12 "StillText$Setting" "strip" "LStillText$Strip;", Cond.fieldLink RX5 18 "StillText$Setting" "firsts" "[I", Cond.fieldLink RX5 22 "StillText$Setting" "manys" "[I", Cond.instanceMethod yX6_init, Cond.code yX6_init cX6_init 1 none, Cond.methodLink RX6 3 objectInit, Cond.fieldLink RX6 11 "StillText$Strip" "signs" "[I", Cond.fieldLink RX6 15 "StillText$Strip" "kinds" "[I", Cond.fieldLink RX6 18 "StillText$Strip" "begins" "[I", Cond.fieldLink RX6 21 "StillText$Strip" "ends" "[I"]
def wsL_law_r5 : List Cond := [Cond.fieldLink RX6 24 "StillText$Strip" "behind" "[I", Cond.methodLink RX10 46 yX5_strip, Cond.instanceMethod yX5_strip, Cond.selects RX5 yX5_strip yX5_strip, Cond.code yX5_strip cX5_strip 1 (some (.object "StillText$Strip")), Cond.methodLink RX10 50 yX4_init, Cond.instanceMethod yX4_init, Cond.code yX4_init cX4_init 3 none, Cond.methodLink RX4 3 objectInit, Cond.fieldLink RX4 9 "StillText$Setter" "most" "[I", Cond.fieldLink RX4 15 "StillText$Setter" "least" "[I", Cond.fieldLink RX4 18 "StillText$Setter" "strip" "LStillText$Strip;", Cond.fieldLink RX4 22 "StillText$Setter" "measures" "LStillText$Measures;", Cond.instanceMethod yX2_init, Cond.code yX2_init cX2_init 1 none, Cond.methodLink RX2 1 objectInit, Cond.fieldLink RX2 7 "StillText$Pages" "rows" "I", Cond.fieldLink RX2 13 "StillText$Pages" "tints" "I", Cond.instanceMethod yX0_init, Cond.code yX0_init cX0_init 1 none, Cond.methodLink RX0 3 objectInit, Cond.fieldLink RX0 9 "StillText$Marks" "units" "[I", Cond.fieldLink RX0 15 "StillText$Marks" "kept" "[I", Cond.instanceMethod yX8_init]
def wsL_law_r6 : List Cond := [Cond.code yX8_init cX8_init 1 none, Cond.methodLink RX8 3 objectInit, Cond.arrayClass .boolean, Cond.fieldLink RX8 11 "StillText$Trials" "beaten" "[Z", Cond.fieldLink RX8 15 "StillText$Trials" "lead" "I", Cond.fieldLink RX8 19 "StillText$Trials" "way" "I", Cond.methodLink RL 12 yX11_init, Cond.instanceMethod yX11_init, Cond.code yX11_init cX11_init 1 none, Cond.methodLink RX11 1 objectInit, Cond.fieldLink RX11 7 "StillTextModel" "size" "[I", Cond.fieldLink RX11 13 "StillTextModel" "letter" "[I", Cond.fieldLink RX11 16 "StillTextModel" "behind" "[I", Cond.fieldLink RX11 19 "StillTextModel" "wordOf" "[I", Cond.fieldLink RX11 22 "StillTextModel" "tape" "[I", Cond.fieldLink RX11 25 "StillTextModel" "faultPlace" "I", Cond.fieldLink RX11 29 "StillTextModel" "readSize" "[I", Cond.fieldLink RX11 32 "StillTextModel" "readLetter" "[I", Cond.fieldLink RX11 35 "StillTextModel" "readBehind" "[I", Cond.fieldLink RX11 38 "StillTextModel" "longest" "I", Cond.fieldLink RX11 41 "StillTextModel" "spread" "I", Cond.fieldLink RX11 44 "StillTextModel" "shortest" "I", Cond.fieldLink RX11 47 "StillTextModel" "phrase" "I", Cond.fieldLink RX11 50 "StillTextModel" "inner" "I"]
def wsL_law_r7 : List Cond := [Cond.fieldLink RX11 53 "StillTextModel" "cut" "I", Cond.fieldLink RX11 56 "StillTextModel" "river" "I", Cond.fieldLink RX11 59 "StillTextModel" "likes" "[I", Cond.fieldLink RX11 62 "StillTextModel" "upper" "[I", Cond.fieldLink RX11 65 "StillTextModel" "lower" "[I", Cond.fieldLink RX11 68 "StillTextModel" "least" "[I", Cond.fieldLink RX11 71 "StillTextModel" "lineFrom" "[I", Cond.fieldLink RX11 74 "StillTextModel" "lineMany" "[I", Cond.fieldLink RX11 77 "StillTextModel" "lineSigns" "[I", Cond.fieldLink RX11 80 "StillTextModel" "signs" "[I", Cond.fieldLink RX11 83 "StillTextModel" "rows" "I", Cond.fieldLink RX11 86 "StillTextModel" "tints" "I", Cond.fieldLink RX11 89 "StillTextModel" "markUnit" "[I", Cond.fieldLink RX11 92 "StillTextModel" "markPage" "[I", Cond.methodLink RL 13 yX10_feed, Cond.instanceMethod yX10_feed, Cond.selects RX10 yX10_feed yX10_feed, Cond.code yX10_feed cX10_feed 6 (some .int), Cond.methodLink RX10 78 yX7_append, Cond.instanceMethod yX7_append, Cond.selects RX7 yX7_append yX7_append, Cond.code yX7_append cX7_append 6 (some .int), Cond.fieldLink RX7 15 "StillText$Tape" "length" "I", Cond.methodLink RX7 23 yX7_appendNumber]
def wsL_law_r8 : List Cond := [Cond.instanceMethod yX7_appendNumber, Cond.selects RX7 yX7_appendNumber yX7_appendNumber, Cond.code yX7_appendNumber cX7_appendNumber 3 none, Cond.methodLink RL 17 yX11_feed, Cond.instanceMethod yX11_feed, Cond.selects RX11 yX11_feed yX11_feed, Cond.code yX11_feed cX11_feed 8 (some .int), Cond.fieldLink RX11 95 "StillTextModel" "taped" "I", Cond.methodLink RL 18 yX10_end, Cond.instanceMethod yX10_end, Cond.selects RX10 yX10_end yX10_end, Cond.code yX10_end cX10_end 2 (some .boolean), Cond.methodLink RX10 82 yX7_keepFirst, Cond.instanceMethod yX7_keepFirst, Cond.selects RX7 yX7_keepFirst yX7_keepFirst, Cond.code yX7_keepFirst cX7_keepFirst 2 (some .boolean), Cond.static yX10_within, Cond.code yX10_within cX10_within 3 (some .boolean), Cond.methodLink RL 22 yX11_end, Cond.instanceMethod yX11_end, Cond.selects RX11 yX11_end yX11_end, Cond.code yX11_end cX11_end 2 (some .boolean), Cond.methodLink RL 23 yX10_text, Cond.instanceMethod yX10_text]
def wsL_law_r9 : List Cond := [Cond.selects RX10 yX10_text yX10_text, Cond.code yX10_text cX10_text 1 (some .int), Cond.methodLink RX10 86 yX10_readTape, Cond.instanceMethod yX10_readTape, Cond.selects RX10 yX10_readTape yX10_readTape, Cond.code yX10_readTape cX10_readTape 1 none, Cond.methodLink RX10 242 yX3_read, Cond.instanceMethod yX3_read, Cond.selects RX3 yX3_read yX3_read, Cond.code yX3_read cX3_read 4 none, Cond.methodLink RX3 25 yX9_clear, Cond.instanceMethod yX9_clear, Cond.selects RX9 yX9_clear yX9_clear, Cond.code yX9_clear cX9_clear 1 none, Cond.fieldLink RX9 21 "StillText$Units" "count" "I", Cond.methodLink RX3 28 yX7_length, Cond.instanceMethod yX7_length, Cond.selects RX7 yX7_length yX7_length, Cond.code yX7_length cX7_length 1 (some .int), Cond.methodLink RX3 34 yX7_byteAt, Cond.instanceMethod yX7_byteAt, Cond.selects RX7 yX7_byteAt yX7_byteAt, Cond.code yX7_byteAt cX7_byteAt 2 (some .int), Cond.methodLink RX3 38 yX3_stateBehind]
def wsL_law_r10 : List Cond := [Cond.instanceMethod yX3_stateBehind, Cond.selects RX3 yX3_stateBehind yX3_stateBehind, Cond.code yX3_stateBehind cX3_stateBehind 6 (some .int), Cond.static yX10_isLetter, Cond.code yX10_isLetter cX10_isLetter 1 (some .boolean), Cond.methodLink RX3 50 yX3_stateBehindLetter, Cond.instanceMethod yX3_stateBehindLetter, Cond.selects RX3 yX3_stateBehindLetter yX3_stateBehindLetter, Cond.code yX3_stateBehindLetter cX3_stateBehindLetter 4 (some .int), Cond.methodLink RX3 42 yX3_refuse, Cond.instanceMethod yX3_refuse, Cond.selects RX3 yX3_refuse yX3_refuse, Cond.code yX3_refuse cX3_refuse 3 none, Cond.methodLink RX3 57 yX9_open, Cond.instanceMethod yX9_open, Cond.selects RX9 yX9_open yX9_open, Cond.code yX9_open cX9_open 1 (some .boolean), Cond.methodLink RX3 61 yX9_addLetter, Cond.instanceMethod yX9_addLetter, Cond.selects RX9 yX9_addLetter yX9_addLetter, Cond.code yX9_addLetter cX9_addLetter 3 (some .boolean), Cond.methodLink RX3 53 yX9_close, Cond.instanceMethod yX9_close, Cond.selects RX9 yX9_close yX9_close]
def wsL_law_r11 : List Cond := [Cond.code yX9_close cX9_close 2 none, Cond.methodLink RX10 117 yX7_clear, Cond.instanceMethod yX7_clear, Cond.selects RX7 yX7_clear yX7_clear, Cond.code yX7_clear cX7_clear 1 none, Cond.methodLink RX10 89 yX3_hasFault, Cond.instanceMethod yX3_hasFault, Cond.selects RX3 yX3_hasFault yX3_hasFault, Cond.code yX3_hasFault cX3_hasFault 1 (some .boolean), Cond.methodLink RX10 93 yX3_units, Cond.instanceMethod yX3_units, Cond.selects RX3 yX3_units yX3_units, Cond.code yX3_units cX3_units 1 (some (.object "StillText$Units")), Cond.methodLink RX10 96 yX9_takeAll, Cond.instanceMethod yX9_takeAll, Cond.selects RX9 yX9_takeAll yX9_takeAll, Cond.code yX9_takeAll cX9_takeAll 3 none, Cond.methodLink RX9 38 yX9_copyUnit, Cond.instanceMethod yX9_copyUnit, Cond.selects RX9 yX9_copyUnit yX9_copyUnit, Cond.code yX9_copyUnit cX9_copyUnit 4 none, Cond.methodLink RX9 42 arraycopyName, Cond.native arraycopyName, Cond.static arraycopyName]
def wsL_law_r12 : List Cond := [Cond.initialized "java/lang/System", Cond.methodLink RX10 100 yX5_drop, Cond.instanceMethod yX5_drop, Cond.selects RX5 yX5_drop yX5_drop, Cond.code yX5_drop cX5_drop 1 none, Cond.fieldLink RX5 25 "StillText$Setting" "there" "Z", Cond.methodLink RX10 103 yX0_drop, Cond.instanceMethod yX0_drop, Cond.selects RX0 yX0_drop yX0_drop, Cond.code yX0_drop cX0_drop 1 none, Cond.fieldLink RX0 18 "StillText$Marks" "count" "I", Cond.methodLink RX10 104 yX9_count, Cond.instanceMethod yX9_count, Cond.selects RX9 yX9_count yX9_count, Cond.code yX9_count cX9_count 1 (some .int), Cond.methodLink RL 27 yX11_text, Cond.instanceMethod yX11_text, Cond.selects RX11 yX11_text yX11_text, Cond.code yX11_text cX11_text 2 (some .int), Cond.fieldLink RX11 101 "StillTextModel" "reads" "I", Cond.fieldLink RX11 118 "StillTextModel" "units" "I", Cond.fieldLink RX11 132 "StillTextModel" "isSet" "Z", Cond.fieldLink RX11 136 "StillTextModel" "isFresh" "Z", Cond.fieldLink RX11 139 "StillTextModel" "marks" "I"]
def wsL_law_r13 : List Cond := [Cond.methodLink RX11 121 yX11_isText, Cond.instanceMethod yX11_isText, Cond.selects RX11 yX11_isText yX11_isText, Cond.code yX11_isText cX11_isText 5 (some .boolean), Cond.methodLink RX11 104 yX11_isLetter, Cond.static yX11_isLetter, Cond.code yX11_isLetter cX11_isLetter 1 (some .boolean), Cond.methodLink RX11 108 yX11_fails, Cond.instanceMethod yX11_fails, Cond.selects RX11 yX11_fails yX11_fails, Cond.code yX11_fails cX11_fails 3 (some .boolean), Cond.fieldLink RX11 98 "StillTextModel" "fault" "I", Cond.methodLink RX11 112 yX11_isEnd, Cond.static yX11_isEnd, Cond.code yX11_isEnd cX11_isEnd 1 (some .boolean), Cond.methodLink RX11 115 yX11_isBlank, Cond.static yX11_isBlank, Cond.code yX11_isBlank cX11_isBlank 1 (some .boolean), Cond.methodLink RX11 125 yX11_takes, Cond.instanceMethod yX11_takes, Cond.selects RX11 yX11_takes yX11_takes, Cond.code yX11_takes cX11_takes 4 none, Cond.methodLink RX11 129 yX11_words, Cond.instanceMethod yX11_words]
def wsL_law_r14 : List Cond := [Cond.selects RX11 yX11_words yX11_words, Cond.code yX11_words cX11_words 3 none, Cond.methodLink RL 28 yX10_fault, Cond.instanceMethod yX10_fault, Cond.selects RX10 yX10_fault yX10_fault, Cond.code yX10_fault cX10_fault 2 (some .int), Cond.methodLink RX10 108 yX3_kind, Cond.instanceMethod yX3_kind, Cond.selects RX3 yX3_kind yX3_kind, Cond.code yX3_kind cX3_kind 1 (some .int), Cond.methodLink RX10 111 yX3_place, Cond.instanceMethod yX3_place, Cond.selects RX3 yX3_place yX3_place, Cond.code yX3_place cX3_place 1 (some .int), Cond.methodLink RL 32 yX11_fault, Cond.instanceMethod yX11_fault, Cond.selects RX11 yX11_fault yX11_fault, Cond.code yX11_fault cX11_fault 2 (some .int), Cond.methodLink RL 33 yX10_put, Cond.instanceMethod yX10_put, Cond.selects RX10 yX10_put yX10_put, Cond.code yX10_put cX10_put 3 (some .int), Cond.methodLink RX10 114 yX9_isWholeWord, Cond.instanceMethod yX9_isWholeWord]
def wsL_law_r15 : List Cond := [Cond.selects RX9 yX9_isWholeWord yX9_isWholeWord, Cond.code yX9_isWholeWord cX9_isWholeWord 2 (some .boolean), Cond.methodLink RX9 25 yX9_has, Cond.instanceMethod yX9_has, Cond.selects RX9 yX9_has yX9_has, Cond.code yX9_has cX9_has 2 (some .boolean), Cond.methodLink RX9 32 yX9_goesOn, Cond.instanceMethod yX9_goesOn, Cond.selects RX9 yX9_goesOn yX9_goesOn, Cond.code yX9_goesOn cX9_goesOn 2 (some .boolean), Cond.methodLink RX9 29 yX9_behind, Cond.instanceMethod yX9_behind, Cond.selects RX9 yX9_behind yX9_behind, Cond.code yX9_behind cX9_behind 2 (some .int), Cond.methodLink RX10 120 yX9_replace, Cond.instanceMethod yX9_replace, Cond.selects RX9 yX9_replace yX9_replace, Cond.code yX9_replace cX9_replace 5 none, Cond.methodLink RX10 124 yX0_moveBehind, Cond.instanceMethod yX0_moveBehind, Cond.selects RX0 yX0_moveBehind yX0_moveBehind, Cond.code yX0_moveBehind cX0_moveBehind 4 none, Cond.methodLink RX10 128 yX5_outdate, Cond.instanceMethod yX5_outdate]
def wsL_law_r16 : List Cond := [Cond.selects RX5 yX5_outdate yX5_outdate, Cond.code yX5_outdate cX5_outdate 1 none, Cond.fieldLink RX5 29 "StillText$Setting" "ofText" "Z", Cond.methodLink RL 36 yX11_put, Cond.instanceMethod yX11_put, Cond.selects RX11 yX11_put yX11_put, Cond.code yX11_put cX11_put 5 (some .int), Cond.methodLink RL 37 yX10_unit, Cond.instanceMethod yX10_unit, Cond.selects RX10 yX10_unit yX10_unit, Cond.code yX10_unit cX10_unit 3 (some .int), Cond.methodLink RX10 131 yX9_has, Cond.methodLink RX10 134 yX9_letters, Cond.instanceMethod yX9_letters, Cond.selects RX9 yX9_letters yX9_letters, Cond.code yX9_letters cX9_letters 2 (some .int), Cond.methodLink RX10 138 yX9_behind, Cond.methodLink RX10 141 yX9_wordNumber, Cond.instanceMethod yX9_wordNumber, Cond.selects RX9 yX9_wordNumber yX9_wordNumber, Cond.code yX9_wordNumber cX9_wordNumber 4 (some .int), Cond.methodLink RL 41 yX11_unit, Cond.instanceMethod yX11_unit, Cond.selects RX11 yX11_unit yX11_unit]
def wsL_law_r17 : List Cond := [Cond.code yX11_unit cX11_unit 3 (some .int), Cond.methodLink RL 42 yX10_measure, Cond.instanceMethod yX10_measure, Cond.selects RX10 yX10_measure yX10_measure, Cond.code yX10_measure cX10_measure 3 (some .boolean), Cond.methodLink RX10 144 yX1_changeLine, Cond.instanceMethod yX1_changeLine, Cond.selects RX1 yX1_changeLine yX1_changeLine, Cond.code yX1_changeLine cX1_changeLine 3 (some .boolean), Cond.methodLink RL 46 yX11_measure, Cond.instanceMethod yX11_measure, Cond.selects RX11 yX11_measure yX11_measure, Cond.code yX11_measure cX11_measure 3 (some .boolean), Cond.methodLink RX11 142 yX11_isIn, Cond.static yX11_isIn, Cond.code yX11_isIn cX11_isIn 3 (some .boolean), Cond.methodLink RL 47 yX10_strains, Cond.instanceMethod yX10_strains, Cond.selects RX10 yX10_strains yX10_strains, Cond.code yX10_strains cX10_strains 6 (some .boolean), Cond.methodLink RX10 148 yX1_changeStrains, Cond.instanceMethod yX1_changeStrains, Cond.selects RX1 yX1_changeStrains yX1_changeStrains, Cond.code yX1_changeStrains cX1_changeStrains 7 (some .boolean)]
def wsL_law_r18 : List Cond := [Cond.methodLink RL 51 yX11_strains, Cond.instanceMethod yX11_strains, Cond.selects RX11 yX11_strains yX11_strains, Cond.code yX11_strains cX11_strains 6 (some .boolean), Cond.methodLink RL 52 yX10_like, Cond.instanceMethod yX10_like, Cond.selects RX10 yX10_like yX10_like, Cond.code yX10_like cX10_like 4 (some .int), Cond.methodLink RX10 152 yX1_changeLikeness, Cond.instanceMethod yX1_changeLikeness, Cond.selects RX1 yX1_changeLikeness yX1_changeLikeness, Cond.code yX1_changeLikeness cX1_changeLikeness 5 (some .int), Cond.methodLink RX1 46 yX1_kindOf, Cond.static yX1_kindOf, Cond.code yX1_kindOf cX1_kindOf 1 (some .int), Cond.methodLink RL 56 yX11_like, Cond.instanceMethod yX11_like, Cond.selects RX11 yX11_like yX11_like, Cond.code yX11_like cX11_like 5 (some .int), Cond.methodLink RL 57 yX10_set, Cond.instanceMethod yX10_set, Cond.selects RX10 yX10_set yX10_set, Cond.code yX10_set cX10_set 1 (some .int), Cond.methodLink RX10 156 yX1_longest]
def wsL_law_r19 : List Cond := [Cond.instanceMethod yX1_longest, Cond.selects RX1 yX1_longest yX1_longest, Cond.code yX1_longest cX1_longest 1 (some .int), Cond.methodLink RX10 159 yX9_fitAlone, Cond.instanceMethod yX9_fitAlone, Cond.selects RX9 yX9_fitAlone yX9_fitAlone, Cond.code yX9_fitAlone cX9_fitAlone 3 (some .boolean), Cond.methodLink RX9 35 yX9_signs, Cond.instanceMethod yX9_signs, Cond.selects RX9 yX9_signs yX9_signs, Cond.code yX9_signs cX9_signs 3 (some .int), Cond.methodLink RX10 162 yX1_spread, Cond.instanceMethod yX1_spread, Cond.selects RX1 yX1_spread yX1_spread, Cond.code yX1_spread cX1_spread 1 (some .int), Cond.methodLink RX10 165 yX5_begin, Cond.instanceMethod yX5_begin, Cond.selects RX5 yX5_begin yX5_begin, Cond.code yX5_begin cX5_begin 3 none, Cond.fieldLink RX5 32 "StillText$Setting" "count" "I", Cond.methodLink RX5 36 yX6_lay, Cond.instanceMethod yX6_lay, Cond.selects RX6 yX6_lay yX6_lay, Cond.code yX6_lay cX6_lay 4 none]
def wsL_law_r20 : List Cond := [Cond.fieldLink RX6 27 "StillText$Strip" "units" "I", Cond.fieldLink RX6 31 "StillText$Strip" "length" "I", Cond.methodLink RX6 34 yX9_count, Cond.methodLink RX6 40 yX9_goesOn, Cond.methodLink RX6 44 yX6_addBlanks, Cond.instanceMethod yX6_addBlanks, Cond.selects RX6 yX6_addBlanks yX6_addBlanks, Cond.code yX6_addBlanks cX6_addBlanks 3 none, Cond.methodLink RX6 52 yX6_addSign, Cond.instanceMethod yX6_addSign, Cond.selects RX6 yX6_addSign yX6_addSign, Cond.code yX6_addSign cX6_addSign 2 none, Cond.methodLink RX6 64 yX1_kindOf, Cond.methodLink RX6 48 yX6_addUnit, Cond.instanceMethod yX6_addUnit, Cond.selects RX6 yX6_addUnit yX6_addUnit, Cond.code yX6_addUnit cX6_addUnit 5 none, Cond.methodLink RX6 55 yX9_signs, Cond.methodLink RX6 58 yX9_signAt, Cond.instanceMethod yX9_signAt, Cond.selects RX9 yX9_signAt yX9_signAt, Cond.code yX9_signAt cX9_signAt 3 (some .int), Cond.methodLink RX6 62 yX9_behind, Cond.methodLink RX10 169 yX4_weighLines]
def wsL_law_r21 : List Cond := [Cond.instanceMethod yX4_weighLines, Cond.selects RX4 yX4_weighLines yX4_weighLines, Cond.code yX4_weighLines cX4_weighLines 3 none, Cond.methodLink RX4 26 yX6_units, Cond.instanceMethod yX6_units, Cond.selects RX6 yX6_units yX6_units, Cond.code yX6_units cX6_units 1 (some .int), Cond.methodLink RX4 32 yX4_fits, Cond.instanceMethod yX4_fits, Cond.selects RX4 yX4_fits yX4_fits, Cond.code yX4_fits cX4_fits 3 (some .boolean), Cond.methodLink RX4 60 yX6_signsOf, Cond.instanceMethod yX6_signsOf, Cond.selects RX6 yX6_signsOf yX6_signsOf, Cond.code yX6_signsOf cX6_signsOf 3 (some .int), Cond.methodLink RX6 73 yX6_body, Cond.instanceMethod yX6_body, Cond.selects RX6 yX6_body yX6_body, Cond.code yX6_body cX6_body 3 (some .int), Cond.methodLink RX6 69 yX6_holds, Cond.instanceMethod yX6_holds, Cond.selects RX6 yX6_holds yX6_holds, Cond.code yX6_holds cX6_holds 3 (some .boolean), Cond.methodLink RX6 76 yX6_behindLine]
def wsL_law_r22 : List Cond := [Cond.instanceMethod yX6_behindLine, Cond.selects RX6 yX6_behindLine yX6_behindLine, Cond.code yX6_behindLine cX6_behindLine 3 (some .int), Cond.methodLink RX4 63 yX1_longest, Cond.methodLink RX4 36 yX4_place, Cond.static yX4_place, Cond.code yX4_place cX4_place 2 (some .int), Cond.methodLink RX4 40 yX4_weigh, Cond.instanceMethod yX4_weigh, Cond.selects RX4 yX4_weigh yX4_weigh, Cond.code yX4_weigh cX4_weigh 4 (some .int), Cond.methodLink RX4 68 yX6_behindLine, Cond.methodLink RX4 71 yX1_strainOfLine, Cond.instanceMethod yX1_strainOfLine, Cond.selects RX1 yX1_strainOfLine yX1_strainOfLine, Cond.code yX1_strainOfLine cX1_strainOfLine 4 (some .int), Cond.methodLink RX1 50 yX1_strainOfEnd, Cond.instanceMethod yX1_strainOfEnd, Cond.selects RX1 yX1_strainOfEnd yX1_strainOfEnd, Cond.code yX1_strainOfEnd cX1_strainOfEnd 2 (some .int), Cond.methodLink RX4 57 yX6_body, Cond.methodLink RX4 43 yX4_leastBelow, Cond.instanceMethod yX4_leastBelow, Cond.selects RX4 yX4_leastBelow yX4_leastBelow]
def wsL_law_r23 : List Cond := [Cond.code yX4_leastBelow cX4_leastBelow 12 (some .int), Cond.fieldLink RX4 47 "StillText$Setter" "chosen" "I", Cond.methodLink RX4 78 Lib.Math.min.name, Cond.static Lib.Math.min.name, Cond.initialized "java/lang/Math", Cond.code Lib.Math.min.name Lib.Math.min.code 2 (some .int), Cond.methodLink RX4 74 yX6_beginOf, Cond.instanceMethod yX6_beginOf, Cond.selects RX6 yX6_beginOf yX6_beginOf, Cond.code yX6_beginOf cX6_beginOf 2 (some .int), Cond.methodLink RX4 83 yX6_strainOfPlaces, Cond.instanceMethod yX6_strainOfPlaces, Cond.selects RX6 yX6_strainOfPlaces yX6_strainOfPlaces, Cond.code yX6_strainOfPlaces cX6_strainOfPlaces 8 (some .int), Cond.methodLink RX6 82 yX1_strainOfPlace, Cond.instanceMethod yX1_strainOfPlace, Cond.selects RX1 yX1_strainOfPlace yX1_strainOfPlace, Cond.code yX1_strainOfPlace cX1_strainOfPlace 3 (some .int), Cond.methodLink RX10 172 yX4_putLines, Cond.instanceMethod yX4_putLines, Cond.selects RX4 yX4_putLines yX4_putLines, Cond.code yX4_putLines cX4_putLines 6 (some .int), Cond.methodLink RX4 51 yX5_addLine, Cond.instanceMethod yX5_addLine]
def wsL_law_r24 : List Cond := [Cond.selects RX5 yX5_addLine yX5_addLine, Cond.code yX5_addLine cX5_addLine 3 none, Cond.methodLink RL 60 yX11_set, Cond.instanceMethod yX11_set, Cond.selects RX11 yX11_set yX11_set, Cond.code yX11_set cX11_set 8 (some .int), Cond.constant RX11 150 (1000000000), Cond.fieldLink RX11 170 "StillTextModel" "lines" "I", Cond.methodLink RX11 173 yX11_weighs, Cond.instanceMethod yX11_weighs, Cond.selects RX11 yX11_weighs yX11_weighs, Cond.code yX11_weighs cX11_weighs 7 none, Cond.methodLink RX11 158 yX11_most, Cond.instanceMethod yX11_most, Cond.selects RX11 yX11_most yX11_most, Cond.code yX11_most cX11_most 2 (some .int), Cond.methodLink RX11 151 yX11_lays, Cond.instanceMethod yX11_lays, Cond.selects RX11 yX11_lays yX11_lays, Cond.code yX11_lays cX11_lays 7 (some .int), Cond.methodLink RX11 162 yX11_costOf, Cond.instanceMethod yX11_costOf, Cond.selects RX11 yX11_costOf yX11_costOf, Cond.code yX11_costOf cX11_costOf 7 (some .int)]
def wsL_law_r25 : List Cond := [Cond.methodLink RX11 146 yX11_place, Cond.instanceMethod yX11_place, Cond.selects RX11 yX11_place yX11_place, Cond.code yX11_place cX11_place 3 (some .int), Cond.methodLink RX11 155 yX11_pairStrain, Cond.instanceMethod yX11_pairStrain, Cond.selects RX11 yX11_pairStrain yX11_pairStrain, Cond.code yX11_pairStrain cX11_pairStrain 5 (some .int), Cond.methodLink RX11 166 yX11_lineStrain, Cond.instanceMethod yX11_lineStrain, Cond.selects RX11 yX11_lineStrain yX11_lineStrain, Cond.code yX11_lineStrain cX11_lineStrain 6 (some .int), Cond.methodLink RX11 176 yX11_keeps, Cond.instanceMethod yX11_keeps, Cond.selects RX11 yX11_keeps yX11_keeps, Cond.code yX11_keeps cX11_keeps 5 none, Cond.methodLink RL 61 yX10_lines, Cond.instanceMethod yX10_lines, Cond.selects RX10 yX10_lines yX10_lines, Cond.code yX10_lines cX10_lines 1 (some .int), Cond.methodLink RX10 176 yX5_isThere, Cond.instanceMethod yX5_isThere, Cond.selects RX5 yX5_isThere yX5_isThere, Cond.code yX5_isThere cX5_isThere 1 (some .boolean)]
def wsL_law_r26 : List Cond := [Cond.methodLink RX10 179 yX5_count, Cond.instanceMethod yX5_count, Cond.selects RX5 yX5_count yX5_count, Cond.code yX5_count cX5_count 1 (some .int), Cond.methodLink RL 64 yX11_lines, Cond.instanceMethod yX11_lines, Cond.selects RX11 yX11_lines yX11_lines, Cond.code yX11_lines cX11_lines 1 (some .int), Cond.methodLink RL 65 yX10_line, Cond.instanceMethod yX10_line, Cond.selects RX10 yX10_line yX10_line, Cond.code yX10_line cX10_line 3 (some .int), Cond.methodLink RX10 180 yX5_has, Cond.instanceMethod yX5_has, Cond.selects RX5 yX5_has yX5_has, Cond.code yX5_has cX5_has 2 (some .boolean), Cond.methodLink RX10 181 yX5_first, Cond.instanceMethod yX5_first, Cond.selects RX5 yX5_first yX5_first, Cond.code yX5_first cX5_first 2 (some .int), Cond.methodLink RX5 40 yX5_has, Cond.methodLink RX10 184 yX5_unitsIn, Cond.instanceMethod yX5_unitsIn, Cond.selects RX5 yX5_unitsIn yX5_unitsIn]
def wsL_law_r27 : List Cond := [Cond.code yX5_unitsIn cX5_unitsIn 2 (some .int), Cond.methodLink RX10 187 yX5_signsIn, Cond.instanceMethod yX5_signsIn, Cond.selects RX5 yX5_signsIn yX5_signsIn, Cond.code yX5_signsIn cX5_signsIn 2 (some .int), Cond.methodLink RX5 44 yX6_signsOf, Cond.methodLink RX10 190 yX2_tintOf, Cond.instanceMethod yX2_tintOf, Cond.selects RX2 yX2_tintOf yX2_tintOf, Cond.code yX2_tintOf cX2_tintOf 2 (some .int), Cond.methodLink RX10 193 yX2_pageOf, Cond.instanceMethod yX2_pageOf, Cond.selects RX2 yX2_pageOf yX2_pageOf, Cond.code yX2_pageOf cX2_pageOf 2 (some .int), Cond.methodLink RL 68 yX11_line, Cond.instanceMethod yX11_line, Cond.selects RX11 yX11_line yX11_line, Cond.code yX11_line cX11_line 3 (some .int), Cond.methodLink RL 69 yX10_sign, Cond.instanceMethod yX10_sign, Cond.selects RX10 yX10_sign yX10_sign, Cond.code yX10_sign cX10_sign 3 (some .int), Cond.methodLink RX10 196 yX5_signAt, Cond.instanceMethod yX5_signAt]
def wsL_law_r28 : List Cond := [Cond.selects RX5 yX5_signAt yX5_signAt, Cond.code yX5_signAt cX5_signAt 3 (some .int), Cond.methodLink RX5 48 yX6_signAt, Cond.instanceMethod yX6_signAt, Cond.selects RX6 yX6_signAt yX6_signAt, Cond.code yX6_signAt cX6_signAt 4 (some .int), Cond.methodLink RX6 79 yX6_signsOf, Cond.methodLink RL 72 yX11_sign, Cond.instanceMethod yX11_sign, Cond.selects RX11 yX11_sign yX11_sign, Cond.code yX11_sign cX11_sign 3 (some .int), Cond.methodLink RL 73 yX10_rivers, Cond.instanceMethod yX10_rivers, Cond.selects RX10 yX10_rivers yX10_rivers, Cond.code yX10_rivers cX10_rivers 4 (some .int), Cond.methodLink RX10 200 yX5_riversAt, Cond.instanceMethod yX5_riversAt, Cond.selects RX5 yX5_riversAt yX5_riversAt, Cond.code yX5_riversAt cX5_riversAt 6 (some .int), Cond.methodLink RX5 52 yX5_signAt, Cond.methodLink RL 76 yX11_rivers, Cond.instanceMethod yX11_rivers, Cond.selects RX11 yX11_rivers yX11_rivers, Cond.code yX11_rivers cX11_rivers 7 (some .int)]
def wsL_law_r29 : List Cond := [Cond.methodLink RL 77 yX10_page, Cond.instanceMethod yX10_page, Cond.selects RX10 yX10_page yX10_page, Cond.code yX10_page cX10_page 3 (some .boolean), Cond.methodLink RX10 203 yX2_change, Cond.instanceMethod yX2_change, Cond.selects RX2 yX2_change yX2_change, Cond.code yX2_change cX2_change 3 (some .boolean), Cond.methodLink RL 80 yX11_page, Cond.instanceMethod yX11_page, Cond.selects RX11 yX11_page yX11_page, Cond.code yX11_page cX11_page 3 (some .boolean), Cond.methodLink RL 81 yX10_mark, Cond.instanceMethod yX10_mark, Cond.selects RX10 yX10_mark yX10_mark, Cond.code yX10_mark cX10_mark 2 (some .int), Cond.methodLink RX10 206 yX5_isOfText, Cond.instanceMethod yX5_isOfText, Cond.selects RX5 yX5_isOfText yX5_isOfText, Cond.code yX5_isOfText cX5_isOfText 1 (some .boolean), Cond.methodLink RX10 209 yX5_lineOf, Cond.instanceMethod yX5_lineOf, Cond.selects RX5 yX5_lineOf yX5_lineOf, Cond.code yX5_lineOf cX5_lineOf 3 (some .int)]
def wsL_law_r30 : List Cond := [Cond.methodLink RX10 212 yX0_add, Cond.instanceMethod yX0_add, Cond.selects RX0 yX0_add yX0_add, Cond.code yX0_add cX0_add 3 (some .int), Cond.methodLink RL 84 yX11_mark, Cond.instanceMethod yX11_mark, Cond.selects RX11 yX11_mark yX11_mark, Cond.code yX11_mark cX11_mark 2 (some .int), Cond.methodLink RX11 179 yX11_pageOf, Cond.instanceMethod yX11_pageOf, Cond.selects RX11 yX11_pageOf yX11_pageOf, Cond.code yX11_pageOf cX11_pageOf 3 (some .int), Cond.methodLink RL 85 yX10_marked, Cond.instanceMethod yX10_marked, Cond.selects RX10 yX10_marked yX10_marked, Cond.code yX10_marked cX10_marked 3 (some .int), Cond.methodLink RX10 215 yX0_has, Cond.instanceMethod yX0_has, Cond.selects RX0 yX0_has yX0_has, Cond.code yX0_has cX0_has 2 (some .boolean), Cond.methodLink RX10 216 yX0_unitOf, Cond.instanceMethod yX0_unitOf, Cond.selects RX0 yX0_unitOf yX0_unitOf, Cond.code yX0_unitOf cX0_unitOf 2 (some .int)]
def wsL_law_r31 : List Cond := [Cond.methodLink RX0 22 yX0_has, Cond.methodLink RX10 219 yX0_pageOf, Cond.instanceMethod yX0_pageOf, Cond.selects RX0 yX0_pageOf yX0_pageOf, Cond.code yX0_pageOf cX0_pageOf 2 (some .int), Cond.methodLink RX10 220 yX10_shiftOf, Cond.instanceMethod yX10_shiftOf, Cond.selects RX10 yX10_shiftOf yX10_shiftOf, Cond.code yX10_shiftOf cX10_shiftOf 2 (some .int), Cond.methodLink RL 88 yX11_marked, Cond.instanceMethod yX11_marked, Cond.selects RX11 yX11_marked yX11_marked, Cond.code yX11_marked cX11_marked 3 (some .int), Cond.methodLink RL 89 yX10_test, Cond.instanceMethod yX10_test, Cond.selects RX10 yX10_test yX10_test, Cond.code yX10_test cX10_test 4 (some .boolean), Cond.methodLink RX10 223 yX8_begin, Cond.instanceMethod yX8_begin, Cond.selects RX8 yX8_begin yX8_begin, Cond.code yX8_begin cX8_begin 4 (some .boolean), Cond.fieldLink RX8 22 "StillText$Trials" "begun" "Z", Cond.fieldLink RX8 40 "StillText$Trials" "answers" "I", Cond.fieldLink RX8 43 "StillText$Trials" "won" "I"]
def wsL_law_r32 : List Cond := [Cond.fieldLink RX8 46 "StillText$Trials" "ahead" "I", Cond.methodLink RX8 32 yX8_isOnGrid, Cond.static yX8_isOnGrid, Cond.code yX8_isOnGrid cX8_isOnGrid 2 (some .boolean), Cond.methodLink RX8 49 yX8_makeBest, Cond.instanceMethod yX8_makeBest, Cond.selects RX8 yX8_makeBest yX8_makeBest, Cond.code yX8_makeBest cX8_makeBest 4 none, Cond.fieldLink RX8 26 "StillText$Trials" "bestLong" "I", Cond.fieldLink RX8 29 "StillText$Trials" "bestSpread" "I", Cond.methodLink RX8 53 yX8_nextWay, Cond.instanceMethod yX8_nextWay, Cond.selects RX8 yX8_nextWay yX8_nextWay, Cond.code yX8_nextWay cX8_nextWay 2 (some .int), Cond.methodLink RX8 57 yX8_longOn, Cond.instanceMethod yX8_longOn, Cond.selects RX8 yX8_longOn yX8_longOn, Cond.code yX8_longOn cX8_longOn 2 (some .int), Cond.fieldLink RX8 72 "StillText$Trials" "LONG_STEPS" "[I", Cond.methodLink RX8 61 yX8_spreadOn, Cond.instanceMethod yX8_spreadOn, Cond.selects RX8 yX8_spreadOn yX8_spreadOn, Cond.code yX8_spreadOn cX8_spreadOn 2 (some .int), Cond.fieldLink RX8 76 "StillText$Trials" "SPREAD_STEPS" "[I"]
def wsL_law_r33 : List Cond := [Cond.methodLink RL 93 yX11_test, Cond.instanceMethod yX11_test, Cond.selects RX11 yX11_test yX11_test, Cond.code yX11_test cX11_test 4 (some .boolean), Cond.fieldLink RX11 201 "StillTextModel" "hasTests" "Z", Cond.fieldLink RX11 182 "StillTextModel" "bestLong" "I", Cond.fieldLink RX11 188 "StillTextModel" "bestSpread" "I", Cond.fieldLink RX11 204 "StillTextModel" "lead" "I", Cond.fieldLink RX11 207 "StillTextModel" "answers" "I", Cond.fieldLink RX11 210 "StillTextModel" "won" "I", Cond.methodLink RX11 213 yX11_finds, Cond.instanceMethod yX11_finds, Cond.selects RX11 yX11_finds yX11_finds, Cond.code yX11_finds cX11_finds 2 none, Cond.fieldLink RX11 185 "StillTextModel" "now" "I", Cond.fieldLink RX11 198 "StillTextModel" "ahead" "I", Cond.methodLink RX11 191 yX11_neighbourLong, Cond.instanceMethod yX11_neighbourLong, Cond.selects RX11 yX11_neighbourLong yX11_neighbourLong, Cond.code yX11_neighbourLong cX11_neighbourLong 1 (some .int), Cond.methodLink RX11 195 yX11_neighbourSpread, Cond.instanceMethod yX11_neighbourSpread, Cond.selects RX11 yX11_neighbourSpread yX11_neighbourSpread, Cond.code yX11_neighbourSpread cX11_neighbourSpread 1 (some .int)]
def wsL_law_r34 : List Cond := [Cond.methodLink RL 94 yX10_tested, Cond.instanceMethod yX10_tested, Cond.selects RX10 yX10_tested yX10_tested, Cond.code yX10_tested cX10_tested 2 (some .int), Cond.methodLink RX10 226 yX8_tell, Cond.instanceMethod yX8_tell, Cond.selects RX8 yX8_tell yX8_tell, Cond.code yX8_tell cX8_tell 2 (some .int), Cond.methodLink RL 97 yX11_tested, Cond.instanceMethod yX11_tested, Cond.selects RX11 yX11_tested yX11_tested, Cond.code yX11_tested cX11_tested 2 (some .int), Cond.methodLink RX11 217 yX11_isOver, Cond.instanceMethod yX11_isOver, Cond.selects RX11 yX11_isOver yX11_isOver, Cond.code yX11_isOver cX11_isOver 1 (some .boolean), Cond.methodLink RL 98 yX10_answer, Cond.instanceMethod yX10_answer, Cond.selects RX10 yX10_answer yX10_answer, Cond.code yX10_answer cX10_answer 2 (some .int), Cond.methodLink RX10 229 yX8_hear, Cond.instanceMethod yX8_hear, Cond.selects RX8 yX8_hear yX8_hear, Cond.code yX8_hear cX8_hear 3 (some .int)]
def wsL_law_r35 : List Cond := [Cond.methodLink RX8 64 yX8_settle, Cond.instanceMethod yX8_settle, Cond.selects RX8 yX8_settle yX8_settle, Cond.code yX8_settle cX8_settle 2 (some .int), Cond.methodLink RX8 67 Lib.Math.abs.name, Cond.static Lib.Math.abs.name, Cond.code Lib.Math.abs.name Lib.Math.abs.code 1 (some .int), Cond.methodLink RL 102 yX11_answer, Cond.instanceMethod yX11_answer, Cond.selects RX11 yX11_answer yX11_answer, Cond.code yX11_answer cX11_answer 5 (some .int), Cond.methodLink RL 103 yX10_use, Cond.instanceMethod yX10_use, Cond.selects RX10 yX10_use yX10_use, Cond.code yX10_use cX10_use 1 (some .boolean), Cond.methodLink RX10 233 yX8_haveBegun, Cond.instanceMethod yX8_haveBegun, Cond.selects RX8 yX8_haveBegun yX8_haveBegun, Cond.code yX8_haveBegun cX8_haveBegun 1 (some .boolean), Cond.methodLink RX10 236 yX8_bestLongest, Cond.instanceMethod yX8_bestLongest, Cond.selects RX8 yX8_bestLongest yX8_bestLongest, Cond.code yX8_bestLongest cX8_bestLongest 1 (some .int), Cond.methodLink RX10 239 yX8_bestSpread]
def wsL_law_r36 : List Cond := [Cond.instanceMethod yX8_bestSpread, Cond.selects RX8 yX8_bestSpread yX8_bestSpread, Cond.code yX8_bestSpread cX8_bestSpread 1 (some .int), Cond.methodLink RL 107 yX11_use, Cond.instanceMethod yX11_use, Cond.selects RX11 yX11_use yX11_use, Cond.code yX11_use cX11_use 1 (some .boolean)]
def wsL_law : List Cond := (wsL_law_r1 ++ (wsL_law_r2 ++ (wsL_law_r3 ++ (wsL_law_r4 ++ (wsL_law_r5 ++ (wsL_law_r6 ++ (wsL_law_r7 ++ (wsL_law_r8 ++ (wsL_law_r9 ++ (wsL_law_r10 ++ (wsL_law_r11 ++ (wsL_law_r12 ++ (wsL_law_r13 ++ (wsL_law_r14 ++ (wsL_law_r15 ++ (wsL_law_r16 ++ (wsL_law_r17 ++ (wsL_law_r18 ++ (wsL_law_r19 ++ (wsL_law_r20 ++ (wsL_law_r21 ++ (wsL_law_r22 ++ (wsL_law_r23 ++ (wsL_law_r24 ++ (wsL_law_r25 ++ (wsL_law_r26 ++ (wsL_law_r27 ++ (wsL_law_r28 ++ (wsL_law_r29 ++ (wsL_law_r30 ++ (wsL_law_r31 ++ (wsL_law_r32 ++ (wsL_law_r33 ++ (wsL_law_r34 ++ (wsL_law_r35 ++ wsL_law_r36))))))))))))))))))))))))))))))))))) ++ wsX100 ++ wsX110 ++ wsX70 ++ wsX30 ++ wsX90 ++ wsX10 ++ wsX50 ++ wsX40 ++ wsX20 ++ wsX00 ++ wsX80 ++ wsX60 ++ ([] : List Cond)
abbrev vwCl : List vw_C := [(RX0, TX0, 3), (RX1, TX1, 7), (RX2, TX2, 2), (RX3, TX3, 3), (RX4, TX4, 5), (RX5, TX5, 6), (RX6, TX6, 7), (RX7, TX7, 2), (RX8, TX8, 9), (RX9, TX9, 4), (RX10, TX10, 9), (RX11, TX11, 44)]
end
section
theorem dX0_init_0 : decode cX0_init 0 = .ok (.aload_n 0, 1) := by decide +kernel
theorem dX0_init_1 : decode cX0_init 1 = .ok (.invokespecial 3, 3) := by decide +kernel
theorem dX0_init_4 : decode cX0_init 4 = .ok (.aload_n 0, 1) := by decide +kernel
theorem dX0_init_5 : decode cX0_init 5 = .ok (.bipush 20, 2) := by decide +kernel
theorem dX0_init_7 : decode cX0_init 7 = .ok (.newarray .int, 2) := by decide +kernel
theorem dX0_init_9 : decode cX0_init 9 = .ok (.putfield 9, 3) := by decide +kernel
theorem dX0_init_12 : decode cX0_init 12 = .ok (.aload_n 0, 1) := by decide +kernel
theorem dX0_init_13 : decode cX0_init 13 = .ok (.bipush 20, 2) := by decide +kernel
theorem dX0_init_15 : decode cX0_init 15 = .ok (.newarray .int, 2) := by decide +kernel
theorem dX0_init_17 : decode cX0_init 17 = .ok (.putfield 15, 3) := by decide +kernel
theorem dX0_init_20 : decode cX0_init 20 = .ok (.return_, 1) := by decide +kernel
theorem dX0_has_0 : decode cX0_has 0 = .ok (.iload_n 1, 1) := by decide +kernel
theorem dX0_has_1 : decode cX0_has 1 = .ok (.ifCond .lt 15, 3) := by decide +kernel
theorem dX0_has_4 : decode cX0_has 4 = .ok (.iload_n 1, 1) := by decide +kernel
theorem dX0_has_5 : decode cX0_has 5 = .ok (.aload_n 0, 1) := by decide +kernel
theorem dX0_has_6 : decode cX0_has 6 = .ok (.getfield 18, 3) := by decide +kernel
theorem dX0_has_9 : decode cX0_has 9 = .ok (.if_icmp .ge 7, 3) := by decide +kernel
theorem dX0_has_12 : decode cX0_has 12 = .ok (.iconst 1, 1) := by decide +kernel
theorem dX0_has_13 : decode cX0_has 13 = .ok (.goto 4, 3) := by decide +kernel
theorem dX0_has_16 : decode cX0_has 16 = .ok (.iconst 0, 1) := by decide +kernel
theorem dX0_has_17 : decode cX0_has 17 = .ok (.ireturn, 1) := by decide +kernel
theorem dX0_add_0 : decode cX0_add 0 = .ok (.aload_n 0, 1) := by decide +kernel
theorem dX0_add_1 : decode cX0_add 1 = .ok (.getfield 18, 3) := by decide +kernel
theorem dX0_add_4 : decode cX0_add 4 = .ok (.bipush 20, 2) := by decide +kernel
theorem dX0_add_6 : decode cX0_add 6 = .ok (.if_icmp .lt 5, 3) := by decide +kernel
theorem dX0_add_9 : decode cX0_add 9 = .ok (.iconst (-1), 1) := by decide +kernel
theorem dX0_add_10 : decode cX0_add 10 = .ok (.ireturn, 1) := by decide +kernel
theorem dX0_add_11 : decode cX0_add 11 = .ok (.aload_n 0, 1) := by decide +kernel
theorem dX0_add_12 : decode cX0_add 12 = .ok (.getfield 9, 3) := by decide +kernel
theorem dX0_add_15 : decode cX0_add 15 = .ok (.aload_n 0, 1) := by decide +kernel
theorem dX0_add_16 : decode cX0_add 16 = .ok (.getfield 18, 3) := by decide +kernel
theorem dX0_add_19 : decode cX0_add 19 = .ok (.iload_n 1, 1) := by decide +kernel
theorem dX0_add_20 : decode cX0_add 20 = .ok (.iastore, 1) := by decide +kernel
theorem dX0_add_21 : decode cX0_add 21 = .ok (.aload_n 0, 1) := by decide +kernel
theorem dX0_add_22 : decode cX0_add 22 = .ok (.getfield 15, 3) := by decide +kernel
theorem dX0_add_25 : decode cX0_add 25 = .ok (.aload_n 0, 1) := by decide +kernel
theorem dX0_add_26 : decode cX0_add 26 = .ok (.getfield 18, 3) := by decide +kernel
theorem dX0_add_29 : decode cX0_add 29 = .ok (.iload_n 2, 1) := by decide +kernel
theorem dX0_add_30 : decode cX0_add 30 = .ok (.iastore, 1) := by decide +kernel
theorem dX0_add_31 : decode cX0_add 31 = .ok (.aload_n 0, 1) := by decide +kernel
theorem dX0_add_32 : decode cX0_add 32 = .ok (.dup, 1) := by decide +kernel
theorem dX0_add_33 : decode cX0_add 33 = .ok (.getfield 18, 3) := by decide +kernel
theorem dX0_add_36 : decode cX0_add 36 = .ok (.iconst 1, 1) := by decide +kernel
theorem dX0_add_37 : decode cX0_add 37 = .ok (.iadd, 1) := by decide +kernel
theorem dX0_add_38 : decode cX0_add 38 = .ok (.putfield 18, 3) := by decide +kernel
theorem dX0_add_41 : decode cX0_add 41 = .ok (.aload_n 0, 1) := by decide +kernel
theorem dX0_add_42 : decode cX0_add 42 = .ok (.getfield 18, 3) := by decide +kernel
theorem dX0_add_45 : decode cX0_add 45 = .ok (.iconst 1, 1) := by decide +kernel
theorem dX0_add_46 : decode cX0_add 46 = .ok (.isub, 1) := by decide +kernel
theorem dX0_add_47 : decode cX0_add 47 = .ok (.ireturn, 1) := by decide +kernel
set_option maxRecDepth 20000 in
theorem ggX0_unitOf_X0_has : GoodIn wsX0_unitOf wsX0_has := goodIn_r _ [6, 7, 8, 9, 10] (by decide +kernel) (by decide +kernel)
set_option maxRecDepth 20000 in
theorem gX0_unitOf_X0_has : GoodIn wsX0_unitOf (wsV RX0 22 RX0 yX0_has wsX0_has) := goodIn_app (goodIn_of _ (by decide +kernel)) ggX0_unitOf_X0_has
theorem dX0_unitOf_0 : decode cX0_unitOf 0 = .ok (.aload_n 0, 1) := by decide +kernel
theorem dX0_unitOf_1 : decode cX0_unitOf 1 = .ok (.iload_n 1, 1) := by decide +kernel
theorem dX0_unitOf_2 : decode cX0_unitOf 2 = .ok (.invokevirtual 22, 3) := by decide +kernel
theorem dX0_unitOf_5 : decode cX0_unitOf 5 = .ok (.ifCond .eq 12, 3) := by decide +kernel
theorem dX0_unitOf_8 : decode cX0_unitOf 8 = .ok (.aload_n 0, 1) := by decide +kernel
theorem dX0_unitOf_9 : decode cX0_unitOf 9 = .ok (.getfield 9, 3) := by decide +kernel
theorem dX0_unitOf_12 : decode cX0_unitOf 12 = .ok (.iload_n 1, 1) := by decide +kernel
theorem dX0_unitOf_13 : decode cX0_unitOf 13 = .ok (.iaload, 1) := by decide +kernel
theorem dX0_unitOf_14 : decode cX0_unitOf 14 = .ok (.goto 4, 3) := by decide +kernel
theorem dX0_unitOf_17 : decode cX0_unitOf 17 = .ok (.iconst (-1), 1) := by decide +kernel
theorem dX0_unitOf_18 : decode cX0_unitOf 18 = .ok (.ireturn, 1) := by decide +kernel
set_option maxRecDepth 20000 in
theorem ggX0_pageOf_X0_has : GoodIn wsX0_pageOf wsX0_has := goodIn_r _ [6, 7, 8, 9, 10] (by decide +kernel) (by decide +kernel)
set_option maxRecDepth 20000 in
theorem gX0_pageOf_X0_has : GoodIn wsX0_pageOf (wsV RX0 22 RX0 yX0_has wsX0_has) := goodIn_app (goodIn_of _ (by decide +kernel)) ggX0_pageOf_X0_has
theorem dX0_pageOf_0 : decode cX0_pageOf 0 = .ok (.aload_n 0, 1) := by decide +kernel
theorem dX0_pageOf_1 : decode cX0_pageOf 1 = .ok (.iload_n 1, 1) := by decide +kernel
theorem dX0_pageOf_2 : decode cX0_pageOf 2 = .ok (.invokevirtual 22, 3) := by decide +kernel
theorem dX0_pageOf_5 : decode cX0_pageOf 5 = .ok (.ifCond .eq 12, 3) := by decide +kernel
theorem dX0_pageOf_8 : decode cX0_pageOf 8 = .ok (.aload_n 0, 1) := by decide +kernel
theorem dX0_pageOf_9 : decode cX0_pageOf 9 = .ok (.getfield 15, 3) := by decide +kernel
theorem dX0_pageOf_12 : decode cX0_pageOf 12 = .ok (.iload_n 1, 1) := by decide +kernel
theorem dX0_pageOf_13 : decode cX0_pageOf 13 = .ok (.iaload, 1) := by decide +kernel
theorem dX0_pageOf_14 : decode cX0_pageOf 14 = .ok (.goto 4, 3) := by decide +kernel
theorem dX0_pageOf_17 : decode cX0_pageOf 17 = .ok (.iconst (-1), 1) := by decide +kernel
theorem dX0_pageOf_18 : decode cX0_pageOf 18 = .ok (.ireturn, 1) := by decide +kernel
theorem dX0_moveBehind_0 : decode cX0_moveBehind 0 = .ok (.iconst 0, 1) := by decide +kernel
theorem dX0_moveBehind_1 : decode cX0_moveBehind 1 = .ok (.istore_n 3, 1) := by decide +kernel
theorem dX0_moveBehind_2 : decode cX0_moveBehind 2 = .ok (.iload_n 3, 1) := by decide +kernel
theorem dX0_moveBehind_3 : decode cX0_moveBehind 3 = .ok (.aload_n 0, 1) := by decide +kernel
theorem dX0_moveBehind_4 : decode cX0_moveBehind 4 = .ok (.getfield 18, 3) := by decide +kernel
theorem dX0_moveBehind_7 : decode cX0_moveBehind 7 = .ok (.if_icmp .ge 29, 3) := by decide +kernel
theorem dX0_moveBehind_10 : decode cX0_moveBehind 10 = .ok (.aload_n 0, 1) := by decide +kernel
theorem dX0_moveBehind_11 : decode cX0_moveBehind 11 = .ok (.getfield 9, 3) := by decide +kernel
theorem dX0_moveBehind_14 : decode cX0_moveBehind 14 = .ok (.iload_n 3, 1) := by decide +kernel
theorem dX0_moveBehind_15 : decode cX0_moveBehind 15 = .ok (.iaload, 1) := by decide +kernel
theorem dX0_moveBehind_16 : decode cX0_moveBehind 16 = .ok (.iload_n 1, 1) := by decide +kernel
theorem dX0_moveBehind_17 : decode cX0_moveBehind 17 = .ok (.if_icmp .le 13, 3) := by decide +kernel
theorem dX0_moveBehind_20 : decode cX0_moveBehind 20 = .ok (.aload_n 0, 1) := by decide +kernel
theorem dX0_moveBehind_21 : decode cX0_moveBehind 21 = .ok (.getfield 9, 3) := by decide +kernel
theorem dX0_moveBehind_24 : decode cX0_moveBehind 24 = .ok (.iload_n 3, 1) := by decide +kernel
theorem dX0_moveBehind_25 : decode cX0_moveBehind 25 = .ok (.dup2, 1) := by decide +kernel
theorem dX0_moveBehind_26 : decode cX0_moveBehind 26 = .ok (.iaload, 1) := by decide +kernel
theorem dX0_moveBehind_27 : decode cX0_moveBehind 27 = .ok (.iload_n 2, 1) := by decide +kernel
theorem dX0_moveBehind_28 : decode cX0_moveBehind 28 = .ok (.iadd, 1) := by decide +kernel
theorem dX0_moveBehind_29 : decode cX0_moveBehind 29 = .ok (.iastore, 1) := by decide +kernel
theorem dX0_moveBehind_30 : decode cX0_moveBehind 30 = .ok (.iinc 3 1, 3) := by decide +kernel
theorem dX0_moveBehind_33 : decode cX0_moveBehind 33 = .ok (.goto (-31), 3) := by decide +kernel
theorem dX0_moveBehind_36 : decode cX0_moveBehind 36 = .ok (.return_, 1) := by decide +kernel
theorem dX0_drop_0 : decode cX0_drop 0 = .ok (.aload_n 0, 1) := by decide +kernel
theorem dX0_drop_1 : decode cX0_drop 1 = .ok (.iconst 0, 1) := by decide +kernel
theorem dX0_drop_2 : decode cX0_drop 2 = .ok (.putfield 18, 3) := by decide +kernel
theorem dX0_drop_5 : decode cX0_drop 5 = .ok (.return_, 1) := by decide +kernel
set_option maxRecDepth 20000 in
theorem ggX1_init_X1_pair : GoodIn wsX1_init wsX1_pair := goodIn_r _ [15] (by decide +kernel) (by decide +kernel)
set_option maxRecDepth 20000 in
theorem gX1_init_X1_pair : GoodIn wsX1_init (va_wsS RX1 34 yX1_pair wsX1_pair) := goodIn_app (goodIn_of _ (by decide +kernel)) ggX1_init_X1_pair
theorem dX1_init_0 : decode cX1_init 0 = .ok (.aload_n 0, 1) := by decide +kernel
theorem dX1_init_1 : decode cX1_init 1 = .ok (.invokespecial 3, 3) := by decide +kernel
theorem dX1_init_4 : decode cX1_init 4 = .ok (.aload_n 0, 1) := by decide +kernel
theorem dX1_init_5 : decode cX1_init 5 = .ok (.bipush 30, 2) := by decide +kernel
theorem dX1_init_7 : decode cX1_init 7 = .ok (.putfield 9, 3) := by decide +kernel
theorem dX1_init_10 : decode cX1_init 10 = .ok (.aload_n 0, 1) := by decide +kernel
theorem dX1_init_11 : decode cX1_init 11 = .ok (.iconst 1, 1) := by decide +kernel
theorem dX1_init_12 : decode cX1_init 12 = .ok (.putfield 15, 3) := by decide +kernel
theorem dX1_init_15 : decode cX1_init 15 = .ok (.aload_n 0, 1) := by decide +kernel
theorem dX1_init_16 : decode cX1_init 16 = .ok (.iconst 1, 1) := by decide +kernel
theorem dX1_init_17 : decode cX1_init 17 = .ok (.putfield 18, 3) := by decide +kernel
theorem dX1_init_20 : decode cX1_init 20 = .ok (.aload_n 0, 1) := by decide +kernel
theorem dX1_init_21 : decode cX1_init 21 = .ok (.bipush 20, 2) := by decide +kernel
theorem dX1_init_23 : decode cX1_init 23 = .ok (.putfield 21, 3) := by decide +kernel
theorem dX1_init_26 : decode cX1_init 26 = .ok (.aload_n 0, 1) := by decide +kernel
theorem dX1_init_27 : decode cX1_init 27 = .ok (.bipush 60, 2) := by decide +kernel
theorem dX1_init_29 : decode cX1_init 29 = .ok (.putfield 24, 3) := by decide +kernel
theorem dX1_init_32 : decode cX1_init 32 = .ok (.aload_n 0, 1) := by decide +kernel
theorem dX1_init_33 : decode cX1_init 33 = .ok (.bipush 100, 2) := by decide +kernel
theorem dX1_init_35 : decode cX1_init 35 = .ok (.putfield 27, 3) := by decide +kernel
theorem dX1_init_38 : decode cX1_init 38 = .ok (.aload_n 0, 1) := by decide +kernel
theorem dX1_init_39 : decode cX1_init 39 = .ok (.sipush 784, 3) := by decide +kernel
theorem dX1_init_42 : decode cX1_init 42 = .ok (.newarray .int, 2) := by decide +kernel
theorem dX1_init_44 : decode cX1_init 44 = .ok (.putfield 30, 3) := by decide +kernel
theorem dX1_init_47 : decode cX1_init 47 = .ok (.aload_n 0, 1) := by decide +kernel
theorem dX1_init_48 : decode cX1_init 48 = .ok (.getfield 30, 3) := by decide +kernel
theorem dX1_init_51 : decode cX1_init 51 = .ok (.bipush 26, 2) := by decide +kernel
theorem dX1_init_53 : decode cX1_init 53 = .ok (.bipush 26, 2) := by decide +kernel
theorem dX1_init_55 : decode cX1_init 55 = .ok (.invokestatic 34, 3) := by decide +kernel
theorem dX1_init_58 : decode cX1_init 58 = .ok (.iconst 5, 1) := by decide +kernel
theorem dX1_init_59 : decode cX1_init 59 = .ok (.iastore, 1) := by decide +kernel
theorem dX1_init_60 : decode cX1_init 60 = .ok (.return_, 1) := by decide +kernel
set_option maxRecDepth 20000 in
theorem ggX1_kindOf_X10_isLetter : GoodIn wsX1_kindOf wsX10_isLetter := goodIn_r _ [3] (by decide +kernel) (by decide +kernel)
set_option maxRecDepth 20000 in
theorem gX1_kindOf_X10_isLetter_n38 : GoodIn wsX1_kindOf (wsX10_isLetter) := ggX1_kindOf_X10_isLetter
theorem dX1_kindOf_0 : decode cX1_kindOf 0 = .ok (.iload_n 0, 1) := by decide +kernel
theorem dX1_kindOf_1 : decode cX1_kindOf 1 = .ok (.invokestatic 38, 3) := by decide +kernel
theorem dX1_kindOf_4 : decode cX1_kindOf 4 = .ok (.ifCond .eq 8, 3) := by decide +kernel
theorem dX1_kindOf_7 : decode cX1_kindOf 7 = .ok (.iload_n 0, 1) := by decide +kernel
theorem dX1_kindOf_8 : decode cX1_kindOf 8 = .ok (.bipush 97, 2) := by decide +kernel
theorem dX1_kindOf_10 : decode cX1_kindOf 10 = .ok (.isub, 1) := by decide +kernel
theorem dX1_kindOf_11 : decode cX1_kindOf 11 = .ok (.ireturn, 1) := by decide +kernel
theorem dX1_kindOf_12 : decode cX1_kindOf 12 = .ok (.iload_n 0, 1) := by decide +kernel
theorem dX1_kindOf_13 : decode cX1_kindOf 13 = .ok (.bipush 32, 2) := by decide +kernel
theorem dX1_kindOf_15 : decode cX1_kindOf 15 = .ok (.if_icmp .ne 8, 3) := by decide +kernel
theorem dX1_kindOf_18 : decode cX1_kindOf 18 = .ok (.bipush 26, 2) := by decide +kernel
theorem dX1_kindOf_20 : decode cX1_kindOf 20 = .ok (.goto 5, 3) := by decide +kernel
theorem dX1_kindOf_23 : decode cX1_kindOf 23 = .ok (.bipush 27, 2) := by decide +kernel
theorem dX1_kindOf_25 : decode cX1_kindOf 25 = .ok (.ireturn, 1) := by decide +kernel
theorem dX1_longest_0 : decode cX1_longest 0 = .ok (.aload_n 0, 1) := by decide +kernel
theorem dX1_longest_1 : decode cX1_longest 1 = .ok (.getfield 9, 3) := by decide +kernel
theorem dX1_longest_4 : decode cX1_longest 4 = .ok (.ireturn, 1) := by decide +kernel
theorem dX1_spread_0 : decode cX1_spread 0 = .ok (.aload_n 0, 1) := by decide +kernel
theorem dX1_spread_1 : decode cX1_spread 1 = .ok (.getfield 15, 3) := by decide +kernel
theorem dX1_spread_4 : decode cX1_spread 4 = .ok (.ireturn, 1) := by decide +kernel
set_option maxRecDepth 20000 in
theorem ggX1_changeLine_X10_within : GoodIn wsX1_changeLine wsX10_within := goodIn_r _ [5] (by decide +kernel) (by decide +kernel)
set_option maxRecDepth 20000 in
theorem gX1_changeLine_X10_within_n42 : GoodIn wsX1_changeLine (wsX10_within) := ggX1_changeLine_X10_within
theorem dX1_changeLine_0 : decode cX1_changeLine 0 = .ok (.iload_n 1, 1) := by decide +kernel
theorem dX1_changeLine_1 : decode cX1_changeLine 1 = .ok (.bipush 10, 2) := by decide +kernel
theorem dX1_changeLine_3 : decode cX1_changeLine 3 = .ok (.bipush 60, 2) := by decide +kernel
theorem dX1_changeLine_5 : decode cX1_changeLine 5 = .ok (.invokestatic 42, 3) := by decide +kernel
theorem dX1_changeLine_8 : decode cX1_changeLine 8 = .ok (.ifCond .eq 12, 3) := by decide +kernel
theorem dX1_changeLine_11 : decode cX1_changeLine 11 = .ok (.iload_n 2, 1) := by decide +kernel
theorem dX1_changeLine_12 : decode cX1_changeLine 12 = .ok (.iconst 1, 1) := by decide +kernel
theorem dX1_changeLine_13 : decode cX1_changeLine 13 = .ok (.iconst 3, 1) := by decide +kernel
theorem dX1_changeLine_14 : decode cX1_changeLine 14 = .ok (.invokestatic 42, 3) := by decide +kernel
theorem dX1_changeLine_17 : decode cX1_changeLine 17 = .ok (.ifCond .ne 5, 3) := by decide +kernel
theorem dX1_changeLine_20 : decode cX1_changeLine 20 = .ok (.iconst 0, 1) := by decide +kernel
theorem dX1_changeLine_21 : decode cX1_changeLine 21 = .ok (.ireturn, 1) := by decide +kernel
theorem dX1_changeLine_22 : decode cX1_changeLine 22 = .ok (.aload_n 0, 1) := by decide +kernel
theorem dX1_changeLine_23 : decode cX1_changeLine 23 = .ok (.iload_n 1, 1) := by decide +kernel
theorem dX1_changeLine_24 : decode cX1_changeLine 24 = .ok (.putfield 9, 3) := by decide +kernel
theorem dX1_changeLine_27 : decode cX1_changeLine 27 = .ok (.aload_n 0, 1) := by decide +kernel
theorem dX1_changeLine_28 : decode cX1_changeLine 28 = .ok (.iload_n 2, 1) := by decide +kernel
theorem dX1_changeLine_29 : decode cX1_changeLine 29 = .ok (.putfield 15, 3) := by decide +kernel
theorem dX1_changeLine_32 : decode cX1_changeLine 32 = .ok (.iconst 1, 1) := by decide +kernel
theorem dX1_changeLine_33 : decode cX1_changeLine 33 = .ok (.ireturn, 1) := by decide +kernel
set_option maxRecDepth 20000 in
theorem ggX1_changeStrains_X10_within : GoodIn wsX1_changeStrains wsX10_within := goodIn_r _ [8] (by decide +kernel) (by decide +kernel)
set_option maxRecDepth 20000 in
theorem gX1_changeStrains_X10_within_n42 : GoodIn wsX1_changeStrains (wsX10_within) := ggX1_changeStrains_X10_within
set_option maxRecDepth 20000 in
theorem ggX1_changeStrains_X1_pair : GoodIn wsX1_changeStrains wsX1_pair := goodIn_r _ [12] (by decide +kernel) (by decide +kernel)
set_option maxRecDepth 20000 in
theorem gX1_changeStrains_X1_pair : GoodIn wsX1_changeStrains (va_wsS RX1 34 yX1_pair wsX1_pair) := goodIn_app (goodIn_of _ (by decide +kernel)) ggX1_changeStrains_X1_pair
theorem dX1_changeStrains_0 : decode cX1_changeStrains 0 = .ok (.iload_n 2, 1) := by decide +kernel
theorem dX1_changeStrains_1 : decode cX1_changeStrains 1 = .ok (.iconst 0, 1) := by decide +kernel
theorem dX1_changeStrains_2 : decode cX1_changeStrains 2 = .ok (.sipush 10000, 3) := by decide +kernel
theorem dX1_changeStrains_5 : decode cX1_changeStrains 5 = .ok (.invokestatic 42, 3) := by decide +kernel
theorem dX1_changeStrains_8 : decode cX1_changeStrains 8 = .ok (.ifCond .eq 30, 3) := by decide +kernel
theorem dX1_changeStrains_11 : decode cX1_changeStrains 11 = .ok (.iload_n 3, 1) := by decide +kernel
theorem dX1_changeStrains_12 : decode cX1_changeStrains 12 = .ok (.iconst 0, 1) := by decide +kernel
theorem dX1_changeStrains_13 : decode cX1_changeStrains 13 = .ok (.sipush 10000, 3) := by decide +kernel
theorem dX1_changeStrains_16 : decode cX1_changeStrains 16 = .ok (.invokestatic 42, 3) := by decide +kernel
theorem dX1_changeStrains_19 : decode cX1_changeStrains 19 = .ok (.ifCond .eq 19, 3) := by decide +kernel
theorem dX1_changeStrains_22 : decode cX1_changeStrains 22 = .ok (.iload 4, 2) := by decide +kernel
theorem dX1_changeStrains_24 : decode cX1_changeStrains 24 = .ok (.iconst 0, 1) := by decide +kernel
theorem dX1_changeStrains_25 : decode cX1_changeStrains 25 = .ok (.sipush 10000, 3) := by decide +kernel
theorem dX1_changeStrains_28 : decode cX1_changeStrains 28 = .ok (.invokestatic 42, 3) := by decide +kernel
theorem dX1_changeStrains_31 : decode cX1_changeStrains 31 = .ok (.ifCond .eq 7, 3) := by decide +kernel
theorem dX1_changeStrains_34 : decode cX1_changeStrains 34 = .ok (.iconst 1, 1) := by decide +kernel
theorem dX1_changeStrains_35 : decode cX1_changeStrains 35 = .ok (.goto 4, 3) := by decide +kernel
theorem dX1_changeStrains_38 : decode cX1_changeStrains 38 = .ok (.iconst 0, 1) := by decide +kernel
theorem dX1_changeStrains_39 : decode cX1_changeStrains 39 = .ok (.istore 6, 2) := by decide +kernel
theorem dX1_changeStrains_41 : decode cX1_changeStrains 41 = .ok (.iload 6, 2) := by decide +kernel
theorem dX1_changeStrains_43 : decode cX1_changeStrains 43 = .ok (.ifCond .eq 25, 3) := by decide +kernel
theorem dX1_changeStrains_46 : decode cX1_changeStrains 46 = .ok (.iload_n 1, 1) := by decide +kernel
theorem dX1_changeStrains_47 : decode cX1_changeStrains 47 = .ok (.iconst 0, 1) := by decide +kernel
theorem dX1_changeStrains_48 : decode cX1_changeStrains 48 = .ok (.bipush 100, 2) := by decide +kernel
theorem dX1_changeStrains_50 : decode cX1_changeStrains 50 = .ok (.invokestatic 42, 3) := by decide +kernel
theorem dX1_changeStrains_53 : decode cX1_changeStrains 53 = .ok (.ifCond .eq 15, 3) := by decide +kernel
theorem dX1_changeStrains_56 : decode cX1_changeStrains 56 = .ok (.iload 5, 2) := by decide +kernel
theorem dX1_changeStrains_58 : decode cX1_changeStrains 58 = .ok (.iconst 0, 1) := by decide +kernel
theorem dX1_changeStrains_59 : decode cX1_changeStrains 59 = .ok (.sipush 1000, 3) := by decide +kernel
theorem dX1_changeStrains_62 : decode cX1_changeStrains 62 = .ok (.invokestatic 42, 3) := by decide +kernel
theorem dX1_changeStrains_65 : decode cX1_changeStrains 65 = .ok (.ifCond .ne 5, 3) := by decide +kernel
theorem dX1_changeStrains_68 : decode cX1_changeStrains 68 = .ok (.iconst 0, 1) := by decide +kernel
theorem dX1_changeStrains_69 : decode cX1_changeStrains 69 = .ok (.ireturn, 1) := by decide +kernel
theorem dX1_changeStrains_70 : decode cX1_changeStrains 70 = .ok (.aload_n 0, 1) := by decide +kernel
theorem dX1_changeStrains_71 : decode cX1_changeStrains 71 = .ok (.iload_n 1, 1) := by decide +kernel
theorem dX1_changeStrains_72 : decode cX1_changeStrains 72 = .ok (.putfield 18, 3) := by decide +kernel
theorem dX1_changeStrains_75 : decode cX1_changeStrains 75 = .ok (.aload_n 0, 1) := by decide +kernel
theorem dX1_changeStrains_76 : decode cX1_changeStrains 76 = .ok (.iload_n 2, 1) := by decide +kernel
theorem dX1_changeStrains_77 : decode cX1_changeStrains 77 = .ok (.putfield 21, 3) := by decide +kernel
theorem dX1_changeStrains_80 : decode cX1_changeStrains 80 = .ok (.aload_n 0, 1) := by decide +kernel
theorem dX1_changeStrains_81 : decode cX1_changeStrains 81 = .ok (.iload_n 3, 1) := by decide +kernel
theorem dX1_changeStrains_82 : decode cX1_changeStrains 82 = .ok (.putfield 24, 3) := by decide +kernel
theorem dX1_changeStrains_85 : decode cX1_changeStrains 85 = .ok (.aload_n 0, 1) := by decide +kernel
theorem dX1_changeStrains_86 : decode cX1_changeStrains 86 = .ok (.iload 4, 2) := by decide +kernel
theorem dX1_changeStrains_88 : decode cX1_changeStrains 88 = .ok (.putfield 27, 3) := by decide +kernel
theorem dX1_changeStrains_91 : decode cX1_changeStrains 91 = .ok (.aload_n 0, 1) := by decide +kernel
theorem dX1_changeStrains_92 : decode cX1_changeStrains 92 = .ok (.getfield 30, 3) := by decide +kernel
theorem dX1_changeStrains_95 : decode cX1_changeStrains 95 = .ok (.bipush 26, 2) := by decide +kernel
theorem dX1_changeStrains_97 : decode cX1_changeStrains 97 = .ok (.bipush 26, 2) := by decide +kernel
theorem dX1_changeStrains_99 : decode cX1_changeStrains 99 = .ok (.invokestatic 34, 3) := by decide +kernel
theorem dX1_changeStrains_102 : decode cX1_changeStrains 102 = .ok (.iload 5, 2) := by decide +kernel
theorem dX1_changeStrains_104 : decode cX1_changeStrains 104 = .ok (.iastore, 1) := by decide +kernel
theorem dX1_changeStrains_105 : decode cX1_changeStrains 105 = .ok (.iconst 1, 1) := by decide +kernel
theorem dX1_changeStrains_106 : decode cX1_changeStrains 106 = .ok (.ireturn, 1) := by decide +kernel
set_option maxRecDepth 20000 in
theorem ggX1_changeLikeness_X10_isLetter : GoodIn wsX1_changeLikeness wsX10_isLetter := goodIn_r _ [4] (by decide +kernel) (by decide +kernel)
set_option maxRecDepth 20000 in
theorem gX1_changeLikeness_X10_isLetter_n38 : GoodIn wsX1_changeLikeness (wsX10_isLetter) := ggX1_changeLikeness_X10_isLetter
set_option maxRecDepth 20000 in
theorem ggX1_changeLikeness_X10_within : GoodIn wsX1_changeLikeness wsX10_within := goodIn_r _ [6] (by decide +kernel) (by decide +kernel)
set_option maxRecDepth 20000 in
theorem gX1_changeLikeness_X10_within_n42 : GoodIn wsX1_changeLikeness (wsX10_within) := ggX1_changeLikeness_X10_within
set_option maxRecDepth 20000 in
theorem ggX1_changeLikeness_X1_kindOf : GoodIn wsX1_changeLikeness wsX1_kindOf := goodIn_r _ [10, 2, 3, 4] (by decide +kernel) (by decide +kernel)
set_option maxRecDepth 20000 in
theorem gX1_changeLikeness_X1_kindOf : GoodIn wsX1_changeLikeness (va_wsS RX1 46 yX1_kindOf wsX1_kindOf) := goodIn_app (goodIn_of _ (by decide +kernel)) ggX1_changeLikeness_X1_kindOf
set_option maxRecDepth 20000 in
theorem ggX1_changeLikeness_X1_pair : GoodIn wsX1_changeLikeness wsX1_pair := goodIn_r _ [13] (by decide +kernel) (by decide +kernel)
set_option maxRecDepth 20000 in
theorem gX1_changeLikeness_X1_pair : GoodIn wsX1_changeLikeness (va_wsS RX1 34 yX1_pair wsX1_pair) := goodIn_app (goodIn_of _ (by decide +kernel)) ggX1_changeLikeness_X1_pair
theorem dX1_changeLikeness_0 : decode cX1_changeLikeness 0 = .ok (.iload_n 1, 1) := by decide +kernel
theorem dX1_changeLikeness_1 : decode cX1_changeLikeness 1 = .ok (.invokestatic 38, 3) := by decide +kernel
theorem dX1_changeLikeness_4 : decode cX1_changeLikeness 4 = .ok (.ifCond .eq 21, 3) := by decide +kernel
theorem dX1_changeLikeness_7 : decode cX1_changeLikeness 7 = .ok (.iload_n 2, 1) := by decide +kernel
theorem dX1_changeLikeness_8 : decode cX1_changeLikeness 8 = .ok (.invokestatic 38, 3) := by decide +kernel
theorem dX1_changeLikeness_11 : decode cX1_changeLikeness 11 = .ok (.ifCond .eq 14, 3) := by decide +kernel
theorem dX1_changeLikeness_14 : decode cX1_changeLikeness 14 = .ok (.iload_n 3, 1) := by decide +kernel
theorem dX1_changeLikeness_15 : decode cX1_changeLikeness 15 = .ok (.iconst 0, 1) := by decide +kernel
theorem dX1_changeLikeness_16 : decode cX1_changeLikeness 16 = .ok (.sipush 1000, 3) := by decide +kernel
theorem dX1_changeLikeness_19 : decode cX1_changeLikeness 19 = .ok (.invokestatic 42, 3) := by decide +kernel
theorem dX1_changeLikeness_22 : decode cX1_changeLikeness 22 = .ok (.ifCond .ne 5, 3) := by decide +kernel
theorem dX1_changeLikeness_25 : decode cX1_changeLikeness 25 = .ok (.iconst (-1), 1) := by decide +kernel
theorem dX1_changeLikeness_26 : decode cX1_changeLikeness 26 = .ok (.ireturn, 1) := by decide +kernel
theorem dX1_changeLikeness_27 : decode cX1_changeLikeness 27 = .ok (.aload_n 0, 1) := by decide +kernel
theorem dX1_changeLikeness_28 : decode cX1_changeLikeness 28 = .ok (.getfield 30, 3) := by decide +kernel
theorem dX1_changeLikeness_31 : decode cX1_changeLikeness 31 = .ok (.iload_n 1, 1) := by decide +kernel
theorem dX1_changeLikeness_32 : decode cX1_changeLikeness 32 = .ok (.invokestatic 46, 3) := by decide +kernel
theorem dX1_changeLikeness_35 : decode cX1_changeLikeness 35 = .ok (.iload_n 2, 1) := by decide +kernel
theorem dX1_changeLikeness_36 : decode cX1_changeLikeness 36 = .ok (.invokestatic 46, 3) := by decide +kernel
theorem dX1_changeLikeness_39 : decode cX1_changeLikeness 39 = .ok (.invokestatic 34, 3) := by decide +kernel
theorem dX1_changeLikeness_42 : decode cX1_changeLikeness 42 = .ok (.iaload, 1) := by decide +kernel
theorem dX1_changeLikeness_43 : decode cX1_changeLikeness 43 = .ok (.istore 4, 2) := by decide +kernel
theorem dX1_changeLikeness_45 : decode cX1_changeLikeness 45 = .ok (.aload_n 0, 1) := by decide +kernel
theorem dX1_changeLikeness_46 : decode cX1_changeLikeness 46 = .ok (.getfield 30, 3) := by decide +kernel
theorem dX1_changeLikeness_49 : decode cX1_changeLikeness 49 = .ok (.iload_n 1, 1) := by decide +kernel
theorem dX1_changeLikeness_50 : decode cX1_changeLikeness 50 = .ok (.invokestatic 46, 3) := by decide +kernel
theorem dX1_changeLikeness_53 : decode cX1_changeLikeness 53 = .ok (.iload_n 2, 1) := by decide +kernel
theorem dX1_changeLikeness_54 : decode cX1_changeLikeness 54 = .ok (.invokestatic 46, 3) := by decide +kernel
theorem dX1_changeLikeness_57 : decode cX1_changeLikeness 57 = .ok (.invokestatic 34, 3) := by decide +kernel
theorem dX1_changeLikeness_60 : decode cX1_changeLikeness 60 = .ok (.iload_n 3, 1) := by decide +kernel
theorem dX1_changeLikeness_61 : decode cX1_changeLikeness 61 = .ok (.iastore, 1) := by decide +kernel
theorem dX1_changeLikeness_62 : decode cX1_changeLikeness 62 = .ok (.aload_n 0, 1) := by decide +kernel
theorem dX1_changeLikeness_63 : decode cX1_changeLikeness 63 = .ok (.getfield 30, 3) := by decide +kernel
theorem dX1_changeLikeness_66 : decode cX1_changeLikeness 66 = .ok (.iload_n 2, 1) := by decide +kernel
theorem dX1_changeLikeness_67 : decode cX1_changeLikeness 67 = .ok (.invokestatic 46, 3) := by decide +kernel
theorem dX1_changeLikeness_70 : decode cX1_changeLikeness 70 = .ok (.iload_n 1, 1) := by decide +kernel
theorem dX1_changeLikeness_71 : decode cX1_changeLikeness 71 = .ok (.invokestatic 46, 3) := by decide +kernel
theorem dX1_changeLikeness_74 : decode cX1_changeLikeness 74 = .ok (.invokestatic 34, 3) := by decide +kernel
theorem dX1_changeLikeness_77 : decode cX1_changeLikeness 77 = .ok (.iload_n 3, 1) := by decide +kernel
theorem dX1_changeLikeness_78 : decode cX1_changeLikeness 78 = .ok (.iastore, 1) := by decide +kernel
theorem dX1_changeLikeness_79 : decode cX1_changeLikeness 79 = .ok (.iload 4, 2) := by decide +kernel
theorem dX1_changeLikeness_81 : decode cX1_changeLikeness 81 = .ok (.ireturn, 1) := by decide +kernel
set_option maxRecDepth 20000 in
theorem ggX1_strainOfPlace_X1_pair : GoodIn wsX1_strainOfPlace wsX1_pair := goodIn_r _ [5] (by decide +kernel) (by decide +kernel)
set_option maxRecDepth 20000 in
theorem gX1_strainOfPlace_X1_pair : GoodIn wsX1_strainOfPlace (va_wsS RX1 34 yX1_pair wsX1_pair) := goodIn_app (goodIn_of _ (by decide +kernel)) ggX1_strainOfPlace_X1_pair
theorem dX1_strainOfPlace_0 : decode cX1_strainOfPlace 0 = .ok (.aload_n 0, 1) := by decide +kernel
theorem dX1_strainOfPlace_1 : decode cX1_strainOfPlace 1 = .ok (.getfield 30, 3) := by decide +kernel
theorem dX1_strainOfPlace_4 : decode cX1_strainOfPlace 4 = .ok (.iload_n 1, 1) := by decide +kernel
theorem dX1_strainOfPlace_5 : decode cX1_strainOfPlace 5 = .ok (.iload_n 2, 1) := by decide +kernel
theorem dX1_strainOfPlace_6 : decode cX1_strainOfPlace 6 = .ok (.invokestatic 34, 3) := by decide +kernel
theorem dX1_strainOfPlace_9 : decode cX1_strainOfPlace 9 = .ok (.iaload, 1) := by decide +kernel
theorem dX1_strainOfPlace_10 : decode cX1_strainOfPlace 10 = .ok (.ireturn, 1) := by decide +kernel
set_option maxRecDepth 20000 in
theorem ggX1_strainOfLine_X1_strainOfEnd : GoodIn wsX1_strainOfLine wsX1_strainOfEnd := goodIn_r _ [7, 8, 9, 10, 11, 12, 13, 14, 15, 16, 17] (by decide +kernel) (by decide +kernel)
set_option maxRecDepth 20000 in
theorem gX1_strainOfLine_X1_strainOfEnd : GoodIn wsX1_strainOfLine (wsV RX1 50 RX1 yX1_strainOfEnd wsX1_strainOfEnd) := goodIn_app (goodIn_of _ (by decide +kernel)) ggX1_strainOfLine_X1_strainOfEnd
theorem dX1_strainOfLine_0 : decode cX1_strainOfLine 0 = .ok (.aload_n 0, 1) := by decide +kernel
theorem dX1_strainOfLine_1 : decode cX1_strainOfLine 1 = .ok (.getfield 9, 3) := by decide +kernel
theorem dX1_strainOfLine_4 : decode cX1_strainOfLine 4 = .ok (.iload_n 1, 1) := by decide +kernel
theorem dX1_strainOfLine_5 : decode cX1_strainOfLine 5 = .ok (.isub, 1) := by decide +kernel
theorem dX1_strainOfLine_6 : decode cX1_strainOfLine 6 = .ok (.istore_n 3, 1) := by decide +kernel
theorem dX1_strainOfLine_7 : decode cX1_strainOfLine 7 = .ok (.iload_n 3, 1) := by decide +kernel
theorem dX1_strainOfLine_8 : decode cX1_strainOfLine 8 = .ok (.iload_n 3, 1) := by decide +kernel
theorem dX1_strainOfLine_9 : decode cX1_strainOfLine 9 = .ok (.imul, 1) := by decide +kernel
theorem dX1_strainOfLine_10 : decode cX1_strainOfLine 10 = .ok (.aload_n 0, 1) := by decide +kernel
theorem dX1_strainOfLine_11 : decode cX1_strainOfLine 11 = .ok (.getfield 18, 3) := by decide +kernel
theorem dX1_strainOfLine_14 : decode cX1_strainOfLine 14 = .ok (.imul, 1) := by decide +kernel
theorem dX1_strainOfLine_15 : decode cX1_strainOfLine 15 = .ok (.aload_n 0, 1) := by decide +kernel
theorem dX1_strainOfLine_16 : decode cX1_strainOfLine 16 = .ok (.iload_n 2, 1) := by decide +kernel
theorem dX1_strainOfLine_17 : decode cX1_strainOfLine 17 = .ok (.invokevirtual 50, 3) := by decide +kernel
theorem dX1_strainOfLine_20 : decode cX1_strainOfLine 20 = .ok (.iadd, 1) := by decide +kernel
theorem dX1_strainOfLine_21 : decode cX1_strainOfLine 21 = .ok (.ireturn, 1) := by decide +kernel
theorem dX1_strainOfEnd_0 : decode cX1_strainOfEnd 0 = .ok (.iload_n 1, 1) := by decide +kernel
theorem dX1_strainOfEnd_1 : decode cX1_strainOfEnd 1 = .ok (.tableswitch 43 44 47 #[33, 38, 31, 33], 31) := by decide +kernel
theorem dX1_strainOfEnd_32 : decode cX1_strainOfEnd 32 = .ok (.iconst 0, 1) := by decide +kernel
theorem dX1_strainOfEnd_33 : decode cX1_strainOfEnd 33 = .ok (.ireturn, 1) := by decide +kernel
theorem dX1_strainOfEnd_34 : decode cX1_strainOfEnd 34 = .ok (.aload_n 0, 1) := by decide +kernel
theorem dX1_strainOfEnd_35 : decode cX1_strainOfEnd 35 = .ok (.getfield 21, 3) := by decide +kernel
theorem dX1_strainOfEnd_38 : decode cX1_strainOfEnd 38 = .ok (.ireturn, 1) := by decide +kernel
theorem dX1_strainOfEnd_39 : decode cX1_strainOfEnd 39 = .ok (.aload_n 0, 1) := by decide +kernel
theorem dX1_strainOfEnd_40 : decode cX1_strainOfEnd 40 = .ok (.getfield 27, 3) := by decide +kernel
theorem dX1_strainOfEnd_43 : decode cX1_strainOfEnd 43 = .ok (.ireturn, 1) := by decide +kernel
theorem dX1_strainOfEnd_44 : decode cX1_strainOfEnd 44 = .ok (.aload_n 0, 1) := by decide +kernel
theorem dX1_strainOfEnd_45 : decode cX1_strainOfEnd 45 = .ok (.getfield 24, 3) := by decide +kernel
theorem dX1_strainOfEnd_48 : decode cX1_strainOfEnd 48 = .ok (.ireturn, 1) := by decide +kernel
theorem dX1_pair_0 : decode cX1_pair 0 = .ok (.iload_n 0, 1) := by decide +kernel
theorem dX1_pair_1 : decode cX1_pair 1 = .ok (.bipush 28, 2) := by decide +kernel
theorem dX1_pair_3 : decode cX1_pair 3 = .ok (.imul, 1) := by decide +kernel
theorem dX1_pair_4 : decode cX1_pair 4 = .ok (.iload_n 1, 1) := by decide +kernel
theorem dX1_pair_5 : decode cX1_pair 5 = .ok (.iadd, 1) := by decide +kernel
theorem dX1_pair_6 : decode cX1_pair 6 = .ok (.ireturn, 1) := by decide +kernel
theorem dX2_init_0 : decode cX2_init 0 = .ok (.aload_n 0, 1) := by decide +kernel
theorem dX2_init_1 : decode cX2_init 1 = .ok (.invokespecial 1, 3) := by decide +kernel
theorem dX2_init_4 : decode cX2_init 4 = .ok (.aload_n 0, 1) := by decide +kernel
theorem dX2_init_5 : decode cX2_init 5 = .ok (.bipush 10, 2) := by decide +kernel
theorem dX2_init_7 : decode cX2_init 7 = .ok (.putfield 7, 3) := by decide +kernel
theorem dX2_init_10 : decode cX2_init 10 = .ok (.aload_n 0, 1) := by decide +kernel
theorem dX2_init_11 : decode cX2_init 11 = .ok (.iconst 3, 1) := by decide +kernel
theorem dX2_init_12 : decode cX2_init 12 = .ok (.putfield 13, 3) := by decide +kernel
theorem dX2_init_15 : decode cX2_init 15 = .ok (.return_, 1) := by decide +kernel
set_option maxRecDepth 20000 in
theorem ggX2_change_X10_within : GoodIn wsX2_change wsX10_within := goodIn_r _ [5] (by decide +kernel) (by decide +kernel)
set_option maxRecDepth 20000 in
theorem gX2_change_X10_within_n16 : GoodIn wsX2_change (wsX10_within) := ggX2_change_X10_within
theorem dX2_change_0 : decode cX2_change 0 = .ok (.iload_n 1, 1) := by decide +kernel
theorem dX2_change_1 : decode cX2_change 1 = .ok (.iconst 2, 1) := by decide +kernel
theorem dX2_change_2 : decode cX2_change 2 = .ok (.bipush 40, 2) := by decide +kernel
theorem dX2_change_4 : decode cX2_change 4 = .ok (.invokestatic 16, 3) := by decide +kernel
theorem dX2_change_7 : decode cX2_change 7 = .ok (.ifCond .eq 13, 3) := by decide +kernel
theorem dX2_change_10 : decode cX2_change 10 = .ok (.iload_n 2, 1) := by decide +kernel
theorem dX2_change_11 : decode cX2_change 11 = .ok (.iconst 2, 1) := by decide +kernel
theorem dX2_change_12 : decode cX2_change 12 = .ok (.bipush 7, 2) := by decide +kernel
theorem dX2_change_14 : decode cX2_change 14 = .ok (.invokestatic 16, 3) := by decide +kernel
theorem dX2_change_17 : decode cX2_change 17 = .ok (.ifCond .ne 5, 3) := by decide +kernel
theorem dX2_change_20 : decode cX2_change 20 = .ok (.iconst 0, 1) := by decide +kernel
theorem dX2_change_21 : decode cX2_change 21 = .ok (.ireturn, 1) := by decide +kernel
theorem dX2_change_22 : decode cX2_change 22 = .ok (.aload_n 0, 1) := by decide +kernel
theorem dX2_change_23 : decode cX2_change 23 = .ok (.iload_n 1, 1) := by decide +kernel
theorem dX2_change_24 : decode cX2_change 24 = .ok (.putfield 7, 3) := by decide +kernel
theorem dX2_change_27 : decode cX2_change 27 = .ok (.aload_n 0, 1) := by decide +kernel
theorem dX2_change_28 : decode cX2_change 28 = .ok (.iload_n 2, 1) := by decide +kernel
theorem dX2_change_29 : decode cX2_change 29 = .ok (.putfield 13, 3) := by decide +kernel
theorem dX2_change_32 : decode cX2_change 32 = .ok (.iconst 1, 1) := by decide +kernel
theorem dX2_change_33 : decode cX2_change 33 = .ok (.ireturn, 1) := by decide +kernel
theorem dX2_pageOf_0 : decode cX2_pageOf 0 = .ok (.iload_n 1, 1) := by decide +kernel
theorem dX2_pageOf_1 : decode cX2_pageOf 1 = .ok (.aload_n 0, 1) := by decide +kernel
theorem dX2_pageOf_2 : decode cX2_pageOf 2 = .ok (.getfield 7, 3) := by decide +kernel
theorem dX2_pageOf_5 : decode cX2_pageOf 5 = .ok (.idiv, 1) := by decide +kernel
theorem dX2_pageOf_6 : decode cX2_pageOf 6 = .ok (.ireturn, 1) := by decide +kernel
theorem dX2_tintOf_0 : decode cX2_tintOf 0 = .ok (.iload_n 1, 1) := by decide +kernel
theorem dX2_tintOf_1 : decode cX2_tintOf 1 = .ok (.aload_n 0, 1) := by decide +kernel
theorem dX2_tintOf_2 : decode cX2_tintOf 2 = .ok (.getfield 7, 3) := by decide +kernel
theorem dX2_tintOf_5 : decode cX2_tintOf 5 = .ok (.irem, 1) := by decide +kernel
theorem dX2_tintOf_6 : decode cX2_tintOf 6 = .ok (.iload_n 1, 1) := by decide +kernel
theorem dX2_tintOf_7 : decode cX2_tintOf 7 = .ok (.aload_n 0, 1) := by decide +kernel
theorem dX2_tintOf_8 : decode cX2_tintOf 8 = .ok (.getfield 7, 3) := by decide +kernel
theorem dX2_tintOf_11 : decode cX2_tintOf 11 = .ok (.idiv, 1) := by decide +kernel
theorem dX2_tintOf_12 : decode cX2_tintOf 12 = .ok (.iadd, 1) := by decide +kernel
theorem dX2_tintOf_13 : decode cX2_tintOf 13 = .ok (.aload_n 0, 1) := by decide +kernel
theorem dX2_tintOf_14 : decode cX2_tintOf 14 = .ok (.getfield 13, 3) := by decide +kernel
theorem dX2_tintOf_17 : decode cX2_tintOf 17 = .ok (.irem, 1) := by decide +kernel
theorem dX2_tintOf_18 : decode cX2_tintOf 18 = .ok (.ireturn, 1) := by decide +kernel
set_option maxRecDepth 20000 in
theorem ggX3_init_X9_init : GoodIn wsX3_init wsX9_init := goodIn_r _ [11, 12, 2, 3, 13, 14, 15, 16, 17, 18, 19, 20] (by decide +kernel) (by decide +kernel)
set_option maxRecDepth 20000 in
theorem gX3_init_X9_init_n11 : GoodIn wsX3_init (wsX9_init) := ggX3_init_X9_init
theorem dX3_init_0 : decode cX3_init 0 = .ok (.aload_n 0, 1) := by decide +kernel
theorem dX3_init_1 : decode cX3_init 1 = .ok (.invokespecial 3, 3) := by decide +kernel
theorem dX3_init_4 : decode cX3_init 4 = .ok (.aload_n 0, 1) := by decide +kernel
theorem dX3_init_5 : decode cX3_init 5 = .ok (.new 9, 3) := by decide +kernel
theorem dX3_init_8 : decode cX3_init 8 = .ok (.dup, 1) := by decide +kernel
theorem dX3_init_9 : decode cX3_init 9 = .ok (.invokespecial 11, 3) := by decide +kernel
theorem dX3_init_12 : decode cX3_init 12 = .ok (.putfield 12, 3) := by decide +kernel
theorem dX3_init_15 : decode cX3_init 15 = .ok (.aload_n 0, 1) := by decide +kernel
theorem dX3_init_16 : decode cX3_init 16 = .ok (.iconst 0, 1) := by decide +kernel
theorem dX3_init_17 : decode cX3_init 17 = .ok (.putfield 18, 3) := by decide +kernel
theorem dX3_init_20 : decode cX3_init 20 = .ok (.aload_n 0, 1) := by decide +kernel
theorem dX3_init_21 : decode cX3_init 21 = .ok (.iconst (-1), 1) := by decide +kernel
theorem dX3_init_22 : decode cX3_init 22 = .ok (.putfield 22, 3) := by decide +kernel
theorem dX3_init_25 : decode cX3_init 25 = .ok (.return_, 1) := by decide +kernel
theorem dX3_units_0 : decode cX3_units 0 = .ok (.aload_n 0, 1) := by decide +kernel
theorem dX3_units_1 : decode cX3_units 1 = .ok (.getfield 12, 3) := by decide +kernel
theorem dX3_units_4 : decode cX3_units 4 = .ok (.areturn, 1) := by decide +kernel
theorem dX3_hasFault_0 : decode cX3_hasFault 0 = .ok (.aload_n 0, 1) := by decide +kernel
theorem dX3_hasFault_1 : decode cX3_hasFault 1 = .ok (.getfield 18, 3) := by decide +kernel
theorem dX3_hasFault_4 : decode cX3_hasFault 4 = .ok (.ifCond .eq 7, 3) := by decide +kernel
theorem dX3_hasFault_7 : decode cX3_hasFault 7 = .ok (.iconst 1, 1) := by decide +kernel
theorem dX3_hasFault_8 : decode cX3_hasFault 8 = .ok (.goto 4, 3) := by decide +kernel
theorem dX3_hasFault_11 : decode cX3_hasFault 11 = .ok (.iconst 0, 1) := by decide +kernel
theorem dX3_hasFault_12 : decode cX3_hasFault 12 = .ok (.ireturn, 1) := by decide +kernel
theorem dX3_kind_0 : decode cX3_kind 0 = .ok (.aload_n 0, 1) := by decide +kernel
theorem dX3_kind_1 : decode cX3_kind 1 = .ok (.getfield 18, 3) := by decide +kernel
theorem dX3_kind_4 : decode cX3_kind 4 = .ok (.ireturn, 1) := by decide +kernel
theorem dX3_place_0 : decode cX3_place 0 = .ok (.aload_n 0, 1) := by decide +kernel
theorem dX3_place_1 : decode cX3_place 1 = .ok (.getfield 22, 3) := by decide +kernel
theorem dX3_place_4 : decode cX3_place 4 = .ok (.ireturn, 1) := by decide +kernel
set_option maxRecDepth 20000 in
theorem ggX3_read_X9_clear : GoodIn wsX3_read wsX9_clear := goodIn_r _ [8, 9, 55, 56, 57, 58] (by decide +kernel) (by decide +kernel)
set_option maxRecDepth 20000 in
theorem gX3_read_X9_clear : GoodIn wsX3_read (wsV RX3 25 RX9 yX9_clear wsX9_clear) := goodIn_app (goodIn_of _ (by decide +kernel)) ggX3_read_X9_clear
set_option maxRecDepth 20000 in
theorem ggX3_read_X7_length : GoodIn wsX3_read wsX7_length := goodIn_r _ [14, 15, 59, 60] (by decide +kernel) (by decide +kernel)
set_option maxRecDepth 20000 in
theorem gX3_read_X7_length : GoodIn wsX3_read (wsV RX3 28 RX7 yX7_length wsX7_length) := goodIn_app (goodIn_of _ (by decide +kernel)) ggX3_read_X7_length
set_option maxRecDepth 20000 in
theorem ggX3_read_X7_byteAt : GoodIn wsX3_read wsX7_byteAt := goodIn_r _ [19, 15, 20, 59, 60] (by decide +kernel) (by decide +kernel)
set_option maxRecDepth 20000 in
theorem gX3_read_X7_byteAt : GoodIn wsX3_read (wsV RX3 34 RX7 yX7_byteAt wsX7_byteAt) := goodIn_app (goodIn_of _ (by decide +kernel)) ggX3_read_X7_byteAt
set_option maxRecDepth 20000 in
theorem ggX3_read_X3_stateBehind : GoodIn wsX3_read wsX3_stateBehind := goodIn_r _ [25, 1, 26, 27, 28, 29, 30, 31, 24, 32, 33, 34, 35, 36, 2, 3, 37, 38, 39, 7, 40, 9, 41, 42, 43, 44, 45, 46, 47, 48, 49, 50, 51, 52, 53, 54, 55, 56, 57, 58] (by decide +kernel) (by decide +kernel)
set_option maxRecDepth 20000 in
theorem gX3_read_X3_stateBehind : GoodIn wsX3_read (wsV RX3 38 RX3 yX3_stateBehind wsX3_stateBehind) := goodIn_app (goodIn_of _ (by decide +kernel)) ggX3_read_X3_stateBehind
set_option maxRecDepth 20000 in
theorem ggX3_read_X3_refuse : GoodIn wsX3_read wsX3_refuse := goodIn_r _ [36, 2, 3, 52, 53, 54] (by decide +kernel) (by decide +kernel)
set_option maxRecDepth 20000 in
theorem gX3_read_X3_refuse : GoodIn wsX3_read (wsV RX3 42 RX3 yX3_refuse wsX3_refuse) := goodIn_app (goodIn_of _ (by decide +kernel)) ggX3_read_X3_refuse
theorem dX3_read_0 : decode cX3_read 0 = .ok (.aload_n 0, 1) := by decide +kernel
theorem dX3_read_1 : decode cX3_read 1 = .ok (.getfield 12, 3) := by decide +kernel
theorem dX3_read_4 : decode cX3_read 4 = .ok (.invokevirtual 25, 3) := by decide +kernel
theorem dX3_read_7 : decode cX3_read 7 = .ok (.aload_n 0, 1) := by decide +kernel
theorem dX3_read_8 : decode cX3_read 8 = .ok (.iconst 0, 1) := by decide +kernel
theorem dX3_read_9 : decode cX3_read 9 = .ok (.putfield 18, 3) := by decide +kernel
theorem dX3_read_12 : decode cX3_read 12 = .ok (.aload_n 0, 1) := by decide +kernel
theorem dX3_read_13 : decode cX3_read 13 = .ok (.iconst (-1), 1) := by decide +kernel
theorem dX3_read_14 : decode cX3_read 14 = .ok (.putfield 22, 3) := by decide +kernel
theorem dX3_read_17 : decode cX3_read 17 = .ok (.iconst 0, 1) := by decide +kernel
theorem dX3_read_18 : decode cX3_read 18 = .ok (.istore_n 2, 1) := by decide +kernel
theorem dX3_read_19 : decode cX3_read 19 = .ok (.iconst 0, 1) := by decide +kernel
theorem dX3_read_20 : decode cX3_read 20 = .ok (.istore_n 3, 1) := by decide +kernel
theorem dX3_read_21 : decode cX3_read 21 = .ok (.iload_n 3, 1) := by decide +kernel
theorem dX3_read_22 : decode cX3_read 22 = .ok (.aload_n 1, 1) := by decide +kernel
theorem dX3_read_23 : decode cX3_read 23 = .ok (.invokevirtual 28, 3) := by decide +kernel
theorem dX3_read_26 : decode cX3_read 26 = .ok (.if_icmp .ge 28, 3) := by decide +kernel
theorem dX3_read_29 : decode cX3_read 29 = .ok (.aload_n 0, 1) := by decide +kernel
theorem dX3_read_30 : decode cX3_read 30 = .ok (.getfield 18, 3) := by decide +kernel
theorem dX3_read_33 : decode cX3_read 33 = .ok (.ifCond .ne 21, 3) := by decide +kernel
theorem dX3_read_36 : decode cX3_read 36 = .ok (.aload_n 0, 1) := by decide +kernel
theorem dX3_read_37 : decode cX3_read 37 = .ok (.iload_n 2, 1) := by decide +kernel
theorem dX3_read_38 : decode cX3_read 38 = .ok (.aload_n 1, 1) := by decide +kernel
theorem dX3_read_39 : decode cX3_read 39 = .ok (.iload_n 3, 1) := by decide +kernel
theorem dX3_read_40 : decode cX3_read 40 = .ok (.invokevirtual 34, 3) := by decide +kernel
theorem dX3_read_43 : decode cX3_read 43 = .ok (.iload_n 3, 1) := by decide +kernel
theorem dX3_read_44 : decode cX3_read 44 = .ok (.invokevirtual 38, 3) := by decide +kernel
theorem dX3_read_47 : decode cX3_read 47 = .ok (.istore_n 2, 1) := by decide +kernel
theorem dX3_read_48 : decode cX3_read 48 = .ok (.iinc 3 1, 3) := by decide +kernel
theorem dX3_read_51 : decode cX3_read 51 = .ok (.goto (-30), 3) := by decide +kernel
theorem dX3_read_54 : decode cX3_read 54 = .ok (.aload_n 0, 1) := by decide +kernel
theorem dX3_read_55 : decode cX3_read 55 = .ok (.getfield 18, 3) := by decide +kernel
theorem dX3_read_58 : decode cX3_read 58 = .ok (.ifCond .ne 17, 3) := by decide +kernel
theorem dX3_read_61 : decode cX3_read 61 = .ok (.iload_n 2, 1) := by decide +kernel
theorem dX3_read_62 : decode cX3_read 62 = .ok (.iconst 2, 1) := by decide +kernel
theorem dX3_read_63 : decode cX3_read 63 = .ok (.if_icmp .ne 12, 3) := by decide +kernel
theorem dX3_read_66 : decode cX3_read 66 = .ok (.aload_n 0, 1) := by decide +kernel
theorem dX3_read_67 : decode cX3_read 67 = .ok (.iconst 1, 1) := by decide +kernel
theorem dX3_read_68 : decode cX3_read 68 = .ok (.aload_n 1, 1) := by decide +kernel
theorem dX3_read_69 : decode cX3_read 69 = .ok (.invokevirtual 28, 3) := by decide +kernel
theorem dX3_read_72 : decode cX3_read 72 = .ok (.invokevirtual 42, 3) := by decide +kernel
theorem dX3_read_75 : decode cX3_read 75 = .ok (.return_, 1) := by decide +kernel
set_option maxRecDepth 20000 in
theorem ggX3_stateBehind_X10_isLetter : GoodIn wsX3_stateBehind wsX10_isLetter := goodIn_r _ [4] (by decide +kernel) (by decide +kernel)
set_option maxRecDepth 20000 in
theorem gX3_stateBehind_X10_isLetter_n46 : GoodIn wsX3_stateBehind (wsX10_isLetter) := ggX3_stateBehind_X10_isLetter
set_option maxRecDepth 20000 in
theorem ggX3_stateBehind_X3_stateBehindLetter : GoodIn wsX3_stateBehind wsX3_stateBehindLetter := goodIn_r _ [9, 1, 10, 11, 12, 8, 13, 14, 15, 16, 17, 18, 19, 20, 21, 22, 23, 24, 25, 26, 27, 28, 33, 34, 35, 36, 37, 38, 39] (by decide +kernel) (by decide +kernel)
set_option maxRecDepth 20000 in
theorem gX3_stateBehind_X3_stateBehindLetter : GoodIn wsX3_stateBehind (wsV RX3 50 RX3 yX3_stateBehindLetter wsX3_stateBehindLetter) := goodIn_app (goodIn_of _ (by decide +kernel)) ggX3_stateBehind_X3_stateBehindLetter
set_option maxRecDepth 20000 in
theorem ggX3_stateBehind_X9_close : GoodIn wsX3_stateBehind wsX9_close := goodIn_r _ [32, 21, 23, 36, 37, 38, 39] (by decide +kernel) (by decide +kernel)
set_option maxRecDepth 20000 in
theorem gX3_stateBehind_X9_close : GoodIn wsX3_stateBehind (wsV RX3 53 RX9 yX9_close wsX9_close) := goodIn_app (goodIn_of _ (by decide +kernel)) ggX3_stateBehind_X9_close
set_option maxRecDepth 20000 in
theorem ggX3_stateBehind_X3_refuse : GoodIn wsX3_stateBehind wsX3_refuse := goodIn_r _ [13, 14, 15, 33, 34, 35] (by decide +kernel) (by decide +kernel)
set_option maxRecDepth 20000 in
theorem gX3_stateBehind_X3_refuse : GoodIn wsX3_stateBehind (wsV RX3 42 RX3 yX3_refuse wsX3_refuse) := goodIn_app (goodIn_of _ (by decide +kernel)) ggX3_stateBehind_X3_refuse
theorem dX3_stateBehind_0 : decode cX3_stateBehind 0 = .ok (.iload_n 2, 1) := by decide +kernel
theorem dX3_stateBehind_1 : decode cX3_stateBehind 1 = .ok (.invokestatic 46, 3) := by decide +kernel
theorem dX3_stateBehind_4 : decode cX3_stateBehind 4 = .ok (.ifCond .eq 11, 3) := by decide +kernel
theorem dX3_stateBehind_7 : decode cX3_stateBehind 7 = .ok (.aload_n 0, 1) := by decide +kernel
theorem dX3_stateBehind_8 : decode cX3_stateBehind 8 = .ok (.iload_n 1, 1) := by decide +kernel
theorem dX3_stateBehind_9 : decode cX3_stateBehind 9 = .ok (.iload_n 2, 1) := by decide +kernel
theorem dX3_stateBehind_10 : decode cX3_stateBehind 10 = .ok (.iload_n 3, 1) := by decide +kernel
theorem dX3_stateBehind_11 : decode cX3_stateBehind 11 = .ok (.invokevirtual 50, 3) := by decide +kernel
theorem dX3_stateBehind_14 : decode cX3_stateBehind 14 = .ok (.ireturn, 1) := by decide +kernel
theorem dX3_stateBehind_15 : decode cX3_stateBehind 15 = .ok (.iload_n 2, 1) := by decide +kernel
theorem dX3_stateBehind_16 : decode cX3_stateBehind 16 = .ok (.bipush 32, 2) := by decide +kernel
theorem dX3_stateBehind_18 : decode cX3_stateBehind 18 = .ok (.if_icmp .eq 9, 3) := by decide +kernel
theorem dX3_stateBehind_21 : decode cX3_stateBehind 21 = .ok (.iload_n 2, 1) := by decide +kernel
theorem dX3_stateBehind_22 : decode cX3_stateBehind 22 = .ok (.bipush 10, 2) := by decide +kernel
theorem dX3_stateBehind_24 : decode cX3_stateBehind 24 = .ok (.if_icmp .ne 7, 3) := by decide +kernel
theorem dX3_stateBehind_27 : decode cX3_stateBehind 27 = .ok (.iconst 1, 1) := by decide +kernel
theorem dX3_stateBehind_28 : decode cX3_stateBehind 28 = .ok (.goto 4, 3) := by decide +kernel
theorem dX3_stateBehind_31 : decode cX3_stateBehind 31 = .ok (.iconst 0, 1) := by decide +kernel
theorem dX3_stateBehind_32 : decode cX3_stateBehind 32 = .ok (.istore 4, 2) := by decide +kernel
theorem dX3_stateBehind_34 : decode cX3_stateBehind 34 = .ok (.iload 4, 2) := by decide +kernel
theorem dX3_stateBehind_36 : decode cX3_stateBehind 36 = .ok (.ifCond .eq 10, 3) := by decide +kernel
theorem dX3_stateBehind_39 : decode cX3_stateBehind 39 = .ok (.iload_n 1, 1) := by decide +kernel
theorem dX3_stateBehind_40 : decode cX3_stateBehind 40 = .ok (.iconst 2, 1) := by decide +kernel
theorem dX3_stateBehind_41 : decode cX3_stateBehind 41 = .ok (.if_icmp .eq 5, 3) := by decide +kernel
theorem dX3_stateBehind_44 : decode cX3_stateBehind 44 = .ok (.iconst 0, 1) := by decide +kernel
theorem dX3_stateBehind_45 : decode cX3_stateBehind 45 = .ok (.ireturn, 1) := by decide +kernel
theorem dX3_stateBehind_46 : decode cX3_stateBehind 46 = .ok (.iload_n 2, 1) := by decide +kernel
theorem dX3_stateBehind_47 : decode cX3_stateBehind 47 = .ok (.bipush 44, 2) := by decide +kernel
theorem dX3_stateBehind_49 : decode cX3_stateBehind 49 = .ok (.if_icmp .eq 15, 3) := by decide +kernel
theorem dX3_stateBehind_52 : decode cX3_stateBehind 52 = .ok (.iload_n 2, 1) := by decide +kernel
theorem dX3_stateBehind_53 : decode cX3_stateBehind 53 = .ok (.bipush 46, 2) := by decide +kernel
theorem dX3_stateBehind_55 : decode cX3_stateBehind 55 = .ok (.if_icmp .eq 9, 3) := by decide +kernel
theorem dX3_stateBehind_58 : decode cX3_stateBehind 58 = .ok (.iload_n 2, 1) := by decide +kernel
theorem dX3_stateBehind_59 : decode cX3_stateBehind 59 = .ok (.bipush 47, 2) := by decide +kernel
theorem dX3_stateBehind_61 : decode cX3_stateBehind 61 = .ok (.if_icmp .ne 7, 3) := by decide +kernel
theorem dX3_stateBehind_64 : decode cX3_stateBehind 64 = .ok (.iconst 1, 1) := by decide +kernel
theorem dX3_stateBehind_65 : decode cX3_stateBehind 65 = .ok (.goto 4, 3) := by decide +kernel
theorem dX3_stateBehind_68 : decode cX3_stateBehind 68 = .ok (.iconst 0, 1) := by decide +kernel
theorem dX3_stateBehind_69 : decode cX3_stateBehind 69 = .ok (.istore 5, 2) := by decide +kernel
theorem dX3_stateBehind_71 : decode cX3_stateBehind 71 = .ok (.iload_n 1, 1) := by decide +kernel
theorem dX3_stateBehind_72 : decode cX3_stateBehind 72 = .ok (.iconst 1, 1) := by decide +kernel
theorem dX3_stateBehind_73 : decode cX3_stateBehind 73 = .ok (.if_icmp .ne 33, 3) := by decide +kernel
theorem dX3_stateBehind_76 : decode cX3_stateBehind 76 = .ok (.iload 5, 2) := by decide +kernel
theorem dX3_stateBehind_78 : decode cX3_stateBehind 78 = .ok (.ifCond .ne 9, 3) := by decide +kernel
theorem dX3_stateBehind_81 : decode cX3_stateBehind 81 = .ok (.iload_n 2, 1) := by decide +kernel
theorem dX3_stateBehind_82 : decode cX3_stateBehind 82 = .ok (.bipush 45, 2) := by decide +kernel
theorem dX3_stateBehind_84 : decode cX3_stateBehind 84 = .ok (.if_icmp .ne 22, 3) := by decide +kernel
theorem dX3_stateBehind_87 : decode cX3_stateBehind 87 = .ok (.aload_n 0, 1) := by decide +kernel
theorem dX3_stateBehind_88 : decode cX3_stateBehind 88 = .ok (.getfield 12, 3) := by decide +kernel
theorem dX3_stateBehind_91 : decode cX3_stateBehind 91 = .ok (.iload_n 2, 1) := by decide +kernel
theorem dX3_stateBehind_92 : decode cX3_stateBehind 92 = .ok (.invokevirtual 53, 3) := by decide +kernel
theorem dX3_stateBehind_95 : decode cX3_stateBehind 95 = .ok (.iload 5, 2) := by decide +kernel
theorem dX3_stateBehind_97 : decode cX3_stateBehind 97 = .ok (.ifCond .eq 7, 3) := by decide +kernel
theorem dX3_stateBehind_100 : decode cX3_stateBehind 100 = .ok (.iconst 3, 1) := by decide +kernel
theorem dX3_stateBehind_101 : decode cX3_stateBehind 101 = .ok (.goto 4, 3) := by decide +kernel
theorem dX3_stateBehind_104 : decode cX3_stateBehind 104 = .ok (.iconst 2, 1) := by decide +kernel
theorem dX3_stateBehind_105 : decode cX3_stateBehind 105 = .ok (.ireturn, 1) := by decide +kernel
theorem dX3_stateBehind_106 : decode cX3_stateBehind 106 = .ok (.aload_n 0, 1) := by decide +kernel
theorem dX3_stateBehind_107 : decode cX3_stateBehind 107 = .ok (.iconst 1, 1) := by decide +kernel
theorem dX3_stateBehind_108 : decode cX3_stateBehind 108 = .ok (.iload_n 3, 1) := by decide +kernel
theorem dX3_stateBehind_109 : decode cX3_stateBehind 109 = .ok (.invokevirtual 42, 3) := by decide +kernel
theorem dX3_stateBehind_112 : decode cX3_stateBehind 112 = .ok (.iload_n 1, 1) := by decide +kernel
theorem dX3_stateBehind_113 : decode cX3_stateBehind 113 = .ok (.ireturn, 1) := by decide +kernel
set_option maxRecDepth 20000 in
theorem ggX3_stateBehindLetter_X3_refuse : GoodIn wsX3_stateBehindLetter wsX3_refuse := goodIn_r _ [6, 7, 8, 22, 23, 24] (by decide +kernel) (by decide +kernel)
set_option maxRecDepth 20000 in
theorem gX3_stateBehindLetter_X3_refuse : GoodIn wsX3_stateBehindLetter (wsV RX3 42 RX3 yX3_refuse wsX3_refuse) := goodIn_app (goodIn_of _ (by decide +kernel)) ggX3_stateBehindLetter_X3_refuse
set_option maxRecDepth 20000 in
theorem ggX3_stateBehindLetter_X9_open : GoodIn wsX3_stateBehindLetter wsX9_open := goodIn_r _ [13, 14, 15, 16, 25, 26, 27, 28] (by decide +kernel) (by decide +kernel)
set_option maxRecDepth 20000 in
theorem gX3_stateBehindLetter_X9_open : GoodIn wsX3_stateBehindLetter (wsV RX3 57 RX9 yX9_open wsX9_open) := goodIn_app (goodIn_of _ (by decide +kernel)) ggX3_stateBehindLetter_X9_open
set_option maxRecDepth 20000 in
theorem ggX3_stateBehindLetter_X9_addLetter : GoodIn wsX3_stateBehindLetter wsX9_addLetter := goodIn_r _ [20, 14, 15, 21, 25, 26, 27, 28] (by decide +kernel) (by decide +kernel)
set_option maxRecDepth 20000 in
theorem gX3_stateBehindLetter_X9_addLetter : GoodIn wsX3_stateBehindLetter (wsV RX3 61 RX9 yX9_addLetter wsX9_addLetter) := goodIn_app (goodIn_of _ (by decide +kernel)) ggX3_stateBehindLetter_X9_addLetter
theorem dX3_stateBehindLetter_0 : decode cX3_stateBehindLetter 0 = .ok (.iload_n 1, 1) := by decide +kernel
theorem dX3_stateBehindLetter_1 : decode cX3_stateBehindLetter 1 = .ok (.iconst 3, 1) := by decide +kernel
theorem dX3_stateBehindLetter_2 : decode cX3_stateBehindLetter 2 = .ok (.if_icmp .ne 12, 3) := by decide +kernel
theorem dX3_stateBehindLetter_5 : decode cX3_stateBehindLetter 5 = .ok (.aload_n 0, 1) := by decide +kernel
theorem dX3_stateBehindLetter_6 : decode cX3_stateBehindLetter 6 = .ok (.iconst 1, 1) := by decide +kernel
theorem dX3_stateBehindLetter_7 : decode cX3_stateBehindLetter 7 = .ok (.iload_n 3, 1) := by decide +kernel
theorem dX3_stateBehindLetter_8 : decode cX3_stateBehindLetter 8 = .ok (.invokevirtual 42, 3) := by decide +kernel
theorem dX3_stateBehindLetter_11 : decode cX3_stateBehindLetter 11 = .ok (.goto 44, 3) := by decide +kernel
theorem dX3_stateBehindLetter_14 : decode cX3_stateBehindLetter 14 = .ok (.iload_n 1, 1) := by decide +kernel
theorem dX3_stateBehindLetter_15 : decode cX3_stateBehindLetter 15 = .ok (.iconst 1, 1) := by decide +kernel
theorem dX3_stateBehindLetter_16 : decode cX3_stateBehindLetter 16 = .ok (.if_icmp .eq 22, 3) := by decide +kernel
theorem dX3_stateBehindLetter_19 : decode cX3_stateBehindLetter 19 = .ok (.aload_n 0, 1) := by decide +kernel
theorem dX3_stateBehindLetter_20 : decode cX3_stateBehindLetter 20 = .ok (.getfield 12, 3) := by decide +kernel
theorem dX3_stateBehindLetter_23 : decode cX3_stateBehindLetter 23 = .ok (.invokevirtual 57, 3) := by decide +kernel
theorem dX3_stateBehindLetter_26 : decode cX3_stateBehindLetter 26 = .ok (.ifCond .ne 12, 3) := by decide +kernel
theorem dX3_stateBehindLetter_29 : decode cX3_stateBehindLetter 29 = .ok (.aload_n 0, 1) := by decide +kernel
theorem dX3_stateBehindLetter_30 : decode cX3_stateBehindLetter 30 = .ok (.iconst 3, 1) := by decide +kernel
theorem dX3_stateBehindLetter_31 : decode cX3_stateBehindLetter 31 = .ok (.iload_n 3, 1) := by decide +kernel
theorem dX3_stateBehindLetter_32 : decode cX3_stateBehindLetter 32 = .ok (.invokevirtual 42, 3) := by decide +kernel
theorem dX3_stateBehindLetter_35 : decode cX3_stateBehindLetter 35 = .ok (.goto 20, 3) := by decide +kernel
theorem dX3_stateBehindLetter_38 : decode cX3_stateBehindLetter 38 = .ok (.aload_n 0, 1) := by decide +kernel
theorem dX3_stateBehindLetter_39 : decode cX3_stateBehindLetter 39 = .ok (.getfield 12, 3) := by decide +kernel
theorem dX3_stateBehindLetter_42 : decode cX3_stateBehindLetter 42 = .ok (.iload_n 2, 1) := by decide +kernel
theorem dX3_stateBehindLetter_43 : decode cX3_stateBehindLetter 43 = .ok (.invokevirtual 61, 3) := by decide +kernel
theorem dX3_stateBehindLetter_46 : decode cX3_stateBehindLetter 46 = .ok (.ifCond .ne 9, 3) := by decide +kernel
theorem dX3_stateBehindLetter_49 : decode cX3_stateBehindLetter 49 = .ok (.aload_n 0, 1) := by decide +kernel
theorem dX3_stateBehindLetter_50 : decode cX3_stateBehindLetter 50 = .ok (.iconst 2, 1) := by decide +kernel
theorem dX3_stateBehindLetter_51 : decode cX3_stateBehindLetter 51 = .ok (.iload_n 3, 1) := by decide +kernel
theorem dX3_stateBehindLetter_52 : decode cX3_stateBehindLetter 52 = .ok (.invokevirtual 42, 3) := by decide +kernel
theorem dX3_stateBehindLetter_55 : decode cX3_stateBehindLetter 55 = .ok (.iconst 1, 1) := by decide +kernel
theorem dX3_stateBehindLetter_56 : decode cX3_stateBehindLetter 56 = .ok (.ireturn, 1) := by decide +kernel
theorem dX3_refuse_0 : decode cX3_refuse 0 = .ok (.aload_n 0, 1) := by decide +kernel
theorem dX3_refuse_1 : decode cX3_refuse 1 = .ok (.iload_n 1, 1) := by decide +kernel
theorem dX3_refuse_2 : decode cX3_refuse 2 = .ok (.putfield 18, 3) := by decide +kernel
theorem dX3_refuse_5 : decode cX3_refuse 5 = .ok (.aload_n 0, 1) := by decide +kernel
theorem dX3_refuse_6 : decode cX3_refuse 6 = .ok (.iload_n 2, 1) := by decide +kernel
theorem dX3_refuse_7 : decode cX3_refuse 7 = .ok (.putfield 22, 3) := by decide +kernel
theorem dX3_refuse_10 : decode cX3_refuse 10 = .ok (.return_, 1) := by decide +kernel
theorem dX4_init_0 : decode cX4_init 0 = .ok (.aload_n 0, 1) := by decide +kernel
theorem dX4_init_1 : decode cX4_init 1 = .ok (.invokespecial 3, 3) := by decide +kernel
theorem dX4_init_4 : decode cX4_init 4 = .ok (.aload_n 0, 1) := by decide +kernel
theorem dX4_init_5 : decode cX4_init 5 = .ok (.bipush 80, 2) := by decide +kernel
theorem dX4_init_7 : decode cX4_init 7 = .ok (.newarray .int, 2) := by decide +kernel
theorem dX4_init_9 : decode cX4_init 9 = .ok (.putfield 9, 3) := by decide +kernel
theorem dX4_init_12 : decode cX4_init 12 = .ok (.aload_n 0, 1) := by decide +kernel
theorem dX4_init_13 : decode cX4_init 13 = .ok (.sipush 4800, 3) := by decide +kernel
theorem dX4_init_16 : decode cX4_init 16 = .ok (.newarray .int, 2) := by decide +kernel
theorem dX4_init_18 : decode cX4_init 18 = .ok (.putfield 15, 3) := by decide +kernel
theorem dX4_init_21 : decode cX4_init 21 = .ok (.aload_n 0, 1) := by decide +kernel
theorem dX4_init_22 : decode cX4_init 22 = .ok (.aload_n 1, 1) := by decide +kernel
theorem dX4_init_23 : decode cX4_init 23 = .ok (.putfield 18, 3) := by decide +kernel
theorem dX4_init_26 : decode cX4_init 26 = .ok (.aload_n 0, 1) := by decide +kernel
theorem dX4_init_27 : decode cX4_init 27 = .ok (.aload_n 2, 1) := by decide +kernel
theorem dX4_init_28 : decode cX4_init 28 = .ok (.putfield 22, 3) := by decide +kernel
theorem dX4_init_31 : decode cX4_init 31 = .ok (.return_, 1) := by decide +kernel
set_option maxRecDepth 20000 in
theorem ggX4_weighLines_X6_units : GoodIn wsX4_weighLines wsX6_units := goodIn_r _ [8, 9, 94, 95, 96, 97, 98, 99, 100] (by decide +kernel) (by decide +kernel)
set_option maxRecDepth 20000 in
theorem gX4_weighLines_X6_units : GoodIn wsX4_weighLines (wsV RX4 26 RX6 yX6_units wsX6_units) := goodIn_app (goodIn_of _ (by decide +kernel)) ggX4_weighLines_X6_units
set_option maxRecDepth 20000 in
theorem ggX4_weighLines_X4_fits : GoodIn wsX4_weighLines wsX4_fits := goodIn_r _ [14, 1, 15, 4, 5, 6, 7, 8, 9, 16, 17, 18, 19, 20, 21, 22, 23, 24, 25, 26, 27, 28, 29, 30, 31, 32, 33, 34, 35, 36, 37, 38, 39, 40, 89, 90, 91, 92, 93, 94, 95, 96, 97, 98, 99, 100, 101, 102, 103, 104, 105, 106, 107] (by decide +kernel) (by decide +kernel)
set_option maxRecDepth 20000 in
theorem gX4_weighLines_X4_fits : GoodIn wsX4_weighLines (wsV RX4 32 RX4 yX4_fits wsX4_fits) := goodIn_app (goodIn_of _ (by decide +kernel)) ggX4_weighLines_X4_fits
set_option maxRecDepth 20000 in
theorem ggX4_weighLines_X4_place : GoodIn wsX4_weighLines wsX4_place := goodIn_r _ [43] (by decide +kernel) (by decide +kernel)
set_option maxRecDepth 20000 in
theorem gX4_weighLines_X4_place : GoodIn wsX4_weighLines (va_wsS RX4 36 yX4_place wsX4_place) := goodIn_app (goodIn_of _ (by decide +kernel)) ggX4_weighLines_X4_place
set_option maxRecDepth 20000 in
theorem ggX4_weighLines_X4_weigh : GoodIn wsX4_weighLines wsX4_weigh := goodIn_r _ [47, 1, 15, 4, 5, 6, 7, 8, 9, 16, 17, 18, 19, 20, 21, 22, 23, 24, 25, 26, 27, 28, 29, 30, 31, 32, 33, 34, 48, 49, 50, 51, 38, 52, 40, 53, 54, 55, 56, 57, 58, 59, 60, 61, 62, 63, 64, 13, 65, 66, 3, 67, 68, 69, 70, 2, 71, 72, 73, 74, 75, 76, 77, 78, 79, 80, 81, 82, 83, 84, 85, 86, 87, 88, 41, 42, 43, 89, 90, 91, 92, 93, 94, 95, 96, 97, 98, 99, 100, 101, 102, 103, 104, 105, 106, 107] (by decide +kernel) (by decide +kernel)
set_option maxRecDepth 20000 in
theorem gX4_weighLines_X4_weigh : GoodIn wsX4_weighLines (wsV RX4 40 RX4 yX4_weigh wsX4_weigh) := goodIn_app (goodIn_of _ (by decide +kernel)) ggX4_weighLines_X4_weigh
theorem dX4_weighLines_0 : decode cX4_weighLines 0 = .ok (.aload_n 0, 1) := by decide +kernel
theorem dX4_weighLines_1 : decode cX4_weighLines 1 = .ok (.getfield 18, 3) := by decide +kernel
theorem dX4_weighLines_4 : decode cX4_weighLines 4 = .ok (.invokevirtual 26, 3) := by decide +kernel
theorem dX4_weighLines_7 : decode cX4_weighLines 7 = .ok (.iconst 1, 1) := by decide +kernel
theorem dX4_weighLines_8 : decode cX4_weighLines 8 = .ok (.isub, 1) := by decide +kernel
theorem dX4_weighLines_9 : decode cX4_weighLines 9 = .ok (.istore_n 1, 1) := by decide +kernel
theorem dX4_weighLines_10 : decode cX4_weighLines 10 = .ok (.iload_n 1, 1) := by decide +kernel
theorem dX4_weighLines_11 : decode cX4_weighLines 11 = .ok (.ifCond .lt 57, 3) := by decide +kernel
theorem dX4_weighLines_14 : decode cX4_weighLines 14 = .ok (.iconst 0, 1) := by decide +kernel
theorem dX4_weighLines_15 : decode cX4_weighLines 15 = .ok (.istore_n 2, 1) := by decide +kernel
theorem dX4_weighLines_16 : decode cX4_weighLines 16 = .ok (.iload_n 2, 1) := by decide +kernel
theorem dX4_weighLines_17 : decode cX4_weighLines 17 = .ok (.bipush 60, 2) := by decide +kernel
theorem dX4_weighLines_19 : decode cX4_weighLines 19 = .ok (.if_icmp .ge 36, 3) := by decide +kernel
theorem dX4_weighLines_22 : decode cX4_weighLines 22 = .ok (.aload_n 0, 1) := by decide +kernel
theorem dX4_weighLines_23 : decode cX4_weighLines 23 = .ok (.iload_n 1, 1) := by decide +kernel
theorem dX4_weighLines_24 : decode cX4_weighLines 24 = .ok (.iload_n 2, 1) := by decide +kernel
theorem dX4_weighLines_25 : decode cX4_weighLines 25 = .ok (.iconst 1, 1) := by decide +kernel
theorem dX4_weighLines_26 : decode cX4_weighLines 26 = .ok (.iadd, 1) := by decide +kernel
theorem dX4_weighLines_27 : decode cX4_weighLines 27 = .ok (.invokevirtual 32, 3) := by decide +kernel
theorem dX4_weighLines_30 : decode cX4_weighLines 30 = .ok (.ifCond .eq 25, 3) := by decide +kernel
theorem dX4_weighLines_33 : decode cX4_weighLines 33 = .ok (.iinc 2 1, 3) := by decide +kernel
theorem dX4_weighLines_36 : decode cX4_weighLines 36 = .ok (.aload_n 0, 1) := by decide +kernel
theorem dX4_weighLines_37 : decode cX4_weighLines 37 = .ok (.getfield 15, 3) := by decide +kernel
theorem dX4_weighLines_40 : decode cX4_weighLines 40 = .ok (.iload_n 1, 1) := by decide +kernel
theorem dX4_weighLines_41 : decode cX4_weighLines 41 = .ok (.iload_n 2, 1) := by decide +kernel
theorem dX4_weighLines_42 : decode cX4_weighLines 42 = .ok (.invokestatic 36, 3) := by decide +kernel
theorem dX4_weighLines_45 : decode cX4_weighLines 45 = .ok (.aload_n 0, 1) := by decide +kernel
theorem dX4_weighLines_46 : decode cX4_weighLines 46 = .ok (.iload_n 1, 1) := by decide +kernel
theorem dX4_weighLines_47 : decode cX4_weighLines 47 = .ok (.iload_n 2, 1) := by decide +kernel
theorem dX4_weighLines_48 : decode cX4_weighLines 48 = .ok (.invokevirtual 40, 3) := by decide +kernel
theorem dX4_weighLines_51 : decode cX4_weighLines 51 = .ok (.iastore, 1) := by decide +kernel
theorem dX4_weighLines_52 : decode cX4_weighLines 52 = .ok (.goto (-36), 3) := by decide +kernel
theorem dX4_weighLines_55 : decode cX4_weighLines 55 = .ok (.aload_n 0, 1) := by decide +kernel
theorem dX4_weighLines_56 : decode cX4_weighLines 56 = .ok (.getfield 9, 3) := by decide +kernel
theorem dX4_weighLines_59 : decode cX4_weighLines 59 = .ok (.iload_n 1, 1) := by decide +kernel
theorem dX4_weighLines_60 : decode cX4_weighLines 60 = .ok (.iload_n 2, 1) := by decide +kernel
theorem dX4_weighLines_61 : decode cX4_weighLines 61 = .ok (.iastore, 1) := by decide +kernel
theorem dX4_weighLines_62 : decode cX4_weighLines 62 = .ok (.iinc 1 (-1), 3) := by decide +kernel
theorem dX4_weighLines_65 : decode cX4_weighLines 65 = .ok (.goto (-55), 3) := by decide +kernel
theorem dX4_weighLines_68 : decode cX4_weighLines 68 = .ok (.return_, 1) := by decide +kernel
set_option maxRecDepth 20000 in
theorem ggX4_putLines_X4_leastBelow : GoodIn wsX4_putLines wsX4_leastBelow := goodIn_r _ [7, 2, 1, 8, 9, 10, 11, 12, 13, 14, 15, 16, 17, 18, 19, 20, 21, 22, 23, 24, 25, 26, 27, 28, 29, 30, 31, 32, 33, 34, 35, 36, 37, 38, 39, 40, 41, 42, 43, 44, 45, 46, 47, 48, 49, 50, 51, 6, 52, 61, 62, 63, 64, 65, 66, 67, 68, 69, 70, 71, 72, 73, 74, 75, 76, 77, 78, 79] (by decide +kernel) (by decide +kernel)
set_option maxRecDepth 20000 in
theorem gX4_putLines_X4_leastBelow : GoodIn wsX4_putLines (wsV RX4 43 RX4 yX4_leastBelow wsX4_leastBelow) := goodIn_app (goodIn_of _ (by decide +kernel)) ggX4_putLines_X4_leastBelow
set_option maxRecDepth 20000 in
theorem ggX4_putLines_X6_units : GoodIn wsX4_putLines wsX6_units := goodIn_r _ [19, 20, 66, 67, 68, 69, 70, 71, 72] (by decide +kernel) (by decide +kernel)
set_option maxRecDepth 20000 in
theorem gX4_putLines_X6_units : GoodIn wsX4_putLines (wsV RX4 26 RX6 yX6_units wsX6_units) := goodIn_app (goodIn_of _ (by decide +kernel)) ggX4_putLines_X6_units
set_option maxRecDepth 20000 in
theorem ggX4_putLines_X5_addLine : GoodIn wsX4_putLines wsX5_addLine := goodIn_r _ [57, 58, 59, 60, 80, 81, 82, 83, 84, 85] (by decide +kernel) (by decide +kernel)
set_option maxRecDepth 20000 in
theorem gX4_putLines_X5_addLine : GoodIn wsX4_putLines (wsV RX4 51 RX5 yX5_addLine wsX5_addLine) := goodIn_app (goodIn_of _ (by decide +kernel)) ggX4_putLines_X5_addLine
set_option maxRecDepth 20000 in
theorem ggX4_putLines_X6_body : GoodIn wsX4_putLines wsX6_body := goodIn_r _ [33, 34, 25, 26, 27, 28, 18, 29, 20, 66, 67, 68, 69, 70, 71, 72] (by decide +kernel) (by decide +kernel)
set_option maxRecDepth 20000 in
theorem gX4_putLines_X6_body : GoodIn wsX4_putLines (wsV RX4 57 RX6 yX6_body wsX6_body) := goodIn_app (goodIn_of _ (by decide +kernel)) ggX4_putLines_X6_body
theorem dX4_putLines_0 : decode cX4_putLines 0 = .ok (.aload_n 0, 1) := by decide +kernel
theorem dX4_putLines_1 : decode cX4_putLines 1 = .ok (.iconst 0, 1) := by decide +kernel
theorem dX4_putLines_2 : decode cX4_putLines 2 = .ok (.iconst 0, 1) := by decide +kernel
theorem dX4_putLines_3 : decode cX4_putLines 3 = .ok (.iconst 0, 1) := by decide +kernel
theorem dX4_putLines_4 : decode cX4_putLines 4 = .ok (.invokevirtual 43, 3) := by decide +kernel
theorem dX4_putLines_7 : decode cX4_putLines 7 = .ok (.istore_n 2, 1) := by decide +kernel
theorem dX4_putLines_8 : decode cX4_putLines 8 = .ok (.iconst 0, 1) := by decide +kernel
theorem dX4_putLines_9 : decode cX4_putLines 9 = .ok (.istore_n 3, 1) := by decide +kernel
theorem dX4_putLines_10 : decode cX4_putLines 10 = .ok (.iconst 0, 1) := by decide +kernel
theorem dX4_putLines_11 : decode cX4_putLines 11 = .ok (.istore 4, 2) := by decide +kernel
theorem dX4_putLines_13 : decode cX4_putLines 13 = .ok (.iload 4, 2) := by decide +kernel
theorem dX4_putLines_15 : decode cX4_putLines 15 = .ok (.bipush 80, 2) := by decide +kernel
theorem dX4_putLines_17 : decode cX4_putLines 17 = .ok (.if_icmp .ge 58, 3) := by decide +kernel
theorem dX4_putLines_20 : decode cX4_putLines 20 = .ok (.iload_n 3, 1) := by decide +kernel
theorem dX4_putLines_21 : decode cX4_putLines 21 = .ok (.aload_n 0, 1) := by decide +kernel
theorem dX4_putLines_22 : decode cX4_putLines 22 = .ok (.getfield 18, 3) := by decide +kernel
theorem dX4_putLines_25 : decode cX4_putLines 25 = .ok (.invokevirtual 26, 3) := by decide +kernel
theorem dX4_putLines_28 : decode cX4_putLines 28 = .ok (.if_icmp .ge 47, 3) := by decide +kernel
theorem dX4_putLines_31 : decode cX4_putLines 31 = .ok (.aload_n 0, 1) := by decide +kernel
theorem dX4_putLines_32 : decode cX4_putLines 32 = .ok (.getfield 47, 3) := by decide +kernel
theorem dX4_putLines_35 : decode cX4_putLines 35 = .ok (.istore 5, 2) := by decide +kernel
theorem dX4_putLines_37 : decode cX4_putLines 37 = .ok (.aload_n 1, 1) := by decide +kernel
theorem dX4_putLines_38 : decode cX4_putLines 38 = .ok (.iload_n 3, 1) := by decide +kernel
theorem dX4_putLines_39 : decode cX4_putLines 39 = .ok (.iload 5, 2) := by decide +kernel
theorem dX4_putLines_41 : decode cX4_putLines 41 = .ok (.invokevirtual 51, 3) := by decide +kernel
theorem dX4_putLines_44 : decode cX4_putLines 44 = .ok (.aload_n 0, 1) := by decide +kernel
theorem dX4_putLines_45 : decode cX4_putLines 45 = .ok (.iload_n 3, 1) := by decide +kernel
theorem dX4_putLines_46 : decode cX4_putLines 46 = .ok (.aload_n 0, 1) := by decide +kernel
theorem dX4_putLines_47 : decode cX4_putLines 47 = .ok (.getfield 18, 3) := by decide +kernel
theorem dX4_putLines_50 : decode cX4_putLines 50 = .ok (.iload_n 3, 1) := by decide +kernel
theorem dX4_putLines_51 : decode cX4_putLines 51 = .ok (.iload 5, 2) := by decide +kernel
theorem dX4_putLines_53 : decode cX4_putLines 53 = .ok (.invokevirtual 57, 3) := by decide +kernel
theorem dX4_putLines_56 : decode cX4_putLines 56 = .ok (.iload_n 3, 1) := by decide +kernel
theorem dX4_putLines_57 : decode cX4_putLines 57 = .ok (.iload 5, 2) := by decide +kernel
theorem dX4_putLines_59 : decode cX4_putLines 59 = .ok (.iadd, 1) := by decide +kernel
theorem dX4_putLines_60 : decode cX4_putLines 60 = .ok (.invokevirtual 43, 3) := by decide +kernel
theorem dX4_putLines_63 : decode cX4_putLines 63 = .ok (.pop, 1) := by decide +kernel
theorem dX4_putLines_64 : decode cX4_putLines 64 = .ok (.iload_n 3, 1) := by decide +kernel
theorem dX4_putLines_65 : decode cX4_putLines 65 = .ok (.iload 5, 2) := by decide +kernel
theorem dX4_putLines_67 : decode cX4_putLines 67 = .ok (.iadd, 1) := by decide +kernel
theorem dX4_putLines_68 : decode cX4_putLines 68 = .ok (.istore_n 3, 1) := by decide +kernel
theorem dX4_putLines_69 : decode cX4_putLines 69 = .ok (.iinc 4 1, 3) := by decide +kernel
theorem dX4_putLines_72 : decode cX4_putLines 72 = .ok (.goto (-59), 3) := by decide +kernel
theorem dX4_putLines_75 : decode cX4_putLines 75 = .ok (.iload_n 2, 1) := by decide +kernel
theorem dX4_putLines_76 : decode cX4_putLines 76 = .ok (.ireturn, 1) := by decide +kernel
set_option maxRecDepth 20000 in
theorem ggX4_fits_X6_units : GoodIn wsX4_fits wsX6_units := goodIn_r _ [7, 8, 39, 40, 41, 42, 43, 44, 45] (by decide +kernel) (by decide +kernel)
set_option maxRecDepth 20000 in
theorem gX4_fits_X6_units : GoodIn wsX4_fits (wsV RX4 26 RX6 yX6_units wsX6_units) := goodIn_app (goodIn_of _ (by decide +kernel)) ggX4_fits_X6_units
set_option maxRecDepth 20000 in
theorem ggX4_fits_X6_signsOf : GoodIn wsX4_fits wsX6_signsOf := goodIn_r _ [12, 13, 14, 15, 6, 16, 17, 18, 19, 20, 21, 22, 8, 23, 24, 25, 26, 27, 39, 40, 41, 42, 43, 44, 45] (by decide +kernel) (by decide +kernel)
set_option maxRecDepth 20000 in
theorem gX4_fits_X6_signsOf : GoodIn wsX4_fits (wsV RX4 60 RX6 yX6_signsOf wsX6_signsOf) := goodIn_app (goodIn_of _ (by decide +kernel)) ggX4_fits_X6_signsOf
set_option maxRecDepth 20000 in
theorem ggX4_fits_X1_longest : GoodIn wsX4_fits wsX1_longest := goodIn_r _ [32, 33, 46, 47, 48, 49, 50, 51, 52] (by decide +kernel) (by decide +kernel)
set_option maxRecDepth 20000 in
theorem gX4_fits_X1_longest : GoodIn wsX4_fits (wsV RX4 63 RX1 yX1_longest wsX1_longest) := goodIn_app (goodIn_of _ (by decide +kernel)) ggX4_fits_X1_longest
theorem dX4_fits_0 : decode cX4_fits 0 = .ok (.iload_n 1, 1) := by decide +kernel
theorem dX4_fits_1 : decode cX4_fits 1 = .ok (.iload_n 2, 1) := by decide +kernel
theorem dX4_fits_2 : decode cX4_fits 2 = .ok (.iadd, 1) := by decide +kernel
theorem dX4_fits_3 : decode cX4_fits 3 = .ok (.aload_n 0, 1) := by decide +kernel
theorem dX4_fits_4 : decode cX4_fits 4 = .ok (.getfield 18, 3) := by decide +kernel
theorem dX4_fits_7 : decode cX4_fits 7 = .ok (.invokevirtual 26, 3) := by decide +kernel
theorem dX4_fits_10 : decode cX4_fits 10 = .ok (.if_icmp .gt 26, 3) := by decide +kernel
theorem dX4_fits_13 : decode cX4_fits 13 = .ok (.aload_n 0, 1) := by decide +kernel
theorem dX4_fits_14 : decode cX4_fits 14 = .ok (.getfield 18, 3) := by decide +kernel
theorem dX4_fits_17 : decode cX4_fits 17 = .ok (.iload_n 1, 1) := by decide +kernel
theorem dX4_fits_18 : decode cX4_fits 18 = .ok (.iload_n 2, 1) := by decide +kernel
theorem dX4_fits_19 : decode cX4_fits 19 = .ok (.invokevirtual 60, 3) := by decide +kernel
theorem dX4_fits_22 : decode cX4_fits 22 = .ok (.aload_n 0, 1) := by decide +kernel
theorem dX4_fits_23 : decode cX4_fits 23 = .ok (.getfield 22, 3) := by decide +kernel
theorem dX4_fits_26 : decode cX4_fits 26 = .ok (.invokevirtual 63, 3) := by decide +kernel
theorem dX4_fits_29 : decode cX4_fits 29 = .ok (.if_icmp .gt 7, 3) := by decide +kernel
theorem dX4_fits_32 : decode cX4_fits 32 = .ok (.iconst 1, 1) := by decide +kernel
theorem dX4_fits_33 : decode cX4_fits 33 = .ok (.goto 4, 3) := by decide +kernel
theorem dX4_fits_36 : decode cX4_fits 36 = .ok (.iconst 0, 1) := by decide +kernel
theorem dX4_fits_37 : decode cX4_fits 37 = .ok (.ireturn, 1) := by decide +kernel
set_option maxRecDepth 20000 in
theorem ggX4_weigh_X6_units : GoodIn wsX4_weigh wsX6_units := goodIn_r _ [7, 8, 82, 83, 84, 85, 86, 87, 88] (by decide +kernel) (by decide +kernel)
set_option maxRecDepth 20000 in
theorem gX4_weigh_X6_units : GoodIn wsX4_weigh (wsV RX4 26 RX6 yX6_units wsX6_units) := goodIn_app (goodIn_of _ (by decide +kernel)) ggX4_weigh_X6_units
set_option maxRecDepth 20000 in
theorem ggX4_weigh_X6_signsOf : GoodIn wsX4_weigh wsX6_signsOf := goodIn_r _ [12, 13, 14, 15, 6, 16, 17, 18, 19, 20, 21, 22, 8, 23, 24, 25, 26, 27, 82, 83, 84, 85, 86, 87, 88] (by decide +kernel) (by decide +kernel)
set_option maxRecDepth 20000 in
theorem gX4_weigh_X6_signsOf : GoodIn wsX4_weigh (wsV RX4 60 RX6 yX6_signsOf wsX6_signsOf) := goodIn_app (goodIn_of _ (by decide +kernel)) ggX4_weigh_X6_signsOf
set_option maxRecDepth 20000 in
theorem ggX4_weigh_X6_behindLine : GoodIn wsX4_weigh wsX6_behindLine := goodIn_r _ [26, 27, 19, 20, 21, 6, 22, 8, 82, 83, 84, 85, 86, 87, 88] (by decide +kernel) (by decide +kernel)
set_option maxRecDepth 20000 in
theorem gX4_weigh_X6_behindLine : GoodIn wsX4_weigh (wsV RX4 68 RX6 yX6_behindLine wsX6_behindLine) := goodIn_app (goodIn_of _ (by decide +kernel)) ggX4_weigh_X6_behindLine
set_option maxRecDepth 20000 in
theorem ggX4_weigh_X1_strainOfLine : GoodIn wsX4_weigh wsX1_strainOfLine := goodIn_r _ [33, 34, 35, 36, 37, 38, 32, 39, 40, 41, 42, 89, 90, 91, 92, 93, 94, 95] (by decide +kernel) (by decide +kernel)
set_option maxRecDepth 20000 in
theorem gX4_weigh_X1_strainOfLine : GoodIn wsX4_weigh (wsV RX4 71 RX1 yX1_strainOfLine wsX1_strainOfLine) := goodIn_app (goodIn_of _ (by decide +kernel)) ggX4_weigh_X1_strainOfLine
set_option maxRecDepth 20000 in
theorem ggX4_weigh_X6_body : GoodIn wsX4_weigh wsX6_body := goodIn_r _ [16, 17, 18, 19, 20, 21, 6, 22, 8, 82, 83, 84, 85, 86, 87, 88] (by decide +kernel) (by decide +kernel)
set_option maxRecDepth 20000 in
theorem gX4_weigh_X6_body : GoodIn wsX4_weigh (wsV RX4 57 RX6 yX6_body wsX6_body) := goodIn_app (goodIn_of _ (by decide +kernel)) ggX4_weigh_X6_body
set_option maxRecDepth 20000 in
theorem ggX4_weigh_X4_leastBelow : GoodIn wsX4_weigh wsX4_leastBelow := goodIn_r _ [48, 49, 1, 50, 51, 52, 53, 54, 2, 55, 3, 4, 5, 6, 7, 8, 56, 57, 58, 59, 18, 19, 20, 21, 22, 43, 14, 15, 16, 17, 60, 61, 62, 63, 64, 65, 66, 67, 68, 32, 69, 70, 71, 72, 73, 74, 75, 47, 76, 77, 78, 79, 80, 81, 82, 83, 84, 85, 86, 87, 88, 89, 90, 91, 92, 93, 94, 95] (by decide +kernel) (by decide +kernel)
set_option maxRecDepth 20000 in
theorem gX4_weigh_X4_leastBelow : GoodIn wsX4_weigh (wsV RX4 43 RX4 yX4_leastBelow wsX4_leastBelow) := goodIn_app (goodIn_of _ (by decide +kernel)) ggX4_weigh_X4_leastBelow
theorem dX4_weigh_0 : decode cX4_weigh 0 = .ok (.iload_n 1, 1) := by decide +kernel
theorem dX4_weigh_1 : decode cX4_weigh 1 = .ok (.iload_n 2, 1) := by decide +kernel
theorem dX4_weigh_2 : decode cX4_weigh 2 = .ok (.iadd, 1) := by decide +kernel
theorem dX4_weigh_3 : decode cX4_weigh 3 = .ok (.istore_n 3, 1) := by decide +kernel
theorem dX4_weigh_4 : decode cX4_weigh 4 = .ok (.iload_n 3, 1) := by decide +kernel
theorem dX4_weigh_5 : decode cX4_weigh 5 = .ok (.aload_n 0, 1) := by decide +kernel
theorem dX4_weigh_6 : decode cX4_weigh 6 = .ok (.getfield 18, 3) := by decide +kernel
theorem dX4_weigh_9 : decode cX4_weigh 9 = .ok (.invokevirtual 26, 3) := by decide +kernel
theorem dX4_weigh_12 : decode cX4_weigh 12 = .ok (.if_icmp .lt 5, 3) := by decide +kernel
theorem dX4_weigh_15 : decode cX4_weigh 15 = .ok (.iconst 0, 1) := by decide +kernel
theorem dX4_weigh_16 : decode cX4_weigh 16 = .ok (.ireturn, 1) := by decide +kernel
theorem dX4_weigh_17 : decode cX4_weigh 17 = .ok (.aload_n 0, 1) := by decide +kernel
theorem dX4_weigh_18 : decode cX4_weigh 18 = .ok (.getfield 22, 3) := by decide +kernel
theorem dX4_weigh_21 : decode cX4_weigh 21 = .ok (.aload_n 0, 1) := by decide +kernel
theorem dX4_weigh_22 : decode cX4_weigh 22 = .ok (.getfield 18, 3) := by decide +kernel
theorem dX4_weigh_25 : decode cX4_weigh 25 = .ok (.iload_n 1, 1) := by decide +kernel
theorem dX4_weigh_26 : decode cX4_weigh 26 = .ok (.iload_n 2, 1) := by decide +kernel
theorem dX4_weigh_27 : decode cX4_weigh 27 = .ok (.invokevirtual 60, 3) := by decide +kernel
theorem dX4_weigh_30 : decode cX4_weigh 30 = .ok (.aload_n 0, 1) := by decide +kernel
theorem dX4_weigh_31 : decode cX4_weigh 31 = .ok (.getfield 18, 3) := by decide +kernel
theorem dX4_weigh_34 : decode cX4_weigh 34 = .ok (.iload_n 1, 1) := by decide +kernel
theorem dX4_weigh_35 : decode cX4_weigh 35 = .ok (.iload_n 2, 1) := by decide +kernel
theorem dX4_weigh_36 : decode cX4_weigh 36 = .ok (.invokevirtual 68, 3) := by decide +kernel
theorem dX4_weigh_39 : decode cX4_weigh 39 = .ok (.invokevirtual 71, 3) := by decide +kernel
theorem dX4_weigh_42 : decode cX4_weigh 42 = .ok (.aload_n 0, 1) := by decide +kernel
theorem dX4_weigh_43 : decode cX4_weigh 43 = .ok (.iload_n 1, 1) := by decide +kernel
theorem dX4_weigh_44 : decode cX4_weigh 44 = .ok (.aload_n 0, 1) := by decide +kernel
theorem dX4_weigh_45 : decode cX4_weigh 45 = .ok (.getfield 18, 3) := by decide +kernel
theorem dX4_weigh_48 : decode cX4_weigh 48 = .ok (.iload_n 1, 1) := by decide +kernel
theorem dX4_weigh_49 : decode cX4_weigh 49 = .ok (.iload_n 2, 1) := by decide +kernel
theorem dX4_weigh_50 : decode cX4_weigh 50 = .ok (.invokevirtual 57, 3) := by decide +kernel
theorem dX4_weigh_53 : decode cX4_weigh 53 = .ok (.iload_n 3, 1) := by decide +kernel
theorem dX4_weigh_54 : decode cX4_weigh 54 = .ok (.invokevirtual 43, 3) := by decide +kernel
theorem dX4_weigh_57 : decode cX4_weigh 57 = .ok (.iadd, 1) := by decide +kernel
theorem dX4_weigh_58 : decode cX4_weigh 58 = .ok (.ireturn, 1) := by decide +kernel
set_option maxRecDepth 20000 in
theorem ggX4_leastBelow_X6_units : GoodIn wsX4_leastBelow wsX6_units := goodIn_r _ [14, 15, 54, 55, 56, 57, 58, 59, 60] (by decide +kernel) (by decide +kernel)
set_option maxRecDepth 20000 in
theorem gX4_leastBelow_X6_units : GoodIn wsX4_leastBelow (wsV RX4 26 RX6 yX6_units wsX6_units) := goodIn_app (goodIn_of _ (by decide +kernel)) ggX4_leastBelow_X6_units
set_option maxRecDepth 20000 in
theorem ggX4_leastBelow_X6_beginOf : GoodIn wsX4_leastBelow wsX6_beginOf := goodIn_r _ [19, 20, 21, 22, 23, 13, 24, 15, 54, 55, 56, 57, 58, 59, 60] (by decide +kernel) (by decide +kernel)
set_option maxRecDepth 20000 in
theorem gX4_leastBelow_X6_beginOf : GoodIn wsX4_leastBelow (wsV RX4 74 RX6 yX6_beginOf wsX6_beginOf) := goodIn_app (goodIn_of _ (by decide +kernel)) ggX4_leastBelow_X6_beginOf
set_option maxRecDepth 20000 in
theorem ggX4_leastBelow_X6_body : GoodIn wsX4_leastBelow wsX6_body := goodIn_r _ [28, 29, 20, 21, 22, 23, 13, 24, 15, 54, 55, 56, 57, 58, 59, 60] (by decide +kernel) (by decide +kernel)
set_option maxRecDepth 20000 in
theorem gX4_leastBelow_X6_body : GoodIn wsX4_leastBelow (wsV RX4 57 RX6 yX6_body wsX6_body) := goodIn_app (goodIn_of _ (by decide +kernel)) ggX4_leastBelow_X6_body
set_option maxRecDepth 20000 in
theorem ggX4_leastBelow_X6_strainOfPlaces : GoodIn wsX4_leastBelow wsX6_strainOfPlaces := goodIn_r _ [33, 34, 35, 36, 37, 38, 39, 40, 41, 42, 43, 44, 54, 55, 56, 57, 58, 59, 60, 61, 62, 63, 64, 65, 66, 67] (by decide +kernel) (by decide +kernel)
set_option maxRecDepth 20000 in
theorem gX4_leastBelow_X6_strainOfPlaces : GoodIn wsX4_leastBelow (wsV RX4 83 RX6 yX6_strainOfPlaces wsX6_strainOfPlaces) := goodIn_app (goodIn_of _ (by decide +kernel)) ggX4_leastBelow_X6_strainOfPlaces
set_option maxRecDepth 20000 in
theorem ggX4_leastBelow_X4_place : GoodIn wsX4_leastBelow wsX4_place := goodIn_r _ [48] (by decide +kernel) (by decide +kernel)
set_option maxRecDepth 20000 in
theorem gX4_leastBelow_X4_place : GoodIn wsX4_leastBelow (va_wsS RX4 36 yX4_place wsX4_place) := goodIn_app (goodIn_of _ (by decide +kernel)) ggX4_leastBelow_X4_place
theorem dX4_leastBelow_0 : decode cX4_leastBelow 0 = .ok (.aload_n 0, 1) := by decide +kernel
theorem dX4_leastBelow_1 : decode cX4_leastBelow 1 = .ok (.iconst 0, 1) := by decide +kernel
theorem dX4_leastBelow_2 : decode cX4_leastBelow 2 = .ok (.putfield 47, 3) := by decide +kernel
theorem dX4_leastBelow_5 : decode cX4_leastBelow 5 = .ok (.iconst 0, 1) := by decide +kernel
theorem dX4_leastBelow_6 : decode cX4_leastBelow 6 = .ok (.istore 4, 2) := by decide +kernel
theorem dX4_leastBelow_8 : decode cX4_leastBelow 8 = .ok (.iload_n 3, 1) := by decide +kernel
theorem dX4_leastBelow_9 : decode cX4_leastBelow 9 = .ok (.aload_n 0, 1) := by decide +kernel
theorem dX4_leastBelow_10 : decode cX4_leastBelow 10 = .ok (.getfield 18, 3) := by decide +kernel
theorem dX4_leastBelow_13 : decode cX4_leastBelow 13 = .ok (.invokevirtual 26, 3) := by decide +kernel
theorem dX4_leastBelow_16 : decode cX4_leastBelow 16 = .ok (.if_icmp .lt 6, 3) := by decide +kernel
theorem dX4_leastBelow_19 : decode cX4_leastBelow 19 = .ok (.iload 4, 2) := by decide +kernel
theorem dX4_leastBelow_21 : decode cX4_leastBelow 21 = .ok (.ireturn, 1) := by decide +kernel
theorem dX4_leastBelow_22 : decode cX4_leastBelow 22 = .ok (.aload_n 0, 1) := by decide +kernel
theorem dX4_leastBelow_23 : decode cX4_leastBelow 23 = .ok (.getfield 18, 3) := by decide +kernel
theorem dX4_leastBelow_26 : decode cX4_leastBelow 26 = .ok (.iload_n 1, 1) := by decide +kernel
theorem dX4_leastBelow_27 : decode cX4_leastBelow 27 = .ok (.invokevirtual 74, 3) := by decide +kernel
theorem dX4_leastBelow_30 : decode cX4_leastBelow 30 = .ok (.istore 5, 2) := by decide +kernel
theorem dX4_leastBelow_32 : decode cX4_leastBelow 32 = .ok (.aload_n 0, 1) := by decide +kernel
theorem dX4_leastBelow_33 : decode cX4_leastBelow 33 = .ok (.getfield 18, 3) := by decide +kernel
theorem dX4_leastBelow_36 : decode cX4_leastBelow 36 = .ok (.iload_n 3, 1) := by decide +kernel
theorem dX4_leastBelow_37 : decode cX4_leastBelow 37 = .ok (.invokevirtual 74, 3) := by decide +kernel
theorem dX4_leastBelow_40 : decode cX4_leastBelow 40 = .ok (.istore 6, 2) := by decide +kernel
theorem dX4_leastBelow_42 : decode cX4_leastBelow 42 = .ok (.iconst 0, 1) := by decide +kernel
theorem dX4_leastBelow_43 : decode cX4_leastBelow 43 = .ok (.istore 7, 2) := by decide +kernel
theorem dX4_leastBelow_45 : decode cX4_leastBelow 45 = .ok (.iconst 0, 1) := by decide +kernel
theorem dX4_leastBelow_46 : decode cX4_leastBelow 46 = .ok (.istore 8, 2) := by decide +kernel
theorem dX4_leastBelow_48 : decode cX4_leastBelow 48 = .ok (.iconst 1, 1) := by decide +kernel
theorem dX4_leastBelow_49 : decode cX4_leastBelow 49 = .ok (.istore 9, 2) := by decide +kernel
theorem dX4_leastBelow_51 : decode cX4_leastBelow 51 = .ok (.iload 9, 2) := by decide +kernel
theorem dX4_leastBelow_53 : decode cX4_leastBelow 53 = .ok (.aload_n 0, 1) := by decide +kernel
theorem dX4_leastBelow_54 : decode cX4_leastBelow 54 = .ok (.getfield 9, 3) := by decide +kernel
theorem dX4_leastBelow_57 : decode cX4_leastBelow 57 = .ok (.iload_n 3, 1) := by decide +kernel
theorem dX4_leastBelow_58 : decode cX4_leastBelow 58 = .ok (.iaload, 1) := by decide +kernel
theorem dX4_leastBelow_59 : decode cX4_leastBelow 59 = .ok (.if_icmp .gt 93, 3) := by decide +kernel
theorem dX4_leastBelow_62 : decode cX4_leastBelow 62 = .ok (.iload_n 2, 1) := by decide +kernel
theorem dX4_leastBelow_63 : decode cX4_leastBelow 63 = .ok (.aload_n 0, 1) := by decide +kernel
theorem dX4_leastBelow_64 : decode cX4_leastBelow 64 = .ok (.getfield 18, 3) := by decide +kernel
theorem dX4_leastBelow_67 : decode cX4_leastBelow 67 = .ok (.iload_n 3, 1) := by decide +kernel
theorem dX4_leastBelow_68 : decode cX4_leastBelow 68 = .ok (.iload 9, 2) := by decide +kernel
theorem dX4_leastBelow_70 : decode cX4_leastBelow 70 = .ok (.invokevirtual 57, 3) := by decide +kernel
theorem dX4_leastBelow_73 : decode cX4_leastBelow 73 = .ok (.invokestatic 78, 3) := by decide +kernel
theorem dX4_leastBelow_76 : decode cX4_leastBelow 76 = .ok (.istore 10, 2) := by decide +kernel
theorem dX4_leastBelow_78 : decode cX4_leastBelow 78 = .ok (.iload 8, 2) := by decide +kernel
theorem dX4_leastBelow_80 : decode cX4_leastBelow 80 = .ok (.aload_n 0, 1) := by decide +kernel
theorem dX4_leastBelow_81 : decode cX4_leastBelow 81 = .ok (.getfield 18, 3) := by decide +kernel
theorem dX4_leastBelow_84 : decode cX4_leastBelow 84 = .ok (.iload 5, 2) := by decide +kernel
theorem dX4_leastBelow_86 : decode cX4_leastBelow 86 = .ok (.iload 6, 2) := by decide +kernel
theorem dX4_leastBelow_88 : decode cX4_leastBelow 88 = .ok (.iload 7, 2) := by decide +kernel
theorem dX4_leastBelow_90 : decode cX4_leastBelow 90 = .ok (.iload 10, 2) := by decide +kernel
theorem dX4_leastBelow_92 : decode cX4_leastBelow 92 = .ok (.aload_n 0, 1) := by decide +kernel
theorem dX4_leastBelow_93 : decode cX4_leastBelow 93 = .ok (.getfield 22, 3) := by decide +kernel
theorem dX4_leastBelow_96 : decode cX4_leastBelow 96 = .ok (.invokevirtual 83, 3) := by decide +kernel
theorem dX4_leastBelow_99 : decode cX4_leastBelow 99 = .ok (.iadd, 1) := by decide +kernel
theorem dX4_leastBelow_100 : decode cX4_leastBelow 100 = .ok (.istore 8, 2) := by decide +kernel
theorem dX4_leastBelow_102 : decode cX4_leastBelow 102 = .ok (.iload 10, 2) := by decide +kernel
theorem dX4_leastBelow_104 : decode cX4_leastBelow 104 = .ok (.istore 7, 2) := by decide +kernel
theorem dX4_leastBelow_106 : decode cX4_leastBelow 106 = .ok (.iload 8, 2) := by decide +kernel
theorem dX4_leastBelow_108 : decode cX4_leastBelow 108 = .ok (.aload_n 0, 1) := by decide +kernel
theorem dX4_leastBelow_109 : decode cX4_leastBelow 109 = .ok (.getfield 15, 3) := by decide +kernel
theorem dX4_leastBelow_112 : decode cX4_leastBelow 112 = .ok (.iload_n 3, 1) := by decide +kernel
theorem dX4_leastBelow_113 : decode cX4_leastBelow 113 = .ok (.iload 9, 2) := by decide +kernel
theorem dX4_leastBelow_115 : decode cX4_leastBelow 115 = .ok (.invokestatic 36, 3) := by decide +kernel
theorem dX4_leastBelow_118 : decode cX4_leastBelow 118 = .ok (.iaload, 1) := by decide +kernel
theorem dX4_leastBelow_119 : decode cX4_leastBelow 119 = .ok (.iadd, 1) := by decide +kernel
theorem dX4_leastBelow_120 : decode cX4_leastBelow 120 = .ok (.istore 11, 2) := by decide +kernel
theorem dX4_leastBelow_122 : decode cX4_leastBelow 122 = .ok (.aload_n 0, 1) := by decide +kernel
theorem dX4_leastBelow_123 : decode cX4_leastBelow 123 = .ok (.getfield 47, 3) := by decide +kernel
theorem dX4_leastBelow_126 : decode cX4_leastBelow 126 = .ok (.ifCond .eq 10, 3) := by decide +kernel
theorem dX4_leastBelow_129 : decode cX4_leastBelow 129 = .ok (.iload 11, 2) := by decide +kernel
theorem dX4_leastBelow_131 : decode cX4_leastBelow 131 = .ok (.iload 4, 2) := by decide +kernel
theorem dX4_leastBelow_133 : decode cX4_leastBelow 133 = .ok (.if_icmp .gt 13, 3) := by decide +kernel
theorem dX4_leastBelow_136 : decode cX4_leastBelow 136 = .ok (.iload 11, 2) := by decide +kernel
theorem dX4_leastBelow_138 : decode cX4_leastBelow 138 = .ok (.istore 4, 2) := by decide +kernel
theorem dX4_leastBelow_140 : decode cX4_leastBelow 140 = .ok (.aload_n 0, 1) := by decide +kernel
theorem dX4_leastBelow_141 : decode cX4_leastBelow 141 = .ok (.iload 9, 2) := by decide +kernel
theorem dX4_leastBelow_143 : decode cX4_leastBelow 143 = .ok (.putfield 47, 3) := by decide +kernel
theorem dX4_leastBelow_146 : decode cX4_leastBelow 146 = .ok (.iinc 9 1, 3) := by decide +kernel
theorem dX4_leastBelow_149 : decode cX4_leastBelow 149 = .ok (.goto (-98), 3) := by decide +kernel
theorem dX4_leastBelow_152 : decode cX4_leastBelow 152 = .ok (.iload 4, 2) := by decide +kernel
theorem dX4_leastBelow_154 : decode cX4_leastBelow 154 = .ok (.ireturn, 1) := by decide +kernel
theorem dX4_place_0 : decode cX4_place 0 = .ok (.iload_n 0, 1) := by decide +kernel
theorem dX4_place_1 : decode cX4_place 1 = .ok (.bipush 60, 2) := by decide +kernel
theorem dX4_place_3 : decode cX4_place 3 = .ok (.imul, 1) := by decide +kernel
theorem dX4_place_4 : decode cX4_place 4 = .ok (.iload_n 1, 1) := by decide +kernel
theorem dX4_place_5 : decode cX4_place 5 = .ok (.iadd, 1) := by decide +kernel
theorem dX4_place_6 : decode cX4_place 6 = .ok (.iconst 1, 1) := by decide +kernel
theorem dX4_place_7 : decode cX4_place 7 = .ok (.isub, 1) := by decide +kernel
theorem dX4_place_8 : decode cX4_place 8 = .ok (.ireturn, 1) := by decide +kernel
set_option maxRecDepth 20000 in
theorem ggX5_init_X6_init : GoodIn wsX5_init wsX6_init := goodIn_r _ [12, 13, 2, 3, 8, 14, 15, 16, 17, 18, 19, 20, 21, 22, 23, 24, 25] (by decide +kernel) (by decide +kernel)
set_option maxRecDepth 20000 in
theorem gX5_init_X6_init_n11 : GoodIn wsX5_init (wsX6_init) := ggX5_init_X6_init
theorem dX5_init_0 : decode cX5_init 0 = .ok (.aload_n 0, 1) := by decide +kernel
theorem dX5_init_1 : decode cX5_init 1 = .ok (.invokespecial 3, 3) := by decide +kernel
theorem dX5_init_4 : decode cX5_init 4 = .ok (.aload_n 0, 1) := by decide +kernel
theorem dX5_init_5 : decode cX5_init 5 = .ok (.new 9, 3) := by decide +kernel
theorem dX5_init_8 : decode cX5_init 8 = .ok (.dup, 1) := by decide +kernel
theorem dX5_init_9 : decode cX5_init 9 = .ok (.invokespecial 11, 3) := by decide +kernel
theorem dX5_init_12 : decode cX5_init 12 = .ok (.putfield 12, 3) := by decide +kernel
theorem dX5_init_15 : decode cX5_init 15 = .ok (.aload_n 0, 1) := by decide +kernel
theorem dX5_init_16 : decode cX5_init 16 = .ok (.bipush 80, 2) := by decide +kernel
theorem dX5_init_18 : decode cX5_init 18 = .ok (.newarray .int, 2) := by decide +kernel
theorem dX5_init_20 : decode cX5_init 20 = .ok (.putfield 18, 3) := by decide +kernel
theorem dX5_init_23 : decode cX5_init 23 = .ok (.aload_n 0, 1) := by decide +kernel
theorem dX5_init_24 : decode cX5_init 24 = .ok (.bipush 80, 2) := by decide +kernel
theorem dX5_init_26 : decode cX5_init 26 = .ok (.newarray .int, 2) := by decide +kernel
theorem dX5_init_28 : decode cX5_init 28 = .ok (.putfield 22, 3) := by decide +kernel
theorem dX5_init_31 : decode cX5_init 31 = .ok (.return_, 1) := by decide +kernel
theorem dX5_strip_0 : decode cX5_strip 0 = .ok (.aload_n 0, 1) := by decide +kernel
theorem dX5_strip_1 : decode cX5_strip 1 = .ok (.getfield 12, 3) := by decide +kernel
theorem dX5_strip_4 : decode cX5_strip 4 = .ok (.areturn, 1) := by decide +kernel
theorem dX5_isThere_0 : decode cX5_isThere 0 = .ok (.aload_n 0, 1) := by decide +kernel
theorem dX5_isThere_1 : decode cX5_isThere 1 = .ok (.getfield 25, 3) := by decide +kernel
theorem dX5_isThere_4 : decode cX5_isThere 4 = .ok (.ireturn, 1) := by decide +kernel
theorem dX5_isOfText_0 : decode cX5_isOfText 0 = .ok (.aload_n 0, 1) := by decide +kernel
theorem dX5_isOfText_1 : decode cX5_isOfText 1 = .ok (.getfield 25, 3) := by decide +kernel
theorem dX5_isOfText_4 : decode cX5_isOfText 4 = .ok (.ifCond .eq 14, 3) := by decide +kernel
theorem dX5_isOfText_7 : decode cX5_isOfText 7 = .ok (.aload_n 0, 1) := by decide +kernel
theorem dX5_isOfText_8 : decode cX5_isOfText 8 = .ok (.getfield 29, 3) := by decide +kernel
theorem dX5_isOfText_11 : decode cX5_isOfText 11 = .ok (.ifCond .eq 7, 3) := by decide +kernel
theorem dX5_isOfText_14 : decode cX5_isOfText 14 = .ok (.iconst 1, 1) := by decide +kernel
theorem dX5_isOfText_15 : decode cX5_isOfText 15 = .ok (.goto 4, 3) := by decide +kernel
theorem dX5_isOfText_18 : decode cX5_isOfText 18 = .ok (.iconst 0, 1) := by decide +kernel
theorem dX5_isOfText_19 : decode cX5_isOfText 19 = .ok (.ireturn, 1) := by decide +kernel
theorem dX5_count_0 : decode cX5_count 0 = .ok (.aload_n 0, 1) := by decide +kernel
theorem dX5_count_1 : decode cX5_count 1 = .ok (.getfield 32, 3) := by decide +kernel
theorem dX5_count_4 : decode cX5_count 4 = .ok (.ireturn, 1) := by decide +kernel
theorem dX5_has_0 : decode cX5_has 0 = .ok (.aload_n 0, 1) := by decide +kernel
theorem dX5_has_1 : decode cX5_has 1 = .ok (.getfield 25, 3) := by decide +kernel
theorem dX5_has_4 : decode cX5_has 4 = .ok (.ifCond .eq 19, 3) := by decide +kernel
theorem dX5_has_7 : decode cX5_has 7 = .ok (.iload_n 1, 1) := by decide +kernel
theorem dX5_has_8 : decode cX5_has 8 = .ok (.ifCond .lt 15, 3) := by decide +kernel
theorem dX5_has_11 : decode cX5_has 11 = .ok (.iload_n 1, 1) := by decide +kernel
theorem dX5_has_12 : decode cX5_has 12 = .ok (.aload_n 0, 1) := by decide +kernel
theorem dX5_has_13 : decode cX5_has 13 = .ok (.getfield 32, 3) := by decide +kernel
theorem dX5_has_16 : decode cX5_has 16 = .ok (.if_icmp .ge 7, 3) := by decide +kernel
theorem dX5_has_19 : decode cX5_has 19 = .ok (.iconst 1, 1) := by decide +kernel
theorem dX5_has_20 : decode cX5_has 20 = .ok (.goto 4, 3) := by decide +kernel
theorem dX5_has_23 : decode cX5_has 23 = .ok (.iconst 0, 1) := by decide +kernel
theorem dX5_has_24 : decode cX5_has 24 = .ok (.ireturn, 1) := by decide +kernel
theorem dX5_drop_0 : decode cX5_drop 0 = .ok (.aload_n 0, 1) := by decide +kernel
theorem dX5_drop_1 : decode cX5_drop 1 = .ok (.iconst 0, 1) := by decide +kernel
theorem dX5_drop_2 : decode cX5_drop 2 = .ok (.putfield 25, 3) := by decide +kernel
theorem dX5_drop_5 : decode cX5_drop 5 = .ok (.return_, 1) := by decide +kernel
theorem dX5_outdate_0 : decode cX5_outdate 0 = .ok (.aload_n 0, 1) := by decide +kernel
theorem dX5_outdate_1 : decode cX5_outdate 1 = .ok (.iconst 0, 1) := by decide +kernel
theorem dX5_outdate_2 : decode cX5_outdate 2 = .ok (.putfield 29, 3) := by decide +kernel
theorem dX5_outdate_5 : decode cX5_outdate 5 = .ok (.return_, 1) := by decide +kernel
set_option maxRecDepth 20000 in
theorem ggX5_begin_X6_lay : GoodIn wsX5_begin wsX6_lay := goodIn_r _ [9, 10, 11, 12, 13, 14, 15, 16, 17, 18, 19, 20, 21, 22, 23, 24, 25, 26, 27, 28, 29, 30, 31, 32, 33, 8, 34, 35, 36, 37, 38, 39, 40, 41, 42, 43, 44, 45, 46, 47, 48, 49, 50, 51, 52, 53, 54, 55, 56, 57, 58, 59, 60, 61, 62, 63, 64, 65, 72, 73, 74, 75, 76, 77, 78, 79, 80, 81, 82] (by decide +kernel) (by decide +kernel)
set_option maxRecDepth 20000 in
theorem gX5_begin_X6_lay : GoodIn wsX5_begin (wsV RX5 36 RX6 yX6_lay wsX6_lay) := goodIn_app (goodIn_of _ (by decide +kernel)) ggX5_begin_X6_lay
theorem dX5_begin_0 : decode cX5_begin 0 = .ok (.aload_n 0, 1) := by decide +kernel
theorem dX5_begin_1 : decode cX5_begin 1 = .ok (.getfield 12, 3) := by decide +kernel
theorem dX5_begin_4 : decode cX5_begin 4 = .ok (.aload_n 1, 1) := by decide +kernel
theorem dX5_begin_5 : decode cX5_begin 5 = .ok (.iload_n 2, 1) := by decide +kernel
theorem dX5_begin_6 : decode cX5_begin 6 = .ok (.invokevirtual 36, 3) := by decide +kernel
theorem dX5_begin_9 : decode cX5_begin 9 = .ok (.aload_n 0, 1) := by decide +kernel
theorem dX5_begin_10 : decode cX5_begin 10 = .ok (.iconst 0, 1) := by decide +kernel
theorem dX5_begin_11 : decode cX5_begin 11 = .ok (.putfield 32, 3) := by decide +kernel
theorem dX5_begin_14 : decode cX5_begin 14 = .ok (.aload_n 0, 1) := by decide +kernel
theorem dX5_begin_15 : decode cX5_begin 15 = .ok (.iconst 1, 1) := by decide +kernel
theorem dX5_begin_16 : decode cX5_begin 16 = .ok (.putfield 25, 3) := by decide +kernel
theorem dX5_begin_19 : decode cX5_begin 19 = .ok (.aload_n 0, 1) := by decide +kernel
theorem dX5_begin_20 : decode cX5_begin 20 = .ok (.iconst 1, 1) := by decide +kernel
theorem dX5_begin_21 : decode cX5_begin 21 = .ok (.putfield 29, 3) := by decide +kernel
theorem dX5_begin_24 : decode cX5_begin 24 = .ok (.return_, 1) := by decide +kernel
theorem dX5_addLine_0 : decode cX5_addLine 0 = .ok (.aload_n 0, 1) := by decide +kernel
theorem dX5_addLine_1 : decode cX5_addLine 1 = .ok (.getfield 32, 3) := by decide +kernel
theorem dX5_addLine_4 : decode cX5_addLine 4 = .ok (.bipush 80, 2) := by decide +kernel
theorem dX5_addLine_6 : decode cX5_addLine 6 = .ok (.if_icmp .ge 33, 3) := by decide +kernel
theorem dX5_addLine_9 : decode cX5_addLine 9 = .ok (.aload_n 0, 1) := by decide +kernel
theorem dX5_addLine_10 : decode cX5_addLine 10 = .ok (.getfield 18, 3) := by decide +kernel
theorem dX5_addLine_13 : decode cX5_addLine 13 = .ok (.aload_n 0, 1) := by decide +kernel
theorem dX5_addLine_14 : decode cX5_addLine 14 = .ok (.getfield 32, 3) := by decide +kernel
theorem dX5_addLine_17 : decode cX5_addLine 17 = .ok (.iload_n 1, 1) := by decide +kernel
theorem dX5_addLine_18 : decode cX5_addLine 18 = .ok (.iastore, 1) := by decide +kernel
theorem dX5_addLine_19 : decode cX5_addLine 19 = .ok (.aload_n 0, 1) := by decide +kernel
theorem dX5_addLine_20 : decode cX5_addLine 20 = .ok (.getfield 22, 3) := by decide +kernel
theorem dX5_addLine_23 : decode cX5_addLine 23 = .ok (.aload_n 0, 1) := by decide +kernel
theorem dX5_addLine_24 : decode cX5_addLine 24 = .ok (.getfield 32, 3) := by decide +kernel
theorem dX5_addLine_27 : decode cX5_addLine 27 = .ok (.iload_n 2, 1) := by decide +kernel
theorem dX5_addLine_28 : decode cX5_addLine 28 = .ok (.iastore, 1) := by decide +kernel
theorem dX5_addLine_29 : decode cX5_addLine 29 = .ok (.aload_n 0, 1) := by decide +kernel
theorem dX5_addLine_30 : decode cX5_addLine 30 = .ok (.dup, 1) := by decide +kernel
theorem dX5_addLine_31 : decode cX5_addLine 31 = .ok (.getfield 32, 3) := by decide +kernel
theorem dX5_addLine_34 : decode cX5_addLine 34 = .ok (.iconst 1, 1) := by decide +kernel
theorem dX5_addLine_35 : decode cX5_addLine 35 = .ok (.iadd, 1) := by decide +kernel
theorem dX5_addLine_36 : decode cX5_addLine 36 = .ok (.putfield 32, 3) := by decide +kernel
theorem dX5_addLine_39 : decode cX5_addLine 39 = .ok (.return_, 1) := by decide +kernel
set_option maxRecDepth 20000 in
theorem ggX5_first_X5_has : GoodIn wsX5_first wsX5_has := goodIn_r _ [6, 7, 8, 9, 10, 11, 12, 13, 14] (by decide +kernel) (by decide +kernel)
set_option maxRecDepth 20000 in
theorem gX5_first_X5_has : GoodIn wsX5_first (wsV RX5 40 RX5 yX5_has wsX5_has) := goodIn_app (goodIn_of _ (by decide +kernel)) ggX5_first_X5_has
theorem dX5_first_0 : decode cX5_first 0 = .ok (.aload_n 0, 1) := by decide +kernel
theorem dX5_first_1 : decode cX5_first 1 = .ok (.iload_n 1, 1) := by decide +kernel
theorem dX5_first_2 : decode cX5_first 2 = .ok (.invokevirtual 40, 3) := by decide +kernel
theorem dX5_first_5 : decode cX5_first 5 = .ok (.ifCond .eq 12, 3) := by decide +kernel
theorem dX5_first_8 : decode cX5_first 8 = .ok (.aload_n 0, 1) := by decide +kernel
theorem dX5_first_9 : decode cX5_first 9 = .ok (.getfield 18, 3) := by decide +kernel
theorem dX5_first_12 : decode cX5_first 12 = .ok (.iload_n 1, 1) := by decide +kernel
theorem dX5_first_13 : decode cX5_first 13 = .ok (.iaload, 1) := by decide +kernel
theorem dX5_first_14 : decode cX5_first 14 = .ok (.goto 4, 3) := by decide +kernel
theorem dX5_first_17 : decode cX5_first 17 = .ok (.iconst (-1), 1) := by decide +kernel
theorem dX5_first_18 : decode cX5_first 18 = .ok (.ireturn, 1) := by decide +kernel
set_option maxRecDepth 20000 in
theorem ggX5_unitsIn_X5_has : GoodIn wsX5_unitsIn wsX5_has := goodIn_r _ [6, 7, 8, 9, 10, 11, 12, 13, 14] (by decide +kernel) (by decide +kernel)
set_option maxRecDepth 20000 in
theorem gX5_unitsIn_X5_has : GoodIn wsX5_unitsIn (wsV RX5 40 RX5 yX5_has wsX5_has) := goodIn_app (goodIn_of _ (by decide +kernel)) ggX5_unitsIn_X5_has
theorem dX5_unitsIn_0 : decode cX5_unitsIn 0 = .ok (.aload_n 0, 1) := by decide +kernel
theorem dX5_unitsIn_1 : decode cX5_unitsIn 1 = .ok (.iload_n 1, 1) := by decide +kernel
theorem dX5_unitsIn_2 : decode cX5_unitsIn 2 = .ok (.invokevirtual 40, 3) := by decide +kernel
theorem dX5_unitsIn_5 : decode cX5_unitsIn 5 = .ok (.ifCond .eq 12, 3) := by decide +kernel
theorem dX5_unitsIn_8 : decode cX5_unitsIn 8 = .ok (.aload_n 0, 1) := by decide +kernel
theorem dX5_unitsIn_9 : decode cX5_unitsIn 9 = .ok (.getfield 22, 3) := by decide +kernel
theorem dX5_unitsIn_12 : decode cX5_unitsIn 12 = .ok (.iload_n 1, 1) := by decide +kernel
theorem dX5_unitsIn_13 : decode cX5_unitsIn 13 = .ok (.iaload, 1) := by decide +kernel
theorem dX5_unitsIn_14 : decode cX5_unitsIn 14 = .ok (.goto 4, 3) := by decide +kernel
theorem dX5_unitsIn_17 : decode cX5_unitsIn 17 = .ok (.iconst (-1), 1) := by decide +kernel
theorem dX5_unitsIn_18 : decode cX5_unitsIn 18 = .ok (.ireturn, 1) := by decide +kernel
set_option maxRecDepth 20000 in
theorem ggX5_signsIn_X5_has : GoodIn wsX5_signsIn wsX5_has := goodIn_r _ [8, 9, 10, 32, 33, 34, 35, 36, 37] (by decide +kernel) (by decide +kernel)
set_option maxRecDepth 20000 in
theorem gX5_signsIn_X5_has : GoodIn wsX5_signsIn (wsV RX5 40 RX5 yX5_has wsX5_has) := goodIn_app (goodIn_of _ (by decide +kernel)) ggX5_signsIn_X5_has
set_option maxRecDepth 20000 in
theorem ggX5_signsIn_X6_signsOf : GoodIn wsX5_signsIn wsX6_signsOf := goodIn_r _ [15, 16, 17, 18, 14, 19, 20, 21, 22, 23, 24, 25, 26, 27, 28, 29, 30, 31, 38, 39, 40, 41, 42, 43, 44] (by decide +kernel) (by decide +kernel)
set_option maxRecDepth 20000 in
theorem gX5_signsIn_X6_signsOf : GoodIn wsX5_signsIn (wsV RX5 44 RX6 yX6_signsOf wsX6_signsOf) := goodIn_app (goodIn_of _ (by decide +kernel)) ggX5_signsIn_X6_signsOf
theorem dX5_signsIn_0 : decode cX5_signsIn 0 = .ok (.aload_n 0, 1) := by decide +kernel
theorem dX5_signsIn_1 : decode cX5_signsIn 1 = .ok (.iload_n 1, 1) := by decide +kernel
theorem dX5_signsIn_2 : decode cX5_signsIn 2 = .ok (.invokevirtual 40, 3) := by decide +kernel
theorem dX5_signsIn_5 : decode cX5_signsIn 5 = .ok (.ifCond .eq 25, 3) := by decide +kernel
theorem dX5_signsIn_8 : decode cX5_signsIn 8 = .ok (.aload_n 0, 1) := by decide +kernel
theorem dX5_signsIn_9 : decode cX5_signsIn 9 = .ok (.getfield 12, 3) := by decide +kernel
theorem dX5_signsIn_12 : decode cX5_signsIn 12 = .ok (.aload_n 0, 1) := by decide +kernel
theorem dX5_signsIn_13 : decode cX5_signsIn 13 = .ok (.getfield 18, 3) := by decide +kernel
theorem dX5_signsIn_16 : decode cX5_signsIn 16 = .ok (.iload_n 1, 1) := by decide +kernel
theorem dX5_signsIn_17 : decode cX5_signsIn 17 = .ok (.iaload, 1) := by decide +kernel
theorem dX5_signsIn_18 : decode cX5_signsIn 18 = .ok (.aload_n 0, 1) := by decide +kernel
theorem dX5_signsIn_19 : decode cX5_signsIn 19 = .ok (.getfield 22, 3) := by decide +kernel
theorem dX5_signsIn_22 : decode cX5_signsIn 22 = .ok (.iload_n 1, 1) := by decide +kernel
theorem dX5_signsIn_23 : decode cX5_signsIn 23 = .ok (.iaload, 1) := by decide +kernel
theorem dX5_signsIn_24 : decode cX5_signsIn 24 = .ok (.invokevirtual 44, 3) := by decide +kernel
theorem dX5_signsIn_27 : decode cX5_signsIn 27 = .ok (.goto 4, 3) := by decide +kernel
theorem dX5_signsIn_30 : decode cX5_signsIn 30 = .ok (.iconst (-1), 1) := by decide +kernel
theorem dX5_signsIn_31 : decode cX5_signsIn 31 = .ok (.ireturn, 1) := by decide +kernel
set_option maxRecDepth 20000 in
theorem ggX5_signAt_X5_has : GoodIn wsX5_signAt wsX5_has := goodIn_r _ [8, 9, 10, 37, 38, 39, 40, 41, 42] (by decide +kernel) (by decide +kernel)
set_option maxRecDepth 20000 in
theorem gX5_signAt_X5_has : GoodIn wsX5_signAt (wsV RX5 40 RX5 yX5_has wsX5_has) := goodIn_app (goodIn_of _ (by decide +kernel)) ggX5_signAt_X5_has
set_option maxRecDepth 20000 in
theorem ggX5_signAt_X6_signAt : GoodIn wsX5_signAt wsX6_signAt := goodIn_r _ [15, 16, 17, 18, 19, 20, 14, 21, 22, 23, 24, 25, 26, 27, 28, 29, 30, 31, 32, 33, 34, 35, 36, 43, 44, 45, 46, 47, 48, 49] (by decide +kernel) (by decide +kernel)
set_option maxRecDepth 20000 in
theorem gX5_signAt_X6_signAt : GoodIn wsX5_signAt (wsV RX5 48 RX6 yX6_signAt wsX6_signAt) := goodIn_app (goodIn_of _ (by decide +kernel)) ggX5_signAt_X6_signAt
theorem dX5_signAt_0 : decode cX5_signAt 0 = .ok (.aload_n 0, 1) := by decide +kernel
theorem dX5_signAt_1 : decode cX5_signAt 1 = .ok (.iload_n 1, 1) := by decide +kernel
theorem dX5_signAt_2 : decode cX5_signAt 2 = .ok (.invokevirtual 40, 3) := by decide +kernel
theorem dX5_signAt_5 : decode cX5_signAt 5 = .ok (.ifCond .eq 26, 3) := by decide +kernel
theorem dX5_signAt_8 : decode cX5_signAt 8 = .ok (.aload_n 0, 1) := by decide +kernel
theorem dX5_signAt_9 : decode cX5_signAt 9 = .ok (.getfield 12, 3) := by decide +kernel
theorem dX5_signAt_12 : decode cX5_signAt 12 = .ok (.aload_n 0, 1) := by decide +kernel
theorem dX5_signAt_13 : decode cX5_signAt 13 = .ok (.getfield 18, 3) := by decide +kernel
theorem dX5_signAt_16 : decode cX5_signAt 16 = .ok (.iload_n 1, 1) := by decide +kernel
theorem dX5_signAt_17 : decode cX5_signAt 17 = .ok (.iaload, 1) := by decide +kernel
theorem dX5_signAt_18 : decode cX5_signAt 18 = .ok (.aload_n 0, 1) := by decide +kernel
theorem dX5_signAt_19 : decode cX5_signAt 19 = .ok (.getfield 22, 3) := by decide +kernel
theorem dX5_signAt_22 : decode cX5_signAt 22 = .ok (.iload_n 1, 1) := by decide +kernel
theorem dX5_signAt_23 : decode cX5_signAt 23 = .ok (.iaload, 1) := by decide +kernel
theorem dX5_signAt_24 : decode cX5_signAt 24 = .ok (.iload_n 2, 1) := by decide +kernel
theorem dX5_signAt_25 : decode cX5_signAt 25 = .ok (.invokevirtual 48, 3) := by decide +kernel
theorem dX5_signAt_28 : decode cX5_signAt 28 = .ok (.goto 4, 3) := by decide +kernel
theorem dX5_signAt_31 : decode cX5_signAt 31 = .ok (.iconst (-1), 1) := by decide +kernel
theorem dX5_signAt_32 : decode cX5_signAt 32 = .ok (.ireturn, 1) := by decide +kernel
theorem dX5_lineOf_0 : decode cX5_lineOf 0 = .ok (.iconst 0, 1) := by decide +kernel
theorem dX5_lineOf_1 : decode cX5_lineOf 1 = .ok (.istore_n 2, 1) := by decide +kernel
theorem dX5_lineOf_2 : decode cX5_lineOf 2 = .ok (.iload_n 2, 1) := by decide +kernel
theorem dX5_lineOf_3 : decode cX5_lineOf 3 = .ok (.aload_n 0, 1) := by decide +kernel
theorem dX5_lineOf_4 : decode cX5_lineOf 4 = .ok (.getfield 32, 3) := by decide +kernel
theorem dX5_lineOf_7 : decode cX5_lineOf 7 = .ok (.if_icmp .ge 38, 3) := by decide +kernel
theorem dX5_lineOf_10 : decode cX5_lineOf 10 = .ok (.iload_n 1, 1) := by decide +kernel
theorem dX5_lineOf_11 : decode cX5_lineOf 11 = .ok (.aload_n 0, 1) := by decide +kernel
theorem dX5_lineOf_12 : decode cX5_lineOf 12 = .ok (.getfield 18, 3) := by decide +kernel
theorem dX5_lineOf_15 : decode cX5_lineOf 15 = .ok (.iload_n 2, 1) := by decide +kernel
theorem dX5_lineOf_16 : decode cX5_lineOf 16 = .ok (.iaload, 1) := by decide +kernel
theorem dX5_lineOf_17 : decode cX5_lineOf 17 = .ok (.if_icmp .lt 22, 3) := by decide +kernel
theorem dX5_lineOf_20 : decode cX5_lineOf 20 = .ok (.iload_n 1, 1) := by decide +kernel
theorem dX5_lineOf_21 : decode cX5_lineOf 21 = .ok (.aload_n 0, 1) := by decide +kernel
theorem dX5_lineOf_22 : decode cX5_lineOf 22 = .ok (.getfield 18, 3) := by decide +kernel
theorem dX5_lineOf_25 : decode cX5_lineOf 25 = .ok (.iload_n 2, 1) := by decide +kernel
theorem dX5_lineOf_26 : decode cX5_lineOf 26 = .ok (.iaload, 1) := by decide +kernel
theorem dX5_lineOf_27 : decode cX5_lineOf 27 = .ok (.aload_n 0, 1) := by decide +kernel
theorem dX5_lineOf_28 : decode cX5_lineOf 28 = .ok (.getfield 22, 3) := by decide +kernel
theorem dX5_lineOf_31 : decode cX5_lineOf 31 = .ok (.iload_n 2, 1) := by decide +kernel
theorem dX5_lineOf_32 : decode cX5_lineOf 32 = .ok (.iaload, 1) := by decide +kernel
theorem dX5_lineOf_33 : decode cX5_lineOf 33 = .ok (.iadd, 1) := by decide +kernel
theorem dX5_lineOf_34 : decode cX5_lineOf 34 = .ok (.if_icmp .ge 5, 3) := by decide +kernel
theorem dX5_lineOf_37 : decode cX5_lineOf 37 = .ok (.iload_n 2, 1) := by decide +kernel
theorem dX5_lineOf_38 : decode cX5_lineOf 38 = .ok (.ireturn, 1) := by decide +kernel
theorem dX5_lineOf_39 : decode cX5_lineOf 39 = .ok (.iinc 2 1, 3) := by decide +kernel
theorem dX5_lineOf_42 : decode cX5_lineOf 42 = .ok (.goto (-40), 3) := by decide +kernel
theorem dX5_lineOf_45 : decode cX5_lineOf 45 = .ok (.iconst (-1), 1) := by decide +kernel
theorem dX5_lineOf_46 : decode cX5_lineOf 46 = .ok (.ireturn, 1) := by decide +kernel
set_option maxRecDepth 20000 in
theorem ggX5_riversAt_X5_signAt : GoodIn wsX5_riversAt wsX5_signAt := goodIn_r _ [6, 7, 8, 9, 10, 11, 12, 5, 13, 14, 1, 15, 16, 17, 18, 19, 20, 21, 22, 23, 24, 25, 26, 27, 28, 29, 30, 31, 32, 33, 34, 35, 36, 37, 38, 39, 40, 41, 42, 43, 44, 45, 46, 47, 48, 49, 50, 51, 52, 53] (by decide +kernel) (by decide +kernel)
set_option maxRecDepth 20000 in
theorem gX5_riversAt_X5_signAt : GoodIn wsX5_riversAt (wsV RX5 52 RX5 yX5_signAt wsX5_signAt) := goodIn_app (goodIn_of _ (by decide +kernel)) ggX5_riversAt_X5_signAt
theorem dX5_riversAt_0 : decode cX5_riversAt 0 = .ok (.iconst 0, 1) := by decide +kernel
theorem dX5_riversAt_1 : decode cX5_riversAt 1 = .ok (.istore_n 3, 1) := by decide +kernel
theorem dX5_riversAt_2 : decode cX5_riversAt 2 = .ok (.iconst 0, 1) := by decide +kernel
theorem dX5_riversAt_3 : decode cX5_riversAt 3 = .ok (.istore 4, 2) := by decide +kernel
theorem dX5_riversAt_5 : decode cX5_riversAt 5 = .ok (.iconst 0, 1) := by decide +kernel
theorem dX5_riversAt_6 : decode cX5_riversAt 6 = .ok (.istore 5, 2) := by decide +kernel
theorem dX5_riversAt_8 : decode cX5_riversAt 8 = .ok (.iload 5, 2) := by decide +kernel
theorem dX5_riversAt_10 : decode cX5_riversAt 10 = .ok (.aload_n 0, 1) := by decide +kernel
theorem dX5_riversAt_11 : decode cX5_riversAt 11 = .ok (.getfield 32, 3) := by decide +kernel
theorem dX5_riversAt_14 : decode cX5_riversAt 14 = .ok (.if_icmp .ge 42, 3) := by decide +kernel
theorem dX5_riversAt_17 : decode cX5_riversAt 17 = .ok (.aload_n 0, 1) := by decide +kernel
theorem dX5_riversAt_18 : decode cX5_riversAt 18 = .ok (.iload 5, 2) := by decide +kernel
theorem dX5_riversAt_20 : decode cX5_riversAt 20 = .ok (.iload_n 1, 1) := by decide +kernel
theorem dX5_riversAt_21 : decode cX5_riversAt 21 = .ok (.invokevirtual 52, 3) := by decide +kernel
theorem dX5_riversAt_24 : decode cX5_riversAt 24 = .ok (.bipush 32, 2) := by decide +kernel
theorem dX5_riversAt_26 : decode cX5_riversAt 26 = .ok (.if_icmp .ne 10, 3) := by decide +kernel
theorem dX5_riversAt_29 : decode cX5_riversAt 29 = .ok (.iload 4, 2) := by decide +kernel
theorem dX5_riversAt_31 : decode cX5_riversAt 31 = .ok (.iconst 1, 1) := by decide +kernel
theorem dX5_riversAt_32 : decode cX5_riversAt 32 = .ok (.iadd, 1) := by decide +kernel
theorem dX5_riversAt_33 : decode cX5_riversAt 33 = .ok (.goto 4, 3) := by decide +kernel
theorem dX5_riversAt_36 : decode cX5_riversAt 36 = .ok (.iconst 0, 1) := by decide +kernel
theorem dX5_riversAt_37 : decode cX5_riversAt 37 = .ok (.istore 4, 2) := by decide +kernel
theorem dX5_riversAt_39 : decode cX5_riversAt 39 = .ok (.iload 4, 2) := by decide +kernel
theorem dX5_riversAt_41 : decode cX5_riversAt 41 = .ok (.iconst 1, 1) := by decide +kernel
theorem dX5_riversAt_42 : decode cX5_riversAt 42 = .ok (.isub, 1) := by decide +kernel
theorem dX5_riversAt_43 : decode cX5_riversAt 43 = .ok (.iload_n 2, 1) := by decide +kernel
theorem dX5_riversAt_44 : decode cX5_riversAt 44 = .ok (.if_icmp .ne 6, 3) := by decide +kernel
theorem dX5_riversAt_47 : decode cX5_riversAt 47 = .ok (.iinc 3 1, 3) := by decide +kernel
theorem dX5_riversAt_50 : decode cX5_riversAt 50 = .ok (.iinc 5 1, 3) := by decide +kernel
theorem dX5_riversAt_53 : decode cX5_riversAt 53 = .ok (.goto (-45), 3) := by decide +kernel
theorem dX5_riversAt_56 : decode cX5_riversAt 56 = .ok (.iload_n 3, 1) := by decide +kernel
theorem dX5_riversAt_57 : decode cX5_riversAt 57 = .ok (.ireturn, 1) := by decide +kernel
theorem dX6_init_0 : decode cX6_init 0 = .ok (.aload_n 0, 1) := by decide +kernel
theorem dX6_init_1 : decode cX6_init 1 = .ok (.invokespecial 3, 3) := by decide +kernel
theorem dX6_init_4 : decode cX6_init 4 = .ok (.aload_n 0, 1) := by decide +kernel
theorem dX6_init_5 : decode cX6_init 5 = .ok (.sipush 1920, 3) := by decide +kernel
theorem dX6_init_8 : decode cX6_init 8 = .ok (.newarray .int, 2) := by decide +kernel
theorem dX6_init_10 : decode cX6_init 10 = .ok (.putfield 11, 3) := by decide +kernel
theorem dX6_init_13 : decode cX6_init 13 = .ok (.aload_n 0, 1) := by decide +kernel
theorem dX6_init_14 : decode cX6_init 14 = .ok (.sipush 1920, 3) := by decide +kernel
theorem dX6_init_17 : decode cX6_init 17 = .ok (.newarray .int, 2) := by decide +kernel
theorem dX6_init_19 : decode cX6_init 19 = .ok (.putfield 15, 3) := by decide +kernel
theorem dX6_init_22 : decode cX6_init 22 = .ok (.aload_n 0, 1) := by decide +kernel
theorem dX6_init_23 : decode cX6_init 23 = .ok (.bipush 80, 2) := by decide +kernel
theorem dX6_init_25 : decode cX6_init 25 = .ok (.newarray .int, 2) := by decide +kernel
theorem dX6_init_27 : decode cX6_init 27 = .ok (.putfield 18, 3) := by decide +kernel
theorem dX6_init_30 : decode cX6_init 30 = .ok (.aload_n 0, 1) := by decide +kernel
theorem dX6_init_31 : decode cX6_init 31 = .ok (.bipush 80, 2) := by decide +kernel
theorem dX6_init_33 : decode cX6_init 33 = .ok (.newarray .int, 2) := by decide +kernel
theorem dX6_init_35 : decode cX6_init 35 = .ok (.putfield 21, 3) := by decide +kernel
theorem dX6_init_38 : decode cX6_init 38 = .ok (.aload_n 0, 1) := by decide +kernel
theorem dX6_init_39 : decode cX6_init 39 = .ok (.bipush 80, 2) := by decide +kernel
theorem dX6_init_41 : decode cX6_init 41 = .ok (.newarray .int, 2) := by decide +kernel
theorem dX6_init_43 : decode cX6_init 43 = .ok (.putfield 24, 3) := by decide +kernel
theorem dX6_init_46 : decode cX6_init 46 = .ok (.return_, 1) := by decide +kernel
theorem dX6_units_0 : decode cX6_units 0 = .ok (.aload_n 0, 1) := by decide +kernel
theorem dX6_units_1 : decode cX6_units 1 = .ok (.getfield 27, 3) := by decide +kernel
theorem dX6_units_4 : decode cX6_units 4 = .ok (.ireturn, 1) := by decide +kernel
set_option maxRecDepth 20000 in
theorem ggX6_lay_X9_count : GoodIn wsX6_lay wsX9_count := goodIn_r _ [7, 8, 65, 66, 67, 68] (by decide +kernel) (by decide +kernel)
set_option maxRecDepth 20000 in
theorem gX6_lay_X9_count : GoodIn wsX6_lay (wsV RX6 34 RX9 yX9_count wsX9_count) := goodIn_app (goodIn_of _ (by decide +kernel)) ggX6_lay_X9_count
set_option maxRecDepth 20000 in
theorem ggX6_lay_X9_goesOn : GoodIn wsX6_lay wsX9_goesOn := goodIn_r _ [12, 13, 14, 15, 6, 16, 17, 18, 19, 20, 21, 8, 65, 66, 67, 68] (by decide +kernel) (by decide +kernel)
set_option maxRecDepth 20000 in
theorem gX6_lay_X9_goesOn : GoodIn wsX6_lay (wsV RX6 40 RX9 yX9_goesOn wsX9_goesOn) := goodIn_app (goodIn_of _ (by decide +kernel)) ggX6_lay_X9_goesOn
set_option maxRecDepth 20000 in
theorem ggX6_lay_X6_addBlanks : GoodIn wsX6_lay wsX6_addBlanks := goodIn_r _ [26, 27, 28, 29, 25, 30, 2, 31, 32, 33, 34, 35, 36, 37, 38, 39, 58, 59, 60, 61, 62, 63, 64] (by decide +kernel) (by decide +kernel)
set_option maxRecDepth 20000 in
theorem gX6_lay_X6_addBlanks : GoodIn wsX6_lay (wsV RX6 44 RX6 yX6_addBlanks wsX6_addBlanks) := goodIn_app (goodIn_of _ (by decide +kernel)) ggX6_lay_X6_addBlanks
set_option maxRecDepth 20000 in
theorem ggX6_lay_X6_addUnit : GoodIn wsX6_lay wsX6_addUnit := goodIn_r _ [43, 44, 2, 45, 46, 1, 47, 48, 49, 6, 50, 17, 51, 18, 19, 20, 21, 8, 52, 53, 54, 55, 56, 27, 28, 29, 25, 30, 31, 32, 33, 34, 35, 36, 37, 38, 39, 57, 14, 15, 16, 58, 59, 60, 61, 62, 63, 64, 65, 66, 67, 68] (by decide +kernel) (by decide +kernel)
set_option maxRecDepth 20000 in
theorem gX6_lay_X6_addUnit : GoodIn wsX6_lay (wsV RX6 48 RX6 yX6_addUnit wsX6_addUnit) := goodIn_app (goodIn_of _ (by decide +kernel)) ggX6_lay_X6_addUnit
theorem dX6_lay_0 : decode cX6_lay 0 = .ok (.aload_n 0, 1) := by decide +kernel
theorem dX6_lay_1 : decode cX6_lay 1 = .ok (.iconst 0, 1) := by decide +kernel
theorem dX6_lay_2 : decode cX6_lay 2 = .ok (.putfield 27, 3) := by decide +kernel
theorem dX6_lay_5 : decode cX6_lay 5 = .ok (.aload_n 0, 1) := by decide +kernel
theorem dX6_lay_6 : decode cX6_lay 6 = .ok (.iconst 0, 1) := by decide +kernel
theorem dX6_lay_7 : decode cX6_lay 7 = .ok (.putfield 31, 3) := by decide +kernel
theorem dX6_lay_10 : decode cX6_lay 10 = .ok (.iconst 0, 1) := by decide +kernel
theorem dX6_lay_11 : decode cX6_lay 11 = .ok (.istore_n 3, 1) := by decide +kernel
theorem dX6_lay_12 : decode cX6_lay 12 = .ok (.iload_n 3, 1) := by decide +kernel
theorem dX6_lay_13 : decode cX6_lay 13 = .ok (.aload_n 1, 1) := by decide +kernel
theorem dX6_lay_14 : decode cX6_lay 14 = .ok (.invokevirtual 34, 3) := by decide +kernel
theorem dX6_lay_17 : decode cX6_lay 17 = .ok (.if_icmp .ge 40, 3) := by decide +kernel
theorem dX6_lay_20 : decode cX6_lay 20 = .ok (.iload_n 3, 1) := by decide +kernel
theorem dX6_lay_21 : decode cX6_lay 21 = .ok (.bipush 80, 2) := by decide +kernel
theorem dX6_lay_23 : decode cX6_lay 23 = .ok (.if_icmp .ge 34, 3) := by decide +kernel
theorem dX6_lay_26 : decode cX6_lay 26 = .ok (.iload_n 3, 1) := by decide +kernel
theorem dX6_lay_27 : decode cX6_lay 27 = .ok (.ifCond .le 18, 3) := by decide +kernel
theorem dX6_lay_30 : decode cX6_lay 30 = .ok (.aload_n 1, 1) := by decide +kernel
theorem dX6_lay_31 : decode cX6_lay 31 = .ok (.iload_n 3, 1) := by decide +kernel
theorem dX6_lay_32 : decode cX6_lay 32 = .ok (.iconst 1, 1) := by decide +kernel
theorem dX6_lay_33 : decode cX6_lay 33 = .ok (.isub, 1) := by decide +kernel
theorem dX6_lay_34 : decode cX6_lay 34 = .ok (.invokevirtual 40, 3) := by decide +kernel
theorem dX6_lay_37 : decode cX6_lay 37 = .ok (.ifCond .ne 8, 3) := by decide +kernel
theorem dX6_lay_40 : decode cX6_lay 40 = .ok (.aload_n 0, 1) := by decide +kernel
theorem dX6_lay_41 : decode cX6_lay 41 = .ok (.iload_n 2, 1) := by decide +kernel
theorem dX6_lay_42 : decode cX6_lay 42 = .ok (.invokevirtual 44, 3) := by decide +kernel
theorem dX6_lay_45 : decode cX6_lay 45 = .ok (.aload_n 0, 1) := by decide +kernel
theorem dX6_lay_46 : decode cX6_lay 46 = .ok (.aload_n 1, 1) := by decide +kernel
theorem dX6_lay_47 : decode cX6_lay 47 = .ok (.iload_n 3, 1) := by decide +kernel
theorem dX6_lay_48 : decode cX6_lay 48 = .ok (.invokevirtual 48, 3) := by decide +kernel
theorem dX6_lay_51 : decode cX6_lay 51 = .ok (.iinc 3 1, 3) := by decide +kernel
theorem dX6_lay_54 : decode cX6_lay 54 = .ok (.goto (-42), 3) := by decide +kernel
theorem dX6_lay_57 : decode cX6_lay 57 = .ok (.return_, 1) := by decide +kernel
set_option maxRecDepth 20000 in
theorem ggX6_addBlanks_X6_addSign : GoodIn wsX6_addBlanks wsX6_addSign := goodIn_r _ [5, 6, 7, 8, 9, 10, 11, 12, 13, 14, 15, 16, 17, 18, 19, 20, 21, 22] (by decide +kernel) (by decide +kernel)
set_option maxRecDepth 20000 in
theorem gX6_addBlanks_X6_addSign : GoodIn wsX6_addBlanks (wsV RX6 52 RX6 yX6_addSign wsX6_addSign) := goodIn_app (goodIn_of _ (by decide +kernel)) ggX6_addBlanks_X6_addSign
theorem dX6_addBlanks_0 : decode cX6_addBlanks 0 = .ok (.iconst 0, 1) := by decide +kernel
theorem dX6_addBlanks_1 : decode cX6_addBlanks 1 = .ok (.istore_n 2, 1) := by decide +kernel
theorem dX6_addBlanks_2 : decode cX6_addBlanks 2 = .ok (.iload_n 2, 1) := by decide +kernel
theorem dX6_addBlanks_3 : decode cX6_addBlanks 3 = .ok (.iload_n 1, 1) := by decide +kernel
theorem dX6_addBlanks_4 : decode cX6_addBlanks 4 = .ok (.if_icmp .ge 15, 3) := by decide +kernel
theorem dX6_addBlanks_7 : decode cX6_addBlanks 7 = .ok (.aload_n 0, 1) := by decide +kernel
theorem dX6_addBlanks_8 : decode cX6_addBlanks 8 = .ok (.bipush 32, 2) := by decide +kernel
theorem dX6_addBlanks_10 : decode cX6_addBlanks 10 = .ok (.invokevirtual 52, 3) := by decide +kernel
theorem dX6_addBlanks_13 : decode cX6_addBlanks 13 = .ok (.iinc 2 1, 3) := by decide +kernel
theorem dX6_addBlanks_16 : decode cX6_addBlanks 16 = .ok (.goto (-14), 3) := by decide +kernel
theorem dX6_addBlanks_19 : decode cX6_addBlanks 19 = .ok (.return_, 1) := by decide +kernel
set_option maxRecDepth 20000 in
theorem ggX6_addUnit_X9_signs : GoodIn wsX6_addUnit wsX9_signs := goodIn_r _ [10, 11, 12, 13, 14, 15, 9, 16, 17, 48, 49, 50, 51] (by decide +kernel) (by decide +kernel)
set_option maxRecDepth 20000 in
theorem gX6_addUnit_X9_signs : GoodIn wsX6_addUnit (wsV RX6 55 RX9 yX9_signs wsX9_signs) := goodIn_app (goodIn_of _ (by decide +kernel)) ggX6_addUnit_X9_signs
set_option maxRecDepth 20000 in
theorem ggX6_addUnit_X9_signAt : GoodIn wsX6_addUnit wsX9_signAt := goodIn_r _ [21, 12, 22, 11, 13, 14, 15, 9, 16, 17, 48, 49, 50, 51] (by decide +kernel) (by decide +kernel)
set_option maxRecDepth 20000 in
theorem gX6_addUnit_X9_signAt : GoodIn wsX6_addUnit (wsV RX6 58 RX9 yX9_signAt wsX9_signAt) := goodIn_app (goodIn_of _ (by decide +kernel)) ggX6_addUnit_X9_signAt
set_option maxRecDepth 20000 in
theorem ggX6_addUnit_X6_addSign : GoodIn wsX6_addUnit wsX6_addSign := goodIn_r _ [27, 2, 28, 29, 30, 31, 32, 33, 34, 35, 36, 41, 42, 43, 44, 45, 46, 47] (by decide +kernel) (by decide +kernel)
set_option maxRecDepth 20000 in
theorem gX6_addUnit_X6_addSign : GoodIn wsX6_addUnit (wsV RX6 52 RX6 yX6_addSign wsX6_addSign) := goodIn_app (goodIn_of _ (by decide +kernel)) ggX6_addUnit_X6_addSign
set_option maxRecDepth 20000 in
theorem ggX6_addUnit_X9_behind : GoodIn wsX6_addUnit wsX9_behind := goodIn_r _ [40, 11, 13, 14, 15, 9, 16, 17, 48, 49, 50, 51] (by decide +kernel) (by decide +kernel)
set_option maxRecDepth 20000 in
theorem gX6_addUnit_X9_behind : GoodIn wsX6_addUnit (wsV RX6 62 RX9 yX9_behind wsX9_behind) := goodIn_app (goodIn_of _ (by decide +kernel)) ggX6_addUnit_X9_behind
theorem dX6_addUnit_0 : decode cX6_addUnit 0 = .ok (.aload_n 0, 1) := by decide +kernel
theorem dX6_addUnit_1 : decode cX6_addUnit 1 = .ok (.getfield 18, 3) := by decide +kernel
theorem dX6_addUnit_4 : decode cX6_addUnit 4 = .ok (.iload_n 2, 1) := by decide +kernel
theorem dX6_addUnit_5 : decode cX6_addUnit 5 = .ok (.aload_n 0, 1) := by decide +kernel
theorem dX6_addUnit_6 : decode cX6_addUnit 6 = .ok (.getfield 31, 3) := by decide +kernel
theorem dX6_addUnit_9 : decode cX6_addUnit 9 = .ok (.iastore, 1) := by decide +kernel
theorem dX6_addUnit_10 : decode cX6_addUnit 10 = .ok (.aload_n 1, 1) := by decide +kernel
theorem dX6_addUnit_11 : decode cX6_addUnit 11 = .ok (.iload_n 2, 1) := by decide +kernel
theorem dX6_addUnit_12 : decode cX6_addUnit 12 = .ok (.invokevirtual 55, 3) := by decide +kernel
theorem dX6_addUnit_15 : decode cX6_addUnit 15 = .ok (.istore_n 3, 1) := by decide +kernel
theorem dX6_addUnit_16 : decode cX6_addUnit 16 = .ok (.iconst 0, 1) := by decide +kernel
theorem dX6_addUnit_17 : decode cX6_addUnit 17 = .ok (.istore 4, 2) := by decide +kernel
theorem dX6_addUnit_19 : decode cX6_addUnit 19 = .ok (.iload 4, 2) := by decide +kernel
theorem dX6_addUnit_21 : decode cX6_addUnit 21 = .ok (.iload_n 3, 1) := by decide +kernel
theorem dX6_addUnit_22 : decode cX6_addUnit 22 = .ok (.if_icmp .ge 20, 3) := by decide +kernel
theorem dX6_addUnit_25 : decode cX6_addUnit 25 = .ok (.aload_n 0, 1) := by decide +kernel
theorem dX6_addUnit_26 : decode cX6_addUnit 26 = .ok (.aload_n 1, 1) := by decide +kernel
theorem dX6_addUnit_27 : decode cX6_addUnit 27 = .ok (.iload_n 2, 1) := by decide +kernel
theorem dX6_addUnit_28 : decode cX6_addUnit 28 = .ok (.iload 4, 2) := by decide +kernel
theorem dX6_addUnit_30 : decode cX6_addUnit 30 = .ok (.invokevirtual 58, 3) := by decide +kernel
theorem dX6_addUnit_33 : decode cX6_addUnit 33 = .ok (.invokevirtual 52, 3) := by decide +kernel
theorem dX6_addUnit_36 : decode cX6_addUnit 36 = .ok (.iinc 4 1, 3) := by decide +kernel
theorem dX6_addUnit_39 : decode cX6_addUnit 39 = .ok (.goto (-20), 3) := by decide +kernel
theorem dX6_addUnit_42 : decode cX6_addUnit 42 = .ok (.aload_n 0, 1) := by decide +kernel
theorem dX6_addUnit_43 : decode cX6_addUnit 43 = .ok (.getfield 21, 3) := by decide +kernel
theorem dX6_addUnit_46 : decode cX6_addUnit 46 = .ok (.iload_n 2, 1) := by decide +kernel
theorem dX6_addUnit_47 : decode cX6_addUnit 47 = .ok (.aload_n 0, 1) := by decide +kernel
theorem dX6_addUnit_48 : decode cX6_addUnit 48 = .ok (.getfield 31, 3) := by decide +kernel
theorem dX6_addUnit_51 : decode cX6_addUnit 51 = .ok (.iastore, 1) := by decide +kernel
theorem dX6_addUnit_52 : decode cX6_addUnit 52 = .ok (.aload_n 0, 1) := by decide +kernel
theorem dX6_addUnit_53 : decode cX6_addUnit 53 = .ok (.getfield 24, 3) := by decide +kernel
theorem dX6_addUnit_56 : decode cX6_addUnit 56 = .ok (.iload_n 2, 1) := by decide +kernel
theorem dX6_addUnit_57 : decode cX6_addUnit 57 = .ok (.aload_n 1, 1) := by decide +kernel
theorem dX6_addUnit_58 : decode cX6_addUnit 58 = .ok (.iload_n 2, 1) := by decide +kernel
theorem dX6_addUnit_59 : decode cX6_addUnit 59 = .ok (.invokevirtual 62, 3) := by decide +kernel
theorem dX6_addUnit_62 : decode cX6_addUnit 62 = .ok (.iastore, 1) := by decide +kernel
theorem dX6_addUnit_63 : decode cX6_addUnit 63 = .ok (.aload_n 0, 1) := by decide +kernel
theorem dX6_addUnit_64 : decode cX6_addUnit 64 = .ok (.dup, 1) := by decide +kernel
theorem dX6_addUnit_65 : decode cX6_addUnit 65 = .ok (.getfield 27, 3) := by decide +kernel
theorem dX6_addUnit_68 : decode cX6_addUnit 68 = .ok (.iconst 1, 1) := by decide +kernel
theorem dX6_addUnit_69 : decode cX6_addUnit 69 = .ok (.iadd, 1) := by decide +kernel
theorem dX6_addUnit_70 : decode cX6_addUnit 70 = .ok (.putfield 27, 3) := by decide +kernel
theorem dX6_addUnit_73 : decode cX6_addUnit 73 = .ok (.return_, 1) := by decide +kernel
set_option maxRecDepth 20000 in
theorem ggX6_addSign_X1_kindOf : GoodIn wsX6_addSign wsX1_kindOf := goodIn_r _ [7, 8, 9, 10] (by decide +kernel) (by decide +kernel)
set_option maxRecDepth 20000 in
theorem gX6_addSign_X1_kindOf : GoodIn wsX6_addSign (va_wsS RX6 64 yX1_kindOf wsX1_kindOf) := goodIn_app (goodIn_of _ (by decide +kernel)) ggX6_addSign_X1_kindOf
theorem dX6_addSign_0 : decode cX6_addSign 0 = .ok (.aload_n 0, 1) := by decide +kernel
theorem dX6_addSign_1 : decode cX6_addSign 1 = .ok (.getfield 31, 3) := by decide +kernel
theorem dX6_addSign_4 : decode cX6_addSign 4 = .ok (.sipush 1920, 3) := by decide +kernel
theorem dX6_addSign_7 : decode cX6_addSign 7 = .ok (.if_icmp .ge 36, 3) := by decide +kernel
theorem dX6_addSign_10 : decode cX6_addSign 10 = .ok (.aload_n 0, 1) := by decide +kernel
theorem dX6_addSign_11 : decode cX6_addSign 11 = .ok (.getfield 11, 3) := by decide +kernel
theorem dX6_addSign_14 : decode cX6_addSign 14 = .ok (.aload_n 0, 1) := by decide +kernel
theorem dX6_addSign_15 : decode cX6_addSign 15 = .ok (.getfield 31, 3) := by decide +kernel
theorem dX6_addSign_18 : decode cX6_addSign 18 = .ok (.iload_n 1, 1) := by decide +kernel
theorem dX6_addSign_19 : decode cX6_addSign 19 = .ok (.iastore, 1) := by decide +kernel
theorem dX6_addSign_20 : decode cX6_addSign 20 = .ok (.aload_n 0, 1) := by decide +kernel
theorem dX6_addSign_21 : decode cX6_addSign 21 = .ok (.getfield 15, 3) := by decide +kernel
theorem dX6_addSign_24 : decode cX6_addSign 24 = .ok (.aload_n 0, 1) := by decide +kernel
theorem dX6_addSign_25 : decode cX6_addSign 25 = .ok (.getfield 31, 3) := by decide +kernel
theorem dX6_addSign_28 : decode cX6_addSign 28 = .ok (.iload_n 1, 1) := by decide +kernel
theorem dX6_addSign_29 : decode cX6_addSign 29 = .ok (.invokestatic 64, 3) := by decide +kernel
theorem dX6_addSign_32 : decode cX6_addSign 32 = .ok (.iastore, 1) := by decide +kernel
theorem dX6_addSign_33 : decode cX6_addSign 33 = .ok (.aload_n 0, 1) := by decide +kernel
theorem dX6_addSign_34 : decode cX6_addSign 34 = .ok (.dup, 1) := by decide +kernel
theorem dX6_addSign_35 : decode cX6_addSign 35 = .ok (.getfield 31, 3) := by decide +kernel
theorem dX6_addSign_38 : decode cX6_addSign 38 = .ok (.iconst 1, 1) := by decide +kernel
theorem dX6_addSign_39 : decode cX6_addSign 39 = .ok (.iadd, 1) := by decide +kernel
theorem dX6_addSign_40 : decode cX6_addSign 40 = .ok (.putfield 31, 3) := by decide +kernel
theorem dX6_addSign_43 : decode cX6_addSign 43 = .ok (.return_, 1) := by decide +kernel
theorem dX6_holds_0 : decode cX6_holds 0 = .ok (.iload_n 1, 1) := by decide +kernel
theorem dX6_holds_1 : decode cX6_holds 1 = .ok (.ifCond .lt 22, 3) := by decide +kernel
theorem dX6_holds_4 : decode cX6_holds 4 = .ok (.iload_n 2, 1) := by decide +kernel
theorem dX6_holds_5 : decode cX6_holds 5 = .ok (.iconst 1, 1) := by decide +kernel
theorem dX6_holds_6 : decode cX6_holds 6 = .ok (.if_icmp .lt 17, 3) := by decide +kernel
theorem dX6_holds_9 : decode cX6_holds 9 = .ok (.iload_n 2, 1) := by decide +kernel
theorem dX6_holds_10 : decode cX6_holds 10 = .ok (.aload_n 0, 1) := by decide +kernel
theorem dX6_holds_11 : decode cX6_holds 11 = .ok (.getfield 27, 3) := by decide +kernel
theorem dX6_holds_14 : decode cX6_holds 14 = .ok (.iload_n 1, 1) := by decide +kernel
theorem dX6_holds_15 : decode cX6_holds 15 = .ok (.isub, 1) := by decide +kernel
theorem dX6_holds_16 : decode cX6_holds 16 = .ok (.if_icmp .gt 7, 3) := by decide +kernel
theorem dX6_holds_19 : decode cX6_holds 19 = .ok (.iconst 1, 1) := by decide +kernel
theorem dX6_holds_20 : decode cX6_holds 20 = .ok (.goto 4, 3) := by decide +kernel
theorem dX6_holds_23 : decode cX6_holds 23 = .ok (.iconst 0, 1) := by decide +kernel
theorem dX6_holds_24 : decode cX6_holds 24 = .ok (.ireturn, 1) := by decide +kernel
set_option maxRecDepth 20000 in
theorem ggX6_behindLine_X6_holds : GoodIn wsX6_behindLine wsX6_holds := goodIn_r _ [6, 7, 8, 9, 10, 11, 12, 13, 14] (by decide +kernel) (by decide +kernel)
set_option maxRecDepth 20000 in
theorem gX6_behindLine_X6_holds : GoodIn wsX6_behindLine (wsV RX6 69 RX6 yX6_holds wsX6_holds) := goodIn_app (goodIn_of _ (by decide +kernel)) ggX6_behindLine_X6_holds
theorem dX6_behindLine_0 : decode cX6_behindLine 0 = .ok (.aload_n 0, 1) := by decide +kernel
theorem dX6_behindLine_1 : decode cX6_behindLine 1 = .ok (.iload_n 1, 1) := by decide +kernel
theorem dX6_behindLine_2 : decode cX6_behindLine 2 = .ok (.iload_n 2, 1) := by decide +kernel
theorem dX6_behindLine_3 : decode cX6_behindLine 3 = .ok (.invokevirtual 69, 3) := by decide +kernel
theorem dX6_behindLine_6 : decode cX6_behindLine 6 = .ok (.ifCond .eq 16, 3) := by decide +kernel
theorem dX6_behindLine_9 : decode cX6_behindLine 9 = .ok (.aload_n 0, 1) := by decide +kernel
theorem dX6_behindLine_10 : decode cX6_behindLine 10 = .ok (.getfield 24, 3) := by decide +kernel
theorem dX6_behindLine_13 : decode cX6_behindLine 13 = .ok (.iload_n 1, 1) := by decide +kernel
theorem dX6_behindLine_14 : decode cX6_behindLine 14 = .ok (.iload_n 2, 1) := by decide +kernel
theorem dX6_behindLine_15 : decode cX6_behindLine 15 = .ok (.iadd, 1) := by decide +kernel
theorem dX6_behindLine_16 : decode cX6_behindLine 16 = .ok (.iconst 1, 1) := by decide +kernel
theorem dX6_behindLine_17 : decode cX6_behindLine 17 = .ok (.isub, 1) := by decide +kernel
theorem dX6_behindLine_18 : decode cX6_behindLine 18 = .ok (.iaload, 1) := by decide +kernel
theorem dX6_behindLine_19 : decode cX6_behindLine 19 = .ok (.goto 5, 3) := by decide +kernel
theorem dX6_behindLine_22 : decode cX6_behindLine 22 = .ok (.bipush 32, 2) := by decide +kernel
theorem dX6_behindLine_24 : decode cX6_behindLine 24 = .ok (.ireturn, 1) := by decide +kernel
set_option maxRecDepth 20000 in
theorem ggX6_body_X6_holds : GoodIn wsX6_body wsX6_holds := goodIn_r _ [7, 8, 9, 10, 11, 12, 13, 14, 15] (by decide +kernel) (by decide +kernel)
set_option maxRecDepth 20000 in
theorem gX6_body_X6_holds : GoodIn wsX6_body (wsV RX6 69 RX6 yX6_holds wsX6_holds) := goodIn_app (goodIn_of _ (by decide +kernel)) ggX6_body_X6_holds
theorem dX6_body_0 : decode cX6_body 0 = .ok (.aload_n 0, 1) := by decide +kernel
theorem dX6_body_1 : decode cX6_body 1 = .ok (.iload_n 1, 1) := by decide +kernel
theorem dX6_body_2 : decode cX6_body 2 = .ok (.iload_n 2, 1) := by decide +kernel
theorem dX6_body_3 : decode cX6_body 3 = .ok (.invokevirtual 69, 3) := by decide +kernel
theorem dX6_body_6 : decode cX6_body 6 = .ok (.ifCond .eq 23, 3) := by decide +kernel
theorem dX6_body_9 : decode cX6_body 9 = .ok (.aload_n 0, 1) := by decide +kernel
theorem dX6_body_10 : decode cX6_body 10 = .ok (.getfield 21, 3) := by decide +kernel
theorem dX6_body_13 : decode cX6_body 13 = .ok (.iload_n 1, 1) := by decide +kernel
theorem dX6_body_14 : decode cX6_body 14 = .ok (.iload_n 2, 1) := by decide +kernel
theorem dX6_body_15 : decode cX6_body 15 = .ok (.iadd, 1) := by decide +kernel
theorem dX6_body_16 : decode cX6_body 16 = .ok (.iconst 1, 1) := by decide +kernel
theorem dX6_body_17 : decode cX6_body 17 = .ok (.isub, 1) := by decide +kernel
theorem dX6_body_18 : decode cX6_body 18 = .ok (.iaload, 1) := by decide +kernel
theorem dX6_body_19 : decode cX6_body 19 = .ok (.aload_n 0, 1) := by decide +kernel
theorem dX6_body_20 : decode cX6_body 20 = .ok (.getfield 18, 3) := by decide +kernel
theorem dX6_body_23 : decode cX6_body 23 = .ok (.iload_n 1, 1) := by decide +kernel
theorem dX6_body_24 : decode cX6_body 24 = .ok (.iaload, 1) := by decide +kernel
theorem dX6_body_25 : decode cX6_body 25 = .ok (.isub, 1) := by decide +kernel
theorem dX6_body_26 : decode cX6_body 26 = .ok (.goto 4, 3) := by decide +kernel
theorem dX6_body_29 : decode cX6_body 29 = .ok (.iconst 0, 1) := by decide +kernel
theorem dX6_body_30 : decode cX6_body 30 = .ok (.ireturn, 1) := by decide +kernel
set_option maxRecDepth 20000 in
theorem ggX6_signsOf_X6_body : GoodIn wsX6_signsOf wsX6_body := goodIn_r _ [5, 6, 7, 8, 9, 10, 4, 11, 12, 18, 19, 20, 21, 22, 23, 24] (by decide +kernel) (by decide +kernel)
set_option maxRecDepth 20000 in
theorem gX6_signsOf_X6_body : GoodIn wsX6_signsOf (wsV RX6 73 RX6 yX6_body wsX6_body) := goodIn_app (goodIn_of _ (by decide +kernel)) ggX6_signsOf_X6_body
set_option maxRecDepth 20000 in
theorem ggX6_signsOf_X6_behindLine : GoodIn wsX6_signsOf wsX6_behindLine := goodIn_r _ [16, 17, 8, 9, 10, 4, 11, 12, 18, 19, 20, 21, 22, 23, 24] (by decide +kernel) (by decide +kernel)
set_option maxRecDepth 20000 in
theorem gX6_signsOf_X6_behindLine : GoodIn wsX6_signsOf (wsV RX6 76 RX6 yX6_behindLine wsX6_behindLine) := goodIn_app (goodIn_of _ (by decide +kernel)) ggX6_signsOf_X6_behindLine
theorem dX6_signsOf_0 : decode cX6_signsOf 0 = .ok (.aload_n 0, 1) := by decide +kernel
theorem dX6_signsOf_1 : decode cX6_signsOf 1 = .ok (.iload_n 1, 1) := by decide +kernel
theorem dX6_signsOf_2 : decode cX6_signsOf 2 = .ok (.iload_n 2, 1) := by decide +kernel
theorem dX6_signsOf_3 : decode cX6_signsOf 3 = .ok (.invokevirtual 73, 3) := by decide +kernel
theorem dX6_signsOf_6 : decode cX6_signsOf 6 = .ok (.aload_n 0, 1) := by decide +kernel
theorem dX6_signsOf_7 : decode cX6_signsOf 7 = .ok (.iload_n 1, 1) := by decide +kernel
theorem dX6_signsOf_8 : decode cX6_signsOf 8 = .ok (.iload_n 2, 1) := by decide +kernel
theorem dX6_signsOf_9 : decode cX6_signsOf 9 = .ok (.invokevirtual 76, 3) := by decide +kernel
theorem dX6_signsOf_12 : decode cX6_signsOf 12 = .ok (.bipush 45, 2) := by decide +kernel
theorem dX6_signsOf_14 : decode cX6_signsOf 14 = .ok (.if_icmp .ne 7, 3) := by decide +kernel
theorem dX6_signsOf_17 : decode cX6_signsOf 17 = .ok (.iconst 1, 1) := by decide +kernel
theorem dX6_signsOf_18 : decode cX6_signsOf 18 = .ok (.goto 4, 3) := by decide +kernel
theorem dX6_signsOf_21 : decode cX6_signsOf 21 = .ok (.iconst 0, 1) := by decide +kernel
theorem dX6_signsOf_22 : decode cX6_signsOf 22 = .ok (.iadd, 1) := by decide +kernel
theorem dX6_signsOf_23 : decode cX6_signsOf 23 = .ok (.ireturn, 1) := by decide +kernel
set_option maxRecDepth 20000 in
theorem ggX6_signAt_X6_signsOf : GoodIn wsX6_signAt wsX6_signsOf := goodIn_r _ [7, 8, 9, 10, 6, 11, 12, 2, 13, 14, 15, 16, 17, 18, 19, 20, 21, 22, 23, 24, 25, 26, 27, 28, 29] (by decide +kernel) (by decide +kernel)
set_option maxRecDepth 20000 in
theorem gX6_signAt_X6_signsOf : GoodIn wsX6_signAt (wsV RX6 79 RX6 yX6_signsOf wsX6_signsOf) := goodIn_app (goodIn_of _ (by decide +kernel)) ggX6_signAt_X6_signsOf
set_option maxRecDepth 20000 in
theorem ggX6_signAt_X6_body : GoodIn wsX6_signAt wsX6_body := goodIn_r _ [11, 12, 2, 13, 14, 15, 6, 16, 17, 23, 24, 25, 26, 27, 28, 29] (by decide +kernel) (by decide +kernel)
set_option maxRecDepth 20000 in
theorem gX6_signAt_X6_body : GoodIn wsX6_signAt (wsV RX6 73 RX6 yX6_body wsX6_body) := goodIn_app (goodIn_of _ (by decide +kernel)) ggX6_signAt_X6_body
theorem dX6_signAt_0 : decode cX6_signAt 0 = .ok (.iload_n 3, 1) := by decide +kernel
theorem dX6_signAt_1 : decode cX6_signAt 1 = .ok (.ifCond .lt 13, 3) := by decide +kernel
theorem dX6_signAt_4 : decode cX6_signAt 4 = .ok (.iload_n 3, 1) := by decide +kernel
theorem dX6_signAt_5 : decode cX6_signAt 5 = .ok (.aload_n 0, 1) := by decide +kernel
theorem dX6_signAt_6 : decode cX6_signAt 6 = .ok (.iload_n 1, 1) := by decide +kernel
theorem dX6_signAt_7 : decode cX6_signAt 7 = .ok (.iload_n 2, 1) := by decide +kernel
theorem dX6_signAt_8 : decode cX6_signAt 8 = .ok (.invokevirtual 79, 3) := by decide +kernel
theorem dX6_signAt_11 : decode cX6_signAt 11 = .ok (.if_icmp .lt 5, 3) := by decide +kernel
theorem dX6_signAt_14 : decode cX6_signAt 14 = .ok (.iconst (-1), 1) := by decide +kernel
theorem dX6_signAt_15 : decode cX6_signAt 15 = .ok (.ireturn, 1) := by decide +kernel
theorem dX6_signAt_16 : decode cX6_signAt 16 = .ok (.iload_n 3, 1) := by decide +kernel
theorem dX6_signAt_17 : decode cX6_signAt 17 = .ok (.aload_n 0, 1) := by decide +kernel
theorem dX6_signAt_18 : decode cX6_signAt 18 = .ok (.iload_n 1, 1) := by decide +kernel
theorem dX6_signAt_19 : decode cX6_signAt 19 = .ok (.iload_n 2, 1) := by decide +kernel
theorem dX6_signAt_20 : decode cX6_signAt 20 = .ok (.invokevirtual 73, 3) := by decide +kernel
theorem dX6_signAt_23 : decode cX6_signAt 23 = .ok (.if_icmp .ge 19, 3) := by decide +kernel
theorem dX6_signAt_26 : decode cX6_signAt 26 = .ok (.aload_n 0, 1) := by decide +kernel
theorem dX6_signAt_27 : decode cX6_signAt 27 = .ok (.getfield 11, 3) := by decide +kernel
theorem dX6_signAt_30 : decode cX6_signAt 30 = .ok (.aload_n 0, 1) := by decide +kernel
theorem dX6_signAt_31 : decode cX6_signAt 31 = .ok (.getfield 18, 3) := by decide +kernel
theorem dX6_signAt_34 : decode cX6_signAt 34 = .ok (.iload_n 1, 1) := by decide +kernel
theorem dX6_signAt_35 : decode cX6_signAt 35 = .ok (.iaload, 1) := by decide +kernel
theorem dX6_signAt_36 : decode cX6_signAt 36 = .ok (.iload_n 3, 1) := by decide +kernel
theorem dX6_signAt_37 : decode cX6_signAt 37 = .ok (.iadd, 1) := by decide +kernel
theorem dX6_signAt_38 : decode cX6_signAt 38 = .ok (.iaload, 1) := by decide +kernel
theorem dX6_signAt_39 : decode cX6_signAt 39 = .ok (.goto 5, 3) := by decide +kernel
theorem dX6_signAt_42 : decode cX6_signAt 42 = .ok (.bipush 45, 2) := by decide +kernel
theorem dX6_signAt_44 : decode cX6_signAt 44 = .ok (.ireturn, 1) := by decide +kernel
set_option maxRecDepth 20000 in
theorem ggX6_beginOf_X6_holds : GoodIn wsX6_beginOf wsX6_holds := goodIn_r _ [6, 7, 8, 9, 10, 11, 12, 13, 14] (by decide +kernel) (by decide +kernel)
set_option maxRecDepth 20000 in
theorem gX6_beginOf_X6_holds : GoodIn wsX6_beginOf (wsV RX6 69 RX6 yX6_holds wsX6_holds) := goodIn_app (goodIn_of _ (by decide +kernel)) ggX6_beginOf_X6_holds
theorem dX6_beginOf_0 : decode cX6_beginOf 0 = .ok (.aload_n 0, 1) := by decide +kernel
theorem dX6_beginOf_1 : decode cX6_beginOf 1 = .ok (.iload_n 1, 1) := by decide +kernel
theorem dX6_beginOf_2 : decode cX6_beginOf 2 = .ok (.iconst 1, 1) := by decide +kernel
theorem dX6_beginOf_3 : decode cX6_beginOf 3 = .ok (.invokevirtual 69, 3) := by decide +kernel
theorem dX6_beginOf_6 : decode cX6_beginOf 6 = .ok (.ifCond .eq 12, 3) := by decide +kernel
theorem dX6_beginOf_9 : decode cX6_beginOf 9 = .ok (.aload_n 0, 1) := by decide +kernel
theorem dX6_beginOf_10 : decode cX6_beginOf 10 = .ok (.getfield 18, 3) := by decide +kernel
theorem dX6_beginOf_13 : decode cX6_beginOf 13 = .ok (.iload_n 1, 1) := by decide +kernel
theorem dX6_beginOf_14 : decode cX6_beginOf 14 = .ok (.iaload, 1) := by decide +kernel
theorem dX6_beginOf_15 : decode cX6_beginOf 15 = .ok (.goto 4, 3) := by decide +kernel
theorem dX6_beginOf_18 : decode cX6_beginOf 18 = .ok (.iconst 0, 1) := by decide +kernel
theorem dX6_beginOf_19 : decode cX6_beginOf 19 = .ok (.ireturn, 1) := by decide +kernel
set_option maxRecDepth 20000 in
theorem ggX6_strainOfPlaces_X1_strainOfPlace : GoodIn wsX6_strainOfPlaces wsX1_strainOfPlace := goodIn_r _ [7, 8, 9, 10, 6, 11, 19, 20, 21, 22, 23, 24, 25] (by decide +kernel) (by decide +kernel)
set_option maxRecDepth 20000 in
theorem gX6_strainOfPlaces_X1_strainOfPlace : GoodIn wsX6_strainOfPlaces (wsV RX6 82 RX1 yX1_strainOfPlace wsX1_strainOfPlace) := goodIn_app (goodIn_of _ (by decide +kernel)) ggX6_strainOfPlaces_X1_strainOfPlace
theorem dX6_strainOfPlaces_0 : decode cX6_strainOfPlaces 0 = .ok (.iconst 0, 1) := by decide +kernel
theorem dX6_strainOfPlaces_1 : decode cX6_strainOfPlaces 1 = .ok (.istore 6, 2) := by decide +kernel
theorem dX6_strainOfPlaces_3 : decode cX6_strainOfPlaces 3 = .ok (.iload_n 3, 1) := by decide +kernel
theorem dX6_strainOfPlaces_4 : decode cX6_strainOfPlaces 4 = .ok (.istore 7, 2) := by decide +kernel
theorem dX6_strainOfPlaces_6 : decode cX6_strainOfPlaces 6 = .ok (.iload 7, 2) := by decide +kernel
theorem dX6_strainOfPlaces_8 : decode cX6_strainOfPlaces 8 = .ok (.iload 4, 2) := by decide +kernel
theorem dX6_strainOfPlaces_10 : decode cX6_strainOfPlaces 10 = .ok (.if_icmp .ge 48, 3) := by decide +kernel
theorem dX6_strainOfPlaces_13 : decode cX6_strainOfPlaces 13 = .ok (.iload_n 2, 1) := by decide +kernel
theorem dX6_strainOfPlaces_14 : decode cX6_strainOfPlaces 14 = .ok (.iload 7, 2) := by decide +kernel
theorem dX6_strainOfPlaces_16 : decode cX6_strainOfPlaces 16 = .ok (.iadd, 1) := by decide +kernel
theorem dX6_strainOfPlaces_17 : decode cX6_strainOfPlaces 17 = .ok (.aload_n 0, 1) := by decide +kernel
theorem dX6_strainOfPlaces_18 : decode cX6_strainOfPlaces 18 = .ok (.getfield 31, 3) := by decide +kernel
theorem dX6_strainOfPlaces_21 : decode cX6_strainOfPlaces 21 = .ok (.if_icmp .ge 37, 3) := by decide +kernel
theorem dX6_strainOfPlaces_24 : decode cX6_strainOfPlaces 24 = .ok (.iload 6, 2) := by decide +kernel
theorem dX6_strainOfPlaces_26 : decode cX6_strainOfPlaces 26 = .ok (.aload 5, 2) := by decide +kernel
theorem dX6_strainOfPlaces_28 : decode cX6_strainOfPlaces 28 = .ok (.aload_n 0, 1) := by decide +kernel
theorem dX6_strainOfPlaces_29 : decode cX6_strainOfPlaces 29 = .ok (.getfield 15, 3) := by decide +kernel
theorem dX6_strainOfPlaces_32 : decode cX6_strainOfPlaces 32 = .ok (.iload_n 1, 1) := by decide +kernel
theorem dX6_strainOfPlaces_33 : decode cX6_strainOfPlaces 33 = .ok (.iload 7, 2) := by decide +kernel
theorem dX6_strainOfPlaces_35 : decode cX6_strainOfPlaces 35 = .ok (.iadd, 1) := by decide +kernel
theorem dX6_strainOfPlaces_36 : decode cX6_strainOfPlaces 36 = .ok (.iaload, 1) := by decide +kernel
theorem dX6_strainOfPlaces_37 : decode cX6_strainOfPlaces 37 = .ok (.aload_n 0, 1) := by decide +kernel
theorem dX6_strainOfPlaces_38 : decode cX6_strainOfPlaces 38 = .ok (.getfield 15, 3) := by decide +kernel
theorem dX6_strainOfPlaces_41 : decode cX6_strainOfPlaces 41 = .ok (.iload_n 2, 1) := by decide +kernel
theorem dX6_strainOfPlaces_42 : decode cX6_strainOfPlaces 42 = .ok (.iload 7, 2) := by decide +kernel
theorem dX6_strainOfPlaces_44 : decode cX6_strainOfPlaces 44 = .ok (.iadd, 1) := by decide +kernel
theorem dX6_strainOfPlaces_45 : decode cX6_strainOfPlaces 45 = .ok (.iaload, 1) := by decide +kernel
theorem dX6_strainOfPlaces_46 : decode cX6_strainOfPlaces 46 = .ok (.invokevirtual 82, 3) := by decide +kernel
theorem dX6_strainOfPlaces_49 : decode cX6_strainOfPlaces 49 = .ok (.iadd, 1) := by decide +kernel
theorem dX6_strainOfPlaces_50 : decode cX6_strainOfPlaces 50 = .ok (.istore 6, 2) := by decide +kernel
theorem dX6_strainOfPlaces_52 : decode cX6_strainOfPlaces 52 = .ok (.iinc 7 1, 3) := by decide +kernel
theorem dX6_strainOfPlaces_55 : decode cX6_strainOfPlaces 55 = .ok (.goto (-49), 3) := by decide +kernel
theorem dX6_strainOfPlaces_58 : decode cX6_strainOfPlaces 58 = .ok (.iload 6, 2) := by decide +kernel
theorem dX6_strainOfPlaces_60 : decode cX6_strainOfPlaces 60 = .ok (.ireturn, 1) := by decide +kernel
theorem dX7_init_0 : decode cX7_init 0 = .ok (.aload_n 0, 1) := by decide +kernel
theorem dX7_init_1 : decode cX7_init 1 = .ok (.invokespecial 3, 3) := by decide +kernel
theorem dX7_init_4 : decode cX7_init 4 = .ok (.aload_n 0, 1) := by decide +kernel
theorem dX7_init_5 : decode cX7_init 5 = .ok (.sipush 600, 3) := by decide +kernel
theorem dX7_init_8 : decode cX7_init 8 = .ok (.newarray .int, 2) := by decide +kernel
theorem dX7_init_10 : decode cX7_init 10 = .ok (.putfield 9, 3) := by decide +kernel
theorem dX7_init_13 : decode cX7_init 13 = .ok (.return_, 1) := by decide +kernel
theorem dX7_length_0 : decode cX7_length 0 = .ok (.aload_n 0, 1) := by decide +kernel
theorem dX7_length_1 : decode cX7_length 1 = .ok (.getfield 15, 3) := by decide +kernel
theorem dX7_length_4 : decode cX7_length 4 = .ok (.ireturn, 1) := by decide +kernel
theorem dX7_byteAt_0 : decode cX7_byteAt 0 = .ok (.iload_n 1, 1) := by decide +kernel
theorem dX7_byteAt_1 : decode cX7_byteAt 1 = .ok (.ifCond .lt 20, 3) := by decide +kernel
theorem dX7_byteAt_4 : decode cX7_byteAt 4 = .ok (.iload_n 1, 1) := by decide +kernel
theorem dX7_byteAt_5 : decode cX7_byteAt 5 = .ok (.aload_n 0, 1) := by decide +kernel
theorem dX7_byteAt_6 : decode cX7_byteAt 6 = .ok (.getfield 15, 3) := by decide +kernel
theorem dX7_byteAt_9 : decode cX7_byteAt 9 = .ok (.if_icmp .ge 12, 3) := by decide +kernel
theorem dX7_byteAt_12 : decode cX7_byteAt 12 = .ok (.aload_n 0, 1) := by decide +kernel
theorem dX7_byteAt_13 : decode cX7_byteAt 13 = .ok (.getfield 9, 3) := by decide +kernel
theorem dX7_byteAt_16 : decode cX7_byteAt 16 = .ok (.iload_n 1, 1) := by decide +kernel
theorem dX7_byteAt_17 : decode cX7_byteAt 17 = .ok (.iaload, 1) := by decide +kernel
theorem dX7_byteAt_18 : decode cX7_byteAt 18 = .ok (.goto 4, 3) := by decide +kernel
theorem dX7_byteAt_21 : decode cX7_byteAt 21 = .ok (.iconst (-1), 1) := by decide +kernel
theorem dX7_byteAt_22 : decode cX7_byteAt 22 = .ok (.ireturn, 1) := by decide +kernel
theorem dX7_clear_0 : decode cX7_clear 0 = .ok (.aload_n 0, 1) := by decide +kernel
theorem dX7_clear_1 : decode cX7_clear 1 = .ok (.iconst 0, 1) := by decide +kernel
theorem dX7_clear_2 : decode cX7_clear 2 = .ok (.putfield 15, 3) := by decide +kernel
theorem dX7_clear_5 : decode cX7_clear 5 = .ok (.return_, 1) := by decide +kernel
set_option maxRecDepth 20000 in
theorem ggX7_keepFirst_X10_within : GoodIn wsX7_keepFirst wsX10_within := goodIn_r _ [4] (by decide +kernel) (by decide +kernel)
set_option maxRecDepth 20000 in
theorem gX7_keepFirst_X10_within_n19 : GoodIn wsX7_keepFirst (wsX10_within) := ggX7_keepFirst_X10_within
theorem dX7_keepFirst_0 : decode cX7_keepFirst 0 = .ok (.iload_n 1, 1) := by decide +kernel
theorem dX7_keepFirst_1 : decode cX7_keepFirst 1 = .ok (.iconst 0, 1) := by decide +kernel
theorem dX7_keepFirst_2 : decode cX7_keepFirst 2 = .ok (.aload_n 0, 1) := by decide +kernel
theorem dX7_keepFirst_3 : decode cX7_keepFirst 3 = .ok (.getfield 15, 3) := by decide +kernel
theorem dX7_keepFirst_6 : decode cX7_keepFirst 6 = .ok (.invokestatic 19, 3) := by decide +kernel
theorem dX7_keepFirst_9 : decode cX7_keepFirst 9 = .ok (.ifCond .ne 5, 3) := by decide +kernel
theorem dX7_keepFirst_12 : decode cX7_keepFirst 12 = .ok (.iconst 0, 1) := by decide +kernel
theorem dX7_keepFirst_13 : decode cX7_keepFirst 13 = .ok (.ireturn, 1) := by decide +kernel
theorem dX7_keepFirst_14 : decode cX7_keepFirst 14 = .ok (.aload_n 0, 1) := by decide +kernel
theorem dX7_keepFirst_15 : decode cX7_keepFirst 15 = .ok (.iload_n 1, 1) := by decide +kernel
theorem dX7_keepFirst_16 : decode cX7_keepFirst 16 = .ok (.putfield 15, 3) := by decide +kernel
theorem dX7_keepFirst_19 : decode cX7_keepFirst 19 = .ok (.iconst 1, 1) := by decide +kernel
theorem dX7_keepFirst_20 : decode cX7_keepFirst 20 = .ok (.ireturn, 1) := by decide +kernel
set_option maxRecDepth 20000 in
theorem ggX7_append_X7_appendNumber : GoodIn wsX7_append wsX7_appendNumber := goodIn_r _ [6, 1, 7, 8, 9] (by decide +kernel) (by decide +kernel)
set_option maxRecDepth 20000 in
theorem gX7_append_X7_appendNumber : GoodIn wsX7_append (wsV RX7 23 RX7 yX7_appendNumber wsX7_appendNumber) := goodIn_app (goodIn_of _ (by decide +kernel)) ggX7_append_X7_appendNumber
theorem dX7_append_0 : decode cX7_append 0 = .ok (.aload_n 0, 1) := by decide +kernel
theorem dX7_append_1 : decode cX7_append 1 = .ok (.getfield 15, 3) := by decide +kernel
theorem dX7_append_4 : decode cX7_append 4 = .ok (.bipush 20, 2) := by decide +kernel
theorem dX7_append_6 : decode cX7_append 6 = .ok (.iadd, 1) := by decide +kernel
theorem dX7_append_7 : decode cX7_append 7 = .ok (.sipush 600, 3) := by decide +kernel
theorem dX7_append_10 : decode cX7_append 10 = .ok (.if_icmp .le 5, 3) := by decide +kernel
theorem dX7_append_13 : decode cX7_append 13 = .ok (.iconst (-1), 1) := by decide +kernel
theorem dX7_append_14 : decode cX7_append 14 = .ok (.ireturn, 1) := by decide +kernel
theorem dX7_append_15 : decode cX7_append 15 = .ok (.aload_n 0, 1) := by decide +kernel
theorem dX7_append_16 : decode cX7_append 16 = .ok (.iload_n 1, 1) := by decide +kernel
theorem dX7_append_17 : decode cX7_append 17 = .ok (.invokevirtual 23, 3) := by decide +kernel
theorem dX7_append_20 : decode cX7_append 20 = .ok (.aload_n 0, 1) := by decide +kernel
theorem dX7_append_21 : decode cX7_append 21 = .ok (.iload_n 2, 1) := by decide +kernel
theorem dX7_append_22 : decode cX7_append 22 = .ok (.invokevirtual 23, 3) := by decide +kernel
theorem dX7_append_25 : decode cX7_append 25 = .ok (.aload_n 0, 1) := by decide +kernel
theorem dX7_append_26 : decode cX7_append 26 = .ok (.iload_n 3, 1) := by decide +kernel
theorem dX7_append_27 : decode cX7_append 27 = .ok (.invokevirtual 23, 3) := by decide +kernel
theorem dX7_append_30 : decode cX7_append 30 = .ok (.aload_n 0, 1) := by decide +kernel
theorem dX7_append_31 : decode cX7_append 31 = .ok (.iload 4, 2) := by decide +kernel
theorem dX7_append_33 : decode cX7_append 33 = .ok (.invokevirtual 23, 3) := by decide +kernel
theorem dX7_append_36 : decode cX7_append 36 = .ok (.aload_n 0, 1) := by decide +kernel
theorem dX7_append_37 : decode cX7_append 37 = .ok (.iload 5, 2) := by decide +kernel
theorem dX7_append_39 : decode cX7_append 39 = .ok (.invokevirtual 23, 3) := by decide +kernel
theorem dX7_append_42 : decode cX7_append 42 = .ok (.aload_n 0, 1) := by decide +kernel
theorem dX7_append_43 : decode cX7_append 43 = .ok (.getfield 15, 3) := by decide +kernel
theorem dX7_append_46 : decode cX7_append 46 = .ok (.ireturn, 1) := by decide +kernel
theorem dX7_appendNumber_0 : decode cX7_appendNumber 0 = .ok (.bipush 24, 2) := by decide +kernel
theorem dX7_appendNumber_2 : decode cX7_appendNumber 2 = .ok (.istore_n 2, 1) := by decide +kernel
theorem dX7_appendNumber_3 : decode cX7_appendNumber 3 = .ok (.iload_n 2, 1) := by decide +kernel
theorem dX7_appendNumber_4 : decode cX7_appendNumber 4 = .ok (.ifCond .lt 45, 3) := by decide +kernel
theorem dX7_appendNumber_7 : decode cX7_appendNumber 7 = .ok (.aload_n 0, 1) := by decide +kernel
theorem dX7_appendNumber_8 : decode cX7_appendNumber 8 = .ok (.getfield 15, 3) := by decide +kernel
theorem dX7_appendNumber_11 : decode cX7_appendNumber 11 = .ok (.sipush 600, 3) := by decide +kernel
theorem dX7_appendNumber_14 : decode cX7_appendNumber 14 = .ok (.if_icmp .ge 35, 3) := by decide +kernel
theorem dX7_appendNumber_17 : decode cX7_appendNumber 17 = .ok (.aload_n 0, 1) := by decide +kernel
theorem dX7_appendNumber_18 : decode cX7_appendNumber 18 = .ok (.getfield 9, 3) := by decide +kernel
theorem dX7_appendNumber_21 : decode cX7_appendNumber 21 = .ok (.aload_n 0, 1) := by decide +kernel
theorem dX7_appendNumber_22 : decode cX7_appendNumber 22 = .ok (.getfield 15, 3) := by decide +kernel
theorem dX7_appendNumber_25 : decode cX7_appendNumber 25 = .ok (.iload_n 1, 1) := by decide +kernel
theorem dX7_appendNumber_26 : decode cX7_appendNumber 26 = .ok (.iload_n 2, 1) := by decide +kernel
theorem dX7_appendNumber_27 : decode cX7_appendNumber 27 = .ok (.iushr, 1) := by decide +kernel
theorem dX7_appendNumber_28 : decode cX7_appendNumber 28 = .ok (.sipush 255, 3) := by decide +kernel
theorem dX7_appendNumber_31 : decode cX7_appendNumber 31 = .ok (.iand, 1) := by decide +kernel
theorem dX7_appendNumber_32 : decode cX7_appendNumber 32 = .ok (.iastore, 1) := by decide +kernel
theorem dX7_appendNumber_33 : decode cX7_appendNumber 33 = .ok (.aload_n 0, 1) := by decide +kernel
theorem dX7_appendNumber_34 : decode cX7_appendNumber 34 = .ok (.dup, 1) := by decide +kernel
theorem dX7_appendNumber_35 : decode cX7_appendNumber 35 = .ok (.getfield 15, 3) := by decide +kernel
theorem dX7_appendNumber_38 : decode cX7_appendNumber 38 = .ok (.iconst 1, 1) := by decide +kernel
theorem dX7_appendNumber_39 : decode cX7_appendNumber 39 = .ok (.iadd, 1) := by decide +kernel
theorem dX7_appendNumber_40 : decode cX7_appendNumber 40 = .ok (.putfield 15, 3) := by decide +kernel
theorem dX7_appendNumber_43 : decode cX7_appendNumber 43 = .ok (.iinc 2 (-8), 3) := by decide +kernel
theorem dX7_appendNumber_46 : decode cX7_appendNumber 46 = .ok (.goto (-43), 3) := by decide +kernel
theorem dX7_appendNumber_49 : decode cX7_appendNumber 49 = .ok (.return_, 1) := by decide +kernel
theorem dX8_init_0 : decode cX8_init 0 = .ok (.aload_n 0, 1) := by decide +kernel
theorem dX8_init_1 : decode cX8_init 1 = .ok (.invokespecial 3, 3) := by decide +kernel
theorem dX8_init_4 : decode cX8_init 4 = .ok (.aload_n 0, 1) := by decide +kernel
theorem dX8_init_5 : decode cX8_init 5 = .ok (.iconst 4, 1) := by decide +kernel
theorem dX8_init_6 : decode cX8_init 6 = .ok (.newarray .boolean, 2) := by decide +kernel
theorem dX8_init_8 : decode cX8_init 8 = .ok (.putfield 11, 3) := by decide +kernel
theorem dX8_init_11 : decode cX8_init 11 = .ok (.aload_n 0, 1) := by decide +kernel
theorem dX8_init_12 : decode cX8_init 12 = .ok (.iconst 2, 1) := by decide +kernel
theorem dX8_init_13 : decode cX8_init 13 = .ok (.putfield 15, 3) := by decide +kernel
theorem dX8_init_16 : decode cX8_init 16 = .ok (.aload_n 0, 1) := by decide +kernel
theorem dX8_init_17 : decode cX8_init 17 = .ok (.iconst (-1), 1) := by decide +kernel
theorem dX8_init_18 : decode cX8_init 18 = .ok (.putfield 19, 3) := by decide +kernel
theorem dX8_init_21 : decode cX8_init 21 = .ok (.return_, 1) := by decide +kernel
theorem dX8_haveBegun_0 : decode cX8_haveBegun 0 = .ok (.aload_n 0, 1) := by decide +kernel
theorem dX8_haveBegun_1 : decode cX8_haveBegun 1 = .ok (.getfield 22, 3) := by decide +kernel
theorem dX8_haveBegun_4 : decode cX8_haveBegun 4 = .ok (.ireturn, 1) := by decide +kernel
theorem dX8_bestLongest_0 : decode cX8_bestLongest 0 = .ok (.bipush 20, 2) := by decide +kernel
theorem dX8_bestLongest_2 : decode cX8_bestLongest 2 = .ok (.iconst 4, 1) := by decide +kernel
theorem dX8_bestLongest_3 : decode cX8_bestLongest 3 = .ok (.aload_n 0, 1) := by decide +kernel
theorem dX8_bestLongest_4 : decode cX8_bestLongest 4 = .ok (.getfield 26, 3) := by decide +kernel
theorem dX8_bestLongest_7 : decode cX8_bestLongest 7 = .ok (.imul, 1) := by decide +kernel
theorem dX8_bestLongest_8 : decode cX8_bestLongest 8 = .ok (.iadd, 1) := by decide +kernel
theorem dX8_bestLongest_9 : decode cX8_bestLongest 9 = .ok (.ireturn, 1) := by decide +kernel
theorem dX8_bestSpread_0 : decode cX8_bestSpread 0 = .ok (.iconst 1, 1) := by decide +kernel
theorem dX8_bestSpread_1 : decode cX8_bestSpread 1 = .ok (.aload_n 0, 1) := by decide +kernel
theorem dX8_bestSpread_2 : decode cX8_bestSpread 2 = .ok (.getfield 29, 3) := by decide +kernel
theorem dX8_bestSpread_5 : decode cX8_bestSpread 5 = .ok (.iadd, 1) := by decide +kernel
theorem dX8_bestSpread_6 : decode cX8_bestSpread 6 = .ok (.ireturn, 1) := by decide +kernel
set_option maxRecDepth 20000 in
theorem ggX8_begin_X8_isOnGrid : GoodIn wsX8_begin wsX8_isOnGrid := goodIn_r _ [10, 11, 12, 13] (by decide +kernel) (by decide +kernel)
set_option maxRecDepth 20000 in
theorem gX8_begin_X8_isOnGrid : GoodIn wsX8_begin (va_wsS RX8 32 yX8_isOnGrid wsX8_isOnGrid) := goodIn_app (goodIn_of _ (by decide +kernel)) ggX8_begin_X8_isOnGrid
set_option maxRecDepth 20000 in
theorem ggX8_begin_X10_within : GoodIn wsX8_begin wsX10_within := goodIn_r _ [13] (by decide +kernel) (by decide +kernel)
set_option maxRecDepth 20000 in
theorem gX8_begin_X10_within_n36 : GoodIn wsX8_begin (wsX10_within) := ggX8_begin_X10_within
set_option maxRecDepth 20000 in
theorem ggX8_begin_X8_makeBest : GoodIn wsX8_begin wsX8_makeBest := goodIn_r _ [17, 18, 19, 20, 35, 36, 37, 38, 39, 40, 41, 42, 43] (by decide +kernel) (by decide +kernel)
set_option maxRecDepth 20000 in
theorem gX8_begin_X8_makeBest : GoodIn wsX8_begin (wsV RX8 49 RX8 yX8_makeBest wsX8_makeBest) := goodIn_app (goodIn_of _ (by decide +kernel)) ggX8_begin_X8_makeBest
set_option maxRecDepth 20000 in
theorem ggX8_begin_X8_nextWay : GoodIn wsX8_begin wsX8_nextWay := goodIn_r _ [24, 20, 25, 26, 27, 9, 28, 18, 29, 30, 31, 32, 33, 19, 34, 7, 8, 10, 11, 12, 13, 35, 36, 37, 38, 39, 40, 41, 42, 43] (by decide +kernel) (by decide +kernel)
set_option maxRecDepth 20000 in
theorem gX8_begin_X8_nextWay : GoodIn wsX8_begin (wsV RX8 53 RX8 yX8_nextWay wsX8_nextWay) := goodIn_app (goodIn_of _ (by decide +kernel)) ggX8_begin_X8_nextWay
theorem dX8_begin_0 : decode cX8_begin 0 = .ok (.iload_n 1, 1) := by decide +kernel
theorem dX8_begin_1 : decode cX8_begin 1 = .ok (.iload_n 2, 1) := by decide +kernel
theorem dX8_begin_2 : decode cX8_begin 2 = .ok (.invokestatic 32, 3) := by decide +kernel
theorem dX8_begin_5 : decode cX8_begin 5 = .ok (.ifCond .eq 13, 3) := by decide +kernel
theorem dX8_begin_8 : decode cX8_begin 8 = .ok (.iload_n 3, 1) := by decide +kernel
theorem dX8_begin_9 : decode cX8_begin 9 = .ok (.iconst 1, 1) := by decide +kernel
theorem dX8_begin_10 : decode cX8_begin 10 = .ok (.bipush 9, 2) := by decide +kernel
theorem dX8_begin_12 : decode cX8_begin 12 = .ok (.invokestatic 36, 3) := by decide +kernel
theorem dX8_begin_15 : decode cX8_begin 15 = .ok (.ifCond .ne 5, 3) := by decide +kernel
theorem dX8_begin_18 : decode cX8_begin 18 = .ok (.iconst 0, 1) := by decide +kernel
theorem dX8_begin_19 : decode cX8_begin 19 = .ok (.ireturn, 1) := by decide +kernel
theorem dX8_begin_20 : decode cX8_begin 20 = .ok (.aload_n 0, 1) := by decide +kernel
theorem dX8_begin_21 : decode cX8_begin 21 = .ok (.iconst 1, 1) := by decide +kernel
theorem dX8_begin_22 : decode cX8_begin 22 = .ok (.putfield 22, 3) := by decide +kernel
theorem dX8_begin_25 : decode cX8_begin 25 = .ok (.aload_n 0, 1) := by decide +kernel
theorem dX8_begin_26 : decode cX8_begin 26 = .ok (.iload_n 3, 1) := by decide +kernel
theorem dX8_begin_27 : decode cX8_begin 27 = .ok (.putfield 15, 3) := by decide +kernel
theorem dX8_begin_30 : decode cX8_begin 30 = .ok (.aload_n 0, 1) := by decide +kernel
theorem dX8_begin_31 : decode cX8_begin 31 = .ok (.iconst 0, 1) := by decide +kernel
theorem dX8_begin_32 : decode cX8_begin 32 = .ok (.putfield 40, 3) := by decide +kernel
theorem dX8_begin_35 : decode cX8_begin 35 = .ok (.aload_n 0, 1) := by decide +kernel
theorem dX8_begin_36 : decode cX8_begin 36 = .ok (.iconst 0, 1) := by decide +kernel
theorem dX8_begin_37 : decode cX8_begin 37 = .ok (.putfield 43, 3) := by decide +kernel
theorem dX8_begin_40 : decode cX8_begin 40 = .ok (.aload_n 0, 1) := by decide +kernel
theorem dX8_begin_41 : decode cX8_begin 41 = .ok (.iconst 0, 1) := by decide +kernel
theorem dX8_begin_42 : decode cX8_begin 42 = .ok (.putfield 46, 3) := by decide +kernel
theorem dX8_begin_45 : decode cX8_begin 45 = .ok (.aload_n 0, 1) := by decide +kernel
theorem dX8_begin_46 : decode cX8_begin 46 = .ok (.iload_n 1, 1) := by decide +kernel
theorem dX8_begin_47 : decode cX8_begin 47 = .ok (.iload_n 2, 1) := by decide +kernel
theorem dX8_begin_48 : decode cX8_begin 48 = .ok (.invokevirtual 49, 3) := by decide +kernel
theorem dX8_begin_51 : decode cX8_begin 51 = .ok (.aload_n 0, 1) := by decide +kernel
theorem dX8_begin_52 : decode cX8_begin 52 = .ok (.aload_n 0, 1) := by decide +kernel
theorem dX8_begin_53 : decode cX8_begin 53 = .ok (.invokevirtual 53, 3) := by decide +kernel
theorem dX8_begin_56 : decode cX8_begin 56 = .ok (.putfield 19, 3) := by decide +kernel
theorem dX8_begin_59 : decode cX8_begin 59 = .ok (.iconst 1, 1) := by decide +kernel
theorem dX8_begin_60 : decode cX8_begin 60 = .ok (.ireturn, 1) := by decide +kernel
set_option maxRecDepth 20000 in
theorem ggX8_tell_X8_longOn : GoodIn wsX8_tell wsX8_longOn := goodIn_r _ [11, 2, 12, 18, 19, 20, 21, 22, 23, 24, 25, 26] (by decide +kernel) (by decide +kernel)
set_option maxRecDepth 20000 in
theorem gX8_tell_X8_longOn : GoodIn wsX8_tell (wsV RX8 57 RX8 yX8_longOn wsX8_longOn) := goodIn_app (goodIn_of _ (by decide +kernel)) ggX8_tell_X8_longOn
set_option maxRecDepth 20000 in
theorem ggX8_tell_X8_spreadOn : GoodIn wsX8_tell wsX8_spreadOn := goodIn_r _ [16, 3, 17, 18, 19, 20, 21, 22, 23, 24, 25, 26] (by decide +kernel) (by decide +kernel)
set_option maxRecDepth 20000 in
theorem gX8_tell_X8_spreadOn : GoodIn wsX8_tell (wsV RX8 61 RX8 yX8_spreadOn wsX8_spreadOn) := goodIn_app (goodIn_of _ (by decide +kernel)) ggX8_tell_X8_spreadOn
theorem dX8_tell_0 : decode cX8_tell 0 = .ok (.aload_n 0, 1) := by decide +kernel
theorem dX8_tell_1 : decode cX8_tell 1 = .ok (.getfield 22, 3) := by decide +kernel
theorem dX8_tell_4 : decode cX8_tell 4 = .ok (.ifCond .ne 5, 3) := by decide +kernel
theorem dX8_tell_7 : decode cX8_tell 7 = .ok (.iconst (-1), 1) := by decide +kernel
theorem dX8_tell_8 : decode cX8_tell 8 = .ok (.ireturn, 1) := by decide +kernel
theorem dX8_tell_9 : decode cX8_tell 9 = .ok (.iload_n 1, 1) := by decide +kernel
theorem dX8_tell_10 : decode cX8_tell 10 = .ok (.tableswitch 100 0 5 #[38, 43, 48, 69, 90, 95], 38) := by decide +kernel
theorem dX8_tell_48 : decode cX8_tell 48 = .ok (.aload_n 0, 1) := by decide +kernel
theorem dX8_tell_49 : decode cX8_tell 49 = .ok (.getfield 26, 3) := by decide +kernel
theorem dX8_tell_52 : decode cX8_tell 52 = .ok (.ireturn, 1) := by decide +kernel
theorem dX8_tell_53 : decode cX8_tell 53 = .ok (.aload_n 0, 1) := by decide +kernel
theorem dX8_tell_54 : decode cX8_tell 54 = .ok (.getfield 29, 3) := by decide +kernel
theorem dX8_tell_57 : decode cX8_tell 57 = .ok (.ireturn, 1) := by decide +kernel
theorem dX8_tell_58 : decode cX8_tell 58 = .ok (.aload_n 0, 1) := by decide +kernel
theorem dX8_tell_59 : decode cX8_tell 59 = .ok (.getfield 19, 3) := by decide +kernel
theorem dX8_tell_62 : decode cX8_tell 62 = .ok (.iconst (-1), 1) := by decide +kernel
theorem dX8_tell_63 : decode cX8_tell 63 = .ok (.if_icmp .ne 7, 3) := by decide +kernel
theorem dX8_tell_66 : decode cX8_tell 66 = .ok (.iconst (-1), 1) := by decide +kernel
theorem dX8_tell_67 : decode cX8_tell 67 = .ok (.goto 11, 3) := by decide +kernel
theorem dX8_tell_70 : decode cX8_tell 70 = .ok (.aload_n 0, 1) := by decide +kernel
theorem dX8_tell_71 : decode cX8_tell 71 = .ok (.aload_n 0, 1) := by decide +kernel
theorem dX8_tell_72 : decode cX8_tell 72 = .ok (.getfield 19, 3) := by decide +kernel
theorem dX8_tell_75 : decode cX8_tell 75 = .ok (.invokevirtual 57, 3) := by decide +kernel
theorem dX8_tell_78 : decode cX8_tell 78 = .ok (.ireturn, 1) := by decide +kernel
theorem dX8_tell_79 : decode cX8_tell 79 = .ok (.aload_n 0, 1) := by decide +kernel
theorem dX8_tell_80 : decode cX8_tell 80 = .ok (.getfield 19, 3) := by decide +kernel
theorem dX8_tell_83 : decode cX8_tell 83 = .ok (.iconst (-1), 1) := by decide +kernel
theorem dX8_tell_84 : decode cX8_tell 84 = .ok (.if_icmp .ne 7, 3) := by decide +kernel
theorem dX8_tell_87 : decode cX8_tell 87 = .ok (.iconst (-1), 1) := by decide +kernel
theorem dX8_tell_88 : decode cX8_tell 88 = .ok (.goto 11, 3) := by decide +kernel
theorem dX8_tell_91 : decode cX8_tell 91 = .ok (.aload_n 0, 1) := by decide +kernel
theorem dX8_tell_92 : decode cX8_tell 92 = .ok (.aload_n 0, 1) := by decide +kernel
theorem dX8_tell_93 : decode cX8_tell 93 = .ok (.getfield 19, 3) := by decide +kernel
theorem dX8_tell_96 : decode cX8_tell 96 = .ok (.invokevirtual 61, 3) := by decide +kernel
theorem dX8_tell_99 : decode cX8_tell 99 = .ok (.ireturn, 1) := by decide +kernel
theorem dX8_tell_100 : decode cX8_tell 100 = .ok (.aload_n 0, 1) := by decide +kernel
theorem dX8_tell_101 : decode cX8_tell 101 = .ok (.getfield 40, 3) := by decide +kernel
theorem dX8_tell_104 : decode cX8_tell 104 = .ok (.ireturn, 1) := by decide +kernel
theorem dX8_tell_105 : decode cX8_tell 105 = .ok (.aload_n 0, 1) := by decide +kernel
theorem dX8_tell_106 : decode cX8_tell 106 = .ok (.getfield 43, 3) := by decide +kernel
theorem dX8_tell_109 : decode cX8_tell 109 = .ok (.ireturn, 1) := by decide +kernel
theorem dX8_tell_110 : decode cX8_tell 110 = .ok (.iconst (-1), 1) := by decide +kernel
theorem dX8_tell_111 : decode cX8_tell 111 = .ok (.ireturn, 1) := by decide +kernel
set_option maxRecDepth 20000 in
theorem ggX8_hear_X8_settle : GoodIn wsX8_hear wsX8_settle := goodIn_r _ [8, 3, 9, 10, 11, 12, 13, 14, 15, 1, 16, 17, 18, 7, 19, 20, 21, 22, 23, 24, 25, 26, 27, 28, 29, 30, 31, 32, 33, 34, 35, 36, 37, 38, 39, 40, 41, 42, 43, 44, 45, 46, 47, 48, 49, 50] (by decide +kernel) (by decide +kernel)
set_option maxRecDepth 20000 in
theorem gX8_hear_X8_settle : GoodIn wsX8_hear (wsV RX8 64 RX8 yX8_settle wsX8_settle) := goodIn_app (goodIn_of _ (by decide +kernel)) ggX8_hear_X8_settle
theorem dX8_hear_0 : decode cX8_hear 0 = .ok (.aload_n 0, 1) := by decide +kernel
theorem dX8_hear_1 : decode cX8_hear 1 = .ok (.getfield 19, 3) := by decide +kernel
theorem dX8_hear_4 : decode cX8_hear 4 = .ok (.iconst (-1), 1) := by decide +kernel
theorem dX8_hear_5 : decode cX8_hear 5 = .ok (.if_icmp .ne 5, 3) := by decide +kernel
theorem dX8_hear_8 : decode cX8_hear 8 = .ok (.iconst (-1), 1) := by decide +kernel
theorem dX8_hear_9 : decode cX8_hear 9 = .ok (.ireturn, 1) := by decide +kernel
theorem dX8_hear_10 : decode cX8_hear 10 = .ok (.aload_n 0, 1) := by decide +kernel
theorem dX8_hear_11 : decode cX8_hear 11 = .ok (.dup, 1) := by decide +kernel
theorem dX8_hear_12 : decode cX8_hear 12 = .ok (.getfield 40, 3) := by decide +kernel
theorem dX8_hear_15 : decode cX8_hear 15 = .ok (.iconst 1, 1) := by decide +kernel
theorem dX8_hear_16 : decode cX8_hear 16 = .ok (.iadd, 1) := by decide +kernel
theorem dX8_hear_17 : decode cX8_hear 17 = .ok (.putfield 40, 3) := by decide +kernel
theorem dX8_hear_20 : decode cX8_hear 20 = .ok (.aload_n 0, 1) := by decide +kernel
theorem dX8_hear_21 : decode cX8_hear 21 = .ok (.dup, 1) := by decide +kernel
theorem dX8_hear_22 : decode cX8_hear 22 = .ok (.getfield 46, 3) := by decide +kernel
theorem dX8_hear_25 : decode cX8_hear 25 = .ok (.iload_n 1, 1) := by decide +kernel
theorem dX8_hear_26 : decode cX8_hear 26 = .ok (.ifCond .eq 7, 3) := by decide +kernel
theorem dX8_hear_29 : decode cX8_hear 29 = .ok (.iconst 1, 1) := by decide +kernel
theorem dX8_hear_30 : decode cX8_hear 30 = .ok (.goto 4, 3) := by decide +kernel
theorem dX8_hear_33 : decode cX8_hear 33 = .ok (.iconst (-1), 1) := by decide +kernel
theorem dX8_hear_34 : decode cX8_hear 34 = .ok (.iadd, 1) := by decide +kernel
theorem dX8_hear_35 : decode cX8_hear 35 = .ok (.putfield 46, 3) := by decide +kernel
theorem dX8_hear_38 : decode cX8_hear 38 = .ok (.aload_n 0, 1) := by decide +kernel
theorem dX8_hear_39 : decode cX8_hear 39 = .ok (.invokevirtual 64, 3) := by decide +kernel
theorem dX8_hear_42 : decode cX8_hear 42 = .ok (.istore_n 2, 1) := by decide +kernel
theorem dX8_hear_43 : decode cX8_hear 43 = .ok (.aload_n 0, 1) := by decide +kernel
theorem dX8_hear_44 : decode cX8_hear 44 = .ok (.getfield 40, 3) := by decide +kernel
theorem dX8_hear_47 : decode cX8_hear 47 = .ok (.sipush 200, 3) := by decide +kernel
theorem dX8_hear_50 : decode cX8_hear 50 = .ok (.if_icmp .lt 8, 3) := by decide +kernel
theorem dX8_hear_53 : decode cX8_hear 53 = .ok (.aload_n 0, 1) := by decide +kernel
theorem dX8_hear_54 : decode cX8_hear 54 = .ok (.iconst (-1), 1) := by decide +kernel
theorem dX8_hear_55 : decode cX8_hear 55 = .ok (.putfield 19, 3) := by decide +kernel
theorem dX8_hear_58 : decode cX8_hear 58 = .ok (.aload_n 0, 1) := by decide +kernel
theorem dX8_hear_59 : decode cX8_hear 59 = .ok (.getfield 19, 3) := by decide +kernel
theorem dX8_hear_62 : decode cX8_hear 62 = .ok (.iconst (-1), 1) := by decide +kernel
theorem dX8_hear_63 : decode cX8_hear 63 = .ok (.if_icmp .ne 7, 3) := by decide +kernel
theorem dX8_hear_66 : decode cX8_hear 66 = .ok (.iconst 3, 1) := by decide +kernel
theorem dX8_hear_67 : decode cX8_hear 67 = .ok (.goto 4, 3) := by decide +kernel
theorem dX8_hear_70 : decode cX8_hear 70 = .ok (.iload_n 2, 1) := by decide +kernel
theorem dX8_hear_71 : decode cX8_hear 71 = .ok (.ireturn, 1) := by decide +kernel
set_option maxRecDepth 20000 in
theorem ggX8_settle_X8_longOn : GoodIn wsX8_settle wsX8_longOn := goodIn_r _ [14, 15, 16, 37, 38, 39, 40, 41, 42, 43, 44, 45] (by decide +kernel) (by decide +kernel)
set_option maxRecDepth 20000 in
theorem gX8_settle_X8_longOn : GoodIn wsX8_settle (wsV RX8 57 RX8 yX8_longOn wsX8_longOn) := goodIn_app (goodIn_of _ (by decide +kernel)) ggX8_settle_X8_longOn
set_option maxRecDepth 20000 in
theorem ggX8_settle_X8_spreadOn : GoodIn wsX8_settle wsX8_spreadOn := goodIn_r _ [20, 21, 22, 37, 38, 39, 40, 41, 42, 43, 44, 45] (by decide +kernel) (by decide +kernel)
set_option maxRecDepth 20000 in
theorem gX8_settle_X8_spreadOn : GoodIn wsX8_settle (wsV RX8 61 RX8 yX8_spreadOn wsX8_spreadOn) := goodIn_app (goodIn_of _ (by decide +kernel)) ggX8_settle_X8_spreadOn
set_option maxRecDepth 20000 in
theorem ggX8_settle_X8_makeBest : GoodIn wsX8_settle wsX8_makeBest := goodIn_r _ [26, 15, 21, 8, 37, 38, 39, 40, 41, 42, 43, 44, 45] (by decide +kernel) (by decide +kernel)
set_option maxRecDepth 20000 in
theorem gX8_settle_X8_makeBest : GoodIn wsX8_settle (wsV RX8 49 RX8 yX8_makeBest wsX8_makeBest) := goodIn_app (goodIn_of _ (by decide +kernel)) ggX8_settle_X8_makeBest
set_option maxRecDepth 20000 in
theorem ggX8_settle_X8_nextWay : GoodIn wsX8_settle wsX8_nextWay := goodIn_r _ [30, 8, 10, 11, 12, 13, 14, 15, 16, 17, 18, 19, 20, 21, 22, 31, 32, 33, 34, 35, 36, 37, 38, 39, 40, 41, 42, 43, 44, 45] (by decide +kernel) (by decide +kernel)
set_option maxRecDepth 20000 in
theorem gX8_settle_X8_nextWay : GoodIn wsX8_settle (wsV RX8 53 RX8 yX8_nextWay wsX8_nextWay) := goodIn_app (goodIn_of _ (by decide +kernel)) ggX8_settle_X8_nextWay
theorem dX8_settle_0 : decode cX8_settle 0 = .ok (.aload_n 0, 1) := by decide +kernel
theorem dX8_settle_1 : decode cX8_settle 1 = .ok (.getfield 46, 3) := by decide +kernel
theorem dX8_settle_4 : decode cX8_settle 4 = .ok (.invokestatic 67, 3) := by decide +kernel
theorem dX8_settle_7 : decode cX8_settle 7 = .ok (.aload_n 0, 1) := by decide +kernel
theorem dX8_settle_8 : decode cX8_settle 8 = .ok (.getfield 15, 3) := by decide +kernel
theorem dX8_settle_11 : decode cX8_settle 11 = .ok (.if_icmp .ge 5, 3) := by decide +kernel
theorem dX8_settle_14 : decode cX8_settle 14 = .ok (.iconst 0, 1) := by decide +kernel
theorem dX8_settle_15 : decode cX8_settle 15 = .ok (.ireturn, 1) := by decide +kernel
theorem dX8_settle_16 : decode cX8_settle 16 = .ok (.aload_n 0, 1) := by decide +kernel
theorem dX8_settle_17 : decode cX8_settle 17 = .ok (.getfield 46, 3) := by decide +kernel
theorem dX8_settle_20 : decode cX8_settle 20 = .ok (.ifCond .le 7, 3) := by decide +kernel
theorem dX8_settle_23 : decode cX8_settle 23 = .ok (.iconst 1, 1) := by decide +kernel
theorem dX8_settle_24 : decode cX8_settle 24 = .ok (.goto 4, 3) := by decide +kernel
theorem dX8_settle_27 : decode cX8_settle 27 = .ok (.iconst 0, 1) := by decide +kernel
theorem dX8_settle_28 : decode cX8_settle 28 = .ok (.istore_n 1, 1) := by decide +kernel
theorem dX8_settle_29 : decode cX8_settle 29 = .ok (.aload_n 0, 1) := by decide +kernel
theorem dX8_settle_30 : decode cX8_settle 30 = .ok (.iconst 0, 1) := by decide +kernel
theorem dX8_settle_31 : decode cX8_settle 31 = .ok (.putfield 46, 3) := by decide +kernel
theorem dX8_settle_34 : decode cX8_settle 34 = .ok (.aload_n 0, 1) := by decide +kernel
theorem dX8_settle_35 : decode cX8_settle 35 = .ok (.dup, 1) := by decide +kernel
theorem dX8_settle_36 : decode cX8_settle 36 = .ok (.getfield 43, 3) := by decide +kernel
theorem dX8_settle_39 : decode cX8_settle 39 = .ok (.iconst 1, 1) := by decide +kernel
theorem dX8_settle_40 : decode cX8_settle 40 = .ok (.iadd, 1) := by decide +kernel
theorem dX8_settle_41 : decode cX8_settle 41 = .ok (.putfield 43, 3) := by decide +kernel
theorem dX8_settle_44 : decode cX8_settle 44 = .ok (.iload_n 1, 1) := by decide +kernel
theorem dX8_settle_45 : decode cX8_settle 45 = .ok (.ifCond .eq 16, 3) := by decide +kernel
theorem dX8_settle_48 : decode cX8_settle 48 = .ok (.aload_n 0, 1) := by decide +kernel
theorem dX8_settle_49 : decode cX8_settle 49 = .ok (.getfield 11, 3) := by decide +kernel
theorem dX8_settle_52 : decode cX8_settle 52 = .ok (.aload_n 0, 1) := by decide +kernel
theorem dX8_settle_53 : decode cX8_settle 53 = .ok (.getfield 19, 3) := by decide +kernel
theorem dX8_settle_56 : decode cX8_settle 56 = .ok (.iconst 1, 1) := by decide +kernel
theorem dX8_settle_57 : decode cX8_settle 57 = .ok (.bastore, 1) := by decide +kernel
theorem dX8_settle_58 : decode cX8_settle 58 = .ok (.goto 23, 3) := by decide +kernel
theorem dX8_settle_61 : decode cX8_settle 61 = .ok (.aload_n 0, 1) := by decide +kernel
theorem dX8_settle_62 : decode cX8_settle 62 = .ok (.aload_n 0, 1) := by decide +kernel
theorem dX8_settle_63 : decode cX8_settle 63 = .ok (.aload_n 0, 1) := by decide +kernel
theorem dX8_settle_64 : decode cX8_settle 64 = .ok (.getfield 19, 3) := by decide +kernel
theorem dX8_settle_67 : decode cX8_settle 67 = .ok (.invokevirtual 57, 3) := by decide +kernel
theorem dX8_settle_70 : decode cX8_settle 70 = .ok (.aload_n 0, 1) := by decide +kernel
theorem dX8_settle_71 : decode cX8_settle 71 = .ok (.aload_n 0, 1) := by decide +kernel
theorem dX8_settle_72 : decode cX8_settle 72 = .ok (.getfield 19, 3) := by decide +kernel
theorem dX8_settle_75 : decode cX8_settle 75 = .ok (.invokevirtual 61, 3) := by decide +kernel
theorem dX8_settle_78 : decode cX8_settle 78 = .ok (.invokevirtual 49, 3) := by decide +kernel
theorem dX8_settle_81 : decode cX8_settle 81 = .ok (.aload_n 0, 1) := by decide +kernel
theorem dX8_settle_82 : decode cX8_settle 82 = .ok (.aload_n 0, 1) := by decide +kernel
theorem dX8_settle_83 : decode cX8_settle 83 = .ok (.invokevirtual 53, 3) := by decide +kernel
theorem dX8_settle_86 : decode cX8_settle 86 = .ok (.putfield 19, 3) := by decide +kernel
theorem dX8_settle_89 : decode cX8_settle 89 = .ok (.iload_n 1, 1) := by decide +kernel
theorem dX8_settle_90 : decode cX8_settle 90 = .ok (.ifCond .eq 7, 3) := by decide +kernel
theorem dX8_settle_93 : decode cX8_settle 93 = .ok (.iconst 1, 1) := by decide +kernel
theorem dX8_settle_94 : decode cX8_settle 94 = .ok (.goto 4, 3) := by decide +kernel
theorem dX8_settle_97 : decode cX8_settle 97 = .ok (.iconst 2, 1) := by decide +kernel
theorem dX8_settle_98 : decode cX8_settle 98 = .ok (.ireturn, 1) := by decide +kernel
theorem dX8_makeBest_0 : decode cX8_makeBest 0 = .ok (.aload_n 0, 1) := by decide +kernel
theorem dX8_makeBest_1 : decode cX8_makeBest 1 = .ok (.iload_n 1, 1) := by decide +kernel
theorem dX8_makeBest_2 : decode cX8_makeBest 2 = .ok (.putfield 26, 3) := by decide +kernel
theorem dX8_makeBest_5 : decode cX8_makeBest 5 = .ok (.aload_n 0, 1) := by decide +kernel
theorem dX8_makeBest_6 : decode cX8_makeBest 6 = .ok (.iload_n 2, 1) := by decide +kernel
theorem dX8_makeBest_7 : decode cX8_makeBest 7 = .ok (.putfield 29, 3) := by decide +kernel
theorem dX8_makeBest_10 : decode cX8_makeBest 10 = .ok (.iconst 0, 1) := by decide +kernel
theorem dX8_makeBest_11 : decode cX8_makeBest 11 = .ok (.istore_n 3, 1) := by decide +kernel
theorem dX8_makeBest_12 : decode cX8_makeBest 12 = .ok (.iload_n 3, 1) := by decide +kernel
theorem dX8_makeBest_13 : decode cX8_makeBest 13 = .ok (.iconst 4, 1) := by decide +kernel
theorem dX8_makeBest_14 : decode cX8_makeBest 14 = .ok (.if_icmp .ge 16, 3) := by decide +kernel
theorem dX8_makeBest_17 : decode cX8_makeBest 17 = .ok (.aload_n 0, 1) := by decide +kernel
theorem dX8_makeBest_18 : decode cX8_makeBest 18 = .ok (.getfield 11, 3) := by decide +kernel
theorem dX8_makeBest_21 : decode cX8_makeBest 21 = .ok (.iload_n 3, 1) := by decide +kernel
theorem dX8_makeBest_22 : decode cX8_makeBest 22 = .ok (.iconst 0, 1) := by decide +kernel
theorem dX8_makeBest_23 : decode cX8_makeBest 23 = .ok (.bastore, 1) := by decide +kernel
theorem dX8_makeBest_24 : decode cX8_makeBest 24 = .ok (.iinc 3 1, 3) := by decide +kernel
theorem dX8_makeBest_27 : decode cX8_makeBest 27 = .ok (.goto (-15), 3) := by decide +kernel
theorem dX8_makeBest_30 : decode cX8_makeBest 30 = .ok (.return_, 1) := by decide +kernel
set_option maxRecDepth 20000 in
theorem ggX8_nextWay_X8_longOn : GoodIn wsX8_nextWay wsX8_longOn := goodIn_r _ [6, 7, 8, 21, 22, 23, 24, 25, 26, 27, 28, 29] (by decide +kernel) (by decide +kernel)
set_option maxRecDepth 20000 in
theorem gX8_nextWay_X8_longOn : GoodIn wsX8_nextWay (wsV RX8 57 RX8 yX8_longOn wsX8_longOn) := goodIn_app (goodIn_of _ (by decide +kernel)) ggX8_nextWay_X8_longOn
set_option maxRecDepth 20000 in
theorem ggX8_nextWay_X8_spreadOn : GoodIn wsX8_nextWay wsX8_spreadOn := goodIn_r _ [12, 13, 14, 21, 22, 23, 24, 25, 26, 27, 28, 29] (by decide +kernel) (by decide +kernel)
set_option maxRecDepth 20000 in
theorem gX8_nextWay_X8_spreadOn : GoodIn wsX8_nextWay (wsV RX8 61 RX8 yX8_spreadOn wsX8_spreadOn) := goodIn_app (goodIn_of _ (by decide +kernel)) ggX8_nextWay_X8_spreadOn
set_option maxRecDepth 20000 in
theorem ggX8_nextWay_X8_isOnGrid : GoodIn wsX8_nextWay wsX8_isOnGrid := goodIn_r _ [17, 18, 19, 20] (by decide +kernel) (by decide +kernel)
set_option maxRecDepth 20000 in
theorem gX8_nextWay_X8_isOnGrid : GoodIn wsX8_nextWay (va_wsS RX8 32 yX8_isOnGrid wsX8_isOnGrid) := goodIn_app (goodIn_of _ (by decide +kernel)) ggX8_nextWay_X8_isOnGrid
theorem dX8_nextWay_0 : decode cX8_nextWay 0 = .ok (.iconst 0, 1) := by decide +kernel
theorem dX8_nextWay_1 : decode cX8_nextWay 1 = .ok (.istore_n 1, 1) := by decide +kernel
theorem dX8_nextWay_2 : decode cX8_nextWay 2 = .ok (.iload_n 1, 1) := by decide +kernel
theorem dX8_nextWay_3 : decode cX8_nextWay 3 = .ok (.iconst 4, 1) := by decide +kernel
theorem dX8_nextWay_4 : decode cX8_nextWay 4 = .ok (.if_icmp .ge 36, 3) := by decide +kernel
theorem dX8_nextWay_7 : decode cX8_nextWay 7 = .ok (.aload_n 0, 1) := by decide +kernel
theorem dX8_nextWay_8 : decode cX8_nextWay 8 = .ok (.getfield 11, 3) := by decide +kernel
theorem dX8_nextWay_11 : decode cX8_nextWay 11 = .ok (.iload_n 1, 1) := by decide +kernel
theorem dX8_nextWay_12 : decode cX8_nextWay 12 = .ok (.baload, 1) := by decide +kernel
theorem dX8_nextWay_13 : decode cX8_nextWay 13 = .ok (.ifCond .ne 21, 3) := by decide +kernel
theorem dX8_nextWay_16 : decode cX8_nextWay 16 = .ok (.aload_n 0, 1) := by decide +kernel
theorem dX8_nextWay_17 : decode cX8_nextWay 17 = .ok (.iload_n 1, 1) := by decide +kernel
theorem dX8_nextWay_18 : decode cX8_nextWay 18 = .ok (.invokevirtual 57, 3) := by decide +kernel
theorem dX8_nextWay_21 : decode cX8_nextWay 21 = .ok (.aload_n 0, 1) := by decide +kernel
theorem dX8_nextWay_22 : decode cX8_nextWay 22 = .ok (.iload_n 1, 1) := by decide +kernel
theorem dX8_nextWay_23 : decode cX8_nextWay 23 = .ok (.invokevirtual 61, 3) := by decide +kernel
theorem dX8_nextWay_26 : decode cX8_nextWay 26 = .ok (.invokestatic 32, 3) := by decide +kernel
theorem dX8_nextWay_29 : decode cX8_nextWay 29 = .ok (.ifCond .eq 5, 3) := by decide +kernel
theorem dX8_nextWay_32 : decode cX8_nextWay 32 = .ok (.iload_n 1, 1) := by decide +kernel
theorem dX8_nextWay_33 : decode cX8_nextWay 33 = .ok (.ireturn, 1) := by decide +kernel
theorem dX8_nextWay_34 : decode cX8_nextWay 34 = .ok (.iinc 1 1, 3) := by decide +kernel
theorem dX8_nextWay_37 : decode cX8_nextWay 37 = .ok (.goto (-35), 3) := by decide +kernel
theorem dX8_nextWay_40 : decode cX8_nextWay 40 = .ok (.iconst (-1), 1) := by decide +kernel
theorem dX8_nextWay_41 : decode cX8_nextWay 41 = .ok (.ireturn, 1) := by decide +kernel
theorem dX8_longOn_0 : decode cX8_longOn 0 = .ok (.aload_n 0, 1) := by decide +kernel
theorem dX8_longOn_1 : decode cX8_longOn 1 = .ok (.getfield 26, 3) := by decide +kernel
theorem dX8_longOn_4 : decode cX8_longOn 4 = .ok (.getstatic 72, 3) := by decide +kernel
theorem dX8_longOn_7 : decode cX8_longOn 7 = .ok (.iload_n 1, 1) := by decide +kernel
theorem dX8_longOn_8 : decode cX8_longOn 8 = .ok (.iaload, 1) := by decide +kernel
theorem dX8_longOn_9 : decode cX8_longOn 9 = .ok (.iadd, 1) := by decide +kernel
theorem dX8_longOn_10 : decode cX8_longOn 10 = .ok (.ireturn, 1) := by decide +kernel
theorem dX8_spreadOn_0 : decode cX8_spreadOn 0 = .ok (.aload_n 0, 1) := by decide +kernel
theorem dX8_spreadOn_1 : decode cX8_spreadOn 1 = .ok (.getfield 29, 3) := by decide +kernel
theorem dX8_spreadOn_4 : decode cX8_spreadOn 4 = .ok (.getstatic 76, 3) := by decide +kernel
theorem dX8_spreadOn_7 : decode cX8_spreadOn 7 = .ok (.iload_n 1, 1) := by decide +kernel
theorem dX8_spreadOn_8 : decode cX8_spreadOn 8 = .ok (.iaload, 1) := by decide +kernel
theorem dX8_spreadOn_9 : decode cX8_spreadOn 9 = .ok (.iadd, 1) := by decide +kernel
theorem dX8_spreadOn_10 : decode cX8_spreadOn 10 = .ok (.ireturn, 1) := by decide +kernel
set_option maxRecDepth 20000 in
theorem ggX8_isOnGrid_X10_within : GoodIn wsX8_isOnGrid wsX10_within := goodIn_r _ [3] (by decide +kernel) (by decide +kernel)
set_option maxRecDepth 20000 in
theorem gX8_isOnGrid_X10_within_n36 : GoodIn wsX8_isOnGrid (wsX10_within) := ggX8_isOnGrid_X10_within
theorem dX8_isOnGrid_0 : decode cX8_isOnGrid 0 = .ok (.iload_n 0, 1) := by decide +kernel
theorem dX8_isOnGrid_1 : decode cX8_isOnGrid 1 = .ok (.iconst 0, 1) := by decide +kernel
theorem dX8_isOnGrid_2 : decode cX8_isOnGrid 2 = .ok (.bipush 10, 2) := by decide +kernel
theorem dX8_isOnGrid_4 : decode cX8_isOnGrid 4 = .ok (.invokestatic 36, 3) := by decide +kernel
theorem dX8_isOnGrid_7 : decode cX8_isOnGrid 7 = .ok (.ifCond .eq 16, 3) := by decide +kernel
theorem dX8_isOnGrid_10 : decode cX8_isOnGrid 10 = .ok (.iload_n 1, 1) := by decide +kernel
theorem dX8_isOnGrid_11 : decode cX8_isOnGrid 11 = .ok (.iconst 0, 1) := by decide +kernel
theorem dX8_isOnGrid_12 : decode cX8_isOnGrid 12 = .ok (.iconst 2, 1) := by decide +kernel
theorem dX8_isOnGrid_13 : decode cX8_isOnGrid 13 = .ok (.invokestatic 36, 3) := by decide +kernel
theorem dX8_isOnGrid_16 : decode cX8_isOnGrid 16 = .ok (.ifCond .eq 7, 3) := by decide +kernel
theorem dX8_isOnGrid_19 : decode cX8_isOnGrid 19 = .ok (.iconst 1, 1) := by decide +kernel
theorem dX8_isOnGrid_20 : decode cX8_isOnGrid 20 = .ok (.goto 4, 3) := by decide +kernel
theorem dX8_isOnGrid_23 : decode cX8_isOnGrid 23 = .ok (.iconst 0, 1) := by decide +kernel
theorem dX8_isOnGrid_24 : decode cX8_isOnGrid 24 = .ok (.ireturn, 1) := by decide +kernel
theorem dX9_init_0 : decode cX9_init 0 = .ok (.aload_n 0, 1) := by decide +kernel
theorem dX9_init_1 : decode cX9_init 1 = .ok (.invokespecial 3, 3) := by decide +kernel
theorem dX9_init_4 : decode cX9_init 4 = .ok (.aload_n 0, 1) := by decide +kernel
theorem dX9_init_5 : decode cX9_init 5 = .ok (.sipush 1600, 3) := by decide +kernel
theorem dX9_init_8 : decode cX9_init 8 = .ok (.newarray .int, 2) := by decide +kernel
theorem dX9_init_10 : decode cX9_init 10 = .ok (.putfield 9, 3) := by decide +kernel
theorem dX9_init_13 : decode cX9_init 13 = .ok (.aload_n 0, 1) := by decide +kernel
theorem dX9_init_14 : decode cX9_init 14 = .ok (.bipush 80, 2) := by decide +kernel
theorem dX9_init_16 : decode cX9_init 16 = .ok (.newarray .int, 2) := by decide +kernel
theorem dX9_init_18 : decode cX9_init 18 = .ok (.putfield 15, 3) := by decide +kernel
theorem dX9_init_21 : decode cX9_init 21 = .ok (.aload_n 0, 1) := by decide +kernel
theorem dX9_init_22 : decode cX9_init 22 = .ok (.bipush 80, 2) := by decide +kernel
theorem dX9_init_24 : decode cX9_init 24 = .ok (.newarray .int, 2) := by decide +kernel
theorem dX9_init_26 : decode cX9_init 26 = .ok (.putfield 18, 3) := by decide +kernel
theorem dX9_init_29 : decode cX9_init 29 = .ok (.return_, 1) := by decide +kernel
theorem dX9_count_0 : decode cX9_count 0 = .ok (.aload_n 0, 1) := by decide +kernel
theorem dX9_count_1 : decode cX9_count 1 = .ok (.getfield 21, 3) := by decide +kernel
theorem dX9_count_4 : decode cX9_count 4 = .ok (.ireturn, 1) := by decide +kernel
theorem dX9_has_0 : decode cX9_has 0 = .ok (.iload_n 1, 1) := by decide +kernel
theorem dX9_has_1 : decode cX9_has 1 = .ok (.ifCond .lt 15, 3) := by decide +kernel
theorem dX9_has_4 : decode cX9_has 4 = .ok (.iload_n 1, 1) := by decide +kernel
theorem dX9_has_5 : decode cX9_has 5 = .ok (.aload_n 0, 1) := by decide +kernel
theorem dX9_has_6 : decode cX9_has 6 = .ok (.getfield 21, 3) := by decide +kernel
theorem dX9_has_9 : decode cX9_has 9 = .ok (.if_icmp .ge 7, 3) := by decide +kernel
theorem dX9_has_12 : decode cX9_has 12 = .ok (.iconst 1, 1) := by decide +kernel
theorem dX9_has_13 : decode cX9_has 13 = .ok (.goto 4, 3) := by decide +kernel
theorem dX9_has_16 : decode cX9_has 16 = .ok (.iconst 0, 1) := by decide +kernel
theorem dX9_has_17 : decode cX9_has 17 = .ok (.ireturn, 1) := by decide +kernel
set_option maxRecDepth 20000 in
theorem ggX9_letters_X9_has : GoodIn wsX9_letters wsX9_has := goodIn_r _ [6, 7, 8, 9, 10, 11] (by decide +kernel) (by decide +kernel)
set_option maxRecDepth 20000 in
theorem gX9_letters_X9_has : GoodIn wsX9_letters (wsV RX9 25 RX9 yX9_has wsX9_has) := goodIn_app (goodIn_of _ (by decide +kernel)) ggX9_letters_X9_has
theorem dX9_letters_0 : decode cX9_letters 0 = .ok (.aload_n 0, 1) := by decide +kernel
theorem dX9_letters_1 : decode cX9_letters 1 = .ok (.iload_n 1, 1) := by decide +kernel
theorem dX9_letters_2 : decode cX9_letters 2 = .ok (.invokevirtual 25, 3) := by decide +kernel
theorem dX9_letters_5 : decode cX9_letters 5 = .ok (.ifCond .eq 12, 3) := by decide +kernel
theorem dX9_letters_8 : decode cX9_letters 8 = .ok (.aload_n 0, 1) := by decide +kernel
theorem dX9_letters_9 : decode cX9_letters 9 = .ok (.getfield 15, 3) := by decide +kernel
theorem dX9_letters_12 : decode cX9_letters 12 = .ok (.iload_n 1, 1) := by decide +kernel
theorem dX9_letters_13 : decode cX9_letters 13 = .ok (.iaload, 1) := by decide +kernel
theorem dX9_letters_14 : decode cX9_letters 14 = .ok (.goto 4, 3) := by decide +kernel
theorem dX9_letters_17 : decode cX9_letters 17 = .ok (.iconst (-1), 1) := by decide +kernel
theorem dX9_letters_18 : decode cX9_letters 18 = .ok (.ireturn, 1) := by decide +kernel
set_option maxRecDepth 20000 in
theorem ggX9_behind_X9_has : GoodIn wsX9_behind wsX9_has := goodIn_r _ [6, 7, 8, 9, 10, 11] (by decide +kernel) (by decide +kernel)
set_option maxRecDepth 20000 in
theorem gX9_behind_X9_has : GoodIn wsX9_behind (wsV RX9 25 RX9 yX9_has wsX9_has) := goodIn_app (goodIn_of _ (by decide +kernel)) ggX9_behind_X9_has
theorem dX9_behind_0 : decode cX9_behind 0 = .ok (.aload_n 0, 1) := by decide +kernel
theorem dX9_behind_1 : decode cX9_behind 1 = .ok (.iload_n 1, 1) := by decide +kernel
theorem dX9_behind_2 : decode cX9_behind 2 = .ok (.invokevirtual 25, 3) := by decide +kernel
theorem dX9_behind_5 : decode cX9_behind 5 = .ok (.ifCond .eq 12, 3) := by decide +kernel
theorem dX9_behind_8 : decode cX9_behind 8 = .ok (.aload_n 0, 1) := by decide +kernel
theorem dX9_behind_9 : decode cX9_behind 9 = .ok (.getfield 18, 3) := by decide +kernel
theorem dX9_behind_12 : decode cX9_behind 12 = .ok (.iload_n 1, 1) := by decide +kernel
theorem dX9_behind_13 : decode cX9_behind 13 = .ok (.iaload, 1) := by decide +kernel
theorem dX9_behind_14 : decode cX9_behind 14 = .ok (.goto 4, 3) := by decide +kernel
theorem dX9_behind_17 : decode cX9_behind 17 = .ok (.iconst (-1), 1) := by decide +kernel
theorem dX9_behind_18 : decode cX9_behind 18 = .ok (.ireturn, 1) := by decide +kernel
set_option maxRecDepth 20000 in
theorem ggX9_goesOn_X9_behind : GoodIn wsX9_goesOn wsX9_behind := goodIn_r _ [5, 6, 7, 8, 9, 4, 10, 11, 12, 13, 14, 15] (by decide +kernel) (by decide +kernel)
set_option maxRecDepth 20000 in
theorem gX9_goesOn_X9_behind : GoodIn wsX9_goesOn (wsV RX9 29 RX9 yX9_behind wsX9_behind) := goodIn_app (goodIn_of _ (by decide +kernel)) ggX9_goesOn_X9_behind
theorem dX9_goesOn_0 : decode cX9_goesOn 0 = .ok (.aload_n 0, 1) := by decide +kernel
theorem dX9_goesOn_1 : decode cX9_goesOn 1 = .ok (.iload_n 1, 1) := by decide +kernel
theorem dX9_goesOn_2 : decode cX9_goesOn 2 = .ok (.invokevirtual 29, 3) := by decide +kernel
theorem dX9_goesOn_5 : decode cX9_goesOn 5 = .ok (.bipush 45, 2) := by decide +kernel
theorem dX9_goesOn_7 : decode cX9_goesOn 7 = .ok (.if_icmp .ne 7, 3) := by decide +kernel
theorem dX9_goesOn_10 : decode cX9_goesOn 10 = .ok (.iconst 1, 1) := by decide +kernel
theorem dX9_goesOn_11 : decode cX9_goesOn 11 = .ok (.goto 4, 3) := by decide +kernel
theorem dX9_goesOn_14 : decode cX9_goesOn 14 = .ok (.iconst 0, 1) := by decide +kernel
theorem dX9_goesOn_15 : decode cX9_goesOn 15 = .ok (.ireturn, 1) := by decide +kernel
set_option maxRecDepth 20000 in
theorem ggX9_isWholeWord_X9_has : GoodIn wsX9_isWholeWord wsX9_has := goodIn_r _ [5, 6, 16, 17, 18, 19] (by decide +kernel) (by decide +kernel)
set_option maxRecDepth 20000 in
theorem gX9_isWholeWord_X9_has : GoodIn wsX9_isWholeWord (wsV RX9 25 RX9 yX9_has wsX9_has) := goodIn_app (goodIn_of _ (by decide +kernel)) ggX9_isWholeWord_X9_has
set_option maxRecDepth 20000 in
theorem ggX9_isWholeWord_X9_goesOn : GoodIn wsX9_isWholeWord wsX9_goesOn := goodIn_r _ [10, 11, 12, 13, 4, 14, 15, 1, 2, 3, 5, 6, 16, 17, 18, 19] (by decide +kernel) (by decide +kernel)
set_option maxRecDepth 20000 in
theorem gX9_isWholeWord_X9_goesOn : GoodIn wsX9_isWholeWord (wsV RX9 32 RX9 yX9_goesOn wsX9_goesOn) := goodIn_app (goodIn_of _ (by decide +kernel)) ggX9_isWholeWord_X9_goesOn
theorem dX9_isWholeWord_0 : decode cX9_isWholeWord 0 = .ok (.aload_n 0, 1) := by decide +kernel
theorem dX9_isWholeWord_1 : decode cX9_isWholeWord 1 = .ok (.iload_n 1, 1) := by decide +kernel
theorem dX9_isWholeWord_2 : decode cX9_isWholeWord 2 = .ok (.invokevirtual 25, 3) := by decide +kernel
theorem dX9_isWholeWord_5 : decode cX9_isWholeWord 5 = .ok (.ifCond .eq 25, 3) := by decide +kernel
theorem dX9_isWholeWord_8 : decode cX9_isWholeWord 8 = .ok (.aload_n 0, 1) := by decide +kernel
theorem dX9_isWholeWord_9 : decode cX9_isWholeWord 9 = .ok (.iload_n 1, 1) := by decide +kernel
theorem dX9_isWholeWord_10 : decode cX9_isWholeWord 10 = .ok (.invokevirtual 32, 3) := by decide +kernel
theorem dX9_isWholeWord_13 : decode cX9_isWholeWord 13 = .ok (.ifCond .ne 17, 3) := by decide +kernel
theorem dX9_isWholeWord_16 : decode cX9_isWholeWord 16 = .ok (.aload_n 0, 1) := by decide +kernel
theorem dX9_isWholeWord_17 : decode cX9_isWholeWord 17 = .ok (.iload_n 1, 1) := by decide +kernel
theorem dX9_isWholeWord_18 : decode cX9_isWholeWord 18 = .ok (.iconst 1, 1) := by decide +kernel
theorem dX9_isWholeWord_19 : decode cX9_isWholeWord 19 = .ok (.isub, 1) := by decide +kernel
theorem dX9_isWholeWord_20 : decode cX9_isWholeWord 20 = .ok (.invokevirtual 32, 3) := by decide +kernel
theorem dX9_isWholeWord_23 : decode cX9_isWholeWord 23 = .ok (.ifCond .ne 7, 3) := by decide +kernel
theorem dX9_isWholeWord_26 : decode cX9_isWholeWord 26 = .ok (.iconst 1, 1) := by decide +kernel
theorem dX9_isWholeWord_27 : decode cX9_isWholeWord 27 = .ok (.goto 4, 3) := by decide +kernel
theorem dX9_isWholeWord_30 : decode cX9_isWholeWord 30 = .ok (.iconst 0, 1) := by decide +kernel
theorem dX9_isWholeWord_31 : decode cX9_isWholeWord 31 = .ok (.ireturn, 1) := by decide +kernel
set_option maxRecDepth 20000 in
theorem ggX9_wordNumber_X9_goesOn : GoodIn wsX9_wordNumber wsX9_goesOn := goodIn_r _ [6, 7, 8, 9, 5, 10, 11, 12, 13, 14, 15, 1, 16, 17, 18, 19] (by decide +kernel) (by decide +kernel)
set_option maxRecDepth 20000 in
theorem gX9_wordNumber_X9_goesOn : GoodIn wsX9_wordNumber (wsV RX9 32 RX9 yX9_goesOn wsX9_goesOn) := goodIn_app (goodIn_of _ (by decide +kernel)) ggX9_wordNumber_X9_goesOn
theorem dX9_wordNumber_0 : decode cX9_wordNumber 0 = .ok (.iconst 0, 1) := by decide +kernel
theorem dX9_wordNumber_1 : decode cX9_wordNumber 1 = .ok (.istore_n 2, 1) := by decide +kernel
theorem dX9_wordNumber_2 : decode cX9_wordNumber 2 = .ok (.iconst 0, 1) := by decide +kernel
theorem dX9_wordNumber_3 : decode cX9_wordNumber 3 = .ok (.istore_n 3, 1) := by decide +kernel
theorem dX9_wordNumber_4 : decode cX9_wordNumber 4 = .ok (.iload_n 3, 1) := by decide +kernel
theorem dX9_wordNumber_5 : decode cX9_wordNumber 5 = .ok (.iload_n 1, 1) := by decide +kernel
theorem dX9_wordNumber_6 : decode cX9_wordNumber 6 = .ok (.if_icmp .ge 28, 3) := by decide +kernel
theorem dX9_wordNumber_9 : decode cX9_wordNumber 9 = .ok (.iload_n 3, 1) := by decide +kernel
theorem dX9_wordNumber_10 : decode cX9_wordNumber 10 = .ok (.aload_n 0, 1) := by decide +kernel
theorem dX9_wordNumber_11 : decode cX9_wordNumber 11 = .ok (.getfield 21, 3) := by decide +kernel
theorem dX9_wordNumber_14 : decode cX9_wordNumber 14 = .ok (.if_icmp .ge 20, 3) := by decide +kernel
theorem dX9_wordNumber_17 : decode cX9_wordNumber 17 = .ok (.aload_n 0, 1) := by decide +kernel
theorem dX9_wordNumber_18 : decode cX9_wordNumber 18 = .ok (.iload_n 3, 1) := by decide +kernel
theorem dX9_wordNumber_19 : decode cX9_wordNumber 19 = .ok (.invokevirtual 32, 3) := by decide +kernel
theorem dX9_wordNumber_22 : decode cX9_wordNumber 22 = .ok (.ifCond .ne 6, 3) := by decide +kernel
theorem dX9_wordNumber_25 : decode cX9_wordNumber 25 = .ok (.iinc 2 1, 3) := by decide +kernel
theorem dX9_wordNumber_28 : decode cX9_wordNumber 28 = .ok (.iinc 3 1, 3) := by decide +kernel
theorem dX9_wordNumber_31 : decode cX9_wordNumber 31 = .ok (.goto (-27), 3) := by decide +kernel
theorem dX9_wordNumber_34 : decode cX9_wordNumber 34 = .ok (.iload_n 2, 1) := by decide +kernel
theorem dX9_wordNumber_35 : decode cX9_wordNumber 35 = .ok (.ireturn, 1) := by decide +kernel
set_option maxRecDepth 20000 in
theorem ggX9_signs_X9_has : GoodIn wsX9_signs wsX9_has := goodIn_r _ [7, 8, 9, 10, 11, 12] (by decide +kernel) (by decide +kernel)
set_option maxRecDepth 20000 in
theorem gX9_signs_X9_has : GoodIn wsX9_signs (wsV RX9 25 RX9 yX9_has wsX9_has) := goodIn_app (goodIn_of _ (by decide +kernel)) ggX9_signs_X9_has
theorem dX9_signs_0 : decode cX9_signs 0 = .ok (.aload_n 0, 1) := by decide +kernel
theorem dX9_signs_1 : decode cX9_signs 1 = .ok (.iload_n 1, 1) := by decide +kernel
theorem dX9_signs_2 : decode cX9_signs 2 = .ok (.invokevirtual 25, 3) := by decide +kernel
theorem dX9_signs_5 : decode cX9_signs 5 = .ok (.ifCond .ne 5, 3) := by decide +kernel
theorem dX9_signs_8 : decode cX9_signs 8 = .ok (.iconst 0, 1) := by decide +kernel
theorem dX9_signs_9 : decode cX9_signs 9 = .ok (.ireturn, 1) := by decide +kernel
theorem dX9_signs_10 : decode cX9_signs 10 = .ok (.aload_n 0, 1) := by decide +kernel
theorem dX9_signs_11 : decode cX9_signs 11 = .ok (.getfield 18, 3) := by decide +kernel
theorem dX9_signs_14 : decode cX9_signs 14 = .ok (.iload_n 1, 1) := by decide +kernel
theorem dX9_signs_15 : decode cX9_signs 15 = .ok (.iaload, 1) := by decide +kernel
theorem dX9_signs_16 : decode cX9_signs 16 = .ok (.bipush 44, 2) := by decide +kernel
theorem dX9_signs_18 : decode cX9_signs 18 = .ok (.if_icmp .eq 14, 3) := by decide +kernel
theorem dX9_signs_21 : decode cX9_signs 21 = .ok (.aload_n 0, 1) := by decide +kernel
theorem dX9_signs_22 : decode cX9_signs 22 = .ok (.getfield 18, 3) := by decide +kernel
theorem dX9_signs_25 : decode cX9_signs 25 = .ok (.iload_n 1, 1) := by decide +kernel
theorem dX9_signs_26 : decode cX9_signs 26 = .ok (.iaload, 1) := by decide +kernel
theorem dX9_signs_27 : decode cX9_signs 27 = .ok (.bipush 46, 2) := by decide +kernel
theorem dX9_signs_29 : decode cX9_signs 29 = .ok (.if_icmp .ne 7, 3) := by decide +kernel
theorem dX9_signs_32 : decode cX9_signs 32 = .ok (.iconst 1, 1) := by decide +kernel
theorem dX9_signs_33 : decode cX9_signs 33 = .ok (.goto 4, 3) := by decide +kernel
theorem dX9_signs_36 : decode cX9_signs 36 = .ok (.iconst 0, 1) := by decide +kernel
theorem dX9_signs_37 : decode cX9_signs 37 = .ok (.istore_n 2, 1) := by decide +kernel
theorem dX9_signs_38 : decode cX9_signs 38 = .ok (.iload_n 2, 1) := by decide +kernel
theorem dX9_signs_39 : decode cX9_signs 39 = .ok (.ifCond .eq 14, 3) := by decide +kernel
theorem dX9_signs_42 : decode cX9_signs 42 = .ok (.aload_n 0, 1) := by decide +kernel
theorem dX9_signs_43 : decode cX9_signs 43 = .ok (.getfield 15, 3) := by decide +kernel
theorem dX9_signs_46 : decode cX9_signs 46 = .ok (.iload_n 1, 1) := by decide +kernel
theorem dX9_signs_47 : decode cX9_signs 47 = .ok (.iaload, 1) := by decide +kernel
theorem dX9_signs_48 : decode cX9_signs 48 = .ok (.iconst 1, 1) := by decide +kernel
theorem dX9_signs_49 : decode cX9_signs 49 = .ok (.iadd, 1) := by decide +kernel
theorem dX9_signs_50 : decode cX9_signs 50 = .ok (.goto 9, 3) := by decide +kernel
theorem dX9_signs_53 : decode cX9_signs 53 = .ok (.aload_n 0, 1) := by decide +kernel
theorem dX9_signs_54 : decode cX9_signs 54 = .ok (.getfield 15, 3) := by decide +kernel
theorem dX9_signs_57 : decode cX9_signs 57 = .ok (.iload_n 1, 1) := by decide +kernel
theorem dX9_signs_58 : decode cX9_signs 58 = .ok (.iaload, 1) := by decide +kernel
theorem dX9_signs_59 : decode cX9_signs 59 = .ok (.ireturn, 1) := by decide +kernel
set_option maxRecDepth 20000 in
theorem ggX9_signAt_X9_has : GoodIn wsX9_signAt wsX9_has := goodIn_r _ [8, 9, 10, 11, 12, 13] (by decide +kernel) (by decide +kernel)
set_option maxRecDepth 20000 in
theorem gX9_signAt_X9_has : GoodIn wsX9_signAt (wsV RX9 25 RX9 yX9_has wsX9_has) := goodIn_app (goodIn_of _ (by decide +kernel)) ggX9_signAt_X9_has
theorem dX9_signAt_0 : decode cX9_signAt 0 = .ok (.aload_n 0, 1) := by decide +kernel
theorem dX9_signAt_1 : decode cX9_signAt 1 = .ok (.iload_n 1, 1) := by decide +kernel
theorem dX9_signAt_2 : decode cX9_signAt 2 = .ok (.invokevirtual 25, 3) := by decide +kernel
theorem dX9_signAt_5 : decode cX9_signAt 5 = .ok (.ifCond .eq 17, 3) := by decide +kernel
theorem dX9_signAt_8 : decode cX9_signAt 8 = .ok (.iload_n 2, 1) := by decide +kernel
theorem dX9_signAt_9 : decode cX9_signAt 9 = .ok (.ifCond .lt 13, 3) := by decide +kernel
theorem dX9_signAt_12 : decode cX9_signAt 12 = .ok (.iload_n 2, 1) := by decide +kernel
theorem dX9_signAt_13 : decode cX9_signAt 13 = .ok (.aload_n 0, 1) := by decide +kernel
theorem dX9_signAt_14 : decode cX9_signAt 14 = .ok (.getfield 15, 3) := by decide +kernel
theorem dX9_signAt_17 : decode cX9_signAt 17 = .ok (.iload_n 1, 1) := by decide +kernel
theorem dX9_signAt_18 : decode cX9_signAt 18 = .ok (.iaload, 1) := by decide +kernel
theorem dX9_signAt_19 : decode cX9_signAt 19 = .ok (.if_icmp .le 5, 3) := by decide +kernel
theorem dX9_signAt_22 : decode cX9_signAt 22 = .ok (.iconst (-1), 1) := by decide +kernel
theorem dX9_signAt_23 : decode cX9_signAt 23 = .ok (.ireturn, 1) := by decide +kernel
theorem dX9_signAt_24 : decode cX9_signAt 24 = .ok (.iload_n 2, 1) := by decide +kernel
theorem dX9_signAt_25 : decode cX9_signAt 25 = .ok (.aload_n 0, 1) := by decide +kernel
theorem dX9_signAt_26 : decode cX9_signAt 26 = .ok (.getfield 15, 3) := by decide +kernel
theorem dX9_signAt_29 : decode cX9_signAt 29 = .ok (.iload_n 1, 1) := by decide +kernel
theorem dX9_signAt_30 : decode cX9_signAt 30 = .ok (.iaload, 1) := by decide +kernel
theorem dX9_signAt_31 : decode cX9_signAt 31 = .ok (.if_icmp .ge 17, 3) := by decide +kernel
theorem dX9_signAt_34 : decode cX9_signAt 34 = .ok (.aload_n 0, 1) := by decide +kernel
theorem dX9_signAt_35 : decode cX9_signAt 35 = .ok (.getfield 9, 3) := by decide +kernel
theorem dX9_signAt_38 : decode cX9_signAt 38 = .ok (.iload_n 1, 1) := by decide +kernel
theorem dX9_signAt_39 : decode cX9_signAt 39 = .ok (.bipush 20, 2) := by decide +kernel
theorem dX9_signAt_41 : decode cX9_signAt 41 = .ok (.imul, 1) := by decide +kernel
theorem dX9_signAt_42 : decode cX9_signAt 42 = .ok (.iload_n 2, 1) := by decide +kernel
theorem dX9_signAt_43 : decode cX9_signAt 43 = .ok (.iadd, 1) := by decide +kernel
theorem dX9_signAt_44 : decode cX9_signAt 44 = .ok (.iaload, 1) := by decide +kernel
theorem dX9_signAt_45 : decode cX9_signAt 45 = .ok (.goto 9, 3) := by decide +kernel
theorem dX9_signAt_48 : decode cX9_signAt 48 = .ok (.aload_n 0, 1) := by decide +kernel
theorem dX9_signAt_49 : decode cX9_signAt 49 = .ok (.getfield 18, 3) := by decide +kernel
theorem dX9_signAt_52 : decode cX9_signAt 52 = .ok (.iload_n 1, 1) := by decide +kernel
theorem dX9_signAt_53 : decode cX9_signAt 53 = .ok (.iaload, 1) := by decide +kernel
theorem dX9_signAt_54 : decode cX9_signAt 54 = .ok (.ireturn, 1) := by decide +kernel
set_option maxRecDepth 20000 in
theorem ggX9_fitAlone_X9_signs : GoodIn wsX9_fitAlone wsX9_signs := goodIn_r _ [6, 7, 8, 9, 10, 11, 5, 12, 1, 21, 22, 23, 24] (by decide +kernel) (by decide +kernel)
set_option maxRecDepth 20000 in
theorem gX9_fitAlone_X9_signs : GoodIn wsX9_fitAlone (wsV RX9 35 RX9 yX9_signs wsX9_signs) := goodIn_app (goodIn_of _ (by decide +kernel)) ggX9_fitAlone_X9_signs
set_option maxRecDepth 20000 in
theorem ggX9_fitAlone_X9_goesOn : GoodIn wsX9_fitAlone wsX9_goesOn := goodIn_r _ [16, 17, 18, 19, 5, 20, 7, 9, 10, 11, 12, 1, 21, 22, 23, 24] (by decide +kernel) (by decide +kernel)
set_option maxRecDepth 20000 in
theorem gX9_fitAlone_X9_goesOn : GoodIn wsX9_fitAlone (wsV RX9 32 RX9 yX9_goesOn wsX9_goesOn) := goodIn_app (goodIn_of _ (by decide +kernel)) ggX9_fitAlone_X9_goesOn
theorem dX9_fitAlone_0 : decode cX9_fitAlone 0 = .ok (.iconst 0, 1) := by decide +kernel
theorem dX9_fitAlone_1 : decode cX9_fitAlone 1 = .ok (.istore_n 2, 1) := by decide +kernel
theorem dX9_fitAlone_2 : decode cX9_fitAlone 2 = .ok (.iload_n 2, 1) := by decide +kernel
theorem dX9_fitAlone_3 : decode cX9_fitAlone 3 = .ok (.aload_n 0, 1) := by decide +kernel
theorem dX9_fitAlone_4 : decode cX9_fitAlone 4 = .ok (.getfield 21, 3) := by decide +kernel
theorem dX9_fitAlone_7 : decode cX9_fitAlone 7 = .ok (.if_icmp .ge 34, 3) := by decide +kernel
theorem dX9_fitAlone_10 : decode cX9_fitAlone 10 = .ok (.aload_n 0, 1) := by decide +kernel
theorem dX9_fitAlone_11 : decode cX9_fitAlone 11 = .ok (.iload_n 2, 1) := by decide +kernel
theorem dX9_fitAlone_12 : decode cX9_fitAlone 12 = .ok (.invokevirtual 35, 3) := by decide +kernel
theorem dX9_fitAlone_15 : decode cX9_fitAlone 15 = .ok (.aload_n 0, 1) := by decide +kernel
theorem dX9_fitAlone_16 : decode cX9_fitAlone 16 = .ok (.iload_n 2, 1) := by decide +kernel
theorem dX9_fitAlone_17 : decode cX9_fitAlone 17 = .ok (.invokevirtual 32, 3) := by decide +kernel
theorem dX9_fitAlone_20 : decode cX9_fitAlone 20 = .ok (.ifCond .eq 7, 3) := by decide +kernel
theorem dX9_fitAlone_23 : decode cX9_fitAlone 23 = .ok (.iconst 1, 1) := by decide +kernel
theorem dX9_fitAlone_24 : decode cX9_fitAlone 24 = .ok (.goto 4, 3) := by decide +kernel
theorem dX9_fitAlone_27 : decode cX9_fitAlone 27 = .ok (.iconst 0, 1) := by decide +kernel
theorem dX9_fitAlone_28 : decode cX9_fitAlone 28 = .ok (.iadd, 1) := by decide +kernel
theorem dX9_fitAlone_29 : decode cX9_fitAlone 29 = .ok (.iload_n 1, 1) := by decide +kernel
theorem dX9_fitAlone_30 : decode cX9_fitAlone 30 = .ok (.if_icmp .le 5, 3) := by decide +kernel
theorem dX9_fitAlone_33 : decode cX9_fitAlone 33 = .ok (.iconst 0, 1) := by decide +kernel
theorem dX9_fitAlone_34 : decode cX9_fitAlone 34 = .ok (.ireturn, 1) := by decide +kernel
theorem dX9_fitAlone_35 : decode cX9_fitAlone 35 = .ok (.iinc 2 1, 3) := by decide +kernel
theorem dX9_fitAlone_38 : decode cX9_fitAlone 38 = .ok (.goto (-36), 3) := by decide +kernel
theorem dX9_fitAlone_41 : decode cX9_fitAlone 41 = .ok (.iconst 1, 1) := by decide +kernel
theorem dX9_fitAlone_42 : decode cX9_fitAlone 42 = .ok (.ireturn, 1) := by decide +kernel
theorem dX9_clear_0 : decode cX9_clear 0 = .ok (.aload_n 0, 1) := by decide +kernel
theorem dX9_clear_1 : decode cX9_clear 1 = .ok (.iconst 0, 1) := by decide +kernel
theorem dX9_clear_2 : decode cX9_clear 2 = .ok (.putfield 21, 3) := by decide +kernel
theorem dX9_clear_5 : decode cX9_clear 5 = .ok (.return_, 1) := by decide +kernel
theorem dX9_open_0 : decode cX9_open 0 = .ok (.aload_n 0, 1) := by decide +kernel
theorem dX9_open_1 : decode cX9_open 1 = .ok (.getfield 21, 3) := by decide +kernel
theorem dX9_open_4 : decode cX9_open 4 = .ok (.bipush 80, 2) := by decide +kernel
theorem dX9_open_6 : decode cX9_open 6 = .ok (.if_icmp .lt 5, 3) := by decide +kernel
theorem dX9_open_9 : decode cX9_open 9 = .ok (.iconst 0, 1) := by decide +kernel
theorem dX9_open_10 : decode cX9_open 10 = .ok (.ireturn, 1) := by decide +kernel
theorem dX9_open_11 : decode cX9_open 11 = .ok (.aload_n 0, 1) := by decide +kernel
theorem dX9_open_12 : decode cX9_open 12 = .ok (.getfield 15, 3) := by decide +kernel
theorem dX9_open_15 : decode cX9_open 15 = .ok (.aload_n 0, 1) := by decide +kernel
theorem dX9_open_16 : decode cX9_open 16 = .ok (.getfield 21, 3) := by decide +kernel
theorem dX9_open_19 : decode cX9_open 19 = .ok (.iconst 0, 1) := by decide +kernel
theorem dX9_open_20 : decode cX9_open 20 = .ok (.iastore, 1) := by decide +kernel
theorem dX9_open_21 : decode cX9_open 21 = .ok (.aload_n 0, 1) := by decide +kernel
theorem dX9_open_22 : decode cX9_open 22 = .ok (.getfield 18, 3) := by decide +kernel
theorem dX9_open_25 : decode cX9_open 25 = .ok (.aload_n 0, 1) := by decide +kernel
theorem dX9_open_26 : decode cX9_open 26 = .ok (.getfield 21, 3) := by decide +kernel
theorem dX9_open_29 : decode cX9_open 29 = .ok (.bipush 32, 2) := by decide +kernel
theorem dX9_open_31 : decode cX9_open 31 = .ok (.iastore, 1) := by decide +kernel
theorem dX9_open_32 : decode cX9_open 32 = .ok (.aload_n 0, 1) := by decide +kernel
theorem dX9_open_33 : decode cX9_open 33 = .ok (.dup, 1) := by decide +kernel
theorem dX9_open_34 : decode cX9_open 34 = .ok (.getfield 21, 3) := by decide +kernel
theorem dX9_open_37 : decode cX9_open 37 = .ok (.iconst 1, 1) := by decide +kernel
theorem dX9_open_38 : decode cX9_open 38 = .ok (.iadd, 1) := by decide +kernel
theorem dX9_open_39 : decode cX9_open 39 = .ok (.putfield 21, 3) := by decide +kernel
theorem dX9_open_42 : decode cX9_open 42 = .ok (.iconst 1, 1) := by decide +kernel
theorem dX9_open_43 : decode cX9_open 43 = .ok (.ireturn, 1) := by decide +kernel
theorem dX9_addLetter_0 : decode cX9_addLetter 0 = .ok (.aload_n 0, 1) := by decide +kernel
theorem dX9_addLetter_1 : decode cX9_addLetter 1 = .ok (.getfield 21, 3) := by decide +kernel
theorem dX9_addLetter_4 : decode cX9_addLetter 4 = .ok (.iconst 1, 1) := by decide +kernel
theorem dX9_addLetter_5 : decode cX9_addLetter 5 = .ok (.isub, 1) := by decide +kernel
theorem dX9_addLetter_6 : decode cX9_addLetter 6 = .ok (.istore_n 2, 1) := by decide +kernel
theorem dX9_addLetter_7 : decode cX9_addLetter 7 = .ok (.iload_n 2, 1) := by decide +kernel
theorem dX9_addLetter_8 : decode cX9_addLetter 8 = .ok (.ifCond .lt 14, 3) := by decide +kernel
theorem dX9_addLetter_11 : decode cX9_addLetter 11 = .ok (.aload_n 0, 1) := by decide +kernel
theorem dX9_addLetter_12 : decode cX9_addLetter 12 = .ok (.getfield 15, 3) := by decide +kernel
theorem dX9_addLetter_15 : decode cX9_addLetter 15 = .ok (.iload_n 2, 1) := by decide +kernel
theorem dX9_addLetter_16 : decode cX9_addLetter 16 = .ok (.iaload, 1) := by decide +kernel
theorem dX9_addLetter_17 : decode cX9_addLetter 17 = .ok (.bipush 20, 2) := by decide +kernel
theorem dX9_addLetter_19 : decode cX9_addLetter 19 = .ok (.if_icmp .lt 5, 3) := by decide +kernel
theorem dX9_addLetter_22 : decode cX9_addLetter 22 = .ok (.iconst 0, 1) := by decide +kernel
theorem dX9_addLetter_23 : decode cX9_addLetter 23 = .ok (.ireturn, 1) := by decide +kernel
theorem dX9_addLetter_24 : decode cX9_addLetter 24 = .ok (.aload_n 0, 1) := by decide +kernel
theorem dX9_addLetter_25 : decode cX9_addLetter 25 = .ok (.getfield 9, 3) := by decide +kernel
theorem dX9_addLetter_28 : decode cX9_addLetter 28 = .ok (.iload_n 2, 1) := by decide +kernel
theorem dX9_addLetter_29 : decode cX9_addLetter 29 = .ok (.bipush 20, 2) := by decide +kernel
theorem dX9_addLetter_31 : decode cX9_addLetter 31 = .ok (.imul, 1) := by decide +kernel
theorem dX9_addLetter_32 : decode cX9_addLetter 32 = .ok (.aload_n 0, 1) := by decide +kernel
theorem dX9_addLetter_33 : decode cX9_addLetter 33 = .ok (.getfield 15, 3) := by decide +kernel
theorem dX9_addLetter_36 : decode cX9_addLetter 36 = .ok (.iload_n 2, 1) := by decide +kernel
theorem dX9_addLetter_37 : decode cX9_addLetter 37 = .ok (.iaload, 1) := by decide +kernel
theorem dX9_addLetter_38 : decode cX9_addLetter 38 = .ok (.iadd, 1) := by decide +kernel
theorem dX9_addLetter_39 : decode cX9_addLetter 39 = .ok (.iload_n 1, 1) := by decide +kernel
theorem dX9_addLetter_40 : decode cX9_addLetter 40 = .ok (.iastore, 1) := by decide +kernel
theorem dX9_addLetter_41 : decode cX9_addLetter 41 = .ok (.aload_n 0, 1) := by decide +kernel
theorem dX9_addLetter_42 : decode cX9_addLetter 42 = .ok (.getfield 15, 3) := by decide +kernel
theorem dX9_addLetter_45 : decode cX9_addLetter 45 = .ok (.iload_n 2, 1) := by decide +kernel
theorem dX9_addLetter_46 : decode cX9_addLetter 46 = .ok (.dup2, 1) := by decide +kernel
theorem dX9_addLetter_47 : decode cX9_addLetter 47 = .ok (.iaload, 1) := by decide +kernel
theorem dX9_addLetter_48 : decode cX9_addLetter 48 = .ok (.iconst 1, 1) := by decide +kernel
theorem dX9_addLetter_49 : decode cX9_addLetter 49 = .ok (.iadd, 1) := by decide +kernel
theorem dX9_addLetter_50 : decode cX9_addLetter 50 = .ok (.iastore, 1) := by decide +kernel
theorem dX9_addLetter_51 : decode cX9_addLetter 51 = .ok (.iconst 1, 1) := by decide +kernel
theorem dX9_addLetter_52 : decode cX9_addLetter 52 = .ok (.ireturn, 1) := by decide +kernel
theorem dX9_close_0 : decode cX9_close 0 = .ok (.aload_n 0, 1) := by decide +kernel
theorem dX9_close_1 : decode cX9_close 1 = .ok (.getfield 21, 3) := by decide +kernel
theorem dX9_close_4 : decode cX9_close 4 = .ok (.ifCond .le 15, 3) := by decide +kernel
theorem dX9_close_7 : decode cX9_close 7 = .ok (.aload_n 0, 1) := by decide +kernel
theorem dX9_close_8 : decode cX9_close 8 = .ok (.getfield 18, 3) := by decide +kernel
theorem dX9_close_11 : decode cX9_close 11 = .ok (.aload_n 0, 1) := by decide +kernel
theorem dX9_close_12 : decode cX9_close 12 = .ok (.getfield 21, 3) := by decide +kernel
theorem dX9_close_15 : decode cX9_close 15 = .ok (.iconst 1, 1) := by decide +kernel
theorem dX9_close_16 : decode cX9_close 16 = .ok (.isub, 1) := by decide +kernel
theorem dX9_close_17 : decode cX9_close 17 = .ok (.iload_n 1, 1) := by decide +kernel
theorem dX9_close_18 : decode cX9_close 18 = .ok (.iastore, 1) := by decide +kernel
theorem dX9_close_19 : decode cX9_close 19 = .ok (.return_, 1) := by decide +kernel
set_option maxRecDepth 20000 in
theorem ggX9_takeAll_X9_copyUnit : GoodIn wsX9_takeAll wsX9_copyUnit := goodIn_r _ [6, 7, 8, 9, 10, 11, 12, 13, 14, 15, 16, 17] (by decide +kernel) (by decide +kernel)
set_option maxRecDepth 20000 in
theorem gX9_takeAll_X9_copyUnit : GoodIn wsX9_takeAll (wsV RX9 38 RX9 yX9_copyUnit wsX9_copyUnit) := goodIn_app (goodIn_of _ (by decide +kernel)) ggX9_takeAll_X9_copyUnit
theorem dX9_takeAll_0 : decode cX9_takeAll 0 = .ok (.iconst 0, 1) := by decide +kernel
theorem dX9_takeAll_1 : decode cX9_takeAll 1 = .ok (.istore_n 2, 1) := by decide +kernel
theorem dX9_takeAll_2 : decode cX9_takeAll 2 = .ok (.iload_n 2, 1) := by decide +kernel
theorem dX9_takeAll_3 : decode cX9_takeAll 3 = .ok (.aload_n 1, 1) := by decide +kernel
theorem dX9_takeAll_4 : decode cX9_takeAll 4 = .ok (.getfield 21, 3) := by decide +kernel
theorem dX9_takeAll_7 : decode cX9_takeAll 7 = .ok (.if_icmp .ge 16, 3) := by decide +kernel
theorem dX9_takeAll_10 : decode cX9_takeAll 10 = .ok (.aload_n 0, 1) := by decide +kernel
theorem dX9_takeAll_11 : decode cX9_takeAll 11 = .ok (.aload_n 1, 1) := by decide +kernel
theorem dX9_takeAll_12 : decode cX9_takeAll 12 = .ok (.iload_n 2, 1) := by decide +kernel
theorem dX9_takeAll_13 : decode cX9_takeAll 13 = .ok (.iload_n 2, 1) := by decide +kernel
theorem dX9_takeAll_14 : decode cX9_takeAll 14 = .ok (.invokevirtual 38, 3) := by decide +kernel
theorem dX9_takeAll_17 : decode cX9_takeAll 17 = .ok (.iinc 2 1, 3) := by decide +kernel
theorem dX9_takeAll_20 : decode cX9_takeAll 20 = .ok (.goto (-18), 3) := by decide +kernel
theorem dX9_takeAll_23 : decode cX9_takeAll 23 = .ok (.aload_n 0, 1) := by decide +kernel
theorem dX9_takeAll_24 : decode cX9_takeAll 24 = .ok (.aload_n 1, 1) := by decide +kernel
theorem dX9_takeAll_25 : decode cX9_takeAll 25 = .ok (.getfield 21, 3) := by decide +kernel
theorem dX9_takeAll_28 : decode cX9_takeAll 28 = .ok (.putfield 21, 3) := by decide +kernel
theorem dX9_takeAll_31 : decode cX9_takeAll 31 = .ok (.return_, 1) := by decide +kernel
set_option maxRecDepth 20000 in
theorem ggX9_replace_X9_has : GoodIn wsX9_replace wsX9_has := goodIn_r _ [6, 1, 18, 19, 20, 21] (by decide +kernel) (by decide +kernel)
set_option maxRecDepth 20000 in
theorem gX9_replace_X9_has : GoodIn wsX9_replace (wsV RX9 25 RX9 yX9_has wsX9_has) := goodIn_app (goodIn_of _ (by decide +kernel)) ggX9_replace_X9_has
set_option maxRecDepth 20000 in
theorem ggX9_replace_X9_copyUnit : GoodIn wsX9_replace wsX9_copyUnit := goodIn_r _ [10, 11, 12, 13, 14, 15, 16, 17, 18, 19, 20, 21] (by decide +kernel) (by decide +kernel)
set_option maxRecDepth 20000 in
theorem gX9_replace_X9_copyUnit : GoodIn wsX9_replace (wsV RX9 38 RX9 yX9_copyUnit wsX9_copyUnit) := goodIn_app (goodIn_of _ (by decide +kernel)) ggX9_replace_X9_copyUnit
theorem dX9_replace_0 : decode cX9_replace 0 = .ok (.aload_n 2, 1) := by decide +kernel
theorem dX9_replace_1 : decode cX9_replace 1 = .ok (.getfield 21, 3) := by decide +kernel
theorem dX9_replace_4 : decode cX9_replace 4 = .ok (.iconst 1, 1) := by decide +kernel
theorem dX9_replace_5 : decode cX9_replace 5 = .ok (.isub, 1) := by decide +kernel
theorem dX9_replace_6 : decode cX9_replace 6 = .ok (.istore_n 3, 1) := by decide +kernel
theorem dX9_replace_7 : decode cX9_replace 7 = .ok (.aload_n 0, 1) := by decide +kernel
theorem dX9_replace_8 : decode cX9_replace 8 = .ok (.iload_n 1, 1) := by decide +kernel
theorem dX9_replace_9 : decode cX9_replace 9 = .ok (.invokevirtual 25, 3) := by decide +kernel
theorem dX9_replace_12 : decode cX9_replace 12 = .ok (.ifCond .eq 18, 3) := by decide +kernel
theorem dX9_replace_15 : decode cX9_replace 15 = .ok (.iload_n 3, 1) := by decide +kernel
theorem dX9_replace_16 : decode cX9_replace 16 = .ok (.ifCond .lt 14, 3) := by decide +kernel
theorem dX9_replace_19 : decode cX9_replace 19 = .ok (.aload_n 0, 1) := by decide +kernel
theorem dX9_replace_20 : decode cX9_replace 20 = .ok (.getfield 21, 3) := by decide +kernel
theorem dX9_replace_23 : decode cX9_replace 23 = .ok (.iload_n 3, 1) := by decide +kernel
theorem dX9_replace_24 : decode cX9_replace 24 = .ok (.iadd, 1) := by decide +kernel
theorem dX9_replace_25 : decode cX9_replace 25 = .ok (.bipush 80, 2) := by decide +kernel
theorem dX9_replace_27 : decode cX9_replace 27 = .ok (.if_icmp .le 4, 3) := by decide +kernel
theorem dX9_replace_30 : decode cX9_replace 30 = .ok (.return_, 1) := by decide +kernel
theorem dX9_replace_31 : decode cX9_replace 31 = .ok (.aload_n 0, 1) := by decide +kernel
theorem dX9_replace_32 : decode cX9_replace 32 = .ok (.getfield 21, 3) := by decide +kernel
theorem dX9_replace_35 : decode cX9_replace 35 = .ok (.iconst 1, 1) := by decide +kernel
theorem dX9_replace_36 : decode cX9_replace 36 = .ok (.isub, 1) := by decide +kernel
theorem dX9_replace_37 : decode cX9_replace 37 = .ok (.istore 4, 2) := by decide +kernel
theorem dX9_replace_39 : decode cX9_replace 39 = .ok (.iload 4, 2) := by decide +kernel
theorem dX9_replace_41 : decode cX9_replace 41 = .ok (.iload_n 1, 1) := by decide +kernel
theorem dX9_replace_42 : decode cX9_replace 42 = .ok (.if_icmp .le 20, 3) := by decide +kernel
theorem dX9_replace_45 : decode cX9_replace 45 = .ok (.aload_n 0, 1) := by decide +kernel
theorem dX9_replace_46 : decode cX9_replace 46 = .ok (.aload_n 0, 1) := by decide +kernel
theorem dX9_replace_47 : decode cX9_replace 47 = .ok (.iload 4, 2) := by decide +kernel
theorem dX9_replace_49 : decode cX9_replace 49 = .ok (.iload 4, 2) := by decide +kernel
theorem dX9_replace_51 : decode cX9_replace 51 = .ok (.iload_n 3, 1) := by decide +kernel
theorem dX9_replace_52 : decode cX9_replace 52 = .ok (.iadd, 1) := by decide +kernel
theorem dX9_replace_53 : decode cX9_replace 53 = .ok (.invokevirtual 38, 3) := by decide +kernel
theorem dX9_replace_56 : decode cX9_replace 56 = .ok (.iinc 4 (-1), 3) := by decide +kernel
theorem dX9_replace_59 : decode cX9_replace 59 = .ok (.goto (-20), 3) := by decide +kernel
theorem dX9_replace_62 : decode cX9_replace 62 = .ok (.iconst 0, 1) := by decide +kernel
theorem dX9_replace_63 : decode cX9_replace 63 = .ok (.istore 4, 2) := by decide +kernel
theorem dX9_replace_65 : decode cX9_replace 65 = .ok (.iload 4, 2) := by decide +kernel
theorem dX9_replace_67 : decode cX9_replace 67 = .ok (.aload_n 2, 1) := by decide +kernel
theorem dX9_replace_68 : decode cX9_replace 68 = .ok (.getfield 21, 3) := by decide +kernel
theorem dX9_replace_71 : decode cX9_replace 71 = .ok (.if_icmp .ge 20, 3) := by decide +kernel
theorem dX9_replace_74 : decode cX9_replace 74 = .ok (.aload_n 0, 1) := by decide +kernel
theorem dX9_replace_75 : decode cX9_replace 75 = .ok (.aload_n 2, 1) := by decide +kernel
theorem dX9_replace_76 : decode cX9_replace 76 = .ok (.iload 4, 2) := by decide +kernel
theorem dX9_replace_78 : decode cX9_replace 78 = .ok (.iload_n 1, 1) := by decide +kernel
theorem dX9_replace_79 : decode cX9_replace 79 = .ok (.iload 4, 2) := by decide +kernel
theorem dX9_replace_81 : decode cX9_replace 81 = .ok (.iadd, 1) := by decide +kernel
theorem dX9_replace_82 : decode cX9_replace 82 = .ok (.invokevirtual 38, 3) := by decide +kernel
theorem dX9_replace_85 : decode cX9_replace 85 = .ok (.iinc 4 1, 3) := by decide +kernel
theorem dX9_replace_88 : decode cX9_replace 88 = .ok (.goto (-23), 3) := by decide +kernel
theorem dX9_replace_91 : decode cX9_replace 91 = .ok (.aload_n 0, 1) := by decide +kernel
theorem dX9_replace_92 : decode cX9_replace 92 = .ok (.dup, 1) := by decide +kernel
theorem dX9_replace_93 : decode cX9_replace 93 = .ok (.getfield 21, 3) := by decide +kernel
theorem dX9_replace_96 : decode cX9_replace 96 = .ok (.iload_n 3, 1) := by decide +kernel
theorem dX9_replace_97 : decode cX9_replace 97 = .ok (.iadd, 1) := by decide +kernel
theorem dX9_replace_98 : decode cX9_replace 98 = .ok (.putfield 21, 3) := by decide +kernel
theorem dX9_replace_101 : decode cX9_replace 101 = .ok (.return_, 1) := by decide +kernel
theorem dX9_copyUnit_0 : decode cX9_copyUnit 0 = .ok (.aload_n 1, 1) := by decide +kernel
theorem dX9_copyUnit_1 : decode cX9_copyUnit 1 = .ok (.getfield 9, 3) := by decide +kernel
theorem dX9_copyUnit_4 : decode cX9_copyUnit 4 = .ok (.iload_n 2, 1) := by decide +kernel
theorem dX9_copyUnit_5 : decode cX9_copyUnit 5 = .ok (.bipush 20, 2) := by decide +kernel
theorem dX9_copyUnit_7 : decode cX9_copyUnit 7 = .ok (.imul, 1) := by decide +kernel
theorem dX9_copyUnit_8 : decode cX9_copyUnit 8 = .ok (.aload_n 0, 1) := by decide +kernel
theorem dX9_copyUnit_9 : decode cX9_copyUnit 9 = .ok (.getfield 9, 3) := by decide +kernel
theorem dX9_copyUnit_12 : decode cX9_copyUnit 12 = .ok (.iload_n 3, 1) := by decide +kernel
theorem dX9_copyUnit_13 : decode cX9_copyUnit 13 = .ok (.bipush 20, 2) := by decide +kernel
theorem dX9_copyUnit_15 : decode cX9_copyUnit 15 = .ok (.imul, 1) := by decide +kernel
theorem dX9_copyUnit_16 : decode cX9_copyUnit 16 = .ok (.bipush 20, 2) := by decide +kernel
theorem dX9_copyUnit_18 : decode cX9_copyUnit 18 = .ok (.invokestatic 42, 3) := by decide +kernel
theorem dX9_copyUnit_21 : decode cX9_copyUnit 21 = .ok (.aload_n 0, 1) := by decide +kernel
theorem dX9_copyUnit_22 : decode cX9_copyUnit 22 = .ok (.getfield 15, 3) := by decide +kernel
theorem dX9_copyUnit_25 : decode cX9_copyUnit 25 = .ok (.iload_n 3, 1) := by decide +kernel
theorem dX9_copyUnit_26 : decode cX9_copyUnit 26 = .ok (.aload_n 1, 1) := by decide +kernel
theorem dX9_copyUnit_27 : decode cX9_copyUnit 27 = .ok (.getfield 15, 3) := by decide +kernel
theorem dX9_copyUnit_30 : decode cX9_copyUnit 30 = .ok (.iload_n 2, 1) := by decide +kernel
theorem dX9_copyUnit_31 : decode cX9_copyUnit 31 = .ok (.iaload, 1) := by decide +kernel
theorem dX9_copyUnit_32 : decode cX9_copyUnit 32 = .ok (.iastore, 1) := by decide +kernel
theorem dX9_copyUnit_33 : decode cX9_copyUnit 33 = .ok (.aload_n 0, 1) := by decide +kernel
theorem dX9_copyUnit_34 : decode cX9_copyUnit 34 = .ok (.getfield 18, 3) := by decide +kernel
theorem dX9_copyUnit_37 : decode cX9_copyUnit 37 = .ok (.iload_n 3, 1) := by decide +kernel
theorem dX9_copyUnit_38 : decode cX9_copyUnit 38 = .ok (.aload_n 1, 1) := by decide +kernel
theorem dX9_copyUnit_39 : decode cX9_copyUnit 39 = .ok (.getfield 18, 3) := by decide +kernel
theorem dX9_copyUnit_42 : decode cX9_copyUnit 42 = .ok (.iload_n 2, 1) := by decide +kernel
theorem dX9_copyUnit_43 : decode cX9_copyUnit 43 = .ok (.iaload, 1) := by decide +kernel
theorem dX9_copyUnit_44 : decode cX9_copyUnit 44 = .ok (.iastore, 1) := by decide +kernel
theorem dX9_copyUnit_45 : decode cX9_copyUnit 45 = .ok (.return_, 1) := by decide +kernel
set_option maxRecDepth 20000 in
theorem ggX10_init_X7_init : GoodIn wsX10_init wsX7_init := goodIn_r _ [41, 42, 2, 3, 43, 44, 118, 119] (by decide +kernel) (by decide +kernel)
set_option maxRecDepth 20000 in
theorem gX10_init_X7_init_n9 : GoodIn wsX10_init (wsX7_init) := ggX10_init_X7_init
set_option maxRecDepth 20000 in
theorem ggX10_init_X3_init : GoodIn wsX10_init wsX3_init := goodIn_r _ [46, 47, 2, 3, 48, 13, 14, 49, 50, 51, 52, 53, 54, 43, 55, 56, 57, 132, 133, 134, 135, 129, 130, 131] (by decide +kernel) (by decide +kernel)
set_option maxRecDepth 20000 in
theorem gX10_init_X3_init_n18 : GoodIn wsX10_init (wsX3_init) := ggX10_init_X3_init
set_option maxRecDepth 20000 in
theorem ggX10_init_X9_init : GoodIn wsX10_init wsX9_init := goodIn_r _ [53, 54, 2, 3, 43, 55, 56, 57, 132, 133, 134, 135] (by decide +kernel) (by decide +kernel)
set_option maxRecDepth 20000 in
theorem gX10_init_X9_init_n25 : GoodIn wsX10_init (wsX9_init) := ggX10_init_X9_init
set_option maxRecDepth 20000 in
theorem ggX10_init_X1_init : GoodIn wsX10_init wsX1_init := goodIn_r _ [60, 61, 2, 3, 62, 63, 64, 65, 66, 67, 43, 68, 69, 70, 18, 71, 136, 137, 138, 139, 140, 141, 142] (by decide +kernel) (by decide +kernel)
set_option maxRecDepth 20000 in
theorem gX10_init_X1_init : GoodIn wsX10_init (wsX1_init) := ggX10_init_X1_init
set_option maxRecDepth 20000 in
theorem ggX10_init_X5_init : GoodIn wsX10_init wsX5_init := goodIn_r _ [73, 74, 2, 3, 75, 76, 77, 78, 43, 79, 80, 81, 82, 83, 84, 85, 86, 87, 88, 168, 169, 170, 171, 172, 173, 174, 143, 144, 145, 146, 147, 148] (by decide +kernel) (by decide +kernel)
set_option maxRecDepth 20000 in
theorem gX10_init_X5_init_n39 : GoodIn wsX10_init (wsX5_init) := ggX10_init_X5_init
set_option maxRecDepth 20000 in
theorem ggX10_init_X5_strip : GoodIn wsX10_init wsX5_strip := goodIn_r _ [92, 78, 143, 144, 145, 146, 147, 148] (by decide +kernel) (by decide +kernel)
set_option maxRecDepth 20000 in
theorem gX10_init_X5_strip : GoodIn wsX10_init (wsV RX10 46 RX5 yX5_strip wsX5_strip) := goodIn_app (goodIn_of _ (by decide +kernel)) ggX10_init_X5_strip
set_option maxRecDepth 20000 in
theorem ggX10_init_X4_init : GoodIn wsX10_init wsX4_init := goodIn_r _ [95, 96, 2, 3, 43, 97, 98, 99, 100, 149, 150, 151, 152, 153] (by decide +kernel) (by decide +kernel)
set_option maxRecDepth 20000 in
theorem gX10_init_X4_init : GoodIn wsX10_init (wsX4_init) := ggX10_init_X4_init
set_option maxRecDepth 20000 in
theorem ggX10_init_X2_init : GoodIn wsX10_init wsX2_init := goodIn_r _ [102, 103, 2, 3, 104, 105, 154, 155] (by decide +kernel) (by decide +kernel)
set_option maxRecDepth 20000 in
theorem gX10_init_X2_init_n59 : GoodIn wsX10_init (wsX2_init) := ggX10_init_X2_init
set_option maxRecDepth 20000 in
theorem ggX10_init_X0_init : GoodIn wsX10_init wsX0_init := goodIn_r _ [107, 108, 2, 3, 43, 109, 110, 156, 157, 158] (by decide +kernel) (by decide +kernel)
set_option maxRecDepth 20000 in
theorem gX10_init_X0_init_n66 : GoodIn wsX10_init (wsX0_init) := ggX10_init_X0_init
set_option maxRecDepth 20000 in
theorem ggX10_init_X8_init : GoodIn wsX10_init wsX8_init := goodIn_r _ [112, 113, 2, 3, 114, 115, 116, 117, 159, 160, 161, 162, 163, 164, 165, 166, 167] (by decide +kernel) (by decide +kernel)
set_option maxRecDepth 20000 in
theorem gX10_init_X8_init_n73 : GoodIn wsX10_init (wsX8_init) := ggX10_init_X8_init
theorem dX10_init_0 : decode cX10_init 0 = .ok (.aload_n 0, 1) := by decide +kernel
theorem dX10_init_1 : decode cX10_init 1 = .ok (.invokespecial 1, 3) := by decide +kernel
theorem dX10_init_4 : decode cX10_init 4 = .ok (.aload_n 0, 1) := by decide +kernel
theorem dX10_init_5 : decode cX10_init 5 = .ok (.new 7, 3) := by decide +kernel
theorem dX10_init_8 : decode cX10_init 8 = .ok (.dup, 1) := by decide +kernel
theorem dX10_init_9 : decode cX10_init 9 = .ok (.invokespecial 9, 3) := by decide +kernel
theorem dX10_init_12 : decode cX10_init 12 = .ok (.putfield 10, 3) := by decide +kernel
theorem dX10_init_15 : decode cX10_init 15 = .ok (.aload_n 0, 1) := by decide +kernel
theorem dX10_init_16 : decode cX10_init 16 = .ok (.new 16, 3) := by decide +kernel
theorem dX10_init_19 : decode cX10_init 19 = .ok (.dup, 1) := by decide +kernel
theorem dX10_init_20 : decode cX10_init 20 = .ok (.invokespecial 18, 3) := by decide +kernel
theorem dX10_init_23 : decode cX10_init 23 = .ok (.putfield 19, 3) := by decide +kernel
theorem dX10_init_26 : decode cX10_init 26 = .ok (.aload_n 0, 1) := by decide +kernel
theorem dX10_init_27 : decode cX10_init 27 = .ok (.new 23, 3) := by decide +kernel
theorem dX10_init_30 : decode cX10_init 30 = .ok (.dup, 1) := by decide +kernel
theorem dX10_init_31 : decode cX10_init 31 = .ok (.invokespecial 25, 3) := by decide +kernel
theorem dX10_init_34 : decode cX10_init 34 = .ok (.putfield 26, 3) := by decide +kernel
theorem dX10_init_37 : decode cX10_init 37 = .ok (.aload_n 0, 1) := by decide +kernel
theorem dX10_init_38 : decode cX10_init 38 = .ok (.new 30, 3) := by decide +kernel
theorem dX10_init_41 : decode cX10_init 41 = .ok (.dup, 1) := by decide +kernel
theorem dX10_init_42 : decode cX10_init 42 = .ok (.invokespecial 32, 3) := by decide +kernel
theorem dX10_init_45 : decode cX10_init 45 = .ok (.putfield 33, 3) := by decide +kernel
theorem dX10_init_48 : decode cX10_init 48 = .ok (.aload_n 0, 1) := by decide +kernel
theorem dX10_init_49 : decode cX10_init 49 = .ok (.new 37, 3) := by decide +kernel
theorem dX10_init_52 : decode cX10_init 52 = .ok (.dup, 1) := by decide +kernel
theorem dX10_init_53 : decode cX10_init 53 = .ok (.invokespecial 39, 3) := by decide +kernel
theorem dX10_init_56 : decode cX10_init 56 = .ok (.putfield 40, 3) := by decide +kernel
theorem dX10_init_59 : decode cX10_init 59 = .ok (.aload_n 0, 1) := by decide +kernel
theorem dX10_init_60 : decode cX10_init 60 = .ok (.new 44, 3) := by decide +kernel
theorem dX10_init_63 : decode cX10_init 63 = .ok (.dup, 1) := by decide +kernel
theorem dX10_init_64 : decode cX10_init 64 = .ok (.aload_n 0, 1) := by decide +kernel
theorem dX10_init_65 : decode cX10_init 65 = .ok (.getfield 40, 3) := by decide +kernel
theorem dX10_init_68 : decode cX10_init 68 = .ok (.invokevirtual 46, 3) := by decide +kernel
theorem dX10_init_71 : decode cX10_init 71 = .ok (.aload_n 0, 1) := by decide +kernel
theorem dX10_init_72 : decode cX10_init 72 = .ok (.getfield 33, 3) := by decide +kernel
theorem dX10_init_75 : decode cX10_init 75 = .ok (.invokespecial 50, 3) := by decide +kernel
theorem dX10_init_78 : decode cX10_init 78 = .ok (.putfield 53, 3) := by decide +kernel
theorem dX10_init_81 : decode cX10_init 81 = .ok (.aload_n 0, 1) := by decide +kernel
theorem dX10_init_82 : decode cX10_init 82 = .ok (.new 57, 3) := by decide +kernel
theorem dX10_init_85 : decode cX10_init 85 = .ok (.dup, 1) := by decide +kernel
theorem dX10_init_86 : decode cX10_init 86 = .ok (.invokespecial 59, 3) := by decide +kernel
theorem dX10_init_89 : decode cX10_init 89 = .ok (.putfield 60, 3) := by decide +kernel
theorem dX10_init_92 : decode cX10_init 92 = .ok (.aload_n 0, 1) := by decide +kernel
theorem dX10_init_93 : decode cX10_init 93 = .ok (.new 64, 3) := by decide +kernel
theorem dX10_init_96 : decode cX10_init 96 = .ok (.dup, 1) := by decide +kernel
theorem dX10_init_97 : decode cX10_init 97 = .ok (.invokespecial 66, 3) := by decide +kernel
theorem dX10_init_100 : decode cX10_init 100 = .ok (.putfield 67, 3) := by decide +kernel
theorem dX10_init_103 : decode cX10_init 103 = .ok (.aload_n 0, 1) := by decide +kernel
theorem dX10_init_104 : decode cX10_init 104 = .ok (.new 71, 3) := by decide +kernel
theorem dX10_init_107 : decode cX10_init 107 = .ok (.dup, 1) := by decide +kernel
theorem dX10_init_108 : decode cX10_init 108 = .ok (.invokespecial 73, 3) := by decide +kernel
theorem dX10_init_111 : decode cX10_init 111 = .ok (.putfield 74, 3) := by decide +kernel
theorem dX10_init_114 : decode cX10_init 114 = .ok (.return_, 1) := by decide +kernel
set_option maxRecDepth 20000 in
theorem ggX10_feed_X7_append : GoodIn wsX10_feed wsX7_append := goodIn_r _ [6, 7, 8, 9, 10, 5, 11, 12, 22, 23] (by decide +kernel) (by decide +kernel)
set_option maxRecDepth 20000 in
theorem gX10_feed_X7_append : GoodIn wsX10_feed (wsV RX10 78 RX7 yX7_append wsX7_append) := goodIn_app (goodIn_of _ (by decide +kernel)) ggX10_feed_X7_append
theorem dX10_feed_0 : decode cX10_feed 0 = .ok (.aload_n 0, 1) := by decide +kernel
theorem dX10_feed_1 : decode cX10_feed 1 = .ok (.getfield 10, 3) := by decide +kernel
theorem dX10_feed_4 : decode cX10_feed 4 = .ok (.iload_n 1, 1) := by decide +kernel
theorem dX10_feed_5 : decode cX10_feed 5 = .ok (.iload_n 2, 1) := by decide +kernel
theorem dX10_feed_6 : decode cX10_feed 6 = .ok (.iload_n 3, 1) := by decide +kernel
theorem dX10_feed_7 : decode cX10_feed 7 = .ok (.iload 4, 2) := by decide +kernel
theorem dX10_feed_9 : decode cX10_feed 9 = .ok (.iload 5, 2) := by decide +kernel
theorem dX10_feed_11 : decode cX10_feed 11 = .ok (.invokevirtual 78, 3) := by decide +kernel
theorem dX10_feed_14 : decode cX10_feed 14 = .ok (.ireturn, 1) := by decide +kernel
set_option maxRecDepth 20000 in
theorem ggX10_end_X7_keepFirst : GoodIn wsX10_end wsX7_keepFirst := goodIn_r _ [6, 7, 8, 9, 10, 20, 21] (by decide +kernel) (by decide +kernel)
set_option maxRecDepth 20000 in
theorem gX10_end_X7_keepFirst : GoodIn wsX10_end (wsV RX10 82 RX7 yX7_keepFirst wsX7_keepFirst) := goodIn_app (goodIn_of _ (by decide +kernel)) ggX10_end_X7_keepFirst
theorem dX10_end_0 : decode cX10_end 0 = .ok (.aload_n 0, 1) := by decide +kernel
theorem dX10_end_1 : decode cX10_end 1 = .ok (.getfield 10, 3) := by decide +kernel
theorem dX10_end_4 : decode cX10_end 4 = .ok (.iload_n 1, 1) := by decide +kernel
theorem dX10_end_5 : decode cX10_end 5 = .ok (.invokevirtual 82, 3) := by decide +kernel
theorem dX10_end_8 : decode cX10_end 8 = .ok (.ireturn, 1) := by decide +kernel
set_option maxRecDepth 20000 in
theorem ggX10_text_X10_readTape : GoodIn wsX10_text wsX10_readTape := goodIn_r _ [9, 1, 10, 11, 12, 13, 14, 15, 16, 17, 18, 19, 20, 21, 22, 23, 24, 25, 26, 27, 28, 29, 30, 31, 32, 33, 34, 35, 36, 37, 38, 39, 40, 8, 41, 42, 43, 44, 45, 46, 47, 48, 49, 50, 51, 52, 53, 54, 55, 56, 57, 58, 59, 60, 61, 62, 63, 64, 65, 66, 67, 68, 105, 106, 107, 108, 109, 110, 111, 112, 113, 114, 115, 116, 117, 118, 119, 120, 121, 122] (by decide +kernel) (by decide +kernel)
set_option maxRecDepth 20000 in
theorem gX10_text_X10_readTape : GoodIn wsX10_text (wsV RX10 86 RX10 yX10_readTape wsX10_readTape) := goodIn_app (goodIn_of _ (by decide +kernel)) ggX10_text_X10_readTape
set_option maxRecDepth 20000 in
theorem ggX10_text_X3_hasFault : GoodIn wsX10_text wsX3_hasFault := goodIn_r _ [72, 17, 114, 115, 116] (by decide +kernel) (by decide +kernel)
set_option maxRecDepth 20000 in
theorem gX10_text_X3_hasFault : GoodIn wsX10_text (wsV RX10 89 RX3 yX3_hasFault wsX3_hasFault) := goodIn_app (goodIn_of _ (by decide +kernel)) ggX10_text_X3_hasFault
set_option maxRecDepth 20000 in
theorem ggX10_text_X3_units : GoodIn wsX10_text wsX3_units := goodIn_r _ [76, 16, 114, 115, 116] (by decide +kernel) (by decide +kernel)
set_option maxRecDepth 20000 in
theorem gX10_text_X3_units : GoodIn wsX10_text (wsV RX10 93 RX3 yX3_units wsX3_units) := goodIn_app (goodIn_of _ (by decide +kernel)) ggX10_text_X3_units
set_option maxRecDepth 20000 in
theorem ggX10_text_X9_takeAll : GoodIn wsX10_text wsX9_takeAll := goodIn_r _ [80, 24, 81, 82, 83, 22, 84, 60, 85, 86, 87, 88, 54, 55, 117, 118, 119, 120] (by decide +kernel) (by decide +kernel)
set_option maxRecDepth 20000 in
theorem gX10_text_X9_takeAll : GoodIn wsX10_text (wsV RX10 96 RX9 yX9_takeAll wsX9_takeAll) := goodIn_app (goodIn_of _ (by decide +kernel)) ggX10_text_X9_takeAll
set_option maxRecDepth 20000 in
theorem ggX10_text_X5_drop : GoodIn wsX10_text wsX5_drop := goodIn_r _ [93, 94, 123, 124, 125, 126, 127, 128] (by decide +kernel) (by decide +kernel)
set_option maxRecDepth 20000 in
theorem gX10_text_X5_drop : GoodIn wsX10_text (wsV RX10 100 RX5 yX5_drop wsX5_drop) := goodIn_app (goodIn_of _ (by decide +kernel)) ggX10_text_X5_drop
set_option maxRecDepth 20000 in
theorem ggX10_text_X0_drop : GoodIn wsX10_text wsX0_drop := goodIn_r _ [99, 100, 129, 130, 131] (by decide +kernel) (by decide +kernel)
set_option maxRecDepth 20000 in
theorem gX10_text_X0_drop : GoodIn wsX10_text (wsV RX10 103 RX0 yX0_drop wsX0_drop) := goodIn_app (goodIn_of _ (by decide +kernel)) ggX10_text_X0_drop
set_option maxRecDepth 20000 in
theorem ggX10_text_X9_count : GoodIn wsX10_text wsX9_count := goodIn_r _ [104, 24, 117, 118, 119, 120] (by decide +kernel) (by decide +kernel)
set_option maxRecDepth 20000 in
theorem gX10_text_X9_count : GoodIn wsX10_text (wsV RX10 104 RX9 yX9_count wsX9_count) := goodIn_app (goodIn_of _ (by decide +kernel)) ggX10_text_X9_count
theorem dX10_text_0 : decode cX10_text 0 = .ok (.aload_n 0, 1) := by decide +kernel
theorem dX10_text_1 : decode cX10_text 1 = .ok (.invokevirtual 86, 3) := by decide +kernel
theorem dX10_text_4 : decode cX10_text 4 = .ok (.aload_n 0, 1) := by decide +kernel
theorem dX10_text_5 : decode cX10_text 5 = .ok (.getfield 19, 3) := by decide +kernel
theorem dX10_text_8 : decode cX10_text 8 = .ok (.invokevirtual 89, 3) := by decide +kernel
theorem dX10_text_11 : decode cX10_text 11 = .ok (.ifCond .eq 5, 3) := by decide +kernel
theorem dX10_text_14 : decode cX10_text 14 = .ok (.iconst (-1), 1) := by decide +kernel
theorem dX10_text_15 : decode cX10_text 15 = .ok (.ireturn, 1) := by decide +kernel
theorem dX10_text_16 : decode cX10_text 16 = .ok (.aload_n 0, 1) := by decide +kernel
theorem dX10_text_17 : decode cX10_text 17 = .ok (.getfield 26, 3) := by decide +kernel
theorem dX10_text_20 : decode cX10_text 20 = .ok (.aload_n 0, 1) := by decide +kernel
theorem dX10_text_21 : decode cX10_text 21 = .ok (.getfield 19, 3) := by decide +kernel
theorem dX10_text_24 : decode cX10_text 24 = .ok (.invokevirtual 93, 3) := by decide +kernel
theorem dX10_text_27 : decode cX10_text 27 = .ok (.invokevirtual 96, 3) := by decide +kernel
theorem dX10_text_30 : decode cX10_text 30 = .ok (.aload_n 0, 1) := by decide +kernel
theorem dX10_text_31 : decode cX10_text 31 = .ok (.getfield 40, 3) := by decide +kernel
theorem dX10_text_34 : decode cX10_text 34 = .ok (.invokevirtual 100, 3) := by decide +kernel
theorem dX10_text_37 : decode cX10_text 37 = .ok (.aload_n 0, 1) := by decide +kernel
theorem dX10_text_38 : decode cX10_text 38 = .ok (.getfield 67, 3) := by decide +kernel
theorem dX10_text_41 : decode cX10_text 41 = .ok (.invokevirtual 103, 3) := by decide +kernel
theorem dX10_text_44 : decode cX10_text 44 = .ok (.aload_n 0, 1) := by decide +kernel
theorem dX10_text_45 : decode cX10_text 45 = .ok (.getfield 26, 3) := by decide +kernel
theorem dX10_text_48 : decode cX10_text 48 = .ok (.invokevirtual 104, 3) := by decide +kernel
theorem dX10_text_51 : decode cX10_text 51 = .ok (.ireturn, 1) := by decide +kernel
set_option maxRecDepth 20000 in
theorem ggX10_fault_X3_kind : GoodIn wsX10_fault wsX3_kind := goodIn_r _ [6, 7, 22, 23, 24] (by decide +kernel) (by decide +kernel)
set_option maxRecDepth 20000 in
theorem gX10_fault_X3_kind : GoodIn wsX10_fault (wsV RX10 108 RX3 yX3_kind wsX3_kind) := goodIn_app (goodIn_of _ (by decide +kernel)) ggX10_fault_X3_kind
set_option maxRecDepth 20000 in
theorem ggX10_fault_X3_place : GoodIn wsX10_fault wsX3_place := goodIn_r _ [11, 12, 22, 23, 24] (by decide +kernel) (by decide +kernel)
set_option maxRecDepth 20000 in
theorem gX10_fault_X3_place : GoodIn wsX10_fault (wsV RX10 111 RX3 yX3_place wsX3_place) := goodIn_app (goodIn_of _ (by decide +kernel)) ggX10_fault_X3_place
theorem dX10_fault_0 : decode cX10_fault 0 = .ok (.iload_n 1, 1) := by decide +kernel
theorem dX10_fault_1 : decode cX10_fault 1 = .ok (.lookupswitch 43 #[(0, 27), (1, 35)], 27) := by decide +kernel
theorem dX10_fault_28 : decode cX10_fault 28 = .ok (.aload_n 0, 1) := by decide +kernel
theorem dX10_fault_29 : decode cX10_fault 29 = .ok (.getfield 19, 3) := by decide +kernel
theorem dX10_fault_32 : decode cX10_fault 32 = .ok (.invokevirtual 108, 3) := by decide +kernel
theorem dX10_fault_35 : decode cX10_fault 35 = .ok (.ireturn, 1) := by decide +kernel
theorem dX10_fault_36 : decode cX10_fault 36 = .ok (.aload_n 0, 1) := by decide +kernel
theorem dX10_fault_37 : decode cX10_fault 37 = .ok (.getfield 19, 3) := by decide +kernel
theorem dX10_fault_40 : decode cX10_fault 40 = .ok (.invokevirtual 111, 3) := by decide +kernel
theorem dX10_fault_43 : decode cX10_fault 43 = .ok (.ireturn, 1) := by decide +kernel
theorem dX10_fault_44 : decode cX10_fault 44 = .ok (.iconst (-1), 1) := by decide +kernel
theorem dX10_fault_45 : decode cX10_fault 45 = .ok (.ireturn, 1) := by decide +kernel
set_option maxRecDepth 20000 in
theorem ggX10_put_X9_isWholeWord : GoodIn wsX10_put wsX9_isWholeWord := goodIn_r _ [10, 11, 12, 13, 9, 14, 15, 16, 17, 18, 19, 20, 21, 22, 23, 24, 131, 132, 133, 134] (by decide +kernel) (by decide +kernel)
set_option maxRecDepth 20000 in
theorem gX10_put_X9_isWholeWord : GoodIn wsX10_put (wsV RX10 114 RX9 yX9_isWholeWord wsX9_isWholeWord) := goodIn_app (goodIn_of _ (by decide +kernel)) ggX10_put_X9_isWholeWord
set_option maxRecDepth 20000 in
theorem ggX10_put_X7_clear : GoodIn wsX10_put wsX7_clear := goodIn_r _ [29, 30, 135, 136] (by decide +kernel) (by decide +kernel)
set_option maxRecDepth 20000 in
theorem gX10_put_X7_clear : GoodIn wsX10_put (wsV RX10 117 RX7 yX7_clear wsX7_clear) := goodIn_app (goodIn_of _ (by decide +kernel)) ggX10_put_X7_clear
set_option maxRecDepth 20000 in
theorem ggX10_put_X10_readTape : GoodIn wsX10_put wsX10_readTape := goodIn_r _ [35, 3, 2, 36, 37, 38, 39, 40, 41, 42, 43, 44, 45, 46, 9, 47, 15, 48, 49, 50, 28, 51, 30, 52, 53, 54, 55, 56, 57, 58, 59, 60, 61, 34, 62, 63, 64, 65, 66, 67, 68, 69, 70, 71, 72, 73, 74, 75, 24, 76, 77, 78, 79, 80, 81, 82, 83, 84, 25, 26, 27, 29, 122, 123, 124, 125, 126, 127, 128, 129, 130, 137, 138, 139, 131, 132, 133, 134, 135, 136] (by decide +kernel) (by decide +kernel)
set_option maxRecDepth 20000 in
theorem gX10_put_X10_readTape : GoodIn wsX10_put (wsV RX10 86 RX10 yX10_readTape wsX10_readTape) := goodIn_app (goodIn_of _ (by decide +kernel)) ggX10_put_X10_readTape
set_option maxRecDepth 20000 in
theorem ggX10_put_X3_units : GoodIn wsX10_put wsX3_units := goodIn_r _ [88, 41, 137, 138, 139] (by decide +kernel) (by decide +kernel)
set_option maxRecDepth 20000 in
theorem gX10_put_X3_units : GoodIn wsX10_put (wsV RX10 93 RX3 yX3_units wsX3_units) := goodIn_app (goodIn_of _ (by decide +kernel)) ggX10_put_X3_units
set_option maxRecDepth 20000 in
theorem ggX10_put_X9_count : GoodIn wsX10_put wsX9_count := goodIn_r _ [92, 15, 131, 132, 133, 134] (by decide +kernel) (by decide +kernel)
set_option maxRecDepth 20000 in
theorem gX10_put_X9_count : GoodIn wsX10_put (wsV RX10 104 RX9 yX9_count wsX9_count) := goodIn_app (goodIn_of _ (by decide +kernel)) ggX10_put_X9_count
set_option maxRecDepth 20000 in
theorem ggX10_put_X3_hasFault : GoodIn wsX10_put wsX3_hasFault := goodIn_r _ [96, 42, 137, 138, 139] (by decide +kernel) (by decide +kernel)
set_option maxRecDepth 20000 in
theorem gX10_put_X3_hasFault : GoodIn wsX10_put (wsV RX10 89 RX3 yX3_hasFault wsX3_hasFault) := goodIn_app (goodIn_of _ (by decide +kernel)) ggX10_put_X3_hasFault
set_option maxRecDepth 20000 in
theorem ggX10_put_X9_replace : GoodIn wsX10_put wsX9_replace := goodIn_r _ [100, 15, 11, 12, 13, 9, 14, 101, 102, 103, 104, 80, 105, 106, 107, 108, 75, 24, 131, 132, 133, 134] (by decide +kernel) (by decide +kernel)
set_option maxRecDepth 20000 in
theorem gX10_put_X9_replace : GoodIn wsX10_put (wsV RX10 120 RX9 yX9_replace wsX9_replace) := goodIn_app (goodIn_of _ (by decide +kernel)) ggX10_put_X9_replace
set_option maxRecDepth 20000 in
theorem ggX10_put_X0_moveBehind : GoodIn wsX10_put wsX0_moveBehind := goodIn_r _ [113, 114, 115, 140, 141, 142] (by decide +kernel) (by decide +kernel)
set_option maxRecDepth 20000 in
theorem gX10_put_X0_moveBehind : GoodIn wsX10_put (wsV RX10 124 RX0 yX0_moveBehind wsX0_moveBehind) := goodIn_app (goodIn_of _ (by decide +kernel)) ggX10_put_X0_moveBehind
set_option maxRecDepth 20000 in
theorem ggX10_put_X5_outdate : GoodIn wsX10_put wsX5_outdate := goodIn_r _ [120, 121, 143, 144, 145, 146, 147, 148] (by decide +kernel) (by decide +kernel)
set_option maxRecDepth 20000 in
theorem gX10_put_X5_outdate : GoodIn wsX10_put (wsV RX10 128 RX5 yX5_outdate wsX5_outdate) := goodIn_app (goodIn_of _ (by decide +kernel)) ggX10_put_X5_outdate
theorem dX10_put_0 : decode cX10_put 0 = .ok (.aload_n 0, 1) := by decide +kernel
theorem dX10_put_1 : decode cX10_put 1 = .ok (.getfield 26, 3) := by decide +kernel
theorem dX10_put_4 : decode cX10_put 4 = .ok (.iload_n 1, 1) := by decide +kernel
theorem dX10_put_5 : decode cX10_put 5 = .ok (.invokevirtual 114, 3) := by decide +kernel
theorem dX10_put_8 : decode cX10_put 8 = .ok (.ifCond .ne 12, 3) := by decide +kernel
theorem dX10_put_11 : decode cX10_put 11 = .ok (.aload_n 0, 1) := by decide +kernel
theorem dX10_put_12 : decode cX10_put 12 = .ok (.getfield 10, 3) := by decide +kernel
theorem dX10_put_15 : decode cX10_put 15 = .ok (.invokevirtual 117, 3) := by decide +kernel
theorem dX10_put_18 : decode cX10_put 18 = .ok (.iconst (-1), 1) := by decide +kernel
theorem dX10_put_19 : decode cX10_put 19 = .ok (.ireturn, 1) := by decide +kernel
theorem dX10_put_20 : decode cX10_put 20 = .ok (.aload_n 0, 1) := by decide +kernel
theorem dX10_put_21 : decode cX10_put 21 = .ok (.invokevirtual 86, 3) := by decide +kernel
theorem dX10_put_24 : decode cX10_put 24 = .ok (.aload_n 0, 1) := by decide +kernel
theorem dX10_put_25 : decode cX10_put 25 = .ok (.getfield 19, 3) := by decide +kernel
theorem dX10_put_28 : decode cX10_put 28 = .ok (.invokevirtual 93, 3) := by decide +kernel
theorem dX10_put_31 : decode cX10_put 31 = .ok (.invokevirtual 104, 3) := by decide +kernel
theorem dX10_put_34 : decode cX10_put 34 = .ok (.iconst 1, 1) := by decide +kernel
theorem dX10_put_35 : decode cX10_put 35 = .ok (.isub, 1) := by decide +kernel
theorem dX10_put_36 : decode cX10_put 36 = .ok (.istore_n 2, 1) := by decide +kernel
theorem dX10_put_37 : decode cX10_put 37 = .ok (.aload_n 0, 1) := by decide +kernel
theorem dX10_put_38 : decode cX10_put 38 = .ok (.getfield 19, 3) := by decide +kernel
theorem dX10_put_41 : decode cX10_put 41 = .ok (.invokevirtual 89, 3) := by decide +kernel
theorem dX10_put_44 : decode cX10_put 44 = .ok (.ifCond .ne 21, 3) := by decide +kernel
theorem dX10_put_47 : decode cX10_put 47 = .ok (.iload_n 2, 1) := by decide +kernel
theorem dX10_put_48 : decode cX10_put 48 = .ok (.ifCond .lt 17, 3) := by decide +kernel
theorem dX10_put_51 : decode cX10_put 51 = .ok (.aload_n 0, 1) := by decide +kernel
theorem dX10_put_52 : decode cX10_put 52 = .ok (.getfield 26, 3) := by decide +kernel
theorem dX10_put_55 : decode cX10_put 55 = .ok (.invokevirtual 104, 3) := by decide +kernel
theorem dX10_put_58 : decode cX10_put 58 = .ok (.iload_n 2, 1) := by decide +kernel
theorem dX10_put_59 : decode cX10_put 59 = .ok (.iadd, 1) := by decide +kernel
theorem dX10_put_60 : decode cX10_put 60 = .ok (.bipush 80, 2) := by decide +kernel
theorem dX10_put_62 : decode cX10_put 62 = .ok (.if_icmp .le 6, 3) := by decide +kernel
theorem dX10_put_65 : decode cX10_put 65 = .ok (.bipush (-2), 2) := by decide +kernel
theorem dX10_put_67 : decode cX10_put 67 = .ok (.ireturn, 1) := by decide +kernel
theorem dX10_put_68 : decode cX10_put 68 = .ok (.aload_n 0, 1) := by decide +kernel
theorem dX10_put_69 : decode cX10_put 69 = .ok (.getfield 26, 3) := by decide +kernel
theorem dX10_put_72 : decode cX10_put 72 = .ok (.iload_n 1, 1) := by decide +kernel
theorem dX10_put_73 : decode cX10_put 73 = .ok (.aload_n 0, 1) := by decide +kernel
theorem dX10_put_74 : decode cX10_put 74 = .ok (.getfield 19, 3) := by decide +kernel
theorem dX10_put_77 : decode cX10_put 77 = .ok (.invokevirtual 93, 3) := by decide +kernel
theorem dX10_put_80 : decode cX10_put 80 = .ok (.invokevirtual 120, 3) := by decide +kernel
theorem dX10_put_83 : decode cX10_put 83 = .ok (.aload_n 0, 1) := by decide +kernel
theorem dX10_put_84 : decode cX10_put 84 = .ok (.getfield 67, 3) := by decide +kernel
theorem dX10_put_87 : decode cX10_put 87 = .ok (.iload_n 1, 1) := by decide +kernel
theorem dX10_put_88 : decode cX10_put 88 = .ok (.iload_n 2, 1) := by decide +kernel
theorem dX10_put_89 : decode cX10_put 89 = .ok (.invokevirtual 124, 3) := by decide +kernel
theorem dX10_put_92 : decode cX10_put 92 = .ok (.aload_n 0, 1) := by decide +kernel
theorem dX10_put_93 : decode cX10_put 93 = .ok (.getfield 40, 3) := by decide +kernel
theorem dX10_put_96 : decode cX10_put 96 = .ok (.invokevirtual 128, 3) := by decide +kernel
theorem dX10_put_99 : decode cX10_put 99 = .ok (.aload_n 0, 1) := by decide +kernel
theorem dX10_put_100 : decode cX10_put 100 = .ok (.getfield 26, 3) := by decide +kernel
theorem dX10_put_103 : decode cX10_put 103 = .ok (.invokevirtual 104, 3) := by decide +kernel
theorem dX10_put_106 : decode cX10_put 106 = .ok (.ireturn, 1) := by decide +kernel
set_option maxRecDepth 20000 in
theorem ggX10_unit_X9_has : GoodIn wsX10_unit wsX9_has := goodIn_r _ [6, 7, 37, 38, 39, 40] (by decide +kernel) (by decide +kernel)
set_option maxRecDepth 20000 in
theorem gX10_unit_X9_has : GoodIn wsX10_unit (wsV RX10 131 RX9 yX9_has wsX9_has) := goodIn_app (goodIn_of _ (by decide +kernel)) ggX10_unit_X9_has
set_option maxRecDepth 20000 in
theorem ggX10_unit_X9_letters : GoodIn wsX10_unit wsX9_letters := goodIn_r _ [11, 12, 13, 3, 4, 5, 6, 7, 37, 38, 39, 40] (by decide +kernel) (by decide +kernel)
set_option maxRecDepth 20000 in
theorem gX10_unit_X9_letters : GoodIn wsX10_unit (wsV RX10 134 RX9 yX9_letters wsX9_letters) := goodIn_app (goodIn_of _ (by decide +kernel)) ggX10_unit_X9_letters
set_option maxRecDepth 20000 in
theorem ggX10_unit_X9_behind : GoodIn wsX10_unit wsX9_behind := goodIn_r _ [17, 18, 13, 3, 4, 5, 6, 7, 37, 38, 39, 40] (by decide +kernel) (by decide +kernel)
set_option maxRecDepth 20000 in
theorem gX10_unit_X9_behind : GoodIn wsX10_unit (wsV RX10 138 RX9 yX9_behind wsX9_behind) := goodIn_app (goodIn_of _ (by decide +kernel)) ggX10_unit_X9_behind
set_option maxRecDepth 20000 in
theorem ggX10_unit_X9_wordNumber : GoodIn wsX10_unit wsX9_wordNumber := goodIn_r _ [22, 7, 23, 24, 25, 5, 26, 27, 15, 16, 17, 18, 13, 3, 4, 6, 37, 38, 39, 40] (by decide +kernel) (by decide +kernel)
set_option maxRecDepth 20000 in
theorem gX10_unit_X9_wordNumber : GoodIn wsX10_unit (wsV RX10 141 RX9 yX9_wordNumber wsX9_wordNumber) := goodIn_app (goodIn_of _ (by decide +kernel)) ggX10_unit_X9_wordNumber
theorem dX10_unit_0 : decode cX10_unit 0 = .ok (.aload_n 0, 1) := by decide +kernel
theorem dX10_unit_1 : decode cX10_unit 1 = .ok (.getfield 26, 3) := by decide +kernel
theorem dX10_unit_4 : decode cX10_unit 4 = .ok (.iload_n 1, 1) := by decide +kernel
theorem dX10_unit_5 : decode cX10_unit 5 = .ok (.invokevirtual 131, 3) := by decide +kernel
theorem dX10_unit_8 : decode cX10_unit 8 = .ok (.ifCond .ne 5, 3) := by decide +kernel
theorem dX10_unit_11 : decode cX10_unit 11 = .ok (.iconst (-1), 1) := by decide +kernel
theorem dX10_unit_12 : decode cX10_unit 12 = .ok (.ireturn, 1) := by decide +kernel
theorem dX10_unit_13 : decode cX10_unit 13 = .ok (.iload_n 2, 1) := by decide +kernel
theorem dX10_unit_14 : decode cX10_unit 14 = .ok (.tableswitch 53 0 2 #[26, 35, 44], 26) := by decide +kernel
theorem dX10_unit_40 : decode cX10_unit 40 = .ok (.aload_n 0, 1) := by decide +kernel
theorem dX10_unit_41 : decode cX10_unit 41 = .ok (.getfield 26, 3) := by decide +kernel
theorem dX10_unit_44 : decode cX10_unit 44 = .ok (.iload_n 1, 1) := by decide +kernel
theorem dX10_unit_45 : decode cX10_unit 45 = .ok (.invokevirtual 134, 3) := by decide +kernel
theorem dX10_unit_48 : decode cX10_unit 48 = .ok (.ireturn, 1) := by decide +kernel
theorem dX10_unit_49 : decode cX10_unit 49 = .ok (.aload_n 0, 1) := by decide +kernel
theorem dX10_unit_50 : decode cX10_unit 50 = .ok (.getfield 26, 3) := by decide +kernel
theorem dX10_unit_53 : decode cX10_unit 53 = .ok (.iload_n 1, 1) := by decide +kernel
theorem dX10_unit_54 : decode cX10_unit 54 = .ok (.invokevirtual 138, 3) := by decide +kernel
theorem dX10_unit_57 : decode cX10_unit 57 = .ok (.ireturn, 1) := by decide +kernel
theorem dX10_unit_58 : decode cX10_unit 58 = .ok (.aload_n 0, 1) := by decide +kernel
theorem dX10_unit_59 : decode cX10_unit 59 = .ok (.getfield 26, 3) := by decide +kernel
theorem dX10_unit_62 : decode cX10_unit 62 = .ok (.iload_n 1, 1) := by decide +kernel
theorem dX10_unit_63 : decode cX10_unit 63 = .ok (.invokevirtual 141, 3) := by decide +kernel
theorem dX10_unit_66 : decode cX10_unit 66 = .ok (.ireturn, 1) := by decide +kernel
theorem dX10_unit_67 : decode cX10_unit 67 = .ok (.iconst (-1), 1) := by decide +kernel
theorem dX10_unit_68 : decode cX10_unit 68 = .ok (.ireturn, 1) := by decide +kernel
set_option maxRecDepth 20000 in
theorem ggX10_measure_X1_changeLine : GoodIn wsX10_measure wsX1_changeLine := goodIn_r _ [6, 7, 8, 9, 10, 11, 21, 22, 23, 24, 25, 26, 27] (by decide +kernel) (by decide +kernel)
set_option maxRecDepth 20000 in
theorem gX10_measure_X1_changeLine : GoodIn wsX10_measure (wsV RX10 144 RX1 yX1_changeLine wsX1_changeLine) := goodIn_app (goodIn_of _ (by decide +kernel)) ggX10_measure_X1_changeLine
theorem dX10_measure_0 : decode cX10_measure 0 = .ok (.aload_n 0, 1) := by decide +kernel
theorem dX10_measure_1 : decode cX10_measure 1 = .ok (.getfield 33, 3) := by decide +kernel
theorem dX10_measure_4 : decode cX10_measure 4 = .ok (.iload_n 1, 1) := by decide +kernel
theorem dX10_measure_5 : decode cX10_measure 5 = .ok (.iload_n 2, 1) := by decide +kernel
theorem dX10_measure_6 : decode cX10_measure 6 = .ok (.invokevirtual 144, 3) := by decide +kernel
theorem dX10_measure_9 : decode cX10_measure 9 = .ok (.ireturn, 1) := by decide +kernel
set_option maxRecDepth 20000 in
theorem ggX10_strains_X1_changeStrains : GoodIn wsX10_strains wsX1_changeStrains := goodIn_r _ [6, 7, 8, 9, 10, 11, 12, 13, 14, 15, 16, 5, 17, 27, 28, 29, 30, 31, 32, 33] (by decide +kernel) (by decide +kernel)
set_option maxRecDepth 20000 in
theorem gX10_strains_X1_changeStrains : GoodIn wsX10_strains (wsV RX10 148 RX1 yX1_changeStrains wsX1_changeStrains) := goodIn_app (goodIn_of _ (by decide +kernel)) ggX10_strains_X1_changeStrains
theorem dX10_strains_0 : decode cX10_strains 0 = .ok (.aload_n 0, 1) := by decide +kernel
theorem dX10_strains_1 : decode cX10_strains 1 = .ok (.getfield 33, 3) := by decide +kernel
theorem dX10_strains_4 : decode cX10_strains 4 = .ok (.iload_n 1, 1) := by decide +kernel
theorem dX10_strains_5 : decode cX10_strains 5 = .ok (.iload_n 2, 1) := by decide +kernel
theorem dX10_strains_6 : decode cX10_strains 6 = .ok (.iload_n 3, 1) := by decide +kernel
theorem dX10_strains_7 : decode cX10_strains 7 = .ok (.iload 4, 2) := by decide +kernel
theorem dX10_strains_9 : decode cX10_strains 9 = .ok (.iload 5, 2) := by decide +kernel
theorem dX10_strains_11 : decode cX10_strains 11 = .ok (.invokevirtual 148, 3) := by decide +kernel
theorem dX10_strains_14 : decode cX10_strains 14 = .ok (.ireturn, 1) := by decide +kernel
set_option maxRecDepth 20000 in
theorem ggX10_like_X1_changeLikeness : GoodIn wsX10_like wsX1_changeLikeness := goodIn_r _ [6, 7, 8, 9, 10, 11, 12, 13, 14, 5, 15, 16, 17, 18, 28, 29, 30, 31, 32, 33, 34] (by decide +kernel) (by decide +kernel)
set_option maxRecDepth 20000 in
theorem gX10_like_X1_changeLikeness : GoodIn wsX10_like (wsV RX10 152 RX1 yX1_changeLikeness wsX1_changeLikeness) := goodIn_app (goodIn_of _ (by decide +kernel)) ggX10_like_X1_changeLikeness
theorem dX10_like_0 : decode cX10_like 0 = .ok (.aload_n 0, 1) := by decide +kernel
theorem dX10_like_1 : decode cX10_like 1 = .ok (.getfield 33, 3) := by decide +kernel
theorem dX10_like_4 : decode cX10_like 4 = .ok (.iload_n 1, 1) := by decide +kernel
theorem dX10_like_5 : decode cX10_like 5 = .ok (.iload_n 2, 1) := by decide +kernel
theorem dX10_like_6 : decode cX10_like 6 = .ok (.iload_n 3, 1) := by decide +kernel
theorem dX10_like_7 : decode cX10_like 7 = .ok (.invokevirtual 152, 3) := by decide +kernel
theorem dX10_like_10 : decode cX10_like 10 = .ok (.ireturn, 1) := by decide +kernel
set_option maxRecDepth 20000 in
theorem ggX10_set_X1_longest : GoodIn wsX10_set wsX1_longest := goodIn_r _ [9, 10, 190, 191, 192, 193, 194, 195, 196] (by decide +kernel) (by decide +kernel)
set_option maxRecDepth 20000 in
theorem gX10_set_X1_longest : GoodIn wsX10_set (wsV RX10 156 RX1 yX1_longest wsX1_longest) := goodIn_app (goodIn_of _ (by decide +kernel)) ggX10_set_X1_longest
set_option maxRecDepth 20000 in
theorem ggX10_set_X9_fitAlone : GoodIn wsX10_set wsX9_fitAlone := goodIn_r _ [15, 16, 17, 18, 19, 14, 20, 21, 22, 23, 24, 25, 26, 27, 28, 29, 30, 31, 32, 33, 34, 197, 198, 199, 200] (by decide +kernel) (by decide +kernel)
set_option maxRecDepth 20000 in
theorem gX10_set_X9_fitAlone : GoodIn wsX10_set (wsV RX10 159 RX9 yX9_fitAlone wsX9_fitAlone) := goodIn_app (goodIn_of _ (by decide +kernel)) ggX10_set_X9_fitAlone
set_option maxRecDepth 20000 in
theorem ggX10_set_X1_spread : GoodIn wsX10_set wsX1_spread := goodIn_r _ [38, 39, 190, 191, 192, 193, 194, 195, 196] (by decide +kernel) (by decide +kernel)
set_option maxRecDepth 20000 in
theorem gX10_set_X1_spread : GoodIn wsX10_set (wsV RX10 162 RX1 yX1_spread wsX1_spread) := goodIn_app (goodIn_of _ (by decide +kernel)) ggX10_set_X1_spread
set_option maxRecDepth 20000 in
theorem ggX10_set_X5_begin : GoodIn wsX10_set wsX5_begin := goodIn_r _ [44, 45, 46, 47, 48, 49, 50, 51, 52, 53, 54, 55, 56, 57, 58, 14, 59, 16, 60, 28, 29, 30, 31, 32, 33, 34, 21, 23, 24, 25, 26, 61, 62, 63, 64, 65, 66, 67, 68, 69, 70, 71, 72, 8, 73, 74, 75, 76, 77, 78, 79, 80, 81, 82, 83, 84, 18, 19, 20, 22, 85, 86, 87, 88, 89, 90, 201, 202, 203, 204, 205, 206, 207, 208, 209, 210, 211, 212, 213, 197, 198, 199, 200] (by decide +kernel) (by decide +kernel)
set_option maxRecDepth 20000 in
theorem gX10_set_X5_begin : GoodIn wsX10_set (wsV RX10 165 RX5 yX5_begin wsX5_begin) := goodIn_app (goodIn_of _ (by decide +kernel)) ggX10_set_X5_begin
set_option maxRecDepth 20000 in
theorem ggX10_set_X4_weighLines : GoodIn wsX10_set wsX4_weighLines := goodIn_r _ [95, 96, 97, 98, 99, 100, 101, 52, 102, 54, 103, 104, 105, 94, 106, 107, 108, 109, 110, 111, 112, 113, 114, 115, 82, 81, 116, 117, 118, 119, 120, 121, 122, 123, 83, 124, 6, 7, 8, 9, 10, 125, 126, 127, 128, 129, 130, 131, 132, 133, 134, 135, 136, 137, 138, 139, 140, 141, 142, 143, 144, 145, 146, 147, 148, 149, 150, 151, 152, 153, 154, 155, 156, 157, 158, 159, 160, 161, 162, 55, 70, 163, 164, 165, 166, 167, 168, 169, 170, 214, 215, 216, 217, 218, 207, 208, 209, 210, 211, 212, 213, 190, 191, 192, 193, 194, 195, 196] (by decide +kernel) (by decide +kernel)
set_option maxRecDepth 20000 in
theorem gX10_set_X4_weighLines : GoodIn wsX10_set (wsV RX10 169 RX4 yX4_weighLines wsX4_weighLines) := goodIn_app (goodIn_of _ (by decide +kernel)) ggX10_set_X4_weighLines
set_option maxRecDepth 20000 in
theorem ggX10_set_X4_putLines : GoodIn wsX10_set wsX4_putLines := goodIn_r _ [174, 96, 150, 146, 147, 148, 94, 149, 98, 151, 152, 153, 154, 107, 97, 99, 100, 101, 52, 102, 54, 155, 156, 157, 158, 81, 116, 117, 118, 119, 145, 113, 114, 115, 82, 159, 160, 161, 162, 55, 70, 163, 164, 165, 8, 166, 167, 168, 169, 170, 125, 126, 127, 175, 176, 177, 43, 178, 46, 179, 180, 214, 215, 216, 217, 218, 207, 208, 209, 210, 211, 212, 213, 190, 191, 192, 193, 194, 195, 196, 201, 202, 203, 204, 205, 206] (by decide +kernel) (by decide +kernel)
set_option maxRecDepth 20000 in
theorem gX10_set_X4_putLines : GoodIn wsX10_set (wsV RX10 172 RX4 yX4_putLines wsX4_putLines) := goodIn_app (goodIn_of _ (by decide +kernel)) ggX10_set_X4_putLines
theorem dX10_set_0 : decode cX10_set 0 = .ok (.aload_n 0, 1) := by decide +kernel
theorem dX10_set_1 : decode cX10_set 1 = .ok (.getfield 26, 3) := by decide +kernel
theorem dX10_set_4 : decode cX10_set 4 = .ok (.aload_n 0, 1) := by decide +kernel
theorem dX10_set_5 : decode cX10_set 5 = .ok (.getfield 33, 3) := by decide +kernel
theorem dX10_set_8 : decode cX10_set 8 = .ok (.invokevirtual 156, 3) := by decide +kernel
theorem dX10_set_11 : decode cX10_set 11 = .ok (.invokevirtual 159, 3) := by decide +kernel
theorem dX10_set_14 : decode cX10_set 14 = .ok (.ifCond .ne 5, 3) := by decide +kernel
theorem dX10_set_17 : decode cX10_set 17 = .ok (.iconst (-1), 1) := by decide +kernel
theorem dX10_set_18 : decode cX10_set 18 = .ok (.ireturn, 1) := by decide +kernel
theorem dX10_set_19 : decode cX10_set 19 = .ok (.aload_n 0, 1) := by decide +kernel
theorem dX10_set_20 : decode cX10_set 20 = .ok (.getfield 40, 3) := by decide +kernel
theorem dX10_set_23 : decode cX10_set 23 = .ok (.aload_n 0, 1) := by decide +kernel
theorem dX10_set_24 : decode cX10_set 24 = .ok (.getfield 26, 3) := by decide +kernel
theorem dX10_set_27 : decode cX10_set 27 = .ok (.aload_n 0, 1) := by decide +kernel
theorem dX10_set_28 : decode cX10_set 28 = .ok (.getfield 33, 3) := by decide +kernel
theorem dX10_set_31 : decode cX10_set 31 = .ok (.invokevirtual 162, 3) := by decide +kernel
theorem dX10_set_34 : decode cX10_set 34 = .ok (.invokevirtual 165, 3) := by decide +kernel
theorem dX10_set_37 : decode cX10_set 37 = .ok (.aload_n 0, 1) := by decide +kernel
theorem dX10_set_38 : decode cX10_set 38 = .ok (.getfield 53, 3) := by decide +kernel
theorem dX10_set_41 : decode cX10_set 41 = .ok (.invokevirtual 169, 3) := by decide +kernel
theorem dX10_set_44 : decode cX10_set 44 = .ok (.aload_n 0, 1) := by decide +kernel
theorem dX10_set_45 : decode cX10_set 45 = .ok (.getfield 53, 3) := by decide +kernel
theorem dX10_set_48 : decode cX10_set 48 = .ok (.aload_n 0, 1) := by decide +kernel
theorem dX10_set_49 : decode cX10_set 49 = .ok (.getfield 40, 3) := by decide +kernel
theorem dX10_set_52 : decode cX10_set 52 = .ok (.invokevirtual 172, 3) := by decide +kernel
theorem dX10_set_55 : decode cX10_set 55 = .ok (.ireturn, 1) := by decide +kernel
set_option maxRecDepth 20000 in
theorem ggX10_lines_X5_isThere : GoodIn wsX10_lines wsX5_isThere := goodIn_r _ [6, 7, 22, 23, 24, 25, 26, 27] (by decide +kernel) (by decide +kernel)
set_option maxRecDepth 20000 in
theorem gX10_lines_X5_isThere : GoodIn wsX10_lines (wsV RX10 176 RX5 yX5_isThere wsX5_isThere) := goodIn_app (goodIn_of _ (by decide +kernel)) ggX10_lines_X5_isThere
set_option maxRecDepth 20000 in
theorem ggX10_lines_X5_count : GoodIn wsX10_lines wsX5_count := goodIn_r _ [11, 12, 22, 23, 24, 25, 26, 27] (by decide +kernel) (by decide +kernel)
set_option maxRecDepth 20000 in
theorem gX10_lines_X5_count : GoodIn wsX10_lines (wsV RX10 179 RX5 yX5_count wsX5_count) := goodIn_app (goodIn_of _ (by decide +kernel)) ggX10_lines_X5_count
theorem dX10_lines_0 : decode cX10_lines 0 = .ok (.aload_n 0, 1) := by decide +kernel
theorem dX10_lines_1 : decode cX10_lines 1 = .ok (.getfield 40, 3) := by decide +kernel
theorem dX10_lines_4 : decode cX10_lines 4 = .ok (.invokevirtual 176, 3) := by decide +kernel
theorem dX10_lines_7 : decode cX10_lines 7 = .ok (.ifCond .eq 13, 3) := by decide +kernel
theorem dX10_lines_10 : decode cX10_lines 10 = .ok (.aload_n 0, 1) := by decide +kernel
theorem dX10_lines_11 : decode cX10_lines 11 = .ok (.getfield 40, 3) := by decide +kernel
theorem dX10_lines_14 : decode cX10_lines 14 = .ok (.invokevirtual 179, 3) := by decide +kernel
theorem dX10_lines_17 : decode cX10_lines 17 = .ok (.goto 4, 3) := by decide +kernel
theorem dX10_lines_20 : decode cX10_lines 20 = .ok (.iconst (-1), 1) := by decide +kernel
theorem dX10_lines_21 : decode cX10_lines 21 = .ok (.ireturn, 1) := by decide +kernel
set_option maxRecDepth 20000 in
theorem ggX10_line_X5_has : GoodIn wsX10_line wsX5_has := goodIn_r _ [7, 8, 9, 67, 68, 69, 70, 71, 72] (by decide +kernel) (by decide +kernel)
set_option maxRecDepth 20000 in
theorem gX10_line_X5_has : GoodIn wsX10_line (wsV RX10 180 RX5 yX5_has wsX5_has) := goodIn_app (goodIn_of _ (by decide +kernel)) ggX10_line_X5_has
set_option maxRecDepth 20000 in
theorem ggX10_line_X5_first : GoodIn wsX10_line wsX5_first := goodIn_r _ [13, 14, 15, 4, 5, 6, 7, 8, 9, 67, 68, 69, 70, 71, 72] (by decide +kernel) (by decide +kernel)
set_option maxRecDepth 20000 in
theorem gX10_line_X5_first : GoodIn wsX10_line (wsV RX10 181 RX5 yX5_first wsX5_first) := goodIn_app (goodIn_of _ (by decide +kernel)) ggX10_line_X5_first
set_option maxRecDepth 20000 in
theorem ggX10_line_X5_unitsIn : GoodIn wsX10_line wsX5_unitsIn := goodIn_r _ [19, 20, 15, 4, 5, 6, 7, 8, 9, 67, 68, 69, 70, 71, 72] (by decide +kernel) (by decide +kernel)
set_option maxRecDepth 20000 in
theorem gX10_line_X5_unitsIn : GoodIn wsX10_line (wsV RX10 184 RX5 yX5_unitsIn wsX5_unitsIn) := goodIn_app (goodIn_of _ (by decide +kernel)) ggX10_line_X5_unitsIn
set_option maxRecDepth 20000 in
theorem ggX10_line_X5_signsIn : GoodIn wsX10_line wsX5_signsIn := goodIn_r _ [24, 25, 14, 20, 15, 4, 5, 6, 7, 8, 9, 26, 27, 28, 29, 30, 31, 32, 33, 34, 35, 36, 37, 38, 39, 40, 41, 42, 43, 44, 45, 46, 67, 68, 69, 70, 71, 72, 73, 74, 75, 76, 77, 78, 79] (by decide +kernel) (by decide +kernel)
set_option maxRecDepth 20000 in
theorem gX10_line_X5_signsIn : GoodIn wsX10_line (wsV RX10 187 RX5 yX5_signsIn wsX5_signsIn) := goodIn_app (goodIn_of _ (by decide +kernel)) ggX10_line_X5_signsIn
set_option maxRecDepth 20000 in
theorem ggX10_line_X2_tintOf : GoodIn wsX10_line wsX2_tintOf := goodIn_r _ [51, 52, 53, 80, 81] (by decide +kernel) (by decide +kernel)
set_option maxRecDepth 20000 in
theorem gX10_line_X2_tintOf : GoodIn wsX10_line (wsV RX10 190 RX2 yX2_tintOf wsX2_tintOf) := goodIn_app (goodIn_of _ (by decide +kernel)) ggX10_line_X2_tintOf
set_option maxRecDepth 20000 in
theorem ggX10_line_X2_pageOf : GoodIn wsX10_line wsX2_pageOf := goodIn_r _ [57, 52, 80, 81] (by decide +kernel) (by decide +kernel)
set_option maxRecDepth 20000 in
theorem gX10_line_X2_pageOf : GoodIn wsX10_line (wsV RX10 193 RX2 yX2_pageOf wsX2_pageOf) := goodIn_app (goodIn_of _ (by decide +kernel)) ggX10_line_X2_pageOf
theorem dX10_line_0 : decode cX10_line 0 = .ok (.aload_n 0, 1) := by decide +kernel
theorem dX10_line_1 : decode cX10_line 1 = .ok (.getfield 40, 3) := by decide +kernel
theorem dX10_line_4 : decode cX10_line 4 = .ok (.iload_n 1, 1) := by decide +kernel
theorem dX10_line_5 : decode cX10_line 5 = .ok (.invokevirtual 180, 3) := by decide +kernel
theorem dX10_line_8 : decode cX10_line 8 = .ok (.ifCond .ne 5, 3) := by decide +kernel
theorem dX10_line_11 : decode cX10_line 11 = .ok (.iconst (-1), 1) := by decide +kernel
theorem dX10_line_12 : decode cX10_line 12 = .ok (.ireturn, 1) := by decide +kernel
theorem dX10_line_13 : decode cX10_line 13 = .ok (.iload_n 2, 1) := by decide +kernel
theorem dX10_line_14 : decode cX10_line 14 = .ok (.tableswitch 79 0 4 #[34, 43, 52, 61, 70], 34) := by decide +kernel
theorem dX10_line_48 : decode cX10_line 48 = .ok (.aload_n 0, 1) := by decide +kernel
theorem dX10_line_49 : decode cX10_line 49 = .ok (.getfield 40, 3) := by decide +kernel
theorem dX10_line_52 : decode cX10_line 52 = .ok (.iload_n 1, 1) := by decide +kernel
theorem dX10_line_53 : decode cX10_line 53 = .ok (.invokevirtual 181, 3) := by decide +kernel
theorem dX10_line_56 : decode cX10_line 56 = .ok (.ireturn, 1) := by decide +kernel
theorem dX10_line_57 : decode cX10_line 57 = .ok (.aload_n 0, 1) := by decide +kernel
theorem dX10_line_58 : decode cX10_line 58 = .ok (.getfield 40, 3) := by decide +kernel
theorem dX10_line_61 : decode cX10_line 61 = .ok (.iload_n 1, 1) := by decide +kernel
theorem dX10_line_62 : decode cX10_line 62 = .ok (.invokevirtual 184, 3) := by decide +kernel
theorem dX10_line_65 : decode cX10_line 65 = .ok (.ireturn, 1) := by decide +kernel
theorem dX10_line_66 : decode cX10_line 66 = .ok (.aload_n 0, 1) := by decide +kernel
theorem dX10_line_67 : decode cX10_line 67 = .ok (.getfield 40, 3) := by decide +kernel
theorem dX10_line_70 : decode cX10_line 70 = .ok (.iload_n 1, 1) := by decide +kernel
theorem dX10_line_71 : decode cX10_line 71 = .ok (.invokevirtual 187, 3) := by decide +kernel
theorem dX10_line_74 : decode cX10_line 74 = .ok (.ireturn, 1) := by decide +kernel
theorem dX10_line_75 : decode cX10_line 75 = .ok (.aload_n 0, 1) := by decide +kernel
theorem dX10_line_76 : decode cX10_line 76 = .ok (.getfield 60, 3) := by decide +kernel
theorem dX10_line_79 : decode cX10_line 79 = .ok (.iload_n 1, 1) := by decide +kernel
theorem dX10_line_80 : decode cX10_line 80 = .ok (.invokevirtual 190, 3) := by decide +kernel
theorem dX10_line_83 : decode cX10_line 83 = .ok (.ireturn, 1) := by decide +kernel
theorem dX10_line_84 : decode cX10_line 84 = .ok (.aload_n 0, 1) := by decide +kernel
theorem dX10_line_85 : decode cX10_line 85 = .ok (.getfield 60, 3) := by decide +kernel
theorem dX10_line_88 : decode cX10_line 88 = .ok (.iload_n 1, 1) := by decide +kernel
theorem dX10_line_89 : decode cX10_line 89 = .ok (.invokevirtual 193, 3) := by decide +kernel
theorem dX10_line_92 : decode cX10_line 92 = .ok (.ireturn, 1) := by decide +kernel
theorem dX10_line_93 : decode cX10_line 93 = .ok (.iconst (-1), 1) := by decide +kernel
theorem dX10_line_94 : decode cX10_line 94 = .ok (.ireturn, 1) := by decide +kernel
set_option maxRecDepth 20000 in
theorem ggX10_sign_X5_signAt : GoodIn wsX10_sign wsX5_signAt := goodIn_r _ [6, 7, 8, 9, 10, 11, 12, 5, 13, 14, 15, 16, 17, 18, 19, 20, 21, 22, 23, 24, 25, 26, 27, 28, 29, 30, 31, 32, 33, 34, 35, 36, 37, 38, 39, 40, 41, 51, 52, 53, 54, 55, 56, 57, 58, 59, 60, 61, 62, 63] (by decide +kernel) (by decide +kernel)
set_option maxRecDepth 20000 in
theorem gX10_sign_X5_signAt : GoodIn wsX10_sign (wsV RX10 196 RX5 yX5_signAt wsX5_signAt) := goodIn_app (goodIn_of _ (by decide +kernel)) ggX10_sign_X5_signAt
theorem dX10_sign_0 : decode cX10_sign 0 = .ok (.aload_n 0, 1) := by decide +kernel
theorem dX10_sign_1 : decode cX10_sign 1 = .ok (.getfield 40, 3) := by decide +kernel
theorem dX10_sign_4 : decode cX10_sign 4 = .ok (.iload_n 1, 1) := by decide +kernel
theorem dX10_sign_5 : decode cX10_sign 5 = .ok (.iload_n 2, 1) := by decide +kernel
theorem dX10_sign_6 : decode cX10_sign 6 = .ok (.invokevirtual 196, 3) := by decide +kernel
theorem dX10_sign_9 : decode cX10_sign 9 = .ok (.ireturn, 1) := by decide +kernel
set_option maxRecDepth 20000 in
theorem ggX10_rivers_X5_isThere : GoodIn wsX10_rivers wsX5_isThere := goodIn_r _ [6, 7, 59, 60, 61, 62, 63, 64] (by decide +kernel) (by decide +kernel)
set_option maxRecDepth 20000 in
theorem gX10_rivers_X5_isThere : GoodIn wsX10_rivers (wsV RX10 176 RX5 yX5_isThere wsX5_isThere) := goodIn_app (goodIn_of _ (by decide +kernel)) ggX10_rivers_X5_isThere
set_option maxRecDepth 20000 in
theorem ggX10_rivers_X5_riversAt : GoodIn wsX10_rivers wsX5_riversAt := goodIn_r _ [11, 12, 13, 14, 15, 5, 16, 17, 18, 19, 20, 21, 22, 23, 7, 24, 25, 26, 27, 28, 29, 30, 31, 32, 33, 34, 35, 36, 37, 38, 39, 40, 41, 42, 43, 44, 45, 46, 47, 48, 49, 59, 60, 61, 62, 63, 64, 65, 66, 67, 68, 69, 70, 71] (by decide +kernel) (by decide +kernel)
set_option maxRecDepth 20000 in
theorem gX10_rivers_X5_riversAt : GoodIn wsX10_rivers (wsV RX10 200 RX5 yX5_riversAt wsX5_riversAt) := goodIn_app (goodIn_of _ (by decide +kernel)) ggX10_rivers_X5_riversAt
theorem dX10_rivers_0 : decode cX10_rivers 0 = .ok (.aload_n 0, 1) := by decide +kernel
theorem dX10_rivers_1 : decode cX10_rivers 1 = .ok (.getfield 40, 3) := by decide +kernel
theorem dX10_rivers_4 : decode cX10_rivers 4 = .ok (.invokevirtual 176, 3) := by decide +kernel
theorem dX10_rivers_7 : decode cX10_rivers 7 = .ok (.ifCond .eq 8, 3) := by decide +kernel
theorem dX10_rivers_10 : decode cX10_rivers 10 = .ok (.iload_n 1, 1) := by decide +kernel
theorem dX10_rivers_11 : decode cX10_rivers 11 = .ok (.iconst 1, 1) := by decide +kernel
theorem dX10_rivers_12 : decode cX10_rivers 12 = .ok (.if_icmp .ge 5, 3) := by decide +kernel
theorem dX10_rivers_15 : decode cX10_rivers 15 = .ok (.iconst (-1), 1) := by decide +kernel
theorem dX10_rivers_16 : decode cX10_rivers 16 = .ok (.ireturn, 1) := by decide +kernel
theorem dX10_rivers_17 : decode cX10_rivers 17 = .ok (.iconst 0, 1) := by decide +kernel
theorem dX10_rivers_18 : decode cX10_rivers 18 = .ok (.istore_n 2, 1) := by decide +kernel
theorem dX10_rivers_19 : decode cX10_rivers 19 = .ok (.iconst 0, 1) := by decide +kernel
theorem dX10_rivers_20 : decode cX10_rivers 20 = .ok (.istore_n 3, 1) := by decide +kernel
theorem dX10_rivers_21 : decode cX10_rivers 21 = .ok (.iload_n 3, 1) := by decide +kernel
theorem dX10_rivers_22 : decode cX10_rivers 22 = .ok (.bipush 60, 2) := by decide +kernel
theorem dX10_rivers_24 : decode cX10_rivers 24 = .ok (.if_icmp .ge 21, 3) := by decide +kernel
theorem dX10_rivers_27 : decode cX10_rivers 27 = .ok (.iload_n 2, 1) := by decide +kernel
theorem dX10_rivers_28 : decode cX10_rivers 28 = .ok (.aload_n 0, 1) := by decide +kernel
theorem dX10_rivers_29 : decode cX10_rivers 29 = .ok (.getfield 40, 3) := by decide +kernel
theorem dX10_rivers_32 : decode cX10_rivers 32 = .ok (.iload_n 3, 1) := by decide +kernel
theorem dX10_rivers_33 : decode cX10_rivers 33 = .ok (.iload_n 1, 1) := by decide +kernel
theorem dX10_rivers_34 : decode cX10_rivers 34 = .ok (.invokevirtual 200, 3) := by decide +kernel
theorem dX10_rivers_37 : decode cX10_rivers 37 = .ok (.iadd, 1) := by decide +kernel
theorem dX10_rivers_38 : decode cX10_rivers 38 = .ok (.istore_n 2, 1) := by decide +kernel
theorem dX10_rivers_39 : decode cX10_rivers 39 = .ok (.iinc 3 1, 3) := by decide +kernel
theorem dX10_rivers_42 : decode cX10_rivers 42 = .ok (.goto (-21), 3) := by decide +kernel
theorem dX10_rivers_45 : decode cX10_rivers 45 = .ok (.iload_n 2, 1) := by decide +kernel
theorem dX10_rivers_46 : decode cX10_rivers 46 = .ok (.ireturn, 1) := by decide +kernel
set_option maxRecDepth 20000 in
theorem ggX10_page_X2_change : GoodIn wsX10_page wsX2_change := goodIn_r _ [6, 7, 8, 9, 10, 11, 21, 22] (by decide +kernel) (by decide +kernel)
set_option maxRecDepth 20000 in
theorem gX10_page_X2_change : GoodIn wsX10_page (wsV RX10 203 RX2 yX2_change wsX2_change) := goodIn_app (goodIn_of _ (by decide +kernel)) ggX10_page_X2_change
theorem dX10_page_0 : decode cX10_page 0 = .ok (.aload_n 0, 1) := by decide +kernel
theorem dX10_page_1 : decode cX10_page 1 = .ok (.getfield 60, 3) := by decide +kernel
theorem dX10_page_4 : decode cX10_page 4 = .ok (.iload_n 1, 1) := by decide +kernel
theorem dX10_page_5 : decode cX10_page 5 = .ok (.iload_n 2, 1) := by decide +kernel
theorem dX10_page_6 : decode cX10_page 6 = .ok (.invokevirtual 203, 3) := by decide +kernel
theorem dX10_page_9 : decode cX10_page 9 = .ok (.ireturn, 1) := by decide +kernel
set_option maxRecDepth 20000 in
theorem ggX10_mark_X5_isOfText : GoodIn wsX10_mark wsX5_isOfText := goodIn_r _ [9, 10, 11, 48, 49, 50, 51, 52, 53] (by decide +kernel) (by decide +kernel)
set_option maxRecDepth 20000 in
theorem gX10_mark_X5_isOfText : GoodIn wsX10_mark (wsV RX10 206 RX5 yX5_isOfText wsX5_isOfText) := goodIn_app (goodIn_of _ (by decide +kernel)) ggX10_mark_X5_isOfText
set_option maxRecDepth 20000 in
theorem ggX10_mark_X9_has : GoodIn wsX10_mark wsX9_has := goodIn_r _ [16, 17, 54, 55, 56, 57] (by decide +kernel) (by decide +kernel)
set_option maxRecDepth 20000 in
theorem gX10_mark_X9_has : GoodIn wsX10_mark (wsV RX10 131 RX9 yX9_has wsX9_has) := goodIn_app (goodIn_of _ (by decide +kernel)) ggX10_mark_X9_has
set_option maxRecDepth 20000 in
theorem ggX10_mark_X5_lineOf : GoodIn wsX10_mark wsX5_lineOf := goodIn_r _ [21, 22, 23, 24, 48, 49, 50, 51, 52, 53] (by decide +kernel) (by decide +kernel)
set_option maxRecDepth 20000 in
theorem gX10_mark_X5_lineOf : GoodIn wsX10_mark (wsV RX10 209 RX5 yX5_lineOf wsX5_lineOf) := goodIn_app (goodIn_of _ (by decide +kernel)) ggX10_mark_X5_lineOf
set_option maxRecDepth 20000 in
theorem ggX10_mark_X2_pageOf : GoodIn wsX10_mark wsX2_pageOf := goodIn_r _ [29, 30, 58, 59] (by decide +kernel) (by decide +kernel)
set_option maxRecDepth 20000 in
theorem gX10_mark_X2_pageOf : GoodIn wsX10_mark (wsV RX10 193 RX2 yX2_pageOf wsX2_pageOf) := goodIn_app (goodIn_of _ (by decide +kernel)) ggX10_mark_X2_pageOf
set_option maxRecDepth 20000 in
theorem ggX10_mark_X0_add : GoodIn wsX10_mark wsX0_add := goodIn_r _ [35, 36, 37, 38, 60, 61, 62] (by decide +kernel) (by decide +kernel)
set_option maxRecDepth 20000 in
theorem gX10_mark_X0_add : GoodIn wsX10_mark (wsV RX10 212 RX0 yX0_add wsX0_add) := goodIn_app (goodIn_of _ (by decide +kernel)) ggX10_mark_X0_add
theorem dX10_mark_0 : decode cX10_mark 0 = .ok (.aload_n 0, 1) := by decide +kernel
theorem dX10_mark_1 : decode cX10_mark 1 = .ok (.getfield 40, 3) := by decide +kernel
theorem dX10_mark_4 : decode cX10_mark 4 = .ok (.invokevirtual 206, 3) := by decide +kernel
theorem dX10_mark_7 : decode cX10_mark 7 = .ok (.ifCond .eq 14, 3) := by decide +kernel
theorem dX10_mark_10 : decode cX10_mark 10 = .ok (.aload_n 0, 1) := by decide +kernel
theorem dX10_mark_11 : decode cX10_mark 11 = .ok (.getfield 26, 3) := by decide +kernel
theorem dX10_mark_14 : decode cX10_mark 14 = .ok (.iload_n 1, 1) := by decide +kernel
theorem dX10_mark_15 : decode cX10_mark 15 = .ok (.invokevirtual 131, 3) := by decide +kernel
theorem dX10_mark_18 : decode cX10_mark 18 = .ok (.ifCond .ne 5, 3) := by decide +kernel
theorem dX10_mark_21 : decode cX10_mark 21 = .ok (.iconst (-1), 1) := by decide +kernel
theorem dX10_mark_22 : decode cX10_mark 22 = .ok (.ireturn, 1) := by decide +kernel
theorem dX10_mark_23 : decode cX10_mark 23 = .ok (.aload_n 0, 1) := by decide +kernel
theorem dX10_mark_24 : decode cX10_mark 24 = .ok (.getfield 67, 3) := by decide +kernel
theorem dX10_mark_27 : decode cX10_mark 27 = .ok (.iload_n 1, 1) := by decide +kernel
theorem dX10_mark_28 : decode cX10_mark 28 = .ok (.aload_n 0, 1) := by decide +kernel
theorem dX10_mark_29 : decode cX10_mark 29 = .ok (.getfield 60, 3) := by decide +kernel
theorem dX10_mark_32 : decode cX10_mark 32 = .ok (.aload_n 0, 1) := by decide +kernel
theorem dX10_mark_33 : decode cX10_mark 33 = .ok (.getfield 40, 3) := by decide +kernel
theorem dX10_mark_36 : decode cX10_mark 36 = .ok (.iload_n 1, 1) := by decide +kernel
theorem dX10_mark_37 : decode cX10_mark 37 = .ok (.invokevirtual 209, 3) := by decide +kernel
theorem dX10_mark_40 : decode cX10_mark 40 = .ok (.invokevirtual 193, 3) := by decide +kernel
theorem dX10_mark_43 : decode cX10_mark 43 = .ok (.invokevirtual 212, 3) := by decide +kernel
theorem dX10_mark_46 : decode cX10_mark 46 = .ok (.ireturn, 1) := by decide +kernel
set_option maxRecDepth 20000 in
theorem ggX10_marked_X0_has : GoodIn wsX10_marked wsX0_has := goodIn_r _ [6, 7, 55, 56, 57] (by decide +kernel) (by decide +kernel)
set_option maxRecDepth 20000 in
theorem gX10_marked_X0_has : GoodIn wsX10_marked (wsV RX10 215 RX0 yX0_has wsX0_has) := goodIn_app (goodIn_of _ (by decide +kernel)) ggX10_marked_X0_has
set_option maxRecDepth 20000 in
theorem ggX10_marked_X0_unitOf : GoodIn wsX10_marked wsX0_unitOf := goodIn_r _ [11, 12, 13, 3, 4, 5, 6, 7, 55, 56, 57] (by decide +kernel) (by decide +kernel)
set_option maxRecDepth 20000 in
theorem gX10_marked_X0_unitOf : GoodIn wsX10_marked (wsV RX10 216 RX0 yX0_unitOf wsX0_unitOf) := goodIn_app (goodIn_of _ (by decide +kernel)) ggX10_marked_X0_unitOf
set_option maxRecDepth 20000 in
theorem ggX10_marked_X0_pageOf : GoodIn wsX10_marked wsX0_pageOf := goodIn_r _ [17, 18, 13, 3, 4, 5, 6, 7, 55, 56, 57] (by decide +kernel) (by decide +kernel)
set_option maxRecDepth 20000 in
theorem gX10_marked_X0_pageOf : GoodIn wsX10_marked (wsV RX10 219 RX0 yX0_pageOf wsX0_pageOf) := goodIn_app (goodIn_of _ (by decide +kernel)) ggX10_marked_X0_pageOf
set_option maxRecDepth 20000 in
theorem ggX10_marked_X10_shiftOf : GoodIn wsX10_marked wsX10_shiftOf := goodIn_r _ [23, 24, 25, 1, 26, 27, 28, 29, 30, 31, 32, 8, 9, 10, 5, 11, 12, 13, 3, 4, 6, 7, 33, 34, 35, 36, 37, 38, 39, 40, 41, 42, 43, 44, 45, 14, 15, 16, 17, 18, 46, 47, 48, 49, 50, 51, 52, 53, 54, 58, 59, 60, 61, 62, 63, 55, 56, 57, 64, 65] (by decide +kernel) (by decide +kernel)
set_option maxRecDepth 20000 in
theorem gX10_marked_X10_shiftOf : GoodIn wsX10_marked (wsV RX10 220 RX10 yX10_shiftOf wsX10_shiftOf) := goodIn_app (goodIn_of _ (by decide +kernel)) ggX10_marked_X10_shiftOf
theorem dX10_marked_0 : decode cX10_marked 0 = .ok (.aload_n 0, 1) := by decide +kernel
theorem dX10_marked_1 : decode cX10_marked 1 = .ok (.getfield 67, 3) := by decide +kernel
theorem dX10_marked_4 : decode cX10_marked 4 = .ok (.iload_n 1, 1) := by decide +kernel
theorem dX10_marked_5 : decode cX10_marked 5 = .ok (.invokevirtual 215, 3) := by decide +kernel
theorem dX10_marked_8 : decode cX10_marked 8 = .ok (.ifCond .ne 5, 3) := by decide +kernel
theorem dX10_marked_11 : decode cX10_marked 11 = .ok (.iconst (-1), 1) := by decide +kernel
theorem dX10_marked_12 : decode cX10_marked 12 = .ok (.ireturn, 1) := by decide +kernel
theorem dX10_marked_13 : decode cX10_marked 13 = .ok (.iload_n 2, 1) := by decide +kernel
theorem dX10_marked_14 : decode cX10_marked 14 = .ok (.tableswitch 50 0 2 #[26, 35, 44], 26) := by decide +kernel
theorem dX10_marked_40 : decode cX10_marked 40 = .ok (.aload_n 0, 1) := by decide +kernel
theorem dX10_marked_41 : decode cX10_marked 41 = .ok (.getfield 67, 3) := by decide +kernel
theorem dX10_marked_44 : decode cX10_marked 44 = .ok (.iload_n 1, 1) := by decide +kernel
theorem dX10_marked_45 : decode cX10_marked 45 = .ok (.invokevirtual 216, 3) := by decide +kernel
theorem dX10_marked_48 : decode cX10_marked 48 = .ok (.ireturn, 1) := by decide +kernel
theorem dX10_marked_49 : decode cX10_marked 49 = .ok (.aload_n 0, 1) := by decide +kernel
theorem dX10_marked_50 : decode cX10_marked 50 = .ok (.getfield 67, 3) := by decide +kernel
theorem dX10_marked_53 : decode cX10_marked 53 = .ok (.iload_n 1, 1) := by decide +kernel
theorem dX10_marked_54 : decode cX10_marked 54 = .ok (.invokevirtual 219, 3) := by decide +kernel
theorem dX10_marked_57 : decode cX10_marked 57 = .ok (.ireturn, 1) := by decide +kernel
theorem dX10_marked_58 : decode cX10_marked 58 = .ok (.aload_n 0, 1) := by decide +kernel
theorem dX10_marked_59 : decode cX10_marked 59 = .ok (.iload_n 1, 1) := by decide +kernel
theorem dX10_marked_60 : decode cX10_marked 60 = .ok (.invokevirtual 220, 3) := by decide +kernel
theorem dX10_marked_63 : decode cX10_marked 63 = .ok (.ireturn, 1) := by decide +kernel
theorem dX10_marked_64 : decode cX10_marked 64 = .ok (.iconst (-1), 1) := by decide +kernel
theorem dX10_marked_65 : decode cX10_marked 65 = .ok (.ireturn, 1) := by decide +kernel
set_option maxRecDepth 20000 in
theorem ggX10_test_X8_begin : GoodIn wsX10_test wsX8_begin := goodIn_r _ [6, 7, 8, 9, 10, 11, 12, 13, 14, 5, 15, 16, 17, 18, 19, 20, 21, 22, 23, 24, 25, 26, 27, 28, 29, 30, 31, 32, 33, 34, 35, 36, 37, 38, 39, 49, 50, 51, 52, 53, 54, 55, 56, 57] (by decide +kernel) (by decide +kernel)
set_option maxRecDepth 20000 in
theorem gX10_test_X8_begin : GoodIn wsX10_test (wsV RX10 223 RX8 yX8_begin wsX8_begin) := goodIn_app (goodIn_of _ (by decide +kernel)) ggX10_test_X8_begin
theorem dX10_test_0 : decode cX10_test 0 = .ok (.aload_n 0, 1) := by decide +kernel
theorem dX10_test_1 : decode cX10_test 1 = .ok (.getfield 74, 3) := by decide +kernel
theorem dX10_test_4 : decode cX10_test 4 = .ok (.iload_n 1, 1) := by decide +kernel
theorem dX10_test_5 : decode cX10_test 5 = .ok (.iload_n 2, 1) := by decide +kernel
theorem dX10_test_6 : decode cX10_test 6 = .ok (.iload_n 3, 1) := by decide +kernel
theorem dX10_test_7 : decode cX10_test 7 = .ok (.invokevirtual 223, 3) := by decide +kernel
theorem dX10_test_10 : decode cX10_test 10 = .ok (.ireturn, 1) := by decide +kernel
set_option maxRecDepth 20000 in
theorem ggX10_tested_X8_tell : GoodIn wsX10_tested wsX8_tell := goodIn_r _ [6, 7, 8, 9, 10, 11, 12, 13, 14, 15, 5, 16, 17, 18, 19, 20, 21, 22, 32, 33, 34, 35, 36, 37, 38, 39, 40] (by decide +kernel) (by decide +kernel)
set_option maxRecDepth 20000 in
theorem gX10_tested_X8_tell : GoodIn wsX10_tested (wsV RX10 226 RX8 yX8_tell wsX8_tell) := goodIn_app (goodIn_of _ (by decide +kernel)) ggX10_tested_X8_tell
theorem dX10_tested_0 : decode cX10_tested 0 = .ok (.aload_n 0, 1) := by decide +kernel
theorem dX10_tested_1 : decode cX10_tested 1 = .ok (.getfield 74, 3) := by decide +kernel
theorem dX10_tested_4 : decode cX10_tested 4 = .ok (.iload_n 1, 1) := by decide +kernel
theorem dX10_tested_5 : decode cX10_tested 5 = .ok (.invokevirtual 226, 3) := by decide +kernel
theorem dX10_tested_8 : decode cX10_tested 8 = .ok (.ireturn, 1) := by decide +kernel
set_option maxRecDepth 20000 in
theorem ggX10_answer_X8_hear : GoodIn wsX10_answer wsX8_hear := goodIn_r _ [6, 7, 8, 9, 10, 11, 12, 5, 13, 14, 15, 16, 17, 18, 19, 20, 21, 22, 23, 24, 25, 26, 27, 28, 29, 30, 31, 32, 33, 34, 35, 36, 37, 38, 39, 40, 41, 42, 43, 44, 45, 46, 56, 57, 58, 59, 60, 61, 62, 63, 64] (by decide +kernel) (by decide +kernel)
set_option maxRecDepth 20000 in
theorem gX10_answer_X8_hear : GoodIn wsX10_answer (wsV RX10 229 RX8 yX8_hear wsX8_hear) := goodIn_app (goodIn_of _ (by decide +kernel)) ggX10_answer_X8_hear
theorem dX10_answer_0 : decode cX10_answer 0 = .ok (.aload_n 0, 1) := by decide +kernel
theorem dX10_answer_1 : decode cX10_answer 1 = .ok (.getfield 74, 3) := by decide +kernel
theorem dX10_answer_4 : decode cX10_answer 4 = .ok (.iload_n 1, 1) := by decide +kernel
theorem dX10_answer_5 : decode cX10_answer 5 = .ok (.invokevirtual 229, 3) := by decide +kernel
theorem dX10_answer_8 : decode cX10_answer 8 = .ok (.ireturn, 1) := by decide +kernel
set_option maxRecDepth 20000 in
theorem ggX10_use_X8_haveBegun : GoodIn wsX10_use wsX8_haveBegun := goodIn_r _ [7, 8, 38, 39, 40, 41, 42, 43, 44, 45, 46] (by decide +kernel) (by decide +kernel)
set_option maxRecDepth 20000 in
theorem gX10_use_X8_haveBegun : GoodIn wsX10_use (wsV RX10 233 RX8 yX8_haveBegun wsX8_haveBegun) := goodIn_app (goodIn_of _ (by decide +kernel)) ggX10_use_X8_haveBegun
set_option maxRecDepth 20000 in
theorem ggX10_use_X8_bestLongest : GoodIn wsX10_use wsX8_bestLongest := goodIn_r _ [12, 13, 38, 39, 40, 41, 42, 43, 44, 45, 46] (by decide +kernel) (by decide +kernel)
set_option maxRecDepth 20000 in
theorem gX10_use_X8_bestLongest : GoodIn wsX10_use (wsV RX10 236 RX8 yX8_bestLongest wsX8_bestLongest) := goodIn_app (goodIn_of _ (by decide +kernel)) ggX10_use_X8_bestLongest
set_option maxRecDepth 20000 in
theorem ggX10_use_X8_bestSpread : GoodIn wsX10_use wsX8_bestSpread := goodIn_r _ [17, 18, 38, 39, 40, 41, 42, 43, 44, 45, 46] (by decide +kernel) (by decide +kernel)
set_option maxRecDepth 20000 in
theorem gX10_use_X8_bestSpread : GoodIn wsX10_use (wsV RX10 239 RX8 yX8_bestSpread wsX8_bestSpread) := goodIn_app (goodIn_of _ (by decide +kernel)) ggX10_use_X8_bestSpread
set_option maxRecDepth 20000 in
theorem ggX10_use_X1_changeLine : GoodIn wsX10_use wsX1_changeLine := goodIn_r _ [23, 24, 25, 26, 27, 28, 47, 48, 49, 50, 51, 52, 53] (by decide +kernel) (by decide +kernel)
set_option maxRecDepth 20000 in
theorem gX10_use_X1_changeLine : GoodIn wsX10_use (wsV RX10 144 RX1 yX1_changeLine wsX1_changeLine) := goodIn_app (goodIn_of _ (by decide +kernel)) ggX10_use_X1_changeLine
theorem dX10_use_0 : decode cX10_use 0 = .ok (.aload_n 0, 1) := by decide +kernel
theorem dX10_use_1 : decode cX10_use 1 = .ok (.getfield 74, 3) := by decide +kernel
theorem dX10_use_4 : decode cX10_use 4 = .ok (.invokevirtual 233, 3) := by decide +kernel
theorem dX10_use_7 : decode cX10_use 7 = .ok (.ifCond .eq 31, 3) := by decide +kernel
theorem dX10_use_10 : decode cX10_use 10 = .ok (.aload_n 0, 1) := by decide +kernel
theorem dX10_use_11 : decode cX10_use 11 = .ok (.getfield 33, 3) := by decide +kernel
theorem dX10_use_14 : decode cX10_use 14 = .ok (.aload_n 0, 1) := by decide +kernel
theorem dX10_use_15 : decode cX10_use 15 = .ok (.getfield 74, 3) := by decide +kernel
theorem dX10_use_18 : decode cX10_use 18 = .ok (.invokevirtual 236, 3) := by decide +kernel
theorem dX10_use_21 : decode cX10_use 21 = .ok (.aload_n 0, 1) := by decide +kernel
theorem dX10_use_22 : decode cX10_use 22 = .ok (.getfield 74, 3) := by decide +kernel
theorem dX10_use_25 : decode cX10_use 25 = .ok (.invokevirtual 239, 3) := by decide +kernel
theorem dX10_use_28 : decode cX10_use 28 = .ok (.invokevirtual 144, 3) := by decide +kernel
theorem dX10_use_31 : decode cX10_use 31 = .ok (.ifCond .eq 7, 3) := by decide +kernel
theorem dX10_use_34 : decode cX10_use 34 = .ok (.iconst 1, 1) := by decide +kernel
theorem dX10_use_35 : decode cX10_use 35 = .ok (.goto 4, 3) := by decide +kernel
theorem dX10_use_38 : decode cX10_use 38 = .ok (.iconst 0, 1) := by decide +kernel
theorem dX10_use_39 : decode cX10_use 39 = .ok (.ireturn, 1) := by decide +kernel
set_option maxRecDepth 20000 in
theorem ggX10_readTape_X3_read : GoodIn wsX10_readTape wsX3_read := goodIn_r _ [7, 8, 9, 10, 11, 12, 13, 14, 15, 16, 17, 18, 19, 20, 21, 22, 23, 24, 25, 26, 27, 28, 29, 30, 6, 31, 32, 33, 34, 35, 36, 37, 38, 39, 40, 41, 42, 43, 44, 45, 46, 47, 48, 49, 50, 51, 52, 53, 54, 55, 56, 57, 71, 72, 73, 74, 75, 76, 77, 78, 79] (by decide +kernel) (by decide +kernel)
set_option maxRecDepth 20000 in
theorem gX10_readTape_X3_read : GoodIn wsX10_readTape (wsV RX10 242 RX3 yX3_read wsX3_read) := goodIn_app (goodIn_of _ (by decide +kernel)) ggX10_readTape_X3_read
set_option maxRecDepth 20000 in
theorem ggX10_readTape_X7_clear : GoodIn wsX10_readTape wsX7_clear := goodIn_r _ [61, 22, 78, 79] (by decide +kernel) (by decide +kernel)
set_option maxRecDepth 20000 in
theorem gX10_readTape_X7_clear : GoodIn wsX10_readTape (wsV RX10 117 RX7 yX7_clear wsX7_clear) := goodIn_app (goodIn_of _ (by decide +kernel)) ggX10_readTape_X7_clear
theorem dX10_readTape_0 : decode cX10_readTape 0 = .ok (.aload_n 0, 1) := by decide +kernel
theorem dX10_readTape_1 : decode cX10_readTape 1 = .ok (.getfield 19, 3) := by decide +kernel
theorem dX10_readTape_4 : decode cX10_readTape 4 = .ok (.aload_n 0, 1) := by decide +kernel
theorem dX10_readTape_5 : decode cX10_readTape 5 = .ok (.getfield 10, 3) := by decide +kernel
theorem dX10_readTape_8 : decode cX10_readTape 8 = .ok (.invokevirtual 242, 3) := by decide +kernel
theorem dX10_readTape_11 : decode cX10_readTape 11 = .ok (.aload_n 0, 1) := by decide +kernel
theorem dX10_readTape_12 : decode cX10_readTape 12 = .ok (.getfield 10, 3) := by decide +kernel
theorem dX10_readTape_15 : decode cX10_readTape 15 = .ok (.invokevirtual 117, 3) := by decide +kernel
theorem dX10_readTape_18 : decode cX10_readTape 18 = .ok (.return_, 1) := by decide +kernel
set_option maxRecDepth 20000 in
theorem ggX10_shiftOf_X5_isOfText : GoodIn wsX10_shiftOf wsX5_isOfText := goodIn_r _ [8, 9, 10, 49, 50, 51, 52, 53, 54] (by decide +kernel) (by decide +kernel)
set_option maxRecDepth 20000 in
theorem gX10_shiftOf_X5_isOfText : GoodIn wsX10_shiftOf (wsV RX10 206 RX5 yX5_isOfText wsX5_isOfText) := goodIn_app (goodIn_of _ (by decide +kernel)) ggX10_shiftOf_X5_isOfText
set_option maxRecDepth 20000 in
theorem ggX10_shiftOf_X0_unitOf : GoodIn wsX10_shiftOf wsX0_unitOf := goodIn_r _ [15, 16, 17, 18, 19, 14, 20, 21, 55, 56, 57] (by decide +kernel) (by decide +kernel)
set_option maxRecDepth 20000 in
theorem gX10_shiftOf_X0_unitOf : GoodIn wsX10_shiftOf (wsV RX10 216 RX0 yX0_unitOf wsX0_unitOf) := goodIn_app (goodIn_of _ (by decide +kernel)) ggX10_shiftOf_X0_unitOf
set_option maxRecDepth 20000 in
theorem ggX10_shiftOf_X5_lineOf : GoodIn wsX10_shiftOf wsX5_lineOf := goodIn_r _ [25, 26, 27, 28, 49, 50, 51, 52, 53, 54] (by decide +kernel) (by decide +kernel)
set_option maxRecDepth 20000 in
theorem gX10_shiftOf_X5_lineOf : GoodIn wsX10_shiftOf (wsV RX10 209 RX5 yX5_lineOf wsX5_lineOf) := goodIn_app (goodIn_of _ (by decide +kernel)) ggX10_shiftOf_X5_lineOf
set_option maxRecDepth 20000 in
theorem ggX10_shiftOf_X2_pageOf : GoodIn wsX10_shiftOf wsX2_pageOf := goodIn_r _ [33, 34, 58, 59] (by decide +kernel) (by decide +kernel)
set_option maxRecDepth 20000 in
theorem gX10_shiftOf_X2_pageOf : GoodIn wsX10_shiftOf (wsV RX10 193 RX2 yX2_pageOf wsX2_pageOf) := goodIn_app (goodIn_of _ (by decide +kernel)) ggX10_shiftOf_X2_pageOf
set_option maxRecDepth 20000 in
theorem ggX10_shiftOf_X0_pageOf : GoodIn wsX10_shiftOf wsX0_pageOf := goodIn_r _ [38, 39, 17, 18, 19, 14, 20, 21, 55, 56, 57] (by decide +kernel) (by decide +kernel)
set_option maxRecDepth 20000 in
theorem gX10_shiftOf_X0_pageOf : GoodIn wsX10_shiftOf (wsV RX10 219 RX0 yX0_pageOf wsX0_pageOf) := goodIn_app (goodIn_of _ (by decide +kernel)) ggX10_shiftOf_X0_pageOf
theorem dX10_shiftOf_0 : decode cX10_shiftOf 0 = .ok (.aload_n 0, 1) := by decide +kernel
theorem dX10_shiftOf_1 : decode cX10_shiftOf 1 = .ok (.getfield 40, 3) := by decide +kernel
theorem dX10_shiftOf_4 : decode cX10_shiftOf 4 = .ok (.invokevirtual 206, 3) := by decide +kernel
theorem dX10_shiftOf_7 : decode cX10_shiftOf 7 = .ok (.ifCond .ne 7, 3) := by decide +kernel
theorem dX10_shiftOf_10 : decode cX10_shiftOf 10 = .ok (.sipush (-1000), 3) := by decide +kernel
theorem dX10_shiftOf_13 : decode cX10_shiftOf 13 = .ok (.ireturn, 1) := by decide +kernel
theorem dX10_shiftOf_14 : decode cX10_shiftOf 14 = .ok (.aload_n 0, 1) := by decide +kernel
theorem dX10_shiftOf_15 : decode cX10_shiftOf 15 = .ok (.getfield 60, 3) := by decide +kernel
theorem dX10_shiftOf_18 : decode cX10_shiftOf 18 = .ok (.aload_n 0, 1) := by decide +kernel
theorem dX10_shiftOf_19 : decode cX10_shiftOf 19 = .ok (.getfield 40, 3) := by decide +kernel
theorem dX10_shiftOf_22 : decode cX10_shiftOf 22 = .ok (.aload_n 0, 1) := by decide +kernel
theorem dX10_shiftOf_23 : decode cX10_shiftOf 23 = .ok (.getfield 67, 3) := by decide +kernel
theorem dX10_shiftOf_26 : decode cX10_shiftOf 26 = .ok (.iload_n 1, 1) := by decide +kernel
theorem dX10_shiftOf_27 : decode cX10_shiftOf 27 = .ok (.invokevirtual 216, 3) := by decide +kernel
theorem dX10_shiftOf_30 : decode cX10_shiftOf 30 = .ok (.invokevirtual 209, 3) := by decide +kernel
theorem dX10_shiftOf_33 : decode cX10_shiftOf 33 = .ok (.invokevirtual 193, 3) := by decide +kernel
theorem dX10_shiftOf_36 : decode cX10_shiftOf 36 = .ok (.aload_n 0, 1) := by decide +kernel
theorem dX10_shiftOf_37 : decode cX10_shiftOf 37 = .ok (.getfield 67, 3) := by decide +kernel
theorem dX10_shiftOf_40 : decode cX10_shiftOf 40 = .ok (.iload_n 1, 1) := by decide +kernel
theorem dX10_shiftOf_41 : decode cX10_shiftOf 41 = .ok (.invokevirtual 219, 3) := by decide +kernel
theorem dX10_shiftOf_44 : decode cX10_shiftOf 44 = .ok (.isub, 1) := by decide +kernel
theorem dX10_shiftOf_45 : decode cX10_shiftOf 45 = .ok (.ireturn, 1) := by decide +kernel
theorem dX10_within_0 : decode cX10_within 0 = .ok (.iload_n 0, 1) := by decide +kernel
theorem dX10_within_1 : decode cX10_within 1 = .ok (.iload_n 1, 1) := by decide +kernel
theorem dX10_within_2 : decode cX10_within 2 = .ok (.if_icmp .lt 12, 3) := by decide +kernel
theorem dX10_within_5 : decode cX10_within 5 = .ok (.iload_n 0, 1) := by decide +kernel
theorem dX10_within_6 : decode cX10_within 6 = .ok (.iload_n 2, 1) := by decide +kernel
theorem dX10_within_7 : decode cX10_within 7 = .ok (.if_icmp .gt 7, 3) := by decide +kernel
theorem dX10_within_10 : decode cX10_within 10 = .ok (.iconst 1, 1) := by decide +kernel
theorem dX10_within_11 : decode cX10_within 11 = .ok (.goto 4, 3) := by decide +kernel
theorem dX10_within_14 : decode cX10_within 14 = .ok (.iconst 0, 1) := by decide +kernel
theorem dX10_within_15 : decode cX10_within 15 = .ok (.ireturn, 1) := by decide +kernel
theorem dX10_isLetter_0 : decode cX10_isLetter 0 = .ok (.iload_n 0, 1) := by decide +kernel
theorem dX10_isLetter_1 : decode cX10_isLetter 1 = .ok (.bipush 97, 2) := by decide +kernel
theorem dX10_isLetter_3 : decode cX10_isLetter 3 = .ok (.if_icmp .lt 13, 3) := by decide +kernel
theorem dX10_isLetter_6 : decode cX10_isLetter 6 = .ok (.iload_n 0, 1) := by decide +kernel
theorem dX10_isLetter_7 : decode cX10_isLetter 7 = .ok (.bipush 122, 2) := by decide +kernel
theorem dX10_isLetter_9 : decode cX10_isLetter 9 = .ok (.if_icmp .gt 7, 3) := by decide +kernel
theorem dX10_isLetter_12 : decode cX10_isLetter 12 = .ok (.iconst 1, 1) := by decide +kernel
theorem dX10_isLetter_13 : decode cX10_isLetter 13 = .ok (.goto 4, 3) := by decide +kernel
theorem dX10_isLetter_16 : decode cX10_isLetter 16 = .ok (.iconst 0, 1) := by decide +kernel
theorem dX10_isLetter_17 : decode cX10_isLetter 17 = .ok (.ireturn, 1) := by decide +kernel
end
section
theorem dX11_init_0 : decode cX11_init 0 = .ok (.aload_n 0, 1) := by decide +kernel
theorem dX11_init_1 : decode cX11_init 1 = .ok (.invokespecial 1, 3) := by decide +kernel
theorem dX11_init_4 : decode cX11_init 4 = .ok (.aload_n 0, 1) := by decide +kernel
theorem dX11_init_5 : decode cX11_init 5 = .ok (.bipush 80, 2) := by decide +kernel
theorem dX11_init_7 : decode cX11_init 7 = .ok (.newarray .int, 2) := by decide +kernel
theorem dX11_init_9 : decode cX11_init 9 = .ok (.putfield 7, 3) := by decide +kernel
theorem dX11_init_12 : decode cX11_init 12 = .ok (.aload_n 0, 1) := by decide +kernel
theorem dX11_init_13 : decode cX11_init 13 = .ok (.sipush 1600, 3) := by decide +kernel
theorem dX11_init_16 : decode cX11_init 16 = .ok (.newarray .int, 2) := by decide +kernel
theorem dX11_init_18 : decode cX11_init 18 = .ok (.putfield 13, 3) := by decide +kernel
theorem dX11_init_21 : decode cX11_init 21 = .ok (.aload_n 0, 1) := by decide +kernel
theorem dX11_init_22 : decode cX11_init 22 = .ok (.bipush 80, 2) := by decide +kernel
theorem dX11_init_24 : decode cX11_init 24 = .ok (.newarray .int, 2) := by decide +kernel
theorem dX11_init_26 : decode cX11_init 26 = .ok (.putfield 16, 3) := by decide +kernel
theorem dX11_init_29 : decode cX11_init 29 = .ok (.aload_n 0, 1) := by decide +kernel
theorem dX11_init_30 : decode cX11_init 30 = .ok (.bipush 80, 2) := by decide +kernel
theorem dX11_init_32 : decode cX11_init 32 = .ok (.newarray .int, 2) := by decide +kernel
theorem dX11_init_34 : decode cX11_init 34 = .ok (.putfield 19, 3) := by decide +kernel
theorem dX11_init_37 : decode cX11_init 37 = .ok (.aload_n 0, 1) := by decide +kernel
theorem dX11_init_38 : decode cX11_init 38 = .ok (.sipush 600, 3) := by decide +kernel
theorem dX11_init_41 : decode cX11_init 41 = .ok (.newarray .int, 2) := by decide +kernel
theorem dX11_init_43 : decode cX11_init 43 = .ok (.putfield 22, 3) := by decide +kernel
theorem dX11_init_46 : decode cX11_init 46 = .ok (.aload_n 0, 1) := by decide +kernel
theorem dX11_init_47 : decode cX11_init 47 = .ok (.iconst (-1), 1) := by decide +kernel
theorem dX11_init_48 : decode cX11_init 48 = .ok (.putfield 25, 3) := by decide +kernel
theorem dX11_init_51 : decode cX11_init 51 = .ok (.aload_n 0, 1) := by decide +kernel
theorem dX11_init_52 : decode cX11_init 52 = .ok (.bipush 80, 2) := by decide +kernel
theorem dX11_init_54 : decode cX11_init 54 = .ok (.newarray .int, 2) := by decide +kernel
theorem dX11_init_56 : decode cX11_init 56 = .ok (.putfield 29, 3) := by decide +kernel
theorem dX11_init_59 : decode cX11_init 59 = .ok (.aload_n 0, 1) := by decide +kernel
theorem dX11_init_60 : decode cX11_init 60 = .ok (.sipush 1600, 3) := by decide +kernel
theorem dX11_init_63 : decode cX11_init 63 = .ok (.newarray .int, 2) := by decide +kernel
theorem dX11_init_65 : decode cX11_init 65 = .ok (.putfield 32, 3) := by decide +kernel
theorem dX11_init_68 : decode cX11_init 68 = .ok (.aload_n 0, 1) := by decide +kernel
theorem dX11_init_69 : decode cX11_init 69 = .ok (.bipush 80, 2) := by decide +kernel
theorem dX11_init_71 : decode cX11_init 71 = .ok (.newarray .int, 2) := by decide +kernel
theorem dX11_init_73 : decode cX11_init 73 = .ok (.putfield 35, 3) := by decide +kernel
theorem dX11_init_76 : decode cX11_init 76 = .ok (.aload_n 0, 1) := by decide +kernel
theorem dX11_init_77 : decode cX11_init 77 = .ok (.bipush 30, 2) := by decide +kernel
theorem dX11_init_79 : decode cX11_init 79 = .ok (.putfield 38, 3) := by decide +kernel
theorem dX11_init_82 : decode cX11_init 82 = .ok (.aload_n 0, 1) := by decide +kernel
theorem dX11_init_83 : decode cX11_init 83 = .ok (.iconst 1, 1) := by decide +kernel
theorem dX11_init_84 : decode cX11_init 84 = .ok (.putfield 41, 3) := by decide +kernel
theorem dX11_init_87 : decode cX11_init 87 = .ok (.aload_n 0, 1) := by decide +kernel
theorem dX11_init_88 : decode cX11_init 88 = .ok (.iconst 1, 1) := by decide +kernel
theorem dX11_init_89 : decode cX11_init 89 = .ok (.putfield 44, 3) := by decide +kernel
theorem dX11_init_92 : decode cX11_init 92 = .ok (.aload_n 0, 1) := by decide +kernel
theorem dX11_init_93 : decode cX11_init 93 = .ok (.bipush 20, 2) := by decide +kernel
theorem dX11_init_95 : decode cX11_init 95 = .ok (.putfield 47, 3) := by decide +kernel
theorem dX11_init_98 : decode cX11_init 98 = .ok (.aload_n 0, 1) := by decide +kernel
theorem dX11_init_99 : decode cX11_init 99 = .ok (.bipush 60, 2) := by decide +kernel
theorem dX11_init_101 : decode cX11_init 101 = .ok (.putfield 50, 3) := by decide +kernel
theorem dX11_init_104 : decode cX11_init 104 = .ok (.aload_n 0, 1) := by decide +kernel
theorem dX11_init_105 : decode cX11_init 105 = .ok (.bipush 100, 2) := by decide +kernel
theorem dX11_init_107 : decode cX11_init 107 = .ok (.putfield 53, 3) := by decide +kernel
theorem dX11_init_110 : decode cX11_init 110 = .ok (.aload_n 0, 1) := by decide +kernel
theorem dX11_init_111 : decode cX11_init 111 = .ok (.iconst 5, 1) := by decide +kernel
theorem dX11_init_112 : decode cX11_init 112 = .ok (.putfield 56, 3) := by decide +kernel
theorem dX11_init_115 : decode cX11_init 115 = .ok (.aload_n 0, 1) := by decide +kernel
theorem dX11_init_116 : decode cX11_init 116 = .ok (.sipush 676, 3) := by decide +kernel
theorem dX11_init_119 : decode cX11_init 119 = .ok (.newarray .int, 2) := by decide +kernel
theorem dX11_init_121 : decode cX11_init 121 = .ok (.putfield 59, 3) := by decide +kernel
theorem dX11_init_124 : decode cX11_init 124 = .ok (.aload_n 0, 1) := by decide +kernel
theorem dX11_init_125 : decode cX11_init 125 = .ok (.sipush 200, 3) := by decide +kernel
theorem dX11_init_128 : decode cX11_init 128 = .ok (.newarray .int, 2) := by decide +kernel
theorem dX11_init_130 : decode cX11_init 130 = .ok (.putfield 62, 3) := by decide +kernel
theorem dX11_init_133 : decode cX11_init 133 = .ok (.aload_n 0, 1) := by decide +kernel
theorem dX11_init_134 : decode cX11_init 134 = .ok (.sipush 200, 3) := by decide +kernel
theorem dX11_init_137 : decode cX11_init 137 = .ok (.newarray .int, 2) := by decide +kernel
theorem dX11_init_139 : decode cX11_init 139 = .ok (.putfield 65, 3) := by decide +kernel
theorem dX11_init_142 : decode cX11_init 142 = .ok (.aload_n 0, 1) := by decide +kernel
theorem dX11_init_143 : decode cX11_init 143 = .ok (.sipush 4941, 3) := by decide +kernel
theorem dX11_init_146 : decode cX11_init 146 = .ok (.newarray .int, 2) := by decide +kernel
theorem dX11_init_148 : decode cX11_init 148 = .ok (.putfield 68, 3) := by decide +kernel
theorem dX11_init_151 : decode cX11_init 151 = .ok (.aload_n 0, 1) := by decide +kernel
theorem dX11_init_152 : decode cX11_init 152 = .ok (.bipush 80, 2) := by decide +kernel
theorem dX11_init_154 : decode cX11_init 154 = .ok (.newarray .int, 2) := by decide +kernel
theorem dX11_init_156 : decode cX11_init 156 = .ok (.putfield 71, 3) := by decide +kernel
theorem dX11_init_159 : decode cX11_init 159 = .ok (.aload_n 0, 1) := by decide +kernel
theorem dX11_init_160 : decode cX11_init 160 = .ok (.bipush 80, 2) := by decide +kernel
theorem dX11_init_162 : decode cX11_init 162 = .ok (.newarray .int, 2) := by decide +kernel
theorem dX11_init_164 : decode cX11_init 164 = .ok (.putfield 74, 3) := by decide +kernel
theorem dX11_init_167 : decode cX11_init 167 = .ok (.aload_n 0, 1) := by decide +kernel
theorem dX11_init_168 : decode cX11_init 168 = .ok (.bipush 80, 2) := by decide +kernel
theorem dX11_init_170 : decode cX11_init 170 = .ok (.newarray .int, 2) := by decide +kernel
theorem dX11_init_172 : decode cX11_init 172 = .ok (.putfield 77, 3) := by decide +kernel
theorem dX11_init_175 : decode cX11_init 175 = .ok (.aload_n 0, 1) := by decide +kernel
theorem dX11_init_176 : decode cX11_init 176 = .ok (.sipush 4800, 3) := by decide +kernel
theorem dX11_init_179 : decode cX11_init 179 = .ok (.newarray .int, 2) := by decide +kernel
theorem dX11_init_181 : decode cX11_init 181 = .ok (.putfield 80, 3) := by decide +kernel
theorem dX11_init_184 : decode cX11_init 184 = .ok (.aload_n 0, 1) := by decide +kernel
theorem dX11_init_185 : decode cX11_init 185 = .ok (.bipush 10, 2) := by decide +kernel
theorem dX11_init_187 : decode cX11_init 187 = .ok (.putfield 83, 3) := by decide +kernel
theorem dX11_init_190 : decode cX11_init 190 = .ok (.aload_n 0, 1) := by decide +kernel
theorem dX11_init_191 : decode cX11_init 191 = .ok (.iconst 3, 1) := by decide +kernel
theorem dX11_init_192 : decode cX11_init 192 = .ok (.putfield 86, 3) := by decide +kernel
theorem dX11_init_195 : decode cX11_init 195 = .ok (.aload_n 0, 1) := by decide +kernel
theorem dX11_init_196 : decode cX11_init 196 = .ok (.bipush 20, 2) := by decide +kernel
theorem dX11_init_198 : decode cX11_init 198 = .ok (.newarray .int, 2) := by decide +kernel
theorem dX11_init_200 : decode cX11_init 200 = .ok (.putfield 89, 3) := by decide +kernel
theorem dX11_init_203 : decode cX11_init 203 = .ok (.aload_n 0, 1) := by decide +kernel
theorem dX11_init_204 : decode cX11_init 204 = .ok (.bipush 20, 2) := by decide +kernel
theorem dX11_init_206 : decode cX11_init 206 = .ok (.newarray .int, 2) := by decide +kernel
theorem dX11_init_208 : decode cX11_init 208 = .ok (.putfield 92, 3) := by decide +kernel
theorem dX11_init_211 : decode cX11_init 211 = .ok (.return_, 1) := by decide +kernel
theorem dX11_feed_0 : decode cX11_feed 0 = .ok (.aload_n 0, 1) := by decide +kernel
theorem dX11_feed_1 : decode cX11_feed 1 = .ok (.getfield 95, 3) := by decide +kernel
theorem dX11_feed_4 : decode cX11_feed 4 = .ok (.bipush 20, 2) := by decide +kernel
theorem dX11_feed_6 : decode cX11_feed 6 = .ok (.iadd, 1) := by decide +kernel
theorem dX11_feed_7 : decode cX11_feed 7 = .ok (.sipush 600, 3) := by decide +kernel
theorem dX11_feed_10 : decode cX11_feed 10 = .ok (.if_icmp .le 5, 3) := by decide +kernel
theorem dX11_feed_13 : decode cX11_feed 13 = .ok (.iconst (-1), 1) := by decide +kernel
theorem dX11_feed_14 : decode cX11_feed 14 = .ok (.ireturn, 1) := by decide +kernel
theorem dX11_feed_15 : decode cX11_feed 15 = .ok (.iconst 0, 1) := by decide +kernel
theorem dX11_feed_16 : decode cX11_feed 16 = .ok (.istore 6, 2) := by decide +kernel
theorem dX11_feed_18 : decode cX11_feed 18 = .ok (.iload 6, 2) := by decide +kernel
theorem dX11_feed_20 : decode cX11_feed 20 = .ok (.bipush 20, 2) := by decide +kernel
theorem dX11_feed_22 : decode cX11_feed 22 = .ok (.if_icmp .ge 92, 3) := by decide +kernel
theorem dX11_feed_25 : decode cX11_feed 25 = .ok (.iload 6, 2) := by decide +kernel
theorem dX11_feed_27 : decode cX11_feed 27 = .ok (.iconst 4, 1) := by decide +kernel
theorem dX11_feed_28 : decode cX11_feed 28 = .ok (.if_icmp .ge 7, 3) := by decide +kernel
theorem dX11_feed_31 : decode cX11_feed 31 = .ok (.iload_n 1, 1) := by decide +kernel
theorem dX11_feed_32 : decode cX11_feed 32 = .ok (.goto 39, 3) := by decide +kernel
theorem dX11_feed_35 : decode cX11_feed 35 = .ok (.iload 6, 2) := by decide +kernel
theorem dX11_feed_37 : decode cX11_feed 37 = .ok (.bipush 8, 2) := by decide +kernel
theorem dX11_feed_39 : decode cX11_feed 39 = .ok (.if_icmp .ge 7, 3) := by decide +kernel
theorem dX11_feed_42 : decode cX11_feed 42 = .ok (.iload_n 2, 1) := by decide +kernel
theorem dX11_feed_43 : decode cX11_feed 43 = .ok (.goto 28, 3) := by decide +kernel
theorem dX11_feed_46 : decode cX11_feed 46 = .ok (.iload 6, 2) := by decide +kernel
theorem dX11_feed_48 : decode cX11_feed 48 = .ok (.bipush 12, 2) := by decide +kernel
theorem dX11_feed_50 : decode cX11_feed 50 = .ok (.if_icmp .ge 7, 3) := by decide +kernel
theorem dX11_feed_53 : decode cX11_feed 53 = .ok (.iload_n 3, 1) := by decide +kernel
theorem dX11_feed_54 : decode cX11_feed 54 = .ok (.goto 17, 3) := by decide +kernel
theorem dX11_feed_57 : decode cX11_feed 57 = .ok (.iload 6, 2) := by decide +kernel
theorem dX11_feed_59 : decode cX11_feed 59 = .ok (.bipush 16, 2) := by decide +kernel
theorem dX11_feed_61 : decode cX11_feed 61 = .ok (.if_icmp .ge 8, 3) := by decide +kernel
theorem dX11_feed_64 : decode cX11_feed 64 = .ok (.iload 4, 2) := by decide +kernel
theorem dX11_feed_66 : decode cX11_feed 66 = .ok (.goto 5, 3) := by decide +kernel
theorem dX11_feed_69 : decode cX11_feed 69 = .ok (.iload 5, 2) := by decide +kernel
theorem dX11_feed_71 : decode cX11_feed 71 = .ok (.istore 7, 2) := by decide +kernel
theorem dX11_feed_73 : decode cX11_feed 73 = .ok (.aload_n 0, 1) := by decide +kernel
theorem dX11_feed_74 : decode cX11_feed 74 = .ok (.getfield 22, 3) := by decide +kernel
theorem dX11_feed_77 : decode cX11_feed 77 = .ok (.aload_n 0, 1) := by decide +kernel
theorem dX11_feed_78 : decode cX11_feed 78 = .ok (.getfield 95, 3) := by decide +kernel
theorem dX11_feed_81 : decode cX11_feed 81 = .ok (.iload 7, 2) := by decide +kernel
theorem dX11_feed_83 : decode cX11_feed 83 = .ok (.bipush 8, 2) := by decide +kernel
theorem dX11_feed_85 : decode cX11_feed 85 = .ok (.iconst 3, 1) := by decide +kernel
theorem dX11_feed_86 : decode cX11_feed 86 = .ok (.iload 6, 2) := by decide +kernel
theorem dX11_feed_88 : decode cX11_feed 88 = .ok (.iconst 4, 1) := by decide +kernel
theorem dX11_feed_89 : decode cX11_feed 89 = .ok (.irem, 1) := by decide +kernel
theorem dX11_feed_90 : decode cX11_feed 90 = .ok (.isub, 1) := by decide +kernel
theorem dX11_feed_91 : decode cX11_feed 91 = .ok (.imul, 1) := by decide +kernel
theorem dX11_feed_92 : decode cX11_feed 92 = .ok (.ishr, 1) := by decide +kernel
theorem dX11_feed_93 : decode cX11_feed 93 = .ok (.sipush 255, 3) := by decide +kernel
theorem dX11_feed_96 : decode cX11_feed 96 = .ok (.iand, 1) := by decide +kernel
theorem dX11_feed_97 : decode cX11_feed 97 = .ok (.iastore, 1) := by decide +kernel
theorem dX11_feed_98 : decode cX11_feed 98 = .ok (.aload_n 0, 1) := by decide +kernel
theorem dX11_feed_99 : decode cX11_feed 99 = .ok (.dup, 1) := by decide +kernel
theorem dX11_feed_100 : decode cX11_feed 100 = .ok (.getfield 95, 3) := by decide +kernel
theorem dX11_feed_103 : decode cX11_feed 103 = .ok (.iconst 1, 1) := by decide +kernel
theorem dX11_feed_104 : decode cX11_feed 104 = .ok (.iadd, 1) := by decide +kernel
theorem dX11_feed_105 : decode cX11_feed 105 = .ok (.putfield 95, 3) := by decide +kernel
theorem dX11_feed_108 : decode cX11_feed 108 = .ok (.iinc 6 1, 3) := by decide +kernel
theorem dX11_feed_111 : decode cX11_feed 111 = .ok (.goto (-93), 3) := by decide +kernel
theorem dX11_feed_114 : decode cX11_feed 114 = .ok (.aload_n 0, 1) := by decide +kernel
theorem dX11_feed_115 : decode cX11_feed 115 = .ok (.getfield 95, 3) := by decide +kernel
theorem dX11_feed_118 : decode cX11_feed 118 = .ok (.ireturn, 1) := by decide +kernel
theorem dX11_end_0 : decode cX11_end 0 = .ok (.iload_n 1, 1) := by decide +kernel
theorem dX11_end_1 : decode cX11_end 1 = .ok (.ifCond .lt 11, 3) := by decide +kernel
theorem dX11_end_4 : decode cX11_end 4 = .ok (.iload_n 1, 1) := by decide +kernel
theorem dX11_end_5 : decode cX11_end 5 = .ok (.aload_n 0, 1) := by decide +kernel
theorem dX11_end_6 : decode cX11_end 6 = .ok (.getfield 95, 3) := by decide +kernel
theorem dX11_end_9 : decode cX11_end 9 = .ok (.if_icmp .le 5, 3) := by decide +kernel
theorem dX11_end_12 : decode cX11_end 12 = .ok (.iconst 0, 1) := by decide +kernel
theorem dX11_end_13 : decode cX11_end 13 = .ok (.ireturn, 1) := by decide +kernel
theorem dX11_end_14 : decode cX11_end 14 = .ok (.aload_n 0, 1) := by decide +kernel
theorem dX11_end_15 : decode cX11_end 15 = .ok (.iload_n 1, 1) := by decide +kernel
theorem dX11_end_16 : decode cX11_end 16 = .ok (.putfield 95, 3) := by decide +kernel
theorem dX11_end_19 : decode cX11_end 19 = .ok (.iconst 1, 1) := by decide +kernel
theorem dX11_end_20 : decode cX11_end 20 = .ok (.ireturn, 1) := by decide +kernel
theorem dX11_isLetter_0 : decode cX11_isLetter 0 = .ok (.iload_n 0, 1) := by decide +kernel
theorem dX11_isLetter_1 : decode cX11_isLetter 1 = .ok (.bipush 97, 2) := by decide +kernel
theorem dX11_isLetter_3 : decode cX11_isLetter 3 = .ok (.if_icmp .lt 13, 3) := by decide +kernel
theorem dX11_isLetter_6 : decode cX11_isLetter 6 = .ok (.iload_n 0, 1) := by decide +kernel
theorem dX11_isLetter_7 : decode cX11_isLetter 7 = .ok (.bipush 122, 2) := by decide +kernel
theorem dX11_isLetter_9 : decode cX11_isLetter 9 = .ok (.if_icmp .gt 7, 3) := by decide +kernel
theorem dX11_isLetter_12 : decode cX11_isLetter 12 = .ok (.iconst 1, 1) := by decide +kernel
theorem dX11_isLetter_13 : decode cX11_isLetter 13 = .ok (.goto 4, 3) := by decide +kernel
theorem dX11_isLetter_16 : decode cX11_isLetter 16 = .ok (.iconst 0, 1) := by decide +kernel
theorem dX11_isLetter_17 : decode cX11_isLetter 17 = .ok (.ireturn, 1) := by decide +kernel
theorem dX11_isBlank_0 : decode cX11_isBlank 0 = .ok (.iload_n 0, 1) := by decide +kernel
theorem dX11_isBlank_1 : decode cX11_isBlank 1 = .ok (.bipush 10, 2) := by decide +kernel
theorem dX11_isBlank_3 : decode cX11_isBlank 3 = .ok (.if_icmp .eq 9, 3) := by decide +kernel
theorem dX11_isBlank_6 : decode cX11_isBlank 6 = .ok (.iload_n 0, 1) := by decide +kernel
theorem dX11_isBlank_7 : decode cX11_isBlank 7 = .ok (.bipush 32, 2) := by decide +kernel
theorem dX11_isBlank_9 : decode cX11_isBlank 9 = .ok (.if_icmp .ne 7, 3) := by decide +kernel
theorem dX11_isBlank_12 : decode cX11_isBlank 12 = .ok (.iconst 1, 1) := by decide +kernel
theorem dX11_isBlank_13 : decode cX11_isBlank 13 = .ok (.goto 4, 3) := by decide +kernel
theorem dX11_isBlank_16 : decode cX11_isBlank 16 = .ok (.iconst 0, 1) := by decide +kernel
theorem dX11_isBlank_17 : decode cX11_isBlank 17 = .ok (.ireturn, 1) := by decide +kernel
theorem dX11_isEnd_0 : decode cX11_isEnd 0 = .ok (.iload_n 0, 1) := by decide +kernel
theorem dX11_isEnd_1 : decode cX11_isEnd 1 = .ok (.bipush 44, 2) := by decide +kernel
theorem dX11_isEnd_3 : decode cX11_isEnd 3 = .ok (.if_icmp .eq 15, 3) := by decide +kernel
theorem dX11_isEnd_6 : decode cX11_isEnd 6 = .ok (.iload_n 0, 1) := by decide +kernel
theorem dX11_isEnd_7 : decode cX11_isEnd 7 = .ok (.bipush 46, 2) := by decide +kernel
theorem dX11_isEnd_9 : decode cX11_isEnd 9 = .ok (.if_icmp .eq 9, 3) := by decide +kernel
theorem dX11_isEnd_12 : decode cX11_isEnd 12 = .ok (.iload_n 0, 1) := by decide +kernel
theorem dX11_isEnd_13 : decode cX11_isEnd 13 = .ok (.bipush 47, 2) := by decide +kernel
theorem dX11_isEnd_15 : decode cX11_isEnd 15 = .ok (.if_icmp .ne 7, 3) := by decide +kernel
theorem dX11_isEnd_18 : decode cX11_isEnd 18 = .ok (.iconst 1, 1) := by decide +kernel
theorem dX11_isEnd_19 : decode cX11_isEnd 19 = .ok (.goto 4, 3) := by decide +kernel
theorem dX11_isEnd_22 : decode cX11_isEnd 22 = .ok (.iconst 0, 1) := by decide +kernel
theorem dX11_isEnd_23 : decode cX11_isEnd 23 = .ok (.ireturn, 1) := by decide +kernel
theorem dX11_fails_0 : decode cX11_fails 0 = .ok (.aload_n 0, 1) := by decide +kernel
theorem dX11_fails_1 : decode cX11_fails 1 = .ok (.iload_n 1, 1) := by decide +kernel
theorem dX11_fails_2 : decode cX11_fails 2 = .ok (.putfield 98, 3) := by decide +kernel
theorem dX11_fails_5 : decode cX11_fails 5 = .ok (.aload_n 0, 1) := by decide +kernel
theorem dX11_fails_6 : decode cX11_fails 6 = .ok (.iload_n 2, 1) := by decide +kernel
theorem dX11_fails_7 : decode cX11_fails 7 = .ok (.putfield 25, 3) := by decide +kernel
theorem dX11_fails_10 : decode cX11_fails 10 = .ok (.iconst 0, 1) := by decide +kernel
theorem dX11_fails_11 : decode cX11_fails 11 = .ok (.ireturn, 1) := by decide +kernel
set_option maxRecDepth 20000 in
theorem ggX11_isText_X11_isLetter : GoodIn wsX11_isText wsX11_isLetter := goodIn_r _ [10] (by decide +kernel) (by decide +kernel)
set_option maxRecDepth 20000 in
theorem gX11_isText_X11_isLetter : GoodIn wsX11_isText (va_wsS RX11 104 yX11_isLetter wsX11_isLetter) := goodIn_app (goodIn_of _ (by decide +kernel)) ggX11_isText_X11_isLetter
set_option maxRecDepth 20000 in
theorem ggX11_isText_X11_fails : GoodIn wsX11_isText wsX11_fails := goodIn_r _ [14, 15, 16, 23, 24, 25, 26, 27, 28, 29, 30, 31, 32, 33, 34, 35, 36, 37, 38, 39, 40, 41, 42, 43, 44, 45, 46, 47, 48, 49, 50, 51, 52, 53, 54, 55, 56, 57, 58, 59, 60, 61, 62, 63, 64, 65, 66] (by decide +kernel) (by decide +kernel)
set_option maxRecDepth 20000 in
theorem gX11_isText_X11_fails : GoodIn wsX11_isText (wsV RX11 108 RX11 yX11_fails wsX11_fails) := goodIn_app (goodIn_of _ (by decide +kernel)) ggX11_isText_X11_fails
set_option maxRecDepth 20000 in
theorem ggX11_isText_X11_isEnd : GoodIn wsX11_isText wsX11_isEnd := goodIn_r _ [19] (by decide +kernel) (by decide +kernel)
set_option maxRecDepth 20000 in
theorem gX11_isText_X11_isEnd : GoodIn wsX11_isText (va_wsS RX11 112 yX11_isEnd wsX11_isEnd) := goodIn_app (goodIn_of _ (by decide +kernel)) ggX11_isText_X11_isEnd
set_option maxRecDepth 20000 in
theorem ggX11_isText_X11_isBlank : GoodIn wsX11_isText wsX11_isBlank := goodIn_r _ [22] (by decide +kernel) (by decide +kernel)
set_option maxRecDepth 20000 in
theorem gX11_isText_X11_isBlank : GoodIn wsX11_isText (va_wsS RX11 115 yX11_isBlank wsX11_isBlank) := goodIn_app (goodIn_of _ (by decide +kernel)) ggX11_isText_X11_isBlank
theorem dX11_isText_0 : decode cX11_isText 0 = .ok (.aload_n 0, 1) := by decide +kernel
theorem dX11_isText_1 : decode cX11_isText 1 = .ok (.getfield 95, 3) := by decide +kernel
theorem dX11_isText_4 : decode cX11_isText 4 = .ok (.istore_n 1, 1) := by decide +kernel
theorem dX11_isText_5 : decode cX11_isText 5 = .ok (.aload_n 0, 1) := by decide +kernel
theorem dX11_isText_6 : decode cX11_isText 6 = .ok (.iconst 0, 1) := by decide +kernel
theorem dX11_isText_7 : decode cX11_isText 7 = .ok (.putfield 95, 3) := by decide +kernel
theorem dX11_isText_10 : decode cX11_isText 10 = .ok (.aload_n 0, 1) := by decide +kernel
theorem dX11_isText_11 : decode cX11_isText 11 = .ok (.iconst 0, 1) := by decide +kernel
theorem dX11_isText_12 : decode cX11_isText 12 = .ok (.putfield 101, 3) := by decide +kernel
theorem dX11_isText_15 : decode cX11_isText 15 = .ok (.iconst 0, 1) := by decide +kernel
theorem dX11_isText_16 : decode cX11_isText 16 = .ok (.istore_n 2, 1) := by decide +kernel
theorem dX11_isText_17 : decode cX11_isText 17 = .ok (.iconst 0, 1) := by decide +kernel
theorem dX11_isText_18 : decode cX11_isText 18 = .ok (.istore_n 3, 1) := by decide +kernel
theorem dX11_isText_19 : decode cX11_isText 19 = .ok (.iload_n 3, 1) := by decide +kernel
theorem dX11_isText_20 : decode cX11_isText 20 = .ok (.iload_n 1, 1) := by decide +kernel
theorem dX11_isText_21 : decode cX11_isText 21 = .ok (.if_icmp .ge 238, 3) := by decide +kernel
theorem dX11_isText_24 : decode cX11_isText 24 = .ok (.aload_n 0, 1) := by decide +kernel
theorem dX11_isText_25 : decode cX11_isText 25 = .ok (.getfield 22, 3) := by decide +kernel
theorem dX11_isText_28 : decode cX11_isText 28 = .ok (.iload_n 3, 1) := by decide +kernel
theorem dX11_isText_29 : decode cX11_isText 29 = .ok (.iaload, 1) := by decide +kernel
theorem dX11_isText_30 : decode cX11_isText 30 = .ok (.istore 4, 2) := by decide +kernel
theorem dX11_isText_32 : decode cX11_isText 32 = .ok (.iload 4, 2) := by decide +kernel
theorem dX11_isText_34 : decode cX11_isText 34 = .ok (.invokestatic 104, 3) := by decide +kernel
theorem dX11_isText_37 : decode cX11_isText 37 = .ok (.ifCond .eq 138, 3) := by decide +kernel
theorem dX11_isText_40 : decode cX11_isText 40 = .ok (.iload_n 2, 1) := by decide +kernel
theorem dX11_isText_41 : decode cX11_isText 41 = .ok (.iconst 3, 1) := by decide +kernel
theorem dX11_isText_42 : decode cX11_isText 42 = .ok (.if_icmp .ne 10, 3) := by decide +kernel
theorem dX11_isText_45 : decode cX11_isText 45 = .ok (.aload_n 0, 1) := by decide +kernel
theorem dX11_isText_46 : decode cX11_isText 46 = .ok (.iconst 1, 1) := by decide +kernel
theorem dX11_isText_47 : decode cX11_isText 47 = .ok (.iload_n 3, 1) := by decide +kernel
theorem dX11_isText_48 : decode cX11_isText 48 = .ok (.invokevirtual 108, 3) := by decide +kernel
theorem dX11_isText_51 : decode cX11_isText 51 = .ok (.ireturn, 1) := by decide +kernel
theorem dX11_isText_52 : decode cX11_isText 52 = .ok (.iload_n 2, 1) := by decide +kernel
theorem dX11_isText_53 : decode cX11_isText 53 = .ok (.iconst 1, 1) := by decide +kernel
theorem dX11_isText_54 : decode cX11_isText 54 = .ok (.if_icmp .eq 50, 3) := by decide +kernel
theorem dX11_isText_57 : decode cX11_isText 57 = .ok (.aload_n 0, 1) := by decide +kernel
theorem dX11_isText_58 : decode cX11_isText 58 = .ok (.getfield 101, 3) := by decide +kernel
theorem dX11_isText_61 : decode cX11_isText 61 = .ok (.bipush 80, 2) := by decide +kernel
theorem dX11_isText_63 : decode cX11_isText 63 = .ok (.if_icmp .ne 10, 3) := by decide +kernel
theorem dX11_isText_66 : decode cX11_isText 66 = .ok (.aload_n 0, 1) := by decide +kernel
theorem dX11_isText_67 : decode cX11_isText 67 = .ok (.iconst 3, 1) := by decide +kernel
theorem dX11_isText_68 : decode cX11_isText 68 = .ok (.iload_n 3, 1) := by decide +kernel
theorem dX11_isText_69 : decode cX11_isText 69 = .ok (.invokevirtual 108, 3) := by decide +kernel
theorem dX11_isText_72 : decode cX11_isText 72 = .ok (.ireturn, 1) := by decide +kernel
theorem dX11_isText_73 : decode cX11_isText 73 = .ok (.aload_n 0, 1) := by decide +kernel
theorem dX11_isText_74 : decode cX11_isText 74 = .ok (.getfield 29, 3) := by decide +kernel
theorem dX11_isText_77 : decode cX11_isText 77 = .ok (.aload_n 0, 1) := by decide +kernel
theorem dX11_isText_78 : decode cX11_isText 78 = .ok (.getfield 101, 3) := by decide +kernel
theorem dX11_isText_81 : decode cX11_isText 81 = .ok (.iconst 0, 1) := by decide +kernel
theorem dX11_isText_82 : decode cX11_isText 82 = .ok (.iastore, 1) := by decide +kernel
theorem dX11_isText_83 : decode cX11_isText 83 = .ok (.aload_n 0, 1) := by decide +kernel
theorem dX11_isText_84 : decode cX11_isText 84 = .ok (.getfield 35, 3) := by decide +kernel
theorem dX11_isText_87 : decode cX11_isText 87 = .ok (.aload_n 0, 1) := by decide +kernel
theorem dX11_isText_88 : decode cX11_isText 88 = .ok (.getfield 101, 3) := by decide +kernel
theorem dX11_isText_91 : decode cX11_isText 91 = .ok (.bipush 32, 2) := by decide +kernel
theorem dX11_isText_93 : decode cX11_isText 93 = .ok (.iastore, 1) := by decide +kernel
theorem dX11_isText_94 : decode cX11_isText 94 = .ok (.aload_n 0, 1) := by decide +kernel
theorem dX11_isText_95 : decode cX11_isText 95 = .ok (.dup, 1) := by decide +kernel
theorem dX11_isText_96 : decode cX11_isText 96 = .ok (.getfield 101, 3) := by decide +kernel
theorem dX11_isText_99 : decode cX11_isText 99 = .ok (.iconst 1, 1) := by decide +kernel
theorem dX11_isText_100 : decode cX11_isText 100 = .ok (.iadd, 1) := by decide +kernel
theorem dX11_isText_101 : decode cX11_isText 101 = .ok (.putfield 101, 3) := by decide +kernel
theorem dX11_isText_104 : decode cX11_isText 104 = .ok (.aload_n 0, 1) := by decide +kernel
theorem dX11_isText_105 : decode cX11_isText 105 = .ok (.getfield 29, 3) := by decide +kernel
theorem dX11_isText_108 : decode cX11_isText 108 = .ok (.aload_n 0, 1) := by decide +kernel
theorem dX11_isText_109 : decode cX11_isText 109 = .ok (.getfield 101, 3) := by decide +kernel
theorem dX11_isText_112 : decode cX11_isText 112 = .ok (.iconst 1, 1) := by decide +kernel
theorem dX11_isText_113 : decode cX11_isText 113 = .ok (.isub, 1) := by decide +kernel
theorem dX11_isText_114 : decode cX11_isText 114 = .ok (.iaload, 1) := by decide +kernel
theorem dX11_isText_115 : decode cX11_isText 115 = .ok (.bipush 20, 2) := by decide +kernel
theorem dX11_isText_117 : decode cX11_isText 117 = .ok (.if_icmp .ne 10, 3) := by decide +kernel
theorem dX11_isText_120 : decode cX11_isText 120 = .ok (.aload_n 0, 1) := by decide +kernel
theorem dX11_isText_121 : decode cX11_isText 121 = .ok (.iconst 2, 1) := by decide +kernel
theorem dX11_isText_122 : decode cX11_isText 122 = .ok (.iload_n 3, 1) := by decide +kernel
theorem dX11_isText_123 : decode cX11_isText 123 = .ok (.invokevirtual 108, 3) := by decide +kernel
theorem dX11_isText_126 : decode cX11_isText 126 = .ok (.ireturn, 1) := by decide +kernel
theorem dX11_isText_127 : decode cX11_isText 127 = .ok (.aload_n 0, 1) := by decide +kernel
theorem dX11_isText_128 : decode cX11_isText 128 = .ok (.getfield 32, 3) := by decide +kernel
theorem dX11_isText_131 : decode cX11_isText 131 = .ok (.bipush 20, 2) := by decide +kernel
theorem dX11_isText_133 : decode cX11_isText 133 = .ok (.aload_n 0, 1) := by decide +kernel
theorem dX11_isText_134 : decode cX11_isText 134 = .ok (.getfield 101, 3) := by decide +kernel
theorem dX11_isText_137 : decode cX11_isText 137 = .ok (.iconst 1, 1) := by decide +kernel
theorem dX11_isText_138 : decode cX11_isText 138 = .ok (.isub, 1) := by decide +kernel
theorem dX11_isText_139 : decode cX11_isText 139 = .ok (.imul, 1) := by decide +kernel
theorem dX11_isText_140 : decode cX11_isText 140 = .ok (.aload_n 0, 1) := by decide +kernel
theorem dX11_isText_141 : decode cX11_isText 141 = .ok (.getfield 29, 3) := by decide +kernel
theorem dX11_isText_144 : decode cX11_isText 144 = .ok (.aload_n 0, 1) := by decide +kernel
theorem dX11_isText_145 : decode cX11_isText 145 = .ok (.getfield 101, 3) := by decide +kernel
theorem dX11_isText_148 : decode cX11_isText 148 = .ok (.iconst 1, 1) := by decide +kernel
theorem dX11_isText_149 : decode cX11_isText 149 = .ok (.isub, 1) := by decide +kernel
theorem dX11_isText_150 : decode cX11_isText 150 = .ok (.iaload, 1) := by decide +kernel
theorem dX11_isText_151 : decode cX11_isText 151 = .ok (.iadd, 1) := by decide +kernel
theorem dX11_isText_152 : decode cX11_isText 152 = .ok (.iload 4, 2) := by decide +kernel
theorem dX11_isText_154 : decode cX11_isText 154 = .ok (.iastore, 1) := by decide +kernel
theorem dX11_isText_155 : decode cX11_isText 155 = .ok (.aload_n 0, 1) := by decide +kernel
theorem dX11_isText_156 : decode cX11_isText 156 = .ok (.getfield 29, 3) := by decide +kernel
theorem dX11_isText_159 : decode cX11_isText 159 = .ok (.aload_n 0, 1) := by decide +kernel
theorem dX11_isText_160 : decode cX11_isText 160 = .ok (.getfield 101, 3) := by decide +kernel
theorem dX11_isText_163 : decode cX11_isText 163 = .ok (.iconst 1, 1) := by decide +kernel
theorem dX11_isText_164 : decode cX11_isText 164 = .ok (.isub, 1) := by decide +kernel
theorem dX11_isText_165 : decode cX11_isText 165 = .ok (.dup2, 1) := by decide +kernel
theorem dX11_isText_166 : decode cX11_isText 166 = .ok (.iaload, 1) := by decide +kernel
theorem dX11_isText_167 : decode cX11_isText 167 = .ok (.iconst 1, 1) := by decide +kernel
theorem dX11_isText_168 : decode cX11_isText 168 = .ok (.iadd, 1) := by decide +kernel
theorem dX11_isText_169 : decode cX11_isText 169 = .ok (.iastore, 1) := by decide +kernel
theorem dX11_isText_170 : decode cX11_isText 170 = .ok (.iconst 1, 1) := by decide +kernel
theorem dX11_isText_171 : decode cX11_isText 171 = .ok (.istore_n 2, 1) := by decide +kernel
theorem dX11_isText_172 : decode cX11_isText 172 = .ok (.goto 81, 3) := by decide +kernel
theorem dX11_isText_175 : decode cX11_isText 175 = .ok (.iload 4, 2) := by decide +kernel
theorem dX11_isText_177 : decode cX11_isText 177 = .ok (.bipush 45, 2) := by decide +kernel
theorem dX11_isText_179 : decode cX11_isText 179 = .ok (.if_icmp .eq 11, 3) := by decide +kernel
theorem dX11_isText_182 : decode cX11_isText 182 = .ok (.iload 4, 2) := by decide +kernel
theorem dX11_isText_184 : decode cX11_isText 184 = .ok (.invokestatic 112, 3) := by decide +kernel
theorem dX11_isText_187 : decode cX11_isText 187 = .ok (.ifCond .eq 44, 3) := by decide +kernel
theorem dX11_isText_190 : decode cX11_isText 190 = .ok (.iload_n 2, 1) := by decide +kernel
theorem dX11_isText_191 : decode cX11_isText 191 = .ok (.iconst 1, 1) := by decide +kernel
theorem dX11_isText_192 : decode cX11_isText 192 = .ok (.if_icmp .eq 10, 3) := by decide +kernel
theorem dX11_isText_195 : decode cX11_isText 195 = .ok (.aload_n 0, 1) := by decide +kernel
theorem dX11_isText_196 : decode cX11_isText 196 = .ok (.iconst 1, 1) := by decide +kernel
theorem dX11_isText_197 : decode cX11_isText 197 = .ok (.iload_n 3, 1) := by decide +kernel
theorem dX11_isText_198 : decode cX11_isText 198 = .ok (.invokevirtual 108, 3) := by decide +kernel
theorem dX11_isText_201 : decode cX11_isText 201 = .ok (.ireturn, 1) := by decide +kernel
theorem dX11_isText_202 : decode cX11_isText 202 = .ok (.aload_n 0, 1) := by decide +kernel
theorem dX11_isText_203 : decode cX11_isText 203 = .ok (.getfield 35, 3) := by decide +kernel
theorem dX11_isText_206 : decode cX11_isText 206 = .ok (.aload_n 0, 1) := by decide +kernel
theorem dX11_isText_207 : decode cX11_isText 207 = .ok (.getfield 101, 3) := by decide +kernel
theorem dX11_isText_210 : decode cX11_isText 210 = .ok (.iconst 1, 1) := by decide +kernel
theorem dX11_isText_211 : decode cX11_isText 211 = .ok (.isub, 1) := by decide +kernel
theorem dX11_isText_212 : decode cX11_isText 212 = .ok (.iload 4, 2) := by decide +kernel
theorem dX11_isText_214 : decode cX11_isText 214 = .ok (.iastore, 1) := by decide +kernel
theorem dX11_isText_215 : decode cX11_isText 215 = .ok (.iload 4, 2) := by decide +kernel
theorem dX11_isText_217 : decode cX11_isText 217 = .ok (.bipush 45, 2) := by decide +kernel
theorem dX11_isText_219 : decode cX11_isText 219 = .ok (.if_icmp .ne 7, 3) := by decide +kernel
theorem dX11_isText_222 : decode cX11_isText 222 = .ok (.iconst 2, 1) := by decide +kernel
theorem dX11_isText_223 : decode cX11_isText 223 = .ok (.goto 4, 3) := by decide +kernel
theorem dX11_isText_226 : decode cX11_isText 226 = .ok (.iconst 3, 1) := by decide +kernel
theorem dX11_isText_227 : decode cX11_isText 227 = .ok (.istore_n 2, 1) := by decide +kernel
theorem dX11_isText_228 : decode cX11_isText 228 = .ok (.goto 25, 3) := by decide +kernel
theorem dX11_isText_231 : decode cX11_isText 231 = .ok (.iload 4, 2) := by decide +kernel
theorem dX11_isText_233 : decode cX11_isText 233 = .ok (.invokestatic 115, 3) := by decide +kernel
theorem dX11_isText_236 : decode cX11_isText 236 = .ok (.ifCond .eq 8, 3) := by decide +kernel
theorem dX11_isText_239 : decode cX11_isText 239 = .ok (.iload_n 2, 1) := by decide +kernel
theorem dX11_isText_240 : decode cX11_isText 240 = .ok (.iconst 2, 1) := by decide +kernel
theorem dX11_isText_241 : decode cX11_isText 241 = .ok (.if_icmp .ne 10, 3) := by decide +kernel
theorem dX11_isText_244 : decode cX11_isText 244 = .ok (.aload_n 0, 1) := by decide +kernel
theorem dX11_isText_245 : decode cX11_isText 245 = .ok (.iconst 1, 1) := by decide +kernel
theorem dX11_isText_246 : decode cX11_isText 246 = .ok (.iload_n 3, 1) := by decide +kernel
theorem dX11_isText_247 : decode cX11_isText 247 = .ok (.invokevirtual 108, 3) := by decide +kernel
theorem dX11_isText_250 : decode cX11_isText 250 = .ok (.ireturn, 1) := by decide +kernel
theorem dX11_isText_251 : decode cX11_isText 251 = .ok (.iconst 0, 1) := by decide +kernel
theorem dX11_isText_252 : decode cX11_isText 252 = .ok (.istore_n 2, 1) := by decide +kernel
theorem dX11_isText_253 : decode cX11_isText 253 = .ok (.iinc 3 1, 3) := by decide +kernel
theorem dX11_isText_256 : decode cX11_isText 256 = .ok (.goto (-237), 3) := by decide +kernel
theorem dX11_isText_259 : decode cX11_isText 259 = .ok (.iload_n 2, 1) := by decide +kernel
theorem dX11_isText_260 : decode cX11_isText 260 = .ok (.iconst 2, 1) := by decide +kernel
theorem dX11_isText_261 : decode cX11_isText 261 = .ok (.if_icmp .ne 10, 3) := by decide +kernel
theorem dX11_isText_264 : decode cX11_isText 264 = .ok (.aload_n 0, 1) := by decide +kernel
theorem dX11_isText_265 : decode cX11_isText 265 = .ok (.iconst 1, 1) := by decide +kernel
theorem dX11_isText_266 : decode cX11_isText 266 = .ok (.iload_n 1, 1) := by decide +kernel
theorem dX11_isText_267 : decode cX11_isText 267 = .ok (.invokevirtual 108, 3) := by decide +kernel
theorem dX11_isText_270 : decode cX11_isText 270 = .ok (.ireturn, 1) := by decide +kernel
theorem dX11_isText_271 : decode cX11_isText 271 = .ok (.aload_n 0, 1) := by decide +kernel
theorem dX11_isText_272 : decode cX11_isText 272 = .ok (.iconst 0, 1) := by decide +kernel
theorem dX11_isText_273 : decode cX11_isText 273 = .ok (.iconst (-1), 1) := by decide +kernel
theorem dX11_isText_274 : decode cX11_isText 274 = .ok (.invokevirtual 108, 3) := by decide +kernel
theorem dX11_isText_277 : decode cX11_isText 277 = .ok (.pop, 1) := by decide +kernel
theorem dX11_isText_278 : decode cX11_isText 278 = .ok (.iconst 1, 1) := by decide +kernel
theorem dX11_isText_279 : decode cX11_isText 279 = .ok (.ireturn, 1) := by decide +kernel
theorem dX11_takes_0 : decode cX11_takes 0 = .ok (.aload_n 0, 1) := by decide +kernel
theorem dX11_takes_1 : decode cX11_takes 1 = .ok (.getfield 7, 3) := by decide +kernel
theorem dX11_takes_4 : decode cX11_takes 4 = .ok (.iload_n 2, 1) := by decide +kernel
theorem dX11_takes_5 : decode cX11_takes 5 = .ok (.aload_n 0, 1) := by decide +kernel
theorem dX11_takes_6 : decode cX11_takes 6 = .ok (.getfield 29, 3) := by decide +kernel
theorem dX11_takes_9 : decode cX11_takes 9 = .ok (.iload_n 1, 1) := by decide +kernel
theorem dX11_takes_10 : decode cX11_takes 10 = .ok (.iaload, 1) := by decide +kernel
theorem dX11_takes_11 : decode cX11_takes 11 = .ok (.iastore, 1) := by decide +kernel
theorem dX11_takes_12 : decode cX11_takes 12 = .ok (.aload_n 0, 1) := by decide +kernel
theorem dX11_takes_13 : decode cX11_takes 13 = .ok (.getfield 16, 3) := by decide +kernel
theorem dX11_takes_16 : decode cX11_takes 16 = .ok (.iload_n 2, 1) := by decide +kernel
theorem dX11_takes_17 : decode cX11_takes 17 = .ok (.aload_n 0, 1) := by decide +kernel
theorem dX11_takes_18 : decode cX11_takes 18 = .ok (.getfield 35, 3) := by decide +kernel
theorem dX11_takes_21 : decode cX11_takes 21 = .ok (.iload_n 1, 1) := by decide +kernel
theorem dX11_takes_22 : decode cX11_takes 22 = .ok (.iaload, 1) := by decide +kernel
theorem dX11_takes_23 : decode cX11_takes 23 = .ok (.iastore, 1) := by decide +kernel
theorem dX11_takes_24 : decode cX11_takes 24 = .ok (.iconst 0, 1) := by decide +kernel
theorem dX11_takes_25 : decode cX11_takes 25 = .ok (.istore_n 3, 1) := by decide +kernel
theorem dX11_takes_26 : decode cX11_takes 26 = .ok (.iload_n 3, 1) := by decide +kernel
theorem dX11_takes_27 : decode cX11_takes 27 = .ok (.aload_n 0, 1) := by decide +kernel
theorem dX11_takes_28 : decode cX11_takes 28 = .ok (.getfield 7, 3) := by decide +kernel
theorem dX11_takes_31 : decode cX11_takes 31 = .ok (.iload_n 2, 1) := by decide +kernel
theorem dX11_takes_32 : decode cX11_takes 32 = .ok (.iaload, 1) := by decide +kernel
theorem dX11_takes_33 : decode cX11_takes 33 = .ok (.if_icmp .ge 31, 3) := by decide +kernel
theorem dX11_takes_36 : decode cX11_takes 36 = .ok (.aload_n 0, 1) := by decide +kernel
theorem dX11_takes_37 : decode cX11_takes 37 = .ok (.getfield 13, 3) := by decide +kernel
theorem dX11_takes_40 : decode cX11_takes 40 = .ok (.bipush 20, 2) := by decide +kernel
theorem dX11_takes_42 : decode cX11_takes 42 = .ok (.iload_n 2, 1) := by decide +kernel
theorem dX11_takes_43 : decode cX11_takes 43 = .ok (.imul, 1) := by decide +kernel
theorem dX11_takes_44 : decode cX11_takes 44 = .ok (.iload_n 3, 1) := by decide +kernel
theorem dX11_takes_45 : decode cX11_takes 45 = .ok (.iadd, 1) := by decide +kernel
theorem dX11_takes_46 : decode cX11_takes 46 = .ok (.aload_n 0, 1) := by decide +kernel
theorem dX11_takes_47 : decode cX11_takes 47 = .ok (.getfield 32, 3) := by decide +kernel
theorem dX11_takes_50 : decode cX11_takes 50 = .ok (.bipush 20, 2) := by decide +kernel
theorem dX11_takes_52 : decode cX11_takes 52 = .ok (.iload_n 1, 1) := by decide +kernel
theorem dX11_takes_53 : decode cX11_takes 53 = .ok (.imul, 1) := by decide +kernel
theorem dX11_takes_54 : decode cX11_takes 54 = .ok (.iload_n 3, 1) := by decide +kernel
theorem dX11_takes_55 : decode cX11_takes 55 = .ok (.iadd, 1) := by decide +kernel
theorem dX11_takes_56 : decode cX11_takes 56 = .ok (.iaload, 1) := by decide +kernel
theorem dX11_takes_57 : decode cX11_takes 57 = .ok (.iastore, 1) := by decide +kernel
theorem dX11_takes_58 : decode cX11_takes 58 = .ok (.iinc 3 1, 3) := by decide +kernel
theorem dX11_takes_61 : decode cX11_takes 61 = .ok (.goto (-35), 3) := by decide +kernel
theorem dX11_takes_64 : decode cX11_takes 64 = .ok (.return_, 1) := by decide +kernel
theorem dX11_words_0 : decode cX11_words 0 = .ok (.iconst 0, 1) := by decide +kernel
theorem dX11_words_1 : decode cX11_words 1 = .ok (.istore_n 1, 1) := by decide +kernel
theorem dX11_words_2 : decode cX11_words 2 = .ok (.iconst 0, 1) := by decide +kernel
theorem dX11_words_3 : decode cX11_words 3 = .ok (.istore_n 2, 1) := by decide +kernel
theorem dX11_words_4 : decode cX11_words 4 = .ok (.iload_n 2, 1) := by decide +kernel
theorem dX11_words_5 : decode cX11_words 5 = .ok (.aload_n 0, 1) := by decide +kernel
theorem dX11_words_6 : decode cX11_words 6 = .ok (.getfield 118, 3) := by decide +kernel
theorem dX11_words_9 : decode cX11_words 9 = .ok (.if_icmp .ge 36, 3) := by decide +kernel
theorem dX11_words_12 : decode cX11_words 12 = .ok (.iload_n 2, 1) := by decide +kernel
theorem dX11_words_13 : decode cX11_words 13 = .ok (.ifCond .le 19, 3) := by decide +kernel
theorem dX11_words_16 : decode cX11_words 16 = .ok (.aload_n 0, 1) := by decide +kernel
theorem dX11_words_17 : decode cX11_words 17 = .ok (.getfield 16, 3) := by decide +kernel
theorem dX11_words_20 : decode cX11_words 20 = .ok (.iload_n 2, 1) := by decide +kernel
theorem dX11_words_21 : decode cX11_words 21 = .ok (.iconst 1, 1) := by decide +kernel
theorem dX11_words_22 : decode cX11_words 22 = .ok (.isub, 1) := by decide +kernel
theorem dX11_words_23 : decode cX11_words 23 = .ok (.iaload, 1) := by decide +kernel
theorem dX11_words_24 : decode cX11_words 24 = .ok (.bipush 45, 2) := by decide +kernel
theorem dX11_words_26 : decode cX11_words 26 = .ok (.if_icmp .eq 6, 3) := by decide +kernel
theorem dX11_words_29 : decode cX11_words 29 = .ok (.iinc 1 1, 3) := by decide +kernel
theorem dX11_words_32 : decode cX11_words 32 = .ok (.aload_n 0, 1) := by decide +kernel
theorem dX11_words_33 : decode cX11_words 33 = .ok (.getfield 19, 3) := by decide +kernel
theorem dX11_words_36 : decode cX11_words 36 = .ok (.iload_n 2, 1) := by decide +kernel
theorem dX11_words_37 : decode cX11_words 37 = .ok (.iload_n 1, 1) := by decide +kernel
theorem dX11_words_38 : decode cX11_words 38 = .ok (.iastore, 1) := by decide +kernel
theorem dX11_words_39 : decode cX11_words 39 = .ok (.iinc 2 1, 3) := by decide +kernel
theorem dX11_words_42 : decode cX11_words 42 = .ok (.goto (-38), 3) := by decide +kernel
theorem dX11_words_45 : decode cX11_words 45 = .ok (.return_, 1) := by decide +kernel
set_option maxRecDepth 20000 in
theorem ggX11_text_X11_isText : GoodIn wsX11_text wsX11_isText := goodIn_r _ [10, 11, 1, 12, 13, 14, 15, 16, 17, 9, 18, 19, 20, 21, 22, 23, 24, 25, 26, 27, 28, 29, 30, 43, 44, 45, 46, 47, 48, 49, 50, 51, 52, 53, 54, 55, 56, 57, 58, 59, 60, 61, 62, 63, 64, 65, 66, 67, 68, 69, 70, 71, 72, 73, 74, 75, 76, 77, 78, 79, 80, 81, 82, 83, 84, 85, 86] (by decide +kernel) (by decide +kernel)
set_option maxRecDepth 20000 in
theorem gX11_text_X11_isText : GoodIn wsX11_text (wsV RX11 121 RX11 yX11_isText wsX11_isText) := goodIn_app (goodIn_of _ (by decide +kernel)) ggX11_text_X11_isText
set_option maxRecDepth 20000 in
theorem ggX11_text_X11_takes : GoodIn wsX11_text wsX11_takes := goodIn_r _ [34, 35, 13, 36, 14, 37, 15, 43, 44, 45, 46, 47, 48, 49, 50, 51, 52, 53, 54, 55, 56, 57, 58, 59, 60, 61, 62, 63, 64, 65, 66, 67, 68, 69, 70, 71, 72, 73, 74, 75, 76, 77, 78, 79, 80, 81, 82, 83, 84, 85, 86] (by decide +kernel) (by decide +kernel)
set_option maxRecDepth 20000 in
theorem gX11_text_X11_takes : GoodIn wsX11_text (wsV RX11 125 RX11 yX11_takes wsX11_takes) := goodIn_app (goodIn_of _ (by decide +kernel)) ggX11_text_X11_takes
set_option maxRecDepth 20000 in
theorem ggX11_text_X11_words : GoodIn wsX11_text wsX11_words := goodIn_r _ [41, 2, 36, 42, 43, 44, 45, 46, 47, 48, 49, 50, 51, 52, 53, 54, 55, 56, 57, 58, 59, 60, 61, 62, 63, 64, 65, 66, 67, 68, 69, 70, 71, 72, 73, 74, 75, 76, 77, 78, 79, 80, 81, 82, 83, 84, 85, 86] (by decide +kernel) (by decide +kernel)
set_option maxRecDepth 20000 in
theorem gX11_text_X11_words : GoodIn wsX11_text (wsV RX11 129 RX11 yX11_words wsX11_words) := goodIn_app (goodIn_of _ (by decide +kernel)) ggX11_text_X11_words
theorem dX11_text_0 : decode cX11_text 0 = .ok (.aload_n 0, 1) := by decide +kernel
theorem dX11_text_1 : decode cX11_text 1 = .ok (.invokevirtual 121, 3) := by decide +kernel
theorem dX11_text_4 : decode cX11_text 4 = .ok (.ifCond .ne 5, 3) := by decide +kernel
theorem dX11_text_7 : decode cX11_text 7 = .ok (.iconst (-1), 1) := by decide +kernel
theorem dX11_text_8 : decode cX11_text 8 = .ok (.ireturn, 1) := by decide +kernel
theorem dX11_text_9 : decode cX11_text 9 = .ok (.aload_n 0, 1) := by decide +kernel
theorem dX11_text_10 : decode cX11_text 10 = .ok (.aload_n 0, 1) := by decide +kernel
theorem dX11_text_11 : decode cX11_text 11 = .ok (.getfield 101, 3) := by decide +kernel
theorem dX11_text_14 : decode cX11_text 14 = .ok (.putfield 118, 3) := by decide +kernel
theorem dX11_text_17 : decode cX11_text 17 = .ok (.iconst 0, 1) := by decide +kernel
theorem dX11_text_18 : decode cX11_text 18 = .ok (.istore_n 1, 1) := by decide +kernel
theorem dX11_text_19 : decode cX11_text 19 = .ok (.iload_n 1, 1) := by decide +kernel
theorem dX11_text_20 : decode cX11_text 20 = .ok (.aload_n 0, 1) := by decide +kernel
theorem dX11_text_21 : decode cX11_text 21 = .ok (.getfield 118, 3) := by decide +kernel
theorem dX11_text_24 : decode cX11_text 24 = .ok (.if_icmp .ge 15, 3) := by decide +kernel
theorem dX11_text_27 : decode cX11_text 27 = .ok (.aload_n 0, 1) := by decide +kernel
theorem dX11_text_28 : decode cX11_text 28 = .ok (.iload_n 1, 1) := by decide +kernel
theorem dX11_text_29 : decode cX11_text 29 = .ok (.iload_n 1, 1) := by decide +kernel
theorem dX11_text_30 : decode cX11_text 30 = .ok (.invokevirtual 125, 3) := by decide +kernel
theorem dX11_text_33 : decode cX11_text 33 = .ok (.iinc 1 1, 3) := by decide +kernel
theorem dX11_text_36 : decode cX11_text 36 = .ok (.goto (-17), 3) := by decide +kernel
theorem dX11_text_39 : decode cX11_text 39 = .ok (.aload_n 0, 1) := by decide +kernel
theorem dX11_text_40 : decode cX11_text 40 = .ok (.invokevirtual 129, 3) := by decide +kernel
theorem dX11_text_43 : decode cX11_text 43 = .ok (.aload_n 0, 1) := by decide +kernel
theorem dX11_text_44 : decode cX11_text 44 = .ok (.iconst 0, 1) := by decide +kernel
theorem dX11_text_45 : decode cX11_text 45 = .ok (.putfield 132, 3) := by decide +kernel
theorem dX11_text_48 : decode cX11_text 48 = .ok (.aload_n 0, 1) := by decide +kernel
theorem dX11_text_49 : decode cX11_text 49 = .ok (.iconst 0, 1) := by decide +kernel
theorem dX11_text_50 : decode cX11_text 50 = .ok (.putfield 136, 3) := by decide +kernel
theorem dX11_text_53 : decode cX11_text 53 = .ok (.aload_n 0, 1) := by decide +kernel
theorem dX11_text_54 : decode cX11_text 54 = .ok (.iconst 0, 1) := by decide +kernel
theorem dX11_text_55 : decode cX11_text 55 = .ok (.putfield 139, 3) := by decide +kernel
theorem dX11_text_58 : decode cX11_text 58 = .ok (.aload_n 0, 1) := by decide +kernel
theorem dX11_text_59 : decode cX11_text 59 = .ok (.getfield 118, 3) := by decide +kernel
theorem dX11_text_62 : decode cX11_text 62 = .ok (.ireturn, 1) := by decide +kernel
theorem dX11_fault_0 : decode cX11_fault 0 = .ok (.iload_n 1, 1) := by decide +kernel
theorem dX11_fault_1 : decode cX11_fault 1 = .ok (.ifCond .ne 10, 3) := by decide +kernel
theorem dX11_fault_4 : decode cX11_fault 4 = .ok (.aload_n 0, 1) := by decide +kernel
theorem dX11_fault_5 : decode cX11_fault 5 = .ok (.getfield 98, 3) := by decide +kernel
theorem dX11_fault_8 : decode cX11_fault 8 = .ok (.goto 16, 3) := by decide +kernel
theorem dX11_fault_11 : decode cX11_fault 11 = .ok (.iload_n 1, 1) := by decide +kernel
theorem dX11_fault_12 : decode cX11_fault 12 = .ok (.iconst 1, 1) := by decide +kernel
theorem dX11_fault_13 : decode cX11_fault 13 = .ok (.if_icmp .ne 10, 3) := by decide +kernel
theorem dX11_fault_16 : decode cX11_fault 16 = .ok (.aload_n 0, 1) := by decide +kernel
theorem dX11_fault_17 : decode cX11_fault 17 = .ok (.getfield 25, 3) := by decide +kernel
theorem dX11_fault_20 : decode cX11_fault 20 = .ok (.goto 4, 3) := by decide +kernel
theorem dX11_fault_23 : decode cX11_fault 23 = .ok (.iconst (-1), 1) := by decide +kernel
theorem dX11_fault_24 : decode cX11_fault 24 = .ok (.ireturn, 1) := by decide +kernel
set_option maxRecDepth 20000 in
theorem ggX11_put_X11_isText : GoodIn wsX11_put wsX11_isText := goodIn_r _ [14, 3, 4, 15, 16, 17, 18, 19, 20, 13, 21, 22, 23, 24, 25, 26, 27, 28, 29, 30, 31, 32, 33, 43, 44, 45, 46, 47, 48, 49, 50, 51, 52, 53, 54, 55, 56, 57, 58, 59, 60, 61, 62, 63, 64, 65, 66, 67, 68, 69, 70, 71, 72, 73, 74, 75, 76, 77, 78, 79, 80, 81, 82, 83, 84, 85, 86] (by decide +kernel) (by decide +kernel)
set_option maxRecDepth 20000 in
theorem gX11_put_X11_isText : GoodIn wsX11_put (wsV RX11 121 RX11 yX11_isText wsX11_isText) := goodIn_app (goodIn_of _ (by decide +kernel)) ggX11_put_X11_isText
set_option maxRecDepth 20000 in
theorem ggX11_put_X11_takes : GoodIn wsX11_put wsX11_takes := goodIn_r _ [37, 5, 16, 2, 17, 6, 18, 43, 44, 45, 46, 47, 48, 49, 50, 51, 52, 53, 54, 55, 56, 57, 58, 59, 60, 61, 62, 63, 64, 65, 66, 67, 68, 69, 70, 71, 72, 73, 74, 75, 76, 77, 78, 79, 80, 81, 82, 83, 84, 85, 86] (by decide +kernel) (by decide +kernel)
set_option maxRecDepth 20000 in
theorem gX11_put_X11_takes : GoodIn wsX11_put (wsV RX11 125 RX11 yX11_takes wsX11_takes) := goodIn_app (goodIn_of _ (by decide +kernel)) ggX11_put_X11_takes
set_option maxRecDepth 20000 in
theorem ggX11_put_X11_words : GoodIn wsX11_put wsX11_words := goodIn_r _ [41, 1, 2, 42, 43, 44, 45, 46, 47, 48, 49, 50, 51, 52, 53, 54, 55, 56, 57, 58, 59, 60, 61, 62, 63, 64, 65, 66, 67, 68, 69, 70, 71, 72, 73, 74, 75, 76, 77, 78, 79, 80, 81, 82, 83, 84, 85, 86] (by decide +kernel) (by decide +kernel)
set_option maxRecDepth 20000 in
theorem gX11_put_X11_words : GoodIn wsX11_put (wsV RX11 129 RX11 yX11_words wsX11_words) := goodIn_app (goodIn_of _ (by decide +kernel)) ggX11_put_X11_words
theorem dX11_put_0 : decode cX11_put 0 = .ok (.iload_n 1, 1) := by decide +kernel
theorem dX11_put_1 : decode cX11_put 1 = .ok (.ifCond .lt 39, 3) := by decide +kernel
theorem dX11_put_4 : decode cX11_put 4 = .ok (.iload_n 1, 1) := by decide +kernel
theorem dX11_put_5 : decode cX11_put 5 = .ok (.aload_n 0, 1) := by decide +kernel
theorem dX11_put_6 : decode cX11_put 6 = .ok (.getfield 118, 3) := by decide +kernel
theorem dX11_put_9 : decode cX11_put 9 = .ok (.if_icmp .ge 31, 3) := by decide +kernel
theorem dX11_put_12 : decode cX11_put 12 = .ok (.aload_n 0, 1) := by decide +kernel
theorem dX11_put_13 : decode cX11_put 13 = .ok (.getfield 16, 3) := by decide +kernel
theorem dX11_put_16 : decode cX11_put 16 = .ok (.iload_n 1, 1) := by decide +kernel
theorem dX11_put_17 : decode cX11_put 17 = .ok (.iaload, 1) := by decide +kernel
theorem dX11_put_18 : decode cX11_put 18 = .ok (.bipush 45, 2) := by decide +kernel
theorem dX11_put_20 : decode cX11_put 20 = .ok (.if_icmp .eq 20, 3) := by decide +kernel
theorem dX11_put_23 : decode cX11_put 23 = .ok (.iload_n 1, 1) := by decide +kernel
theorem dX11_put_24 : decode cX11_put 24 = .ok (.ifCond .le 23, 3) := by decide +kernel
theorem dX11_put_27 : decode cX11_put 27 = .ok (.aload_n 0, 1) := by decide +kernel
theorem dX11_put_28 : decode cX11_put 28 = .ok (.getfield 16, 3) := by decide +kernel
theorem dX11_put_31 : decode cX11_put 31 = .ok (.iload_n 1, 1) := by decide +kernel
theorem dX11_put_32 : decode cX11_put 32 = .ok (.iconst 1, 1) := by decide +kernel
theorem dX11_put_33 : decode cX11_put 33 = .ok (.isub, 1) := by decide +kernel
theorem dX11_put_34 : decode cX11_put 34 = .ok (.iaload, 1) := by decide +kernel
theorem dX11_put_35 : decode cX11_put 35 = .ok (.bipush 45, 2) := by decide +kernel
theorem dX11_put_37 : decode cX11_put 37 = .ok (.if_icmp .ne 10, 3) := by decide +kernel
theorem dX11_put_40 : decode cX11_put 40 = .ok (.aload_n 0, 1) := by decide +kernel
theorem dX11_put_41 : decode cX11_put 41 = .ok (.iconst 0, 1) := by decide +kernel
theorem dX11_put_42 : decode cX11_put 42 = .ok (.putfield 95, 3) := by decide +kernel
theorem dX11_put_45 : decode cX11_put 45 = .ok (.iconst (-1), 1) := by decide +kernel
theorem dX11_put_46 : decode cX11_put 46 = .ok (.ireturn, 1) := by decide +kernel
theorem dX11_put_47 : decode cX11_put 47 = .ok (.aload_n 0, 1) := by decide +kernel
theorem dX11_put_48 : decode cX11_put 48 = .ok (.invokevirtual 121, 3) := by decide +kernel
theorem dX11_put_51 : decode cX11_put 51 = .ok (.ifCond .eq 26, 3) := by decide +kernel
theorem dX11_put_54 : decode cX11_put 54 = .ok (.aload_n 0, 1) := by decide +kernel
theorem dX11_put_55 : decode cX11_put 55 = .ok (.getfield 101, 3) := by decide +kernel
theorem dX11_put_58 : decode cX11_put 58 = .ok (.ifCond .eq 19, 3) := by decide +kernel
theorem dX11_put_61 : decode cX11_put 61 = .ok (.aload_n 0, 1) := by decide +kernel
theorem dX11_put_62 : decode cX11_put 62 = .ok (.getfield 118, 3) := by decide +kernel
theorem dX11_put_65 : decode cX11_put 65 = .ok (.iconst 1, 1) := by decide +kernel
theorem dX11_put_66 : decode cX11_put 66 = .ok (.isub, 1) := by decide +kernel
theorem dX11_put_67 : decode cX11_put 67 = .ok (.aload_n 0, 1) := by decide +kernel
theorem dX11_put_68 : decode cX11_put 68 = .ok (.getfield 101, 3) := by decide +kernel
theorem dX11_put_71 : decode cX11_put 71 = .ok (.iadd, 1) := by decide +kernel
theorem dX11_put_72 : decode cX11_put 72 = .ok (.bipush 80, 2) := by decide +kernel
theorem dX11_put_74 : decode cX11_put 74 = .ok (.if_icmp .le 6, 3) := by decide +kernel
theorem dX11_put_77 : decode cX11_put 77 = .ok (.bipush (-2), 2) := by decide +kernel
theorem dX11_put_79 : decode cX11_put 79 = .ok (.ireturn, 1) := by decide +kernel
theorem dX11_put_80 : decode cX11_put 80 = .ok (.aload_n 0, 1) := by decide +kernel
theorem dX11_put_81 : decode cX11_put 81 = .ok (.getfield 101, 3) := by decide +kernel
theorem dX11_put_84 : decode cX11_put 84 = .ok (.iconst 1, 1) := by decide +kernel
theorem dX11_put_85 : decode cX11_put 85 = .ok (.isub, 1) := by decide +kernel
theorem dX11_put_86 : decode cX11_put 86 = .ok (.istore_n 2, 1) := by decide +kernel
theorem dX11_put_87 : decode cX11_put 87 = .ok (.aload_n 0, 1) := by decide +kernel
theorem dX11_put_88 : decode cX11_put 88 = .ok (.getfield 118, 3) := by decide +kernel
theorem dX11_put_91 : decode cX11_put 91 = .ok (.iconst 1, 1) := by decide +kernel
theorem dX11_put_92 : decode cX11_put 92 = .ok (.isub, 1) := by decide +kernel
theorem dX11_put_93 : decode cX11_put 93 = .ok (.istore_n 3, 1) := by decide +kernel
theorem dX11_put_94 : decode cX11_put 94 = .ok (.iload_n 3, 1) := by decide +kernel
theorem dX11_put_95 : decode cX11_put 95 = .ok (.iload_n 1, 1) := by decide +kernel
theorem dX11_put_96 : decode cX11_put 96 = .ok (.if_icmp .le 79, 3) := by decide +kernel
theorem dX11_put_99 : decode cX11_put 99 = .ok (.aload_n 0, 1) := by decide +kernel
theorem dX11_put_100 : decode cX11_put 100 = .ok (.getfield 7, 3) := by decide +kernel
theorem dX11_put_103 : decode cX11_put 103 = .ok (.iload_n 3, 1) := by decide +kernel
theorem dX11_put_104 : decode cX11_put 104 = .ok (.iload_n 2, 1) := by decide +kernel
theorem dX11_put_105 : decode cX11_put 105 = .ok (.iadd, 1) := by decide +kernel
theorem dX11_put_106 : decode cX11_put 106 = .ok (.aload_n 0, 1) := by decide +kernel
theorem dX11_put_107 : decode cX11_put 107 = .ok (.getfield 7, 3) := by decide +kernel
theorem dX11_put_110 : decode cX11_put 110 = .ok (.iload_n 3, 1) := by decide +kernel
theorem dX11_put_111 : decode cX11_put 111 = .ok (.iaload, 1) := by decide +kernel
theorem dX11_put_112 : decode cX11_put 112 = .ok (.iastore, 1) := by decide +kernel
theorem dX11_put_113 : decode cX11_put 113 = .ok (.aload_n 0, 1) := by decide +kernel
theorem dX11_put_114 : decode cX11_put 114 = .ok (.getfield 16, 3) := by decide +kernel
theorem dX11_put_117 : decode cX11_put 117 = .ok (.iload_n 3, 1) := by decide +kernel
theorem dX11_put_118 : decode cX11_put 118 = .ok (.iload_n 2, 1) := by decide +kernel
theorem dX11_put_119 : decode cX11_put 119 = .ok (.iadd, 1) := by decide +kernel
theorem dX11_put_120 : decode cX11_put 120 = .ok (.aload_n 0, 1) := by decide +kernel
theorem dX11_put_121 : decode cX11_put 121 = .ok (.getfield 16, 3) := by decide +kernel
theorem dX11_put_124 : decode cX11_put 124 = .ok (.iload_n 3, 1) := by decide +kernel
theorem dX11_put_125 : decode cX11_put 125 = .ok (.iaload, 1) := by decide +kernel
theorem dX11_put_126 : decode cX11_put 126 = .ok (.iastore, 1) := by decide +kernel
theorem dX11_put_127 : decode cX11_put 127 = .ok (.iconst 0, 1) := by decide +kernel
theorem dX11_put_128 : decode cX11_put 128 = .ok (.istore 4, 2) := by decide +kernel
theorem dX11_put_130 : decode cX11_put 130 = .ok (.iload 4, 2) := by decide +kernel
theorem dX11_put_132 : decode cX11_put 132 = .ok (.bipush 20, 2) := by decide +kernel
theorem dX11_put_134 : decode cX11_put 134 = .ok (.if_icmp .ge 35, 3) := by decide +kernel
theorem dX11_put_137 : decode cX11_put 137 = .ok (.aload_n 0, 1) := by decide +kernel
theorem dX11_put_138 : decode cX11_put 138 = .ok (.getfield 13, 3) := by decide +kernel
theorem dX11_put_141 : decode cX11_put 141 = .ok (.bipush 20, 2) := by decide +kernel
theorem dX11_put_143 : decode cX11_put 143 = .ok (.iload_n 3, 1) := by decide +kernel
theorem dX11_put_144 : decode cX11_put 144 = .ok (.iload_n 2, 1) := by decide +kernel
theorem dX11_put_145 : decode cX11_put 145 = .ok (.iadd, 1) := by decide +kernel
theorem dX11_put_146 : decode cX11_put 146 = .ok (.imul, 1) := by decide +kernel
theorem dX11_put_147 : decode cX11_put 147 = .ok (.iload 4, 2) := by decide +kernel
theorem dX11_put_149 : decode cX11_put 149 = .ok (.iadd, 1) := by decide +kernel
theorem dX11_put_150 : decode cX11_put 150 = .ok (.aload_n 0, 1) := by decide +kernel
theorem dX11_put_151 : decode cX11_put 151 = .ok (.getfield 13, 3) := by decide +kernel
theorem dX11_put_154 : decode cX11_put 154 = .ok (.bipush 20, 2) := by decide +kernel
theorem dX11_put_156 : decode cX11_put 156 = .ok (.iload_n 3, 1) := by decide +kernel
theorem dX11_put_157 : decode cX11_put 157 = .ok (.imul, 1) := by decide +kernel
theorem dX11_put_158 : decode cX11_put 158 = .ok (.iload 4, 2) := by decide +kernel
theorem dX11_put_160 : decode cX11_put 160 = .ok (.iadd, 1) := by decide +kernel
theorem dX11_put_161 : decode cX11_put 161 = .ok (.iaload, 1) := by decide +kernel
theorem dX11_put_162 : decode cX11_put 162 = .ok (.iastore, 1) := by decide +kernel
theorem dX11_put_163 : decode cX11_put 163 = .ok (.iinc 4 1, 3) := by decide +kernel
theorem dX11_put_166 : decode cX11_put 166 = .ok (.goto (-36), 3) := by decide +kernel
theorem dX11_put_169 : decode cX11_put 169 = .ok (.iinc 3 (-1), 3) := by decide +kernel
theorem dX11_put_172 : decode cX11_put 172 = .ok (.goto (-78), 3) := by decide +kernel
theorem dX11_put_175 : decode cX11_put 175 = .ok (.aload_n 0, 1) := by decide +kernel
theorem dX11_put_176 : decode cX11_put 176 = .ok (.dup, 1) := by decide +kernel
theorem dX11_put_177 : decode cX11_put 177 = .ok (.getfield 118, 3) := by decide +kernel
theorem dX11_put_180 : decode cX11_put 180 = .ok (.iload_n 2, 1) := by decide +kernel
theorem dX11_put_181 : decode cX11_put 181 = .ok (.iadd, 1) := by decide +kernel
theorem dX11_put_182 : decode cX11_put 182 = .ok (.putfield 118, 3) := by decide +kernel
theorem dX11_put_185 : decode cX11_put 185 = .ok (.iconst 0, 1) := by decide +kernel
theorem dX11_put_186 : decode cX11_put 186 = .ok (.istore_n 3, 1) := by decide +kernel
theorem dX11_put_187 : decode cX11_put 187 = .ok (.iload_n 3, 1) := by decide +kernel
theorem dX11_put_188 : decode cX11_put 188 = .ok (.aload_n 0, 1) := by decide +kernel
theorem dX11_put_189 : decode cX11_put 189 = .ok (.getfield 101, 3) := by decide +kernel
theorem dX11_put_192 : decode cX11_put 192 = .ok (.if_icmp .ge 17, 3) := by decide +kernel
theorem dX11_put_195 : decode cX11_put 195 = .ok (.aload_n 0, 1) := by decide +kernel
theorem dX11_put_196 : decode cX11_put 196 = .ok (.iload_n 3, 1) := by decide +kernel
theorem dX11_put_197 : decode cX11_put 197 = .ok (.iload_n 1, 1) := by decide +kernel
theorem dX11_put_198 : decode cX11_put 198 = .ok (.iload_n 3, 1) := by decide +kernel
theorem dX11_put_199 : decode cX11_put 199 = .ok (.iadd, 1) := by decide +kernel
theorem dX11_put_200 : decode cX11_put 200 = .ok (.invokevirtual 125, 3) := by decide +kernel
theorem dX11_put_203 : decode cX11_put 203 = .ok (.iinc 3 1, 3) := by decide +kernel
theorem dX11_put_206 : decode cX11_put 206 = .ok (.goto (-19), 3) := by decide +kernel
theorem dX11_put_209 : decode cX11_put 209 = .ok (.aload_n 0, 1) := by decide +kernel
theorem dX11_put_210 : decode cX11_put 210 = .ok (.invokevirtual 129, 3) := by decide +kernel
theorem dX11_put_213 : decode cX11_put 213 = .ok (.iconst 0, 1) := by decide +kernel
theorem dX11_put_214 : decode cX11_put 214 = .ok (.istore_n 3, 1) := by decide +kernel
theorem dX11_put_215 : decode cX11_put 215 = .ok (.iload_n 3, 1) := by decide +kernel
theorem dX11_put_216 : decode cX11_put 216 = .ok (.aload_n 0, 1) := by decide +kernel
theorem dX11_put_217 : decode cX11_put 217 = .ok (.getfield 139, 3) := by decide +kernel
theorem dX11_put_220 : decode cX11_put 220 = .ok (.if_icmp .ge 29, 3) := by decide +kernel
theorem dX11_put_223 : decode cX11_put 223 = .ok (.aload_n 0, 1) := by decide +kernel
theorem dX11_put_224 : decode cX11_put 224 = .ok (.getfield 89, 3) := by decide +kernel
theorem dX11_put_227 : decode cX11_put 227 = .ok (.iload_n 3, 1) := by decide +kernel
theorem dX11_put_228 : decode cX11_put 228 = .ok (.iaload, 1) := by decide +kernel
theorem dX11_put_229 : decode cX11_put 229 = .ok (.iload_n 1, 1) := by decide +kernel
theorem dX11_put_230 : decode cX11_put 230 = .ok (.if_icmp .le 13, 3) := by decide +kernel
theorem dX11_put_233 : decode cX11_put 233 = .ok (.aload_n 0, 1) := by decide +kernel
theorem dX11_put_234 : decode cX11_put 234 = .ok (.getfield 89, 3) := by decide +kernel
theorem dX11_put_237 : decode cX11_put 237 = .ok (.iload_n 3, 1) := by decide +kernel
theorem dX11_put_238 : decode cX11_put 238 = .ok (.dup2, 1) := by decide +kernel
theorem dX11_put_239 : decode cX11_put 239 = .ok (.iaload, 1) := by decide +kernel
theorem dX11_put_240 : decode cX11_put 240 = .ok (.iload_n 2, 1) := by decide +kernel
theorem dX11_put_241 : decode cX11_put 241 = .ok (.iadd, 1) := by decide +kernel
theorem dX11_put_242 : decode cX11_put 242 = .ok (.iastore, 1) := by decide +kernel
theorem dX11_put_243 : decode cX11_put 243 = .ok (.iinc 3 1, 3) := by decide +kernel
theorem dX11_put_246 : decode cX11_put 246 = .ok (.goto (-31), 3) := by decide +kernel
theorem dX11_put_249 : decode cX11_put 249 = .ok (.aload_n 0, 1) := by decide +kernel
theorem dX11_put_250 : decode cX11_put 250 = .ok (.iconst 0, 1) := by decide +kernel
theorem dX11_put_251 : decode cX11_put 251 = .ok (.putfield 136, 3) := by decide +kernel
theorem dX11_put_254 : decode cX11_put 254 = .ok (.aload_n 0, 1) := by decide +kernel
theorem dX11_put_255 : decode cX11_put 255 = .ok (.getfield 118, 3) := by decide +kernel
theorem dX11_put_258 : decode cX11_put 258 = .ok (.ireturn, 1) := by decide +kernel
theorem dX11_unit_0 : decode cX11_unit 0 = .ok (.iload_n 1, 1) := by decide +kernel
theorem dX11_unit_1 : decode cX11_unit 1 = .ok (.ifCond .lt 11, 3) := by decide +kernel
theorem dX11_unit_4 : decode cX11_unit 4 = .ok (.iload_n 1, 1) := by decide +kernel
theorem dX11_unit_5 : decode cX11_unit 5 = .ok (.aload_n 0, 1) := by decide +kernel
theorem dX11_unit_6 : decode cX11_unit 6 = .ok (.getfield 118, 3) := by decide +kernel
theorem dX11_unit_9 : decode cX11_unit 9 = .ok (.if_icmp .lt 5, 3) := by decide +kernel
theorem dX11_unit_12 : decode cX11_unit 12 = .ok (.iconst (-1), 1) := by decide +kernel
theorem dX11_unit_13 : decode cX11_unit 13 = .ok (.ireturn, 1) := by decide +kernel
theorem dX11_unit_14 : decode cX11_unit 14 = .ok (.iload_n 2, 1) := by decide +kernel
theorem dX11_unit_15 : decode cX11_unit 15 = .ok (.ifCond .ne 12, 3) := by decide +kernel
theorem dX11_unit_18 : decode cX11_unit 18 = .ok (.aload_n 0, 1) := by decide +kernel
theorem dX11_unit_19 : decode cX11_unit 19 = .ok (.getfield 7, 3) := by decide +kernel
theorem dX11_unit_22 : decode cX11_unit 22 = .ok (.iload_n 1, 1) := by decide +kernel
theorem dX11_unit_23 : decode cX11_unit 23 = .ok (.iaload, 1) := by decide +kernel
theorem dX11_unit_24 : decode cX11_unit 24 = .ok (.goto 32, 3) := by decide +kernel
theorem dX11_unit_27 : decode cX11_unit 27 = .ok (.iload_n 2, 1) := by decide +kernel
theorem dX11_unit_28 : decode cX11_unit 28 = .ok (.iconst 1, 1) := by decide +kernel
theorem dX11_unit_29 : decode cX11_unit 29 = .ok (.if_icmp .ne 12, 3) := by decide +kernel
theorem dX11_unit_32 : decode cX11_unit 32 = .ok (.aload_n 0, 1) := by decide +kernel
theorem dX11_unit_33 : decode cX11_unit 33 = .ok (.getfield 16, 3) := by decide +kernel
theorem dX11_unit_36 : decode cX11_unit 36 = .ok (.iload_n 1, 1) := by decide +kernel
theorem dX11_unit_37 : decode cX11_unit 37 = .ok (.iaload, 1) := by decide +kernel
theorem dX11_unit_38 : decode cX11_unit 38 = .ok (.goto 18, 3) := by decide +kernel
theorem dX11_unit_41 : decode cX11_unit 41 = .ok (.iload_n 2, 1) := by decide +kernel
theorem dX11_unit_42 : decode cX11_unit 42 = .ok (.iconst 2, 1) := by decide +kernel
theorem dX11_unit_43 : decode cX11_unit 43 = .ok (.if_icmp .ne 12, 3) := by decide +kernel
theorem dX11_unit_46 : decode cX11_unit 46 = .ok (.aload_n 0, 1) := by decide +kernel
theorem dX11_unit_47 : decode cX11_unit 47 = .ok (.getfield 19, 3) := by decide +kernel
theorem dX11_unit_50 : decode cX11_unit 50 = .ok (.iload_n 1, 1) := by decide +kernel
theorem dX11_unit_51 : decode cX11_unit 51 = .ok (.iaload, 1) := by decide +kernel
theorem dX11_unit_52 : decode cX11_unit 52 = .ok (.goto 4, 3) := by decide +kernel
theorem dX11_unit_55 : decode cX11_unit 55 = .ok (.iconst (-1), 1) := by decide +kernel
theorem dX11_unit_56 : decode cX11_unit 56 = .ok (.ireturn, 1) := by decide +kernel
theorem dX11_isIn_0 : decode cX11_isIn 0 = .ok (.iload_n 0, 1) := by decide +kernel
theorem dX11_isIn_1 : decode cX11_isIn 1 = .ok (.iload_n 1, 1) := by decide +kernel
theorem dX11_isIn_2 : decode cX11_isIn 2 = .ok (.if_icmp .lt 12, 3) := by decide +kernel
theorem dX11_isIn_5 : decode cX11_isIn 5 = .ok (.iload_n 0, 1) := by decide +kernel
theorem dX11_isIn_6 : decode cX11_isIn 6 = .ok (.iload_n 2, 1) := by decide +kernel
theorem dX11_isIn_7 : decode cX11_isIn 7 = .ok (.if_icmp .gt 7, 3) := by decide +kernel
theorem dX11_isIn_10 : decode cX11_isIn 10 = .ok (.iconst 1, 1) := by decide +kernel
theorem dX11_isIn_11 : decode cX11_isIn 11 = .ok (.goto 4, 3) := by decide +kernel
theorem dX11_isIn_14 : decode cX11_isIn 14 = .ok (.iconst 0, 1) := by decide +kernel
theorem dX11_isIn_15 : decode cX11_isIn 15 = .ok (.ireturn, 1) := by decide +kernel
set_option maxRecDepth 20000 in
theorem ggX11_measure_X11_isIn : GoodIn wsX11_measure wsX11_isIn := goodIn_r _ [6] (by decide +kernel) (by decide +kernel)
set_option maxRecDepth 20000 in
theorem gX11_measure_X11_isIn : GoodIn wsX11_measure (va_wsS RX11 142 yX11_isIn wsX11_isIn) := goodIn_app (goodIn_of _ (by decide +kernel)) ggX11_measure_X11_isIn
theorem dX11_measure_0 : decode cX11_measure 0 = .ok (.iload_n 1, 1) := by decide +kernel
theorem dX11_measure_1 : decode cX11_measure 1 = .ok (.bipush 10, 2) := by decide +kernel
theorem dX11_measure_3 : decode cX11_measure 3 = .ok (.bipush 60, 2) := by decide +kernel
theorem dX11_measure_5 : decode cX11_measure 5 = .ok (.invokestatic 142, 3) := by decide +kernel
theorem dX11_measure_8 : decode cX11_measure 8 = .ok (.ifCond .eq 12, 3) := by decide +kernel
theorem dX11_measure_11 : decode cX11_measure 11 = .ok (.iload_n 2, 1) := by decide +kernel
theorem dX11_measure_12 : decode cX11_measure 12 = .ok (.iconst 1, 1) := by decide +kernel
theorem dX11_measure_13 : decode cX11_measure 13 = .ok (.iconst 3, 1) := by decide +kernel
theorem dX11_measure_14 : decode cX11_measure 14 = .ok (.invokestatic 142, 3) := by decide +kernel
theorem dX11_measure_17 : decode cX11_measure 17 = .ok (.ifCond .ne 5, 3) := by decide +kernel
theorem dX11_measure_20 : decode cX11_measure 20 = .ok (.iconst 0, 1) := by decide +kernel
theorem dX11_measure_21 : decode cX11_measure 21 = .ok (.ireturn, 1) := by decide +kernel
theorem dX11_measure_22 : decode cX11_measure 22 = .ok (.aload_n 0, 1) := by decide +kernel
theorem dX11_measure_23 : decode cX11_measure 23 = .ok (.iload_n 1, 1) := by decide +kernel
theorem dX11_measure_24 : decode cX11_measure 24 = .ok (.putfield 38, 3) := by decide +kernel
theorem dX11_measure_27 : decode cX11_measure 27 = .ok (.aload_n 0, 1) := by decide +kernel
theorem dX11_measure_28 : decode cX11_measure 28 = .ok (.iload_n 2, 1) := by decide +kernel
theorem dX11_measure_29 : decode cX11_measure 29 = .ok (.putfield 41, 3) := by decide +kernel
theorem dX11_measure_32 : decode cX11_measure 32 = .ok (.iconst 1, 1) := by decide +kernel
theorem dX11_measure_33 : decode cX11_measure 33 = .ok (.ireturn, 1) := by decide +kernel
set_option maxRecDepth 20000 in
theorem ggX11_strains_X11_isIn : GoodIn wsX11_strains wsX11_isIn := goodIn_r _ [9] (by decide +kernel) (by decide +kernel)
set_option maxRecDepth 20000 in
theorem gX11_strains_X11_isIn : GoodIn wsX11_strains (va_wsS RX11 142 yX11_isIn wsX11_isIn) := goodIn_app (goodIn_of _ (by decide +kernel)) ggX11_strains_X11_isIn
theorem dX11_strains_0 : decode cX11_strains 0 = .ok (.iload_n 1, 1) := by decide +kernel
theorem dX11_strains_1 : decode cX11_strains 1 = .ok (.iconst 0, 1) := by decide +kernel
theorem dX11_strains_2 : decode cX11_strains 2 = .ok (.bipush 100, 2) := by decide +kernel
theorem dX11_strains_4 : decode cX11_strains 4 = .ok (.invokestatic 142, 3) := by decide +kernel
theorem dX11_strains_7 : decode cX11_strains 7 = .ok (.ifCond .eq 49, 3) := by decide +kernel
theorem dX11_strains_10 : decode cX11_strains 10 = .ok (.iload_n 2, 1) := by decide +kernel
theorem dX11_strains_11 : decode cX11_strains 11 = .ok (.iconst 0, 1) := by decide +kernel
theorem dX11_strains_12 : decode cX11_strains 12 = .ok (.sipush 10000, 3) := by decide +kernel
theorem dX11_strains_15 : decode cX11_strains 15 = .ok (.invokestatic 142, 3) := by decide +kernel
theorem dX11_strains_18 : decode cX11_strains 18 = .ok (.ifCond .eq 38, 3) := by decide +kernel
theorem dX11_strains_21 : decode cX11_strains 21 = .ok (.iload_n 3, 1) := by decide +kernel
theorem dX11_strains_22 : decode cX11_strains 22 = .ok (.iconst 0, 1) := by decide +kernel
theorem dX11_strains_23 : decode cX11_strains 23 = .ok (.sipush 10000, 3) := by decide +kernel
theorem dX11_strains_26 : decode cX11_strains 26 = .ok (.invokestatic 142, 3) := by decide +kernel
theorem dX11_strains_29 : decode cX11_strains 29 = .ok (.ifCond .eq 27, 3) := by decide +kernel
theorem dX11_strains_32 : decode cX11_strains 32 = .ok (.iload 4, 2) := by decide +kernel
theorem dX11_strains_34 : decode cX11_strains 34 = .ok (.iconst 0, 1) := by decide +kernel
theorem dX11_strains_35 : decode cX11_strains 35 = .ok (.sipush 10000, 3) := by decide +kernel
theorem dX11_strains_38 : decode cX11_strains 38 = .ok (.invokestatic 142, 3) := by decide +kernel
theorem dX11_strains_41 : decode cX11_strains 41 = .ok (.ifCond .eq 15, 3) := by decide +kernel
theorem dX11_strains_44 : decode cX11_strains 44 = .ok (.iload 5, 2) := by decide +kernel
theorem dX11_strains_46 : decode cX11_strains 46 = .ok (.iconst 0, 1) := by decide +kernel
theorem dX11_strains_47 : decode cX11_strains 47 = .ok (.sipush 1000, 3) := by decide +kernel
theorem dX11_strains_50 : decode cX11_strains 50 = .ok (.invokestatic 142, 3) := by decide +kernel
theorem dX11_strains_53 : decode cX11_strains 53 = .ok (.ifCond .ne 5, 3) := by decide +kernel
theorem dX11_strains_56 : decode cX11_strains 56 = .ok (.iconst 0, 1) := by decide +kernel
theorem dX11_strains_57 : decode cX11_strains 57 = .ok (.ireturn, 1) := by decide +kernel
theorem dX11_strains_58 : decode cX11_strains 58 = .ok (.aload_n 0, 1) := by decide +kernel
theorem dX11_strains_59 : decode cX11_strains 59 = .ok (.iload_n 1, 1) := by decide +kernel
theorem dX11_strains_60 : decode cX11_strains 60 = .ok (.putfield 44, 3) := by decide +kernel
theorem dX11_strains_63 : decode cX11_strains 63 = .ok (.aload_n 0, 1) := by decide +kernel
theorem dX11_strains_64 : decode cX11_strains 64 = .ok (.iload_n 2, 1) := by decide +kernel
theorem dX11_strains_65 : decode cX11_strains 65 = .ok (.putfield 47, 3) := by decide +kernel
theorem dX11_strains_68 : decode cX11_strains 68 = .ok (.aload_n 0, 1) := by decide +kernel
theorem dX11_strains_69 : decode cX11_strains 69 = .ok (.iload_n 3, 1) := by decide +kernel
theorem dX11_strains_70 : decode cX11_strains 70 = .ok (.putfield 50, 3) := by decide +kernel
theorem dX11_strains_73 : decode cX11_strains 73 = .ok (.aload_n 0, 1) := by decide +kernel
theorem dX11_strains_74 : decode cX11_strains 74 = .ok (.iload 4, 2) := by decide +kernel
theorem dX11_strains_76 : decode cX11_strains 76 = .ok (.putfield 53, 3) := by decide +kernel
theorem dX11_strains_79 : decode cX11_strains 79 = .ok (.aload_n 0, 1) := by decide +kernel
theorem dX11_strains_80 : decode cX11_strains 80 = .ok (.iload 5, 2) := by decide +kernel
theorem dX11_strains_82 : decode cX11_strains 82 = .ok (.putfield 56, 3) := by decide +kernel
theorem dX11_strains_85 : decode cX11_strains 85 = .ok (.iconst 1, 1) := by decide +kernel
theorem dX11_strains_86 : decode cX11_strains 86 = .ok (.ireturn, 1) := by decide +kernel
set_option maxRecDepth 20000 in
theorem ggX11_like_X11_isLetter : GoodIn wsX11_like wsX11_isLetter := goodIn_r _ [5] (by decide +kernel) (by decide +kernel)
set_option maxRecDepth 20000 in
theorem gX11_like_X11_isLetter : GoodIn wsX11_like (va_wsS RX11 104 yX11_isLetter wsX11_isLetter) := goodIn_app (goodIn_of _ (by decide +kernel)) ggX11_like_X11_isLetter
set_option maxRecDepth 20000 in
theorem ggX11_like_X11_isIn : GoodIn wsX11_like wsX11_isIn := goodIn_r _ [8] (by decide +kernel) (by decide +kernel)
set_option maxRecDepth 20000 in
theorem gX11_like_X11_isIn : GoodIn wsX11_like (va_wsS RX11 142 yX11_isIn wsX11_isIn) := goodIn_app (goodIn_of _ (by decide +kernel)) ggX11_like_X11_isIn
theorem dX11_like_0 : decode cX11_like 0 = .ok (.iload_n 1, 1) := by decide +kernel
theorem dX11_like_1 : decode cX11_like 1 = .ok (.invokestatic 104, 3) := by decide +kernel
theorem dX11_like_4 : decode cX11_like 4 = .ok (.ifCond .eq 21, 3) := by decide +kernel
theorem dX11_like_7 : decode cX11_like 7 = .ok (.iload_n 2, 1) := by decide +kernel
theorem dX11_like_8 : decode cX11_like 8 = .ok (.invokestatic 104, 3) := by decide +kernel
theorem dX11_like_11 : decode cX11_like 11 = .ok (.ifCond .eq 14, 3) := by decide +kernel
theorem dX11_like_14 : decode cX11_like 14 = .ok (.iload_n 3, 1) := by decide +kernel
theorem dX11_like_15 : decode cX11_like 15 = .ok (.iconst 0, 1) := by decide +kernel
theorem dX11_like_16 : decode cX11_like 16 = .ok (.sipush 1000, 3) := by decide +kernel
theorem dX11_like_19 : decode cX11_like 19 = .ok (.invokestatic 142, 3) := by decide +kernel
theorem dX11_like_22 : decode cX11_like 22 = .ok (.ifCond .ne 5, 3) := by decide +kernel
theorem dX11_like_25 : decode cX11_like 25 = .ok (.iconst (-1), 1) := by decide +kernel
theorem dX11_like_26 : decode cX11_like 26 = .ok (.ireturn, 1) := by decide +kernel
theorem dX11_like_27 : decode cX11_like 27 = .ok (.aload_n 0, 1) := by decide +kernel
theorem dX11_like_28 : decode cX11_like 28 = .ok (.getfield 59, 3) := by decide +kernel
theorem dX11_like_31 : decode cX11_like 31 = .ok (.bipush 26, 2) := by decide +kernel
theorem dX11_like_33 : decode cX11_like 33 = .ok (.iload_n 1, 1) := by decide +kernel
theorem dX11_like_34 : decode cX11_like 34 = .ok (.bipush 97, 2) := by decide +kernel
theorem dX11_like_36 : decode cX11_like 36 = .ok (.isub, 1) := by decide +kernel
theorem dX11_like_37 : decode cX11_like 37 = .ok (.imul, 1) := by decide +kernel
theorem dX11_like_38 : decode cX11_like 38 = .ok (.iload_n 2, 1) := by decide +kernel
theorem dX11_like_39 : decode cX11_like 39 = .ok (.iadd, 1) := by decide +kernel
theorem dX11_like_40 : decode cX11_like 40 = .ok (.bipush 97, 2) := by decide +kernel
theorem dX11_like_42 : decode cX11_like 42 = .ok (.isub, 1) := by decide +kernel
theorem dX11_like_43 : decode cX11_like 43 = .ok (.iaload, 1) := by decide +kernel
theorem dX11_like_44 : decode cX11_like 44 = .ok (.istore 4, 2) := by decide +kernel
theorem dX11_like_46 : decode cX11_like 46 = .ok (.aload_n 0, 1) := by decide +kernel
theorem dX11_like_47 : decode cX11_like 47 = .ok (.getfield 59, 3) := by decide +kernel
theorem dX11_like_50 : decode cX11_like 50 = .ok (.bipush 26, 2) := by decide +kernel
theorem dX11_like_52 : decode cX11_like 52 = .ok (.iload_n 1, 1) := by decide +kernel
theorem dX11_like_53 : decode cX11_like 53 = .ok (.bipush 97, 2) := by decide +kernel
theorem dX11_like_55 : decode cX11_like 55 = .ok (.isub, 1) := by decide +kernel
theorem dX11_like_56 : decode cX11_like 56 = .ok (.imul, 1) := by decide +kernel
theorem dX11_like_57 : decode cX11_like 57 = .ok (.iload_n 2, 1) := by decide +kernel
theorem dX11_like_58 : decode cX11_like 58 = .ok (.iadd, 1) := by decide +kernel
theorem dX11_like_59 : decode cX11_like 59 = .ok (.bipush 97, 2) := by decide +kernel
theorem dX11_like_61 : decode cX11_like 61 = .ok (.isub, 1) := by decide +kernel
theorem dX11_like_62 : decode cX11_like 62 = .ok (.iload_n 3, 1) := by decide +kernel
theorem dX11_like_63 : decode cX11_like 63 = .ok (.iastore, 1) := by decide +kernel
theorem dX11_like_64 : decode cX11_like 64 = .ok (.aload_n 0, 1) := by decide +kernel
theorem dX11_like_65 : decode cX11_like 65 = .ok (.getfield 59, 3) := by decide +kernel
theorem dX11_like_68 : decode cX11_like 68 = .ok (.bipush 26, 2) := by decide +kernel
theorem dX11_like_70 : decode cX11_like 70 = .ok (.iload_n 2, 1) := by decide +kernel
theorem dX11_like_71 : decode cX11_like 71 = .ok (.bipush 97, 2) := by decide +kernel
theorem dX11_like_73 : decode cX11_like 73 = .ok (.isub, 1) := by decide +kernel
theorem dX11_like_74 : decode cX11_like 74 = .ok (.imul, 1) := by decide +kernel
theorem dX11_like_75 : decode cX11_like 75 = .ok (.iload_n 1, 1) := by decide +kernel
theorem dX11_like_76 : decode cX11_like 76 = .ok (.iadd, 1) := by decide +kernel
theorem dX11_like_77 : decode cX11_like 77 = .ok (.bipush 97, 2) := by decide +kernel
theorem dX11_like_79 : decode cX11_like 79 = .ok (.isub, 1) := by decide +kernel
theorem dX11_like_80 : decode cX11_like 80 = .ok (.iload_n 3, 1) := by decide +kernel
theorem dX11_like_81 : decode cX11_like 81 = .ok (.iastore, 1) := by decide +kernel
theorem dX11_like_82 : decode cX11_like 82 = .ok (.iload 4, 2) := by decide +kernel
theorem dX11_like_84 : decode cX11_like 84 = .ok (.ireturn, 1) := by decide +kernel
theorem dX11_lays_0 : decode cX11_lays 0 = .ok (.iconst 0, 1) := by decide +kernel
theorem dX11_lays_1 : decode cX11_lays 1 = .ok (.istore 4, 2) := by decide +kernel
theorem dX11_lays_3 : decode cX11_lays 3 = .ok (.iload_n 2, 1) := by decide +kernel
theorem dX11_lays_4 : decode cX11_lays 4 = .ok (.istore 5, 2) := by decide +kernel
theorem dX11_lays_6 : decode cX11_lays 6 = .ok (.iload 5, 2) := by decide +kernel
theorem dX11_lays_8 : decode cX11_lays 8 = .ok (.iload_n 2, 1) := by decide +kernel
theorem dX11_lays_9 : decode cX11_lays 9 = .ok (.iload_n 3, 1) := by decide +kernel
theorem dX11_lays_10 : decode cX11_lays 10 = .ok (.iadd, 1) := by decide +kernel
theorem dX11_lays_11 : decode cX11_lays 11 = .ok (.if_icmp .ge 180, 3) := by decide +kernel
theorem dX11_lays_14 : decode cX11_lays 14 = .ok (.iload 5, 2) := by decide +kernel
theorem dX11_lays_16 : decode cX11_lays 16 = .ok (.iload_n 2, 1) := by decide +kernel
theorem dX11_lays_17 : decode cX11_lays 17 = .ok (.if_icmp .le 44, 3) := by decide +kernel
theorem dX11_lays_20 : decode cX11_lays 20 = .ok (.aload_n 0, 1) := by decide +kernel
theorem dX11_lays_21 : decode cX11_lays 21 = .ok (.getfield 16, 3) := by decide +kernel
theorem dX11_lays_24 : decode cX11_lays 24 = .ok (.iload 5, 2) := by decide +kernel
theorem dX11_lays_26 : decode cX11_lays 26 = .ok (.iconst 1, 1) := by decide +kernel
theorem dX11_lays_27 : decode cX11_lays 27 = .ok (.isub, 1) := by decide +kernel
theorem dX11_lays_28 : decode cX11_lays 28 = .ok (.iaload, 1) := by decide +kernel
theorem dX11_lays_29 : decode cX11_lays 29 = .ok (.bipush 45, 2) := by decide +kernel
theorem dX11_lays_31 : decode cX11_lays 31 = .ok (.if_icmp .eq 30, 3) := by decide +kernel
theorem dX11_lays_34 : decode cX11_lays 34 = .ok (.iconst 0, 1) := by decide +kernel
theorem dX11_lays_35 : decode cX11_lays 35 = .ok (.istore 6, 2) := by decide +kernel
theorem dX11_lays_37 : decode cX11_lays 37 = .ok (.iload 6, 2) := by decide +kernel
theorem dX11_lays_39 : decode cX11_lays 39 = .ok (.aload_n 0, 1) := by decide +kernel
theorem dX11_lays_40 : decode cX11_lays 40 = .ok (.getfield 41, 3) := by decide +kernel
theorem dX11_lays_43 : decode cX11_lays 43 = .ok (.if_icmp .ge 18, 3) := by decide +kernel
theorem dX11_lays_46 : decode cX11_lays 46 = .ok (.aload_n 1, 1) := by decide +kernel
theorem dX11_lays_47 : decode cX11_lays 47 = .ok (.iload 4, 2) := by decide +kernel
theorem dX11_lays_49 : decode cX11_lays 49 = .ok (.bipush 32, 2) := by decide +kernel
theorem dX11_lays_51 : decode cX11_lays 51 = .ok (.iastore, 1) := by decide +kernel
theorem dX11_lays_52 : decode cX11_lays 52 = .ok (.iinc 4 1, 3) := by decide +kernel
theorem dX11_lays_55 : decode cX11_lays 55 = .ok (.iinc 6 1, 3) := by decide +kernel
theorem dX11_lays_58 : decode cX11_lays 58 = .ok (.goto (-21), 3) := by decide +kernel
theorem dX11_lays_61 : decode cX11_lays 61 = .ok (.iconst 0, 1) := by decide +kernel
theorem dX11_lays_62 : decode cX11_lays 62 = .ok (.istore 6, 2) := by decide +kernel
theorem dX11_lays_64 : decode cX11_lays 64 = .ok (.iload 6, 2) := by decide +kernel
theorem dX11_lays_66 : decode cX11_lays 66 = .ok (.aload_n 0, 1) := by decide +kernel
theorem dX11_lays_67 : decode cX11_lays 67 = .ok (.getfield 7, 3) := by decide +kernel
theorem dX11_lays_70 : decode cX11_lays 70 = .ok (.iload 5, 2) := by decide +kernel
theorem dX11_lays_72 : decode cX11_lays 72 = .ok (.iaload, 1) := by decide +kernel
theorem dX11_lays_73 : decode cX11_lays 73 = .ok (.if_icmp .ge 29, 3) := by decide +kernel
theorem dX11_lays_76 : decode cX11_lays 76 = .ok (.aload_n 1, 1) := by decide +kernel
theorem dX11_lays_77 : decode cX11_lays 77 = .ok (.iload 4, 2) := by decide +kernel
theorem dX11_lays_79 : decode cX11_lays 79 = .ok (.aload_n 0, 1) := by decide +kernel
theorem dX11_lays_80 : decode cX11_lays 80 = .ok (.getfield 13, 3) := by decide +kernel
theorem dX11_lays_83 : decode cX11_lays 83 = .ok (.bipush 20, 2) := by decide +kernel
theorem dX11_lays_85 : decode cX11_lays 85 = .ok (.iload 5, 2) := by decide +kernel
theorem dX11_lays_87 : decode cX11_lays 87 = .ok (.imul, 1) := by decide +kernel
theorem dX11_lays_88 : decode cX11_lays 88 = .ok (.iload 6, 2) := by decide +kernel
theorem dX11_lays_90 : decode cX11_lays 90 = .ok (.iadd, 1) := by decide +kernel
theorem dX11_lays_91 : decode cX11_lays 91 = .ok (.iaload, 1) := by decide +kernel
theorem dX11_lays_92 : decode cX11_lays 92 = .ok (.iastore, 1) := by decide +kernel
theorem dX11_lays_93 : decode cX11_lays 93 = .ok (.iinc 4 1, 3) := by decide +kernel
theorem dX11_lays_96 : decode cX11_lays 96 = .ok (.iinc 6 1, 3) := by decide +kernel
theorem dX11_lays_99 : decode cX11_lays 99 = .ok (.goto (-35), 3) := by decide +kernel
theorem dX11_lays_102 : decode cX11_lays 102 = .ok (.aload_n 0, 1) := by decide +kernel
theorem dX11_lays_103 : decode cX11_lays 103 = .ok (.getfield 16, 3) := by decide +kernel
theorem dX11_lays_106 : decode cX11_lays 106 = .ok (.iload 5, 2) := by decide +kernel
theorem dX11_lays_108 : decode cX11_lays 108 = .ok (.iaload, 1) := by decide +kernel
theorem dX11_lays_109 : decode cX11_lays 109 = .ok (.bipush 44, 2) := by decide +kernel
theorem dX11_lays_111 : decode cX11_lays 111 = .ok (.if_icmp .eq 37, 3) := by decide +kernel
theorem dX11_lays_114 : decode cX11_lays 114 = .ok (.aload_n 0, 1) := by decide +kernel
theorem dX11_lays_115 : decode cX11_lays 115 = .ok (.getfield 16, 3) := by decide +kernel
theorem dX11_lays_118 : decode cX11_lays 118 = .ok (.iload 5, 2) := by decide +kernel
theorem dX11_lays_120 : decode cX11_lays 120 = .ok (.iaload, 1) := by decide +kernel
theorem dX11_lays_121 : decode cX11_lays 121 = .ok (.bipush 46, 2) := by decide +kernel
theorem dX11_lays_123 : decode cX11_lays 123 = .ok (.if_icmp .eq 25, 3) := by decide +kernel
theorem dX11_lays_126 : decode cX11_lays 126 = .ok (.aload_n 0, 1) := by decide +kernel
theorem dX11_lays_127 : decode cX11_lays 127 = .ok (.getfield 16, 3) := by decide +kernel
theorem dX11_lays_130 : decode cX11_lays 130 = .ok (.iload 5, 2) := by decide +kernel
theorem dX11_lays_132 : decode cX11_lays 132 = .ok (.iaload, 1) := by decide +kernel
theorem dX11_lays_133 : decode cX11_lays 133 = .ok (.bipush 45, 2) := by decide +kernel
theorem dX11_lays_135 : decode cX11_lays 135 = .ok (.if_icmp .ne 17, 3) := by decide +kernel
theorem dX11_lays_138 : decode cX11_lays 138 = .ok (.iload 5, 2) := by decide +kernel
theorem dX11_lays_140 : decode cX11_lays 140 = .ok (.iload_n 2, 1) := by decide +kernel
theorem dX11_lays_141 : decode cX11_lays 141 = .ok (.iload_n 3, 1) := by decide +kernel
theorem dX11_lays_142 : decode cX11_lays 142 = .ok (.iadd, 1) := by decide +kernel
theorem dX11_lays_143 : decode cX11_lays 143 = .ok (.iconst 1, 1) := by decide +kernel
theorem dX11_lays_144 : decode cX11_lays 144 = .ok (.isub, 1) := by decide +kernel
theorem dX11_lays_145 : decode cX11_lays 145 = .ok (.if_icmp .ne 7, 3) := by decide +kernel
theorem dX11_lays_148 : decode cX11_lays 148 = .ok (.iconst 1, 1) := by decide +kernel
theorem dX11_lays_149 : decode cX11_lays 149 = .ok (.goto 4, 3) := by decide +kernel
theorem dX11_lays_152 : decode cX11_lays 152 = .ok (.iconst 0, 1) := by decide +kernel
theorem dX11_lays_153 : decode cX11_lays 153 = .ok (.istore 6, 2) := by decide +kernel
theorem dX11_lays_155 : decode cX11_lays 155 = .ok (.iload 6, 2) := by decide +kernel
theorem dX11_lays_157 : decode cX11_lays 157 = .ok (.ifCond .eq 17, 3) := by decide +kernel
theorem dX11_lays_160 : decode cX11_lays 160 = .ok (.aload_n 1, 1) := by decide +kernel
theorem dX11_lays_161 : decode cX11_lays 161 = .ok (.iload 4, 2) := by decide +kernel
theorem dX11_lays_163 : decode cX11_lays 163 = .ok (.aload_n 0, 1) := by decide +kernel
theorem dX11_lays_164 : decode cX11_lays 164 = .ok (.getfield 16, 3) := by decide +kernel
theorem dX11_lays_167 : decode cX11_lays 167 = .ok (.iload 5, 2) := by decide +kernel
theorem dX11_lays_169 : decode cX11_lays 169 = .ok (.iaload, 1) := by decide +kernel
theorem dX11_lays_170 : decode cX11_lays 170 = .ok (.iastore, 1) := by decide +kernel
theorem dX11_lays_171 : decode cX11_lays 171 = .ok (.iinc 4 1, 3) := by decide +kernel
theorem dX11_lays_174 : decode cX11_lays 174 = .ok (.iload 4, 2) := by decide +kernel
theorem dX11_lays_176 : decode cX11_lays 176 = .ok (.aload_n 0, 1) := by decide +kernel
theorem dX11_lays_177 : decode cX11_lays 177 = .ok (.getfield 38, 3) := by decide +kernel
theorem dX11_lays_180 : decode cX11_lays 180 = .ok (.if_icmp .le 5, 3) := by decide +kernel
theorem dX11_lays_183 : decode cX11_lays 183 = .ok (.iconst (-1), 1) := by decide +kernel
theorem dX11_lays_184 : decode cX11_lays 184 = .ok (.ireturn, 1) := by decide +kernel
theorem dX11_lays_185 : decode cX11_lays 185 = .ok (.iinc 5 1, 3) := by decide +kernel
theorem dX11_lays_188 : decode cX11_lays 188 = .ok (.goto (-182), 3) := by decide +kernel
theorem dX11_lays_191 : decode cX11_lays 191 = .ok (.iload 4, 2) := by decide +kernel
theorem dX11_lays_193 : decode cX11_lays 193 = .ok (.ireturn, 1) := by decide +kernel
theorem dX11_lineStrain_0 : decode cX11_lineStrain 0 = .ok (.iload_n 1, 1) := by decide +kernel
theorem dX11_lineStrain_1 : decode cX11_lineStrain 1 = .ok (.iload_n 2, 1) := by decide +kernel
theorem dX11_lineStrain_2 : decode cX11_lineStrain 2 = .ok (.iadd, 1) := by decide +kernel
theorem dX11_lineStrain_3 : decode cX11_lineStrain 3 = .ok (.aload_n 0, 1) := by decide +kernel
theorem dX11_lineStrain_4 : decode cX11_lineStrain 4 = .ok (.getfield 118, 3) := by decide +kernel
theorem dX11_lineStrain_7 : decode cX11_lineStrain 7 = .ok (.if_icmp .ne 5, 3) := by decide +kernel
theorem dX11_lineStrain_10 : decode cX11_lineStrain 10 = .ok (.iconst 0, 1) := by decide +kernel
theorem dX11_lineStrain_11 : decode cX11_lineStrain 11 = .ok (.ireturn, 1) := by decide +kernel
theorem dX11_lineStrain_12 : decode cX11_lineStrain 12 = .ok (.aload_n 0, 1) := by decide +kernel
theorem dX11_lineStrain_13 : decode cX11_lineStrain 13 = .ok (.getfield 38, 3) := by decide +kernel
theorem dX11_lineStrain_16 : decode cX11_lineStrain 16 = .ok (.iload_n 3, 1) := by decide +kernel
theorem dX11_lineStrain_17 : decode cX11_lineStrain 17 = .ok (.isub, 1) := by decide +kernel
theorem dX11_lineStrain_18 : decode cX11_lineStrain 18 = .ok (.istore 4, 2) := by decide +kernel
theorem dX11_lineStrain_20 : decode cX11_lineStrain 20 = .ok (.aload_n 0, 1) := by decide +kernel
theorem dX11_lineStrain_21 : decode cX11_lineStrain 21 = .ok (.getfield 16, 3) := by decide +kernel
theorem dX11_lineStrain_24 : decode cX11_lineStrain 24 = .ok (.iload_n 1, 1) := by decide +kernel
theorem dX11_lineStrain_25 : decode cX11_lineStrain 25 = .ok (.iload_n 2, 1) := by decide +kernel
theorem dX11_lineStrain_26 : decode cX11_lineStrain 26 = .ok (.iadd, 1) := by decide +kernel
theorem dX11_lineStrain_27 : decode cX11_lineStrain 27 = .ok (.iconst 1, 1) := by decide +kernel
theorem dX11_lineStrain_28 : decode cX11_lineStrain 28 = .ok (.isub, 1) := by decide +kernel
theorem dX11_lineStrain_29 : decode cX11_lineStrain 29 = .ok (.iaload, 1) := by decide +kernel
theorem dX11_lineStrain_30 : decode cX11_lineStrain 30 = .ok (.istore 5, 2) := by decide +kernel
theorem dX11_lineStrain_32 : decode cX11_lineStrain 32 = .ok (.iload 4, 2) := by decide +kernel
theorem dX11_lineStrain_34 : decode cX11_lineStrain 34 = .ok (.iload 4, 2) := by decide +kernel
theorem dX11_lineStrain_36 : decode cX11_lineStrain 36 = .ok (.imul, 1) := by decide +kernel
theorem dX11_lineStrain_37 : decode cX11_lineStrain 37 = .ok (.aload_n 0, 1) := by decide +kernel
theorem dX11_lineStrain_38 : decode cX11_lineStrain 38 = .ok (.getfield 44, 3) := by decide +kernel
theorem dX11_lineStrain_41 : decode cX11_lineStrain 41 = .ok (.imul, 1) := by decide +kernel
theorem dX11_lineStrain_42 : decode cX11_lineStrain 42 = .ok (.iload 5, 2) := by decide +kernel
theorem dX11_lineStrain_44 : decode cX11_lineStrain 44 = .ok (.bipush 46, 2) := by decide +kernel
theorem dX11_lineStrain_46 : decode cX11_lineStrain 46 = .ok (.if_icmp .ne 7, 3) := by decide +kernel
theorem dX11_lineStrain_49 : decode cX11_lineStrain 49 = .ok (.iconst 0, 1) := by decide +kernel
theorem dX11_lineStrain_50 : decode cX11_lineStrain 50 = .ok (.goto 42, 3) := by decide +kernel
theorem dX11_lineStrain_53 : decode cX11_lineStrain 53 = .ok (.iload 5, 2) := by decide +kernel
theorem dX11_lineStrain_55 : decode cX11_lineStrain 55 = .ok (.bipush 44, 2) := by decide +kernel
theorem dX11_lineStrain_57 : decode cX11_lineStrain 57 = .ok (.if_icmp .eq 10, 3) := by decide +kernel
theorem dX11_lineStrain_60 : decode cX11_lineStrain 60 = .ok (.iload 5, 2) := by decide +kernel
theorem dX11_lineStrain_62 : decode cX11_lineStrain 62 = .ok (.bipush 47, 2) := by decide +kernel
theorem dX11_lineStrain_64 : decode cX11_lineStrain 64 = .ok (.if_icmp .ne 10, 3) := by decide +kernel
theorem dX11_lineStrain_67 : decode cX11_lineStrain 67 = .ok (.aload_n 0, 1) := by decide +kernel
theorem dX11_lineStrain_68 : decode cX11_lineStrain 68 = .ok (.getfield 47, 3) := by decide +kernel
theorem dX11_lineStrain_71 : decode cX11_lineStrain 71 = .ok (.goto 21, 3) := by decide +kernel
theorem dX11_lineStrain_74 : decode cX11_lineStrain 74 = .ok (.iload 5, 2) := by decide +kernel
theorem dX11_lineStrain_76 : decode cX11_lineStrain 76 = .ok (.bipush 45, 2) := by decide +kernel
theorem dX11_lineStrain_78 : decode cX11_lineStrain 78 = .ok (.if_icmp .ne 10, 3) := by decide +kernel
theorem dX11_lineStrain_81 : decode cX11_lineStrain 81 = .ok (.aload_n 0, 1) := by decide +kernel
theorem dX11_lineStrain_82 : decode cX11_lineStrain 82 = .ok (.getfield 53, 3) := by decide +kernel
theorem dX11_lineStrain_85 : decode cX11_lineStrain 85 = .ok (.goto 7, 3) := by decide +kernel
theorem dX11_lineStrain_88 : decode cX11_lineStrain 88 = .ok (.aload_n 0, 1) := by decide +kernel
theorem dX11_lineStrain_89 : decode cX11_lineStrain 89 = .ok (.getfield 50, 3) := by decide +kernel
theorem dX11_lineStrain_92 : decode cX11_lineStrain 92 = .ok (.iadd, 1) := by decide +kernel
theorem dX11_lineStrain_93 : decode cX11_lineStrain 93 = .ok (.ireturn, 1) := by decide +kernel
set_option maxRecDepth 20000 in
theorem ggX11_pairStrain_X11_isLetter : GoodIn wsX11_pairStrain wsX11_isLetter := goodIn_r _ [8] (by decide +kernel) (by decide +kernel)
set_option maxRecDepth 20000 in
theorem gX11_pairStrain_X11_isLetter : GoodIn wsX11_pairStrain (va_wsS RX11 104 yX11_isLetter wsX11_isLetter) := goodIn_app (goodIn_of _ (by decide +kernel)) ggX11_pairStrain_X11_isLetter
theorem dX11_pairStrain_0 : decode cX11_pairStrain 0 = .ok (.iconst 0, 1) := by decide +kernel
theorem dX11_pairStrain_1 : decode cX11_pairStrain 1 = .ok (.istore_n 3, 1) := by decide +kernel
theorem dX11_pairStrain_2 : decode cX11_pairStrain 2 = .ok (.iconst 0, 1) := by decide +kernel
theorem dX11_pairStrain_3 : decode cX11_pairStrain 3 = .ok (.istore 4, 2) := by decide +kernel
theorem dX11_pairStrain_5 : decode cX11_pairStrain 5 = .ok (.iload 4, 2) := by decide +kernel
theorem dX11_pairStrain_7 : decode cX11_pairStrain 7 = .ok (.iload_n 1, 1) := by decide +kernel
theorem dX11_pairStrain_8 : decode cX11_pairStrain 8 = .ok (.if_icmp .ge 104, 3) := by decide +kernel
theorem dX11_pairStrain_11 : decode cX11_pairStrain 11 = .ok (.iload 4, 2) := by decide +kernel
theorem dX11_pairStrain_13 : decode cX11_pairStrain 13 = .ok (.iload_n 2, 1) := by decide +kernel
theorem dX11_pairStrain_14 : decode cX11_pairStrain 14 = .ok (.if_icmp .ge 98, 3) := by decide +kernel
theorem dX11_pairStrain_17 : decode cX11_pairStrain 17 = .ok (.aload_n 0, 1) := by decide +kernel
theorem dX11_pairStrain_18 : decode cX11_pairStrain 18 = .ok (.getfield 62, 3) := by decide +kernel
theorem dX11_pairStrain_21 : decode cX11_pairStrain 21 = .ok (.iload 4, 2) := by decide +kernel
theorem dX11_pairStrain_23 : decode cX11_pairStrain 23 = .ok (.iaload, 1) := by decide +kernel
theorem dX11_pairStrain_24 : decode cX11_pairStrain 24 = .ok (.bipush 32, 2) := by decide +kernel
theorem dX11_pairStrain_26 : decode cX11_pairStrain 26 = .ok (.if_icmp .ne 22, 3) := by decide +kernel
theorem dX11_pairStrain_29 : decode cX11_pairStrain 29 = .ok (.aload_n 0, 1) := by decide +kernel
theorem dX11_pairStrain_30 : decode cX11_pairStrain 30 = .ok (.getfield 65, 3) := by decide +kernel
theorem dX11_pairStrain_33 : decode cX11_pairStrain 33 = .ok (.iload 4, 2) := by decide +kernel
theorem dX11_pairStrain_35 : decode cX11_pairStrain 35 = .ok (.iaload, 1) := by decide +kernel
theorem dX11_pairStrain_36 : decode cX11_pairStrain 36 = .ok (.bipush 32, 2) := by decide +kernel
theorem dX11_pairStrain_38 : decode cX11_pairStrain 38 = .ok (.if_icmp .ne 10, 3) := by decide +kernel
theorem dX11_pairStrain_41 : decode cX11_pairStrain 41 = .ok (.iload_n 3, 1) := by decide +kernel
theorem dX11_pairStrain_42 : decode cX11_pairStrain 42 = .ok (.aload_n 0, 1) := by decide +kernel
theorem dX11_pairStrain_43 : decode cX11_pairStrain 43 = .ok (.getfield 56, 3) := by decide +kernel
theorem dX11_pairStrain_46 : decode cX11_pairStrain 46 = .ok (.iadd, 1) := by decide +kernel
theorem dX11_pairStrain_47 : decode cX11_pairStrain 47 = .ok (.istore_n 3, 1) := by decide +kernel
theorem dX11_pairStrain_48 : decode cX11_pairStrain 48 = .ok (.aload_n 0, 1) := by decide +kernel
theorem dX11_pairStrain_49 : decode cX11_pairStrain 49 = .ok (.getfield 62, 3) := by decide +kernel
theorem dX11_pairStrain_52 : decode cX11_pairStrain 52 = .ok (.iload 4, 2) := by decide +kernel
theorem dX11_pairStrain_54 : decode cX11_pairStrain 54 = .ok (.iaload, 1) := by decide +kernel
theorem dX11_pairStrain_55 : decode cX11_pairStrain 55 = .ok (.invokestatic 104, 3) := by decide +kernel
theorem dX11_pairStrain_58 : decode cX11_pairStrain 58 = .ok (.ifCond .eq 48, 3) := by decide +kernel
theorem dX11_pairStrain_61 : decode cX11_pairStrain 61 = .ok (.aload_n 0, 1) := by decide +kernel
theorem dX11_pairStrain_62 : decode cX11_pairStrain 62 = .ok (.getfield 65, 3) := by decide +kernel
theorem dX11_pairStrain_65 : decode cX11_pairStrain 65 = .ok (.iload 4, 2) := by decide +kernel
theorem dX11_pairStrain_67 : decode cX11_pairStrain 67 = .ok (.iaload, 1) := by decide +kernel
theorem dX11_pairStrain_68 : decode cX11_pairStrain 68 = .ok (.invokestatic 104, 3) := by decide +kernel
theorem dX11_pairStrain_71 : decode cX11_pairStrain 71 = .ok (.ifCond .eq 35, 3) := by decide +kernel
theorem dX11_pairStrain_74 : decode cX11_pairStrain 74 = .ok (.iload_n 3, 1) := by decide +kernel
theorem dX11_pairStrain_75 : decode cX11_pairStrain 75 = .ok (.aload_n 0, 1) := by decide +kernel
theorem dX11_pairStrain_76 : decode cX11_pairStrain 76 = .ok (.getfield 59, 3) := by decide +kernel
theorem dX11_pairStrain_79 : decode cX11_pairStrain 79 = .ok (.bipush 26, 2) := by decide +kernel
theorem dX11_pairStrain_81 : decode cX11_pairStrain 81 = .ok (.aload_n 0, 1) := by decide +kernel
theorem dX11_pairStrain_82 : decode cX11_pairStrain 82 = .ok (.getfield 62, 3) := by decide +kernel
theorem dX11_pairStrain_85 : decode cX11_pairStrain 85 = .ok (.iload 4, 2) := by decide +kernel
theorem dX11_pairStrain_87 : decode cX11_pairStrain 87 = .ok (.iaload, 1) := by decide +kernel
theorem dX11_pairStrain_88 : decode cX11_pairStrain 88 = .ok (.bipush 97, 2) := by decide +kernel
theorem dX11_pairStrain_90 : decode cX11_pairStrain 90 = .ok (.isub, 1) := by decide +kernel
theorem dX11_pairStrain_91 : decode cX11_pairStrain 91 = .ok (.imul, 1) := by decide +kernel
theorem dX11_pairStrain_92 : decode cX11_pairStrain 92 = .ok (.aload_n 0, 1) := by decide +kernel
theorem dX11_pairStrain_93 : decode cX11_pairStrain 93 = .ok (.getfield 65, 3) := by decide +kernel
theorem dX11_pairStrain_96 : decode cX11_pairStrain 96 = .ok (.iload 4, 2) := by decide +kernel
theorem dX11_pairStrain_98 : decode cX11_pairStrain 98 = .ok (.iaload, 1) := by decide +kernel
theorem dX11_pairStrain_99 : decode cX11_pairStrain 99 = .ok (.iadd, 1) := by decide +kernel
theorem dX11_pairStrain_100 : decode cX11_pairStrain 100 = .ok (.bipush 97, 2) := by decide +kernel
theorem dX11_pairStrain_102 : decode cX11_pairStrain 102 = .ok (.isub, 1) := by decide +kernel
theorem dX11_pairStrain_103 : decode cX11_pairStrain 103 = .ok (.iaload, 1) := by decide +kernel
theorem dX11_pairStrain_104 : decode cX11_pairStrain 104 = .ok (.iadd, 1) := by decide +kernel
theorem dX11_pairStrain_105 : decode cX11_pairStrain 105 = .ok (.istore_n 3, 1) := by decide +kernel
theorem dX11_pairStrain_106 : decode cX11_pairStrain 106 = .ok (.iinc 4 1, 3) := by decide +kernel
theorem dX11_pairStrain_109 : decode cX11_pairStrain 109 = .ok (.goto (-104), 3) := by decide +kernel
theorem dX11_pairStrain_112 : decode cX11_pairStrain 112 = .ok (.iload_n 3, 1) := by decide +kernel
theorem dX11_pairStrain_113 : decode cX11_pairStrain 113 = .ok (.ireturn, 1) := by decide +kernel
theorem dX11_place_0 : decode cX11_place 0 = .ok (.bipush 61, 2) := by decide +kernel
theorem dX11_place_2 : decode cX11_place 2 = .ok (.iload_n 1, 1) := by decide +kernel
theorem dX11_place_3 : decode cX11_place 3 = .ok (.imul, 1) := by decide +kernel
theorem dX11_place_4 : decode cX11_place 4 = .ok (.iload_n 2, 1) := by decide +kernel
theorem dX11_place_5 : decode cX11_place 5 = .ok (.iadd, 1) := by decide +kernel
theorem dX11_place_6 : decode cX11_place 6 = .ok (.ireturn, 1) := by decide +kernel
theorem dX11_most_0 : decode cX11_most 0 = .ok (.aload_n 0, 1) := by decide +kernel
theorem dX11_most_1 : decode cX11_most 1 = .ok (.getfield 118, 3) := by decide +kernel
theorem dX11_most_4 : decode cX11_most 4 = .ok (.iload_n 1, 1) := by decide +kernel
theorem dX11_most_5 : decode cX11_most 5 = .ok (.isub, 1) := by decide +kernel
theorem dX11_most_6 : decode cX11_most 6 = .ok (.bipush 60, 2) := by decide +kernel
theorem dX11_most_8 : decode cX11_most 8 = .ok (.if_icmp .ge 12, 3) := by decide +kernel
theorem dX11_most_11 : decode cX11_most 11 = .ok (.aload_n 0, 1) := by decide +kernel
theorem dX11_most_12 : decode cX11_most 12 = .ok (.getfield 118, 3) := by decide +kernel
theorem dX11_most_15 : decode cX11_most 15 = .ok (.iload_n 1, 1) := by decide +kernel
theorem dX11_most_16 : decode cX11_most 16 = .ok (.isub, 1) := by decide +kernel
theorem dX11_most_17 : decode cX11_most 17 = .ok (.goto 5, 3) := by decide +kernel
theorem dX11_most_20 : decode cX11_most 20 = .ok (.bipush 60, 2) := by decide +kernel
theorem dX11_most_22 : decode cX11_most 22 = .ok (.ireturn, 1) := by decide +kernel
set_option maxRecDepth 20000 in
theorem ggX11_costOf_X11_place : GoodIn wsX11_costOf wsX11_place := goodIn_r _ [8] (by decide +kernel) (by decide +kernel)
set_option maxRecDepth 20000 in
theorem gX11_costOf_X11_place : GoodIn wsX11_costOf (wsV RX11 146 RX11 yX11_place wsX11_place) := goodIn_app (goodIn_of _ (by decide +kernel)) ggX11_costOf_X11_place
set_option maxRecDepth 20000 in
theorem ggX11_costOf_X11_lays : GoodIn wsX11_costOf wsX11_lays := goodIn_r _ [12, 13, 14, 15, 16, 17, 28, 29, 30, 31, 32, 33, 34, 35, 36, 37, 38, 39, 40, 41, 42, 43, 44, 45, 46, 47, 48, 49, 50, 51, 52, 53, 54, 55, 56, 57, 58, 59, 60, 61, 62, 63, 64, 65, 66, 67, 68, 69, 70, 71] (by decide +kernel) (by decide +kernel)
set_option maxRecDepth 20000 in
theorem gX11_costOf_X11_lays : GoodIn wsX11_costOf (wsV RX11 151 RX11 yX11_lays wsX11_lays) := goodIn_app (goodIn_of _ (by decide +kernel)) ggX11_costOf_X11_lays
set_option maxRecDepth 20000 in
theorem ggX11_costOf_X11_pairStrain : GoodIn wsX11_costOf wsX11_pairStrain := goodIn_r _ [21, 22, 3, 23, 24, 25, 26, 7, 27, 28, 29, 30, 31, 32, 33, 34, 35, 36, 37, 38, 39, 40, 41, 42, 43, 44, 45, 46, 47, 48, 49, 50, 51, 52, 53, 54, 55, 56, 57, 58, 59, 60, 61, 62, 63, 64, 65, 66, 67, 68, 69, 70, 71] (by decide +kernel) (by decide +kernel)
set_option maxRecDepth 20000 in
theorem gX11_costOf_X11_pairStrain : GoodIn wsX11_costOf (wsV RX11 155 RX11 yX11_pairStrain wsX11_pairStrain) := goodIn_app (goodIn_of _ (by decide +kernel)) ggX11_costOf_X11_pairStrain
theorem dX11_costOf_0 : decode cX11_costOf 0 = .ok (.iload_n 1, 1) := by decide +kernel
theorem dX11_costOf_1 : decode cX11_costOf 1 = .ok (.iload_n 2, 1) := by decide +kernel
theorem dX11_costOf_2 : decode cX11_costOf 2 = .ok (.iadd, 1) := by decide +kernel
theorem dX11_costOf_3 : decode cX11_costOf 3 = .ok (.istore 5, 2) := by decide +kernel
theorem dX11_costOf_5 : decode cX11_costOf 5 = .ok (.aload_n 0, 1) := by decide +kernel
theorem dX11_costOf_6 : decode cX11_costOf 6 = .ok (.getfield 68, 3) := by decide +kernel
theorem dX11_costOf_9 : decode cX11_costOf 9 = .ok (.aload_n 0, 1) := by decide +kernel
theorem dX11_costOf_10 : decode cX11_costOf 10 = .ok (.iload 5, 2) := by decide +kernel
theorem dX11_costOf_12 : decode cX11_costOf 12 = .ok (.iload_n 3, 1) := by decide +kernel
theorem dX11_costOf_13 : decode cX11_costOf 13 = .ok (.invokevirtual 146, 3) := by decide +kernel
theorem dX11_costOf_16 : decode cX11_costOf 16 = .ok (.iaload, 1) := by decide +kernel
theorem dX11_costOf_17 : decode cX11_costOf 17 = .ok (.ldc 150, 2) := by decide +kernel
theorem dX11_costOf_19 : decode cX11_costOf 19 = .ok (.if_icmp .lt 6, 3) := by decide +kernel
theorem dX11_costOf_22 : decode cX11_costOf 22 = .ok (.ldc 150, 2) := by decide +kernel
theorem dX11_costOf_24 : decode cX11_costOf 24 = .ok (.ireturn, 1) := by decide +kernel
theorem dX11_costOf_25 : decode cX11_costOf 25 = .ok (.aload_n 0, 1) := by decide +kernel
theorem dX11_costOf_26 : decode cX11_costOf 26 = .ok (.aload_n 0, 1) := by decide +kernel
theorem dX11_costOf_27 : decode cX11_costOf 27 = .ok (.getfield 65, 3) := by decide +kernel
theorem dX11_costOf_30 : decode cX11_costOf 30 = .ok (.iload 5, 2) := by decide +kernel
theorem dX11_costOf_32 : decode cX11_costOf 32 = .ok (.iload_n 3, 1) := by decide +kernel
theorem dX11_costOf_33 : decode cX11_costOf 33 = .ok (.invokevirtual 151, 3) := by decide +kernel
theorem dX11_costOf_36 : decode cX11_costOf 36 = .ok (.istore 6, 2) := by decide +kernel
theorem dX11_costOf_38 : decode cX11_costOf 38 = .ok (.iload 6, 2) := by decide +kernel
theorem dX11_costOf_40 : decode cX11_costOf 40 = .ok (.iconst (-1), 1) := by decide +kernel
theorem dX11_costOf_41 : decode cX11_costOf 41 = .ok (.if_icmp .ne 8, 3) := by decide +kernel
theorem dX11_costOf_44 : decode cX11_costOf 44 = .ok (.ldc 150, 2) := by decide +kernel
theorem dX11_costOf_46 : decode cX11_costOf 46 = .ok (.goto 24, 3) := by decide +kernel
theorem dX11_costOf_49 : decode cX11_costOf 49 = .ok (.aload_n 0, 1) := by decide +kernel
theorem dX11_costOf_50 : decode cX11_costOf 50 = .ok (.iload 4, 2) := by decide +kernel
theorem dX11_costOf_52 : decode cX11_costOf 52 = .ok (.iload 6, 2) := by decide +kernel
theorem dX11_costOf_54 : decode cX11_costOf 54 = .ok (.invokevirtual 155, 3) := by decide +kernel
theorem dX11_costOf_57 : decode cX11_costOf 57 = .ok (.aload_n 0, 1) := by decide +kernel
theorem dX11_costOf_58 : decode cX11_costOf 58 = .ok (.getfield 68, 3) := by decide +kernel
theorem dX11_costOf_61 : decode cX11_costOf 61 = .ok (.aload_n 0, 1) := by decide +kernel
theorem dX11_costOf_62 : decode cX11_costOf 62 = .ok (.iload 5, 2) := by decide +kernel
theorem dX11_costOf_64 : decode cX11_costOf 64 = .ok (.iload_n 3, 1) := by decide +kernel
theorem dX11_costOf_65 : decode cX11_costOf 65 = .ok (.invokevirtual 146, 3) := by decide +kernel
theorem dX11_costOf_68 : decode cX11_costOf 68 = .ok (.iaload, 1) := by decide +kernel
theorem dX11_costOf_69 : decode cX11_costOf 69 = .ok (.iadd, 1) := by decide +kernel
theorem dX11_costOf_70 : decode cX11_costOf 70 = .ok (.ireturn, 1) := by decide +kernel
set_option maxRecDepth 20000 in
theorem ggX11_weighs_X11_most : GoodIn wsX11_weighs wsX11_most := goodIn_r _ [9, 1, 45, 46, 47, 48, 49, 50, 51, 52, 53, 54, 55, 56, 57, 58, 59, 60, 61, 62, 63, 64, 65, 66, 67, 68, 69, 70, 71, 72, 73, 74, 75, 76, 77, 78, 79, 80, 81, 82, 83, 84, 85, 86, 87, 88] (by decide +kernel) (by decide +kernel)
set_option maxRecDepth 20000 in
theorem gX11_weighs_X11_most : GoodIn wsX11_weighs (wsV RX11 158 RX11 yX11_most wsX11_most) := goodIn_app (goodIn_of _ (by decide +kernel)) ggX11_weighs_X11_most
set_option maxRecDepth 20000 in
theorem ggX11_weighs_X11_lays : GoodIn wsX11_weighs wsX11_lays := goodIn_r _ [13, 14, 15, 16, 17, 18, 45, 46, 47, 48, 49, 50, 51, 52, 53, 54, 55, 56, 57, 58, 59, 60, 61, 62, 63, 64, 65, 66, 67, 68, 69, 70, 71, 72, 73, 74, 75, 76, 77, 78, 79, 80, 81, 82, 83, 84, 85, 86, 87, 88] (by decide +kernel) (by decide +kernel)
set_option maxRecDepth 20000 in
theorem gX11_weighs_X11_lays : GoodIn wsX11_weighs (wsV RX11 151 RX11 yX11_lays wsX11_lays) := goodIn_app (goodIn_of _ (by decide +kernel)) ggX11_weighs_X11_lays
set_option maxRecDepth 20000 in
theorem ggX11_weighs_X11_costOf : GoodIn wsX11_weighs wsX11_costOf := goodIn_r _ [22, 4, 3, 23, 24, 25, 26, 8, 27, 10, 11, 12, 13, 14, 15, 16, 17, 18, 28, 29, 30, 31, 2, 32, 33, 34, 35, 36, 45, 46, 47, 48, 49, 50, 51, 52, 53, 54, 55, 56, 57, 58, 59, 60, 61, 62, 63, 64, 65, 66, 67, 68, 69, 70, 71, 72, 73, 74, 75, 76, 77, 78, 79, 80, 81, 82, 83, 84, 85, 86, 87, 88] (by decide +kernel) (by decide +kernel)
set_option maxRecDepth 20000 in
theorem gX11_weighs_X11_costOf : GoodIn wsX11_weighs (wsV RX11 162 RX11 yX11_costOf wsX11_costOf) := goodIn_app (goodIn_of _ (by decide +kernel)) ggX11_weighs_X11_costOf
set_option maxRecDepth 20000 in
theorem ggX11_weighs_X11_place : GoodIn wsX11_weighs wsX11_place := goodIn_r _ [27] (by decide +kernel) (by decide +kernel)
set_option maxRecDepth 20000 in
theorem gX11_weighs_X11_place : GoodIn wsX11_weighs (wsV RX11 146 RX11 yX11_place wsX11_place) := goodIn_app (goodIn_of _ (by decide +kernel)) ggX11_weighs_X11_place
set_option maxRecDepth 20000 in
theorem ggX11_weighs_X11_lineStrain : GoodIn wsX11_weighs wsX11_lineStrain := goodIn_r _ [40, 1, 18, 14, 41, 42, 43, 44, 45, 46, 47, 48, 49, 50, 51, 52, 53, 54, 55, 56, 57, 58, 59, 60, 61, 62, 63, 64, 65, 66, 67, 68, 69, 70, 71, 72, 73, 74, 75, 76, 77, 78, 79, 80, 81, 82, 83, 84, 85, 86, 87, 88] (by decide +kernel) (by decide +kernel)
set_option maxRecDepth 20000 in
theorem gX11_weighs_X11_lineStrain : GoodIn wsX11_weighs (wsV RX11 166 RX11 yX11_lineStrain wsX11_lineStrain) := goodIn_app (goodIn_of _ (by decide +kernel)) ggX11_weighs_X11_lineStrain
theorem dX11_weighs_0 : decode cX11_weighs 0 = .ok (.aload_n 0, 1) := by decide +kernel
theorem dX11_weighs_1 : decode cX11_weighs 1 = .ok (.getfield 118, 3) := by decide +kernel
theorem dX11_weighs_4 : decode cX11_weighs 4 = .ok (.iconst 1, 1) := by decide +kernel
theorem dX11_weighs_5 : decode cX11_weighs 5 = .ok (.isub, 1) := by decide +kernel
theorem dX11_weighs_6 : decode cX11_weighs 6 = .ok (.istore_n 1, 1) := by decide +kernel
theorem dX11_weighs_7 : decode cX11_weighs 7 = .ok (.iload_n 1, 1) := by decide +kernel
theorem dX11_weighs_8 : decode cX11_weighs 8 = .ok (.ifCond .lt 150, 3) := by decide +kernel
theorem dX11_weighs_11 : decode cX11_weighs 11 = .ok (.iconst 1, 1) := by decide +kernel
theorem dX11_weighs_12 : decode cX11_weighs 12 = .ok (.istore_n 2, 1) := by decide +kernel
theorem dX11_weighs_13 : decode cX11_weighs 13 = .ok (.iload_n 2, 1) := by decide +kernel
theorem dX11_weighs_14 : decode cX11_weighs 14 = .ok (.aload_n 0, 1) := by decide +kernel
theorem dX11_weighs_15 : decode cX11_weighs 15 = .ok (.iload_n 1, 1) := by decide +kernel
theorem dX11_weighs_16 : decode cX11_weighs 16 = .ok (.invokevirtual 158, 3) := by decide +kernel
theorem dX11_weighs_19 : decode cX11_weighs 19 = .ok (.if_icmp .gt 133, 3) := by decide +kernel
theorem dX11_weighs_22 : decode cX11_weighs 22 = .ok (.aload_n 0, 1) := by decide +kernel
theorem dX11_weighs_23 : decode cX11_weighs 23 = .ok (.aload_n 0, 1) := by decide +kernel
theorem dX11_weighs_24 : decode cX11_weighs 24 = .ok (.getfield 62, 3) := by decide +kernel
theorem dX11_weighs_27 : decode cX11_weighs 27 = .ok (.iload_n 1, 1) := by decide +kernel
theorem dX11_weighs_28 : decode cX11_weighs 28 = .ok (.iload_n 2, 1) := by decide +kernel
theorem dX11_weighs_29 : decode cX11_weighs 29 = .ok (.invokevirtual 151, 3) := by decide +kernel
theorem dX11_weighs_32 : decode cX11_weighs 32 = .ok (.istore_n 3, 1) := by decide +kernel
theorem dX11_weighs_33 : decode cX11_weighs 33 = .ok (.ldc 150, 2) := by decide +kernel
theorem dX11_weighs_35 : decode cX11_weighs 35 = .ok (.istore 4, 2) := by decide +kernel
theorem dX11_weighs_37 : decode cX11_weighs 37 = .ok (.iload_n 3, 1) := by decide +kernel
theorem dX11_weighs_38 : decode cX11_weighs 38 = .ok (.iconst (-1), 1) := by decide +kernel
theorem dX11_weighs_39 : decode cX11_weighs 39 = .ok (.if_icmp .eq 16, 3) := by decide +kernel
theorem dX11_weighs_42 : decode cX11_weighs 42 = .ok (.iload_n 1, 1) := by decide +kernel
theorem dX11_weighs_43 : decode cX11_weighs 43 = .ok (.iload_n 2, 1) := by decide +kernel
theorem dX11_weighs_44 : decode cX11_weighs 44 = .ok (.iadd, 1) := by decide +kernel
theorem dX11_weighs_45 : decode cX11_weighs 45 = .ok (.aload_n 0, 1) := by decide +kernel
theorem dX11_weighs_46 : decode cX11_weighs 46 = .ok (.getfield 118, 3) := by decide +kernel
theorem dX11_weighs_49 : decode cX11_weighs 49 = .ok (.if_icmp .ne 6, 3) := by decide +kernel
theorem dX11_weighs_52 : decode cX11_weighs 52 = .ok (.iconst 0, 1) := by decide +kernel
theorem dX11_weighs_53 : decode cX11_weighs 53 = .ok (.istore 4, 2) := by decide +kernel
theorem dX11_weighs_55 : decode cX11_weighs 55 = .ok (.iconst 1, 1) := by decide +kernel
theorem dX11_weighs_56 : decode cX11_weighs 56 = .ok (.istore 5, 2) := by decide +kernel
theorem dX11_weighs_58 : decode cX11_weighs 58 = .ok (.iload_n 3, 1) := by decide +kernel
theorem dX11_weighs_59 : decode cX11_weighs 59 = .ok (.iconst (-1), 1) := by decide +kernel
theorem dX11_weighs_60 : decode cX11_weighs 60 = .ok (.if_icmp .eq 53, 3) := by decide +kernel
theorem dX11_weighs_63 : decode cX11_weighs 63 = .ok (.iload_n 1, 1) := by decide +kernel
theorem dX11_weighs_64 : decode cX11_weighs 64 = .ok (.iload_n 2, 1) := by decide +kernel
theorem dX11_weighs_65 : decode cX11_weighs 65 = .ok (.iadd, 1) := by decide +kernel
theorem dX11_weighs_66 : decode cX11_weighs 66 = .ok (.aload_n 0, 1) := by decide +kernel
theorem dX11_weighs_67 : decode cX11_weighs 67 = .ok (.getfield 118, 3) := by decide +kernel
theorem dX11_weighs_70 : decode cX11_weighs 70 = .ok (.if_icmp .ge 43, 3) := by decide +kernel
theorem dX11_weighs_73 : decode cX11_weighs 73 = .ok (.iload 5, 2) := by decide +kernel
theorem dX11_weighs_75 : decode cX11_weighs 75 = .ok (.aload_n 0, 1) := by decide +kernel
theorem dX11_weighs_76 : decode cX11_weighs 76 = .ok (.iload_n 1, 1) := by decide +kernel
theorem dX11_weighs_77 : decode cX11_weighs 77 = .ok (.iload_n 2, 1) := by decide +kernel
theorem dX11_weighs_78 : decode cX11_weighs 78 = .ok (.iadd, 1) := by decide +kernel
theorem dX11_weighs_79 : decode cX11_weighs 79 = .ok (.invokevirtual 158, 3) := by decide +kernel
theorem dX11_weighs_82 : decode cX11_weighs 82 = .ok (.if_icmp .gt 31, 3) := by decide +kernel
theorem dX11_weighs_85 : decode cX11_weighs 85 = .ok (.aload_n 0, 1) := by decide +kernel
theorem dX11_weighs_86 : decode cX11_weighs 86 = .ok (.iload_n 1, 1) := by decide +kernel
theorem dX11_weighs_87 : decode cX11_weighs 87 = .ok (.iload_n 2, 1) := by decide +kernel
theorem dX11_weighs_88 : decode cX11_weighs 88 = .ok (.iload 5, 2) := by decide +kernel
theorem dX11_weighs_90 : decode cX11_weighs 90 = .ok (.iload_n 3, 1) := by decide +kernel
theorem dX11_weighs_91 : decode cX11_weighs 91 = .ok (.invokevirtual 162, 3) := by decide +kernel
theorem dX11_weighs_94 : decode cX11_weighs 94 = .ok (.istore 6, 2) := by decide +kernel
theorem dX11_weighs_96 : decode cX11_weighs 96 = .ok (.iload 6, 2) := by decide +kernel
theorem dX11_weighs_98 : decode cX11_weighs 98 = .ok (.iload 4, 2) := by decide +kernel
theorem dX11_weighs_100 : decode cX11_weighs 100 = .ok (.if_icmp .ge 7, 3) := by decide +kernel
theorem dX11_weighs_103 : decode cX11_weighs 103 = .ok (.iload 6, 2) := by decide +kernel
theorem dX11_weighs_105 : decode cX11_weighs 105 = .ok (.istore 4, 2) := by decide +kernel
theorem dX11_weighs_107 : decode cX11_weighs 107 = .ok (.iinc 5 1, 3) := by decide +kernel
theorem dX11_weighs_110 : decode cX11_weighs 110 = .ok (.goto (-52), 3) := by decide +kernel
theorem dX11_weighs_113 : decode cX11_weighs 113 = .ok (.aload_n 0, 1) := by decide +kernel
theorem dX11_weighs_114 : decode cX11_weighs 114 = .ok (.getfield 68, 3) := by decide +kernel
theorem dX11_weighs_117 : decode cX11_weighs 117 = .ok (.aload_n 0, 1) := by decide +kernel
theorem dX11_weighs_118 : decode cX11_weighs 118 = .ok (.iload_n 1, 1) := by decide +kernel
theorem dX11_weighs_119 : decode cX11_weighs 119 = .ok (.iload_n 2, 1) := by decide +kernel
theorem dX11_weighs_120 : decode cX11_weighs 120 = .ok (.invokevirtual 146, 3) := by decide +kernel
theorem dX11_weighs_123 : decode cX11_weighs 123 = .ok (.iload 4, 2) := by decide +kernel
theorem dX11_weighs_125 : decode cX11_weighs 125 = .ok (.ldc 150, 2) := by decide +kernel
theorem dX11_weighs_127 : decode cX11_weighs 127 = .ok (.if_icmp .lt 8, 3) := by decide +kernel
theorem dX11_weighs_130 : decode cX11_weighs 130 = .ok (.ldc 150, 2) := by decide +kernel
theorem dX11_weighs_132 : decode cX11_weighs 132 = .ok (.goto 13, 3) := by decide +kernel
theorem dX11_weighs_135 : decode cX11_weighs 135 = .ok (.iload 4, 2) := by decide +kernel
theorem dX11_weighs_137 : decode cX11_weighs 137 = .ok (.aload_n 0, 1) := by decide +kernel
theorem dX11_weighs_138 : decode cX11_weighs 138 = .ok (.iload_n 1, 1) := by decide +kernel
theorem dX11_weighs_139 : decode cX11_weighs 139 = .ok (.iload_n 2, 1) := by decide +kernel
theorem dX11_weighs_140 : decode cX11_weighs 140 = .ok (.iload_n 3, 1) := by decide +kernel
theorem dX11_weighs_141 : decode cX11_weighs 141 = .ok (.invokevirtual 166, 3) := by decide +kernel
theorem dX11_weighs_144 : decode cX11_weighs 144 = .ok (.iadd, 1) := by decide +kernel
theorem dX11_weighs_145 : decode cX11_weighs 145 = .ok (.iastore, 1) := by decide +kernel
theorem dX11_weighs_146 : decode cX11_weighs 146 = .ok (.iinc 2 1, 3) := by decide +kernel
theorem dX11_weighs_149 : decode cX11_weighs 149 = .ok (.goto (-136), 3) := by decide +kernel
theorem dX11_weighs_152 : decode cX11_weighs 152 = .ok (.iinc 1 (-1), 3) := by decide +kernel
theorem dX11_weighs_155 : decode cX11_weighs 155 = .ok (.goto (-148), 3) := by decide +kernel
theorem dX11_weighs_158 : decode cX11_weighs 158 = .ok (.return_, 1) := by decide +kernel
set_option maxRecDepth 20000 in
theorem ggX11_keeps_X11_lays : GoodIn wsX11_keeps wsX11_lays := goodIn_r _ [11, 12, 13, 14, 15, 16, 17, 18, 19, 20, 21, 22, 23, 24, 25, 26, 27, 28, 29, 30, 31, 32, 33, 34, 35, 36, 37, 38, 39, 40, 41, 42, 43, 44, 45, 46, 47, 48, 49, 50, 51, 52, 53, 54, 55, 56, 57, 58, 59, 60] (by decide +kernel) (by decide +kernel)
set_option maxRecDepth 20000 in
theorem gX11_keeps_X11_lays : GoodIn wsX11_keeps (wsV RX11 151 RX11 yX11_lays wsX11_lays) := goodIn_app (goodIn_of _ (by decide +kernel)) ggX11_keeps_X11_lays
theorem dX11_keeps_0 : decode cX11_keeps 0 = .ok (.aload_n 0, 1) := by decide +kernel
theorem dX11_keeps_1 : decode cX11_keeps 1 = .ok (.aload_n 0, 1) := by decide +kernel
theorem dX11_keeps_2 : decode cX11_keeps 2 = .ok (.getfield 62, 3) := by decide +kernel
theorem dX11_keeps_5 : decode cX11_keeps 5 = .ok (.iload_n 1, 1) := by decide +kernel
theorem dX11_keeps_6 : decode cX11_keeps 6 = .ok (.iload_n 2, 1) := by decide +kernel
theorem dX11_keeps_7 : decode cX11_keeps 7 = .ok (.invokevirtual 151, 3) := by decide +kernel
theorem dX11_keeps_10 : decode cX11_keeps 10 = .ok (.istore_n 3, 1) := by decide +kernel
theorem dX11_keeps_11 : decode cX11_keeps 11 = .ok (.aload_n 0, 1) := by decide +kernel
theorem dX11_keeps_12 : decode cX11_keeps 12 = .ok (.getfield 71, 3) := by decide +kernel
theorem dX11_keeps_15 : decode cX11_keeps 15 = .ok (.aload_n 0, 1) := by decide +kernel
theorem dX11_keeps_16 : decode cX11_keeps 16 = .ok (.getfield 170, 3) := by decide +kernel
theorem dX11_keeps_19 : decode cX11_keeps 19 = .ok (.iload_n 1, 1) := by decide +kernel
theorem dX11_keeps_20 : decode cX11_keeps 20 = .ok (.iastore, 1) := by decide +kernel
theorem dX11_keeps_21 : decode cX11_keeps 21 = .ok (.aload_n 0, 1) := by decide +kernel
theorem dX11_keeps_22 : decode cX11_keeps 22 = .ok (.getfield 74, 3) := by decide +kernel
theorem dX11_keeps_25 : decode cX11_keeps 25 = .ok (.aload_n 0, 1) := by decide +kernel
theorem dX11_keeps_26 : decode cX11_keeps 26 = .ok (.getfield 170, 3) := by decide +kernel
theorem dX11_keeps_29 : decode cX11_keeps 29 = .ok (.iload_n 2, 1) := by decide +kernel
theorem dX11_keeps_30 : decode cX11_keeps 30 = .ok (.iastore, 1) := by decide +kernel
theorem dX11_keeps_31 : decode cX11_keeps 31 = .ok (.aload_n 0, 1) := by decide +kernel
theorem dX11_keeps_32 : decode cX11_keeps 32 = .ok (.getfield 77, 3) := by decide +kernel
theorem dX11_keeps_35 : decode cX11_keeps 35 = .ok (.aload_n 0, 1) := by decide +kernel
theorem dX11_keeps_36 : decode cX11_keeps 36 = .ok (.getfield 170, 3) := by decide +kernel
theorem dX11_keeps_39 : decode cX11_keeps 39 = .ok (.iload_n 3, 1) := by decide +kernel
theorem dX11_keeps_40 : decode cX11_keeps 40 = .ok (.iastore, 1) := by decide +kernel
theorem dX11_keeps_41 : decode cX11_keeps 41 = .ok (.iconst 0, 1) := by decide +kernel
theorem dX11_keeps_42 : decode cX11_keeps 42 = .ok (.istore 4, 2) := by decide +kernel
theorem dX11_keeps_44 : decode cX11_keeps 44 = .ok (.iload 4, 2) := by decide +kernel
theorem dX11_keeps_46 : decode cX11_keeps 46 = .ok (.iload_n 3, 1) := by decide +kernel
theorem dX11_keeps_47 : decode cX11_keeps 47 = .ok (.if_icmp .ge 31, 3) := by decide +kernel
theorem dX11_keeps_50 : decode cX11_keeps 50 = .ok (.aload_n 0, 1) := by decide +kernel
theorem dX11_keeps_51 : decode cX11_keeps 51 = .ok (.getfield 80, 3) := by decide +kernel
theorem dX11_keeps_54 : decode cX11_keeps 54 = .ok (.bipush 60, 2) := by decide +kernel
theorem dX11_keeps_56 : decode cX11_keeps 56 = .ok (.aload_n 0, 1) := by decide +kernel
theorem dX11_keeps_57 : decode cX11_keeps 57 = .ok (.getfield 170, 3) := by decide +kernel
theorem dX11_keeps_60 : decode cX11_keeps 60 = .ok (.imul, 1) := by decide +kernel
theorem dX11_keeps_61 : decode cX11_keeps 61 = .ok (.iload 4, 2) := by decide +kernel
theorem dX11_keeps_63 : decode cX11_keeps 63 = .ok (.iadd, 1) := by decide +kernel
theorem dX11_keeps_64 : decode cX11_keeps 64 = .ok (.aload_n 0, 1) := by decide +kernel
theorem dX11_keeps_65 : decode cX11_keeps 65 = .ok (.getfield 62, 3) := by decide +kernel
theorem dX11_keeps_68 : decode cX11_keeps 68 = .ok (.iload 4, 2) := by decide +kernel
theorem dX11_keeps_70 : decode cX11_keeps 70 = .ok (.iaload, 1) := by decide +kernel
theorem dX11_keeps_71 : decode cX11_keeps 71 = .ok (.iastore, 1) := by decide +kernel
theorem dX11_keeps_72 : decode cX11_keeps 72 = .ok (.iinc 4 1, 3) := by decide +kernel
theorem dX11_keeps_75 : decode cX11_keeps 75 = .ok (.goto (-31), 3) := by decide +kernel
theorem dX11_keeps_78 : decode cX11_keeps 78 = .ok (.aload_n 0, 1) := by decide +kernel
theorem dX11_keeps_79 : decode cX11_keeps 79 = .ok (.dup, 1) := by decide +kernel
theorem dX11_keeps_80 : decode cX11_keeps 80 = .ok (.getfield 170, 3) := by decide +kernel
theorem dX11_keeps_83 : decode cX11_keeps 83 = .ok (.iconst 1, 1) := by decide +kernel
theorem dX11_keeps_84 : decode cX11_keeps 84 = .ok (.iadd, 1) := by decide +kernel
theorem dX11_keeps_85 : decode cX11_keeps 85 = .ok (.putfield 170, 3) := by decide +kernel
theorem dX11_keeps_88 : decode cX11_keeps 88 = .ok (.return_, 1) := by decide +kernel
set_option maxRecDepth 20000 in
theorem ggX11_set_X11_weighs : GoodIn wsX11_set wsX11_weighs := goodIn_r _ [12, 1, 7, 2, 3, 13, 14, 15, 11, 16, 17, 18, 19, 20, 21, 22, 23, 24, 25, 26, 27, 28, 29, 30, 31, 32, 33, 34, 35, 36, 37, 38, 39, 40, 41, 42, 43, 44, 45, 46, 47, 48, 49, 50, 51, 60, 61, 62, 63, 64, 65, 66, 67, 68, 69, 70, 71, 72, 73, 74, 75, 76, 77, 78, 79, 80, 81, 82, 83, 84, 85, 86, 87, 88, 89, 90, 91, 92, 93, 94, 95, 96, 97, 98, 99, 100, 101, 102, 103] (by decide +kernel) (by decide +kernel)
set_option maxRecDepth 20000 in
theorem gX11_set_X11_weighs : GoodIn wsX11_set (wsV RX11 173 RX11 yX11_weighs wsX11_weighs) := goodIn_app (goodIn_of _ (by decide +kernel)) ggX11_set_X11_weighs
set_option maxRecDepth 20000 in
theorem ggX11_set_X11_most : GoodIn wsX11_set wsX11_most := goodIn_r _ [16, 1, 60, 61, 62, 63, 64, 65, 66, 67, 68, 69, 70, 71, 72, 73, 74, 75, 76, 77, 78, 79, 80, 81, 82, 83, 84, 85, 86, 87, 88, 89, 90, 91, 92, 93, 94, 95, 96, 97, 98, 99, 100, 101, 102, 103] (by decide +kernel) (by decide +kernel)
set_option maxRecDepth 20000 in
theorem gX11_set_X11_most : GoodIn wsX11_set (wsV RX11 158 RX11 yX11_most wsX11_most) := goodIn_app (goodIn_of _ (by decide +kernel)) ggX11_set_X11_most
set_option maxRecDepth 20000 in
theorem ggX11_set_X11_place : GoodIn wsX11_set wsX11_place := goodIn_r _ [34] (by decide +kernel) (by decide +kernel)
set_option maxRecDepth 20000 in
theorem gX11_set_X11_place : GoodIn wsX11_set (wsV RX11 146 RX11 yX11_place wsX11_place) := goodIn_app (goodIn_of _ (by decide +kernel)) ggX11_set_X11_place
set_option maxRecDepth 20000 in
theorem ggX11_set_X11_keeps : GoodIn wsX11_set wsX11_keeps := goodIn_r _ [55, 7, 56, 6, 57, 58, 59, 17, 18, 19, 11, 20, 21, 22, 23, 24, 25, 60, 61, 62, 63, 64, 65, 66, 67, 68, 69, 70, 71, 72, 73, 74, 75, 76, 77, 78, 79, 80, 81, 82, 83, 84, 85, 86, 87, 88, 89, 90, 91, 92, 93, 94, 95, 96, 97, 98, 99, 100, 101, 102, 103] (by decide +kernel) (by decide +kernel)
set_option maxRecDepth 20000 in
theorem gX11_set_X11_keeps : GoodIn wsX11_set (wsV RX11 176 RX11 yX11_keeps wsX11_keeps) := goodIn_app (goodIn_of _ (by decide +kernel)) ggX11_set_X11_keeps
set_option maxRecDepth 20000 in
theorem ggX11_set_X11_lays : GoodIn wsX11_set wsX11_lays := goodIn_r _ [20, 21, 22, 23, 24, 25, 60, 61, 62, 63, 64, 65, 66, 67, 68, 69, 70, 71, 72, 73, 74, 75, 76, 77, 78, 79, 80, 81, 82, 83, 84, 85, 86, 87, 88, 89, 90, 91, 92, 93, 94, 95, 96, 97, 98, 99, 100, 101, 102, 103] (by decide +kernel) (by decide +kernel)
set_option maxRecDepth 20000 in
theorem gX11_set_X11_lays : GoodIn wsX11_set (wsV RX11 151 RX11 yX11_lays wsX11_lays) := goodIn_app (goodIn_of _ (by decide +kernel)) ggX11_set_X11_lays
set_option maxRecDepth 20000 in
theorem ggX11_set_X11_lineStrain : GoodIn wsX11_set wsX11_lineStrain := goodIn_r _ [47, 1, 25, 21, 48, 49, 50, 51, 60, 61, 62, 63, 64, 65, 66, 67, 68, 69, 70, 71, 72, 73, 74, 75, 76, 77, 78, 79, 80, 81, 82, 83, 84, 85, 86, 87, 88, 89, 90, 91, 92, 93, 94, 95, 96, 97, 98, 99, 100, 101, 102, 103] (by decide +kernel) (by decide +kernel)
set_option maxRecDepth 20000 in
theorem gX11_set_X11_lineStrain : GoodIn wsX11_set (wsV RX11 166 RX11 yX11_lineStrain wsX11_lineStrain) := goodIn_app (goodIn_of _ (by decide +kernel)) ggX11_set_X11_lineStrain
set_option maxRecDepth 20000 in
theorem ggX11_set_X11_costOf : GoodIn wsX11_set wsX11_costOf := goodIn_r _ [29, 3, 2, 30, 31, 32, 33, 11, 34, 17, 18, 19, 20, 21, 22, 23, 24, 25, 35, 36, 37, 38, 7, 39, 40, 41, 42, 43, 60, 61, 62, 63, 64, 65, 66, 67, 68, 69, 70, 71, 72, 73, 74, 75, 76, 77, 78, 79, 80, 81, 82, 83, 84, 85, 86, 87, 88, 89, 90, 91, 92, 93, 94, 95, 96, 97, 98, 99, 100, 101, 102, 103] (by decide +kernel) (by decide +kernel)
set_option maxRecDepth 20000 in
theorem gX11_set_X11_costOf : GoodIn wsX11_set (wsV RX11 162 RX11 yX11_costOf wsX11_costOf) := goodIn_app (goodIn_of _ (by decide +kernel)) ggX11_set_X11_costOf
theorem dX11_set_0 : decode cX11_set 0 = .ok (.aload_n 0, 1) := by decide +kernel
theorem dX11_set_1 : decode cX11_set 1 = .ok (.invokevirtual 173, 3) := by decide +kernel
theorem dX11_set_4 : decode cX11_set 4 = .ok (.aload_n 0, 1) := by decide +kernel
theorem dX11_set_5 : decode cX11_set 5 = .ok (.getfield 118, 3) := by decide +kernel
theorem dX11_set_8 : decode cX11_set 8 = .ok (.ifCond .ne 7, 3) := by decide +kernel
theorem dX11_set_11 : decode cX11_set 11 = .ok (.iconst 0, 1) := by decide +kernel
theorem dX11_set_12 : decode cX11_set 12 = .ok (.goto 5, 3) := by decide +kernel
theorem dX11_set_15 : decode cX11_set 15 = .ok (.ldc 150, 2) := by decide +kernel
theorem dX11_set_17 : decode cX11_set 17 = .ok (.istore_n 1, 1) := by decide +kernel
theorem dX11_set_18 : decode cX11_set 18 = .ok (.iconst 0, 1) := by decide +kernel
theorem dX11_set_19 : decode cX11_set 19 = .ok (.istore_n 2, 1) := by decide +kernel
theorem dX11_set_20 : decode cX11_set 20 = .ok (.aload_n 0, 1) := by decide +kernel
theorem dX11_set_21 : decode cX11_set 21 = .ok (.iconst 0, 1) := by decide +kernel
theorem dX11_set_22 : decode cX11_set 22 = .ok (.invokevirtual 158, 3) := by decide +kernel
theorem dX11_set_25 : decode cX11_set 25 = .ok (.istore_n 3, 1) := by decide +kernel
theorem dX11_set_26 : decode cX11_set 26 = .ok (.iload_n 3, 1) := by decide +kernel
theorem dX11_set_27 : decode cX11_set 27 = .ok (.ifCond .le 41, 3) := by decide +kernel
theorem dX11_set_30 : decode cX11_set 30 = .ok (.aload_n 0, 1) := by decide +kernel
theorem dX11_set_31 : decode cX11_set 31 = .ok (.getfield 68, 3) := by decide +kernel
theorem dX11_set_34 : decode cX11_set 34 = .ok (.aload_n 0, 1) := by decide +kernel
theorem dX11_set_35 : decode cX11_set 35 = .ok (.iconst 0, 1) := by decide +kernel
theorem dX11_set_36 : decode cX11_set 36 = .ok (.iload_n 3, 1) := by decide +kernel
theorem dX11_set_37 : decode cX11_set 37 = .ok (.invokevirtual 146, 3) := by decide +kernel
theorem dX11_set_40 : decode cX11_set 40 = .ok (.iaload, 1) := by decide +kernel
theorem dX11_set_41 : decode cX11_set 41 = .ok (.iload_n 1, 1) := by decide +kernel
theorem dX11_set_42 : decode cX11_set 42 = .ok (.if_icmp .lt 6, 3) := by decide +kernel
theorem dX11_set_45 : decode cX11_set 45 = .ok (.goto 17, 3) := by decide +kernel
theorem dX11_set_48 : decode cX11_set 48 = .ok (.aload_n 0, 1) := by decide +kernel
theorem dX11_set_49 : decode cX11_set 49 = .ok (.getfield 68, 3) := by decide +kernel
theorem dX11_set_52 : decode cX11_set 52 = .ok (.aload_n 0, 1) := by decide +kernel
theorem dX11_set_53 : decode cX11_set 53 = .ok (.iconst 0, 1) := by decide +kernel
theorem dX11_set_54 : decode cX11_set 54 = .ok (.iload_n 3, 1) := by decide +kernel
theorem dX11_set_55 : decode cX11_set 55 = .ok (.invokevirtual 146, 3) := by decide +kernel
theorem dX11_set_58 : decode cX11_set 58 = .ok (.iaload, 1) := by decide +kernel
theorem dX11_set_59 : decode cX11_set 59 = .ok (.istore_n 1, 1) := by decide +kernel
theorem dX11_set_60 : decode cX11_set 60 = .ok (.iload_n 3, 1) := by decide +kernel
theorem dX11_set_61 : decode cX11_set 61 = .ok (.istore_n 2, 1) := by decide +kernel
theorem dX11_set_62 : decode cX11_set 62 = .ok (.iinc 3 (-1), 3) := by decide +kernel
theorem dX11_set_65 : decode cX11_set 65 = .ok (.goto (-39), 3) := by decide +kernel
theorem dX11_set_68 : decode cX11_set 68 = .ok (.iload_n 1, 1) := by decide +kernel
theorem dX11_set_69 : decode cX11_set 69 = .ok (.ldc 150, 2) := by decide +kernel
theorem dX11_set_71 : decode cX11_set 71 = .ok (.if_icmp .lt 5, 3) := by decide +kernel
theorem dX11_set_74 : decode cX11_set 74 = .ok (.iconst (-1), 1) := by decide +kernel
theorem dX11_set_75 : decode cX11_set 75 = .ok (.ireturn, 1) := by decide +kernel
theorem dX11_set_76 : decode cX11_set 76 = .ok (.aload_n 0, 1) := by decide +kernel
theorem dX11_set_77 : decode cX11_set 77 = .ok (.iconst 1, 1) := by decide +kernel
theorem dX11_set_78 : decode cX11_set 78 = .ok (.putfield 132, 3) := by decide +kernel
theorem dX11_set_81 : decode cX11_set 81 = .ok (.aload_n 0, 1) := by decide +kernel
theorem dX11_set_82 : decode cX11_set 82 = .ok (.iconst 1, 1) := by decide +kernel
theorem dX11_set_83 : decode cX11_set 83 = .ok (.putfield 136, 3) := by decide +kernel
theorem dX11_set_86 : decode cX11_set 86 = .ok (.aload_n 0, 1) := by decide +kernel
theorem dX11_set_87 : decode cX11_set 87 = .ok (.iconst 0, 1) := by decide +kernel
theorem dX11_set_88 : decode cX11_set 88 = .ok (.putfield 170, 3) := by decide +kernel
theorem dX11_set_91 : decode cX11_set 91 = .ok (.iconst 0, 1) := by decide +kernel
theorem dX11_set_92 : decode cX11_set 92 = .ok (.istore_n 3, 1) := by decide +kernel
theorem dX11_set_93 : decode cX11_set 93 = .ok (.iload_n 3, 1) := by decide +kernel
theorem dX11_set_94 : decode cX11_set 94 = .ok (.aload_n 0, 1) := by decide +kernel
theorem dX11_set_95 : decode cX11_set 95 = .ok (.getfield 118, 3) := by decide +kernel
theorem dX11_set_98 : decode cX11_set 98 = .ok (.if_icmp .ge 95, 3) := by decide +kernel
theorem dX11_set_101 : decode cX11_set 101 = .ok (.aload_n 0, 1) := by decide +kernel
theorem dX11_set_102 : decode cX11_set 102 = .ok (.iload_n 3, 1) := by decide +kernel
theorem dX11_set_103 : decode cX11_set 103 = .ok (.iload_n 2, 1) := by decide +kernel
theorem dX11_set_104 : decode cX11_set 104 = .ok (.invokevirtual 176, 3) := by decide +kernel
theorem dX11_set_107 : decode cX11_set 107 = .ok (.iload_n 3, 1) := by decide +kernel
theorem dX11_set_108 : decode cX11_set 108 = .ok (.iload_n 2, 1) := by decide +kernel
theorem dX11_set_109 : decode cX11_set 109 = .ok (.iadd, 1) := by decide +kernel
theorem dX11_set_110 : decode cX11_set 110 = .ok (.istore 4, 2) := by decide +kernel
theorem dX11_set_112 : decode cX11_set 112 = .ok (.iload 4, 2) := by decide +kernel
theorem dX11_set_114 : decode cX11_set 114 = .ok (.aload_n 0, 1) := by decide +kernel
theorem dX11_set_115 : decode cX11_set 115 = .ok (.getfield 118, 3) := by decide +kernel
theorem dX11_set_118 : decode cX11_set 118 = .ok (.if_icmp .ge 69, 3) := by decide +kernel
theorem dX11_set_121 : decode cX11_set 121 = .ok (.aload_n 0, 1) := by decide +kernel
theorem dX11_set_122 : decode cX11_set 122 = .ok (.aload_n 0, 1) := by decide +kernel
theorem dX11_set_123 : decode cX11_set 123 = .ok (.getfield 62, 3) := by decide +kernel
theorem dX11_set_126 : decode cX11_set 126 = .ok (.iload_n 3, 1) := by decide +kernel
theorem dX11_set_127 : decode cX11_set 127 = .ok (.iload_n 2, 1) := by decide +kernel
theorem dX11_set_128 : decode cX11_set 128 = .ok (.invokevirtual 151, 3) := by decide +kernel
theorem dX11_set_131 : decode cX11_set 131 = .ok (.istore 5, 2) := by decide +kernel
theorem dX11_set_133 : decode cX11_set 133 = .ok (.aload_n 0, 1) := by decide +kernel
theorem dX11_set_134 : decode cX11_set 134 = .ok (.getfield 68, 3) := by decide +kernel
theorem dX11_set_137 : decode cX11_set 137 = .ok (.aload_n 0, 1) := by decide +kernel
theorem dX11_set_138 : decode cX11_set 138 = .ok (.iload_n 3, 1) := by decide +kernel
theorem dX11_set_139 : decode cX11_set 139 = .ok (.iload_n 2, 1) := by decide +kernel
theorem dX11_set_140 : decode cX11_set 140 = .ok (.invokevirtual 146, 3) := by decide +kernel
theorem dX11_set_143 : decode cX11_set 143 = .ok (.iaload, 1) := by decide +kernel
theorem dX11_set_144 : decode cX11_set 144 = .ok (.aload_n 0, 1) := by decide +kernel
theorem dX11_set_145 : decode cX11_set 145 = .ok (.iload_n 3, 1) := by decide +kernel
theorem dX11_set_146 : decode cX11_set 146 = .ok (.iload_n 2, 1) := by decide +kernel
theorem dX11_set_147 : decode cX11_set 147 = .ok (.iload 5, 2) := by decide +kernel
theorem dX11_set_149 : decode cX11_set 149 = .ok (.invokevirtual 166, 3) := by decide +kernel
theorem dX11_set_152 : decode cX11_set 152 = .ok (.isub, 1) := by decide +kernel
theorem dX11_set_153 : decode cX11_set 153 = .ok (.istore 6, 2) := by decide +kernel
theorem dX11_set_155 : decode cX11_set 155 = .ok (.aload_n 0, 1) := by decide +kernel
theorem dX11_set_156 : decode cX11_set 156 = .ok (.iload 4, 2) := by decide +kernel
theorem dX11_set_158 : decode cX11_set 158 = .ok (.invokevirtual 158, 3) := by decide +kernel
theorem dX11_set_161 : decode cX11_set 161 = .ok (.istore 7, 2) := by decide +kernel
theorem dX11_set_163 : decode cX11_set 163 = .ok (.aload_n 0, 1) := by decide +kernel
theorem dX11_set_164 : decode cX11_set 164 = .ok (.iload_n 3, 1) := by decide +kernel
theorem dX11_set_165 : decode cX11_set 165 = .ok (.iload_n 2, 1) := by decide +kernel
theorem dX11_set_166 : decode cX11_set 166 = .ok (.iload 7, 2) := by decide +kernel
theorem dX11_set_168 : decode cX11_set 168 = .ok (.iload 5, 2) := by decide +kernel
theorem dX11_set_170 : decode cX11_set 170 = .ok (.invokevirtual 162, 3) := by decide +kernel
theorem dX11_set_173 : decode cX11_set 173 = .ok (.iload 6, 2) := by decide +kernel
theorem dX11_set_175 : decode cX11_set 175 = .ok (.if_icmp .eq 9, 3) := by decide +kernel
theorem dX11_set_178 : decode cX11_set 178 = .ok (.iinc 7 (-1), 3) := by decide +kernel
theorem dX11_set_181 : decode cX11_set 181 = .ok (.goto (-18), 3) := by decide +kernel
theorem dX11_set_184 : decode cX11_set 184 = .ok (.iload 7, 2) := by decide +kernel
theorem dX11_set_186 : decode cX11_set 186 = .ok (.istore_n 2, 1) := by decide +kernel
theorem dX11_set_187 : decode cX11_set 187 = .ok (.iload 4, 2) := by decide +kernel
theorem dX11_set_189 : decode cX11_set 189 = .ok (.istore_n 3, 1) := by decide +kernel
theorem dX11_set_190 : decode cX11_set 190 = .ok (.goto (-97), 3) := by decide +kernel
theorem dX11_set_193 : decode cX11_set 193 = .ok (.iload_n 1, 1) := by decide +kernel
theorem dX11_set_194 : decode cX11_set 194 = .ok (.ireturn, 1) := by decide +kernel
theorem dX11_lines_0 : decode cX11_lines 0 = .ok (.aload_n 0, 1) := by decide +kernel
theorem dX11_lines_1 : decode cX11_lines 1 = .ok (.getfield 132, 3) := by decide +kernel
theorem dX11_lines_4 : decode cX11_lines 4 = .ok (.ifCond .eq 10, 3) := by decide +kernel
theorem dX11_lines_7 : decode cX11_lines 7 = .ok (.aload_n 0, 1) := by decide +kernel
theorem dX11_lines_8 : decode cX11_lines 8 = .ok (.getfield 170, 3) := by decide +kernel
theorem dX11_lines_11 : decode cX11_lines 11 = .ok (.goto 4, 3) := by decide +kernel
theorem dX11_lines_14 : decode cX11_lines 14 = .ok (.iconst (-1), 1) := by decide +kernel
theorem dX11_lines_15 : decode cX11_lines 15 = .ok (.ireturn, 1) := by decide +kernel
set_option maxRecDepth 20000 in
theorem ggX11_page_X11_isIn : GoodIn wsX11_page wsX11_isIn := goodIn_r _ [6] (by decide +kernel) (by decide +kernel)
set_option maxRecDepth 20000 in
theorem gX11_page_X11_isIn : GoodIn wsX11_page (va_wsS RX11 142 yX11_isIn wsX11_isIn) := goodIn_app (goodIn_of _ (by decide +kernel)) ggX11_page_X11_isIn
theorem dX11_page_0 : decode cX11_page 0 = .ok (.iload_n 1, 1) := by decide +kernel
theorem dX11_page_1 : decode cX11_page 1 = .ok (.iconst 2, 1) := by decide +kernel
theorem dX11_page_2 : decode cX11_page 2 = .ok (.bipush 40, 2) := by decide +kernel
theorem dX11_page_4 : decode cX11_page 4 = .ok (.invokestatic 142, 3) := by decide +kernel
theorem dX11_page_7 : decode cX11_page 7 = .ok (.ifCond .eq 13, 3) := by decide +kernel
theorem dX11_page_10 : decode cX11_page 10 = .ok (.iload_n 2, 1) := by decide +kernel
theorem dX11_page_11 : decode cX11_page 11 = .ok (.iconst 2, 1) := by decide +kernel
theorem dX11_page_12 : decode cX11_page 12 = .ok (.bipush 7, 2) := by decide +kernel
theorem dX11_page_14 : decode cX11_page 14 = .ok (.invokestatic 142, 3) := by decide +kernel
theorem dX11_page_17 : decode cX11_page 17 = .ok (.ifCond .ne 5, 3) := by decide +kernel
theorem dX11_page_20 : decode cX11_page 20 = .ok (.iconst 0, 1) := by decide +kernel
theorem dX11_page_21 : decode cX11_page 21 = .ok (.ireturn, 1) := by decide +kernel
theorem dX11_page_22 : decode cX11_page 22 = .ok (.aload_n 0, 1) := by decide +kernel
theorem dX11_page_23 : decode cX11_page 23 = .ok (.iload_n 1, 1) := by decide +kernel
theorem dX11_page_24 : decode cX11_page 24 = .ok (.putfield 83, 3) := by decide +kernel
theorem dX11_page_27 : decode cX11_page 27 = .ok (.aload_n 0, 1) := by decide +kernel
theorem dX11_page_28 : decode cX11_page 28 = .ok (.iload_n 2, 1) := by decide +kernel
theorem dX11_page_29 : decode cX11_page 29 = .ok (.putfield 86, 3) := by decide +kernel
theorem dX11_page_32 : decode cX11_page 32 = .ok (.iconst 1, 1) := by decide +kernel
theorem dX11_page_33 : decode cX11_page 33 = .ok (.ireturn, 1) := by decide +kernel
theorem dX11_line_0 : decode cX11_line 0 = .ok (.aload_n 0, 1) := by decide +kernel
theorem dX11_line_1 : decode cX11_line 1 = .ok (.getfield 132, 3) := by decide +kernel
theorem dX11_line_4 : decode cX11_line 4 = .ok (.ifCond .eq 15, 3) := by decide +kernel
theorem dX11_line_7 : decode cX11_line 7 = .ok (.iload_n 1, 1) := by decide +kernel
theorem dX11_line_8 : decode cX11_line 8 = .ok (.ifCond .lt 11, 3) := by decide +kernel
theorem dX11_line_11 : decode cX11_line 11 = .ok (.iload_n 1, 1) := by decide +kernel
theorem dX11_line_12 : decode cX11_line 12 = .ok (.aload_n 0, 1) := by decide +kernel
theorem dX11_line_13 : decode cX11_line 13 = .ok (.getfield 170, 3) := by decide +kernel
theorem dX11_line_16 : decode cX11_line 16 = .ok (.if_icmp .lt 5, 3) := by decide +kernel
theorem dX11_line_19 : decode cX11_line 19 = .ok (.iconst (-1), 1) := by decide +kernel
theorem dX11_line_20 : decode cX11_line 20 = .ok (.ireturn, 1) := by decide +kernel
theorem dX11_line_21 : decode cX11_line 21 = .ok (.iload_n 2, 1) := by decide +kernel
theorem dX11_line_22 : decode cX11_line 22 = .ok (.tableswitch 81 0 4 #[34, 41, 48, 55, 74], 34) := by decide +kernel
theorem dX11_line_56 : decode cX11_line 56 = .ok (.aload_n 0, 1) := by decide +kernel
theorem dX11_line_57 : decode cX11_line 57 = .ok (.getfield 71, 3) := by decide +kernel
theorem dX11_line_60 : decode cX11_line 60 = .ok (.iload_n 1, 1) := by decide +kernel
theorem dX11_line_61 : decode cX11_line 61 = .ok (.iaload, 1) := by decide +kernel
theorem dX11_line_62 : decode cX11_line 62 = .ok (.ireturn, 1) := by decide +kernel
theorem dX11_line_63 : decode cX11_line 63 = .ok (.aload_n 0, 1) := by decide +kernel
theorem dX11_line_64 : decode cX11_line 64 = .ok (.getfield 74, 3) := by decide +kernel
theorem dX11_line_67 : decode cX11_line 67 = .ok (.iload_n 1, 1) := by decide +kernel
theorem dX11_line_68 : decode cX11_line 68 = .ok (.iaload, 1) := by decide +kernel
theorem dX11_line_69 : decode cX11_line 69 = .ok (.ireturn, 1) := by decide +kernel
theorem dX11_line_70 : decode cX11_line 70 = .ok (.aload_n 0, 1) := by decide +kernel
theorem dX11_line_71 : decode cX11_line 71 = .ok (.getfield 77, 3) := by decide +kernel
theorem dX11_line_74 : decode cX11_line 74 = .ok (.iload_n 1, 1) := by decide +kernel
theorem dX11_line_75 : decode cX11_line 75 = .ok (.iaload, 1) := by decide +kernel
theorem dX11_line_76 : decode cX11_line 76 = .ok (.ireturn, 1) := by decide +kernel
theorem dX11_line_77 : decode cX11_line 77 = .ok (.iload_n 1, 1) := by decide +kernel
theorem dX11_line_78 : decode cX11_line 78 = .ok (.aload_n 0, 1) := by decide +kernel
theorem dX11_line_79 : decode cX11_line 79 = .ok (.getfield 83, 3) := by decide +kernel
theorem dX11_line_82 : decode cX11_line 82 = .ok (.irem, 1) := by decide +kernel
theorem dX11_line_83 : decode cX11_line 83 = .ok (.iload_n 1, 1) := by decide +kernel
theorem dX11_line_84 : decode cX11_line 84 = .ok (.aload_n 0, 1) := by decide +kernel
theorem dX11_line_85 : decode cX11_line 85 = .ok (.getfield 83, 3) := by decide +kernel
theorem dX11_line_88 : decode cX11_line 88 = .ok (.idiv, 1) := by decide +kernel
theorem dX11_line_89 : decode cX11_line 89 = .ok (.iadd, 1) := by decide +kernel
theorem dX11_line_90 : decode cX11_line 90 = .ok (.aload_n 0, 1) := by decide +kernel
theorem dX11_line_91 : decode cX11_line 91 = .ok (.getfield 86, 3) := by decide +kernel
theorem dX11_line_94 : decode cX11_line 94 = .ok (.irem, 1) := by decide +kernel
theorem dX11_line_95 : decode cX11_line 95 = .ok (.ireturn, 1) := by decide +kernel
theorem dX11_line_96 : decode cX11_line 96 = .ok (.iload_n 1, 1) := by decide +kernel
theorem dX11_line_97 : decode cX11_line 97 = .ok (.aload_n 0, 1) := by decide +kernel
theorem dX11_line_98 : decode cX11_line 98 = .ok (.getfield 83, 3) := by decide +kernel
theorem dX11_line_101 : decode cX11_line 101 = .ok (.idiv, 1) := by decide +kernel
theorem dX11_line_102 : decode cX11_line 102 = .ok (.ireturn, 1) := by decide +kernel
theorem dX11_line_103 : decode cX11_line 103 = .ok (.iconst (-1), 1) := by decide +kernel
theorem dX11_line_104 : decode cX11_line 104 = .ok (.ireturn, 1) := by decide +kernel
theorem dX11_sign_0 : decode cX11_sign 0 = .ok (.aload_n 0, 1) := by decide +kernel
theorem dX11_sign_1 : decode cX11_sign 1 = .ok (.getfield 132, 3) := by decide +kernel
theorem dX11_sign_4 : decode cX11_sign 4 = .ok (.ifCond .eq 43, 3) := by decide +kernel
theorem dX11_sign_7 : decode cX11_sign 7 = .ok (.iload_n 1, 1) := by decide +kernel
theorem dX11_sign_8 : decode cX11_sign 8 = .ok (.ifCond .lt 39, 3) := by decide +kernel
theorem dX11_sign_11 : decode cX11_sign 11 = .ok (.iload_n 1, 1) := by decide +kernel
theorem dX11_sign_12 : decode cX11_sign 12 = .ok (.aload_n 0, 1) := by decide +kernel
theorem dX11_sign_13 : decode cX11_sign 13 = .ok (.getfield 170, 3) := by decide +kernel
theorem dX11_sign_16 : decode cX11_sign 16 = .ok (.if_icmp .ge 31, 3) := by decide +kernel
theorem dX11_sign_19 : decode cX11_sign 19 = .ok (.iload_n 2, 1) := by decide +kernel
theorem dX11_sign_20 : decode cX11_sign 20 = .ok (.ifCond .lt 27, 3) := by decide +kernel
theorem dX11_sign_23 : decode cX11_sign 23 = .ok (.iload_n 2, 1) := by decide +kernel
theorem dX11_sign_24 : decode cX11_sign 24 = .ok (.aload_n 0, 1) := by decide +kernel
theorem dX11_sign_25 : decode cX11_sign 25 = .ok (.getfield 77, 3) := by decide +kernel
theorem dX11_sign_28 : decode cX11_sign 28 = .ok (.iload_n 1, 1) := by decide +kernel
theorem dX11_sign_29 : decode cX11_sign 29 = .ok (.iaload, 1) := by decide +kernel
theorem dX11_sign_30 : decode cX11_sign 30 = .ok (.if_icmp .ge 17, 3) := by decide +kernel
theorem dX11_sign_33 : decode cX11_sign 33 = .ok (.aload_n 0, 1) := by decide +kernel
theorem dX11_sign_34 : decode cX11_sign 34 = .ok (.getfield 80, 3) := by decide +kernel
theorem dX11_sign_37 : decode cX11_sign 37 = .ok (.bipush 60, 2) := by decide +kernel
theorem dX11_sign_39 : decode cX11_sign 39 = .ok (.iload_n 1, 1) := by decide +kernel
theorem dX11_sign_40 : decode cX11_sign 40 = .ok (.imul, 1) := by decide +kernel
theorem dX11_sign_41 : decode cX11_sign 41 = .ok (.iload_n 2, 1) := by decide +kernel
theorem dX11_sign_42 : decode cX11_sign 42 = .ok (.iadd, 1) := by decide +kernel
theorem dX11_sign_43 : decode cX11_sign 43 = .ok (.iaload, 1) := by decide +kernel
theorem dX11_sign_44 : decode cX11_sign 44 = .ok (.goto 4, 3) := by decide +kernel
theorem dX11_sign_47 : decode cX11_sign 47 = .ok (.iconst (-1), 1) := by decide +kernel
theorem dX11_sign_48 : decode cX11_sign 48 = .ok (.ireturn, 1) := by decide +kernel
theorem dX11_rivers_0 : decode cX11_rivers 0 = .ok (.aload_n 0, 1) := by decide +kernel
theorem dX11_rivers_1 : decode cX11_rivers 1 = .ok (.getfield 132, 3) := by decide +kernel
theorem dX11_rivers_4 : decode cX11_rivers 4 = .ok (.ifCond .eq 8, 3) := by decide +kernel
theorem dX11_rivers_7 : decode cX11_rivers 7 = .ok (.iload_n 1, 1) := by decide +kernel
theorem dX11_rivers_8 : decode cX11_rivers 8 = .ok (.iconst 1, 1) := by decide +kernel
theorem dX11_rivers_9 : decode cX11_rivers 9 = .ok (.if_icmp .ge 5, 3) := by decide +kernel
theorem dX11_rivers_12 : decode cX11_rivers 12 = .ok (.iconst (-1), 1) := by decide +kernel
theorem dX11_rivers_13 : decode cX11_rivers 13 = .ok (.ireturn, 1) := by decide +kernel
theorem dX11_rivers_14 : decode cX11_rivers 14 = .ok (.iconst 0, 1) := by decide +kernel
theorem dX11_rivers_15 : decode cX11_rivers 15 = .ok (.istore_n 2, 1) := by decide +kernel
theorem dX11_rivers_16 : decode cX11_rivers 16 = .ok (.iconst 0, 1) := by decide +kernel
theorem dX11_rivers_17 : decode cX11_rivers 17 = .ok (.istore_n 3, 1) := by decide +kernel
theorem dX11_rivers_18 : decode cX11_rivers 18 = .ok (.iload_n 3, 1) := by decide +kernel
theorem dX11_rivers_19 : decode cX11_rivers 19 = .ok (.bipush 60, 2) := by decide +kernel
theorem dX11_rivers_21 : decode cX11_rivers 21 = .ok (.if_icmp .ge 103, 3) := by decide +kernel
theorem dX11_rivers_24 : decode cX11_rivers 24 = .ok (.iconst 0, 1) := by decide +kernel
theorem dX11_rivers_25 : decode cX11_rivers 25 = .ok (.istore 4, 2) := by decide +kernel
theorem dX11_rivers_27 : decode cX11_rivers 27 = .ok (.iconst 0, 1) := by decide +kernel
theorem dX11_rivers_28 : decode cX11_rivers 28 = .ok (.istore 5, 2) := by decide +kernel
theorem dX11_rivers_30 : decode cX11_rivers 30 = .ok (.iload 5, 2) := by decide +kernel
theorem dX11_rivers_32 : decode cX11_rivers 32 = .ok (.aload_n 0, 1) := by decide +kernel
theorem dX11_rivers_33 : decode cX11_rivers 33 = .ok (.getfield 170, 3) := by decide +kernel
theorem dX11_rivers_36 : decode cX11_rivers 36 = .ok (.if_icmp .gt 82, 3) := by decide +kernel
theorem dX11_rivers_39 : decode cX11_rivers 39 = .ok (.iload 5, 2) := by decide +kernel
theorem dX11_rivers_41 : decode cX11_rivers 41 = .ok (.aload_n 0, 1) := by decide +kernel
theorem dX11_rivers_42 : decode cX11_rivers 42 = .ok (.getfield 170, 3) := by decide +kernel
theorem dX11_rivers_45 : decode cX11_rivers 45 = .ok (.if_icmp .ge 35, 3) := by decide +kernel
theorem dX11_rivers_48 : decode cX11_rivers 48 = .ok (.iload_n 3, 1) := by decide +kernel
theorem dX11_rivers_49 : decode cX11_rivers 49 = .ok (.aload_n 0, 1) := by decide +kernel
theorem dX11_rivers_50 : decode cX11_rivers 50 = .ok (.getfield 77, 3) := by decide +kernel
theorem dX11_rivers_53 : decode cX11_rivers 53 = .ok (.iload 5, 2) := by decide +kernel
theorem dX11_rivers_55 : decode cX11_rivers 55 = .ok (.iaload, 1) := by decide +kernel
theorem dX11_rivers_56 : decode cX11_rivers 56 = .ok (.if_icmp .ge 24, 3) := by decide +kernel
theorem dX11_rivers_59 : decode cX11_rivers 59 = .ok (.aload_n 0, 1) := by decide +kernel
theorem dX11_rivers_60 : decode cX11_rivers 60 = .ok (.getfield 80, 3) := by decide +kernel
theorem dX11_rivers_63 : decode cX11_rivers 63 = .ok (.bipush 60, 2) := by decide +kernel
theorem dX11_rivers_65 : decode cX11_rivers 65 = .ok (.iload 5, 2) := by decide +kernel
theorem dX11_rivers_67 : decode cX11_rivers 67 = .ok (.imul, 1) := by decide +kernel
theorem dX11_rivers_68 : decode cX11_rivers 68 = .ok (.iload_n 3, 1) := by decide +kernel
theorem dX11_rivers_69 : decode cX11_rivers 69 = .ok (.iadd, 1) := by decide +kernel
theorem dX11_rivers_70 : decode cX11_rivers 70 = .ok (.iaload, 1) := by decide +kernel
theorem dX11_rivers_71 : decode cX11_rivers 71 = .ok (.bipush 32, 2) := by decide +kernel
theorem dX11_rivers_73 : decode cX11_rivers 73 = .ok (.if_icmp .ne 7, 3) := by decide +kernel
theorem dX11_rivers_76 : decode cX11_rivers 76 = .ok (.iconst 1, 1) := by decide +kernel
theorem dX11_rivers_77 : decode cX11_rivers 77 = .ok (.goto 4, 3) := by decide +kernel
theorem dX11_rivers_80 : decode cX11_rivers 80 = .ok (.iconst 0, 1) := by decide +kernel
theorem dX11_rivers_81 : decode cX11_rivers 81 = .ok (.istore 6, 2) := by decide +kernel
theorem dX11_rivers_83 : decode cX11_rivers 83 = .ok (.iload 6, 2) := by decide +kernel
theorem dX11_rivers_85 : decode cX11_rivers 85 = .ok (.ifCond .ne 12, 3) := by decide +kernel
theorem dX11_rivers_88 : decode cX11_rivers 88 = .ok (.iload 4, 2) := by decide +kernel
theorem dX11_rivers_90 : decode cX11_rivers 90 = .ok (.iload_n 1, 1) := by decide +kernel
theorem dX11_rivers_91 : decode cX11_rivers 91 = .ok (.if_icmp .le 6, 3) := by decide +kernel
theorem dX11_rivers_94 : decode cX11_rivers 94 = .ok (.iinc 2 1, 3) := by decide +kernel
theorem dX11_rivers_97 : decode cX11_rivers 97 = .ok (.iload 6, 2) := by decide +kernel
theorem dX11_rivers_99 : decode cX11_rivers 99 = .ok (.ifCond .eq 10, 3) := by decide +kernel
theorem dX11_rivers_102 : decode cX11_rivers 102 = .ok (.iload 4, 2) := by decide +kernel
theorem dX11_rivers_104 : decode cX11_rivers 104 = .ok (.iconst 1, 1) := by decide +kernel
theorem dX11_rivers_105 : decode cX11_rivers 105 = .ok (.iadd, 1) := by decide +kernel
theorem dX11_rivers_106 : decode cX11_rivers 106 = .ok (.goto 4, 3) := by decide +kernel
theorem dX11_rivers_109 : decode cX11_rivers 109 = .ok (.iconst 0, 1) := by decide +kernel
theorem dX11_rivers_110 : decode cX11_rivers 110 = .ok (.istore 4, 2) := by decide +kernel
theorem dX11_rivers_112 : decode cX11_rivers 112 = .ok (.iinc 5 1, 3) := by decide +kernel
theorem dX11_rivers_115 : decode cX11_rivers 115 = .ok (.goto (-85), 3) := by decide +kernel
theorem dX11_rivers_118 : decode cX11_rivers 118 = .ok (.iinc 3 1, 3) := by decide +kernel
theorem dX11_rivers_121 : decode cX11_rivers 121 = .ok (.goto (-103), 3) := by decide +kernel
theorem dX11_rivers_124 : decode cX11_rivers 124 = .ok (.iload_n 2, 1) := by decide +kernel
theorem dX11_rivers_125 : decode cX11_rivers 125 = .ok (.ireturn, 1) := by decide +kernel
theorem dX11_pageOf_0 : decode cX11_pageOf 0 = .ok (.iconst 0, 1) := by decide +kernel
theorem dX11_pageOf_1 : decode cX11_pageOf 1 = .ok (.istore_n 2, 1) := by decide +kernel
theorem dX11_pageOf_2 : decode cX11_pageOf 2 = .ok (.iload_n 1, 1) := by decide +kernel
theorem dX11_pageOf_3 : decode cX11_pageOf 3 = .ok (.aload_n 0, 1) := by decide +kernel
theorem dX11_pageOf_4 : decode cX11_pageOf 4 = .ok (.getfield 71, 3) := by decide +kernel
theorem dX11_pageOf_7 : decode cX11_pageOf 7 = .ok (.iload_n 2, 1) := by decide +kernel
theorem dX11_pageOf_8 : decode cX11_pageOf 8 = .ok (.iaload, 1) := by decide +kernel
theorem dX11_pageOf_9 : decode cX11_pageOf 9 = .ok (.aload_n 0, 1) := by decide +kernel
theorem dX11_pageOf_10 : decode cX11_pageOf 10 = .ok (.getfield 74, 3) := by decide +kernel
theorem dX11_pageOf_13 : decode cX11_pageOf 13 = .ok (.iload_n 2, 1) := by decide +kernel
theorem dX11_pageOf_14 : decode cX11_pageOf 14 = .ok (.iaload, 1) := by decide +kernel
theorem dX11_pageOf_15 : decode cX11_pageOf 15 = .ok (.iadd, 1) := by decide +kernel
theorem dX11_pageOf_16 : decode cX11_pageOf 16 = .ok (.if_icmp .lt 9, 3) := by decide +kernel
theorem dX11_pageOf_19 : decode cX11_pageOf 19 = .ok (.iinc 2 1, 3) := by decide +kernel
theorem dX11_pageOf_22 : decode cX11_pageOf 22 = .ok (.goto (-20), 3) := by decide +kernel
theorem dX11_pageOf_25 : decode cX11_pageOf 25 = .ok (.iload_n 2, 1) := by decide +kernel
theorem dX11_pageOf_26 : decode cX11_pageOf 26 = .ok (.aload_n 0, 1) := by decide +kernel
theorem dX11_pageOf_27 : decode cX11_pageOf 27 = .ok (.getfield 83, 3) := by decide +kernel
theorem dX11_pageOf_30 : decode cX11_pageOf 30 = .ok (.idiv, 1) := by decide +kernel
theorem dX11_pageOf_31 : decode cX11_pageOf 31 = .ok (.ireturn, 1) := by decide +kernel
set_option maxRecDepth 20000 in
theorem ggX11_mark_X11_pageOf : GoodIn wsX11_mark wsX11_pageOf := goodIn_r _ [10, 11, 12, 13, 14, 15, 16, 17, 18, 19, 20, 21, 22, 23, 24, 25, 26, 27, 28, 29, 30, 31, 32, 33, 34, 35, 36, 37, 38, 39, 40, 41, 42, 43, 44, 45, 46, 47, 48, 49, 50, 51, 52, 53, 54, 55, 56, 57] (by decide +kernel) (by decide +kernel)
set_option maxRecDepth 20000 in
theorem gX11_mark_X11_pageOf : GoodIn wsX11_mark (wsV RX11 179 RX11 yX11_pageOf wsX11_pageOf) := goodIn_app (goodIn_of _ (by decide +kernel)) ggX11_mark_X11_pageOf
theorem dX11_mark_0 : decode cX11_mark 0 = .ok (.aload_n 0, 1) := by decide +kernel
theorem dX11_mark_1 : decode cX11_mark 1 = .ok (.getfield 136, 3) := by decide +kernel
theorem dX11_mark_4 : decode cX11_mark 4 = .ok (.ifCond .eq 24, 3) := by decide +kernel
theorem dX11_mark_7 : decode cX11_mark 7 = .ok (.iload_n 1, 1) := by decide +kernel
theorem dX11_mark_8 : decode cX11_mark 8 = .ok (.ifCond .lt 20, 3) := by decide +kernel
theorem dX11_mark_11 : decode cX11_mark 11 = .ok (.iload_n 1, 1) := by decide +kernel
theorem dX11_mark_12 : decode cX11_mark 12 = .ok (.aload_n 0, 1) := by decide +kernel
theorem dX11_mark_13 : decode cX11_mark 13 = .ok (.getfield 118, 3) := by decide +kernel
theorem dX11_mark_16 : decode cX11_mark 16 = .ok (.if_icmp .ge 12, 3) := by decide +kernel
theorem dX11_mark_19 : decode cX11_mark 19 = .ok (.aload_n 0, 1) := by decide +kernel
theorem dX11_mark_20 : decode cX11_mark 20 = .ok (.getfield 139, 3) := by decide +kernel
theorem dX11_mark_23 : decode cX11_mark 23 = .ok (.bipush 20, 2) := by decide +kernel
theorem dX11_mark_25 : decode cX11_mark 25 = .ok (.if_icmp .ne 5, 3) := by decide +kernel
theorem dX11_mark_28 : decode cX11_mark 28 = .ok (.iconst (-1), 1) := by decide +kernel
theorem dX11_mark_29 : decode cX11_mark 29 = .ok (.ireturn, 1) := by decide +kernel
theorem dX11_mark_30 : decode cX11_mark 30 = .ok (.aload_n 0, 1) := by decide +kernel
theorem dX11_mark_31 : decode cX11_mark 31 = .ok (.getfield 89, 3) := by decide +kernel
theorem dX11_mark_34 : decode cX11_mark 34 = .ok (.aload_n 0, 1) := by decide +kernel
theorem dX11_mark_35 : decode cX11_mark 35 = .ok (.getfield 139, 3) := by decide +kernel
theorem dX11_mark_38 : decode cX11_mark 38 = .ok (.iload_n 1, 1) := by decide +kernel
theorem dX11_mark_39 : decode cX11_mark 39 = .ok (.iastore, 1) := by decide +kernel
theorem dX11_mark_40 : decode cX11_mark 40 = .ok (.aload_n 0, 1) := by decide +kernel
theorem dX11_mark_41 : decode cX11_mark 41 = .ok (.getfield 92, 3) := by decide +kernel
theorem dX11_mark_44 : decode cX11_mark 44 = .ok (.aload_n 0, 1) := by decide +kernel
theorem dX11_mark_45 : decode cX11_mark 45 = .ok (.getfield 139, 3) := by decide +kernel
theorem dX11_mark_48 : decode cX11_mark 48 = .ok (.aload_n 0, 1) := by decide +kernel
theorem dX11_mark_49 : decode cX11_mark 49 = .ok (.iload_n 1, 1) := by decide +kernel
theorem dX11_mark_50 : decode cX11_mark 50 = .ok (.invokevirtual 179, 3) := by decide +kernel
theorem dX11_mark_53 : decode cX11_mark 53 = .ok (.iastore, 1) := by decide +kernel
theorem dX11_mark_54 : decode cX11_mark 54 = .ok (.aload_n 0, 1) := by decide +kernel
theorem dX11_mark_55 : decode cX11_mark 55 = .ok (.dup, 1) := by decide +kernel
theorem dX11_mark_56 : decode cX11_mark 56 = .ok (.getfield 139, 3) := by decide +kernel
theorem dX11_mark_59 : decode cX11_mark 59 = .ok (.iconst 1, 1) := by decide +kernel
theorem dX11_mark_60 : decode cX11_mark 60 = .ok (.iadd, 1) := by decide +kernel
theorem dX11_mark_61 : decode cX11_mark 61 = .ok (.putfield 139, 3) := by decide +kernel
theorem dX11_mark_64 : decode cX11_mark 64 = .ok (.aload_n 0, 1) := by decide +kernel
theorem dX11_mark_65 : decode cX11_mark 65 = .ok (.getfield 139, 3) := by decide +kernel
theorem dX11_mark_68 : decode cX11_mark 68 = .ok (.iconst 1, 1) := by decide +kernel
theorem dX11_mark_69 : decode cX11_mark 69 = .ok (.isub, 1) := by decide +kernel
theorem dX11_mark_70 : decode cX11_mark 70 = .ok (.ireturn, 1) := by decide +kernel
set_option maxRecDepth 20000 in
theorem ggX11_marked_X11_pageOf : GoodIn wsX11_marked wsX11_pageOf := goodIn_r _ [9, 10, 11, 12, 13, 14, 15, 16, 17, 18, 19, 20, 21, 22, 23, 24, 25, 26, 27, 28, 29, 30, 31, 32, 33, 34, 35, 36, 37, 38, 39, 40, 41, 42, 43, 44, 45, 46, 47, 48, 49, 50, 51, 52, 53, 54, 55, 56] (by decide +kernel) (by decide +kernel)
set_option maxRecDepth 20000 in
theorem gX11_marked_X11_pageOf : GoodIn wsX11_marked (wsV RX11 179 RX11 yX11_pageOf wsX11_pageOf) := goodIn_app (goodIn_of _ (by decide +kernel)) ggX11_marked_X11_pageOf
theorem dX11_marked_0 : decode cX11_marked 0 = .ok (.iload_n 1, 1) := by decide +kernel
theorem dX11_marked_1 : decode cX11_marked 1 = .ok (.ifCond .lt 20, 3) := by decide +kernel
theorem dX11_marked_4 : decode cX11_marked 4 = .ok (.iload_n 1, 1) := by decide +kernel
theorem dX11_marked_5 : decode cX11_marked 5 = .ok (.aload_n 0, 1) := by decide +kernel
theorem dX11_marked_6 : decode cX11_marked 6 = .ok (.getfield 139, 3) := by decide +kernel
theorem dX11_marked_9 : decode cX11_marked 9 = .ok (.if_icmp .ge 12, 3) := by decide +kernel
theorem dX11_marked_12 : decode cX11_marked 12 = .ok (.iload_n 2, 1) := by decide +kernel
theorem dX11_marked_13 : decode cX11_marked 13 = .ok (.ifCond .lt 8, 3) := by decide +kernel
theorem dX11_marked_16 : decode cX11_marked 16 = .ok (.iload_n 2, 1) := by decide +kernel
theorem dX11_marked_17 : decode cX11_marked 17 = .ok (.iconst 2, 1) := by decide +kernel
theorem dX11_marked_18 : decode cX11_marked 18 = .ok (.if_icmp .le 5, 3) := by decide +kernel
theorem dX11_marked_21 : decode cX11_marked 21 = .ok (.iconst (-1), 1) := by decide +kernel
theorem dX11_marked_22 : decode cX11_marked 22 = .ok (.ireturn, 1) := by decide +kernel
theorem dX11_marked_23 : decode cX11_marked 23 = .ok (.iload_n 2, 1) := by decide +kernel
theorem dX11_marked_24 : decode cX11_marked 24 = .ok (.ifCond .ne 10, 3) := by decide +kernel
theorem dX11_marked_27 : decode cX11_marked 27 = .ok (.aload_n 0, 1) := by decide +kernel
theorem dX11_marked_28 : decode cX11_marked 28 = .ok (.getfield 89, 3) := by decide +kernel
theorem dX11_marked_31 : decode cX11_marked 31 = .ok (.iload_n 1, 1) := by decide +kernel
theorem dX11_marked_32 : decode cX11_marked 32 = .ok (.iaload, 1) := by decide +kernel
theorem dX11_marked_33 : decode cX11_marked 33 = .ok (.ireturn, 1) := by decide +kernel
theorem dX11_marked_34 : decode cX11_marked 34 = .ok (.iload_n 2, 1) := by decide +kernel
theorem dX11_marked_35 : decode cX11_marked 35 = .ok (.iconst 1, 1) := by decide +kernel
theorem dX11_marked_36 : decode cX11_marked 36 = .ok (.if_icmp .ne 10, 3) := by decide +kernel
theorem dX11_marked_39 : decode cX11_marked 39 = .ok (.aload_n 0, 1) := by decide +kernel
theorem dX11_marked_40 : decode cX11_marked 40 = .ok (.getfield 92, 3) := by decide +kernel
theorem dX11_marked_43 : decode cX11_marked 43 = .ok (.iload_n 1, 1) := by decide +kernel
theorem dX11_marked_44 : decode cX11_marked 44 = .ok (.iaload, 1) := by decide +kernel
theorem dX11_marked_45 : decode cX11_marked 45 = .ok (.ireturn, 1) := by decide +kernel
theorem dX11_marked_46 : decode cX11_marked 46 = .ok (.aload_n 0, 1) := by decide +kernel
theorem dX11_marked_47 : decode cX11_marked 47 = .ok (.getfield 136, 3) := by decide +kernel
theorem dX11_marked_50 : decode cX11_marked 50 = .ok (.ifCond .eq 23, 3) := by decide +kernel
theorem dX11_marked_53 : decode cX11_marked 53 = .ok (.aload_n 0, 1) := by decide +kernel
theorem dX11_marked_54 : decode cX11_marked 54 = .ok (.aload_n 0, 1) := by decide +kernel
theorem dX11_marked_55 : decode cX11_marked 55 = .ok (.getfield 89, 3) := by decide +kernel
theorem dX11_marked_58 : decode cX11_marked 58 = .ok (.iload_n 1, 1) := by decide +kernel
theorem dX11_marked_59 : decode cX11_marked 59 = .ok (.iaload, 1) := by decide +kernel
theorem dX11_marked_60 : decode cX11_marked 60 = .ok (.invokevirtual 179, 3) := by decide +kernel
theorem dX11_marked_63 : decode cX11_marked 63 = .ok (.aload_n 0, 1) := by decide +kernel
theorem dX11_marked_64 : decode cX11_marked 64 = .ok (.getfield 92, 3) := by decide +kernel
theorem dX11_marked_67 : decode cX11_marked 67 = .ok (.iload_n 1, 1) := by decide +kernel
theorem dX11_marked_68 : decode cX11_marked 68 = .ok (.iaload, 1) := by decide +kernel
theorem dX11_marked_69 : decode cX11_marked 69 = .ok (.isub, 1) := by decide +kernel
theorem dX11_marked_70 : decode cX11_marked 70 = .ok (.goto 6, 3) := by decide +kernel
theorem dX11_marked_73 : decode cX11_marked 73 = .ok (.sipush (-1000), 3) := by decide +kernel
theorem dX11_marked_76 : decode cX11_marked 76 = .ok (.ireturn, 1) := by decide +kernel
theorem dX11_neighbourLong_0 : decode cX11_neighbourLong 0 = .ok (.aload_n 0, 1) := by decide +kernel
theorem dX11_neighbourLong_1 : decode cX11_neighbourLong 1 = .ok (.getfield 182, 3) := by decide +kernel
theorem dX11_neighbourLong_4 : decode cX11_neighbourLong 4 = .ok (.aload_n 0, 1) := by decide +kernel
theorem dX11_neighbourLong_5 : decode cX11_neighbourLong 5 = .ok (.getfield 185, 3) := by decide +kernel
theorem dX11_neighbourLong_8 : decode cX11_neighbourLong 8 = .ok (.ifCond .ne 7, 3) := by decide +kernel
theorem dX11_neighbourLong_11 : decode cX11_neighbourLong 11 = .ok (.iconst 1, 1) := by decide +kernel
theorem dX11_neighbourLong_12 : decode cX11_neighbourLong 12 = .ok (.goto 16, 3) := by decide +kernel
theorem dX11_neighbourLong_15 : decode cX11_neighbourLong 15 = .ok (.aload_n 0, 1) := by decide +kernel
theorem dX11_neighbourLong_16 : decode cX11_neighbourLong 16 = .ok (.getfield 185, 3) := by decide +kernel
theorem dX11_neighbourLong_19 : decode cX11_neighbourLong 19 = .ok (.iconst 1, 1) := by decide +kernel
theorem dX11_neighbourLong_20 : decode cX11_neighbourLong 20 = .ok (.if_icmp .ne 7, 3) := by decide +kernel
theorem dX11_neighbourLong_23 : decode cX11_neighbourLong 23 = .ok (.iconst (-1), 1) := by decide +kernel
theorem dX11_neighbourLong_24 : decode cX11_neighbourLong 24 = .ok (.goto 4, 3) := by decide +kernel
theorem dX11_neighbourLong_27 : decode cX11_neighbourLong 27 = .ok (.iconst 0, 1) := by decide +kernel
theorem dX11_neighbourLong_28 : decode cX11_neighbourLong 28 = .ok (.iadd, 1) := by decide +kernel
theorem dX11_neighbourLong_29 : decode cX11_neighbourLong 29 = .ok (.ireturn, 1) := by decide +kernel
theorem dX11_neighbourSpread_0 : decode cX11_neighbourSpread 0 = .ok (.aload_n 0, 1) := by decide +kernel
theorem dX11_neighbourSpread_1 : decode cX11_neighbourSpread 1 = .ok (.getfield 188, 3) := by decide +kernel
theorem dX11_neighbourSpread_4 : decode cX11_neighbourSpread 4 = .ok (.aload_n 0, 1) := by decide +kernel
theorem dX11_neighbourSpread_5 : decode cX11_neighbourSpread 5 = .ok (.getfield 185, 3) := by decide +kernel
theorem dX11_neighbourSpread_8 : decode cX11_neighbourSpread 8 = .ok (.iconst 2, 1) := by decide +kernel
theorem dX11_neighbourSpread_9 : decode cX11_neighbourSpread 9 = .ok (.if_icmp .ne 7, 3) := by decide +kernel
theorem dX11_neighbourSpread_12 : decode cX11_neighbourSpread 12 = .ok (.iconst 1, 1) := by decide +kernel
theorem dX11_neighbourSpread_13 : decode cX11_neighbourSpread 13 = .ok (.goto 16, 3) := by decide +kernel
theorem dX11_neighbourSpread_16 : decode cX11_neighbourSpread 16 = .ok (.aload_n 0, 1) := by decide +kernel
theorem dX11_neighbourSpread_17 : decode cX11_neighbourSpread 17 = .ok (.getfield 185, 3) := by decide +kernel
theorem dX11_neighbourSpread_20 : decode cX11_neighbourSpread 20 = .ok (.iconst 3, 1) := by decide +kernel
theorem dX11_neighbourSpread_21 : decode cX11_neighbourSpread 21 = .ok (.if_icmp .ne 7, 3) := by decide +kernel
theorem dX11_neighbourSpread_24 : decode cX11_neighbourSpread 24 = .ok (.iconst (-1), 1) := by decide +kernel
theorem dX11_neighbourSpread_25 : decode cX11_neighbourSpread 25 = .ok (.goto 4, 3) := by decide +kernel
theorem dX11_neighbourSpread_28 : decode cX11_neighbourSpread 28 = .ok (.iconst 0, 1) := by decide +kernel
theorem dX11_neighbourSpread_29 : decode cX11_neighbourSpread 29 = .ok (.iadd, 1) := by decide +kernel
theorem dX11_neighbourSpread_30 : decode cX11_neighbourSpread 30 = .ok (.ireturn, 1) := by decide +kernel
set_option maxRecDepth 20000 in
theorem ggX11_finds_X11_neighbourLong : GoodIn wsX11_finds wsX11_neighbourLong := goodIn_r _ [7, 8, 1, 17, 18, 19, 20, 21, 22, 23, 24, 25, 26, 27, 28, 29, 30, 31, 32, 33, 34, 35, 36, 37, 38, 39, 40, 41, 42, 43, 44, 45, 46, 47, 48, 49, 50, 51, 52, 53, 54, 55, 56, 57, 58, 59, 60] (by decide +kernel) (by decide +kernel)
set_option maxRecDepth 20000 in
theorem gX11_finds_X11_neighbourLong : GoodIn wsX11_finds (wsV RX11 191 RX11 yX11_neighbourLong wsX11_neighbourLong) := goodIn_app (goodIn_of _ (by decide +kernel)) ggX11_finds_X11_neighbourLong
set_option maxRecDepth 20000 in
theorem ggX11_finds_X11_isIn : GoodIn wsX11_finds wsX11_isIn := goodIn_r _ [11] (by decide +kernel) (by decide +kernel)
set_option maxRecDepth 20000 in
theorem gX11_finds_X11_isIn : GoodIn wsX11_finds (va_wsS RX11 142 yX11_isIn wsX11_isIn) := goodIn_app (goodIn_of _ (by decide +kernel)) ggX11_finds_X11_isIn
set_option maxRecDepth 20000 in
theorem ggX11_finds_X11_neighbourSpread : GoodIn wsX11_finds wsX11_neighbourSpread := goodIn_r _ [15, 16, 1, 17, 18, 19, 20, 21, 22, 23, 24, 25, 26, 27, 28, 29, 30, 31, 32, 33, 34, 35, 36, 37, 38, 39, 40, 41, 42, 43, 44, 45, 46, 47, 48, 49, 50, 51, 52, 53, 54, 55, 56, 57, 58, 59, 60] (by decide +kernel) (by decide +kernel)
set_option maxRecDepth 20000 in
theorem gX11_finds_X11_neighbourSpread : GoodIn wsX11_finds (wsV RX11 195 RX11 yX11_neighbourSpread wsX11_neighbourSpread) := goodIn_app (goodIn_of _ (by decide +kernel)) ggX11_finds_X11_neighbourSpread
theorem dX11_finds_0 : decode cX11_finds 0 = .ok (.aload_n 0, 1) := by decide +kernel
theorem dX11_finds_1 : decode cX11_finds 1 = .ok (.iload_n 1, 1) := by decide +kernel
theorem dX11_finds_2 : decode cX11_finds 2 = .ok (.putfield 185, 3) := by decide +kernel
theorem dX11_finds_5 : decode cX11_finds 5 = .ok (.aload_n 0, 1) := by decide +kernel
theorem dX11_finds_6 : decode cX11_finds 6 = .ok (.getfield 185, 3) := by decide +kernel
theorem dX11_finds_9 : decode cX11_finds 9 = .ok (.iconst 4, 1) := by decide +kernel
theorem dX11_finds_10 : decode cX11_finds 10 = .ok (.if_icmp .ge 41, 3) := by decide +kernel
theorem dX11_finds_13 : decode cX11_finds 13 = .ok (.aload_n 0, 1) := by decide +kernel
theorem dX11_finds_14 : decode cX11_finds 14 = .ok (.invokevirtual 191, 3) := by decide +kernel
theorem dX11_finds_17 : decode cX11_finds 17 = .ok (.iconst 0, 1) := by decide +kernel
theorem dX11_finds_18 : decode cX11_finds 18 = .ok (.bipush 10, 2) := by decide +kernel
theorem dX11_finds_20 : decode cX11_finds 20 = .ok (.invokestatic 142, 3) := by decide +kernel
theorem dX11_finds_23 : decode cX11_finds 23 = .ok (.ifCond .eq 15, 3) := by decide +kernel
theorem dX11_finds_26 : decode cX11_finds 26 = .ok (.aload_n 0, 1) := by decide +kernel
theorem dX11_finds_27 : decode cX11_finds 27 = .ok (.invokevirtual 195, 3) := by decide +kernel
theorem dX11_finds_30 : decode cX11_finds 30 = .ok (.iconst 0, 1) := by decide +kernel
theorem dX11_finds_31 : decode cX11_finds 31 = .ok (.iconst 2, 1) := by decide +kernel
theorem dX11_finds_32 : decode cX11_finds 32 = .ok (.invokestatic 142, 3) := by decide +kernel
theorem dX11_finds_35 : decode cX11_finds 35 = .ok (.ifCond .ne 16, 3) := by decide +kernel
theorem dX11_finds_38 : decode cX11_finds 38 = .ok (.aload_n 0, 1) := by decide +kernel
theorem dX11_finds_39 : decode cX11_finds 39 = .ok (.dup, 1) := by decide +kernel
theorem dX11_finds_40 : decode cX11_finds 40 = .ok (.getfield 185, 3) := by decide +kernel
theorem dX11_finds_43 : decode cX11_finds 43 = .ok (.iconst 1, 1) := by decide +kernel
theorem dX11_finds_44 : decode cX11_finds 44 = .ok (.iadd, 1) := by decide +kernel
theorem dX11_finds_45 : decode cX11_finds 45 = .ok (.putfield 185, 3) := by decide +kernel
theorem dX11_finds_48 : decode cX11_finds 48 = .ok (.goto (-43), 3) := by decide +kernel
theorem dX11_finds_51 : decode cX11_finds 51 = .ok (.aload_n 0, 1) := by decide +kernel
theorem dX11_finds_52 : decode cX11_finds 52 = .ok (.iconst 0, 1) := by decide +kernel
theorem dX11_finds_53 : decode cX11_finds 53 = .ok (.putfield 198, 3) := by decide +kernel
theorem dX11_finds_56 : decode cX11_finds 56 = .ok (.return_, 1) := by decide +kernel
set_option maxRecDepth 20000 in
theorem ggX11_test_X11_isIn : GoodIn wsX11_test wsX11_isIn := goodIn_r _ [10] (by decide +kernel) (by decide +kernel)
set_option maxRecDepth 20000 in
theorem gX11_test_X11_isIn : GoodIn wsX11_test (va_wsS RX11 142 yX11_isIn wsX11_isIn) := goodIn_app (goodIn_of _ (by decide +kernel)) ggX11_test_X11_isIn
set_option maxRecDepth 20000 in
theorem ggX11_test_X11_finds : GoodIn wsX11_test wsX11_finds := goodIn_r _ [14, 15, 16, 17, 18, 19, 9, 20, 2, 7, 8, 10, 21, 22, 23, 24, 3, 25, 26, 27, 28, 29, 30, 31, 32, 33, 34, 35, 36, 37, 38, 39, 40, 41, 42, 43, 44, 45, 46, 47, 48, 49, 50, 51, 52, 53, 54, 55, 56, 57, 58, 59, 60, 61, 62, 63, 64, 65, 66, 67, 68] (by decide +kernel) (by decide +kernel)
set_option maxRecDepth 20000 in
theorem gX11_test_X11_finds : GoodIn wsX11_test (wsV RX11 213 RX11 yX11_finds wsX11_finds) := goodIn_app (goodIn_of _ (by decide +kernel)) ggX11_test_X11_finds
theorem dX11_test_0 : decode cX11_test 0 = .ok (.iload_n 1, 1) := by decide +kernel
theorem dX11_test_1 : decode cX11_test 1 = .ok (.iconst 0, 1) := by decide +kernel
theorem dX11_test_2 : decode cX11_test 2 = .ok (.bipush 10, 2) := by decide +kernel
theorem dX11_test_4 : decode cX11_test 4 = .ok (.invokestatic 142, 3) := by decide +kernel
theorem dX11_test_7 : decode cX11_test 7 = .ok (.ifCond .eq 22, 3) := by decide +kernel
theorem dX11_test_10 : decode cX11_test 10 = .ok (.iload_n 2, 1) := by decide +kernel
theorem dX11_test_11 : decode cX11_test 11 = .ok (.iconst 0, 1) := by decide +kernel
theorem dX11_test_12 : decode cX11_test 12 = .ok (.iconst 2, 1) := by decide +kernel
theorem dX11_test_13 : decode cX11_test 13 = .ok (.invokestatic 142, 3) := by decide +kernel
theorem dX11_test_16 : decode cX11_test 16 = .ok (.ifCond .eq 13, 3) := by decide +kernel
theorem dX11_test_19 : decode cX11_test 19 = .ok (.iload_n 3, 1) := by decide +kernel
theorem dX11_test_20 : decode cX11_test 20 = .ok (.iconst 1, 1) := by decide +kernel
theorem dX11_test_21 : decode cX11_test 21 = .ok (.bipush 9, 2) := by decide +kernel
theorem dX11_test_23 : decode cX11_test 23 = .ok (.invokestatic 142, 3) := by decide +kernel
theorem dX11_test_26 : decode cX11_test 26 = .ok (.ifCond .ne 5, 3) := by decide +kernel
theorem dX11_test_29 : decode cX11_test 29 = .ok (.iconst 0, 1) := by decide +kernel
theorem dX11_test_30 : decode cX11_test 30 = .ok (.ireturn, 1) := by decide +kernel
theorem dX11_test_31 : decode cX11_test 31 = .ok (.aload_n 0, 1) := by decide +kernel
theorem dX11_test_32 : decode cX11_test 32 = .ok (.iconst 1, 1) := by decide +kernel
theorem dX11_test_33 : decode cX11_test 33 = .ok (.putfield 201, 3) := by decide +kernel
theorem dX11_test_36 : decode cX11_test 36 = .ok (.aload_n 0, 1) := by decide +kernel
theorem dX11_test_37 : decode cX11_test 37 = .ok (.iload_n 1, 1) := by decide +kernel
theorem dX11_test_38 : decode cX11_test 38 = .ok (.putfield 182, 3) := by decide +kernel
theorem dX11_test_41 : decode cX11_test 41 = .ok (.aload_n 0, 1) := by decide +kernel
theorem dX11_test_42 : decode cX11_test 42 = .ok (.iload_n 2, 1) := by decide +kernel
theorem dX11_test_43 : decode cX11_test 43 = .ok (.putfield 188, 3) := by decide +kernel
theorem dX11_test_46 : decode cX11_test 46 = .ok (.aload_n 0, 1) := by decide +kernel
theorem dX11_test_47 : decode cX11_test 47 = .ok (.iload_n 3, 1) := by decide +kernel
theorem dX11_test_48 : decode cX11_test 48 = .ok (.putfield 204, 3) := by decide +kernel
theorem dX11_test_51 : decode cX11_test 51 = .ok (.aload_n 0, 1) := by decide +kernel
theorem dX11_test_52 : decode cX11_test 52 = .ok (.iconst 0, 1) := by decide +kernel
theorem dX11_test_53 : decode cX11_test 53 = .ok (.putfield 207, 3) := by decide +kernel
theorem dX11_test_56 : decode cX11_test 56 = .ok (.aload_n 0, 1) := by decide +kernel
theorem dX11_test_57 : decode cX11_test 57 = .ok (.iconst 0, 1) := by decide +kernel
theorem dX11_test_58 : decode cX11_test 58 = .ok (.putfield 210, 3) := by decide +kernel
theorem dX11_test_61 : decode cX11_test 61 = .ok (.aload_n 0, 1) := by decide +kernel
theorem dX11_test_62 : decode cX11_test 62 = .ok (.iconst 0, 1) := by decide +kernel
theorem dX11_test_63 : decode cX11_test 63 = .ok (.invokevirtual 213, 3) := by decide +kernel
theorem dX11_test_66 : decode cX11_test 66 = .ok (.iconst 1, 1) := by decide +kernel
theorem dX11_test_67 : decode cX11_test 67 = .ok (.ireturn, 1) := by decide +kernel
theorem dX11_isOver_0 : decode cX11_isOver 0 = .ok (.aload_n 0, 1) := by decide +kernel
theorem dX11_isOver_1 : decode cX11_isOver 1 = .ok (.getfield 185, 3) := by decide +kernel
theorem dX11_isOver_4 : decode cX11_isOver 4 = .ok (.iconst 4, 1) := by decide +kernel
theorem dX11_isOver_5 : decode cX11_isOver 5 = .ok (.if_icmp .eq 13, 3) := by decide +kernel
theorem dX11_isOver_8 : decode cX11_isOver 8 = .ok (.aload_n 0, 1) := by decide +kernel
theorem dX11_isOver_9 : decode cX11_isOver 9 = .ok (.getfield 207, 3) := by decide +kernel
theorem dX11_isOver_12 : decode cX11_isOver 12 = .ok (.sipush 200, 3) := by decide +kernel
theorem dX11_isOver_15 : decode cX11_isOver 15 = .ok (.if_icmp .ne 7, 3) := by decide +kernel
theorem dX11_isOver_18 : decode cX11_isOver 18 = .ok (.iconst 1, 1) := by decide +kernel
theorem dX11_isOver_19 : decode cX11_isOver 19 = .ok (.goto 4, 3) := by decide +kernel
theorem dX11_isOver_22 : decode cX11_isOver 22 = .ok (.iconst 0, 1) := by decide +kernel
theorem dX11_isOver_23 : decode cX11_isOver 23 = .ok (.ireturn, 1) := by decide +kernel
set_option maxRecDepth 20000 in
theorem ggX11_tested_X11_isOver : GoodIn wsX11_tested wsX11_isOver := goodIn_r _ [10, 11, 4, 20, 21, 22, 23, 24, 25, 26, 27, 28, 29, 30, 31, 32, 33, 34, 35, 36, 37, 38, 39, 40, 41, 42, 43, 44, 45, 46, 47, 48, 49, 50, 51, 52, 53, 54, 55, 56, 57, 58, 59, 60, 61, 62, 63] (by decide +kernel) (by decide +kernel)
set_option maxRecDepth 20000 in
theorem gX11_tested_X11_isOver : GoodIn wsX11_tested (wsV RX11 217 RX11 yX11_isOver wsX11_isOver) := goodIn_app (goodIn_of _ (by decide +kernel)) ggX11_tested_X11_isOver
set_option maxRecDepth 20000 in
theorem ggX11_tested_X11_neighbourLong : GoodIn wsX11_tested wsX11_neighbourLong := goodIn_r _ [15, 2, 11, 20, 21, 22, 23, 24, 25, 26, 27, 28, 29, 30, 31, 32, 33, 34, 35, 36, 37, 38, 39, 40, 41, 42, 43, 44, 45, 46, 47, 48, 49, 50, 51, 52, 53, 54, 55, 56, 57, 58, 59, 60, 61, 62, 63] (by decide +kernel) (by decide +kernel)
set_option maxRecDepth 20000 in
theorem gX11_tested_X11_neighbourLong : GoodIn wsX11_tested (wsV RX11 191 RX11 yX11_neighbourLong wsX11_neighbourLong) := goodIn_app (goodIn_of _ (by decide +kernel)) ggX11_tested_X11_neighbourLong
set_option maxRecDepth 20000 in
theorem ggX11_tested_X11_neighbourSpread : GoodIn wsX11_tested wsX11_neighbourSpread := goodIn_r _ [19, 3, 11, 20, 21, 22, 23, 24, 25, 26, 27, 28, 29, 30, 31, 32, 33, 34, 35, 36, 37, 38, 39, 40, 41, 42, 43, 44, 45, 46, 47, 48, 49, 50, 51, 52, 53, 54, 55, 56, 57, 58, 59, 60, 61, 62, 63] (by decide +kernel) (by decide +kernel)
set_option maxRecDepth 20000 in
theorem gX11_tested_X11_neighbourSpread : GoodIn wsX11_tested (wsV RX11 195 RX11 yX11_neighbourSpread wsX11_neighbourSpread) := goodIn_app (goodIn_of _ (by decide +kernel)) ggX11_tested_X11_neighbourSpread
theorem dX11_tested_0 : decode cX11_tested 0 = .ok (.aload_n 0, 1) := by decide +kernel
theorem dX11_tested_1 : decode cX11_tested 1 = .ok (.getfield 201, 3) := by decide +kernel
theorem dX11_tested_4 : decode cX11_tested 4 = .ok (.ifCond .ne 5, 3) := by decide +kernel
theorem dX11_tested_7 : decode cX11_tested 7 = .ok (.iconst (-1), 1) := by decide +kernel
theorem dX11_tested_8 : decode cX11_tested 8 = .ok (.ireturn, 1) := by decide +kernel
theorem dX11_tested_9 : decode cX11_tested 9 = .ok (.iload_n 1, 1) := by decide +kernel
theorem dX11_tested_10 : decode cX11_tested 10 = .ok (.tableswitch 90 0 5 #[38, 43, 48, 64, 80, 85], 38) := by decide +kernel
theorem dX11_tested_48 : decode cX11_tested 48 = .ok (.aload_n 0, 1) := by decide +kernel
theorem dX11_tested_49 : decode cX11_tested 49 = .ok (.getfield 182, 3) := by decide +kernel
theorem dX11_tested_52 : decode cX11_tested 52 = .ok (.ireturn, 1) := by decide +kernel
theorem dX11_tested_53 : decode cX11_tested 53 = .ok (.aload_n 0, 1) := by decide +kernel
theorem dX11_tested_54 : decode cX11_tested 54 = .ok (.getfield 188, 3) := by decide +kernel
theorem dX11_tested_57 : decode cX11_tested 57 = .ok (.ireturn, 1) := by decide +kernel
theorem dX11_tested_58 : decode cX11_tested 58 = .ok (.aload_n 0, 1) := by decide +kernel
theorem dX11_tested_59 : decode cX11_tested 59 = .ok (.invokevirtual 217, 3) := by decide +kernel
theorem dX11_tested_62 : decode cX11_tested 62 = .ok (.ifCond .eq 7, 3) := by decide +kernel
theorem dX11_tested_65 : decode cX11_tested 65 = .ok (.iconst (-1), 1) := by decide +kernel
theorem dX11_tested_66 : decode cX11_tested 66 = .ok (.goto 7, 3) := by decide +kernel
theorem dX11_tested_69 : decode cX11_tested 69 = .ok (.aload_n 0, 1) := by decide +kernel
theorem dX11_tested_70 : decode cX11_tested 70 = .ok (.invokevirtual 191, 3) := by decide +kernel
theorem dX11_tested_73 : decode cX11_tested 73 = .ok (.ireturn, 1) := by decide +kernel
theorem dX11_tested_74 : decode cX11_tested 74 = .ok (.aload_n 0, 1) := by decide +kernel
theorem dX11_tested_75 : decode cX11_tested 75 = .ok (.invokevirtual 217, 3) := by decide +kernel
theorem dX11_tested_78 : decode cX11_tested 78 = .ok (.ifCond .eq 7, 3) := by decide +kernel
theorem dX11_tested_81 : decode cX11_tested 81 = .ok (.iconst (-1), 1) := by decide +kernel
theorem dX11_tested_82 : decode cX11_tested 82 = .ok (.goto 7, 3) := by decide +kernel
theorem dX11_tested_85 : decode cX11_tested 85 = .ok (.aload_n 0, 1) := by decide +kernel
theorem dX11_tested_86 : decode cX11_tested 86 = .ok (.invokevirtual 195, 3) := by decide +kernel
theorem dX11_tested_89 : decode cX11_tested 89 = .ok (.ireturn, 1) := by decide +kernel
theorem dX11_tested_90 : decode cX11_tested 90 = .ok (.aload_n 0, 1) := by decide +kernel
theorem dX11_tested_91 : decode cX11_tested 91 = .ok (.getfield 207, 3) := by decide +kernel
theorem dX11_tested_94 : decode cX11_tested 94 = .ok (.ireturn, 1) := by decide +kernel
theorem dX11_tested_95 : decode cX11_tested 95 = .ok (.aload_n 0, 1) := by decide +kernel
theorem dX11_tested_96 : decode cX11_tested 96 = .ok (.getfield 210, 3) := by decide +kernel
theorem dX11_tested_99 : decode cX11_tested 99 = .ok (.ireturn, 1) := by decide +kernel
theorem dX11_tested_100 : decode cX11_tested 100 = .ok (.iconst (-1), 1) := by decide +kernel
theorem dX11_tested_101 : decode cX11_tested 101 = .ok (.ireturn, 1) := by decide +kernel
set_option maxRecDepth 20000 in
theorem ggX11_answer_X11_isOver : GoodIn wsX11_answer wsX11_isOver := goodIn_r _ [13, 6, 2, 29, 30, 31, 32, 33, 34, 35, 36, 37, 38, 39, 40, 41, 42, 43, 44, 45, 46, 47, 48, 49, 50, 51, 52, 53, 54, 55, 56, 57, 58, 59, 60, 61, 62, 63, 64, 65, 66, 67, 68, 69, 70, 71, 72] (by decide +kernel) (by decide +kernel)
set_option maxRecDepth 20000 in
theorem gX11_answer_X11_isOver : GoodIn wsX11_answer (wsV RX11 217 RX11 yX11_isOver wsX11_isOver) := goodIn_app (goodIn_of _ (by decide +kernel)) ggX11_answer_X11_isOver
set_option maxRecDepth 20000 in
theorem ggX11_answer_X11_finds : GoodIn wsX11_answer wsX11_finds := goodIn_r _ [17, 6, 3, 18, 19, 20, 12, 21, 7, 22, 23, 24, 25, 26, 27, 28, 8, 29, 30, 31, 32, 33, 34, 35, 36, 37, 38, 39, 40, 41, 42, 43, 44, 45, 46, 47, 48, 49, 50, 51, 52, 53, 54, 55, 56, 57, 58, 59, 60, 61, 62, 63, 64, 65, 66, 67, 68, 69, 70, 71, 72] (by decide +kernel) (by decide +kernel)
set_option maxRecDepth 20000 in
theorem gX11_answer_X11_finds : GoodIn wsX11_answer (wsV RX11 213 RX11 yX11_finds wsX11_finds) := goodIn_app (goodIn_of _ (by decide +kernel)) ggX11_answer_X11_finds
set_option maxRecDepth 20000 in
theorem ggX11_answer_X11_neighbourLong : GoodIn wsX11_answer wsX11_neighbourLong := goodIn_r _ [21, 7, 6, 29, 30, 31, 32, 33, 34, 35, 36, 37, 38, 39, 40, 41, 42, 43, 44, 45, 46, 47, 48, 49, 50, 51, 52, 53, 54, 55, 56, 57, 58, 59, 60, 61, 62, 63, 64, 65, 66, 67, 68, 69, 70, 71, 72] (by decide +kernel) (by decide +kernel)
set_option maxRecDepth 20000 in
theorem gX11_answer_X11_neighbourLong : GoodIn wsX11_answer (wsV RX11 191 RX11 yX11_neighbourLong wsX11_neighbourLong) := goodIn_app (goodIn_of _ (by decide +kernel)) ggX11_answer_X11_neighbourLong
set_option maxRecDepth 20000 in
theorem ggX11_answer_X11_neighbourSpread : GoodIn wsX11_answer wsX11_neighbourSpread := goodIn_r _ [28, 8, 6, 29, 30, 31, 32, 33, 34, 35, 36, 37, 38, 39, 40, 41, 42, 43, 44, 45, 46, 47, 48, 49, 50, 51, 52, 53, 54, 55, 56, 57, 58, 59, 60, 61, 62, 63, 64, 65, 66, 67, 68, 69, 70, 71, 72] (by decide +kernel) (by decide +kernel)
set_option maxRecDepth 20000 in
theorem gX11_answer_X11_neighbourSpread : GoodIn wsX11_answer (wsV RX11 195 RX11 yX11_neighbourSpread wsX11_neighbourSpread) := goodIn_app (goodIn_of _ (by decide +kernel)) ggX11_answer_X11_neighbourSpread
theorem dX11_answer_0 : decode cX11_answer 0 = .ok (.aload_n 0, 1) := by decide +kernel
theorem dX11_answer_1 : decode cX11_answer 1 = .ok (.getfield 201, 3) := by decide +kernel
theorem dX11_answer_4 : decode cX11_answer 4 = .ok (.ifCond .eq 10, 3) := by decide +kernel
theorem dX11_answer_7 : decode cX11_answer 7 = .ok (.aload_n 0, 1) := by decide +kernel
theorem dX11_answer_8 : decode cX11_answer 8 = .ok (.invokevirtual 217, 3) := by decide +kernel
theorem dX11_answer_11 : decode cX11_answer 11 = .ok (.ifCond .eq 5, 3) := by decide +kernel
theorem dX11_answer_14 : decode cX11_answer 14 = .ok (.iconst (-1), 1) := by decide +kernel
theorem dX11_answer_15 : decode cX11_answer 15 = .ok (.ireturn, 1) := by decide +kernel
theorem dX11_answer_16 : decode cX11_answer 16 = .ok (.aload_n 0, 1) := by decide +kernel
theorem dX11_answer_17 : decode cX11_answer 17 = .ok (.dup, 1) := by decide +kernel
theorem dX11_answer_18 : decode cX11_answer 18 = .ok (.getfield 207, 3) := by decide +kernel
theorem dX11_answer_21 : decode cX11_answer 21 = .ok (.iconst 1, 1) := by decide +kernel
theorem dX11_answer_22 : decode cX11_answer 22 = .ok (.iadd, 1) := by decide +kernel
theorem dX11_answer_23 : decode cX11_answer 23 = .ok (.putfield 207, 3) := by decide +kernel
theorem dX11_answer_26 : decode cX11_answer 26 = .ok (.aload_n 0, 1) := by decide +kernel
theorem dX11_answer_27 : decode cX11_answer 27 = .ok (.dup, 1) := by decide +kernel
theorem dX11_answer_28 : decode cX11_answer 28 = .ok (.getfield 198, 3) := by decide +kernel
theorem dX11_answer_31 : decode cX11_answer 31 = .ok (.iload_n 1, 1) := by decide +kernel
theorem dX11_answer_32 : decode cX11_answer 32 = .ok (.ifCond .eq 7, 3) := by decide +kernel
theorem dX11_answer_35 : decode cX11_answer 35 = .ok (.iconst 1, 1) := by decide +kernel
theorem dX11_answer_36 : decode cX11_answer 36 = .ok (.goto 4, 3) := by decide +kernel
theorem dX11_answer_39 : decode cX11_answer 39 = .ok (.iconst (-1), 1) := by decide +kernel
theorem dX11_answer_40 : decode cX11_answer 40 = .ok (.iadd, 1) := by decide +kernel
theorem dX11_answer_41 : decode cX11_answer 41 = .ok (.putfield 198, 3) := by decide +kernel
theorem dX11_answer_44 : decode cX11_answer 44 = .ok (.iconst 0, 1) := by decide +kernel
theorem dX11_answer_45 : decode cX11_answer 45 = .ok (.istore_n 2, 1) := by decide +kernel
theorem dX11_answer_46 : decode cX11_answer 46 = .ok (.aload_n 0, 1) := by decide +kernel
theorem dX11_answer_47 : decode cX11_answer 47 = .ok (.getfield 198, 3) := by decide +kernel
theorem dX11_answer_50 : decode cX11_answer 50 = .ok (.aload_n 0, 1) := by decide +kernel
theorem dX11_answer_51 : decode cX11_answer 51 = .ok (.getfield 204, 3) := by decide +kernel
theorem dX11_answer_54 : decode cX11_answer 54 = .ok (.if_icmp .ne 28, 3) := by decide +kernel
theorem dX11_answer_57 : decode cX11_answer 57 = .ok (.iconst 1, 1) := by decide +kernel
theorem dX11_answer_58 : decode cX11_answer 58 = .ok (.istore_n 2, 1) := by decide +kernel
theorem dX11_answer_59 : decode cX11_answer 59 = .ok (.aload_n 0, 1) := by decide +kernel
theorem dX11_answer_60 : decode cX11_answer 60 = .ok (.dup, 1) := by decide +kernel
theorem dX11_answer_61 : decode cX11_answer 61 = .ok (.getfield 210, 3) := by decide +kernel
theorem dX11_answer_64 : decode cX11_answer 64 = .ok (.iconst 1, 1) := by decide +kernel
theorem dX11_answer_65 : decode cX11_answer 65 = .ok (.iadd, 1) := by decide +kernel
theorem dX11_answer_66 : decode cX11_answer 66 = .ok (.putfield 210, 3) := by decide +kernel
theorem dX11_answer_69 : decode cX11_answer 69 = .ok (.aload_n 0, 1) := by decide +kernel
theorem dX11_answer_70 : decode cX11_answer 70 = .ok (.aload_n 0, 1) := by decide +kernel
theorem dX11_answer_71 : decode cX11_answer 71 = .ok (.getfield 185, 3) := by decide +kernel
theorem dX11_answer_74 : decode cX11_answer 74 = .ok (.iconst 1, 1) := by decide +kernel
theorem dX11_answer_75 : decode cX11_answer 75 = .ok (.iadd, 1) := by decide +kernel
theorem dX11_answer_76 : decode cX11_answer 76 = .ok (.invokevirtual 213, 3) := by decide +kernel
theorem dX11_answer_79 : decode cX11_answer 79 = .ok (.goto 54, 3) := by decide +kernel
theorem dX11_answer_82 : decode cX11_answer 82 = .ok (.aload_n 0, 1) := by decide +kernel
theorem dX11_answer_83 : decode cX11_answer 83 = .ok (.getfield 198, 3) := by decide +kernel
theorem dX11_answer_86 : decode cX11_answer 86 = .ok (.aload_n 0, 1) := by decide +kernel
theorem dX11_answer_87 : decode cX11_answer 87 = .ok (.getfield 204, 3) := by decide +kernel
theorem dX11_answer_90 : decode cX11_answer 90 = .ok (.ineg, 1) := by decide +kernel
theorem dX11_answer_91 : decode cX11_answer 91 = .ok (.if_icmp .ne 42, 3) := by decide +kernel
theorem dX11_answer_94 : decode cX11_answer 94 = .ok (.iconst 2, 1) := by decide +kernel
theorem dX11_answer_95 : decode cX11_answer 95 = .ok (.istore_n 2, 1) := by decide +kernel
theorem dX11_answer_96 : decode cX11_answer 96 = .ok (.aload_n 0, 1) := by decide +kernel
theorem dX11_answer_97 : decode cX11_answer 97 = .ok (.dup, 1) := by decide +kernel
theorem dX11_answer_98 : decode cX11_answer 98 = .ok (.getfield 210, 3) := by decide +kernel
theorem dX11_answer_101 : decode cX11_answer 101 = .ok (.iconst 1, 1) := by decide +kernel
theorem dX11_answer_102 : decode cX11_answer 102 = .ok (.iadd, 1) := by decide +kernel
theorem dX11_answer_103 : decode cX11_answer 103 = .ok (.putfield 210, 3) := by decide +kernel
theorem dX11_answer_106 : decode cX11_answer 106 = .ok (.aload_n 0, 1) := by decide +kernel
theorem dX11_answer_107 : decode cX11_answer 107 = .ok (.invokevirtual 191, 3) := by decide +kernel
theorem dX11_answer_110 : decode cX11_answer 110 = .ok (.istore_n 3, 1) := by decide +kernel
theorem dX11_answer_111 : decode cX11_answer 111 = .ok (.aload_n 0, 1) := by decide +kernel
theorem dX11_answer_112 : decode cX11_answer 112 = .ok (.invokevirtual 195, 3) := by decide +kernel
theorem dX11_answer_115 : decode cX11_answer 115 = .ok (.istore 4, 2) := by decide +kernel
theorem dX11_answer_117 : decode cX11_answer 117 = .ok (.aload_n 0, 1) := by decide +kernel
theorem dX11_answer_118 : decode cX11_answer 118 = .ok (.iload_n 3, 1) := by decide +kernel
theorem dX11_answer_119 : decode cX11_answer 119 = .ok (.putfield 182, 3) := by decide +kernel
theorem dX11_answer_122 : decode cX11_answer 122 = .ok (.aload_n 0, 1) := by decide +kernel
theorem dX11_answer_123 : decode cX11_answer 123 = .ok (.iload 4, 2) := by decide +kernel
theorem dX11_answer_125 : decode cX11_answer 125 = .ok (.putfield 188, 3) := by decide +kernel
theorem dX11_answer_128 : decode cX11_answer 128 = .ok (.aload_n 0, 1) := by decide +kernel
theorem dX11_answer_129 : decode cX11_answer 129 = .ok (.iconst 0, 1) := by decide +kernel
theorem dX11_answer_130 : decode cX11_answer 130 = .ok (.invokevirtual 213, 3) := by decide +kernel
theorem dX11_answer_133 : decode cX11_answer 133 = .ok (.aload_n 0, 1) := by decide +kernel
theorem dX11_answer_134 : decode cX11_answer 134 = .ok (.invokevirtual 217, 3) := by decide +kernel
theorem dX11_answer_137 : decode cX11_answer 137 = .ok (.ifCond .eq 7, 3) := by decide +kernel
theorem dX11_answer_140 : decode cX11_answer 140 = .ok (.iconst 3, 1) := by decide +kernel
theorem dX11_answer_141 : decode cX11_answer 141 = .ok (.goto 4, 3) := by decide +kernel
theorem dX11_answer_144 : decode cX11_answer 144 = .ok (.iload_n 2, 1) := by decide +kernel
theorem dX11_answer_145 : decode cX11_answer 145 = .ok (.ireturn, 1) := by decide +kernel
theorem dX11_use_0 : decode cX11_use 0 = .ok (.aload_n 0, 1) := by decide +kernel
theorem dX11_use_1 : decode cX11_use 1 = .ok (.getfield 201, 3) := by decide +kernel
theorem dX11_use_4 : decode cX11_use 4 = .ok (.ifCond .ne 5, 3) := by decide +kernel
theorem dX11_use_7 : decode cX11_use 7 = .ok (.iconst 0, 1) := by decide +kernel
theorem dX11_use_8 : decode cX11_use 8 = .ok (.ireturn, 1) := by decide +kernel
theorem dX11_use_9 : decode cX11_use 9 = .ok (.aload_n 0, 1) := by decide +kernel
theorem dX11_use_10 : decode cX11_use 10 = .ok (.bipush 20, 2) := by decide +kernel
theorem dX11_use_12 : decode cX11_use 12 = .ok (.iconst 4, 1) := by decide +kernel
theorem dX11_use_13 : decode cX11_use 13 = .ok (.aload_n 0, 1) := by decide +kernel
theorem dX11_use_14 : decode cX11_use 14 = .ok (.getfield 182, 3) := by decide +kernel
theorem dX11_use_17 : decode cX11_use 17 = .ok (.imul, 1) := by decide +kernel
theorem dX11_use_18 : decode cX11_use 18 = .ok (.iadd, 1) := by decide +kernel
theorem dX11_use_19 : decode cX11_use 19 = .ok (.putfield 38, 3) := by decide +kernel
theorem dX11_use_22 : decode cX11_use 22 = .ok (.aload_n 0, 1) := by decide +kernel
theorem dX11_use_23 : decode cX11_use 23 = .ok (.iconst 1, 1) := by decide +kernel
theorem dX11_use_24 : decode cX11_use 24 = .ok (.aload_n 0, 1) := by decide +kernel
theorem dX11_use_25 : decode cX11_use 25 = .ok (.getfield 188, 3) := by decide +kernel
theorem dX11_use_28 : decode cX11_use 28 = .ok (.iadd, 1) := by decide +kernel
theorem dX11_use_29 : decode cX11_use 29 = .ok (.putfield 41, 3) := by decide +kernel
theorem dX11_use_32 : decode cX11_use 32 = .ok (.iconst 1, 1) := by decide +kernel
theorem dX11_use_33 : decode cX11_use 33 = .ok (.ireturn, 1) := by decide +kernel
theorem dJ9_abs_0f7a4_0 : decode cJ9_abs_0f7a4 0 = .ok (.iload_n 0, 1) := by decide +kernel
theorem dJ9_abs_0f7a4_1 : decode cJ9_abs_0f7a4 1 = .ok (.ifCond .ge 8, 3) := by decide +kernel
theorem dJ9_abs_0f7a4_4 : decode cJ9_abs_0f7a4 4 = .ok (.iload_n 0, 1) := by decide +kernel
theorem dJ9_abs_0f7a4_5 : decode cJ9_abs_0f7a4 5 = .ok (.ineg, 1) := by decide +kernel
theorem dJ9_abs_0f7a4_6 : decode cJ9_abs_0f7a4 6 = .ok (.goto 4, 3) := by decide +kernel
theorem dJ9_abs_0f7a4_9 : decode cJ9_abs_0f7a4 9 = .ok (.iload_n 0, 1) := by decide +kernel
theorem dJ9_abs_0f7a4_10 : decode cJ9_abs_0f7a4 10 = .ok (.ireturn, 1) := by decide +kernel
theorem dJ9_min_7cf53_0 : decode cJ9_min_7cf53 0 = .ok (.iload_n 0, 1) := by decide +kernel
theorem dJ9_min_7cf53_1 : decode cJ9_min_7cf53 1 = .ok (.iload_n 1, 1) := by decide +kernel
theorem dJ9_min_7cf53_2 : decode cJ9_min_7cf53 2 = .ok (.if_icmp .gt 7, 3) := by decide +kernel
theorem dJ9_min_7cf53_5 : decode cJ9_min_7cf53 5 = .ok (.iload_n 0, 1) := by decide +kernel
theorem dJ9_min_7cf53_6 : decode cJ9_min_7cf53 6 = .ok (.goto 4, 3) := by decide +kernel
theorem dJ9_min_7cf53_9 : decode cJ9_min_7cf53 9 = .ok (.iload_n 1, 1) := by decide +kernel
theorem dJ9_min_7cf53_10 : decode cJ9_min_7cf53 10 = .ok (.ireturn, 1) := by decide +kernel
end
section
/-! ROWS OF MY OWN over the kit's worlds: one state of ints a world (cell, place), one world a method, one row a step. -/
abbrev St : Type := Nat → Nat → Int32
def up2 (σ : St) (c i : Nat) (v : Int32) : St := fun c' => if c' = c then upd (σ c) i v else σ c'
def upA (σ : St) (c : Nat) (f : Nat → Int32) : St := fun c' => if c' = c then f else σ c'
abbrev Zrow : Type := String × String × String × Nat × Nat × (Nat → Int32)
abbrev Nrow : Type := String × Nat × MethodName × String
/-- nest words, and static arrays that nobody writes -/
def Zz (Nw : List Nrow) (Zs : List Zrow) (A : Nat → Prop) (U : State) (H : Heap) : Prop := (∀ q ∈ Nw, va_Nw (.methodLinkNest q.1 q.2.1 q.2.2.1 q.2.2.2) U) ∧ ∀ q ∈ Zs, va_Z q.1 q.2.1 q.2.2.1 (.ref q.2.2.2.1) A U H ∧ va_T .int q.2.2.2.1 q.2.2.2.2.1 (fun j => .int (q.2.2.2.2.2 j)) A U H
theorem Zz.calling {Nw : List Nrow} {Zs : List Zrow} {A : Nat → Prop} {U : State} {g : JFrame} {mk : MethodId} {a : Array Value} (h : Zz Nw Zs A U U.heap) : Zz Nw Zs A (U.calling g mk a) (U.calling g mk a).heap :=
  ⟨fun q hq => va_Nw.same rfl (u := U) (U := U.calling g mk a) rfl (h.1 q hq), fun q hq => ⟨va_Z.moved (u := U) (U := U.calling g mk a) (Vm.Alike.refl U.vm) (h.2 q hq).1, va_T.moved (u := U) (U := U.calling g mk a) (Vm.Alike.refl U.vm) (h.2 q hq).2⟩⟩
theorem Zz.at {Nw : List Nrow} {Zs : List Zrow} {A B : Nat → Prop} {s U : State} {H : Heap} (h : Zz Nw Zs A s s.heap) (hW : s.WarmedH U.vm) (hk : ∀ a : Nat, a < s.heap.size → ¬ A a → H[a]? = s.heap[a]?) (hAB : ∀ q, B q → A q) : Zz Nw Zs B U H :=
  ⟨fun q hq => va_Nw.warmM hW (h.1 q hq), fun q hq => ⟨((va_Z.moved hW.alike (h.2 q hq).1).kept hk).narrow hAB, ((va_T.moved hW.alike (h.2 q hq).2).kept hk).narrow hAB⟩⟩
/-- what holds in the midst of a method: its world with the ints σ, the frame, the tables -/
def Iw (D : va_G) (tys : List (ClassId × FieldType)) (Nw : List Nrow) (Zs : List Zrow) (w : St → va_W) (A : Nat → Prop) (s : State) (H : Heap) (locs : List Loc) (σ : St) : Prop :=
  va_P D vwCl (w σ) H ∧ va_D A (w σ) ∧ va_S A s.heap H locs ∧ va_K D vwCl tys s ∧ (∀ q, s.heap.size ≤ q → A q) ∧ Zz Nw Zs A s s.heap
def Kp (D : va_G) (tys : List (ClassId × FieldType)) (Nw : List Nrow) (Zs : List Zrow) (w : St → va_W) (σ : St) (sz : Nat) (U : State) : Prop :=
  U.heap.size = sz ∧ va_P D vwCl (w σ) U.heap ∧ va_K D vwCl tys U ∧ va_D (fun _ => True) (w σ) ∧ Zz Nw Zs (va_A (w σ) sz) U U.heap
def Kq (D : va_G) (tys : List (ClassId × FieldType)) (w : St → va_W) (A : Nat → Prop) (σ : St) (t : State) : Prop :=
  va_P D vwCl (w σ) t.heap ∧ va_K D vwCl tys t ∧ va_D A (w σ)
def Kr (D : va_G) (tys : List (ClassId × FieldType)) (w : St → va_W) (A : Nat → Prop) (a0 : Nat) (σ : St) (a : Nat) (t : State) : Prop := a = a0 ∧ Kq D tys w A σ t
/-- the contracts: an int, nothing, a known cell -/
def Ci (l : Launch) (D : va_G) (tys : List (ClassId × FieldType)) (Nw : List Nrow) (Zs : List Zrow) (w : St → va_W) (y : MethodName) (ws : List Cond) (rm : Room) (As : List Value) (σ : St) (post : Int32 → St → Prop) : Prop :=
  ∀ sz, Met l y ws rm (va_Pc As (Kp D tys Nw Zs w σ sz)) (va_Qi post (Kq D tys w (va_A (w σ) sz)) (va_A (w σ) sz)) 0 0 (va_A (w σ) sz)
def Cv (l : Launch) (D : va_G) (tys : List (ClassId × FieldType)) (Nw : List Nrow) (Zs : List Zrow) (w : St → va_W) (y : MethodName) (ws : List Cond) (rm : Room) (As : List Value) (σ : St) (post : St → Prop) : Prop :=
  ∀ sz, Met l y ws rm (va_Pc As (Kp D tys Nw Zs w σ sz)) (va_Qv post (Kq D tys w (va_A (w σ) sz)) (va_A (w σ) sz)) 0 0 (va_A (w σ) sz)
def Cr (l : Launch) (D : va_G) (tys : List (ClassId × FieldType)) (Nw : List Nrow) (Zs : List Zrow) (w : St → va_W) (y : MethodName) (ws : List Cond) (rm : Room) (As : List Value) (a0 : Nat) (σ : St) (post : St → Prop) : Prop :=
  ∀ sz, Met l y ws rm (va_Pc As (Kp D tys Nw Zs w σ sz)) (va_Qr post (Kr D tys w (va_A (w σ) sz) a0) (va_A (w σ) sz)) 0 0 (va_A (w σ) sz)
/-- a method's constants -/
def Cx (p : Program) (s : State) (m : MethodId) (args : Array Value) (meth : Method) (c : Code) (cc : ByteArray) (nL : Nat) (ret : Option FieldType) (own : String) (Ts : List Cond) : Prop :=
  p.tables.exec = Jvm.exec ∧ c.code = cc ∧ meth.sig.returnType = ret ∧ c.maxLocals = nL ∧ s.vm.findClass own = some m.cls ∧ (∀ w ∈ Ts, w.before args s = true) ∧ meth.locks = false
theorem Kp.blind {D : va_G} {tys : List (ClassId × FieldType)} {Nw : List Nrow} {Zs : List Zrow} {w : St → va_W} {σ : St} {sz : Nat} {As : List Value} : FrameBlind (va_Pc As (Kp D tys Nw Zs w σ sz)) :=
  fun a U g mk q => by
    obtain ⟨q0, q1, qP, qK, qD, qZ⟩ := q
    exact ⟨q0, q1, qP, va_K.moved (u := U) (U := U.calling g mk a) (Vm.Alike.refl U.vm) qK, qD, qZ.calling⟩
theorem Iw.start {D : va_G} {tys : List (ClassId × FieldType)} {Nw : List Nrow} {Zs : List Zrow} {w : St → va_W} {σ : St} {sz : Nat} {s : State} (h : Kp D tys Nw Zs w σ sz s) : Iw D tys Nw Zs w (va_A (w σ) sz) s s.heap [] σ := by
  obtain ⟨hsz, hP, hK, hD, hZ⟩ := h
  subst hsz
  exact ⟨hP, hD.self, va_S.rf, hK, fun q h => Or.inr h, hZ⟩
theorem Iw.free {D : va_G} {tys : List (ClassId × FieldType)} {Nw : List Nrow} {Zs : List Zrow} {w : St → va_W} {σ : St} {s : State} {A : Nat → Prop} {H : Heap} {locs : List Loc} (h : Iw D tys Nw Zs w A s H locs σ) : ∀ q, va_A (w σ) H.size q → A q := by
  obtain ⟨-, hD, hS, -, hA, -⟩ := h
  intro q hq
  rcases hq with ⟨k, e, hk⟩ | hq
  · exact hD.2 k _ hk
  · exact hA q (Nat.le_trans hS.1 hq)
theorem Iw.pre {D : va_G} {tys : List (ClassId × FieldType)} {Nw : List Nrow} {Zs : List Zrow} {w : St → va_W} {σ : St} {s U : State} {A : Nat → Prop} {H : Heap} {locs : List Loc} (h : Iw D tys Nw Zs w A s H locs σ) (hU : U.heap = H) (hW : s.WarmedH U.vm) : Kp D tys Nw Zs w σ H.size U := by
  have hF := h.free
  obtain ⟨hP, hD, hS, hK, hA, hZ⟩ := h
  subst hU
  exact ⟨rfl, hP, va_K.moved hW.alike hK, hD.weaken (fun _ _ _ _ => trivial), hZ.at hW (fun a h1 h2 => hS.2.1 a h1 h2) hF⟩
theorem Iw.back {D : va_G} {tys : List (ClassId × FieldType)} {Nw : List Nrow} {Zs : List Zrow} {w : St → va_W} {σ σ' : St} {s t : State} {A : Nat → Prop} {H H1 : Heap} {locs locs1 : List Loc} (h : Iw D tys Nw Zs w A s H locs σ) (ht : t.heap = H1) (hB : Kq D tys w (va_A (w σ) H.size) σ' t) (hS1 : va_S A s.heap H1 locs1) : Iw D tys Nw Zs w A s H1 locs1 σ' := by
  have hF := h.free
  obtain ⟨hP, hD, hS, hK, hA, hZ⟩ := h
  obtain ⟨hP1, hK1, hD1⟩ := hB
  subst ht
  exact ⟨hP1, hD1.weaken (fun _ q _ z => hF q.1 z), hS1, hK, hA, hZ⟩
section KROWS
variable {p : Program} {l : Launch} {e : Env} {R : Room} {s : State} {m : MethodId} {args : Array Value} {below : List Frame} {meth : Method} {c : Code} {H : Heap} {locs : List Loc} {cells slots : Nat} {Q : State → Prop}
variable {cc : ByteArray} {pc : Nat} {ls : Array Slot} {rest : List Value} {D : va_G} {A : Nat → Prop} {a : Nat} {tys : List (ClassId × FieldType)} {Nw : List Nrow} {Zs : List Zrow} {w : St → va_W} {σ : St}
theorem k_metI {y : MethodName} {ws ws' : List Cond} {rm : Room} {As : List Value} {post : Int32 → St → Prop} {maxL : Nat} {ret : Option FieldType} (hy : plainName y.cls = true) (hw : ws = Cond.code y cc maxL ret :: ws') (hle : (lg_sl As).length ≤ maxL)
    (body : ∀ (p : Program) (e : Env) (s : State) (m : MethodId) (below : List Frame) (meth : Method) (c : Code) (A : Nat → Prop) (ls : Array Slot), Cx p s m As.toArray meth c cc maxL ret y.cls ws → Iw D tys Nw Zs w A s s.heap [] σ → lv_has ls maxL (lv_args 0 As) → W p l e rm s m As.toArray below meth c s.heap [] 0 0 (MQ below (va_Qi post (Kq D tys w A) A) As.toArray s 0 0 A) (F0 m 0 ls [])) : Ci l D tys Nw Zs w y ws rm As σ post := by
  intro sz
  refine Met.ofW (cc := cc) (maxL := maxL) (ret := ret) hy hw ?_
  intro p e s m args below meth c s₁ B hml hv
  obtain ⟨rfl, hv⟩ := hv
  rw [lg_entry_eq]
  exact body p e s m below meth c _ _ ⟨B.exec, B.bytes, B.returns, hml, findClass_of_methodNamed B.named, atoms_spec (ws := ws) B.pre, B.notSynchronized⟩ (Iw.start hv) (lv_entry As hle)
theorem k_metV {y : MethodName} {ws ws' : List Cond} {rm : Room} {As : List Value} {post : St → Prop} {maxL : Nat} {ret : Option FieldType} (hy : plainName y.cls = true) (hw : ws = Cond.code y cc maxL ret :: ws') (hle : (lg_sl As).length ≤ maxL)
    (body : ∀ (p : Program) (e : Env) (s : State) (m : MethodId) (below : List Frame) (meth : Method) (c : Code) (A : Nat → Prop) (ls : Array Slot), Cx p s m As.toArray meth c cc maxL ret y.cls ws → Iw D tys Nw Zs w A s s.heap [] σ → lv_has ls maxL (lv_args 0 As) → W p l e rm s m As.toArray below meth c s.heap [] 0 0 (MQ below (va_Qv post (Kq D tys w A) A) As.toArray s 0 0 A) (F0 m 0 ls [])) : Cv l D tys Nw Zs w y ws rm As σ post := by
  intro sz
  refine Met.ofW (cc := cc) (maxL := maxL) (ret := ret) hy hw ?_
  intro p e s m args below meth c s₁ B hml hv
  obtain ⟨rfl, hv⟩ := hv
  rw [lg_entry_eq]
  exact body p e s m below meth c _ _ ⟨B.exec, B.bytes, B.returns, hml, findClass_of_methodNamed B.named, atoms_spec (ws := ws) B.pre, B.notSynchronized⟩ (Iw.start hv) (lv_entry As hle)
theorem k_metR {y : MethodName} {ws ws' : List Cond} {rm : Room} {As : List Value} {a0 : Nat} {post : St → Prop} {maxL : Nat} {ret : Option FieldType} (hy : plainName y.cls = true) (hw : ws = Cond.code y cc maxL ret :: ws') (hle : (lg_sl As).length ≤ maxL)
    (body : ∀ (p : Program) (e : Env) (s : State) (m : MethodId) (below : List Frame) (meth : Method) (c : Code) (A : Nat → Prop) (ls : Array Slot), Cx p s m As.toArray meth c cc maxL ret y.cls ws → Iw D tys Nw Zs w A s s.heap [] σ → lv_has ls maxL (lv_args 0 As) → W p l e rm s m As.toArray below meth c s.heap [] 0 0 (MQ below (va_Qr post (Kr D tys w A a0) A) As.toArray s 0 0 A) (F0 m 0 ls [])) : Cr l D tys Nw Zs w y ws rm As a0 σ post := by
  intro sz
  refine Met.ofW (cc := cc) (maxL := maxL) (ret := ret) hy hw ?_
  intro p e s m args below meth c s₁ B hml hv
  obtain ⟨rfl, hv⟩ := hv
  rw [lg_entry_eq]
  exact body p e s m below meth c _ _ ⟨B.exec, B.bytes, B.returns, hml, findClass_of_methodNamed B.named, atoms_spec (ws := ws) B.pre, B.notSynchronized⟩ (Iw.start hv) (lv_entry As hle)
theorem k_iret {post : Int32 → St → Prop} {v : Int32} (hx : p.tables.exec = Jvm.exec) (hb : c.code = cc) (hr : meth.sig.returnType = some .int) (hlocks : meth.locks = false) (hI : Iw D tys Nw Zs w A s H locs σ) (h : post v σ) (hdg : decode cc pc = .ok (.ireturn, 1)) :
    W p l e R s m args below meth c H locs cells slots (MQ below (va_Qi post (Kq D tys w A) A) args s cells slots A) (F0 m pc ls [.int v]) := by
  obtain ⟨hP, hD, hS, hK, hA, hZ⟩ := hI
  exact W.iret (v := v) hx hb hr (fun t ht hW => ⟨⟨v, σ, rfl, h, by rw [ht]; exact hP, va_K.moved hW.alike hK, hD⟩, hS.F ht⟩) hS.2.2 hdg hlocks
theorem k_zret {post : Int32 → St → Prop} {v : Int32} (hx : p.tables.exec = Jvm.exec) (hb : c.code = cc) (hr : meth.sig.returnType = some .boolean) (hlocks : meth.locks = false) (hI : Iw D tys Nw Zs w A s H locs σ) (hv : v = nI 0 ∨ v = nI 1) (h : post v σ) (hdg : decode cc pc = .ok (.ireturn, 1)) :
    W p l e R s m args below meth c H locs cells slots (MQ below (va_Qi post (Kq D tys w A) A) args s cells slots A) (F0 m pc ls [.int v]) := by
  obtain ⟨hP, hD, hS, hK, hA, hZ⟩ := hI
  exact W.zret (v := v) hx hb hr (by rcases hv with rfl | rfl <;> rfl) (fun t ht hW => ⟨⟨v, σ, rfl, h, by rw [ht]; exact hP, va_K.moved hW.alike hK, hD⟩, hS.F ht⟩) hS.2.2 hdg hlocks
theorem k_vret {post : St → Prop} (hx : p.tables.exec = Jvm.exec) (hb : c.code = cc) (hr : meth.sig.returnType = none) (hlocks : meth.locks = false) (hI : Iw D tys Nw Zs w A s H locs σ) (h : post σ) (hdg : decode cc pc = .ok (.return_, 1)) :
    W p l e R s m args below meth c H locs cells slots (MQ below (va_Qv post (Kq D tys w A) A) args s cells slots A) (F0 m pc ls []) := by
  obtain ⟨hP, hD, hS, hK, hA, hZ⟩ := hI
  exact W.vret hx hb hr (fun t ht hW => ⟨⟨σ, rfl, h, by rw [ht]; exact hP, va_K.moved hW.alike hK, hD⟩, hS.F ht⟩) hS.2.2 hdg hlocks
theorem k_aret {post : St → Prop} {a0 : Nat} {C : String} (hx : p.tables.exec = Jvm.exec) (hb : c.code = cc) (hr : meth.sig.returnType = some (.object C)) (hlocks : meth.locks = false) (hI : Iw D tys Nw Zs w A s H locs σ) (h : post σ) (hdg : decode cc pc = .ok (.areturn, 1)) :
    W p l e R s m args below meth c H locs cells slots (MQ below (va_Qr post (Kr D tys w A a0) A) args s cells slots A) (F0 m pc ls [.ref a0]) := by
  obtain ⟨hP, hD, hS, hK, hA, hZ⟩ := hI
  exact W.aret hx hb hr (Or.inl ⟨_, rfl⟩) (Or.inr ⟨_, rfl⟩) (fun t ht hW => ⟨⟨σ, a0, rfl, h, rfl, by rw [ht]; exact hP, va_K.moved hW.alike hK, hD⟩, hS.F ht⟩) hS.2.2 hdg hlocks
theorem k_get (hx : p.tables.exec = Jvm.exec) (hb : c.code = cc) {own ref C : String} {T : u_T} {N ci index : Nat} {Ts : List Cond} (hts : ∀ w ∈ Ts, w.before args s = true) (hin : ∀ w ∈ u_ws C T N, w ∈ Ts) (hown : s.vm.findClass own = some m.cls) (hI : Iw D tys Nw Zs w A s H locs σ) (q0 : Nat) {fs : List Value} (he : (w σ)[q0]? = some (a, .inr (ci, fs))) (hc : vwCl[ci]? = some (C, T, N)) (k : Nat) (hk : k < N) (hm : Cond.fieldLink own index ref (T k).2.1 (T k).2.2.1 ∈ Ts) (href : (T k).1 = ref) {v : Value} (hv : fs[k]? = some v) (hdg : decode cc pc = .ok (.getfield index, 3))
    (kk : W p l e R s m args below meth c H locs cells slots Q (F0 m (pc + 3) ls (v :: rest))) : W p l e R s m args below meth c H locs cells slots Q (F0 m pc ls (.ref a :: rest)) := by
  subst href
  exact va_get hx hb hts hin hown hI.2.2.2.1 hI.1 q0 he hc k hk (hts _ hm) (fun _ h9 => h9) hv hdg kk
theorem k_put (hx : p.tables.exec = Jvm.exec) (hb : c.code = cc) {own ref C : String} {T : u_T} {N ci index : Nat} {Ts : List Cond} (hts : ∀ w ∈ Ts, w.before args s = true) (hin : ∀ w ∈ u_ws C T N, w ∈ Ts) (ty0 : Nat → FieldType) (hty : ∀ k, k < N → parseFieldDescriptor (T k).2.2.1 = some (ty0 k)) (hnm : ∀ a, a < N → ∀ b, b < N → a ≠ b → (T a).2.1 ≠ (T b).2.1) (hown : s.vm.findClass own = some m.cls) (hI : Iw D tys Nw Zs w A s H locs σ) (q0 : Nat) {fs : List Value} (he : (w σ)[q0]? = some (a, .inr (ci, fs))) (hc : vwCl[ci]? = some (C, T, N)) (k : Nat) (hk : k < N) (hm : Cond.fieldLink own index ref (T k).2.1 (T k).2.2.1 ∈ Ts) (href : (T k).1 = ref) (hfin : (T k).2.2.2 = false) {v : Value} (hn : narrow (ty0 k) v = v) (hfit : fits (ty0 k) v = true) (hl : k < fs.length) {σ' : St} (hw : (w σ).set q0 (a, .inr (ci, fs.set k v)) = w σ') (hdg : decode cc pc = .ok (.putfield index, 3))
    (kk : ∀ (H1 : Heap) (locs1 : List Loc), Iw D tys Nw Zs w A s H1 locs1 σ' → W p l e R s m args below meth c H1 locs1 cells slots Q (F0 m (pc + 3) ls rest)) : W p l e R s m args below meth c H locs cells slots Q (F0 m pc ls (v :: .ref a :: rest)) := by
  subst href
  obtain ⟨hP, hD, hS, hK, hA, hZ⟩ := hI
  refine va_put hx hb hts hin ty0 hty hnm hown hK hP hD hS q0 he hc k hk (hts _ hm) (fun _ h9 => h9) hfin (hty k hk) hn hfit hl hdg (fun H1 locs1 hP hD hS => ?_)
  rw [hw] at hP hD
  exact kk H1 locs1 ⟨hP, hD, hS, hK, hA, hZ⟩
theorem k_iald (hx : p.tables.exec = Jvm.exec) (hb : c.code = cc) (hI : Iw D tys Nw Zs w A s H locs σ) (q0 t0 : Nat) {cA : ClassId} {n : Nat} {f : Nat → Int32} (ha : (w σ)[q0]? = some (a, .inl (cA, n, .inl f))) (ht : tys[t0]? = some (cA, .int)) {i : Int32} (hin : vp_in i n) (hdg : decode cc pc = .ok (.iaload, 1))
    (kk : W p l e R s m args below meth c H locs cells slots Q (F0 m (pc + 1) ls (.int (f i.toNatClampNeg) :: rest))) : W p l e R s m args below meth c H locs cells slots Q (F0 m pc ls (.int i :: .ref a :: rest)) :=
  va_iald hx hb hI.2.2.2.1 hI.1 q0 t0 ha ht hin hdg kk
theorem k_zald (hx : p.tables.exec = Jvm.exec) (hb : c.code = cc) (hI : Iw D tys Nw Zs w A s H locs σ) (q0 t0 : Nat) {cA : ClassId} {n : Nat} {f : Nat → Int32} (ha : (w σ)[q0]? = some (a, .inl (cA, n, .inl f))) (ht : tys[t0]? = some (cA, .boolean)) {i : Int32} (hin : vp_in i n) (hdg : decode cc pc = .ok (.baload, 1))
    (kk : W p l e R s m args below meth c H locs cells slots Q (F0 m (pc + 1) ls (.int (f i.toNatClampNeg) :: rest))) : W p l e R s m args below meth c H locs cells slots Q (F0 m pc ls (.int i :: .ref a :: rest)) :=
  va_zald hx hb hI.2.2.2.1 hI.1 q0 t0 ha ht hin hdg kk
theorem k_iast (hx : p.tables.exec = Jvm.exec) (hb : c.code = cc) (hI : Iw D tys Nw Zs w A s H locs σ) (q0 t0 : Nat) {cA : ClassId} {n : Nat} {f : Nat → Int32} (ha : (w σ)[q0]? = some (a, .inl (cA, n, .inl f))) (ht : tys[t0]? = some (cA, .int)) {i x : Int32} (hin : vp_in i n) {σ' : St} (hw : (w σ).set q0 (a, .inl (cA, n, .inl (upd f i.toNatClampNeg x))) = w σ') (hdg : decode cc pc = .ok (.iastore, 1))
    (kk : ∀ (H1 : Heap) (locs1 : List Loc), Iw D tys Nw Zs w A s H1 locs1 σ' → W p l e R s m args below meth c H1 locs1 cells slots Q (F0 m (pc + 1) ls rest)) : W p l e R s m args below meth c H locs cells slots Q (F0 m pc ls (.int x :: .int i :: .ref a :: rest)) := by
  obtain ⟨hP, hD, hS, hK, hA, hZ⟩ := hI
  refine va_iast hx hb hK hP hD hS q0 t0 ha ht hin hdg (fun H1 locs1 hP hD hS => ?_)
  rw [hw] at hP hD
  exact kk H1 locs1 ⟨hP, hD, hS, hK, hA, hZ⟩
theorem k_zast (hx : p.tables.exec = Jvm.exec) (hb : c.code = cc) (hI : Iw D tys Nw Zs w A s H locs σ) (q0 t0 : Nat) {cA : ClassId} {n : Nat} {f : Nat → Int32} (ha : (w σ)[q0]? = some (a, .inl (cA, n, .inl f))) (ht : tys[t0]? = some (cA, .boolean)) {i x : Int32} (hin : vp_in i n) (hv : x = nI 0 ∨ x = nI 1) {σ' : St} (hw : (w σ).set q0 (a, .inl (cA, n, .inl (upd f i.toNatClampNeg x))) = w σ') (hdg : decode cc pc = .ok (.bastore, 1))
    (kk : ∀ (H1 : Heap) (locs1 : List Loc), Iw D tys Nw Zs w A s H1 locs1 σ' → W p l e R s m args below meth c H1 locs1 cells slots Q (F0 m (pc + 1) ls rest)) : W p l e R s m args below meth c H locs cells slots Q (F0 m pc ls (.int x :: .int i :: .ref a :: rest)) := by
  obtain ⟨hP, hD, hS, hK, hA, hZ⟩ := hI
  refine va_zast hx hb hK hP hD hS q0 t0 ha ht hin hdg (fun H1 locs1 hP hD hS => ?_)
  have e : vp_nar .boolean x = x := by rcases hv with rfl | rfl <;> rfl
  rw [e, hw] at hP hD
  exact kk H1 locs1 ⟨hP, hD, hS, hK, hA, hZ⟩
/-- a row of a static table -/
theorem k_gets (hx : p.tables.exec = Jvm.exec) (hb : c.code = cc) {own ref : String} {index : Nat} {Ts : List Cond} {q : Zrow} (hts : ∀ w ∈ Ts, w.before args s = true) (hown : s.vm.findClass own = some m.cls) (hI : Iw D tys Nw Zs w A s H locs σ) (hq : q ∈ Zs) (hm : Cond.fieldLink own index ref q.2.1 q.2.2.1 ∈ Ts) (href : q.1 = ref) (hdg : decode cc pc = .ok (.getstatic index, 3))
    (kk : W p l e R s m args below meth c H locs cells slots Q (F0 m (pc + 3) ls (.ref q.2.2.2.1 :: rest))) : W p l e R s m args below meth c H locs cells slots Q (F0 m pc ls rest) := by
  subst href
  obtain ⟨hP, hD, hS, hK, hA, hZ⟩ := hI
  exact va_gets hx hb (hZ.2 q hq).1 hS hown (hts _ hm) (fun _ h => h) hdg kk
end KROWS
section KCALLS
variable {p : Program} {l : Launch} {e : Env} {R : Room} {s : State} {m : MethodId} {args : Array Value} {below : List Frame} {meth : Method} {c : Code} {H : Heap} {locs : List Loc} {cells slots : Nat} {Q : State → Prop}
variable {cc : ByteArray} {pc : Nat} {ls : Array Slot} {rest st0 : List Value} {D : va_G} {A : Nat → Prop} {a : Nat} {tys : List (ClassId × FieldType)} {Nw : List Nrow} {Zs : List Zrow} {w : St → va_W} {σ : St}
variable {y : MethodName} {bytes : ByteArray} {maxL nL n index ci N : Nat} {ret : Option FieldType} {ws : List Cond} {rm : Room} {Ts : List Cond} {own C host : String} {T : u_T} {fs As : List Value}
theorem k_tiald (hx : p.tables.exec = Jvm.exec) (hb : c.code = cc) (hI : Iw D tys Nw Zs w A s H locs σ) {q : Zrow} (hq : q ∈ Zs) {i : Int32} (hin : vp_in i q.2.2.2.2.1) (hdg : decode cc pc = .ok (.iaload, 1))
    (kk : W p l e R s m args below meth c H locs cells slots Q (F0 m (pc + 1) ls (.int (q.2.2.2.2.2 i.toNatClampNeg) :: rest))) : W p l e R s m args below meth c H locs cells slots Q (F0 m pc ls (.int i :: .ref q.2.2.2.1 :: rest)) := by
  obtain ⟨hP, hD, hS, hK, hA, hZ⟩ := hI
  exact va_ti hx hb (hZ.2 q hq).2 hS hin rfl hdg kk
theorem k_cVi {post : Int32 → St → Prop} {ret2 : Option FieldType} (C0 : Cx p s m args meth c cc nL ret2 own Ts) (hM : Ci l D tys Nw Zs w y ws rm (.ref a :: As) σ post) (cw : CallW R s args own C index y bytes maxL ret ws rm 0 0 n) (hI : Iw D tys Nw Zs w A s H locs σ) (q0 : Nat) (he : (w σ)[q0]? = some (a, .inr (ci, fs))) (hc : vwCl[ci]? = some (C, T, N)) (hn : As.length = n) (hsz : ls.size = nL) (hst : st0 = As.reverse ++ .ref a :: rest) (hW : (rest.map fun v => v.category).sum ≤ 8) (hdg : decode cc pc = .ok (.invokevirtual index, 3)) (hf : cells ≤ R.cells ∧ slots ≤ R.slots)
    (kk : ∀ (r : Int32) (σ' : St) (H1 : Heap) (locs1 : List Loc), post r σ' → Iw D tys Nw Zs w A s H1 locs1 σ' → W p l e R s m args below meth c H1 locs1 cells slots Q (F0 m (pc + 3) ls (.int r :: rest))) : W p l e R s m args below meth c H locs cells slots Q (F0 m pc ls st0) := by
  have hF := hI.free
  exact va_calli (va_runV (As := As) (rest := rest) ⟨C0.1, C0.2.1, C0.2.2.2.1, C0.2.2.2.2.1, C0.2.2.2.2.2.1⟩ (hM H.size) cw ⟨Kp.blind, va_recv hI.2.2.2.1 hI.1 hc he, fun U hU hW => ⟨rfl, hI.pre hU hW⟩⟩ rfl hn hsz hst (lv_room hW) hdg hf) hI.2.2.1 (fun q _ h => hF q h) hF (fun r u t H1 locs1 ht _ hw hB _ _ hS => kk r u H1 locs1 hw (hI.back ht hB hS))
theorem k_cVv {post : St → Prop} {ret2 : Option FieldType} (C0 : Cx p s m args meth c cc nL ret2 own Ts) (hM : Cv l D tys Nw Zs w y ws rm (.ref a :: As) σ post) (cw : CallW R s args own C index y bytes maxL ret ws rm 0 0 n) (hI : Iw D tys Nw Zs w A s H locs σ) (q0 : Nat) (he : (w σ)[q0]? = some (a, .inr (ci, fs))) (hc : vwCl[ci]? = some (C, T, N)) (hn : As.length = n) (hsz : ls.size = nL) (hst : st0 = As.reverse ++ .ref a :: rest) (hW : (rest.map fun v => v.category).sum ≤ 8) (hdg : decode cc pc = .ok (.invokevirtual index, 3)) (hf : cells ≤ R.cells ∧ slots ≤ R.slots)
    (kk : ∀ (σ' : St) (H1 : Heap) (locs1 : List Loc), post σ' → Iw D tys Nw Zs w A s H1 locs1 σ' → W p l e R s m args below meth c H1 locs1 cells slots Q (F0 m (pc + 3) ls rest)) : W p l e R s m args below meth c H locs cells slots Q (F0 m pc ls st0) := by
  have hF := hI.free
  exact va_callv (va_runV (As := As) (rest := rest) ⟨C0.1, C0.2.1, C0.2.2.2.1, C0.2.2.2.2.1, C0.2.2.2.2.2.1⟩ (hM H.size) cw ⟨Kp.blind, va_recv hI.2.2.2.1 hI.1 hc he, fun U hU hW => ⟨rfl, hI.pre hU hW⟩⟩ rfl hn hsz hst (lv_room hW) hdg hf) hI.2.2.1 (fun q _ h => hF q h) hF (fun u t H1 locs1 ht _ hw hB _ _ hS => kk u H1 locs1 hw (hI.back ht hB hS))
theorem k_cVr {post : St → Prop} {a0 : Nat} {ret2 : Option FieldType} (C0 : Cx p s m args meth c cc nL ret2 own Ts) (hM : Cr l D tys Nw Zs w y ws rm (.ref a :: As) a0 σ post) (cw : CallW R s args own C index y bytes maxL ret ws rm 0 0 n) (hI : Iw D tys Nw Zs w A s H locs σ) (q0 : Nat) (he : (w σ)[q0]? = some (a, .inr (ci, fs))) (hc : vwCl[ci]? = some (C, T, N)) (hn : As.length = n) (hsz : ls.size = nL) (hst : st0 = As.reverse ++ .ref a :: rest) (hW : (rest.map fun v => v.category).sum ≤ 8) (hdg : decode cc pc = .ok (.invokevirtual index, 3)) (hf : cells ≤ R.cells ∧ slots ≤ R.slots)
    (kk : ∀ (σ' : St) (H1 : Heap) (locs1 : List Loc), post σ' → Iw D tys Nw Zs w A s H1 locs1 σ' → W p l e R s m args below meth c H1 locs1 cells slots Q (F0 m (pc + 3) ls (.ref a0 :: rest))) : W p l e R s m args below meth c H locs cells slots Q (F0 m pc ls st0) := by
  have hF := hI.free
  refine va_callr (va_runV (As := As) (rest := rest) ⟨C0.1, C0.2.1, C0.2.2.2.1, C0.2.2.2.2.1, C0.2.2.2.2.2.1⟩ (hM H.size) cw ⟨Kp.blind, va_recv hI.2.2.2.1 hI.1 hc he, fun U hU hW => ⟨rfl, hI.pre hU hW⟩⟩ rfl hn hsz hst (lv_room hW) hdg hf) hI.2.2.1 (fun q _ h => hF q h) hF (fun u ra t H1 locs1 ht _ hw hB _ _ hS => ?_)
  obtain ⟨rfl, hB⟩ := hB
  exact kk u H1 locs1 hw (hI.back ht hB hS)
theorem k_cSi {post : Int32 → St → Prop} {ret2 : Option FieldType} (C0 : Cx p s m args meth c cc nL ret2 own Ts) (hM : Ci l D tys Nw Zs w y ws rm As σ post) (cw : CallB R s args own index y bytes maxL ret ws rm 0 0 n ∧ (Cond.static y).before args s = true) (hI : Iw D tys Nw Zs w A s H locs σ) (hn : As.length = n) (hsz : ls.size = nL) (hst : st0 = As.reverse ++ rest) (hW : (rest.map fun v => v.category).sum ≤ 8) (hdg : decode cc pc = .ok (.invokestatic index, 3)) (hf : cells ≤ R.cells ∧ slots ≤ R.slots)
    (kk : ∀ (r : Int32) (σ' : St) (H1 : Heap) (locs1 : List Loc), post r σ' → Iw D tys Nw Zs w A s H1 locs1 σ' → W p l e R s m args below meth c H1 locs1 cells slots Q (F0 m (pc + 3) ls (.int r :: rest))) : W p l e R s m args below meth c H locs cells slots Q (F0 m pc ls st0) := by
  have hF := hI.free
  exact va_calli (va_runS (As := As) (rest := rest) ⟨C0.1, C0.2.1, C0.2.2.2.1, C0.2.2.2.2.1, C0.2.2.2.2.2.1⟩ (hM H.size) cw ⟨Kp.blind, fun U hU hW => ⟨rfl, hI.pre hU hW⟩⟩ rfl hn hsz hst (lv_room hW) hdg hf) hI.2.2.1 (fun q _ h => hF q h) hF (fun r u t H1 locs1 ht _ hw hB _ _ hS => kk r u H1 locs1 hw (hI.back ht hB hS))
theorem k_cNi {post : Int32 → St → Prop} {ws' : List Cond} {ret2 : Option FieldType} (C0 : Cx p s m args meth c cc nL ret2 own Ts) (hM : Ci l D tys Nw Zs w y ws rm As σ post) (hG : GoodIn Ts ws) (hw0 : ws = Cond.code y bytes maxL ret :: ws') (hrc : rm.cells = 0) (hrs : rm.slots = 0) (hN : (own, index, y, host) ∈ Nw) (hini : Cond.initialized y.cls ∈ Ts) (hstt : Cond.static y ∈ Ts)
    (hd : y.cls ≠ "java/lang/invoke/MethodHandle" ∧ y.cls ≠ "java/lang/invoke/VarHandle" ∧ (parseMethodDescriptor y.desc).map (fun d => d.parameters.length) = some n) (hR : rm.frames + 1 ≤ R.frames ∧ 8 + (maxL + 11) + rm.locals ≤ R.locals) (hI : Iw D tys Nw Zs w A s H locs σ) (hn : As.length = n) (hsz : ls.size = nL) (hst : st0 = As.reverse ++ rest) (hW : (rest.map fun v => v.category).sum ≤ 8) (hdg : decode cc pc = .ok (.invokestatic index, 3)) (hf : cells ≤ R.cells ∧ slots ≤ R.slots)
    (kk : ∀ (r : Int32) (σ' : St) (H1 : Heap) (locs1 : List Loc), post r σ' → Iw D tys Nw Zs w A s H1 locs1 σ' → W p l e R s m args below meth c H1 locs1 cells slots Q (F0 m (pc + 3) ls (.int r :: rest))) : W p l e R s m args below meth c H locs cells slots Q (F0 m pc ls st0) := by
  have hF := hI.free
  have hts := C0.2.2.2.2.2.1
  exact va_calli (va_runSN (As := As) (rest := rest) ⟨C0.1, C0.2.1, C0.2.2.2.1, C0.2.2.2.2.1, hts⟩ (hM H.size) ⟨va_cnB n hts hG hw0 hrc hrs (hI.2.2.2.2.2.1 _ hN) (hts _ hini) hd hR, hts _ hstt, trivial⟩ ⟨Kp.blind, fun U hU hW => ⟨rfl, hI.pre hU hW⟩⟩ rfl hn hsz hst (lv_room hW) hdg hf) hI.2.2.1 (fun q _ h => hF q h) hF (fun r u t H1 locs1 ht _ hw hB _ _ hS => kk r u H1 locs1 hw (hI.back ht hB hS))
theorem k_copy {ret2 : Option FieldType} (C0 : Cx p s m args meth c cc nL ret2 own Ts) (hml : ls.size = nL) (hlink : Cond.methodLink own index arraycopyName ∈ Ts) (hnat : Cond.native arraycopyName ∈ Ts) (hstat : Cond.static arraycopyName ∈ Ts) (hini : Cond.initialized "java/lang/System" ∈ Ts) (hI : Iw D tys Nw Zs w A s H locs σ) (q0 q1 t0 : Nat) {a0 : Nat} {c0 c1 : ClassId} {n0 n1 : Nat} {f g : Nat → Int32} (ha0 : (w σ)[q0]? = some (a0, .inl (c0, n0, .inl f))) (ha1 : (w σ)[q1]? = some (a, .inl (c1, n1, .inl g))) (ht0 : tys[t0]? = some (c0, .int)) (ht1 : tys[t0]? = some (c1, .int))
    {sp dp n : Int32} (h1 : ¬ sp < 0) (h2 : ¬ dp < 0) (h3 : ¬ n < 0) (h4 : sp.toNatClampNeg + n.toNatClampNeg ≤ n0) (h5 : dp.toNatClampNeg + n.toNatClampNeg ≤ n1) (hframes : 1 ≤ R.frames) (hlocals : (rest.map fun v => v.category).sum + (nativeFrameWords "java/lang/System" "arraycopy" 5 + 11) ≤ R.locals) {σ' : St} (hw : (w σ).set q1 (a, .inl (c1, n1, .inl (va_cpy f g sp.toNatClampNeg dp.toNatClampNeg n.toNatClampNeg))) = w σ') (hdg : decode cc pc = .ok (.invokestatic index, 3))
    (kk : ∀ (H1 : Heap) (locs1 : List Loc), Iw D tys Nw Zs w A s H1 locs1 σ' → W p l e R s m args below meth c H1 locs1 cells slots Q (F0 m (pc + 3) ls rest)) : W p l e R s m args below meth c H locs cells slots Q (F0 m pc ls (.int n :: .int dp :: .ref a :: .int sp :: .ref a0 :: rest)) := by
  obtain ⟨hP, hD, hS, hK, hA, hZ⟩ := hI
  obtain ⟨hx, hb, -, hmL, hown, hts, -⟩ := C0
  refine va_copyi hx hb (hmL.trans hml.symm) hown (hts _ hlink) (hts _ hnat) (hts _ hstat) (hts _ hini) hK hP hD hS q0 q1 t0 t0 ha0 ha1 ht0 ht1 rfl h1 h2 h3 h4 h5 (fun _ _ => rfl) hframes hlocals hdg (fun H1 locs1 hP hD hS => ?_)
  rw [hw] at hP hD
  exact kk H1 locs1 ⟨hP, hD, hS, hK, hA, hZ⟩
end KCALLS
end
