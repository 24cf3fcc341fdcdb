/-! what each method asks for, to run and to end with Q -/
def wpl_X7_appendNumber_3 (x1 : Int32) (Q : St → Prop) : Nat → St → Int32 → Prop
  | 0 => fun _ _ => False
  | n + 1 => fun σ x2 => (x2 < (nI 0) → Q σ) ∧ (¬ x2 < (nI 0) → (((nI 600) ≤ (σ 1 1) → Q σ) ∧ (¬ (nI 600) ≤ (σ 1 1) → (vp_in (σ 1 1) 600 ∧ wpl_X7_appendNumber_3 x1 Q n (up2 (up2 σ 2 (σ 1 1).toNatClampNeg ((((x1).toUInt32 >>> ((x2).toUInt32 &&& Int32.toUInt32 31)).toInt32) &&& (nI 255))) 1 1 ((σ 1 1) + (nI 1))) (x2 - nI 8)))))
def wp_X7_appendNumber (σ : St) (x1 : Int32) (Q : St → Prop) : Prop := ∃ k3, wpl_X7_appendNumber_3 x1 Q k3 σ (nI 24)
abbrev r_X7_appendNumber : Room := { frames := 0, cells := 0, slots := 0, locals := 0 }
def wp_X7_append (σ : St) (x1 x2 x3 x4 x5 : Int32) (Q : Int32 → St → Prop) : Prop := (((σ 1 1) + (nI 20)) ≤ (nI 600) → wp_X7_appendNumber σ x1 (fun σ3 => wp_X7_appendNumber σ3 x2 (fun σ5 => wp_X7_appendNumber σ5 x3 (fun σ7 => wp_X7_appendNumber σ7 x4 (fun σ9 => wp_X7_appendNumber σ9 x5 (fun σ11 => Q (σ11 1 1) σ11)))))) ∧ (¬ ((σ 1 1) + (nI 20)) ≤ (nI 600) → Q (-1) σ)
abbrev r_X7_append : Room := { frames := 1, cells := 0, slots := 0, locals := 22 }
def wp_X10_feed (σ : St) (x1 x2 x3 x4 x5 : Int32) (Q : Int32 → St → Prop) : Prop := wp_X7_append σ x1 x2 x3 x4 x5 (fun r1 σ2 => Q r1 σ2)
abbrev r_X10_feed : Room := { frames := 2, cells := 0, slots := 0, locals := 47 }
def wp_X10_within (σ : St) (x0 x1 x2 : Int32) (Q : Int32 → St → Prop) : Prop := (x0 < x1 → Q (nI 0) σ) ∧ (¬ x0 < x1 → ((x2 < x0 → Q (nI 0) σ) ∧ (¬ x2 < x0 → Q (nI 1) σ)))
abbrev r_X10_within : Room := { frames := 0, cells := 0, slots := 0, locals := 0 }
def wp_X7_keepFirst (σ : St) (x1 : Int32) (Q : Int32 → St → Prop) : Prop := wp_X10_within σ x1 (nI 0) (σ 1 1) (fun r1 σ2 => (¬ r1 = (nI 0) → Q (nI 1) (up2 σ2 1 1 x1)) ∧ (r1 = (nI 0) → Q (nI 0) σ2))
abbrev r_X7_keepFirst : Room := { frames := 1, cells := 0, slots := 0, locals := 22 }
def wp_X10_end (σ : St) (x1 : Int32) (Q : Int32 → St → Prop) : Prop := wp_X7_keepFirst σ x1 (fun r1 σ2 => (r1 = nI 0 ∨ r1 = nI 1) ∧ Q r1 σ2)
abbrev r_X10_end : Room := { frames := 2, cells := 0, slots := 0, locals := 43 }
def wp_X9_clear (σ : St) (Q : St → Prop) : Prop := Q (up2 σ 4 3 (nI 0))
abbrev r_X9_clear : Room := { frames := 0, cells := 0, slots := 0, locals := 0 }
def wp_X7_length (σ : St) (Q : Int32 → St → Prop) : Prop := Q (σ 1 1) σ
abbrev r_X7_length : Room := { frames := 0, cells := 0, slots := 0, locals := 0 }
def wp_X7_byteAt (σ : St) (x1 : Int32) (Q : Int32 → St → Prop) : Prop := (x1 < (nI 0) → Q (-1) σ) ∧ (¬ x1 < (nI 0) → (((σ 1 1) ≤ x1 → Q (-1) σ) ∧ (¬ (σ 1 1) ≤ x1 → (vp_in x1 600 ∧ Q (σ 2 x1.toNatClampNeg) σ))))
abbrev r_X7_byteAt : Room := { frames := 0, cells := 0, slots := 0, locals := 0 }
def wp_X10_isLetter (σ : St) (x0 : Int32) (Q : Int32 → St → Prop) : Prop := (x0 < (nI 97) → Q (nI 0) σ) ∧ (¬ x0 < (nI 97) → (((nI 122) < x0 → Q (nI 0) σ) ∧ (¬ (nI 122) < x0 → Q (nI 1) σ)))
abbrev r_X10_isLetter : Room := { frames := 0, cells := 0, slots := 0, locals := 0 }
def wp_X3_refuse (σ : St) (x1 x2 : Int32) (Q : St → Prop) : Prop := Q (up2 (up2 σ 3 1 x1) 3 2 x2)
abbrev r_X3_refuse : Room := { frames := 0, cells := 0, slots := 0, locals := 0 }
def wp_X9_open (σ : St) (Q : Int32 → St → Prop) : Prop := ((σ 4 3) < (nI 80) → (vp_in (σ 4 3) 80 ∧ (vp_in (σ 4 3) 80 ∧ Q (nI 1) (up2 (up2 (up2 σ 6 (σ 4 3).toNatClampNeg (nI 0)) 7 (σ 4 3).toNatClampNeg (nI 32)) 4 3 ((σ 4 3) + (nI 1)))))) ∧ (¬ (σ 4 3) < (nI 80) → Q (nI 0) σ)
abbrev r_X9_open : Room := { frames := 0, cells := 0, slots := 0, locals := 0 }
def wp_X9_addLetter (σ : St) (x1 : Int32) (Q : Int32 → St → Prop) : Prop := (((σ 4 3) - (nI 1)) < (nI 0) → Q (nI 0) σ) ∧ (¬ ((σ 4 3) - (nI 1)) < (nI 0) → (vp_in ((σ 4 3) - (nI 1)) 80 ∧ (((σ 6 ((σ 4 3) - (nI 1)).toNatClampNeg) < (nI 20) → (vp_in ((σ 4 3) - (nI 1)) 80 ∧ (vp_in ((((σ 4 3) - (nI 1)) * (nI 20)) + (σ 6 ((σ 4 3) - (nI 1)).toNatClampNeg)) 1600 ∧ (vp_in ((σ 4 3) - (nI 1)) 80 ∧ (vp_in ((σ 4 3) - (nI 1)) 80 ∧ Q (nI 1) (up2 (up2 σ 5 ((((σ 4 3) - (nI 1)) * (nI 20)) + (σ 6 ((σ 4 3) - (nI 1)).toNatClampNeg)).toNatClampNeg x1) 6 ((σ 4 3) - (nI 1)).toNatClampNeg ((σ 6 ((σ 4 3) - (nI 1)).toNatClampNeg) + (nI 1)))))))) ∧ (¬ (σ 6 ((σ 4 3) - (nI 1)).toNatClampNeg) < (nI 20) → Q (nI 0) σ))))
abbrev r_X9_addLetter : Room := { frames := 0, cells := 0, slots := 0, locals := 0 }
def wp_X3_stateBehindLetter (σ : St) (x1 x2 x3 : Int32) (Q : Int32 → St → Prop) : Prop := (¬ x1 = (nI 3) → ((x1 = (nI 1) → wp_X9_addLetter σ x2 (fun r3 σ4 => (¬ r3 = (nI 0) → Q (nI 1) σ4) ∧ (r3 = (nI 0) → wp_X3_refuse σ4 (nI 2) x3 (fun σ7 => Q (nI 1) σ7)))) ∧ (¬ x1 = (nI 1) → wp_X9_open σ (fun r8 σ9 => (¬ r8 = (nI 0) → wp_X9_addLetter σ9 x2 (fun r11 σ12 => (¬ r11 = (nI 0) → Q (nI 1) σ12) ∧ (r11 = (nI 0) → wp_X3_refuse σ12 (nI 2) x3 (fun σ15 => Q (nI 1) σ15)))) ∧ (r8 = (nI 0) → wp_X3_refuse σ9 (nI 3) x3 (fun σ17 => Q (nI 1) σ17)))))) ∧ (x1 = (nI 3) → wp_X3_refuse σ (nI 1) x3 (fun σ19 => Q (nI 1) σ19))
abbrev r_X3_stateBehindLetter : Room := { frames := 1, cells := 0, slots := 0, locals := 22 }
def wp_X9_close (σ : St) (x1 : Int32) (Q : St → Prop) : Prop := ((σ 4 3) ≤ (nI 0) → Q σ) ∧ (¬ (σ 4 3) ≤ (nI 0) → (vp_in ((σ 4 3) - (nI 1)) 80 ∧ Q (up2 σ 7 ((σ 4 3) - (nI 1)).toNatClampNeg x1)))
abbrev r_X9_close : Room := { frames := 0, cells := 0, slots := 0, locals := 0 }
def wpj_X3_stateBehind_64 (x1 x2 x3 x4 : Int32) (Q : Int32 → St → Prop) (σ : St) : Prop := (¬ x1 = (nI 1) → wp_X3_refuse σ (nI 1) x3 (fun σ10 => Q x1 σ10)) ∧ (x1 = (nI 1) → wp_X9_close σ x2 (fun σ13 => Q (nI 3) σ13))
def wpj_X3_stateBehind_27 (x1 x2 x3 : Int32) (Q : Int32 → St → Prop) (σ : St) : Prop := (x1 = (nI 2) → ((x2 = (nI 44) → wpj_X3_stateBehind_64 x1 x2 x3 (nI 1) Q σ) ∧ (¬ x2 = (nI 44) → ((x2 = (nI 46) → wpj_X3_stateBehind_64 x1 x2 x3 (nI 1) Q σ) ∧ (¬ x2 = (nI 46) → ((¬ x2 = (nI 47) → ((¬ x1 = (nI 1) → wp_X3_refuse σ (nI 1) x3 (fun σ19 => Q x1 σ19)) ∧ (x1 = (nI 1) → ((¬ x2 = (nI 45) → wp_X3_refuse σ (nI 1) x3 (fun σ23 => Q x1 σ23)) ∧ (x2 = (nI 45) → wp_X9_close σ x2 (fun σ25 => Q (nI 2) σ25)))))) ∧ (x2 = (nI 47) → wpj_X3_stateBehind_64 x1 x2 x3 (nI 1) Q σ))))))) ∧ (¬ x1 = (nI 2) → Q (nI 0) σ)
def wp_X3_stateBehind (σ : St) (x1 x2 x3 : Int32) (Q : Int32 → St → Prop) : Prop := wp_X10_isLetter σ x2 (fun r1 σ2 => (r1 = (nI 0) → ((x2 = (nI 32) → wpj_X3_stateBehind_27 x1 x2 x3 Q σ2) ∧ (¬ x2 = (nI 32) → ((¬ x2 = (nI 10) → ((x2 = (nI 44) → wpj_X3_stateBehind_64 x1 x2 x3 (nI 0) Q σ2) ∧ (¬ x2 = (nI 44) → ((x2 = (nI 46) → wpj_X3_stateBehind_64 x1 x2 x3 (nI 0) Q σ2) ∧ (¬ x2 = (nI 46) → ((¬ x2 = (nI 47) → ((¬ x1 = (nI 1) → wp_X3_refuse σ2 (nI 1) x3 (fun σ34 => Q x1 σ34)) ∧ (x1 = (nI 1) → ((¬ x2 = (nI 45) → wp_X3_refuse σ2 (nI 1) x3 (fun σ38 => Q x1 σ38)) ∧ (x2 = (nI 45) → wp_X9_close σ2 x2 (fun σ40 => Q (nI 2) σ40)))))) ∧ (x2 = (nI 47) → wpj_X3_stateBehind_64 x1 x2 x3 (nI 0) Q σ2))))))) ∧ (x2 = (nI 10) → wpj_X3_stateBehind_27 x1 x2 x3 Q σ2))))) ∧ (¬ r1 = (nI 0) → wp_X3_stateBehindLetter σ2 x1 x2 x3 (fun r42 σ43 => Q r42 σ43)))
abbrev r_X3_stateBehind : Room := { frames := 2, cells := 0, slots := 0, locals := 45 }
def wpl_X3_read_1_21 (Q : St → Prop) : Nat → St → Int32 → Int32 → Prop
  | 0 => fun _ _ _ => False
  | n + 1 => fun σ x2 x3 => wp_X7_length σ (fun r3 σ4 => (r3 ≤ x3 → ((¬ (σ4 3 1) = (nI 0) → Q σ4) ∧ ((σ4 3 1) = (nI 0) → ((¬ x2 = (nI 2) → Q σ4) ∧ (x2 = (nI 2) → wp_X7_length σ4 (fun r8 σ9 => wp_X3_refuse σ9 (nI 1) r8 (fun σ11 => Q σ11))))))) ∧ (¬ r3 ≤ x3 → ((¬ (σ4 3 1) = (nI 0) → ((¬ (σ4 3 1) = (nI 0) → Q σ4) ∧ ((σ4 3 1) = (nI 0) → ((¬ x2 = (nI 2) → Q σ4) ∧ (x2 = (nI 2) → wp_X7_length σ4 (fun r15 σ16 => wp_X3_refuse σ16 (nI 1) r15 (fun σ18 => Q σ18))))))) ∧ ((σ4 3 1) = (nI 0) → wp_X7_byteAt σ4 x3 (fun r19 σ20 => wp_X3_stateBehind σ20 x2 r19 x3 (fun r21 σ22 => wpl_X3_read_1_21 Q n σ22 r21 (x3 + nI 1)))))))
def wp_X3_read_1 (σ : St) (Q : St → Prop) : Prop := wp_X9_clear σ (fun σ2 => ∃ k23, wpl_X3_read_1_21 Q k23 (up2 (up2 σ2 3 1 (nI 0)) 3 2 (-1)) (nI 0) (nI 0))
abbrev r_X3_read_1 : Room := { frames := 3, cells := 0, slots := 0, locals := 70 }
def wp_X7_clear (σ : St) (Q : St → Prop) : Prop := Q (up2 σ 1 1 (nI 0))
abbrev r_X7_clear : Room := { frames := 0, cells := 0, slots := 0, locals := 0 }
def wp_X10_readTape (σ : St) (Q : St → Prop) : Prop := wp_X3_read_1 σ (fun σ2 => wp_X7_clear σ2 (fun σ4 => Q σ4))
abbrev r_X10_readTape : Room := { frames := 4, cells := 0, slots := 0, locals := 93 }
def wp_X3_hasFault (σ : St) (Q : Int32 → St → Prop) : Prop := ((σ 3 1) = (nI 0) → Q (nI 0) σ) ∧ (¬ (σ 3 1) = (nI 0) → Q (nI 1) σ)
abbrev r_X3_hasFault : Room := { frames := 0, cells := 0, slots := 0, locals := 0 }
def wp_X3_units (σ : St) (Q : St → Prop) : Prop := Q σ
abbrev r_X3_units : Room := { frames := 0, cells := 0, slots := 0, locals := 0 }
def wp_X9_copyUnit_4 (σ : St) (x2 x3 : Int32) (Q : St → Prop) : Prop := (¬ (x2 * (nI 20)) < nI 0) ∧ (¬ (x3 * (nI 20)) < nI 0) ∧ (x2 * (nI 20)).toNatClampNeg + (nI 20).toNatClampNeg ≤ 1600 ∧ (x3 * (nI 20)).toNatClampNeg + (nI 20).toNatClampNeg ≤ 1600 ∧ (vp_in x2 80 ∧ (vp_in x3 80 ∧ (vp_in x2 80 ∧ (vp_in x3 80 ∧ Q (up2 (up2 (upA σ 9 (va_cpy (σ 5) (σ 9) (x2 * (nI 20)).toNatClampNeg (x3 * (nI 20)).toNatClampNeg (nI 20).toNatClampNeg)) 10 x3.toNatClampNeg (σ 6 x2.toNatClampNeg)) 11 x3.toNatClampNeg (σ 7 x2.toNatClampNeg))))))
abbrev r_X9_copyUnit_4 : Room := { frames := 1, cells := 0, slots := 0, locals := 21 }
def wpl_X9_takeAll_4_2 (Q : St → Prop) : Nat → St → Int32 → Prop
  | 0 => fun _ _ => False
  | n + 1 => fun σ x2 => ((σ 4 3) ≤ x2 → Q (up2 σ 8 3 (σ 4 3))) ∧ (¬ (σ 4 3) ≤ x2 → wp_X9_copyUnit_4 σ x2 x2 (fun σ3 => wpl_X9_takeAll_4_2 Q n σ3 (x2 + nI 1)))
def wp_X9_takeAll_4 (σ : St) (Q : St → Prop) : Prop := ∃ k4, wpl_X9_takeAll_4_2 Q k4 σ (nI 0)
abbrev r_X9_takeAll_4 : Room := { frames := 2, cells := 0, slots := 0, locals := 44 }
def wp_X5_drop (σ : St) (Q : St → Prop) : Prop := Q (up2 σ 14 4 (nI 0))
abbrev r_X5_drop : Room := { frames := 0, cells := 0, slots := 0, locals := 0 }
def wp_X0_drop (σ : St) (Q : St → Prop) : Prop := Q (up2 σ 27 2 (nI 0))
abbrev r_X0_drop : Room := { frames := 0, cells := 0, slots := 0, locals := 0 }
def wp_X9_count_at8 (σ : St) (Q : Int32 → St → Prop) : Prop := Q (σ 8 3) σ
abbrev r_X9_count_at8 : Room := { frames := 0, cells := 0, slots := 0, locals := 0 }
def wp_X10_text (σ : St) (Q : Int32 → St → Prop) : Prop := wp_X10_readTape σ (fun σ2 => wp_X3_hasFault σ2 (fun r3 σ4 => (r3 = (nI 0) → wp_X3_units σ4 (fun σ7 => wp_X9_takeAll_4 σ7 (fun σ9 => wp_X5_drop σ9 (fun σ11 => wp_X0_drop σ11 (fun σ13 => wp_X9_count_at8 σ13 (fun r14 σ15 => Q r14 σ15)))))) ∧ (¬ r3 = (nI 0) → Q (-1) σ4)))
abbrev r_X10_text : Room := { frames := 5, cells := 0, slots := 0, locals := 113 }
def wp_X3_kind (σ : St) (Q : Int32 → St → Prop) : Prop := Q (σ 3 1) σ
abbrev r_X3_kind : Room := { frames := 0, cells := 0, slots := 0, locals := 0 }
def wp_X3_place (σ : St) (Q : Int32 → St → Prop) : Prop := Q (σ 3 2) σ
abbrev r_X3_place : Room := { frames := 0, cells := 0, slots := 0, locals := 0 }
def wp_X10_fault (σ : St) (x1 : Int32) (Q : Int32 → St → Prop) : Prop := (x1 = nI 0 → wp_X3_kind σ (fun r2 σ3 => Q r2 σ3)) ∧ (¬ x1 = nI 0 → ((x1 = nI 1 → wp_X3_place σ (fun r5 σ6 => Q r5 σ6)) ∧ (¬ x1 = nI 1 → Q (-1) σ)))
abbrev r_X10_fault : Room := { frames := 1, cells := 0, slots := 0, locals := 20 }
def wp_X9_has (σ : St) (x1 : Int32) (Q : Int32 → St → Prop) : Prop := (x1 < (nI 0) → Q (nI 0) σ) ∧ (¬ x1 < (nI 0) → (((σ 8 3) ≤ x1 → Q (nI 0) σ) ∧ (¬ (σ 8 3) ≤ x1 → Q (nI 1) σ)))
abbrev r_X9_has : Room := { frames := 0, cells := 0, slots := 0, locals := 0 }
def wp_X9_behind (σ : St) (x1 : Int32) (Q : Int32 → St → Prop) : Prop := wp_X9_has σ x1 (fun r1 σ2 => (r1 = (nI 0) → Q (-1) σ2) ∧ (¬ r1 = (nI 0) → (vp_in x1 80 ∧ Q (σ2 11 x1.toNatClampNeg) σ2)))
abbrev r_X9_behind : Room := { frames := 1, cells := 0, slots := 0, locals := 21 }
def wp_X9_goesOn (σ : St) (x1 : Int32) (Q : Int32 → St → Prop) : Prop := wp_X9_behind σ x1 (fun r1 σ2 => (¬ r1 = (nI 45) → Q (nI 0) σ2) ∧ (r1 = (nI 45) → Q (nI 1) σ2))
abbrev r_X9_goesOn : Room := { frames := 2, cells := 0, slots := 0, locals := 42 }
def wp_X9_isWholeWord (σ : St) (x1 : Int32) (Q : Int32 → St → Prop) : Prop := wp_X9_has σ x1 (fun r1 σ2 => (r1 = (nI 0) → Q (nI 0) σ2) ∧ (¬ r1 = (nI 0) → wp_X9_goesOn σ2 x1 (fun r4 σ5 => (¬ r4 = (nI 0) → Q (nI 0) σ5) ∧ (r4 = (nI 0) → wp_X9_goesOn σ5 (x1 - (nI 1)) (fun r7 σ8 => (¬ r7 = (nI 0) → Q (nI 0) σ8) ∧ (r7 = (nI 0) → Q (nI 1) σ8))))))
abbrev r_X9_isWholeWord : Room := { frames := 3, cells := 0, slots := 0, locals := 63 }
def wp_X9_count_at4 (σ : St) (Q : Int32 → St → Prop) : Prop := Q (σ 4 3) σ
abbrev r_X9_count_at4 : Room := { frames := 0, cells := 0, slots := 0, locals := 0 }
def wp_X9_copyUnit_8 (σ : St) (x2 x3 : Int32) (Q : St → Prop) : Prop := (¬ (x2 * (nI 20)) < nI 0) ∧ (¬ (x3 * (nI 20)) < nI 0) ∧ (x2 * (nI 20)).toNatClampNeg + (nI 20).toNatClampNeg ≤ 1600 ∧ (x3 * (nI 20)).toNatClampNeg + (nI 20).toNatClampNeg ≤ 1600 ∧ (vp_in x2 80 ∧ (vp_in x3 80 ∧ (vp_in x2 80 ∧ (vp_in x3 80 ∧ Q (up2 (up2 (upA σ 9 (va_cpy (σ 9) (σ 9) (x2 * (nI 20)).toNatClampNeg (x3 * (nI 20)).toNatClampNeg (nI 20).toNatClampNeg)) 10 x3.toNatClampNeg (σ 10 x2.toNatClampNeg)) 11 x3.toNatClampNeg (σ 11 x2.toNatClampNeg))))))
abbrev r_X9_copyUnit_8 : Room := { frames := 1, cells := 0, slots := 0, locals := 21 }
def wpl_X9_replace_4_65 (x1 x3 : Int32) (Q : St → Prop) : Nat → St → Int32 → Prop
  | 0 => fun _ _ => False
  | n + 1 => fun σ x4 => ((σ 4 3) ≤ x4 → Q (up2 σ 8 3 ((σ 8 3) + x3))) ∧ (¬ (σ 4 3) ≤ x4 → wp_X9_copyUnit_4 σ x4 (x1 + x4) (fun σ9 => wpl_X9_replace_4_65 x1 x3 Q n σ9 (x4 + nI 1)))
def wpl_X9_replace_4_39 (x1 x3 : Int32) (Q : St → Prop) : Nat → St → Int32 → Prop
  | 0 => fun _ _ => False
  | n + 1 => fun σ x4 => (x4 ≤ x1 → (∃ k10, wpl_X9_replace_4_65 x1 x3 Q k10 σ (nI 0))) ∧ (¬ x4 ≤ x1 → wp_X9_copyUnit_8 σ x4 (x4 + x3) (fun σ12 => wpl_X9_replace_4_39 x1 x3 Q n σ12 (x4 - nI 1)))
def wp_X9_replace_4 (σ : St) (x1 : Int32) (Q : St → Prop) : Prop := wp_X9_has σ x1 (fun r1 σ2 => (r1 = (nI 0) → Q σ2) ∧ (¬ r1 = (nI 0) → ((((σ 4 3) - (nI 1)) < (nI 0) → Q σ2) ∧ (¬ ((σ 4 3) - (nI 1)) < (nI 0) → ((((σ2 8 3) + ((σ 4 3) - (nI 1))) ≤ (nI 80) → (∃ k13, wpl_X9_replace_4_39 x1 ((σ 4 3) - (nI 1)) Q k13 σ2 ((σ2 8 3) - (nI 1)))) ∧ (¬ ((σ2 8 3) + ((σ 4 3) - (nI 1))) ≤ (nI 80) → Q σ2))))))
abbrev r_X9_replace_4 : Room := { frames := 2, cells := 0, slots := 0, locals := 44 }
def wpl_X0_moveBehind_2 (x1 x2 : Int32) (Q : St → Prop) : Nat → St → Int32 → Prop
  | 0 => fun _ _ => False
  | n + 1 => fun σ x3 => ((σ 27 2) ≤ x3 → Q σ) ∧ (¬ (σ 27 2) ≤ x3 → (vp_in x3 20 ∧ (((σ 28 x3.toNatClampNeg) ≤ x1 → wpl_X0_moveBehind_2 x1 x2 Q n σ (x3 + nI 1)) ∧ (¬ (σ 28 x3.toNatClampNeg) ≤ x1 → (vp_in x3 20 ∧ (vp_in x3 20 ∧ wpl_X0_moveBehind_2 x1 x2 Q n (up2 σ 28 x3.toNatClampNeg ((σ 28 x3.toNatClampNeg) + x2)) (x3 + nI 1)))))))
def wp_X0_moveBehind (σ : St) (x1 x2 : Int32) (Q : St → Prop) : Prop := ∃ k3, wpl_X0_moveBehind_2 x1 x2 Q k3 σ (nI 0)
abbrev r_X0_moveBehind : Room := { frames := 0, cells := 0, slots := 0, locals := 0 }
def wp_X5_outdate (σ : St) (Q : St → Prop) : Prop := Q (up2 σ 14 5 (nI 0))
abbrev r_X5_outdate : Room := { frames := 0, cells := 0, slots := 0, locals := 0 }
def wp_X10_put (σ : St) (x1 : Int32) (Q : Int32 → St → Prop) : Prop := wp_X9_isWholeWord σ x1 (fun r1 σ2 => (¬ r1 = (nI 0) → wp_X10_readTape σ2 (fun σ5 => wp_X3_units σ5 (fun σ7 => wp_X9_count_at4 σ7 (fun r8 σ9 => wp_X3_hasFault σ9 (fun r10 σ11 => (¬ r10 = (nI 0) → Q (-2) σ11) ∧ (r10 = (nI 0) → (((r8 - (nI 1)) < (nI 0) → Q (-2) σ11) ∧ (¬ (r8 - (nI 1)) < (nI 0) → wp_X9_count_at8 σ11 (fun r14 σ15 => ((r14 + (r8 - (nI 1))) ≤ (nI 80) → wp_X3_units σ15 (fun σ18 => wp_X9_replace_4 σ18 x1 (fun σ20 => wp_X0_moveBehind σ20 x1 (r8 - (nI 1)) (fun σ22 => wp_X5_outdate σ22 (fun σ24 => wp_X9_count_at8 σ24 (fun r25 σ26 => Q r25 σ26)))))) ∧ (¬ (r14 + (r8 - (nI 1))) ≤ (nI 80) → Q (-2) σ15)))))))))) ∧ (r1 = (nI 0) → wp_X7_clear σ2 (fun σ28 => Q (-1) σ28)))
abbrev r_X10_put : Room := { frames := 5, cells := 0, slots := 0, locals := 113 }
def wp_X9_letters (σ : St) (x1 : Int32) (Q : Int32 → St → Prop) : Prop := wp_X9_has σ x1 (fun r1 σ2 => (r1 = (nI 0) → Q (-1) σ2) ∧ (¬ r1 = (nI 0) → (vp_in x1 80 ∧ Q (σ2 10 x1.toNatClampNeg) σ2)))
abbrev r_X9_letters : Room := { frames := 1, cells := 0, slots := 0, locals := 21 }
def wpl_X9_wordNumber_4 (x1 : Int32) (Q : Int32 → St → Prop) : Nat → St → Int32 → Int32 → Prop
  | 0 => fun _ _ _ => False
  | n + 1 => fun σ x2 x3 => (x1 ≤ x3 → Q x2 σ) ∧ (¬ x1 ≤ x3 → (((σ 8 3) ≤ x3 → Q x2 σ) ∧ (¬ (σ 8 3) ≤ x3 → wp_X9_goesOn σ x3 (fun r3 σ4 => (¬ r3 = (nI 0) → wpl_X9_wordNumber_4 x1 Q n σ4 x2 (x3 + nI 1)) ∧ (r3 = (nI 0) → wpl_X9_wordNumber_4 x1 Q n σ4 (x2 + nI 1) (x3 + nI 1))))))
def wp_X9_wordNumber (σ : St) (x1 : Int32) (Q : Int32 → St → Prop) : Prop := ∃ k6, wpl_X9_wordNumber_4 x1 Q k6 σ (nI 0) (nI 0)
abbrev r_X9_wordNumber : Room := { frames := 3, cells := 0, slots := 0, locals := 63 }
def wp_X10_unit (σ : St) (x1 x2 : Int32) (Q : Int32 → St → Prop) : Prop := wp_X9_has σ x1 (fun r1 σ2 => (¬ r1 = (nI 0) → ((x2 = nI 0 → wp_X9_letters σ2 x1 (fun r5 σ6 => Q r5 σ6)) ∧ (¬ x2 = nI 0 → ((x2 = nI 1 → wp_X9_behind σ2 x1 (fun r8 σ9 => Q r8 σ9)) ∧ (¬ x2 = nI 1 → ((x2 = nI 2 → wp_X9_wordNumber σ2 x1 (fun r11 σ12 => Q r11 σ12)) ∧ (¬ x2 = nI 2 → Q (-1) σ2))))))) ∧ (r1 = (nI 0) → Q (-1) σ2))
abbrev r_X10_unit : Room := { frames := 4, cells := 0, slots := 0, locals := 86 }
def wp_X1_changeLine (σ : St) (x1 x2 : Int32) (Q : Int32 → St → Prop) : Prop := wp_X10_within σ x1 (nI 10) (nI 60) (fun r1 σ2 => (r1 = (nI 0) → Q (nI 0) σ2) ∧ (¬ r1 = (nI 0) → wp_X10_within σ2 x2 (nI 1) (nI 3) (fun r4 σ5 => (¬ r4 = (nI 0) → Q (nI 1) (up2 (up2 σ5 12 0 x1) 12 1 x2)) ∧ (r4 = (nI 0) → Q (nI 0) σ5))))
abbrev r_X1_changeLine : Room := { frames := 1, cells := 0, slots := 0, locals := 22 }
def wp_X10_measure (σ : St) (x1 x2 : Int32) (Q : Int32 → St → Prop) : Prop := wp_X1_changeLine σ x1 x2 (fun r1 σ2 => (r1 = nI 0 ∨ r1 = nI 1) ∧ Q r1 σ2)
abbrev r_X10_measure : Room := { frames := 2, cells := 0, slots := 0, locals := 44 }
def wp_X1_pair (σ : St) (x0 x1 : Int32) (Q : Int32 → St → Prop) : Prop := Q ((x0 * (nI 28)) + x1) σ
abbrev r_X1_pair : Room := { frames := 0, cells := 0, slots := 0, locals := 0 }
def wpj_X1_changeStrains_38 (x1 x2 x3 x4 x5 : Int32) (Q : Int32 → St → Prop) (σ : St) : Prop := Q (nI 0) σ
def wp_X1_changeStrains (σ : St) (x1 x2 x3 x4 x5 : Int32) (Q : Int32 → St → Prop) : Prop := wp_X10_within σ x2 (nI 0) (nI 10000) (fun r1 σ2 => (r1 = (nI 0) → wpj_X1_changeStrains_38 x1 x2 x3 x4 x5 Q σ2) ∧ (¬ r1 = (nI 0) → wp_X10_within σ2 x3 (nI 0) (nI 10000) (fun r5 σ6 => (r5 = (nI 0) → wpj_X1_changeStrains_38 x1 x2 x3 x4 x5 Q σ6) ∧ (¬ r5 = (nI 0) → wp_X10_within σ6 x4 (nI 0) (nI 10000) (fun r8 σ9 => (r8 = (nI 0) → wpj_X1_changeStrains_38 x1 x2 x3 x4 x5 Q σ9) ∧ (¬ r8 = (nI 0) → wp_X10_within σ9 x1 (nI 0) (nI 100) (fun r12 σ13 => (r12 = (nI 0) → Q (nI 0) σ13) ∧ (¬ r12 = (nI 0) → wp_X10_within σ13 x5 (nI 0) (nI 1000) (fun r15 σ16 => (¬ r15 = (nI 0) → wp_X1_pair (up2 (up2 (up2 (up2 σ16 12 2 x1) 12 3 x2) 12 4 x3) 12 5 x4) (nI 26) (nI 26) (fun r18 σ19 => vp_in r18 784 ∧ Q (nI 1) (up2 σ19 13 r18.toNatClampNeg x5))) ∧ (r15 = (nI 0) → Q (nI 0) σ16))))))))))
abbrev r_X1_changeStrains : Room := { frames := 1, cells := 0, slots := 0, locals := 22 }
def wp_X10_strains (σ : St) (x1 x2 x3 x4 x5 : Int32) (Q : Int32 → St → Prop) : Prop := wp_X1_changeStrains σ x1 x2 x3 x4 x5 (fun r1 σ2 => (r1 = nI 0 ∨ r1 = nI 1) ∧ Q r1 σ2)
abbrev r_X10_strains : Room := { frames := 2, cells := 0, slots := 0, locals := 48 }
def wp_X1_kindOf (σ : St) (x0 : Int32) (Q : Int32 → St → Prop) : Prop := wp_X10_isLetter σ x0 (fun r1 σ2 => (r1 = (nI 0) → ((¬ x0 = (nI 32) → Q (nI 27) σ2) ∧ (x0 = (nI 32) → Q (nI 26) σ2))) ∧ (¬ r1 = (nI 0) → Q (x0 - (nI 97)) σ2))
abbrev r_X1_kindOf : Room := { frames := 1, cells := 0, slots := 0, locals := 20 }
def wp_X1_changeLikeness (σ : St) (x1 x2 x3 : Int32) (Q : Int32 → St → Prop) : Prop := wp_X10_isLetter σ x1 (fun r1 σ2 => (r1 = (nI 0) → Q (-1) σ2) ∧ (¬ r1 = (nI 0) → wp_X10_isLetter σ2 x2 (fun r4 σ5 => (r4 = (nI 0) → Q (-1) σ5) ∧ (¬ r4 = (nI 0) → wp_X10_within σ5 x3 (nI 0) (nI 1000) (fun r7 σ8 => (¬ r7 = (nI 0) → wp_X1_kindOf σ8 x1 (fun r10 σ11 => wp_X1_kindOf σ11 x2 (fun r12 σ13 => wp_X1_pair σ13 r10 r12 (fun r14 σ15 => vp_in r14 784 ∧ wp_X1_kindOf σ15 x1 (fun r16 σ17 => wp_X1_kindOf σ17 x2 (fun r18 σ19 => wp_X1_pair σ19 r16 r18 (fun r20 σ21 => vp_in r20 784 ∧ wp_X1_kindOf (up2 σ21 13 r20.toNatClampNeg x3) x2 (fun r22 σ23 => wp_X1_kindOf σ23 x1 (fun r24 σ25 => wp_X1_pair σ25 r22 r24 (fun r26 σ27 => vp_in r26 784 ∧ Q (σ15 13 r14.toNatClampNeg) (up2 σ27 13 r26.toNatClampNeg x3))))))))))) ∧ (r7 = (nI 0) → Q (-1) σ8))))))
abbrev r_X1_changeLikeness : Room := { frames := 2, cells := 0, slots := 0, locals := 40 }
def wp_X10_like (σ : St) (x1 x2 x3 : Int32) (Q : Int32 → St → Prop) : Prop := wp_X1_changeLikeness σ x1 x2 x3 (fun r1 σ2 => Q r1 σ2)
abbrev r_X10_like : Room := { frames := 3, cells := 0, slots := 0, locals := 64 }
def wp_X1_longest (σ : St) (Q : Int32 → St → Prop) : Prop := Q (σ 12 0) σ
abbrev r_X1_longest : Room := { frames := 0, cells := 0, slots := 0, locals := 0 }
def wp_X9_signs (σ : St) (x1 : Int32) (Q : Int32 → St → Prop) : Prop := wp_X9_has σ x1 (fun r1 σ2 => (¬ r1 = (nI 0) → (vp_in x1 80 ∧ (((σ2 11 x1.toNatClampNeg) = (nI 44) → (vp_in x1 80 ∧ Q ((σ2 10 x1.toNatClampNeg) + (nI 1)) σ2)) ∧ (¬ (σ2 11 x1.toNatClampNeg) = (nI 44) → (vp_in x1 80 ∧ ((¬ (σ2 11 x1.toNatClampNeg) = (nI 46) → (vp_in x1 80 ∧ Q (σ2 10 x1.toNatClampNeg) σ2)) ∧ ((σ2 11 x1.toNatClampNeg) = (nI 46) → (vp_in x1 80 ∧ Q ((σ2 10 x1.toNatClampNeg) + (nI 1)) σ2)))))))) ∧ (r1 = (nI 0) → Q (nI 0) σ2))
abbrev r_X9_signs : Room := { frames := 1, cells := 0, slots := 0, locals := 21 }
def wpl_X9_fitAlone_2 (x1 : Int32) (Q : Int32 → St → Prop) : Nat → St → Int32 → Prop
  | 0 => fun _ _ => False
  | n + 1 => fun σ x2 => ((σ 8 3) ≤ x2 → Q (nI 1) σ) ∧ (¬ (σ 8 3) ≤ x2 → wp_X9_signs σ x2 (fun r2 σ3 => wp_X9_goesOn σ3 x2 (fun r4 σ5 => (r4 = (nI 0) → (((r2 + (nI 0)) ≤ x1 → wpl_X9_fitAlone_2 x1 Q n σ5 (x2 + nI 1)) ∧ (¬ (r2 + (nI 0)) ≤ x1 → Q (nI 0) σ5))) ∧ (¬ r4 = (nI 0) → (((r2 + (nI 1)) ≤ x1 → wpl_X9_fitAlone_2 x1 Q n σ5 (x2 + nI 1)) ∧ (¬ (r2 + (nI 1)) ≤ x1 → Q (nI 0) σ5))))))
def wp_X9_fitAlone (σ : St) (x1 : Int32) (Q : Int32 → St → Prop) : Prop := ∃ k9, wpl_X9_fitAlone_2 x1 Q k9 σ (nI 0)
abbrev r_X9_fitAlone : Room := { frames := 3, cells := 0, slots := 0, locals := 63 }
def wp_X1_spread (σ : St) (Q : Int32 → St → Prop) : Prop := Q (σ 12 1) σ
abbrev r_X1_spread : Room := { frames := 0, cells := 0, slots := 0, locals := 0 }
def wp_X6_addSign (σ : St) (x1 : Int32) (Q : St → Prop) : Prop := ((nI 1920) ≤ (σ 15 6) → Q σ) ∧ (¬ (nI 1920) ≤ (σ 15 6) → (vp_in (σ 15 6) 1920 ∧ wp_X1_kindOf (up2 σ 16 (σ 15 6).toNatClampNeg x1) x1 (fun r2 σ3 => vp_in (σ 15 6) 1920 ∧ Q (up2 (up2 σ3 17 (σ 15 6).toNatClampNeg r2) 15 6 ((σ3 15 6) + (nI 1))))))
abbrev r_X6_addSign : Room := { frames := 2, cells := 0, slots := 0, locals := 40 }
def wpl_X6_addBlanks_2 (x1 : Int32) (Q : St → Prop) : Nat → St → Int32 → Prop
  | 0 => fun _ _ => False
  | n + 1 => fun σ x2 => (x1 ≤ x2 → Q σ) ∧ (¬ x1 ≤ x2 → wp_X6_addSign σ (nI 32) (fun σ3 => wpl_X6_addBlanks_2 x1 Q n σ3 (x2 + nI 1)))
def wp_X6_addBlanks (σ : St) (x1 : Int32) (Q : St → Prop) : Prop := ∃ k4, wpl_X6_addBlanks_2 x1 Q k4 σ (nI 0)
abbrev r_X6_addBlanks : Room := { frames := 3, cells := 0, slots := 0, locals := 61 }
def wp_X9_signAt (σ : St) (x1 x2 : Int32) (Q : Int32 → St → Prop) : Prop := wp_X9_has σ x1 (fun r1 σ2 => (r1 = (nI 0) → Q (-1) σ2) ∧ (¬ r1 = (nI 0) → ((x2 < (nI 0) → Q (-1) σ2) ∧ (¬ x2 < (nI 0) → (vp_in x1 80 ∧ ((x2 ≤ (σ2 10 x1.toNatClampNeg) → (vp_in x1 80 ∧ (((σ2 10 x1.toNatClampNeg) ≤ x2 → (vp_in x1 80 ∧ Q (σ2 11 x1.toNatClampNeg) σ2)) ∧ (¬ (σ2 10 x1.toNatClampNeg) ≤ x2 → (vp_in ((x1 * (nI 20)) + x2) 1600 ∧ Q (σ2 9 ((x1 * (nI 20)) + x2).toNatClampNeg) σ2))))) ∧ (¬ x2 ≤ (σ2 10 x1.toNatClampNeg) → Q (-1) σ2)))))))
abbrev r_X9_signAt : Room := { frames := 1, cells := 0, slots := 0, locals := 21 }
def wpl_X6_addUnit_8_19 (x2 x3 : Int32) (Q : St → Prop) : Nat → St → Int32 → Prop
  | 0 => fun _ _ => False
  | n + 1 => fun σ x4 => (x3 ≤ x4 → (vp_in x2 80 ∧ wp_X9_behind (up2 σ 19 x2.toNatClampNeg (σ 15 6)) x2 (fun r4 σ5 => vp_in x2 80 ∧ Q (up2 (up2 σ5 20 x2.toNatClampNeg r4) 15 5 ((σ5 15 5) + (nI 1)))))) ∧ (¬ x3 ≤ x4 → wp_X9_signAt σ x2 x4 (fun r6 σ7 => wp_X6_addSign σ7 r6 (fun σ9 => wpl_X6_addUnit_8_19 x2 x3 Q n σ9 (x4 + nI 1))))
def wp_X6_addUnit_8 (σ : St) (x2 : Int32) (Q : St → Prop) : Prop := vp_in x2 80 ∧ wp_X9_signs (up2 σ 18 x2.toNatClampNeg (σ 15 6)) x2 (fun r1 σ2 => ∃ k10, wpl_X6_addUnit_8_19 x2 r1 Q k10 σ2 (nI 0))
abbrev r_X6_addUnit_8 : Room := { frames := 3, cells := 0, slots := 0, locals := 61 }
def wpl_X6_lay_8_12 (x2 : Int32) (Q : St → Prop) : Nat → St → Int32 → Prop
  | 0 => fun _ _ => False
  | n + 1 => fun σ x3 => wp_X9_count_at8 σ (fun r1 σ2 => (r1 ≤ x3 → Q σ2) ∧ (¬ r1 ≤ x3 → (((nI 80) ≤ x3 → Q σ2) ∧ (¬ (nI 80) ≤ x3 → ((x3 ≤ (nI 0) → wp_X6_addUnit_8 σ2 x3 (fun σ7 => wpl_X6_lay_8_12 x2 Q n σ7 (x3 + nI 1))) ∧ (¬ x3 ≤ (nI 0) → wp_X9_goesOn σ2 (x3 - (nI 1)) (fun r8 σ9 => (¬ r8 = (nI 0) → wp_X6_addUnit_8 σ9 x3 (fun σ12 => wpl_X6_lay_8_12 x2 Q n σ12 (x3 + nI 1))) ∧ (r8 = (nI 0) → wp_X6_addBlanks σ9 x2 (fun σ14 => wp_X6_addUnit_8 σ14 x3 (fun σ16 => wpl_X6_lay_8_12 x2 Q n σ16 (x3 + nI 1)))))))))))
def wp_X6_lay_8 (σ : St) (x2 : Int32) (Q : St → Prop) : Prop := ∃ k17, wpl_X6_lay_8_12 x2 Q k17 (up2 (up2 σ 15 5 (nI 0)) 15 6 (nI 0)) (nI 0)
abbrev r_X6_lay_8 : Room := { frames := 4, cells := 0, slots := 0, locals := 85 }
def wp_X5_begin_8 (σ : St) (x2 : Int32) (Q : St → Prop) : Prop := wp_X6_lay_8 σ x2 (fun σ2 => Q (up2 (up2 (up2 σ2 14 3 (nI 0)) 14 4 (nI 1)) 14 5 (nI 1)))
abbrev r_X5_begin_8 : Room := { frames := 5, cells := 0, slots := 0, locals := 108 }
def wp_X6_units (σ : St) (Q : Int32 → St → Prop) : Prop := Q (σ 15 5) σ
abbrev r_X6_units : Room := { frames := 0, cells := 0, slots := 0, locals := 0 }
def wp_X6_holds (σ : St) (x1 x2 : Int32) (Q : Int32 → St → Prop) : Prop := (x1 < (nI 0) → Q (nI 0) σ) ∧ (¬ x1 < (nI 0) → ((x2 < (nI 1) → Q (nI 0) σ) ∧ (¬ x2 < (nI 1) → ((((σ 15 5) - x1) < x2 → Q (nI 0) σ) ∧ (¬ ((σ 15 5) - x1) < x2 → Q (nI 1) σ)))))
abbrev r_X6_holds : Room := { frames := 0, cells := 0, slots := 0, locals := 0 }
def wp_X6_body (σ : St) (x1 x2 : Int32) (Q : Int32 → St → Prop) : Prop := wp_X6_holds σ x1 x2 (fun r1 σ2 => (r1 = (nI 0) → Q (nI 0) σ2) ∧ (¬ r1 = (nI 0) → (vp_in ((x1 + x2) - (nI 1)) 80 ∧ (vp_in x1 80 ∧ Q ((σ2 19 ((x1 + x2) - (nI 1)).toNatClampNeg) - (σ2 18 x1.toNatClampNeg)) σ2))))
abbrev r_X6_body : Room := { frames := 1, cells := 0, slots := 0, locals := 22 }
def wp_X6_behindLine (σ : St) (x1 x2 : Int32) (Q : Int32 → St → Prop) : Prop := wp_X6_holds σ x1 x2 (fun r1 σ2 => (r1 = (nI 0) → Q (nI 32) σ2) ∧ (¬ r1 = (nI 0) → (vp_in ((x1 + x2) - (nI 1)) 80 ∧ Q (σ2 20 ((x1 + x2) - (nI 1)).toNatClampNeg) σ2)))
abbrev r_X6_behindLine : Room := { frames := 1, cells := 0, slots := 0, locals := 22 }
def wp_X6_signsOf (σ : St) (x1 x2 : Int32) (Q : Int32 → St → Prop) : Prop := wp_X6_body σ x1 x2 (fun r1 σ2 => wp_X6_behindLine σ2 x1 x2 (fun r3 σ4 => (¬ r3 = (nI 45) → Q (r1 + (nI 0)) σ4) ∧ (r3 = (nI 45) → Q (r1 + (nI 1)) σ4)))
abbrev r_X6_signsOf : Room := { frames := 2, cells := 0, slots := 0, locals := 44 }
def wp_X4_fits (σ : St) (x1 x2 : Int32) (Q : Int32 → St → Prop) : Prop := wp_X6_units σ (fun r1 σ2 => (r1 < (x1 + x2) → Q (nI 0) σ2) ∧ (¬ r1 < (x1 + x2) → wp_X6_signsOf σ2 x1 x2 (fun r4 σ5 => wp_X1_longest σ5 (fun r6 σ7 => (r6 < r4 → Q (nI 0) σ7) ∧ (¬ r6 < r4 → Q (nI 1) σ7)))))
abbrev r_X4_fits : Room := { frames := 3, cells := 0, slots := 0, locals := 66 }
def wp_X4_place (σ : St) (x0 x1 : Int32) (Q : Int32 → St → Prop) : Prop := Q (((x0 * (nI 60)) + x1) - (nI 1)) σ
abbrev r_X4_place : Room := { frames := 0, cells := 0, slots := 0, locals := 0 }
def wp_X1_strainOfEnd (σ : St) (x1 : Int32) (Q : Int32 → St → Prop) : Prop := (x1 = nI 44 → Q (σ 12 3) σ) ∧ (¬ x1 = nI 44 → ((x1 = nI 45 → Q (σ 12 5) σ) ∧ (¬ x1 = nI 45 → ((x1 = nI 46 → Q (nI 0) σ) ∧ (¬ x1 = nI 46 → ((x1 = nI 47 → Q (σ 12 3) σ) ∧ (¬ x1 = nI 47 → Q (σ 12 4) σ)))))))
abbrev r_X1_strainOfEnd : Room := { frames := 0, cells := 0, slots := 0, locals := 0 }
def wp_X1_strainOfLine (σ : St) (x1 x2 : Int32) (Q : Int32 → St → Prop) : Prop := wp_X1_strainOfEnd σ x2 (fun r1 σ2 => Q (((((σ 12 0) - x1) * ((σ 12 0) - x1)) * (σ 12 2)) + r1) σ2)
abbrev r_X1_strainOfLine : Room := { frames := 1, cells := 0, slots := 0, locals := 21 }
def wp_X6_beginOf (σ : St) (x1 : Int32) (Q : Int32 → St → Prop) : Prop := wp_X6_holds σ x1 (nI 1) (fun r1 σ2 => (r1 = (nI 0) → Q (nI 0) σ2) ∧ (¬ r1 = (nI 0) → (vp_in x1 80 ∧ Q (σ2 18 x1.toNatClampNeg) σ2)))
abbrev r_X6_beginOf : Room := { frames := 1, cells := 0, slots := 0, locals := 22 }
def wp_X1_strainOfPlace (σ : St) (x1 x2 : Int32) (Q : Int32 → St → Prop) : Prop := wp_X1_pair σ x1 x2 (fun r1 σ2 => vp_in r1 784 ∧ Q (σ2 13 r1.toNatClampNeg) σ2)
abbrev r_X1_strainOfPlace : Room := { frames := 1, cells := 0, slots := 0, locals := 21 }
def wpl_X6_strainOfPlaces_12_6 (x1 x2 x3 x4 : Int32) (Q : Int32 → St → Prop) : Nat → St → Int32 → Int32 → Prop
  | 0 => fun _ _ _ => False
  | n + 1 => fun σ x6 x7 => (x4 ≤ x7 → Q x6 σ) ∧ (¬ x4 ≤ x7 → (((σ 15 6) ≤ (x2 + x7) → Q x6 σ) ∧ (¬ (σ 15 6) ≤ (x2 + x7) → (vp_in (x1 + x7) 1920 ∧ (vp_in (x2 + x7) 1920 ∧ wp_X1_strainOfPlace σ (σ 17 (x1 + x7).toNatClampNeg) (σ 17 (x2 + x7).toNatClampNeg) (fun r3 σ4 => wpl_X6_strainOfPlaces_12_6 x1 x2 x3 x4 Q n σ4 (x6 + r3) (x7 + nI 1)))))))
def wp_X6_strainOfPlaces_12 (σ : St) (x1 x2 x3 x4 : Int32) (Q : Int32 → St → Prop) : Prop := ∃ k5, wpl_X6_strainOfPlaces_12_6 x1 x2 x3 x4 Q k5 σ (nI 0) x3
abbrev r_X6_strainOfPlaces_12 : Room := { frames := 2, cells := 0, slots := 0, locals := 43 }
def wpl_X4_leastBelow_51 (x1 x2 x3 x5 x6 : Int32) (Q : Int32 → St → Prop) : Nat → St → Int32 → Int32 → Int32 → Int32 → Prop
  | 0 => fun _ _ _ _ _ => False
  | n + 1 => fun σ x4 x7 x8 x9 => vp_in x3 80 ∧ (((σ 24 x3.toNatClampNeg) < x9 → Q x4 σ) ∧ (¬ (σ 24 x3.toNatClampNeg) < x9 → wp_X6_body σ x3 x9 (fun r9 σ10 => wp_X6_strainOfPlaces_12 σ10 x5 x6 x7 (if r9 < x2 then r9 else x2) (fun r11 σ12 => wp_X4_place σ12 x3 x9 (fun r13 σ14 => vp_in r13 4800 ∧ (((σ14 23 4) = (nI 0) → wpl_X4_leastBelow_51 x1 x2 x3 x5 x6 Q n (up2 σ14 23 4 x9) ((x8 + r11) + (σ14 25 r13.toNatClampNeg)) (if r9 < x2 then r9 else x2) (x8 + r11) (x9 + nI 1)) ∧ (¬ (σ14 23 4) = (nI 0) → ((x4 < ((x8 + r11) + (σ14 25 r13.toNatClampNeg)) → wpl_X4_leastBelow_51 x1 x2 x3 x5 x6 Q n σ14 x4 (if r9 < x2 then r9 else x2) (x8 + r11) (x9 + nI 1)) ∧ (¬ x4 < ((x8 + r11) + (σ14 25 r13.toNatClampNeg)) → wpl_X4_leastBelow_51 x1 x2 x3 x5 x6 Q n (up2 σ14 23 4 x9) ((x8 + r11) + (σ14 25 r13.toNatClampNeg)) (if r9 < x2 then r9 else x2) (x8 + r11) (x9 + nI 1))))))))))
def wp_X4_leastBelow (σ : St) (x1 x2 x3 : Int32) (Q : Int32 → St → Prop) : Prop := wp_X6_units (up2 σ 23 4 (nI 0)) (fun r1 σ2 => (x3 < r1 → wp_X6_beginOf σ2 x1 (fun r4 σ5 => wp_X6_beginOf σ5 x3 (fun r6 σ7 => ∃ k17, wpl_X4_leastBelow_51 x1 x2 x3 r4 r6 Q k17 σ7 (nI 0) (nI 0) (nI 0) (nI 1)))) ∧ (¬ x3 < r1 → Q (nI 0) σ2))
abbrev r_X4_leastBelow : Room := { frames := 3, cells := 0, slots := 0, locals := 70 }
def wp_X4_weigh (σ : St) (x1 x2 : Int32) (Q : Int32 → St → Prop) : Prop := wp_X6_units σ (fun r1 σ2 => ((x1 + x2) < r1 → wp_X6_signsOf σ2 x1 x2 (fun r4 σ5 => wp_X6_behindLine σ5 x1 x2 (fun r6 σ7 => wp_X1_strainOfLine σ7 r4 r6 (fun r8 σ9 => wp_X6_body σ9 x1 x2 (fun r10 σ11 => wp_X4_leastBelow σ11 x1 r10 (x1 + x2) (fun r12 σ13 => Q (r8 + r12) σ13)))))) ∧ (¬ (x1 + x2) < r1 → Q (nI 0) σ2))
abbrev r_X4_weigh : Room := { frames := 4, cells := 0, slots := 0, locals := 101 }
def wpl_X4_weighLines_16 (x1 : Int32) (K10 : St → Int32 → Prop) (Q : St → Prop) : Nat → St → Int32 → Prop
  | 0 => fun _ _ => False
  | n + 1 => fun σ x2 => ((nI 60) ≤ x2 → (vp_in x1 80 ∧ K10 (up2 σ 24 x1.toNatClampNeg x2) (x1 - nI 1))) ∧ (¬ (nI 60) ≤ x2 → wp_X4_fits σ x1 (x2 + (nI 1)) (fun r5 σ6 => (r5 = (nI 0) → (vp_in x1 80 ∧ K10 (up2 σ6 24 x1.toNatClampNeg x2) (x1 - nI 1))) ∧ (¬ r5 = (nI 0) → wp_X4_place σ6 x1 (x2 + nI 1) (fun r8 σ9 => wp_X4_weigh σ9 x1 (x2 + nI 1) (fun r10 σ11 => vp_in r8 4800 ∧ wpl_X4_weighLines_16 x1 K10 Q n (up2 σ11 25 r8.toNatClampNeg r10) (x2 + nI 1))))))
def wpl_X4_weighLines_10 (Q : St → Prop) : Nat → St → Int32 → Prop
  | 0 => fun _ _ => False
  | n + 1 => fun σ x1 => (x1 < (nI 0) → Q σ) ∧ (¬ x1 < (nI 0) → (∃ k12, wpl_X4_weighLines_16 x1 (wpl_X4_weighLines_10 Q n) Q k12 σ (nI 0)))
def wp_X4_weighLines (σ : St) (Q : St → Prop) : Prop := wp_X6_units σ (fun r1 σ2 => ∃ k13, wpl_X4_weighLines_10 Q k13 σ2 (r1 - (nI 1)))
abbrev r_X4_weighLines : Room := { frames := 5, cells := 0, slots := 0, locals := 124 }
def wp_X5_addLine (σ : St) (x1 x2 : Int32) (Q : St → Prop) : Prop := ((nI 80) ≤ (σ 14 3) → Q σ) ∧ (¬ (nI 80) ≤ (σ 14 3) → (vp_in (σ 14 3) 80 ∧ (vp_in (σ 14 3) 80 ∧ Q (up2 (up2 (up2 σ 21 (σ 14 3).toNatClampNeg x1) 22 (σ 14 3).toNatClampNeg x2) 14 3 ((σ 14 3) + (nI 1))))))
abbrev r_X5_addLine : Room := { frames := 0, cells := 0, slots := 0, locals := 0 }
def wpl_X4_putLines_14_13 (x2 : Int32) (Q : Int32 → St → Prop) : Nat → St → Int32 → Int32 → Prop
  | 0 => fun _ _ _ => False
  | n + 1 => fun σ x3 x4 => ((nI 80) ≤ x4 → Q x2 σ) ∧ (¬ (nI 80) ≤ x4 → wp_X6_units σ (fun r4 σ5 => (r4 ≤ x3 → Q x2 σ5) ∧ (¬ r4 ≤ x3 → wp_X5_addLine σ5 x3 (σ5 23 4) (fun σ8 => wp_X6_body σ8 x3 (σ5 23 4) (fun r9 σ10 => wp_X4_leastBelow σ10 x3 r9 (x3 + (σ5 23 4)) (fun r11 σ12 => wpl_X4_putLines_14_13 x2 Q n σ12 (x3 + (σ5 23 4)) (x4 + nI 1)))))))
def wp_X4_putLines_14 (σ : St) (Q : Int32 → St → Prop) : Prop := wp_X4_leastBelow σ (nI 0) (nI 0) (nI 0) (fun r1 σ2 => ∃ k13, wpl_X4_putLines_14_13 r1 Q k13 σ2 (nI 0) (nI 0))
abbrev r_X4_putLines_14 : Room := { frames := 4, cells := 0, slots := 0, locals := 101 }
def wp_X10_set (σ : St) (Q : Int32 → St → Prop) : Prop := wp_X1_longest σ (fun r1 σ2 => wp_X9_fitAlone σ2 r1 (fun r3 σ4 => (¬ r3 = (nI 0) → wp_X1_spread σ4 (fun r6 σ7 => wp_X5_begin_8 σ7 r6 (fun σ9 => wp_X4_weighLines σ9 (fun σ11 => wp_X4_putLines_14 σ11 (fun r12 σ13 => Q r12 σ13))))) ∧ (r3 = (nI 0) → Q (-1) σ4)))
abbrev r_X10_set : Room := { frames := 6, cells := 0, slots := 0, locals := 146 }
def wp_X5_isThere (σ : St) (Q : Int32 → St → Prop) : Prop := ((σ 14 4) = nI 0 ∨ (σ 14 4) = nI 1) ∧ Q (σ 14 4) σ
abbrev r_X5_isThere : Room := { frames := 0, cells := 0, slots := 0, locals := 0 }
def wp_X5_count (σ : St) (Q : Int32 → St → Prop) : Prop := Q (σ 14 3) σ
abbrev r_X5_count : Room := { frames := 0, cells := 0, slots := 0, locals := 0 }
def wp_X10_lines (σ : St) (Q : Int32 → St → Prop) : Prop := wp_X5_isThere σ (fun r1 σ2 => (r1 = (nI 0) → Q (-1) σ2) ∧ (¬ r1 = (nI 0) → wp_X5_count σ2 (fun r4 σ5 => Q r4 σ5)))
abbrev r_X10_lines : Room := { frames := 1, cells := 0, slots := 0, locals := 20 }
def wp_X5_has (σ : St) (x1 : Int32) (Q : Int32 → St → Prop) : Prop := ((σ 14 4) = (nI 0) → Q (nI 0) σ) ∧ (¬ (σ 14 4) = (nI 0) → ((x1 < (nI 0) → Q (nI 0) σ) ∧ (¬ x1 < (nI 0) → (((σ 14 3) ≤ x1 → Q (nI 0) σ) ∧ (¬ (σ 14 3) ≤ x1 → Q (nI 1) σ)))))
abbrev r_X5_has : Room := { frames := 0, cells := 0, slots := 0, locals := 0 }
def wp_X5_first (σ : St) (x1 : Int32) (Q : Int32 → St → Prop) : Prop := wp_X5_has σ x1 (fun r1 σ2 => (r1 = (nI 0) → Q (-1) σ2) ∧ (¬ r1 = (nI 0) → (vp_in x1 80 ∧ Q (σ2 21 x1.toNatClampNeg) σ2)))
abbrev r_X5_first : Room := { frames := 1, cells := 0, slots := 0, locals := 21 }
def wp_X5_unitsIn (σ : St) (x1 : Int32) (Q : Int32 → St → Prop) : Prop := wp_X5_has σ x1 (fun r1 σ2 => (r1 = (nI 0) → Q (-1) σ2) ∧ (¬ r1 = (nI 0) → (vp_in x1 80 ∧ Q (σ2 22 x1.toNatClampNeg) σ2)))
abbrev r_X5_unitsIn : Room := { frames := 1, cells := 0, slots := 0, locals := 21 }
def wp_X5_signsIn (σ : St) (x1 : Int32) (Q : Int32 → St → Prop) : Prop := wp_X5_has σ x1 (fun r1 σ2 => (r1 = (nI 0) → Q (-1) σ2) ∧ (¬ r1 = (nI 0) → (vp_in x1 80 ∧ (vp_in x1 80 ∧ wp_X6_signsOf σ2 (σ2 21 x1.toNatClampNeg) (σ2 22 x1.toNatClampNeg) (fun r4 σ5 => Q r4 σ5)))))
abbrev r_X5_signsIn : Room := { frames := 3, cells := 0, slots := 0, locals := 66 }
def wp_X2_tintOf (σ : St) (x1 : Int32) (Q : Int32 → St → Prop) : Prop := (¬ (σ 26 0) = nI 0) ∧ ((¬ (σ 26 0) = nI 0) ∧ ((¬ (σ 26 1) = nI 0) ∧ Q (((x1 - x1 / (σ 26 0) * (σ 26 0)) + (x1 / (σ 26 0))) - ((x1 - x1 / (σ 26 0) * (σ 26 0)) + (x1 / (σ 26 0))) / (σ 26 1) * (σ 26 1)) σ))
abbrev r_X2_tintOf : Room := { frames := 0, cells := 0, slots := 0, locals := 0 }
def wp_X2_pageOf (σ : St) (x1 : Int32) (Q : Int32 → St → Prop) : Prop := (¬ (σ 26 0) = nI 0) ∧ Q (x1 / (σ 26 0)) σ
abbrev r_X2_pageOf : Room := { frames := 0, cells := 0, slots := 0, locals := 0 }
def wp_X10_line (σ : St) (x1 x2 : Int32) (Q : Int32 → St → Prop) : Prop := wp_X5_has σ x1 (fun r1 σ2 => (¬ r1 = (nI 0) → ((x2 = nI 0 → wp_X5_first σ2 x1 (fun r5 σ6 => Q r5 σ6)) ∧ (¬ x2 = nI 0 → ((x2 = nI 1 → wp_X5_unitsIn σ2 x1 (fun r8 σ9 => Q r8 σ9)) ∧ (¬ x2 = nI 1 → ((x2 = nI 2 → wp_X5_signsIn σ2 x1 (fun r11 σ12 => Q r11 σ12)) ∧ (¬ x2 = nI 2 → ((x2 = nI 3 → wp_X2_tintOf σ2 x1 (fun r14 σ15 => Q r14 σ15)) ∧ (¬ x2 = nI 3 → ((x2 = nI 4 → wp_X2_pageOf σ2 x1 (fun r17 σ18 => Q r17 σ18)) ∧ (¬ x2 = nI 4 → Q (-1) σ2))))))))))) ∧ (r1 = (nI 0) → Q (-1) σ2))
abbrev r_X10_line : Room := { frames := 4, cells := 0, slots := 0, locals := 87 }
def wp_X6_signAt (σ : St) (x1 x2 x3 : Int32) (Q : Int32 → St → Prop) : Prop := (x3 < (nI 0) → Q (-1) σ) ∧ (¬ x3 < (nI 0) → wp_X6_signsOf σ x1 x2 (fun r2 σ3 => (x3 < r2 → wp_X6_body σ3 x1 x2 (fun r5 σ6 => (r5 ≤ x3 → Q (nI 45) σ6) ∧ (¬ r5 ≤ x3 → (vp_in x1 80 ∧ (vp_in ((σ6 18 x1.toNatClampNeg) + x3) 1920 ∧ Q (σ6 16 ((σ6 18 x1.toNatClampNeg) + x3).toNatClampNeg) σ6))))) ∧ (¬ x3 < r2 → Q (-1) σ3)))
abbrev r_X6_signAt : Room := { frames := 3, cells := 0, slots := 0, locals := 66 }
def wp_X5_signAt (σ : St) (x1 x2 : Int32) (Q : Int32 → St → Prop) : Prop := wp_X5_has σ x1 (fun r1 σ2 => (r1 = (nI 0) → Q (-1) σ2) ∧ (¬ r1 = (nI 0) → (vp_in x1 80 ∧ (vp_in x1 80 ∧ wp_X6_signAt σ2 (σ2 21 x1.toNatClampNeg) (σ2 22 x1.toNatClampNeg) x2 (fun r4 σ5 => Q r4 σ5)))))
abbrev r_X5_signAt : Room := { frames := 4, cells := 0, slots := 0, locals := 89 }
def wp_X10_sign (σ : St) (x1 x2 : Int32) (Q : Int32 → St → Prop) : Prop := wp_X5_signAt σ x1 x2 (fun r1 σ2 => Q r1 σ2)
abbrev r_X10_sign : Room := { frames := 5, cells := 0, slots := 0, locals := 111 }
def wpl_X5_riversAt_8 (x1 x2 : Int32) (Q : Int32 → St → Prop) : Nat → St → Int32 → Int32 → Int32 → Prop
  | 0 => fun _ _ _ _ => False
  | n + 1 => fun σ x3 x4 x5 => ((σ 14 3) ≤ x5 → Q x3 σ) ∧ (¬ (σ 14 3) ≤ x5 → wp_X5_signAt σ x5 x1 (fun r2 σ3 => (¬ r2 = (nI 32) → ((¬ ((nI 0) - (nI 1)) = x2 → wpl_X5_riversAt_8 x1 x2 Q n σ3 x3 (nI 0) (x5 + nI 1)) ∧ (((nI 0) - (nI 1)) = x2 → wpl_X5_riversAt_8 x1 x2 Q n σ3 (x3 + nI 1) (nI 0) (x5 + nI 1)))) ∧ (r2 = (nI 32) → ((¬ ((x4 + (nI 1)) - (nI 1)) = x2 → wpl_X5_riversAt_8 x1 x2 Q n σ3 x3 (x4 + (nI 1)) (x5 + nI 1)) ∧ (((x4 + (nI 1)) - (nI 1)) = x2 → wpl_X5_riversAt_8 x1 x2 Q n σ3 (x3 + nI 1) (x4 + (nI 1)) (x5 + nI 1))))))
def wp_X5_riversAt (σ : St) (x1 x2 : Int32) (Q : Int32 → St → Prop) : Prop := ∃ k7, wpl_X5_riversAt_8 x1 x2 Q k7 σ (nI 0) (nI 0) (nI 0)
abbrev r_X5_riversAt : Room := { frames := 5, cells := 0, slots := 0, locals := 111 }
def wpl_X10_rivers_21 (x1 : Int32) (Q : Int32 → St → Prop) : Nat → St → Int32 → Int32 → Prop
  | 0 => fun _ _ _ => False
  | n + 1 => fun σ x2 x3 => ((nI 60) ≤ x3 → Q x2 σ) ∧ (¬ (nI 60) ≤ x3 → wp_X5_riversAt σ x3 x1 (fun r6 σ7 => wpl_X10_rivers_21 x1 Q n σ7 (x2 + r6) (x3 + nI 1)))
def wp_X10_rivers (σ : St) (x1 : Int32) (Q : Int32 → St → Prop) : Prop := wp_X5_isThere σ (fun r1 σ2 => (r1 = (nI 0) → Q (-1) σ2) ∧ (¬ r1 = (nI 0) → (((nI 1) ≤ x1 → (∃ k8, wpl_X10_rivers_21 x1 Q k8 σ2 (nI 0) (nI 0))) ∧ (¬ (nI 1) ≤ x1 → Q (-1) σ2))))
abbrev r_X10_rivers : Room := { frames := 6, cells := 0, slots := 0, locals := 136 }
def wp_X2_change (σ : St) (x1 x2 : Int32) (Q : Int32 → St → Prop) : Prop := wp_X10_within σ x1 (nI 2) (nI 40) (fun r1 σ2 => (r1 = (nI 0) → Q (nI 0) σ2) ∧ (¬ r1 = (nI 0) → wp_X10_within σ2 x2 (nI 2) (nI 7) (fun r4 σ5 => (¬ r4 = (nI 0) → Q (nI 1) (up2 (up2 σ5 26 0 x1) 26 1 x2)) ∧ (r4 = (nI 0) → Q (nI 0) σ5))))
abbrev r_X2_change : Room := { frames := 1, cells := 0, slots := 0, locals := 22 }
def wp_X10_page (σ : St) (x1 x2 : Int32) (Q : Int32 → St → Prop) : Prop := wp_X2_change σ x1 x2 (fun r1 σ2 => (r1 = nI 0 ∨ r1 = nI 1) ∧ Q r1 σ2)
abbrev r_X10_page : Room := { frames := 2, cells := 0, slots := 0, locals := 44 }
def wp_X5_isOfText (σ : St) (Q : Int32 → St → Prop) : Prop := ((σ 14 4) = (nI 0) → Q (nI 0) σ) ∧ (¬ (σ 14 4) = (nI 0) → (((σ 14 5) = (nI 0) → Q (nI 0) σ) ∧ (¬ (σ 14 5) = (nI 0) → Q (nI 1) σ)))
abbrev r_X5_isOfText : Room := { frames := 0, cells := 0, slots := 0, locals := 0 }
def wpl_X5_lineOf_2 (x1 : Int32) (Q : Int32 → St → Prop) : Nat → St → Int32 → Prop
  | 0 => fun _ _ => False
  | n + 1 => fun σ x2 => ((σ 14 3) ≤ x2 → Q (-1) σ) ∧ (¬ (σ 14 3) ≤ x2 → (vp_in x2 80 ∧ ((x1 < (σ 21 x2.toNatClampNeg) → wpl_X5_lineOf_2 x1 Q n σ (x2 + nI 1)) ∧ (¬ x1 < (σ 21 x2.toNatClampNeg) → (vp_in x2 80 ∧ (vp_in x2 80 ∧ ((((σ 21 x2.toNatClampNeg) + (σ 22 x2.toNatClampNeg)) ≤ x1 → wpl_X5_lineOf_2 x1 Q n σ (x2 + nI 1)) ∧ (¬ ((σ 21 x2.toNatClampNeg) + (σ 22 x2.toNatClampNeg)) ≤ x1 → Q x2 σ))))))))
def wp_X5_lineOf (σ : St) (x1 : Int32) (Q : Int32 → St → Prop) : Prop := ∃ k4, wpl_X5_lineOf_2 x1 Q k4 σ (nI 0)
abbrev r_X5_lineOf : Room := { frames := 0, cells := 0, slots := 0, locals := 0 }
def wp_X0_add (σ : St) (x1 x2 : Int32) (Q : Int32 → St → Prop) : Prop := ((σ 27 2) < (nI 20) → (vp_in (σ 27 2) 20 ∧ (vp_in (σ 27 2) 20 ∧ Q (((σ 27 2) + (nI 1)) - (nI 1)) (up2 (up2 (up2 σ 28 (σ 27 2).toNatClampNeg x1) 29 (σ 27 2).toNatClampNeg x2) 27 2 ((σ 27 2) + (nI 1)))))) ∧ (¬ (σ 27 2) < (nI 20) → Q (-1) σ)
abbrev r_X0_add : Room := { frames := 0, cells := 0, slots := 0, locals := 0 }
def wp_X10_mark (σ : St) (x1 : Int32) (Q : Int32 → St → Prop) : Prop := wp_X5_isOfText σ (fun r1 σ2 => (r1 = (nI 0) → Q (-1) σ2) ∧ (¬ r1 = (nI 0) → wp_X9_has σ2 x1 (fun r4 σ5 => (¬ r4 = (nI 0) → wp_X5_lineOf σ5 x1 (fun r7 σ8 => wp_X2_pageOf σ8 r7 (fun r9 σ10 => wp_X0_add σ10 x1 r9 (fun r11 σ12 => Q r11 σ12)))) ∧ (r4 = (nI 0) → Q (-1) σ5))))
abbrev r_X10_mark : Room := { frames := 1, cells := 0, slots := 0, locals := 22 }
def wp_X0_has (σ : St) (x1 : Int32) (Q : Int32 → St → Prop) : Prop := (x1 < (nI 0) → Q (nI 0) σ) ∧ (¬ x1 < (nI 0) → (((σ 27 2) ≤ x1 → Q (nI 0) σ) ∧ (¬ (σ 27 2) ≤ x1 → Q (nI 1) σ)))
abbrev r_X0_has : Room := { frames := 0, cells := 0, slots := 0, locals := 0 }
def wp_X0_unitOf (σ : St) (x1 : Int32) (Q : Int32 → St → Prop) : Prop := wp_X0_has σ x1 (fun r1 σ2 => (r1 = (nI 0) → Q (-1) σ2) ∧ (¬ r1 = (nI 0) → (vp_in x1 20 ∧ Q (σ2 28 x1.toNatClampNeg) σ2)))
abbrev r_X0_unitOf : Room := { frames := 1, cells := 0, slots := 0, locals := 21 }
def wp_X0_pageOf (σ : St) (x1 : Int32) (Q : Int32 → St → Prop) : Prop := wp_X0_has σ x1 (fun r1 σ2 => (r1 = (nI 0) → Q (-1) σ2) ∧ (¬ r1 = (nI 0) → (vp_in x1 20 ∧ Q (σ2 29 x1.toNatClampNeg) σ2)))
abbrev r_X0_pageOf : Room := { frames := 1, cells := 0, slots := 0, locals := 21 }
def wp_X10_shiftOf (σ : St) (x1 : Int32) (Q : Int32 → St → Prop) : Prop := wp_X5_isOfText σ (fun r1 σ2 => (¬ r1 = (nI 0) → wp_X0_unitOf σ2 x1 (fun r4 σ5 => wp_X5_lineOf σ5 r4 (fun r6 σ7 => wp_X2_pageOf σ7 r6 (fun r8 σ9 => wp_X0_pageOf σ9 x1 (fun r10 σ11 => Q (r8 - r10) σ11))))) ∧ (r1 = (nI 0) → Q (-1000) σ2))
abbrev r_X10_shiftOf : Room := { frames := 2, cells := 0, slots := 0, locals := 42 }
def wp_X10_marked (σ : St) (x1 x2 : Int32) (Q : Int32 → St → Prop) : Prop := wp_X0_has σ x1 (fun r1 σ2 => (¬ r1 = (nI 0) → ((x2 = nI 0 → wp_X0_unitOf σ2 x1 (fun r5 σ6 => Q r5 σ6)) ∧ (¬ x2 = nI 0 → ((x2 = nI 1 → wp_X0_pageOf σ2 x1 (fun r8 σ9 => Q r8 σ9)) ∧ (¬ x2 = nI 1 → ((x2 = nI 2 → wp_X10_shiftOf σ2 x1 (fun r11 σ12 => Q r11 σ12)) ∧ (¬ x2 = nI 2 → Q (-1) σ2))))))) ∧ (r1 = (nI 0) → Q (-1) σ2))
abbrev r_X10_marked : Room := { frames := 3, cells := 0, slots := 0, locals := 63 }
def wp_X8_isOnGrid (σ : St) (x0 x1 : Int32) (Q : Int32 → St → Prop) : Prop := wp_X10_within σ x0 (nI 0) (nI 10) (fun r1 σ2 => (r1 = (nI 0) → Q (nI 0) σ2) ∧ (¬ r1 = (nI 0) → wp_X10_within σ2 x1 (nI 0) (nI 2) (fun r4 σ5 => (r4 = (nI 0) → Q (nI 0) σ5) ∧ (¬ r4 = (nI 0) → Q (nI 1) σ5))))
abbrev r_X8_isOnGrid : Room := { frames := 1, cells := 0, slots := 0, locals := 22 }
def wpl_X8_makeBest_12 (x1 x2 : Int32) (Q : St → Prop) : Nat → St → Int32 → Prop
  | 0 => fun _ _ => False
  | n + 1 => fun σ x3 => ((nI 4) ≤ x3 → Q σ) ∧ (¬ (nI 4) ≤ x3 → (vp_in x3 4 ∧ wpl_X8_makeBest_12 x1 x2 Q n (up2 σ 31 x3.toNatClampNeg (nI 0)) (x3 + nI 1)))
def wp_X8_makeBest (σ : St) (x1 x2 : Int32) (Q : St → Prop) : Prop := ∃ k2, wpl_X8_makeBest_12 x1 x2 Q k2 (up2 (up2 σ 30 2 x1) 30 3 x2) (nI 0)
abbrev r_X8_makeBest : Room := { frames := 0, cells := 0, slots := 0, locals := 0 }
def wp_X8_longOn (σ : St) (x1 : Int32) (Q : Int32 → St → Prop) : Prop := vp_in x1 4 ∧ Q ((σ 30 2) + (fLs x1.toNatClampNeg)) σ
abbrev r_X8_longOn : Room := { frames := 0, cells := 0, slots := 0, locals := 0 }
def wp_X8_spreadOn (σ : St) (x1 : Int32) (Q : Int32 → St → Prop) : Prop := vp_in x1 4 ∧ Q ((σ 30 3) + (fSs x1.toNatClampNeg)) σ
abbrev r_X8_spreadOn : Room := { frames := 0, cells := 0, slots := 0, locals := 0 }
def wpl_X8_nextWay_2 (Q : Int32 → St → Prop) : Nat → St → Int32 → Prop
  | 0 => fun _ _ => False
  | n + 1 => fun σ x1 => ((nI 4) ≤ x1 → Q (-1) σ) ∧ (¬ (nI 4) ≤ x1 → (vp_in x1 4 ∧ ((¬ (σ 31 x1.toNatClampNeg) = (nI 0) → wpl_X8_nextWay_2 Q n σ (x1 + nI 1)) ∧ ((σ 31 x1.toNatClampNeg) = (nI 0) → wp_X8_longOn σ x1 (fun r3 σ4 => wp_X8_spreadOn σ4 x1 (fun r5 σ6 => wp_X8_isOnGrid σ6 r3 r5 (fun r7 σ8 => (r7 = (nI 0) → wpl_X8_nextWay_2 Q n σ8 (x1 + nI 1)) ∧ (¬ r7 = (nI 0) → Q x1 σ8))))))))
def wp_X8_nextWay (σ : St) (Q : Int32 → St → Prop) : Prop := ∃ k10, wpl_X8_nextWay_2 Q k10 σ (nI 0)
abbrev r_X8_nextWay : Room := { frames := 2, cells := 0, slots := 0, locals := 43 }
def wp_X8_begin (σ : St) (x1 x2 x3 : Int32) (Q : Int32 → St → Prop) : Prop := wp_X8_isOnGrid σ x1 x2 (fun r1 σ2 => (r1 = (nI 0) → Q (nI 0) σ2) ∧ (¬ r1 = (nI 0) → wp_X10_within σ2 x3 (nI 1) (nI 9) (fun r4 σ5 => (¬ r4 = (nI 0) → wp_X8_makeBest (up2 (up2 (up2 (up2 (up2 σ5 30 1 (nI 1)) 30 4 x3) 30 7 (nI 0)) 30 8 (nI 0)) 30 6 (nI 0)) x1 x2 (fun σ8 => wp_X8_nextWay σ8 (fun r9 σ10 => Q (nI 1) (up2 σ10 30 5 r9)))) ∧ (r4 = (nI 0) → Q (nI 0) σ5))))
abbrev r_X8_begin : Room := { frames := 3, cells := 0, slots := 0, locals := 64 }
def wp_X10_test (σ : St) (x1 x2 x3 : Int32) (Q : Int32 → St → Prop) : Prop := wp_X8_begin σ x1 x2 x3 (fun r1 σ2 => (r1 = nI 0 ∨ r1 = nI 1) ∧ Q r1 σ2)
abbrev r_X10_test : Room := { frames := 4, cells := 0, slots := 0, locals := 87 }
def wp_X8_tell (σ : St) (x1 : Int32) (Q : Int32 → St → Prop) : Prop := (¬ (σ 30 1) = (nI 0) → ((x1 = nI 0 → Q (σ 30 2) σ) ∧ (¬ x1 = nI 0 → ((x1 = nI 1 → Q (σ 30 3) σ) ∧ (¬ x1 = nI 1 → ((x1 = nI 2 → ((¬ (σ 30 5) = (-1) → wp_X8_longOn σ (σ 30 5) (fun r6 σ7 => Q r6 σ7)) ∧ ((σ 30 5) = (-1) → Q (-1) σ))) ∧ (¬ x1 = nI 2 → ((x1 = nI 3 → ((¬ (σ 30 5) = (-1) → wp_X8_spreadOn σ (σ 30 5) (fun r10 σ11 => Q r10 σ11)) ∧ ((σ 30 5) = (-1) → Q (-1) σ))) ∧ (¬ x1 = nI 3 → ((x1 = nI 4 → Q (σ 30 7) σ) ∧ (¬ x1 = nI 4 → ((x1 = nI 5 → Q (σ 30 8) σ) ∧ (¬ x1 = nI 5 → Q (-1) σ))))))))))))) ∧ ((σ 30 1) = (nI 0) → Q (-1) σ)
abbrev r_X8_tell : Room := { frames := 1, cells := 0, slots := 0, locals := 21 }
def wp_X10_tested (σ : St) (x1 : Int32) (Q : Int32 → St → Prop) : Prop := wp_X8_tell σ x1 (fun r1 σ2 => Q r1 σ2)
abbrev r_X10_tested : Room := { frames := 2, cells := 0, slots := 0, locals := 42 }
def wp_X8_settle (σ : St) (Q : Int32 → St → Prop) : Prop := ((σ 30 4) ≤ (if nI 0 ≤ (σ 30 6) then (σ 30 6) else nI 0 - (σ 30 6)) → (((σ 30 6) ≤ (nI 0) → wp_X8_longOn (up2 (up2 σ 30 6 (nI 0)) 30 8 ((σ 30 8) + (nI 1))) (σ 30 5) (fun r4 σ5 => wp_X8_spreadOn σ5 (σ5 30 5) (fun r6 σ7 => wp_X8_makeBest σ7 r4 r6 (fun σ9 => wp_X8_nextWay σ9 (fun r10 σ11 => Q (nI 2) (up2 σ11 30 5 r10)))))) ∧ (¬ (σ 30 6) ≤ (nI 0) → (vp_in (σ 30 5) 4 ∧ wp_X8_nextWay (up2 (up2 (up2 σ 30 6 (nI 0)) 30 8 ((σ 30 8) + (nI 1))) 31 (σ 30 5).toNatClampNeg (nI 1)) (fun r14 σ15 => Q (nI 1) (up2 σ15 30 5 r14)))))) ∧ (¬ (σ 30 4) ≤ (if nI 0 ≤ (σ 30 6) then (σ 30 6) else nI 0 - (σ 30 6)) → Q (nI 0) σ)
abbrev r_X8_settle : Room := { frames := 3, cells := 0, slots := 0, locals := 64 }
def wp_X8_hear (σ : St) (x1 : Int32) (Q : Int32 → St → Prop) : Prop := (¬ (σ 30 5) = (-1) → ((x1 = (nI 0) → wp_X8_settle (up2 (up2 σ 30 7 ((σ 30 7) + (nI 1))) 30 6 ((σ 30 6) + (-1))) (fun r3 σ4 => ((σ4 30 7) < (nI 200) → ((¬ (σ4 30 5) = (-1) → Q r3 σ4) ∧ ((σ4 30 5) = (-1) → Q (nI 3) σ4))) ∧ (¬ (σ4 30 7) < (nI 200) → Q (nI 3) (up2 σ4 30 5 (-1))))) ∧ (¬ x1 = (nI 0) → wp_X8_settle (up2 (up2 σ 30 7 ((σ 30 7) + (nI 1))) 30 6 ((σ 30 6) + (nI 1))) (fun r8 σ9 => ((σ9 30 7) < (nI 200) → ((¬ (σ9 30 5) = (-1) → Q r8 σ9) ∧ ((σ9 30 5) = (-1) → Q (nI 3) σ9))) ∧ (¬ (σ9 30 7) < (nI 200) → Q (nI 3) (up2 σ9 30 5 (-1))))))) ∧ ((σ 30 5) = (-1) → Q (-1) σ)
abbrev r_X8_hear : Room := { frames := 4, cells := 0, slots := 0, locals := 85 }
def wp_X10_answer (σ : St) (x1 : Int32) (Q : Int32 → St → Prop) : Prop := wp_X8_hear σ x1 (fun r1 σ2 => Q r1 σ2)
abbrev r_X10_answer : Room := { frames := 5, cells := 0, slots := 0, locals := 107 }
def wp_X8_haveBegun (σ : St) (Q : Int32 → St → Prop) : Prop := ((σ 30 1) = nI 0 ∨ (σ 30 1) = nI 1) ∧ Q (σ 30 1) σ
abbrev r_X8_haveBegun : Room := { frames := 0, cells := 0, slots := 0, locals := 0 }
def wp_X8_bestLongest (σ : St) (Q : Int32 → St → Prop) : Prop := Q ((nI 20) + ((nI 4) * (σ 30 2))) σ
abbrev r_X8_bestLongest : Room := { frames := 0, cells := 0, slots := 0, locals := 0 }
def wp_X8_bestSpread (σ : St) (Q : Int32 → St → Prop) : Prop := Q ((nI 1) + (σ 30 3)) σ
abbrev r_X8_bestSpread : Room := { frames := 0, cells := 0, slots := 0, locals := 0 }
def wp_X10_use (σ : St) (Q : Int32 → St → Prop) : Prop := wp_X8_haveBegun σ (fun r1 σ2 => (r1 = (nI 0) → Q (nI 0) σ2) ∧ (¬ r1 = (nI 0) → wp_X8_bestLongest σ2 (fun r4 σ5 => wp_X8_bestSpread σ5 (fun r6 σ7 => wp_X1_changeLine σ7 r4 r6 (fun r8 σ9 => (r8 = (nI 0) → Q (nI 0) σ9) ∧ (¬ r8 = (nI 0) → Q (nI 1) σ9))))))
abbrev r_X10_use : Room := { frames := 2, cells := 0, slots := 0, locals := 44 }
def wpj_X11_feed_71 (x1 x2 x3 x4 x5 x6 : Int32) (s0 : Int32) (K18 : St → Int32 → Prop) (Q : Int32 → St → Prop) (σ : St) : Prop := vp_in (σ 0 6) 600 ∧ K18 (up2 (up2 σ 5 (σ 0 6).toNatClampNeg ((s0 >>> (((nI 8) * ((nI 3) - (x6 - x6 / (nI 4) * (nI 4)))) &&& 31)) &&& (nI 255))) 0 6 ((σ 0 6) + (nI 1))) (x6 + nI 1)
def wpl_X11_feed_18 (x1 x2 x3 x4 x5 : Int32) (Q : Int32 → St → Prop) : Nat → St → Int32 → Prop
  | 0 => fun _ _ => False
  | n + 1 => fun σ x6 => ((nI 20) ≤ x6 → Q (σ 0 6) σ) ∧ (¬ (nI 20) ≤ x6 → (((nI 4) ≤ x6 → (((nI 8) ≤ x6 → (((nI 12) ≤ x6 → (((nI 16) ≤ x6 → wpj_X11_feed_71 x1 x2 x3 x4 x5 x6 x5 (wpl_X11_feed_18 x1 x2 x3 x4 x5 Q n) Q σ) ∧ (¬ (nI 16) ≤ x6 → wpj_X11_feed_71 x1 x2 x3 x4 x5 x6 x4 (wpl_X11_feed_18 x1 x2 x3 x4 x5 Q n) Q σ))) ∧ (¬ (nI 12) ≤ x6 → wpj_X11_feed_71 x1 x2 x3 x4 x5 x6 x3 (wpl_X11_feed_18 x1 x2 x3 x4 x5 Q n) Q σ))) ∧ (¬ (nI 8) ≤ x6 → wpj_X11_feed_71 x1 x2 x3 x4 x5 x6 x2 (wpl_X11_feed_18 x1 x2 x3 x4 x5 Q n) Q σ))) ∧ (¬ (nI 4) ≤ x6 → wpj_X11_feed_71 x1 x2 x3 x4 x5 x6 x1 (wpl_X11_feed_18 x1 x2 x3 x4 x5 Q n) Q σ)))
def wp_X11_feed (σ : St) (x1 x2 x3 x4 x5 : Int32) (Q : Int32 → St → Prop) : Prop := (((σ 0 6) + (nI 20)) ≤ (nI 600) → (∃ k7, wpl_X11_feed_18 x1 x2 x3 x4 x5 Q k7 σ (nI 0))) ∧ (¬ ((σ 0 6) + (nI 20)) ≤ (nI 600) → Q (-1) σ)
abbrev r_X11_feed : Room := { frames := 0, cells := 0, slots := 0, locals := 0 }
def wp_X11_end (σ : St) (x1 : Int32) (Q : Int32 → St → Prop) : Prop := (x1 < (nI 0) → Q (nI 0) σ) ∧ (¬ x1 < (nI 0) → ((x1 ≤ (σ 0 6) → Q (nI 1) (up2 σ 0 6 x1)) ∧ (¬ x1 ≤ (σ 0 6) → Q (nI 0) σ)))
abbrev r_X11_end : Room := { frames := 0, cells := 0, slots := 0, locals := 0 }
def wp_X11_isLetter (σ : St) (x0 : Int32) (Q : Int32 → St → Prop) : Prop := (x0 < (nI 97) → Q (nI 0) σ) ∧ (¬ x0 < (nI 97) → (((nI 122) < x0 → Q (nI 0) σ) ∧ (¬ (nI 122) < x0 → Q (nI 1) σ)))
abbrev r_X11_isLetter : Room := { frames := 0, cells := 0, slots := 0, locals := 0 }
def wp_X11_fails (σ : St) (x1 x2 : Int32) (Q : Int32 → St → Prop) : Prop := Q (nI 0) (up2 (up2 σ 0 7 x1) 0 8 x2)
abbrev r_X11_fails : Room := { frames := 0, cells := 0, slots := 0, locals := 0 }
def wp_X11_isEnd (σ : St) (x0 : Int32) (Q : Int32 → St → Prop) : Prop := (x0 = (nI 44) → Q (nI 1) σ) ∧ (¬ x0 = (nI 44) → ((x0 = (nI 46) → Q (nI 1) σ) ∧ (¬ x0 = (nI 46) → ((¬ x0 = (nI 47) → Q (nI 0) σ) ∧ (x0 = (nI 47) → Q (nI 1) σ)))))
abbrev r_X11_isEnd : Room := { frames := 0, cells := 0, slots := 0, locals := 0 }
def wp_X11_isBlank (σ : St) (x0 : Int32) (Q : Int32 → St → Prop) : Prop := (x0 = (nI 10) → Q (nI 1) σ) ∧ (¬ x0 = (nI 10) → ((¬ x0 = (nI 32) → Q (nI 0) σ) ∧ (x0 = (nI 32) → Q (nI 1) σ)))
abbrev r_X11_isBlank : Room := { frames := 0, cells := 0, slots := 0, locals := 0 }
def wpj_X11_isText_104 (x1 x2 x3 x4 : Int32) (K19 : St → Int32 → Int32 → Prop) (Q : Int32 → St → Prop) (σ : St) : Prop := vp_in ((σ 0 9) - (nI 1)) 80 ∧ ((¬ (σ 6 ((σ 0 9) - (nI 1)).toNatClampNeg) = (nI 20) → (vp_in ((σ 0 9) - (nI 1)) 80 ∧ (vp_in (((nI 20) * ((σ 0 9) - (nI 1))) + (σ 6 ((σ 0 9) - (nI 1)).toNatClampNeg)) 1600 ∧ (vp_in ((σ 0 9) - (nI 1)) 80 ∧ (vp_in ((σ 0 9) - (nI 1)) 80 ∧ K19 (up2 (up2 σ 7 (((nI 20) * ((σ 0 9) - (nI 1))) + (σ 6 ((σ 0 9) - (nI 1)).toNatClampNeg)).toNatClampNeg x4) 6 ((σ 0 9) - (nI 1)).toNatClampNeg ((σ 6 ((σ 0 9) - (nI 1)).toNatClampNeg) + (nI 1))) (nI 1) (x3 + nI 1)))))) ∧ ((σ 6 ((σ 0 9) - (nI 1)).toNatClampNeg) = (nI 20) → wp_X11_fails σ (nI 2) x3 (fun r33 σ34 => (r33 = nI 0 ∨ r33 = nI 1) ∧ Q r33 σ34)))
def wpl_X11_isText_19 (x1 : Int32) (Q : Int32 → St → Prop) : Nat → St → Int32 → Int32 → Prop
  | 0 => fun _ _ _ => False
  | n + 1 => fun σ x2 x3 => (x1 ≤ x3 → ((¬ x2 = (nI 2) → wp_X11_fails σ (nI 0) (-1) (fun r3 σ4 => Q (nI 1) σ4)) ∧ (x2 = (nI 2) → wp_X11_fails σ (nI 1) x1 (fun r5 σ6 => (r5 = nI 0 ∨ r5 = nI 1) ∧ Q r5 σ6)))) ∧ (¬ x1 ≤ x3 → (vp_in x3 600 ∧ wp_X11_isLetter σ (σ 5 x3.toNatClampNeg) (fun r7 σ8 => (r7 = (nI 0) → (((σ 5 x3.toNatClampNeg) = (nI 45) → ((x2 = (nI 1) → (vp_in ((σ8 0 9) - (nI 1)) 80 ∧ ((¬ (σ 5 x3.toNatClampNeg) = (nI 45) → wpl_X11_isText_19 x1 Q n (up2 σ8 8 ((σ8 0 9) - (nI 1)).toNatClampNeg (σ 5 x3.toNatClampNeg)) (nI 3) (x3 + nI 1)) ∧ ((σ 5 x3.toNatClampNeg) = (nI 45) → wpl_X11_isText_19 x1 Q n (up2 σ8 8 ((σ8 0 9) - (nI 1)).toNatClampNeg (σ 5 x3.toNatClampNeg)) (nI 2) (x3 + nI 1))))) ∧ (¬ x2 = (nI 1) → wp_X11_fails σ8 (nI 1) x3 (fun r13 σ14 => (r13 = nI 0 ∨ r13 = nI 1) ∧ Q r13 σ14)))) ∧ (¬ (σ 5 x3.toNatClampNeg) = (nI 45) → wp_X11_isEnd σ8 (σ 5 x3.toNatClampNeg) (fun r15 σ16 => (r15 = (nI 0) → wp_X11_isBlank σ16 (σ 5 x3.toNatClampNeg) (fun r18 σ19 => (r18 = (nI 0) → wp_X11_fails σ19 (nI 1) x3 (fun r21 σ22 => (r21 = nI 0 ∨ r21 = nI 1) ∧ Q r21 σ22)) ∧ (¬ r18 = (nI 0) → ((¬ x2 = (nI 2) → wpl_X11_isText_19 x1 Q n σ19 (nI 0) (x3 + nI 1)) ∧ (x2 = (nI 2) → wp_X11_fails σ19 (nI 1) x3 (fun r24 σ25 => (r24 = nI 0 ∨ r24 = nI 1) ∧ Q r24 σ25)))))) ∧ (¬ r15 = (nI 0) → ((x2 = (nI 1) → (vp_in ((σ16 0 9) - (nI 1)) 80 ∧ ((¬ (σ 5 x3.toNatClampNeg) = (nI 45) → wpl_X11_isText_19 x1 Q n (up2 σ16 8 ((σ16 0 9) - (nI 1)).toNatClampNeg (σ 5 x3.toNatClampNeg)) (nI 3) (x3 + nI 1)) ∧ ((σ 5 x3.toNatClampNeg) = (nI 45) → wpl_X11_isText_19 x1 Q n (up2 σ16 8 ((σ16 0 9) - (nI 1)).toNatClampNeg (σ 5 x3.toNatClampNeg)) (nI 2) (x3 + nI 1))))) ∧ (¬ x2 = (nI 1) → wp_X11_fails σ16 (nI 1) x3 (fun r28 σ29 => (r28 = nI 0 ∨ r28 = nI 1) ∧ Q r28 σ29)))))))) ∧ (¬ r7 = (nI 0) → ((¬ x2 = (nI 3) → ((x2 = (nI 1) → wpj_X11_isText_104 x1 x2 x3 (σ 5 x3.toNatClampNeg) (wpl_X11_isText_19 x1 Q n) Q σ8) ∧ (¬ x2 = (nI 1) → ((¬ (σ8 0 9) = (nI 80) → (vp_in (σ8 0 9) 80 ∧ (vp_in (σ8 0 9) 80 ∧ wpj_X11_isText_104 x1 x2 x3 (σ 5 x3.toNatClampNeg) (wpl_X11_isText_19 x1 Q n) Q (up2 (up2 (up2 σ8 6 (σ8 0 9).toNatClampNeg (nI 0)) 8 (σ8 0 9).toNatClampNeg (nI 32)) 0 9 ((σ8 0 9) + (nI 1)))))) ∧ ((σ8 0 9) = (nI 80) → wp_X11_fails σ8 (nI 3) x3 (fun r36 σ37 => (r36 = nI 0 ∨ r36 = nI 1) ∧ Q r36 σ37)))))) ∧ (x2 = (nI 3) → wp_X11_fails σ8 (nI 1) x3 (fun r38 σ39 => (r38 = nI 0 ∨ r38 = nI 1) ∧ Q r38 σ39)))))))
def wp_X11_isText (σ : St) (Q : Int32 → St → Prop) : Prop := ∃ k40, wpl_X11_isText_19 (σ 0 6) Q k40 (up2 (up2 σ 0 6 (nI 0)) 0 9 (nI 0)) (nI 0) (nI 0)
abbrev r_X11_isText : Room := { frames := 1, cells := 0, slots := 0, locals := 22 }
def wpl_X11_takes_26 (x1 x2 : Int32) (Q : St → Prop) : Nat → St → Int32 → Prop
  | 0 => fun _ _ => False
  | n + 1 => fun σ x3 => vp_in x2 80 ∧ (((σ 1 x2.toNatClampNeg) ≤ x3 → Q σ) ∧ (¬ (σ 1 x2.toNatClampNeg) ≤ x3 → (vp_in (((nI 20) * x1) + x3) 1600 ∧ (vp_in (((nI 20) * x2) + x3) 1600 ∧ wpl_X11_takes_26 x1 x2 Q n (up2 σ 2 (((nI 20) * x2) + x3).toNatClampNeg (σ 7 (((nI 20) * x1) + x3).toNatClampNeg)) (x3 + nI 1)))))
def wp_X11_takes (σ : St) (x1 x2 : Int32) (Q : St → Prop) : Prop := vp_in x1 80 ∧ (vp_in x2 80 ∧ (vp_in x1 80 ∧ (vp_in x2 80 ∧ (∃ k2, wpl_X11_takes_26 x1 x2 Q k2 (up2 (up2 σ 1 x2.toNatClampNeg (σ 6 x1.toNatClampNeg)) 3 x2.toNatClampNeg (σ 8 x1.toNatClampNeg)) (nI 0)))))
abbrev r_X11_takes : Room := { frames := 0, cells := 0, slots := 0, locals := 0 }
def wpl_X11_words_4 (Q : St → Prop) : Nat → St → Int32 → Int32 → Prop
  | 0 => fun _ _ _ => False
  | n + 1 => fun σ x1 x2 => ((σ 0 0) ≤ x2 → Q σ) ∧ (¬ (σ 0 0) ≤ x2 → ((x2 ≤ (nI 0) → (vp_in x2 80 ∧ wpl_X11_words_4 Q n (up2 σ 4 x2.toNatClampNeg x1) x1 (x2 + nI 1))) ∧ (¬ x2 ≤ (nI 0) → (vp_in (x2 - (nI 1)) 80 ∧ (((σ 3 (x2 - (nI 1)).toNatClampNeg) = (nI 45) → (vp_in x2 80 ∧ wpl_X11_words_4 Q n (up2 σ 4 x2.toNatClampNeg x1) x1 (x2 + nI 1))) ∧ (¬ (σ 3 (x2 - (nI 1)).toNatClampNeg) = (nI 45) → (vp_in x2 80 ∧ wpl_X11_words_4 Q n (up2 σ 4 x2.toNatClampNeg (x1 + nI 1)) (x1 + nI 1) (x2 + nI 1))))))))
def wp_X11_words (σ : St) (Q : St → Prop) : Prop := ∃ k4, wpl_X11_words_4 Q k4 σ (nI 0) (nI 0)
abbrev r_X11_words : Room := { frames := 0, cells := 0, slots := 0, locals := 0 }
def wpl_X11_text_19 (Q : Int32 → St → Prop) : Nat → St → Int32 → Prop
  | 0 => fun _ _ => False
  | n + 1 => fun σ x1 => ((σ 0 0) ≤ x1 → wp_X11_words σ (fun σ6 => Q (σ6 0 0) (up2 (up2 (up2 σ6 0 24 (nI 0)) 0 25 (nI 0)) 0 33 (nI 0)))) ∧ (¬ (σ 0 0) ≤ x1 → wp_X11_takes σ x1 x1 (fun σ8 => wpl_X11_text_19 Q n σ8 (x1 + nI 1)))
def wp_X11_text (σ : St) (Q : Int32 → St → Prop) : Prop := wp_X11_isText σ (fun r1 σ2 => (¬ r1 = (nI 0) → (∃ k9, wpl_X11_text_19 Q k9 (up2 σ2 0 0 (σ2 0 9)) (nI 0))) ∧ (r1 = (nI 0) → Q (-1) σ2))
abbrev r_X11_text : Room := { frames := 2, cells := 0, slots := 0, locals := 46 }
def wp_X11_fault (σ : St) (x1 : Int32) (Q : Int32 → St → Prop) : Prop := (¬ x1 = (nI 0) → ((¬ x1 = (nI 1) → Q (-1) σ) ∧ (x1 = (nI 1) → Q (σ 0 8) σ))) ∧ (x1 = (nI 0) → Q (σ 0 7) σ)
abbrev r_X11_fault : Room := { frames := 0, cells := 0, slots := 0, locals := 0 }
def wpl_X11_put_215 (x1 x2 : Int32) (Q : Int32 → St → Prop) : Nat → St → Int32 → Prop
  | 0 => fun _ _ => False
  | n + 1 => fun σ x3 => ((σ 0 33) ≤ x3 → Q (σ 0 0) (up2 σ 0 25 (nI 0))) ∧ (¬ (σ 0 33) ≤ x3 → (vp_in x3 20 ∧ (((σ 17 x3.toNatClampNeg) ≤ x1 → wpl_X11_put_215 x1 x2 Q n σ (x3 + nI 1)) ∧ (¬ (σ 17 x3.toNatClampNeg) ≤ x1 → (vp_in x3 20 ∧ (vp_in x3 20 ∧ wpl_X11_put_215 x1 x2 Q n (up2 σ 17 x3.toNatClampNeg ((σ 17 x3.toNatClampNeg) + x2)) (x3 + nI 1)))))))
def wpl_X11_put_187 (x1 x2 : Int32) (Q : Int32 → St → Prop) : Nat → St → Int32 → Prop
  | 0 => fun _ _ => False
  | n + 1 => fun σ x3 => ((σ 0 9) ≤ x3 → wp_X11_words σ (fun σ13 => ∃ k16, wpl_X11_put_215 x1 x2 Q k16 σ13 (nI 0))) ∧ (¬ (σ 0 9) ≤ x3 → wp_X11_takes σ x3 (x1 + x3) (fun σ18 => wpl_X11_put_187 x1 x2 Q n σ18 (x3 + nI 1)))
def wpl_X11_put_130 (x1 x2 x3 : Int32) (K94 : St → Int32 → Prop) (Q : Int32 → St → Prop) : Nat → St → Int32 → Prop
  | 0 => fun _ _ => False
  | n + 1 => fun σ x4 => ((nI 20) ≤ x4 → K94 σ (x3 - nI 1)) ∧ (¬ (nI 20) ≤ x4 → (vp_in (((nI 20) * x3) + x4) 1600 ∧ (vp_in (((nI 20) * (x3 + x2)) + x4) 1600 ∧ wpl_X11_put_130 x1 x2 x3 K94 Q n (up2 σ 2 (((nI 20) * (x3 + x2)) + x4).toNatClampNeg (σ 2 (((nI 20) * x3) + x4).toNatClampNeg)) (x4 + nI 1))))
def wpl_X11_put_94 (x1 x2 : Int32) (Q : Int32 → St → Prop) : Nat → St → Int32 → Prop
  | 0 => fun _ _ => False
  | n + 1 => fun σ x3 => (x3 ≤ x1 → (∃ k19, wpl_X11_put_187 x1 x2 Q k19 (up2 σ 0 0 ((σ 0 0) + x2)) (nI 0))) ∧ (¬ x3 ≤ x1 → (vp_in x3 80 ∧ (vp_in (x3 + x2) 80 ∧ (vp_in x3 80 ∧ (vp_in (x3 + x2) 80 ∧ (∃ k21, wpl_X11_put_130 x1 x2 x3 (wpl_X11_put_94 x1 x2 Q n) Q k21 (up2 (up2 σ 1 (x3 + x2).toNatClampNeg (σ 1 x3.toNatClampNeg)) 3 (x3 + x2).toNatClampNeg (σ 3 x3.toNatClampNeg)) (nI 0)))))))
def wp_X11_put (σ : St) (x1 : Int32) (Q : Int32 → St → Prop) : Prop := (x1 < (nI 0) → Q (-1) (up2 σ 0 6 (nI 0))) ∧ (¬ x1 < (nI 0) → (((σ 0 0) ≤ x1 → Q (-1) (up2 σ 0 6 (nI 0))) ∧ (¬ (σ 0 0) ≤ x1 → (vp_in x1 80 ∧ (((σ 3 x1.toNatClampNeg) = (nI 45) → Q (-1) (up2 σ 0 6 (nI 0))) ∧ (¬ (σ 3 x1.toNatClampNeg) = (nI 45) → ((x1 ≤ (nI 0) → wp_X11_isText σ (fun r5 σ6 => (r5 = (nI 0) → Q (-2) σ6) ∧ (¬ r5 = (nI 0) → (((σ6 0 9) = (nI 0) → Q (-2) σ6) ∧ (¬ (σ6 0 9) = (nI 0) → (((((σ6 0 0) - (nI 1)) + (σ6 0 9)) ≤ (nI 80) → (∃ k22, wpl_X11_put_94 x1 ((σ6 0 9) - (nI 1)) Q k22 σ6 ((σ6 0 0) - (nI 1)))) ∧ (¬ (((σ6 0 0) - (nI 1)) + (σ6 0 9)) ≤ (nI 80) → Q (-2) σ6))))))) ∧ (¬ x1 ≤ (nI 0) → (vp_in (x1 - (nI 1)) 80 ∧ ((¬ (σ 3 (x1 - (nI 1)).toNatClampNeg) = (nI 45) → wp_X11_isText σ (fun r24 σ25 => (r24 = (nI 0) → Q (-2) σ25) ∧ (¬ r24 = (nI 0) → (((σ25 0 9) = (nI 0) → Q (-2) σ25) ∧ (¬ (σ25 0 9) = (nI 0) → (((((σ25 0 0) - (nI 1)) + (σ25 0 9)) ≤ (nI 80) → (∃ k29, wpl_X11_put_94 x1 ((σ25 0 9) - (nI 1)) Q k29 σ25 ((σ25 0 0) - (nI 1)))) ∧ (¬ (((σ25 0 0) - (nI 1)) + (σ25 0 9)) ≤ (nI 80) → Q (-2) σ25))))))) ∧ ((σ 3 (x1 - (nI 1)).toNatClampNeg) = (nI 45) → Q (-1) (up2 σ 0 6 (nI 0)))))))))))))
abbrev r_X11_put : Room := { frames := 2, cells := 0, slots := 0, locals := 46 }
def wp_X11_unit (σ : St) (x1 x2 : Int32) (Q : Int32 → St → Prop) : Prop := (x1 < (nI 0) → Q (-1) σ) ∧ (¬ x1 < (nI 0) → ((x1 < (σ 0 0) → ((¬ x2 = (nI 0) → ((¬ x2 = (nI 1) → ((¬ x2 = (nI 2) → Q (-1) σ) ∧ (x2 = (nI 2) → (vp_in x1 80 ∧ Q (σ 4 x1.toNatClampNeg) σ)))) ∧ (x2 = (nI 1) → (vp_in x1 80 ∧ Q (σ 3 x1.toNatClampNeg) σ)))) ∧ (x2 = (nI 0) → (vp_in x1 80 ∧ Q (σ 1 x1.toNatClampNeg) σ)))) ∧ (¬ x1 < (σ 0 0) → Q (-1) σ)))
abbrev r_X11_unit : Room := { frames := 0, cells := 0, slots := 0, locals := 0 }
def wp_X11_isIn (σ : St) (x0 x1 x2 : Int32) (Q : Int32 → St → Prop) : Prop := (x0 < x1 → Q (nI 0) σ) ∧ (¬ x0 < x1 → ((x2 < x0 → Q (nI 0) σ) ∧ (¬ x2 < x0 → Q (nI 1) σ)))
abbrev r_X11_isIn : Room := { frames := 0, cells := 0, slots := 0, locals := 0 }
def wp_X11_measure (σ : St) (x1 x2 : Int32) (Q : Int32 → St → Prop) : Prop := wp_X11_isIn σ x1 (nI 10) (nI 60) (fun r1 σ2 => (r1 = (nI 0) → Q (nI 0) σ2) ∧ (¬ r1 = (nI 0) → wp_X11_isIn σ2 x2 (nI 1) (nI 3) (fun r4 σ5 => (¬ r4 = (nI 0) → Q (nI 1) (up2 (up2 σ5 0 13 x1) 0 14 x2)) ∧ (r4 = (nI 0) → Q (nI 0) σ5))))
abbrev r_X11_measure : Room := { frames := 1, cells := 0, slots := 0, locals := 22 }
def wp_X11_strains (σ : St) (x1 x2 x3 x4 x5 : Int32) (Q : Int32 → St → Prop) : Prop := wp_X11_isIn σ x1 (nI 0) (nI 100) (fun r1 σ2 => (r1 = (nI 0) → Q (nI 0) σ2) ∧ (¬ r1 = (nI 0) → wp_X11_isIn σ2 x2 (nI 0) (nI 10000) (fun r4 σ5 => (r4 = (nI 0) → Q (nI 0) σ5) ∧ (¬ r4 = (nI 0) → wp_X11_isIn σ5 x3 (nI 0) (nI 10000) (fun r7 σ8 => (r7 = (nI 0) → Q (nI 0) σ8) ∧ (¬ r7 = (nI 0) → wp_X11_isIn σ8 x4 (nI 0) (nI 10000) (fun r10 σ11 => (r10 = (nI 0) → Q (nI 0) σ11) ∧ (¬ r10 = (nI 0) → wp_X11_isIn σ11 x5 (nI 0) (nI 1000) (fun r13 σ14 => (¬ r13 = (nI 0) → Q (nI 1) (up2 (up2 (up2 (up2 (up2 σ14 0 15 x1) 0 16 x2) 0 17 x3) 0 18 x4) 0 19 x5)) ∧ (r13 = (nI 0) → Q (nI 0) σ14))))))))))
abbrev r_X11_strains : Room := { frames := 1, cells := 0, slots := 0, locals := 22 }
def wp_X11_like (σ : St) (x1 x2 x3 : Int32) (Q : Int32 → St → Prop) : Prop := wp_X11_isLetter σ x1 (fun r1 σ2 => (r1 = (nI 0) → Q (-1) σ2) ∧ (¬ r1 = (nI 0) → wp_X11_isLetter σ2 x2 (fun r4 σ5 => (r4 = (nI 0) → Q (-1) σ5) ∧ (¬ r4 = (nI 0) → wp_X11_isIn σ5 x3 (nI 0) (nI 1000) (fun r7 σ8 => (¬ r7 = (nI 0) → (vp_in ((((nI 26) * (x1 - (nI 97))) + x2) - (nI 97)) 676 ∧ (vp_in ((((nI 26) * (x1 - (nI 97))) + x2) - (nI 97)) 676 ∧ (vp_in ((((nI 26) * (x2 - (nI 97))) + x1) - (nI 97)) 676 ∧ Q (σ8 9 ((((nI 26) * (x1 - (nI 97))) + x2) - (nI 97)).toNatClampNeg) (up2 (up2 σ8 9 ((((nI 26) * (x1 - (nI 97))) + x2) - (nI 97)).toNatClampNeg x3) 9 ((((nI 26) * (x2 - (nI 97))) + x1) - (nI 97)).toNatClampNeg x3))))) ∧ (r7 = (nI 0) → Q (-1) σ8))))))
abbrev r_X11_like : Room := { frames := 1, cells := 0, slots := 0, locals := 22 }
def wp_X11_most (σ : St) (x1 : Int32) (Q : Int32 → St → Prop) : Prop := ((nI 60) ≤ ((σ 0 0) - x1) → Q (nI 60) σ) ∧ (¬ (nI 60) ≤ ((σ 0 0) - x1) → Q ((σ 0 0) - x1) σ)
abbrev r_X11_most : Room := { frames := 0, cells := 0, slots := 0, locals := 0 }
def wpl_X11_lays_10_64 (x2 x3 x5 : Int32) (K6 : St → Int32 → Int32 → Prop) (Q : Int32 → St → Prop) : Nat → St → Int32 → Int32 → Prop
  | 0 => fun _ _ _ => False
  | n + 1 => fun σ x4 x6 => vp_in x5 80 ∧ (((σ 1 x5.toNatClampNeg) ≤ x6 → (vp_in x5 80 ∧ (((σ 3 x5.toNatClampNeg) = (nI 44) → (vp_in x5 80 ∧ (vp_in x4 200 ∧ (((x4 + nI 1) ≤ (σ 0 13) → K6 (up2 σ 10 x4.toNatClampNeg (σ 3 x5.toNatClampNeg)) (x4 + nI 1) (x5 + nI 1)) ∧ (¬ (x4 + nI 1) ≤ (σ 0 13) → Q (-1) (up2 σ 10 x4.toNatClampNeg (σ 3 x5.toNatClampNeg))))))) ∧ (¬ (σ 3 x5.toNatClampNeg) = (nI 44) → (vp_in x5 80 ∧ (((σ 3 x5.toNatClampNeg) = (nI 46) → (vp_in x5 80 ∧ (vp_in x4 200 ∧ (((x4 + nI 1) ≤ (σ 0 13) → K6 (up2 σ 10 x4.toNatClampNeg (σ 3 x5.toNatClampNeg)) (x4 + nI 1) (x5 + nI 1)) ∧ (¬ (x4 + nI 1) ≤ (σ 0 13) → Q (-1) (up2 σ 10 x4.toNatClampNeg (σ 3 x5.toNatClampNeg))))))) ∧ (¬ (σ 3 x5.toNatClampNeg) = (nI 46) → (vp_in x5 80 ∧ ((¬ (σ 3 x5.toNatClampNeg) = (nI 45) → ((x4 ≤ (σ 0 13) → K6 σ x4 (x5 + nI 1)) ∧ (¬ x4 ≤ (σ 0 13) → Q (-1) σ))) ∧ ((σ 3 x5.toNatClampNeg) = (nI 45) → ((¬ x5 = ((x2 + x3) - (nI 1)) → ((x4 ≤ (σ 0 13) → K6 σ x4 (x5 + nI 1)) ∧ (¬ x4 ≤ (σ 0 13) → Q (-1) σ))) ∧ (x5 = ((x2 + x3) - (nI 1)) → (vp_in x5 80 ∧ (vp_in x4 200 ∧ (((x4 + nI 1) ≤ (σ 0 13) → K6 (up2 σ 10 x4.toNatClampNeg (σ 3 x5.toNatClampNeg)) (x4 + nI 1) (x5 + nI 1)) ∧ (¬ (x4 + nI 1) ≤ (σ 0 13) → Q (-1) (up2 σ 10 x4.toNatClampNeg (σ 3 x5.toNatClampNeg)))))))))))))))))) ∧ (¬ (σ 1 x5.toNatClampNeg) ≤ x6 → (vp_in (((nI 20) * x5) + x6) 1600 ∧ (vp_in x4 200 ∧ wpl_X11_lays_10_64 x2 x3 x5 K6 Q n (up2 σ 10 x4.toNatClampNeg (σ 2 (((nI 20) * x5) + x6).toNatClampNeg)) (x4 + nI 1) (x6 + nI 1)))))
def wpl_X11_lays_10_37 (x2 x3 x5 : Int32) (K6 : St → Int32 → Int32 → Prop) (Q : Int32 → St → Prop) : Nat → St → Int32 → Int32 → Prop
  | 0 => fun _ _ _ => False
  | n + 1 => fun σ x4 x6 => ((σ 0 14) ≤ x6 → (∃ k22, wpl_X11_lays_10_64 x2 x3 x5 K6 Q k22 σ x4 (nI 0))) ∧ (¬ (σ 0 14) ≤ x6 → (vp_in x4 200 ∧ wpl_X11_lays_10_37 x2 x3 x5 K6 Q n (up2 σ 10 x4.toNatClampNeg (nI 32)) (x4 + nI 1) (x6 + nI 1)))
def wpl_X11_lays_10_6 (x2 x3 : Int32) (Q : Int32 → St → Prop) : Nat → St → Int32 → Int32 → Prop
  | 0 => fun _ _ _ => False
  | n + 1 => fun σ x4 x5 => ((x2 + x3) ≤ x5 → Q x4 σ) ∧ (¬ (x2 + x3) ≤ x5 → ((x5 ≤ x2 → (∃ k18, wpl_X11_lays_10_64 x2 x3 x5 (wpl_X11_lays_10_6 x2 x3 Q n) Q k18 σ x4 (nI 0))) ∧ (¬ x5 ≤ x2 → (vp_in (x5 - (nI 1)) 80 ∧ (((σ 3 (x5 - (nI 1)).toNatClampNeg) = (nI 45) → (∃ k20, wpl_X11_lays_10_64 x2 x3 x5 (wpl_X11_lays_10_6 x2 x3 Q n) Q k20 σ x4 (nI 0))) ∧ (¬ (σ 3 (x5 - (nI 1)).toNatClampNeg) = (nI 45) → (∃ k23, wpl_X11_lays_10_37 x2 x3 x5 (wpl_X11_lays_10_6 x2 x3 Q n) Q k23 σ x4 (nI 0))))))))
def wp_X11_lays_10 (σ : St) (x2 x3 : Int32) (Q : Int32 → St → Prop) : Prop := ∃ k24, wpl_X11_lays_10_6 x2 x3 Q k24 σ (nI 0) x2
abbrev r_X11_lays_10 : Room := { frames := 0, cells := 0, slots := 0, locals := 0 }
def wp_X11_place (σ : St) (x1 x2 : Int32) (Q : Int32 → St → Prop) : Prop := Q (((nI 61) * x1) + x2) σ
abbrev r_X11_place : Room := { frames := 0, cells := 0, slots := 0, locals := 0 }
def wpl_X11_lays_11_64 (x2 x3 x5 : Int32) (K6 : St → Int32 → Int32 → Prop) (Q : Int32 → St → Prop) : Nat → St → Int32 → Int32 → Prop
  | 0 => fun _ _ _ => False
  | n + 1 => fun σ x4 x6 => vp_in x5 80 ∧ (((σ 1 x5.toNatClampNeg) ≤ x6 → (vp_in x5 80 ∧ (((σ 3 x5.toNatClampNeg) = (nI 44) → (vp_in x5 80 ∧ (vp_in x4 200 ∧ (((x4 + nI 1) ≤ (σ 0 13) → K6 (up2 σ 11 x4.toNatClampNeg (σ 3 x5.toNatClampNeg)) (x4 + nI 1) (x5 + nI 1)) ∧ (¬ (x4 + nI 1) ≤ (σ 0 13) → Q (-1) (up2 σ 11 x4.toNatClampNeg (σ 3 x5.toNatClampNeg))))))) ∧ (¬ (σ 3 x5.toNatClampNeg) = (nI 44) → (vp_in x5 80 ∧ (((σ 3 x5.toNatClampNeg) = (nI 46) → (vp_in x5 80 ∧ (vp_in x4 200 ∧ (((x4 + nI 1) ≤ (σ 0 13) → K6 (up2 σ 11 x4.toNatClampNeg (σ 3 x5.toNatClampNeg)) (x4 + nI 1) (x5 + nI 1)) ∧ (¬ (x4 + nI 1) ≤ (σ 0 13) → Q (-1) (up2 σ 11 x4.toNatClampNeg (σ 3 x5.toNatClampNeg))))))) ∧ (¬ (σ 3 x5.toNatClampNeg) = (nI 46) → (vp_in x5 80 ∧ ((¬ (σ 3 x5.toNatClampNeg) = (nI 45) → ((x4 ≤ (σ 0 13) → K6 σ x4 (x5 + nI 1)) ∧ (¬ x4 ≤ (σ 0 13) → Q (-1) σ))) ∧ ((σ 3 x5.toNatClampNeg) = (nI 45) → ((¬ x5 = ((x2 + x3) - (nI 1)) → ((x4 ≤ (σ 0 13) → K6 σ x4 (x5 + nI 1)) ∧ (¬ x4 ≤ (σ 0 13) → Q (-1) σ))) ∧ (x5 = ((x2 + x3) - (nI 1)) → (vp_in x5 80 ∧ (vp_in x4 200 ∧ (((x4 + nI 1) ≤ (σ 0 13) → K6 (up2 σ 11 x4.toNatClampNeg (σ 3 x5.toNatClampNeg)) (x4 + nI 1) (x5 + nI 1)) ∧ (¬ (x4 + nI 1) ≤ (σ 0 13) → Q (-1) (up2 σ 11 x4.toNatClampNeg (σ 3 x5.toNatClampNeg)))))))))))))))))) ∧ (¬ (σ 1 x5.toNatClampNeg) ≤ x6 → (vp_in (((nI 20) * x5) + x6) 1600 ∧ (vp_in x4 200 ∧ wpl_X11_lays_11_64 x2 x3 x5 K6 Q n (up2 σ 11 x4.toNatClampNeg (σ 2 (((nI 20) * x5) + x6).toNatClampNeg)) (x4 + nI 1) (x6 + nI 1)))))
def wpl_X11_lays_11_37 (x2 x3 x5 : Int32) (K6 : St → Int32 → Int32 → Prop) (Q : Int32 → St → Prop) : Nat → St → Int32 → Int32 → Prop
  | 0 => fun _ _ _ => False
  | n + 1 => fun σ x4 x6 => ((σ 0 14) ≤ x6 → (∃ k22, wpl_X11_lays_11_64 x2 x3 x5 K6 Q k22 σ x4 (nI 0))) ∧ (¬ (σ 0 14) ≤ x6 → (vp_in x4 200 ∧ wpl_X11_lays_11_37 x2 x3 x5 K6 Q n (up2 σ 11 x4.toNatClampNeg (nI 32)) (x4 + nI 1) (x6 + nI 1)))
def wpl_X11_lays_11_6 (x2 x3 : Int32) (Q : Int32 → St → Prop) : Nat → St → Int32 → Int32 → Prop
  | 0 => fun _ _ _ => False
  | n + 1 => fun σ x4 x5 => ((x2 + x3) ≤ x5 → Q x4 σ) ∧ (¬ (x2 + x3) ≤ x5 → ((x5 ≤ x2 → (∃ k18, wpl_X11_lays_11_64 x2 x3 x5 (wpl_X11_lays_11_6 x2 x3 Q n) Q k18 σ x4 (nI 0))) ∧ (¬ x5 ≤ x2 → (vp_in (x5 - (nI 1)) 80 ∧ (((σ 3 (x5 - (nI 1)).toNatClampNeg) = (nI 45) → (∃ k20, wpl_X11_lays_11_64 x2 x3 x5 (wpl_X11_lays_11_6 x2 x3 Q n) Q k20 σ x4 (nI 0))) ∧ (¬ (σ 3 (x5 - (nI 1)).toNatClampNeg) = (nI 45) → (∃ k23, wpl_X11_lays_11_37 x2 x3 x5 (wpl_X11_lays_11_6 x2 x3 Q n) Q k23 σ x4 (nI 0))))))))
def wp_X11_lays_11 (σ : St) (x2 x3 : Int32) (Q : Int32 → St → Prop) : Prop := ∃ k24, wpl_X11_lays_11_6 x2 x3 Q k24 σ (nI 0) x2
abbrev r_X11_lays_11 : Room := { frames := 0, cells := 0, slots := 0, locals := 0 }
def wpj_X11_pairStrain_48 (x1 x2 x3 x4 : Int32) (K5 : St → Int32 → Int32 → Prop) (Q : Int32 → St → Prop) (σ : St) : Prop := vp_in x4 200 ∧ wp_X11_isLetter σ (σ 10 x4.toNatClampNeg) (fun r4 σ5 => (r4 = (nI 0) → K5 σ5 x3 (x4 + nI 1)) ∧ (¬ r4 = (nI 0) → (vp_in x4 200 ∧ wp_X11_isLetter σ5 (σ5 11 x4.toNatClampNeg) (fun r7 σ8 => (r7 = (nI 0) → K5 σ8 x3 (x4 + nI 1)) ∧ (¬ r7 = (nI 0) → (vp_in x4 200 ∧ (vp_in x4 200 ∧ (vp_in ((((nI 26) * ((σ8 10 x4.toNatClampNeg) - (nI 97))) + (σ8 11 x4.toNatClampNeg)) - (nI 97)) 676 ∧ K5 σ8 (x3 + (σ8 9 ((((nI 26) * ((σ8 10 x4.toNatClampNeg) - (nI 97))) + (σ8 11 x4.toNatClampNeg)) - (nI 97)).toNatClampNeg)) (x4 + nI 1)))))))))
def wpl_X11_pairStrain_5 (x1 x2 : Int32) (Q : Int32 → St → Prop) : Nat → St → Int32 → Int32 → Prop
  | 0 => fun _ _ _ => False
  | n + 1 => fun σ x3 x4 => (x1 ≤ x4 → Q x3 σ) ∧ (¬ x1 ≤ x4 → ((x2 ≤ x4 → Q x3 σ) ∧ (¬ x2 ≤ x4 → (vp_in x4 200 ∧ ((¬ (σ 10 x4.toNatClampNeg) = (nI 32) → wpj_X11_pairStrain_48 x1 x2 x3 x4 (wpl_X11_pairStrain_5 x1 x2 Q n) Q σ) ∧ ((σ 10 x4.toNatClampNeg) = (nI 32) → (vp_in x4 200 ∧ ((¬ (σ 11 x4.toNatClampNeg) = (nI 32) → wpj_X11_pairStrain_48 x1 x2 x3 x4 (wpl_X11_pairStrain_5 x1 x2 Q n) Q σ) ∧ ((σ 11 x4.toNatClampNeg) = (nI 32) → wpj_X11_pairStrain_48 x1 x2 (x3 + (σ 0 19)) x4 (wpl_X11_pairStrain_5 x1 x2 Q n) Q σ)))))))))
def wp_X11_pairStrain (σ : St) (x1 x2 : Int32) (Q : Int32 → St → Prop) : Prop := ∃ k11, wpl_X11_pairStrain_5 x1 x2 Q k11 σ (nI 0) (nI 0)
abbrev r_X11_pairStrain : Room := { frames := 1, cells := 0, slots := 0, locals := 20 }
def wp_X11_costOf (σ : St) (x1 x2 x3 x4 : Int32) (Q : Int32 → St → Prop) : Prop := wp_X11_place σ (x1 + x2) x3 (fun r1 σ2 => vp_in r1 4941 ∧ (((σ2 12 r1.toNatClampNeg) < (nI 1000000000) → wp_X11_lays_11 σ2 (x1 + x2) x3 (fun r4 σ5 => (¬ r4 = (-1) → wp_X11_pairStrain σ5 x4 r4 (fun r7 σ8 => wp_X11_place σ8 (x1 + x2) x3 (fun r9 σ10 => vp_in r9 4941 ∧ Q (r7 + (σ10 12 r9.toNatClampNeg)) σ10))) ∧ (r4 = (-1) → Q (nI 1000000000) σ5))) ∧ (¬ (σ2 12 r1.toNatClampNeg) < (nI 1000000000) → Q (nI 1000000000) σ2)))
abbrev r_X11_costOf : Room := { frames := 2, cells := 0, slots := 0, locals := 44 }
def wp_X11_lineStrain (σ : St) (x1 x2 x3 : Int32) (Q : Int32 → St → Prop) : Prop := (¬ (x1 + x2) = (σ 0 0) → (vp_in ((x1 + x2) - (nI 1)) 80 ∧ ((¬ (σ 3 ((x1 + x2) - (nI 1)).toNatClampNeg) = (nI 46) → (((σ 3 ((x1 + x2) - (nI 1)).toNatClampNeg) = (nI 44) → Q (((((σ 0 13) - x3) * ((σ 0 13) - x3)) * (σ 0 15)) + (σ 0 16)) σ) ∧ (¬ (σ 3 ((x1 + x2) - (nI 1)).toNatClampNeg) = (nI 44) → ((¬ (σ 3 ((x1 + x2) - (nI 1)).toNatClampNeg) = (nI 47) → ((¬ (σ 3 ((x1 + x2) - (nI 1)).toNatClampNeg) = (nI 45) → Q (((((σ 0 13) - x3) * ((σ 0 13) - x3)) * (σ 0 15)) + (σ 0 17)) σ) ∧ ((σ 3 ((x1 + x2) - (nI 1)).toNatClampNeg) = (nI 45) → Q (((((σ 0 13) - x3) * ((σ 0 13) - x3)) * (σ 0 15)) + (σ 0 18)) σ))) ∧ ((σ 3 ((x1 + x2) - (nI 1)).toNatClampNeg) = (nI 47) → Q (((((σ 0 13) - x3) * ((σ 0 13) - x3)) * (σ 0 15)) + (σ 0 16)) σ))))) ∧ ((σ 3 ((x1 + x2) - (nI 1)).toNatClampNeg) = (nI 46) → Q (((((σ 0 13) - x3) * ((σ 0 13) - x3)) * (σ 0 15)) + (nI 0)) σ)))) ∧ ((x1 + x2) = (σ 0 0) → Q (nI 0) σ)
abbrev r_X11_lineStrain : Room := { frames := 0, cells := 0, slots := 0, locals := 0 }
def wpl_X11_weighs_58 (x1 x2 x3 : Int32) (K13 : St → Int32 → Prop) (Q : St → Prop) : Nat → St → Int32 → Int32 → Prop
  | 0 => fun _ _ _ => False
  | n + 1 => fun σ x4 x5 => (x3 = (-1) → wp_X11_place σ x1 x2 (fun r9 σ10 => (x4 < (nI 1000000000) → wp_X11_lineStrain σ10 x1 x2 x3 (fun r12 σ13 => vp_in r9 4941 ∧ K13 (up2 σ13 12 r9.toNatClampNeg (x4 + r12)) (x2 + nI 1))) ∧ (¬ x4 < (nI 1000000000) → (vp_in r9 4941 ∧ K13 (up2 σ10 12 r9.toNatClampNeg (nI 1000000000)) (x2 + nI 1))))) ∧ (¬ x3 = (-1) → (((σ 0 0) ≤ (x1 + x2) → wp_X11_place σ x1 x2 (fun r15 σ16 => (x4 < (nI 1000000000) → wp_X11_lineStrain σ16 x1 x2 x3 (fun r18 σ19 => vp_in r15 4941 ∧ K13 (up2 σ19 12 r15.toNatClampNeg (x4 + r18)) (x2 + nI 1))) ∧ (¬ x4 < (nI 1000000000) → (vp_in r15 4941 ∧ K13 (up2 σ16 12 r15.toNatClampNeg (nI 1000000000)) (x2 + nI 1))))) ∧ (¬ (σ 0 0) ≤ (x1 + x2) → wp_X11_most σ (x1 + x2) (fun r20 σ21 => (r20 < x5 → wp_X11_place σ21 x1 x2 (fun r23 σ24 => (x4 < (nI 1000000000) → wp_X11_lineStrain σ24 x1 x2 x3 (fun r26 σ27 => vp_in r23 4941 ∧ K13 (up2 σ27 12 r23.toNatClampNeg (x4 + r26)) (x2 + nI 1))) ∧ (¬ x4 < (nI 1000000000) → (vp_in r23 4941 ∧ K13 (up2 σ24 12 r23.toNatClampNeg (nI 1000000000)) (x2 + nI 1))))) ∧ (¬ r20 < x5 → wp_X11_costOf σ21 x1 x2 x5 x3 (fun r28 σ29 => (x4 ≤ r28 → wpl_X11_weighs_58 x1 x2 x3 K13 Q n σ29 x4 (x5 + nI 1)) ∧ (¬ x4 ≤ r28 → wpl_X11_weighs_58 x1 x2 x3 K13 Q n σ29 r28 (x5 + nI 1))))))))
def wpl_X11_weighs_13 (x1 : Int32) (K7 : St → Int32 → Prop) (Q : St → Prop) : Nat → St → Int32 → Prop
  | 0 => fun _ _ => False
  | n + 1 => fun σ x2 => wp_X11_most σ x1 (fun r2 σ3 => (r2 < x2 → K7 σ3 (x1 - nI 1)) ∧ (¬ r2 < x2 → wp_X11_lays_10 σ3 x1 x2 (fun r5 σ6 => (r5 = (-1) → (∃ k31, wpl_X11_weighs_58 x1 x2 r5 (wpl_X11_weighs_13 x1 K7 Q n) Q k31 σ6 (nI 1000000000) (nI 1))) ∧ (¬ r5 = (-1) → ((¬ (x1 + x2) = (σ6 0 0) → (∃ k33, wpl_X11_weighs_58 x1 x2 r5 (wpl_X11_weighs_13 x1 K7 Q n) Q k33 σ6 (nI 1000000000) (nI 1))) ∧ ((x1 + x2) = (σ6 0 0) → (∃ k34, wpl_X11_weighs_58 x1 x2 r5 (wpl_X11_weighs_13 x1 K7 Q n) Q k34 σ6 (nI 0) (nI 1))))))))
def wpl_X11_weighs_7 (Q : St → Prop) : Nat → St → Int32 → Prop
  | 0 => fun _ _ => False
  | n + 1 => fun σ x1 => (x1 < (nI 0) → Q σ) ∧ (¬ x1 < (nI 0) → (∃ k35, wpl_X11_weighs_13 x1 (wpl_X11_weighs_7 Q n) Q k35 σ (nI 1)))
def wp_X11_weighs (σ : St) (Q : St → Prop) : Prop := ∃ k36, wpl_X11_weighs_7 Q k36 σ ((σ 0 0) - (nI 1))
abbrev r_X11_weighs : Room := { frames := 3, cells := 0, slots := 0, locals := 70 }
def wpl_X11_keeps_44 (x1 x2 x3 : Int32) (Q : St → Prop) : Nat → St → Int32 → Prop
  | 0 => fun _ _ => False
  | n + 1 => fun σ x4 => (x3 ≤ x4 → Q (up2 σ 0 26 ((σ 0 26) + (nI 1)))) ∧ (¬ x3 ≤ x4 → (vp_in x4 200 ∧ (vp_in (((nI 60) * (σ 0 26)) + x4) 4800 ∧ wpl_X11_keeps_44 x1 x2 x3 Q n (up2 σ 16 (((nI 60) * (σ 0 26)) + x4).toNatClampNeg (σ 10 x4.toNatClampNeg)) (x4 + nI 1))))
def wp_X11_keeps (σ : St) (x1 x2 : Int32) (Q : St → Prop) : Prop := wp_X11_lays_10 σ x1 x2 (fun r1 σ2 => vp_in (σ2 0 26) 80 ∧ (vp_in (σ2 0 26) 80 ∧ (vp_in (σ2 0 26) 80 ∧ (∃ k4, wpl_X11_keeps_44 x1 x2 r1 Q k4 (up2 (up2 (up2 σ2 13 (σ2 0 26).toNatClampNeg x1) 14 (σ2 0 26).toNatClampNeg x2) 15 (σ2 0 26).toNatClampNeg r1) (nI 0)))))
abbrev r_X11_keeps : Room := { frames := 1, cells := 0, slots := 0, locals := 26 }
def wpl_X11_set_163 (x1 x2 x3 x4 x5 x6 : Int32) (K93 : St → Int32 → Int32 → Prop) (Q : Int32 → St → Prop) : Nat → St → Int32 → Prop
  | 0 => fun _ _ => False
  | n + 1 => fun σ x7 => wp_X11_costOf σ x3 x2 x7 x5 (fun r20 σ21 => (r20 = x6 → K93 σ21 x7 x4) ∧ (¬ r20 = x6 → wpl_X11_set_163 x1 x2 x3 x4 x5 x6 K93 Q n σ21 (x7 - nI 1)))
def wpl_X11_set_93 (x1 : Int32) (Q : Int32 → St → Prop) : Nat → St → Int32 → Int32 → Prop
  | 0 => fun _ _ _ => False
  | n + 1 => fun σ x2 x3 => ((σ 0 0) ≤ x3 → Q x1 σ) ∧ (¬ (σ 0 0) ≤ x3 → wp_X11_keeps σ x3 x2 (fun σ10 => ((σ10 0 0) ≤ (x3 + x2) → wpl_X11_set_93 x1 Q n σ10 x2 (x3 + x2)) ∧ (¬ (σ10 0 0) ≤ (x3 + x2) → wp_X11_lays_10 σ10 x3 x2 (fun r12 σ13 => wp_X11_place σ13 x3 x2 (fun r14 σ15 => vp_in r14 4941 ∧ wp_X11_lineStrain σ15 x3 x2 r12 (fun r16 σ17 => wp_X11_most σ17 (x3 + x2) (fun r18 σ19 => ∃ k23, wpl_X11_set_163 x1 x2 x3 (x3 + x2) r12 ((σ15 12 r14.toNatClampNeg) - r16) (wpl_X11_set_93 x1 Q n) Q k23 σ19 r18)))))))
def wpl_X11_set_26 (Q : Int32 → St → Prop) : Nat → St → Int32 → Int32 → Int32 → Prop
  | 0 => fun _ _ _ _ => False
  | n + 1 => fun σ x1 x2 x3 => (x3 ≤ (nI 0) → ((x1 < (nI 1000000000) → (∃ k24, wpl_X11_set_93 x1 Q k24 (up2 (up2 (up2 σ 0 24 (nI 1)) 0 25 (nI 1)) 0 26 (nI 0)) x2 (nI 0))) ∧ (¬ x1 < (nI 1000000000) → Q (-1) σ))) ∧ (¬ x3 ≤ (nI 0) → wp_X11_place σ (nI 0) x3 (fun r25 σ26 => vp_in r25 4941 ∧ (((σ26 12 r25.toNatClampNeg) < x1 → wp_X11_place σ26 (nI 0) x3 (fun r28 σ29 => vp_in r28 4941 ∧ wpl_X11_set_26 Q n σ29 (σ29 12 r28.toNatClampNeg) x3 (x3 - nI 1))) ∧ (¬ (σ26 12 r25.toNatClampNeg) < x1 → wpl_X11_set_26 Q n σ26 x1 x2 (x3 - nI 1)))))
def wp_X11_set (σ : St) (Q : Int32 → St → Prop) : Prop := wp_X11_weighs σ (fun σ2 => (¬ (σ2 0 0) = (nI 0) → wp_X11_most σ2 (nI 0) (fun r4 σ5 => ∃ k30, wpl_X11_set_26 Q k30 σ5 (nI 1000000000) (nI 0) r4)) ∧ ((σ2 0 0) = (nI 0) → wp_X11_most σ2 (nI 0) (fun r31 σ32 => ∃ k33, wpl_X11_set_26 Q k33 σ32 (nI 0) (nI 0) r31)))
abbrev r_X11_set : Room := { frames := 4, cells := 0, slots := 0, locals := 96 }
def wp_X11_lines (σ : St) (Q : Int32 → St → Prop) : Prop := ((σ 0 24) = (nI 0) → Q (-1) σ) ∧ (¬ (σ 0 24) = (nI 0) → Q (σ 0 26) σ)
abbrev r_X11_lines : Room := { frames := 0, cells := 0, slots := 0, locals := 0 }
def wp_X11_line (σ : St) (x1 x2 : Int32) (Q : Int32 → St → Prop) : Prop := ((σ 0 24) = (nI 0) → Q (-1) σ) ∧ (¬ (σ 0 24) = (nI 0) → ((x1 < (nI 0) → Q (-1) σ) ∧ (¬ x1 < (nI 0) → ((x1 < (σ 0 26) → ((x2 = nI 0 → (vp_in x1 80 ∧ Q (σ 13 x1.toNatClampNeg) σ)) ∧ (¬ x2 = nI 0 → ((x2 = nI 1 → (vp_in x1 80 ∧ Q (σ 14 x1.toNatClampNeg) σ)) ∧ (¬ x2 = nI 1 → ((x2 = nI 2 → (vp_in x1 80 ∧ Q (σ 15 x1.toNatClampNeg) σ)) ∧ (¬ x2 = nI 2 → ((x2 = nI 3 → ((¬ (σ 0 31) = nI 0) ∧ ((¬ (σ 0 31) = nI 0) ∧ ((¬ (σ 0 32) = nI 0) ∧ Q (((x1 - x1 / (σ 0 31) * (σ 0 31)) + (x1 / (σ 0 31))) - ((x1 - x1 / (σ 0 31) * (σ 0 31)) + (x1 / (σ 0 31))) / (σ 0 32) * (σ 0 32)) σ)))) ∧ (¬ x2 = nI 3 → ((x2 = nI 4 → ((¬ (σ 0 31) = nI 0) ∧ Q (x1 / (σ 0 31)) σ)) ∧ (¬ x2 = nI 4 → Q (-1) σ))))))))))) ∧ (¬ x1 < (σ 0 26) → Q (-1) σ)))))
abbrev r_X11_line : Room := { frames := 0, cells := 0, slots := 0, locals := 0 }
def wp_X11_sign (σ : St) (x1 x2 : Int32) (Q : Int32 → St → Prop) : Prop := ((σ 0 24) = (nI 0) → Q (-1) σ) ∧ (¬ (σ 0 24) = (nI 0) → ((x1 < (nI 0) → Q (-1) σ) ∧ (¬ x1 < (nI 0) → (((σ 0 26) ≤ x1 → Q (-1) σ) ∧ (¬ (σ 0 26) ≤ x1 → ((x2 < (nI 0) → Q (-1) σ) ∧ (¬ x2 < (nI 0) → (vp_in x1 80 ∧ (((σ 15 x1.toNatClampNeg) ≤ x2 → Q (-1) σ) ∧ (¬ (σ 15 x1.toNatClampNeg) ≤ x2 → (vp_in (((nI 60) * x1) + x2) 4800 ∧ Q (σ 16 (((nI 60) * x1) + x2).toNatClampNeg) σ)))))))))))
abbrev r_X11_sign : Room := { frames := 0, cells := 0, slots := 0, locals := 0 }
def wpl_X11_rivers_30 (x1 x3 : Int32) (K18 : St → Int32 → Int32 → Prop) (Q : Int32 → St → Prop) : Nat → St → Int32 → Int32 → Int32 → Prop
  | 0 => fun _ _ _ _ => False
  | n + 1 => fun σ x2 x4 x5 => ((σ 0 26) < x5 → K18 σ x2 (x3 + nI 1)) ∧ (¬ (σ 0 26) < x5 → (((σ 0 26) ≤ x5 → ((x4 ≤ x1 → wpl_X11_rivers_30 x1 x3 K18 Q n σ x2 (nI 0) (x5 + nI 1)) ∧ (¬ x4 ≤ x1 → wpl_X11_rivers_30 x1 x3 K18 Q n σ (x2 + nI 1) (nI 0) (x5 + nI 1)))) ∧ (¬ (σ 0 26) ≤ x5 → (vp_in x5 80 ∧ (((σ 15 x5.toNatClampNeg) ≤ x3 → ((x4 ≤ x1 → wpl_X11_rivers_30 x1 x3 K18 Q n σ x2 (nI 0) (x5 + nI 1)) ∧ (¬ x4 ≤ x1 → wpl_X11_rivers_30 x1 x3 K18 Q n σ (x2 + nI 1) (nI 0) (x5 + nI 1)))) ∧ (¬ (σ 15 x5.toNatClampNeg) ≤ x3 → (vp_in (((nI 60) * x5) + x3) 4800 ∧ ((¬ (σ 16 (((nI 60) * x5) + x3).toNatClampNeg) = (nI 32) → ((x4 ≤ x1 → wpl_X11_rivers_30 x1 x3 K18 Q n σ x2 (nI 0) (x5 + nI 1)) ∧ (¬ x4 ≤ x1 → wpl_X11_rivers_30 x1 x3 K18 Q n σ (x2 + nI 1) (nI 0) (x5 + nI 1)))) ∧ ((σ 16 (((nI 60) * x5) + x3).toNatClampNeg) = (nI 32) → wpl_X11_rivers_30 x1 x3 K18 Q n σ x2 (x4 + (nI 1)) (x5 + nI 1))))))))))
def wpl_X11_rivers_18 (x1 : Int32) (Q : Int32 → St → Prop) : Nat → St → Int32 → Int32 → Prop
  | 0 => fun _ _ _ => False
  | n + 1 => fun σ x2 x3 => ((nI 60) ≤ x3 → Q x2 σ) ∧ (¬ (nI 60) ≤ x3 → (∃ k22, wpl_X11_rivers_30 x1 x3 (wpl_X11_rivers_18 x1 Q n) Q k22 σ x2 (nI 0) (nI 0)))
def wp_X11_rivers (σ : St) (x1 : Int32) (Q : Int32 → St → Prop) : Prop := ((σ 0 24) = (nI 0) → Q (-1) σ) ∧ (¬ (σ 0 24) = (nI 0) → (((nI 1) ≤ x1 → (∃ k23, wpl_X11_rivers_18 x1 Q k23 σ (nI 0) (nI 0))) ∧ (¬ (nI 1) ≤ x1 → Q (-1) σ)))
abbrev r_X11_rivers : Room := { frames := 0, cells := 0, slots := 0, locals := 0 }
def wp_X11_page (σ : St) (x1 x2 : Int32) (Q : Int32 → St → Prop) : Prop := wp_X11_isIn σ x1 (nI 2) (nI 40) (fun r1 σ2 => (r1 = (nI 0) → Q (nI 0) σ2) ∧ (¬ r1 = (nI 0) → wp_X11_isIn σ2 x2 (nI 2) (nI 7) (fun r4 σ5 => (¬ r4 = (nI 0) → Q (nI 1) (up2 (up2 σ5 0 31 x1) 0 32 x2)) ∧ (r4 = (nI 0) → Q (nI 0) σ5))))
abbrev r_X11_page : Room := { frames := 1, cells := 0, slots := 0, locals := 22 }
def wpl_X11_pageOf_2 (x1 : Int32) (Q : Int32 → St → Prop) : Nat → St → Int32 → Prop
  | 0 => fun _ _ => False
  | n + 1 => fun σ x2 => vp_in x2 80 ∧ (vp_in x2 80 ∧ ((x1 < ((σ 13 x2.toNatClampNeg) + (σ 14 x2.toNatClampNeg)) → ((¬ (σ 0 31) = nI 0) ∧ Q (x2 / (σ 0 31)) σ)) ∧ (¬ x1 < ((σ 13 x2.toNatClampNeg) + (σ 14 x2.toNatClampNeg)) → wpl_X11_pageOf_2 x1 Q n σ (x2 + nI 1))))
def wp_X11_pageOf (σ : St) (x1 : Int32) (Q : Int32 → St → Prop) : Prop := ∃ k2, wpl_X11_pageOf_2 x1 Q k2 σ (nI 0)
abbrev r_X11_pageOf : Room := { frames := 0, cells := 0, slots := 0, locals := 0 }
def wp_X11_mark (σ : St) (x1 : Int32) (Q : Int32 → St → Prop) : Prop := ((σ 0 25) = (nI 0) → Q (-1) σ) ∧ (¬ (σ 0 25) = (nI 0) → ((x1 < (nI 0) → Q (-1) σ) ∧ (¬ x1 < (nI 0) → (((σ 0 0) ≤ x1 → Q (-1) σ) ∧ (¬ (σ 0 0) ≤ x1 → ((¬ (σ 0 33) = (nI 20) → (vp_in (σ 0 33) 20 ∧ wp_X11_pageOf (up2 σ 17 (σ 0 33).toNatClampNeg x1) x1 (fun r5 σ6 => vp_in (σ 0 33) 20 ∧ Q (((σ6 0 33) + (nI 1)) - (nI 1)) (up2 (up2 σ6 18 (σ 0 33).toNatClampNeg r5) 0 33 ((σ6 0 33) + (nI 1)))))) ∧ ((σ 0 33) = (nI 20) → Q (-1) σ)))))))
abbrev r_X11_mark : Room := { frames := 1, cells := 0, slots := 0, locals := 22 }
def wp_X11_marked (σ : St) (x1 x2 : Int32) (Q : Int32 → St → Prop) : Prop := (x1 < (nI 0) → Q (-1) σ) ∧ (¬ x1 < (nI 0) → (((σ 0 33) ≤ x1 → Q (-1) σ) ∧ (¬ (σ 0 33) ≤ x1 → ((x2 < (nI 0) → Q (-1) σ) ∧ (¬ x2 < (nI 0) → ((x2 ≤ (nI 2) → ((¬ x2 = (nI 0) → ((¬ x2 = (nI 1) → (((σ 0 25) = (nI 0) → Q (-1000) σ) ∧ (¬ (σ 0 25) = (nI 0) → (vp_in x1 20 ∧ wp_X11_pageOf σ (σ 17 x1.toNatClampNeg) (fun r8 σ9 => vp_in x1 20 ∧ Q (r8 - (σ9 18 x1.toNatClampNeg)) σ9))))) ∧ (x2 = (nI 1) → (vp_in x1 20 ∧ Q (σ 18 x1.toNatClampNeg) σ)))) ∧ (x2 = (nI 0) → (vp_in x1 20 ∧ Q (σ 17 x1.toNatClampNeg) σ)))) ∧ (¬ x2 ≤ (nI 2) → Q (-1) σ)))))))
abbrev r_X11_marked : Room := { frames := 1, cells := 0, slots := 0, locals := 22 }
def wp_X11_neighbourLong (σ : St) (Q : Int32 → St → Prop) : Prop := (¬ (σ 0 43) = (nI 0) → ((¬ (σ 0 43) = (nI 1) → Q ((σ 0 37) + (nI 0)) σ) ∧ ((σ 0 43) = (nI 1) → Q ((σ 0 37) + (-1)) σ))) ∧ ((σ 0 43) = (nI 0) → Q ((σ 0 37) + (nI 1)) σ)
abbrev r_X11_neighbourLong : Room := { frames := 0, cells := 0, slots := 0, locals := 0 }
def wp_X11_neighbourSpread (σ : St) (Q : Int32 → St → Prop) : Prop := (¬ (σ 0 43) = (nI 2) → ((¬ (σ 0 43) = (nI 3) → Q ((σ 0 38) + (nI 0)) σ) ∧ ((σ 0 43) = (nI 3) → Q ((σ 0 38) + (-1)) σ))) ∧ ((σ 0 43) = (nI 2) → Q ((σ 0 38) + (nI 1)) σ)
abbrev r_X11_neighbourSpread : Room := { frames := 0, cells := 0, slots := 0, locals := 0 }
def wpl_X11_finds_5 (x1 : Int32) (Q : St → Prop) : Nat → St → Prop
  | 0 => fun _ => False
  | n + 1 => fun σ => ((nI 4) ≤ (σ 0 43) → Q (up2 σ 0 40 (nI 0))) ∧ (¬ (nI 4) ≤ (σ 0 43) → wp_X11_neighbourLong σ (fun r2 σ3 => wp_X11_isIn σ3 r2 (nI 0) (nI 10) (fun r4 σ5 => (r4 = (nI 0) → wpl_X11_finds_5 x1 Q n (up2 σ5 0 43 ((σ5 0 43) + (nI 1)))) ∧ (¬ r4 = (nI 0) → wp_X11_neighbourSpread σ5 (fun r7 σ8 => wp_X11_isIn σ8 r7 (nI 0) (nI 2) (fun r9 σ10 => (¬ r9 = (nI 0) → Q (up2 σ10 0 40 (nI 0))) ∧ (r9 = (nI 0) → wpl_X11_finds_5 x1 Q n (up2 σ10 0 43 ((σ10 0 43) + (nI 1))))))))))
def wp_X11_finds (σ : St) (x1 : Int32) (Q : St → Prop) : Prop := ∃ k12, wpl_X11_finds_5 x1 Q k12 (up2 σ 0 43 x1)
abbrev r_X11_finds : Room := { frames := 1, cells := 0, slots := 0, locals := 22 }
def wp_X11_test (σ : St) (x1 x2 x3 : Int32) (Q : Int32 → St → Prop) : Prop := wp_X11_isIn σ x1 (nI 0) (nI 10) (fun r1 σ2 => (r1 = (nI 0) → Q (nI 0) σ2) ∧ (¬ r1 = (nI 0) → wp_X11_isIn σ2 x2 (nI 0) (nI 2) (fun r4 σ5 => (r4 = (nI 0) → Q (nI 0) σ5) ∧ (¬ r4 = (nI 0) → wp_X11_isIn σ5 x3 (nI 1) (nI 9) (fun r7 σ8 => (¬ r7 = (nI 0) → wp_X11_finds (up2 (up2 (up2 (up2 (up2 (up2 σ8 0 36 (nI 1)) 0 37 x1) 0 38 x2) 0 39 x3) 0 41 (nI 0)) 0 42 (nI 0)) (nI 0) (fun σ11 => Q (nI 1) σ11)) ∧ (r7 = (nI 0) → Q (nI 0) σ8))))))
abbrev r_X11_test : Room := { frames := 2, cells := 0, slots := 0, locals := 43 }
def wp_X11_isOver (σ : St) (Q : Int32 → St → Prop) : Prop := ((σ 0 43) = (nI 4) → Q (nI 1) σ) ∧ (¬ (σ 0 43) = (nI 4) → ((¬ (σ 0 41) = (nI 200) → Q (nI 0) σ) ∧ ((σ 0 41) = (nI 200) → Q (nI 1) σ)))
abbrev r_X11_isOver : Room := { frames := 0, cells := 0, slots := 0, locals := 0 }
def wp_X11_tested (σ : St) (x1 : Int32) (Q : Int32 → St → Prop) : Prop := (¬ (σ 0 36) = (nI 0) → ((x1 = nI 0 → Q (σ 0 37) σ) ∧ (¬ x1 = nI 0 → ((x1 = nI 1 → Q (σ 0 38) σ) ∧ (¬ x1 = nI 1 → ((x1 = nI 2 → wp_X11_isOver σ (fun r5 σ6 => (r5 = (nI 0) → wp_X11_neighbourLong σ6 (fun r8 σ9 => Q r8 σ9)) ∧ (¬ r5 = (nI 0) → Q (-1) σ6))) ∧ (¬ x1 = nI 2 → ((x1 = nI 3 → wp_X11_isOver σ (fun r11 σ12 => (r11 = (nI 0) → wp_X11_neighbourSpread σ12 (fun r14 σ15 => Q r14 σ15)) ∧ (¬ r11 = (nI 0) → Q (-1) σ12))) ∧ (¬ x1 = nI 3 → ((x1 = nI 4 → Q (σ 0 41) σ) ∧ (¬ x1 = nI 4 → ((x1 = nI 5 → Q (σ 0 42) σ) ∧ (¬ x1 = nI 5 → Q (-1) σ))))))))))))) ∧ ((σ 0 36) = (nI 0) → Q (-1) σ)
abbrev r_X11_tested : Room := { frames := 1, cells := 0, slots := 0, locals := 20 }
def wpj_X11_answer_40 (x1 : Int32) (s2 s1 : Int32) (Q : Int32 → St → Prop) (σ : St) : Prop := (¬ (s1 + s2) = (σ 0 39) → ((¬ (s1 + s2) = (-(σ 0 39)) → wp_X11_isOver (up2 σ 0 40 (s1 + s2)) (fun r8 σ9 => (r8 = (nI 0) → Q (nI 0) σ9) ∧ (¬ r8 = (nI 0) → Q (nI 3) σ9))) ∧ ((s1 + s2) = (-(σ 0 39)) → wp_X11_neighbourLong (up2 (up2 σ 0 40 (s1 + s2)) 0 42 ((σ 0 42) + (nI 1))) (fun r11 σ12 => wp_X11_neighbourSpread σ12 (fun r13 σ14 => wp_X11_finds (up2 (up2 σ14 0 37 r11) 0 38 r13) (nI 0) (fun σ16 => wp_X11_isOver σ16 (fun r17 σ18 => (r17 = (nI 0) → Q (nI 2) σ18) ∧ (¬ r17 = (nI 0) → Q (nI 3) σ18)))))))) ∧ ((s1 + s2) = (σ 0 39) → wp_X11_finds (up2 (up2 σ 0 40 (s1 + s2)) 0 42 ((σ 0 42) + (nI 1))) ((σ 0 43) + (nI 1)) (fun σ21 => wp_X11_isOver σ21 (fun r22 σ23 => (r22 = (nI 0) → Q (nI 1) σ23) ∧ (¬ r22 = (nI 0) → Q (nI 3) σ23))))
def wp_X11_answer (σ : St) (x1 : Int32) (Q : Int32 → St → Prop) : Prop := ((σ 0 36) = (nI 0) → Q (-1) σ) ∧ (¬ (σ 0 36) = (nI 0) → wp_X11_isOver σ (fun r2 σ3 => (r2 = (nI 0) → ((x1 = (nI 0) → wpj_X11_answer_40 x1 (-1) (σ3 0 40) Q (up2 σ3 0 41 ((σ3 0 41) + (nI 1)))) ∧ (¬ x1 = (nI 0) → wpj_X11_answer_40 x1 (nI 1) (σ3 0 40) Q (up2 σ3 0 41 ((σ3 0 41) + (nI 1)))))) ∧ (¬ r2 = (nI 0) → Q (-1) σ3)))
abbrev r_X11_answer : Room := { frames := 2, cells := 0, slots := 0, locals := 43 }
def wp_X11_use (σ : St) (Q : Int32 → St → Prop) : Prop := (¬ (σ 0 36) = (nI 0) → Q (nI 1) (up2 (up2 σ 0 13 ((nI 20) + ((nI 4) * (σ 0 37)))) 0 14 ((nI 1) + (σ 0 38)))) ∧ ((σ 0 36) = (nI 0) → Q (nI 0) σ)
abbrev r_X11_use : Room := { frames := 0, cells := 0, slots := 0, locals := 0 }
