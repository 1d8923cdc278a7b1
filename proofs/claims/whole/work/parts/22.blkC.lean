theorem bX8_init_0 {Q : Nat → Option Value → Hp → Prop} {h : Hp} {mc ms nc ns : Nat} {a0 tg_6 : Nat} {x1 : Int32} (H : nc ≤ mc ∧ ns ≤ ms ∧ hpK h a0 = 18 ∧ nc + 1 ≤ mc ∧ ns + 10 ≤ ms ∧ Wm mX8_init 6 mc ms Q 21 [some (.ref a0), none] [.ref (hpZ (stI h a0 0 (if (nI 2) < (if x1 < (nI 5) then x1 else (nI 5)) then (if x1 < (nI 5) then x1 else (nI 5)) else (nI 2)))), .ref a0] (stN (stI h a0 0 (if (nI 2) < (if x1 < (nI 5) then x1 else (nI 5)) then (if x1 < (nI 5) then x1 else (nI 5)) else (nI 2))) 16 0 tg_6) (nc + 1) (ns + 10)) : Wm mX8_init 6 mc ms Q 0 [some (.ref a0), some (.int x1)] [] h nc ns := by
  refine rl_aload_n dX8_init_0 rfl rfl ?_
  refine rl_obj dX8_init_1 lkX8_3 oi1 oi2 (by decide) (Nat.le_of_ble_eq_true rfl) ?_
  refine rl_aload_n dX8_init_4 rfl rfl ?_
  refine rl_iconst (v := nI 2) dX8_init_5 (by decide) ?_
  refine rl_iconst (v := nI 5) dX8_init_6 (by decide) ?_
  refine rl_iload_n dX8_init_7 rfl rfl ?_
  obtain ⟨o_1, H⟩ := H
  obtain ⟨o_2, H⟩ := H
  refine rl_min dX8_init_8 lkX8_9 min1 inMath min2 (by decide) (Nat.le_of_ble_eq_true rfl) o_1 o_2 ?_
  refine rl_max dX8_init_11 lkX8_15 max1 inMath max2 (by decide) (Nat.le_of_ble_eq_true rfl) o_1 o_2 ?_
  obtain ⟨o_3, H⟩ := H
  refine rl_putI (k := 0) cfX8 dX8_init_14 flX8_18 (by decide) rfl o_3 (Or.inr ⟨rfl, rfl⟩) ?_
  refine rl_aload_n dX8_init_17 rfl rfl ?_
  obtain ⟨o_4, H⟩ := H
  obtain ⟨o_5, H⟩ := H
  refine rl_new tg_6 cfX6 cgX6 dX8_init_18 clX8_22 o_4 o_5 ?_
  refine rl_wk (L' := [some (.ref a0), none]) ⟨rfl, trivial⟩ ?_
  exact H
theorem bX8_init_21 {Q : Nat → Option Value → Hp → Prop} {h : Hp} {mc ms nc ns : Nat} {a0 as0 as1 mcn msn : Nat} (H : hpK h a0 = 18 ∧ nc + mcn ≤ mc ∧ ns + msn ≤ ms ∧ CKv mX6_init 4 mcn msn [some (.ref as1), some (.int (hpI h a0 0)), none] h (fun h' => Wm mX8_init 6 mc ms Q 29 [some (.ref a0), none] [.ref as1, .ref as0] h' (nc + mcn) (ns + msn))) : Wm mX8_init 6 mc ms Q 21 [some (.ref a0), none] [.ref as1, .ref as0] h nc ns := by
  refine rl_dup dX8_init_21 rfl ?_
  refine rl_aload_n dX8_init_22 rfl rfl ?_
  obtain ⟨o_1, H⟩ := H
  refine rl_getI (k := 0) cfX8 dX8_init_23 flX8_18 (by decide) rfl o_1 ?_
  obtain ⟨o_2, H⟩ := H
  obtain ⟨o_3, H⟩ := H
  exact rl_callI (As := [.int (hpI h a0 0)]) (rest := [.ref as1, .ref as0]) mfX6_init dX8_init_26 lkX8_24 (by decide) (Nat.le_of_ble_eq_true rfl) o_2 o_3 rfl (Nat.le_of_ble_eq_true rfl) rfl rfl (fun Qc k => H Qc (fun h' w => k none h' w))
theorem bX8_init_29 {Q : Nat → Option Value → Hp → Prop} {h : Hp} {mc ms nc ns : Nat} {a0 as0 as1 tg_4 : Nat} (H : hpK h as0 = 18 ∧ nc + 1 ≤ mc ∧ ns + 3 ≤ ms ∧ Wm mX8_init 6 mc ms Q 36 [some (.ref a0), none] [.ref (hpZ (stP h as0 1 (some as1))), .ref a0] (stN (stP h as0 1 (some as1)) 11 0 tg_4) (nc + 1) (ns + 3)) : Wm mX8_init 6 mc ms Q 29 [some (.ref a0), none] [.ref as1, .ref as0] h nc ns := by
  obtain ⟨o_1, H⟩ := H
  refine rl_putP (k := 1) cfX8 dX8_init_29 flX8_27 (by decide) rfl o_1 (Or.inr ⟨rfl, rfl⟩) rfl rfl ?_
  refine rl_aload_n dX8_init_32 rfl rfl ?_
  obtain ⟨o_2, H⟩ := H
  obtain ⟨o_3, H⟩ := H
  refine rl_new tg_4 cfX1 cgX1 dX8_init_33 clX8_31 o_2 o_3 ?_
  exact H
theorem bX8_init_36 {Q : Nat → Option Value → Hp → Prop} {h : Hp} {mc ms nc ns : Nat} {a0 as0 as1 mcn msn : Nat} (H : hpK h a0 = 18 ∧ nc + mcn ≤ mc ∧ ns + msn ≤ ms ∧ CKv mX1_init 5 mcn msn [some (.ref as1), some (.int (hpI h a0 0)), none] h (fun h' => Wm mX8_init 6 mc ms Q 44 [some (.ref a0), none] [.ref as1, .ref as0] h' (nc + mcn) (ns + msn))) : Wm mX8_init 6 mc ms Q 36 [some (.ref a0), none] [.ref as1, .ref as0] h nc ns := by
  refine rl_dup dX8_init_36 rfl ?_
  refine rl_aload_n dX8_init_37 rfl rfl ?_
  obtain ⟨o_1, H⟩ := H
  refine rl_getI (k := 0) cfX8 dX8_init_38 flX8_18 (by decide) rfl o_1 ?_
  obtain ⟨o_2, H⟩ := H
  obtain ⟨o_3, H⟩ := H
  exact rl_callI (As := [.int (hpI h a0 0)]) (rest := [.ref as1, .ref as0]) mfX1_init dX8_init_41 lkX8_33 (by decide) (Nat.le_of_ble_eq_true rfl) o_2 o_3 rfl (Nat.le_of_ble_eq_true rfl) rfl rfl (fun Qc k => H Qc (fun h' w => k none h' w))
theorem bX8_init_44 {Q : Nat → Option Value → Hp → Prop} {h : Hp} {mc ms nc ns : Nat} {a0 as0 as1 tg_4 : Nat} (H : hpK h as0 = 18 ∧ nc + 1 ≤ mc ∧ ns + 5 ≤ ms ∧ Wm mX8_init 6 mc ms Q 51 [some (.ref a0), none] [.ref (hpZ (stP h as0 2 (some as1))), .ref a0] (stN (stP h as0 2 (some as1)) 14 0 tg_4) (nc + 1) (ns + 5)) : Wm mX8_init 6 mc ms Q 44 [some (.ref a0), none] [.ref as1, .ref as0] h nc ns := by
  obtain ⟨o_1, H⟩ := H
  refine rl_putP (k := 2) cfX8 dX8_init_44 flX8_34 (by decide) rfl o_1 (Or.inr ⟨rfl, rfl⟩) rfl rfl ?_
  refine rl_aload_n dX8_init_47 rfl rfl ?_
  obtain ⟨o_2, H⟩ := H
  obtain ⟨o_3, H⟩ := H
  refine rl_new tg_4 cfX4 cgX4 dX8_init_48 clX8_38 o_2 o_3 ?_
  exact H
theorem bX8_init_51 {Q : Nat → Option Value → Hp → Prop} {h : Hp} {mc ms nc ns : Nat} {a0 as0 as1 mcn msn : Nat} (H : nc + mcn ≤ mc ∧ ns + msn ≤ ms ∧ CKv mX4_init 2 mcn msn [some (.ref as1), none] h (fun h' => Wm mX8_init 6 mc ms Q 55 [some (.ref a0), none] [.ref as1, .ref as0] h' (nc + mcn) (ns + msn))) : Wm mX8_init 6 mc ms Q 51 [some (.ref a0), none] [.ref as1, .ref as0] h nc ns := by
  refine rl_dup dX8_init_51 rfl ?_
  obtain ⟨o_1, H⟩ := H
  obtain ⟨o_2, H⟩ := H
  exact rl_callI (As := []) (rest := [.ref as1, .ref as0]) mfX4_init dX8_init_52 lkX8_40 (by decide) (Nat.le_of_ble_eq_true rfl) o_1 o_2 rfl (Nat.le_of_ble_eq_true rfl) rfl rfl (fun Qc k => H Qc (fun h' w => k none h' w))
theorem bX8_init_55 {Q : Nat → Option Value → Hp → Prop} {h : Hp} {mc ms nc ns : Nat} {a0 as0 as1 : Nat} (H : hpK h as0 = 18 ∧ hpK h a0 = 18 ∧ ∃ p_3 : Nat, hpP (stP h as0 3 (some as1)) a0 1 = some p_3 ∧ (nc + 0 ≤ mc ∧ ns + 0 ≤ ms ∧ hpK h p_3 = 16 ∧ CKv mX6_beginAnew 2 0 0 [some (.ref p_3), some (.int (nI 0)), some (.int (nI 100)), some (.int (nI 50)), none] (stP h as0 3 (some as1)) (fun h' => Wm mX8_init 6 mc ms Q 70 [none, none] [] h' nc ns))) : Wm mX8_init 6 mc ms Q 55 [some (.ref a0), none] [.ref as1, .ref as0] h nc ns := by
  obtain ⟨o_1, H⟩ := H
  refine rl_putP (k := 3) cfX8 dX8_init_55 flX8_41 (by decide) rfl o_1 (Or.inr ⟨rfl, rfl⟩) rfl rfl ?_
  refine rl_aload_n dX8_init_58 rfl rfl ?_
  obtain ⟨o_2, H⟩ := H
  obtain ⟨p_3, e_4, H⟩ := H
  refine rl_getP (k := 1) cfX8 dX8_init_59 flX8_27 (by decide) rfl o_2 e_4 ?_
  refine rl_iconst (v := nI 0) dX8_init_62 (by decide) ?_
  refine rl_bipush (v := nI 100) dX8_init_63 (by decide) ?_
  refine rl_bipush (v := nI 50) dX8_init_65 (by decide) ?_
  obtain ⟨o_5, H⟩ := H
  obtain ⟨o_6, H⟩ := H
  obtain ⟨o_7, H⟩ := H
  exact rl_callV (As := [.int (nI 0), .int (nI 100), .int (nI 50)]) (rest := []) mfX6_beginAnew dX8_init_67 lkX8_45 o_7 (by decide) (Nat.le_of_ble_eq_true rfl) o_5 o_6 rfl (Nat.le_of_ble_eq_true rfl) rfl rfl (fun Qc k => H Qc (fun h' w => k none h' (rl_wk (L' := [none, none]) trivial w)))
theorem bX8_init_70 {Q : Nat → Option Value → Hp → Prop} {h : Hp} {mc ms nc ns : Nat}  (H : nc ≤ mc ∧ ns ≤ ms ∧ Q 0 none h) : Wm mX8_init 6 mc ms Q 70 [none, none] [] h nc ns := by
  obtain ⟨o_1, H⟩ := H
  obtain ⟨o_2, H⟩ := H
  exact rl_vret dX8_init_70 rfl o_1 o_2 H
theorem bX8_sites_0 {Q : Nat → Option Value → Hp → Prop} {h : Hp} {a0 : Nat} (H : hpK h a0 = 18 ∧ Q 0 (some (.int (hpI h a0 0))) h) : Wm mX8_sites 0 0 0 Q 0 [some (.ref a0)] [] h 0 0 := by
  refine rl_aload_n dX8_sites_0 rfl rfl ?_
  obtain ⟨o_1, H⟩ := H
  refine rl_getI (k := 0) cfX8 dX8_sites_1 flX8_18 (by decide) rfl o_1 ?_
  exact rl_iret dX8_sites_4 rfl (Nat.le_refl 0) (Nat.le_refl 0) H
theorem bX8_messages_0 {Q : Nat → Option Value → Hp → Prop} {h : Hp} {a0 : Nat} (H : hpK h a0 = 18 ∧ ∃ p_2 : Nat, hpP h a0 1 = some p_2 ∧ (hpK h p_2 = 16 ∧ Q 0 (some (.int (hpI h p_2 6))) h)) : Wm mX8_messages 0 0 0 Q 0 [some (.ref a0)] [] h 0 0 := by
  refine rl_aload_n dX8_messages_0 rfl rfl ?_
  obtain ⟨o_1, H⟩ := H
  obtain ⟨p_2, e_3, H⟩ := H
  refine rl_getP (k := 1) cfX8 dX8_messages_1 flX8_27 (by decide) rfl o_1 e_3 ?_
  obtain ⟨o_4, H⟩ := H
  refine rl_getI (k := 6) cfX6 dX8_messages_4 flX8_132 (by decide) rfl o_4 ?_
  exact rl_iret dX8_messages_7 rfl (Nat.le_refl 0) (Nat.le_refl 0) H
theorem bX8_time_0 {Q : Nat → Option Value → Hp → Prop} {h : Hp} {a0 : Nat} (H : hpK h a0 = 18 ∧ ∃ p_2 : Nat, hpP h a0 1 = some p_2 ∧ (hpK h p_2 = 16 ∧ Q 0 (some (.int (hpI h p_2 4))) h)) : Wm mX8_time 0 0 0 Q 0 [some (.ref a0)] [] h 0 0 := by
  refine rl_aload_n dX8_time_0 rfl rfl ?_
  obtain ⟨o_1, H⟩ := H
  obtain ⟨p_2, e_3, H⟩ := H
  refine rl_getP (k := 1) cfX8 dX8_time_1 flX8_27 (by decide) rfl o_1 e_3 ?_
  obtain ⟨o_4, H⟩ := H
  refine rl_getI (k := 4) cfX6 dX8_time_4 flX8_114 (by decide) rfl o_4 ?_
  exact rl_iret dX8_time_7 rfl (Nat.le_refl 0) (Nat.le_refl 0) H
theorem bX8_value_0 {Q : Nat → Option Value → Hp → Prop} {h : Hp} {a0 : Nat} (H : hpK h a0 = 18 ∧ ∃ p_2 : Nat, hpP h a0 1 = some p_2 ∧ (hpK h p_2 = 16 ∧ CKi mX6_trueValue 1 0 0 [some (.ref p_2), none, none, none] h (fun v h' => Wm mX8_value 2 0 0 Q 7 [none] [.int v] h' 0 0))) : Wm mX8_value 2 0 0 Q 0 [some (.ref a0)] [] h 0 0 := by
  refine rl_aload_n dX8_value_0 rfl rfl ?_
  obtain ⟨o_1, H⟩ := H
  obtain ⟨p_2, e_3, H⟩ := H
  refine rl_getP (k := 1) cfX8 dX8_value_1 flX8_27 (by decide) rfl o_1 e_3 ?_
  obtain ⟨o_4, H⟩ := H
  exact rl_callV (As := []) (rest := []) mfX6_trueValue dX8_value_4 lkX8_56 o_4 (by decide) (Nat.le_of_ble_eq_true rfl) (Nat.le_refl _) (Nat.le_refl _) rfl (Nat.le_of_ble_eq_true rfl) rfl rfl (fun Qc k => H Qc (fun v h' w => k (some (.int v)) h' (rl_wk (L' := [none]) trivial w)))
theorem bX8_value_7 {Q : Nat → Option Value → Hp → Prop} {h : Hp} {xs0 : Int32} (H : Q 0 (some (.int xs0)) h) : Wm mX8_value 2 0 0 Q 7 [none] [.int xs0] h 0 0 := by
  exact rl_iret dX8_value_7 rfl (Nat.le_refl 0) (Nat.le_refl 0) H
theorem bX8_loans_0 {Q : Nat → Option Value → Hp → Prop} {h : Hp} {a0 : Nat} (H : hpK h a0 = 18 ∧ ∃ p_2 : Nat, hpP h a0 1 = some p_2 ∧ (hpK h p_2 = 16 ∧ Q 0 (some (.int (hpI h p_2 5))) h)) : Wm mX8_loans 0 0 0 Q 0 [some (.ref a0)] [] h 0 0 := by
  refine rl_aload_n dX8_loans_0 rfl rfl ?_
  obtain ⟨o_1, H⟩ := H
  obtain ⟨p_2, e_3, H⟩ := H
  refine rl_getP (k := 1) cfX8 dX8_loans_1 flX8_27 (by decide) rfl o_1 e_3 ?_
  obtain ⟨o_4, H⟩ := H
  refine rl_getI (k := 5) cfX6 dX8_loans_4 flX8_195 (by decide) rfl o_4 ?_
  exact rl_iret dX8_loans_7 rfl (Nat.le_refl 0) (Nat.le_refl 0) H
theorem bX8_clearText_0 {Q : Nat → Option Value → Hp → Prop} {h : Hp} {a0 : Nat} (H : hpK h a0 = 18 ∧ ∃ p_2 : Nat, hpP h a0 3 = some p_2 ∧ (hpK h p_2 = 14 ∧ Q 0 (some (.int (hpI h p_2 2))) (stI h p_2 2 (nI 0)))) : Wm mX8_clearText 0 0 0 Q 0 [some (.ref a0), none] [] h 0 0 := by
  refine rl_aload_n dX8_clearText_0 rfl rfl ?_
  obtain ⟨o_1, H⟩ := H
  obtain ⟨p_2, e_3, H⟩ := H
  refine rl_getP (k := 3) cfX8 dX8_clearText_1 flX8_41 (by decide) rfl o_1 e_3 ?_
  obtain ⟨o_4, H⟩ := H
  refine rl_getI (k := 2) cfX4 dX8_clearText_4 flX8_211 (by decide) rfl o_4 ?_
  refine rl_istore_n (L' := [some (.ref a0), some (.int (hpI h p_2 2))]) dX8_clearText_7 rfl (Nat.le_of_ble_eq_true rfl) rfl ?_
  refine rl_aload_n dX8_clearText_8 rfl rfl ?_
  refine rl_getP (k := 3) cfX8 dX8_clearText_9 flX8_41 (by decide) rfl o_1 e_3 ?_
  refine rl_iconst (v := nI 0) dX8_clearText_12 (by decide) ?_
  refine rl_putI (k := 2) cfX4 dX8_clearText_13 flX8_211 (by decide) rfl o_4 (Or.inl rfl) ?_
  refine rl_iload_n dX8_clearText_16 rfl rfl ?_
  exact rl_iret dX8_clearText_17 rfl (Nat.le_refl 0) (Nat.le_refl 0) H
theorem bX8_runScript_0 {Q : Nat → Option Value → Hp → Prop} {h : Hp} {a0 : Nat} (H : hpK h a0 = 18 ∧ ∃ p_2 : Nat, hpP h a0 3 = some p_2 ∧ (hpK h p_2 = 14 ∧ CKi mX4_read 3 0 0 [some (.ref p_2)] h (fun v h' => Wm mX8_runScript 6 0 0 Q 7 [some (.ref a0), none, none] [.int v] h' 0 0))) : Wm mX8_runScript 6 0 0 Q 0 [some (.ref a0), none, none] [] h 0 0 := by
  refine rl_aload_n dX8_runScript_0 rfl rfl ?_
  obtain ⟨o_1, H⟩ := H
  obtain ⟨p_2, e_3, H⟩ := H
  refine rl_getP (k := 3) cfX8 dX8_runScript_1 flX8_41 (by decide) rfl o_1 e_3 ?_
  obtain ⟨o_4, H⟩ := H
  exact rl_callV (As := []) (rest := []) mfX4_read dX8_runScript_4 lkX8_219 o_4 (by decide) (Nat.le_of_ble_eq_true rfl) (Nat.le_refl _) (Nat.le_refl _) rfl (Nat.le_of_ble_eq_true rfl) rfl rfl (fun Qc k => H Qc (fun v h' w => k (some (.int v)) h' w))
theorem bX8_runScript_7 {Q : Nat → Option Value → Hp → Prop} {h : Hp} {a0 : Nat} {xs0 : Int32} (H : ((xs0 = (-1) → hpK h a0 = 18 ∧ ∃ p_3 : Nat, hpP h a0 2 = some p_3 ∧ (∃ p_5 : Nat, hpP h a0 1 = some p_5 ∧ (hpK h p_3 = 11 ∧ CKv mX1_save 5 0 0 [some (.ref p_3), some (.ref p_5)] h (fun h' => Wm mX8_runScript 6 0 0 Q 28 [some (.ref a0), none, none] [] h' 0 0)))) ∧ (¬ xs0 = (-1) → Q 0 (some (.int ((-1) - xs0))) h))) : Wm mX8_runScript 6 0 0 Q 7 [some (.ref a0), none, none] [.int xs0] h 0 0 := by
  refine rl_istore_n (L' := [some (.ref a0), some (.int xs0), none]) dX8_runScript_7 rfl (Nat.le_of_ble_eq_true rfl) rfl ?_
  refine rl_iload_n dX8_runScript_8 rfl rfl ?_
  refine rl_iconst (v := -1) dX8_runScript_9 (by decide) ?_
  refine rl_icmp_eq (tgt := 17) dX8_runScript_10 (by decide) (fun c_1 => ?_) (fun c_1 => ?_)
  · have H := H.1 c_1
    refine rl_aload_n dX8_runScript_17 rfl rfl ?_
    obtain ⟨o_2, H⟩ := H
    obtain ⟨p_3, e_4, H⟩ := H
    refine rl_getP (k := 2) cfX8 dX8_runScript_18 flX8_34 (by decide) rfl o_2 e_4 ?_
    refine rl_aload_n dX8_runScript_21 rfl rfl ?_
    obtain ⟨p_5, e_6, H⟩ := H
    refine rl_getP (k := 1) cfX8 dX8_runScript_22 flX8_27 (by decide) rfl o_2 e_6 ?_
    obtain ⟨o_7, H⟩ := H
    exact rl_callV (As := [.ref p_5]) (rest := []) mfX1_save dX8_runScript_25 lkX8_98 o_7 (by decide) (Nat.le_of_ble_eq_true rfl) (Nat.le_refl _) (Nat.le_refl _) rfl (Nat.le_of_ble_eq_true rfl) rfl rfl (fun Qc k => H Qc (fun h' w => k none h' (rl_wk (L' := [some (.ref a0), none, none]) ⟨rfl, trivial⟩ w)))
  · have H := H.2 c_1
    refine rl_iconst (v := -1) dX8_runScript_13 (by decide) ?_
    refine rl_iload_n dX8_runScript_14 rfl rfl ?_
    refine rl_isub dX8_runScript_15 ?_
    exact rl_iret dX8_runScript_16 rfl (Nat.le_refl 0) (Nat.le_refl 0) H
theorem bX8_runScript_28 {Q : Nat → Option Value → Hp → Prop} {h : Hp} {a0 : Nat} (H : Wm mX8_runScript 6 0 0 Q 30 [some (.ref a0), none, some (.int (nI 0))] [] h 0 0) : Wm mX8_runScript 6 0 0 Q 28 [some (.ref a0), none, none] [] h 0 0 := by
  refine rl_iconst (v := nI 0) dX8_runScript_28 (by decide) ?_
  refine rl_istore_n (L' := [some (.ref a0), none, some (.int (nI 0))]) dX8_runScript_29 rfl (Nat.le_of_ble_eq_true rfl) rfl ?_
  exact H
theorem bX8_runScript_30 {Q : Nat → Option Value → Hp → Prop} {h : Hp} {a0 : Nat} {x2 : Int32} (H : hpK h a0 = 18 ∧ ∃ p_2 : Nat, hpP h a0 3 = some p_2 ∧ (hpK h p_2 = 14 ∧ (((hpI h p_2 3) ≤ x2 → (∃ p_6 : Nat, hpP h a0 2 = some p_6 ∧ (hpK h p_6 = 11 ∧ CKv mX1_keep 0 0 0 [some (.ref p_6)] h (fun h' => Wm mX8_runScript 6 0 0 Q 87 [some (.ref a0), none, none] [] h' 0 0)))) ∧ (¬ (hpI h p_2 3) ≤ x2 → (∃ p_9 : Nat, hpP h p_2 1 = some p_9 ∧ (hpK h p_9 = 30 ∧ vp_in x2 (hpN h p_9) ∧ ∃ p_13 : Nat, hpP h p_9 (x2).toNatClampNeg = some p_13 ∧ (CKi mX8_runCommand 5 0 0 [some (.ref a0), some (.ref p_13)] h (fun v h' => Wm mX8_runScript 6 0 0 Q 54 [some (.ref a0), none, some (.int x2)] [.int v] h' 0 0)))))))) : Wm mX8_runScript 6 0 0 Q 30 [some (.ref a0), none, some (.int x2)] [] h 0 0 := by
  refine rl_iload_n dX8_runScript_30 rfl rfl ?_
  refine rl_aload_n dX8_runScript_31 rfl rfl ?_
  obtain ⟨o_1, H⟩ := H
  obtain ⟨p_2, e_3, H⟩ := H
  refine rl_getP (k := 3) cfX8 dX8_runScript_32 flX8_41 (by decide) rfl o_1 e_3 ?_
  obtain ⟨o_4, H⟩ := H
  refine rl_getI (k := 3) cfX4 dX8_runScript_35 flX8_222 (by decide) rfl o_4 ?_
  refine rl_icmp_ge (tgt := 80) dX8_runScript_38 (by decide) (fun c_5 => ?_) (fun c_5 => ?_)
  · have H := H.1 c_5
    refine rl_aload_n dX8_runScript_80 rfl rfl ?_
    obtain ⟨p_6, e_7, H⟩ := H
    refine rl_getP (k := 2) cfX8 dX8_runScript_81 flX8_34 (by decide) rfl o_1 e_7 ?_
    obtain ⟨o_8, H⟩ := H
    exact rl_callV (As := []) (rest := []) mfX1_keep dX8_runScript_84 lkX8_104 o_8 (by decide) (Nat.le_of_ble_eq_true rfl) (Nat.le_refl _) (Nat.le_refl _) rfl (Nat.le_of_ble_eq_true rfl) rfl rfl (fun Qc k => H Qc (fun h' w => k none h' (rl_wk (L' := [some (.ref a0), none, none]) ⟨rfl, trivial⟩ w)))
  · have H := H.2 c_5
    refine rl_aload_n dX8_runScript_41 rfl rfl ?_
    refine rl_aload_n dX8_runScript_42 rfl rfl ?_
    refine rl_getP (k := 3) cfX8 dX8_runScript_43 flX8_41 (by decide) rfl o_1 e_3 ?_
    obtain ⟨p_9, e_10, H⟩ := H
    refine rl_getP (k := 1) cfX4 dX8_runScript_46 flX8_225 (by decide) rfl o_4 e_10 ?_
    refine rl_iload_n dX8_runScript_49 rfl rfl ?_
    obtain ⟨o_11, H⟩ := H
    obtain ⟨o_12, H⟩ := H
    obtain ⟨p_13, e_14, H⟩ := H
    refine rl_aald (ci := 0) dX8_runScript_50 rfl o_11 o_12 e_14 ?_
    exact rl_callV (As := [.ref p_13]) (rest := []) mfX8_runCommand dX8_runScript_51 lkX8_229 o_1 (by decide) (Nat.le_of_ble_eq_true rfl) (Nat.le_refl _) (Nat.le_refl _) rfl (Nat.le_of_ble_eq_true rfl) rfl rfl (fun Qc k => H Qc (fun v h' w => k (some (.int v)) h' w))
theorem bX8_runScript_54 {Q : Nat → Option Value → Hp → Prop} {h : Hp} {a0 : Nat} {x2 xs0 : Int32} (H : ((¬ xs0 = 0 → Wm mX8_runScript 6 0 0 Q 30 [some (.ref a0), none, some (.int (x2 + nI 1))] [] h 0 0) ∧ (xs0 = 0 → hpK h a0 = 18 ∧ ∃ p_3 : Nat, hpP h a0 2 = some p_3 ∧ (∃ p_5 : Nat, hpP h a0 1 = some p_5 ∧ (hpK h p_3 = 11 ∧ CKv mX1_bringBackSaved 5 0 0 [some (.ref p_3), some (.ref p_5)] h (fun h' => Wm mX8_runScript 6 0 0 Q 68 [none, none, some (.int x2)] [] h' 0 0)))))) : Wm mX8_runScript 6 0 0 Q 54 [some (.ref a0), none, some (.int x2)] [.int xs0] h 0 0 := by
  refine rl_if_ne (tgt := 74) dX8_runScript_54 (by decide) (fun c_1 => ?_) (fun c_1 => ?_)
  · have H := H.1 c_1
    refine rl_iinc (v := x2 + nI 1) (L' := [some (.ref a0), none, some (.int (x2 + nI 1))]) dX8_runScript_74 rfl (congrArg (fun z => x2 + z) (by decide)) (Nat.le_of_ble_eq_true rfl) rfl ?_
    refine rl_goto (tgt := 30) dX8_runScript_77 (by decide) ?_
    exact H
  · have H := H.2 c_1
    refine rl_aload_n dX8_runScript_57 rfl rfl ?_
    obtain ⟨o_2, H⟩ := H
    obtain ⟨p_3, e_4, H⟩ := H
    refine rl_getP (k := 2) cfX8 dX8_runScript_58 flX8_34 (by decide) rfl o_2 e_4 ?_
    refine rl_aload_n dX8_runScript_61 rfl rfl ?_
    obtain ⟨p_5, e_6, H⟩ := H
    refine rl_getP (k := 1) cfX8 dX8_runScript_62 flX8_27 (by decide) rfl o_2 e_6 ?_
    obtain ⟨o_7, H⟩ := H
    exact rl_callV (As := [.ref p_5]) (rest := []) mfX1_bringBackSaved dX8_runScript_65 lkX8_233 o_7 (by decide) (Nat.le_of_ble_eq_true rfl) (Nat.le_refl _) (Nat.le_refl _) rfl (Nat.le_of_ble_eq_true rfl) rfl rfl (fun Qc k => H Qc (fun h' w => k none h' (rl_wk (L' := [none, none, some (.int x2)]) ⟨rfl, trivial⟩ w)))
theorem bX8_runScript_68 {Q : Nat → Option Value → Hp → Prop} {h : Hp} {x2 : Int32} (H : Q 0 (some (.int ((-1000) - x2))) h) : Wm mX8_runScript 6 0 0 Q 68 [none, none, some (.int x2)] [] h 0 0 := by
  refine rl_sipush (v := -1000) dX8_runScript_68 (by decide) ?_
  refine rl_iload_n dX8_runScript_71 rfl rfl ?_
  refine rl_isub dX8_runScript_72 ?_
  exact rl_iret dX8_runScript_73 rfl (Nat.le_refl 0) (Nat.le_refl 0) H
theorem bX8_runScript_87 {Q : Nat → Option Value → Hp → Prop} {h : Hp} {a0 : Nat} (H : hpK h a0 = 18 ∧ ∃ p_2 : Nat, hpP h a0 3 = some p_2 ∧ (hpK h p_2 = 14 ∧ Q 0 (some (.int (hpI (stI h p_2 2 (nI 0)) p_2 3))) (stI h p_2 2 (nI 0)))) : Wm mX8_runScript 6 0 0 Q 87 [some (.ref a0), none, none] [] h 0 0 := by
  refine rl_aload_n dX8_runScript_87 rfl rfl ?_
  obtain ⟨o_1, H⟩ := H
  obtain ⟨p_2, e_3, H⟩ := H
  refine rl_getP (k := 3) cfX8 dX8_runScript_88 flX8_41 (by decide) rfl o_1 e_3 ?_
  refine rl_iconst (v := nI 0) dX8_runScript_91 (by decide) ?_
  obtain ⟨o_4, H⟩ := H
  refine rl_putI (k := 2) cfX4 dX8_runScript_92 flX8_211 (by decide) rfl o_4 (Or.inl rfl) ?_
  refine rl_aload_n dX8_runScript_95 rfl rfl ?_
  refine rl_getP (k := 3) cfX8 dX8_runScript_96 flX8_41 (by decide) rfl o_1 e_3 ?_
  refine rl_getI (k := 3) cfX4 dX8_runScript_99 flX8_222 (by decide) rfl o_4 ?_
  exact rl_iret dX8_runScript_102 rfl (Nat.le_refl 0) (Nat.le_refl 0) H
theorem bX8_runCommand_0 {Q : Nat → Option Value → Hp → Prop} {h : Hp} {a0 a1 : Nat} (H : hpK h a1 = 10 ∧ (((hpI h a1 0) = nI 43 → hpK h a0 = 18 ∧ CKi mX8_changeFault 1 0 0 [some (.ref a0), some (.int (hpI h a1 1)), some (.int (hpI h a1 3))] h (fun v h' => Wm mX8_runCommand 5 0 0 Q 76 [some (.ref a0), some (.ref a1)] [.int v] h' 0 0)) ∧ ((hpI h a1 0) = nI 45 → hpK h a0 = 18 ∧ CKi mX8_changeFault 1 0 0 [some (.ref a0), some (.int (hpI h a1 1)), some (.int (hpI h a1 3))] h (fun v h' => Wm mX8_runCommand 5 0 0 Q 116 [some (.ref a0), some (.ref a1)] [.int v] h' 0 0)) ∧ ((hpI h a1 0) = nI 100 → hpK h a0 = 18 ∧ CKi mX8_runTransfer 4 0 0 [some (.ref a0), some (.int (nI 1)), some (.ref a1)] h (fun v h' => Wm mX8_runCommand 5 0 0 Q 157 [none, none] [.int v] h' 0 0)) ∧ ((hpI h a1 0) = nI 109 → hpK h a0 = 18 ∧ CKi mX8_runMessage 4 0 0 [some (.ref a0), some (.ref a1)] h (fun v h' => Wm mX8_runCommand 5 0 0 Q 163 [none, none] [.int v] h' 0 0)) ∧ ((hpI h a1 0) = nI 116 → hpK h a0 = 18 ∧ CKi mX8_runPass 2 0 0 [some (.ref a0), some (.ref a1)] h (fun v h' => Wm mX8_runCommand 5 0 0 Q 169 [none, none] [.int v] h' 0 0)) ∧ ((hpI h a1 0) = nI 117 → hpK h a0 = 18 ∧ CKi mX8_runTransfer 4 0 0 [some (.ref a0), some (.int (nI 0)), some (.ref a1)] h (fun v h' => Wm mX8_runCommand 5 0 0 Q 150 [none, none] [.int v] h' 0 0)) ∧ (¬ (hpI h a1 0) = nI 43 → ¬ (hpI h a1 0) = nI 45 → ¬ (hpI h a1 0) = nI 100 → ¬ (hpI h a1 0) = nI 109 → ¬ (hpI h a1 0) = nI 116 → ¬ (hpI h a1 0) = nI 117 → Q 0 (some (.int (nI 0))) h))) : Wm mX8_runCommand 5 0 0 Q 0 [some (.ref a0), some (.ref a1)] [] h 0 0 := by
  refine rl_aload_n dX8_runCommand_0 rfl rfl ?_
  obtain ⟨o_1, H⟩ := H
  refine rl_getI (k := 0) cfX0 dX8_runCommand_1 flX8_253 (by decide) rfl o_1 ?_
  by_cases c_2 : (hpI h a1 0) = nI 43
  · have H := (H.1) c_2
    refine rl_lookup (tgt := 64) dX8_runCommand_4 (by decide) (by rw [c_2]; decide) ?_
    refine rl_aload_n dX8_runCommand_64 rfl rfl ?_
    refine rl_aload_n dX8_runCommand_65 rfl rfl ?_
    refine rl_getI (k := 1) cfX0 dX8_runCommand_66 flX8_258 (by decide) rfl o_1 ?_
    refine rl_aload_n dX8_runCommand_69 rfl rfl ?_
    refine rl_getI (k := 3) cfX0 dX8_runCommand_70 flX8_261 (by decide) rfl o_1 ?_
    obtain ⟨o_3, H⟩ := H
    exact rl_callV (As := [.int (hpI h a1 1), .int (hpI h a1 3)]) (rest := []) mfX8_changeFault dX8_runCommand_73 lkX8_63 o_3 (by decide) (Nat.le_of_ble_eq_true rfl) (Nat.le_refl _) (Nat.le_refl _) rfl (Nat.le_of_ble_eq_true rfl) rfl rfl (fun Qc k => H Qc (fun v h' w => k (some (.int v)) h' w))
  by_cases c_4 : (hpI h a1 0) = nI 45
  · have H := (H.2.1) c_4
    refine rl_lookup (tgt := 104) dX8_runCommand_4 (by decide) (by rw [c_4]; decide) ?_
    refine rl_aload_n dX8_runCommand_104 rfl rfl ?_
    refine rl_aload_n dX8_runCommand_105 rfl rfl ?_
    refine rl_getI (k := 1) cfX0 dX8_runCommand_106 flX8_258 (by decide) rfl o_1 ?_
    refine rl_aload_n dX8_runCommand_109 rfl rfl ?_
    refine rl_getI (k := 3) cfX0 dX8_runCommand_110 flX8_261 (by decide) rfl o_1 ?_
    obtain ⟨o_5, H⟩ := H
    exact rl_callV (As := [.int (hpI h a1 1), .int (hpI h a1 3)]) (rest := []) mfX8_changeFault dX8_runCommand_113 lkX8_63 o_5 (by decide) (Nat.le_of_ble_eq_true rfl) (Nat.le_refl _) (Nat.le_refl _) rfl (Nat.le_of_ble_eq_true rfl) rfl rfl (fun Qc k => H Qc (fun v h' w => k (some (.int v)) h' w))
  by_cases c_6 : (hpI h a1 0) = nI 100
  · have H := (H.2.2.1) c_6
    refine rl_lookup (tgt := 151) dX8_runCommand_4 (by decide) (by rw [c_6]; decide) ?_
    refine rl_aload_n dX8_runCommand_151 rfl rfl ?_
    refine rl_iconst (v := nI 1) dX8_runCommand_152 (by decide) ?_
    refine rl_aload_n dX8_runCommand_153 rfl rfl ?_
    obtain ⟨o_7, H⟩ := H
    exact rl_callV (As := [.int (nI 1), .ref a1]) (rest := []) mfX8_runTransfer dX8_runCommand_154 lkX8_264 o_7 (by decide) (Nat.le_of_ble_eq_true rfl) (Nat.le_refl _) (Nat.le_refl _) rfl (Nat.le_of_ble_eq_true rfl) rfl rfl (fun Qc k => H Qc (fun v h' w => k (some (.int v)) h' (rl_wk (L' := [none, none]) trivial w)))
  by_cases c_8 : (hpI h a1 0) = nI 109
  · have H := (H.2.2.2.1) c_8
    refine rl_lookup (tgt := 158) dX8_runCommand_4 (by decide) (by rw [c_8]; decide) ?_
    refine rl_aload_n dX8_runCommand_158 rfl rfl ?_
    refine rl_aload_n dX8_runCommand_159 rfl rfl ?_
    obtain ⟨o_9, H⟩ := H
    exact rl_callV (As := [.ref a1]) (rest := []) mfX8_runMessage dX8_runCommand_160 lkX8_268 o_9 (by decide) (Nat.le_of_ble_eq_true rfl) (Nat.le_refl _) (Nat.le_refl _) rfl (Nat.le_of_ble_eq_true rfl) rfl rfl (fun Qc k => H Qc (fun v h' w => k (some (.int v)) h' (rl_wk (L' := [none, none]) trivial w)))
  by_cases c_10 : (hpI h a1 0) = nI 116
  · have H := (H.2.2.2.2.1) c_10
    refine rl_lookup (tgt := 164) dX8_runCommand_4 (by decide) (by rw [c_10]; decide) ?_
    refine rl_aload_n dX8_runCommand_164 rfl rfl ?_
    refine rl_aload_n dX8_runCommand_165 rfl rfl ?_
    obtain ⟨o_11, H⟩ := H
    exact rl_callV (As := [.ref a1]) (rest := []) mfX8_runPass dX8_runCommand_166 lkX8_271 o_11 (by decide) (Nat.le_of_ble_eq_true rfl) (Nat.le_refl _) (Nat.le_refl _) rfl (Nat.le_of_ble_eq_true rfl) rfl rfl (fun Qc k => H Qc (fun v h' w => k (some (.int v)) h' (rl_wk (L' := [none, none]) trivial w)))
  by_cases c_12 : (hpI h a1 0) = nI 117
  · have H := (H.2.2.2.2.2.1) c_12
    refine rl_lookup (tgt := 144) dX8_runCommand_4 (by decide) (by rw [c_12]; decide) ?_
    refine rl_aload_n dX8_runCommand_144 rfl rfl ?_
    refine rl_iconst (v := nI 0) dX8_runCommand_145 (by decide) ?_
    refine rl_aload_n dX8_runCommand_146 rfl rfl ?_
    obtain ⟨o_13, H⟩ := H
    exact rl_callV (As := [.int (nI 0), .ref a1]) (rest := []) mfX8_runTransfer dX8_runCommand_147 lkX8_264 o_13 (by decide) (Nat.le_of_ble_eq_true rfl) (Nat.le_refl _) (Nat.le_refl _) rfl (Nat.le_of_ble_eq_true rfl) rfl rfl (fun Qc k => H Qc (fun v h' w => k (some (.int v)) h' (rl_wk (L' := [none, none]) trivial w)))
  have H := (H.2.2.2.2.2.2) c_2 c_4 c_6 c_8 c_10 c_12
  refine rl_lookup (tgt := 170) dX8_runCommand_4 (by decide) (by show _ + Op.lookupswitch.offset [(43, 60), (45, 100), (100, 147), (109, 154), (116, 160), (117, 140)] _ _ = _; rw [lv_osw c_2 (by decide), lv_osw c_4 (by decide), lv_osw c_6 (by decide), lv_osw c_8 (by decide), lv_osw c_10 (by decide), lv_osw c_12 (by decide)]; rfl) ?_
  refine rl_iconst (v := nI 0) dX8_runCommand_170 (by decide) ?_
  exact rl_zret dX8_runCommand_171 rfl rfl (Nat.le_refl 0) (Nat.le_refl 0) H
theorem bX8_runCommand_76 {Q : Nat → Option Value → Hp → Prop} {h : Hp} {a0 a1 : Nat} {xs0 : Int32} (H : ((¬ xs0 = 0 → Q 0 (some (.int (nI 0))) h) ∧ (xs0 = 0 → hpK h a0 = 18 ∧ ∃ p_3 : Nat, hpP h a0 1 = some p_3 ∧ (hpK h a1 = 10 ∧ hpK h p_3 = 16 ∧ CKi mX6_change 4 0 0 [some (.ref p_3), some (.int (hpI h a1 1)), some (.int (nI 0)), some (.int (hpI h a1 3)), none, none] h (fun v h' => Wm mX8_runCommand 5 0 0 Q 95 [none, none] [.int v] h' 0 0))))) : Wm mX8_runCommand 5 0 0 Q 76 [some (.ref a0), some (.ref a1)] [.int xs0] h 0 0 := by
  refine rl_if_ne (tgt := 102) dX8_runCommand_76 (by decide) (fun c_1 => ?_) (fun c_1 => ?_)
  · have H := H.1 c_1
    refine rl_iconst (v := nI 0) dX8_runCommand_102 (by decide) ?_
    exact rl_zret dX8_runCommand_103 rfl rfl (Nat.le_refl 0) (Nat.le_refl 0) H
  · have H := H.2 c_1
    refine rl_aload_n dX8_runCommand_79 rfl rfl ?_
    obtain ⟨o_2, H⟩ := H
    obtain ⟨p_3, e_4, H⟩ := H
    refine rl_getP (k := 1) cfX8 dX8_runCommand_80 flX8_27 (by decide) rfl o_2 e_4 ?_
    refine rl_aload_n dX8_runCommand_83 rfl rfl ?_
    obtain ⟨o_5, H⟩ := H
    refine rl_getI (k := 1) cfX0 dX8_runCommand_84 flX8_258 (by decide) rfl o_5 ?_
    refine rl_iconst (v := nI 0) dX8_runCommand_87 (by decide) ?_
    refine rl_aload_n dX8_runCommand_88 rfl rfl ?_
    refine rl_getI (k := 3) cfX0 dX8_runCommand_89 flX8_261 (by decide) rfl o_5 ?_
    obtain ⟨o_6, H⟩ := H
    exact rl_callV (As := [.int (hpI h a1 1), .int (nI 0), .int (hpI h a1 3)]) (rest := []) mfX6_change dX8_runCommand_92 lkX8_73 o_6 (by decide) (Nat.le_of_ble_eq_true rfl) (Nat.le_refl _) (Nat.le_refl _) rfl (Nat.le_of_ble_eq_true rfl) rfl rfl (fun Qc k => H Qc (fun v h' w => k (some (.int v)) h' (rl_wk (L' := [none, none]) trivial w)))
theorem bX8_runCommand_95 {Q : Nat → Option Value → Hp → Prop} {h : Hp} {xs0 : Int32} (H : ((xs0 = 0 → Q 0 (some (.int (nI 0))) h) ∧ (¬ xs0 = 0 → Q 0 (some (.int (nI 1))) h))) : Wm mX8_runCommand 5 0 0 Q 95 [none, none] [.int xs0] h 0 0 := by
  refine rl_if_eq (tgt := 102) dX8_runCommand_95 (by decide) (fun c_1 => ?_) (fun c_1 => ?_)
  · have H := H.1 c_1
    refine rl_iconst (v := nI 0) dX8_runCommand_102 (by decide) ?_
    exact rl_zret dX8_runCommand_103 rfl rfl (Nat.le_refl 0) (Nat.le_refl 0) H
  · have H := H.2 c_1
    refine rl_iconst (v := nI 1) dX8_runCommand_98 (by decide) ?_
    refine rl_goto (tgt := 103) dX8_runCommand_99 (by decide) ?_
    exact rl_zret dX8_runCommand_103 rfl rfl (Nat.le_refl 0) (Nat.le_refl 0) H
theorem bX8_runCommand_116 {Q : Nat → Option Value → Hp → Prop} {h : Hp} {a0 a1 : Nat} {xs0 : Int32} (H : ((¬ xs0 = 0 → Q 0 (some (.int (nI 0))) h) ∧ (xs0 = 0 → hpK h a0 = 18 ∧ ∃ p_3 : Nat, hpP h a0 1 = some p_3 ∧ (hpK h a1 = 10 ∧ hpK h p_3 = 16 ∧ CKi mX6_change 4 0 0 [some (.ref p_3), some (.int (hpI h a1 1)), some (.int (nI 1)), some (.int (hpI h a1 3)), none, none] h (fun v h' => Wm mX8_runCommand 5 0 0 Q 135 [none, none] [.int v] h' 0 0))))) : Wm mX8_runCommand 5 0 0 Q 116 [some (.ref a0), some (.ref a1)] [.int xs0] h 0 0 := by
  refine rl_if_ne (tgt := 142) dX8_runCommand_116 (by decide) (fun c_1 => ?_) (fun c_1 => ?_)
  · have H := H.1 c_1
    refine rl_iconst (v := nI 0) dX8_runCommand_142 (by decide) ?_
    exact rl_zret dX8_runCommand_143 rfl rfl (Nat.le_refl 0) (Nat.le_refl 0) H
  · have H := H.2 c_1
    refine rl_aload_n dX8_runCommand_119 rfl rfl ?_
    obtain ⟨o_2, H⟩ := H
    obtain ⟨p_3, e_4, H⟩ := H
    refine rl_getP (k := 1) cfX8 dX8_runCommand_120 flX8_27 (by decide) rfl o_2 e_4 ?_
    refine rl_aload_n dX8_runCommand_123 rfl rfl ?_
    obtain ⟨o_5, H⟩ := H
    refine rl_getI (k := 1) cfX0 dX8_runCommand_124 flX8_258 (by decide) rfl o_5 ?_
    refine rl_iconst (v := nI 1) dX8_runCommand_127 (by decide) ?_
    refine rl_aload_n dX8_runCommand_128 rfl rfl ?_
    refine rl_getI (k := 3) cfX0 dX8_runCommand_129 flX8_261 (by decide) rfl o_5 ?_
    obtain ⟨o_6, H⟩ := H
    exact rl_callV (As := [.int (hpI h a1 1), .int (nI 1), .int (hpI h a1 3)]) (rest := []) mfX6_change dX8_runCommand_132 lkX8_73 o_6 (by decide) (Nat.le_of_ble_eq_true rfl) (Nat.le_refl _) (Nat.le_refl _) rfl (Nat.le_of_ble_eq_true rfl) rfl rfl (fun Qc k => H Qc (fun v h' w => k (some (.int v)) h' (rl_wk (L' := [none, none]) trivial w)))
theorem bX8_runCommand_135 {Q : Nat → Option Value → Hp → Prop} {h : Hp} {xs0 : Int32} (H : ((xs0 = 0 → Q 0 (some (.int (nI 0))) h) ∧ (¬ xs0 = 0 → Q 0 (some (.int (nI 1))) h))) : Wm mX8_runCommand 5 0 0 Q 135 [none, none] [.int xs0] h 0 0 := by
  refine rl_if_eq (tgt := 142) dX8_runCommand_135 (by decide) (fun c_1 => ?_) (fun c_1 => ?_)
  · have H := H.1 c_1
    refine rl_iconst (v := nI 0) dX8_runCommand_142 (by decide) ?_
    exact rl_zret dX8_runCommand_143 rfl rfl (Nat.le_refl 0) (Nat.le_refl 0) H
  · have H := H.2 c_1
    refine rl_iconst (v := nI 1) dX8_runCommand_138 (by decide) ?_
    refine rl_goto (tgt := 143) dX8_runCommand_139 (by decide) ?_
    exact rl_zret dX8_runCommand_143 rfl rfl (Nat.le_refl 0) (Nat.le_refl 0) H
theorem bX8_runCommand_150 {Q : Nat → Option Value → Hp → Prop} {h : Hp} {xs0 : Int32} (H : narrow .boolean (.int xs0) = .int xs0 ∧ Q 0 (some (.int xs0)) h) : Wm mX8_runCommand 5 0 0 Q 150 [none, none] [.int xs0] h 0 0 := by
  obtain ⟨o_1, H⟩ := H
  exact rl_zret dX8_runCommand_150 rfl o_1 (Nat.le_refl 0) (Nat.le_refl 0) H
theorem bX8_runCommand_157 {Q : Nat → Option Value → Hp → Prop} {h : Hp} {xs0 : Int32} (H : narrow .boolean (.int xs0) = .int xs0 ∧ Q 0 (some (.int xs0)) h) : Wm mX8_runCommand 5 0 0 Q 157 [none, none] [.int xs0] h 0 0 := by
  obtain ⟨o_1, H⟩ := H
  exact rl_zret dX8_runCommand_157 rfl o_1 (Nat.le_refl 0) (Nat.le_refl 0) H
theorem bX8_runCommand_163 {Q : Nat → Option Value → Hp → Prop} {h : Hp} {xs0 : Int32} (H : narrow .boolean (.int xs0) = .int xs0 ∧ Q 0 (some (.int xs0)) h) : Wm mX8_runCommand 5 0 0 Q 163 [none, none] [.int xs0] h 0 0 := by
  obtain ⟨o_1, H⟩ := H
  exact rl_zret dX8_runCommand_163 rfl o_1 (Nat.le_refl 0) (Nat.le_refl 0) H
theorem bX8_runCommand_169 {Q : Nat → Option Value → Hp → Prop} {h : Hp} {xs0 : Int32} (H : narrow .boolean (.int xs0) = .int xs0 ∧ Q 0 (some (.int xs0)) h) : Wm mX8_runCommand 5 0 0 Q 169 [none, none] [.int xs0] h 0 0 := by
  obtain ⟨o_1, H⟩ := H
  exact rl_zret dX8_runCommand_169 rfl o_1 (Nat.le_refl 0) (Nat.le_refl 0) H
theorem bX8_changeFault_0 {Q : Nat → Option Value → Hp → Prop} {h : Hp} {a0 : Nat} {x1 x2 : Int32} (H : hpK h a0 = 18 ∧ CKi mX8_isSite 0 0 0 [some (.ref a0), some (.int x1)] h (fun v h' => Wm mX8_changeFault 1 0 0 Q 5 [none, none, some (.int x2)] [.int v] h' 0 0)) : Wm mX8_changeFault 1 0 0 Q 0 [some (.ref a0), some (.int x1), some (.int x2)] [] h 0 0 := by
  refine rl_aload_n dX8_changeFault_0 rfl rfl ?_
  refine rl_iload_n dX8_changeFault_1 rfl rfl ?_
  obtain ⟨o_1, H⟩ := H
  exact rl_callV (As := [.int x1]) (rest := []) mfX8_isSite dX8_changeFault_2 lkX8_283 o_1 (by decide) (Nat.le_of_ble_eq_true rfl) (Nat.le_refl _) (Nat.le_refl _) rfl (Nat.le_of_ble_eq_true rfl) rfl rfl (fun Qc k => H Qc (fun v h' w => k (some (.int v)) h' (rl_wk (L' := [none, none, some (.int x2)]) ⟨rfl, trivial⟩ w)))
theorem bX8_changeFault_5 {Q : Nat → Option Value → Hp → Prop} {h : Hp} {x2 xs0 : Int32} (H : ((¬ xs0 = 0 → CKi mX8_isAmount 0 0 0 [some (.int x2)] h (fun v h' => Wm mX8_changeFault 1 0 0 Q 14 [none, none, none] [.int v] h' 0 0)) ∧ (xs0 = 0 → Q 0 (some (.int (nI 1))) h))) : Wm mX8_changeFault 1 0 0 Q 5 [none, none, some (.int x2)] [.int xs0] h 0 0 := by
  refine rl_if_ne (tgt := 10) dX8_changeFault_5 (by decide) (fun c_1 => ?_) (fun c_1 => ?_)
  · have H := H.1 c_1
    refine rl_iload_n dX8_changeFault_10 rfl rfl ?_
    exact rl_callS (As := [.int x2]) (rest := []) mfX8_isAmount dX8_changeFault_11 lkX8_286 (by decide) (Nat.le_of_ble_eq_true rfl) (Nat.le_refl _) (Nat.le_refl _) rfl (Nat.le_of_ble_eq_true rfl) rfl rfl (fun Qc k => H Qc (fun v h' w => k (some (.int v)) h' (rl_wk (L' := [none, none, none]) trivial w)))
  · have H := H.2 c_1
    refine rl_iconst (v := nI 1) dX8_changeFault_8 (by decide) ?_
    exact rl_iret dX8_changeFault_9 rfl (Nat.le_refl 0) (Nat.le_refl 0) H
theorem bX8_changeFault_14 {Q : Nat → Option Value → Hp → Prop} {h : Hp} {xs0 : Int32} (H : ((xs0 = 0 → Q 0 (some (.int (nI 2))) h) ∧ (¬ xs0 = 0 → Q 0 (some (.int (nI 0))) h))) : Wm mX8_changeFault 1 0 0 Q 14 [none, none, none] [.int xs0] h 0 0 := by
  refine rl_if_eq (tgt := 21) dX8_changeFault_14 (by decide) (fun c_1 => ?_) (fun c_1 => ?_)
  · have H := H.1 c_1
    refine rl_iconst (v := nI 2) dX8_changeFault_21 (by decide) ?_
    exact rl_iret dX8_changeFault_22 rfl (Nat.le_refl 0) (Nat.le_refl 0) H
  · have H := H.2 c_1
    refine rl_iconst (v := nI 0) dX8_changeFault_17 (by decide) ?_
    refine rl_goto (tgt := 22) dX8_changeFault_18 (by decide) ?_
    exact rl_iret dX8_changeFault_22 rfl (Nat.le_refl 0) (Nat.le_refl 0) H
theorem bX8_isSite_0 {Q : Nat → Option Value → Hp → Prop} {h : Hp} {a0 : Nat} {x1 : Int32} (H : ((x1 < 0 → Q 0 (some (.int (nI 0))) h) ∧ (¬ x1 < 0 → hpK h a0 = 18 ∧ (((hpI h a0 0) ≤ x1 → Q 0 (some (.int (nI 0))) h) ∧ (¬ (hpI h a0 0) ≤ x1 → Q 0 (some (.int (nI 1))) h))))) : Wm mX8_isSite 0 0 0 Q 0 [some (.ref a0), some (.int x1)] [] h 0 0 := by
  refine rl_iload_n dX8_isSite_0 rfl rfl ?_
  refine rl_if_lt (tgt := 16) dX8_isSite_1 (by decide) (fun c_1 => ?_) (fun c_1 => ?_)
  · have H := H.1 c_1
    refine rl_iconst (v := nI 0) dX8_isSite_16 (by decide) ?_
    exact rl_zret dX8_isSite_17 rfl rfl (Nat.le_refl 0) (Nat.le_refl 0) H
  · have H := H.2 c_1
    refine rl_iload_n dX8_isSite_4 rfl rfl ?_
    refine rl_aload_n dX8_isSite_5 rfl rfl ?_
    obtain ⟨o_2, H⟩ := H
    refine rl_getI (k := 0) cfX8 dX8_isSite_6 flX8_18 (by decide) rfl o_2 ?_
    refine rl_icmp_ge (tgt := 16) dX8_isSite_9 (by decide) (fun c_3 => ?_) (fun c_3 => ?_)
    · have H := H.1 c_3
      refine rl_iconst (v := nI 0) dX8_isSite_16 (by decide) ?_
      exact rl_zret dX8_isSite_17 rfl rfl (Nat.le_refl 0) (Nat.le_refl 0) H
    · have H := H.2 c_3
      refine rl_iconst (v := nI 1) dX8_isSite_12 (by decide) ?_
      refine rl_goto (tgt := 17) dX8_isSite_13 (by decide) ?_
      exact rl_zret dX8_isSite_17 rfl rfl (Nat.le_refl 0) (Nat.le_refl 0) H
theorem bX8_isAmount_0 {Q : Nat → Option Value → Hp → Prop} {h : Hp} {x0 : Int32} (H : ((x0 < (nI 1) → Q 0 (some (.int (nI 0))) h) ∧ (¬ x0 < (nI 1) → (((nI 999) < x0 → Q 0 (some (.int (nI 0))) h) ∧ (¬ (nI 999) < x0 → Q 0 (some (.int (nI 1))) h))))) : Wm mX8_isAmount 0 0 0 Q 0 [some (.int x0)] [] h 0 0 := by
  refine rl_iload_n dX8_isAmount_0 rfl rfl ?_
  refine rl_iconst (v := nI 1) dX8_isAmount_1 (by decide) ?_
  refine rl_icmp_lt (tgt := 16) dX8_isAmount_2 (by decide) (fun c_1 => ?_) (fun c_1 => ?_)
  · have H := H.1 c_1
    refine rl_iconst (v := nI 0) dX8_isAmount_16 (by decide) ?_
    exact rl_zret dX8_isAmount_17 rfl rfl (Nat.le_refl 0) (Nat.le_refl 0) H
  · have H := H.2 c_1
    refine rl_iload_n dX8_isAmount_5 rfl rfl ?_
    refine rl_sipush (v := nI 999) dX8_isAmount_6 (by decide) ?_
    refine rl_icmp_gt (tgt := 16) dX8_isAmount_9 (by decide) (fun c_2 => ?_) (fun c_2 => ?_)
    · have H := H.1 c_2
      refine rl_iconst (v := nI 0) dX8_isAmount_16 (by decide) ?_
      exact rl_zret dX8_isAmount_17 rfl rfl (Nat.le_refl 0) (Nat.le_refl 0) H
    · have H := H.2 c_2
      refine rl_iconst (v := nI 1) dX8_isAmount_12 (by decide) ?_
      refine rl_goto (tgt := 17) dX8_isAmount_13 (by decide) ?_
      exact rl_zret dX8_isAmount_17 rfl rfl (Nat.le_refl 0) (Nat.le_refl 0) H
theorem bX8_runTransfer_0 {Q : Nat → Option Value → Hp → Prop} {h : Hp} {a0 a2 : Nat} {x1 : Int32} (H : hpK h a2 = 10 ∧ hpK h a0 = 18 ∧ CKi mX8_transferFault 3 0 0 [some (.ref a0), some (.int x1), some (.int (hpI h a2 1)), some (.int (hpI h a2 2)), some (.int (hpI h a2 3))] h (fun v h' => Wm mX8_runTransfer 4 0 0 Q 17 [some (.ref a0), some (.int x1), some (.ref a2)] [.int v] h' 0 0)) : Wm mX8_runTransfer 4 0 0 Q 0 [some (.ref a0), some (.int x1), some (.ref a2)] [] h 0 0 := by
  refine rl_aload_n dX8_runTransfer_0 rfl rfl ?_
  refine rl_iload_n dX8_runTransfer_1 rfl rfl ?_
  refine rl_aload_n dX8_runTransfer_2 rfl rfl ?_
  obtain ⟨o_1, H⟩ := H
  refine rl_getI (k := 1) cfX0 dX8_runTransfer_3 flX8_258 (by decide) rfl o_1 ?_
  refine rl_aload_n dX8_runTransfer_6 rfl rfl ?_
  refine rl_getI (k := 2) cfX0 dX8_runTransfer_7 flX8_274 (by decide) rfl o_1 ?_
  refine rl_aload_n dX8_runTransfer_10 rfl rfl ?_
  refine rl_getI (k := 3) cfX0 dX8_runTransfer_11 flX8_261 (by decide) rfl o_1 ?_
  obtain ⟨o_2, H⟩ := H
  exact rl_callV (As := [.int x1, .int (hpI h a2 1), .int (hpI h a2 2), .int (hpI h a2 3)]) (rest := []) mfX8_transferFault dX8_runTransfer_14 lkX8_77 o_2 (by decide) (Nat.le_of_ble_eq_true rfl) (Nat.le_refl _) (Nat.le_refl _) rfl (Nat.le_of_ble_eq_true rfl) rfl rfl (fun Qc k => H Qc (fun v h' w => k (some (.int v)) h' w))
theorem bX8_runTransfer_17 {Q : Nat → Option Value → Hp → Prop} {h : Hp} {a0 a2 : Nat} {x1 xs0 : Int32} (H : ((xs0 = 0 → hpK h a0 = 18 ∧ ∃ p_3 : Nat, hpP h a0 1 = some p_3 ∧ (hpK h a2 = 10 ∧ hpK h p_3 = 16 ∧ CKv mX6_give 1 0 0 [some (.ref p_3), some (.int x1), some (.int (hpI h a2 1)), some (.int (hpI h a2 2)), some (.int (hpI h a2 3))] h (fun h' => Wm mX8_runTransfer 4 0 0 Q 42 [none, none, none] [] h' 0 0))) ∧ (¬ xs0 = 0 → Q 0 (some (.int (nI 0))) h))) : Wm mX8_runTransfer 4 0 0 Q 17 [some (.ref a0), some (.int x1), some (.ref a2)] [.int xs0] h 0 0 := by
  refine rl_if_eq (tgt := 22) dX8_runTransfer_17 (by decide) (fun c_1 => ?_) (fun c_1 => ?_)
  · have H := H.1 c_1
    refine rl_aload_n dX8_runTransfer_22 rfl rfl ?_
    obtain ⟨o_2, H⟩ := H
    obtain ⟨p_3, e_4, H⟩ := H
    refine rl_getP (k := 1) cfX8 dX8_runTransfer_23 flX8_27 (by decide) rfl o_2 e_4 ?_
    refine rl_iload_n dX8_runTransfer_26 rfl rfl ?_
    refine rl_aload_n dX8_runTransfer_27 rfl rfl ?_
    obtain ⟨o_5, H⟩ := H
    refine rl_getI (k := 1) cfX0 dX8_runTransfer_28 flX8_258 (by decide) rfl o_5 ?_
    refine rl_aload_n dX8_runTransfer_31 rfl rfl ?_
    refine rl_getI (k := 2) cfX0 dX8_runTransfer_32 flX8_274 (by decide) rfl o_5 ?_
    refine rl_aload_n dX8_runTransfer_35 rfl rfl ?_
    refine rl_getI (k := 3) cfX0 dX8_runTransfer_36 flX8_261 (by decide) rfl o_5 ?_
    obtain ⟨o_6, H⟩ := H
    exact rl_callV (As := [.int x1, .int (hpI h a2 1), .int (hpI h a2 2), .int (hpI h a2 3)]) (rest := []) mfX6_give dX8_runTransfer_39 lkX8_81 o_6 (by decide) (Nat.le_of_ble_eq_true rfl) (Nat.le_refl _) (Nat.le_refl _) rfl (Nat.le_of_ble_eq_true rfl) rfl rfl (fun Qc k => H Qc (fun h' w => k none h' (rl_wk (L' := [none, none, none]) trivial w)))
  · have H := H.2 c_1
    refine rl_iconst (v := nI 0) dX8_runTransfer_20 (by decide) ?_
    exact rl_zret dX8_runTransfer_21 rfl rfl (Nat.le_refl 0) (Nat.le_refl 0) H
theorem bX8_runTransfer_42 {Q : Nat → Option Value → Hp → Prop} {h : Hp}  (H : Q 0 (some (.int (nI 1))) h) : Wm mX8_runTransfer 4 0 0 Q 42 [none, none, none] [] h 0 0 := by
  refine rl_iconst (v := nI 1) dX8_runTransfer_42 (by decide) ?_
  exact rl_zret dX8_runTransfer_43 rfl rfl (Nat.le_refl 0) (Nat.le_refl 0) H
theorem bX8_transferFault_0 {Q : Nat → Option Value → Hp → Prop} {h : Hp} {a0 : Nat} {x1 x2 x3 x4 : Int32} (H : hpK h a0 = 18 ∧ CKi mX8_isSite 0 0 0 [some (.ref a0), some (.int x2)] h (fun v h' => Wm mX8_transferFault 3 0 0 Q 5 [some (.ref a0), some (.int x1), some (.int x2), some (.int x3), some (.int x4)] [.int v] h' 0 0)) : Wm mX8_transferFault 3 0 0 Q 0 [some (.ref a0), some (.int x1), some (.int x2), some (.int x3), some (.int x4)] [] h 0 0 := by
  refine rl_aload_n dX8_transferFault_0 rfl rfl ?_
  refine rl_iload_n dX8_transferFault_1 rfl rfl ?_
  obtain ⟨o_1, H⟩ := H
  exact rl_callV (As := [.int x2]) (rest := []) mfX8_isSite dX8_transferFault_2 lkX8_283 o_1 (by decide) (Nat.le_of_ble_eq_true rfl) (Nat.le_refl _) (Nat.le_refl _) rfl (Nat.le_of_ble_eq_true rfl) rfl rfl (fun Qc k => H Qc (fun v h' w => k (some (.int v)) h' w))
theorem bX8_transferFault_5 {Q : Nat → Option Value → Hp → Prop} {h : Hp} {a0 : Nat} {x1 x2 x3 x4 xs0 : Int32} (H : ((xs0 = 0 → Q 0 (some (.int (nI 1))) h) ∧ (¬ xs0 = 0 → hpK h a0 = 18 ∧ CKi mX8_isSite 0 0 0 [some (.ref a0), some (.int x3)] h (fun v h' => Wm mX8_transferFault 3 0 0 Q 13 [some (.ref a0), some (.int x1), some (.int x2), some (.int x3), some (.int x4)] [.int v] h' 0 0)))) : Wm mX8_transferFault 3 0 0 Q 5 [some (.ref a0), some (.int x1), some (.int x2), some (.int x3), some (.int x4)] [.int xs0] h 0 0 := by
  refine rl_if_eq (tgt := 23) dX8_transferFault_5 (by decide) (fun c_1 => ?_) (fun c_1 => ?_)
  · have H := H.1 c_1
    refine rl_iconst (v := nI 1) dX8_transferFault_23 (by decide) ?_
    exact rl_iret dX8_transferFault_24 rfl (Nat.le_refl 0) (Nat.le_refl 0) H
  · have H := H.2 c_1
    refine rl_aload_n dX8_transferFault_8 rfl rfl ?_
    refine rl_iload_n dX8_transferFault_9 rfl rfl ?_
    obtain ⟨o_2, H⟩ := H
    exact rl_callV (As := [.int x3]) (rest := []) mfX8_isSite dX8_transferFault_10 lkX8_283 o_2 (by decide) (Nat.le_of_ble_eq_true rfl) (Nat.le_refl _) (Nat.le_refl _) rfl (Nat.le_of_ble_eq_true rfl) rfl rfl (fun Qc k => H Qc (fun v h' w => k (some (.int v)) h' w))
theorem bX8_transferFault_13 {Q : Nat → Option Value → Hp → Prop} {h : Hp} {a0 : Nat} {x1 x2 x3 x4 xs0 : Int32} (H : ((xs0 = 0 → Q 0 (some (.int (nI 1))) h) ∧ (¬ xs0 = 0 → CKi mX8_isKind 0 0 0 [some (.int x1)] h (fun v h' => Wm mX8_transferFault 3 0 0 Q 20 [some (.ref a0), some (.int x1), some (.int x2), some (.int x3), some (.int x4)] [.int v] h' 0 0)))) : Wm mX8_transferFault 3 0 0 Q 13 [some (.ref a0), some (.int x1), some (.int x2), some (.int x3), some (.int x4)] [.int xs0] h 0 0 := by
  refine rl_if_eq (tgt := 23) dX8_transferFault_13 (by decide) (fun c_1 => ?_) (fun c_1 => ?_)
  · have H := H.1 c_1
    refine rl_iconst (v := nI 1) dX8_transferFault_23 (by decide) ?_
    exact rl_iret dX8_transferFault_24 rfl (Nat.le_refl 0) (Nat.le_refl 0) H
  · have H := H.2 c_1
    refine rl_iload_n dX8_transferFault_16 rfl rfl ?_
    exact rl_callS (As := [.int x1]) (rest := []) mfX8_isKind dX8_transferFault_17 lkX8_166 (by decide) (Nat.le_of_ble_eq_true rfl) (Nat.le_refl _) (Nat.le_refl _) rfl (Nat.le_of_ble_eq_true rfl) rfl rfl (fun Qc k => H Qc (fun v h' w => k (some (.int v)) h' w))
theorem bX8_transferFault_20 {Q : Nat → Option Value → Hp → Prop} {h : Hp} {a0 : Nat} {x1 x2 x3 x4 xs0 : Int32} (H : ((¬ xs0 = 0 → ((x2 = x3 → Q 0 (some (.int (nI 2))) h) ∧ (¬ x2 = x3 → CKi mX8_isAmount 0 0 0 [some (.int x4)] h (fun v h' => Wm mX8_transferFault 3 0 0 Q 35 [some (.ref a0), some (.int x1), some (.int x2), none, some (.int x4)] [.int v] h' 0 0)))) ∧ (xs0 = 0 → Q 0 (some (.int (nI 1))) h))) : Wm mX8_transferFault 3 0 0 Q 20 [some (.ref a0), some (.int x1), some (.int x2), some (.int x3), some (.int x4)] [.int xs0] h 0 0 := by
  refine rl_if_ne (tgt := 25) dX8_transferFault_20 (by decide) (fun c_1 => ?_) (fun c_1 => ?_)
  · have H := H.1 c_1
    refine rl_iload_n dX8_transferFault_25 rfl rfl ?_
    refine rl_iload_n dX8_transferFault_26 rfl rfl ?_
    refine rl_icmp_eq (tgt := 38) dX8_transferFault_27 (by decide) (fun c_2 => ?_) (fun c_2 => ?_)
    · have H := H.1 c_2
      refine rl_iconst (v := nI 2) dX8_transferFault_38 (by decide) ?_
      exact rl_iret dX8_transferFault_39 rfl (Nat.le_refl 0) (Nat.le_refl 0) H
    · have H := H.2 c_2
      refine rl_iload dX8_transferFault_30 rfl ?_
      exact rl_callS (As := [.int x4]) (rest := []) mfX8_isAmount dX8_transferFault_32 lkX8_286 (by decide) (Nat.le_of_ble_eq_true rfl) (Nat.le_refl _) (Nat.le_refl _) rfl (Nat.le_of_ble_eq_true rfl) rfl rfl (fun Qc k => H Qc (fun v h' w => k (some (.int v)) h' (rl_wk (L' := [some (.ref a0), some (.int x1), some (.int x2), none, some (.int x4)]) ⟨rfl, ⟨rfl, ⟨rfl, ⟨rfl, trivial⟩⟩⟩⟩ w)))
  · have H := H.2 c_1
    refine rl_iconst (v := nI 1) dX8_transferFault_23 (by decide) ?_
    exact rl_iret dX8_transferFault_24 rfl (Nat.le_refl 0) (Nat.le_refl 0) H
theorem bX8_transferFault_35 {Q : Nat → Option Value → Hp → Prop} {h : Hp} {a0 : Nat} {x1 x2 x4 xs0 : Int32} (H : ((¬ xs0 = 0 → hpK h a0 = 18 ∧ ∃ p_3 : Nat, hpP h a0 1 = some p_3 ∧ (hpK h p_3 = 16 ∧ CKi mX6_ownRights 2 0 0 [some (.ref p_3), some (.int x2), some (.int x1), none, none, none] h (fun v h' => Wm mX8_transferFault 3 0 0 Q 49 [none, none, none, none, some (.int x4)] [.int v] h' 0 0))) ∧ (xs0 = 0 → Q 0 (some (.int (nI 2))) h))) : Wm mX8_transferFault 3 0 0 Q 35 [some (.ref a0), some (.int x1), some (.int x2), none, some (.int x4)] [.int xs0] h 0 0 := by
  refine rl_if_ne (tgt := 40) dX8_transferFault_35 (by decide) (fun c_1 => ?_) (fun c_1 => ?_)
  · have H := H.1 c_1
    refine rl_aload_n dX8_transferFault_40 rfl rfl ?_
    obtain ⟨o_2, H⟩ := H
    obtain ⟨p_3, e_4, H⟩ := H
    refine rl_getP (k := 1) cfX8 dX8_transferFault_41 flX8_27 (by decide) rfl o_2 e_4 ?_
    refine rl_iload_n dX8_transferFault_44 rfl rfl ?_
    refine rl_iload_n dX8_transferFault_45 rfl rfl ?_
    obtain ⟨o_5, H⟩ := H
    exact rl_callV (As := [.int x2, .int x1]) (rest := []) mfX6_ownRights dX8_transferFault_46 lkX8_85 o_5 (by decide) (Nat.le_of_ble_eq_true rfl) (Nat.le_refl _) (Nat.le_refl _) rfl (Nat.le_of_ble_eq_true rfl) rfl rfl (fun Qc k => H Qc (fun v h' w => k (some (.int v)) h' (rl_wk (L' := [none, none, none, none, some (.int x4)]) ⟨rfl, trivial⟩ w)))
  · have H := H.2 c_1
    refine rl_iconst (v := nI 2) dX8_transferFault_38 (by decide) ?_
    exact rl_iret dX8_transferFault_39 rfl (Nat.le_refl 0) (Nat.le_refl 0) H
theorem bX8_transferFault_49 {Q : Nat → Option Value → Hp → Prop} {h : Hp} {x4 xs0 : Int32} (H : ((x4 ≤ xs0 → Q 0 (some (.int (nI 0))) h) ∧ (¬ x4 ≤ xs0 → Q 0 (some (.int (nI 3))) h))) : Wm mX8_transferFault 3 0 0 Q 49 [none, none, none, none, some (.int x4)] [.int xs0] h 0 0 := by
  refine rl_iload dX8_transferFault_49 rfl ?_
  refine rl_icmp_ge (tgt := 58) dX8_transferFault_51 (by decide) (fun c_1 => ?_) (fun c_1 => ?_)
  · have H := H.1 c_1
    refine rl_iconst (v := nI 0) dX8_transferFault_58 (by decide) ?_
    exact rl_iret dX8_transferFault_59 rfl (Nat.le_refl 0) (Nat.le_refl 0) H
  · have H := H.2 c_1
    refine rl_iconst (v := nI 3) dX8_transferFault_54 (by decide) ?_
    refine rl_goto (tgt := 59) dX8_transferFault_55 (by decide) ?_
    exact rl_iret dX8_transferFault_59 rfl (Nat.le_refl 0) (Nat.le_refl 0) H
theorem bX8_isKind_0 {Q : Nat → Option Value → Hp → Prop} {h : Hp} {x0 : Int32} (H : ((x0 = 0 → Q 0 (some (.int (nI 1))) h) ∧ (¬ x0 = 0 → ((¬ x0 = (nI 1) → Q 0 (some (.int (nI 0))) h) ∧ (x0 = (nI 1) → Q 0 (some (.int (nI 1))) h))))) : Wm mX8_isKind 0 0 0 Q 0 [some (.int x0)] [] h 0 0 := by
  refine rl_iload_n dX8_isKind_0 rfl rfl ?_
  refine rl_if_eq (tgt := 9) dX8_isKind_1 (by decide) (fun c_1 => ?_) (fun c_1 => ?_)
  · have H := H.1 c_1
    refine rl_iconst (v := nI 1) dX8_isKind_9 (by decide) ?_
    refine rl_goto (tgt := 14) dX8_isKind_10 (by decide) ?_
    exact rl_zret dX8_isKind_14 rfl rfl (Nat.le_refl 0) (Nat.le_refl 0) H
  · have H := H.2 c_1
    refine rl_iload_n dX8_isKind_4 rfl rfl ?_
    refine rl_iconst (v := nI 1) dX8_isKind_5 (by decide) ?_
    refine rl_icmp_ne (tgt := 13) dX8_isKind_6 (by decide) (fun c_2 => ?_) (fun c_2 => ?_)
    · have H := H.1 c_2
      refine rl_iconst (v := nI 0) dX8_isKind_13 (by decide) ?_
      exact rl_zret dX8_isKind_14 rfl rfl (Nat.le_refl 0) (Nat.le_refl 0) H
    · have H := H.2 c_2
      refine rl_iconst (v := nI 1) dX8_isKind_9 (by decide) ?_
      refine rl_goto (tgt := 14) dX8_isKind_10 (by decide) ?_
      exact rl_zret dX8_isKind_14 rfl rfl (Nat.le_refl 0) (Nat.le_refl 0) H
theorem bX8_runMessage_0 {Q : Nat → Option Value → Hp → Prop} {h : Hp} {a0 a1 : Nat} (H : hpK h a1 = 10 ∧ hpK h a0 = 18 ∧ CKi mX8_sendFault 1 0 0 [some (.ref a0), some (.int (hpI h a1 1)), some (.int (hpI h a1 2))] h (fun v h' => Wm mX8_runMessage 4 0 0 Q 12 [some (.ref a0), some (.ref a1)] [.int v] h' 0 0)) : Wm mX8_runMessage 4 0 0 Q 0 [some (.ref a0), some (.ref a1)] [] h 0 0 := by
  refine rl_aload_n dX8_runMessage_0 rfl rfl ?_
  refine rl_aload_n dX8_runMessage_1 rfl rfl ?_
  obtain ⟨o_1, H⟩ := H
  refine rl_getI (k := 1) cfX0 dX8_runMessage_2 flX8_258 (by decide) rfl o_1 ?_
  refine rl_aload_n dX8_runMessage_5 rfl rfl ?_
  refine rl_getI (k := 2) cfX0 dX8_runMessage_6 flX8_274 (by decide) rfl o_1 ?_
  obtain ⟨o_2, H⟩ := H
  exact rl_callV (As := [.int (hpI h a1 1), .int (hpI h a1 2)]) (rest := []) mfX8_sendFault dX8_runMessage_9 lkX8_117 o_2 (by decide) (Nat.le_of_ble_eq_true rfl) (Nat.le_refl _) (Nat.le_refl _) rfl (Nat.le_of_ble_eq_true rfl) rfl rfl (fun Qc k => H Qc (fun v h' w => k (some (.int v)) h' w))
theorem bX8_runMessage_12 {Q : Nat → Option Value → Hp → Prop} {h : Hp} {a0 a1 : Nat} {xs0 : Int32} (H : ((xs0 = 0 → hpK h a0 = 18 ∧ ∃ p_3 : Nat, hpP h a0 1 = some p_3 ∧ (hpK h a1 = 10 ∧ hpK h p_3 = 16 ∧ CKi mX6_post 3 0 0 [some (.ref p_3), some (.int (hpI h a1 1)), some (.int (hpI h a1 2)), none, none] h (fun v h' => Wm mX8_runMessage 4 0 0 Q 36 [none, none] [.int v, .ref p_3] h' 0 0))) ∧ (¬ xs0 = 0 → Q 0 (some (.int (nI 0))) h))) : Wm mX8_runMessage 4 0 0 Q 12 [some (.ref a0), some (.ref a1)] [.int xs0] h 0 0 := by
  refine rl_if_eq (tgt := 17) dX8_runMessage_12 (by decide) (fun c_1 => ?_) (fun c_1 => ?_)
  · have H := H.1 c_1
    refine rl_aload_n dX8_runMessage_17 rfl rfl ?_
    obtain ⟨o_2, H⟩ := H
    obtain ⟨p_3, e_4, H⟩ := H
    refine rl_getP (k := 1) cfX8 dX8_runMessage_18 flX8_27 (by decide) rfl o_2 e_4 ?_
    refine rl_aload_n dX8_runMessage_21 rfl rfl ?_
    refine rl_getP (k := 1) cfX8 dX8_runMessage_22 flX8_27 (by decide) rfl o_2 e_4 ?_
    refine rl_aload_n dX8_runMessage_25 rfl rfl ?_
    obtain ⟨o_5, H⟩ := H
    refine rl_getI (k := 1) cfX0 dX8_runMessage_26 flX8_258 (by decide) rfl o_5 ?_
    refine rl_aload_n dX8_runMessage_29 rfl rfl ?_
    refine rl_getI (k := 2) cfX0 dX8_runMessage_30 flX8_274 (by decide) rfl o_5 ?_
    obtain ⟨o_6, H⟩ := H
    exact rl_callV (As := [.int (hpI h a1 1), .int (hpI h a1 2)]) (rest := [.ref p_3]) mfX6_post dX8_runMessage_33 lkX8_120 o_6 (by decide) (Nat.le_of_ble_eq_true rfl) (Nat.le_refl _) (Nat.le_refl _) rfl (Nat.le_of_ble_eq_true rfl) rfl rfl (fun Qc k => H Qc (fun v h' w => k (some (.int v)) h' (rl_wk (L' := [none, none]) trivial w)))
  · have H := H.2 c_1
    refine rl_iconst (v := nI 0) dX8_runMessage_15 (by decide) ?_
    exact rl_zret dX8_runMessage_16 rfl rfl (Nat.le_refl 0) (Nat.le_refl 0) H
theorem bX8_runMessage_36 {Q : Nat → Option Value → Hp → Prop} {h : Hp} {as0 : Nat} {xs1 : Int32} (H : hpK h as0 = 16 ∧ CKi mX6_handOver 3 0 0 [some (.ref as0), some (.int xs1), none, none] h (fun v h' => Wm mX8_runMessage 4 0 0 Q 39 [none, none] [.int v] h' 0 0)) : Wm mX8_runMessage 4 0 0 Q 36 [none, none] [.int xs1, .ref as0] h 0 0 := by
  obtain ⟨o_1, H⟩ := H
  exact rl_callV (As := [.int xs1]) (rest := []) mfX6_handOver dX8_runMessage_36 lkX8_126 o_1 (by decide) (Nat.le_of_ble_eq_true rfl) (Nat.le_refl _) (Nat.le_refl _) rfl (Nat.le_of_ble_eq_true rfl) rfl rfl (fun Qc k => H Qc (fun v h' w => k (some (.int v)) h' w))
theorem bX8_runMessage_39 {Q : Nat → Option Value → Hp → Prop} {h : Hp} {xs0 : Int32} (H : Q 0 (some (.int (nI 1))) h) : Wm mX8_runMessage 4 0 0 Q 39 [none, none] [.int xs0] h 0 0 := by
  refine rl_pop dX8_runMessage_39 rfl ?_
  refine rl_iconst (v := nI 1) dX8_runMessage_40 (by decide) ?_
  exact rl_zret dX8_runMessage_41 rfl rfl (Nat.le_refl 0) (Nat.le_refl 0) H
theorem bX8_sendFault_0 {Q : Nat → Option Value → Hp → Prop} {h : Hp} {a0 : Nat} {x1 x2 : Int32} (H : hpK h a0 = 18 ∧ CKi mX8_isSite 0 0 0 [some (.ref a0), some (.int x1)] h (fun v h' => Wm mX8_sendFault 1 0 0 Q 5 [some (.ref a0), some (.int x1), some (.int x2)] [.int v] h' 0 0)) : Wm mX8_sendFault 1 0 0 Q 0 [some (.ref a0), some (.int x1), some (.int x2)] [] h 0 0 := by
  refine rl_aload_n dX8_sendFault_0 rfl rfl ?_
  refine rl_iload_n dX8_sendFault_1 rfl rfl ?_
  obtain ⟨o_1, H⟩ := H
  exact rl_callV (As := [.int x1]) (rest := []) mfX8_isSite dX8_sendFault_2 lkX8_283 o_1 (by decide) (Nat.le_of_ble_eq_true rfl) (Nat.le_refl _) (Nat.le_refl _) rfl (Nat.le_of_ble_eq_true rfl) rfl rfl (fun Qc k => H Qc (fun v h' w => k (some (.int v)) h' w))
theorem bX8_sendFault_5 {Q : Nat → Option Value → Hp → Prop} {h : Hp} {a0 : Nat} {x1 x2 xs0 : Int32} (H : ((xs0 = 0 → Q 0 (some (.int (nI 1))) h) ∧ (¬ xs0 = 0 → hpK h a0 = 18 ∧ CKi mX8_isSite 0 0 0 [some (.ref a0), some (.int x2)] h (fun v h' => Wm mX8_sendFault 1 0 0 Q 13 [some (.ref a0), some (.int x1), some (.int x2)] [.int v] h' 0 0)))) : Wm mX8_sendFault 1 0 0 Q 5 [some (.ref a0), some (.int x1), some (.int x2)] [.int xs0] h 0 0 := by
  refine rl_if_eq (tgt := 16) dX8_sendFault_5 (by decide) (fun c_1 => ?_) (fun c_1 => ?_)
  · have H := H.1 c_1
    refine rl_iconst (v := nI 1) dX8_sendFault_16 (by decide) ?_
    exact rl_iret dX8_sendFault_17 rfl (Nat.le_refl 0) (Nat.le_refl 0) H
  · have H := H.2 c_1
    refine rl_aload_n dX8_sendFault_8 rfl rfl ?_
    refine rl_iload_n dX8_sendFault_9 rfl rfl ?_
    obtain ⟨o_2, H⟩ := H
    exact rl_callV (As := [.int x2]) (rest := []) mfX8_isSite dX8_sendFault_10 lkX8_283 o_2 (by decide) (Nat.le_of_ble_eq_true rfl) (Nat.le_refl _) (Nat.le_refl _) rfl (Nat.le_of_ble_eq_true rfl) rfl rfl (fun Qc k => H Qc (fun v h' w => k (some (.int v)) h' w))
theorem bX8_sendFault_13 {Q : Nat → Option Value → Hp → Prop} {h : Hp} {a0 : Nat} {x1 x2 xs0 : Int32} (H : ((¬ xs0 = 0 → ((¬ x1 = x2 → hpK h a0 = 18 ∧ ∃ p_4 : Nat, hpP h a0 1 = some p_4 ∧ (hpK h p_4 = 16 ∧ (((hpI h p_4 6) < (nI 8) → Q 0 (some (.int (nI 0))) h) ∧ (¬ (hpI h p_4 6) < (nI 8) → Q 0 (some (.int (nI 3))) h)))) ∧ (x1 = x2 → Q 0 (some (.int (nI 2))) h))) ∧ (xs0 = 0 → Q 0 (some (.int (nI 1))) h))) : Wm mX8_sendFault 1 0 0 Q 13 [some (.ref a0), some (.int x1), some (.int x2)] [.int xs0] h 0 0 := by
  refine rl_if_ne (tgt := 18) dX8_sendFault_13 (by decide) (fun c_1 => ?_) (fun c_1 => ?_)
  · have H := H.1 c_1
    refine rl_iload_n dX8_sendFault_18 rfl rfl ?_
    refine rl_iload_n dX8_sendFault_19 rfl rfl ?_
    refine rl_icmp_ne (tgt := 25) dX8_sendFault_20 (by decide) (fun c_2 => ?_) (fun c_2 => ?_)
    · have H := H.1 c_2
      refine rl_aload_n dX8_sendFault_25 rfl rfl ?_
      obtain ⟨o_3, H⟩ := H
      obtain ⟨p_4, e_5, H⟩ := H
      refine rl_getP (k := 1) cfX8 dX8_sendFault_26 flX8_27 (by decide) rfl o_3 e_5 ?_
      obtain ⟨o_6, H⟩ := H
      refine rl_getI (k := 6) cfX6 dX8_sendFault_29 flX8_132 (by decide) rfl o_6 ?_
      refine rl_bipush (v := nI 8) dX8_sendFault_32 (by decide) ?_
      refine rl_icmp_lt (tgt := 41) dX8_sendFault_34 (by decide) (fun c_7 => ?_) (fun c_7 => ?_)
      · have H := H.1 c_7
        refine rl_iconst (v := nI 0) dX8_sendFault_41 (by decide) ?_
        exact rl_iret dX8_sendFault_42 rfl (Nat.le_refl 0) (Nat.le_refl 0) H
      · have H := H.2 c_7
        refine rl_iconst (v := nI 3) dX8_sendFault_37 (by decide) ?_
        refine rl_goto (tgt := 42) dX8_sendFault_38 (by decide) ?_
        exact rl_iret dX8_sendFault_42 rfl (Nat.le_refl 0) (Nat.le_refl 0) H
    · have H := H.2 c_2
      refine rl_iconst (v := nI 2) dX8_sendFault_23 (by decide) ?_
      exact rl_iret dX8_sendFault_24 rfl (Nat.le_refl 0) (Nat.le_refl 0) H
  · have H := H.2 c_1
    refine rl_iconst (v := nI 1) dX8_sendFault_16 (by decide) ?_
    exact rl_iret dX8_sendFault_17 rfl (Nat.le_refl 0) (Nat.le_refl 0) H
theorem bX8_runPass_0 {Q : Nat → Option Value → Hp → Prop} {h : Hp} {a0 a1 : Nat} (H : hpK h a1 = 10 ∧ hpK h a0 = 18 ∧ CKi mX8_passFault 0 0 0 [some (.ref a0), some (.int (hpI h a1 3))] h (fun v h' => Wm mX8_runPass 2 0 0 Q 8 [some (.ref a0), some (.ref a1)] [.int v] h' 0 0)) : Wm mX8_runPass 2 0 0 Q 0 [some (.ref a0), some (.ref a1)] [] h 0 0 := by
  refine rl_aload_n dX8_runPass_0 rfl rfl ?_
  refine rl_aload_n dX8_runPass_1 rfl rfl ?_
  obtain ⟨o_1, H⟩ := H
  refine rl_getI (k := 3) cfX0 dX8_runPass_2 flX8_261 (by decide) rfl o_1 ?_
  obtain ⟨o_2, H⟩ := H
  exact rl_callV (As := [.int (hpI h a1 3)]) (rest := []) mfX8_passFault dX8_runPass_5 lkX8_107 o_2 (by decide) (Nat.le_of_ble_eq_true rfl) (Nat.le_refl _) (Nat.le_refl _) rfl (Nat.le_of_ble_eq_true rfl) rfl rfl (fun Qc k => H Qc (fun v h' w => k (some (.int v)) h' w))
theorem bX8_runPass_8 {Q : Nat → Option Value → Hp → Prop} {h : Hp} {a0 a1 : Nat} {xs0 : Int32} (H : ((xs0 = 0 → hpK h a0 = 18 ∧ ∃ p_3 : Nat, hpP h a0 1 = some p_3 ∧ (hpK h a1 = 10 ∧ hpK h p_3 = 16 ∧ CKv mX6_letPass 1 0 0 [some (.ref p_3), some (.int (hpI h a1 3)), none] h (fun h' => Wm mX8_runPass 2 0 0 Q 24 [none, none] [] h' 0 0))) ∧ (¬ xs0 = 0 → Q 0 (some (.int (nI 0))) h))) : Wm mX8_runPass 2 0 0 Q 8 [some (.ref a0), some (.ref a1)] [.int xs0] h 0 0 := by
  refine rl_if_eq (tgt := 13) dX8_runPass_8 (by decide) (fun c_1 => ?_) (fun c_1 => ?_)
  · have H := H.1 c_1
    refine rl_aload_n dX8_runPass_13 rfl rfl ?_
    obtain ⟨o_2, H⟩ := H
    obtain ⟨p_3, e_4, H⟩ := H
    refine rl_getP (k := 1) cfX8 dX8_runPass_14 flX8_27 (by decide) rfl o_2 e_4 ?_
    refine rl_aload_n dX8_runPass_17 rfl rfl ?_
    obtain ⟨o_5, H⟩ := H
    refine rl_getI (k := 3) cfX0 dX8_runPass_18 flX8_261 (by decide) rfl o_5 ?_
    obtain ⟨o_6, H⟩ := H
    exact rl_callV (As := [.int (hpI h a1 3)]) (rest := []) mfX6_letPass dX8_runPass_21 lkX8_111 o_6 (by decide) (Nat.le_of_ble_eq_true rfl) (Nat.le_refl _) (Nat.le_refl _) rfl (Nat.le_of_ble_eq_true rfl) rfl rfl (fun Qc k => H Qc (fun h' w => k none h' (rl_wk (L' := [none, none]) trivial w)))
  · have H := H.2 c_1
    refine rl_iconst (v := nI 0) dX8_runPass_11 (by decide) ?_
    exact rl_zret dX8_runPass_12 rfl rfl (Nat.le_refl 0) (Nat.le_refl 0) H
theorem bX8_runPass_24 {Q : Nat → Option Value → Hp → Prop} {h : Hp}  (H : Q 0 (some (.int (nI 1))) h) : Wm mX8_runPass 2 0 0 Q 24 [none, none] [] h 0 0 := by
  refine rl_iconst (v := nI 1) dX8_runPass_24 (by decide) ?_
  exact rl_zret dX8_runPass_25 rfl rfl (Nat.le_refl 0) (Nat.le_refl 0) H
theorem bX8_passFault_0 {Q : Nat → Option Value → Hp → Prop} {h : Hp} {a0 : Nat} {x1 : Int32} (H : ((x1 < (nI 1) → Q 0 (some (.int (nI 2))) h) ∧ (¬ x1 < (nI 1) → ((x1 ≤ (nI 1000) → hpK h a0 = 18 ∧ ∃ p_4 : Nat, hpP h a0 1 = some p_4 ∧ (hpK h p_4 = 16 ∧ (((hpI h p_4 4) ≤ ((nI 1000000) - x1) → Q 0 (some (.int (nI 0))) h) ∧ (¬ (hpI h p_4 4) ≤ ((nI 1000000) - x1) → Q 0 (some (.int (nI 3))) h)))) ∧ (¬ x1 ≤ (nI 1000) → Q 0 (some (.int (nI 2))) h))))) : Wm mX8_passFault 0 0 0 Q 0 [some (.ref a0), some (.int x1)] [] h 0 0 := by
  refine rl_iload_n dX8_passFault_0 rfl rfl ?_
  refine rl_iconst (v := nI 1) dX8_passFault_1 (by decide) ?_
  refine rl_icmp_lt (tgt := 12) dX8_passFault_2 (by decide) (fun c_1 => ?_) (fun c_1 => ?_)
  · have H := H.1 c_1
    refine rl_iconst (v := nI 2) dX8_passFault_12 (by decide) ?_
    exact rl_iret dX8_passFault_13 rfl (Nat.le_refl 0) (Nat.le_refl 0) H
  · have H := H.2 c_1
    refine rl_iload_n dX8_passFault_5 rfl rfl ?_
    refine rl_sipush (v := nI 1000) dX8_passFault_6 (by decide) ?_
    refine rl_icmp_le (tgt := 14) dX8_passFault_9 (by decide) (fun c_2 => ?_) (fun c_2 => ?_)
    · have H := H.1 c_2
      refine rl_aload_n dX8_passFault_14 rfl rfl ?_
      obtain ⟨o_3, H⟩ := H
      obtain ⟨p_4, e_5, H⟩ := H
      refine rl_getP (k := 1) cfX8 dX8_passFault_15 flX8_27 (by decide) rfl o_3 e_5 ?_
      obtain ⟨o_6, H⟩ := H
      refine rl_getI (k := 4) cfX6 dX8_passFault_18 flX8_114 (by decide) rfl o_6 ?_
      refine rl_ldcw (v := nI 1000000) dX8_passFault_21 kcX8_289 ?_
      refine rl_iload_n dX8_passFault_24 rfl rfl ?_
      refine rl_isub dX8_passFault_25 ?_
      refine rl_icmp_le (tgt := 33) dX8_passFault_26 (by decide) (fun c_7 => ?_) (fun c_7 => ?_)
      · have H := H.1 c_7
        refine rl_iconst (v := nI 0) dX8_passFault_33 (by decide) ?_
        exact rl_iret dX8_passFault_34 rfl (Nat.le_refl 0) (Nat.le_refl 0) H
      · have H := H.2 c_7
        refine rl_iconst (v := nI 3) dX8_passFault_29 (by decide) ?_
        refine rl_goto (tgt := 34) dX8_passFault_30 (by decide) ?_
        exact rl_iret dX8_passFault_34 rfl (Nat.le_refl 0) (Nat.le_refl 0) H
    · have H := H.2 c_2
      refine rl_iconst (v := nI 2) dX8_passFault_12 (by decide) ?_
      exact rl_iret dX8_passFault_13 rfl (Nat.le_refl 0) (Nat.le_refl 0) H
theorem bX8_fingerprint_0 {Q : Nat → Option Value → Hp → Prop} {h : Hp} {a0 : Nat} (H : hpK h a0 = 18 ∧ ∃ p_2 : Nat, hpP h a0 1 = some p_2 ∧ (hpK h p_2 = 16 ∧ CKl mX8_mixed 0 0 0 [some (.long 71), none, some (.int (hpI h p_2 4))] h (fun v h' => Wm mX8_fingerprint 5 0 0 Q 15 [some (.ref a0), none, none, none, none] [.long v] h' 0 0))) : Wm mX8_fingerprint 5 0 0 Q 0 [some (.ref a0), none, none, none, none] [] h 0 0 := by
  refine rl_ldc2 (v := 71) dX8_fingerprint_0 kcX8_242 ?_
  refine rl_lstore_n (L' := [some (.ref a0), some (.long 71), none, none, none]) dX8_fingerprint_3 rfl (Nat.le_of_ble_eq_true rfl) rfl ?_
  refine rl_lload_n dX8_fingerprint_4 rfl rfl ?_
  refine rl_aload_n dX8_fingerprint_5 rfl rfl ?_
  obtain ⟨o_1, H⟩ := H
  obtain ⟨p_2, e_3, H⟩ := H
  refine rl_getP (k := 1) cfX8 dX8_fingerprint_6 flX8_27 (by decide) rfl o_1 e_3 ?_
  obtain ⟨o_4, H⟩ := H
  refine rl_getI (k := 4) cfX6 dX8_fingerprint_9 flX8_114 (by decide) rfl o_4 ?_
  exact rl_callS (As := [.long 71, .int (hpI h p_2 4)]) (rest := []) mfX8_mixed dX8_fingerprint_12 lkX8_244 (by decide) (Nat.le_of_ble_eq_true rfl) (Nat.le_refl _) (Nat.le_refl _) rfl (Nat.le_of_ble_eq_true rfl) rfl rfl (fun Qc k => H Qc (fun v h' w => k (some (.long v)) h' (rl_wk (L' := [some (.ref a0), none, none, none, none]) ⟨rfl, trivial⟩ w)))
theorem bX8_fingerprint_15 {Q : Nat → Option Value → Hp → Prop} {h : Hp} {a0 : Nat} {js0 : Int64} (H : hpK h a0 = 18 ∧ ∃ p_2 : Nat, hpP h a0 1 = some p_2 ∧ (hpK h p_2 = 16 ∧ CKi mX6_trueValue 1 0 0 [some (.ref p_2), none, none, none] h (fun v h' => Wm mX8_fingerprint 5 0 0 Q 24 [some (.ref a0), none, none, none, none] [.int v, .long js0] h' 0 0))) : Wm mX8_fingerprint 5 0 0 Q 15 [some (.ref a0), none, none, none, none] [.long js0] h 0 0 := by
  refine rl_lstore_n (L' := [some (.ref a0), some (.long js0), none, none, none]) dX8_fingerprint_15 rfl (Nat.le_of_ble_eq_true rfl) rfl ?_
  refine rl_lload_n dX8_fingerprint_16 rfl rfl ?_
  refine rl_aload_n dX8_fingerprint_17 rfl rfl ?_
  obtain ⟨o_1, H⟩ := H
  obtain ⟨p_2, e_3, H⟩ := H
  refine rl_getP (k := 1) cfX8 dX8_fingerprint_18 flX8_27 (by decide) rfl o_1 e_3 ?_
  obtain ⟨o_4, H⟩ := H
  exact rl_callV (As := []) (rest := [.long js0]) mfX6_trueValue dX8_fingerprint_21 lkX8_56 o_4 (by decide) (Nat.le_of_ble_eq_true rfl) (Nat.le_refl _) (Nat.le_refl _) rfl (Nat.le_of_ble_eq_true rfl) rfl rfl (fun Qc k => H Qc (fun v h' w => k (some (.int v)) h' (rl_wk (L' := [some (.ref a0), none, none, none, none]) ⟨rfl, trivial⟩ w)))
theorem bX8_fingerprint_24 {Q : Nat → Option Value → Hp → Prop} {h : Hp} {a0 : Nat} {xs1 : Int32} {js0 : Int64} (H : CKl mX8_mixed 0 0 0 [some (.long js0), none, some (.int xs1)] h (fun v h' => Wm mX8_fingerprint 5 0 0 Q 27 [some (.ref a0), none, none, none, none] [.long v] h' 0 0)) : Wm mX8_fingerprint 5 0 0 Q 24 [some (.ref a0), none, none, none, none] [.int xs1, .long js0] h 0 0 := by
  exact rl_callS (As := [.long js0, .int xs1]) (rest := []) mfX8_mixed dX8_fingerprint_24 lkX8_244 (by decide) (Nat.le_of_ble_eq_true rfl) (Nat.le_refl _) (Nat.le_refl _) rfl (Nat.le_of_ble_eq_true rfl) rfl rfl (fun Qc k => H Qc (fun v h' w => k (some (.long v)) h' w))
theorem bX8_fingerprint_27 {Q : Nat → Option Value → Hp → Prop} {h : Hp} {a0 : Nat} {js0 : Int64} (H : hpK h a0 = 18 ∧ ∃ p_2 : Nat, hpP h a0 1 = some p_2 ∧ (hpK h p_2 = 16 ∧ CKl mX8_mixed 0 0 0 [some (.long js0), none, some (.int (hpI h p_2 5))] h (fun v h' => Wm mX8_fingerprint 5 0 0 Q 39 [some (.ref a0), none, none, none, none] [.long v] h' 0 0))) : Wm mX8_fingerprint 5 0 0 Q 27 [some (.ref a0), none, none, none, none] [.long js0] h 0 0 := by
  refine rl_lstore_n (L' := [some (.ref a0), some (.long js0), none, none, none]) dX8_fingerprint_27 rfl (Nat.le_of_ble_eq_true rfl) rfl ?_
  refine rl_lload_n dX8_fingerprint_28 rfl rfl ?_
  refine rl_aload_n dX8_fingerprint_29 rfl rfl ?_
  obtain ⟨o_1, H⟩ := H
  obtain ⟨p_2, e_3, H⟩ := H
  refine rl_getP (k := 1) cfX8 dX8_fingerprint_30 flX8_27 (by decide) rfl o_1 e_3 ?_
  obtain ⟨o_4, H⟩ := H
  refine rl_getI (k := 5) cfX6 dX8_fingerprint_33 flX8_195 (by decide) rfl o_4 ?_
  exact rl_callS (As := [.long js0, .int (hpI h p_2 5)]) (rest := []) mfX8_mixed dX8_fingerprint_36 lkX8_244 (by decide) (Nat.le_of_ble_eq_true rfl) (Nat.le_refl _) (Nat.le_refl _) rfl (Nat.le_of_ble_eq_true rfl) rfl rfl (fun Qc k => H Qc (fun v h' w => k (some (.long v)) h' (rl_wk (L' := [some (.ref a0), none, none, none, none]) ⟨rfl, trivial⟩ w)))
theorem bX8_fingerprint_39 {Q : Nat → Option Value → Hp → Prop} {h : Hp} {a0 : Nat} {js0 : Int64} (H : hpK h a0 = 18 ∧ ∃ p_2 : Nat, hpP h a0 1 = some p_2 ∧ (hpK h p_2 = 16 ∧ CKl mX8_mixed 0 0 0 [some (.long js0), none, some (.int (hpI h p_2 6))] h (fun v h' => Wm mX8_fingerprint 5 0 0 Q 51 [some (.ref a0), none, none, none, none] [.long v] h' 0 0))) : Wm mX8_fingerprint 5 0 0 Q 39 [some (.ref a0), none, none, none, none] [.long js0] h 0 0 := by
  refine rl_lstore_n (L' := [some (.ref a0), some (.long js0), none, none, none]) dX8_fingerprint_39 rfl (Nat.le_of_ble_eq_true rfl) rfl ?_
  refine rl_lload_n dX8_fingerprint_40 rfl rfl ?_
  refine rl_aload_n dX8_fingerprint_41 rfl rfl ?_
  obtain ⟨o_1, H⟩ := H
  obtain ⟨p_2, e_3, H⟩ := H
  refine rl_getP (k := 1) cfX8 dX8_fingerprint_42 flX8_27 (by decide) rfl o_1 e_3 ?_
  obtain ⟨o_4, H⟩ := H
  refine rl_getI (k := 6) cfX6 dX8_fingerprint_45 flX8_132 (by decide) rfl o_4 ?_
  exact rl_callS (As := [.long js0, .int (hpI h p_2 6)]) (rest := []) mfX8_mixed dX8_fingerprint_48 lkX8_244 (by decide) (Nat.le_of_ble_eq_true rfl) (Nat.le_refl _) (Nat.le_refl _) rfl (Nat.le_of_ble_eq_true rfl) rfl rfl (fun Qc k => H Qc (fun v h' w => k (some (.long v)) h' (rl_wk (L' := [some (.ref a0), none, none, none, none]) ⟨rfl, trivial⟩ w)))
theorem bX8_fingerprint_51 {Q : Nat → Option Value → Hp → Prop} {h : Hp} {a0 : Nat} {js0 : Int64} (H : Wm mX8_fingerprint 5 0 0 Q 54 [some (.ref a0), some (.long js0), none, some (.int (nI 0)), none] [] h 0 0) : Wm mX8_fingerprint 5 0 0 Q 51 [some (.ref a0), none, none, none, none] [.long js0] h 0 0 := by
  refine rl_lstore_n (L' := [some (.ref a0), some (.long js0), none, none, none]) dX8_fingerprint_51 rfl (Nat.le_of_ble_eq_true rfl) rfl ?_
  refine rl_iconst (v := nI 0) dX8_fingerprint_52 (by decide) ?_
  refine rl_istore_n (L' := [some (.ref a0), some (.long js0), none, some (.int (nI 0)), none]) dX8_fingerprint_53 rfl (Nat.le_of_ble_eq_true rfl) rfl ?_
  exact H
theorem bX8_fingerprint_54 {Q : Nat → Option Value → Hp → Prop} {h : Hp} {a0 : Nat} {x3 : Int32} {j1 : Int64} (H : hpK h a0 = 18 ∧ (((hpI h a0 0) ≤ x3 → Wm mX8_fingerprint 5 0 0 Q 77 [some (.ref a0), some (.long j1), none, some (.int (nI 0)), none] [] h 0 0) ∧ (¬ (hpI h a0 0) ≤ x3 → CKl mX8_withSite 4 0 0 [some (.ref a0), some (.long j1), none, some (.int x3), none, none, none] h (fun v h' => Wm mX8_fingerprint 5 0 0 Q 68 [some (.ref a0), none, none, some (.int x3), none] [.long v] h' 0 0)))) : Wm mX8_fingerprint 5 0 0 Q 54 [some (.ref a0), some (.long j1), none, some (.int x3), none] [] h 0 0 := by
  refine rl_iload_n dX8_fingerprint_54 rfl rfl ?_
  refine rl_aload_n dX8_fingerprint_55 rfl rfl ?_
  obtain ⟨o_1, H⟩ := H
  refine rl_getI (k := 0) cfX8 dX8_fingerprint_56 flX8_18 (by decide) rfl o_1 ?_
  refine rl_icmp_ge (tgt := 75) dX8_fingerprint_59 (by decide) (fun c_2 => ?_) (fun c_2 => ?_)
  · have H := H.1 c_2
    refine rl_iconst (v := nI 0) dX8_fingerprint_75 (by decide) ?_
    refine rl_istore_n (L' := [some (.ref a0), some (.long j1), none, some (.int (nI 0)), none]) dX8_fingerprint_76 rfl (Nat.le_of_ble_eq_true rfl) rfl ?_
    exact H
  · have H := H.2 c_2
    refine rl_aload_n dX8_fingerprint_62 rfl rfl ?_
    refine rl_lload_n dX8_fingerprint_63 rfl rfl ?_
    refine rl_iload_n dX8_fingerprint_64 rfl rfl ?_
    exact rl_callV (As := [.long j1, .int x3]) (rest := []) mfX8_withSite dX8_fingerprint_65 lkX8_248 o_1 (by decide) (Nat.le_of_ble_eq_true rfl) (Nat.le_refl _) (Nat.le_refl _) rfl (Nat.le_of_ble_eq_true rfl) rfl rfl (fun Qc k => H Qc (fun v h' w => k (some (.long v)) h' (rl_wk (L' := [some (.ref a0), none, none, some (.int x3), none]) ⟨rfl, ⟨rfl, trivial⟩⟩ w)))
theorem bX8_fingerprint_68 {Q : Nat → Option Value → Hp → Prop} {h : Hp} {a0 : Nat} {x3 : Int32} {js0 : Int64} (H : Wm mX8_fingerprint 5 0 0 Q 54 [some (.ref a0), some (.long js0), none, some (.int (x3 + nI 1)), none] [] h 0 0) : Wm mX8_fingerprint 5 0 0 Q 68 [some (.ref a0), none, none, some (.int x3), none] [.long js0] h 0 0 := by
  refine rl_lstore_n (L' := [some (.ref a0), some (.long js0), none, some (.int x3), none]) dX8_fingerprint_68 rfl (Nat.le_of_ble_eq_true rfl) rfl ?_
  refine rl_iinc (v := x3 + nI 1) (L' := [some (.ref a0), some (.long js0), none, some (.int (x3 + nI 1)), none]) dX8_fingerprint_69 rfl (congrArg (fun z => x3 + z) (by decide)) (Nat.le_of_ble_eq_true rfl) rfl ?_
  refine rl_goto (tgt := 54) dX8_fingerprint_72 (by decide) ?_
  exact H
theorem bX8_fingerprint_77 {Q : Nat → Option Value → Hp → Prop} {h : Hp} {a0 : Nat} {x3 : Int32} {j1 : Int64} (H : hpK h a0 = 18 ∧ ∃ p_2 : Nat, hpP h a0 1 = some p_2 ∧ (hpK h p_2 = 16 ∧ (((hpI h p_2 5) ≤ x3 → Q 0 (some (.long j1)) h) ∧ (¬ (hpI h p_2 5) ≤ x3 → Wm mX8_fingerprint 5 0 0 Q 91 [some (.ref a0), some (.long j1), none, some (.int x3), some (.int (nI 5))] [] h 0 0)))) : Wm mX8_fingerprint 5 0 0 Q 77 [some (.ref a0), some (.long j1), none, some (.int x3), none] [] h 0 0 := by
  refine rl_iload_n dX8_fingerprint_77 rfl rfl ?_
  refine rl_aload_n dX8_fingerprint_78 rfl rfl ?_
  obtain ⟨o_1, H⟩ := H
  obtain ⟨p_2, e_3, H⟩ := H
  refine rl_getP (k := 1) cfX8 dX8_fingerprint_79 flX8_27 (by decide) rfl o_1 e_3 ?_
  obtain ⟨o_4, H⟩ := H
  refine rl_getI (k := 5) cfX6 dX8_fingerprint_82 flX8_195 (by decide) rfl o_4 ?_
  refine rl_icmp_ge (tgt := 125) dX8_fingerprint_85 (by decide) (fun c_5 => ?_) (fun c_5 => ?_)
  · have H := H.1 c_5
    refine rl_lload_n dX8_fingerprint_125 rfl rfl ?_
    exact rl_lret dX8_fingerprint_126 rfl (Nat.le_refl 0) (Nat.le_refl 0) H
  · have H := H.2 c_5
    refine rl_iconst (v := nI 5) dX8_fingerprint_88 (by decide) ?_
    refine rl_istore (L' := [some (.ref a0), some (.long j1), none, some (.int x3), some (.int (nI 5))]) dX8_fingerprint_89 (Nat.le_of_ble_eq_true rfl) rfl ?_
    exact H
theorem bX8_fingerprint_91 {Q : Nat → Option Value → Hp → Prop} {h : Hp} {a0 : Nat} {x3 x4 : Int32} {j1 : Int64} (H : (((nI 8) ≤ x4 → Wm mX8_fingerprint 5 0 0 Q 77 [some (.ref a0), some (.long j1), none, some (.int (x3 + nI 1)), none] [] h 0 0) ∧ (¬ (nI 8) ≤ x4 → hpK h a0 = 18 ∧ ∃ p_3 : Nat, hpP h a0 1 = some p_3 ∧ (hpK h p_3 = 16 ∧ CKi mX6_loanFact 2 0 0 [some (.ref p_3), some (.int x3), some (.int x4), none] h (fun v h' => Wm mX8_fingerprint 5 0 0 Q 109 [some (.ref a0), none, none, some (.int x3), some (.int x4)] [.int v, .long j1] h' 0 0))))) : Wm mX8_fingerprint 5 0 0 Q 91 [some (.ref a0), some (.long j1), none, some (.int x3), some (.int x4)] [] h 0 0 := by
  refine rl_iload dX8_fingerprint_91 rfl ?_
  refine rl_bipush (v := nI 8) dX8_fingerprint_93 (by decide) ?_
  refine rl_icmp_ge (tgt := 119) dX8_fingerprint_95 (by decide) (fun c_1 => ?_) (fun c_1 => ?_)
  · have H := H.1 c_1
    refine rl_iinc (v := x3 + nI 1) (L' := [some (.ref a0), some (.long j1), none, some (.int (x3 + nI 1)), some (.int x4)]) dX8_fingerprint_119 rfl (congrArg (fun z => x3 + z) (by decide)) (Nat.le_of_ble_eq_true rfl) rfl ?_
    refine rl_goto (tgt := 77) dX8_fingerprint_122 (by decide) ?_
    refine rl_wk (L' := [some (.ref a0), some (.long j1), none, some (.int (x3 + nI 1)), none]) ⟨rfl, ⟨rfl, ⟨rfl, trivial⟩⟩⟩ ?_
    exact H
  · have H := H.2 c_1
    refine rl_lload_n dX8_fingerprint_98 rfl rfl ?_
    refine rl_aload_n dX8_fingerprint_99 rfl rfl ?_
    obtain ⟨o_2, H⟩ := H
    obtain ⟨p_3, e_4, H⟩ := H
    refine rl_getP (k := 1) cfX8 dX8_fingerprint_100 flX8_27 (by decide) rfl o_2 e_4 ?_
    refine rl_iload_n dX8_fingerprint_103 rfl rfl ?_
    refine rl_iload dX8_fingerprint_104 rfl ?_
    obtain ⟨o_5, H⟩ := H
    exact rl_callV (As := [.int x3, .int x4]) (rest := [.long j1]) mfX6_loanFact dX8_fingerprint_106 lkX8_200 o_5 (by decide) (Nat.le_of_ble_eq_true rfl) (Nat.le_refl _) (Nat.le_refl _) rfl (Nat.le_of_ble_eq_true rfl) rfl rfl (fun Qc k => H Qc (fun v h' w => k (some (.int v)) h' (rl_wk (L' := [some (.ref a0), none, none, some (.int x3), some (.int x4)]) ⟨rfl, ⟨rfl, ⟨rfl, trivial⟩⟩⟩ w)))
theorem bX8_fingerprint_109 {Q : Nat → Option Value → Hp → Prop} {h : Hp} {a0 : Nat} {x3 x4 xs1 : Int32} {js0 : Int64} (H : CKl mX8_mixed 0 0 0 [some (.long js0), none, some (.int xs1)] h (fun v h' => Wm mX8_fingerprint 5 0 0 Q 112 [some (.ref a0), none, none, some (.int x3), some (.int x4)] [.long v] h' 0 0)) : Wm mX8_fingerprint 5 0 0 Q 109 [some (.ref a0), none, none, some (.int x3), some (.int x4)] [.int xs1, .long js0] h 0 0 := by
  exact rl_callS (As := [.long js0, .int xs1]) (rest := []) mfX8_mixed dX8_fingerprint_109 lkX8_244 (by decide) (Nat.le_of_ble_eq_true rfl) (Nat.le_refl _) (Nat.le_refl _) rfl (Nat.le_of_ble_eq_true rfl) rfl rfl (fun Qc k => H Qc (fun v h' w => k (some (.long v)) h' w))
theorem bX8_fingerprint_112 {Q : Nat → Option Value → Hp → Prop} {h : Hp} {a0 : Nat} {x3 x4 : Int32} {js0 : Int64} (H : Wm mX8_fingerprint 5 0 0 Q 91 [some (.ref a0), some (.long js0), none, some (.int x3), some (.int (x4 + nI 1))] [] h 0 0) : Wm mX8_fingerprint 5 0 0 Q 112 [some (.ref a0), none, none, some (.int x3), some (.int x4)] [.long js0] h 0 0 := by
  refine rl_lstore_n (L' := [some (.ref a0), some (.long js0), none, some (.int x3), some (.int x4)]) dX8_fingerprint_112 rfl (Nat.le_of_ble_eq_true rfl) rfl ?_
  refine rl_iinc (v := x4 + nI 1) (L' := [some (.ref a0), some (.long js0), none, some (.int x3), some (.int (x4 + nI 1))]) dX8_fingerprint_113 rfl (congrArg (fun z => x4 + z) (by decide)) (Nat.le_of_ble_eq_true rfl) rfl ?_
  refine rl_goto (tgt := 91) dX8_fingerprint_116 (by decide) ?_
  exact H
theorem bX8_mixed_0 {Q : Nat → Option Value → Hp → Prop} {h : Hp} {x2 : Int32} {j0 : Int64} (H : Q 0 (some (.long ((31 * j0) + ((x2).toInt64)))) h) : Wm mX8_mixed 0 0 0 Q 0 [some (.long j0), none, some (.int x2)] [] h 0 0 := by
  refine rl_ldc2 (v := 31) dX8_mixed_0 kcX8_251 ?_
  refine rl_lload_n dX8_mixed_3 rfl rfl ?_
  refine rl_lmul dX8_mixed_4 ?_
  refine rl_iload_n dX8_mixed_5 rfl rfl ?_
  refine rl_i2l dX8_mixed_6 ?_
  refine rl_ladd dX8_mixed_7 ?_
  exact rl_lret dX8_mixed_8 rfl (Nat.le_refl 0) (Nat.le_refl 0) H
theorem bX8_withSite_0 {Q : Nat → Option Value → Hp → Prop} {h : Hp} {a0 : Nat} {x3 : Int32} {j1 : Int64} (H : Wm mX8_withSite 4 0 0 Q 6 [some (.ref a0), none, none, some (.int x3), some (.long j1), none, some (.int (nI 0))] [] h 0 0) : Wm mX8_withSite 4 0 0 Q 0 [some (.ref a0), some (.long j1), none, some (.int x3), none, none, none] [] h 0 0 := by
  refine rl_lload_n dX8_withSite_0 rfl rfl ?_
  refine rl_lstore (L' := [some (.ref a0), some (.long j1), none, some (.int x3), some (.long j1), none, none]) dX8_withSite_1 (Nat.le_of_ble_eq_true rfl) rfl ?_
  refine rl_iconst (v := nI 0) dX8_withSite_3 (by decide) ?_
  refine rl_istore (L' := [some (.ref a0), some (.long j1), none, some (.int x3), some (.long j1), none, some (.int (nI 0))]) dX8_withSite_4 (Nat.le_of_ble_eq_true rfl) rfl ?_
  refine rl_wk (L' := [some (.ref a0), none, none, some (.int x3), some (.long j1), none, some (.int (nI 0))]) ⟨rfl, ⟨rfl, ⟨rfl, ⟨rfl, trivial⟩⟩⟩⟩ ?_
  exact H
theorem bX8_withSite_6 {Q : Nat → Option Value → Hp → Prop} {h : Hp} {a0 : Nat} {x3 x6 : Int32} {j4 : Int64} (H : (((nI 2) ≤ x6 → hpK h a0 = 18 ∧ ∃ p_3 : Nat, hpP h a0 1 = some p_3 ∧ (hpK h p_3 = 16 ∧ CKi mX6_valueKnownAt 0 0 0 [some (.ref p_3), some (.int x3), none, none, none] h (fun v h' => Wm mX8_withSite 4 0 0 Q 62 [some (.ref a0), none, none, some (.int x3), none, none, none] [.int v, .long j4] h' 0 0))) ∧ (¬ (nI 2) ≤ x6 → hpK h a0 = 18 ∧ ∃ p_7 : Nat, hpP h a0 1 = some p_7 ∧ (hpK h p_7 = 16 ∧ CKi mX6_ownRights 2 0 0 [some (.ref p_7), some (.int x3), some (.int x6), none, none, none] h (fun v h' => Wm mX8_withSite 4 0 0 Q 24 [some (.ref a0), none, none, some (.int x3), none, none, some (.int x6)] [.int v, .long j4] h' 0 0))))) : Wm mX8_withSite 4 0 0 Q 6 [some (.ref a0), none, none, some (.int x3), some (.long j4), none, some (.int x6)] [] h 0 0 := by
  refine rl_iload dX8_withSite_6 rfl ?_
  refine rl_iconst (v := nI 2) dX8_withSite_8 (by decide) ?_
  refine rl_icmp_ge (tgt := 52) dX8_withSite_9 (by decide) (fun c_1 => ?_) (fun c_1 => ?_)
  · have H := H.1 c_1
    refine rl_lload dX8_withSite_52 rfl ?_
    refine rl_aload_n dX8_withSite_54 rfl rfl ?_
    obtain ⟨o_2, H⟩ := H
    obtain ⟨p_3, e_4, H⟩ := H
    refine rl_getP (k := 1) cfX8 dX8_withSite_55 flX8_27 (by decide) rfl o_2 e_4 ?_
    refine rl_iload_n dX8_withSite_58 rfl rfl ?_
    obtain ⟨o_5, H⟩ := H
    exact rl_callV (As := [.int x3]) (rest := [.long j4]) mfX6_valueKnownAt dX8_withSite_59 lkX8_160 o_5 (by decide) (Nat.le_of_ble_eq_true rfl) (Nat.le_refl _) (Nat.le_refl _) rfl (Nat.le_of_ble_eq_true rfl) rfl rfl (fun Qc k => H Qc (fun v h' w => k (some (.int v)) h' (rl_wk (L' := [some (.ref a0), none, none, some (.int x3), none, none, none]) ⟨rfl, ⟨rfl, trivial⟩⟩ w)))
  · have H := H.2 c_1
    refine rl_lload dX8_withSite_12 rfl ?_
    refine rl_aload_n dX8_withSite_14 rfl rfl ?_
    obtain ⟨o_6, H⟩ := H
    obtain ⟨p_7, e_8, H⟩ := H
    refine rl_getP (k := 1) cfX8 dX8_withSite_15 flX8_27 (by decide) rfl o_6 e_8 ?_
    refine rl_iload_n dX8_withSite_18 rfl rfl ?_
    refine rl_iload dX8_withSite_19 rfl ?_
    obtain ⟨o_9, H⟩ := H
    exact rl_callV (As := [.int x3, .int x6]) (rest := [.long j4]) mfX6_ownRights dX8_withSite_21 lkX8_85 o_9 (by decide) (Nat.le_of_ble_eq_true rfl) (Nat.le_refl _) (Nat.le_refl _) rfl (Nat.le_of_ble_eq_true rfl) rfl rfl (fun Qc k => H Qc (fun v h' w => k (some (.int v)) h' (rl_wk (L' := [some (.ref a0), none, none, some (.int x3), none, none, some (.int x6)]) ⟨rfl, ⟨rfl, ⟨rfl, trivial⟩⟩⟩ w)))
theorem bX8_withSite_24 {Q : Nat → Option Value → Hp → Prop} {h : Hp} {a0 : Nat} {x3 x6 xs1 : Int32} {js0 : Int64} (H : CKl mX8_mixed 0 0 0 [some (.long js0), none, some (.int xs1)] h (fun v h' => Wm mX8_withSite 4 0 0 Q 27 [some (.ref a0), none, none, some (.int x3), none, none, some (.int x6)] [.long v] h' 0 0)) : Wm mX8_withSite 4 0 0 Q 24 [some (.ref a0), none, none, some (.int x3), none, none, some (.int x6)] [.int xs1, .long js0] h 0 0 := by
  exact rl_callS (As := [.long js0, .int xs1]) (rest := []) mfX8_mixed dX8_withSite_24 lkX8_244 (by decide) (Nat.le_of_ble_eq_true rfl) (Nat.le_refl _) (Nat.le_refl _) rfl (Nat.le_of_ble_eq_true rfl) rfl rfl (fun Qc k => H Qc (fun v h' w => k (some (.long v)) h' w))
theorem bX8_withSite_27 {Q : Nat → Option Value → Hp → Prop} {h : Hp} {a0 : Nat} {x3 x6 : Int32} {js0 : Int64} (H : hpK h a0 = 18 ∧ ∃ p_2 : Nat, hpP h a0 1 = some p_2 ∧ (hpK h p_2 = 16 ∧ CKi mX6_availableRights 3 0 0 [some (.ref p_2), some (.int x3), some (.int x6), none, none] h (fun v h' => Wm mX8_withSite 4 0 0 Q 41 [some (.ref a0), none, none, some (.int x3), none, none, some (.int x6)] [.int v, .long js0] h' 0 0))) : Wm mX8_withSite 4 0 0 Q 27 [some (.ref a0), none, none, some (.int x3), none, none, some (.int x6)] [.long js0] h 0 0 := by
  refine rl_lstore (L' := [some (.ref a0), none, none, some (.int x3), some (.long js0), none, some (.int x6)]) dX8_withSite_27 (Nat.le_of_ble_eq_true rfl) rfl ?_
  refine rl_lload dX8_withSite_29 rfl ?_
  refine rl_aload_n dX8_withSite_31 rfl rfl ?_
  obtain ⟨o_1, H⟩ := H
  obtain ⟨p_2, e_3, H⟩ := H
  refine rl_getP (k := 1) cfX8 dX8_withSite_32 flX8_27 (by decide) rfl o_1 e_3 ?_
  refine rl_iload_n dX8_withSite_35 rfl rfl ?_
  refine rl_iload dX8_withSite_36 rfl ?_
  obtain ⟨o_4, H⟩ := H
  exact rl_callV (As := [.int x3, .int x6]) (rest := [.long js0]) mfX6_availableRights dX8_withSite_38 lkX8_163 o_4 (by decide) (Nat.le_of_ble_eq_true rfl) (Nat.le_refl _) (Nat.le_refl _) rfl (Nat.le_of_ble_eq_true rfl) rfl rfl (fun Qc k => H Qc (fun v h' w => k (some (.int v)) h' (rl_wk (L' := [some (.ref a0), none, none, some (.int x3), none, none, some (.int x6)]) ⟨rfl, ⟨rfl, ⟨rfl, trivial⟩⟩⟩ w)))
theorem bX8_withSite_41 {Q : Nat → Option Value → Hp → Prop} {h : Hp} {a0 : Nat} {x3 x6 xs1 : Int32} {js0 : Int64} (H : CKl mX8_mixed 0 0 0 [some (.long js0), none, some (.int xs1)] h (fun v h' => Wm mX8_withSite 4 0 0 Q 44 [some (.ref a0), none, none, some (.int x3), none, none, some (.int x6)] [.long v] h' 0 0)) : Wm mX8_withSite 4 0 0 Q 41 [some (.ref a0), none, none, some (.int x3), none, none, some (.int x6)] [.int xs1, .long js0] h 0 0 := by
  exact rl_callS (As := [.long js0, .int xs1]) (rest := []) mfX8_mixed dX8_withSite_41 lkX8_244 (by decide) (Nat.le_of_ble_eq_true rfl) (Nat.le_refl _) (Nat.le_refl _) rfl (Nat.le_of_ble_eq_true rfl) rfl rfl (fun Qc k => H Qc (fun v h' w => k (some (.long v)) h' w))
theorem bX8_withSite_44 {Q : Nat → Option Value → Hp → Prop} {h : Hp} {a0 : Nat} {x3 x6 : Int32} {js0 : Int64} (H : Wm mX8_withSite 4 0 0 Q 6 [some (.ref a0), none, none, some (.int x3), some (.long js0), none, some (.int (x6 + nI 1))] [] h 0 0) : Wm mX8_withSite 4 0 0 Q 44 [some (.ref a0), none, none, some (.int x3), none, none, some (.int x6)] [.long js0] h 0 0 := by
  refine rl_lstore (L' := [some (.ref a0), none, none, some (.int x3), some (.long js0), none, some (.int x6)]) dX8_withSite_44 (Nat.le_of_ble_eq_true rfl) rfl ?_
  refine rl_iinc (v := x6 + nI 1) (L' := [some (.ref a0), none, none, some (.int x3), some (.long js0), none, some (.int (x6 + nI 1))]) dX8_withSite_46 rfl (congrArg (fun z => x6 + z) (by decide)) (Nat.le_of_ble_eq_true rfl) rfl ?_
  refine rl_goto (tgt := 6) dX8_withSite_49 (by decide) ?_
  exact H
theorem bX8_withSite_62 {Q : Nat → Option Value → Hp → Prop} {h : Hp} {a0 : Nat} {x3 xs1 : Int32} {js0 : Int64} (H : CKl mX8_mixed 0 0 0 [some (.long js0), none, some (.int xs1)] h (fun v h' => Wm mX8_withSite 4 0 0 Q 65 [some (.ref a0), none, none, some (.int x3), none, none, none] [.long v] h' 0 0)) : Wm mX8_withSite 4 0 0 Q 62 [some (.ref a0), none, none, some (.int x3), none, none, none] [.int xs1, .long js0] h 0 0 := by
  exact rl_callS (As := [.long js0, .int xs1]) (rest := []) mfX8_mixed dX8_withSite_62 lkX8_244 (by decide) (Nat.le_of_ble_eq_true rfl) (Nat.le_refl _) (Nat.le_refl _) rfl (Nat.le_of_ble_eq_true rfl) rfl rfl (fun Qc k => H Qc (fun v h' w => k (some (.long v)) h' w))
theorem bX8_withSite_65 {Q : Nat → Option Value → Hp → Prop} {h : Hp} {a0 : Nat} {x3 : Int32} {js0 : Int64} (H : Wm mX8_withSite 4 0 0 Q 70 [some (.ref a0), none, none, some (.int x3), some (.long js0), none, some (.int (nI 0))] [] h 0 0) : Wm mX8_withSite 4 0 0 Q 65 [some (.ref a0), none, none, some (.int x3), none, none, none] [.long js0] h 0 0 := by
  refine rl_lstore (L' := [some (.ref a0), none, none, some (.int x3), some (.long js0), none, none]) dX8_withSite_65 (Nat.le_of_ble_eq_true rfl) rfl ?_
  refine rl_iconst (v := nI 0) dX8_withSite_67 (by decide) ?_
  refine rl_istore (L' := [some (.ref a0), none, none, some (.int x3), some (.long js0), none, some (.int (nI 0))]) dX8_withSite_68 (Nat.le_of_ble_eq_true rfl) rfl ?_
  exact H
theorem bX8_withSite_70 {Q : Nat → Option Value → Hp → Prop} {h : Hp} {a0 : Nat} {x3 x6 : Int32} {j4 : Int64} (H : hpK h a0 = 18 ∧ (((hpI h a0 0) ≤ x6 → Q 0 (some (.long j4)) h) ∧ (¬ (hpI h a0 0) ≤ x6 → (∃ p_3 : Nat, hpP h a0 1 = some p_3 ∧ (hpK h p_3 = 16 ∧ ∃ p_6 : Nat, hpP h p_3 7 = some p_6 ∧ (hpK h p_6 = 37 ∧ vp_in x3 (hpN h p_6) ∧ ∃ p_10 : Nat, hpP h p_6 (x3).toNatClampNeg = some p_10 ∧ (hpK h p_10 = 17 ∧ ∃ p_13 : Nat, hpP h p_10 0 = some p_13 ∧ (hpK h p_13 = 35 ∧ vp_in x6 (hpN h p_13) ∧ ∃ p_17 : Nat, hpP h p_13 (x6).toNatClampNeg = some p_17 ∧ (hpK h p_17 = 15 ∧ CKl mX8_mixed 0 0 0 [some (.long j4), none, some (.int (hpI h p_17 0))] h (fun v h' => Wm mX8_withSite 4 0 0 Q 102 [some (.ref a0), none, none, some (.int x3), none, none, some (.int x6)] [.long v] h' 0 0)))))))))) : Wm mX8_withSite 4 0 0 Q 70 [some (.ref a0), none, none, some (.int x3), some (.long j4), none, some (.int x6)] [] h 0 0 := by
  refine rl_iload dX8_withSite_70 rfl ?_
  refine rl_aload_n dX8_withSite_72 rfl rfl ?_
  obtain ⟨o_1, H⟩ := H
  refine rl_getI (k := 0) cfX8 dX8_withSite_73 flX8_18 (by decide) rfl o_1 ?_
  refine rl_icmp_ge (tgt := 135) dX8_withSite_76 (by decide) (fun c_2 => ?_) (fun c_2 => ?_)
  · have H := H.1 c_2
    refine rl_lload dX8_withSite_135 rfl ?_
    exact rl_lret dX8_withSite_137 rfl (Nat.le_refl 0) (Nat.le_refl 0) H
  · have H := H.2 c_2
    refine rl_lload dX8_withSite_79 rfl ?_
    refine rl_aload_n dX8_withSite_81 rfl rfl ?_
    obtain ⟨p_3, e_4, H⟩ := H
    refine rl_getP (k := 1) cfX8 dX8_withSite_82 flX8_27 (by decide) rfl o_1 e_4 ?_
    obtain ⟨o_5, H⟩ := H
    obtain ⟨p_6, e_7, H⟩ := H
    refine rl_getP (k := 7) cfX6 dX8_withSite_85 flX8_175 (by decide) rfl o_5 e_7 ?_
    refine rl_iload_n dX8_withSite_88 rfl rfl ?_
    obtain ⟨o_8, H⟩ := H
    obtain ⟨o_9, H⟩ := H
    obtain ⟨p_10, e_11, H⟩ := H
    refine rl_aald (ci := 7) dX8_withSite_89 rfl o_8 o_9 e_11 ?_
    obtain ⟨o_12, H⟩ := H
    obtain ⟨p_13, e_14, H⟩ := H
    refine rl_getP (k := 0) cfX7 dX8_withSite_90 flX8_179 (by decide) rfl o_12 e_14 ?_
    refine rl_iload dX8_withSite_93 rfl ?_
    obtain ⟨o_15, H⟩ := H
    obtain ⟨o_16, H⟩ := H
    obtain ⟨p_17, e_18, H⟩ := H
    refine rl_aald (ci := 5) dX8_withSite_95 rfl o_15 o_16 e_18 ?_
    obtain ⟨o_19, H⟩ := H
    refine rl_getI (k := 0) cfX5 dX8_withSite_96 flX8_191 (by decide) rfl o_19 ?_
    exact rl_callS (As := [.long j4, .int (hpI h p_17 0)]) (rest := []) mfX8_mixed dX8_withSite_99 lkX8_244 (by decide) (Nat.le_of_ble_eq_true rfl) (Nat.le_refl _) (Nat.le_refl _) rfl (Nat.le_of_ble_eq_true rfl) rfl rfl (fun Qc k => H Qc (fun v h' w => k (some (.long v)) h' (rl_wk (L' := [some (.ref a0), none, none, some (.int x3), none, none, some (.int x6)]) ⟨rfl, ⟨rfl, ⟨rfl, trivial⟩⟩⟩ w)))
theorem bX8_withSite_102 {Q : Nat → Option Value → Hp → Prop} {h : Hp} {a0 : Nat} {x3 x6 : Int32} {js0 : Int64} (H : hpK h a0 = 18 ∧ ∃ p_2 : Nat, hpP h a0 1 = some p_2 ∧ (hpK h p_2 = 16 ∧ ∃ p_5 : Nat, hpP h p_2 7 = some p_5 ∧ (hpK h p_5 = 37 ∧ vp_in x3 (hpN h p_5) ∧ ∃ p_9 : Nat, hpP h p_5 (x3).toNatClampNeg = some p_9 ∧ (hpK h p_9 = 17 ∧ ∃ p_12 : Nat, hpP h p_9 0 = some p_12 ∧ (hpK h p_12 = 35 ∧ vp_in x6 (hpN h p_12) ∧ ∃ p_16 : Nat, hpP h p_12 (x6).toNatClampNeg = some p_16 ∧ (hpK h p_16 = 15 ∧ CKl mX8_mixed 0 0 0 [some (.long js0), none, some (.int (hpI h p_16 1))] h (fun v h' => Wm mX8_withSite 4 0 0 Q 127 [some (.ref a0), none, none, some (.int x3), none, none, some (.int x6)] [.long v] h' 0 0))))))) : Wm mX8_withSite 4 0 0 Q 102 [some (.ref a0), none, none, some (.int x3), none, none, some (.int x6)] [.long js0] h 0 0 := by
  refine rl_lstore (L' := [some (.ref a0), none, none, some (.int x3), some (.long js0), none, some (.int x6)]) dX8_withSite_102 (Nat.le_of_ble_eq_true rfl) rfl ?_
  refine rl_lload dX8_withSite_104 rfl ?_
  refine rl_aload_n dX8_withSite_106 rfl rfl ?_
  obtain ⟨o_1, H⟩ := H
  obtain ⟨p_2, e_3, H⟩ := H
  refine rl_getP (k := 1) cfX8 dX8_withSite_107 flX8_27 (by decide) rfl o_1 e_3 ?_
  obtain ⟨o_4, H⟩ := H
  obtain ⟨p_5, e_6, H⟩ := H
  refine rl_getP (k := 7) cfX6 dX8_withSite_110 flX8_175 (by decide) rfl o_4 e_6 ?_
  refine rl_iload_n dX8_withSite_113 rfl rfl ?_
  obtain ⟨o_7, H⟩ := H
  obtain ⟨o_8, H⟩ := H
  obtain ⟨p_9, e_10, H⟩ := H
  refine rl_aald (ci := 7) dX8_withSite_114 rfl o_7 o_8 e_10 ?_
  obtain ⟨o_11, H⟩ := H
  obtain ⟨p_12, e_13, H⟩ := H
  refine rl_getP (k := 0) cfX7 dX8_withSite_115 flX8_179 (by decide) rfl o_11 e_13 ?_
  refine rl_iload dX8_withSite_118 rfl ?_
  obtain ⟨o_14, H⟩ := H
  obtain ⟨o_15, H⟩ := H
  obtain ⟨p_16, e_17, H⟩ := H
  refine rl_aald (ci := 5) dX8_withSite_120 rfl o_14 o_15 e_17 ?_
  obtain ⟨o_18, H⟩ := H
  refine rl_getI (k := 1) cfX5 dX8_withSite_121 flX8_194 (by decide) rfl o_18 ?_
  exact rl_callS (As := [.long js0, .int (hpI h p_16 1)]) (rest := []) mfX8_mixed dX8_withSite_124 lkX8_244 (by decide) (Nat.le_of_ble_eq_true rfl) (Nat.le_refl _) (Nat.le_refl _) rfl (Nat.le_of_ble_eq_true rfl) rfl rfl (fun Qc k => H Qc (fun v h' w => k (some (.long v)) h' (rl_wk (L' := [some (.ref a0), none, none, some (.int x3), none, none, some (.int x6)]) ⟨rfl, ⟨rfl, ⟨rfl, trivial⟩⟩⟩ w)))
theorem bX8_withSite_127 {Q : Nat → Option Value → Hp → Prop} {h : Hp} {a0 : Nat} {x3 x6 : Int32} {js0 : Int64} (H : Wm mX8_withSite 4 0 0 Q 70 [some (.ref a0), none, none, some (.int x3), some (.long js0), none, some (.int (x6 + nI 1))] [] h 0 0) : Wm mX8_withSite 4 0 0 Q 127 [some (.ref a0), none, none, some (.int x3), none, none, some (.int x6)] [.long js0] h 0 0 := by
  refine rl_lstore (L' := [some (.ref a0), none, none, some (.int x3), some (.long js0), none, some (.int x6)]) dX8_withSite_127 (Nat.le_of_ble_eq_true rfl) rfl ?_
  refine rl_iinc (v := x6 + nI 1) (L' := [some (.ref a0), none, none, some (.int x3), some (.long js0), none, some (.int (x6 + nI 1))]) dX8_withSite_129 rfl (congrArg (fun z => x6 + z) (by decide)) (Nat.le_of_ble_eq_true rfl) rfl ?_
  refine rl_goto (tgt := 70) dX8_withSite_132 (by decide) ?_
  exact H
theorem bX8_begin_0 {Q : Nat → Option Value → Hp → Prop} {h : Hp} {mc ms nc ns : Nat} {a0 : Nat} {x1 x2 x3 : Int32} (H : ((x1 < (-10000) → Wm mX8_begin 6 mc ms Q 23 [some (.ref a0), some (.int x1), some (.int x2), some (.int x3), none, none] [] h nc ns) ∧ (¬ x1 < (-10000) → ((x2 < x1 → Wm mX8_begin 6 mc ms Q 23 [some (.ref a0), some (.int x1), some (.int x2), some (.int x3), none, none] [] h nc ns) ∧ (¬ x2 < x1 → (((nI 10000) < x2 → Wm mX8_begin 6 mc ms Q 23 [some (.ref a0), some (.int x1), some (.int x2), some (.int x3), none, none] [] h nc ns) ∧ (¬ (nI 10000) < x2 → (((nI 1) = 0 → Wm mX8_begin 6 mc ms Q 41 [none, none, none, none, none, none] [] h nc ns) ∧ (¬ (nI 1) = 0 → ((x3 < x1 → Wm mX8_begin 6 mc ms Q 41 [none, none, none, none, none, none] [] h nc ns) ∧ (¬ x3 < x1 → ((x3 ≤ x2 → hpK h a0 = 18 ∧ ∃ p_8 : Nat, hpP h a0 1 = some p_8 ∧ (nc + 0 ≤ mc ∧ ns + 0 ≤ ms ∧ hpK h p_8 = 16 ∧ CKi mX6_trueValue 1 0 0 [some (.ref p_8), none, none, none] h (fun v h' => Wm mX8_begin 6 mc ms Q 58 [some (.ref a0), some (.int x1), some (.int x2), some (.int x3), none, none] [.int v] h' nc ns))) ∧ (¬ x3 ≤ x2 → Wm mX8_begin 6 mc ms Q 41 [none, none, none, none, none, none] [] h nc ns))))))))))))) : Wm mX8_begin 6 mc ms Q 0 [some (.ref a0), some (.int x1), some (.int x2), some (.int x3), none, none] [] h nc ns := by
  refine rl_iload_n dX8_begin_0 rfl rfl ?_
  refine rl_sipush (v := -10000) dX8_begin_1 (by decide) ?_
  refine rl_icmp_lt (tgt := 23) dX8_begin_4 (by decide) (fun c_1 => ?_) (fun c_1 => ?_)
  · have H := H.1 c_1
    exact H
  · have H := H.2 c_1
    refine rl_iload_n dX8_begin_7 rfl rfl ?_
    refine rl_iload_n dX8_begin_8 rfl rfl ?_
    refine rl_icmp_gt (tgt := 23) dX8_begin_9 (by decide) (fun c_2 => ?_) (fun c_2 => ?_)
    · have H := H.1 c_2
      exact H
    · have H := H.2 c_2
      refine rl_iload_n dX8_begin_12 rfl rfl ?_
      refine rl_sipush (v := nI 10000) dX8_begin_13 (by decide) ?_
      refine rl_icmp_gt (tgt := 23) dX8_begin_16 (by decide) (fun c_3 => ?_) (fun c_3 => ?_)
      · have H := H.1 c_3
        exact H
      · have H := H.2 c_3
        refine rl_iconst (v := nI 1) dX8_begin_19 (by decide) ?_
        refine rl_goto (tgt := 24) dX8_begin_20 (by decide) ?_
        refine rl_istore (L' := [some (.ref a0), some (.int x1), some (.int x2), some (.int x3), some (.int (nI 1)), none]) dX8_begin_24 (Nat.le_of_ble_eq_true rfl) rfl ?_
        refine rl_iload dX8_begin_26 rfl ?_
        refine rl_if_eq (tgt := 41) dX8_begin_28 (by decide) (fun c_4 => ?_) (fun c_4 => ?_)
        · have H := H.1 c_4
          refine rl_wk (L' := [none, none, none, none, none, none]) trivial ?_
          exact H
        · have H := H.2 c_4
          refine rl_iload_n dX8_begin_31 rfl rfl ?_
          refine rl_iload_n dX8_begin_32 rfl rfl ?_
          refine rl_icmp_lt (tgt := 41) dX8_begin_33 (by decide) (fun c_5 => ?_) (fun c_5 => ?_)
          · have H := H.1 c_5
            refine rl_wk (L' := [none, none, none, none, none, none]) trivial ?_
            exact H
          · have H := H.2 c_5
            refine rl_iload_n dX8_begin_36 rfl rfl ?_
            refine rl_iload_n dX8_begin_37 rfl rfl ?_
            refine rl_icmp_le (tgt := 51) dX8_begin_38 (by decide) (fun c_6 => ?_) (fun c_6 => ?_)
            · have H := H.1 c_6
              refine rl_aload_n dX8_begin_51 rfl rfl ?_
              obtain ⟨o_7, H⟩ := H
              obtain ⟨p_8, e_9, H⟩ := H
              refine rl_getP (k := 1) cfX8 dX8_begin_52 flX8_27 (by decide) rfl o_7 e_9 ?_
              obtain ⟨o_10, H⟩ := H
              obtain ⟨o_11, H⟩ := H
              obtain ⟨o_12, H⟩ := H
              exact rl_callV (As := []) (rest := []) mfX6_trueValue dX8_begin_55 lkX8_56 o_12 (by decide) (Nat.le_of_ble_eq_true rfl) o_10 o_11 rfl (Nat.le_of_ble_eq_true rfl) rfl rfl (fun Qc k => H Qc (fun v h' w => k (some (.int v)) h' (rl_wk (L' := [some (.ref a0), some (.int x1), some (.int x2), some (.int x3), none, none]) ⟨rfl, ⟨rfl, ⟨rfl, ⟨rfl, trivial⟩⟩⟩⟩ w)))
            · have H := H.2 c_6
              refine rl_wk (L' := [none, none, none, none, none, none]) trivial ?_
              exact H
theorem bX8_begin_23 {Q : Nat → Option Value → Hp → Prop} {h : Hp} {mc ms nc ns : Nat} {a0 : Nat} {x1 x2 x3 : Int32} (H : (((nI 0) = 0 → Wm mX8_begin 6 mc ms Q 41 [none, none, none, none, none, none] [] h nc ns) ∧ (¬ (nI 0) = 0 → ((x3 < x1 → Wm mX8_begin 6 mc ms Q 41 [none, none, none, none, none, none] [] h nc ns) ∧ (¬ x3 < x1 → ((x3 ≤ x2 → hpK h a0 = 18 ∧ ∃ p_5 : Nat, hpP h a0 1 = some p_5 ∧ (nc + 0 ≤ mc ∧ ns + 0 ≤ ms ∧ hpK h p_5 = 16 ∧ CKi mX6_trueValue 1 0 0 [some (.ref p_5), none, none, none] h (fun v h' => Wm mX8_begin 6 mc ms Q 58 [some (.ref a0), some (.int x1), some (.int x2), some (.int x3), none, none] [.int v] h' nc ns))) ∧ (¬ x3 ≤ x2 → Wm mX8_begin 6 mc ms Q 41 [none, none, none, none, none, none] [] h nc ns))))))) : Wm mX8_begin 6 mc ms Q 23 [some (.ref a0), some (.int x1), some (.int x2), some (.int x3), none, none] [] h nc ns := by
  refine rl_iconst (v := nI 0) dX8_begin_23 (by decide) ?_
  refine rl_istore (L' := [some (.ref a0), some (.int x1), some (.int x2), some (.int x3), some (.int (nI 0)), none]) dX8_begin_24 (Nat.le_of_ble_eq_true rfl) rfl ?_
  refine rl_iload dX8_begin_26 rfl ?_
  refine rl_if_eq (tgt := 41) dX8_begin_28 (by decide) (fun c_1 => ?_) (fun c_1 => ?_)
  · have H := H.1 c_1
    refine rl_wk (L' := [none, none, none, none, none, none]) trivial ?_
    exact H
  · have H := H.2 c_1
    refine rl_iload_n dX8_begin_31 rfl rfl ?_
    refine rl_iload_n dX8_begin_32 rfl rfl ?_
    refine rl_icmp_lt (tgt := 41) dX8_begin_33 (by decide) (fun c_2 => ?_) (fun c_2 => ?_)
    · have H := H.1 c_2
      refine rl_wk (L' := [none, none, none, none, none, none]) trivial ?_
      exact H
    · have H := H.2 c_2
      refine rl_iload_n dX8_begin_36 rfl rfl ?_
      refine rl_iload_n dX8_begin_37 rfl rfl ?_
      refine rl_icmp_le (tgt := 51) dX8_begin_38 (by decide) (fun c_3 => ?_) (fun c_3 => ?_)
      · have H := H.1 c_3
        refine rl_aload_n dX8_begin_51 rfl rfl ?_
        obtain ⟨o_4, H⟩ := H
        obtain ⟨p_5, e_6, H⟩ := H
        refine rl_getP (k := 1) cfX8 dX8_begin_52 flX8_27 (by decide) rfl o_4 e_6 ?_
        obtain ⟨o_7, H⟩ := H
        obtain ⟨o_8, H⟩ := H
        obtain ⟨o_9, H⟩ := H
        exact rl_callV (As := []) (rest := []) mfX6_trueValue dX8_begin_55 lkX8_56 o_9 (by decide) (Nat.le_of_ble_eq_true rfl) o_7 o_8 rfl (Nat.le_of_ble_eq_true rfl) rfl rfl (fun Qc k => H Qc (fun v h' w => k (some (.int v)) h' (rl_wk (L' := [some (.ref a0), some (.int x1), some (.int x2), some (.int x3), none, none]) ⟨rfl, ⟨rfl, ⟨rfl, ⟨rfl, trivial⟩⟩⟩⟩ w)))
      · have H := H.2 c_3
        refine rl_wk (L' := [none, none, none, none, none, none]) trivial ?_
        exact H
theorem bX8_begin_41 {Q : Nat → Option Value → Hp → Prop} {h : Hp} {mc ms nc ns : Nat}  (H : nc + 1 ≤ mc ∧ ns + 6 ≤ ms ∧ (∀ z : Nat, hpZ h ≤ z → Q 2 none (stZ h z))) : Wm mX8_begin 6 mc ms Q 41 [none, none, none, none, none, none] [] h nc ns := by
  obtain ⟨o_1, H⟩ := H
  obtain ⟨o_2, H⟩ := H
  exact rl_throw 2 dX8_begin_41 dX8_begin_44 dX8_begin_45 dX8_begin_47 dX8_begin_50 clX8_49 thX8_53 (by decide) (List.mem_of_getElem? (i := 0) rfl) ⟨rfl, by decide⟩ (by decide) o_1 o_2 H
theorem bX8_begin_58 {Q : Nat → Option Value → Hp → Prop} {h : Hp} {mc ms nc ns : Nat} {a0 : Nat} {x1 x2 x3 xs0 : Int32} (H : hpK h a0 = 18 ∧ ∃ p_2 : Nat, hpP h a0 1 = some p_2 ∧ (nc + 0 ≤ mc ∧ ns + 0 ≤ ms ∧ hpK h p_2 = 16 ∧ CKv mX6_beginAnew 2 0 0 [some (.ref p_2), some (.int x1), some (.int x2), some (.int x3), none] h (fun h' => Wm mX8_begin 6 mc ms Q 70 [some (.ref a0), none, none, none, none, some (.int xs0)] [] h' nc ns))) : Wm mX8_begin 6 mc ms Q 58 [some (.ref a0), some (.int x1), some (.int x2), some (.int x3), none, none] [.int xs0] h nc ns := by
  refine rl_istore (L' := [some (.ref a0), some (.int x1), some (.int x2), some (.int x3), none, some (.int xs0)]) dX8_begin_58 (Nat.le_of_ble_eq_true rfl) rfl ?_
  refine rl_aload_n dX8_begin_60 rfl rfl ?_
  obtain ⟨o_1, H⟩ := H
  obtain ⟨p_2, e_3, H⟩ := H
  refine rl_getP (k := 1) cfX8 dX8_begin_61 flX8_27 (by decide) rfl o_1 e_3 ?_
  refine rl_iload_n dX8_begin_64 rfl rfl ?_
  refine rl_iload_n dX8_begin_65 rfl rfl ?_
  refine rl_iload_n dX8_begin_66 rfl rfl ?_
  obtain ⟨o_4, H⟩ := H
  obtain ⟨o_5, H⟩ := H
  obtain ⟨o_6, H⟩ := H
  exact rl_callV (As := [.int x1, .int x2, .int x3]) (rest := []) mfX6_beginAnew dX8_begin_67 lkX8_45 o_6 (by decide) (Nat.le_of_ble_eq_true rfl) o_4 o_5 rfl (Nat.le_of_ble_eq_true rfl) rfl rfl (fun Qc k => H Qc (fun h' w => k none h' (rl_wk (L' := [some (.ref a0), none, none, none, none, some (.int xs0)]) ⟨rfl, ⟨rfl, trivial⟩⟩ w)))
theorem bX8_begin_70 {Q : Nat → Option Value → Hp → Prop} {h : Hp} {mc ms nc ns : Nat} {a0 : Nat} {x5 : Int32} (H : hpK h a0 = 18 ∧ ∃ p_2 : Nat, hpP h a0 2 = some p_2 ∧ (nc + 0 ≤ mc ∧ ns + 0 ≤ ms ∧ hpK h p_2 = 11 ∧ CKv mX1_forget 0 0 0 [some (.ref p_2)] h (fun h' => Wm mX8_begin 6 mc ms Q 77 [none, none, none, none, none, some (.int x5)] [] h' nc ns))) : Wm mX8_begin 6 mc ms Q 70 [some (.ref a0), none, none, none, none, some (.int x5)] [] h nc ns := by
  refine rl_aload_n dX8_begin_70 rfl rfl ?_
  obtain ⟨o_1, H⟩ := H
  obtain ⟨p_2, e_3, H⟩ := H
  refine rl_getP (k := 2) cfX8 dX8_begin_71 flX8_34 (by decide) rfl o_1 e_3 ?_
  obtain ⟨o_4, H⟩ := H
  obtain ⟨o_5, H⟩ := H
  obtain ⟨o_6, H⟩ := H
  exact rl_callV (As := []) (rest := []) mfX1_forget dX8_begin_74 lkX8_60 o_6 (by decide) (Nat.le_of_ble_eq_true rfl) o_4 o_5 rfl (Nat.le_of_ble_eq_true rfl) rfl rfl (fun Qc k => H Qc (fun h' w => k none h' (rl_wk (L' := [none, none, none, none, none, some (.int x5)]) ⟨rfl, trivial⟩ w)))
theorem bX8_begin_77 {Q : Nat → Option Value → Hp → Prop} {h : Hp} {mc ms nc ns : Nat} {x5 : Int32} (H : nc ≤ mc ∧ ns ≤ ms ∧ Q 0 (some (.int x5)) h) : Wm mX8_begin 6 mc ms Q 77 [none, none, none, none, none, some (.int x5)] [] h nc ns := by
  refine rl_iload dX8_begin_77 rfl ?_
  obtain ⟨o_1, H⟩ := H
  obtain ⟨o_2, H⟩ := H
  exact rl_iret dX8_begin_79 rfl o_1 o_2 H
theorem bX8_increase_0 {Q : Nat → Option Value → Hp → Prop} {h : Hp} {mc ms nc ns : Nat} {a0 : Nat} {x1 x2 : Int32} (H : nc + 0 ≤ mc ∧ ns + 0 ≤ ms ∧ hpK h a0 = 18 ∧ CKi mX8_changeFault 1 0 0 [some (.ref a0), some (.int x1), some (.int x2)] h (fun v h' => Wm mX8_increase 7 mc ms Q 6 [some (.ref a0), some (.int x1), some (.int x2)] [.int v] h' nc ns)) : Wm mX8_increase 7 mc ms Q 0 [some (.ref a0), some (.int x1), some (.int x2)] [] h nc ns := by
  refine rl_aload_n dX8_increase_0 rfl rfl ?_
  refine rl_iload_n dX8_increase_1 rfl rfl ?_
  refine rl_iload_n dX8_increase_2 rfl rfl ?_
  obtain ⟨o_1, H⟩ := H
  obtain ⟨o_2, H⟩ := H
  obtain ⟨o_3, H⟩ := H
  exact rl_callV (As := [.int x1, .int x2]) (rest := []) mfX8_changeFault dX8_increase_3 lkX8_63 o_3 (by decide) (Nat.le_of_ble_eq_true rfl) o_1 o_2 rfl (Nat.le_of_ble_eq_true rfl) rfl rfl (fun Qc k => H Qc (fun v h' w => k (some (.int v)) h' w))
theorem bX8_increase_6 {Q : Nat → Option Value → Hp → Prop} {h : Hp} {mc ms nc ns : Nat} {a0 mcn msn : Nat} {x1 x2 xs0 : Int32} (H : nc + mcn ≤ mc ∧ ns + msn ≤ ms ∧ CXv mX8_throwFor 6 mcn msn [some (.int xs0)] h (fun h' => Wm mX8_increase 7 mc ms Q 9 [some (.ref a0), some (.int x1), some (.int x2)] [] h' (nc + mcn) (ns + msn)) (fun j h' => Q j none h')) : Wm mX8_increase 7 mc ms Q 6 [some (.ref a0), some (.int x1), some (.int x2)] [.int xs0] h nc ns := by
  obtain ⟨o_1, H⟩ := H
  obtain ⟨o_2, H⟩ := H
  exact rl_callSX (As := [.int xs0]) (rest := []) mfX8_throwFor dX8_increase_6 lkX8_66 ⟨rfl, by decide⟩ (by decide) (Nat.le_of_ble_eq_true rfl) o_1 o_2 rfl (Nat.le_of_ble_eq_true rfl) rfl rfl (fun Qc k kx => H Qc (fun h' w => k none h' w) kx)
theorem bX8_increase_9 {Q : Nat → Option Value → Hp → Prop} {h : Hp} {mc ms nc ns : Nat} {a0 : Nat} {x1 x2 : Int32} (H : hpK h a0 = 18 ∧ ∃ p_2 : Nat, hpP h a0 2 = some p_2 ∧ (∃ p_4 : Nat, hpP h a0 1 = some p_4 ∧ (nc + 0 ≤ mc ∧ ns + 0 ≤ ms ∧ hpK h p_2 = 11 ∧ CKv mX1_add 5 0 0 [some (.ref p_2), some (.ref p_4)] h (fun h' => Wm mX8_increase 7 mc ms Q 20 [some (.ref a0), some (.int x1), some (.int x2)] [] h' nc ns)))) : Wm mX8_increase 7 mc ms Q 9 [some (.ref a0), some (.int x1), some (.int x2)] [] h nc ns := by
  refine rl_aload_n dX8_increase_9 rfl rfl ?_
  obtain ⟨o_1, H⟩ := H
  obtain ⟨p_2, e_3, H⟩ := H
  refine rl_getP (k := 2) cfX8 dX8_increase_10 flX8_34 (by decide) rfl o_1 e_3 ?_
  refine rl_aload_n dX8_increase_13 rfl rfl ?_
  obtain ⟨p_4, e_5, H⟩ := H
  refine rl_getP (k := 1) cfX8 dX8_increase_14 flX8_27 (by decide) rfl o_1 e_5 ?_
  obtain ⟨o_6, H⟩ := H
  obtain ⟨o_7, H⟩ := H
  obtain ⟨o_8, H⟩ := H
  exact rl_callV (As := [.ref p_4]) (rest := []) mfX1_add dX8_increase_17 lkX8_69 o_8 (by decide) (Nat.le_of_ble_eq_true rfl) o_6 o_7 rfl (Nat.le_of_ble_eq_true rfl) rfl rfl (fun Qc k => H Qc (fun h' w => k none h' w))
theorem bX8_increase_20 {Q : Nat → Option Value → Hp → Prop} {h : Hp} {mc ms nc ns : Nat} {a0 : Nat} {x1 x2 : Int32} (H : hpK h a0 = 18 ∧ ∃ p_2 : Nat, hpP h a0 1 = some p_2 ∧ (nc + 0 ≤ mc ∧ ns + 0 ≤ ms ∧ hpK h p_2 = 16 ∧ CKi mX6_change 4 0 0 [some (.ref p_2), some (.int x1), some (.int (nI 0)), some (.int x2), none, none] h (fun v h' => Wm mX8_increase 7 mc ms Q 30 [none, none, none] [.int v] h' nc ns))) : Wm mX8_increase 7 mc ms Q 20 [some (.ref a0), some (.int x1), some (.int x2)] [] h nc ns := by
  refine rl_aload_n dX8_increase_20 rfl rfl ?_
  obtain ⟨o_1, H⟩ := H
  obtain ⟨p_2, e_3, H⟩ := H
  refine rl_getP (k := 1) cfX8 dX8_increase_21 flX8_27 (by decide) rfl o_1 e_3 ?_
  refine rl_iload_n dX8_increase_24 rfl rfl ?_
  refine rl_iconst (v := nI 0) dX8_increase_25 (by decide) ?_
  refine rl_iload_n dX8_increase_26 rfl rfl ?_
  obtain ⟨o_4, H⟩ := H
  obtain ⟨o_5, H⟩ := H
  obtain ⟨o_6, H⟩ := H
  exact rl_callV (As := [.int x1, .int (nI 0), .int x2]) (rest := []) mfX6_change dX8_increase_27 lkX8_73 o_6 (by decide) (Nat.le_of_ble_eq_true rfl) o_4 o_5 rfl (Nat.le_of_ble_eq_true rfl) rfl rfl (fun Qc k => H Qc (fun v h' w => k (some (.int v)) h' (rl_wk (L' := [none, none, none]) trivial w)))
theorem bX8_increase_30 {Q : Nat → Option Value → Hp → Prop} {h : Hp} {mc ms nc ns : Nat} {xs0 : Int32} (H : nc ≤ mc ∧ ns ≤ ms ∧ narrow .boolean (.int xs0) = .int xs0 ∧ Q 0 (some (.int xs0)) h) : Wm mX8_increase 7 mc ms Q 30 [none, none, none] [.int xs0] h nc ns := by
  obtain ⟨o_1, H⟩ := H
  obtain ⟨o_2, H⟩ := H
  obtain ⟨o_3, H⟩ := H
  exact rl_zret dX8_increase_30 rfl o_3 o_1 o_2 H
theorem bX8_throwFor_0 {Q : Nat → Option Value → Hp → Prop} {h : Hp} {mc ms nc ns : Nat} {x0 : Int32} (H : ((¬ x0 = (nI 1) → ((¬ x0 = (nI 2) → ((¬ x0 = (nI 3) → nc ≤ mc ∧ ns ≤ ms ∧ Q 0 none h) ∧ (x0 = (nI 3) → nc + 1 ≤ mc ∧ ns + 6 ≤ ms ∧ (∀ z : Nat, hpZ h ≤ z → Q 3 none (stZ h z))))) ∧ (x0 = (nI 2) → nc + 1 ≤ mc ∧ ns + 6 ≤ ms ∧ (∀ z : Nat, hpZ h ≤ z → Q 2 none (stZ h z))))) ∧ (x0 = (nI 1) → nc + 1 ≤ mc ∧ ns + 6 ≤ ms ∧ (∀ z : Nat, hpZ h ≤ z → Q 1 none (stZ h z))))) : Wm mX8_throwFor 6 mc ms Q 0 [some (.int x0)] [] h nc ns := by
  refine rl_iload_n dX8_throwFor_0 rfl rfl ?_
  refine rl_iconst (v := nI 1) dX8_throwFor_1 (by decide) ?_
  refine rl_icmp_ne (tgt := 16) dX8_throwFor_2 (by decide) (fun c_1 => ?_) (fun c_1 => ?_)
  · have H := H.1 c_1
    refine rl_iload_n dX8_throwFor_16 rfl rfl ?_
    refine rl_iconst (v := nI 2) dX8_throwFor_17 (by decide) ?_
    refine rl_icmp_ne (tgt := 32) dX8_throwFor_18 (by decide) (fun c_2 => ?_) (fun c_2 => ?_)
    · have H := H.1 c_2
      refine rl_iload_n dX8_throwFor_32 rfl rfl ?_
      refine rl_iconst (v := nI 3) dX8_throwFor_33 (by decide) ?_
      refine rl_icmp_ne (tgt := 48) dX8_throwFor_34 (by decide) (fun c_3 => ?_) (fun c_3 => ?_)
      · have H := H.1 c_3
        obtain ⟨o_4, H⟩ := H
        obtain ⟨o_5, H⟩ := H
        exact rl_vret dX8_throwFor_48 rfl o_4 o_5 H
      · have H := H.2 c_3
        obtain ⟨o_6, H⟩ := H
        obtain ⟨o_7, H⟩ := H
        exact rl_throwW 3 dX8_throwFor_37 dX8_throwFor_40 dX8_throwFor_41 dX8_throwFor_44 dX8_throwFor_47 clX8_135 thX8_139 (by decide) (List.mem_of_getElem? (i := 3) rfl) ⟨rfl, by decide⟩ (by decide) o_6 o_7 H
    · have H := H.2 c_2
      obtain ⟨o_8, H⟩ := H
      obtain ⟨o_9, H⟩ := H
      exact rl_throwW 2 dX8_throwFor_21 dX8_throwFor_24 dX8_throwFor_25 dX8_throwFor_28 dX8_throwFor_31 clX8_49 thX8_53 (by decide) (List.mem_of_getElem? (i := 2) rfl) ⟨rfl, by decide⟩ (by decide) o_8 o_9 H
  · have H := H.2 c_1
    obtain ⟨o_10, H⟩ := H
    obtain ⟨o_11, H⟩ := H
    exact rl_throwW 1 dX8_throwFor_5 dX8_throwFor_8 dX8_throwFor_9 dX8_throwFor_12 dX8_throwFor_15 clX8_143 thX8_147 (by decide) (List.mem_of_getElem? (i := 1) rfl) ⟨rfl, by decide⟩ (by decide) o_10 o_11 H
theorem bX8_decrease_0 {Q : Nat → Option Value → Hp → Prop} {h : Hp} {mc ms nc ns : Nat} {a0 : Nat} {x1 x2 : Int32} (H : nc + 0 ≤ mc ∧ ns + 0 ≤ ms ∧ hpK h a0 = 18 ∧ CKi mX8_changeFault 1 0 0 [some (.ref a0), some (.int x1), some (.int x2)] h (fun v h' => Wm mX8_decrease 7 mc ms Q 6 [some (.ref a0), some (.int x1), some (.int x2)] [.int v] h' nc ns)) : Wm mX8_decrease 7 mc ms Q 0 [some (.ref a0), some (.int x1), some (.int x2)] [] h nc ns := by
  refine rl_aload_n dX8_decrease_0 rfl rfl ?_
  refine rl_iload_n dX8_decrease_1 rfl rfl ?_
  refine rl_iload_n dX8_decrease_2 rfl rfl ?_
  obtain ⟨o_1, H⟩ := H
  obtain ⟨o_2, H⟩ := H
  obtain ⟨o_3, H⟩ := H
  exact rl_callV (As := [.int x1, .int x2]) (rest := []) mfX8_changeFault dX8_decrease_3 lkX8_63 o_3 (by decide) (Nat.le_of_ble_eq_true rfl) o_1 o_2 rfl (Nat.le_of_ble_eq_true rfl) rfl rfl (fun Qc k => H Qc (fun v h' w => k (some (.int v)) h' w))
theorem bX8_decrease_6 {Q : Nat → Option Value → Hp → Prop} {h : Hp} {mc ms nc ns : Nat} {a0 mcn msn : Nat} {x1 x2 xs0 : Int32} (H : nc + mcn ≤ mc ∧ ns + msn ≤ ms ∧ CXv mX8_throwFor 6 mcn msn [some (.int xs0)] h (fun h' => Wm mX8_decrease 7 mc ms Q 9 [some (.ref a0), some (.int x1), some (.int x2)] [] h' (nc + mcn) (ns + msn)) (fun j h' => Q j none h')) : Wm mX8_decrease 7 mc ms Q 6 [some (.ref a0), some (.int x1), some (.int x2)] [.int xs0] h nc ns := by
  obtain ⟨o_1, H⟩ := H
  obtain ⟨o_2, H⟩ := H
  exact rl_callSX (As := [.int xs0]) (rest := []) mfX8_throwFor dX8_decrease_6 lkX8_66 ⟨rfl, by decide⟩ (by decide) (Nat.le_of_ble_eq_true rfl) o_1 o_2 rfl (Nat.le_of_ble_eq_true rfl) rfl rfl (fun Qc k kx => H Qc (fun h' w => k none h' w) kx)
theorem bX8_decrease_9 {Q : Nat → Option Value → Hp → Prop} {h : Hp} {mc ms nc ns : Nat} {a0 : Nat} {x1 x2 : Int32} (H : hpK h a0 = 18 ∧ ∃ p_2 : Nat, hpP h a0 2 = some p_2 ∧ (∃ p_4 : Nat, hpP h a0 1 = some p_4 ∧ (nc + 0 ≤ mc ∧ ns + 0 ≤ ms ∧ hpK h p_2 = 11 ∧ CKv mX1_add 5 0 0 [some (.ref p_2), some (.ref p_4)] h (fun h' => Wm mX8_decrease 7 mc ms Q 20 [some (.ref a0), some (.int x1), some (.int x2)] [] h' nc ns)))) : Wm mX8_decrease 7 mc ms Q 9 [some (.ref a0), some (.int x1), some (.int x2)] [] h nc ns := by
  refine rl_aload_n dX8_decrease_9 rfl rfl ?_
  obtain ⟨o_1, H⟩ := H
  obtain ⟨p_2, e_3, H⟩ := H
  refine rl_getP (k := 2) cfX8 dX8_decrease_10 flX8_34 (by decide) rfl o_1 e_3 ?_
  refine rl_aload_n dX8_decrease_13 rfl rfl ?_
  obtain ⟨p_4, e_5, H⟩ := H
  refine rl_getP (k := 1) cfX8 dX8_decrease_14 flX8_27 (by decide) rfl o_1 e_5 ?_
  obtain ⟨o_6, H⟩ := H
  obtain ⟨o_7, H⟩ := H
  obtain ⟨o_8, H⟩ := H
  exact rl_callV (As := [.ref p_4]) (rest := []) mfX1_add dX8_decrease_17 lkX8_69 o_8 (by decide) (Nat.le_of_ble_eq_true rfl) o_6 o_7 rfl (Nat.le_of_ble_eq_true rfl) rfl rfl (fun Qc k => H Qc (fun h' w => k none h' w))
theorem bX8_decrease_20 {Q : Nat → Option Value → Hp → Prop} {h : Hp} {mc ms nc ns : Nat} {a0 : Nat} {x1 x2 : Int32} (H : hpK h a0 = 18 ∧ ∃ p_2 : Nat, hpP h a0 1 = some p_2 ∧ (nc + 0 ≤ mc ∧ ns + 0 ≤ ms ∧ hpK h p_2 = 16 ∧ CKi mX6_change 4 0 0 [some (.ref p_2), some (.int x1), some (.int (nI 1)), some (.int x2), none, none] h (fun v h' => Wm mX8_decrease 7 mc ms Q 30 [none, none, none] [.int v] h' nc ns))) : Wm mX8_decrease 7 mc ms Q 20 [some (.ref a0), some (.int x1), some (.int x2)] [] h nc ns := by
  refine rl_aload_n dX8_decrease_20 rfl rfl ?_
  obtain ⟨o_1, H⟩ := H
  obtain ⟨p_2, e_3, H⟩ := H
  refine rl_getP (k := 1) cfX8 dX8_decrease_21 flX8_27 (by decide) rfl o_1 e_3 ?_
  refine rl_iload_n dX8_decrease_24 rfl rfl ?_
  refine rl_iconst (v := nI 1) dX8_decrease_25 (by decide) ?_
  refine rl_iload_n dX8_decrease_26 rfl rfl ?_
  obtain ⟨o_4, H⟩ := H
  obtain ⟨o_5, H⟩ := H
  obtain ⟨o_6, H⟩ := H
  exact rl_callV (As := [.int x1, .int (nI 1), .int x2]) (rest := []) mfX6_change dX8_decrease_27 lkX8_73 o_6 (by decide) (Nat.le_of_ble_eq_true rfl) o_4 o_5 rfl (Nat.le_of_ble_eq_true rfl) rfl rfl (fun Qc k => H Qc (fun v h' w => k (some (.int v)) h' (rl_wk (L' := [none, none, none]) trivial w)))
theorem bX8_decrease_30 {Q : Nat → Option Value → Hp → Prop} {h : Hp} {mc ms nc ns : Nat} {xs0 : Int32} (H : nc ≤ mc ∧ ns ≤ ms ∧ narrow .boolean (.int xs0) = .int xs0 ∧ Q 0 (some (.int xs0)) h) : Wm mX8_decrease 7 mc ms Q 30 [none, none, none] [.int xs0] h nc ns := by
  obtain ⟨o_1, H⟩ := H
  obtain ⟨o_2, H⟩ := H
  obtain ⟨o_3, H⟩ := H
  exact rl_zret dX8_decrease_30 rfl o_3 o_1 o_2 H
theorem bX8_transfer_0 {Q : Nat → Option Value → Hp → Prop} {h : Hp} {mc ms nc ns : Nat} {a0 : Nat} {x1 x2 x3 x4 : Int32} (H : nc + 0 ≤ mc ∧ ns + 0 ≤ ms ∧ hpK h a0 = 18 ∧ CKi mX8_transferFault 3 0 0 [some (.ref a0), some (.int x1), some (.int x2), some (.int x3), some (.int x4)] h (fun v h' => Wm mX8_transfer 7 mc ms Q 9 [some (.ref a0), some (.int x1), some (.int x2), some (.int x3), some (.int x4)] [.int v] h' nc ns)) : Wm mX8_transfer 7 mc ms Q 0 [some (.ref a0), some (.int x1), some (.int x2), some (.int x3), some (.int x4)] [] h nc ns := by
  refine rl_aload_n dX8_transfer_0 rfl rfl ?_
  refine rl_iload_n dX8_transfer_1 rfl rfl ?_
  refine rl_iload_n dX8_transfer_2 rfl rfl ?_
  refine rl_iload_n dX8_transfer_3 rfl rfl ?_
  refine rl_iload dX8_transfer_4 rfl ?_
  obtain ⟨o_1, H⟩ := H
  obtain ⟨o_2, H⟩ := H
  obtain ⟨o_3, H⟩ := H
  exact rl_callV (As := [.int x1, .int x2, .int x3, .int x4]) (rest := []) mfX8_transferFault dX8_transfer_6 lkX8_77 o_3 (by decide) (Nat.le_of_ble_eq_true rfl) o_1 o_2 rfl (Nat.le_of_ble_eq_true rfl) rfl rfl (fun Qc k => H Qc (fun v h' w => k (some (.int v)) h' w))
theorem bX8_transfer_9 {Q : Nat → Option Value → Hp → Prop} {h : Hp} {mc ms nc ns : Nat} {a0 mcn msn : Nat} {x1 x2 x3 x4 xs0 : Int32} (H : nc + mcn ≤ mc ∧ ns + msn ≤ ms ∧ CXv mX8_throwFor 6 mcn msn [some (.int xs0)] h (fun h' => Wm mX8_transfer 7 mc ms Q 12 [some (.ref a0), some (.int x1), some (.int x2), some (.int x3), some (.int x4)] [] h' (nc + mcn) (ns + msn)) (fun j h' => Q j none h')) : Wm mX8_transfer 7 mc ms Q 9 [some (.ref a0), some (.int x1), some (.int x2), some (.int x3), some (.int x4)] [.int xs0] h nc ns := by
  obtain ⟨o_1, H⟩ := H
  obtain ⟨o_2, H⟩ := H
  exact rl_callSX (As := [.int xs0]) (rest := []) mfX8_throwFor dX8_transfer_9 lkX8_66 ⟨rfl, by decide⟩ (by decide) (Nat.le_of_ble_eq_true rfl) o_1 o_2 rfl (Nat.le_of_ble_eq_true rfl) rfl rfl (fun Qc k kx => H Qc (fun h' w => k none h' w) kx)
theorem bX8_transfer_12 {Q : Nat → Option Value → Hp → Prop} {h : Hp} {mc ms nc ns : Nat} {a0 : Nat} {x1 x2 x3 x4 : Int32} (H : hpK h a0 = 18 ∧ ∃ p_2 : Nat, hpP h a0 2 = some p_2 ∧ (∃ p_4 : Nat, hpP h a0 1 = some p_4 ∧ (nc + 0 ≤ mc ∧ ns + 0 ≤ ms ∧ hpK h p_2 = 11 ∧ CKv mX1_add 5 0 0 [some (.ref p_2), some (.ref p_4)] h (fun h' => Wm mX8_transfer 7 mc ms Q 23 [some (.ref a0), some (.int x1), some (.int x2), some (.int x3), some (.int x4)] [] h' nc ns)))) : Wm mX8_transfer 7 mc ms Q 12 [some (.ref a0), some (.int x1), some (.int x2), some (.int x3), some (.int x4)] [] h nc ns := by
  refine rl_aload_n dX8_transfer_12 rfl rfl ?_
  obtain ⟨o_1, H⟩ := H
  obtain ⟨p_2, e_3, H⟩ := H
  refine rl_getP (k := 2) cfX8 dX8_transfer_13 flX8_34 (by decide) rfl o_1 e_3 ?_
  refine rl_aload_n dX8_transfer_16 rfl rfl ?_
  obtain ⟨p_4, e_5, H⟩ := H
  refine rl_getP (k := 1) cfX8 dX8_transfer_17 flX8_27 (by decide) rfl o_1 e_5 ?_
  obtain ⟨o_6, H⟩ := H
  obtain ⟨o_7, H⟩ := H
  obtain ⟨o_8, H⟩ := H
  exact rl_callV (As := [.ref p_4]) (rest := []) mfX1_add dX8_transfer_20 lkX8_69 o_8 (by decide) (Nat.le_of_ble_eq_true rfl) o_6 o_7 rfl (Nat.le_of_ble_eq_true rfl) rfl rfl (fun Qc k => H Qc (fun h' w => k none h' w))
theorem bX8_transfer_23 {Q : Nat → Option Value → Hp → Prop} {h : Hp} {mc ms nc ns : Nat} {a0 : Nat} {x1 x2 x3 x4 : Int32} (H : hpK h a0 = 18 ∧ ∃ p_2 : Nat, hpP h a0 1 = some p_2 ∧ (nc + 0 ≤ mc ∧ ns + 0 ≤ ms ∧ hpK h p_2 = 16 ∧ CKv mX6_give 1 0 0 [some (.ref p_2), some (.int x1), some (.int x2), some (.int x3), some (.int x4)] h (fun h' => Wm mX8_transfer 7 mc ms Q 35 [some (.ref a0), some (.int x1), some (.int x2), none, none] [] h' nc ns))) : Wm mX8_transfer 7 mc ms Q 23 [some (.ref a0), some (.int x1), some (.int x2), some (.int x3), some (.int x4)] [] h nc ns := by
  refine rl_aload_n dX8_transfer_23 rfl rfl ?_
  obtain ⟨o_1, H⟩ := H
  obtain ⟨p_2, e_3, H⟩ := H
  refine rl_getP (k := 1) cfX8 dX8_transfer_24 flX8_27 (by decide) rfl o_1 e_3 ?_
  refine rl_iload_n dX8_transfer_27 rfl rfl ?_
  refine rl_iload_n dX8_transfer_28 rfl rfl ?_
  refine rl_iload_n dX8_transfer_29 rfl rfl ?_
  refine rl_iload dX8_transfer_30 rfl ?_
  obtain ⟨o_4, H⟩ := H
  obtain ⟨o_5, H⟩ := H
  obtain ⟨o_6, H⟩ := H
  exact rl_callV (As := [.int x1, .int x2, .int x3, .int x4]) (rest := []) mfX6_give dX8_transfer_32 lkX8_81 o_6 (by decide) (Nat.le_of_ble_eq_true rfl) o_4 o_5 rfl (Nat.le_of_ble_eq_true rfl) rfl rfl (fun Qc k => H Qc (fun h' w => k none h' (rl_wk (L' := [some (.ref a0), some (.int x1), some (.int x2), none, none]) ⟨rfl, ⟨rfl, ⟨rfl, trivial⟩⟩⟩ w)))
theorem bX8_transfer_35 {Q : Nat → Option Value → Hp → Prop} {h : Hp} {mc ms nc ns : Nat} {a0 : Nat} {x1 x2 : Int32} (H : hpK h a0 = 18 ∧ ∃ p_2 : Nat, hpP h a0 1 = some p_2 ∧ (nc + 0 ≤ mc ∧ ns + 0 ≤ ms ∧ hpK h p_2 = 16 ∧ CKi mX6_ownRights 2 0 0 [some (.ref p_2), some (.int x2), some (.int x1), none, none, none] h (fun v h' => Wm mX8_transfer 7 mc ms Q 44 [none, none, none, none, none] [.int v] h' nc ns))) : Wm mX8_transfer 7 mc ms Q 35 [some (.ref a0), some (.int x1), some (.int x2), none, none] [] h nc ns := by
  refine rl_aload_n dX8_transfer_35 rfl rfl ?_
  obtain ⟨o_1, H⟩ := H
  obtain ⟨p_2, e_3, H⟩ := H
  refine rl_getP (k := 1) cfX8 dX8_transfer_36 flX8_27 (by decide) rfl o_1 e_3 ?_
  refine rl_iload_n dX8_transfer_39 rfl rfl ?_
  refine rl_iload_n dX8_transfer_40 rfl rfl ?_
  obtain ⟨o_4, H⟩ := H
  obtain ⟨o_5, H⟩ := H
  obtain ⟨o_6, H⟩ := H
  exact rl_callV (As := [.int x2, .int x1]) (rest := []) mfX6_ownRights dX8_transfer_41 lkX8_85 o_6 (by decide) (Nat.le_of_ble_eq_true rfl) o_4 o_5 rfl (Nat.le_of_ble_eq_true rfl) rfl rfl (fun Qc k => H Qc (fun v h' w => k (some (.int v)) h' (rl_wk (L' := [none, none, none, none, none]) trivial w)))
theorem bX8_transfer_44 {Q : Nat → Option Value → Hp → Prop} {h : Hp} {mc ms nc ns : Nat} {xs0 : Int32} (H : nc ≤ mc ∧ ns ≤ ms ∧ Q 0 (some (.int xs0)) h) : Wm mX8_transfer 7 mc ms Q 44 [none, none, none, none, none] [.int xs0] h nc ns := by
  obtain ⟨o_1, H⟩ := H
  obtain ⟨o_2, H⟩ := H
  exact rl_iret dX8_transfer_44 rfl o_1 o_2 H
theorem bX8_lend_0 {Q : Nat → Option Value → Hp → Prop} {h : Hp} {mc ms nc ns : Nat} {a0 : Nat} {x1 x2 x3 x4 x5 : Int32} (H : nc + 0 ≤ mc ∧ ns + 0 ≤ ms ∧ hpK h a0 = 18 ∧ CKi mX8_lendFault 4 0 0 [some (.ref a0), some (.int x1), some (.int x2), some (.int x3), some (.int x4), some (.int x5), none] h (fun v h' => Wm mX8_lend 7 mc ms Q 11 [some (.ref a0), some (.int x1), some (.int x2), some (.int x3), some (.int x4), some (.int x5)] [.int v] h' nc ns)) : Wm mX8_lend 7 mc ms Q 0 [some (.ref a0), some (.int x1), some (.int x2), some (.int x3), some (.int x4), some (.int x5)] [] h nc ns := by
  refine rl_aload_n dX8_lend_0 rfl rfl ?_
  refine rl_iload_n dX8_lend_1 rfl rfl ?_
  refine rl_iload_n dX8_lend_2 rfl rfl ?_
  refine rl_iload_n dX8_lend_3 rfl rfl ?_
  refine rl_iload dX8_lend_4 rfl ?_
  refine rl_iload dX8_lend_6 rfl ?_
  obtain ⟨o_1, H⟩ := H
  obtain ⟨o_2, H⟩ := H
  obtain ⟨o_3, H⟩ := H
  exact rl_callV (As := [.int x1, .int x2, .int x3, .int x4, .int x5]) (rest := []) mfX8_lendFault dX8_lend_8 lkX8_88 o_3 (by decide) (Nat.le_of_ble_eq_true rfl) o_1 o_2 rfl (Nat.le_of_ble_eq_true rfl) rfl rfl (fun Qc k => H Qc (fun v h' w => k (some (.int v)) h' w))
theorem bX8_lend_11 {Q : Nat → Option Value → Hp → Prop} {h : Hp} {mc ms nc ns : Nat} {a0 mcn msn : Nat} {x1 x2 x3 x4 x5 xs0 : Int32} (H : nc + mcn ≤ mc ∧ ns + msn ≤ ms ∧ CXv mX8_throwFor 6 mcn msn [some (.int xs0)] h (fun h' => Wm mX8_lend 7 mc ms Q 14 [some (.ref a0), some (.int x1), some (.int x2), some (.int x3), some (.int x4), some (.int x5)] [] h' (nc + mcn) (ns + msn)) (fun j h' => Q j none h')) : Wm mX8_lend 7 mc ms Q 11 [some (.ref a0), some (.int x1), some (.int x2), some (.int x3), some (.int x4), some (.int x5)] [.int xs0] h nc ns := by
  obtain ⟨o_1, H⟩ := H
  obtain ⟨o_2, H⟩ := H
  exact rl_callSX (As := [.int xs0]) (rest := []) mfX8_throwFor dX8_lend_11 lkX8_66 ⟨rfl, by decide⟩ (by decide) (Nat.le_of_ble_eq_true rfl) o_1 o_2 rfl (Nat.le_of_ble_eq_true rfl) rfl rfl (fun Qc k kx => H Qc (fun h' w => k none h' w) kx)
theorem bX8_lend_14 {Q : Nat → Option Value → Hp → Prop} {h : Hp} {mc ms nc ns : Nat} {a0 : Nat} {x1 x2 x3 x4 x5 : Int32} (H : hpK h a0 = 18 ∧ ∃ p_2 : Nat, hpP h a0 2 = some p_2 ∧ (∃ p_4 : Nat, hpP h a0 1 = some p_4 ∧ (nc + 0 ≤ mc ∧ ns + 0 ≤ ms ∧ hpK h p_2 = 11 ∧ CKv mX1_add 5 0 0 [some (.ref p_2), some (.ref p_4)] h (fun h' => Wm mX8_lend 7 mc ms Q 25 [some (.ref a0), some (.int x1), some (.int x2), some (.int x3), some (.int x4), some (.int x5)] [] h' nc ns)))) : Wm mX8_lend 7 mc ms Q 14 [some (.ref a0), some (.int x1), some (.int x2), some (.int x3), some (.int x4), some (.int x5)] [] h nc ns := by
  refine rl_aload_n dX8_lend_14 rfl rfl ?_
  obtain ⟨o_1, H⟩ := H
  obtain ⟨p_2, e_3, H⟩ := H
  refine rl_getP (k := 2) cfX8 dX8_lend_15 flX8_34 (by decide) rfl o_1 e_3 ?_
  refine rl_aload_n dX8_lend_18 rfl rfl ?_
  obtain ⟨p_4, e_5, H⟩ := H
  refine rl_getP (k := 1) cfX8 dX8_lend_19 flX8_27 (by decide) rfl o_1 e_5 ?_
  obtain ⟨o_6, H⟩ := H
  obtain ⟨o_7, H⟩ := H
  obtain ⟨o_8, H⟩ := H
  exact rl_callV (As := [.ref p_4]) (rest := []) mfX1_add dX8_lend_22 lkX8_69 o_8 (by decide) (Nat.le_of_ble_eq_true rfl) o_6 o_7 rfl (Nat.le_of_ble_eq_true rfl) rfl rfl (fun Qc k => H Qc (fun h' w => k none h' w))
theorem bX8_lend_25 {Q : Nat → Option Value → Hp → Prop} {h : Hp} {mc ms nc ns : Nat} {a0 : Nat} {x1 x2 x3 x4 x5 : Int32} (H : hpK h a0 = 18 ∧ ∃ p_2 : Nat, hpP h a0 1 = some p_2 ∧ (nc + 0 ≤ mc ∧ ns + 0 ≤ ms ∧ hpK h p_2 = 16 ∧ CKi mX6_makeLoan 1 0 0 [some (.ref p_2), some (.int x1), some (.int x2), some (.int x3), some (.int x4), some (.int x5), none, none, none] h (fun v h' => Wm mX8_lend 7 mc ms Q 39 [none, none, none, none, none, none] [.int v] h' nc ns))) : Wm mX8_lend 7 mc ms Q 25 [some (.ref a0), some (.int x1), some (.int x2), some (.int x3), some (.int x4), some (.int x5)] [] h nc ns := by
  refine rl_aload_n dX8_lend_25 rfl rfl ?_
  obtain ⟨o_1, H⟩ := H
  obtain ⟨p_2, e_3, H⟩ := H
  refine rl_getP (k := 1) cfX8 dX8_lend_26 flX8_27 (by decide) rfl o_1 e_3 ?_
  refine rl_iload_n dX8_lend_29 rfl rfl ?_
  refine rl_iload_n dX8_lend_30 rfl rfl ?_
  refine rl_iload_n dX8_lend_31 rfl rfl ?_
  refine rl_iload dX8_lend_32 rfl ?_
  refine rl_iload dX8_lend_34 rfl ?_
  obtain ⟨o_4, H⟩ := H
  obtain ⟨o_5, H⟩ := H
  obtain ⟨o_6, H⟩ := H
  exact rl_callV (As := [.int x1, .int x2, .int x3, .int x4, .int x5]) (rest := []) mfX6_makeLoan dX8_lend_36 lkX8_92 o_6 (by decide) (Nat.le_of_ble_eq_true rfl) o_4 o_5 rfl (Nat.le_of_ble_eq_true rfl) rfl rfl (fun Qc k => H Qc (fun v h' w => k (some (.int v)) h' (rl_wk (L' := [none, none, none, none, none, none]) trivial w)))
theorem bX8_lend_39 {Q : Nat → Option Value → Hp → Prop} {h : Hp} {mc ms nc ns : Nat} {xs0 : Int32} (H : nc ≤ mc ∧ ns ≤ ms ∧ Q 0 (some (.int xs0)) h) : Wm mX8_lend 7 mc ms Q 39 [none, none, none, none, none, none] [.int xs0] h nc ns := by
  obtain ⟨o_1, H⟩ := H
  obtain ⟨o_2, H⟩ := H
  exact rl_iret dX8_lend_39 rfl o_1 o_2 H
theorem bX8_lendFault_0 {Q : Nat → Option Value → Hp → Prop} {h : Hp} {a0 : Nat} {x1 x2 x3 x4 x5 : Int32} (H : hpK h a0 = 18 ∧ CKi mX8_transferFault 3 0 0 [some (.ref a0), some (.int x1), some (.int x2), some (.int x3), some (.int x4)] h (fun v h' => Wm mX8_lendFault 4 0 0 Q 9 [some (.ref a0), none, none, none, none, some (.int x5), none] [.int v] h' 0 0)) : Wm mX8_lendFault 4 0 0 Q 0 [some (.ref a0), some (.int x1), some (.int x2), some (.int x3), some (.int x4), some (.int x5), none] [] h 0 0 := by
  refine rl_aload_n dX8_lendFault_0 rfl rfl ?_
  refine rl_iload_n dX8_lendFault_1 rfl rfl ?_
  refine rl_iload_n dX8_lendFault_2 rfl rfl ?_
  refine rl_iload_n dX8_lendFault_3 rfl rfl ?_
  refine rl_iload dX8_lendFault_4 rfl ?_
  obtain ⟨o_1, H⟩ := H
  exact rl_callV (As := [.int x1, .int x2, .int x3, .int x4]) (rest := []) mfX8_transferFault dX8_lendFault_6 lkX8_77 o_1 (by decide) (Nat.le_of_ble_eq_true rfl) (Nat.le_refl _) (Nat.le_refl _) rfl (Nat.le_of_ble_eq_true rfl) rfl rfl (fun Qc k => H Qc (fun v h' w => k (some (.int v)) h' (rl_wk (L' := [some (.ref a0), none, none, none, none, some (.int x5), none]) ⟨rfl, ⟨rfl, trivial⟩⟩ w)))
theorem bX8_lendFault_9 {Q : Nat → Option Value → Hp → Prop} {h : Hp} {a0 : Nat} {x5 xs0 : Int32} (H : ((xs0 = (nI 1) → Q 0 (some (.int xs0)) h) ∧ (¬ xs0 = (nI 1) → ((¬ xs0 = (nI 2) → ((x5 < (nI 1) → Q 0 (some (.int (nI 2))) h) ∧ (¬ x5 < (nI 1) → ((x5 ≤ (nI 1000) → hpK h a0 = 18 ∧ ∃ p_6 : Nat, hpP h a0 1 = some p_6 ∧ (hpK h p_6 = 16 ∧ (((hpI h p_6 5) < (nI 10) → Q 0 (some (.int xs0)) h) ∧ (¬ (hpI h p_6 5) < (nI 10) → Q 0 (some (.int (nI 3))) h)))) ∧ (¬ x5 ≤ (nI 1000) → Q 0 (some (.int (nI 2))) h))))) ∧ (xs0 = (nI 2) → Q 0 (some (.int xs0)) h))))) : Wm mX8_lendFault 4 0 0 Q 9 [some (.ref a0), none, none, none, none, some (.int x5), none] [.int xs0] h 0 0 := by
  refine rl_istore (L' := [some (.ref a0), none, none, none, none, some (.int x5), some (.int xs0)]) dX8_lendFault_9 (Nat.le_of_ble_eq_true rfl) rfl ?_
  refine rl_iload dX8_lendFault_11 rfl ?_
  refine rl_iconst (v := nI 1) dX8_lendFault_13 (by decide) ?_
  refine rl_icmp_eq (tgt := 23) dX8_lendFault_14 (by decide) (fun c_1 => ?_) (fun c_1 => ?_)
  · have H := H.1 c_1
    refine rl_iload dX8_lendFault_23 rfl ?_
    exact rl_iret dX8_lendFault_25 rfl (Nat.le_refl 0) (Nat.le_refl 0) H
  · have H := H.2 c_1
    refine rl_iload dX8_lendFault_17 rfl ?_
    refine rl_iconst (v := nI 2) dX8_lendFault_19 (by decide) ?_
    refine rl_icmp_ne (tgt := 26) dX8_lendFault_20 (by decide) (fun c_2 => ?_) (fun c_2 => ?_)
    · have H := H.1 c_2
      refine rl_iload dX8_lendFault_26 rfl ?_
      refine rl_iconst (v := nI 1) dX8_lendFault_28 (by decide) ?_
      refine rl_icmp_lt (tgt := 40) dX8_lendFault_29 (by decide) (fun c_3 => ?_) (fun c_3 => ?_)
      · have H := H.1 c_3
        refine rl_iconst (v := nI 2) dX8_lendFault_40 (by decide) ?_
        exact rl_iret dX8_lendFault_41 rfl (Nat.le_refl 0) (Nat.le_refl 0) H
      · have H := H.2 c_3
        refine rl_iload dX8_lendFault_32 rfl ?_
        refine rl_sipush (v := nI 1000) dX8_lendFault_34 (by decide) ?_
        refine rl_icmp_le (tgt := 42) dX8_lendFault_37 (by decide) (fun c_4 => ?_) (fun c_4 => ?_)
        · have H := H.1 c_4
          refine rl_aload_n dX8_lendFault_42 rfl rfl ?_
          obtain ⟨o_5, H⟩ := H
          obtain ⟨p_6, e_7, H⟩ := H
          refine rl_getP (k := 1) cfX8 dX8_lendFault_43 flX8_27 (by decide) rfl o_5 e_7 ?_
          obtain ⟨o_8, H⟩ := H
          refine rl_getI (k := 5) cfX6 dX8_lendFault_46 flX8_195 (by decide) rfl o_8 ?_
          refine rl_bipush (v := nI 10) dX8_lendFault_49 (by decide) ?_
          refine rl_icmp_lt (tgt := 58) dX8_lendFault_51 (by decide) (fun c_9 => ?_) (fun c_9 => ?_)
          · have H := H.1 c_9
            refine rl_iload dX8_lendFault_58 rfl ?_
            exact rl_iret dX8_lendFault_60 rfl (Nat.le_refl 0) (Nat.le_refl 0) H
          · have H := H.2 c_9
            refine rl_iconst (v := nI 3) dX8_lendFault_54 (by decide) ?_
            refine rl_goto (tgt := 60) dX8_lendFault_55 (by decide) ?_
            exact rl_iret dX8_lendFault_60 rfl (Nat.le_refl 0) (Nat.le_refl 0) H
        · have H := H.2 c_4
          refine rl_iconst (v := nI 2) dX8_lendFault_40 (by decide) ?_
          exact rl_iret dX8_lendFault_41 rfl (Nat.le_refl 0) (Nat.le_refl 0) H
    · have H := H.2 c_2
      refine rl_iload dX8_lendFault_23 rfl ?_
      exact rl_iret dX8_lendFault_25 rfl (Nat.le_refl 0) (Nat.le_refl 0) H
theorem bX8_rebalance_0 {Q : Nat → Option Value → Hp → Prop} {h : Hp} {mc ms nc ns : Nat} {a0 : Nat} {x1 x2 : Int32} (H : nc + 0 ≤ mc ∧ ns + 0 ≤ ms ∧ hpK h a0 = 18 ∧ CKi mX8_siteAndKindFault 1 0 0 [some (.ref a0), some (.int x1), some (.int x2)] h (fun v h' => Wm mX8_rebalance 7 mc ms Q 6 [some (.ref a0), some (.int x1), some (.int x2), none] [.int v] h' nc ns)) : Wm mX8_rebalance 7 mc ms Q 0 [some (.ref a0), some (.int x1), some (.int x2), none] [] h nc ns := by
  refine rl_aload_n dX8_rebalance_0 rfl rfl ?_
  refine rl_iload_n dX8_rebalance_1 rfl rfl ?_
  refine rl_iload_n dX8_rebalance_2 rfl rfl ?_
  obtain ⟨o_1, H⟩ := H
  obtain ⟨o_2, H⟩ := H
  obtain ⟨o_3, H⟩ := H
  exact rl_callV (As := [.int x1, .int x2]) (rest := []) mfX8_siteAndKindFault dX8_rebalance_3 lkX8_95 o_3 (by decide) (Nat.le_of_ble_eq_true rfl) o_1 o_2 rfl (Nat.le_of_ble_eq_true rfl) rfl rfl (fun Qc k => H Qc (fun v h' w => k (some (.int v)) h' w))
theorem bX8_rebalance_6 {Q : Nat → Option Value → Hp → Prop} {h : Hp} {mc ms nc ns : Nat} {a0 mcn msn : Nat} {x1 x2 xs0 : Int32} (H : nc + mcn ≤ mc ∧ ns + msn ≤ ms ∧ CXv mX8_throwFor 6 mcn msn [some (.int xs0)] h (fun h' => Wm mX8_rebalance 7 mc ms Q 9 [some (.ref a0), some (.int x1), some (.int x2), none] [] h' (nc + mcn) (ns + msn)) (fun j h' => Q j none h')) : Wm mX8_rebalance 7 mc ms Q 6 [some (.ref a0), some (.int x1), some (.int x2), none] [.int xs0] h nc ns := by
  obtain ⟨o_1, H⟩ := H
  obtain ⟨o_2, H⟩ := H
  exact rl_callSX (As := [.int xs0]) (rest := []) mfX8_throwFor dX8_rebalance_6 lkX8_66 ⟨rfl, by decide⟩ (by decide) (Nat.le_of_ble_eq_true rfl) o_1 o_2 rfl (Nat.le_of_ble_eq_true rfl) rfl rfl (fun Qc k kx => H Qc (fun h' w => k none h' w) kx)
theorem bX8_rebalance_9 {Q : Nat → Option Value → Hp → Prop} {h : Hp} {mc ms nc ns : Nat} {a0 : Nat} {x1 x2 : Int32} (H : hpK h a0 = 18 ∧ ∃ p_2 : Nat, hpP h a0 2 = some p_2 ∧ (∃ p_4 : Nat, hpP h a0 1 = some p_4 ∧ (nc + 0 ≤ mc ∧ ns + 0 ≤ ms ∧ hpK h p_2 = 11 ∧ CKv mX1_save 5 0 0 [some (.ref p_2), some (.ref p_4)] h (fun h' => Wm mX8_rebalance 7 mc ms Q 20 [some (.ref a0), some (.int x1), some (.int x2), none] [] h' nc ns)))) : Wm mX8_rebalance 7 mc ms Q 9 [some (.ref a0), some (.int x1), some (.int x2), none] [] h nc ns := by
  refine rl_aload_n dX8_rebalance_9 rfl rfl ?_
  obtain ⟨o_1, H⟩ := H
  obtain ⟨p_2, e_3, H⟩ := H
  refine rl_getP (k := 2) cfX8 dX8_rebalance_10 flX8_34 (by decide) rfl o_1 e_3 ?_
  refine rl_aload_n dX8_rebalance_13 rfl rfl ?_
  obtain ⟨p_4, e_5, H⟩ := H
  refine rl_getP (k := 1) cfX8 dX8_rebalance_14 flX8_27 (by decide) rfl o_1 e_5 ?_
  obtain ⟨o_6, H⟩ := H
  obtain ⟨o_7, H⟩ := H
  obtain ⟨o_8, H⟩ := H
  exact rl_callV (As := [.ref p_4]) (rest := []) mfX1_save dX8_rebalance_17 lkX8_98 o_8 (by decide) (Nat.le_of_ble_eq_true rfl) o_6 o_7 rfl (Nat.le_of_ble_eq_true rfl) rfl rfl (fun Qc k => H Qc (fun h' w => k none h' w))
theorem bX8_rebalance_20 {Q : Nat → Option Value → Hp → Prop} {h : Hp} {mc ms nc ns : Nat} {a0 : Nat} {x1 x2 : Int32} (H : hpK h a0 = 18 ∧ ∃ p_2 : Nat, hpP h a0 1 = some p_2 ∧ (nc + 0 ≤ mc ∧ ns + 0 ≤ ms ∧ hpK h p_2 = 16 ∧ CKi mX6_shareOut 3 0 0 [some (.ref p_2), some (.int x1), some (.int x2), none, none, none, none, none, none, none] h (fun v h' => Wm mX8_rebalance 7 mc ms Q 29 [some (.ref a0), none, none, none] [.int v] h' nc ns))) : Wm mX8_rebalance 7 mc ms Q 20 [some (.ref a0), some (.int x1), some (.int x2), none] [] h nc ns := by
  refine rl_aload_n dX8_rebalance_20 rfl rfl ?_
  obtain ⟨o_1, H⟩ := H
  obtain ⟨p_2, e_3, H⟩ := H
  refine rl_getP (k := 1) cfX8 dX8_rebalance_21 flX8_27 (by decide) rfl o_1 e_3 ?_
  refine rl_iload_n dX8_rebalance_24 rfl rfl ?_
  refine rl_iload_n dX8_rebalance_25 rfl rfl ?_
  obtain ⟨o_4, H⟩ := H
  obtain ⟨o_5, H⟩ := H
  obtain ⟨o_6, H⟩ := H
  exact rl_callV (As := [.int x1, .int x2]) (rest := []) mfX6_shareOut dX8_rebalance_26 lkX8_101 o_6 (by decide) (Nat.le_of_ble_eq_true rfl) o_4 o_5 rfl (Nat.le_of_ble_eq_true rfl) rfl rfl (fun Qc k => H Qc (fun v h' w => k (some (.int v)) h' (rl_wk (L' := [some (.ref a0), none, none, none]) ⟨rfl, trivial⟩ w)))
theorem bX8_rebalance_29 {Q : Nat → Option Value → Hp → Prop} {h : Hp} {mc ms nc ns : Nat} {a0 : Nat} {xs0 : Int32} (H : ((xs0 ≤ 0 → Wm mX8_rebalance 7 mc ms Q 41 [none, none, none, some (.int xs0)] [] h nc ns) ∧ (¬ xs0 ≤ 0 → hpK h a0 = 18 ∧ ∃ p_3 : Nat, hpP h a0 2 = some p_3 ∧ (nc + 0 ≤ mc ∧ ns + 0 ≤ ms ∧ hpK h p_3 = 11 ∧ CKv mX1_keep 0 0 0 [some (.ref p_3)] h (fun h' => Wm mX8_rebalance 7 mc ms Q 41 [none, none, none, some (.int xs0)] [] h' nc ns))))) : Wm mX8_rebalance 7 mc ms Q 29 [some (.ref a0), none, none, none] [.int xs0] h nc ns := by
  refine rl_istore_n (L' := [some (.ref a0), none, none, some (.int xs0)]) dX8_rebalance_29 rfl (Nat.le_of_ble_eq_true rfl) rfl ?_
  refine rl_iload_n dX8_rebalance_30 rfl rfl ?_
  refine rl_if_le (tgt := 41) dX8_rebalance_31 (by decide) (fun c_1 => ?_) (fun c_1 => ?_)
  · have H := H.1 c_1
    refine rl_wk (L' := [none, none, none, some (.int xs0)]) ⟨rfl, trivial⟩ ?_
    exact H
  · have H := H.2 c_1
    refine rl_aload_n dX8_rebalance_34 rfl rfl ?_
    obtain ⟨o_2, H⟩ := H
    obtain ⟨p_3, e_4, H⟩ := H
    refine rl_getP (k := 2) cfX8 dX8_rebalance_35 flX8_34 (by decide) rfl o_2 e_4 ?_
    obtain ⟨o_5, H⟩ := H
    obtain ⟨o_6, H⟩ := H
    obtain ⟨o_7, H⟩ := H
    exact rl_callV (As := []) (rest := []) mfX1_keep dX8_rebalance_38 lkX8_104 o_7 (by decide) (Nat.le_of_ble_eq_true rfl) o_5 o_6 rfl (Nat.le_of_ble_eq_true rfl) rfl rfl (fun Qc k => H Qc (fun h' w => k none h' (rl_wk (L' := [none, none, none, some (.int xs0)]) ⟨rfl, trivial⟩ w)))
theorem bX8_rebalance_41 {Q : Nat → Option Value → Hp → Prop} {h : Hp} {mc ms nc ns : Nat} {x3 : Int32} (H : nc ≤ mc ∧ ns ≤ ms ∧ Q 0 (some (.int x3)) h) : Wm mX8_rebalance 7 mc ms Q 41 [none, none, none, some (.int x3)] [] h nc ns := by
  refine rl_iload_n dX8_rebalance_41 rfl rfl ?_
  obtain ⟨o_1, H⟩ := H
  obtain ⟨o_2, H⟩ := H
  exact rl_iret dX8_rebalance_42 rfl o_1 o_2 H
theorem bX8_siteAndKindFault_0 {Q : Nat → Option Value → Hp → Prop} {h : Hp} {a0 : Nat} {x1 x2 : Int32} (H : hpK h a0 = 18 ∧ CKi mX8_isSite 0 0 0 [some (.ref a0), some (.int x1)] h (fun v h' => Wm mX8_siteAndKindFault 1 0 0 Q 5 [none, none, some (.int x2)] [.int v] h' 0 0)) : Wm mX8_siteAndKindFault 1 0 0 Q 0 [some (.ref a0), some (.int x1), some (.int x2)] [] h 0 0 := by
  refine rl_aload_n dX8_siteAndKindFault_0 rfl rfl ?_
  refine rl_iload_n dX8_siteAndKindFault_1 rfl rfl ?_
  obtain ⟨o_1, H⟩ := H
  exact rl_callV (As := [.int x1]) (rest := []) mfX8_isSite dX8_siteAndKindFault_2 lkX8_283 o_1 (by decide) (Nat.le_of_ble_eq_true rfl) (Nat.le_refl _) (Nat.le_refl _) rfl (Nat.le_of_ble_eq_true rfl) rfl rfl (fun Qc k => H Qc (fun v h' w => k (some (.int v)) h' (rl_wk (L' := [none, none, some (.int x2)]) ⟨rfl, trivial⟩ w)))
theorem bX8_siteAndKindFault_5 {Q : Nat → Option Value → Hp → Prop} {h : Hp} {x2 xs0 : Int32} (H : ((xs0 = 0 → Q 0 (some (.int (nI 1))) h) ∧ (¬ xs0 = 0 → CKi mX8_isKind 0 0 0 [some (.int x2)] h (fun v h' => Wm mX8_siteAndKindFault 1 0 0 Q 12 [none, none, none] [.int v] h' 0 0)))) : Wm mX8_siteAndKindFault 1 0 0 Q 5 [none, none, some (.int x2)] [.int xs0] h 0 0 := by
  refine rl_if_eq (tgt := 19) dX8_siteAndKindFault_5 (by decide) (fun c_1 => ?_) (fun c_1 => ?_)
  · have H := H.1 c_1
    refine rl_iconst (v := nI 1) dX8_siteAndKindFault_19 (by decide) ?_
    exact rl_iret dX8_siteAndKindFault_20 rfl (Nat.le_refl 0) (Nat.le_refl 0) H
  · have H := H.2 c_1
    refine rl_iload_n dX8_siteAndKindFault_8 rfl rfl ?_
    exact rl_callS (As := [.int x2]) (rest := []) mfX8_isKind dX8_siteAndKindFault_9 lkX8_166 (by decide) (Nat.le_of_ble_eq_true rfl) (Nat.le_refl _) (Nat.le_refl _) rfl (Nat.le_of_ble_eq_true rfl) rfl rfl (fun Qc k => H Qc (fun v h' w => k (some (.int v)) h' (rl_wk (L' := [none, none, none]) trivial w)))
theorem bX8_siteAndKindFault_12 {Q : Nat → Option Value → Hp → Prop} {h : Hp} {xs0 : Int32} (H : ((xs0 = 0 → Q 0 (some (.int (nI 1))) h) ∧ (¬ xs0 = 0 → Q 0 (some (.int (nI 0))) h))) : Wm mX8_siteAndKindFault 1 0 0 Q 12 [none, none, none] [.int xs0] h 0 0 := by
  refine rl_if_eq (tgt := 19) dX8_siteAndKindFault_12 (by decide) (fun c_1 => ?_) (fun c_1 => ?_)
  · have H := H.1 c_1
    refine rl_iconst (v := nI 1) dX8_siteAndKindFault_19 (by decide) ?_
    exact rl_iret dX8_siteAndKindFault_20 rfl (Nat.le_refl 0) (Nat.le_refl 0) H
  · have H := H.2 c_1
    refine rl_iconst (v := nI 0) dX8_siteAndKindFault_15 (by decide) ?_
    refine rl_goto (tgt := 20) dX8_siteAndKindFault_16 (by decide) ?_
    exact rl_iret dX8_siteAndKindFault_20 rfl (Nat.le_refl 0) (Nat.le_refl 0) H
theorem bX8_pass_0 {Q : Nat → Option Value → Hp → Prop} {h : Hp} {mc ms nc ns : Nat} {a0 : Nat} {x1 : Int32} (H : nc + 0 ≤ mc ∧ ns + 0 ≤ ms ∧ hpK h a0 = 18 ∧ CKi mX8_passFault 0 0 0 [some (.ref a0), some (.int x1)] h (fun v h' => Wm mX8_pass 7 mc ms Q 5 [some (.ref a0), some (.int x1)] [.int v] h' nc ns)) : Wm mX8_pass 7 mc ms Q 0 [some (.ref a0), some (.int x1)] [] h nc ns := by
  refine rl_aload_n dX8_pass_0 rfl rfl ?_
  refine rl_iload_n dX8_pass_1 rfl rfl ?_
  obtain ⟨o_1, H⟩ := H
  obtain ⟨o_2, H⟩ := H
  obtain ⟨o_3, H⟩ := H
  exact rl_callV (As := [.int x1]) (rest := []) mfX8_passFault dX8_pass_2 lkX8_107 o_3 (by decide) (Nat.le_of_ble_eq_true rfl) o_1 o_2 rfl (Nat.le_of_ble_eq_true rfl) rfl rfl (fun Qc k => H Qc (fun v h' w => k (some (.int v)) h' w))
theorem bX8_pass_5 {Q : Nat → Option Value → Hp → Prop} {h : Hp} {mc ms nc ns : Nat} {a0 mcn msn : Nat} {x1 xs0 : Int32} (H : nc + mcn ≤ mc ∧ ns + msn ≤ ms ∧ CXv mX8_throwFor 6 mcn msn [some (.int xs0)] h (fun h' => Wm mX8_pass 7 mc ms Q 8 [some (.ref a0), some (.int x1)] [] h' (nc + mcn) (ns + msn)) (fun j h' => Q j none h')) : Wm mX8_pass 7 mc ms Q 5 [some (.ref a0), some (.int x1)] [.int xs0] h nc ns := by
  obtain ⟨o_1, H⟩ := H
  obtain ⟨o_2, H⟩ := H
  exact rl_callSX (As := [.int xs0]) (rest := []) mfX8_throwFor dX8_pass_5 lkX8_66 ⟨rfl, by decide⟩ (by decide) (Nat.le_of_ble_eq_true rfl) o_1 o_2 rfl (Nat.le_of_ble_eq_true rfl) rfl rfl (fun Qc k kx => H Qc (fun h' w => k none h' w) kx)
theorem bX8_pass_8 {Q : Nat → Option Value → Hp → Prop} {h : Hp} {mc ms nc ns : Nat} {a0 : Nat} {x1 : Int32} (H : hpK h a0 = 18 ∧ ∃ p_2 : Nat, hpP h a0 2 = some p_2 ∧ (∃ p_4 : Nat, hpP h a0 1 = some p_4 ∧ (nc + 0 ≤ mc ∧ ns + 0 ≤ ms ∧ hpK h p_2 = 11 ∧ CKv mX1_add 5 0 0 [some (.ref p_2), some (.ref p_4)] h (fun h' => Wm mX8_pass 7 mc ms Q 19 [some (.ref a0), some (.int x1)] [] h' nc ns)))) : Wm mX8_pass 7 mc ms Q 8 [some (.ref a0), some (.int x1)] [] h nc ns := by
  refine rl_aload_n dX8_pass_8 rfl rfl ?_
  obtain ⟨o_1, H⟩ := H
  obtain ⟨p_2, e_3, H⟩ := H
  refine rl_getP (k := 2) cfX8 dX8_pass_9 flX8_34 (by decide) rfl o_1 e_3 ?_
  refine rl_aload_n dX8_pass_12 rfl rfl ?_
  obtain ⟨p_4, e_5, H⟩ := H
  refine rl_getP (k := 1) cfX8 dX8_pass_13 flX8_27 (by decide) rfl o_1 e_5 ?_
  obtain ⟨o_6, H⟩ := H
  obtain ⟨o_7, H⟩ := H
  obtain ⟨o_8, H⟩ := H
  exact rl_callV (As := [.ref p_4]) (rest := []) mfX1_add dX8_pass_16 lkX8_69 o_8 (by decide) (Nat.le_of_ble_eq_true rfl) o_6 o_7 rfl (Nat.le_of_ble_eq_true rfl) rfl rfl (fun Qc k => H Qc (fun h' w => k none h' w))
theorem bX8_pass_19 {Q : Nat → Option Value → Hp → Prop} {h : Hp} {mc ms nc ns : Nat} {a0 : Nat} {x1 : Int32} (H : hpK h a0 = 18 ∧ ∃ p_2 : Nat, hpP h a0 1 = some p_2 ∧ (nc + 0 ≤ mc ∧ ns + 0 ≤ ms ∧ hpK h p_2 = 16 ∧ CKv mX6_letPass 1 0 0 [some (.ref p_2), some (.int x1), none] h (fun h' => Wm mX8_pass 7 mc ms Q 27 [some (.ref a0), none] [] h' nc ns))) : Wm mX8_pass 7 mc ms Q 19 [some (.ref a0), some (.int x1)] [] h nc ns := by
  refine rl_aload_n dX8_pass_19 rfl rfl ?_
  obtain ⟨o_1, H⟩ := H
  obtain ⟨p_2, e_3, H⟩ := H
  refine rl_getP (k := 1) cfX8 dX8_pass_20 flX8_27 (by decide) rfl o_1 e_3 ?_
  refine rl_iload_n dX8_pass_23 rfl rfl ?_
  obtain ⟨o_4, H⟩ := H
  obtain ⟨o_5, H⟩ := H
  obtain ⟨o_6, H⟩ := H
  exact rl_callV (As := [.int x1]) (rest := []) mfX6_letPass dX8_pass_24 lkX8_111 o_6 (by decide) (Nat.le_of_ble_eq_true rfl) o_4 o_5 rfl (Nat.le_of_ble_eq_true rfl) rfl rfl (fun Qc k => H Qc (fun h' w => k none h' (rl_wk (L' := [some (.ref a0), none]) ⟨rfl, trivial⟩ w)))
theorem bX8_pass_27 {Q : Nat → Option Value → Hp → Prop} {h : Hp} {mc ms nc ns : Nat} {a0 : Nat} (H : hpK h a0 = 18 ∧ ∃ p_2 : Nat, hpP h a0 1 = some p_2 ∧ (hpK h p_2 = 16 ∧ nc ≤ mc ∧ ns ≤ ms ∧ Q 0 (some (.int (hpI h p_2 4))) h)) : Wm mX8_pass 7 mc ms Q 27 [some (.ref a0), none] [] h nc ns := by
  refine rl_aload_n dX8_pass_27 rfl rfl ?_
  obtain ⟨o_1, H⟩ := H
  obtain ⟨p_2, e_3, H⟩ := H
  refine rl_getP (k := 1) cfX8 dX8_pass_28 flX8_27 (by decide) rfl o_1 e_3 ?_
  obtain ⟨o_4, H⟩ := H
  refine rl_getI (k := 4) cfX6 dX8_pass_31 flX8_114 (by decide) rfl o_4 ?_
  obtain ⟨o_5, H⟩ := H
  obtain ⟨o_6, H⟩ := H
  exact rl_iret dX8_pass_34 rfl o_5 o_6 H
theorem bX8_send_0 {Q : Nat → Option Value → Hp → Prop} {h : Hp} {mc ms nc ns : Nat} {a0 : Nat} {x1 x2 : Int32} (H : nc + 0 ≤ mc ∧ ns + 0 ≤ ms ∧ hpK h a0 = 18 ∧ CKi mX8_sendFault 1 0 0 [some (.ref a0), some (.int x1), some (.int x2)] h (fun v h' => Wm mX8_send 7 mc ms Q 6 [some (.ref a0), some (.int x1), some (.int x2)] [.int v] h' nc ns)) : Wm mX8_send 7 mc ms Q 0 [some (.ref a0), some (.int x1), some (.int x2)] [] h nc ns := by
  refine rl_aload_n dX8_send_0 rfl rfl ?_
  refine rl_iload_n dX8_send_1 rfl rfl ?_
  refine rl_iload_n dX8_send_2 rfl rfl ?_
  obtain ⟨o_1, H⟩ := H
  obtain ⟨o_2, H⟩ := H
  obtain ⟨o_3, H⟩ := H
  exact rl_callV (As := [.int x1, .int x2]) (rest := []) mfX8_sendFault dX8_send_3 lkX8_117 o_3 (by decide) (Nat.le_of_ble_eq_true rfl) o_1 o_2 rfl (Nat.le_of_ble_eq_true rfl) rfl rfl (fun Qc k => H Qc (fun v h' w => k (some (.int v)) h' w))
theorem bX8_send_6 {Q : Nat → Option Value → Hp → Prop} {h : Hp} {mc ms nc ns : Nat} {a0 mcn msn : Nat} {x1 x2 xs0 : Int32} (H : nc + mcn ≤ mc ∧ ns + msn ≤ ms ∧ CXv mX8_throwFor 6 mcn msn [some (.int xs0)] h (fun h' => Wm mX8_send 7 mc ms Q 9 [some (.ref a0), some (.int x1), some (.int x2)] [] h' (nc + mcn) (ns + msn)) (fun j h' => Q j none h')) : Wm mX8_send 7 mc ms Q 6 [some (.ref a0), some (.int x1), some (.int x2)] [.int xs0] h nc ns := by
  obtain ⟨o_1, H⟩ := H
  obtain ⟨o_2, H⟩ := H
  exact rl_callSX (As := [.int xs0]) (rest := []) mfX8_throwFor dX8_send_6 lkX8_66 ⟨rfl, by decide⟩ (by decide) (Nat.le_of_ble_eq_true rfl) o_1 o_2 rfl (Nat.le_of_ble_eq_true rfl) rfl rfl (fun Qc k kx => H Qc (fun h' w => k none h' w) kx)
theorem bX8_send_9 {Q : Nat → Option Value → Hp → Prop} {h : Hp} {mc ms nc ns : Nat} {a0 : Nat} {x1 x2 : Int32} (H : hpK h a0 = 18 ∧ ∃ p_2 : Nat, hpP h a0 2 = some p_2 ∧ (∃ p_4 : Nat, hpP h a0 1 = some p_4 ∧ (nc + 0 ≤ mc ∧ ns + 0 ≤ ms ∧ hpK h p_2 = 11 ∧ CKv mX1_add 5 0 0 [some (.ref p_2), some (.ref p_4)] h (fun h' => Wm mX8_send 7 mc ms Q 20 [some (.ref a0), some (.int x1), some (.int x2)] [] h' nc ns)))) : Wm mX8_send 7 mc ms Q 9 [some (.ref a0), some (.int x1), some (.int x2)] [] h nc ns := by
  refine rl_aload_n dX8_send_9 rfl rfl ?_
  obtain ⟨o_1, H⟩ := H
  obtain ⟨p_2, e_3, H⟩ := H
  refine rl_getP (k := 2) cfX8 dX8_send_10 flX8_34 (by decide) rfl o_1 e_3 ?_
  refine rl_aload_n dX8_send_13 rfl rfl ?_
  obtain ⟨p_4, e_5, H⟩ := H
  refine rl_getP (k := 1) cfX8 dX8_send_14 flX8_27 (by decide) rfl o_1 e_5 ?_
  obtain ⟨o_6, H⟩ := H
  obtain ⟨o_7, H⟩ := H
  obtain ⟨o_8, H⟩ := H
  exact rl_callV (As := [.ref p_4]) (rest := []) mfX1_add dX8_send_17 lkX8_69 o_8 (by decide) (Nat.le_of_ble_eq_true rfl) o_6 o_7 rfl (Nat.le_of_ble_eq_true rfl) rfl rfl (fun Qc k => H Qc (fun h' w => k none h' w))
theorem bX8_send_20 {Q : Nat → Option Value → Hp → Prop} {h : Hp} {mc ms nc ns : Nat} {a0 : Nat} {x1 x2 : Int32} (H : hpK h a0 = 18 ∧ ∃ p_2 : Nat, hpP h a0 1 = some p_2 ∧ (nc + 0 ≤ mc ∧ ns + 0 ≤ ms ∧ hpK h p_2 = 16 ∧ CKi mX6_post 3 0 0 [some (.ref p_2), some (.int x1), some (.int x2), none, none] h (fun v h' => Wm mX8_send 7 mc ms Q 29 [none, none, none] [.int v] h' nc ns))) : Wm mX8_send 7 mc ms Q 20 [some (.ref a0), some (.int x1), some (.int x2)] [] h nc ns := by
  refine rl_aload_n dX8_send_20 rfl rfl ?_
  obtain ⟨o_1, H⟩ := H
  obtain ⟨p_2, e_3, H⟩ := H
  refine rl_getP (k := 1) cfX8 dX8_send_21 flX8_27 (by decide) rfl o_1 e_3 ?_
  refine rl_iload_n dX8_send_24 rfl rfl ?_
  refine rl_iload_n dX8_send_25 rfl rfl ?_
  obtain ⟨o_4, H⟩ := H
  obtain ⟨o_5, H⟩ := H
  obtain ⟨o_6, H⟩ := H
  exact rl_callV (As := [.int x1, .int x2]) (rest := []) mfX6_post dX8_send_26 lkX8_120 o_6 (by decide) (Nat.le_of_ble_eq_true rfl) o_4 o_5 rfl (Nat.le_of_ble_eq_true rfl) rfl rfl (fun Qc k => H Qc (fun v h' w => k (some (.int v)) h' (rl_wk (L' := [none, none, none]) trivial w)))
theorem bX8_send_29 {Q : Nat → Option Value → Hp → Prop} {h : Hp} {mc ms nc ns : Nat} {xs0 : Int32} (H : nc ≤ mc ∧ ns ≤ ms ∧ Q 0 (some (.int xs0)) h) : Wm mX8_send 7 mc ms Q 29 [none, none, none] [.int xs0] h nc ns := by
  obtain ⟨o_1, H⟩ := H
  obtain ⟨o_2, H⟩ := H
  exact rl_iret dX8_send_29 rfl o_1 o_2 H
theorem bX8_deliver_0 {Q : Nat → Option Value → Hp → Prop} {h : Hp} {mc ms nc ns : Nat} {a0 : Nat} {x1 : Int32} (H : nc + 0 ≤ mc ∧ ns + 0 ≤ ms ∧ hpK h a0 = 18 ∧ CKi mX8_messageFault 0 0 0 [some (.ref a0), some (.int x1)] h (fun v h' => Wm mX8_deliver 7 mc ms Q 5 [some (.ref a0), some (.int x1)] [.int v] h' nc ns)) : Wm mX8_deliver 7 mc ms Q 0 [some (.ref a0), some (.int x1)] [] h nc ns := by
  refine rl_aload_n dX8_deliver_0 rfl rfl ?_
  refine rl_iload_n dX8_deliver_1 rfl rfl ?_
  obtain ⟨o_1, H⟩ := H
  obtain ⟨o_2, H⟩ := H
  obtain ⟨o_3, H⟩ := H
  exact rl_callV (As := [.int x1]) (rest := []) mfX8_messageFault dX8_deliver_2 lkX8_123 o_3 (by decide) (Nat.le_of_ble_eq_true rfl) o_1 o_2 rfl (Nat.le_of_ble_eq_true rfl) rfl rfl (fun Qc k => H Qc (fun v h' w => k (some (.int v)) h' w))
theorem bX8_deliver_5 {Q : Nat → Option Value → Hp → Prop} {h : Hp} {mc ms nc ns : Nat} {a0 mcn msn : Nat} {x1 xs0 : Int32} (H : nc + mcn ≤ mc ∧ ns + msn ≤ ms ∧ CXv mX8_throwFor 6 mcn msn [some (.int xs0)] h (fun h' => Wm mX8_deliver 7 mc ms Q 8 [some (.ref a0), some (.int x1)] [] h' (nc + mcn) (ns + msn)) (fun j h' => Q j none h')) : Wm mX8_deliver 7 mc ms Q 5 [some (.ref a0), some (.int x1)] [.int xs0] h nc ns := by
  obtain ⟨o_1, H⟩ := H
  obtain ⟨o_2, H⟩ := H
  exact rl_callSX (As := [.int xs0]) (rest := []) mfX8_throwFor dX8_deliver_5 lkX8_66 ⟨rfl, by decide⟩ (by decide) (Nat.le_of_ble_eq_true rfl) o_1 o_2 rfl (Nat.le_of_ble_eq_true rfl) rfl rfl (fun Qc k kx => H Qc (fun h' w => k none h' w) kx)
theorem bX8_deliver_8 {Q : Nat → Option Value → Hp → Prop} {h : Hp} {mc ms nc ns : Nat} {a0 : Nat} {x1 : Int32} (H : hpK h a0 = 18 ∧ ∃ p_2 : Nat, hpP h a0 2 = some p_2 ∧ (∃ p_4 : Nat, hpP h a0 1 = some p_4 ∧ (nc + 0 ≤ mc ∧ ns + 0 ≤ ms ∧ hpK h p_2 = 11 ∧ CKv mX1_add 5 0 0 [some (.ref p_2), some (.ref p_4)] h (fun h' => Wm mX8_deliver 7 mc ms Q 19 [some (.ref a0), some (.int x1)] [] h' nc ns)))) : Wm mX8_deliver 7 mc ms Q 8 [some (.ref a0), some (.int x1)] [] h nc ns := by
  refine rl_aload_n dX8_deliver_8 rfl rfl ?_
  obtain ⟨o_1, H⟩ := H
  obtain ⟨p_2, e_3, H⟩ := H
  refine rl_getP (k := 2) cfX8 dX8_deliver_9 flX8_34 (by decide) rfl o_1 e_3 ?_
  refine rl_aload_n dX8_deliver_12 rfl rfl ?_
  obtain ⟨p_4, e_5, H⟩ := H
  refine rl_getP (k := 1) cfX8 dX8_deliver_13 flX8_27 (by decide) rfl o_1 e_5 ?_
  obtain ⟨o_6, H⟩ := H
  obtain ⟨o_7, H⟩ := H
  obtain ⟨o_8, H⟩ := H
  exact rl_callV (As := [.ref p_4]) (rest := []) mfX1_add dX8_deliver_16 lkX8_69 o_8 (by decide) (Nat.le_of_ble_eq_true rfl) o_6 o_7 rfl (Nat.le_of_ble_eq_true rfl) rfl rfl (fun Qc k => H Qc (fun h' w => k none h' w))
theorem bX8_deliver_19 {Q : Nat → Option Value → Hp → Prop} {h : Hp} {mc ms nc ns : Nat} {a0 : Nat} {x1 : Int32} (H : hpK h a0 = 18 ∧ ∃ p_2 : Nat, hpP h a0 1 = some p_2 ∧ (nc + 0 ≤ mc ∧ ns + 0 ≤ ms ∧ hpK h p_2 = 16 ∧ CKi mX6_handOver 3 0 0 [some (.ref p_2), some (.int x1), none, none] h (fun v h' => Wm mX8_deliver 7 mc ms Q 27 [none, none] [.int v] h' nc ns))) : Wm mX8_deliver 7 mc ms Q 19 [some (.ref a0), some (.int x1)] [] h nc ns := by
  refine rl_aload_n dX8_deliver_19 rfl rfl ?_
  obtain ⟨o_1, H⟩ := H
  obtain ⟨p_2, e_3, H⟩ := H
  refine rl_getP (k := 1) cfX8 dX8_deliver_20 flX8_27 (by decide) rfl o_1 e_3 ?_
  refine rl_iload_n dX8_deliver_23 rfl rfl ?_
  obtain ⟨o_4, H⟩ := H
  obtain ⟨o_5, H⟩ := H
  obtain ⟨o_6, H⟩ := H
  exact rl_callV (As := [.int x1]) (rest := []) mfX6_handOver dX8_deliver_24 lkX8_126 o_6 (by decide) (Nat.le_of_ble_eq_true rfl) o_4 o_5 rfl (Nat.le_of_ble_eq_true rfl) rfl rfl (fun Qc k => H Qc (fun v h' w => k (some (.int v)) h' (rl_wk (L' := [none, none]) trivial w)))
theorem bX8_deliver_27 {Q : Nat → Option Value → Hp → Prop} {h : Hp} {mc ms nc ns : Nat} {xs0 : Int32} (H : nc ≤ mc ∧ ns ≤ ms ∧ Q 0 (some (.int xs0)) h) : Wm mX8_deliver 7 mc ms Q 27 [none, none] [.int xs0] h nc ns := by
  obtain ⟨o_1, H⟩ := H
  obtain ⟨o_2, H⟩ := H
  exact rl_iret dX8_deliver_27 rfl o_1 o_2 H
theorem bX8_messageFault_0 {Q : Nat → Option Value → Hp → Prop} {h : Hp} {a0 : Nat} {x1 : Int32} (H : ((x1 < 0 → Q 0 (some (.int (nI 1))) h) ∧ (¬ x1 < 0 → hpK h a0 = 18 ∧ ∃ p_3 : Nat, hpP h a0 1 = some p_3 ∧ (hpK h p_3 = 16 ∧ (((hpI h p_3 6) ≤ x1 → Q 0 (some (.int (nI 1))) h) ∧ (¬ (hpI h p_3 6) ≤ x1 → Q 0 (some (.int (nI 0))) h)))))) : Wm mX8_messageFault 0 0 0 Q 0 [some (.ref a0), some (.int x1)] [] h 0 0 := by
  refine rl_iload_n dX8_messageFault_0 rfl rfl ?_
  refine rl_if_lt (tgt := 19) dX8_messageFault_1 (by decide) (fun c_1 => ?_) (fun c_1 => ?_)
  · have H := H.1 c_1
    refine rl_iconst (v := nI 1) dX8_messageFault_19 (by decide) ?_
    exact rl_iret dX8_messageFault_20 rfl (Nat.le_refl 0) (Nat.le_refl 0) H
  · have H := H.2 c_1
    refine rl_iload_n dX8_messageFault_4 rfl rfl ?_
    refine rl_aload_n dX8_messageFault_5 rfl rfl ?_
    obtain ⟨o_2, H⟩ := H
    obtain ⟨p_3, e_4, H⟩ := H
    refine rl_getP (k := 1) cfX8 dX8_messageFault_6 flX8_27 (by decide) rfl o_2 e_4 ?_
    obtain ⟨o_5, H⟩ := H
    refine rl_getI (k := 6) cfX6 dX8_messageFault_9 flX8_132 (by decide) rfl o_5 ?_
    refine rl_icmp_ge (tgt := 19) dX8_messageFault_12 (by decide) (fun c_6 => ?_) (fun c_6 => ?_)
    · have H := H.1 c_6
      refine rl_iconst (v := nI 1) dX8_messageFault_19 (by decide) ?_
      exact rl_iret dX8_messageFault_20 rfl (Nat.le_refl 0) (Nat.le_refl 0) H
    · have H := H.2 c_6
      refine rl_iconst (v := nI 0) dX8_messageFault_15 (by decide) ?_
      refine rl_goto (tgt := 20) dX8_messageFault_16 (by decide) ?_
      exact rl_iret dX8_messageFault_20 rfl (Nat.le_refl 0) (Nat.le_refl 0) H
theorem bX8_lose_0 {Q : Nat → Option Value → Hp → Prop} {h : Hp} {mc ms nc ns : Nat} {a0 : Nat} {x1 : Int32} (H : nc + 0 ≤ mc ∧ ns + 0 ≤ ms ∧ hpK h a0 = 18 ∧ CKi mX8_messageFault 0 0 0 [some (.ref a0), some (.int x1)] h (fun v h' => Wm mX8_lose 7 mc ms Q 5 [some (.ref a0), some (.int x1)] [.int v] h' nc ns)) : Wm mX8_lose 7 mc ms Q 0 [some (.ref a0), some (.int x1)] [] h nc ns := by
  refine rl_aload_n dX8_lose_0 rfl rfl ?_
  refine rl_iload_n dX8_lose_1 rfl rfl ?_
  obtain ⟨o_1, H⟩ := H
  obtain ⟨o_2, H⟩ := H
  obtain ⟨o_3, H⟩ := H
  exact rl_callV (As := [.int x1]) (rest := []) mfX8_messageFault dX8_lose_2 lkX8_123 o_3 (by decide) (Nat.le_of_ble_eq_true rfl) o_1 o_2 rfl (Nat.le_of_ble_eq_true rfl) rfl rfl (fun Qc k => H Qc (fun v h' w => k (some (.int v)) h' w))
theorem bX8_lose_5 {Q : Nat → Option Value → Hp → Prop} {h : Hp} {mc ms nc ns : Nat} {a0 mcn msn : Nat} {x1 xs0 : Int32} (H : nc + mcn ≤ mc ∧ ns + msn ≤ ms ∧ CXv mX8_throwFor 6 mcn msn [some (.int xs0)] h (fun h' => Wm mX8_lose 7 mc ms Q 8 [some (.ref a0), some (.int x1)] [] h' (nc + mcn) (ns + msn)) (fun j h' => Q j none h')) : Wm mX8_lose 7 mc ms Q 5 [some (.ref a0), some (.int x1)] [.int xs0] h nc ns := by
  obtain ⟨o_1, H⟩ := H
  obtain ⟨o_2, H⟩ := H
  exact rl_callSX (As := [.int xs0]) (rest := []) mfX8_throwFor dX8_lose_5 lkX8_66 ⟨rfl, by decide⟩ (by decide) (Nat.le_of_ble_eq_true rfl) o_1 o_2 rfl (Nat.le_of_ble_eq_true rfl) rfl rfl (fun Qc k kx => H Qc (fun h' w => k none h' w) kx)
theorem bX8_lose_8 {Q : Nat → Option Value → Hp → Prop} {h : Hp} {mc ms nc ns : Nat} {a0 : Nat} {x1 : Int32} (H : hpK h a0 = 18 ∧ ∃ p_2 : Nat, hpP h a0 2 = some p_2 ∧ (∃ p_4 : Nat, hpP h a0 1 = some p_4 ∧ (nc + 0 ≤ mc ∧ ns + 0 ≤ ms ∧ hpK h p_2 = 11 ∧ CKv mX1_add 5 0 0 [some (.ref p_2), some (.ref p_4)] h (fun h' => Wm mX8_lose 7 mc ms Q 19 [some (.ref a0), some (.int x1)] [] h' nc ns)))) : Wm mX8_lose 7 mc ms Q 8 [some (.ref a0), some (.int x1)] [] h nc ns := by
  refine rl_aload_n dX8_lose_8 rfl rfl ?_
  obtain ⟨o_1, H⟩ := H
  obtain ⟨p_2, e_3, H⟩ := H
  refine rl_getP (k := 2) cfX8 dX8_lose_9 flX8_34 (by decide) rfl o_1 e_3 ?_
  refine rl_aload_n dX8_lose_12 rfl rfl ?_
  obtain ⟨p_4, e_5, H⟩ := H
  refine rl_getP (k := 1) cfX8 dX8_lose_13 flX8_27 (by decide) rfl o_1 e_5 ?_
  obtain ⟨o_6, H⟩ := H
  obtain ⟨o_7, H⟩ := H
  obtain ⟨o_8, H⟩ := H
  exact rl_callV (As := [.ref p_4]) (rest := []) mfX1_add dX8_lose_16 lkX8_69 o_8 (by decide) (Nat.le_of_ble_eq_true rfl) o_6 o_7 rfl (Nat.le_of_ble_eq_true rfl) rfl rfl (fun Qc k => H Qc (fun h' w => k none h' w))
theorem bX8_lose_19 {Q : Nat → Option Value → Hp → Prop} {h : Hp} {mc ms nc ns : Nat} {a0 : Nat} {x1 : Int32} (H : hpK h a0 = 18 ∧ ∃ p_2 : Nat, hpP h a0 1 = some p_2 ∧ (nc + 0 ≤ mc ∧ ns + 0 ≤ ms ∧ hpK h p_2 = 16 ∧ CKv mX6_drop 0 0 0 [some (.ref p_2), some (.int x1), none, none] h (fun h' => Wm mX8_lose 7 mc ms Q 27 [some (.ref a0), none] [] h' nc ns))) : Wm mX8_lose 7 mc ms Q 19 [some (.ref a0), some (.int x1)] [] h nc ns := by
  refine rl_aload_n dX8_lose_19 rfl rfl ?_
  obtain ⟨o_1, H⟩ := H
  obtain ⟨p_2, e_3, H⟩ := H
  refine rl_getP (k := 1) cfX8 dX8_lose_20 flX8_27 (by decide) rfl o_1 e_3 ?_
  refine rl_iload_n dX8_lose_23 rfl rfl ?_
  obtain ⟨o_4, H⟩ := H
  obtain ⟨o_5, H⟩ := H
  obtain ⟨o_6, H⟩ := H
  exact rl_callV (As := [.int x1]) (rest := []) mfX6_drop dX8_lose_24 lkX8_129 o_6 (by decide) (Nat.le_of_ble_eq_true rfl) o_4 o_5 rfl (Nat.le_of_ble_eq_true rfl) rfl rfl (fun Qc k => H Qc (fun h' w => k none h' (rl_wk (L' := [some (.ref a0), none]) ⟨rfl, trivial⟩ w)))
theorem bX8_lose_27 {Q : Nat → Option Value → Hp → Prop} {h : Hp} {mc ms nc ns : Nat} {a0 : Nat} (H : hpK h a0 = 18 ∧ ∃ p_2 : Nat, hpP h a0 1 = some p_2 ∧ (hpK h p_2 = 16 ∧ nc ≤ mc ∧ ns ≤ ms ∧ Q 0 (some (.int (hpI h p_2 6))) h)) : Wm mX8_lose 7 mc ms Q 27 [some (.ref a0), none] [] h nc ns := by
  refine rl_aload_n dX8_lose_27 rfl rfl ?_
  obtain ⟨o_1, H⟩ := H
  obtain ⟨p_2, e_3, H⟩ := H
  refine rl_getP (k := 1) cfX8 dX8_lose_28 flX8_27 (by decide) rfl o_1 e_3 ?_
  obtain ⟨o_4, H⟩ := H
  refine rl_getI (k := 6) cfX6 dX8_lose_31 flX8_132 (by decide) rfl o_4 ?_
  obtain ⟨o_5, H⟩ := H
  obtain ⟨o_6, H⟩ := H
  exact rl_iret dX8_lose_34 rfl o_5 o_6 H
theorem bX8_repeat_0 {Q : Nat → Option Value → Hp → Prop} {h : Hp} {mc ms nc ns : Nat} {a0 : Nat} {x1 : Int32} (H : nc + 0 ≤ mc ∧ ns + 0 ≤ ms ∧ hpK h a0 = 18 ∧ CKi mX8_messageFault 0 0 0 [some (.ref a0), some (.int x1)] h (fun v h' => Wm mX8_repeat 7 mc ms Q 5 [some (.ref a0), some (.int x1)] [.int v] h' nc ns)) : Wm mX8_repeat 7 mc ms Q 0 [some (.ref a0), some (.int x1)] [] h nc ns := by
  refine rl_aload_n dX8_repeat_0 rfl rfl ?_
  refine rl_iload_n dX8_repeat_1 rfl rfl ?_
  obtain ⟨o_1, H⟩ := H
  obtain ⟨o_2, H⟩ := H
  obtain ⟨o_3, H⟩ := H
  exact rl_callV (As := [.int x1]) (rest := []) mfX8_messageFault dX8_repeat_2 lkX8_123 o_3 (by decide) (Nat.le_of_ble_eq_true rfl) o_1 o_2 rfl (Nat.le_of_ble_eq_true rfl) rfl rfl (fun Qc k => H Qc (fun v h' w => k (some (.int v)) h' w))
theorem bX8_repeat_5 {Q : Nat → Option Value → Hp → Prop} {h : Hp} {mc ms nc ns : Nat} {a0 mcn msn : Nat} {x1 xs0 : Int32} (H : nc + mcn ≤ mc ∧ ns + msn ≤ ms ∧ CXv mX8_throwFor 6 mcn msn [some (.int xs0)] h (fun h' => Wm mX8_repeat 7 mc ms Q 8 [some (.ref a0), some (.int x1)] [] h' (nc + mcn) (ns + msn)) (fun j h' => Q j none h')) : Wm mX8_repeat 7 mc ms Q 5 [some (.ref a0), some (.int x1)] [.int xs0] h nc ns := by
  obtain ⟨o_1, H⟩ := H
  obtain ⟨o_2, H⟩ := H
  exact rl_callSX (As := [.int xs0]) (rest := []) mfX8_throwFor dX8_repeat_5 lkX8_66 ⟨rfl, by decide⟩ (by decide) (Nat.le_of_ble_eq_true rfl) o_1 o_2 rfl (Nat.le_of_ble_eq_true rfl) rfl rfl (fun Qc k kx => H Qc (fun h' w => k none h' w) kx)
theorem bX8_repeat_8 {Q : Nat → Option Value → Hp → Prop} {h : Hp} {mc ms nc ns : Nat} {a0 : Nat} {x1 : Int32} (H : hpK h a0 = 18 ∧ ∃ p_2 : Nat, hpP h a0 1 = some p_2 ∧ (hpK h p_2 = 16 ∧ (((hpI h p_2 6) < (nI 8) → (∃ p_6 : Nat, hpP h a0 2 = some p_6 ∧ (nc + 0 ≤ mc ∧ ns + 0 ≤ ms ∧ hpK h p_6 = 11 ∧ CKv mX1_add 5 0 0 [some (.ref p_6), some (.ref p_2)] h (fun h' => Wm mX8_repeat 7 mc ms Q 41 [some (.ref a0), some (.int x1)] [] h' nc ns)))) ∧ (¬ (hpI h p_2 6) < (nI 8) → nc + 1 ≤ mc ∧ ns + 6 ≤ ms ∧ (∀ z : Nat, hpZ h ≤ z → Q 3 none (stZ h z)))))) : Wm mX8_repeat 7 mc ms Q 8 [some (.ref a0), some (.int x1)] [] h nc ns := by
  refine rl_aload_n dX8_repeat_8 rfl rfl ?_
  obtain ⟨o_1, H⟩ := H
  obtain ⟨p_2, e_3, H⟩ := H
  refine rl_getP (k := 1) cfX8 dX8_repeat_9 flX8_27 (by decide) rfl o_1 e_3 ?_
  obtain ⟨o_4, H⟩ := H
  refine rl_getI (k := 6) cfX6 dX8_repeat_12 flX8_132 (by decide) rfl o_4 ?_
  refine rl_bipush (v := nI 8) dX8_repeat_15 (by decide) ?_
  refine rl_icmp_lt (tgt := 30) dX8_repeat_17 (by decide) (fun c_5 => ?_) (fun c_5 => ?_)
  · have H := H.1 c_5
    refine rl_aload_n dX8_repeat_30 rfl rfl ?_
    obtain ⟨p_6, e_7, H⟩ := H
    refine rl_getP (k := 2) cfX8 dX8_repeat_31 flX8_34 (by decide) rfl o_1 e_7 ?_
    refine rl_aload_n dX8_repeat_34 rfl rfl ?_
    refine rl_getP (k := 1) cfX8 dX8_repeat_35 flX8_27 (by decide) rfl o_1 e_3 ?_
    obtain ⟨o_8, H⟩ := H
    obtain ⟨o_9, H⟩ := H
    obtain ⟨o_10, H⟩ := H
    exact rl_callV (As := [.ref p_2]) (rest := []) mfX1_add dX8_repeat_38 lkX8_69 o_10 (by decide) (Nat.le_of_ble_eq_true rfl) o_8 o_9 rfl (Nat.le_of_ble_eq_true rfl) rfl rfl (fun Qc k => H Qc (fun h' w => k none h' w))
  · have H := H.2 c_5
    obtain ⟨o_11, H⟩ := H
    obtain ⟨o_12, H⟩ := H
    exact rl_throw 3 dX8_repeat_20 dX8_repeat_23 dX8_repeat_24 dX8_repeat_26 dX8_repeat_29 clX8_135 thX8_139 (by decide) (List.mem_of_getElem? (i := 4) rfl) ⟨rfl, by decide⟩ (by decide) o_11 o_12 H
theorem bX8_repeat_41 {Q : Nat → Option Value → Hp → Prop} {h : Hp} {mc ms nc ns : Nat} {a0 : Nat} {x1 : Int32} (H : hpK h a0 = 18 ∧ ∃ p_2 : Nat, hpP h a0 1 = some p_2 ∧ (nc + 0 ≤ mc ∧ ns + 0 ≤ ms ∧ hpK h p_2 = 16 ∧ CKi mX6_postAgain 4 0 0 [some (.ref p_2), some (.int x1), none] h (fun v h' => Wm mX8_repeat 7 mc ms Q 49 [none, none] [.int v] h' nc ns))) : Wm mX8_repeat 7 mc ms Q 41 [some (.ref a0), some (.int x1)] [] h nc ns := by
  refine rl_aload_n dX8_repeat_41 rfl rfl ?_
  obtain ⟨o_1, H⟩ := H
  obtain ⟨p_2, e_3, H⟩ := H
  refine rl_getP (k := 1) cfX8 dX8_repeat_42 flX8_27 (by decide) rfl o_1 e_3 ?_
  refine rl_iload_n dX8_repeat_45 rfl rfl ?_
  obtain ⟨o_4, H⟩ := H
  obtain ⟨o_5, H⟩ := H
  obtain ⟨o_6, H⟩ := H
  exact rl_callV (As := [.int x1]) (rest := []) mfX6_postAgain dX8_repeat_46 lkX8_140 o_6 (by decide) (Nat.le_of_ble_eq_true rfl) o_4 o_5 rfl (Nat.le_of_ble_eq_true rfl) rfl rfl (fun Qc k => H Qc (fun v h' w => k (some (.int v)) h' (rl_wk (L' := [none, none]) trivial w)))
theorem bX8_repeat_49 {Q : Nat → Option Value → Hp → Prop} {h : Hp} {mc ms nc ns : Nat} {xs0 : Int32} (H : nc ≤ mc ∧ ns ≤ ms ∧ Q 0 (some (.int xs0)) h) : Wm mX8_repeat 7 mc ms Q 49 [none, none] [.int xs0] h nc ns := by
  obtain ⟨o_1, H⟩ := H
  obtain ⟨o_2, H⟩ := H
  exact rl_iret dX8_repeat_49 rfl o_1 o_2 H
theorem bX8_message_0 {Q : Nat → Option Value → Hp → Prop} {h : Hp} {mc ms nc ns : Nat} {a0 : Nat} {x1 x2 : Int32} (H : nc + 0 ≤ mc ∧ ns + 0 ≤ ms ∧ hpK h a0 = 18 ∧ CKi mX8_messageFault 0 0 0 [some (.ref a0), some (.int x1)] h (fun v h' => Wm mX8_message 7 mc ms Q 5 [some (.ref a0), some (.int x1), some (.int x2)] [.int v] h' nc ns)) : Wm mX8_message 7 mc ms Q 0 [some (.ref a0), some (.int x1), some (.int x2)] [] h nc ns := by
  refine rl_aload_n dX8_message_0 rfl rfl ?_
  refine rl_iload_n dX8_message_1 rfl rfl ?_
  obtain ⟨o_1, H⟩ := H
  obtain ⟨o_2, H⟩ := H
  obtain ⟨o_3, H⟩ := H
  exact rl_callV (As := [.int x1]) (rest := []) mfX8_messageFault dX8_message_2 lkX8_123 o_3 (by decide) (Nat.le_of_ble_eq_true rfl) o_1 o_2 rfl (Nat.le_of_ble_eq_true rfl) rfl rfl (fun Qc k => H Qc (fun v h' w => k (some (.int v)) h' w))
theorem bX8_message_5 {Q : Nat → Option Value → Hp → Prop} {h : Hp} {mc ms nc ns : Nat} {a0 mcn msn : Nat} {x1 x2 xs0 : Int32} (H : nc + mcn ≤ mc ∧ ns + msn ≤ ms ∧ CXv mX8_throwFor 6 mcn msn [some (.int xs0)] h (fun h' => Wm mX8_message 7 mc ms Q 8 [some (.ref a0), some (.int x1), some (.int x2)] [] h' (nc + mcn) (ns + msn)) (fun j h' => Q j none h')) : Wm mX8_message 7 mc ms Q 5 [some (.ref a0), some (.int x1), some (.int x2)] [.int xs0] h nc ns := by
  obtain ⟨o_1, H⟩ := H
  obtain ⟨o_2, H⟩ := H
  exact rl_callSX (As := [.int xs0]) (rest := []) mfX8_throwFor dX8_message_5 lkX8_66 ⟨rfl, by decide⟩ (by decide) (Nat.le_of_ble_eq_true rfl) o_1 o_2 rfl (Nat.le_of_ble_eq_true rfl) rfl rfl (fun Qc k kx => H Qc (fun h' w => k none h' w) kx)
theorem bX8_message_8 {Q : Nat → Option Value → Hp → Prop} {h : Hp} {mc ms nc ns : Nat} {a0 : Nat} {x1 x2 : Int32} (H : ((x2 < 0 → Wm mX8_message 7 mc ms Q 17 [none, none, none] [] h nc ns) ∧ (¬ x2 < 0 → ((x2 < (nI 3) → hpK h a0 = 18 ∧ ∃ p_4 : Nat, hpP h a0 1 = some p_4 ∧ (hpK h p_4 = 16 ∧ ∃ p_7 : Nat, hpP h p_4 9 = some p_7 ∧ (hpK h p_7 = 33 ∧ vp_in x1 (hpN h p_7) ∧ ∃ p_11 : Nat, hpP h p_7 (x1).toNatClampNeg = some p_11 ∧ (nc + 0 ≤ mc ∧ ns + 0 ≤ ms ∧ hpK h p_11 = 13 ∧ CKi mX3_fact 0 0 0 [some (.ref p_11), some (.int x2)] h (fun v h' => Wm mX8_message 7 mc ms Q 40 [none, none, none] [.int v] h' nc ns))))) ∧ (¬ x2 < (nI 3) → Wm mX8_message 7 mc ms Q 17 [none, none, none] [] h nc ns))))) : Wm mX8_message 7 mc ms Q 8 [some (.ref a0), some (.int x1), some (.int x2)] [] h nc ns := by
  refine rl_iload_n dX8_message_8 rfl rfl ?_
  refine rl_if_lt (tgt := 17) dX8_message_9 (by decide) (fun c_1 => ?_) (fun c_1 => ?_)
  · have H := H.1 c_1
    refine rl_wk (L' := [none, none, none]) trivial ?_
    exact H
  · have H := H.2 c_1
    refine rl_iload_n dX8_message_12 rfl rfl ?_
    refine rl_iconst (v := nI 3) dX8_message_13 (by decide) ?_
    refine rl_icmp_lt (tgt := 27) dX8_message_14 (by decide) (fun c_2 => ?_) (fun c_2 => ?_)
    · have H := H.1 c_2
      refine rl_aload_n dX8_message_27 rfl rfl ?_
      obtain ⟨o_3, H⟩ := H
      obtain ⟨p_4, e_5, H⟩ := H
      refine rl_getP (k := 1) cfX8 dX8_message_28 flX8_27 (by decide) rfl o_3 e_5 ?_
      obtain ⟨o_6, H⟩ := H
      obtain ⟨p_7, e_8, H⟩ := H
      refine rl_getP (k := 9) cfX6 dX8_message_31 flX8_148 (by decide) rfl o_6 e_8 ?_
      refine rl_iload_n dX8_message_34 rfl rfl ?_
      obtain ⟨o_9, H⟩ := H
      obtain ⟨o_10, H⟩ := H
      obtain ⟨p_11, e_12, H⟩ := H
      refine rl_aald (ci := 3) dX8_message_35 rfl o_9 o_10 e_12 ?_
      refine rl_iload_n dX8_message_36 rfl rfl ?_
      obtain ⟨o_13, H⟩ := H
      obtain ⟨o_14, H⟩ := H
      obtain ⟨o_15, H⟩ := H
      exact rl_callV (As := [.int x2]) (rest := []) mfX3_fact dX8_message_37 lkX8_152 o_15 (by decide) (Nat.le_of_ble_eq_true rfl) o_13 o_14 rfl (Nat.le_of_ble_eq_true rfl) rfl rfl (fun Qc k => H Qc (fun v h' w => k (some (.int v)) h' (rl_wk (L' := [none, none, none]) trivial w)))
    · have H := H.2 c_2
      refine rl_wk (L' := [none, none, none]) trivial ?_
      exact H
theorem bX8_message_17 {Q : Nat → Option Value → Hp → Prop} {h : Hp} {mc ms nc ns : Nat}  (H : nc + 1 ≤ mc ∧ ns + 6 ≤ ms ∧ (∀ z : Nat, hpZ h ≤ z → Q 1 none (stZ h z))) : Wm mX8_message 7 mc ms Q 17 [none, none, none] [] h nc ns := by
  obtain ⟨o_1, H⟩ := H
  obtain ⟨o_2, H⟩ := H
  exact rl_throw 1 dX8_message_17 dX8_message_20 dX8_message_21 dX8_message_23 dX8_message_26 clX8_143 thX8_147 (by decide) (List.mem_of_getElem? (i := 5) rfl) ⟨rfl, by decide⟩ (by decide) o_1 o_2 H
theorem bX8_message_40 {Q : Nat → Option Value → Hp → Prop} {h : Hp} {mc ms nc ns : Nat} {xs0 : Int32} (H : nc ≤ mc ∧ ns ≤ ms ∧ Q 0 (some (.int xs0)) h) : Wm mX8_message 7 mc ms Q 40 [none, none, none] [.int xs0] h nc ns := by
  obtain ⟨o_1, H⟩ := H
  obtain ⟨o_2, H⟩ := H
  exact rl_iret dX8_message_40 rfl o_1 o_2 H
theorem bX8_known_0 {Q : Nat → Option Value → Hp → Prop} {h : Hp} {mc ms nc ns : Nat} {a0 : Nat} {x1 : Int32} (H : nc + 0 ≤ mc ∧ ns + 0 ≤ ms ∧ hpK h a0 = 18 ∧ CKi mX8_siteFault 1 0 0 [some (.ref a0), some (.int x1)] h (fun v h' => Wm mX8_known 7 mc ms Q 5 [some (.ref a0), some (.int x1)] [.int v] h' nc ns)) : Wm mX8_known 7 mc ms Q 0 [some (.ref a0), some (.int x1)] [] h nc ns := by
  refine rl_aload_n dX8_known_0 rfl rfl ?_
  refine rl_iload_n dX8_known_1 rfl rfl ?_
  obtain ⟨o_1, H⟩ := H
  obtain ⟨o_2, H⟩ := H
  obtain ⟨o_3, H⟩ := H
  exact rl_callV (As := [.int x1]) (rest := []) mfX8_siteFault dX8_known_2 lkX8_157 o_3 (by decide) (Nat.le_of_ble_eq_true rfl) o_1 o_2 rfl (Nat.le_of_ble_eq_true rfl) rfl rfl (fun Qc k => H Qc (fun v h' w => k (some (.int v)) h' w))
theorem bX8_known_5 {Q : Nat → Option Value → Hp → Prop} {h : Hp} {mc ms nc ns : Nat} {a0 mcn msn : Nat} {x1 xs0 : Int32} (H : nc + mcn ≤ mc ∧ ns + msn ≤ ms ∧ CXv mX8_throwFor 6 mcn msn [some (.int xs0)] h (fun h' => Wm mX8_known 7 mc ms Q 8 [some (.ref a0), some (.int x1)] [] h' (nc + mcn) (ns + msn)) (fun j h' => Q j none h')) : Wm mX8_known 7 mc ms Q 5 [some (.ref a0), some (.int x1)] [.int xs0] h nc ns := by
  obtain ⟨o_1, H⟩ := H
  obtain ⟨o_2, H⟩ := H
  exact rl_callSX (As := [.int xs0]) (rest := []) mfX8_throwFor dX8_known_5 lkX8_66 ⟨rfl, by decide⟩ (by decide) (Nat.le_of_ble_eq_true rfl) o_1 o_2 rfl (Nat.le_of_ble_eq_true rfl) rfl rfl (fun Qc k kx => H Qc (fun h' w => k none h' w) kx)
theorem bX8_known_8 {Q : Nat → Option Value → Hp → Prop} {h : Hp} {mc ms nc ns : Nat} {a0 : Nat} {x1 : Int32} (H : hpK h a0 = 18 ∧ ∃ p_2 : Nat, hpP h a0 1 = some p_2 ∧ (nc + 0 ≤ mc ∧ ns + 0 ≤ ms ∧ hpK h p_2 = 16 ∧ CKi mX6_valueKnownAt 0 0 0 [some (.ref p_2), some (.int x1), none, none, none] h (fun v h' => Wm mX8_known 7 mc ms Q 16 [none, none] [.int v] h' nc ns))) : Wm mX8_known 7 mc ms Q 8 [some (.ref a0), some (.int x1)] [] h nc ns := by
  refine rl_aload_n dX8_known_8 rfl rfl ?_
  obtain ⟨o_1, H⟩ := H
  obtain ⟨p_2, e_3, H⟩ := H
  refine rl_getP (k := 1) cfX8 dX8_known_9 flX8_27 (by decide) rfl o_1 e_3 ?_
  refine rl_iload_n dX8_known_12 rfl rfl ?_
  obtain ⟨o_4, H⟩ := H
  obtain ⟨o_5, H⟩ := H
  obtain ⟨o_6, H⟩ := H
  exact rl_callV (As := [.int x1]) (rest := []) mfX6_valueKnownAt dX8_known_13 lkX8_160 o_6 (by decide) (Nat.le_of_ble_eq_true rfl) o_4 o_5 rfl (Nat.le_of_ble_eq_true rfl) rfl rfl (fun Qc k => H Qc (fun v h' w => k (some (.int v)) h' (rl_wk (L' := [none, none]) trivial w)))
theorem bX8_known_16 {Q : Nat → Option Value → Hp → Prop} {h : Hp} {mc ms nc ns : Nat} {xs0 : Int32} (H : nc ≤ mc ∧ ns ≤ ms ∧ Q 0 (some (.int xs0)) h) : Wm mX8_known 7 mc ms Q 16 [none, none] [.int xs0] h nc ns := by
  obtain ⟨o_1, H⟩ := H
  obtain ⟨o_2, H⟩ := H
  exact rl_iret dX8_known_16 rfl o_1 o_2 H
theorem bX8_siteFault_0 {Q : Nat → Option Value → Hp → Prop} {h : Hp} {a0 : Nat} {x1 : Int32} (H : hpK h a0 = 18 ∧ CKi mX8_isSite 0 0 0 [some (.ref a0), some (.int x1)] h (fun v h' => Wm mX8_siteFault 1 0 0 Q 5 [none, none] [.int v] h' 0 0)) : Wm mX8_siteFault 1 0 0 Q 0 [some (.ref a0), some (.int x1)] [] h 0 0 := by
  refine rl_aload_n dX8_siteFault_0 rfl rfl ?_
  refine rl_iload_n dX8_siteFault_1 rfl rfl ?_
  obtain ⟨o_1, H⟩ := H
  exact rl_callV (As := [.int x1]) (rest := []) mfX8_isSite dX8_siteFault_2 lkX8_283 o_1 (by decide) (Nat.le_of_ble_eq_true rfl) (Nat.le_refl _) (Nat.le_refl _) rfl (Nat.le_of_ble_eq_true rfl) rfl rfl (fun Qc k => H Qc (fun v h' w => k (some (.int v)) h' (rl_wk (L' := [none, none]) trivial w)))
theorem bX8_siteFault_5 {Q : Nat → Option Value → Hp → Prop} {h : Hp} {xs0 : Int32} (H : ((xs0 = 0 → Q 0 (some (.int (nI 1))) h) ∧ (¬ xs0 = 0 → Q 0 (some (.int (nI 0))) h))) : Wm mX8_siteFault 1 0 0 Q 5 [none, none] [.int xs0] h 0 0 := by
  refine rl_if_eq (tgt := 12) dX8_siteFault_5 (by decide) (fun c_1 => ?_) (fun c_1 => ?_)
  · have H := H.1 c_1
    refine rl_iconst (v := nI 1) dX8_siteFault_12 (by decide) ?_
    exact rl_iret dX8_siteFault_13 rfl (Nat.le_refl 0) (Nat.le_refl 0) H
  · have H := H.2 c_1
    refine rl_iconst (v := nI 0) dX8_siteFault_8 (by decide) ?_
    refine rl_goto (tgt := 13) dX8_siteFault_9 (by decide) ?_
    exact rl_iret dX8_siteFault_13 rfl (Nat.le_refl 0) (Nat.le_refl 0) H
theorem bX8_own_0 {Q : Nat → Option Value → Hp → Prop} {h : Hp} {mc ms nc ns : Nat} {a0 : Nat} {x1 x2 : Int32} (H : nc + 0 ≤ mc ∧ ns + 0 ≤ ms ∧ hpK h a0 = 18 ∧ CKi mX8_siteAndKindFault 1 0 0 [some (.ref a0), some (.int x1), some (.int x2)] h (fun v h' => Wm mX8_own 7 mc ms Q 6 [some (.ref a0), some (.int x1), some (.int x2)] [.int v] h' nc ns)) : Wm mX8_own 7 mc ms Q 0 [some (.ref a0), some (.int x1), some (.int x2)] [] h nc ns := by
  refine rl_aload_n dX8_own_0 rfl rfl ?_
  refine rl_iload_n dX8_own_1 rfl rfl ?_
  refine rl_iload_n dX8_own_2 rfl rfl ?_
  obtain ⟨o_1, H⟩ := H
  obtain ⟨o_2, H⟩ := H
  obtain ⟨o_3, H⟩ := H
  exact rl_callV (As := [.int x1, .int x2]) (rest := []) mfX8_siteAndKindFault dX8_own_3 lkX8_95 o_3 (by decide) (Nat.le_of_ble_eq_true rfl) o_1 o_2 rfl (Nat.le_of_ble_eq_true rfl) rfl rfl (fun Qc k => H Qc (fun v h' w => k (some (.int v)) h' w))
theorem bX8_own_6 {Q : Nat → Option Value → Hp → Prop} {h : Hp} {mc ms nc ns : Nat} {a0 mcn msn : Nat} {x1 x2 xs0 : Int32} (H : nc + mcn ≤ mc ∧ ns + msn ≤ ms ∧ CXv mX8_throwFor 6 mcn msn [some (.int xs0)] h (fun h' => Wm mX8_own 7 mc ms Q 9 [some (.ref a0), some (.int x1), some (.int x2)] [] h' (nc + mcn) (ns + msn)) (fun j h' => Q j none h')) : Wm mX8_own 7 mc ms Q 6 [some (.ref a0), some (.int x1), some (.int x2)] [.int xs0] h nc ns := by
  obtain ⟨o_1, H⟩ := H
  obtain ⟨o_2, H⟩ := H
  exact rl_callSX (As := [.int xs0]) (rest := []) mfX8_throwFor dX8_own_6 lkX8_66 ⟨rfl, by decide⟩ (by decide) (Nat.le_of_ble_eq_true rfl) o_1 o_2 rfl (Nat.le_of_ble_eq_true rfl) rfl rfl (fun Qc k kx => H Qc (fun h' w => k none h' w) kx)
theorem bX8_own_9 {Q : Nat → Option Value → Hp → Prop} {h : Hp} {mc ms nc ns : Nat} {a0 : Nat} {x1 x2 : Int32} (H : hpK h a0 = 18 ∧ ∃ p_2 : Nat, hpP h a0 1 = some p_2 ∧ (nc + 0 ≤ mc ∧ ns + 0 ≤ ms ∧ hpK h p_2 = 16 ∧ CKi mX6_ownRights 2 0 0 [some (.ref p_2), some (.int x1), some (.int x2), none, none, none] h (fun v h' => Wm mX8_own 7 mc ms Q 18 [none, none, none] [.int v] h' nc ns))) : Wm mX8_own 7 mc ms Q 9 [some (.ref a0), some (.int x1), some (.int x2)] [] h nc ns := by
  refine rl_aload_n dX8_own_9 rfl rfl ?_
  obtain ⟨o_1, H⟩ := H
  obtain ⟨p_2, e_3, H⟩ := H
  refine rl_getP (k := 1) cfX8 dX8_own_10 flX8_27 (by decide) rfl o_1 e_3 ?_
  refine rl_iload_n dX8_own_13 rfl rfl ?_
  refine rl_iload_n dX8_own_14 rfl rfl ?_
  obtain ⟨o_4, H⟩ := H
  obtain ⟨o_5, H⟩ := H
  obtain ⟨o_6, H⟩ := H
  exact rl_callV (As := [.int x1, .int x2]) (rest := []) mfX6_ownRights dX8_own_15 lkX8_85 o_6 (by decide) (Nat.le_of_ble_eq_true rfl) o_4 o_5 rfl (Nat.le_of_ble_eq_true rfl) rfl rfl (fun Qc k => H Qc (fun v h' w => k (some (.int v)) h' (rl_wk (L' := [none, none, none]) trivial w)))
theorem bX8_own_18 {Q : Nat → Option Value → Hp → Prop} {h : Hp} {mc ms nc ns : Nat} {xs0 : Int32} (H : nc ≤ mc ∧ ns ≤ ms ∧ Q 0 (some (.int xs0)) h) : Wm mX8_own 7 mc ms Q 18 [none, none, none] [.int xs0] h nc ns := by
  obtain ⟨o_1, H⟩ := H
  obtain ⟨o_2, H⟩ := H
  exact rl_iret dX8_own_18 rfl o_1 o_2 H
theorem bX8_available_0 {Q : Nat → Option Value → Hp → Prop} {h : Hp} {mc ms nc ns : Nat} {a0 : Nat} {x1 x2 : Int32} (H : nc + 0 ≤ mc ∧ ns + 0 ≤ ms ∧ hpK h a0 = 18 ∧ CKi mX8_siteAndKindFault 1 0 0 [some (.ref a0), some (.int x1), some (.int x2)] h (fun v h' => Wm mX8_available 7 mc ms Q 6 [some (.ref a0), some (.int x1), some (.int x2)] [.int v] h' nc ns)) : Wm mX8_available 7 mc ms Q 0 [some (.ref a0), some (.int x1), some (.int x2)] [] h nc ns := by
  refine rl_aload_n dX8_available_0 rfl rfl ?_
  refine rl_iload_n dX8_available_1 rfl rfl ?_
  refine rl_iload_n dX8_available_2 rfl rfl ?_
  obtain ⟨o_1, H⟩ := H
  obtain ⟨o_2, H⟩ := H
  obtain ⟨o_3, H⟩ := H
  exact rl_callV (As := [.int x1, .int x2]) (rest := []) mfX8_siteAndKindFault dX8_available_3 lkX8_95 o_3 (by decide) (Nat.le_of_ble_eq_true rfl) o_1 o_2 rfl (Nat.le_of_ble_eq_true rfl) rfl rfl (fun Qc k => H Qc (fun v h' w => k (some (.int v)) h' w))
theorem bX8_available_6 {Q : Nat → Option Value → Hp → Prop} {h : Hp} {mc ms nc ns : Nat} {a0 mcn msn : Nat} {x1 x2 xs0 : Int32} (H : nc + mcn ≤ mc ∧ ns + msn ≤ ms ∧ CXv mX8_throwFor 6 mcn msn [some (.int xs0)] h (fun h' => Wm mX8_available 7 mc ms Q 9 [some (.ref a0), some (.int x1), some (.int x2)] [] h' (nc + mcn) (ns + msn)) (fun j h' => Q j none h')) : Wm mX8_available 7 mc ms Q 6 [some (.ref a0), some (.int x1), some (.int x2)] [.int xs0] h nc ns := by
  obtain ⟨o_1, H⟩ := H
  obtain ⟨o_2, H⟩ := H
  exact rl_callSX (As := [.int xs0]) (rest := []) mfX8_throwFor dX8_available_6 lkX8_66 ⟨rfl, by decide⟩ (by decide) (Nat.le_of_ble_eq_true rfl) o_1 o_2 rfl (Nat.le_of_ble_eq_true rfl) rfl rfl (fun Qc k kx => H Qc (fun h' w => k none h' w) kx)
theorem bX8_available_9 {Q : Nat → Option Value → Hp → Prop} {h : Hp} {mc ms nc ns : Nat} {a0 : Nat} {x1 x2 : Int32} (H : hpK h a0 = 18 ∧ ∃ p_2 : Nat, hpP h a0 1 = some p_2 ∧ (nc + 0 ≤ mc ∧ ns + 0 ≤ ms ∧ hpK h p_2 = 16 ∧ CKi mX6_availableRights 3 0 0 [some (.ref p_2), some (.int x1), some (.int x2), none, none] h (fun v h' => Wm mX8_available 7 mc ms Q 18 [none, none, none] [.int v] h' nc ns))) : Wm mX8_available 7 mc ms Q 9 [some (.ref a0), some (.int x1), some (.int x2)] [] h nc ns := by
  refine rl_aload_n dX8_available_9 rfl rfl ?_
  obtain ⟨o_1, H⟩ := H
  obtain ⟨p_2, e_3, H⟩ := H
  refine rl_getP (k := 1) cfX8 dX8_available_10 flX8_27 (by decide) rfl o_1 e_3 ?_
  refine rl_iload_n dX8_available_13 rfl rfl ?_
  refine rl_iload_n dX8_available_14 rfl rfl ?_
  obtain ⟨o_4, H⟩ := H
  obtain ⟨o_5, H⟩ := H
  obtain ⟨o_6, H⟩ := H
  exact rl_callV (As := [.int x1, .int x2]) (rest := []) mfX6_availableRights dX8_available_15 lkX8_163 o_6 (by decide) (Nat.le_of_ble_eq_true rfl) o_4 o_5 rfl (Nat.le_of_ble_eq_true rfl) rfl rfl (fun Qc k => H Qc (fun v h' w => k (some (.int v)) h' (rl_wk (L' := [none, none, none]) trivial w)))
theorem bX8_available_18 {Q : Nat → Option Value → Hp → Prop} {h : Hp} {mc ms nc ns : Nat} {xs0 : Int32} (H : nc ≤ mc ∧ ns ≤ ms ∧ Q 0 (some (.int xs0)) h) : Wm mX8_available 7 mc ms Q 18 [none, none, none] [.int xs0] h nc ns := by
  obtain ⟨o_1, H⟩ := H
  obtain ⟨o_2, H⟩ := H
  exact rl_iret dX8_available_18 rfl o_1 o_2 H
theorem bX8_dormant_0 {Q : Nat → Option Value → Hp → Prop} {h : Hp} {mc ms nc ns : Nat} {a0 : Nat} {x1 : Int32} (H : nc + 0 ≤ mc ∧ ns + 0 ≤ ms ∧ CKi mX8_isKind 0 0 0 [some (.int x1)] h (fun v h' => Wm mX8_dormant 6 mc ms Q 4 [some (.ref a0), some (.int x1)] [.int v] h' nc ns)) : Wm mX8_dormant 6 mc ms Q 0 [some (.ref a0), some (.int x1)] [] h nc ns := by
  refine rl_iload_n dX8_dormant_0 rfl rfl ?_
  obtain ⟨o_1, H⟩ := H
  obtain ⟨o_2, H⟩ := H
  exact rl_callS (As := [.int x1]) (rest := []) mfX8_isKind dX8_dormant_1 lkX8_166 (by decide) (Nat.le_of_ble_eq_true rfl) o_1 o_2 rfl (Nat.le_of_ble_eq_true rfl) rfl rfl (fun Qc k => H Qc (fun v h' w => k (some (.int v)) h' w))
theorem bX8_dormant_4 {Q : Nat → Option Value → Hp → Prop} {h : Hp} {mc ms nc ns : Nat} {a0 : Nat} {x1 xs0 : Int32} (H : ((¬ xs0 = 0 → hpK h a0 = 18 ∧ ∃ p_3 : Nat, hpP h a0 1 = some p_3 ∧ (nc + 0 ≤ mc ∧ ns + 0 ≤ ms ∧ hpK h p_3 = 16 ∧ CKi mX6_dormantRights 4 0 0 [some (.ref p_3), some (.int x1), none, none] h (fun v h' => Wm mX8_dormant 6 mc ms Q 25 [none, none] [.int v] h' nc ns))) ∧ (xs0 = 0 → nc + 1 ≤ mc ∧ ns + 6 ≤ ms ∧ (∀ z : Nat, hpZ h ≤ z → Q 1 none (stZ h z))))) : Wm mX8_dormant 6 mc ms Q 4 [some (.ref a0), some (.int x1)] [.int xs0] h nc ns := by
  refine rl_if_ne (tgt := 17) dX8_dormant_4 (by decide) (fun c_1 => ?_) (fun c_1 => ?_)
  · have H := H.1 c_1
    refine rl_aload_n dX8_dormant_17 rfl rfl ?_
    obtain ⟨o_2, H⟩ := H
    obtain ⟨p_3, e_4, H⟩ := H
    refine rl_getP (k := 1) cfX8 dX8_dormant_18 flX8_27 (by decide) rfl o_2 e_4 ?_
    refine rl_iload_n dX8_dormant_21 rfl rfl ?_
    obtain ⟨o_5, H⟩ := H
    obtain ⟨o_6, H⟩ := H
    obtain ⟨o_7, H⟩ := H
    exact rl_callV (As := [.int x1]) (rest := []) mfX6_dormantRights dX8_dormant_22 lkX8_172 o_7 (by decide) (Nat.le_of_ble_eq_true rfl) o_5 o_6 rfl (Nat.le_of_ble_eq_true rfl) rfl rfl (fun Qc k => H Qc (fun v h' w => k (some (.int v)) h' (rl_wk (L' := [none, none]) trivial w)))
  · have H := H.2 c_1
    obtain ⟨o_8, H⟩ := H
    obtain ⟨o_9, H⟩ := H
    exact rl_throw 1 dX8_dormant_7 dX8_dormant_10 dX8_dormant_11 dX8_dormant_13 dX8_dormant_16 clX8_143 thX8_147 (by decide) (List.mem_of_getElem? (i := 6) rfl) ⟨rfl, by decide⟩ (by decide) o_8 o_9 H
theorem bX8_dormant_25 {Q : Nat → Option Value → Hp → Prop} {h : Hp} {mc ms nc ns : Nat} {xs0 : Int32} (H : nc ≤ mc ∧ ns ≤ ms ∧ Q 0 (some (.int xs0)) h) : Wm mX8_dormant 6 mc ms Q 25 [none, none] [.int xs0] h nc ns := by
  obtain ⟨o_1, H⟩ := H
  obtain ⟨o_2, H⟩ := H
  exact rl_iret dX8_dormant_25 rfl o_1 o_2 H
theorem bX8_demand_0 {Q : Nat → Option Value → Hp → Prop} {h : Hp} {mc ms nc ns : Nat} {a0 : Nat} {x1 x2 x3 : Int32} (H : nc + 0 ≤ mc ∧ ns + 0 ≤ ms ∧ hpK h a0 = 18 ∧ CKi mX8_siteAndKindFault 1 0 0 [some (.ref a0), some (.int x1), some (.int x3)] h (fun v h' => Wm mX8_demand 7 mc ms Q 6 [some (.ref a0), some (.int x1), some (.int x2), some (.int x3)] [.int v] h' nc ns)) : Wm mX8_demand 7 mc ms Q 0 [some (.ref a0), some (.int x1), some (.int x2), some (.int x3)] [] h nc ns := by
  refine rl_aload_n dX8_demand_0 rfl rfl ?_
  refine rl_iload_n dX8_demand_1 rfl rfl ?_
  refine rl_iload_n dX8_demand_2 rfl rfl ?_
  obtain ⟨o_1, H⟩ := H
  obtain ⟨o_2, H⟩ := H
  obtain ⟨o_3, H⟩ := H
  exact rl_callV (As := [.int x1, .int x3]) (rest := []) mfX8_siteAndKindFault dX8_demand_3 lkX8_95 o_3 (by decide) (Nat.le_of_ble_eq_true rfl) o_1 o_2 rfl (Nat.le_of_ble_eq_true rfl) rfl rfl (fun Qc k => H Qc (fun v h' w => k (some (.int v)) h' w))
theorem bX8_demand_6 {Q : Nat → Option Value → Hp → Prop} {h : Hp} {mc ms nc ns : Nat} {a0 mcn msn : Nat} {x1 x2 x3 xs0 : Int32} (H : nc + mcn ≤ mc ∧ ns + msn ≤ ms ∧ CXv mX8_throwFor 6 mcn msn [some (.int xs0)] h (fun h' => Wm mX8_demand 7 mc ms Q 9 [some (.ref a0), some (.int x1), some (.int x2), some (.int x3)] [] h' (nc + mcn) (ns + msn)) (fun j h' => Q j none h')) : Wm mX8_demand 7 mc ms Q 6 [some (.ref a0), some (.int x1), some (.int x2), some (.int x3)] [.int xs0] h nc ns := by
  obtain ⟨o_1, H⟩ := H
  obtain ⟨o_2, H⟩ := H
  exact rl_callSX (As := [.int xs0]) (rest := []) mfX8_throwFor dX8_demand_6 lkX8_66 ⟨rfl, by decide⟩ (by decide) (Nat.le_of_ble_eq_true rfl) o_1 o_2 rfl (Nat.le_of_ble_eq_true rfl) rfl rfl (fun Qc k kx => H Qc (fun h' w => k none h' w) kx)
theorem bX8_demand_9 {Q : Nat → Option Value → Hp → Prop} {h : Hp} {mc ms nc ns : Nat} {a0 : Nat} {x1 x2 x3 : Int32} (H : nc + 0 ≤ mc ∧ ns + 0 ≤ ms ∧ hpK h a0 = 18 ∧ CKi mX8_siteFault 1 0 0 [some (.ref a0), some (.int x2)] h (fun v h' => Wm mX8_demand 7 mc ms Q 14 [some (.ref a0), some (.int x1), some (.int x2), some (.int x3)] [.int v] h' nc ns)) : Wm mX8_demand 7 mc ms Q 9 [some (.ref a0), some (.int x1), some (.int x2), some (.int x3)] [] h nc ns := by
  refine rl_aload_n dX8_demand_9 rfl rfl ?_
  refine rl_iload_n dX8_demand_10 rfl rfl ?_
  obtain ⟨o_1, H⟩ := H
  obtain ⟨o_2, H⟩ := H
  obtain ⟨o_3, H⟩ := H
  exact rl_callV (As := [.int x2]) (rest := []) mfX8_siteFault dX8_demand_11 lkX8_157 o_3 (by decide) (Nat.le_of_ble_eq_true rfl) o_1 o_2 rfl (Nat.le_of_ble_eq_true rfl) rfl rfl (fun Qc k => H Qc (fun v h' w => k (some (.int v)) h' w))
theorem bX8_demand_14 {Q : Nat → Option Value → Hp → Prop} {h : Hp} {mc ms nc ns : Nat} {a0 mcn msn : Nat} {x1 x2 x3 xs0 : Int32} (H : nc + mcn ≤ mc ∧ ns + msn ≤ ms ∧ CXv mX8_throwFor 6 mcn msn [some (.int xs0)] h (fun h' => Wm mX8_demand 7 mc ms Q 17 [some (.ref a0), some (.int x1), some (.int x2), some (.int x3)] [] h' (nc + mcn) (ns + msn)) (fun j h' => Q j none h')) : Wm mX8_demand 7 mc ms Q 14 [some (.ref a0), some (.int x1), some (.int x2), some (.int x3)] [.int xs0] h nc ns := by
  obtain ⟨o_1, H⟩ := H
  obtain ⟨o_2, H⟩ := H
  exact rl_callSX (As := [.int xs0]) (rest := []) mfX8_throwFor dX8_demand_14 lkX8_66 ⟨rfl, by decide⟩ (by decide) (Nat.le_of_ble_eq_true rfl) o_1 o_2 rfl (Nat.le_of_ble_eq_true rfl) rfl rfl (fun Qc k kx => H Qc (fun h' w => k none h' w) kx)
theorem bX8_demand_17 {Q : Nat → Option Value → Hp → Prop} {h : Hp} {mc ms nc ns : Nat} {a0 : Nat} {x1 x2 x3 : Int32} (H : hpK h a0 = 18 ∧ ∃ p_2 : Nat, hpP h a0 1 = some p_2 ∧ (hpK h p_2 = 16 ∧ ∃ p_5 : Nat, hpP h p_2 7 = some p_5 ∧ (hpK h p_5 = 37 ∧ vp_in x1 (hpN h p_5) ∧ ∃ p_9 : Nat, hpP h p_5 (x1).toNatClampNeg = some p_9 ∧ (hpK h p_9 = 17 ∧ ∃ p_12 : Nat, hpP h p_9 0 = some p_12 ∧ (hpK h p_12 = 35 ∧ vp_in x2 (hpN h p_12) ∧ ∃ p_16 : Nat, hpP h p_12 (x2).toNatClampNeg = some p_16 ∧ (hpK h p_16 = 15 ∧ ∃ p_19 : Nat, hpP h p_16 3 = some p_19 ∧ (hpK h p_19 = 1 ∧ vp_in x3 (hpN h p_19) ∧ nc ≤ mc ∧ ns ≤ ms ∧ Q 0 (some (.int (hpI h p_19 (x3).toNatClampNeg))) h))))))) : Wm mX8_demand 7 mc ms Q 17 [some (.ref a0), some (.int x1), some (.int x2), some (.int x3)] [] h nc ns := by
  refine rl_aload_n dX8_demand_17 rfl rfl ?_
  obtain ⟨o_1, H⟩ := H
  obtain ⟨p_2, e_3, H⟩ := H
  refine rl_getP (k := 1) cfX8 dX8_demand_18 flX8_27 (by decide) rfl o_1 e_3 ?_
  obtain ⟨o_4, H⟩ := H
  obtain ⟨p_5, e_6, H⟩ := H
  refine rl_getP (k := 7) cfX6 dX8_demand_21 flX8_175 (by decide) rfl o_4 e_6 ?_
  refine rl_iload_n dX8_demand_24 rfl rfl ?_
  obtain ⟨o_7, H⟩ := H
  obtain ⟨o_8, H⟩ := H
  obtain ⟨p_9, e_10, H⟩ := H
  refine rl_aald (ci := 7) dX8_demand_25 rfl o_7 o_8 e_10 ?_
  obtain ⟨o_11, H⟩ := H
  obtain ⟨p_12, e_13, H⟩ := H
  refine rl_getP (k := 0) cfX7 dX8_demand_26 flX8_179 (by decide) rfl o_11 e_13 ?_
  refine rl_iload_n dX8_demand_29 rfl rfl ?_
  obtain ⟨o_14, H⟩ := H
  obtain ⟨o_15, H⟩ := H
  obtain ⟨p_16, e_17, H⟩ := H
  refine rl_aald (ci := 5) dX8_demand_30 rfl o_14 o_15 e_17 ?_
  obtain ⟨o_18, H⟩ := H
  obtain ⟨p_19, e_20, H⟩ := H
  refine rl_getP (k := 3) cfX5 dX8_demand_31 flX8_185 (by decide) rfl o_18 e_20 ?_
  refine rl_iload_n dX8_demand_34 rfl rfl ?_
  obtain ⟨o_21, H⟩ := H
  obtain ⟨o_22, H⟩ := H
  refine rl_iald dX8_demand_35 (Or.inl o_21) o_22 ?_
  obtain ⟨o_23, H⟩ := H
  obtain ⟨o_24, H⟩ := H
  exact rl_iret dX8_demand_36 rfl o_23 o_24 H
theorem bX8_version_0 {Q : Nat → Option Value → Hp → Prop} {h : Hp} {mc ms nc ns : Nat} {a0 : Nat} {x1 x2 : Int32} (H : nc + 0 ≤ mc ∧ ns + 0 ≤ ms ∧ hpK h a0 = 18 ∧ CKi mX8_siteFault 1 0 0 [some (.ref a0), some (.int x1)] h (fun v h' => Wm mX8_version 7 mc ms Q 5 [some (.ref a0), some (.int x1), some (.int x2)] [.int v] h' nc ns)) : Wm mX8_version 7 mc ms Q 0 [some (.ref a0), some (.int x1), some (.int x2)] [] h nc ns := by
  refine rl_aload_n dX8_version_0 rfl rfl ?_
  refine rl_iload_n dX8_version_1 rfl rfl ?_
  obtain ⟨o_1, H⟩ := H
  obtain ⟨o_2, H⟩ := H
  obtain ⟨o_3, H⟩ := H
  exact rl_callV (As := [.int x1]) (rest := []) mfX8_siteFault dX8_version_2 lkX8_157 o_3 (by decide) (Nat.le_of_ble_eq_true rfl) o_1 o_2 rfl (Nat.le_of_ble_eq_true rfl) rfl rfl (fun Qc k => H Qc (fun v h' w => k (some (.int v)) h' w))
theorem bX8_version_5 {Q : Nat → Option Value → Hp → Prop} {h : Hp} {mc ms nc ns : Nat} {a0 mcn msn : Nat} {x1 x2 xs0 : Int32} (H : nc + mcn ≤ mc ∧ ns + msn ≤ ms ∧ CXv mX8_throwFor 6 mcn msn [some (.int xs0)] h (fun h' => Wm mX8_version 7 mc ms Q 8 [some (.ref a0), some (.int x1), some (.int x2)] [] h' (nc + mcn) (ns + msn)) (fun j h' => Q j none h')) : Wm mX8_version 7 mc ms Q 5 [some (.ref a0), some (.int x1), some (.int x2)] [.int xs0] h nc ns := by
  obtain ⟨o_1, H⟩ := H
  obtain ⟨o_2, H⟩ := H
  exact rl_callSX (As := [.int xs0]) (rest := []) mfX8_throwFor dX8_version_5 lkX8_66 ⟨rfl, by decide⟩ (by decide) (Nat.le_of_ble_eq_true rfl) o_1 o_2 rfl (Nat.le_of_ble_eq_true rfl) rfl rfl (fun Qc k kx => H Qc (fun h' w => k none h' w) kx)
theorem bX8_version_8 {Q : Nat → Option Value → Hp → Prop} {h : Hp} {mc ms nc ns : Nat} {a0 : Nat} {x1 x2 : Int32} (H : nc + 0 ≤ mc ∧ ns + 0 ≤ ms ∧ hpK h a0 = 18 ∧ CKi mX8_siteFault 1 0 0 [some (.ref a0), some (.int x2)] h (fun v h' => Wm mX8_version 7 mc ms Q 13 [some (.ref a0), some (.int x1), some (.int x2)] [.int v] h' nc ns)) : Wm mX8_version 7 mc ms Q 8 [some (.ref a0), some (.int x1), some (.int x2)] [] h nc ns := by
  refine rl_aload_n dX8_version_8 rfl rfl ?_
  refine rl_iload_n dX8_version_9 rfl rfl ?_
  obtain ⟨o_1, H⟩ := H
  obtain ⟨o_2, H⟩ := H
  obtain ⟨o_3, H⟩ := H
  exact rl_callV (As := [.int x2]) (rest := []) mfX8_siteFault dX8_version_10 lkX8_157 o_3 (by decide) (Nat.le_of_ble_eq_true rfl) o_1 o_2 rfl (Nat.le_of_ble_eq_true rfl) rfl rfl (fun Qc k => H Qc (fun v h' w => k (some (.int v)) h' w))
theorem bX8_version_13 {Q : Nat → Option Value → Hp → Prop} {h : Hp} {mc ms nc ns : Nat} {a0 mcn msn : Nat} {x1 x2 xs0 : Int32} (H : nc + mcn ≤ mc ∧ ns + msn ≤ ms ∧ CXv mX8_throwFor 6 mcn msn [some (.int xs0)] h (fun h' => Wm mX8_version 7 mc ms Q 16 [some (.ref a0), some (.int x1), some (.int x2)] [] h' (nc + mcn) (ns + msn)) (fun j h' => Q j none h')) : Wm mX8_version 7 mc ms Q 13 [some (.ref a0), some (.int x1), some (.int x2)] [.int xs0] h nc ns := by
  obtain ⟨o_1, H⟩ := H
  obtain ⟨o_2, H⟩ := H
  exact rl_callSX (As := [.int xs0]) (rest := []) mfX8_throwFor dX8_version_13 lkX8_66 ⟨rfl, by decide⟩ (by decide) (Nat.le_of_ble_eq_true rfl) o_1 o_2 rfl (Nat.le_of_ble_eq_true rfl) rfl rfl (fun Qc k kx => H Qc (fun h' w => k none h' w) kx)
theorem bX8_version_16 {Q : Nat → Option Value → Hp → Prop} {h : Hp} {mc ms nc ns : Nat} {a0 : Nat} {x1 x2 : Int32} (H : hpK h a0 = 18 ∧ ∃ p_2 : Nat, hpP h a0 1 = some p_2 ∧ (hpK h p_2 = 16 ∧ ∃ p_5 : Nat, hpP h p_2 7 = some p_5 ∧ (hpK h p_5 = 37 ∧ vp_in x1 (hpN h p_5) ∧ ∃ p_9 : Nat, hpP h p_5 (x1).toNatClampNeg = some p_9 ∧ (hpK h p_9 = 17 ∧ ∃ p_12 : Nat, hpP h p_9 0 = some p_12 ∧ (hpK h p_12 = 35 ∧ vp_in x2 (hpN h p_12) ∧ ∃ p_16 : Nat, hpP h p_12 (x2).toNatClampNeg = some p_16 ∧ (hpK h p_16 = 15 ∧ nc ≤ mc ∧ ns ≤ ms ∧ Q 0 (some (.int (hpI h p_16 0))) h)))))) : Wm mX8_version 7 mc ms Q 16 [some (.ref a0), some (.int x1), some (.int x2)] [] h nc ns := by
  refine rl_aload_n dX8_version_16 rfl rfl ?_
  obtain ⟨o_1, H⟩ := H
  obtain ⟨p_2, e_3, H⟩ := H
  refine rl_getP (k := 1) cfX8 dX8_version_17 flX8_27 (by decide) rfl o_1 e_3 ?_
  obtain ⟨o_4, H⟩ := H
  obtain ⟨p_5, e_6, H⟩ := H
  refine rl_getP (k := 7) cfX6 dX8_version_20 flX8_175 (by decide) rfl o_4 e_6 ?_
  refine rl_iload_n dX8_version_23 rfl rfl ?_
  obtain ⟨o_7, H⟩ := H
  obtain ⟨o_8, H⟩ := H
  obtain ⟨p_9, e_10, H⟩ := H
  refine rl_aald (ci := 7) dX8_version_24 rfl o_7 o_8 e_10 ?_
  obtain ⟨o_11, H⟩ := H
  obtain ⟨p_12, e_13, H⟩ := H
  refine rl_getP (k := 0) cfX7 dX8_version_25 flX8_179 (by decide) rfl o_11 e_13 ?_
  refine rl_iload_n dX8_version_28 rfl rfl ?_
  obtain ⟨o_14, H⟩ := H
  obtain ⟨o_15, H⟩ := H
  obtain ⟨p_16, e_17, H⟩ := H
  refine rl_aald (ci := 5) dX8_version_29 rfl o_14 o_15 e_17 ?_
  obtain ⟨o_18, H⟩ := H
  refine rl_getI (k := 0) cfX5 dX8_version_30 flX8_191 (by decide) rfl o_18 ?_
  obtain ⟨o_19, H⟩ := H
  obtain ⟨o_20, H⟩ := H
  exact rl_iret dX8_version_33 rfl o_19 o_20 H
theorem bX8_copyTime_0 {Q : Nat → Option Value → Hp → Prop} {h : Hp} {mc ms nc ns : Nat} {a0 : Nat} {x1 x2 : Int32} (H : nc + 0 ≤ mc ∧ ns + 0 ≤ ms ∧ hpK h a0 = 18 ∧ CKi mX8_siteFault 1 0 0 [some (.ref a0), some (.int x1)] h (fun v h' => Wm mX8_copyTime 7 mc ms Q 5 [some (.ref a0), some (.int x1), some (.int x2)] [.int v] h' nc ns)) : Wm mX8_copyTime 7 mc ms Q 0 [some (.ref a0), some (.int x1), some (.int x2)] [] h nc ns := by
  refine rl_aload_n dX8_copyTime_0 rfl rfl ?_
  refine rl_iload_n dX8_copyTime_1 rfl rfl ?_
  obtain ⟨o_1, H⟩ := H
  obtain ⟨o_2, H⟩ := H
  obtain ⟨o_3, H⟩ := H
  exact rl_callV (As := [.int x1]) (rest := []) mfX8_siteFault dX8_copyTime_2 lkX8_157 o_3 (by decide) (Nat.le_of_ble_eq_true rfl) o_1 o_2 rfl (Nat.le_of_ble_eq_true rfl) rfl rfl (fun Qc k => H Qc (fun v h' w => k (some (.int v)) h' w))
theorem bX8_copyTime_5 {Q : Nat → Option Value → Hp → Prop} {h : Hp} {mc ms nc ns : Nat} {a0 mcn msn : Nat} {x1 x2 xs0 : Int32} (H : nc + mcn ≤ mc ∧ ns + msn ≤ ms ∧ CXv mX8_throwFor 6 mcn msn [some (.int xs0)] h (fun h' => Wm mX8_copyTime 7 mc ms Q 8 [some (.ref a0), some (.int x1), some (.int x2)] [] h' (nc + mcn) (ns + msn)) (fun j h' => Q j none h')) : Wm mX8_copyTime 7 mc ms Q 5 [some (.ref a0), some (.int x1), some (.int x2)] [.int xs0] h nc ns := by
  obtain ⟨o_1, H⟩ := H
  obtain ⟨o_2, H⟩ := H
  exact rl_callSX (As := [.int xs0]) (rest := []) mfX8_throwFor dX8_copyTime_5 lkX8_66 ⟨rfl, by decide⟩ (by decide) (Nat.le_of_ble_eq_true rfl) o_1 o_2 rfl (Nat.le_of_ble_eq_true rfl) rfl rfl (fun Qc k kx => H Qc (fun h' w => k none h' w) kx)
theorem bX8_copyTime_8 {Q : Nat → Option Value → Hp → Prop} {h : Hp} {mc ms nc ns : Nat} {a0 : Nat} {x1 x2 : Int32} (H : nc + 0 ≤ mc ∧ ns + 0 ≤ ms ∧ hpK h a0 = 18 ∧ CKi mX8_siteFault 1 0 0 [some (.ref a0), some (.int x2)] h (fun v h' => Wm mX8_copyTime 7 mc ms Q 13 [some (.ref a0), some (.int x1), some (.int x2)] [.int v] h' nc ns)) : Wm mX8_copyTime 7 mc ms Q 8 [some (.ref a0), some (.int x1), some (.int x2)] [] h nc ns := by
  refine rl_aload_n dX8_copyTime_8 rfl rfl ?_
  refine rl_iload_n dX8_copyTime_9 rfl rfl ?_
  obtain ⟨o_1, H⟩ := H
  obtain ⟨o_2, H⟩ := H
  obtain ⟨o_3, H⟩ := H
  exact rl_callV (As := [.int x2]) (rest := []) mfX8_siteFault dX8_copyTime_10 lkX8_157 o_3 (by decide) (Nat.le_of_ble_eq_true rfl) o_1 o_2 rfl (Nat.le_of_ble_eq_true rfl) rfl rfl (fun Qc k => H Qc (fun v h' w => k (some (.int v)) h' w))
theorem bX8_copyTime_13 {Q : Nat → Option Value → Hp → Prop} {h : Hp} {mc ms nc ns : Nat} {a0 mcn msn : Nat} {x1 x2 xs0 : Int32} (H : nc + mcn ≤ mc ∧ ns + msn ≤ ms ∧ CXv mX8_throwFor 6 mcn msn [some (.int xs0)] h (fun h' => Wm mX8_copyTime 7 mc ms Q 16 [some (.ref a0), some (.int x1), some (.int x2)] [] h' (nc + mcn) (ns + msn)) (fun j h' => Q j none h')) : Wm mX8_copyTime 7 mc ms Q 13 [some (.ref a0), some (.int x1), some (.int x2)] [.int xs0] h nc ns := by
  obtain ⟨o_1, H⟩ := H
  obtain ⟨o_2, H⟩ := H
  exact rl_callSX (As := [.int xs0]) (rest := []) mfX8_throwFor dX8_copyTime_13 lkX8_66 ⟨rfl, by decide⟩ (by decide) (Nat.le_of_ble_eq_true rfl) o_1 o_2 rfl (Nat.le_of_ble_eq_true rfl) rfl rfl (fun Qc k kx => H Qc (fun h' w => k none h' w) kx)
theorem bX8_copyTime_16 {Q : Nat → Option Value → Hp → Prop} {h : Hp} {mc ms nc ns : Nat} {a0 : Nat} {x1 x2 : Int32} (H : hpK h a0 = 18 ∧ ∃ p_2 : Nat, hpP h a0 1 = some p_2 ∧ (hpK h p_2 = 16 ∧ ∃ p_5 : Nat, hpP h p_2 7 = some p_5 ∧ (hpK h p_5 = 37 ∧ vp_in x1 (hpN h p_5) ∧ ∃ p_9 : Nat, hpP h p_5 (x1).toNatClampNeg = some p_9 ∧ (hpK h p_9 = 17 ∧ ∃ p_12 : Nat, hpP h p_9 0 = some p_12 ∧ (hpK h p_12 = 35 ∧ vp_in x2 (hpN h p_12) ∧ ∃ p_16 : Nat, hpP h p_12 (x2).toNatClampNeg = some p_16 ∧ (hpK h p_16 = 15 ∧ nc ≤ mc ∧ ns ≤ ms ∧ Q 0 (some (.int (hpI h p_16 1))) h)))))) : Wm mX8_copyTime 7 mc ms Q 16 [some (.ref a0), some (.int x1), some (.int x2)] [] h nc ns := by
  refine rl_aload_n dX8_copyTime_16 rfl rfl ?_
  obtain ⟨o_1, H⟩ := H
  obtain ⟨p_2, e_3, H⟩ := H
  refine rl_getP (k := 1) cfX8 dX8_copyTime_17 flX8_27 (by decide) rfl o_1 e_3 ?_
  obtain ⟨o_4, H⟩ := H
  obtain ⟨p_5, e_6, H⟩ := H
  refine rl_getP (k := 7) cfX6 dX8_copyTime_20 flX8_175 (by decide) rfl o_4 e_6 ?_
  refine rl_iload_n dX8_copyTime_23 rfl rfl ?_
  obtain ⟨o_7, H⟩ := H
  obtain ⟨o_8, H⟩ := H
  obtain ⟨p_9, e_10, H⟩ := H
  refine rl_aald (ci := 7) dX8_copyTime_24 rfl o_7 o_8 e_10 ?_
  obtain ⟨o_11, H⟩ := H
  obtain ⟨p_12, e_13, H⟩ := H
  refine rl_getP (k := 0) cfX7 dX8_copyTime_25 flX8_179 (by decide) rfl o_11 e_13 ?_
  refine rl_iload_n dX8_copyTime_28 rfl rfl ?_
  obtain ⟨o_14, H⟩ := H
  obtain ⟨o_15, H⟩ := H
  obtain ⟨p_16, e_17, H⟩ := H
  refine rl_aald (ci := 5) dX8_copyTime_29 rfl o_14 o_15 e_17 ?_
  obtain ⟨o_18, H⟩ := H
  refine rl_getI (k := 1) cfX5 dX8_copyTime_30 flX8_194 (by decide) rfl o_18 ?_
  obtain ⟨o_19, H⟩ := H
  obtain ⟨o_20, H⟩ := H
  exact rl_iret dX8_copyTime_33 rfl o_19 o_20 H
theorem bX8_loan_0 {Q : Nat → Option Value → Hp → Prop} {h : Hp} {mc ms nc ns : Nat} {a0 : Nat} {x1 x2 : Int32} (H : ((x1 < 0 → Wm mX8_loan 6 mc ms Q 25 [none, none, none] [] h nc ns) ∧ (¬ x1 < 0 → hpK h a0 = 18 ∧ ∃ p_3 : Nat, hpP h a0 1 = some p_3 ∧ (hpK h p_3 = 16 ∧ (((hpI h p_3 5) ≤ x1 → Wm mX8_loan 6 mc ms Q 25 [none, none, none] [] h nc ns) ∧ (¬ (hpI h p_3 5) ≤ x1 → ((x2 < 0 → Wm mX8_loan 6 mc ms Q 25 [none, none, none] [] h nc ns) ∧ (¬ x2 < 0 → ((x2 < (nI 8) → nc + 0 ≤ mc ∧ ns + 0 ≤ ms ∧ CKi mX6_loanFact 2 0 0 [some (.ref p_3), some (.int x1), some (.int x2), none] h (fun v h' => Wm mX8_loan 6 mc ms Q 44 [none, none, none] [.int v] h' nc ns)) ∧ (¬ x2 < (nI 8) → Wm mX8_loan 6 mc ms Q 25 [none, none, none] [] h nc ns)))))))))) : Wm mX8_loan 6 mc ms Q 0 [some (.ref a0), some (.int x1), some (.int x2)] [] h nc ns := by
  refine rl_iload_n dX8_loan_0 rfl rfl ?_
  refine rl_if_lt (tgt := 25) dX8_loan_1 (by decide) (fun c_1 => ?_) (fun c_1 => ?_)
  · have H := H.1 c_1
    refine rl_wk (L' := [none, none, none]) trivial ?_
    exact H
  · have H := H.2 c_1
    refine rl_iload_n dX8_loan_4 rfl rfl ?_
    refine rl_aload_n dX8_loan_5 rfl rfl ?_
    obtain ⟨o_2, H⟩ := H
    obtain ⟨p_3, e_4, H⟩ := H
    refine rl_getP (k := 1) cfX8 dX8_loan_6 flX8_27 (by decide) rfl o_2 e_4 ?_
    obtain ⟨o_5, H⟩ := H
    refine rl_getI (k := 5) cfX6 dX8_loan_9 flX8_195 (by decide) rfl o_5 ?_
    refine rl_icmp_ge (tgt := 25) dX8_loan_12 (by decide) (fun c_6 => ?_) (fun c_6 => ?_)
    · have H := H.1 c_6
      refine rl_wk (L' := [none, none, none]) trivial ?_
      exact H
    · have H := H.2 c_6
      refine rl_iload_n dX8_loan_15 rfl rfl ?_
      refine rl_if_lt (tgt := 25) dX8_loan_16 (by decide) (fun c_7 => ?_) (fun c_7 => ?_)
      · have H := H.1 c_7
        refine rl_wk (L' := [none, none, none]) trivial ?_
        exact H
      · have H := H.2 c_7
        refine rl_iload_n dX8_loan_19 rfl rfl ?_
        refine rl_bipush (v := nI 8) dX8_loan_20 (by decide) ?_
        refine rl_icmp_lt (tgt := 35) dX8_loan_22 (by decide) (fun c_8 => ?_) (fun c_8 => ?_)
        · have H := H.1 c_8
          refine rl_aload_n dX8_loan_35 rfl rfl ?_
          refine rl_getP (k := 1) cfX8 dX8_loan_36 flX8_27 (by decide) rfl o_2 e_4 ?_
          refine rl_iload_n dX8_loan_39 rfl rfl ?_
          refine rl_iload_n dX8_loan_40 rfl rfl ?_
          obtain ⟨o_9, H⟩ := H
          obtain ⟨o_10, H⟩ := H
          exact rl_callV (As := [.int x1, .int x2]) (rest := []) mfX6_loanFact dX8_loan_41 lkX8_200 o_5 (by decide) (Nat.le_of_ble_eq_true rfl) o_9 o_10 rfl (Nat.le_of_ble_eq_true rfl) rfl rfl (fun Qc k => H Qc (fun v h' w => k (some (.int v)) h' (rl_wk (L' := [none, none, none]) trivial w)))
        · have H := H.2 c_8
          refine rl_wk (L' := [none, none, none]) trivial ?_
          exact H
theorem bX8_loan_25 {Q : Nat → Option Value → Hp → Prop} {h : Hp} {mc ms nc ns : Nat}  (H : nc + 1 ≤ mc ∧ ns + 6 ≤ ms ∧ (∀ z : Nat, hpZ h ≤ z → Q 1 none (stZ h z))) : Wm mX8_loan 6 mc ms Q 25 [none, none, none] [] h nc ns := by
  obtain ⟨o_1, H⟩ := H
  obtain ⟨o_2, H⟩ := H
  exact rl_throw 1 dX8_loan_25 dX8_loan_28 dX8_loan_29 dX8_loan_31 dX8_loan_34 clX8_143 thX8_147 (by decide) (List.mem_of_getElem? (i := 7) rfl) ⟨rfl, by decide⟩ (by decide) o_1 o_2 H
theorem bX8_loan_44 {Q : Nat → Option Value → Hp → Prop} {h : Hp} {mc ms nc ns : Nat} {xs0 : Int32} (H : nc ≤ mc ∧ ns ≤ ms ∧ Q 0 (some (.int xs0)) h) : Wm mX8_loan 6 mc ms Q 44 [none, none, none] [.int xs0] h nc ns := by
  obtain ⟨o_1, H⟩ := H
  obtain ⟨o_2, H⟩ := H
  exact rl_iret dX8_loan_44 rfl o_1 o_2 H
theorem bX8_helpers_0 {Q : Nat → Option Value → Hp → Prop} {h : Hp} {mc ms nc ns : Nat} {a0 : Nat} {x1 x2 x3 : Int32} (H : nc + 0 ≤ mc ∧ ns + 0 ≤ ms ∧ hpK h a0 = 18 ∧ CKi mX8_siteAndKindFault 1 0 0 [some (.ref a0), some (.int x1), some (.int x2)] h (fun v h' => Wm mX8_helpers 7 mc ms Q 6 [some (.ref a0), some (.int x1), some (.int x2), some (.int x3)] [.int v] h' nc ns)) : Wm mX8_helpers 7 mc ms Q 0 [some (.ref a0), some (.int x1), some (.int x2), some (.int x3)] [] h nc ns := by
  refine rl_aload_n dX8_helpers_0 rfl rfl ?_
  refine rl_iload_n dX8_helpers_1 rfl rfl ?_
  refine rl_iload_n dX8_helpers_2 rfl rfl ?_
  obtain ⟨o_1, H⟩ := H
  obtain ⟨o_2, H⟩ := H
  obtain ⟨o_3, H⟩ := H
  exact rl_callV (As := [.int x1, .int x2]) (rest := []) mfX8_siteAndKindFault dX8_helpers_3 lkX8_95 o_3 (by decide) (Nat.le_of_ble_eq_true rfl) o_1 o_2 rfl (Nat.le_of_ble_eq_true rfl) rfl rfl (fun Qc k => H Qc (fun v h' w => k (some (.int v)) h' w))
theorem bX8_helpers_6 {Q : Nat → Option Value → Hp → Prop} {h : Hp} {mc ms nc ns : Nat} {a0 mcn msn : Nat} {x1 x2 x3 xs0 : Int32} (H : nc + mcn ≤ mc ∧ ns + msn ≤ ms ∧ CXv mX8_throwFor 6 mcn msn [some (.int xs0)] h (fun h' => Wm mX8_helpers 7 mc ms Q 9 [some (.ref a0), some (.int x1), some (.int x2), some (.int x3)] [] h' (nc + mcn) (ns + msn)) (fun j h' => Q j none h')) : Wm mX8_helpers 7 mc ms Q 6 [some (.ref a0), some (.int x1), some (.int x2), some (.int x3)] [.int xs0] h nc ns := by
  obtain ⟨o_1, H⟩ := H
  obtain ⟨o_2, H⟩ := H
  exact rl_callSX (As := [.int xs0]) (rest := []) mfX8_throwFor dX8_helpers_6 lkX8_66 ⟨rfl, by decide⟩ (by decide) (Nat.le_of_ble_eq_true rfl) o_1 o_2 rfl (Nat.le_of_ble_eq_true rfl) rfl rfl (fun Qc k kx => H Qc (fun h' w => k none h' w) kx)
theorem bX8_helpers_9 {Q : Nat → Option Value → Hp → Prop} {h : Hp} {mc ms nc ns : Nat} {a0 : Nat} {x1 x2 x3 : Int32} (H : ((x3 < 0 → Wm mX8_helpers 7 mc ms Q 20 [none, none, none, none] [] h nc ns) ∧ (¬ x3 < 0 → ((x3 ≤ (nI 30000) → hpK h a0 = 18 ∧ ∃ p_4 : Nat, hpP h a0 1 = some p_4 ∧ (nc + 0 ≤ mc ∧ ns + 0 ≤ ms ∧ hpK h p_4 = 16 ∧ CKi mX6_fewestHelpers 4 0 0 [some (.ref p_4), some (.int x1), some (.int x2), some (.int x3), none, none, none, none] h (fun v h' => Wm mX8_helpers 7 mc ms Q 40 [none, none, none, none] [.int v] h' nc ns))) ∧ (¬ x3 ≤ (nI 30000) → Wm mX8_helpers 7 mc ms Q 20 [none, none, none, none] [] h nc ns))))) : Wm mX8_helpers 7 mc ms Q 9 [some (.ref a0), some (.int x1), some (.int x2), some (.int x3)] [] h nc ns := by
  refine rl_iload_n dX8_helpers_9 rfl rfl ?_
  refine rl_if_lt (tgt := 20) dX8_helpers_10 (by decide) (fun c_1 => ?_) (fun c_1 => ?_)
  · have H := H.1 c_1
    refine rl_wk (L' := [none, none, none, none]) trivial ?_
    exact H
  · have H := H.2 c_1
    refine rl_iload_n dX8_helpers_13 rfl rfl ?_
    refine rl_sipush (v := nI 30000) dX8_helpers_14 (by decide) ?_
    refine rl_icmp_le (tgt := 30) dX8_helpers_17 (by decide) (fun c_2 => ?_) (fun c_2 => ?_)
    · have H := H.1 c_2
      refine rl_aload_n dX8_helpers_30 rfl rfl ?_
      obtain ⟨o_3, H⟩ := H
      obtain ⟨p_4, e_5, H⟩ := H
      refine rl_getP (k := 1) cfX8 dX8_helpers_31 flX8_27 (by decide) rfl o_3 e_5 ?_
      refine rl_iload_n dX8_helpers_34 rfl rfl ?_
      refine rl_iload_n dX8_helpers_35 rfl rfl ?_
      refine rl_iload_n dX8_helpers_36 rfl rfl ?_
      obtain ⟨o_6, H⟩ := H
      obtain ⟨o_7, H⟩ := H
      obtain ⟨o_8, H⟩ := H
      exact rl_callV (As := [.int x1, .int x2, .int x3]) (rest := []) mfX6_fewestHelpers dX8_helpers_37 lkX8_205 o_8 (by decide) (Nat.le_of_ble_eq_true rfl) o_6 o_7 rfl (Nat.le_of_ble_eq_true rfl) rfl rfl (fun Qc k => H Qc (fun v h' w => k (some (.int v)) h' (rl_wk (L' := [none, none, none, none]) trivial w)))
    · have H := H.2 c_2
      refine rl_wk (L' := [none, none, none, none]) trivial ?_
      exact H
theorem bX8_helpers_20 {Q : Nat → Option Value → Hp → Prop} {h : Hp} {mc ms nc ns : Nat}  (H : nc + 1 ≤ mc ∧ ns + 6 ≤ ms ∧ (∀ z : Nat, hpZ h ≤ z → Q 2 none (stZ h z))) : Wm mX8_helpers 7 mc ms Q 20 [none, none, none, none] [] h nc ns := by
  obtain ⟨o_1, H⟩ := H
  obtain ⟨o_2, H⟩ := H
  exact rl_throw 2 dX8_helpers_20 dX8_helpers_23 dX8_helpers_24 dX8_helpers_26 dX8_helpers_29 clX8_49 thX8_53 (by decide) (List.mem_of_getElem? (i := 8) rfl) ⟨rfl, by decide⟩ (by decide) o_1 o_2 H
theorem bX8_helpers_40 {Q : Nat → Option Value → Hp → Prop} {h : Hp} {mc ms nc ns : Nat} {xs0 : Int32} (H : nc ≤ mc ∧ ns ≤ ms ∧ Q 0 (some (.int xs0)) h) : Wm mX8_helpers 7 mc ms Q 40 [none, none, none, none] [.int xs0] h nc ns := by
  obtain ⟨o_1, H⟩ := H
  obtain ⟨o_2, H⟩ := H
  exact rl_iret dX8_helpers_40 rfl o_1 o_2 H
theorem bX8_type_0 {Q : Nat → Option Value → Hp → Prop} {h : Hp} {mc ms nc ns : Nat} {a0 : Nat} {x1 : Int32} (H : ((x1 < (nI 32) → Wm mX8_type 6 mc ms Q 12 [none, none] [] h nc ns) ∧ (¬ x1 < (nI 32) → ((x1 ≤ (nI 126) → hpK h a0 = 18 ∧ ∃ p_4 : Nat, hpP h a0 3 = some p_4 ∧ (hpK h p_4 = 14 ∧ (((hpI h p_4 2) < (nI 60) → nc + 0 ≤ mc ∧ ns + 0 ≤ ms ∧ CKv mX4_append 0 0 0 [some (.ref p_4), some (.int x1)] h (fun h' => Wm mX8_type 6 mc ms Q 52 [some (.ref a0), none] [] h' nc ns)) ∧ (¬ (hpI h p_4 2) < (nI 60) → nc + 1 ≤ mc ∧ ns + 6 ≤ ms ∧ (∀ z : Nat, hpZ h ≤ z → Q 3 none (stZ h z)))))) ∧ (¬ x1 ≤ (nI 126) → Wm mX8_type 6 mc ms Q 12 [none, none] [] h nc ns))))) : Wm mX8_type 6 mc ms Q 0 [some (.ref a0), some (.int x1)] [] h nc ns := by
  refine rl_iload_n dX8_type_0 rfl rfl ?_
  refine rl_bipush (v := nI 32) dX8_type_1 (by decide) ?_
  refine rl_icmp_lt (tgt := 12) dX8_type_3 (by decide) (fun c_1 => ?_) (fun c_1 => ?_)
  · have H := H.1 c_1
    refine rl_wk (L' := [none, none]) trivial ?_
    exact H
  · have H := H.2 c_1
    refine rl_iload_n dX8_type_6 rfl rfl ?_
    refine rl_bipush (v := nI 126) dX8_type_7 (by decide) ?_
    refine rl_icmp_le (tgt := 22) dX8_type_9 (by decide) (fun c_2 => ?_) (fun c_2 => ?_)
    · have H := H.1 c_2
      refine rl_aload_n dX8_type_22 rfl rfl ?_
      obtain ⟨o_3, H⟩ := H
      obtain ⟨p_4, e_5, H⟩ := H
      refine rl_getP (k := 3) cfX8 dX8_type_23 flX8_41 (by decide) rfl o_3 e_5 ?_
      obtain ⟨o_6, H⟩ := H
      refine rl_getI (k := 2) cfX4 dX8_type_26 flX8_211 (by decide) rfl o_6 ?_
      refine rl_bipush (v := nI 60) dX8_type_29 (by decide) ?_
      refine rl_icmp_lt (tgt := 44) dX8_type_31 (by decide) (fun c_7 => ?_) (fun c_7 => ?_)
      · have H := H.1 c_7
        refine rl_aload_n dX8_type_44 rfl rfl ?_
        refine rl_getP (k := 3) cfX8 dX8_type_45 flX8_41 (by decide) rfl o_3 e_5 ?_
        refine rl_iload_n dX8_type_48 rfl rfl ?_
        obtain ⟨o_8, H⟩ := H
        obtain ⟨o_9, H⟩ := H
        exact rl_callV (As := [.int x1]) (rest := []) mfX4_append dX8_type_49 lkX8_216 o_6 (by decide) (Nat.le_of_ble_eq_true rfl) o_8 o_9 rfl (Nat.le_of_ble_eq_true rfl) rfl rfl (fun Qc k => H Qc (fun h' w => k none h' (rl_wk (L' := [some (.ref a0), none]) ⟨rfl, trivial⟩ w)))
      · have H := H.2 c_7
        obtain ⟨o_10, H⟩ := H
        obtain ⟨o_11, H⟩ := H
        exact rl_throw 3 dX8_type_34 dX8_type_37 dX8_type_38 dX8_type_40 dX8_type_43 clX8_135 thX8_139 (by decide) (List.mem_of_getElem? (i := 10) rfl) ⟨rfl, by decide⟩ (by decide) o_10 o_11 H
    · have H := H.2 c_2
      refine rl_wk (L' := [none, none]) trivial ?_
      exact H
theorem bX8_type_12 {Q : Nat → Option Value → Hp → Prop} {h : Hp} {mc ms nc ns : Nat}  (H : nc + 1 ≤ mc ∧ ns + 6 ≤ ms ∧ (∀ z : Nat, hpZ h ≤ z → Q 2 none (stZ h z))) : Wm mX8_type 6 mc ms Q 12 [none, none] [] h nc ns := by
  obtain ⟨o_1, H⟩ := H
  obtain ⟨o_2, H⟩ := H
  exact rl_throw 2 dX8_type_12 dX8_type_15 dX8_type_16 dX8_type_18 dX8_type_21 clX8_49 thX8_53 (by decide) (List.mem_of_getElem? (i := 9) rfl) ⟨rfl, by decide⟩ (by decide) o_1 o_2 H
theorem bX8_type_52 {Q : Nat → Option Value → Hp → Prop} {h : Hp} {mc ms nc ns : Nat} {a0 : Nat} (H : hpK h a0 = 18 ∧ ∃ p_2 : Nat, hpP h a0 3 = some p_2 ∧ (hpK h p_2 = 14 ∧ nc ≤ mc ∧ ns ≤ ms ∧ Q 0 (some (.int (hpI h p_2 2))) h)) : Wm mX8_type 6 mc ms Q 52 [some (.ref a0), none] [] h nc ns := by
  refine rl_aload_n dX8_type_52 rfl rfl ?_
  obtain ⟨o_1, H⟩ := H
  obtain ⟨p_2, e_3, H⟩ := H
  refine rl_getP (k := 3) cfX8 dX8_type_53 flX8_41 (by decide) rfl o_1 e_3 ?_
  obtain ⟨o_4, H⟩ := H
  refine rl_getI (k := 2) cfX4 dX8_type_56 flX8_211 (by decide) rfl o_4 ?_
  obtain ⟨o_5, H⟩ := H
  obtain ⟨o_6, H⟩ := H
  exact rl_iret dX8_type_59 rfl o_5 o_6 H
theorem bX8_undo_0 {Q : Nat → Option Value → Hp → Prop} {h : Hp} {mc ms nc ns : Nat} {a0 : Nat} (H : hpK h a0 = 18 ∧ ∃ p_2 : Nat, hpP h a0 2 = some p_2 ∧ (hpK h p_2 = 11 ∧ ((¬ (hpI h p_2 2) = 0 → (∃ p_6 : Nat, hpP h a0 1 = some p_6 ∧ (nc + 0 ≤ mc ∧ ns + 0 ≤ ms ∧ CKv mX1_bringBackLatest 5 0 0 [some (.ref p_2), some (.ref p_6)] h (fun h' => Wm mX8_undo 6 mc ms Q 31 [some (.ref a0)] [] h' nc ns)))) ∧ ((hpI h p_2 2) = 0 → nc + 1 ≤ mc ∧ ns + 6 ≤ ms ∧ (∀ z : Nat, hpZ h ≤ z → Q 3 none (stZ h z)))))) : Wm mX8_undo 6 mc ms Q 0 [some (.ref a0)] [] h nc ns := by
  refine rl_aload_n dX8_undo_0 rfl rfl ?_
  obtain ⟨o_1, H⟩ := H
  obtain ⟨p_2, e_3, H⟩ := H
  refine rl_getP (k := 2) cfX8 dX8_undo_1 flX8_34 (by decide) rfl o_1 e_3 ?_
  obtain ⟨o_4, H⟩ := H
  refine rl_getI (k := 2) cfX1 dX8_undo_4 flX8_236 (by decide) rfl o_4 ?_
  refine rl_if_ne (tgt := 20) dX8_undo_7 (by decide) (fun c_5 => ?_) (fun c_5 => ?_)
  · have H := H.1 c_5
    refine rl_aload_n dX8_undo_20 rfl rfl ?_
    refine rl_getP (k := 2) cfX8 dX8_undo_21 flX8_34 (by decide) rfl o_1 e_3 ?_
    refine rl_aload_n dX8_undo_24 rfl rfl ?_
    obtain ⟨p_6, e_7, H⟩ := H
    refine rl_getP (k := 1) cfX8 dX8_undo_25 flX8_27 (by decide) rfl o_1 e_7 ?_
    obtain ⟨o_8, H⟩ := H
    obtain ⟨o_9, H⟩ := H
    exact rl_callV (As := [.ref p_6]) (rest := []) mfX1_bringBackLatest dX8_undo_28 lkX8_239 o_4 (by decide) (Nat.le_of_ble_eq_true rfl) o_8 o_9 rfl (Nat.le_of_ble_eq_true rfl) rfl rfl (fun Qc k => H Qc (fun h' w => k none h' w))
  · have H := H.2 c_5
    obtain ⟨o_10, H⟩ := H
    obtain ⟨o_11, H⟩ := H
    exact rl_throw 3 dX8_undo_10 dX8_undo_13 dX8_undo_14 dX8_undo_16 dX8_undo_19 clX8_135 thX8_139 (by decide) (List.mem_of_getElem? (i := 11) rfl) ⟨rfl, by decide⟩ (by decide) o_10 o_11 H
theorem bX8_undo_31 {Q : Nat → Option Value → Hp → Prop} {h : Hp} {mc ms nc ns : Nat} {a0 : Nat} (H : hpK h a0 = 18 ∧ ∃ p_2 : Nat, hpP h a0 2 = some p_2 ∧ (hpK h p_2 = 11 ∧ nc ≤ mc ∧ ns ≤ ms ∧ Q 0 (some (.int (hpI h p_2 2))) h)) : Wm mX8_undo 6 mc ms Q 31 [some (.ref a0)] [] h nc ns := by
  refine rl_aload_n dX8_undo_31 rfl rfl ?_
  obtain ⟨o_1, H⟩ := H
  obtain ⟨p_2, e_3, H⟩ := H
  refine rl_getP (k := 2) cfX8 dX8_undo_32 flX8_34 (by decide) rfl o_1 e_3 ?_
  obtain ⟨o_4, H⟩ := H
  refine rl_getI (k := 2) cfX1 dX8_undo_35 flX8_236 (by decide) rfl o_4 ?_
  obtain ⟨o_5, H⟩ := H
  obtain ⟨o_6, H⟩ := H
  exact rl_iret dX8_undo_38 rfl o_5 o_6 H
