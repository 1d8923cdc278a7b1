theorem bX5_clear_0 {Q : Nat → Option Value → Hp → Prop} {h : Hp} {a0 : Nat} (H : hpK h a0 = 15 ∧ Wm mX5_clear 0 0 0 Q 17 [some (.ref a0), some (.int (nI 0))] [] (stI (stI (stI h a0 0 (nI 0)) a0 1 (nI 0)) a0 5 (nI 0)) 0 0) : Wm mX5_clear 0 0 0 Q 0 [some (.ref a0), none] [] h 0 0 := by
  refine rl_aload_n dX5_clear_0 rfl rfl ?_
  refine rl_iconst (v := nI 0) dX5_clear_1 (by decide) ?_
  obtain ⟨o_1, H⟩ := H
  refine rl_putI (k := 0) cfX5 dX5_clear_2 flX5_24 (by decide) rfl o_1 (Or.inl rfl) ?_
  refine rl_aload_n dX5_clear_5 rfl rfl ?_
  refine rl_iconst (v := nI 0) dX5_clear_6 (by decide) ?_
  refine rl_putI (k := 1) cfX5 dX5_clear_7 flX5_28 (by decide) rfl o_1 (Or.inl rfl) ?_
  refine rl_aload_n dX5_clear_10 rfl rfl ?_
  refine rl_iconst (v := nI 0) dX5_clear_11 (by decide) ?_
  refine rl_putI (k := 5) cfX5 dX5_clear_12 flX5_31 (by decide) rfl o_1 (Or.inl rfl) ?_
  refine rl_iconst (v := nI 0) dX5_clear_15 (by decide) ?_
  refine rl_istore_n (L' := [some (.ref a0), some (.int (nI 0))]) dX5_clear_16 rfl (Nat.le_of_ble_eq_true rfl) rfl ?_
  exact H

theorem bX5_clear_17 {Q : Nat → Option Value → Hp → Prop} {h : Hp} {a0 : Nat} {x1 : Int32} (H : (((nI 2) ≤ x1 → Wm mX5_clear 0 0 0 Q 44 [some (.ref a0), some (.int (nI 0))] [] h 0 0) ∧ (¬ (nI 2) ≤ x1 → hpK h a0 = 15 ∧ ∃ p_3 : Nat, hpP h a0 2 = some p_3 ∧ (hpK h p_3 = 1 ∧ vp_in x1 (hpN h p_3) ∧ ∃ p_7 : Nat, hpP h a0 3 = some p_7 ∧ (hpK h p_7 = 1 ∧ vp_in x1 (hpN h p_7) ∧ Wm mX5_clear 0 0 0 Q 17 [some (.ref a0), some (.int (x1 + nI 1))] [] (stI (stI h p_3 (x1).toNatClampNeg (nI 0)) p_7 (x1).toNatClampNeg (nI 0)) 0 0))))) : Wm mX5_clear 0 0 0 Q 17 [some (.ref a0), some (.int x1)] [] h 0 0 := by
  refine rl_iload_n dX5_clear_17 rfl rfl ?_
  refine rl_iconst (v := nI 2) dX5_clear_18 (by decide) ?_
  refine rl_icmp_ge (tgt := 42) dX5_clear_19 (by decide) (fun c_1 => ?_) (fun c_1 => ?_)
  · have H := H.1 c_1
    refine rl_iconst (v := nI 0) dX5_clear_42 (by decide) ?_
    refine rl_istore_n (L' := [some (.ref a0), some (.int (nI 0))]) dX5_clear_43 rfl (Nat.le_of_ble_eq_true rfl) rfl ?_
    exact H
  · have H := H.2 c_1
    refine rl_aload_n dX5_clear_22 rfl rfl ?_
    obtain ⟨o_2, H⟩ := H
    obtain ⟨p_3, e_4, H⟩ := H
    refine rl_getP (k := 2) cfX5 dX5_clear_23 flX5_9 (by decide) rfl o_2 e_4 ?_
    refine rl_iload_n dX5_clear_26 rfl rfl ?_
    refine rl_iconst (v := nI 0) dX5_clear_27 (by decide) ?_
    obtain ⟨o_5, H⟩ := H
    obtain ⟨o_6, H⟩ := H
    refine rl_iast dX5_clear_28 o_5 o_6 ?_
    refine rl_aload_n dX5_clear_29 rfl rfl ?_
    obtain ⟨p_7, e_8, H⟩ := H
    refine rl_getP (k := 3) cfX5 dX5_clear_30 flX5_15 (by decide) rfl o_2 e_8 ?_
    refine rl_iload_n dX5_clear_33 rfl rfl ?_
    refine rl_iconst (v := nI 0) dX5_clear_34 (by decide) ?_
    obtain ⟨o_9, H⟩ := H
    obtain ⟨o_10, H⟩ := H
    refine rl_iast dX5_clear_35 o_9 o_10 ?_
    refine rl_iinc (v := x1 + nI 1) (L' := [some (.ref a0), some (.int (x1 + nI 1))]) dX5_clear_36 rfl (congrArg (fun z => x1 + z) (by decide)) (Nat.le_of_ble_eq_true rfl) rfl ?_
    refine rl_goto (tgt := 17) dX5_clear_39 (by decide) ?_
    exact H

theorem bX5_clear_44 {Q : Nat → Option Value → Hp → Prop} {h : Hp} {a0 : Nat} {x1 : Int32} (H : hpK h a0 = 15 ∧ ∃ p_2 : Nat, hpP h a0 4 = some p_2 ∧ (hpK h p_2 = 1 ∧ (((nI (hpN h p_2)) ≤ x1 → Wm mX5_clear 0 0 0 Q 68 [some (.ref a0), some (.int (nI 0))] [] h 0 0) ∧ (¬ (nI (hpN h p_2)) ≤ x1 → vp_in x1 (hpN h p_2) ∧ Wm mX5_clear 0 0 0 Q 44 [some (.ref a0), some (.int (x1 + nI 1))] [] (stI h p_2 (x1).toNatClampNeg (nI 0)) 0 0)))) : Wm mX5_clear 0 0 0 Q 44 [some (.ref a0), some (.int x1)] [] h 0 0 := by
  refine rl_iload_n dX5_clear_44 rfl rfl ?_
  refine rl_aload_n dX5_clear_45 rfl rfl ?_
  obtain ⟨o_1, H⟩ := H
  obtain ⟨p_2, e_3, H⟩ := H
  refine rl_getP (k := 4) cfX5 dX5_clear_46 flX5_18 (by decide) rfl o_1 e_3 ?_
  obtain ⟨o_4, H⟩ := H
  refine rl_alen (n := nI (hpN h p_2)) dX5_clear_49 (Or.inl o_4) rfl ?_
  refine rl_icmp_ge (tgt := 66) dX5_clear_50 (by decide) (fun c_5 => ?_) (fun c_5 => ?_)
  · have H := H.1 c_5
    refine rl_iconst (v := nI 0) dX5_clear_66 (by decide) ?_
    refine rl_istore_n (L' := [some (.ref a0), some (.int (nI 0))]) dX5_clear_67 rfl (Nat.le_of_ble_eq_true rfl) rfl ?_
    exact H
  · have H := H.2 c_5
    refine rl_aload_n dX5_clear_53 rfl rfl ?_
    refine rl_getP (k := 4) cfX5 dX5_clear_54 flX5_18 (by decide) rfl o_1 e_3 ?_
    refine rl_iload_n dX5_clear_57 rfl rfl ?_
    refine rl_iconst (v := nI 0) dX5_clear_58 (by decide) ?_
    obtain ⟨o_6, H⟩ := H
    refine rl_iast dX5_clear_59 o_4 o_6 ?_
    refine rl_iinc (v := x1 + nI 1) (L' := [some (.ref a0), some (.int (x1 + nI 1))]) dX5_clear_60 rfl (congrArg (fun z => x1 + z) (by decide)) (Nat.le_of_ble_eq_true rfl) rfl ?_
    refine rl_goto (tgt := 44) dX5_clear_63 (by decide) ?_
    exact H

theorem bX5_clear_68 {Q : Nat → Option Value → Hp → Prop} {h : Hp} {a0 : Nat} {x1 : Int32} (H : (((nI 10) ≤ x1 → Q 0 none h) ∧ (¬ (nI 10) ≤ x1 → hpK h a0 = 15 ∧ ∃ p_3 : Nat, hpP h a0 6 = some p_3 ∧ (hpK h p_3 = 1 ∧ vp_in x1 (hpN h p_3) ∧ Wm mX5_clear 0 0 0 Q 68 [some (.ref a0), some (.int (x1 + nI 1))] [] (stI h p_3 (x1).toNatClampNeg (nI 0)) 0 0)))) : Wm mX5_clear 0 0 0 Q 68 [some (.ref a0), some (.int x1)] [] h 0 0 := by
  refine rl_iload_n dX5_clear_68 rfl rfl ?_
  refine rl_bipush (v := nI 10) dX5_clear_69 (by decide) ?_
  refine rl_icmp_ge (tgt := 87) dX5_clear_71 (by decide) (fun c_1 => ?_) (fun c_1 => ?_)
  · have H := H.1 c_1
    exact rl_vret dX5_clear_87 rfl (Nat.le_refl 0) (Nat.le_refl 0) H
  · have H := H.2 c_1
    refine rl_aload_n dX5_clear_74 rfl rfl ?_
    obtain ⟨o_2, H⟩ := H
    obtain ⟨p_3, e_4, H⟩ := H
    refine rl_getP (k := 6) cfX5 dX5_clear_75 flX5_21 (by decide) rfl o_2 e_4 ?_
    refine rl_iload_n dX5_clear_78 rfl rfl ?_
    refine rl_iconst (v := nI 0) dX5_clear_79 (by decide) ?_
    obtain ⟨o_5, H⟩ := H
    obtain ⟨o_6, H⟩ := H
    refine rl_iast dX5_clear_80 o_5 o_6 ?_
    refine rl_iinc (v := x1 + nI 1) (L' := [some (.ref a0), some (.int (x1 + nI 1))]) dX5_clear_81 rfl (congrArg (fun z => x1 + z) (by decide)) (Nat.le_of_ble_eq_true rfl) rfl ?_
    refine rl_goto (tgt := 68) dX5_clear_84 (by decide) ?_
    exact H

theorem bX7_clear_0 {Q : Nat → Option Value → Hp → Prop} {h : Hp} {a0 : Nat} (H : Wm mX7_clear 1 0 0 Q 2 [some (.ref a0), some (.int (nI 0))] [] h 0 0) : Wm mX7_clear 1 0 0 Q 0 [some (.ref a0), none] [] h 0 0 := by
  refine rl_iconst (v := nI 0) dX7_clear_0 (by decide) ?_
  refine rl_istore_n (L' := [some (.ref a0), some (.int (nI 0))]) dX7_clear_1 rfl (Nat.le_of_ble_eq_true rfl) rfl ?_
  exact H

theorem bX7_clear_2 {Q : Nat → Option Value → Hp → Prop} {h : Hp} {a0 : Nat} {x1 : Int32} (H : hpK h a0 = 17 ∧ ∃ p_2 : Nat, hpP h a0 0 = some p_2 ∧ (hpK h p_2 = 35 ∧ (((nI (hpN h p_2)) ≤ x1 → Q 0 none h) ∧ (¬ (nI (hpN h p_2)) ≤ x1 → vp_in x1 (hpN h p_2) ∧ ∃ p_7 : Nat, hpP h p_2 (x1).toNatClampNeg = some p_7 ∧ (hpK h p_7 = 15 ∧ CKv mX5_clear 0 0 0 [some (.ref p_7), none] h (fun h' => Wm mX7_clear 1 0 0 Q 20 [some (.ref a0), some (.int x1)] [] h' 0 0)))))) : Wm mX7_clear 1 0 0 Q 2 [some (.ref a0), some (.int x1)] [] h 0 0 := by
  refine rl_iload_n dX7_clear_2 rfl rfl ?_
  refine rl_aload_n dX7_clear_3 rfl rfl ?_
  obtain ⟨o_1, H⟩ := H
  obtain ⟨p_2, e_3, H⟩ := H
  refine rl_getP (k := 0) cfX7 dX7_clear_4 flX7_9 (by decide) rfl o_1 e_3 ?_
  obtain ⟨o_4, H⟩ := H
  refine rl_alen (n := nI (hpN h p_2)) dX7_clear_7 (Or.inr (Or.inr ⟨5, _, rfl, o_4⟩)) rfl ?_
  refine rl_icmp_ge (tgt := 26) dX7_clear_8 (by decide) (fun c_5 => ?_) (fun c_5 => ?_)
  · have H := H.1 c_5
    exact rl_vret dX7_clear_26 rfl (Nat.le_refl 0) (Nat.le_refl 0) H
  · have H := H.2 c_5
    refine rl_aload_n dX7_clear_11 rfl rfl ?_
    refine rl_getP (k := 0) cfX7 dX7_clear_12 flX7_9 (by decide) rfl o_1 e_3 ?_
    refine rl_iload_n dX7_clear_15 rfl rfl ?_
    obtain ⟨o_6, H⟩ := H
    obtain ⟨p_7, e_8, H⟩ := H
    refine rl_aald (ci := 5) dX7_clear_16 rfl o_4 o_6 e_8 ?_
    obtain ⟨o_9, H⟩ := H
    exact rl_callV (As := []) (rest := []) mfX5_clear dX7_clear_17 lkX7_16 o_9 (by decide) (Nat.le_of_ble_eq_true rfl) (Nat.le_refl _) (Nat.le_refl _) rfl (Nat.le_of_ble_eq_true rfl) rfl rfl (fun Qc k => H Qc (fun h' w => k none h' w))

theorem bX7_clear_20 {Q : Nat → Option Value → Hp → Prop} {h : Hp} {a0 : Nat} {x1 : Int32} (H : Wm mX7_clear 1 0 0 Q 2 [some (.ref a0), some (.int (x1 + nI 1))] [] h 0 0) : Wm mX7_clear 1 0 0 Q 20 [some (.ref a0), some (.int x1)] [] h 0 0 := by
  refine rl_iinc (v := x1 + nI 1) (L' := [some (.ref a0), some (.int (x1 + nI 1))]) dX7_clear_20 rfl (congrArg (fun z => x1 + z) (by decide)) (Nat.le_of_ble_eq_true rfl) rfl ?_
  refine rl_goto (tgt := 2) dX7_clear_23 (by decide) ?_
  exact H

theorem bX6_beginAnew_0 {Q : Nat → Option Value → Hp → Prop} {h : Hp} {a0 : Nat} {x1 x2 x3 : Int32} (H : hpK h a0 = 16 ∧ Wm mX6_beginAnew 2 0 0 Q 33 [some (.ref a0), none, none, none, some (.int (nI 0))] [] (stI (stI (stI (stI (stI (stI h a0 1 x1) a0 2 x2) a0 3 x3) a0 4 (nI 0)) a0 5 (nI 0)) a0 6 (nI 0)) 0 0) : Wm mX6_beginAnew 2 0 0 Q 0 [some (.ref a0), some (.int x1), some (.int x2), some (.int x3), none] [] h 0 0 := by
  refine rl_aload_n dX6_beginAnew_0 rfl rfl ?_
  refine rl_iload_n dX6_beginAnew_1 rfl rfl ?_
  obtain ⟨o_1, H⟩ := H
  refine rl_putI (k := 1) cfX6 dX6_beginAnew_2 flX6_38 (by decide) rfl o_1 (Or.inl rfl) ?_
  refine rl_aload_n dX6_beginAnew_5 rfl rfl ?_
  refine rl_iload_n dX6_beginAnew_6 rfl rfl ?_
  refine rl_putI (k := 2) cfX6 dX6_beginAnew_7 flX6_41 (by decide) rfl o_1 (Or.inl rfl) ?_
  refine rl_aload_n dX6_beginAnew_10 rfl rfl ?_
  refine rl_iload_n dX6_beginAnew_11 rfl rfl ?_
  refine rl_putI (k := 3) cfX6 dX6_beginAnew_12 flX6_44 (by decide) rfl o_1 (Or.inl rfl) ?_
  refine rl_aload_n dX6_beginAnew_15 rfl rfl ?_
  refine rl_iconst (v := nI 0) dX6_beginAnew_16 (by decide) ?_
  refine rl_putI (k := 4) cfX6 dX6_beginAnew_17 flX6_47 (by decide) rfl o_1 (Or.inl rfl) ?_
  refine rl_aload_n dX6_beginAnew_20 rfl rfl ?_
  refine rl_iconst (v := nI 0) dX6_beginAnew_21 (by decide) ?_
  refine rl_putI (k := 5) cfX6 dX6_beginAnew_22 flX6_50 (by decide) rfl o_1 (Or.inl rfl) ?_
  refine rl_aload_n dX6_beginAnew_25 rfl rfl ?_
  refine rl_iconst (v := nI 0) dX6_beginAnew_26 (by decide) ?_
  refine rl_putI (k := 6) cfX6 dX6_beginAnew_27 flX6_53 (by decide) rfl o_1 (Or.inl rfl) ?_
  refine rl_iconst (v := nI 0) dX6_beginAnew_30 (by decide) ?_
  refine rl_istore (L' := [some (.ref a0), some (.int x1), some (.int x2), some (.int x3), some (.int (nI 0))]) dX6_beginAnew_31 (Nat.le_of_ble_eq_true rfl) rfl ?_
  refine rl_wk (L' := [some (.ref a0), none, none, none, some (.int (nI 0))]) ⟨rfl, ⟨rfl, trivial⟩⟩ ?_
  exact H

theorem bX6_beginAnew_33 {Q : Nat → Option Value → Hp → Prop} {h : Hp} {a0 : Nat} {x4 : Int32} (H : hpK h a0 = 16 ∧ (((hpI h a0 0) ≤ x4 → Q 0 none h) ∧ (¬ (hpI h a0 0) ≤ x4 → (∃ p_3 : Nat, hpP h a0 7 = some p_3 ∧ (hpK h p_3 = 37 ∧ vp_in x4 (hpN h p_3) ∧ ∃ p_7 : Nat, hpP h p_3 (x4).toNatClampNeg = some p_7 ∧ (hpK h p_7 = 17 ∧ CKv mX7_clear 1 0 0 [some (.ref p_7), none] h (fun h' => Wm mX6_beginAnew 2 0 0 Q 52 [some (.ref a0), none, none, none, some (.int x4)] [] h' 0 0))))))) : Wm mX6_beginAnew 2 0 0 Q 33 [some (.ref a0), none, none, none, some (.int x4)] [] h 0 0 := by
  refine rl_iload dX6_beginAnew_33 rfl ?_
  refine rl_aload_n dX6_beginAnew_35 rfl rfl ?_
  obtain ⟨o_1, H⟩ := H
  refine rl_getI (k := 0) cfX6 dX6_beginAnew_36 flX6_23 (by decide) rfl o_1 ?_
  refine rl_icmp_ge (tgt := 58) dX6_beginAnew_39 (by decide) (fun c_2 => ?_) (fun c_2 => ?_)
  · have H := H.1 c_2
    exact rl_vret dX6_beginAnew_58 rfl (Nat.le_refl 0) (Nat.le_refl 0) H
  · have H := H.2 c_2
    refine rl_aload_n dX6_beginAnew_42 rfl rfl ?_
    obtain ⟨p_3, e_4, H⟩ := H
    refine rl_getP (k := 7) cfX6 dX6_beginAnew_43 flX6_29 (by decide) rfl o_1 e_4 ?_
    refine rl_iload dX6_beginAnew_46 rfl ?_
    obtain ⟨o_5, H⟩ := H
    obtain ⟨o_6, H⟩ := H
    obtain ⟨p_7, e_8, H⟩ := H
    refine rl_aald (ci := 7) dX6_beginAnew_48 rfl o_5 o_6 e_8 ?_
    obtain ⟨o_9, H⟩ := H
    exact rl_callV (As := []) (rest := []) mfX7_clear dX6_beginAnew_49 lkX6_56 o_9 (by decide) (Nat.le_of_ble_eq_true rfl) (Nat.le_refl _) (Nat.le_refl _) rfl (Nat.le_of_ble_eq_true rfl) rfl rfl (fun Qc k => H Qc (fun h' w => k none h' w))

theorem bX6_beginAnew_52 {Q : Nat → Option Value → Hp → Prop} {h : Hp} {a0 : Nat} {x4 : Int32} (H : Wm mX6_beginAnew 2 0 0 Q 33 [some (.ref a0), none, none, none, some (.int (x4 + nI 1))] [] h 0 0) : Wm mX6_beginAnew 2 0 0 Q 52 [some (.ref a0), none, none, none, some (.int x4)] [] h 0 0 := by
  refine rl_iinc (v := x4 + nI 1) (L' := [some (.ref a0), none, none, none, some (.int (x4 + nI 1))]) dX6_beginAnew_52 rfl (congrArg (fun z => x4 + z) (by decide)) (Nat.le_of_ble_eq_true rfl) rfl ?_
  refine rl_goto (tgt := 33) dX6_beginAnew_55 (by decide) ?_
  exact H

