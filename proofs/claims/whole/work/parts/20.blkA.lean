theorem bX8_init_0 {Q : Nat → Option Value → Hp → Prop} {h : Hp} {mc ms nc ns : Nat} {a0 tg_6 : Nat} {x1 : Int32} (H : nc ≤ mc ∧ ns ≤ ms ∧ hpK h a0 = 18 ∧ nc + 1 ≤ mc ∧ ns + 10 ≤ ms ∧ Wm mX8_init 6 mc ms Q 21 [some (.ref a0), none] [.ref (hpZ (stI h a0 0 (if (nI 2) < (if x1 < (nI 5) then x1 else (nI 5)) then (if x1 < (nI 5) then x1 else (nI 5)) else (nI 2)))), .ref a0] (stN (stI h a0 0 (if (nI 2) < (if x1 < (nI 5) then x1 else (nI 5)) then (if x1 < (nI 5) then x1 else (nI 5)) else (nI 2))) 16 0 tg_6) (nc + 1) (ns + 10)) : Wm mX8_init 6 mc ms Q 0 [some (.ref a0), some (.int x1)] [] h nc ns := by
  refine rl_aload_n dX8_init_0 rfl rfl ?_
  refine rl_obj dX8_init_1 lkX8_3 oi1 oi2 (by decide) (Nat.le_of_ble_eq_true rfl) ?_
  refine rl_aload_n dX8_init_4 rfl rfl ?_
  refine rl_iconst (v := nI 2) dX8_init_5 (by decide) ?_
  refine rl_iconst (v := nI 5) dX8_init_6 (by decide) ?_
  refine rl_iload_n dX8_init_7 rfl rfl ?_
  obtain ⟨o_1, H⟩ := H
  obtain ⟨o_2, H⟩ := H
  refine rl_min dX8_init_8 lkX8_9 min1 inMath min2 (by decide) (Nat.le_of_ble_eq_true rfl) o_1 o_2 ?_
  refine rl_max dX8_init_11 lkX8_15 max1 inMath max2 (by decide) (Nat.le_of_ble_eq_true rfl) o_1 o_2 ?_
  obtain ⟨o_3, H⟩ := H
  refine rl_putI (k := 0) cfX8 dX8_init_14 flX8_18 (by decide) rfl o_3 (Or.inr ⟨rfl, rfl⟩) ?_
  refine rl_aload_n dX8_init_17 rfl rfl ?_
  obtain ⟨o_4, H⟩ := H
  obtain ⟨o_5, H⟩ := H
  refine rl_new tg_6 cfX6 cgX6 dX8_init_18 clX8_22 o_4 o_5 ?_
  refine rl_wk (L' := [some (.ref a0), none]) ⟨rfl, trivial⟩ ?_
  exact H
theorem bX8_init_21 {Q : Nat → Option Value → Hp → Prop} {h : Hp} {mc ms nc ns : Nat} {a0 as0 as1 mcn msn : Nat} (H : hpK h a0 = 18 ∧ nc + mcn ≤ mc ∧ ns + msn ≤ ms ∧ CKv mX6_init 4 mcn msn [some (.ref as1), some (.int (hpI h a0 0)), none] h (fun h' => Wm mX8_init 6 mc ms Q 29 [some (.ref a0), none] [.ref as1, .ref as0] h' (nc + mcn) (ns + msn))) : Wm mX8_init 6 mc ms Q 21 [some (.ref a0), none] [.ref as1, .ref as0] h nc ns := by
  refine rl_dup dX8_init_21 rfl ?_
  refine rl_aload_n dX8_init_22 rfl rfl ?_
  obtain ⟨o_1, H⟩ := H
  refine rl_getI (k := 0) cfX8 dX8_init_23 flX8_18 (by decide) rfl o_1 ?_
  obtain ⟨o_2, H⟩ := H
  obtain ⟨o_3, H⟩ := H
  exact rl_callI (As := [.int (hpI h a0 0)]) (rest := [.ref as1, .ref as0]) mfX6_init dX8_init_26 lkX8_24 (by decide) (Nat.le_of_ble_eq_true rfl) o_2 o_3 rfl (Nat.le_of_ble_eq_true rfl) rfl rfl (fun Qc k => H Qc (fun h' w => k none h' w))
theorem bX8_init_29 {Q : Nat → Option Value → Hp → Prop} {h : Hp} {mc ms nc ns : Nat} {a0 as0 as1 tg_4 : Nat} (H : hpK h as0 = 18 ∧ nc + 1 ≤ mc ∧ ns + 3 ≤ ms ∧ Wm mX8_init 6 mc ms Q 36 [some (.ref a0), none] [.ref (hpZ (stP h as0 1 (some as1))), .ref a0] (stN (stP h as0 1 (some as1)) 11 0 tg_4) (nc + 1) (ns + 3)) : Wm mX8_init 6 mc ms Q 29 [some (.ref a0), none] [.ref as1, .ref as0] h nc ns := by
  obtain ⟨o_1, H⟩ := H
  refine rl_putP (k := 1) cfX8 dX8_init_29 flX8_27 (by decide) rfl o_1 (Or.inr ⟨rfl, rfl⟩) rfl rfl ?_
  refine rl_aload_n dX8_init_32 rfl rfl ?_
  obtain ⟨o_2, H⟩ := H
  obtain ⟨o_3, H⟩ := H
  refine rl_new tg_4 cfX1 cgX1 dX8_init_33 clX8_31 o_2 o_3 ?_
  exact H
theorem bX8_init_36 {Q : Nat → Option Value → Hp → Prop} {h : Hp} {mc ms nc ns : Nat} {a0 as0 as1 mcn msn : Nat} (H : hpK h a0 = 18 ∧ nc + mcn ≤ mc ∧ ns + msn ≤ ms ∧ CKv mX1_init 5 mcn msn [some (.ref as1), some (.int (hpI h a0 0)), none] h (fun h' => Wm mX8_init 6 mc ms Q 44 [some (.ref a0), none] [.ref as1, .ref as0] h' (nc + mcn) (ns + msn))) : Wm mX8_init 6 mc ms Q 36 [some (.ref a0), none] [.ref as1, .ref as0] h nc ns := by
  refine rl_dup dX8_init_36 rfl ?_
  refine rl_aload_n dX8_init_37 rfl rfl ?_
  obtain ⟨o_1, H⟩ := H
  refine rl_getI (k := 0) cfX8 dX8_init_38 flX8_18 (by decide) rfl o_1 ?_
  obtain ⟨o_2, H⟩ := H
  obtain ⟨o_3, H⟩ := H
  exact rl_callI (As := [.int (hpI h a0 0)]) (rest := [.ref as1, .ref as0]) mfX1_init dX8_init_41 lkX8_33 (by decide) (Nat.le_of_ble_eq_true rfl) o_2 o_3 rfl (Nat.le_of_ble_eq_true rfl) rfl rfl (fun Qc k => H Qc (fun h' w => k none h' w))
theorem bX8_init_44 {Q : Nat → Option Value → Hp → Prop} {h : Hp} {mc ms nc ns : Nat} {a0 as0 as1 tg_4 : Nat} (H : hpK h as0 = 18 ∧ nc + 1 ≤ mc ∧ ns + 5 ≤ ms ∧ Wm mX8_init 6 mc ms Q 51 [some (.ref a0), none] [.ref (hpZ (stP h as0 2 (some as1))), .ref a0] (stN (stP h as0 2 (some as1)) 14 0 tg_4) (nc + 1) (ns + 5)) : Wm mX8_init 6 mc ms Q 44 [some (.ref a0), none] [.ref as1, .ref as0] h nc ns := by
  obtain ⟨o_1, H⟩ := H
  refine rl_putP (k := 2) cfX8 dX8_init_44 flX8_34 (by decide) rfl o_1 (Or.inr ⟨rfl, rfl⟩) rfl rfl ?_
  refine rl_aload_n dX8_init_47 rfl rfl ?_
  obtain ⟨o_2, H⟩ := H
  obtain ⟨o_3, H⟩ := H
  refine rl_new tg_4 cfX4 cgX4 dX8_init_48 clX8_38 o_2 o_3 ?_
  exact H
theorem bX8_init_51 {Q : Nat → Option Value → Hp → Prop} {h : Hp} {mc ms nc ns : Nat} {a0 as0 as1 mcn msn : Nat} (H : nc + mcn ≤ mc ∧ ns + msn ≤ ms ∧ CKv mX4_init 2 mcn msn [some (.ref as1), none] h (fun h' => Wm mX8_init 6 mc ms Q 55 [some (.ref a0), none] [.ref as1, .ref as0] h' (nc + mcn) (ns + msn))) : Wm mX8_init 6 mc ms Q 51 [some (.ref a0), none] [.ref as1, .ref as0] h nc ns := by
  refine rl_dup dX8_init_51 rfl ?_
  obtain ⟨o_1, H⟩ := H
  obtain ⟨o_2, H⟩ := H
  exact rl_callI (As := []) (rest := [.ref as1, .ref as0]) mfX4_init dX8_init_52 lkX8_40 (by decide) (Nat.le_of_ble_eq_true rfl) o_1 o_2 rfl (Nat.le_of_ble_eq_true rfl) rfl rfl (fun Qc k => H Qc (fun h' w => k none h' w))
theorem bX8_init_55 {Q : Nat → Option Value → Hp → Prop} {h : Hp} {mc ms nc ns : Nat} {a0 as0 as1 : Nat} (H : hpK h as0 = 18 ∧ hpK h a0 = 18 ∧ ∃ p_3 : Nat, hpP (stP h as0 3 (some as1)) a0 1 = some p_3 ∧ (nc + 0 ≤ mc ∧ ns + 0 ≤ ms ∧ hpK h p_3 = 16 ∧ CKv mX6_beginAnew 2 0 0 [some (.ref p_3), some (.int (nI 0)), some (.int (nI 100)), some (.int (nI 50)), none] (stP h as0 3 (some as1)) (fun h' => Wm mX8_init 6 mc ms Q 70 [none, none] [] h' nc ns))) : Wm mX8_init 6 mc ms Q 55 [some (.ref a0), none] [.ref as1, .ref as0] h nc ns := by
  obtain ⟨o_1, H⟩ := H
  refine rl_putP (k := 3) cfX8 dX8_init_55 flX8_41 (by decide) rfl o_1 (Or.inr ⟨rfl, rfl⟩) rfl rfl ?_
  refine rl_aload_n dX8_init_58 rfl rfl ?_
  obtain ⟨o_2, H⟩ := H
  obtain ⟨p_3, e_4, H⟩ := H
  refine rl_getP (k := 1) cfX8 dX8_init_59 flX8_27 (by decide) rfl o_2 e_4 ?_
  refine rl_iconst (v := nI 0) dX8_init_62 (by decide) ?_
  refine rl_bipush (v := nI 100) dX8_init_63 (by decide) ?_
  refine rl_bipush (v := nI 50) dX8_init_65 (by decide) ?_
  obtain ⟨o_5, H⟩ := H
  obtain ⟨o_6, H⟩ := H
  obtain ⟨o_7, H⟩ := H
  exact rl_callV (As := [.int (nI 0), .int (nI 100), .int (nI 50)]) (rest := []) mfX6_beginAnew dX8_init_67 lkX8_45 o_7 (by decide) (Nat.le_of_ble_eq_true rfl) o_5 o_6 rfl (Nat.le_of_ble_eq_true rfl) rfl rfl (fun Qc k => H Qc (fun h' w => k none h' (rl_wk (L' := [none, none]) trivial w)))
theorem bX8_init_70 {Q : Nat → Option Value → Hp → Prop} {h : Hp} {mc ms nc ns : Nat}  (H : nc ≤ mc ∧ ns ≤ ms ∧ Q 0 none h) : Wm mX8_init 6 mc ms Q 70 [none, none] [] h nc ns := by
  obtain ⟨o_1, H⟩ := H
  obtain ⟨o_2, H⟩ := H
  exact rl_vret dX8_init_70 rfl o_1 o_2 H
theorem bX6_init_0 {Q : Nat → Option Value → Hp → Prop} {h : Hp} {mc ms nc ns : Nat} {a0 tg_5 : Nat} {x1 : Int32} (H : ¬ (nI 10) < 0 ∧ (nI 10).toNatClampNeg ≤ 100000 ∧ nc + 1 ≤ mc ∧ ns + (nI 10).toNatClampNeg ≤ ms ∧ Wm mX6_init 4 mc ms Q 10 [some (.ref a0), some (.int x1), none] [.ref (hpZ h), .ref a0] (stN h 32 (nI 10).toNatClampNeg tg_5) (nc + 1) (ns + (nI 10).toNatClampNeg)) : Wm mX6_init 4 mc ms Q 0 [some (.ref a0), some (.int x1), none] [] h nc ns := by
  refine rl_aload_n dX6_init_0 rfl rfl ?_
  refine rl_obj dX6_init_1 lkX6_3 oi1 oi2 (by decide) (Nat.le_of_ble_eq_true rfl) ?_
  refine rl_aload_n dX6_init_4 rfl rfl ?_
  refine rl_bipush (v := nI 10) dX6_init_5 (by decide) ?_
  obtain ⟨o_1, H⟩ := H
  obtain ⟨o_2, H⟩ := H
  obtain ⟨o_3, H⟩ := H
  obtain ⟨o_4, H⟩ := H
  refine rl_newP (ci := 2) tg_5 dX6_init_7 rfl clX6_9 (by decide) o_1 rfl o_2 o_3 o_4 ?_
  exact H
theorem bX6_init_10 {Q : Nat → Option Value → Hp → Prop} {h : Hp} {mc ms nc ns : Nat} {a0 as0 as1 tg_6 : Nat} {x1 : Int32} (H : hpK h as0 = 16 ∧ ¬ (nI 8) < 0 ∧ (nI 8).toNatClampNeg ≤ 100000 ∧ nc + 1 ≤ mc ∧ ns + (nI 8).toNatClampNeg ≤ ms ∧ Wm mX6_init 4 mc ms Q 19 [some (.ref a0), some (.int x1), none] [.ref (hpZ (stP h as0 8 (some as1))), .ref a0] (stN (stP h as0 8 (some as1)) 33 (nI 8).toNatClampNeg tg_6) (nc + 1) (ns + (nI 8).toNatClampNeg)) : Wm mX6_init 4 mc ms Q 10 [some (.ref a0), some (.int x1), none] [.ref as1, .ref as0] h nc ns := by
  obtain ⟨o_1, H⟩ := H
  refine rl_putP (k := 8) cfX6 dX6_init_10 flX6_11 (by decide) rfl o_1 (Or.inr ⟨rfl, rfl⟩) rfl rfl ?_
  refine rl_aload_n dX6_init_13 rfl rfl ?_
  refine rl_bipush (v := nI 8) dX6_init_14 (by decide) ?_
  obtain ⟨o_2, H⟩ := H
  obtain ⟨o_3, H⟩ := H
  obtain ⟨o_4, H⟩ := H
  obtain ⟨o_5, H⟩ := H
  refine rl_newP (ci := 3) tg_6 dX6_init_16 rfl clX6_17 (by decide) o_2 rfl o_3 o_4 o_5 ?_
  exact H
theorem bX6_init_19 {Q : Nat → Option Value → Hp → Prop} {h : Hp} {mc ms nc ns : Nat} {a0 as0 as1 tg_7 : Nat} {x1 : Int32} (H : hpK h as0 = 16 ∧ hpK h a0 = 16 ∧ ¬ x1 < 0 ∧ (x1).toNatClampNeg ≤ 100000 ∧ nc + 1 ≤ mc ∧ ns + (x1).toNatClampNeg ≤ ms ∧ Wm mX6_init 4 mc ms Q 32 [some (.ref a0), some (.int x1), none] [.ref (hpZ (stI (stP h as0 9 (some as1)) a0 0 x1)), .ref a0] (stN (stI (stP h as0 9 (some as1)) a0 0 x1) 37 (x1).toNatClampNeg tg_7) (nc + 1) (ns + (x1).toNatClampNeg)) : Wm mX6_init 4 mc ms Q 19 [some (.ref a0), some (.int x1), none] [.ref as1, .ref as0] h nc ns := by
  obtain ⟨o_1, H⟩ := H
  refine rl_putP (k := 9) cfX6 dX6_init_19 flX6_19 (by decide) rfl o_1 (Or.inr ⟨rfl, rfl⟩) rfl rfl ?_
  refine rl_aload_n dX6_init_22 rfl rfl ?_
  refine rl_iload_n dX6_init_23 rfl rfl ?_
  obtain ⟨o_2, H⟩ := H
  refine rl_putI (k := 0) cfX6 dX6_init_24 flX6_23 (by decide) rfl o_2 (Or.inr ⟨rfl, rfl⟩) ?_
  refine rl_aload_n dX6_init_27 rfl rfl ?_
  refine rl_iload_n dX6_init_28 rfl rfl ?_
  obtain ⟨o_3, H⟩ := H
  obtain ⟨o_4, H⟩ := H
  obtain ⟨o_5, H⟩ := H
  obtain ⟨o_6, H⟩ := H
  refine rl_newP (ci := 7) tg_7 dX6_init_29 rfl clX6_27 (by decide) o_3 rfl o_4 o_5 o_6 ?_
  exact H
theorem bX6_init_32 {Q : Nat → Option Value → Hp → Prop} {h : Hp} {mc ms nc ns : Nat} {a0 as0 as1 : Nat} {x1 : Int32} (H : hpK h as0 = 16 ∧ Wm mX6_init 4 mc ms Q 37 [some (.ref a0), some (.int x1), some (.int (nI 0))] [] (stP h as0 7 (some as1)) nc ns) : Wm mX6_init 4 mc ms Q 32 [some (.ref a0), some (.int x1), none] [.ref as1, .ref as0] h nc ns := by
  obtain ⟨o_1, H⟩ := H
  refine rl_putP (k := 7) cfX6 dX6_init_32 flX6_29 (by decide) rfl o_1 (Or.inr ⟨rfl, rfl⟩) rfl rfl ?_
  refine rl_iconst (v := nI 0) dX6_init_35 (by decide) ?_
  refine rl_istore_n (L' := [some (.ref a0), some (.int x1), some (.int (nI 0))]) dX6_init_36 rfl (Nat.le_of_ble_eq_true rfl) rfl ?_
  exact H
theorem bX6_init_37 {Q : Nat → Option Value → Hp → Prop} {h : Hp} {mc ms nc ns : Nat} {a0 tg_7 : Nat} {x1 x2 : Int32} (H : ((x1 ≤ x2 → Wm mX6_init 4 mc ms Q 64 [some (.ref a0), some (.int x1), some (.int (nI 0))] [] h nc ns) ∧ (¬ x1 ≤ x2 → hpK h a0 = 16 ∧ ∃ p_3 : Nat, hpP h a0 7 = some p_3 ∧ (nc + 1 ≤ mc ∧ ns + 1 ≤ ms ∧ Wm mX6_init 4 mc ms Q 50 [some (.ref a0), some (.int x1), some (.int x2)] [.ref (hpZ h), .int x2, .ref p_3] (stN h 17 0 tg_7) (nc + 1) (ns + 1))))) : Wm mX6_init 4 mc ms Q 37 [some (.ref a0), some (.int x1), some (.int x2)] [] h nc ns := by
  refine rl_iload_n dX6_init_37 rfl rfl ?_
  refine rl_iload_n dX6_init_38 rfl rfl ?_
  refine rl_icmp_ge (tgt := 62) dX6_init_39 (by decide) (fun c_1 => ?_) (fun c_1 => ?_)
  · have H := H.1 c_1
    refine rl_iconst (v := nI 0) dX6_init_62 (by decide) ?_
    refine rl_istore_n (L' := [some (.ref a0), some (.int x1), some (.int (nI 0))]) dX6_init_63 rfl (Nat.le_of_ble_eq_true rfl) rfl ?_
    exact H
  · have H := H.2 c_1
    refine rl_aload_n dX6_init_42 rfl rfl ?_
    obtain ⟨o_2, H⟩ := H
    obtain ⟨p_3, e_4, H⟩ := H
    refine rl_getP (k := 7) cfX6 dX6_init_43 flX6_29 (by decide) rfl o_2 e_4 ?_
    refine rl_iload_n dX6_init_46 rfl rfl ?_
    obtain ⟨o_5, H⟩ := H
    obtain ⟨o_6, H⟩ := H
    refine rl_new tg_7 cfX7 cgX7 dX6_init_47 clX6_27 o_5 o_6 ?_
    exact H
theorem bX6_init_50 {Q : Nat → Option Value → Hp → Prop} {h : Hp} {mc ms nc ns : Nat} {a0 as0 as2 mcn msn : Nat} {x1 x2 xs1 : Int32} (H : nc + mcn ≤ mc ∧ ns + msn ≤ ms ∧ CKv mX7_init 2 mcn msn [some (.ref as2), some (.int x1), none] h (fun h' => Wm mX6_init 4 mc ms Q 55 [some (.ref a0), some (.int x1), some (.int x2)] [.ref as2, .int xs1, .ref as0] h' (nc + mcn) (ns + msn))) : Wm mX6_init 4 mc ms Q 50 [some (.ref a0), some (.int x1), some (.int x2)] [.ref as2, .int xs1, .ref as0] h nc ns := by
  refine rl_dup dX6_init_50 rfl ?_
  refine rl_iload_n dX6_init_51 rfl rfl ?_
  obtain ⟨o_1, H⟩ := H
  obtain ⟨o_2, H⟩ := H
  exact rl_callI (As := [.int x1]) (rest := [.ref as2, .int xs1, .ref as0]) mfX7_init dX6_init_52 lkX6_33 (by decide) (Nat.le_of_ble_eq_true rfl) o_1 o_2 rfl (Nat.le_of_ble_eq_true rfl) rfl rfl (fun Qc k => H Qc (fun h' w => k none h' w))
theorem bX6_init_55 {Q : Nat → Option Value → Hp → Prop} {h : Hp} {mc ms nc ns : Nat} {a0 as0 as2 : Nat} {x1 x2 xs1 : Int32} (H : hpK h as0 = 37 ∧ vp_in xs1 (hpN h as0) ∧ hpK h as2 = 17 ∧ Wm mX6_init 4 mc ms Q 37 [some (.ref a0), some (.int x1), some (.int (x2 + nI 1))] [] (stP h as0 (xs1).toNatClampNeg (some as2)) nc ns) : Wm mX6_init 4 mc ms Q 55 [some (.ref a0), some (.int x1), some (.int x2)] [.ref as2, .int xs1, .ref as0] h nc ns := by
  obtain ⟨o_1, H⟩ := H
  obtain ⟨o_2, H⟩ := H
  obtain ⟨o_3, H⟩ := H
  refine rl_aast (ci := 7) dX6_init_55 rfl o_1 o_2 o_3 ?_
  refine rl_iinc (v := x2 + nI 1) (L' := [some (.ref a0), some (.int x1), some (.int (x2 + nI 1))]) dX6_init_56 rfl (congrArg (fun z => x2 + z) (by decide)) (Nat.le_of_ble_eq_true rfl) rfl ?_
  refine rl_goto (tgt := 37) dX6_init_59 (by decide) ?_
  exact H
theorem bX6_init_64 {Q : Nat → Option Value → Hp → Prop} {h : Hp} {mc ms nc ns : Nat} {a0 tg_7 : Nat} {x1 x2 : Int32} (H : (((nI 10) ≤ x2 → Wm mX6_init 4 mc ms Q 91 [some (.ref a0), some (.int x1), some (.int (nI 0))] [] h nc ns) ∧ (¬ (nI 10) ≤ x2 → hpK h a0 = 16 ∧ ∃ p_3 : Nat, hpP h a0 8 = some p_3 ∧ (nc + 1 ≤ mc ∧ ns + 5 ≤ ms ∧ Wm mX6_init 4 mc ms Q 78 [some (.ref a0), some (.int x1), some (.int x2)] [.ref (hpZ h), .int x2, .ref p_3] (stN h 12 0 tg_7) (nc + 1) (ns + 5))))) : Wm mX6_init 4 mc ms Q 64 [some (.ref a0), some (.int x1), some (.int x2)] [] h nc ns := by
  refine rl_iload_n dX6_init_64 rfl rfl ?_
  refine rl_bipush (v := nI 10) dX6_init_65 (by decide) ?_
  refine rl_icmp_ge (tgt := 89) dX6_init_67 (by decide) (fun c_1 => ?_) (fun c_1 => ?_)
  · have H := H.1 c_1
    refine rl_iconst (v := nI 0) dX6_init_89 (by decide) ?_
    refine rl_istore_n (L' := [some (.ref a0), some (.int x1), some (.int (nI 0))]) dX6_init_90 rfl (Nat.le_of_ble_eq_true rfl) rfl ?_
    exact H
  · have H := H.2 c_1
    refine rl_aload_n dX6_init_70 rfl rfl ?_
    obtain ⟨o_2, H⟩ := H
    obtain ⟨p_3, e_4, H⟩ := H
    refine rl_getP (k := 8) cfX6 dX6_init_71 flX6_11 (by decide) rfl o_2 e_4 ?_
    refine rl_iload_n dX6_init_74 rfl rfl ?_
    obtain ⟨o_5, H⟩ := H
    obtain ⟨o_6, H⟩ := H
    refine rl_new tg_7 cfX2 cgX2 dX6_init_75 clX6_9 o_5 o_6 ?_
    exact H
theorem bX6_init_78 {Q : Nat → Option Value → Hp → Prop} {h : Hp} {mc ms nc ns : Nat} {a0 as0 as2 : Nat} {x1 x2 xs1 : Int32} (H : nc + 0 ≤ mc ∧ ns + 0 ≤ ms ∧ CKv mX2_init 1 0 0 [some (.ref as2)] h (fun h' => Wm mX6_init 4 mc ms Q 82 [some (.ref a0), some (.int x1), some (.int x2)] [.ref as2, .int xs1, .ref as0] h' nc ns)) : Wm mX6_init 4 mc ms Q 78 [some (.ref a0), some (.int x1), some (.int x2)] [.ref as2, .int xs1, .ref as0] h nc ns := by
  refine rl_dup dX6_init_78 rfl ?_
  obtain ⟨o_1, H⟩ := H
  obtain ⟨o_2, H⟩ := H
  exact rl_callN (As := []) (rest := [.ref as2, .int xs1, .ref as0]) mfX2_init dX6_init_79 (by decide) (by decide) (Nat.le_of_ble_eq_true rfl) o_1 o_2 rfl (Nat.le_of_ble_eq_true rfl) rfl rfl (fun Qc k => H Qc (fun h' w => k none h' w))
theorem bX6_init_82 {Q : Nat → Option Value → Hp → Prop} {h : Hp} {mc ms nc ns : Nat} {a0 as0 as2 : Nat} {x1 x2 xs1 : Int32} (H : hpK h as0 = 32 ∧ vp_in xs1 (hpN h as0) ∧ hpK h as2 = 12 ∧ Wm mX6_init 4 mc ms Q 64 [some (.ref a0), some (.int x1), some (.int (x2 + nI 1))] [] (stP h as0 (xs1).toNatClampNeg (some as2)) nc ns) : Wm mX6_init 4 mc ms Q 82 [some (.ref a0), some (.int x1), some (.int x2)] [.ref as2, .int xs1, .ref as0] h nc ns := by
  obtain ⟨o_1, H⟩ := H
  obtain ⟨o_2, H⟩ := H
  obtain ⟨o_3, H⟩ := H
  refine rl_aast (ci := 2) dX6_init_82 rfl o_1 o_2 o_3 ?_
  refine rl_iinc (v := x2 + nI 1) (L' := [some (.ref a0), some (.int x1), some (.int (x2 + nI 1))]) dX6_init_83 rfl (congrArg (fun z => x2 + z) (by decide)) (Nat.le_of_ble_eq_true rfl) rfl ?_
  refine rl_goto (tgt := 64) dX6_init_86 (by decide) ?_
  exact H
theorem bX6_init_91 {Q : Nat → Option Value → Hp → Prop} {h : Hp} {mc ms nc ns : Nat} {a0 tg_9 : Nat} {x1 x2 : Int32} (H : (((nI 8) ≤ x2 → nc ≤ mc ∧ ns ≤ ms ∧ Q 0 none h) ∧ (¬ (nI 8) ≤ x2 → hpK h a0 = 16 ∧ ∃ p_5 : Nat, hpP h a0 9 = some p_5 ∧ (nc + 1 ≤ mc ∧ ns + 4 ≤ ms ∧ Wm mX6_init 4 mc ms Q 105 [some (.ref a0), some (.int x1), some (.int x2)] [.ref (hpZ h), .int x2, .ref p_5] (stN h 13 0 tg_9) (nc + 1) (ns + 4))))) : Wm mX6_init 4 mc ms Q 91 [some (.ref a0), some (.int x1), some (.int x2)] [] h nc ns := by
  refine rl_iload_n dX6_init_91 rfl rfl ?_
  refine rl_bipush (v := nI 8) dX6_init_92 (by decide) ?_
  refine rl_icmp_ge (tgt := 117) dX6_init_94 (by decide) (fun c_1 => ?_) (fun c_1 => ?_)
  · have H := H.1 c_1
    obtain ⟨o_2, H⟩ := H
    obtain ⟨o_3, H⟩ := H
    exact rl_vret dX6_init_117 rfl o_2 o_3 H
  · have H := H.2 c_1
    refine rl_aload_n dX6_init_97 rfl rfl ?_
    obtain ⟨o_4, H⟩ := H
    obtain ⟨p_5, e_6, H⟩ := H
    refine rl_getP (k := 9) cfX6 dX6_init_98 flX6_19 (by decide) rfl o_4 e_6 ?_
    refine rl_iload_n dX6_init_101 rfl rfl ?_
    obtain ⟨o_7, H⟩ := H
    obtain ⟨o_8, H⟩ := H
    refine rl_new tg_9 cfX3 cgX3 dX6_init_102 clX6_17 o_7 o_8 ?_
    exact H
theorem bX6_init_105 {Q : Nat → Option Value → Hp → Prop} {h : Hp} {mc ms nc ns : Nat} {a0 as0 as2 mcn msn : Nat} {x1 x2 xs1 : Int32} (H : nc + mcn ≤ mc ∧ ns + msn ≤ ms ∧ CKv mX3_init 3 mcn msn [some (.ref as2), some (.int x1)] h (fun h' => Wm mX6_init 4 mc ms Q 110 [some (.ref a0), some (.int x1), some (.int x2)] [.ref as2, .int xs1, .ref as0] h' (nc + mcn) (ns + msn))) : Wm mX6_init 4 mc ms Q 105 [some (.ref a0), some (.int x1), some (.int x2)] [.ref as2, .int xs1, .ref as0] h nc ns := by
  refine rl_dup dX6_init_105 rfl ?_
  refine rl_iload_n dX6_init_106 rfl rfl ?_
  obtain ⟨o_1, H⟩ := H
  obtain ⟨o_2, H⟩ := H
  exact rl_callI (As := [.int x1]) (rest := [.ref as2, .int xs1, .ref as0]) mfX3_init dX6_init_107 lkX6_37 (by decide) (Nat.le_of_ble_eq_true rfl) o_1 o_2 rfl (Nat.le_of_ble_eq_true rfl) rfl rfl (fun Qc k => H Qc (fun h' w => k none h' w))
theorem bX6_init_110 {Q : Nat → Option Value → Hp → Prop} {h : Hp} {mc ms nc ns : Nat} {a0 as0 as2 : Nat} {x1 x2 xs1 : Int32} (H : hpK h as0 = 33 ∧ vp_in xs1 (hpN h as0) ∧ hpK h as2 = 13 ∧ Wm mX6_init 4 mc ms Q 91 [some (.ref a0), some (.int x1), some (.int (x2 + nI 1))] [] (stP h as0 (xs1).toNatClampNeg (some as2)) nc ns) : Wm mX6_init 4 mc ms Q 110 [some (.ref a0), some (.int x1), some (.int x2)] [.ref as2, .int xs1, .ref as0] h nc ns := by
  obtain ⟨o_1, H⟩ := H
  obtain ⟨o_2, H⟩ := H
  obtain ⟨o_3, H⟩ := H
  refine rl_aast (ci := 3) dX6_init_110 rfl o_1 o_2 o_3 ?_
  refine rl_iinc (v := x2 + nI 1) (L' := [some (.ref a0), some (.int x1), some (.int (x2 + nI 1))]) dX6_init_111 rfl (congrArg (fun z => x2 + z) (by decide)) (Nat.le_of_ble_eq_true rfl) rfl ?_
  refine rl_goto (tgt := 91) dX6_init_114 (by decide) ?_
  exact H
theorem bX7_init_0 {Q : Nat → Option Value → Hp → Prop} {h : Hp} {mc ms nc ns : Nat} {a0 tg_5 : Nat} {x1 : Int32} (H : ¬ x1 < 0 ∧ (x1).toNatClampNeg ≤ 100000 ∧ nc + 1 ≤ mc ∧ ns + (x1).toNatClampNeg ≤ ms ∧ Wm mX7_init 2 mc ms Q 9 [some (.ref a0), some (.int x1), none] [.ref (hpZ h), .ref a0] (stN h 35 (x1).toNatClampNeg tg_5) (nc + 1) (ns + (x1).toNatClampNeg)) : Wm mX7_init 2 mc ms Q 0 [some (.ref a0), some (.int x1), none] [] h nc ns := by
  refine rl_aload_n dX7_init_0 rfl rfl ?_
  refine rl_obj dX7_init_1 lkX7_1 oi1 oi2 (by decide) (Nat.le_of_ble_eq_true rfl) ?_
  refine rl_aload_n dX7_init_4 rfl rfl ?_
  refine rl_iload_n dX7_init_5 rfl rfl ?_
  obtain ⟨o_1, H⟩ := H
  obtain ⟨o_2, H⟩ := H
  obtain ⟨o_3, H⟩ := H
  obtain ⟨o_4, H⟩ := H
  refine rl_newP (ci := 5) tg_5 dX7_init_6 rfl clX7_7 (by decide) o_1 rfl o_2 o_3 o_4 ?_
  exact H
theorem bX7_init_9 {Q : Nat → Option Value → Hp → Prop} {h : Hp} {mc ms nc ns : Nat} {a0 as0 as1 : Nat} {x1 : Int32} (H : hpK h as0 = 17 ∧ Wm mX7_init 2 mc ms Q 14 [some (.ref a0), some (.int x1), some (.int (nI 0))] [] (stP h as0 0 (some as1)) nc ns) : Wm mX7_init 2 mc ms Q 9 [some (.ref a0), some (.int x1), none] [.ref as1, .ref as0] h nc ns := by
  obtain ⟨o_1, H⟩ := H
  refine rl_putP (k := 0) cfX7 dX7_init_9 flX7_9 (by decide) rfl o_1 (Or.inr ⟨rfl, rfl⟩) rfl rfl ?_
  refine rl_iconst (v := nI 0) dX7_init_12 (by decide) ?_
  refine rl_istore_n (L' := [some (.ref a0), some (.int x1), some (.int (nI 0))]) dX7_init_13 rfl (Nat.le_of_ble_eq_true rfl) rfl ?_
  exact H
theorem bX7_init_14 {Q : Nat → Option Value → Hp → Prop} {h : Hp} {mc ms nc ns : Nat} {a0 tg_9 : Nat} {x1 x2 : Int32} (H : ((x1 ≤ x2 → nc ≤ mc ∧ ns ≤ ms ∧ Q 0 none h) ∧ (¬ x1 ≤ x2 → hpK h a0 = 17 ∧ ∃ p_5 : Nat, hpP h a0 0 = some p_5 ∧ (nc + 1 ≤ mc ∧ ns + 7 ≤ ms ∧ Wm mX7_init 2 mc ms Q 27 [some (.ref a0), some (.int x1), some (.int x2)] [.ref (hpZ h), .int x2, .ref p_5] (stN h 15 0 tg_9) (nc + 1) (ns + 7))))) : Wm mX7_init 2 mc ms Q 14 [some (.ref a0), some (.int x1), some (.int x2)] [] h nc ns := by
  refine rl_iload_n dX7_init_14 rfl rfl ?_
  refine rl_iload_n dX7_init_15 rfl rfl ?_
  refine rl_icmp_ge (tgt := 38) dX7_init_16 (by decide) (fun c_1 => ?_) (fun c_1 => ?_)
  · have H := H.1 c_1
    obtain ⟨o_2, H⟩ := H
    obtain ⟨o_3, H⟩ := H
    exact rl_vret dX7_init_38 rfl o_2 o_3 H
  · have H := H.2 c_1
    refine rl_aload_n dX7_init_19 rfl rfl ?_
    obtain ⟨o_4, H⟩ := H
    obtain ⟨p_5, e_6, H⟩ := H
    refine rl_getP (k := 0) cfX7 dX7_init_20 flX7_9 (by decide) rfl o_4 e_6 ?_
    refine rl_iload_n dX7_init_23 rfl rfl ?_
    obtain ⟨o_7, H⟩ := H
    obtain ⟨o_8, H⟩ := H
    refine rl_new tg_9 cfX5 cgX5 dX7_init_24 clX7_7 o_7 o_8 ?_
    exact H
theorem bX7_init_27 {Q : Nat → Option Value → Hp → Prop} {h : Hp} {mc ms nc ns : Nat} {a0 as0 as2 mcn msn : Nat} {x1 x2 xs1 : Int32} (H : nc + mcn ≤ mc ∧ ns + msn ≤ ms ∧ CKv mX5_init 1 mcn msn [some (.ref as2)] h (fun h' => Wm mX7_init 2 mc ms Q 31 [some (.ref a0), some (.int x1), some (.int x2)] [.ref as2, .int xs1, .ref as0] h' (nc + mcn) (ns + msn))) : Wm mX7_init 2 mc ms Q 27 [some (.ref a0), some (.int x1), some (.int x2)] [.ref as2, .int xs1, .ref as0] h nc ns := by
  refine rl_dup dX7_init_27 rfl ?_
  obtain ⟨o_1, H⟩ := H
  obtain ⟨o_2, H⟩ := H
  exact rl_callN (As := []) (rest := [.ref as2, .int xs1, .ref as0]) mfX5_init dX7_init_28 (by decide) (by decide) (Nat.le_of_ble_eq_true rfl) o_1 o_2 rfl (Nat.le_of_ble_eq_true rfl) rfl rfl (fun Qc k => H Qc (fun h' w => k none h' w))
theorem bX7_init_31 {Q : Nat → Option Value → Hp → Prop} {h : Hp} {mc ms nc ns : Nat} {a0 as0 as2 : Nat} {x1 x2 xs1 : Int32} (H : hpK h as0 = 35 ∧ vp_in xs1 (hpN h as0) ∧ hpK h as2 = 15 ∧ Wm mX7_init 2 mc ms Q 14 [some (.ref a0), some (.int x1), some (.int (x2 + nI 1))] [] (stP h as0 (xs1).toNatClampNeg (some as2)) nc ns) : Wm mX7_init 2 mc ms Q 31 [some (.ref a0), some (.int x1), some (.int x2)] [.ref as2, .int xs1, .ref as0] h nc ns := by
  obtain ⟨o_1, H⟩ := H
  obtain ⟨o_2, H⟩ := H
  obtain ⟨o_3, H⟩ := H
  refine rl_aast (ci := 5) dX7_init_31 rfl o_1 o_2 o_3 ?_
  refine rl_iinc (v := x2 + nI 1) (L' := [some (.ref a0), some (.int x1), some (.int (x2 + nI 1))]) dX7_init_32 rfl (congrArg (fun z => x2 + z) (by decide)) (Nat.le_of_ble_eq_true rfl) rfl ?_
  refine rl_goto (tgt := 14) dX7_init_35 (by decide) ?_
  exact H
theorem bX5_init_0 {Q : Nat → Option Value → Hp → Prop} {h : Hp} {mc ms nc ns : Nat} {a0 tg_5 : Nat} (H : ¬ (nI 2) < 0 ∧ (nI 2).toNatClampNeg ≤ 100000 ∧ nc + 1 ≤ mc ∧ ns + (nI 2).toNatClampNeg ≤ ms ∧ Wm mX5_init 1 mc ms Q 8 [some (.ref a0)] [.ref (hpZ h), .ref a0] (stN h 1 (nI 2).toNatClampNeg tg_5) (nc + 1) (ns + (nI 2).toNatClampNeg)) : Wm mX5_init 1 mc ms Q 0 [some (.ref a0)] [] h nc ns := by
  refine rl_aload_n dX5_init_0 rfl rfl ?_
  refine rl_obj dX5_init_1 lkX5_3 oi1 oi2 (by decide) (Nat.le_of_ble_eq_true rfl) ?_
  refine rl_aload_n dX5_init_4 rfl rfl ?_
  refine rl_iconst (v := nI 2) dX5_init_5 (by decide) ?_
  obtain ⟨o_1, H⟩ := H
  obtain ⟨o_2, H⟩ := H
  obtain ⟨o_3, H⟩ := H
  obtain ⟨o_4, H⟩ := H
  refine rl_newI tg_5 dX5_init_6 acI o_1 rfl o_2 o_3 o_4 ?_
  exact H
theorem bX5_init_8 {Q : Nat → Option Value → Hp → Prop} {h : Hp} {mc ms nc ns : Nat} {a0 as0 as1 tg_6 : Nat} (H : hpK h as0 = 15 ∧ ¬ (nI 2) < 0 ∧ (nI 2).toNatClampNeg ≤ 100000 ∧ nc + 1 ≤ mc ∧ ns + (nI 2).toNatClampNeg ≤ ms ∧ Wm mX5_init 1 mc ms Q 15 [some (.ref a0)] [.ref (hpZ (stP h as0 2 (some as1))), .ref a0] (stN (stP h as0 2 (some as1)) 1 (nI 2).toNatClampNeg tg_6) (nc + 1) (ns + (nI 2).toNatClampNeg)) : Wm mX5_init 1 mc ms Q 8 [some (.ref a0)] [.ref as1, .ref as0] h nc ns := by
  obtain ⟨o_1, H⟩ := H
  refine rl_putP (k := 2) cfX5 dX5_init_8 flX5_9 (by decide) rfl o_1 (Or.inr ⟨rfl, rfl⟩) rfl rfl ?_
  refine rl_aload_n dX5_init_11 rfl rfl ?_
  refine rl_iconst (v := nI 2) dX5_init_12 (by decide) ?_
  obtain ⟨o_2, H⟩ := H
  obtain ⟨o_3, H⟩ := H
  obtain ⟨o_4, H⟩ := H
  obtain ⟨o_5, H⟩ := H
  refine rl_newI tg_6 dX5_init_13 acI o_2 rfl o_3 o_4 o_5 ?_
  exact H
theorem bX5_init_15 {Q : Nat → Option Value → Hp → Prop} {h : Hp} {mc ms nc ns : Nat} {a0 as0 as1 tg_6 : Nat} (H : hpK h as0 = 15 ∧ ¬ (nI 10) < 0 ∧ (nI 10).toNatClampNeg ≤ 100000 ∧ nc + 1 ≤ mc ∧ ns + (nI 10).toNatClampNeg ≤ ms ∧ Wm mX5_init 1 mc ms Q 23 [some (.ref a0)] [.ref (hpZ (stP h as0 3 (some as1))), .ref a0] (stN (stP h as0 3 (some as1)) 1 (nI 10).toNatClampNeg tg_6) (nc + 1) (ns + (nI 10).toNatClampNeg)) : Wm mX5_init 1 mc ms Q 15 [some (.ref a0)] [.ref as1, .ref as0] h nc ns := by
  obtain ⟨o_1, H⟩ := H
  refine rl_putP (k := 3) cfX5 dX5_init_15 flX5_15 (by decide) rfl o_1 (Or.inr ⟨rfl, rfl⟩) rfl rfl ?_
  refine rl_aload_n dX5_init_18 rfl rfl ?_
  refine rl_bipush (v := nI 10) dX5_init_19 (by decide) ?_
  obtain ⟨o_2, H⟩ := H
  obtain ⟨o_3, H⟩ := H
  obtain ⟨o_4, H⟩ := H
  obtain ⟨o_5, H⟩ := H
  refine rl_newI tg_6 dX5_init_21 acI o_2 rfl o_3 o_4 o_5 ?_
  exact H
theorem bX5_init_23 {Q : Nat → Option Value → Hp → Prop} {h : Hp} {mc ms nc ns : Nat} {a0 as0 as1 tg_6 : Nat} (H : hpK h as0 = 15 ∧ ¬ (nI 10) < 0 ∧ (nI 10).toNatClampNeg ≤ 100000 ∧ nc + 1 ≤ mc ∧ ns + (nI 10).toNatClampNeg ≤ ms ∧ Wm mX5_init 1 mc ms Q 31 [none] [.ref (hpZ (stP h as0 4 (some as1))), .ref a0] (stN (stP h as0 4 (some as1)) 1 (nI 10).toNatClampNeg tg_6) (nc + 1) (ns + (nI 10).toNatClampNeg)) : Wm mX5_init 1 mc ms Q 23 [some (.ref a0)] [.ref as1, .ref as0] h nc ns := by
  obtain ⟨o_1, H⟩ := H
  refine rl_putP (k := 4) cfX5 dX5_init_23 flX5_18 (by decide) rfl o_1 (Or.inr ⟨rfl, rfl⟩) rfl rfl ?_
  refine rl_aload_n dX5_init_26 rfl rfl ?_
  refine rl_bipush (v := nI 10) dX5_init_27 (by decide) ?_
  obtain ⟨o_2, H⟩ := H
  obtain ⟨o_3, H⟩ := H
  obtain ⟨o_4, H⟩ := H
  obtain ⟨o_5, H⟩ := H
  refine rl_newI tg_6 dX5_init_29 acI o_2 rfl o_3 o_4 o_5 ?_
  refine rl_wk (L' := [none]) trivial ?_
  exact H
theorem bX5_init_31 {Q : Nat → Option Value → Hp → Prop} {h : Hp} {mc ms nc ns : Nat} {as0 as1 : Nat} (H : hpK h as0 = 15 ∧ nc ≤ mc ∧ ns ≤ ms ∧ Q 0 none (stP h as0 6 (some as1))) : Wm mX5_init 1 mc ms Q 31 [none] [.ref as1, .ref as0] h nc ns := by
  obtain ⟨o_1, H⟩ := H
  refine rl_putP (k := 6) cfX5 dX5_init_31 flX5_21 (by decide) rfl o_1 (Or.inr ⟨rfl, rfl⟩) rfl rfl ?_
  obtain ⟨o_2, H⟩ := H
  obtain ⟨o_3, H⟩ := H
  exact rl_vret dX5_init_34 rfl o_2 o_3 H
theorem bX2_init_0 {Q : Nat → Option Value → Hp → Prop} {h : Hp} {a0 : Nat} (H : Q 0 none h) : Wm mX2_init 1 0 0 Q 0 [some (.ref a0)] [] h 0 0 := by
  refine rl_aload_n dX2_init_0 rfl rfl ?_
  refine rl_obj dX2_init_1 lkX2_1 oi1 oi2 (by decide) (Nat.le_of_ble_eq_true rfl) ?_
  exact rl_vret dX2_init_4 rfl (Nat.le_refl 0) (Nat.le_refl 0) H
theorem bX3_init_0 {Q : Nat → Option Value → Hp → Prop} {h : Hp} {mc ms nc ns : Nat} {a0 tg_3 : Nat} {x1 : Int32} (H : nc + 1 ≤ mc ∧ ns + 1 ≤ ms ∧ Wm mX3_init 3 mc ms Q 8 [none, some (.int x1)] [.ref (hpZ h), .ref a0] (stN h 17 0 tg_3) (nc + 1) (ns + 1)) : Wm mX3_init 3 mc ms Q 0 [some (.ref a0), some (.int x1)] [] h nc ns := by
  refine rl_aload_n dX3_init_0 rfl rfl ?_
  refine rl_obj dX3_init_1 lkX3_1 oi1 oi2 (by decide) (Nat.le_of_ble_eq_true rfl) ?_
  refine rl_aload_n dX3_init_4 rfl rfl ?_
  obtain ⟨o_1, H⟩ := H
  obtain ⟨o_2, H⟩ := H
  refine rl_new tg_3 cfX7 cgX7 dX3_init_5 clX3_7 o_1 o_2 ?_
  refine rl_wk (L' := [none, some (.int x1)]) ⟨rfl, trivial⟩ ?_
  exact H
theorem bX3_init_8 {Q : Nat → Option Value → Hp → Prop} {h : Hp} {mc ms nc ns : Nat} {as0 as1 mcn msn : Nat} {x1 : Int32} (H : nc + mcn ≤ mc ∧ ns + msn ≤ ms ∧ CKv mX7_init 2 mcn msn [some (.ref as1), some (.int x1), none] h (fun h' => Wm mX3_init 3 mc ms Q 13 [none, none] [.ref as1, .ref as0] h' (nc + mcn) (ns + msn))) : Wm mX3_init 3 mc ms Q 8 [none, some (.int x1)] [.ref as1, .ref as0] h nc ns := by
  refine rl_dup dX3_init_8 rfl ?_
  refine rl_iload_n dX3_init_9 rfl rfl ?_
  obtain ⟨o_1, H⟩ := H
  obtain ⟨o_2, H⟩ := H
  exact rl_callI (As := [.int x1]) (rest := [.ref as1, .ref as0]) mfX7_init dX3_init_10 lkX3_9 (by decide) (Nat.le_of_ble_eq_true rfl) o_1 o_2 rfl (Nat.le_of_ble_eq_true rfl) rfl rfl (fun Qc k => H Qc (fun h' w => k none h' (rl_wk (L' := [none, none]) trivial w)))
theorem bX3_init_13 {Q : Nat → Option Value → Hp → Prop} {h : Hp} {mc ms nc ns : Nat} {as0 as1 : Nat} (H : hpK h as0 = 13 ∧ nc ≤ mc ∧ ns ≤ ms ∧ Q 0 none (stP h as0 3 (some as1))) : Wm mX3_init 3 mc ms Q 13 [none, none] [.ref as1, .ref as0] h nc ns := by
  obtain ⟨o_1, H⟩ := H
  refine rl_putP (k := 3) cfX3 dX3_init_13 flX3_12 (by decide) rfl o_1 (Or.inr ⟨rfl, rfl⟩) rfl rfl ?_
  obtain ⟨o_2, H⟩ := H
  obtain ⟨o_3, H⟩ := H
  exact rl_vret dX3_init_16 rfl o_2 o_3 H
theorem bX1_init_0 {Q : Nat → Option Value → Hp → Prop} {h : Hp} {mc ms nc ns : Nat} {a0 tg_5 : Nat} {x1 : Int32} (H : ¬ (nI 6) < 0 ∧ (nI 6).toNatClampNeg ≤ 100000 ∧ nc + 1 ≤ mc ∧ ns + (nI 6).toNatClampNeg ≤ ms ∧ Wm mX1_init 5 mc ms Q 10 [some (.ref a0), some (.int x1), none] [.ref (hpZ h), .ref a0] (stN h 36 (nI 6).toNatClampNeg tg_5) (nc + 1) (ns + (nI 6).toNatClampNeg)) : Wm mX1_init 5 mc ms Q 0 [some (.ref a0), some (.int x1), none] [] h nc ns := by
  refine rl_aload_n dX1_init_0 rfl rfl ?_
  refine rl_obj dX1_init_1 lkX1_3 oi1 oi2 (by decide) (Nat.le_of_ble_eq_true rfl) ?_
  refine rl_aload_n dX1_init_4 rfl rfl ?_
  refine rl_bipush (v := nI 6) dX1_init_5 (by decide) ?_
  obtain ⟨o_1, H⟩ := H
  obtain ⟨o_2, H⟩ := H
  obtain ⟨o_3, H⟩ := H
  obtain ⟨o_4, H⟩ := H
  refine rl_newP (ci := 6) tg_5 dX1_init_7 rfl clX1_9 (by decide) o_1 rfl o_2 o_3 o_4 ?_
  exact H
theorem bX1_init_10 {Q : Nat → Option Value → Hp → Prop} {h : Hp} {mc ms nc ns : Nat} {a0 as0 as1 : Nat} {x1 : Int32} (H : hpK h as0 = 11 ∧ Wm mX1_init 5 mc ms Q 15 [some (.ref a0), some (.int x1), some (.int (nI 0))] [] (stP h as0 0 (some as1)) nc ns) : Wm mX1_init 5 mc ms Q 10 [some (.ref a0), some (.int x1), none] [.ref as1, .ref as0] h nc ns := by
  obtain ⟨o_1, H⟩ := H
  refine rl_putP (k := 0) cfX1 dX1_init_10 flX1_11 (by decide) rfl o_1 (Or.inr ⟨rfl, rfl⟩) rfl rfl ?_
  refine rl_iconst (v := nI 0) dX1_init_13 (by decide) ?_
  refine rl_istore_n (L' := [some (.ref a0), some (.int x1), some (.int (nI 0))]) dX1_init_14 rfl (Nat.le_of_ble_eq_true rfl) rfl ?_
  exact H
theorem bX1_init_15 {Q : Nat → Option Value → Hp → Prop} {h : Hp} {mc ms nc ns : Nat} {a0 tg_9 : Nat} {x1 x2 : Int32} (H : (((nI 6) ≤ x2 → nc ≤ mc ∧ ns ≤ ms ∧ Q 0 none h) ∧ (¬ (nI 6) ≤ x2 → hpK h a0 = 11 ∧ ∃ p_5 : Nat, hpP h a0 0 = some p_5 ∧ (nc + 1 ≤ mc ∧ ns + 10 ≤ ms ∧ Wm mX1_init 5 mc ms Q 29 [some (.ref a0), some (.int x1), some (.int x2)] [.ref (hpZ h), .int x2, .ref p_5] (stN h 16 0 tg_9) (nc + 1) (ns + 10))))) : Wm mX1_init 5 mc ms Q 15 [some (.ref a0), some (.int x1), some (.int x2)] [] h nc ns := by
  refine rl_iload_n dX1_init_15 rfl rfl ?_
  refine rl_bipush (v := nI 6) dX1_init_16 (by decide) ?_
  refine rl_icmp_ge (tgt := 41) dX1_init_18 (by decide) (fun c_1 => ?_) (fun c_1 => ?_)
  · have H := H.1 c_1
    obtain ⟨o_2, H⟩ := H
    obtain ⟨o_3, H⟩ := H
    exact rl_vret dX1_init_41 rfl o_2 o_3 H
  · have H := H.2 c_1
    refine rl_aload_n dX1_init_21 rfl rfl ?_
    obtain ⟨o_4, H⟩ := H
    obtain ⟨p_5, e_6, H⟩ := H
    refine rl_getP (k := 0) cfX1 dX1_init_22 flX1_11 (by decide) rfl o_4 e_6 ?_
    refine rl_iload_n dX1_init_25 rfl rfl ?_
    obtain ⟨o_7, H⟩ := H
    obtain ⟨o_8, H⟩ := H
    refine rl_new tg_9 cfX6 cgX6 dX1_init_26 clX1_9 o_7 o_8 ?_
    exact H
theorem bX1_init_29 {Q : Nat → Option Value → Hp → Prop} {h : Hp} {mc ms nc ns : Nat} {a0 as0 as2 mcn msn : Nat} {x1 x2 xs1 : Int32} (H : nc + mcn ≤ mc ∧ ns + msn ≤ ms ∧ CKv mX6_init 4 mcn msn [some (.ref as2), some (.int x1), none] h (fun h' => Wm mX1_init 5 mc ms Q 34 [some (.ref a0), some (.int x1), some (.int x2)] [.ref as2, .int xs1, .ref as0] h' (nc + mcn) (ns + msn))) : Wm mX1_init 5 mc ms Q 29 [some (.ref a0), some (.int x1), some (.int x2)] [.ref as2, .int xs1, .ref as0] h nc ns := by
  refine rl_dup dX1_init_29 rfl ?_
  refine rl_iload_n dX1_init_30 rfl rfl ?_
  obtain ⟨o_1, H⟩ := H
  obtain ⟨o_2, H⟩ := H
  exact rl_callI (As := [.int x1]) (rest := [.ref as2, .int xs1, .ref as0]) mfX6_init dX1_init_31 lkX1_17 (by decide) (Nat.le_of_ble_eq_true rfl) o_1 o_2 rfl (Nat.le_of_ble_eq_true rfl) rfl rfl (fun Qc k => H Qc (fun h' w => k none h' w))
theorem bX1_init_34 {Q : Nat → Option Value → Hp → Prop} {h : Hp} {mc ms nc ns : Nat} {a0 as0 as2 : Nat} {x1 x2 xs1 : Int32} (H : hpK h as0 = 36 ∧ vp_in xs1 (hpN h as0) ∧ hpK h as2 = 16 ∧ Wm mX1_init 5 mc ms Q 15 [some (.ref a0), some (.int x1), some (.int (x2 + nI 1))] [] (stP h as0 (xs1).toNatClampNeg (some as2)) nc ns) : Wm mX1_init 5 mc ms Q 34 [some (.ref a0), some (.int x1), some (.int x2)] [.ref as2, .int xs1, .ref as0] h nc ns := by
  obtain ⟨o_1, H⟩ := H
  obtain ⟨o_2, H⟩ := H
  obtain ⟨o_3, H⟩ := H
  refine rl_aast (ci := 6) dX1_init_34 rfl o_1 o_2 o_3 ?_
  refine rl_iinc (v := x2 + nI 1) (L' := [some (.ref a0), some (.int x1), some (.int (x2 + nI 1))]) dX1_init_35 rfl (congrArg (fun z => x2 + z) (by decide)) (Nat.le_of_ble_eq_true rfl) rfl ?_
  refine rl_goto (tgt := 15) dX1_init_38 (by decide) ?_
  exact H
theorem bX4_init_0 {Q : Nat → Option Value → Hp → Prop} {h : Hp} {mc ms nc ns : Nat} {a0 tg_5 : Nat} (H : ¬ (nI 60) < 0 ∧ (nI 60).toNatClampNeg ≤ 100000 ∧ nc + 1 ≤ mc ∧ ns + (nI 60).toNatClampNeg ≤ ms ∧ Wm mX4_init 2 mc ms Q 9 [some (.ref a0), none] [.ref (hpZ h), .ref a0] (stN h 1 (nI 60).toNatClampNeg tg_5) (nc + 1) (ns + (nI 60).toNatClampNeg)) : Wm mX4_init 2 mc ms Q 0 [some (.ref a0), none] [] h nc ns := by
  refine rl_aload_n dX4_init_0 rfl rfl ?_
  refine rl_obj dX4_init_1 lkX4_3 oi1 oi2 (by decide) (Nat.le_of_ble_eq_true rfl) ?_
  refine rl_aload_n dX4_init_4 rfl rfl ?_
  refine rl_bipush (v := nI 60) dX4_init_5 (by decide) ?_
  obtain ⟨o_1, H⟩ := H
  obtain ⟨o_2, H⟩ := H
  obtain ⟨o_3, H⟩ := H
  obtain ⟨o_4, H⟩ := H
  refine rl_newI tg_5 dX4_init_7 acI o_1 rfl o_2 o_3 o_4 ?_
  exact H
theorem bX4_init_9 {Q : Nat → Option Value → Hp → Prop} {h : Hp} {mc ms nc ns : Nat} {a0 as0 as1 tg_6 : Nat} (H : hpK h as0 = 14 ∧ ¬ (nI 30) < 0 ∧ (nI 30).toNatClampNeg ≤ 100000 ∧ nc + 1 ≤ mc ∧ ns + (nI 30).toNatClampNeg ≤ ms ∧ Wm mX4_init 2 mc ms Q 18 [some (.ref a0), none] [.ref (hpZ (stP h as0 0 (some as1))), .ref a0] (stN (stP h as0 0 (some as1)) 30 (nI 30).toNatClampNeg tg_6) (nc + 1) (ns + (nI 30).toNatClampNeg)) : Wm mX4_init 2 mc ms Q 9 [some (.ref a0), none] [.ref as1, .ref as0] h nc ns := by
  obtain ⟨o_1, H⟩ := H
  refine rl_putP (k := 0) cfX4 dX4_init_9 flX4_9 (by decide) rfl o_1 (Or.inr ⟨rfl, rfl⟩) rfl rfl ?_
  refine rl_aload_n dX4_init_12 rfl rfl ?_
  refine rl_bipush (v := nI 30) dX4_init_13 (by decide) ?_
  obtain ⟨o_2, H⟩ := H
  obtain ⟨o_3, H⟩ := H
  obtain ⟨o_4, H⟩ := H
  obtain ⟨o_5, H⟩ := H
  refine rl_newP (ci := 0) tg_6 dX4_init_15 rfl clX4_15 (by decide) o_2 rfl o_3 o_4 o_5 ?_
  exact H
theorem bX4_init_18 {Q : Nat → Option Value → Hp → Prop} {h : Hp} {mc ms nc ns : Nat} {a0 as0 as1 : Nat} (H : hpK h as0 = 14 ∧ Wm mX4_init 2 mc ms Q 23 [some (.ref a0), some (.int (nI 0))] [] (stP h as0 1 (some as1)) nc ns) : Wm mX4_init 2 mc ms Q 18 [some (.ref a0), none] [.ref as1, .ref as0] h nc ns := by
  obtain ⟨o_1, H⟩ := H
  refine rl_putP (k := 1) cfX4 dX4_init_18 flX4_17 (by decide) rfl o_1 (Or.inr ⟨rfl, rfl⟩) rfl rfl ?_
  refine rl_iconst (v := nI 0) dX4_init_21 (by decide) ?_
  refine rl_istore_n (L' := [some (.ref a0), some (.int (nI 0))]) dX4_init_22 rfl (Nat.le_of_ble_eq_true rfl) rfl ?_
  exact H
theorem bX4_init_23 {Q : Nat → Option Value → Hp → Prop} {h : Hp} {mc ms nc ns : Nat} {a0 tg_9 : Nat} {x1 : Int32} (H : (((nI 30) ≤ x1 → nc ≤ mc ∧ ns ≤ ms ∧ Q 0 none h) ∧ (¬ (nI 30) ≤ x1 → hpK h a0 = 14 ∧ ∃ p_5 : Nat, hpP h a0 1 = some p_5 ∧ (nc + 1 ≤ mc ∧ ns + 4 ≤ ms ∧ Wm mX4_init 2 mc ms Q 37 [some (.ref a0), some (.int x1)] [.ref (hpZ h), .int x1, .ref p_5] (stN h 10 0 tg_9) (nc + 1) (ns + 4))))) : Wm mX4_init 2 mc ms Q 23 [some (.ref a0), some (.int x1)] [] h nc ns := by
  refine rl_iload_n dX4_init_23 rfl rfl ?_
  refine rl_bipush (v := nI 30) dX4_init_24 (by decide) ?_
  refine rl_icmp_ge (tgt := 48) dX4_init_26 (by decide) (fun c_1 => ?_) (fun c_1 => ?_)
  · have H := H.1 c_1
    obtain ⟨o_2, H⟩ := H
    obtain ⟨o_3, H⟩ := H
    exact rl_vret dX4_init_48 rfl o_2 o_3 H
  · have H := H.2 c_1
    refine rl_aload_n dX4_init_29 rfl rfl ?_
    obtain ⟨o_4, H⟩ := H
    obtain ⟨p_5, e_6, H⟩ := H
    refine rl_getP (k := 1) cfX4 dX4_init_30 flX4_17 (by decide) rfl o_4 e_6 ?_
    refine rl_iload_n dX4_init_33 rfl rfl ?_
    obtain ⟨o_7, H⟩ := H
    obtain ⟨o_8, H⟩ := H
    refine rl_new tg_9 cfX0 cgX0 dX4_init_34 clX4_15 o_7 o_8 ?_
    exact H
theorem bX4_init_37 {Q : Nat → Option Value → Hp → Prop} {h : Hp} {mc ms nc ns : Nat} {a0 as0 as2 : Nat} {x1 xs1 : Int32} (H : nc + 0 ≤ mc ∧ ns + 0 ≤ ms ∧ CKv mX0_init 1 0 0 [some (.ref as2)] h (fun h' => Wm mX4_init 2 mc ms Q 41 [some (.ref a0), some (.int x1)] [.ref as2, .int xs1, .ref as0] h' nc ns)) : Wm mX4_init 2 mc ms Q 37 [some (.ref a0), some (.int x1)] [.ref as2, .int xs1, .ref as0] h nc ns := by
  refine rl_dup dX4_init_37 rfl ?_
  obtain ⟨o_1, H⟩ := H
  obtain ⟨o_2, H⟩ := H
  exact rl_callN (As := []) (rest := [.ref as2, .int xs1, .ref as0]) mfX0_init dX4_init_38 (by decide) (by decide) (Nat.le_of_ble_eq_true rfl) o_1 o_2 rfl (Nat.le_of_ble_eq_true rfl) rfl rfl (fun Qc k => H Qc (fun h' w => k none h' w))
theorem bX4_init_41 {Q : Nat → Option Value → Hp → Prop} {h : Hp} {mc ms nc ns : Nat} {a0 as0 as2 : Nat} {x1 xs1 : Int32} (H : hpK h as0 = 30 ∧ vp_in xs1 (hpN h as0) ∧ hpK h as2 = 10 ∧ Wm mX4_init 2 mc ms Q 23 [some (.ref a0), some (.int (x1 + nI 1))] [] (stP h as0 (xs1).toNatClampNeg (some as2)) nc ns) : Wm mX4_init 2 mc ms Q 41 [some (.ref a0), some (.int x1)] [.ref as2, .int xs1, .ref as0] h nc ns := by
  obtain ⟨o_1, H⟩ := H
  obtain ⟨o_2, H⟩ := H
  obtain ⟨o_3, H⟩ := H
  refine rl_aast (ci := 0) dX4_init_41 rfl o_1 o_2 o_3 ?_
  refine rl_iinc (v := x1 + nI 1) (L' := [some (.ref a0), some (.int (x1 + nI 1))]) dX4_init_42 rfl (congrArg (fun z => x1 + z) (by decide)) (Nat.le_of_ble_eq_true rfl) rfl ?_
  refine rl_goto (tgt := 23) dX4_init_45 (by decide) ?_
  exact H
theorem bX0_init_0 {Q : Nat → Option Value → Hp → Prop} {h : Hp} {a0 : Nat} (H : Q 0 none h) : Wm mX0_init 1 0 0 Q 0 [some (.ref a0)] [] h 0 0 := by
  refine rl_aload_n dX0_init_0 rfl rfl ?_
  refine rl_obj dX0_init_1 lkX0_1 oi1 oi2 (by decide) (Nat.le_of_ble_eq_true rfl) ?_
  exact rl_vret dX0_init_4 rfl (Nat.le_refl 0) (Nat.le_refl 0) H
theorem bX9_init_0 {Q : Nat → Option Value → Hp → Prop} {h : Hp} {mc ms nc ns : Nat} {a0 tg_5 : Nat} {x1 : Int32} (H : ¬ (nI 2400) < 0 ∧ (nI 2400).toNatClampNeg ≤ 100000 ∧ nc + 1 ≤ mc ∧ ns + (nI 2400).toNatClampNeg ≤ ms ∧ Wm mX9_init 1 mc ms Q 10 [some (.ref a0), some (.int x1)] [.ref (hpZ h), .ref a0] (stN h 1 (nI 2400).toNatClampNeg tg_5) (nc + 1) (ns + (nI 2400).toNatClampNeg)) : Wm mX9_init 1 mc ms Q 0 [some (.ref a0), some (.int x1)] [] h nc ns := by
  refine rl_aload_n dX9_init_0 rfl rfl ?_
  refine rl_obj dX9_init_1 lkX9_1 oi1 oi2 (by decide) (Nat.le_of_ble_eq_true rfl) ?_
  refine rl_aload_n dX9_init_4 rfl rfl ?_
  refine rl_sipush (v := nI 2400) dX9_init_5 (by decide) ?_
  obtain ⟨o_1, H⟩ := H
  obtain ⟨o_2, H⟩ := H
  obtain ⟨o_3, H⟩ := H
  obtain ⟨o_4, H⟩ := H
  refine rl_newI tg_5 dX9_init_8 acI o_1 rfl o_2 o_3 o_4 ?_
  exact H
theorem bX9_init_10 {Q : Nat → Option Value → Hp → Prop} {h : Hp} {mc ms nc ns : Nat} {a0 as0 as1 tg_6 : Nat} {x1 : Int32} (H : hpK h as0 = 19 ∧ ¬ (nI 12000) < 0 ∧ (nI 12000).toNatClampNeg ≤ 100000 ∧ nc + 1 ≤ mc ∧ ns + (nI 12000).toNatClampNeg ≤ ms ∧ Wm mX9_init 1 mc ms Q 19 [some (.ref a0), some (.int x1)] [.ref (hpZ (stP h as0 1 (some as1))), .ref a0] (stN (stP h as0 1 (some as1)) 1 (nI 12000).toNatClampNeg tg_6) (nc + 1) (ns + (nI 12000).toNatClampNeg)) : Wm mX9_init 1 mc ms Q 10 [some (.ref a0), some (.int x1)] [.ref as1, .ref as0] h nc ns := by
  obtain ⟨o_1, H⟩ := H
  refine rl_putP (k := 1) cfX9 dX9_init_10 flX9_7 (by decide) rfl o_1 (Or.inr ⟨rfl, rfl⟩) rfl rfl ?_
  refine rl_aload_n dX9_init_13 rfl rfl ?_
  refine rl_sipush (v := nI 12000) dX9_init_14 (by decide) ?_
  obtain ⟨o_2, H⟩ := H
  obtain ⟨o_3, H⟩ := H
  obtain ⟨o_4, H⟩ := H
  obtain ⟨o_5, H⟩ := H
  refine rl_newI tg_6 dX9_init_17 acI o_2 rfl o_3 o_4 o_5 ?_
  exact H
theorem bX9_init_19 {Q : Nat → Option Value → Hp → Prop} {h : Hp} {mc ms nc ns : Nat} {a0 as0 as1 tg_6 : Nat} {x1 : Int32} (H : hpK h as0 = 19 ∧ ¬ (nI 2400) < 0 ∧ (nI 2400).toNatClampNeg ≤ 100000 ∧ nc + 1 ≤ mc ∧ ns + (nI 2400).toNatClampNeg ≤ ms ∧ Wm mX9_init 1 mc ms Q 28 [some (.ref a0), some (.int x1)] [.ref (hpZ (stP h as0 2 (some as1))), .ref a0] (stN (stP h as0 2 (some as1)) 1 (nI 2400).toNatClampNeg tg_6) (nc + 1) (ns + (nI 2400).toNatClampNeg)) : Wm mX9_init 1 mc ms Q 19 [some (.ref a0), some (.int x1)] [.ref as1, .ref as0] h nc ns := by
  obtain ⟨o_1, H⟩ := H
  refine rl_putP (k := 2) cfX9 dX9_init_19 flX9_13 (by decide) rfl o_1 (Or.inr ⟨rfl, rfl⟩) rfl rfl ?_
  refine rl_aload_n dX9_init_22 rfl rfl ?_
  refine rl_sipush (v := nI 2400) dX9_init_23 (by decide) ?_
  obtain ⟨o_2, H⟩ := H
  obtain ⟨o_3, H⟩ := H
  obtain ⟨o_4, H⟩ := H
  obtain ⟨o_5, H⟩ := H
  refine rl_newI tg_6 dX9_init_26 acI o_2 rfl o_3 o_4 o_5 ?_
  exact H
theorem bX9_init_28 {Q : Nat → Option Value → Hp → Prop} {h : Hp} {mc ms nc ns : Nat} {a0 as0 as1 tg_6 : Nat} {x1 : Int32} (H : hpK h as0 = 19 ∧ ¬ (nI 60) < 0 ∧ (nI 60).toNatClampNeg ≤ 100000 ∧ nc + 1 ≤ mc ∧ ns + (nI 60).toNatClampNeg ≤ ms ∧ Wm mX9_init 1 mc ms Q 36 [some (.ref a0), some (.int x1)] [.ref (hpZ (stP h as0 3 (some as1))), .ref a0] (stN (stP h as0 3 (some as1)) 1 (nI 60).toNatClampNeg tg_6) (nc + 1) (ns + (nI 60).toNatClampNeg)) : Wm mX9_init 1 mc ms Q 28 [some (.ref a0), some (.int x1)] [.ref as1, .ref as0] h nc ns := by
  obtain ⟨o_1, H⟩ := H
  refine rl_putP (k := 3) cfX9 dX9_init_28 flX9_16 (by decide) rfl o_1 (Or.inr ⟨rfl, rfl⟩) rfl rfl ?_
  refine rl_aload_n dX9_init_31 rfl rfl ?_
  refine rl_bipush (v := nI 60) dX9_init_32 (by decide) ?_
  obtain ⟨o_2, H⟩ := H
  obtain ⟨o_3, H⟩ := H
  obtain ⟨o_4, H⟩ := H
  obtain ⟨o_5, H⟩ := H
  refine rl_newI tg_6 dX9_init_34 acI o_2 rfl o_3 o_4 o_5 ?_
  exact H
theorem bX9_init_36 {Q : Nat → Option Value → Hp → Prop} {h : Hp} {mc ms nc ns : Nat} {a0 as0 as1 tg_6 : Nat} {x1 : Int32} (H : hpK h as0 = 19 ∧ ¬ (nI 60) < 0 ∧ (nI 60).toNatClampNeg ≤ 100000 ∧ nc + 1 ≤ mc ∧ ns + (nI 60).toNatClampNeg ≤ ms ∧ Wm mX9_init 1 mc ms Q 44 [some (.ref a0), some (.int x1)] [.ref (hpZ (stP h as0 5 (some as1))), .ref a0] (stN (stP h as0 5 (some as1)) 1 (nI 60).toNatClampNeg tg_6) (nc + 1) (ns + (nI 60).toNatClampNeg)) : Wm mX9_init 1 mc ms Q 36 [some (.ref a0), some (.int x1)] [.ref as1, .ref as0] h nc ns := by
  obtain ⟨o_1, H⟩ := H
  refine rl_putP (k := 5) cfX9 dX9_init_36 flX9_19 (by decide) rfl o_1 (Or.inr ⟨rfl, rfl⟩) rfl rfl ?_
  refine rl_aload_n dX9_init_39 rfl rfl ?_
  refine rl_bipush (v := nI 60) dX9_init_40 (by decide) ?_
  obtain ⟨o_2, H⟩ := H
  obtain ⟨o_3, H⟩ := H
  obtain ⟨o_4, H⟩ := H
  obtain ⟨o_5, H⟩ := H
  refine rl_newI tg_6 dX9_init_42 acI o_2 rfl o_3 o_4 o_5 ?_
  exact H
theorem bX9_init_44 {Q : Nat → Option Value → Hp → Prop} {h : Hp} {mc ms nc ns : Nat} {a0 as0 as1 tg_6 : Nat} {x1 : Int32} (H : hpK h as0 = 19 ∧ ¬ (nI 60) < 0 ∧ (nI 60).toNatClampNeg ≤ 100000 ∧ nc + 1 ≤ mc ∧ ns + (nI 60).toNatClampNeg ≤ ms ∧ Wm mX9_init 1 mc ms Q 52 [some (.ref a0), some (.int x1)] [.ref (hpZ (stP h as0 10 (some as1))), .ref a0] (stN (stP h as0 10 (some as1)) 1 (nI 60).toNatClampNeg tg_6) (nc + 1) (ns + (nI 60).toNatClampNeg)) : Wm mX9_init 1 mc ms Q 44 [some (.ref a0), some (.int x1)] [.ref as1, .ref as0] h nc ns := by
  obtain ⟨o_1, H⟩ := H
  refine rl_putP (k := 10) cfX9 dX9_init_44 flX9_22 (by decide) rfl o_1 (Or.inr ⟨rfl, rfl⟩) rfl rfl ?_
  refine rl_aload_n dX9_init_47 rfl rfl ?_
  refine rl_bipush (v := nI 60) dX9_init_48 (by decide) ?_
  obtain ⟨o_2, H⟩ := H
  obtain ⟨o_3, H⟩ := H
  obtain ⟨o_4, H⟩ := H
  obtain ⟨o_5, H⟩ := H
  refine rl_newI tg_6 dX9_init_50 acI o_2 rfl o_3 o_4 o_5 ?_
  exact H
theorem bX9_init_52 {Q : Nat → Option Value → Hp → Prop} {h : Hp} {mc ms nc ns : Nat} {a0 as0 as1 tg_6 : Nat} {x1 : Int32} (H : hpK h as0 = 19 ∧ ¬ (nI 60) < 0 ∧ (nI 60).toNatClampNeg ≤ 100000 ∧ nc + 1 ≤ mc ∧ ns + (nI 60).toNatClampNeg ≤ ms ∧ Wm mX9_init 1 mc ms Q 60 [some (.ref a0), some (.int x1)] [.ref (hpZ (stP h as0 11 (some as1))), .ref a0] (stN (stP h as0 11 (some as1)) 1 (nI 60).toNatClampNeg tg_6) (nc + 1) (ns + (nI 60).toNatClampNeg)) : Wm mX9_init 1 mc ms Q 52 [some (.ref a0), some (.int x1)] [.ref as1, .ref as0] h nc ns := by
  obtain ⟨o_1, H⟩ := H
  refine rl_putP (k := 11) cfX9 dX9_init_52 flX9_25 (by decide) rfl o_1 (Or.inr ⟨rfl, rfl⟩) rfl rfl ?_
  refine rl_aload_n dX9_init_55 rfl rfl ?_
  refine rl_bipush (v := nI 60) dX9_init_56 (by decide) ?_
  obtain ⟨o_2, H⟩ := H
  obtain ⟨o_3, H⟩ := H
  obtain ⟨o_4, H⟩ := H
  obtain ⟨o_5, H⟩ := H
  refine rl_newI tg_6 dX9_init_58 acI o_2 rfl o_3 o_4 o_5 ?_
  exact H
theorem bX9_init_60 {Q : Nat → Option Value → Hp → Prop} {h : Hp} {mc ms nc ns : Nat} {a0 as0 as1 tg_6 : Nat} {x1 : Int32} (H : hpK h as0 = 19 ∧ ¬ (nI 60) < 0 ∧ (nI 60).toNatClampNeg ≤ 100000 ∧ nc + 1 ≤ mc ∧ ns + (nI 60).toNatClampNeg ≤ ms ∧ Wm mX9_init 1 mc ms Q 68 [some (.ref a0), some (.int x1)] [.ref (hpZ (stP h as0 12 (some as1))), .ref a0] (stN (stP h as0 12 (some as1)) 1 (nI 60).toNatClampNeg tg_6) (nc + 1) (ns + (nI 60).toNatClampNeg)) : Wm mX9_init 1 mc ms Q 60 [some (.ref a0), some (.int x1)] [.ref as1, .ref as0] h nc ns := by
  obtain ⟨o_1, H⟩ := H
  refine rl_putP (k := 12) cfX9 dX9_init_60 flX9_28 (by decide) rfl o_1 (Or.inr ⟨rfl, rfl⟩) rfl rfl ?_
  refine rl_aload_n dX9_init_63 rfl rfl ?_
  refine rl_bipush (v := nI 60) dX9_init_64 (by decide) ?_
  obtain ⟨o_2, H⟩ := H
  obtain ⟨o_3, H⟩ := H
  obtain ⟨o_4, H⟩ := H
  obtain ⟨o_5, H⟩ := H
  refine rl_newI tg_6 dX9_init_66 acI o_2 rfl o_3 o_4 o_5 ?_
  exact H
theorem bX9_init_68 {Q : Nat → Option Value → Hp → Prop} {h : Hp} {mc ms nc ns : Nat} {a0 as0 as1 : Nat} {x1 : Int32} (H : hpK h as0 = 19 ∧ (((nI 2) ≤ x1 → ((x1 ≤ (nI 5) → hpK h a0 = 19 ∧ nc + 0 ≤ mc ∧ ns + 0 ≤ ms ∧ CKv mX9_starts 0 0 0 [some (.ref a0), some (.int (nI 0)), some (.int (nI 100)), some (.int (nI 50)), none] (stI (stP h as0 13 (some as1)) a0 0 x1) (fun h' => Wm mX9_init 1 mc ms Q 103 [none, none] [] h' nc ns)) ∧ (¬ x1 ≤ (nI 5) → hpK h a0 = 19 ∧ nc + 0 ≤ mc ∧ ns + 0 ≤ ms ∧ CKv mX9_starts 0 0 0 [some (.ref a0), some (.int (nI 0)), some (.int (nI 100)), some (.int (nI 50)), none] (stI (stP h as0 13 (some as1)) a0 0 (nI 5)) (fun h' => Wm mX9_init 1 mc ms Q 103 [none, none] [] h' nc ns)))) ∧ (¬ (nI 2) ≤ x1 → hpK h a0 = 19 ∧ nc + 0 ≤ mc ∧ ns + 0 ≤ ms ∧ CKv mX9_starts 0 0 0 [some (.ref a0), some (.int (nI 0)), some (.int (nI 100)), some (.int (nI 50)), none] (stI (stP h as0 13 (some as1)) a0 0 (nI 2)) (fun h' => Wm mX9_init 1 mc ms Q 103 [none, none] [] h' nc ns)))) : Wm mX9_init 1 mc ms Q 68 [some (.ref a0), some (.int x1)] [.ref as1, .ref as0] h nc ns := by
  obtain ⟨o_1, H⟩ := H
  refine rl_putP (k := 13) cfX9 dX9_init_68 flX9_31 (by decide) rfl o_1 (Or.inr ⟨rfl, rfl⟩) rfl rfl ?_
  refine rl_aload_n dX9_init_71 rfl rfl ?_
  refine rl_iload_n dX9_init_72 rfl rfl ?_
  refine rl_iconst (v := nI 2) dX9_init_73 (by decide) ?_
  refine rl_icmp_ge (tgt := 81) dX9_init_74 (by decide) (fun c_2 => ?_) (fun c_2 => ?_)
  · have H := H.1 c_2
    refine rl_iload_n dX9_init_81 rfl rfl ?_
    refine rl_iconst (v := nI 5) dX9_init_82 (by decide) ?_
    refine rl_icmp_le (tgt := 90) dX9_init_83 (by decide) (fun c_3 => ?_) (fun c_3 => ?_)
    · have H := H.1 c_3
      refine rl_iload_n dX9_init_90 rfl rfl ?_
      obtain ⟨o_4, H⟩ := H
      refine rl_putI (k := 0) cfX9 dX9_init_91 flX9_34 (by decide) rfl o_4 (Or.inr ⟨rfl, rfl⟩) ?_
      refine rl_aload_n dX9_init_94 rfl rfl ?_
      refine rl_iconst (v := nI 0) dX9_init_95 (by decide) ?_
      refine rl_bipush (v := nI 100) dX9_init_96 (by decide) ?_
      refine rl_bipush (v := nI 50) dX9_init_98 (by decide) ?_
      obtain ⟨o_5, H⟩ := H
      obtain ⟨o_6, H⟩ := H
      exact rl_callV (As := [.int (nI 0), .int (nI 100), .int (nI 50)]) (rest := []) mfX9_starts dX9_init_100 lkX9_38 o_4 (by decide) (Nat.le_of_ble_eq_true rfl) o_5 o_6 rfl (Nat.le_of_ble_eq_true rfl) rfl rfl (fun Qc k => H Qc (fun h' w => k none h' (rl_wk (L' := [none, none]) trivial w)))
    · have H := H.2 c_3
      refine rl_iconst (v := nI 5) dX9_init_86 (by decide) ?_
      refine rl_goto (tgt := 91) dX9_init_87 (by decide) ?_
      obtain ⟨o_7, H⟩ := H
      refine rl_putI (k := 0) cfX9 dX9_init_91 flX9_34 (by decide) rfl o_7 (Or.inr ⟨rfl, rfl⟩) ?_
      refine rl_aload_n dX9_init_94 rfl rfl ?_
      refine rl_iconst (v := nI 0) dX9_init_95 (by decide) ?_
      refine rl_bipush (v := nI 100) dX9_init_96 (by decide) ?_
      refine rl_bipush (v := nI 50) dX9_init_98 (by decide) ?_
      obtain ⟨o_8, H⟩ := H
      obtain ⟨o_9, H⟩ := H
      exact rl_callV (As := [.int (nI 0), .int (nI 100), .int (nI 50)]) (rest := []) mfX9_starts dX9_init_100 lkX9_38 o_7 (by decide) (Nat.le_of_ble_eq_true rfl) o_8 o_9 rfl (Nat.le_of_ble_eq_true rfl) rfl rfl (fun Qc k => H Qc (fun h' w => k none h' (rl_wk (L' := [none, none]) trivial w)))
  · have H := H.2 c_2
    refine rl_iconst (v := nI 2) dX9_init_77 (by decide) ?_
    refine rl_goto (tgt := 91) dX9_init_78 (by decide) ?_
    obtain ⟨o_10, H⟩ := H
    refine rl_putI (k := 0) cfX9 dX9_init_91 flX9_34 (by decide) rfl o_10 (Or.inr ⟨rfl, rfl⟩) ?_
    refine rl_aload_n dX9_init_94 rfl rfl ?_
    refine rl_iconst (v := nI 0) dX9_init_95 (by decide) ?_
    refine rl_bipush (v := nI 100) dX9_init_96 (by decide) ?_
    refine rl_bipush (v := nI 50) dX9_init_98 (by decide) ?_
    obtain ⟨o_11, H⟩ := H
    obtain ⟨o_12, H⟩ := H
    exact rl_callV (As := [.int (nI 0), .int (nI 100), .int (nI 50)]) (rest := []) mfX9_starts dX9_init_100 lkX9_38 o_10 (by decide) (Nat.le_of_ble_eq_true rfl) o_11 o_12 rfl (Nat.le_of_ble_eq_true rfl) rfl rfl (fun Qc k => H Qc (fun h' w => k none h' (rl_wk (L' := [none, none]) trivial w)))
theorem bX9_init_103 {Q : Nat → Option Value → Hp → Prop} {h : Hp} {mc ms nc ns : Nat}  (H : nc ≤ mc ∧ ns ≤ ms ∧ Q 0 none h) : Wm mX9_init 1 mc ms Q 103 [none, none] [] h nc ns := by
  obtain ⟨o_1, H⟩ := H
  obtain ⟨o_2, H⟩ := H
  exact rl_vret dX9_init_103 rfl o_1 o_2 H
