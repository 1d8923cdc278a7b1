theorem bX6_init_0 {Q : Nat → Option Value → Hp → Prop} {h : Hp} {mc ms nc ns : Nat} {a0 tg_5 : Nat} {x1 : Int32} (H : ¬ (nI 10) < 0 ∧ (nI 10).toNatClampNeg ≤ 100000 ∧ nc + 1 ≤ mc ∧ ns + (nI 10).toNatClampNeg ≤ ms ∧ Wm mX6_init 4 mc ms Q 10 [some (.ref a0), some (.int x1), none] [.ref (hpZ h), .ref a0] (stN h 32 (nI 10).toNatClampNeg tg_5) (nc + 1) (ns + (nI 10).toNatClampNeg)) : Wm mX6_init 4 mc ms Q 0 [some (.ref a0), some (.int x1), none] [] h nc ns := by
  refine rl_aload_n dX6_init_0 rfl rfl ?_
  refine rl_obj dX6_init_1 lkX6_3 oi1 oi2 (by decide) (Nat.le_of_ble_eq_true rfl) ?_
  refine rl_aload_n dX6_init_4 rfl rfl ?_
  refine rl_bipush (v := nI 10) dX6_init_5 (by decide) ?_
  obtain ⟨o_1, H⟩ := H
  obtain ⟨o_2, H⟩ := H
  obtain ⟨o_3, H⟩ := H
  obtain ⟨o_4, H⟩ := H
  refine rl_newP (ci := 2) tg_5 dX6_init_7 rfl clX6_9 (by decide) o_1 rfl o_2 o_3 o_4 ?_
  exact H
theorem bX6_init_10 {Q : Nat → Option Value → Hp → Prop} {h : Hp} {mc ms nc ns : Nat} {a0 as0 as1 tg_6 : Nat} {x1 : Int32} (H : hpK h as0 = 16 ∧ ¬ (nI 8) < 0 ∧ (nI 8).toNatClampNeg ≤ 100000 ∧ nc + 1 ≤ mc ∧ ns + (nI 8).toNatClampNeg ≤ ms ∧ Wm mX6_init 4 mc ms Q 19 [some (.ref a0), some (.int x1), none] [.ref (hpZ (stP h as0 8 (some as1))), .ref a0] (stN (stP h as0 8 (some as1)) 33 (nI 8).toNatClampNeg tg_6) (nc + 1) (ns + (nI 8).toNatClampNeg)) : Wm mX6_init 4 mc ms Q 10 [some (.ref a0), some (.int x1), none] [.ref as1, .ref as0] h nc ns := by
  obtain ⟨o_1, H⟩ := H
  refine rl_putP (k := 8) cfX6 dX6_init_10 flX6_11 (by decide) rfl o_1 (Or.inr ⟨rfl, rfl⟩) rfl rfl ?_
  refine rl_aload_n dX6_init_13 rfl rfl ?_
  refine rl_bipush (v := nI 8) dX6_init_14 (by decide) ?_
  obtain ⟨o_2, H⟩ := H
  obtain ⟨o_3, H⟩ := H
  obtain ⟨o_4, H⟩ := H
  obtain ⟨o_5, H⟩ := H
  refine rl_newP (ci := 3) tg_6 dX6_init_16 rfl clX6_17 (by decide) o_2 rfl o_3 o_4 o_5 ?_
  exact H
theorem bX6_init_19 {Q : Nat → Option Value → Hp → Prop} {h : Hp} {mc ms nc ns : Nat} {a0 as0 as1 tg_7 : Nat} {x1 : Int32} (H : hpK h as0 = 16 ∧ hpK h a0 = 16 ∧ ¬ x1 < 0 ∧ (x1).toNatClampNeg ≤ 100000 ∧ nc + 1 ≤ mc ∧ ns + (x1).toNatClampNeg ≤ ms ∧ Wm mX6_init 4 mc ms Q 32 [some (.ref a0), some (.int x1), none] [.ref (hpZ (stI (stP h as0 9 (some as1)) a0 0 x1)), .ref a0] (stN (stI (stP h as0 9 (some as1)) a0 0 x1) 37 (x1).toNatClampNeg tg_7) (nc + 1) (ns + (x1).toNatClampNeg)) : Wm mX6_init 4 mc ms Q 19 [some (.ref a0), some (.int x1), none] [.ref as1, .ref as0] h nc ns := by
  obtain ⟨o_1, H⟩ := H
  refine rl_putP (k := 9) cfX6 dX6_init_19 flX6_19 (by decide) rfl o_1 (Or.inr ⟨rfl, rfl⟩) rfl rfl ?_
  refine rl_aload_n dX6_init_22 rfl rfl ?_
  refine rl_iload_n dX6_init_23 rfl rfl ?_
  obtain ⟨o_2, H⟩ := H
  refine rl_putI (k := 0) cfX6 dX6_init_24 flX6_23 (by decide) rfl o_2 (Or.inr ⟨rfl, rfl⟩) ?_
  refine rl_aload_n dX6_init_27 rfl rfl ?_
  refine rl_iload_n dX6_init_28 rfl rfl ?_
  obtain ⟨o_3, H⟩ := H
  obtain ⟨o_4, H⟩ := H
  obtain ⟨o_5, H⟩ := H
  obtain ⟨o_6, H⟩ := H
  refine rl_newP (ci := 7) tg_7 dX6_init_29 rfl clX6_27 (by decide) o_3 rfl o_4 o_5 o_6 ?_
  exact H
theorem bX6_init_32 {Q : Nat → Option Value → Hp → Prop} {h : Hp} {mc ms nc ns : Nat} {a0 as0 as1 : Nat} {x1 : Int32} (H : hpK h as0 = 16 ∧ Wm mX6_init 4 mc ms Q 37 [some (.ref a0), some (.int x1), some (.int (nI 0))] [] (stP h as0 7 (some as1)) nc ns) : Wm mX6_init 4 mc ms Q 32 [some (.ref a0), some (.int x1), none] [.ref as1, .ref as0] h nc ns := by
  obtain ⟨o_1, H⟩ := H
  refine rl_putP (k := 7) cfX6 dX6_init_32 flX6_29 (by decide) rfl o_1 (Or.inr ⟨rfl, rfl⟩) rfl rfl ?_
  refine rl_iconst (v := nI 0) dX6_init_35 (by decide) ?_
  refine rl_istore_n (L' := [some (.ref a0), some (.int x1), some (.int (nI 0))]) dX6_init_36 rfl (Nat.le_of_ble_eq_true rfl) rfl ?_
  exact H
theorem bX6_init_37 {Q : Nat → Option Value → Hp → Prop} {h : Hp} {mc ms nc ns : Nat} {a0 tg_7 : Nat} {x1 x2 : Int32} (H : ((x1 ≤ x2 → Wm mX6_init 4 mc ms Q 64 [some (.ref a0), some (.int x1), some (.int (nI 0))] [] h nc ns) ∧ (¬ x1 ≤ x2 → hpK h a0 = 16 ∧ ∃ p_3 : Nat, hpP h a0 7 = some p_3 ∧ (nc + 1 ≤ mc ∧ ns + 1 ≤ ms ∧ Wm mX6_init 4 mc ms Q 50 [some (.ref a0), some (.int x1), some (.int x2)] [.ref (hpZ h), .int x2, .ref p_3] (stN h 17 0 tg_7) (nc + 1) (ns + 1))))) : Wm mX6_init 4 mc ms Q 37 [some (.ref a0), some (.int x1), some (.int x2)] [] h nc ns := by
  refine rl_iload_n dX6_init_37 rfl rfl ?_
  refine rl_iload_n dX6_init_38 rfl rfl ?_
  refine rl_icmp_ge (tgt := 62) dX6_init_39 (by decide) (fun c_1 => ?_) (fun c_1 => ?_)
  · have H := H.1 c_1
    refine rl_iconst (v := nI 0) dX6_init_62 (by decide) ?_
    refine rl_istore_n (L' := [some (.ref a0), some (.int x1), some (.int (nI 0))]) dX6_init_63 rfl (Nat.le_of_ble_eq_true rfl) rfl ?_
    exact H
  · have H := H.2 c_1
    refine rl_aload_n dX6_init_42 rfl rfl ?_
    obtain ⟨o_2, H⟩ := H
    obtain ⟨p_3, e_4, H⟩ := H
    refine rl_getP (k := 7) cfX6 dX6_init_43 flX6_29 (by decide) rfl o_2 e_4 ?_
    refine rl_iload_n dX6_init_46 rfl rfl ?_
    obtain ⟨o_5, H⟩ := H
    obtain ⟨o_6, H⟩ := H
    refine rl_new tg_7 cfX7 cgX7 dX6_init_47 clX6_27 o_5 o_6 ?_
    exact H
theorem bX6_init_50 {Q : Nat → Option Value → Hp → Prop} {h : Hp} {mc ms nc ns : Nat} {a0 as0 as2 mcn msn : Nat} {x1 x2 xs1 : Int32} (H : nc + mcn ≤ mc ∧ ns + msn ≤ ms ∧ CKv mX7_init 2 mcn msn [some (.ref as2), some (.int x1), none] h (fun h' => Wm mX6_init 4 mc ms Q 55 [some (.ref a0), some (.int x1), some (.int x2)] [.ref as2, .int xs1, .ref as0] h' (nc + mcn) (ns + msn))) : Wm mX6_init 4 mc ms Q 50 [some (.ref a0), some (.int x1), some (.int x2)] [.ref as2, .int xs1, .ref as0] h nc ns := by
  refine rl_dup dX6_init_50 rfl ?_
  refine rl_iload_n dX6_init_51 rfl rfl ?_
  obtain ⟨o_1, H⟩ := H
  obtain ⟨o_2, H⟩ := H
  exact rl_callI (As := [.int x1]) (rest := [.ref as2, .int xs1, .ref as0]) mfX7_init dX6_init_52 lkX6_33 (by decide) (Nat.le_of_ble_eq_true rfl) o_1 o_2 rfl (Nat.le_of_ble_eq_true rfl) rfl rfl (fun Qc k => H Qc (fun h' w => k none h' w))
theorem bX6_init_55 {Q : Nat → Option Value → Hp → Prop} {h : Hp} {mc ms nc ns : Nat} {a0 as0 as2 : Nat} {x1 x2 xs1 : Int32} (H : hpK h as0 = 37 ∧ vp_in xs1 (hpN h as0) ∧ hpK h as2 = 17 ∧ Wm mX6_init 4 mc ms Q 37 [some (.ref a0), some (.int x1), some (.int (x2 + nI 1))] [] (stP h as0 (xs1).toNatClampNeg (some as2)) nc ns) : Wm mX6_init 4 mc ms Q 55 [some (.ref a0), some (.int x1), some (.int x2)] [.ref as2, .int xs1, .ref as0] h nc ns := by
  obtain ⟨o_1, H⟩ := H
  obtain ⟨o_2, H⟩ := H
  obtain ⟨o_3, H⟩ := H
  refine rl_aast (ci := 7) dX6_init_55 rfl o_1 o_2 o_3 ?_
  refine rl_iinc (v := x2 + nI 1) (L' := [some (.ref a0), some (.int x1), some (.int (x2 + nI 1))]) dX6_init_56 rfl (congrArg (fun z => x2 + z) (by decide)) (Nat.le_of_ble_eq_true rfl) rfl ?_
  refine rl_goto (tgt := 37) dX6_init_59 (by decide) ?_
  exact H
theorem bX6_init_64 {Q : Nat → Option Value → Hp → Prop} {h : Hp} {mc ms nc ns : Nat} {a0 tg_7 : Nat} {x1 x2 : Int32} (H : (((nI 10) ≤ x2 → Wm mX6_init 4 mc ms Q 91 [some (.ref a0), some (.int x1), some (.int (nI 0))] [] h nc ns) ∧ (¬ (nI 10) ≤ x2 → hpK h a0 = 16 ∧ ∃ p_3 : Nat, hpP h a0 8 = some p_3 ∧ (nc + 1 ≤ mc ∧ ns + 5 ≤ ms ∧ Wm mX6_init 4 mc ms Q 78 [some (.ref a0), some (.int x1), some (.int x2)] [.ref (hpZ h), .int x2, .ref p_3] (stN h 12 0 tg_7) (nc + 1) (ns + 5))))) : Wm mX6_init 4 mc ms Q 64 [some (.ref a0), some (.int x1), some (.int x2)] [] h nc ns := by
  refine rl_iload_n dX6_init_64 rfl rfl ?_
  refine rl_bipush (v := nI 10) dX6_init_65 (by decide) ?_
  refine rl_icmp_ge (tgt := 89) dX6_init_67 (by decide) (fun c_1 => ?_) (fun c_1 => ?_)
  · have H := H.1 c_1
    refine rl_iconst (v := nI 0) dX6_init_89 (by decide) ?_
    refine rl_istore_n (L' := [some (.ref a0), some (.int x1), some (.int (nI 0))]) dX6_init_90 rfl (Nat.le_of_ble_eq_true rfl) rfl ?_
    exact H
  · have H := H.2 c_1
    refine rl_aload_n dX6_init_70 rfl rfl ?_
    obtain ⟨o_2, H⟩ := H
    obtain ⟨p_3, e_4, H⟩ := H
    refine rl_getP (k := 8) cfX6 dX6_init_71 flX6_11 (by decide) rfl o_2 e_4 ?_
    refine rl_iload_n dX6_init_74 rfl rfl ?_
    obtain ⟨o_5, H⟩ := H
    obtain ⟨o_6, H⟩ := H
    refine rl_new tg_7 cfX2 cgX2 dX6_init_75 clX6_9 o_5 o_6 ?_
    exact H
theorem bX6_init_78 {Q : Nat → Option Value → Hp → Prop} {h : Hp} {mc ms nc ns : Nat} {a0 as0 as2 : Nat} {x1 x2 xs1 : Int32} (H : nc + 0 ≤ mc ∧ ns + 0 ≤ ms ∧ CKv mX2_init 1 0 0 [some (.ref as2)] h (fun h' => Wm mX6_init 4 mc ms Q 82 [some (.ref a0), some (.int x1), some (.int x2)] [.ref as2, .int xs1, .ref as0] h' nc ns)) : Wm mX6_init 4 mc ms Q 78 [some (.ref a0), some (.int x1), some (.int x2)] [.ref as2, .int xs1, .ref as0] h nc ns := by
  refine rl_dup dX6_init_78 rfl ?_
  obtain ⟨o_1, H⟩ := H
  obtain ⟨o_2, H⟩ := H
  exact rl_callN (As := []) (rest := [.ref as2, .int xs1, .ref as0]) mfX2_init dX6_init_79 (by decide) (by decide) (Nat.le_of_ble_eq_true rfl) o_1 o_2 rfl (Nat.le_of_ble_eq_true rfl) rfl rfl (fun Qc k => H Qc (fun h' w => k none h' w))
theorem bX6_init_82 {Q : Nat → Option Value → Hp → Prop} {h : Hp} {mc ms nc ns : Nat} {a0 as0 as2 : Nat} {x1 x2 xs1 : Int32} (H : hpK h as0 = 32 ∧ vp_in xs1 (hpN h as0) ∧ hpK h as2 = 12 ∧ Wm mX6_init 4 mc ms Q 64 [some (.ref a0), some (.int x1), some (.int (x2 + nI 1))] [] (stP h as0 (xs1).toNatClampNeg (some as2)) nc ns) : Wm mX6_init 4 mc ms Q 82 [some (.ref a0), some (.int x1), some (.int x2)] [.ref as2, .int xs1, .ref as0] h nc ns := by
  obtain ⟨o_1, H⟩ := H
  obtain ⟨o_2, H⟩ := H
  obtain ⟨o_3, H⟩ := H
  refine rl_aast (ci := 2) dX6_init_82 rfl o_1 o_2 o_3 ?_
  refine rl_iinc (v := x2 + nI 1) (L' := [some (.ref a0), some (.int x1), some (.int (x2 + nI 1))]) dX6_init_83 rfl (congrArg (fun z => x2 + z) (by decide)) (Nat.le_of_ble_eq_true rfl) rfl ?_
  refine rl_goto (tgt := 64) dX6_init_86 (by decide) ?_
  exact H
theorem bX6_init_91 {Q : Nat → Option Value → Hp → Prop} {h : Hp} {mc ms nc ns : Nat} {a0 tg_9 : Nat} {x1 x2 : Int32} (H : (((nI 8) ≤ x2 → nc ≤ mc ∧ ns ≤ ms ∧ Q 0 none h) ∧ (¬ (nI 8) ≤ x2 → hpK h a0 = 16 ∧ ∃ p_5 : Nat, hpP h a0 9 = some p_5 ∧ (nc + 1 ≤ mc ∧ ns + 4 ≤ ms ∧ Wm mX6_init 4 mc ms Q 105 [some (.ref a0), some (.int x1), some (.int x2)] [.ref (hpZ h), .int x2, .ref p_5] (stN h 13 0 tg_9) (nc + 1) (ns + 4))))) : Wm mX6_init 4 mc ms Q 91 [some (.ref a0), some (.int x1), some (.int x2)] [] h nc ns := by
  refine rl_iload_n dX6_init_91 rfl rfl ?_
  refine rl_bipush (v := nI 8) dX6_init_92 (by decide) ?_
  refine rl_icmp_ge (tgt := 117) dX6_init_94 (by decide) (fun c_1 => ?_) (fun c_1 => ?_)
  · have H := H.1 c_1
    obtain ⟨o_2, H⟩ := H
    obtain ⟨o_3, H⟩ := H
    exact rl_vret dX6_init_117 rfl o_2 o_3 H
  · have H := H.2 c_1
    refine rl_aload_n dX6_init_97 rfl rfl ?_
    obtain ⟨o_4, H⟩ := H
    obtain ⟨p_5, e_6, H⟩ := H
    refine rl_getP (k := 9) cfX6 dX6_init_98 flX6_19 (by decide) rfl o_4 e_6 ?_
    refine rl_iload_n dX6_init_101 rfl rfl ?_
    obtain ⟨o_7, H⟩ := H
    obtain ⟨o_8, H⟩ := H
    refine rl_new tg_9 cfX3 cgX3 dX6_init_102 clX6_17 o_7 o_8 ?_
    exact H
theorem bX6_init_105 {Q : Nat → Option Value → Hp → Prop} {h : Hp} {mc ms nc ns : Nat} {a0 as0 as2 mcn msn : Nat} {x1 x2 xs1 : Int32} (H : nc + mcn ≤ mc ∧ ns + msn ≤ ms ∧ CKv mX3_init 3 mcn msn [some (.ref as2), some (.int x1)] h (fun h' => Wm mX6_init 4 mc ms Q 110 [some (.ref a0), some (.int x1), some (.int x2)] [.ref as2, .int xs1, .ref as0] h' (nc + mcn) (ns + msn))) : Wm mX6_init 4 mc ms Q 105 [some (.ref a0), some (.int x1), some (.int x2)] [.ref as2, .int xs1, .ref as0] h nc ns := by
  refine rl_dup dX6_init_105 rfl ?_
  refine rl_iload_n dX6_init_106 rfl rfl ?_
  obtain ⟨o_1, H⟩ := H
  obtain ⟨o_2, H⟩ := H
  exact rl_callI (As := [.int x1]) (rest := [.ref as2, .int xs1, .ref as0]) mfX3_init dX6_init_107 lkX6_37 (by decide) (Nat.le_of_ble_eq_true rfl) o_1 o_2 rfl (Nat.le_of_ble_eq_true rfl) rfl rfl (fun Qc k => H Qc (fun h' w => k none h' w))
theorem bX6_init_110 {Q : Nat → Option Value → Hp → Prop} {h : Hp} {mc ms nc ns : Nat} {a0 as0 as2 : Nat} {x1 x2 xs1 : Int32} (H : hpK h as0 = 33 ∧ vp_in xs1 (hpN h as0) ∧ hpK h as2 = 13 ∧ Wm mX6_init 4 mc ms Q 91 [some (.ref a0), some (.int x1), some (.int (x2 + nI 1))] [] (stP h as0 (xs1).toNatClampNeg (some as2)) nc ns) : Wm mX6_init 4 mc ms Q 110 [some (.ref a0), some (.int x1), some (.int x2)] [.ref as2, .int xs1, .ref as0] h nc ns := by
  obtain ⟨o_1, H⟩ := H
  obtain ⟨o_2, H⟩ := H
  obtain ⟨o_3, H⟩ := H
  refine rl_aast (ci := 3) dX6_init_110 rfl o_1 o_2 o_3 ?_
  refine rl_iinc (v := x2 + nI 1) (L' := [some (.ref a0), some (.int x1), some (.int (x2 + nI 1))]) dX6_init_111 rfl (congrArg (fun z => x2 + z) (by decide)) (Nat.le_of_ble_eq_true rfl) rfl ?_
  refine rl_goto (tgt := 91) dX6_init_114 (by decide) ?_
  exact H
theorem bX6_beginAnew_0 {Q : Nat → Option Value → Hp → Prop} {h : Hp} {a0 : Nat} {x1 x2 x3 : Int32} (H : hpK h a0 = 16 ∧ Wm mX6_beginAnew 2 0 0 Q 33 [some (.ref a0), none, none, none, some (.int (nI 0))] [] (stI (stI (stI (stI (stI (stI h a0 1 x1) a0 2 x2) a0 3 x3) a0 4 (nI 0)) a0 5 (nI 0)) a0 6 (nI 0)) 0 0) : Wm mX6_beginAnew 2 0 0 Q 0 [some (.ref a0), some (.int x1), some (.int x2), some (.int x3), none] [] h 0 0 := by
  refine rl_aload_n dX6_beginAnew_0 rfl rfl ?_
  refine rl_iload_n dX6_beginAnew_1 rfl rfl ?_
  obtain ⟨o_1, H⟩ := H
  refine rl_putI (k := 1) cfX6 dX6_beginAnew_2 flX6_38 (by decide) rfl o_1 (Or.inl rfl) ?_
  refine rl_aload_n dX6_beginAnew_5 rfl rfl ?_
  refine rl_iload_n dX6_beginAnew_6 rfl rfl ?_
  refine rl_putI (k := 2) cfX6 dX6_beginAnew_7 flX6_41 (by decide) rfl o_1 (Or.inl rfl) ?_
  refine rl_aload_n dX6_beginAnew_10 rfl rfl ?_
  refine rl_iload_n dX6_beginAnew_11 rfl rfl ?_
  refine rl_putI (k := 3) cfX6 dX6_beginAnew_12 flX6_44 (by decide) rfl o_1 (Or.inl rfl) ?_
  refine rl_aload_n dX6_beginAnew_15 rfl rfl ?_
  refine rl_iconst (v := nI 0) dX6_beginAnew_16 (by decide) ?_
  refine rl_putI (k := 4) cfX6 dX6_beginAnew_17 flX6_47 (by decide) rfl o_1 (Or.inl rfl) ?_
  refine rl_aload_n dX6_beginAnew_20 rfl rfl ?_
  refine rl_iconst (v := nI 0) dX6_beginAnew_21 (by decide) ?_
  refine rl_putI (k := 5) cfX6 dX6_beginAnew_22 flX6_50 (by decide) rfl o_1 (Or.inl rfl) ?_
  refine rl_aload_n dX6_beginAnew_25 rfl rfl ?_
  refine rl_iconst (v := nI 0) dX6_beginAnew_26 (by decide) ?_
  refine rl_putI (k := 6) cfX6 dX6_beginAnew_27 flX6_53 (by decide) rfl o_1 (Or.inl rfl) ?_
  refine rl_iconst (v := nI 0) dX6_beginAnew_30 (by decide) ?_
  refine rl_istore (L' := [some (.ref a0), some (.int x1), some (.int x2), some (.int x3), some (.int (nI 0))]) dX6_beginAnew_31 (Nat.le_of_ble_eq_true rfl) rfl ?_
  refine rl_wk (L' := [some (.ref a0), none, none, none, some (.int (nI 0))]) ⟨rfl, ⟨rfl, trivial⟩⟩ ?_
  exact H
theorem bX6_beginAnew_33 {Q : Nat → Option Value → Hp → Prop} {h : Hp} {a0 : Nat} {x4 : Int32} (H : hpK h a0 = 16 ∧ (((hpI h a0 0) ≤ x4 → Q 0 none h) ∧ (¬ (hpI h a0 0) ≤ x4 → (∃ p_3 : Nat, hpP h a0 7 = some p_3 ∧ (hpK h p_3 = 37 ∧ vp_in x4 (hpN h p_3) ∧ ∃ p_7 : Nat, hpP h p_3 (x4).toNatClampNeg = some p_7 ∧ (hpK h p_7 = 17 ∧ CKv mX7_clear 1 0 0 [some (.ref p_7), none] h (fun h' => Wm mX6_beginAnew 2 0 0 Q 52 [some (.ref a0), none, none, none, some (.int x4)] [] h' 0 0))))))) : Wm mX6_beginAnew 2 0 0 Q 33 [some (.ref a0), none, none, none, some (.int x4)] [] h 0 0 := by
  refine rl_iload dX6_beginAnew_33 rfl ?_
  refine rl_aload_n dX6_beginAnew_35 rfl rfl ?_
  obtain ⟨o_1, H⟩ := H
  refine rl_getI (k := 0) cfX6 dX6_beginAnew_36 flX6_23 (by decide) rfl o_1 ?_
  refine rl_icmp_ge (tgt := 58) dX6_beginAnew_39 (by decide) (fun c_2 => ?_) (fun c_2 => ?_)
  · have H := H.1 c_2
    exact rl_vret dX6_beginAnew_58 rfl (Nat.le_refl 0) (Nat.le_refl 0) H
  · have H := H.2 c_2
    refine rl_aload_n dX6_beginAnew_42 rfl rfl ?_
    obtain ⟨p_3, e_4, H⟩ := H
    refine rl_getP (k := 7) cfX6 dX6_beginAnew_43 flX6_29 (by decide) rfl o_1 e_4 ?_
    refine rl_iload dX6_beginAnew_46 rfl ?_
    obtain ⟨o_5, H⟩ := H
    obtain ⟨o_6, H⟩ := H
    obtain ⟨p_7, e_8, H⟩ := H
    refine rl_aald (ci := 7) dX6_beginAnew_48 rfl o_5 o_6 e_8 ?_
    obtain ⟨o_9, H⟩ := H
    exact rl_callV (As := []) (rest := []) mfX7_clear dX6_beginAnew_49 lkX6_56 o_9 (by decide) (Nat.le_of_ble_eq_true rfl) (Nat.le_refl _) (Nat.le_refl _) rfl (Nat.le_of_ble_eq_true rfl) rfl rfl (fun Qc k => H Qc (fun h' w => k none h' w))
theorem bX6_beginAnew_52 {Q : Nat → Option Value → Hp → Prop} {h : Hp} {a0 : Nat} {x4 : Int32} (H : Wm mX6_beginAnew 2 0 0 Q 33 [some (.ref a0), none, none, none, some (.int (x4 + nI 1))] [] h 0 0) : Wm mX6_beginAnew 2 0 0 Q 52 [some (.ref a0), none, none, none, some (.int x4)] [] h 0 0 := by
  refine rl_iinc (v := x4 + nI 1) (L' := [some (.ref a0), none, none, none, some (.int (x4 + nI 1))]) dX6_beginAnew_52 rfl (congrArg (fun z => x4 + z) (by decide)) (Nat.le_of_ble_eq_true rfl) rfl ?_
  refine rl_goto (tgt := 33) dX6_beginAnew_55 (by decide) ?_
  exact H
theorem bX6_trueValue_0 {Q : Nat → Option Value → Hp → Prop} {h : Hp} {a0 : Nat} (H : hpK h a0 = 16 ∧ Wm mX6_trueValue 1 0 0 Q 7 [some (.ref a0), some (.int (hpI h a0 3)), some (.int (nI 0)), none] [] h 0 0) : Wm mX6_trueValue 1 0 0 Q 0 [some (.ref a0), none, none, none] [] h 0 0 := by
  refine rl_aload_n dX6_trueValue_0 rfl rfl ?_
  obtain ⟨o_1, H⟩ := H
  refine rl_getI (k := 3) cfX6 dX6_trueValue_1 flX6_44 (by decide) rfl o_1 ?_
  refine rl_istore_n (L' := [some (.ref a0), some (.int (hpI h a0 3)), none, none]) dX6_trueValue_4 rfl (Nat.le_of_ble_eq_true rfl) rfl ?_
  refine rl_iconst (v := nI 0) dX6_trueValue_5 (by decide) ?_
  refine rl_istore_n (L' := [some (.ref a0), some (.int (hpI h a0 3)), some (.int (nI 0)), none]) dX6_trueValue_6 rfl (Nat.le_of_ble_eq_true rfl) rfl ?_
  exact H
theorem bX6_trueValue_7 {Q : Nat → Option Value → Hp → Prop} {h : Hp} {a0 : Nat} {x1 x2 : Int32} (H : hpK h a0 = 16 ∧ (((hpI h a0 0) ≤ x2 → Q 0 (some (.int x1)) h) ∧ (¬ (hpI h a0 0) ≤ x2 → CKr mX6_recordOf 0 0 0 [some (.ref a0), some (.int x2)] h (fun v h' => Wm mX6_trueValue 1 0 0 Q 20 [some (.ref a0), some (.int x1), some (.int x2), none] [.ref v] h' 0 0)))) : Wm mX6_trueValue 1 0 0 Q 7 [some (.ref a0), some (.int x1), some (.int x2), none] [] h 0 0 := by
  refine rl_iload_n dX6_trueValue_7 rfl rfl ?_
  refine rl_aload_n dX6_trueValue_8 rfl rfl ?_
  obtain ⟨o_1, H⟩ := H
  refine rl_getI (k := 0) cfX6 dX6_trueValue_9 flX6_23 (by decide) rfl o_1 ?_
  refine rl_icmp_ge (tgt := 43) dX6_trueValue_12 (by decide) (fun c_2 => ?_) (fun c_2 => ?_)
  · have H := H.1 c_2
    refine rl_iload_n dX6_trueValue_43 rfl rfl ?_
    exact rl_iret dX6_trueValue_44 rfl (Nat.le_refl 0) (Nat.le_refl 0) H
  · have H := H.2 c_2
    refine rl_aload_n dX6_trueValue_15 rfl rfl ?_
    refine rl_iload_n dX6_trueValue_16 rfl rfl ?_
    exact rl_callV (As := [.int x2]) (rest := []) mfX6_recordOf dX6_trueValue_17 lkX6_73 o_1 (by decide) (Nat.le_of_ble_eq_true rfl) (Nat.le_refl _) (Nat.le_refl _) rfl (Nat.le_of_ble_eq_true rfl) rfl rfl (fun Qc k => H Qc (fun v h' w => k (some (.ref v)) h' w))
theorem bX6_trueValue_20 {Q : Nat → Option Value → Hp → Prop} {h : Hp} {a0 as0 : Nat} {x1 x2 : Int32} (H : hpK h as0 = 15 ∧ ∃ p_2 : Nat, hpP h as0 2 = some p_2 ∧ (hpK h p_2 = 1 ∧ vp_in (nI 0) (hpN h p_2) ∧ vp_in (nI 1) (hpN h p_2) ∧ Wm mX6_trueValue 1 0 0 Q 7 [some (.ref a0), some (.int (x1 + ((hpI h p_2 (nI 0).toNatClampNeg) - (hpI h p_2 (nI 1).toNatClampNeg)))), some (.int (x2 + nI 1)), none] [] h 0 0)) : Wm mX6_trueValue 1 0 0 Q 20 [some (.ref a0), some (.int x1), some (.int x2), none] [.ref as0] h 0 0 := by
  refine rl_astore_n (L' := [some (.ref a0), some (.int x1), some (.int x2), some (.ref as0)]) dX6_trueValue_20 rfl (Nat.le_of_ble_eq_true rfl) rfl ?_
  refine rl_iload_n dX6_trueValue_21 rfl rfl ?_
  refine rl_aload_n dX6_trueValue_22 rfl rfl ?_
  obtain ⟨o_1, H⟩ := H
  obtain ⟨p_2, e_3, H⟩ := H
  refine rl_getP (k := 2) cfX5 dX6_trueValue_23 flX6_77 (by decide) rfl o_1 e_3 ?_
  refine rl_iconst (v := nI 0) dX6_trueValue_26 (by decide) ?_
  obtain ⟨o_4, H⟩ := H
  obtain ⟨o_5, H⟩ := H
  refine rl_iald dX6_trueValue_27 (Or.inl o_4) o_5 ?_
  refine rl_aload_n dX6_trueValue_28 rfl rfl ?_
  refine rl_getP (k := 2) cfX5 dX6_trueValue_29 flX6_77 (by decide) rfl o_1 e_3 ?_
  refine rl_iconst (v := nI 1) dX6_trueValue_32 (by decide) ?_
  obtain ⟨o_6, H⟩ := H
  refine rl_iald dX6_trueValue_33 (Or.inl o_4) o_6 ?_
  refine rl_isub dX6_trueValue_34 ?_
  refine rl_iadd dX6_trueValue_35 ?_
  refine rl_istore_n (L' := [some (.ref a0), some (.int (x1 + ((hpI h p_2 (nI 0).toNatClampNeg) - (hpI h p_2 (nI 1).toNatClampNeg)))), some (.int x2), some (.ref as0)]) dX6_trueValue_36 rfl (Nat.le_of_ble_eq_true rfl) rfl ?_
  refine rl_iinc (v := x2 + nI 1) (L' := [some (.ref a0), some (.int (x1 + ((hpI h p_2 (nI 0).toNatClampNeg) - (hpI h p_2 (nI 1).toNatClampNeg)))), some (.int (x2 + nI 1)), some (.ref as0)]) dX6_trueValue_37 rfl (congrArg (fun z => x2 + z) (by decide)) (Nat.le_of_ble_eq_true rfl) rfl ?_
  refine rl_goto (tgt := 7) dX6_trueValue_40 (by decide) ?_
  refine rl_wk (L' := [some (.ref a0), some (.int (x1 + ((hpI h p_2 (nI 0).toNatClampNeg) - (hpI h p_2 (nI 1).toNatClampNeg)))), some (.int (x2 + nI 1)), none]) ⟨rfl, ⟨rfl, ⟨rfl, trivial⟩⟩⟩ ?_
  exact H
theorem bX6_recordOf_0 {Q : Nat → Option Value → Hp → Prop} {h : Hp} {a0 : Nat} {x1 : Int32} (H : hpK h a0 = 16 ∧ ∃ p_2 : Nat, hpP h a0 7 = some p_2 ∧ (hpK h p_2 = 37 ∧ vp_in x1 (hpN h p_2) ∧ ∃ p_6 : Nat, hpP h p_2 (x1).toNatClampNeg = some p_6 ∧ (hpK h p_6 = 17 ∧ ∃ p_9 : Nat, hpP h p_6 0 = some p_9 ∧ (hpK h p_9 = 35 ∧ vp_in x1 (hpN h p_9) ∧ ∃ p_13 : Nat, hpP h p_9 (x1).toNatClampNeg = some p_13 ∧ (Q 0 (some (.ref p_13)) h))))) : Wm mX6_recordOf 0 0 0 Q 0 [some (.ref a0), some (.int x1)] [] h 0 0 := by
  refine rl_aload_n dX6_recordOf_0 rfl rfl ?_
  obtain ⟨o_1, H⟩ := H
  obtain ⟨p_2, e_3, H⟩ := H
  refine rl_getP (k := 7) cfX6 dX6_recordOf_1 flX6_29 (by decide) rfl o_1 e_3 ?_
  refine rl_iload_n dX6_recordOf_4 rfl rfl ?_
  obtain ⟨o_4, H⟩ := H
  obtain ⟨o_5, H⟩ := H
  obtain ⟨p_6, e_7, H⟩ := H
  refine rl_aald (ci := 7) dX6_recordOf_5 rfl o_4 o_5 e_7 ?_
  obtain ⟨o_8, H⟩ := H
  obtain ⟨p_9, e_10, H⟩ := H
  refine rl_getP (k := 0) cfX7 dX6_recordOf_6 flX6_69 (by decide) rfl o_8 e_10 ?_
  refine rl_iload_n dX6_recordOf_9 rfl rfl ?_
  obtain ⟨o_11, H⟩ := H
  obtain ⟨o_12, H⟩ := H
  obtain ⟨p_13, e_14, H⟩ := H
  refine rl_aald (ci := 5) dX6_recordOf_10 rfl o_11 o_12 e_14 ?_
  exact rl_aret dX6_recordOf_11 rfl (Nat.le_refl 0) (Nat.le_refl 0) H
theorem bX6_copyFrom_0 {Q : Nat → Option Value → Hp → Prop} {h : Hp} {a0 a1 : Nat} (H : hpK h a1 = 16 ∧ hpK h a0 = 16 ∧ Wm mX6_copyFrom 4 0 0 Q 50 [some (.ref a0), some (.ref a1), some (.int (nI 0))] [] (stI (stI (stI (stI (stI (stI h a0 1 (hpI h a1 1)) a0 2 (hpI (stI h a0 1 (hpI h a1 1)) a1 2)) a0 3 (hpI (stI (stI h a0 1 (hpI h a1 1)) a0 2 (hpI (stI h a0 1 (hpI h a1 1)) a1 2)) a1 3)) a0 4 (hpI (stI (stI (stI h a0 1 (hpI h a1 1)) a0 2 (hpI (stI h a0 1 (hpI h a1 1)) a1 2)) a0 3 (hpI (stI (stI h a0 1 (hpI h a1 1)) a0 2 (hpI (stI h a0 1 (hpI h a1 1)) a1 2)) a1 3)) a1 4)) a0 5 (hpI (stI (stI (stI (stI h a0 1 (hpI h a1 1)) a0 2 (hpI (stI h a0 1 (hpI h a1 1)) a1 2)) a0 3 (hpI (stI (stI h a0 1 (hpI h a1 1)) a0 2 (hpI (stI h a0 1 (hpI h a1 1)) a1 2)) a1 3)) a0 4 (hpI (stI (stI (stI h a0 1 (hpI h a1 1)) a0 2 (hpI (stI h a0 1 (hpI h a1 1)) a1 2)) a0 3 (hpI (stI (stI h a0 1 (hpI h a1 1)) a0 2 (hpI (stI h a0 1 (hpI h a1 1)) a1 2)) a1 3)) a1 4)) a1 5)) a0 6 (hpI (stI (stI (stI (stI (stI h a0 1 (hpI h a1 1)) a0 2 (hpI (stI h a0 1 (hpI h a1 1)) a1 2)) a0 3 (hpI (stI (stI h a0 1 (hpI h a1 1)) a0 2 (hpI (stI h a0 1 (hpI h a1 1)) a1 2)) a1 3)) a0 4 (hpI (stI (stI (stI h a0 1 (hpI h a1 1)) a0 2 (hpI (stI h a0 1 (hpI h a1 1)) a1 2)) a0 3 (hpI (stI (stI h a0 1 (hpI h a1 1)) a0 2 (hpI (stI h a0 1 (hpI h a1 1)) a1 2)) a1 3)) a1 4)) a0 5 (hpI (stI (stI (stI (stI h a0 1 (hpI h a1 1)) a0 2 (hpI (stI h a0 1 (hpI h a1 1)) a1 2)) a0 3 (hpI (stI (stI h a0 1 (hpI h a1 1)) a0 2 (hpI (stI h a0 1 (hpI h a1 1)) a1 2)) a1 3)) a0 4 (hpI (stI (stI (stI h a0 1 (hpI h a1 1)) a0 2 (hpI (stI h a0 1 (hpI h a1 1)) a1 2)) a0 3 (hpI (stI (stI h a0 1 (hpI h a1 1)) a0 2 (hpI (stI h a0 1 (hpI h a1 1)) a1 2)) a1 3)) a1 4)) a1 5)) a1 6)) 0 0) : Wm mX6_copyFrom 4 0 0 Q 0 [some (.ref a0), some (.ref a1), none] [] h 0 0 := by
  refine rl_aload_n dX6_copyFrom_0 rfl rfl ?_
  refine rl_aload_n dX6_copyFrom_1 rfl rfl ?_
  obtain ⟨o_1, H⟩ := H
  refine rl_getI (k := 1) cfX6 dX6_copyFrom_2 flX6_38 (by decide) rfl o_1 ?_
  obtain ⟨o_2, H⟩ := H
  refine rl_putI (k := 1) cfX6 dX6_copyFrom_5 flX6_38 (by decide) rfl o_2 (Or.inl rfl) ?_
  refine rl_aload_n dX6_copyFrom_8 rfl rfl ?_
  refine rl_aload_n dX6_copyFrom_9 rfl rfl ?_
  refine rl_getI (k := 2) cfX6 dX6_copyFrom_10 flX6_41 (by decide) rfl o_1 ?_
  refine rl_putI (k := 2) cfX6 dX6_copyFrom_13 flX6_41 (by decide) rfl o_2 (Or.inl rfl) ?_
  refine rl_aload_n dX6_copyFrom_16 rfl rfl ?_
  refine rl_aload_n dX6_copyFrom_17 rfl rfl ?_
  refine rl_getI (k := 3) cfX6 dX6_copyFrom_18 flX6_44 (by decide) rfl o_1 ?_
  refine rl_putI (k := 3) cfX6 dX6_copyFrom_21 flX6_44 (by decide) rfl o_2 (Or.inl rfl) ?_
  refine rl_aload_n dX6_copyFrom_24 rfl rfl ?_
  refine rl_aload_n dX6_copyFrom_25 rfl rfl ?_
  refine rl_getI (k := 4) cfX6 dX6_copyFrom_26 flX6_47 (by decide) rfl o_1 ?_
  refine rl_putI (k := 4) cfX6 dX6_copyFrom_29 flX6_47 (by decide) rfl o_2 (Or.inl rfl) ?_
  refine rl_aload_n dX6_copyFrom_32 rfl rfl ?_
  refine rl_aload_n dX6_copyFrom_33 rfl rfl ?_
  refine rl_getI (k := 5) cfX6 dX6_copyFrom_34 flX6_50 (by decide) rfl o_1 ?_
  refine rl_putI (k := 5) cfX6 dX6_copyFrom_37 flX6_50 (by decide) rfl o_2 (Or.inl rfl) ?_
  refine rl_aload_n dX6_copyFrom_40 rfl rfl ?_
  refine rl_aload_n dX6_copyFrom_41 rfl rfl ?_
  refine rl_getI (k := 6) cfX6 dX6_copyFrom_42 flX6_53 (by decide) rfl o_1 ?_
  refine rl_putI (k := 6) cfX6 dX6_copyFrom_45 flX6_53 (by decide) rfl o_2 (Or.inl rfl) ?_
  refine rl_iconst (v := nI 0) dX6_copyFrom_48 (by decide) ?_
  refine rl_istore_n (L' := [some (.ref a0), some (.ref a1), some (.int (nI 0))]) dX6_copyFrom_49 rfl (Nat.le_of_ble_eq_true rfl) rfl ?_
  exact H
theorem bX6_copyFrom_50 {Q : Nat → Option Value → Hp → Prop} {h : Hp} {a0 a1 : Nat} {x2 : Int32} (H : hpK h a0 = 16 ∧ (((hpI h a0 0) ≤ x2 → Wm mX6_copyFrom 4 0 0 Q 81 [some (.ref a0), some (.ref a1), some (.int (nI 0))] [] h 0 0) ∧ (¬ (hpI h a0 0) ≤ x2 → (∃ p_3 : Nat, hpP h a0 7 = some p_3 ∧ (hpK h p_3 = 37 ∧ vp_in x2 (hpN h p_3) ∧ ∃ p_7 : Nat, hpP h p_3 (x2).toNatClampNeg = some p_7 ∧ (hpK h a1 = 16 ∧ ∃ p_10 : Nat, hpP h a1 7 = some p_10 ∧ (hpK h p_10 = 37 ∧ vp_in x2 (hpN h p_10) ∧ ∃ p_14 : Nat, hpP h p_10 (x2).toNatClampNeg = some p_14 ∧ (hpK h p_7 = 17 ∧ CKv mX7_copyFrom 2 0 0 [some (.ref p_7), some (.ref p_14), none] h (fun h' => Wm mX6_copyFrom 4 0 0 Q 73 [some (.ref a0), some (.ref a1), some (.int x2)] [] h' 0 0))))))))) : Wm mX6_copyFrom 4 0 0 Q 50 [some (.ref a0), some (.ref a1), some (.int x2)] [] h 0 0 := by
  refine rl_iload_n dX6_copyFrom_50 rfl rfl ?_
  refine rl_aload_n dX6_copyFrom_51 rfl rfl ?_
  obtain ⟨o_1, H⟩ := H
  refine rl_getI (k := 0) cfX6 dX6_copyFrom_52 flX6_23 (by decide) rfl o_1 ?_
  refine rl_icmp_ge (tgt := 79) dX6_copyFrom_55 (by decide) (fun c_2 => ?_) (fun c_2 => ?_)
  · have H := H.1 c_2
    refine rl_iconst (v := nI 0) dX6_copyFrom_79 (by decide) ?_
    refine rl_istore_n (L' := [some (.ref a0), some (.ref a1), some (.int (nI 0))]) dX6_copyFrom_80 rfl (Nat.le_of_ble_eq_true rfl) rfl ?_
    exact H
  · have H := H.2 c_2
    refine rl_aload_n dX6_copyFrom_58 rfl rfl ?_
    obtain ⟨p_3, e_4, H⟩ := H
    refine rl_getP (k := 7) cfX6 dX6_copyFrom_59 flX6_29 (by decide) rfl o_1 e_4 ?_
    refine rl_iload_n dX6_copyFrom_62 rfl rfl ?_
    obtain ⟨o_5, H⟩ := H
    obtain ⟨o_6, H⟩ := H
    obtain ⟨p_7, e_8, H⟩ := H
    refine rl_aald (ci := 7) dX6_copyFrom_63 rfl o_5 o_6 e_8 ?_
    refine rl_aload_n dX6_copyFrom_64 rfl rfl ?_
    obtain ⟨o_9, H⟩ := H
    obtain ⟨p_10, e_11, H⟩ := H
    refine rl_getP (k := 7) cfX6 dX6_copyFrom_65 flX6_29 (by decide) rfl o_9 e_11 ?_
    refine rl_iload_n dX6_copyFrom_68 rfl rfl ?_
    obtain ⟨o_12, H⟩ := H
    obtain ⟨o_13, H⟩ := H
    obtain ⟨p_14, e_15, H⟩ := H
    refine rl_aald (ci := 7) dX6_copyFrom_69 rfl o_12 o_13 e_15 ?_
    obtain ⟨o_16, H⟩ := H
    exact rl_callV (As := [.ref p_14]) (rest := []) mfX7_copyFrom dX6_copyFrom_70 lkX6_59 o_16 (by decide) (Nat.le_of_ble_eq_true rfl) (Nat.le_refl _) (Nat.le_refl _) rfl (Nat.le_of_ble_eq_true rfl) rfl rfl (fun Qc k => H Qc (fun h' w => k none h' w))
theorem bX6_copyFrom_73 {Q : Nat → Option Value → Hp → Prop} {h : Hp} {a0 a1 : Nat} {x2 : Int32} (H : Wm mX6_copyFrom 4 0 0 Q 50 [some (.ref a0), some (.ref a1), some (.int (x2 + nI 1))] [] h 0 0) : Wm mX6_copyFrom 4 0 0 Q 73 [some (.ref a0), some (.ref a1), some (.int x2)] [] h 0 0 := by
  refine rl_iinc (v := x2 + nI 1) (L' := [some (.ref a0), some (.ref a1), some (.int (x2 + nI 1))]) dX6_copyFrom_73 rfl (congrArg (fun z => x2 + z) (by decide)) (Nat.le_of_ble_eq_true rfl) rfl ?_
  refine rl_goto (tgt := 50) dX6_copyFrom_76 (by decide) ?_
  exact H
theorem bX6_copyFrom_81 {Q : Nat → Option Value → Hp → Prop} {h : Hp} {a0 a1 : Nat} {x2 : Int32} (H : hpK h a0 = 16 ∧ (((hpI h a0 5) ≤ x2 → Wm mX6_copyFrom 4 0 0 Q 112 [some (.ref a0), some (.ref a1), some (.int (nI 0))] [] h 0 0) ∧ (¬ (hpI h a0 5) ≤ x2 → (∃ p_3 : Nat, hpP h a0 8 = some p_3 ∧ (hpK h p_3 = 32 ∧ vp_in x2 (hpN h p_3) ∧ ∃ p_7 : Nat, hpP h p_3 (x2).toNatClampNeg = some p_7 ∧ (hpK h a1 = 16 ∧ ∃ p_10 : Nat, hpP h a1 8 = some p_10 ∧ (hpK h p_10 = 32 ∧ vp_in x2 (hpN h p_10) ∧ ∃ p_14 : Nat, hpP h p_10 (x2).toNatClampNeg = some p_14 ∧ (hpK h p_7 = 12 ∧ CKv mX2_copyFrom 0 0 0 [some (.ref p_7), some (.ref p_14)] h (fun h' => Wm mX6_copyFrom 4 0 0 Q 104 [some (.ref a0), some (.ref a1), some (.int x2)] [] h' 0 0))))))))) : Wm mX6_copyFrom 4 0 0 Q 81 [some (.ref a0), some (.ref a1), some (.int x2)] [] h 0 0 := by
  refine rl_iload_n dX6_copyFrom_81 rfl rfl ?_
  refine rl_aload_n dX6_copyFrom_82 rfl rfl ?_
  obtain ⟨o_1, H⟩ := H
  refine rl_getI (k := 5) cfX6 dX6_copyFrom_83 flX6_50 (by decide) rfl o_1 ?_
  refine rl_icmp_ge (tgt := 110) dX6_copyFrom_86 (by decide) (fun c_2 => ?_) (fun c_2 => ?_)
  · have H := H.1 c_2
    refine rl_iconst (v := nI 0) dX6_copyFrom_110 (by decide) ?_
    refine rl_istore_n (L' := [some (.ref a0), some (.ref a1), some (.int (nI 0))]) dX6_copyFrom_111 rfl (Nat.le_of_ble_eq_true rfl) rfl ?_
    exact H
  · have H := H.2 c_2
    refine rl_aload_n dX6_copyFrom_89 rfl rfl ?_
    obtain ⟨p_3, e_4, H⟩ := H
    refine rl_getP (k := 8) cfX6 dX6_copyFrom_90 flX6_11 (by decide) rfl o_1 e_4 ?_
    refine rl_iload_n dX6_copyFrom_93 rfl rfl ?_
    obtain ⟨o_5, H⟩ := H
    obtain ⟨o_6, H⟩ := H
    obtain ⟨p_7, e_8, H⟩ := H
    refine rl_aald (ci := 2) dX6_copyFrom_94 rfl o_5 o_6 e_8 ?_
    refine rl_aload_n dX6_copyFrom_95 rfl rfl ?_
    obtain ⟨o_9, H⟩ := H
    obtain ⟨p_10, e_11, H⟩ := H
    refine rl_getP (k := 8) cfX6 dX6_copyFrom_96 flX6_11 (by decide) rfl o_9 e_11 ?_
    refine rl_iload_n dX6_copyFrom_99 rfl rfl ?_
    obtain ⟨o_12, H⟩ := H
    obtain ⟨o_13, H⟩ := H
    obtain ⟨p_14, e_15, H⟩ := H
    refine rl_aald (ci := 2) dX6_copyFrom_100 rfl o_12 o_13 e_15 ?_
    obtain ⟨o_16, H⟩ := H
    exact rl_callV (As := [.ref p_14]) (rest := []) mfX2_copyFrom dX6_copyFrom_101 lkX6_63 o_16 (by decide) (Nat.le_of_ble_eq_true rfl) (Nat.le_refl _) (Nat.le_refl _) rfl (Nat.le_of_ble_eq_true rfl) rfl rfl (fun Qc k => H Qc (fun h' w => k none h' w))
theorem bX6_copyFrom_104 {Q : Nat → Option Value → Hp → Prop} {h : Hp} {a0 a1 : Nat} {x2 : Int32} (H : Wm mX6_copyFrom 4 0 0 Q 81 [some (.ref a0), some (.ref a1), some (.int (x2 + nI 1))] [] h 0 0) : Wm mX6_copyFrom 4 0 0 Q 104 [some (.ref a0), some (.ref a1), some (.int x2)] [] h 0 0 := by
  refine rl_iinc (v := x2 + nI 1) (L' := [some (.ref a0), some (.ref a1), some (.int (x2 + nI 1))]) dX6_copyFrom_104 rfl (congrArg (fun z => x2 + z) (by decide)) (Nat.le_of_ble_eq_true rfl) rfl ?_
  refine rl_goto (tgt := 81) dX6_copyFrom_107 (by decide) ?_
  exact H
theorem bX6_copyFrom_112 {Q : Nat → Option Value → Hp → Prop} {h : Hp} {a0 a1 : Nat} {x2 : Int32} (H : hpK h a0 = 16 ∧ (((hpI h a0 6) ≤ x2 → Q 0 none h) ∧ (¬ (hpI h a0 6) ≤ x2 → (∃ p_3 : Nat, hpP h a0 9 = some p_3 ∧ (hpK h p_3 = 33 ∧ vp_in x2 (hpN h p_3) ∧ ∃ p_7 : Nat, hpP h p_3 (x2).toNatClampNeg = some p_7 ∧ (hpK h a1 = 16 ∧ ∃ p_10 : Nat, hpP h a1 9 = some p_10 ∧ (hpK h p_10 = 33 ∧ vp_in x2 (hpN h p_10) ∧ ∃ p_14 : Nat, hpP h p_10 (x2).toNatClampNeg = some p_14 ∧ (hpK h p_7 = 13 ∧ CKv mX3_copyFrom 3 0 0 [some (.ref p_7), some (.ref p_14)] h (fun h' => Wm mX6_copyFrom 4 0 0 Q 135 [some (.ref a0), some (.ref a1), some (.int x2)] [] h' 0 0))))))))) : Wm mX6_copyFrom 4 0 0 Q 112 [some (.ref a0), some (.ref a1), some (.int x2)] [] h 0 0 := by
  refine rl_iload_n dX6_copyFrom_112 rfl rfl ?_
  refine rl_aload_n dX6_copyFrom_113 rfl rfl ?_
  obtain ⟨o_1, H⟩ := H
  refine rl_getI (k := 6) cfX6 dX6_copyFrom_114 flX6_53 (by decide) rfl o_1 ?_
  refine rl_icmp_ge (tgt := 141) dX6_copyFrom_117 (by decide) (fun c_2 => ?_) (fun c_2 => ?_)
  · have H := H.1 c_2
    exact rl_vret dX6_copyFrom_141 rfl (Nat.le_refl 0) (Nat.le_refl 0) H
  · have H := H.2 c_2
    refine rl_aload_n dX6_copyFrom_120 rfl rfl ?_
    obtain ⟨p_3, e_4, H⟩ := H
    refine rl_getP (k := 9) cfX6 dX6_copyFrom_121 flX6_19 (by decide) rfl o_1 e_4 ?_
    refine rl_iload_n dX6_copyFrom_124 rfl rfl ?_
    obtain ⟨o_5, H⟩ := H
    obtain ⟨o_6, H⟩ := H
    obtain ⟨p_7, e_8, H⟩ := H
    refine rl_aald (ci := 3) dX6_copyFrom_125 rfl o_5 o_6 e_8 ?_
    refine rl_aload_n dX6_copyFrom_126 rfl rfl ?_
    obtain ⟨o_9, H⟩ := H
    obtain ⟨p_10, e_11, H⟩ := H
    refine rl_getP (k := 9) cfX6 dX6_copyFrom_127 flX6_19 (by decide) rfl o_9 e_11 ?_
    refine rl_iload_n dX6_copyFrom_130 rfl rfl ?_
    obtain ⟨o_12, H⟩ := H
    obtain ⟨o_13, H⟩ := H
    obtain ⟨p_14, e_15, H⟩ := H
    refine rl_aald (ci := 3) dX6_copyFrom_131 rfl o_12 o_13 e_15 ?_
    obtain ⟨o_16, H⟩ := H
    exact rl_callV (As := [.ref p_14]) (rest := []) mfX3_copyFrom dX6_copyFrom_132 lkX6_66 o_16 (by decide) (Nat.le_of_ble_eq_true rfl) (Nat.le_refl _) (Nat.le_refl _) rfl (Nat.le_of_ble_eq_true rfl) rfl rfl (fun Qc k => H Qc (fun h' w => k none h' w))
theorem bX6_copyFrom_135 {Q : Nat → Option Value → Hp → Prop} {h : Hp} {a0 a1 : Nat} {x2 : Int32} (H : Wm mX6_copyFrom 4 0 0 Q 112 [some (.ref a0), some (.ref a1), some (.int (x2 + nI 1))] [] h 0 0) : Wm mX6_copyFrom 4 0 0 Q 135 [some (.ref a0), some (.ref a1), some (.int x2)] [] h 0 0 := by
  refine rl_iinc (v := x2 + nI 1) (L' := [some (.ref a0), some (.ref a1), some (.int (x2 + nI 1))]) dX6_copyFrom_135 rfl (congrArg (fun z => x2 + z) (by decide)) (Nat.le_of_ble_eq_true rfl) rfl ?_
  refine rl_goto (tgt := 112) dX6_copyFrom_138 (by decide) ?_
  exact H
theorem bX6_change_0 {Q : Nat → Option Value → Hp → Prop} {h : Hp} {a0 : Nat} {x1 x2 x3 : Int32} (H : hpK h a0 = 16 ∧ CKr mX6_recordOf 0 0 0 [some (.ref a0), some (.int x1)] h (fun v h' => Wm mX6_change 4 0 0 Q 5 [some (.ref a0), some (.int x1), some (.int x2), some (.int x3), none, none] [.ref v] h' 0 0)) : Wm mX6_change 4 0 0 Q 0 [some (.ref a0), some (.int x1), some (.int x2), some (.int x3), none, none] [] h 0 0 := by
  refine rl_aload_n dX6_change_0 rfl rfl ?_
  refine rl_iload_n dX6_change_1 rfl rfl ?_
  obtain ⟨o_1, H⟩ := H
  exact rl_callV (As := [.int x1]) (rest := []) mfX6_recordOf dX6_change_2 lkX6_73 o_1 (by decide) (Nat.le_of_ble_eq_true rfl) (Nat.le_refl _) (Nat.le_refl _) rfl (Nat.le_of_ble_eq_true rfl) rfl rfl (fun Qc k => H Qc (fun v h' w => k (some (.ref v)) h' w))
theorem bX6_change_5 {Q : Nat → Option Value → Hp → Prop} {h : Hp} {a0 as0 : Nat} {x1 x2 x3 : Int32} (H : hpK h a0 = 16 ∧ CKi mX6_availableRights 3 0 0 [some (.ref a0), some (.int x1), some (.int x2), none, none] h (fun v h' => Wm mX6_change 4 0 0 Q 14 [some (.ref a0), some (.int x1), some (.int x2), some (.int x3), some (.ref as0), none] [.int v, .int x3] h' 0 0)) : Wm mX6_change 4 0 0 Q 5 [some (.ref a0), some (.int x1), some (.int x2), some (.int x3), none, none] [.ref as0] h 0 0 := by
  refine rl_astore (L' := [some (.ref a0), some (.int x1), some (.int x2), some (.int x3), some (.ref as0), none]) dX6_change_5 (Nat.le_of_ble_eq_true rfl) rfl ?_
  refine rl_iload_n dX6_change_7 rfl rfl ?_
  refine rl_aload_n dX6_change_8 rfl rfl ?_
  refine rl_iload_n dX6_change_9 rfl rfl ?_
  refine rl_iload_n dX6_change_10 rfl rfl ?_
  obtain ⟨o_1, H⟩ := H
  exact rl_callV (As := [.int x1, .int x2]) (rest := [.int x3]) mfX6_availableRights dX6_change_11 lkX6_131 o_1 (by decide) (Nat.le_of_ble_eq_true rfl) (Nat.le_refl _) (Nat.le_refl _) rfl (Nat.le_of_ble_eq_true rfl) rfl rfl (fun Qc k => H Qc (fun v h' w => k (some (.int v)) h' w))
theorem bX6_change_14 {Q : Nat → Option Value → Hp → Prop} {h : Hp} {a0 a4 : Nat} {x1 x2 x3 xs0 xs1 : Int32} (H : hpK h a4 = 15 ∧ (((xs0 - xs1) ≤ 0 → hpK h a0 = 16 ∧ CKv mX6_useLoans 3 0 0 [some (.ref a0), some (.int x1), some (.int x2), some (.int x3), none, none, none, none] (stI h a4 0 ((hpI h a4 0) + (nI 1))) (fun h' => Wm mX6_change 4 0 0 Q 64 [none, none, some (.int x2), some (.int x3), some (.ref a4), none] [] h' 0 0)) ∧ (¬ (xs0 - xs1) ≤ 0 → (∃ p_4 : Nat, hpP h a4 3 = some p_4 ∧ (hpK h p_4 = 1 ∧ vp_in x2 (hpN h p_4) ∧ Q 0 (some (.int (nI 0))) (stI (stI h a4 0 ((hpI h a4 0) + (nI 1))) p_4 (x2).toNatClampNeg (if ((hpI (stI h a4 0 ((hpI h a4 0) + (nI 1))) p_4 (x2).toNatClampNeg) + (xs0 - xs1)) < (nI 100000) then ((hpI (stI h a4 0 ((hpI h a4 0) + (nI 1))) p_4 (x2).toNatClampNeg) + (xs0 - xs1)) else (nI 100000)))))))) : Wm mX6_change 4 0 0 Q 14 [some (.ref a0), some (.int x1), some (.int x2), some (.int x3), some (.ref a4), none] [.int xs1, .int xs0] h 0 0 := by
  refine rl_isub dX6_change_14 ?_
  refine rl_istore (L' := [some (.ref a0), some (.int x1), some (.int x2), some (.int x3), some (.ref a4), some (.int (xs0 - xs1))]) dX6_change_15 (Nat.le_of_ble_eq_true rfl) rfl ?_
  refine rl_aload dX6_change_17 rfl ?_
  refine rl_dup dX6_change_19 rfl ?_
  obtain ⟨o_1, H⟩ := H
  refine rl_getI (k := 0) cfX5 dX6_change_20 flX6_137 (by decide) rfl o_1 ?_
  refine rl_iconst (v := nI 1) dX6_change_23 (by decide) ?_
  refine rl_iadd dX6_change_24 ?_
  refine rl_putI (k := 0) cfX5 dX6_change_25 flX6_137 (by decide) rfl o_1 (Or.inl rfl) ?_
  refine rl_iload dX6_change_28 rfl ?_
  refine rl_if_le (tgt := 57) dX6_change_30 (by decide) (fun c_2 => ?_) (fun c_2 => ?_)
  · have H := H.1 c_2
    refine rl_aload_n dX6_change_57 rfl rfl ?_
    refine rl_iload_n dX6_change_58 rfl rfl ?_
    refine rl_iload_n dX6_change_59 rfl rfl ?_
    refine rl_iload_n dX6_change_60 rfl rfl ?_
    obtain ⟨o_3, H⟩ := H
    exact rl_callV (As := [.int x1, .int x2, .int x3]) (rest := []) mfX6_useLoans dX6_change_61 lkX6_149 o_3 (by decide) (Nat.le_of_ble_eq_true rfl) (Nat.le_refl _) (Nat.le_refl _) rfl (Nat.le_of_ble_eq_true rfl) rfl rfl (fun Qc k => H Qc (fun h' w => k none h' (rl_wk (L' := [none, none, some (.int x2), some (.int x3), some (.ref a4), none]) ⟨rfl, ⟨rfl, ⟨rfl, trivial⟩⟩⟩ w)))
  · have H := H.2 c_2
    refine rl_aload dX6_change_33 rfl ?_
    obtain ⟨p_4, e_5, H⟩ := H
    refine rl_getP (k := 3) cfX5 dX6_change_35 flX6_140 (by decide) rfl o_1 e_5 ?_
    refine rl_iload_n dX6_change_38 rfl rfl ?_
    refine rl_ldc (v := nI 100000) dX6_change_39 kcX6_143 ?_
    refine rl_aload dX6_change_41 rfl ?_
    refine rl_getP (k := 3) cfX5 dX6_change_43 flX6_140 (by decide) rfl o_1 e_5 ?_
    refine rl_iload_n dX6_change_46 rfl rfl ?_
    obtain ⟨o_6, H⟩ := H
    obtain ⟨o_7, H⟩ := H
    refine rl_iald dX6_change_47 (Or.inl o_6) o_7 ?_
    refine rl_iload dX6_change_48 rfl ?_
    refine rl_iadd dX6_change_50 ?_
    refine rl_min dX6_change_51 lkX6_144 min1 inMath min2 (by decide) (Nat.le_of_ble_eq_true rfl) (Nat.le_refl 0) (Nat.le_refl 0) ?_
    refine rl_iast dX6_change_54 o_6 o_7 ?_
    refine rl_iconst (v := nI 0) dX6_change_55 (by decide) ?_
    exact rl_zret dX6_change_56 rfl rfl (Nat.le_refl 0) (Nat.le_refl 0) H
theorem bX6_change_64 {Q : Nat → Option Value → Hp → Prop} {h : Hp} {a4 : Nat} {x2 x3 : Int32} (H : hpK h a4 = 15 ∧ ∃ p_2 : Nat, hpP h a4 2 = some p_2 ∧ (hpK h p_2 = 1 ∧ vp_in x2 (hpN h p_2) ∧ Q 0 (some (.int (nI 1))) (stI h p_2 (x2).toNatClampNeg ((hpI h p_2 (x2).toNatClampNeg) + x3)))) : Wm mX6_change 4 0 0 Q 64 [none, none, some (.int x2), some (.int x3), some (.ref a4), none] [] h 0 0 := by
  refine rl_aload dX6_change_64 rfl ?_
  obtain ⟨o_1, H⟩ := H
  obtain ⟨p_2, e_3, H⟩ := H
  refine rl_getP (k := 2) cfX5 dX6_change_66 flX6_77 (by decide) rfl o_1 e_3 ?_
  refine rl_iload_n dX6_change_69 rfl rfl ?_
  refine rl_dup2 dX6_change_70 rfl rfl ?_
  obtain ⟨o_4, H⟩ := H
  obtain ⟨o_5, H⟩ := H
  refine rl_iald dX6_change_71 (Or.inl o_4) o_5 ?_
  refine rl_iload_n dX6_change_72 rfl rfl ?_
  refine rl_iadd dX6_change_73 ?_
  refine rl_iast dX6_change_74 o_4 o_5 ?_
  refine rl_iconst (v := nI 1) dX6_change_75 (by decide) ?_
  exact rl_zret dX6_change_76 rfl rfl (Nat.le_refl 0) (Nat.le_refl 0) H
theorem bX6_availableRights_0 {Q : Nat → Option Value → Hp → Prop} {h : Hp} {a0 : Nat} {x1 x2 : Int32} (H : hpK h a0 = 16 ∧ CKi mX6_ownRights 2 0 0 [some (.ref a0), some (.int x1), some (.int x2), none, none, none] h (fun v h' => Wm mX6_availableRights 3 0 0 Q 6 [some (.ref a0), some (.int x1), some (.int x2), none, none] [.int v] h' 0 0)) : Wm mX6_availableRights 3 0 0 Q 0 [some (.ref a0), some (.int x1), some (.int x2), none, none] [] h 0 0 := by
  refine rl_aload_n dX6_availableRights_0 rfl rfl ?_
  refine rl_iload_n dX6_availableRights_1 rfl rfl ?_
  refine rl_iload_n dX6_availableRights_2 rfl rfl ?_
  obtain ⟨o_1, H⟩ := H
  exact rl_callV (As := [.int x1, .int x2]) (rest := []) mfX6_ownRights dX6_availableRights_3 lkX6_120 o_1 (by decide) (Nat.le_of_ble_eq_true rfl) (Nat.le_refl _) (Nat.le_refl _) rfl (Nat.le_of_ble_eq_true rfl) rfl rfl (fun Qc k => H Qc (fun v h' w => k (some (.int v)) h' w))
theorem bX6_availableRights_6 {Q : Nat → Option Value → Hp → Prop} {h : Hp} {a0 : Nat} {x1 x2 xs0 : Int32} (H : Wm mX6_availableRights 3 0 0 Q 10 [some (.ref a0), some (.int x1), some (.int x2), some (.int xs0), some (.int (nI 0))] [] h 0 0) : Wm mX6_availableRights 3 0 0 Q 6 [some (.ref a0), some (.int x1), some (.int x2), none, none] [.int xs0] h 0 0 := by
  refine rl_istore_n (L' := [some (.ref a0), some (.int x1), some (.int x2), some (.int xs0), none]) dX6_availableRights_6 rfl (Nat.le_of_ble_eq_true rfl) rfl ?_
  refine rl_iconst (v := nI 0) dX6_availableRights_7 (by decide) ?_
  refine rl_istore (L' := [some (.ref a0), some (.int x1), some (.int x2), some (.int xs0), some (.int (nI 0))]) dX6_availableRights_8 (Nat.le_of_ble_eq_true rfl) rfl ?_
  exact H
theorem bX6_availableRights_10 {Q : Nat → Option Value → Hp → Prop} {h : Hp} {a0 : Nat} {x1 x2 x3 x4 : Int32} (H : hpK h a0 = 16 ∧ (((hpI h a0 5) ≤ x4 → Q 0 (some (.int x3)) h) ∧ (¬ (hpI h a0 5) ≤ x4 → (∃ p_3 : Nat, hpP h a0 8 = some p_3 ∧ (hpK h p_3 = 32 ∧ vp_in x4 (hpN h p_3) ∧ ∃ p_7 : Nat, hpP h p_3 (x4).toNatClampNeg = some p_7 ∧ (hpK h p_7 = 12 ∧ ((¬ (hpI h p_7 1) = x1 → Wm mX6_availableRights 3 0 0 Q 56 [some (.ref a0), some (.int x1), some (.int x2), some (.int x3), some (.int x4)] [] h 0 0) ∧ ((hpI h p_7 1) = x1 → ((¬ (hpI h p_7 2) = x2 → Wm mX6_availableRights 3 0 0 Q 56 [some (.ref a0), some (.int x1), some (.int x2), some (.int x3), some (.int x4)] [] h 0 0) ∧ ((hpI h p_7 2) = x2 → CKi mX6_restOf 1 0 0 [some (.ref a0), some (.int x4), none, none] h (fun v h' => Wm mX6_availableRights 3 0 0 Q 54 [some (.ref a0), some (.int x1), some (.int x2), none, some (.int x4)] [.int v, .int x3] h' 0 0))))))))))) : Wm mX6_availableRights 3 0 0 Q 10 [some (.ref a0), some (.int x1), some (.int x2), some (.int x3), some (.int x4)] [] h 0 0 := by
  refine rl_iload dX6_availableRights_10 rfl ?_
  refine rl_aload_n dX6_availableRights_12 rfl rfl ?_
  obtain ⟨o_1, H⟩ := H
  refine rl_getI (k := 5) cfX6 dX6_availableRights_13 flX6_50 (by decide) rfl o_1 ?_
  refine rl_icmp_ge (tgt := 62) dX6_availableRights_16 (by decide) (fun c_2 => ?_) (fun c_2 => ?_)
  · have H := H.1 c_2
    refine rl_iload_n dX6_availableRights_62 rfl rfl ?_
    exact rl_iret dX6_availableRights_63 rfl (Nat.le_refl 0) (Nat.le_refl 0) H
  · have H := H.2 c_2
    refine rl_aload_n dX6_availableRights_19 rfl rfl ?_
    obtain ⟨p_3, e_4, H⟩ := H
    refine rl_getP (k := 8) cfX6 dX6_availableRights_20 flX6_11 (by decide) rfl o_1 e_4 ?_
    refine rl_iload dX6_availableRights_23 rfl ?_
    obtain ⟨o_5, H⟩ := H
    obtain ⟨o_6, H⟩ := H
    obtain ⟨p_7, e_8, H⟩ := H
    refine rl_aald (ci := 2) dX6_availableRights_25 rfl o_5 o_6 e_8 ?_
    obtain ⟨o_9, H⟩ := H
    refine rl_getI (k := 1) cfX2 dX6_availableRights_26 flX6_96 (by decide) rfl o_9 ?_
    refine rl_iload_n dX6_availableRights_29 rfl rfl ?_
    refine rl_icmp_ne (tgt := 56) dX6_availableRights_30 (by decide) (fun c_10 => ?_) (fun c_10 => ?_)
    · have H := H.1 c_10
      exact H
    · have H := H.2 c_10
      refine rl_aload_n dX6_availableRights_33 rfl rfl ?_
      refine rl_getP (k := 8) cfX6 dX6_availableRights_34 flX6_11 (by decide) rfl o_1 e_4 ?_
      refine rl_iload dX6_availableRights_37 rfl ?_
      refine rl_aald (ci := 2) dX6_availableRights_39 rfl o_5 o_6 e_8 ?_
      refine rl_getI (k := 2) cfX2 dX6_availableRights_40 flX6_90 (by decide) rfl o_9 ?_
      refine rl_iload_n dX6_availableRights_43 rfl rfl ?_
      refine rl_icmp_ne (tgt := 56) dX6_availableRights_44 (by decide) (fun c_11 => ?_) (fun c_11 => ?_)
      · have H := H.1 c_11
        exact H
      · have H := H.2 c_11
        refine rl_iload_n dX6_availableRights_47 rfl rfl ?_
        refine rl_aload_n dX6_availableRights_48 rfl rfl ?_
        refine rl_iload dX6_availableRights_49 rfl ?_
        exact rl_callV (As := [.int x4]) (rest := [.int x3]) mfX6_restOf dX6_availableRights_51 lkX6_123 o_1 (by decide) (Nat.le_of_ble_eq_true rfl) (Nat.le_refl _) (Nat.le_refl _) rfl (Nat.le_of_ble_eq_true rfl) rfl rfl (fun Qc k => H Qc (fun v h' w => k (some (.int v)) h' (rl_wk (L' := [some (.ref a0), some (.int x1), some (.int x2), none, some (.int x4)]) ⟨rfl, ⟨rfl, ⟨rfl, ⟨rfl, trivial⟩⟩⟩⟩ w)))
theorem bX6_availableRights_54 {Q : Nat → Option Value → Hp → Prop} {h : Hp} {a0 : Nat} {x1 x2 x4 xs0 xs1 : Int32} (H : Wm mX6_availableRights 3 0 0 Q 56 [some (.ref a0), some (.int x1), some (.int x2), some (.int (xs0 + xs1)), some (.int x4)] [] h 0 0) : Wm mX6_availableRights 3 0 0 Q 54 [some (.ref a0), some (.int x1), some (.int x2), none, some (.int x4)] [.int xs1, .int xs0] h 0 0 := by
  refine rl_iadd dX6_availableRights_54 ?_
  refine rl_istore_n (L' := [some (.ref a0), some (.int x1), some (.int x2), some (.int (xs0 + xs1)), some (.int x4)]) dX6_availableRights_55 rfl (Nat.le_of_ble_eq_true rfl) rfl ?_
  exact H
theorem bX6_availableRights_56 {Q : Nat → Option Value → Hp → Prop} {h : Hp} {a0 : Nat} {x1 x2 x3 x4 : Int32} (H : Wm mX6_availableRights 3 0 0 Q 10 [some (.ref a0), some (.int x1), some (.int x2), some (.int x3), some (.int (x4 + nI 1))] [] h 0 0) : Wm mX6_availableRights 3 0 0 Q 56 [some (.ref a0), some (.int x1), some (.int x2), some (.int x3), some (.int x4)] [] h 0 0 := by
  refine rl_iinc (v := x4 + nI 1) (L' := [some (.ref a0), some (.int x1), some (.int x2), some (.int x3), some (.int (x4 + nI 1))]) dX6_availableRights_56 rfl (congrArg (fun z => x4 + z) (by decide)) (Nat.le_of_ble_eq_true rfl) rfl ?_
  refine rl_goto (tgt := 10) dX6_availableRights_59 (by decide) ?_
  exact H
theorem bX6_ownRights_0 {Q : Nat → Option Value → Hp → Prop} {h : Hp} {a0 : Nat} {x1 x2 : Int32} (H : hpK h a0 = 16 ∧ CKr mX6_recordOf 0 0 0 [some (.ref a0), some (.int x1)] h (fun v h' => Wm mX6_ownRights 2 0 0 Q 5 [some (.ref a0), some (.int x1), some (.int x2), none, none, none] [.ref v] h' 0 0)) : Wm mX6_ownRights 2 0 0 Q 0 [some (.ref a0), some (.int x1), some (.int x2), none, none, none] [] h 0 0 := by
  refine rl_aload_n dX6_ownRights_0 rfl rfl ?_
  refine rl_iload_n dX6_ownRights_1 rfl rfl ?_
  obtain ⟨o_1, H⟩ := H
  exact rl_callV (As := [.int x1]) (rest := []) mfX6_recordOf dX6_ownRights_2 lkX6_73 o_1 (by decide) (Nat.le_of_ble_eq_true rfl) (Nat.le_refl _) (Nat.le_refl _) rfl (Nat.le_of_ble_eq_true rfl) rfl rfl (fun Qc k => H Qc (fun v h' w => k (some (.ref v)) h' w))
theorem bX6_ownRights_5 {Q : Nat → Option Value → Hp → Prop} {h : Hp} {a0 as0 : Nat} {x1 x2 : Int32} (H : ((¬ x1 = 0 → hpK h as0 = 15 ∧ ∃ p_3 : Nat, hpP h as0 2 = some p_3 ∧ (((¬ x2 = 0 → hpK h p_3 = 1 ∧ vp_in (nI 0) (hpN h p_3) ∧ vp_in x2 (hpN h p_3) ∧ Wm mX6_ownRights 2 0 0 Q 54 [some (.ref a0), some (.int x1), some (.int x2), some (.ref as0), some (.int ((nI 0) + ((hpI h p_3 (nI 0).toNatClampNeg) - (hpI h p_3 (x2).toNatClampNeg)))), some (.int (nI 0))] [] h 0 0) ∧ (x2 = 0 → hpK h p_3 = 1 ∧ vp_in (nI 1) (hpN h p_3) ∧ vp_in x2 (hpN h p_3) ∧ Wm mX6_ownRights 2 0 0 Q 54 [some (.ref a0), some (.int x1), some (.int x2), some (.ref as0), some (.int ((nI 0) + ((hpI h p_3 (nI 1).toNatClampNeg) - (hpI h p_3 (x2).toNatClampNeg)))), some (.int (nI 0))] [] h 0 0)))) ∧ (x1 = 0 → hpK h a0 = 16 ∧ CKi mX6_roomAt 0 0 0 [some (.ref a0), some (.int (hpI h a0 3)), some (.int x2)] h (fun v h' => Wm mX6_ownRights 2 0 0 Q 19 [some (.ref a0), some (.int x1), some (.int x2), some (.ref as0), none, none] [.int v] h' 0 0)))) : Wm mX6_ownRights 2 0 0 Q 5 [some (.ref a0), some (.int x1), some (.int x2), none, none, none] [.ref as0] h 0 0 := by
  refine rl_astore_n (L' := [some (.ref a0), some (.int x1), some (.int x2), some (.ref as0), none, none]) dX6_ownRights_5 rfl (Nat.le_of_ble_eq_true rfl) rfl ?_
  refine rl_iload_n dX6_ownRights_6 rfl rfl ?_
  refine rl_if_ne (tgt := 22) dX6_ownRights_7 (by decide) (fun c_1 => ?_) (fun c_1 => ?_)
  · have H := H.1 c_1
    refine rl_iconst (v := nI 0) dX6_ownRights_22 (by decide) ?_
    refine rl_istore (L' := [some (.ref a0), some (.int x1), some (.int x2), some (.ref as0), some (.int (nI 0)), none]) dX6_ownRights_23 (Nat.le_of_ble_eq_true rfl) rfl ?_
    refine rl_iload dX6_ownRights_25 rfl ?_
    refine rl_aload_n dX6_ownRights_27 rfl rfl ?_
    obtain ⟨o_2, H⟩ := H
    obtain ⟨p_3, e_4, H⟩ := H
    refine rl_getP (k := 2) cfX5 dX6_ownRights_28 flX6_77 (by decide) rfl o_2 e_4 ?_
    refine rl_iload_n dX6_ownRights_31 rfl rfl ?_
    refine rl_if_ne (tgt := 39) dX6_ownRights_32 (by decide) (fun c_5 => ?_) (fun c_5 => ?_)
    · have H := H.1 c_5
      refine rl_iconst (v := nI 0) dX6_ownRights_39 (by decide) ?_
      obtain ⟨o_6, H⟩ := H
      obtain ⟨o_7, H⟩ := H
      refine rl_iald dX6_ownRights_40 (Or.inl o_6) o_7 ?_
      refine rl_aload_n dX6_ownRights_41 rfl rfl ?_
      refine rl_getP (k := 2) cfX5 dX6_ownRights_42 flX6_77 (by decide) rfl o_2 e_4 ?_
      refine rl_iload_n dX6_ownRights_45 rfl rfl ?_
      obtain ⟨o_8, H⟩ := H
      refine rl_iald dX6_ownRights_46 (Or.inl o_6) o_8 ?_
      refine rl_isub dX6_ownRights_47 ?_
      refine rl_iadd dX6_ownRights_48 ?_
      refine rl_istore (L' := [some (.ref a0), some (.int x1), some (.int x2), some (.ref as0), some (.int ((nI 0) + ((hpI h p_3 (nI 0).toNatClampNeg) - (hpI h p_3 (x2).toNatClampNeg)))), none]) dX6_ownRights_49 (Nat.le_of_ble_eq_true rfl) rfl ?_
      refine rl_iconst (v := nI 0) dX6_ownRights_51 (by decide) ?_
      refine rl_istore (L' := [some (.ref a0), some (.int x1), some (.int x2), some (.ref as0), some (.int ((nI 0) + ((hpI h p_3 (nI 0).toNatClampNeg) - (hpI h p_3 (x2).toNatClampNeg)))), some (.int (nI 0))]) dX6_ownRights_52 (Nat.le_of_ble_eq_true rfl) rfl ?_
      exact H
    · have H := H.2 c_5
      refine rl_iconst (v := nI 1) dX6_ownRights_35 (by decide) ?_
      refine rl_goto (tgt := 40) dX6_ownRights_36 (by decide) ?_
      obtain ⟨o_9, H⟩ := H
      obtain ⟨o_10, H⟩ := H
      refine rl_iald dX6_ownRights_40 (Or.inl o_9) o_10 ?_
      refine rl_aload_n dX6_ownRights_41 rfl rfl ?_
      refine rl_getP (k := 2) cfX5 dX6_ownRights_42 flX6_77 (by decide) rfl o_2 e_4 ?_
      refine rl_iload_n dX6_ownRights_45 rfl rfl ?_
      obtain ⟨o_11, H⟩ := H
      refine rl_iald dX6_ownRights_46 (Or.inl o_9) o_11 ?_
      refine rl_isub dX6_ownRights_47 ?_
      refine rl_iadd dX6_ownRights_48 ?_
      refine rl_istore (L' := [some (.ref a0), some (.int x1), some (.int x2), some (.ref as0), some (.int ((nI 0) + ((hpI h p_3 (nI 1).toNatClampNeg) - (hpI h p_3 (x2).toNatClampNeg)))), none]) dX6_ownRights_49 (Nat.le_of_ble_eq_true rfl) rfl ?_
      refine rl_iconst (v := nI 0) dX6_ownRights_51 (by decide) ?_
      refine rl_istore (L' := [some (.ref a0), some (.int x1), some (.int x2), some (.ref as0), some (.int ((nI 0) + ((hpI h p_3 (nI 1).toNatClampNeg) - (hpI h p_3 (x2).toNatClampNeg)))), some (.int (nI 0))]) dX6_ownRights_52 (Nat.le_of_ble_eq_true rfl) rfl ?_
      exact H
  · have H := H.2 c_1
    refine rl_aload_n dX6_ownRights_10 rfl rfl ?_
    refine rl_aload_n dX6_ownRights_11 rfl rfl ?_
    obtain ⟨o_12, H⟩ := H
    refine rl_getI (k := 3) cfX6 dX6_ownRights_12 flX6_44 (by decide) rfl o_12 ?_
    refine rl_iload_n dX6_ownRights_15 rfl rfl ?_
    exact rl_callV (As := [.int (hpI h a0 3), .int x2]) (rest := []) mfX6_roomAt dX6_ownRights_16 lkX6_83 o_12 (by decide) (Nat.le_of_ble_eq_true rfl) (Nat.le_refl _) (Nat.le_refl _) rfl (Nat.le_of_ble_eq_true rfl) rfl rfl (fun Qc k => H Qc (fun v h' w => k (some (.int v)) h' w))
theorem bX6_ownRights_19 {Q : Nat → Option Value → Hp → Prop} {h : Hp} {a0 a3 : Nat} {x1 x2 xs0 : Int32} (H : hpK h a3 = 15 ∧ ∃ p_2 : Nat, hpP h a3 2 = some p_2 ∧ (((¬ x2 = 0 → hpK h p_2 = 1 ∧ vp_in (nI 0) (hpN h p_2) ∧ vp_in x2 (hpN h p_2) ∧ Wm mX6_ownRights 2 0 0 Q 54 [some (.ref a0), some (.int x1), some (.int x2), some (.ref a3), some (.int (xs0 + ((hpI h p_2 (nI 0).toNatClampNeg) - (hpI h p_2 (x2).toNatClampNeg)))), some (.int (nI 0))] [] h 0 0) ∧ (x2 = 0 → hpK h p_2 = 1 ∧ vp_in (nI 1) (hpN h p_2) ∧ vp_in x2 (hpN h p_2) ∧ Wm mX6_ownRights 2 0 0 Q 54 [some (.ref a0), some (.int x1), some (.int x2), some (.ref a3), some (.int (xs0 + ((hpI h p_2 (nI 1).toNatClampNeg) - (hpI h p_2 (x2).toNatClampNeg)))), some (.int (nI 0))] [] h 0 0)))) : Wm mX6_ownRights 2 0 0 Q 19 [some (.ref a0), some (.int x1), some (.int x2), some (.ref a3), none, none] [.int xs0] h 0 0 := by
  refine rl_goto (tgt := 23) dX6_ownRights_19 (by decide) ?_
  refine rl_istore (L' := [some (.ref a0), some (.int x1), some (.int x2), some (.ref a3), some (.int xs0), none]) dX6_ownRights_23 (Nat.le_of_ble_eq_true rfl) rfl ?_
  refine rl_iload dX6_ownRights_25 rfl ?_
  refine rl_aload_n dX6_ownRights_27 rfl rfl ?_
  obtain ⟨o_1, H⟩ := H
  obtain ⟨p_2, e_3, H⟩ := H
  refine rl_getP (k := 2) cfX5 dX6_ownRights_28 flX6_77 (by decide) rfl o_1 e_3 ?_
  refine rl_iload_n dX6_ownRights_31 rfl rfl ?_
  refine rl_if_ne (tgt := 39) dX6_ownRights_32 (by decide) (fun c_4 => ?_) (fun c_4 => ?_)
  · have H := H.1 c_4
    refine rl_iconst (v := nI 0) dX6_ownRights_39 (by decide) ?_
    obtain ⟨o_5, H⟩ := H
    obtain ⟨o_6, H⟩ := H
    refine rl_iald dX6_ownRights_40 (Or.inl o_5) o_6 ?_
    refine rl_aload_n dX6_ownRights_41 rfl rfl ?_
    refine rl_getP (k := 2) cfX5 dX6_ownRights_42 flX6_77 (by decide) rfl o_1 e_3 ?_
    refine rl_iload_n dX6_ownRights_45 rfl rfl ?_
    obtain ⟨o_7, H⟩ := H
    refine rl_iald dX6_ownRights_46 (Or.inl o_5) o_7 ?_
    refine rl_isub dX6_ownRights_47 ?_
    refine rl_iadd dX6_ownRights_48 ?_
    refine rl_istore (L' := [some (.ref a0), some (.int x1), some (.int x2), some (.ref a3), some (.int (xs0 + ((hpI h p_2 (nI 0).toNatClampNeg) - (hpI h p_2 (x2).toNatClampNeg)))), none]) dX6_ownRights_49 (Nat.le_of_ble_eq_true rfl) rfl ?_
    refine rl_iconst (v := nI 0) dX6_ownRights_51 (by decide) ?_
    refine rl_istore (L' := [some (.ref a0), some (.int x1), some (.int x2), some (.ref a3), some (.int (xs0 + ((hpI h p_2 (nI 0).toNatClampNeg) - (hpI h p_2 (x2).toNatClampNeg)))), some (.int (nI 0))]) dX6_ownRights_52 (Nat.le_of_ble_eq_true rfl) rfl ?_
    exact H
  · have H := H.2 c_4
    refine rl_iconst (v := nI 1) dX6_ownRights_35 (by decide) ?_
    refine rl_goto (tgt := 40) dX6_ownRights_36 (by decide) ?_
    obtain ⟨o_8, H⟩ := H
    obtain ⟨o_9, H⟩ := H
    refine rl_iald dX6_ownRights_40 (Or.inl o_8) o_9 ?_
    refine rl_aload_n dX6_ownRights_41 rfl rfl ?_
    refine rl_getP (k := 2) cfX5 dX6_ownRights_42 flX6_77 (by decide) rfl o_1 e_3 ?_
    refine rl_iload_n dX6_ownRights_45 rfl rfl ?_
    obtain ⟨o_10, H⟩ := H
    refine rl_iald dX6_ownRights_46 (Or.inl o_8) o_10 ?_
    refine rl_isub dX6_ownRights_47 ?_
    refine rl_iadd dX6_ownRights_48 ?_
    refine rl_istore (L' := [some (.ref a0), some (.int x1), some (.int x2), some (.ref a3), some (.int (xs0 + ((hpI h p_2 (nI 1).toNatClampNeg) - (hpI h p_2 (x2).toNatClampNeg)))), none]) dX6_ownRights_49 (Nat.le_of_ble_eq_true rfl) rfl ?_
    refine rl_iconst (v := nI 0) dX6_ownRights_51 (by decide) ?_
    refine rl_istore (L' := [some (.ref a0), some (.int x1), some (.int x2), some (.ref a3), some (.int (xs0 + ((hpI h p_2 (nI 1).toNatClampNeg) - (hpI h p_2 (x2).toNatClampNeg)))), some (.int (nI 0))]) dX6_ownRights_52 (Nat.le_of_ble_eq_true rfl) rfl ?_
    exact H
theorem bX6_ownRights_54 {Q : Nat → Option Value → Hp → Prop} {h : Hp} {a0 a3 : Nat} {x1 x2 x4 x5 : Int32} (H : hpK h a0 = 16 ∧ (((hpI h a0 0) ≤ x5 → Wm mX6_ownRights 2 0 0 Q 108 [some (.ref a0), some (.int x1), some (.int x2), none, some (.int x4), some (.int (nI 0))] [] h 0 0) ∧ (¬ (hpI h a0 0) ≤ x5 → ((x5 = x1 → Wm mX6_ownRights 2 0 0 Q 99 [some (.ref a0), some (.int x1), some (.int x2), some (.ref a3), some (.int x4), some (.int x5)] [] h 0 0) ∧ (¬ x5 = x1 → (∃ p_4 : Nat, hpP h a0 7 = some p_4 ∧ (hpK h p_4 = 37 ∧ vp_in x1 (hpN h p_4) ∧ ∃ p_8 : Nat, hpP h p_4 (x1).toNatClampNeg = some p_8 ∧ (hpK h p_8 = 17 ∧ ∃ p_11 : Nat, hpP h p_8 0 = some p_11 ∧ (hpK h p_11 = 35 ∧ vp_in x5 (hpN h p_11) ∧ ∃ p_15 : Nat, hpP h p_11 (x5).toNatClampNeg = some p_15 ∧ (hpK h p_15 = 15 ∧ CKi mX5_givenTo 0 0 0 [some (.ref p_15), some (.int x1), some (.int x2)] h (fun v h' => Wm mX6_ownRights 2 0 0 Q 88 [some (.ref a0), some (.int x1), some (.int x2), some (.ref a3), none, some (.int x5)] [.int v, .int x4] h' 0 0))))))))))) : Wm mX6_ownRights 2 0 0 Q 54 [some (.ref a0), some (.int x1), some (.int x2), some (.ref a3), some (.int x4), some (.int x5)] [] h 0 0 := by
  refine rl_iload dX6_ownRights_54 rfl ?_
  refine rl_aload_n dX6_ownRights_56 rfl rfl ?_
  obtain ⟨o_1, H⟩ := H
  refine rl_getI (k := 0) cfX6 dX6_ownRights_57 flX6_23 (by decide) rfl o_1 ?_
  refine rl_icmp_ge (tgt := 105) dX6_ownRights_60 (by decide) (fun c_2 => ?_) (fun c_2 => ?_)
  · have H := H.1 c_2
    refine rl_iconst (v := nI 0) dX6_ownRights_105 (by decide) ?_
    refine rl_istore (L' := [some (.ref a0), some (.int x1), some (.int x2), some (.ref a3), some (.int x4), some (.int (nI 0))]) dX6_ownRights_106 (Nat.le_of_ble_eq_true rfl) rfl ?_
    refine rl_wk (L' := [some (.ref a0), some (.int x1), some (.int x2), none, some (.int x4), some (.int (nI 0))]) ⟨rfl, ⟨rfl, ⟨rfl, ⟨rfl, ⟨rfl, trivial⟩⟩⟩⟩⟩ ?_
    exact H
  · have H := H.2 c_2
    refine rl_iload dX6_ownRights_63 rfl ?_
    refine rl_iload_n dX6_ownRights_65 rfl rfl ?_
    refine rl_icmp_eq (tgt := 99) dX6_ownRights_66 (by decide) (fun c_3 => ?_) (fun c_3 => ?_)
    · have H := H.1 c_3
      exact H
    · have H := H.2 c_3
      refine rl_iload dX6_ownRights_69 rfl ?_
      refine rl_aload_n dX6_ownRights_71 rfl rfl ?_
      obtain ⟨p_4, e_5, H⟩ := H
      refine rl_getP (k := 7) cfX6 dX6_ownRights_72 flX6_29 (by decide) rfl o_1 e_5 ?_
      refine rl_iload_n dX6_ownRights_75 rfl rfl ?_
      obtain ⟨o_6, H⟩ := H
      obtain ⟨o_7, H⟩ := H
      obtain ⟨p_8, e_9, H⟩ := H
      refine rl_aald (ci := 7) dX6_ownRights_76 rfl o_6 o_7 e_9 ?_
      obtain ⟨o_10, H⟩ := H
      obtain ⟨p_11, e_12, H⟩ := H
      refine rl_getP (k := 0) cfX7 dX6_ownRights_77 flX6_69 (by decide) rfl o_10 e_12 ?_
      refine rl_iload dX6_ownRights_80 rfl ?_
      obtain ⟨o_13, H⟩ := H
      obtain ⟨o_14, H⟩ := H
      obtain ⟨p_15, e_16, H⟩ := H
      refine rl_aald (ci := 5) dX6_ownRights_82 rfl o_13 o_14 e_16 ?_
      refine rl_iload_n dX6_ownRights_83 rfl rfl ?_
      refine rl_iload_n dX6_ownRights_84 rfl rfl ?_
      obtain ⟨o_17, H⟩ := H
      exact rl_callV (As := [.int x1, .int x2]) (rest := [.int x4]) mfX5_givenTo dX6_ownRights_85 lkX6_87 o_17 (by decide) (Nat.le_of_ble_eq_true rfl) (Nat.le_refl _) (Nat.le_refl _) rfl (Nat.le_of_ble_eq_true rfl) rfl rfl (fun Qc k => H Qc (fun v h' w => k (some (.int v)) h' (rl_wk (L' := [some (.ref a0), some (.int x1), some (.int x2), some (.ref a3), none, some (.int x5)]) ⟨rfl, ⟨rfl, ⟨rfl, ⟨rfl, ⟨rfl, trivial⟩⟩⟩⟩⟩ w)))
theorem bX6_ownRights_88 {Q : Nat → Option Value → Hp → Prop} {h : Hp} {a0 a3 : Nat} {x1 x2 x5 xs0 xs1 : Int32} (H : hpK h a3 = 15 ∧ CKi mX5_givenTo 0 0 0 [some (.ref a3), some (.int x5), some (.int x2)] h (fun v h' => Wm mX6_ownRights 2 0 0 Q 95 [some (.ref a0), some (.int x1), some (.int x2), some (.ref a3), none, some (.int x5)] [.int v, .int xs1, .int xs0] h' 0 0)) : Wm mX6_ownRights 2 0 0 Q 88 [some (.ref a0), some (.int x1), some (.int x2), some (.ref a3), none, some (.int x5)] [.int xs1, .int xs0] h 0 0 := by
  refine rl_aload_n dX6_ownRights_88 rfl rfl ?_
  refine rl_iload dX6_ownRights_89 rfl ?_
  refine rl_iload_n dX6_ownRights_91 rfl rfl ?_
  obtain ⟨o_1, H⟩ := H
  exact rl_callV (As := [.int x5, .int x2]) (rest := [.int xs1, .int xs0]) mfX5_givenTo dX6_ownRights_92 lkX6_87 o_1 (by decide) (Nat.le_of_ble_eq_true rfl) (Nat.le_refl _) (Nat.le_refl _) rfl (Nat.le_of_ble_eq_true rfl) rfl rfl (fun Qc k => H Qc (fun v h' w => k (some (.int v)) h' w))
theorem bX6_ownRights_95 {Q : Nat → Option Value → Hp → Prop} {h : Hp} {a0 a3 : Nat} {x1 x2 x5 xs0 xs1 xs2 : Int32} (H : Wm mX6_ownRights 2 0 0 Q 99 [some (.ref a0), some (.int x1), some (.int x2), some (.ref a3), some (.int (xs0 + (xs1 - xs2))), some (.int x5)] [] h 0 0) : Wm mX6_ownRights 2 0 0 Q 95 [some (.ref a0), some (.int x1), some (.int x2), some (.ref a3), none, some (.int x5)] [.int xs2, .int xs1, .int xs0] h 0 0 := by
  refine rl_isub dX6_ownRights_95 ?_
  refine rl_iadd dX6_ownRights_96 ?_
  refine rl_istore (L' := [some (.ref a0), some (.int x1), some (.int x2), some (.ref a3), some (.int (xs0 + (xs1 - xs2))), some (.int x5)]) dX6_ownRights_97 (Nat.le_of_ble_eq_true rfl) rfl ?_
  exact H
theorem bX6_ownRights_99 {Q : Nat → Option Value → Hp → Prop} {h : Hp} {a0 a3 : Nat} {x1 x2 x4 x5 : Int32} (H : Wm mX6_ownRights 2 0 0 Q 54 [some (.ref a0), some (.int x1), some (.int x2), some (.ref a3), some (.int x4), some (.int (x5 + nI 1))] [] h 0 0) : Wm mX6_ownRights 2 0 0 Q 99 [some (.ref a0), some (.int x1), some (.int x2), some (.ref a3), some (.int x4), some (.int x5)] [] h 0 0 := by
  refine rl_iinc (v := x5 + nI 1) (L' := [some (.ref a0), some (.int x1), some (.int x2), some (.ref a3), some (.int x4), some (.int (x5 + nI 1))]) dX6_ownRights_99 rfl (congrArg (fun z => x5 + z) (by decide)) (Nat.le_of_ble_eq_true rfl) rfl ?_
  refine rl_goto (tgt := 54) dX6_ownRights_102 (by decide) ?_
  exact H
theorem bX6_ownRights_108 {Q : Nat → Option Value → Hp → Prop} {h : Hp} {a0 : Nat} {x1 x2 x4 x5 : Int32} (H : hpK h a0 = 16 ∧ (((hpI h a0 5) ≤ x5 → Q 0 (some (.int x4)) h) ∧ (¬ (hpI h a0 5) ≤ x5 → (∃ p_3 : Nat, hpP h a0 8 = some p_3 ∧ (hpK h p_3 = 32 ∧ vp_in x5 (hpN h p_3) ∧ ∃ p_7 : Nat, hpP h p_3 (x5).toNatClampNeg = some p_7 ∧ (hpK h p_7 = 12 ∧ ((¬ (hpI h p_7 2) = x2 → Wm mX6_ownRights 2 0 0 Q 143 [some (.ref a0), some (.int x1), some (.int x2), none, some (.int x4), some (.int x5)] [] h 0 0) ∧ ((hpI h p_7 2) = x2 → CKi mX6_loanBalance 1 0 0 [some (.ref a0), some (.int x5), some (.int x1), none] h (fun v h' => Wm mX6_ownRights 2 0 0 Q 140 [some (.ref a0), some (.int x1), some (.int x2), none, none, some (.int x5)] [.int v, .int x4] h' 0 0))))))))) : Wm mX6_ownRights 2 0 0 Q 108 [some (.ref a0), some (.int x1), some (.int x2), none, some (.int x4), some (.int x5)] [] h 0 0 := by
  refine rl_iload dX6_ownRights_108 rfl ?_
  refine rl_aload_n dX6_ownRights_110 rfl rfl ?_
  obtain ⟨o_1, H⟩ := H
  refine rl_getI (k := 5) cfX6 dX6_ownRights_111 flX6_50 (by decide) rfl o_1 ?_
  refine rl_icmp_ge (tgt := 149) dX6_ownRights_114 (by decide) (fun c_2 => ?_) (fun c_2 => ?_)
  · have H := H.1 c_2
    refine rl_iload dX6_ownRights_149 rfl ?_
    exact rl_iret dX6_ownRights_151 rfl (Nat.le_refl 0) (Nat.le_refl 0) H
  · have H := H.2 c_2
    refine rl_aload_n dX6_ownRights_117 rfl rfl ?_
    obtain ⟨p_3, e_4, H⟩ := H
    refine rl_getP (k := 8) cfX6 dX6_ownRights_118 flX6_11 (by decide) rfl o_1 e_4 ?_
    refine rl_iload dX6_ownRights_121 rfl ?_
    obtain ⟨o_5, H⟩ := H
    obtain ⟨o_6, H⟩ := H
    obtain ⟨p_7, e_8, H⟩ := H
    refine rl_aald (ci := 2) dX6_ownRights_123 rfl o_5 o_6 e_8 ?_
    obtain ⟨o_9, H⟩ := H
    refine rl_getI (k := 2) cfX2 dX6_ownRights_124 flX6_90 (by decide) rfl o_9 ?_
    refine rl_iload_n dX6_ownRights_127 rfl rfl ?_
    refine rl_icmp_ne (tgt := 143) dX6_ownRights_128 (by decide) (fun c_10 => ?_) (fun c_10 => ?_)
    · have H := H.1 c_10
      exact H
    · have H := H.2 c_10
      refine rl_iload dX6_ownRights_131 rfl ?_
      refine rl_aload_n dX6_ownRights_133 rfl rfl ?_
      refine rl_iload dX6_ownRights_134 rfl ?_
      refine rl_iload_n dX6_ownRights_136 rfl rfl ?_
      exact rl_callV (As := [.int x5, .int x1]) (rest := [.int x4]) mfX6_loanBalance dX6_ownRights_137 lkX6_93 o_1 (by decide) (Nat.le_of_ble_eq_true rfl) (Nat.le_refl _) (Nat.le_refl _) rfl (Nat.le_of_ble_eq_true rfl) rfl rfl (fun Qc k => H Qc (fun v h' w => k (some (.int v)) h' (rl_wk (L' := [some (.ref a0), some (.int x1), some (.int x2), none, none, some (.int x5)]) ⟨rfl, ⟨rfl, ⟨rfl, ⟨rfl, trivial⟩⟩⟩⟩ w)))
theorem bX6_ownRights_140 {Q : Nat → Option Value → Hp → Prop} {h : Hp} {a0 : Nat} {x1 x2 x5 xs0 xs1 : Int32} (H : Wm mX6_ownRights 2 0 0 Q 143 [some (.ref a0), some (.int x1), some (.int x2), none, some (.int (xs0 + xs1)), some (.int x5)] [] h 0 0) : Wm mX6_ownRights 2 0 0 Q 140 [some (.ref a0), some (.int x1), some (.int x2), none, none, some (.int x5)] [.int xs1, .int xs0] h 0 0 := by
  refine rl_iadd dX6_ownRights_140 ?_
  refine rl_istore (L' := [some (.ref a0), some (.int x1), some (.int x2), none, some (.int (xs0 + xs1)), some (.int x5)]) dX6_ownRights_141 (Nat.le_of_ble_eq_true rfl) rfl ?_
  exact H
theorem bX6_ownRights_143 {Q : Nat → Option Value → Hp → Prop} {h : Hp} {a0 : Nat} {x1 x2 x4 x5 : Int32} (H : Wm mX6_ownRights 2 0 0 Q 108 [some (.ref a0), some (.int x1), some (.int x2), none, some (.int x4), some (.int (x5 + nI 1))] [] h 0 0) : Wm mX6_ownRights 2 0 0 Q 143 [some (.ref a0), some (.int x1), some (.int x2), none, some (.int x4), some (.int x5)] [] h 0 0 := by
  refine rl_iinc (v := x5 + nI 1) (L' := [some (.ref a0), some (.int x1), some (.int x2), none, some (.int x4), some (.int (x5 + nI 1))]) dX6_ownRights_143 rfl (congrArg (fun z => x5 + z) (by decide)) (Nat.le_of_ble_eq_true rfl) rfl ?_
  refine rl_goto (tgt := 108) dX6_ownRights_146 (by decide) ?_
  exact H
theorem bX6_roomAt_0 {Q : Nat → Option Value → Hp → Prop} {h : Hp} {a0 : Nat} {x1 x2 : Int32} (H : ((¬ x2 = 0 → hpK h a0 = 16 ∧ Q 0 (some (.int (x1 - (hpI h a0 1)))) h) ∧ (x2 = 0 → hpK h a0 = 16 ∧ Q 0 (some (.int ((hpI h a0 2) - x1))) h))) : Wm mX6_roomAt 0 0 0 Q 0 [some (.ref a0), some (.int x1), some (.int x2)] [] h 0 0 := by
  refine rl_iload_n dX6_roomAt_0 rfl rfl ?_
  refine rl_if_ne (tgt := 13) dX6_roomAt_1 (by decide) (fun c_1 => ?_) (fun c_1 => ?_)
  · have H := H.1 c_1
    refine rl_iload_n dX6_roomAt_13 rfl rfl ?_
    refine rl_aload_n dX6_roomAt_14 rfl rfl ?_
    obtain ⟨o_2, H⟩ := H
    refine rl_getI (k := 1) cfX6 dX6_roomAt_15 flX6_38 (by decide) rfl o_2 ?_
    refine rl_isub dX6_roomAt_18 ?_
    exact rl_iret dX6_roomAt_19 rfl (Nat.le_refl 0) (Nat.le_refl 0) H
  · have H := H.2 c_1
    refine rl_aload_n dX6_roomAt_4 rfl rfl ?_
    obtain ⟨o_3, H⟩ := H
    refine rl_getI (k := 2) cfX6 dX6_roomAt_5 flX6_41 (by decide) rfl o_3 ?_
    refine rl_iload_n dX6_roomAt_8 rfl rfl ?_
    refine rl_isub dX6_roomAt_9 ?_
    refine rl_goto (tgt := 19) dX6_roomAt_10 (by decide) ?_
    exact rl_iret dX6_roomAt_19 rfl (Nat.le_refl 0) (Nat.le_refl 0) H
theorem bX6_loanBalance_0 {Q : Nat → Option Value → Hp → Prop} {h : Hp} {a0 : Nat} {x1 x2 : Int32} (H : hpK h a0 = 16 ∧ ∃ p_2 : Nat, hpP h a0 8 = some p_2 ∧ (hpK h p_2 = 32 ∧ vp_in x1 (hpN h p_2) ∧ ∃ p_6 : Nat, hpP h p_2 (x1).toNatClampNeg = some p_6 ∧ (hpK h p_6 = 12 ∧ ((¬ (hpI h p_6 1) = x2 → (((hpI h p_6 0) = x2 → CKi mX6_hasComeBack 0 0 0 [some (.ref a0), some (.ref p_6)] h (fun v h' => Wm mX6_loanBalance 1 0 0 Q 41 [some (.ref a0), some (.int x1), some (.int x2), some (.ref p_6)] [.int v] h' 0 0)) ∧ (¬ (hpI h p_6 0) = x2 → Q 0 (some (.int (nI 0))) h))) ∧ ((hpI h p_6 1) = x2 → CKr mX6_recordOf 0 0 0 [some (.ref a0), some (.int x2)] h (fun v h' => Wm mX6_loanBalance 1 0 0 Q 20 [none, some (.int x1), none, none] [.ref v] h' 0 0)))))) : Wm mX6_loanBalance 1 0 0 Q 0 [some (.ref a0), some (.int x1), some (.int x2), none] [] h 0 0 := by
  refine rl_aload_n dX6_loanBalance_0 rfl rfl ?_
  obtain ⟨o_1, H⟩ := H
  obtain ⟨p_2, e_3, H⟩ := H
  refine rl_getP (k := 8) cfX6 dX6_loanBalance_1 flX6_11 (by decide) rfl o_1 e_3 ?_
  refine rl_iload_n dX6_loanBalance_4 rfl rfl ?_
  obtain ⟨o_4, H⟩ := H
  obtain ⟨o_5, H⟩ := H
  obtain ⟨p_6, e_7, H⟩ := H
  refine rl_aald (ci := 2) dX6_loanBalance_5 rfl o_4 o_5 e_7 ?_
  refine rl_astore_n (L' := [some (.ref a0), some (.int x1), some (.int x2), some (.ref p_6)]) dX6_loanBalance_6 rfl (Nat.le_of_ble_eq_true rfl) rfl ?_
  refine rl_aload_n dX6_loanBalance_7 rfl rfl ?_
  obtain ⟨o_8, H⟩ := H
  refine rl_getI (k := 1) cfX2 dX6_loanBalance_8 flX6_96 (by decide) rfl o_8 ?_
  refine rl_iload_n dX6_loanBalance_11 rfl rfl ?_
  refine rl_icmp_ne (tgt := 26) dX6_loanBalance_12 (by decide) (fun c_9 => ?_) (fun c_9 => ?_)
  · have H := H.1 c_9
    refine rl_aload_n dX6_loanBalance_26 rfl rfl ?_
    refine rl_getI (k := 0) cfX2 dX6_loanBalance_27 flX6_102 (by decide) rfl o_8 ?_
    refine rl_iload_n dX6_loanBalance_30 rfl rfl ?_
    refine rl_icmp_eq (tgt := 36) dX6_loanBalance_31 (by decide) (fun c_10 => ?_) (fun c_10 => ?_)
    · have H := H.1 c_10
      refine rl_aload_n dX6_loanBalance_36 rfl rfl ?_
      refine rl_aload_n dX6_loanBalance_37 rfl rfl ?_
      exact rl_callV (As := [.ref p_6]) (rest := []) mfX6_hasComeBack dX6_loanBalance_38 lkX6_105 o_1 (by decide) (Nat.le_of_ble_eq_true rfl) (Nat.le_refl _) (Nat.le_refl _) rfl (Nat.le_of_ble_eq_true rfl) rfl rfl (fun Qc k => H Qc (fun v h' w => k (some (.int v)) h' w))
    · have H := H.2 c_10
      refine rl_iconst (v := nI 0) dX6_loanBalance_34 (by decide) ?_
      exact rl_iret dX6_loanBalance_35 rfl (Nat.le_refl 0) (Nat.le_refl 0) H
  · have H := H.2 c_9
    refine rl_aload_n dX6_loanBalance_15 rfl rfl ?_
    refine rl_iload_n dX6_loanBalance_16 rfl rfl ?_
    exact rl_callV (As := [.int x2]) (rest := []) mfX6_recordOf dX6_loanBalance_17 lkX6_73 o_1 (by decide) (Nat.le_of_ble_eq_true rfl) (Nat.le_refl _) (Nat.le_refl _) rfl (Nat.le_of_ble_eq_true rfl) rfl rfl (fun Qc k => H Qc (fun v h' w => k (some (.ref v)) h' (rl_wk (L' := [none, some (.int x1), none, none]) ⟨rfl, trivial⟩ w)))
theorem bX6_loanBalance_20 {Q : Nat → Option Value → Hp → Prop} {h : Hp} {as0 : Nat} {x1 : Int32} (H : hpK h as0 = 15 ∧ ∃ p_2 : Nat, hpP h as0 6 = some p_2 ∧ (hpK h p_2 = 1 ∧ vp_in x1 (hpN h p_2) ∧ Q 0 (some (.int (hpI h p_2 (x1).toNatClampNeg))) h)) : Wm mX6_loanBalance 1 0 0 Q 20 [none, some (.int x1), none, none] [.ref as0] h 0 0 := by
  obtain ⟨o_1, H⟩ := H
  obtain ⟨p_2, e_3, H⟩ := H
  refine rl_getP (k := 6) cfX5 dX6_loanBalance_20 flX6_99 (by decide) rfl o_1 e_3 ?_
  refine rl_iload_n dX6_loanBalance_23 rfl rfl ?_
  obtain ⟨o_4, H⟩ := H
  obtain ⟨o_5, H⟩ := H
  refine rl_iald dX6_loanBalance_24 (Or.inl o_4) o_5 ?_
  exact rl_iret dX6_loanBalance_25 rfl (Nat.le_refl 0) (Nat.le_refl 0) H
theorem bX6_loanBalance_41 {Q : Nat → Option Value → Hp → Prop} {h : Hp} {a0 a3 : Nat} {x1 x2 xs0 : Int32} (H : ((¬ xs0 = 0 → hpK h a0 = 16 ∧ ∃ p_3 : Nat, hpP h a0 7 = some p_3 ∧ (hpK h p_3 = 37 ∧ vp_in x2 (hpN h p_3) ∧ ∃ p_7 : Nat, hpP h p_3 (x2).toNatClampNeg = some p_7 ∧ (hpK h p_7 = 17 ∧ ∃ p_10 : Nat, hpP h p_7 0 = some p_10 ∧ (hpK h a3 = 12 ∧ hpK h p_10 = 35 ∧ vp_in (hpI h a3 1) (hpN h p_10) ∧ ∃ p_15 : Nat, hpP h p_10 (hpI h a3 1).toNatClampNeg = some p_15 ∧ (hpK h p_15 = 15 ∧ ∃ p_18 : Nat, hpP h p_15 6 = some p_18 ∧ (hpK h p_18 = 1 ∧ vp_in x1 (hpN h p_18) ∧ Q 0 (some (.int (-(hpI h p_18 (x1).toNatClampNeg)))) h)))))) ∧ (xs0 = 0 → hpK h a3 = 12 ∧ Q 0 (some (.int (-(hpI h a3 3)))) h))) : Wm mX6_loanBalance 1 0 0 Q 41 [some (.ref a0), some (.int x1), some (.int x2), some (.ref a3)] [.int xs0] h 0 0 := by
  refine rl_if_ne (tgt := 50) dX6_loanBalance_41 (by decide) (fun c_1 => ?_) (fun c_1 => ?_)
  · have H := H.1 c_1
    refine rl_aload_n dX6_loanBalance_50 rfl rfl ?_
    obtain ⟨o_2, H⟩ := H
    obtain ⟨p_3, e_4, H⟩ := H
    refine rl_getP (k := 7) cfX6 dX6_loanBalance_51 flX6_29 (by decide) rfl o_2 e_4 ?_
    refine rl_iload_n dX6_loanBalance_54 rfl rfl ?_
    obtain ⟨o_5, H⟩ := H
    obtain ⟨o_6, H⟩ := H
    obtain ⟨p_7, e_8, H⟩ := H
    refine rl_aald (ci := 7) dX6_loanBalance_55 rfl o_5 o_6 e_8 ?_
    obtain ⟨o_9, H⟩ := H
    obtain ⟨p_10, e_11, H⟩ := H
    refine rl_getP (k := 0) cfX7 dX6_loanBalance_56 flX6_69 (by decide) rfl o_9 e_11 ?_
    refine rl_aload_n dX6_loanBalance_59 rfl rfl ?_
    obtain ⟨o_12, H⟩ := H
    refine rl_getI (k := 1) cfX2 dX6_loanBalance_60 flX6_96 (by decide) rfl o_12 ?_
    obtain ⟨o_13, H⟩ := H
    obtain ⟨o_14, H⟩ := H
    obtain ⟨p_15, e_16, H⟩ := H
    refine rl_aald (ci := 5) dX6_loanBalance_63 rfl o_13 o_14 e_16 ?_
    obtain ⟨o_17, H⟩ := H
    obtain ⟨p_18, e_19, H⟩ := H
    refine rl_getP (k := 6) cfX5 dX6_loanBalance_64 flX6_99 (by decide) rfl o_17 e_19 ?_
    refine rl_iload_n dX6_loanBalance_67 rfl rfl ?_
    obtain ⟨o_20, H⟩ := H
    obtain ⟨o_21, H⟩ := H
    refine rl_iald dX6_loanBalance_68 (Or.inl o_20) o_21 ?_
    refine rl_ineg dX6_loanBalance_69 ?_
    exact rl_iret dX6_loanBalance_70 rfl (Nat.le_refl 0) (Nat.le_refl 0) H
  · have H := H.2 c_1
    refine rl_aload_n dX6_loanBalance_44 rfl rfl ?_
    obtain ⟨o_22, H⟩ := H
    refine rl_getI (k := 3) cfX2 dX6_loanBalance_45 flX6_109 (by decide) rfl o_22 ?_
    refine rl_ineg dX6_loanBalance_48 ?_
    exact rl_iret dX6_loanBalance_49 rfl (Nat.le_refl 0) (Nat.le_refl 0) H
theorem bX6_hasComeBack_0 {Q : Nat → Option Value → Hp → Prop} {h : Hp} {a0 a1 : Nat} (H : hpK h a0 = 16 ∧ hpK h a1 = 12 ∧ (((hpI h a0 4) < (hpI h a1 4) → Q 0 (some (.int (nI 0))) h) ∧ (¬ (hpI h a0 4) < (hpI h a1 4) → (∃ p_4 : Nat, hpP h a0 7 = some p_4 ∧ (hpK h p_4 = 37 ∧ vp_in (hpI h a1 0) (hpN h p_4) ∧ ∃ p_8 : Nat, hpP h p_4 (hpI h a1 0).toNatClampNeg = some p_8 ∧ (hpK h p_8 = 17 ∧ ∃ p_11 : Nat, hpP h p_8 0 = some p_11 ∧ (hpK h p_11 = 35 ∧ vp_in (hpI h a1 1) (hpN h p_11) ∧ ∃ p_15 : Nat, hpP h p_11 (hpI h a1 1).toNatClampNeg = some p_15 ∧ (hpK h p_15 = 15 ∧ (((hpI h p_15 1) < (hpI h a1 4) → Q 0 (some (.int (nI 0))) h) ∧ (¬ (hpI h p_15 1) < (hpI h a1 4) → Q 0 (some (.int (nI 1))) h)))))))))) : Wm mX6_hasComeBack 0 0 0 Q 0 [some (.ref a0), some (.ref a1)] [] h 0 0 := by
  refine rl_aload_n dX6_hasComeBack_0 rfl rfl ?_
  obtain ⟨o_1, H⟩ := H
  refine rl_getI (k := 4) cfX6 dX6_hasComeBack_1 flX6_47 (by decide) rfl o_1 ?_
  refine rl_aload_n dX6_hasComeBack_4 rfl rfl ?_
  obtain ⟨o_2, H⟩ := H
  refine rl_getI (k := 4) cfX2 dX6_hasComeBack_5 flX6_112 (by decide) rfl o_2 ?_
  refine rl_icmp_lt (tgt := 42) dX6_hasComeBack_8 (by decide) (fun c_3 => ?_) (fun c_3 => ?_)
  · have H := H.1 c_3
    refine rl_iconst (v := nI 0) dX6_hasComeBack_42 (by decide) ?_
    exact rl_zret dX6_hasComeBack_43 rfl rfl (Nat.le_refl 0) (Nat.le_refl 0) H
  · have H := H.2 c_3
    refine rl_aload_n dX6_hasComeBack_11 rfl rfl ?_
    obtain ⟨p_4, e_5, H⟩ := H
    refine rl_getP (k := 7) cfX6 dX6_hasComeBack_12 flX6_29 (by decide) rfl o_1 e_5 ?_
    refine rl_aload_n dX6_hasComeBack_15 rfl rfl ?_
    refine rl_getI (k := 0) cfX2 dX6_hasComeBack_16 flX6_102 (by decide) rfl o_2 ?_
    obtain ⟨o_6, H⟩ := H
    obtain ⟨o_7, H⟩ := H
    obtain ⟨p_8, e_9, H⟩ := H
    refine rl_aald (ci := 7) dX6_hasComeBack_19 rfl o_6 o_7 e_9 ?_
    obtain ⟨o_10, H⟩ := H
    obtain ⟨p_11, e_12, H⟩ := H
    refine rl_getP (k := 0) cfX7 dX6_hasComeBack_20 flX6_69 (by decide) rfl o_10 e_12 ?_
    refine rl_aload_n dX6_hasComeBack_23 rfl rfl ?_
    refine rl_getI (k := 1) cfX2 dX6_hasComeBack_24 flX6_96 (by decide) rfl o_2 ?_
    obtain ⟨o_13, H⟩ := H
    obtain ⟨o_14, H⟩ := H
    obtain ⟨p_15, e_16, H⟩ := H
    refine rl_aald (ci := 5) dX6_hasComeBack_27 rfl o_13 o_14 e_16 ?_
    obtain ⟨o_17, H⟩ := H
    refine rl_getI (k := 1) cfX5 dX6_hasComeBack_28 flX6_115 (by decide) rfl o_17 ?_
    refine rl_aload_n dX6_hasComeBack_31 rfl rfl ?_
    refine rl_getI (k := 4) cfX2 dX6_hasComeBack_32 flX6_112 (by decide) rfl o_2 ?_
    refine rl_icmp_lt (tgt := 42) dX6_hasComeBack_35 (by decide) (fun c_18 => ?_) (fun c_18 => ?_)
    · have H := H.1 c_18
      refine rl_iconst (v := nI 0) dX6_hasComeBack_42 (by decide) ?_
      exact rl_zret dX6_hasComeBack_43 rfl rfl (Nat.le_refl 0) (Nat.le_refl 0) H
    · have H := H.2 c_18
      refine rl_iconst (v := nI 1) dX6_hasComeBack_38 (by decide) ?_
      refine rl_goto (tgt := 43) dX6_hasComeBack_39 (by decide) ?_
      exact rl_zret dX6_hasComeBack_43 rfl rfl (Nat.le_refl 0) (Nat.le_refl 0) H
theorem bX6_restOf_0 {Q : Nat → Option Value → Hp → Prop} {h : Hp} {a0 : Nat} {x1 : Int32} (H : hpK h a0 = 16 ∧ ∃ p_2 : Nat, hpP h a0 8 = some p_2 ∧ (hpK h p_2 = 32 ∧ vp_in x1 (hpN h p_2) ∧ ∃ p_6 : Nat, hpP h p_2 (x1).toNatClampNeg = some p_6 ∧ (∃ p_8 : Nat, hpP h a0 7 = some p_8 ∧ (hpK h p_6 = 12 ∧ hpK h p_8 = 37 ∧ vp_in (hpI h p_6 1) (hpN h p_8) ∧ ∃ p_13 : Nat, hpP h p_8 (hpI h p_6 1).toNatClampNeg = some p_13 ∧ (hpK h p_13 = 17 ∧ ∃ p_16 : Nat, hpP h p_13 0 = some p_16 ∧ (hpK h p_16 = 35 ∧ vp_in (hpI h p_6 0) (hpN h p_16) ∧ ∃ p_20 : Nat, hpP h p_16 (hpI h p_6 0).toNatClampNeg = some p_20 ∧ (hpK h p_20 = 15 ∧ CKi mX5_hasLent 0 0 0 [some (.ref p_20), some (.int x1)] h (fun v h' => Wm mX6_restOf 1 0 0 Q 28 [some (.ref a0), some (.int x1), some (.ref p_6), none] [.int v] h' 0 0)))))))) : Wm mX6_restOf 1 0 0 Q 0 [some (.ref a0), some (.int x1), none, none] [] h 0 0 := by
  refine rl_aload_n dX6_restOf_0 rfl rfl ?_
  obtain ⟨o_1, H⟩ := H
  obtain ⟨p_2, e_3, H⟩ := H
  refine rl_getP (k := 8) cfX6 dX6_restOf_1 flX6_11 (by decide) rfl o_1 e_3 ?_
  refine rl_iload_n dX6_restOf_4 rfl rfl ?_
  obtain ⟨o_4, H⟩ := H
  obtain ⟨o_5, H⟩ := H
  obtain ⟨p_6, e_7, H⟩ := H
  refine rl_aald (ci := 2) dX6_restOf_5 rfl o_4 o_5 e_7 ?_
  refine rl_astore_n (L' := [some (.ref a0), some (.int x1), some (.ref p_6), none]) dX6_restOf_6 rfl (Nat.le_of_ble_eq_true rfl) rfl ?_
  refine rl_aload_n dX6_restOf_7 rfl rfl ?_
  obtain ⟨p_8, e_9, H⟩ := H
  refine rl_getP (k := 7) cfX6 dX6_restOf_8 flX6_29 (by decide) rfl o_1 e_9 ?_
  refine rl_aload_n dX6_restOf_11 rfl rfl ?_
  obtain ⟨o_10, H⟩ := H
  refine rl_getI (k := 1) cfX2 dX6_restOf_12 flX6_96 (by decide) rfl o_10 ?_
  obtain ⟨o_11, H⟩ := H
  obtain ⟨o_12, H⟩ := H
  obtain ⟨p_13, e_14, H⟩ := H
  refine rl_aald (ci := 7) dX6_restOf_15 rfl o_11 o_12 e_14 ?_
  obtain ⟨o_15, H⟩ := H
  obtain ⟨p_16, e_17, H⟩ := H
  refine rl_getP (k := 0) cfX7 dX6_restOf_16 flX6_69 (by decide) rfl o_15 e_17 ?_
  refine rl_aload_n dX6_restOf_19 rfl rfl ?_
  refine rl_getI (k := 0) cfX2 dX6_restOf_20 flX6_102 (by decide) rfl o_10 ?_
  obtain ⟨o_18, H⟩ := H
  obtain ⟨o_19, H⟩ := H
  obtain ⟨p_20, e_21, H⟩ := H
  refine rl_aald (ci := 5) dX6_restOf_23 rfl o_18 o_19 e_21 ?_
  refine rl_iload_n dX6_restOf_24 rfl rfl ?_
  obtain ⟨o_22, H⟩ := H
  exact rl_callV (As := [.int x1]) (rest := []) mfX5_hasLent dX6_restOf_25 lkX6_116 o_22 (by decide) (Nat.le_of_ble_eq_true rfl) (Nat.le_refl _) (Nat.le_refl _) rfl (Nat.le_of_ble_eq_true rfl) rfl rfl (fun Qc k => H Qc (fun v h' w => k (some (.int v)) h' w))
theorem bX6_restOf_28 {Q : Nat → Option Value → Hp → Prop} {h : Hp} {a0 a2 : Nat} {x1 xs0 : Int32} (H : ((xs0 = 0 → Q 0 (some (.int (nI 0))) h) ∧ (¬ xs0 = 0 → hpK h a0 = 16 ∧ hpK h a2 = 12 ∧ (((hpI h a0 4) < (hpI h a2 4) → CKr mX6_recordOf 0 0 0 [some (.ref a0), some (.int (hpI h a2 1))] h (fun v h' => Wm mX6_restOf 1 0 0 Q 58 [none, some (.int x1), none, none] [.ref v, .int (hpI h a2 3)] h' 0 0)) ∧ (¬ (hpI h a0 4) < (hpI h a2 4) → Q 0 (some (.int (nI 0))) h))))) : Wm mX6_restOf 1 0 0 Q 28 [some (.ref a0), some (.int x1), some (.ref a2), none] [.int xs0] h 0 0 := by
  refine rl_istore_n (L' := [some (.ref a0), some (.int x1), some (.ref a2), some (.int xs0)]) dX6_restOf_28 rfl (Nat.le_of_ble_eq_true rfl) rfl ?_
  refine rl_iload_n dX6_restOf_29 rfl rfl ?_
  refine rl_if_eq (tgt := 44) dX6_restOf_30 (by decide) (fun c_1 => ?_) (fun c_1 => ?_)
  · have H := H.1 c_1
    refine rl_iconst (v := nI 0) dX6_restOf_44 (by decide) ?_
    exact rl_iret dX6_restOf_45 rfl (Nat.le_refl 0) (Nat.le_refl 0) H
  · have H := H.2 c_1
    refine rl_aload_n dX6_restOf_33 rfl rfl ?_
    obtain ⟨o_2, H⟩ := H
    refine rl_getI (k := 4) cfX6 dX6_restOf_34 flX6_47 (by decide) rfl o_2 ?_
    refine rl_aload_n dX6_restOf_37 rfl rfl ?_
    obtain ⟨o_3, H⟩ := H
    refine rl_getI (k := 4) cfX2 dX6_restOf_38 flX6_112 (by decide) rfl o_3 ?_
    refine rl_icmp_lt (tgt := 46) dX6_restOf_41 (by decide) (fun c_4 => ?_) (fun c_4 => ?_)
    · have H := H.1 c_4
      refine rl_aload_n dX6_restOf_46 rfl rfl ?_
      refine rl_getI (k := 3) cfX2 dX6_restOf_47 flX6_109 (by decide) rfl o_3 ?_
      refine rl_aload_n dX6_restOf_50 rfl rfl ?_
      refine rl_aload_n dX6_restOf_51 rfl rfl ?_
      refine rl_getI (k := 1) cfX2 dX6_restOf_52 flX6_96 (by decide) rfl o_3 ?_
      exact rl_callV (As := [.int (hpI h a2 1)]) (rest := [.int (hpI h a2 3)]) mfX6_recordOf dX6_restOf_55 lkX6_73 o_2 (by decide) (Nat.le_of_ble_eq_true rfl) (Nat.le_refl _) (Nat.le_refl _) rfl (Nat.le_of_ble_eq_true rfl) rfl rfl (fun Qc k => H Qc (fun v h' w => k (some (.ref v)) h' (rl_wk (L' := [none, some (.int x1), none, none]) ⟨rfl, trivial⟩ w)))
    · have H := H.2 c_4
      refine rl_iconst (v := nI 0) dX6_restOf_44 (by decide) ?_
      exact rl_iret dX6_restOf_45 rfl (Nat.le_refl 0) (Nat.le_refl 0) H
theorem bX6_restOf_58 {Q : Nat → Option Value → Hp → Prop} {h : Hp} {as1 : Nat} {x1 xs0 : Int32} (H : hpK h as1 = 15 ∧ ∃ p_2 : Nat, hpP h as1 6 = some p_2 ∧ (hpK h p_2 = 1 ∧ vp_in x1 (hpN h p_2) ∧ Q 0 (some (.int (xs0 - (hpI h p_2 (x1).toNatClampNeg)))) h)) : Wm mX6_restOf 1 0 0 Q 58 [none, some (.int x1), none, none] [.ref as1, .int xs0] h 0 0 := by
  obtain ⟨o_1, H⟩ := H
  obtain ⟨p_2, e_3, H⟩ := H
  refine rl_getP (k := 6) cfX5 dX6_restOf_58 flX6_99 (by decide) rfl o_1 e_3 ?_
  refine rl_iload_n dX6_restOf_61 rfl rfl ?_
  obtain ⟨o_4, H⟩ := H
  obtain ⟨o_5, H⟩ := H
  refine rl_iald dX6_restOf_62 (Or.inl o_4) o_5 ?_
  refine rl_isub dX6_restOf_63 ?_
  exact rl_iret dX6_restOf_64 rfl (Nat.le_refl 0) (Nat.le_refl 0) H
theorem bX6_useLoans_0 {Q : Nat → Option Value → Hp → Prop} {h : Hp} {a0 : Nat} {x1 x2 x3 : Int32} (H : Wm mX6_useLoans 3 0 0 Q 6 [some (.ref a0), some (.int x1), some (.int x2), none, some (.int x3), some (.int (nI 0)), none, none] [] h 0 0) : Wm mX6_useLoans 3 0 0 Q 0 [some (.ref a0), some (.int x1), some (.int x2), some (.int x3), none, none, none, none] [] h 0 0 := by
  refine rl_iload_n dX6_useLoans_0 rfl rfl ?_
  refine rl_istore (L' := [some (.ref a0), some (.int x1), some (.int x2), some (.int x3), some (.int x3), none, none, none]) dX6_useLoans_1 (Nat.le_of_ble_eq_true rfl) rfl ?_
  refine rl_iconst (v := nI 0) dX6_useLoans_3 (by decide) ?_
  refine rl_istore (L' := [some (.ref a0), some (.int x1), some (.int x2), some (.int x3), some (.int x3), some (.int (nI 0)), none, none]) dX6_useLoans_4 (Nat.le_of_ble_eq_true rfl) rfl ?_
  refine rl_wk (L' := [some (.ref a0), some (.int x1), some (.int x2), none, some (.int x3), some (.int (nI 0)), none, none]) ⟨rfl, ⟨rfl, ⟨rfl, ⟨rfl, ⟨rfl, trivial⟩⟩⟩⟩⟩ ?_
  exact H
theorem bX6_useLoans_6 {Q : Nat → Option Value → Hp → Prop} {h : Hp} {a0 : Nat} {x1 x2 x4 x5 : Int32} (H : hpK h a0 = 16 ∧ (((hpI h a0 5) ≤ x5 → Q 0 none h) ∧ (¬ (hpI h a0 5) ≤ x5 → ((x4 ≤ 0 → Q 0 none h) ∧ (¬ x4 ≤ 0 → CKi mX6_soonestLoan 2 0 0 [some (.ref a0), some (.int x1), some (.int x2), none, none, none] h (fun v h' => Wm mX6_useLoans 3 0 0 Q 26 [some (.ref a0), some (.int x1), some (.int x2), none, some (.int x4), some (.int x5), none, none] [.int v] h' 0 0)))))) : Wm mX6_useLoans 3 0 0 Q 6 [some (.ref a0), some (.int x1), some (.int x2), none, some (.int x4), some (.int x5), none, none] [] h 0 0 := by
  refine rl_iload dX6_useLoans_6 rfl ?_
  refine rl_aload_n dX6_useLoans_8 rfl rfl ?_
  obtain ⟨o_1, H⟩ := H
  refine rl_getI (k := 5) cfX6 dX6_useLoans_9 flX6_50 (by decide) rfl o_1 ?_
  refine rl_icmp_ge (tgt := 77) dX6_useLoans_12 (by decide) (fun c_2 => ?_) (fun c_2 => ?_)
  · have H := H.1 c_2
    exact rl_vret dX6_useLoans_77 rfl (Nat.le_refl 0) (Nat.le_refl 0) H
  · have H := H.2 c_2
    refine rl_iload dX6_useLoans_15 rfl ?_
    refine rl_if_le (tgt := 77) dX6_useLoans_17 (by decide) (fun c_3 => ?_) (fun c_3 => ?_)
    · have H := H.1 c_3
      exact rl_vret dX6_useLoans_77 rfl (Nat.le_refl 0) (Nat.le_refl 0) H
    · have H := H.2 c_3
      refine rl_aload_n dX6_useLoans_20 rfl rfl ?_
      refine rl_iload_n dX6_useLoans_21 rfl rfl ?_
      refine rl_iload_n dX6_useLoans_22 rfl rfl ?_
      exact rl_callV (As := [.int x1, .int x2]) (rest := []) mfX6_soonestLoan dX6_useLoans_23 lkX6_153 o_1 (by decide) (Nat.le_of_ble_eq_true rfl) (Nat.le_refl _) (Nat.le_refl _) rfl (Nat.le_of_ble_eq_true rfl) rfl rfl (fun Qc k => H Qc (fun v h' w => k (some (.int v)) h' w))
theorem bX6_useLoans_26 {Q : Nat → Option Value → Hp → Prop} {h : Hp} {a0 : Nat} {x1 x2 x4 x5 xs0 : Int32} (H : ((¬ xs0 = (-1) → hpK h a0 = 16 ∧ CKi mX6_restOf 1 0 0 [some (.ref a0), some (.int xs0), none, none] h (fun v h' => Wm mX6_useLoans 3 0 0 Q 43 [some (.ref a0), some (.int x1), some (.int x2), none, some (.int x4), some (.int x5), some (.int xs0), none] [.int v, .int x4] h' 0 0)) ∧ (xs0 = (-1) → Q 0 none h))) : Wm mX6_useLoans 3 0 0 Q 26 [some (.ref a0), some (.int x1), some (.int x2), none, some (.int x4), some (.int x5), none, none] [.int xs0] h 0 0 := by
  refine rl_istore (L' := [some (.ref a0), some (.int x1), some (.int x2), none, some (.int x4), some (.int x5), some (.int xs0), none]) dX6_useLoans_26 (Nat.le_of_ble_eq_true rfl) rfl ?_
  refine rl_iload dX6_useLoans_28 rfl ?_
  refine rl_iconst (v := -1) dX6_useLoans_30 (by decide) ?_
  refine rl_icmp_ne (tgt := 35) dX6_useLoans_31 (by decide) (fun c_1 => ?_) (fun c_1 => ?_)
  · have H := H.1 c_1
    refine rl_iload dX6_useLoans_35 rfl ?_
    refine rl_aload_n dX6_useLoans_37 rfl rfl ?_
    refine rl_iload dX6_useLoans_38 rfl ?_
    obtain ⟨o_2, H⟩ := H
    exact rl_callV (As := [.int xs0]) (rest := [.int x4]) mfX6_restOf dX6_useLoans_40 lkX6_123 o_2 (by decide) (Nat.le_of_ble_eq_true rfl) (Nat.le_refl _) (Nat.le_refl _) rfl (Nat.le_of_ble_eq_true rfl) rfl rfl (fun Qc k => H Qc (fun v h' w => k (some (.int v)) h' w))
  · have H := H.2 c_1
    exact rl_vret dX6_useLoans_34 rfl (Nat.le_refl 0) (Nat.le_refl 0) H
theorem bX6_useLoans_43 {Q : Nat → Option Value → Hp → Prop} {h : Hp} {a0 : Nat} {x1 x2 x4 x5 x6 xs0 xs1 : Int32} (H : hpK h a0 = 16 ∧ CKr mX6_recordOf 0 0 0 [some (.ref a0), some (.int x1)] h (fun v h' => Wm mX6_useLoans 3 0 0 Q 53 [some (.ref a0), some (.int x1), some (.int x2), none, some (.int x4), some (.int x5), some (.int x6), some (.int (if xs1 < xs0 then xs1 else xs0))] [.ref v] h' 0 0)) : Wm mX6_useLoans 3 0 0 Q 43 [some (.ref a0), some (.int x1), some (.int x2), none, some (.int x4), some (.int x5), some (.int x6), none] [.int xs1, .int xs0] h 0 0 := by
  refine rl_min dX6_useLoans_43 lkX6_144 min1 inMath min2 (by decide) (Nat.le_of_ble_eq_true rfl) (Nat.le_refl 0) (Nat.le_refl 0) ?_
  refine rl_istore (L' := [some (.ref a0), some (.int x1), some (.int x2), none, some (.int x4), some (.int x5), some (.int x6), some (.int (if xs1 < xs0 then xs1 else xs0))]) dX6_useLoans_46 (Nat.le_of_ble_eq_true rfl) rfl ?_
  refine rl_aload_n dX6_useLoans_48 rfl rfl ?_
  refine rl_iload_n dX6_useLoans_49 rfl rfl ?_
  obtain ⟨o_1, H⟩ := H
  exact rl_callV (As := [.int x1]) (rest := []) mfX6_recordOf dX6_useLoans_50 lkX6_73 o_1 (by decide) (Nat.le_of_ble_eq_true rfl) (Nat.le_refl _) (Nat.le_refl _) rfl (Nat.le_of_ble_eq_true rfl) rfl rfl (fun Qc k => H Qc (fun v h' w => k (some (.ref v)) h' w))
theorem bX6_useLoans_53 {Q : Nat → Option Value → Hp → Prop} {h : Hp} {a0 as0 : Nat} {x1 x2 x4 x5 x6 x7 : Int32} (H : hpK h as0 = 15 ∧ ∃ p_2 : Nat, hpP h as0 6 = some p_2 ∧ (hpK h p_2 = 1 ∧ vp_in x6 (hpN h p_2) ∧ Wm mX6_useLoans 3 0 0 Q 6 [some (.ref a0), some (.int x1), some (.int x2), none, some (.int (x4 - x7)), some (.int (x5 + nI 1)), none, none] [] (stI h p_2 (x6).toNatClampNeg ((hpI h p_2 (x6).toNatClampNeg) + x7)) 0 0)) : Wm mX6_useLoans 3 0 0 Q 53 [some (.ref a0), some (.int x1), some (.int x2), none, some (.int x4), some (.int x5), some (.int x6), some (.int x7)] [.ref as0] h 0 0 := by
  obtain ⟨o_1, H⟩ := H
  obtain ⟨p_2, e_3, H⟩ := H
  refine rl_getP (k := 6) cfX5 dX6_useLoans_53 flX6_99 (by decide) rfl o_1 e_3 ?_
  refine rl_iload dX6_useLoans_56 rfl ?_
  refine rl_dup2 dX6_useLoans_58 rfl rfl ?_
  obtain ⟨o_4, H⟩ := H
  obtain ⟨o_5, H⟩ := H
  refine rl_iald dX6_useLoans_59 (Or.inl o_4) o_5 ?_
  refine rl_iload dX6_useLoans_60 rfl ?_
  refine rl_iadd dX6_useLoans_62 ?_
  refine rl_iast dX6_useLoans_63 o_4 o_5 ?_
  refine rl_iload dX6_useLoans_64 rfl ?_
  refine rl_iload dX6_useLoans_66 rfl ?_
  refine rl_isub dX6_useLoans_68 ?_
  refine rl_istore (L' := [some (.ref a0), some (.int x1), some (.int x2), none, some (.int (x4 - x7)), some (.int x5), some (.int x6), some (.int x7)]) dX6_useLoans_69 (Nat.le_of_ble_eq_true rfl) rfl ?_
  refine rl_iinc (v := x5 + nI 1) (L' := [some (.ref a0), some (.int x1), some (.int x2), none, some (.int (x4 - x7)), some (.int (x5 + nI 1)), some (.int x6), some (.int x7)]) dX6_useLoans_71 rfl (congrArg (fun z => x5 + z) (by decide)) (Nat.le_of_ble_eq_true rfl) rfl ?_
  refine rl_goto (tgt := 6) dX6_useLoans_74 (by decide) ?_
  refine rl_wk (L' := [some (.ref a0), some (.int x1), some (.int x2), none, some (.int (x4 - x7)), some (.int (x5 + nI 1)), none, none]) ⟨rfl, ⟨rfl, ⟨rfl, ⟨rfl, ⟨rfl, trivial⟩⟩⟩⟩⟩ ?_
  exact H
theorem bX6_soonestLoan_0 {Q : Nat → Option Value → Hp → Prop} {h : Hp} {a0 : Nat} {x1 x2 : Int32} (H : Wm mX6_soonestLoan 2 0 0 Q 5 [some (.ref a0), some (.int x1), some (.int x2), some (.int (-1)), some (.int (nI 0)), none] [] h 0 0) : Wm mX6_soonestLoan 2 0 0 Q 0 [some (.ref a0), some (.int x1), some (.int x2), none, none, none] [] h 0 0 := by
  refine rl_iconst (v := -1) dX6_soonestLoan_0 (by decide) ?_
  refine rl_istore_n (L' := [some (.ref a0), some (.int x1), some (.int x2), some (.int (-1)), none, none]) dX6_soonestLoan_1 rfl (Nat.le_of_ble_eq_true rfl) rfl ?_
  refine rl_iconst (v := nI 0) dX6_soonestLoan_2 (by decide) ?_
  refine rl_istore (L' := [some (.ref a0), some (.int x1), some (.int x2), some (.int (-1)), some (.int (nI 0)), none]) dX6_soonestLoan_3 (Nat.le_of_ble_eq_true rfl) rfl ?_
  exact H
theorem bX6_soonestLoan_5 {Q : Nat → Option Value → Hp → Prop} {h : Hp} {a0 : Nat} {x1 x2 x3 x4 : Int32} (H : hpK h a0 = 16 ∧ (((hpI h a0 5) ≤ x4 → Q 0 (some (.int x3)) h) ∧ (¬ (hpI h a0 5) ≤ x4 → (∃ p_3 : Nat, hpP h a0 8 = some p_3 ∧ (hpK h p_3 = 32 ∧ vp_in x4 (hpN h p_3) ∧ ∃ p_7 : Nat, hpP h p_3 (x4).toNatClampNeg = some p_7 ∧ (hpK h p_7 = 12 ∧ ((¬ (hpI h p_7 1) = x1 → Wm mX6_soonestLoan 2 0 0 Q 55 [some (.ref a0), some (.int x1), some (.int x2), some (.int x3), some (.int x4), none] [] h 0 0) ∧ ((hpI h p_7 1) = x1 → ((¬ (hpI h p_7 2) = x2 → Wm mX6_soonestLoan 2 0 0 Q 55 [some (.ref a0), some (.int x1), some (.int x2), some (.int x3), some (.int x4), none] [] h 0 0) ∧ ((hpI h p_7 2) = x2 → CKi mX6_restOf 1 0 0 [some (.ref a0), some (.int x4), none, none] h (fun v h' => Wm mX6_soonestLoan 2 0 0 Q 48 [some (.ref a0), some (.int x1), some (.int x2), some (.int x3), some (.int x4), none] [.int v] h' 0 0))))))))))) : Wm mX6_soonestLoan 2 0 0 Q 5 [some (.ref a0), some (.int x1), some (.int x2), some (.int x3), some (.int x4), none] [] h 0 0 := by
  refine rl_iload dX6_soonestLoan_5 rfl ?_
  refine rl_aload_n dX6_soonestLoan_7 rfl rfl ?_
  obtain ⟨o_1, H⟩ := H
  refine rl_getI (k := 5) cfX6 dX6_soonestLoan_8 flX6_50 (by decide) rfl o_1 ?_
  refine rl_icmp_ge (tgt := 99) dX6_soonestLoan_11 (by decide) (fun c_2 => ?_) (fun c_2 => ?_)
  · have H := H.1 c_2
    refine rl_iload_n dX6_soonestLoan_99 rfl rfl ?_
    exact rl_iret dX6_soonestLoan_100 rfl (Nat.le_refl 0) (Nat.le_refl 0) H
  · have H := H.2 c_2
    refine rl_aload_n dX6_soonestLoan_14 rfl rfl ?_
    obtain ⟨p_3, e_4, H⟩ := H
    refine rl_getP (k := 8) cfX6 dX6_soonestLoan_15 flX6_11 (by decide) rfl o_1 e_4 ?_
    refine rl_iload dX6_soonestLoan_18 rfl ?_
    obtain ⟨o_5, H⟩ := H
    obtain ⟨o_6, H⟩ := H
    obtain ⟨p_7, e_8, H⟩ := H
    refine rl_aald (ci := 2) dX6_soonestLoan_20 rfl o_5 o_6 e_8 ?_
    obtain ⟨o_9, H⟩ := H
    refine rl_getI (k := 1) cfX2 dX6_soonestLoan_21 flX6_96 (by decide) rfl o_9 ?_
    refine rl_iload_n dX6_soonestLoan_24 rfl rfl ?_
    refine rl_icmp_ne (tgt := 55) dX6_soonestLoan_25 (by decide) (fun c_10 => ?_) (fun c_10 => ?_)
    · have H := H.1 c_10
      exact H
    · have H := H.2 c_10
      refine rl_aload_n dX6_soonestLoan_28 rfl rfl ?_
      refine rl_getP (k := 8) cfX6 dX6_soonestLoan_29 flX6_11 (by decide) rfl o_1 e_4 ?_
      refine rl_iload dX6_soonestLoan_32 rfl ?_
      refine rl_aald (ci := 2) dX6_soonestLoan_34 rfl o_5 o_6 e_8 ?_
      refine rl_getI (k := 2) cfX2 dX6_soonestLoan_35 flX6_90 (by decide) rfl o_9 ?_
      refine rl_iload_n dX6_soonestLoan_38 rfl rfl ?_
      refine rl_icmp_ne (tgt := 55) dX6_soonestLoan_39 (by decide) (fun c_11 => ?_) (fun c_11 => ?_)
      · have H := H.1 c_11
        exact H
      · have H := H.2 c_11
        refine rl_aload_n dX6_soonestLoan_42 rfl rfl ?_
        refine rl_iload dX6_soonestLoan_43 rfl ?_
        exact rl_callV (As := [.int x4]) (rest := []) mfX6_restOf dX6_soonestLoan_45 lkX6_123 o_1 (by decide) (Nat.le_of_ble_eq_true rfl) (Nat.le_refl _) (Nat.le_refl _) rfl (Nat.le_of_ble_eq_true rfl) rfl rfl (fun Qc k => H Qc (fun v h' w => k (some (.int v)) h' w))
theorem bX6_soonestLoan_48 {Q : Nat → Option Value → Hp → Prop} {h : Hp} {a0 : Nat} {x1 x2 x3 x4 xs0 : Int32} (H : ((xs0 ≤ 0 → Wm mX6_soonestLoan 2 0 0 Q 55 [some (.ref a0), some (.int x1), some (.int x2), some (.int x3), some (.int x4), none] [] h 0 0) ∧ (¬ xs0 ≤ 0 → (((nI 1) = 0 → Wm mX6_soonestLoan 2 0 0 Q 93 [some (.ref a0), some (.int x1), some (.int x2), some (.int x3), some (.int x4), none] [] h 0 0) ∧ (¬ (nI 1) = 0 → ((x3 = (-1) → Wm mX6_soonestLoan 2 0 0 Q 90 [some (.ref a0), some (.int x1), some (.int x2), none, some (.int x4), none] [] h 0 0) ∧ (¬ x3 = (-1) → hpK h a0 = 16 ∧ ∃ p_5 : Nat, hpP h a0 8 = some p_5 ∧ (hpK h p_5 = 32 ∧ vp_in x4 (hpN h p_5) ∧ ∃ p_9 : Nat, hpP h p_5 (x4).toNatClampNeg = some p_9 ∧ (hpK h p_9 = 12 ∧ vp_in x3 (hpN h p_5) ∧ ∃ p_13 : Nat, hpP h p_5 (x3).toNatClampNeg = some p_13 ∧ (hpK h p_13 = 12 ∧ (((hpI h p_13 4) ≤ (hpI h p_9 4) → Wm mX6_soonestLoan 2 0 0 Q 93 [some (.ref a0), some (.int x1), some (.int x2), some (.int x3), some (.int x4), none] [] h 0 0) ∧ (¬ (hpI h p_13 4) ≤ (hpI h p_9 4) → Wm mX6_soonestLoan 2 0 0 Q 90 [some (.ref a0), some (.int x1), some (.int x2), none, some (.int x4), none] [] h 0 0)))))))))))) : Wm mX6_soonestLoan 2 0 0 Q 48 [some (.ref a0), some (.int x1), some (.int x2), some (.int x3), some (.int x4), none] [.int xs0] h 0 0 := by
  refine rl_if_le (tgt := 55) dX6_soonestLoan_48 (by decide) (fun c_1 => ?_) (fun c_1 => ?_)
  · have H := H.1 c_1
    exact H
  · have H := H.2 c_1
    refine rl_iconst (v := nI 1) dX6_soonestLoan_51 (by decide) ?_
    refine rl_goto (tgt := 56) dX6_soonestLoan_52 (by decide) ?_
    refine rl_istore (L' := [some (.ref a0), some (.int x1), some (.int x2), some (.int x3), some (.int x4), some (.int (nI 1))]) dX6_soonestLoan_56 (Nat.le_of_ble_eq_true rfl) rfl ?_
    refine rl_iload dX6_soonestLoan_58 rfl ?_
    refine rl_if_eq (tgt := 93) dX6_soonestLoan_60 (by decide) (fun c_2 => ?_) (fun c_2 => ?_)
    · have H := H.1 c_2
      refine rl_wk (L' := [some (.ref a0), some (.int x1), some (.int x2), some (.int x3), some (.int x4), none]) ⟨rfl, ⟨rfl, ⟨rfl, ⟨rfl, ⟨rfl, trivial⟩⟩⟩⟩⟩ ?_
      exact H
    · have H := H.2 c_2
      refine rl_iload_n dX6_soonestLoan_63 rfl rfl ?_
      refine rl_iconst (v := -1) dX6_soonestLoan_64 (by decide) ?_
      refine rl_icmp_eq (tgt := 90) dX6_soonestLoan_65 (by decide) (fun c_3 => ?_) (fun c_3 => ?_)
      · have H := H.1 c_3
        refine rl_wk (L' := [some (.ref a0), some (.int x1), some (.int x2), none, some (.int x4), none]) ⟨rfl, ⟨rfl, ⟨rfl, ⟨rfl, trivial⟩⟩⟩⟩ ?_
        exact H
      · have H := H.2 c_3
        refine rl_aload_n dX6_soonestLoan_68 rfl rfl ?_
        obtain ⟨o_4, H⟩ := H
        obtain ⟨p_5, e_6, H⟩ := H
        refine rl_getP (k := 8) cfX6 dX6_soonestLoan_69 flX6_11 (by decide) rfl o_4 e_6 ?_
        refine rl_iload dX6_soonestLoan_72 rfl ?_
        obtain ⟨o_7, H⟩ := H
        obtain ⟨o_8, H⟩ := H
        obtain ⟨p_9, e_10, H⟩ := H
        refine rl_aald (ci := 2) dX6_soonestLoan_74 rfl o_7 o_8 e_10 ?_
        obtain ⟨o_11, H⟩ := H
        refine rl_getI (k := 4) cfX2 dX6_soonestLoan_75 flX6_112 (by decide) rfl o_11 ?_
        refine rl_aload_n dX6_soonestLoan_78 rfl rfl ?_
        refine rl_getP (k := 8) cfX6 dX6_soonestLoan_79 flX6_11 (by decide) rfl o_4 e_6 ?_
        refine rl_iload_n dX6_soonestLoan_82 rfl rfl ?_
        obtain ⟨o_12, H⟩ := H
        obtain ⟨p_13, e_14, H⟩ := H
        refine rl_aald (ci := 2) dX6_soonestLoan_83 rfl o_7 o_12 e_14 ?_
        obtain ⟨o_15, H⟩ := H
        refine rl_getI (k := 4) cfX2 dX6_soonestLoan_84 flX6_112 (by decide) rfl o_15 ?_
        refine rl_icmp_ge (tgt := 93) dX6_soonestLoan_87 (by decide) (fun c_16 => ?_) (fun c_16 => ?_)
        · have H := H.1 c_16
          refine rl_wk (L' := [some (.ref a0), some (.int x1), some (.int x2), some (.int x3), some (.int x4), none]) ⟨rfl, ⟨rfl, ⟨rfl, ⟨rfl, ⟨rfl, trivial⟩⟩⟩⟩⟩ ?_
          exact H
        · have H := H.2 c_16
          refine rl_wk (L' := [some (.ref a0), some (.int x1), some (.int x2), none, some (.int x4), none]) ⟨rfl, ⟨rfl, ⟨rfl, ⟨rfl, trivial⟩⟩⟩⟩ ?_
          exact H
theorem bX6_soonestLoan_55 {Q : Nat → Option Value → Hp → Prop} {h : Hp} {a0 : Nat} {x1 x2 x3 x4 : Int32} (H : (((nI 0) = 0 → Wm mX6_soonestLoan 2 0 0 Q 93 [some (.ref a0), some (.int x1), some (.int x2), some (.int x3), some (.int x4), none] [] h 0 0) ∧ (¬ (nI 0) = 0 → ((x3 = (-1) → Wm mX6_soonestLoan 2 0 0 Q 90 [some (.ref a0), some (.int x1), some (.int x2), none, some (.int x4), none] [] h 0 0) ∧ (¬ x3 = (-1) → hpK h a0 = 16 ∧ ∃ p_4 : Nat, hpP h a0 8 = some p_4 ∧ (hpK h p_4 = 32 ∧ vp_in x4 (hpN h p_4) ∧ ∃ p_8 : Nat, hpP h p_4 (x4).toNatClampNeg = some p_8 ∧ (hpK h p_8 = 12 ∧ vp_in x3 (hpN h p_4) ∧ ∃ p_12 : Nat, hpP h p_4 (x3).toNatClampNeg = some p_12 ∧ (hpK h p_12 = 12 ∧ (((hpI h p_12 4) ≤ (hpI h p_8 4) → Wm mX6_soonestLoan 2 0 0 Q 93 [some (.ref a0), some (.int x1), some (.int x2), some (.int x3), some (.int x4), none] [] h 0 0) ∧ (¬ (hpI h p_12 4) ≤ (hpI h p_8 4) → Wm mX6_soonestLoan 2 0 0 Q 90 [some (.ref a0), some (.int x1), some (.int x2), none, some (.int x4), none] [] h 0 0)))))))))) : Wm mX6_soonestLoan 2 0 0 Q 55 [some (.ref a0), some (.int x1), some (.int x2), some (.int x3), some (.int x4), none] [] h 0 0 := by
  refine rl_iconst (v := nI 0) dX6_soonestLoan_55 (by decide) ?_
  refine rl_istore (L' := [some (.ref a0), some (.int x1), some (.int x2), some (.int x3), some (.int x4), some (.int (nI 0))]) dX6_soonestLoan_56 (Nat.le_of_ble_eq_true rfl) rfl ?_
  refine rl_iload dX6_soonestLoan_58 rfl ?_
  refine rl_if_eq (tgt := 93) dX6_soonestLoan_60 (by decide) (fun c_1 => ?_) (fun c_1 => ?_)
  · have H := H.1 c_1
    refine rl_wk (L' := [some (.ref a0), some (.int x1), some (.int x2), some (.int x3), some (.int x4), none]) ⟨rfl, ⟨rfl, ⟨rfl, ⟨rfl, ⟨rfl, trivial⟩⟩⟩⟩⟩ ?_
    exact H
  · have H := H.2 c_1
    refine rl_iload_n dX6_soonestLoan_63 rfl rfl ?_
    refine rl_iconst (v := -1) dX6_soonestLoan_64 (by decide) ?_
    refine rl_icmp_eq (tgt := 90) dX6_soonestLoan_65 (by decide) (fun c_2 => ?_) (fun c_2 => ?_)
    · have H := H.1 c_2
      refine rl_wk (L' := [some (.ref a0), some (.int x1), some (.int x2), none, some (.int x4), none]) ⟨rfl, ⟨rfl, ⟨rfl, ⟨rfl, trivial⟩⟩⟩⟩ ?_
      exact H
    · have H := H.2 c_2
      refine rl_aload_n dX6_soonestLoan_68 rfl rfl ?_
      obtain ⟨o_3, H⟩ := H
      obtain ⟨p_4, e_5, H⟩ := H
      refine rl_getP (k := 8) cfX6 dX6_soonestLoan_69 flX6_11 (by decide) rfl o_3 e_5 ?_
      refine rl_iload dX6_soonestLoan_72 rfl ?_
      obtain ⟨o_6, H⟩ := H
      obtain ⟨o_7, H⟩ := H
      obtain ⟨p_8, e_9, H⟩ := H
      refine rl_aald (ci := 2) dX6_soonestLoan_74 rfl o_6 o_7 e_9 ?_
      obtain ⟨o_10, H⟩ := H
      refine rl_getI (k := 4) cfX2 dX6_soonestLoan_75 flX6_112 (by decide) rfl o_10 ?_
      refine rl_aload_n dX6_soonestLoan_78 rfl rfl ?_
      refine rl_getP (k := 8) cfX6 dX6_soonestLoan_79 flX6_11 (by decide) rfl o_3 e_5 ?_
      refine rl_iload_n dX6_soonestLoan_82 rfl rfl ?_
      obtain ⟨o_11, H⟩ := H
      obtain ⟨p_12, e_13, H⟩ := H
      refine rl_aald (ci := 2) dX6_soonestLoan_83 rfl o_6 o_11 e_13 ?_
      obtain ⟨o_14, H⟩ := H
      refine rl_getI (k := 4) cfX2 dX6_soonestLoan_84 flX6_112 (by decide) rfl o_14 ?_
      refine rl_icmp_ge (tgt := 93) dX6_soonestLoan_87 (by decide) (fun c_15 => ?_) (fun c_15 => ?_)
      · have H := H.1 c_15
        refine rl_wk (L' := [some (.ref a0), some (.int x1), some (.int x2), some (.int x3), some (.int x4), none]) ⟨rfl, ⟨rfl, ⟨rfl, ⟨rfl, ⟨rfl, trivial⟩⟩⟩⟩⟩ ?_
        exact H
      · have H := H.2 c_15
        refine rl_wk (L' := [some (.ref a0), some (.int x1), some (.int x2), none, some (.int x4), none]) ⟨rfl, ⟨rfl, ⟨rfl, ⟨rfl, trivial⟩⟩⟩⟩ ?_
        exact H
theorem bX6_soonestLoan_90 {Q : Nat → Option Value → Hp → Prop} {h : Hp} {a0 : Nat} {x1 x2 x4 : Int32} (H : Wm mX6_soonestLoan 2 0 0 Q 93 [some (.ref a0), some (.int x1), some (.int x2), some (.int x4), some (.int x4), none] [] h 0 0) : Wm mX6_soonestLoan 2 0 0 Q 90 [some (.ref a0), some (.int x1), some (.int x2), none, some (.int x4), none] [] h 0 0 := by
  refine rl_iload dX6_soonestLoan_90 rfl ?_
  refine rl_istore_n (L' := [some (.ref a0), some (.int x1), some (.int x2), some (.int x4), some (.int x4), none]) dX6_soonestLoan_92 rfl (Nat.le_of_ble_eq_true rfl) rfl ?_
  exact H
theorem bX6_soonestLoan_93 {Q : Nat → Option Value → Hp → Prop} {h : Hp} {a0 : Nat} {x1 x2 x3 x4 : Int32} (H : Wm mX6_soonestLoan 2 0 0 Q 5 [some (.ref a0), some (.int x1), some (.int x2), some (.int x3), some (.int (x4 + nI 1)), none] [] h 0 0) : Wm mX6_soonestLoan 2 0 0 Q 93 [some (.ref a0), some (.int x1), some (.int x2), some (.int x3), some (.int x4), none] [] h 0 0 := by
  refine rl_iinc (v := x4 + nI 1) (L' := [some (.ref a0), some (.int x1), some (.int x2), some (.int x3), some (.int (x4 + nI 1)), none]) dX6_soonestLoan_93 rfl (congrArg (fun z => x4 + z) (by decide)) (Nat.le_of_ble_eq_true rfl) rfl ?_
  refine rl_goto (tgt := 5) dX6_soonestLoan_96 (by decide) ?_
  exact H
theorem bX6_give_0 {Q : Nat → Option Value → Hp → Prop} {h : Hp} {a0 : Nat} {x1 x2 x3 x4 : Int32} (H : hpK h a0 = 16 ∧ CKr mX6_recordOf 0 0 0 [some (.ref a0), some (.int x2)] h (fun v h' => Wm mX6_give 1 0 0 Q 5 [none, some (.int x1), none, some (.int x3), some (.int x4)] [.ref v] h' 0 0)) : Wm mX6_give 1 0 0 Q 0 [some (.ref a0), some (.int x1), some (.int x2), some (.int x3), some (.int x4)] [] h 0 0 := by
  refine rl_aload_n dX6_give_0 rfl rfl ?_
  refine rl_iload_n dX6_give_1 rfl rfl ?_
  obtain ⟨o_1, H⟩ := H
  exact rl_callV (As := [.int x2]) (rest := []) mfX6_recordOf dX6_give_2 lkX6_73 o_1 (by decide) (Nat.le_of_ble_eq_true rfl) (Nat.le_refl _) (Nat.le_refl _) rfl (Nat.le_of_ble_eq_true rfl) rfl rfl (fun Qc k => H Qc (fun v h' w => k (some (.ref v)) h' (rl_wk (L' := [none, some (.int x1), none, some (.int x3), some (.int x4)]) ⟨rfl, ⟨rfl, ⟨rfl, trivial⟩⟩⟩ w)))
theorem bX6_give_5 {Q : Nat → Option Value → Hp → Prop} {h : Hp} {as0 : Nat} {x1 x3 x4 : Int32} (H : hpK h as0 = 15 ∧ CKv mX5_give 0 0 0 [some (.ref as0), some (.int x3), some (.int x1), some (.int x4)] h (fun h' => Wm mX6_give 1 0 0 Q 12 [none, none, none, none, none] [] h' 0 0)) : Wm mX6_give 1 0 0 Q 5 [none, some (.int x1), none, some (.int x3), some (.int x4)] [.ref as0] h 0 0 := by
  refine rl_iload_n dX6_give_5 rfl rfl ?_
  refine rl_iload_n dX6_give_6 rfl rfl ?_
  refine rl_iload dX6_give_7 rfl ?_
  obtain ⟨o_1, H⟩ := H
  exact rl_callV (As := [.int x3, .int x1, .int x4]) (rest := []) mfX5_give dX6_give_9 lkX6_156 o_1 (by decide) (Nat.le_of_ble_eq_true rfl) (Nat.le_refl _) (Nat.le_refl _) rfl (Nat.le_of_ble_eq_true rfl) rfl rfl (fun Qc k => H Qc (fun h' w => k none h' (rl_wk (L' := [none, none, none, none, none]) trivial w)))
theorem bX6_give_12 {Q : Nat → Option Value → Hp → Prop} {h : Hp}  (H : Q 0 none h) : Wm mX6_give 1 0 0 Q 12 [none, none, none, none, none] [] h 0 0 := by
  exact rl_vret dX6_give_12 rfl (Nat.le_refl 0) (Nat.le_refl 0) H
theorem bX6_post_0 {Q : Nat → Option Value → Hp → Prop} {h : Hp} {a0 : Nat} {x1 x2 : Int32} (H : hpK h a0 = 16 ∧ ∃ p_2 : Nat, hpP h a0 9 = some p_2 ∧ (hpK h p_2 = 33 ∧ vp_in (hpI h a0 6) (hpN h p_2) ∧ ∃ p_6 : Nat, hpP h p_2 (hpI h a0 6).toNatClampNeg = some p_6 ∧ (hpK h p_6 = 13 ∧ ∃ p_9 : Nat, hpP h p_6 3 = some p_9 ∧ (∃ p_11 : Nat, hpP h a0 7 = some p_11 ∧ (hpK h p_11 = 37 ∧ vp_in x1 (hpN h p_11) ∧ ∃ p_15 : Nat, hpP h p_11 (x1).toNatClampNeg = some p_15 ∧ (hpK h p_9 = 17 ∧ CKv mX7_copyFrom 2 0 0 [some (.ref p_9), some (.ref p_15), none] (stI (stI (stI h p_6 0 x1) p_6 1 x2) p_6 2 (hpI (stI (stI h p_6 0 x1) p_6 1 x2) a0 4)) (fun h' => Wm mX6_post 3 0 0 Q 48 [some (.ref a0), none, none, some (.int (hpI h a0 6)), none] [] h' 0 0))))))) : Wm mX6_post 3 0 0 Q 0 [some (.ref a0), some (.int x1), some (.int x2), none, none] [] h 0 0 := by
  refine rl_aload_n dX6_post_0 rfl rfl ?_
  obtain ⟨o_1, H⟩ := H
  refine rl_getI (k := 6) cfX6 dX6_post_1 flX6_53 (by decide) rfl o_1 ?_
  refine rl_istore_n (L' := [some (.ref a0), some (.int x1), some (.int x2), some (.int (hpI h a0 6)), none]) dX6_post_4 rfl (Nat.le_of_ble_eq_true rfl) rfl ?_
  refine rl_aload_n dX6_post_5 rfl rfl ?_
  obtain ⟨p_2, e_3, H⟩ := H
  refine rl_getP (k := 9) cfX6 dX6_post_6 flX6_19 (by decide) rfl o_1 e_3 ?_
  refine rl_iload_n dX6_post_9 rfl rfl ?_
  obtain ⟨o_4, H⟩ := H
  obtain ⟨o_5, H⟩ := H
  obtain ⟨p_6, e_7, H⟩ := H
  refine rl_aald (ci := 3) dX6_post_10 rfl o_4 o_5 e_7 ?_
  refine rl_astore (L' := [some (.ref a0), some (.int x1), some (.int x2), some (.int (hpI h a0 6)), some (.ref p_6)]) dX6_post_11 (Nat.le_of_ble_eq_true rfl) rfl ?_
  refine rl_aload dX6_post_13 rfl ?_
  refine rl_iload_n dX6_post_15 rfl rfl ?_
  obtain ⟨o_8, H⟩ := H
  refine rl_putI (k := 0) cfX3 dX6_post_16 flX6_165 (by decide) rfl o_8 (Or.inl rfl) ?_
  refine rl_aload dX6_post_19 rfl ?_
  refine rl_iload_n dX6_post_21 rfl rfl ?_
  refine rl_putI (k := 1) cfX3 dX6_post_22 flX6_168 (by decide) rfl o_8 (Or.inl rfl) ?_
  refine rl_aload dX6_post_25 rfl ?_
  refine rl_aload_n dX6_post_27 rfl rfl ?_
  refine rl_getI (k := 4) cfX6 dX6_post_28 flX6_47 (by decide) rfl o_1 ?_
  refine rl_putI (k := 2) cfX3 dX6_post_31 flX6_171 (by decide) rfl o_8 (Or.inl rfl) ?_
  refine rl_aload dX6_post_34 rfl ?_
  obtain ⟨p_9, e_10, H⟩ := H
  refine rl_getP (k := 3) cfX3 dX6_post_36 flX6_174 (by decide) rfl o_8 e_10 ?_
  refine rl_aload_n dX6_post_39 rfl rfl ?_
  obtain ⟨p_11, e_12, H⟩ := H
  refine rl_getP (k := 7) cfX6 dX6_post_40 flX6_29 (by decide) rfl o_1 e_12 ?_
  refine rl_iload_n dX6_post_43 rfl rfl ?_
  obtain ⟨o_13, H⟩ := H
  obtain ⟨o_14, H⟩ := H
  obtain ⟨p_15, e_16, H⟩ := H
  refine rl_aald (ci := 7) dX6_post_44 rfl o_13 o_14 e_16 ?_
  obtain ⟨o_17, H⟩ := H
  exact rl_callV (As := [.ref p_15]) (rest := []) mfX7_copyFrom dX6_post_45 lkX6_59 o_17 (by decide) (Nat.le_of_ble_eq_true rfl) (Nat.le_refl _) (Nat.le_refl _) rfl (Nat.le_of_ble_eq_true rfl) rfl rfl (fun Qc k => H Qc (fun h' w => k none h' (rl_wk (L' := [some (.ref a0), none, none, some (.int (hpI h a0 6)), none]) ⟨rfl, ⟨rfl, trivial⟩⟩ w)))
theorem bX6_post_48 {Q : Nat → Option Value → Hp → Prop} {h : Hp} {a0 : Nat} {x3 : Int32} (H : hpK h a0 = 16 ∧ Q 0 (some (.int x3)) (stI h a0 6 ((hpI h a0 6) + (nI 1)))) : Wm mX6_post 3 0 0 Q 48 [some (.ref a0), none, none, some (.int x3), none] [] h 0 0 := by
  refine rl_aload_n dX6_post_48 rfl rfl ?_
  refine rl_dup dX6_post_49 rfl ?_
  obtain ⟨o_1, H⟩ := H
  refine rl_getI (k := 6) cfX6 dX6_post_50 flX6_53 (by decide) rfl o_1 ?_
  refine rl_iconst (v := nI 1) dX6_post_53 (by decide) ?_
  refine rl_iadd dX6_post_54 ?_
  refine rl_putI (k := 6) cfX6 dX6_post_55 flX6_53 (by decide) rfl o_1 (Or.inl rfl) ?_
  refine rl_iload_n dX6_post_58 rfl rfl ?_
  exact rl_iret dX6_post_59 rfl (Nat.le_refl 0) (Nat.le_refl 0) H
theorem bX6_handOver_0 {Q : Nat → Option Value → Hp → Prop} {h : Hp} {a0 : Nat} {x1 : Int32} (H : hpK h a0 = 16 ∧ ∃ p_2 : Nat, hpP h a0 9 = some p_2 ∧ (hpK h p_2 = 33 ∧ vp_in x1 (hpN h p_2) ∧ ∃ p_6 : Nat, hpP h p_2 (x1).toNatClampNeg = some p_6 ∧ (∃ p_8 : Nat, hpP h a0 7 = some p_8 ∧ (hpK h p_6 = 13 ∧ hpK h p_8 = 37 ∧ vp_in (hpI h p_6 1) (hpN h p_8) ∧ ∃ p_13 : Nat, hpP h p_8 (hpI h p_6 1).toNatClampNeg = some p_13 ∧ (∃ p_15 : Nat, hpP h p_6 3 = some p_15 ∧ (hpK h p_13 = 17 ∧ CKi mX7_learn 2 0 0 [some (.ref p_13), some (.ref p_15), some (.int (hpI h p_6 1)), none, none] h (fun v h' => Wm mX6_handOver 3 0 0 Q 27 [some (.ref a0), some (.int x1), none, none] [.int v] h' 0 0))))))) : Wm mX6_handOver 3 0 0 Q 0 [some (.ref a0), some (.int x1), none, none] [] h 0 0 := by
  refine rl_aload_n dX6_handOver_0 rfl rfl ?_
  obtain ⟨o_1, H⟩ := H
  obtain ⟨p_2, e_3, H⟩ := H
  refine rl_getP (k := 9) cfX6 dX6_handOver_1 flX6_19 (by decide) rfl o_1 e_3 ?_
  refine rl_iload_n dX6_handOver_4 rfl rfl ?_
  obtain ⟨o_4, H⟩ := H
  obtain ⟨o_5, H⟩ := H
  obtain ⟨p_6, e_7, H⟩ := H
  refine rl_aald (ci := 3) dX6_handOver_5 rfl o_4 o_5 e_7 ?_
  refine rl_astore_n (L' := [some (.ref a0), some (.int x1), some (.ref p_6), none]) dX6_handOver_6 rfl (Nat.le_of_ble_eq_true rfl) rfl ?_
  refine rl_aload_n dX6_handOver_7 rfl rfl ?_
  obtain ⟨p_8, e_9, H⟩ := H
  refine rl_getP (k := 7) cfX6 dX6_handOver_8 flX6_29 (by decide) rfl o_1 e_9 ?_
  refine rl_aload_n dX6_handOver_11 rfl rfl ?_
  obtain ⟨o_10, H⟩ := H
  refine rl_getI (k := 1) cfX3 dX6_handOver_12 flX6_168 (by decide) rfl o_10 ?_
  obtain ⟨o_11, H⟩ := H
  obtain ⟨o_12, H⟩ := H
  obtain ⟨p_13, e_14, H⟩ := H
  refine rl_aald (ci := 7) dX6_handOver_15 rfl o_11 o_12 e_14 ?_
  refine rl_aload_n dX6_handOver_16 rfl rfl ?_
  obtain ⟨p_15, e_16, H⟩ := H
  refine rl_getP (k := 3) cfX3 dX6_handOver_17 flX6_174 (by decide) rfl o_10 e_16 ?_
  refine rl_aload_n dX6_handOver_20 rfl rfl ?_
  refine rl_getI (k := 1) cfX3 dX6_handOver_21 flX6_168 (by decide) rfl o_10 ?_
  obtain ⟨o_17, H⟩ := H
  exact rl_callV (As := [.ref p_15, .int (hpI h p_6 1)]) (rest := []) mfX7_learn dX6_handOver_24 lkX6_178 o_17 (by decide) (Nat.le_of_ble_eq_true rfl) (Nat.le_refl _) (Nat.le_refl _) rfl (Nat.le_of_ble_eq_true rfl) rfl rfl (fun Qc k => H Qc (fun v h' w => k (some (.int v)) h' (rl_wk (L' := [some (.ref a0), some (.int x1), none, none]) ⟨rfl, ⟨rfl, trivial⟩⟩ w)))
theorem bX6_handOver_27 {Q : Nat → Option Value → Hp → Prop} {h : Hp} {a0 : Nat} {x1 xs0 : Int32} (H : hpK h a0 = 16 ∧ CKv mX6_drop 0 0 0 [some (.ref a0), some (.int x1), none, none] h (fun h' => Wm mX6_handOver 3 0 0 Q 33 [none, none, none, some (.int xs0)] [] h' 0 0)) : Wm mX6_handOver 3 0 0 Q 27 [some (.ref a0), some (.int x1), none, none] [.int xs0] h 0 0 := by
  refine rl_istore_n (L' := [some (.ref a0), some (.int x1), none, some (.int xs0)]) dX6_handOver_27 rfl (Nat.le_of_ble_eq_true rfl) rfl ?_
  refine rl_aload_n dX6_handOver_28 rfl rfl ?_
  refine rl_iload_n dX6_handOver_29 rfl rfl ?_
  obtain ⟨o_1, H⟩ := H
  exact rl_callV (As := [.int x1]) (rest := []) mfX6_drop dX6_handOver_30 lkX6_182 o_1 (by decide) (Nat.le_of_ble_eq_true rfl) (Nat.le_refl _) (Nat.le_refl _) rfl (Nat.le_of_ble_eq_true rfl) rfl rfl (fun Qc k => H Qc (fun h' w => k none h' (rl_wk (L' := [none, none, none, some (.int xs0)]) ⟨rfl, trivial⟩ w)))
theorem bX6_handOver_33 {Q : Nat → Option Value → Hp → Prop} {h : Hp} {x3 : Int32} (H : Q 0 (some (.int x3)) h) : Wm mX6_handOver 3 0 0 Q 33 [none, none, none, some (.int x3)] [] h 0 0 := by
  refine rl_iload_n dX6_handOver_33 rfl rfl ?_
  exact rl_iret dX6_handOver_34 rfl (Nat.le_refl 0) (Nat.le_refl 0) H
theorem bX6_drop_0 {Q : Nat → Option Value → Hp → Prop} {h : Hp} {a0 : Nat} {x1 : Int32} (H : hpK h a0 = 16 ∧ ∃ p_2 : Nat, hpP h a0 9 = some p_2 ∧ (hpK h p_2 = 33 ∧ vp_in x1 (hpN h p_2) ∧ ∃ p_6 : Nat, hpP h p_2 (x1).toNatClampNeg = some p_6 ∧ (Wm mX6_drop 0 0 0 Q 9 [some (.ref a0), none, some (.ref p_6), some (.int x1)] [] h 0 0))) : Wm mX6_drop 0 0 0 Q 0 [some (.ref a0), some (.int x1), none, none] [] h 0 0 := by
  refine rl_aload_n dX6_drop_0 rfl rfl ?_
  obtain ⟨o_1, H⟩ := H
  obtain ⟨p_2, e_3, H⟩ := H
  refine rl_getP (k := 9) cfX6 dX6_drop_1 flX6_19 (by decide) rfl o_1 e_3 ?_
  refine rl_iload_n dX6_drop_4 rfl rfl ?_
  obtain ⟨o_4, H⟩ := H
  obtain ⟨o_5, H⟩ := H
  obtain ⟨p_6, e_7, H⟩ := H
  refine rl_aald (ci := 3) dX6_drop_5 rfl o_4 o_5 e_7 ?_
  refine rl_astore_n (L' := [some (.ref a0), some (.int x1), some (.ref p_6), none]) dX6_drop_6 rfl (Nat.le_of_ble_eq_true rfl) rfl ?_
  refine rl_iload_n dX6_drop_7 rfl rfl ?_
  refine rl_istore_n (L' := [some (.ref a0), some (.int x1), some (.ref p_6), some (.int x1)]) dX6_drop_8 rfl (Nat.le_of_ble_eq_true rfl) rfl ?_
  refine rl_wk (L' := [some (.ref a0), none, some (.ref p_6), some (.int x1)]) ⟨rfl, ⟨rfl, ⟨rfl, trivial⟩⟩⟩ ?_
  exact H
theorem bX6_drop_9 {Q : Nat → Option Value → Hp → Prop} {h : Hp} {a0 a2 : Nat} {x3 : Int32} (H : hpK h a0 = 16 ∧ (((hpI h a0 6) ≤ (x3 + (nI 1)) → (∃ p_3 : Nat, hpP h a0 9 = some p_3 ∧ (hpK h p_3 = 33 ∧ vp_in (hpI (stI h a0 6 ((hpI h a0 6) - (nI 1))) a0 6) (hpN h p_3) ∧ hpK h a2 = 13 ∧ Q 0 none (stP (stI h a0 6 ((hpI h a0 6) - (nI 1))) p_3 (hpI (stI h a0 6 ((hpI h a0 6) - (nI 1))) a0 6).toNatClampNeg (some a2))))) ∧ (¬ (hpI h a0 6) ≤ (x3 + (nI 1)) → (∃ p_8 : Nat, hpP h a0 9 = some p_8 ∧ (hpK h p_8 = 33 ∧ vp_in (x3 + (nI 1)) (hpN h p_8) ∧ ∃ p_12 : Nat, hpP h p_8 (x3 + (nI 1)).toNatClampNeg = some p_12 ∧ (vp_in x3 (hpN h p_8) ∧ hpK h p_12 = 13 ∧ Wm mX6_drop 0 0 0 Q 9 [some (.ref a0), none, some (.ref a2), some (.int (x3 + nI 1))] [] (stP h p_8 (x3).toNatClampNeg (some p_12)) 0 0)))))) : Wm mX6_drop 0 0 0 Q 9 [some (.ref a0), none, some (.ref a2), some (.int x3)] [] h 0 0 := by
  refine rl_iload_n dX6_drop_9 rfl rfl ?_
  refine rl_iconst (v := nI 1) dX6_drop_10 (by decide) ?_
  refine rl_iadd dX6_drop_11 ?_
  refine rl_aload_n dX6_drop_12 rfl rfl ?_
  obtain ⟨o_1, H⟩ := H
  refine rl_getI (k := 6) cfX6 dX6_drop_13 flX6_53 (by decide) rfl o_1 ?_
  refine rl_icmp_ge (tgt := 39) dX6_drop_16 (by decide) (fun c_2 => ?_) (fun c_2 => ?_)
  · have H := H.1 c_2
    refine rl_aload_n dX6_drop_39 rfl rfl ?_
    refine rl_dup dX6_drop_40 rfl ?_
    refine rl_getI (k := 6) cfX6 dX6_drop_41 flX6_53 (by decide) rfl o_1 ?_
    refine rl_iconst (v := nI 1) dX6_drop_44 (by decide) ?_
    refine rl_isub dX6_drop_45 ?_
    refine rl_putI (k := 6) cfX6 dX6_drop_46 flX6_53 (by decide) rfl o_1 (Or.inl rfl) ?_
    refine rl_aload_n dX6_drop_49 rfl rfl ?_
    obtain ⟨p_3, e_4, H⟩ := H
    refine rl_getP (k := 9) cfX6 dX6_drop_50 flX6_19 (by decide) rfl o_1 e_4 ?_
    refine rl_aload_n dX6_drop_53 rfl rfl ?_
    refine rl_getI (k := 6) cfX6 dX6_drop_54 flX6_53 (by decide) rfl o_1 ?_
    refine rl_aload_n dX6_drop_57 rfl rfl ?_
    obtain ⟨o_5, H⟩ := H
    obtain ⟨o_6, H⟩ := H
    obtain ⟨o_7, H⟩ := H
    refine rl_aast (ci := 3) dX6_drop_58 rfl o_5 o_6 o_7 ?_
    exact rl_vret dX6_drop_59 rfl (Nat.le_refl 0) (Nat.le_refl 0) H
  · have H := H.2 c_2
    refine rl_aload_n dX6_drop_19 rfl rfl ?_
    obtain ⟨p_8, e_9, H⟩ := H
    refine rl_getP (k := 9) cfX6 dX6_drop_20 flX6_19 (by decide) rfl o_1 e_9 ?_
    refine rl_iload_n dX6_drop_23 rfl rfl ?_
    refine rl_aload_n dX6_drop_24 rfl rfl ?_
    refine rl_getP (k := 9) cfX6 dX6_drop_25 flX6_19 (by decide) rfl o_1 e_9 ?_
    refine rl_iload_n dX6_drop_28 rfl rfl ?_
    refine rl_iconst (v := nI 1) dX6_drop_29 (by decide) ?_
    refine rl_iadd dX6_drop_30 ?_
    obtain ⟨o_10, H⟩ := H
    obtain ⟨o_11, H⟩ := H
    obtain ⟨p_12, e_13, H⟩ := H
    refine rl_aald (ci := 3) dX6_drop_31 rfl o_10 o_11 e_13 ?_
    obtain ⟨o_14, H⟩ := H
    obtain ⟨o_15, H⟩ := H
    refine rl_aast (ci := 3) dX6_drop_32 rfl o_10 o_14 o_15 ?_
    refine rl_iinc (v := x3 + nI 1) (L' := [some (.ref a0), none, some (.ref a2), some (.int (x3 + nI 1))]) dX6_drop_33 rfl (congrArg (fun z => x3 + z) (by decide)) (Nat.le_of_ble_eq_true rfl) rfl ?_
    refine rl_goto (tgt := 9) dX6_drop_36 (by decide) ?_
    exact H
theorem bX6_letPass_0 {Q : Nat → Option Value → Hp → Prop} {h : Hp} {a0 : Nat} {x1 : Int32} (H : hpK h a0 = 16 ∧ Wm mX6_letPass 1 0 0 Q 12 [some (.ref a0), none, some (.int (nI 0))] [] (stI h a0 4 ((hpI h a0 4) + x1)) 0 0) : Wm mX6_letPass 1 0 0 Q 0 [some (.ref a0), some (.int x1), none] [] h 0 0 := by
  refine rl_aload_n dX6_letPass_0 rfl rfl ?_
  refine rl_dup dX6_letPass_1 rfl ?_
  obtain ⟨o_1, H⟩ := H
  refine rl_getI (k := 4) cfX6 dX6_letPass_2 flX6_47 (by decide) rfl o_1 ?_
  refine rl_iload_n dX6_letPass_5 rfl rfl ?_
  refine rl_iadd dX6_letPass_6 ?_
  refine rl_putI (k := 4) cfX6 dX6_letPass_7 flX6_47 (by decide) rfl o_1 (Or.inl rfl) ?_
  refine rl_iconst (v := nI 0) dX6_letPass_10 (by decide) ?_
  refine rl_istore_n (L' := [some (.ref a0), some (.int x1), some (.int (nI 0))]) dX6_letPass_11 rfl (Nat.le_of_ble_eq_true rfl) rfl ?_
  refine rl_wk (L' := [some (.ref a0), none, some (.int (nI 0))]) ⟨rfl, ⟨rfl, trivial⟩⟩ ?_
  exact H
theorem bX6_letPass_12 {Q : Nat → Option Value → Hp → Prop} {h : Hp} {a0 : Nat} {x2 : Int32} (H : hpK h a0 = 16 ∧ (((hpI h a0 0) ≤ x2 → Q 0 none h) ∧ (¬ (hpI h a0 0) ≤ x2 → CKr mX6_recordOf 0 0 0 [some (.ref a0), some (.int x2)] h (fun v h' => Wm mX6_letPass 1 0 0 Q 25 [some (.ref a0), none, some (.int x2)] [.ref v] h' 0 0)))) : Wm mX6_letPass 1 0 0 Q 12 [some (.ref a0), none, some (.int x2)] [] h 0 0 := by
  refine rl_iload_n dX6_letPass_12 rfl rfl ?_
  refine rl_aload_n dX6_letPass_13 rfl rfl ?_
  obtain ⟨o_1, H⟩ := H
  refine rl_getI (k := 0) cfX6 dX6_letPass_14 flX6_23 (by decide) rfl o_1 ?_
  refine rl_icmp_ge (tgt := 38) dX6_letPass_17 (by decide) (fun c_2 => ?_) (fun c_2 => ?_)
  · have H := H.1 c_2
    exact rl_vret dX6_letPass_38 rfl (Nat.le_refl 0) (Nat.le_refl 0) H
  · have H := H.2 c_2
    refine rl_aload_n dX6_letPass_20 rfl rfl ?_
    refine rl_iload_n dX6_letPass_21 rfl rfl ?_
    exact rl_callV (As := [.int x2]) (rest := []) mfX6_recordOf dX6_letPass_22 lkX6_73 o_1 (by decide) (Nat.le_of_ble_eq_true rfl) (Nat.le_refl _) (Nat.le_refl _) rfl (Nat.le_of_ble_eq_true rfl) rfl rfl (fun Qc k => H Qc (fun v h' w => k (some (.ref v)) h' w))
theorem bX6_letPass_25 {Q : Nat → Option Value → Hp → Prop} {h : Hp} {a0 as0 : Nat} {x2 : Int32} (H : hpK h a0 = 16 ∧ hpK h as0 = 15 ∧ Wm mX6_letPass 1 0 0 Q 12 [some (.ref a0), none, some (.int (x2 + nI 1))] [] (stI h as0 1 (hpI h a0 4)) 0 0) : Wm mX6_letPass 1 0 0 Q 25 [some (.ref a0), none, some (.int x2)] [.ref as0] h 0 0 := by
  refine rl_aload_n dX6_letPass_25 rfl rfl ?_
  obtain ⟨o_1, H⟩ := H
  refine rl_getI (k := 4) cfX6 dX6_letPass_26 flX6_47 (by decide) rfl o_1 ?_
  obtain ⟨o_2, H⟩ := H
  refine rl_putI (k := 1) cfX5 dX6_letPass_29 flX6_115 (by decide) rfl o_2 (Or.inl rfl) ?_
  refine rl_iinc (v := x2 + nI 1) (L' := [some (.ref a0), none, some (.int (x2 + nI 1))]) dX6_letPass_32 rfl (congrArg (fun z => x2 + z) (by decide)) (Nat.le_of_ble_eq_true rfl) rfl ?_
  refine rl_goto (tgt := 12) dX6_letPass_35 (by decide) ?_
  exact H
theorem bX6_valueKnownAt_0 {Q : Nat → Option Value → Hp → Prop} {h : Hp} {a0 : Nat} {x1 : Int32} (H : hpK h a0 = 16 ∧ Wm mX6_valueKnownAt 0 0 0 Q 7 [some (.ref a0), some (.int x1), some (.int (hpI h a0 3)), some (.int (nI 0)), none] [] h 0 0) : Wm mX6_valueKnownAt 0 0 0 Q 0 [some (.ref a0), some (.int x1), none, none, none] [] h 0 0 := by
  refine rl_aload_n dX6_valueKnownAt_0 rfl rfl ?_
  obtain ⟨o_1, H⟩ := H
  refine rl_getI (k := 3) cfX6 dX6_valueKnownAt_1 flX6_44 (by decide) rfl o_1 ?_
  refine rl_istore_n (L' := [some (.ref a0), some (.int x1), some (.int (hpI h a0 3)), none, none]) dX6_valueKnownAt_4 rfl (Nat.le_of_ble_eq_true rfl) rfl ?_
  refine rl_iconst (v := nI 0) dX6_valueKnownAt_5 (by decide) ?_
  refine rl_istore_n (L' := [some (.ref a0), some (.int x1), some (.int (hpI h a0 3)), some (.int (nI 0)), none]) dX6_valueKnownAt_6 rfl (Nat.le_of_ble_eq_true rfl) rfl ?_
  exact H
theorem bX6_valueKnownAt_7 {Q : Nat → Option Value → Hp → Prop} {h : Hp} {a0 : Nat} {x1 x2 x3 : Int32} (H : hpK h a0 = 16 ∧ (((hpI h a0 0) ≤ x3 → Q 0 (some (.int x2)) h) ∧ (¬ (hpI h a0 0) ≤ x3 → (∃ p_3 : Nat, hpP h a0 7 = some p_3 ∧ (hpK h p_3 = 37 ∧ vp_in x1 (hpN h p_3) ∧ ∃ p_7 : Nat, hpP h p_3 (x1).toNatClampNeg = some p_7 ∧ (hpK h p_7 = 17 ∧ ∃ p_10 : Nat, hpP h p_7 0 = some p_10 ∧ (hpK h p_10 = 35 ∧ vp_in x3 (hpN h p_10) ∧ ∃ p_14 : Nat, hpP h p_10 (x3).toNatClampNeg = some p_14 ∧ (hpK h p_14 = 15 ∧ ∃ p_17 : Nat, hpP h p_14 2 = some p_17 ∧ (hpK h p_17 = 1 ∧ vp_in (nI 0) (hpN h p_17) ∧ vp_in (nI 1) (hpN h p_17) ∧ Wm mX6_valueKnownAt 0 0 0 Q 7 [some (.ref a0), some (.int x1), some (.int (x2 + ((hpI h p_17 (nI 0).toNatClampNeg) - (hpI h p_17 (nI 1).toNatClampNeg)))), some (.int (x3 + nI 1)), none] [] h 0 0))))))))) : Wm mX6_valueKnownAt 0 0 0 Q 7 [some (.ref a0), some (.int x1), some (.int x2), some (.int x3), none] [] h 0 0 := by
  refine rl_iload_n dX6_valueKnownAt_7 rfl rfl ?_
  refine rl_aload_n dX6_valueKnownAt_8 rfl rfl ?_
  obtain ⟨o_1, H⟩ := H
  refine rl_getI (k := 0) cfX6 dX6_valueKnownAt_9 flX6_23 (by decide) rfl o_1 ?_
  refine rl_icmp_ge (tgt := 52) dX6_valueKnownAt_12 (by decide) (fun c_2 => ?_) (fun c_2 => ?_)
  · have H := H.1 c_2
    refine rl_iload_n dX6_valueKnownAt_52 rfl rfl ?_
    exact rl_iret dX6_valueKnownAt_53 rfl (Nat.le_refl 0) (Nat.le_refl 0) H
  · have H := H.2 c_2
    refine rl_aload_n dX6_valueKnownAt_15 rfl rfl ?_
    obtain ⟨p_3, e_4, H⟩ := H
    refine rl_getP (k := 7) cfX6 dX6_valueKnownAt_16 flX6_29 (by decide) rfl o_1 e_4 ?_
    refine rl_iload_n dX6_valueKnownAt_19 rfl rfl ?_
    obtain ⟨o_5, H⟩ := H
    obtain ⟨o_6, H⟩ := H
    obtain ⟨p_7, e_8, H⟩ := H
    refine rl_aald (ci := 7) dX6_valueKnownAt_20 rfl o_5 o_6 e_8 ?_
    obtain ⟨o_9, H⟩ := H
    obtain ⟨p_10, e_11, H⟩ := H
    refine rl_getP (k := 0) cfX7 dX6_valueKnownAt_21 flX6_69 (by decide) rfl o_9 e_11 ?_
    refine rl_iload_n dX6_valueKnownAt_24 rfl rfl ?_
    obtain ⟨o_12, H⟩ := H
    obtain ⟨o_13, H⟩ := H
    obtain ⟨p_14, e_15, H⟩ := H
    refine rl_aald (ci := 5) dX6_valueKnownAt_25 rfl o_12 o_13 e_15 ?_
    refine rl_astore (L' := [some (.ref a0), some (.int x1), some (.int x2), some (.int x3), some (.ref p_14)]) dX6_valueKnownAt_26 (Nat.le_of_ble_eq_true rfl) rfl ?_
    refine rl_iload_n dX6_valueKnownAt_28 rfl rfl ?_
    refine rl_aload dX6_valueKnownAt_29 rfl ?_
    obtain ⟨o_16, H⟩ := H
    obtain ⟨p_17, e_18, H⟩ := H
    refine rl_getP (k := 2) cfX5 dX6_valueKnownAt_31 flX6_77 (by decide) rfl o_16 e_18 ?_
    refine rl_iconst (v := nI 0) dX6_valueKnownAt_34 (by decide) ?_
    obtain ⟨o_19, H⟩ := H
    obtain ⟨o_20, H⟩ := H
    refine rl_iald dX6_valueKnownAt_35 (Or.inl o_19) o_20 ?_
    refine rl_aload dX6_valueKnownAt_36 rfl ?_
    refine rl_getP (k := 2) cfX5 dX6_valueKnownAt_38 flX6_77 (by decide) rfl o_16 e_18 ?_
    refine rl_iconst (v := nI 1) dX6_valueKnownAt_41 (by decide) ?_
    obtain ⟨o_21, H⟩ := H
    refine rl_iald dX6_valueKnownAt_42 (Or.inl o_19) o_21 ?_
    refine rl_isub dX6_valueKnownAt_43 ?_
    refine rl_iadd dX6_valueKnownAt_44 ?_
    refine rl_istore_n (L' := [some (.ref a0), some (.int x1), some (.int (x2 + ((hpI h p_17 (nI 0).toNatClampNeg) - (hpI h p_17 (nI 1).toNatClampNeg)))), some (.int x3), some (.ref p_14)]) dX6_valueKnownAt_45 rfl (Nat.le_of_ble_eq_true rfl) rfl ?_
    refine rl_iinc (v := x3 + nI 1) (L' := [some (.ref a0), some (.int x1), some (.int (x2 + ((hpI h p_17 (nI 0).toNatClampNeg) - (hpI h p_17 (nI 1).toNatClampNeg)))), some (.int (x3 + nI 1)), some (.ref p_14)]) dX6_valueKnownAt_46 rfl (congrArg (fun z => x3 + z) (by decide)) (Nat.le_of_ble_eq_true rfl) rfl ?_
    refine rl_goto (tgt := 7) dX6_valueKnownAt_49 (by decide) ?_
    refine rl_wk (L' := [some (.ref a0), some (.int x1), some (.int (x2 + ((hpI h p_17 (nI 0).toNatClampNeg) - (hpI h p_17 (nI 1).toNatClampNeg)))), some (.int (x3 + nI 1)), none]) ⟨rfl, ⟨rfl, ⟨rfl, ⟨rfl, trivial⟩⟩⟩⟩ ?_
    exact H
theorem bX6_loanFact_0 {Q : Nat → Option Value → Hp → Prop} {h : Hp} {a0 : Nat} {x1 x2 : Int32} (H : hpK h a0 = 16 ∧ ∃ p_2 : Nat, hpP h a0 8 = some p_2 ∧ (hpK h p_2 = 32 ∧ vp_in x1 (hpN h p_2) ∧ ∃ p_6 : Nat, hpP h p_2 (x1).toNatClampNeg = some p_6 ∧ (((x2 = nI 0 → hpK h p_6 = 12 ∧ Q 0 (some (.int (hpI h p_6 0))) h) ∧ (x2 = nI 1 → hpK h p_6 = 12 ∧ Q 0 (some (.int (hpI h p_6 1))) h) ∧ (x2 = nI 2 → hpK h p_6 = 12 ∧ Q 0 (some (.int (hpI h p_6 2))) h) ∧ (x2 = nI 3 → hpK h p_6 = 12 ∧ Q 0 (some (.int (hpI h p_6 3))) h) ∧ (x2 = nI 4 → hpK h p_6 = 12 ∧ Q 0 (some (.int (hpI h p_6 4))) h) ∧ (x2 = nI 5 → hpK h p_6 = 12 ∧ CKr mX6_recordOf 0 0 0 [some (.ref a0), some (.int (hpI h p_6 1))] h (fun v h' => Wm mX6_loanFact 2 0 0 Q 85 [none, some (.int x1), none, none] [.ref v] h' 0 0)) ∧ (x2 = nI 6 → CKi mX6_restOf 1 0 0 [some (.ref a0), some (.int x1), none, none] h (fun v h' => Wm mX6_loanFact 2 0 0 Q 96 [none, none, none, none] [.int v] h' 0 0)) ∧ (¬ x2 = nI 0 → ¬ x2 = nI 1 → ¬ x2 = nI 2 → ¬ x2 = nI 3 → ¬ x2 = nI 4 → ¬ x2 = nI 5 → ¬ x2 = nI 6 → CKi mX6_hasComeBack 0 0 0 [some (.ref a0), some (.ref p_6)] h (fun v h' => Wm mX6_loanFact 2 0 0 Q 102 [none, none, none, none] [.int v] h' 0 0)))))) : Wm mX6_loanFact 2 0 0 Q 0 [some (.ref a0), some (.int x1), some (.int x2), none] [] h 0 0 := by
  refine rl_aload_n dX6_loanFact_0 rfl rfl ?_
  obtain ⟨o_1, H⟩ := H
  obtain ⟨p_2, e_3, H⟩ := H
  refine rl_getP (k := 8) cfX6 dX6_loanFact_1 flX6_11 (by decide) rfl o_1 e_3 ?_
  refine rl_iload_n dX6_loanFact_4 rfl rfl ?_
  obtain ⟨o_4, H⟩ := H
  obtain ⟨o_5, H⟩ := H
  obtain ⟨p_6, e_7, H⟩ := H
  refine rl_aald (ci := 2) dX6_loanFact_5 rfl o_4 o_5 e_7 ?_
  refine rl_astore_n (L' := [some (.ref a0), some (.int x1), some (.int x2), some (.ref p_6)]) dX6_loanFact_6 rfl (Nat.le_of_ble_eq_true rfl) rfl ?_
  refine rl_iload_n dX6_loanFact_7 rfl rfl ?_
  by_cases c_8 : x2 = nI 0
  · have H := (H.1) c_8
    refine rl_tableIn (tgt := 52) dX6_loanFact_8 (by rw [c_8]; decide) (by rw [c_8]; decide) (by rw [c_8]; rfl) (by decide) ?_
    refine rl_aload_n dX6_loanFact_52 rfl rfl ?_
    obtain ⟨o_9, H⟩ := H
    refine rl_getI (k := 0) cfX2 dX6_loanFact_53 flX6_102 (by decide) rfl o_9 ?_
    exact rl_iret dX6_loanFact_56 rfl (Nat.le_refl 0) (Nat.le_refl 0) H
  by_cases c_10 : x2 = nI 1
  · have H := (H.2.1) c_10
    refine rl_tableIn (tgt := 57) dX6_loanFact_8 (by rw [c_10]; decide) (by rw [c_10]; decide) (by rw [c_10]; rfl) (by decide) ?_
    refine rl_aload_n dX6_loanFact_57 rfl rfl ?_
    obtain ⟨o_11, H⟩ := H
    refine rl_getI (k := 1) cfX2 dX6_loanFact_58 flX6_96 (by decide) rfl o_11 ?_
    exact rl_iret dX6_loanFact_61 rfl (Nat.le_refl 0) (Nat.le_refl 0) H
  by_cases c_12 : x2 = nI 2
  · have H := (H.2.2.1) c_12
    refine rl_tableIn (tgt := 62) dX6_loanFact_8 (by rw [c_12]; decide) (by rw [c_12]; decide) (by rw [c_12]; rfl) (by decide) ?_
    refine rl_aload_n dX6_loanFact_62 rfl rfl ?_
    obtain ⟨o_13, H⟩ := H
    refine rl_getI (k := 2) cfX2 dX6_loanFact_63 flX6_90 (by decide) rfl o_13 ?_
    exact rl_iret dX6_loanFact_66 rfl (Nat.le_refl 0) (Nat.le_refl 0) H
  by_cases c_14 : x2 = nI 3
  · have H := (H.2.2.2.1) c_14
    refine rl_tableIn (tgt := 67) dX6_loanFact_8 (by rw [c_14]; decide) (by rw [c_14]; decide) (by rw [c_14]; rfl) (by decide) ?_
    refine rl_aload_n dX6_loanFact_67 rfl rfl ?_
    obtain ⟨o_15, H⟩ := H
    refine rl_getI (k := 3) cfX2 dX6_loanFact_68 flX6_109 (by decide) rfl o_15 ?_
    exact rl_iret dX6_loanFact_71 rfl (Nat.le_refl 0) (Nat.le_refl 0) H
  by_cases c_16 : x2 = nI 4
  · have H := (H.2.2.2.2.1) c_16
    refine rl_tableIn (tgt := 72) dX6_loanFact_8 (by rw [c_16]; decide) (by rw [c_16]; decide) (by rw [c_16]; rfl) (by decide) ?_
    refine rl_aload_n dX6_loanFact_72 rfl rfl ?_
    obtain ⟨o_17, H⟩ := H
    refine rl_getI (k := 4) cfX2 dX6_loanFact_73 flX6_112 (by decide) rfl o_17 ?_
    exact rl_iret dX6_loanFact_76 rfl (Nat.le_refl 0) (Nat.le_refl 0) H
  by_cases c_18 : x2 = nI 5
  · have H := (H.2.2.2.2.2.1) c_18
    refine rl_tableIn (tgt := 77) dX6_loanFact_8 (by rw [c_18]; decide) (by rw [c_18]; decide) (by rw [c_18]; rfl) (by decide) ?_
    refine rl_aload_n dX6_loanFact_77 rfl rfl ?_
    refine rl_aload_n dX6_loanFact_78 rfl rfl ?_
    obtain ⟨o_19, H⟩ := H
    refine rl_getI (k := 1) cfX2 dX6_loanFact_79 flX6_96 (by decide) rfl o_19 ?_
    exact rl_callV (As := [.int (hpI h p_6 1)]) (rest := []) mfX6_recordOf dX6_loanFact_82 lkX6_73 o_1 (by decide) (Nat.le_of_ble_eq_true rfl) (Nat.le_refl _) (Nat.le_refl _) rfl (Nat.le_of_ble_eq_true rfl) rfl rfl (fun Qc k => H Qc (fun v h' w => k (some (.ref v)) h' (rl_wk (L' := [none, some (.int x1), none, none]) ⟨rfl, trivial⟩ w)))
  by_cases c_20 : x2 = nI 6
  · have H := (H.2.2.2.2.2.2.1) c_20
    refine rl_tableIn (tgt := 91) dX6_loanFact_8 (by rw [c_20]; decide) (by rw [c_20]; decide) (by rw [c_20]; rfl) (by decide) ?_
    refine rl_aload_n dX6_loanFact_91 rfl rfl ?_
    refine rl_iload_n dX6_loanFact_92 rfl rfl ?_
    exact rl_callV (As := [.int x1]) (rest := []) mfX6_restOf dX6_loanFact_93 lkX6_123 o_1 (by decide) (Nat.le_of_ble_eq_true rfl) (Nat.le_refl _) (Nat.le_refl _) rfl (Nat.le_of_ble_eq_true rfl) rfl rfl (fun Qc k => H Qc (fun v h' w => k (some (.int v)) h' (rl_wk (L' := [none, none, none, none]) trivial w)))
  have H := (H.2.2.2.2.2.2.2) c_8 c_10 c_12 c_14 c_16 c_18 c_20
  refine rl_tableOut (tgt := 97) dX6_loanFact_8 (by have g0 := lv_neT c_8 (a := 0) (by decide); have g1 := lv_neT c_10 (a := 1) (by decide); have g2 := lv_neT c_12 (a := 2) (by decide); have g3 := lv_neT c_14 (a := 3) (by decide); have g4 := lv_neT c_16 (a := 4) (by decide); have g5 := lv_neT c_18 (a := 5) (by decide); have g6 := lv_neT c_20 (a := 6) (by decide); omega) (by decide) ?_
  refine rl_aload_n dX6_loanFact_97 rfl rfl ?_
  refine rl_aload_n dX6_loanFact_98 rfl rfl ?_
  exact rl_callV (As := [.ref p_6]) (rest := []) mfX6_hasComeBack dX6_loanFact_99 lkX6_105 o_1 (by decide) (Nat.le_of_ble_eq_true rfl) (Nat.le_refl _) (Nat.le_refl _) rfl (Nat.le_of_ble_eq_true rfl) rfl rfl (fun Qc k => H Qc (fun v h' w => k (some (.int v)) h' (rl_wk (L' := [none, none, none, none]) trivial w)))
theorem bX6_loanFact_85 {Q : Nat → Option Value → Hp → Prop} {h : Hp} {as0 : Nat} {x1 : Int32} (H : hpK h as0 = 15 ∧ ∃ p_2 : Nat, hpP h as0 6 = some p_2 ∧ (hpK h p_2 = 1 ∧ vp_in x1 (hpN h p_2) ∧ Q 0 (some (.int (hpI h p_2 (x1).toNatClampNeg))) h)) : Wm mX6_loanFact 2 0 0 Q 85 [none, some (.int x1), none, none] [.ref as0] h 0 0 := by
  obtain ⟨o_1, H⟩ := H
  obtain ⟨p_2, e_3, H⟩ := H
  refine rl_getP (k := 6) cfX5 dX6_loanFact_85 flX6_99 (by decide) rfl o_1 e_3 ?_
  refine rl_iload_n dX6_loanFact_88 rfl rfl ?_
  obtain ⟨o_4, H⟩ := H
  obtain ⟨o_5, H⟩ := H
  refine rl_iald dX6_loanFact_89 (Or.inl o_4) o_5 ?_
  exact rl_iret dX6_loanFact_90 rfl (Nat.le_refl 0) (Nat.le_refl 0) H
theorem bX6_loanFact_96 {Q : Nat → Option Value → Hp → Prop} {h : Hp} {xs0 : Int32} (H : Q 0 (some (.int xs0)) h) : Wm mX6_loanFact 2 0 0 Q 96 [none, none, none, none] [.int xs0] h 0 0 := by
  exact rl_iret dX6_loanFact_96 rfl (Nat.le_refl 0) (Nat.le_refl 0) H
theorem bX6_loanFact_102 {Q : Nat → Option Value → Hp → Prop} {h : Hp} {xs0 : Int32} (H : ((xs0 = 0 → Q 0 (some (.int (nI 0))) h) ∧ (¬ xs0 = 0 → Q 0 (some (.int (nI 1))) h))) : Wm mX6_loanFact 2 0 0 Q 102 [none, none, none, none] [.int xs0] h 0 0 := by
  refine rl_if_eq (tgt := 109) dX6_loanFact_102 (by decide) (fun c_1 => ?_) (fun c_1 => ?_)
  · have H := H.1 c_1
    refine rl_iconst (v := nI 0) dX6_loanFact_109 (by decide) ?_
    exact rl_iret dX6_loanFact_110 rfl (Nat.le_refl 0) (Nat.le_refl 0) H
  · have H := H.2 c_1
    refine rl_iconst (v := nI 1) dX6_loanFact_105 (by decide) ?_
    refine rl_goto (tgt := 110) dX6_loanFact_106 (by decide) ?_
    exact rl_iret dX6_loanFact_110 rfl (Nat.le_refl 0) (Nat.le_refl 0) H
theorem bX6_makeLoan_0 {Q : Nat → Option Value → Hp → Prop} {h : Hp} {a0 : Nat} {x1 x2 x3 x4 x5 : Int32} (H : hpK h a0 = 16 ∧ ∃ p_2 : Nat, hpP h a0 8 = some p_2 ∧ (hpK h p_2 = 32 ∧ vp_in (hpI h a0 5) (hpN h p_2) ∧ ∃ p_6 : Nat, hpP h p_2 (hpI h a0 5).toNatClampNeg = some p_6 ∧ (hpK h p_6 = 12 ∧ CKr mX6_recordOf 0 0 0 [some (.ref a0), some (.int x2)] (stI (stI (stI (stI (stI (stI h p_6 0 x2) p_6 1 x3) p_6 2 x1) p_6 3 x4) p_6 4 ((hpI (stI (stI (stI (stI h p_6 0 x2) p_6 1 x3) p_6 2 x1) p_6 3 x4) a0 4) + x5)) a0 5 ((hpI (stI (stI (stI (stI (stI h p_6 0 x2) p_6 1 x3) p_6 2 x1) p_6 3 x4) p_6 4 ((hpI (stI (stI (stI (stI h p_6 0 x2) p_6 1 x3) p_6 2 x1) p_6 3 x4) a0 4) + x5)) a0 5) + (nI 1))) (fun v h' => Wm mX6_makeLoan 1 0 0 Q 67 [none, none, none, none, none, none, some (.int (hpI h a0 5)), none, none] [.ref v] h' 0 0)))) : Wm mX6_makeLoan 1 0 0 Q 0 [some (.ref a0), some (.int x1), some (.int x2), some (.int x3), some (.int x4), some (.int x5), none, none, none] [] h 0 0 := by
  refine rl_aload_n dX6_makeLoan_0 rfl rfl ?_
  obtain ⟨o_1, H⟩ := H
  refine rl_getI (k := 5) cfX6 dX6_makeLoan_1 flX6_50 (by decide) rfl o_1 ?_
  refine rl_istore (L' := [some (.ref a0), some (.int x1), some (.int x2), some (.int x3), some (.int x4), some (.int x5), some (.int (hpI h a0 5)), none, none]) dX6_makeLoan_4 (Nat.le_of_ble_eq_true rfl) rfl ?_
  refine rl_aload_n dX6_makeLoan_6 rfl rfl ?_
  obtain ⟨p_2, e_3, H⟩ := H
  refine rl_getP (k := 8) cfX6 dX6_makeLoan_7 flX6_11 (by decide) rfl o_1 e_3 ?_
  refine rl_iload dX6_makeLoan_10 rfl ?_
  obtain ⟨o_4, H⟩ := H
  obtain ⟨o_5, H⟩ := H
  obtain ⟨p_6, e_7, H⟩ := H
  refine rl_aald (ci := 2) dX6_makeLoan_12 rfl o_4 o_5 e_7 ?_
  refine rl_astore (L' := [some (.ref a0), some (.int x1), some (.int x2), some (.int x3), some (.int x4), some (.int x5), some (.int (hpI h a0 5)), some (.ref p_6), none]) dX6_makeLoan_13 (Nat.le_of_ble_eq_true rfl) rfl ?_
  refine rl_aload dX6_makeLoan_15 rfl ?_
  refine rl_iload_n dX6_makeLoan_17 rfl rfl ?_
  obtain ⟨o_8, H⟩ := H
  refine rl_putI (k := 0) cfX2 dX6_makeLoan_18 flX6_102 (by decide) rfl o_8 (Or.inl rfl) ?_
  refine rl_aload dX6_makeLoan_21 rfl ?_
  refine rl_iload_n dX6_makeLoan_23 rfl rfl ?_
  refine rl_putI (k := 1) cfX2 dX6_makeLoan_24 flX6_96 (by decide) rfl o_8 (Or.inl rfl) ?_
  refine rl_aload dX6_makeLoan_27 rfl ?_
  refine rl_iload_n dX6_makeLoan_29 rfl rfl ?_
  refine rl_putI (k := 2) cfX2 dX6_makeLoan_30 flX6_90 (by decide) rfl o_8 (Or.inl rfl) ?_
  refine rl_aload dX6_makeLoan_33 rfl ?_
  refine rl_iload dX6_makeLoan_35 rfl ?_
  refine rl_putI (k := 3) cfX2 dX6_makeLoan_37 flX6_109 (by decide) rfl o_8 (Or.inl rfl) ?_
  refine rl_aload dX6_makeLoan_40 rfl ?_
  refine rl_aload_n dX6_makeLoan_42 rfl rfl ?_
  refine rl_getI (k := 4) cfX6 dX6_makeLoan_43 flX6_47 (by decide) rfl o_1 ?_
  refine rl_iload dX6_makeLoan_46 rfl ?_
  refine rl_iadd dX6_makeLoan_48 ?_
  refine rl_putI (k := 4) cfX2 dX6_makeLoan_49 flX6_112 (by decide) rfl o_8 (Or.inl rfl) ?_
  refine rl_aload_n dX6_makeLoan_52 rfl rfl ?_
  refine rl_dup dX6_makeLoan_53 rfl ?_
  refine rl_getI (k := 5) cfX6 dX6_makeLoan_54 flX6_50 (by decide) rfl o_1 ?_
  refine rl_iconst (v := nI 1) dX6_makeLoan_57 (by decide) ?_
  refine rl_iadd dX6_makeLoan_58 ?_
  refine rl_putI (k := 5) cfX6 dX6_makeLoan_59 flX6_50 (by decide) rfl o_1 (Or.inl rfl) ?_
  refine rl_aload_n dX6_makeLoan_62 rfl rfl ?_
  refine rl_iload_n dX6_makeLoan_63 rfl rfl ?_
  exact rl_callV (As := [.int x2]) (rest := []) mfX6_recordOf dX6_makeLoan_64 lkX6_73 o_1 (by decide) (Nat.le_of_ble_eq_true rfl) (Nat.le_refl _) (Nat.le_refl _) rfl (Nat.le_of_ble_eq_true rfl) rfl rfl (fun Qc k => H Qc (fun v h' w => k (some (.ref v)) h' (rl_wk (L' := [none, none, none, none, none, none, some (.int (hpI h a0 5)), none, none]) ⟨rfl, trivial⟩ w)))
theorem bX6_makeLoan_67 {Q : Nat → Option Value → Hp → Prop} {h : Hp} {as0 : Nat} {x6 : Int32} (H : hpK h as0 = 15 ∧ Q 0 (some (.int x6)) (stI (stI h as0 5 ((hpI h as0 5) ||| ((nI 1) <<< (x6 &&& 31)))) as0 0 ((hpI (stI h as0 5 ((hpI h as0 5) ||| ((nI 1) <<< (x6 &&& 31)))) as0 0) + (nI 1)))) : Wm mX6_makeLoan 1 0 0 Q 67 [none, none, none, none, none, none, some (.int x6), none, none] [.ref as0] h 0 0 := by
  refine rl_astore (L' := [none, none, none, none, none, none, some (.int x6), none, some (.ref as0)]) dX6_makeLoan_67 (Nat.le_of_ble_eq_true rfl) rfl ?_
  refine rl_aload dX6_makeLoan_69 rfl ?_
  refine rl_dup dX6_makeLoan_71 rfl ?_
  obtain ⟨o_1, H⟩ := H
  refine rl_getI (k := 5) cfX5 dX6_makeLoan_72 flX6_159 (by decide) rfl o_1 ?_
  refine rl_iconst (v := nI 1) dX6_makeLoan_75 (by decide) ?_
  refine rl_iload dX6_makeLoan_76 rfl ?_
  refine rl_ishl dX6_makeLoan_78 ?_
  refine rl_ior dX6_makeLoan_79 ?_
  refine rl_putI (k := 5) cfX5 dX6_makeLoan_80 flX6_159 (by decide) rfl o_1 (Or.inl rfl) ?_
  refine rl_aload dX6_makeLoan_83 rfl ?_
  refine rl_dup dX6_makeLoan_85 rfl ?_
  refine rl_getI (k := 0) cfX5 dX6_makeLoan_86 flX6_137 (by decide) rfl o_1 ?_
  refine rl_iconst (v := nI 1) dX6_makeLoan_89 (by decide) ?_
  refine rl_iadd dX6_makeLoan_90 ?_
  refine rl_putI (k := 0) cfX5 dX6_makeLoan_91 flX6_137 (by decide) rfl o_1 (Or.inl rfl) ?_
  refine rl_iload dX6_makeLoan_94 rfl ?_
  exact rl_iret dX6_makeLoan_96 rfl (Nat.le_refl 0) (Nat.le_refl 0) H
theorem bX6_shareOut_0 {Q : Nat → Option Value → Hp → Prop} {h : Hp} {a0 : Nat} {x1 x2 : Int32} (H : Wm mX6_shareOut 3 0 0 Q 5 [some (.ref a0), some (.int x1), some (.int x2), some (.int (nI 0)), some (.int (nI 0)), none, none, none, none, none] [] h 0 0) : Wm mX6_shareOut 3 0 0 Q 0 [some (.ref a0), some (.int x1), some (.int x2), none, none, none, none, none, none, none] [] h 0 0 := by
  refine rl_iconst (v := nI 0) dX6_shareOut_0 (by decide) ?_
  refine rl_istore_n (L' := [some (.ref a0), some (.int x1), some (.int x2), some (.int (nI 0)), none, none, none, none, none, none]) dX6_shareOut_1 rfl (Nat.le_of_ble_eq_true rfl) rfl ?_
  refine rl_iconst (v := nI 0) dX6_shareOut_2 (by decide) ?_
  refine rl_istore (L' := [some (.ref a0), some (.int x1), some (.int x2), some (.int (nI 0)), some (.int (nI 0)), none, none, none, none, none]) dX6_shareOut_3 (Nat.le_of_ble_eq_true rfl) rfl ?_
  exact H
theorem bX6_shareOut_5 {Q : Nat → Option Value → Hp → Prop} {h : Hp} {a0 : Nat} {x1 x2 x3 x4 : Int32} (H : hpK h a0 = 16 ∧ (((hpI h a0 0) ≤ x4 → ((0 < x3 → CKi mX6_ownRights 2 0 0 [some (.ref a0), some (.int x1), some (.int x2), none, none, none] h (fun v h' => Wm mX6_shareOut 3 0 0 Q 52 [some (.ref a0), some (.int x1), some (.int x2), some (.int x3), none, none, none, none, none, none] [.int v] h' 0 0)) ∧ (¬ 0 < x3 → Q 0 (some (.int (nI 0))) h))) ∧ (¬ (hpI h a0 0) ≤ x4 → (∃ p_4 : Nat, hpP h a0 7 = some p_4 ∧ (hpK h p_4 = 37 ∧ vp_in x1 (hpN h p_4) ∧ ∃ p_8 : Nat, hpP h p_4 (x1).toNatClampNeg = some p_8 ∧ (hpK h p_8 = 17 ∧ ∃ p_11 : Nat, hpP h p_8 0 = some p_11 ∧ (hpK h p_11 = 35 ∧ vp_in x4 (hpN h p_11) ∧ ∃ p_15 : Nat, hpP h p_11 (x4).toNatClampNeg = some p_15 ∧ (hpK h p_15 = 15 ∧ ∃ p_18 : Nat, hpP h p_15 3 = some p_18 ∧ (hpK h p_18 = 1 ∧ vp_in x2 (hpN h p_18) ∧ Wm mX6_shareOut 3 0 0 Q 5 [some (.ref a0), some (.int x1), some (.int x2), some (.int (x3 + (hpI h p_18 (x2).toNatClampNeg))), some (.int (x4 + nI 1)), none, none, none, none, none] [] h 0 0))))))))) : Wm mX6_shareOut 3 0 0 Q 5 [some (.ref a0), some (.int x1), some (.int x2), some (.int x3), some (.int x4), none, none, none, none, none] [] h 0 0 := by
  refine rl_iload dX6_shareOut_5 rfl ?_
  refine rl_aload_n dX6_shareOut_7 rfl rfl ?_
  obtain ⟨o_1, H⟩ := H
  refine rl_getI (k := 0) cfX6 dX6_shareOut_8 flX6_23 (by decide) rfl o_1 ?_
  refine rl_icmp_ge (tgt := 40) dX6_shareOut_11 (by decide) (fun c_2 => ?_) (fun c_2 => ?_)
  · have H := H.1 c_2
    refine rl_iload_n dX6_shareOut_40 rfl rfl ?_
    refine rl_if_gt (tgt := 46) dX6_shareOut_41 (by decide) (fun c_3 => ?_) (fun c_3 => ?_)
    · have H := H.1 c_3
      refine rl_aload_n dX6_shareOut_46 rfl rfl ?_
      refine rl_iload_n dX6_shareOut_47 rfl rfl ?_
      refine rl_iload_n dX6_shareOut_48 rfl rfl ?_
      exact rl_callV (As := [.int x1, .int x2]) (rest := []) mfX6_ownRights dX6_shareOut_49 lkX6_120 o_1 (by decide) (Nat.le_of_ble_eq_true rfl) (Nat.le_refl _) (Nat.le_refl _) rfl (Nat.le_of_ble_eq_true rfl) rfl rfl (fun Qc k => H Qc (fun v h' w => k (some (.int v)) h' (rl_wk (L' := [some (.ref a0), some (.int x1), some (.int x2), some (.int x3), none, none, none, none, none, none]) ⟨rfl, ⟨rfl, ⟨rfl, ⟨rfl, trivial⟩⟩⟩⟩ w)))
    · have H := H.2 c_3
      refine rl_iconst (v := nI 0) dX6_shareOut_44 (by decide) ?_
      exact rl_iret dX6_shareOut_45 rfl (Nat.le_refl 0) (Nat.le_refl 0) H
  · have H := H.2 c_2
    refine rl_iload_n dX6_shareOut_14 rfl rfl ?_
    refine rl_aload_n dX6_shareOut_15 rfl rfl ?_
    obtain ⟨p_4, e_5, H⟩ := H
    refine rl_getP (k := 7) cfX6 dX6_shareOut_16 flX6_29 (by decide) rfl o_1 e_5 ?_
    refine rl_iload_n dX6_shareOut_19 rfl rfl ?_
    obtain ⟨o_6, H⟩ := H
    obtain ⟨o_7, H⟩ := H
    obtain ⟨p_8, e_9, H⟩ := H
    refine rl_aald (ci := 7) dX6_shareOut_20 rfl o_6 o_7 e_9 ?_
    obtain ⟨o_10, H⟩ := H
    obtain ⟨p_11, e_12, H⟩ := H
    refine rl_getP (k := 0) cfX7 dX6_shareOut_21 flX6_69 (by decide) rfl o_10 e_12 ?_
    refine rl_iload dX6_shareOut_24 rfl ?_
    obtain ⟨o_13, H⟩ := H
    obtain ⟨o_14, H⟩ := H
    obtain ⟨p_15, e_16, H⟩ := H
    refine rl_aald (ci := 5) dX6_shareOut_26 rfl o_13 o_14 e_16 ?_
    obtain ⟨o_17, H⟩ := H
    obtain ⟨p_18, e_19, H⟩ := H
    refine rl_getP (k := 3) cfX5 dX6_shareOut_27 flX6_140 (by decide) rfl o_17 e_19 ?_
    refine rl_iload_n dX6_shareOut_30 rfl rfl ?_
    obtain ⟨o_20, H⟩ := H
    obtain ⟨o_21, H⟩ := H
    refine rl_iald dX6_shareOut_31 (Or.inl o_20) o_21 ?_
    refine rl_iadd dX6_shareOut_32 ?_
    refine rl_istore_n (L' := [some (.ref a0), some (.int x1), some (.int x2), some (.int (x3 + (hpI h p_18 (x2).toNatClampNeg))), some (.int x4), none, none, none, none, none]) dX6_shareOut_33 rfl (Nat.le_of_ble_eq_true rfl) rfl ?_
    refine rl_iinc (v := x4 + nI 1) (L' := [some (.ref a0), some (.int x1), some (.int x2), some (.int (x3 + (hpI h p_18 (x2).toNatClampNeg))), some (.int (x4 + nI 1)), none, none, none, none, none]) dX6_shareOut_34 rfl (congrArg (fun z => x4 + z) (by decide)) (Nat.le_of_ble_eq_true rfl) rfl ?_
    refine rl_goto (tgt := 5) dX6_shareOut_37 (by decide) ?_
    exact H
theorem bX6_shareOut_52 {Q : Nat → Option Value → Hp → Prop} {h : Hp} {a0 : Nat} {x1 x2 x3 xs0 : Int32} (H : Wm mX6_shareOut 3 0 0 Q 61 [some (.ref a0), some (.int x1), some (.int x2), some (.int x3), some (.long ((xs0).toInt64)), none, some (.int (nI 0)), some (.int (nI 0)), none, none] [] h 0 0) : Wm mX6_shareOut 3 0 0 Q 52 [some (.ref a0), some (.int x1), some (.int x2), some (.int x3), none, none, none, none, none, none] [.int xs0] h 0 0 := by
  refine rl_i2l dX6_shareOut_52 ?_
  refine rl_lstore (L' := [some (.ref a0), some (.int x1), some (.int x2), some (.int x3), some (.long ((xs0).toInt64)), none, none, none, none, none]) dX6_shareOut_53 (Nat.le_of_ble_eq_true rfl) rfl ?_
  refine rl_iconst (v := nI 0) dX6_shareOut_55 (by decide) ?_
  refine rl_istore (L' := [some (.ref a0), some (.int x1), some (.int x2), some (.int x3), some (.long ((xs0).toInt64)), none, some (.int (nI 0)), none, none, none]) dX6_shareOut_56 (Nat.le_of_ble_eq_true rfl) rfl ?_
  refine rl_iconst (v := nI 0) dX6_shareOut_58 (by decide) ?_
  refine rl_istore (L' := [some (.ref a0), some (.int x1), some (.int x2), some (.int x3), some (.long ((xs0).toInt64)), none, some (.int (nI 0)), some (.int (nI 0)), none, none]) dX6_shareOut_59 (Nat.le_of_ble_eq_true rfl) rfl ?_
  exact H
theorem bX6_shareOut_61 {Q : Nat → Option Value → Hp → Prop} {h : Hp} {a0 : Nat} {x1 x2 x3 x6 x7 : Int32} {j4 : Int64} (H : hpK h a0 = 16 ∧ (((hpI h a0 0) ≤ x7 → Q 0 (some (.int x6)) h) ∧ (¬ (hpI h a0 0) ≤ x7 → (∃ p_3 : Nat, hpP h a0 7 = some p_3 ∧ (hpK h p_3 = 37 ∧ vp_in x1 (hpN h p_3) ∧ ∃ p_7 : Nat, hpP h p_3 (x1).toNatClampNeg = some p_7 ∧ (hpK h p_7 = 17 ∧ ∃ p_10 : Nat, hpP h p_7 0 = some p_10 ∧ (hpK h p_10 = 35 ∧ vp_in x7 (hpN h p_10) ∧ ∃ p_14 : Nat, hpP h p_10 (x7).toNatClampNeg = some p_14 ∧ (hpK h p_14 = 15 ∧ ∃ p_17 : Nat, hpP h p_14 3 = some p_17 ∧ (hpK h p_17 = 1 ∧ vp_in x2 (hpN h p_17) ∧ ¬ ((x3).toInt64) = 0 ∧ ((x7 = x1 → Wm mX6_shareOut 3 0 0 Q 128 [some (.ref a0), some (.int x1), some (.int x2), some (.int x3), some (.long j4), none, some (.int x6), some (.int x7), none, none] [] h 0 0) ∧ (¬ x7 = x1 → (((lg_cmp ((j4 * ((hpI h p_17 (x2).toNatClampNeg).toInt64)) / ((x3).toInt64)) 0) ≤ 0 → Wm mX6_shareOut 3 0 0 Q 128 [some (.ref a0), some (.int x1), some (.int x2), some (.int x3), some (.long j4), none, some (.int x6), some (.int x7), none, none] [] h 0 0) ∧ (¬ (lg_cmp ((j4 * ((hpI h p_17 (x2).toNatClampNeg).toInt64)) / ((x3).toInt64)) 0) ≤ 0 → CKv mX6_give 1 0 0 [some (.ref a0), some (.int x2), some (.int x1), some (.int x7), some (.int (((j4 * ((hpI h p_17 (x2).toNatClampNeg).toInt64)) / ((x3).toInt64)).toInt32))] h (fun h' => Wm mX6_shareOut 3 0 0 Q 120 [some (.ref a0), some (.int x1), some (.int x2), some (.int x3), some (.long j4), none, some (.int x6), some (.int x7), some (.long ((j4 * ((hpI h p_17 (x2).toNatClampNeg).toInt64)) / ((x3).toInt64))), none] [] h' 0 0)))))))))))))) : Wm mX6_shareOut 3 0 0 Q 61 [some (.ref a0), some (.int x1), some (.int x2), some (.int x3), some (.long j4), none, some (.int x6), some (.int x7), none, none] [] h 0 0 := by
  refine rl_iload dX6_shareOut_61 rfl ?_
  refine rl_aload_n dX6_shareOut_63 rfl rfl ?_
  obtain ⟨o_1, H⟩ := H
  refine rl_getI (k := 0) cfX6 dX6_shareOut_64 flX6_23 (by decide) rfl o_1 ?_
  refine rl_icmp_ge (tgt := 134) dX6_shareOut_67 (by decide) (fun c_2 => ?_) (fun c_2 => ?_)
  · have H := H.1 c_2
    refine rl_iload dX6_shareOut_134 rfl ?_
    exact rl_iret dX6_shareOut_136 rfl (Nat.le_refl 0) (Nat.le_refl 0) H
  · have H := H.2 c_2
    refine rl_lload dX6_shareOut_70 rfl ?_
    refine rl_aload_n dX6_shareOut_72 rfl rfl ?_
    obtain ⟨p_3, e_4, H⟩ := H
    refine rl_getP (k := 7) cfX6 dX6_shareOut_73 flX6_29 (by decide) rfl o_1 e_4 ?_
    refine rl_iload_n dX6_shareOut_76 rfl rfl ?_
    obtain ⟨o_5, H⟩ := H
    obtain ⟨o_6, H⟩ := H
    obtain ⟨p_7, e_8, H⟩ := H
    refine rl_aald (ci := 7) dX6_shareOut_77 rfl o_5 o_6 e_8 ?_
    obtain ⟨o_9, H⟩ := H
    obtain ⟨p_10, e_11, H⟩ := H
    refine rl_getP (k := 0) cfX7 dX6_shareOut_78 flX6_69 (by decide) rfl o_9 e_11 ?_
    refine rl_iload dX6_shareOut_81 rfl ?_
    obtain ⟨o_12, H⟩ := H
    obtain ⟨o_13, H⟩ := H
    obtain ⟨p_14, e_15, H⟩ := H
    refine rl_aald (ci := 5) dX6_shareOut_83 rfl o_12 o_13 e_15 ?_
    obtain ⟨o_16, H⟩ := H
    obtain ⟨p_17, e_18, H⟩ := H
    refine rl_getP (k := 3) cfX5 dX6_shareOut_84 flX6_140 (by decide) rfl o_16 e_18 ?_
    refine rl_iload_n dX6_shareOut_87 rfl rfl ?_
    obtain ⟨o_19, H⟩ := H
    obtain ⟨o_20, H⟩ := H
    refine rl_iald dX6_shareOut_88 (Or.inl o_19) o_20 ?_
    refine rl_i2l dX6_shareOut_89 ?_
    refine rl_lmul dX6_shareOut_90 ?_
    refine rl_iload_n dX6_shareOut_91 rfl rfl ?_
    refine rl_i2l dX6_shareOut_92 ?_
    obtain ⟨o_21, H⟩ := H
    refine rl_ldiv dX6_shareOut_93 o_21 ?_
    refine rl_lstore (L' := [some (.ref a0), some (.int x1), some (.int x2), some (.int x3), some (.long j4), none, some (.int x6), some (.int x7), some (.long ((j4 * ((hpI h p_17 (x2).toNatClampNeg).toInt64)) / ((x3).toInt64))), none]) dX6_shareOut_94 (Nat.le_of_ble_eq_true rfl) rfl ?_
    refine rl_iload dX6_shareOut_96 rfl ?_
    refine rl_iload_n dX6_shareOut_98 rfl rfl ?_
    refine rl_icmp_eq (tgt := 128) dX6_shareOut_99 (by decide) (fun c_22 => ?_) (fun c_22 => ?_)
    · have H := H.1 c_22
      refine rl_wk (L' := [some (.ref a0), some (.int x1), some (.int x2), some (.int x3), some (.long j4), none, some (.int x6), some (.int x7), none, none]) ⟨rfl, ⟨rfl, ⟨rfl, ⟨rfl, ⟨rfl, ⟨rfl, ⟨rfl, trivial⟩⟩⟩⟩⟩⟩⟩ ?_
      exact H
    · have H := H.2 c_22
      refine rl_lload dX6_shareOut_102 rfl ?_
      refine rl_lconst (v := 0) dX6_shareOut_104 rfl ?_
      refine rl_lcmp dX6_shareOut_105 ?_
      refine rl_if_le (tgt := 128) dX6_shareOut_106 (by decide) (fun c_23 => ?_) (fun c_23 => ?_)
      · have H := H.1 c_23
        refine rl_wk (L' := [some (.ref a0), some (.int x1), some (.int x2), some (.int x3), some (.long j4), none, some (.int x6), some (.int x7), none, none]) ⟨rfl, ⟨rfl, ⟨rfl, ⟨rfl, ⟨rfl, ⟨rfl, ⟨rfl, trivial⟩⟩⟩⟩⟩⟩⟩ ?_
        exact H
      · have H := H.2 c_23
        refine rl_aload_n dX6_shareOut_109 rfl rfl ?_
        refine rl_iload_n dX6_shareOut_110 rfl rfl ?_
        refine rl_iload_n dX6_shareOut_111 rfl rfl ?_
        refine rl_iload dX6_shareOut_112 rfl ?_
        refine rl_lload dX6_shareOut_114 rfl ?_
        refine rl_l2i dX6_shareOut_116 ?_
        exact rl_callV (As := [.int x2, .int x1, .int x7, .int (((j4 * ((hpI h p_17 (x2).toNatClampNeg).toInt64)) / ((x3).toInt64)).toInt32)]) (rest := []) mfX6_give dX6_shareOut_117 lkX6_162 o_1 (by decide) (Nat.le_of_ble_eq_true rfl) (Nat.le_refl _) (Nat.le_refl _) rfl (Nat.le_of_ble_eq_true rfl) rfl rfl (fun Qc k => H Qc (fun h' w => k none h' w))
theorem bX6_shareOut_120 {Q : Nat → Option Value → Hp → Prop} {h : Hp} {a0 : Nat} {x1 x2 x3 x6 x7 : Int32} {j4 j8 : Int64} (H : Wm mX6_shareOut 3 0 0 Q 128 [some (.ref a0), some (.int x1), some (.int x2), some (.int x3), some (.long j4), none, some (.int (x6 + ((j8).toInt32))), some (.int x7), none, none] [] h 0 0) : Wm mX6_shareOut 3 0 0 Q 120 [some (.ref a0), some (.int x1), some (.int x2), some (.int x3), some (.long j4), none, some (.int x6), some (.int x7), some (.long j8), none] [] h 0 0 := by
  refine rl_iload dX6_shareOut_120 rfl ?_
  refine rl_lload dX6_shareOut_122 rfl ?_
  refine rl_l2i dX6_shareOut_124 ?_
  refine rl_iadd dX6_shareOut_125 ?_
  refine rl_istore (L' := [some (.ref a0), some (.int x1), some (.int x2), some (.int x3), some (.long j4), none, some (.int (x6 + ((j8).toInt32))), some (.int x7), some (.long j8), none]) dX6_shareOut_126 (Nat.le_of_ble_eq_true rfl) rfl ?_
  refine rl_wk (L' := [some (.ref a0), some (.int x1), some (.int x2), some (.int x3), some (.long j4), none, some (.int (x6 + ((j8).toInt32))), some (.int x7), none, none]) ⟨rfl, ⟨rfl, ⟨rfl, ⟨rfl, ⟨rfl, ⟨rfl, ⟨rfl, trivial⟩⟩⟩⟩⟩⟩⟩ ?_
  exact H
theorem bX6_shareOut_128 {Q : Nat → Option Value → Hp → Prop} {h : Hp} {a0 : Nat} {x1 x2 x3 x6 x7 : Int32} {j4 : Int64} (H : Wm mX6_shareOut 3 0 0 Q 61 [some (.ref a0), some (.int x1), some (.int x2), some (.int x3), some (.long j4), none, some (.int x6), some (.int (x7 + nI 1)), none, none] [] h 0 0) : Wm mX6_shareOut 3 0 0 Q 128 [some (.ref a0), some (.int x1), some (.int x2), some (.int x3), some (.long j4), none, some (.int x6), some (.int x7), none, none] [] h 0 0 := by
  refine rl_iinc (v := x7 + nI 1) (L' := [some (.ref a0), some (.int x1), some (.int x2), some (.int x3), some (.long j4), none, some (.int x6), some (.int (x7 + nI 1)), none, none]) dX6_shareOut_128 rfl (congrArg (fun z => x7 + z) (by decide)) (Nat.le_of_ble_eq_true rfl) rfl ?_
  refine rl_goto (tgt := 61) dX6_shareOut_131 (by decide) ?_
  exact H
theorem bX6_postAgain_0 {Q : Nat → Option Value → Hp → Prop} {h : Hp} {a0 : Nat} {x1 : Int32} (H : hpK h a0 = 16 ∧ ∃ p_2 : Nat, hpP h a0 9 = some p_2 ∧ (hpK h p_2 = 33 ∧ vp_in (hpI h a0 6) (hpN h p_2) ∧ ∃ p_6 : Nat, hpP h p_2 (hpI h a0 6).toNatClampNeg = some p_6 ∧ (vp_in x1 (hpN h p_2) ∧ ∃ p_9 : Nat, hpP h p_2 (x1).toNatClampNeg = some p_9 ∧ (hpK h p_6 = 13 ∧ CKv mX3_copyFrom 3 0 0 [some (.ref p_6), some (.ref p_9)] h (fun h' => Wm mX6_postAgain 4 0 0 Q 20 [some (.ref a0), none, some (.int (hpI h a0 6))] [] h' 0 0))))) : Wm mX6_postAgain 4 0 0 Q 0 [some (.ref a0), some (.int x1), none] [] h 0 0 := by
  refine rl_aload_n dX6_postAgain_0 rfl rfl ?_
  obtain ⟨o_1, H⟩ := H
  refine rl_getI (k := 6) cfX6 dX6_postAgain_1 flX6_53 (by decide) rfl o_1 ?_
  refine rl_istore_n (L' := [some (.ref a0), some (.int x1), some (.int (hpI h a0 6))]) dX6_postAgain_4 rfl (Nat.le_of_ble_eq_true rfl) rfl ?_
  refine rl_aload_n dX6_postAgain_5 rfl rfl ?_
  obtain ⟨p_2, e_3, H⟩ := H
  refine rl_getP (k := 9) cfX6 dX6_postAgain_6 flX6_19 (by decide) rfl o_1 e_3 ?_
  refine rl_iload_n dX6_postAgain_9 rfl rfl ?_
  obtain ⟨o_4, H⟩ := H
  obtain ⟨o_5, H⟩ := H
  obtain ⟨p_6, e_7, H⟩ := H
  refine rl_aald (ci := 3) dX6_postAgain_10 rfl o_4 o_5 e_7 ?_
  refine rl_aload_n dX6_postAgain_11 rfl rfl ?_
  refine rl_getP (k := 9) cfX6 dX6_postAgain_12 flX6_19 (by decide) rfl o_1 e_3 ?_
  refine rl_iload_n dX6_postAgain_15 rfl rfl ?_
  obtain ⟨o_8, H⟩ := H
  obtain ⟨p_9, e_10, H⟩ := H
  refine rl_aald (ci := 3) dX6_postAgain_16 rfl o_4 o_8 e_10 ?_
  obtain ⟨o_11, H⟩ := H
  exact rl_callV (As := [.ref p_9]) (rest := []) mfX3_copyFrom dX6_postAgain_17 lkX6_66 o_11 (by decide) (Nat.le_of_ble_eq_true rfl) (Nat.le_refl _) (Nat.le_refl _) rfl (Nat.le_of_ble_eq_true rfl) rfl rfl (fun Qc k => H Qc (fun h' w => k none h' (rl_wk (L' := [some (.ref a0), none, some (.int (hpI h a0 6))]) ⟨rfl, ⟨rfl, trivial⟩⟩ w)))
theorem bX6_postAgain_20 {Q : Nat → Option Value → Hp → Prop} {h : Hp} {a0 : Nat} {x2 : Int32} (H : hpK h a0 = 16 ∧ Q 0 (some (.int x2)) (stI h a0 6 ((hpI h a0 6) + (nI 1)))) : Wm mX6_postAgain 4 0 0 Q 20 [some (.ref a0), none, some (.int x2)] [] h 0 0 := by
  refine rl_aload_n dX6_postAgain_20 rfl rfl ?_
  refine rl_dup dX6_postAgain_21 rfl ?_
  obtain ⟨o_1, H⟩ := H
  refine rl_getI (k := 6) cfX6 dX6_postAgain_22 flX6_53 (by decide) rfl o_1 ?_
  refine rl_iconst (v := nI 1) dX6_postAgain_25 (by decide) ?_
  refine rl_iadd dX6_postAgain_26 ?_
  refine rl_putI (k := 6) cfX6 dX6_postAgain_27 flX6_53 (by decide) rfl o_1 (Or.inl rfl) ?_
  refine rl_iload_n dX6_postAgain_30 rfl rfl ?_
  exact rl_iret dX6_postAgain_31 rfl (Nat.le_refl 0) (Nat.le_refl 0) H
theorem bX6_dormantRights_0 {Q : Nat → Option Value → Hp → Prop} {h : Hp} {a0 : Nat} {x1 : Int32} (H : hpK h a0 = 16 ∧ CKi mX6_trueValue 1 0 0 [some (.ref a0), none, none, none] h (fun v h' => Wm mX6_dormantRights 4 0 0 Q 5 [some (.ref a0), some (.int x1), none, none] [.int v, .ref a0] h' 0 0)) : Wm mX6_dormantRights 4 0 0 Q 0 [some (.ref a0), some (.int x1), none, none] [] h 0 0 := by
  refine rl_aload_n dX6_dormantRights_0 rfl rfl ?_
  refine rl_aload_n dX6_dormantRights_1 rfl rfl ?_
  obtain ⟨o_1, H⟩ := H
  exact rl_callV (As := []) (rest := [.ref a0]) mfX6_trueValue dX6_dormantRights_2 lkX6_127 o_1 (by decide) (Nat.le_of_ble_eq_true rfl) (Nat.le_refl _) (Nat.le_refl _) rfl (Nat.le_of_ble_eq_true rfl) rfl rfl (fun Qc k => H Qc (fun v h' w => k (some (.int v)) h' w))
theorem bX6_dormantRights_5 {Q : Nat → Option Value → Hp → Prop} {h : Hp} {a0 as0 : Nat} {x1 xs1 : Int32} (H : hpK h as0 = 16 ∧ CKi mX6_roomAt 0 0 0 [some (.ref as0), some (.int xs1), some (.int x1)] h (fun v h' => Wm mX6_dormantRights 4 0 0 Q 9 [some (.ref a0), some (.int x1), none, none] [.int v] h' 0 0)) : Wm mX6_dormantRights 4 0 0 Q 5 [some (.ref a0), some (.int x1), none, none] [.int xs1, .ref as0] h 0 0 := by
  refine rl_iload_n dX6_dormantRights_5 rfl rfl ?_
  obtain ⟨o_1, H⟩ := H
  exact rl_callV (As := [.int xs1, .int x1]) (rest := []) mfX6_roomAt dX6_dormantRights_6 lkX6_83 o_1 (by decide) (Nat.le_of_ble_eq_true rfl) (Nat.le_refl _) (Nat.le_refl _) rfl (Nat.le_of_ble_eq_true rfl) rfl rfl (fun Qc k => H Qc (fun v h' w => k (some (.int v)) h' w))
theorem bX6_dormantRights_9 {Q : Nat → Option Value → Hp → Prop} {h : Hp} {a0 : Nat} {x1 xs0 : Int32} (H : Wm mX6_dormantRights 4 0 0 Q 12 [some (.ref a0), some (.int x1), some (.int xs0), some (.int (nI 0))] [] h 0 0) : Wm mX6_dormantRights 4 0 0 Q 9 [some (.ref a0), some (.int x1), none, none] [.int xs0] h 0 0 := by
  refine rl_istore_n (L' := [some (.ref a0), some (.int x1), some (.int xs0), none]) dX6_dormantRights_9 rfl (Nat.le_of_ble_eq_true rfl) rfl ?_
  refine rl_iconst (v := nI 0) dX6_dormantRights_10 (by decide) ?_
  refine rl_istore_n (L' := [some (.ref a0), some (.int x1), some (.int xs0), some (.int (nI 0))]) dX6_dormantRights_11 rfl (Nat.le_of_ble_eq_true rfl) rfl ?_
  exact H
theorem bX6_dormantRights_12 {Q : Nat → Option Value → Hp → Prop} {h : Hp} {a0 : Nat} {x1 x2 x3 : Int32} (H : hpK h a0 = 16 ∧ (((hpI h a0 0) ≤ x3 → Q 0 (some (.int x2)) h) ∧ (¬ (hpI h a0 0) ≤ x3 → CKi mX6_availableRights 3 0 0 [some (.ref a0), some (.int x3), some (.int x1), none, none] h (fun v h' => Wm mX6_dormantRights 4 0 0 Q 27 [some (.ref a0), some (.int x1), none, some (.int x3)] [.int v, .int x2] h' 0 0)))) : Wm mX6_dormantRights 4 0 0 Q 12 [some (.ref a0), some (.int x1), some (.int x2), some (.int x3)] [] h 0 0 := by
  refine rl_iload_n dX6_dormantRights_12 rfl rfl ?_
  refine rl_aload_n dX6_dormantRights_13 rfl rfl ?_
  obtain ⟨o_1, H⟩ := H
  refine rl_getI (k := 0) cfX6 dX6_dormantRights_14 flX6_23 (by decide) rfl o_1 ?_
  refine rl_icmp_ge (tgt := 35) dX6_dormantRights_17 (by decide) (fun c_2 => ?_) (fun c_2 => ?_)
  · have H := H.1 c_2
    refine rl_iload_n dX6_dormantRights_35 rfl rfl ?_
    exact rl_iret dX6_dormantRights_36 rfl (Nat.le_refl 0) (Nat.le_refl 0) H
  · have H := H.2 c_2
    refine rl_iload_n dX6_dormantRights_20 rfl rfl ?_
    refine rl_aload_n dX6_dormantRights_21 rfl rfl ?_
    refine rl_iload_n dX6_dormantRights_22 rfl rfl ?_
    refine rl_iload_n dX6_dormantRights_23 rfl rfl ?_
    exact rl_callV (As := [.int x3, .int x1]) (rest := [.int x2]) mfX6_availableRights dX6_dormantRights_24 lkX6_131 o_1 (by decide) (Nat.le_of_ble_eq_true rfl) (Nat.le_refl _) (Nat.le_refl _) rfl (Nat.le_of_ble_eq_true rfl) rfl rfl (fun Qc k => H Qc (fun v h' w => k (some (.int v)) h' (rl_wk (L' := [some (.ref a0), some (.int x1), none, some (.int x3)]) ⟨rfl, ⟨rfl, ⟨rfl, trivial⟩⟩⟩ w)))
theorem bX6_dormantRights_27 {Q : Nat → Option Value → Hp → Prop} {h : Hp} {a0 : Nat} {x1 x3 xs0 xs1 : Int32} (H : Wm mX6_dormantRights 4 0 0 Q 12 [some (.ref a0), some (.int x1), some (.int (xs0 - xs1)), some (.int (x3 + nI 1))] [] h 0 0) : Wm mX6_dormantRights 4 0 0 Q 27 [some (.ref a0), some (.int x1), none, some (.int x3)] [.int xs1, .int xs0] h 0 0 := by
  refine rl_isub dX6_dormantRights_27 ?_
  refine rl_istore_n (L' := [some (.ref a0), some (.int x1), some (.int (xs0 - xs1)), some (.int x3)]) dX6_dormantRights_28 rfl (Nat.le_of_ble_eq_true rfl) rfl ?_
  refine rl_iinc (v := x3 + nI 1) (L' := [some (.ref a0), some (.int x1), some (.int (xs0 - xs1)), some (.int (x3 + nI 1))]) dX6_dormantRights_29 rfl (congrArg (fun z => x3 + z) (by decide)) (Nat.le_of_ble_eq_true rfl) rfl ?_
  refine rl_goto (tgt := 12) dX6_dormantRights_32 (by decide) ?_
  exact H
theorem bX6_fewestHelpers_0 {Q : Nat → Option Value → Hp → Prop} {h : Hp} {a0 : Nat} {x1 x2 x3 : Int32} (H : hpK h a0 = 16 ∧ CKi mX6_availableRights 3 0 0 [some (.ref a0), some (.int x1), some (.int x2), none, none] h (fun v h' => Wm mX6_fewestHelpers 4 0 0 Q 7 [some (.ref a0), some (.int x1), some (.int x2), none, none, none, none, none] [.int v, .int x3] h' 0 0)) : Wm mX6_fewestHelpers 4 0 0 Q 0 [some (.ref a0), some (.int x1), some (.int x2), some (.int x3), none, none, none, none] [] h 0 0 := by
  refine rl_iload_n dX6_fewestHelpers_0 rfl rfl ?_
  refine rl_aload_n dX6_fewestHelpers_1 rfl rfl ?_
  refine rl_iload_n dX6_fewestHelpers_2 rfl rfl ?_
  refine rl_iload_n dX6_fewestHelpers_3 rfl rfl ?_
  obtain ⟨o_1, H⟩ := H
  exact rl_callV (As := [.int x1, .int x2]) (rest := [.int x3]) mfX6_availableRights dX6_fewestHelpers_4 lkX6_131 o_1 (by decide) (Nat.le_of_ble_eq_true rfl) (Nat.le_refl _) (Nat.le_refl _) rfl (Nat.le_of_ble_eq_true rfl) rfl rfl (fun Qc k => H Qc (fun v h' w => k (some (.int v)) h' (rl_wk (L' := [some (.ref a0), some (.int x1), some (.int x2), none, none, none, none, none]) ⟨rfl, ⟨rfl, ⟨rfl, trivial⟩⟩⟩ w)))
theorem bX6_fewestHelpers_7 {Q : Nat → Option Value → Hp → Prop} {h : Hp} {a0 : Nat} {x1 x2 xs0 xs1 : Int32} (H : Wm mX6_fewestHelpers 4 0 0 Q 18 [some (.ref a0), none, some (.int x2), none, some (.int (xs0 - xs1)), some (.int ((nI 1) <<< (x1 &&& 31))), some (.int (nI 0)), none] [] h 0 0) : Wm mX6_fewestHelpers 4 0 0 Q 7 [some (.ref a0), some (.int x1), some (.int x2), none, none, none, none, none] [.int xs1, .int xs0] h 0 0 := by
  refine rl_isub dX6_fewestHelpers_7 ?_
  refine rl_istore (L' := [some (.ref a0), some (.int x1), some (.int x2), none, some (.int (xs0 - xs1)), none, none, none]) dX6_fewestHelpers_8 (Nat.le_of_ble_eq_true rfl) rfl ?_
  refine rl_iconst (v := nI 1) dX6_fewestHelpers_10 (by decide) ?_
  refine rl_iload_n dX6_fewestHelpers_11 rfl rfl ?_
  refine rl_ishl dX6_fewestHelpers_12 ?_
  refine rl_istore (L' := [some (.ref a0), some (.int x1), some (.int x2), none, some (.int (xs0 - xs1)), some (.int ((nI 1) <<< (x1 &&& 31))), none, none]) dX6_fewestHelpers_13 (Nat.le_of_ble_eq_true rfl) rfl ?_
  refine rl_iconst (v := nI 0) dX6_fewestHelpers_15 (by decide) ?_
  refine rl_istore (L' := [some (.ref a0), some (.int x1), some (.int x2), none, some (.int (xs0 - xs1)), some (.int ((nI 1) <<< (x1 &&& 31))), some (.int (nI 0)), none]) dX6_fewestHelpers_16 (Nat.le_of_ble_eq_true rfl) rfl ?_
  refine rl_wk (L' := [some (.ref a0), none, some (.int x2), none, some (.int (xs0 - xs1)), some (.int ((nI 1) <<< (x1 &&& 31))), some (.int (nI 0)), none]) ⟨rfl, ⟨rfl, ⟨rfl, ⟨rfl, ⟨rfl, trivial⟩⟩⟩⟩⟩ ?_
  exact H
theorem bX6_fewestHelpers_18 {Q : Nat → Option Value → Hp → Prop} {h : Hp} {a0 : Nat} {x2 x4 x5 x6 : Int32} (H : hpK h a0 = 16 ∧ (((hpI h a0 0) ≤ x6 → Q 0 (some (.int (-1))) h) ∧ (¬ (hpI h a0 0) ≤ x6 → ((0 < x4 → CKi mX6_richestOutside 3 0 0 [some (.ref a0), some (.int x5), some (.int x2), none, none, none, none] h (fun v h' => Wm mX6_fewestHelpers 4 0 0 Q 42 [some (.ref a0), none, some (.int x2), none, some (.int x4), some (.int x5), some (.int x6), none] [.int v] h' 0 0)) ∧ (¬ 0 < x4 → Q 0 (some (.int x6)) h))))) : Wm mX6_fewestHelpers 4 0 0 Q 18 [some (.ref a0), none, some (.int x2), none, some (.int x4), some (.int x5), some (.int x6), none] [] h 0 0 := by
  refine rl_iload dX6_fewestHelpers_18 rfl ?_
  refine rl_aload_n dX6_fewestHelpers_20 rfl rfl ?_
  obtain ⟨o_1, H⟩ := H
  refine rl_getI (k := 0) cfX6 dX6_fewestHelpers_21 flX6_23 (by decide) rfl o_1 ?_
  refine rl_icmp_ge (tgt := 79) dX6_fewestHelpers_24 (by decide) (fun c_2 => ?_) (fun c_2 => ?_)
  · have H := H.1 c_2
    refine rl_iconst (v := -1) dX6_fewestHelpers_79 (by decide) ?_
    exact rl_iret dX6_fewestHelpers_80 rfl (Nat.le_refl 0) (Nat.le_refl 0) H
  · have H := H.2 c_2
    refine rl_iload dX6_fewestHelpers_27 rfl ?_
    refine rl_if_gt (tgt := 35) dX6_fewestHelpers_29 (by decide) (fun c_3 => ?_) (fun c_3 => ?_)
    · have H := H.1 c_3
      refine rl_aload_n dX6_fewestHelpers_35 rfl rfl ?_
      refine rl_iload dX6_fewestHelpers_36 rfl ?_
      refine rl_iload_n dX6_fewestHelpers_38 rfl rfl ?_
      exact rl_callV (As := [.int x5, .int x2]) (rest := []) mfX6_richestOutside dX6_fewestHelpers_39 lkX6_134 o_1 (by decide) (Nat.le_of_ble_eq_true rfl) (Nat.le_refl _) (Nat.le_refl _) rfl (Nat.le_of_ble_eq_true rfl) rfl rfl (fun Qc k => H Qc (fun v h' w => k (some (.int v)) h' w))
    · have H := H.2 c_3
      refine rl_iload dX6_fewestHelpers_32 rfl ?_
      exact rl_iret dX6_fewestHelpers_34 rfl (Nat.le_refl 0) (Nat.le_refl 0) H
theorem bX6_fewestHelpers_42 {Q : Nat → Option Value → Hp → Prop} {h : Hp} {a0 : Nat} {x2 x4 x5 x6 xs0 : Int32} (H : ((¬ xs0 = (-1) → hpK h a0 = 16 ∧ CKi mX6_ownRights 2 0 0 [some (.ref a0), some (.int xs0), some (.int x2), none, none, none] h (fun v h' => Wm mX6_fewestHelpers 4 0 0 Q 61 [some (.ref a0), none, some (.int x2), none, none, some (.int x5), some (.int x6), some (.int xs0)] [.int v, .int x4] h' 0 0)) ∧ (xs0 = (-1) → Q 0 (some (.int (-1))) h))) : Wm mX6_fewestHelpers 4 0 0 Q 42 [some (.ref a0), none, some (.int x2), none, some (.int x4), some (.int x5), some (.int x6), none] [.int xs0] h 0 0 := by
  refine rl_istore (L' := [some (.ref a0), none, some (.int x2), none, some (.int x4), some (.int x5), some (.int x6), some (.int xs0)]) dX6_fewestHelpers_42 (Nat.le_of_ble_eq_true rfl) rfl ?_
  refine rl_iload dX6_fewestHelpers_44 rfl ?_
  refine rl_iconst (v := -1) dX6_fewestHelpers_46 (by decide) ?_
  refine rl_icmp_ne (tgt := 52) dX6_fewestHelpers_47 (by decide) (fun c_1 => ?_) (fun c_1 => ?_)
  · have H := H.1 c_1
    refine rl_iload dX6_fewestHelpers_52 rfl ?_
    refine rl_aload_n dX6_fewestHelpers_54 rfl rfl ?_
    refine rl_iload dX6_fewestHelpers_55 rfl ?_
    refine rl_iload_n dX6_fewestHelpers_57 rfl rfl ?_
    obtain ⟨o_2, H⟩ := H
    exact rl_callV (As := [.int xs0, .int x2]) (rest := [.int x4]) mfX6_ownRights dX6_fewestHelpers_58 lkX6_120 o_2 (by decide) (Nat.le_of_ble_eq_true rfl) (Nat.le_refl _) (Nat.le_refl _) rfl (Nat.le_of_ble_eq_true rfl) rfl rfl (fun Qc k => H Qc (fun v h' w => k (some (.int v)) h' (rl_wk (L' := [some (.ref a0), none, some (.int x2), none, none, some (.int x5), some (.int x6), some (.int xs0)]) ⟨rfl, ⟨rfl, ⟨rfl, ⟨rfl, ⟨rfl, trivial⟩⟩⟩⟩⟩ w)))
  · have H := H.2 c_1
    refine rl_iconst (v := -1) dX6_fewestHelpers_50 (by decide) ?_
    exact rl_iret dX6_fewestHelpers_51 rfl (Nat.le_refl 0) (Nat.le_refl 0) H
theorem bX6_fewestHelpers_61 {Q : Nat → Option Value → Hp → Prop} {h : Hp} {a0 : Nat} {x2 x5 x6 x7 xs0 xs1 : Int32} (H : Wm mX6_fewestHelpers 4 0 0 Q 18 [some (.ref a0), none, some (.int x2), none, some (.int (xs0 - xs1)), some (.int (x5 ||| ((nI 1) <<< (x7 &&& 31)))), some (.int (x6 + nI 1)), none] [] h 0 0) : Wm mX6_fewestHelpers 4 0 0 Q 61 [some (.ref a0), none, some (.int x2), none, none, some (.int x5), some (.int x6), some (.int x7)] [.int xs1, .int xs0] h 0 0 := by
  refine rl_isub dX6_fewestHelpers_61 ?_
  refine rl_istore (L' := [some (.ref a0), none, some (.int x2), none, some (.int (xs0 - xs1)), some (.int x5), some (.int x6), some (.int x7)]) dX6_fewestHelpers_62 (Nat.le_of_ble_eq_true rfl) rfl ?_
  refine rl_iload dX6_fewestHelpers_64 rfl ?_
  refine rl_iconst (v := nI 1) dX6_fewestHelpers_66 (by decide) ?_
  refine rl_iload dX6_fewestHelpers_67 rfl ?_
  refine rl_ishl dX6_fewestHelpers_69 ?_
  refine rl_ior dX6_fewestHelpers_70 ?_
  refine rl_istore (L' := [some (.ref a0), none, some (.int x2), none, some (.int (xs0 - xs1)), some (.int (x5 ||| ((nI 1) <<< (x7 &&& 31)))), some (.int x6), some (.int x7)]) dX6_fewestHelpers_71 (Nat.le_of_ble_eq_true rfl) rfl ?_
  refine rl_iinc (v := x6 + nI 1) (L' := [some (.ref a0), none, some (.int x2), none, some (.int (xs0 - xs1)), some (.int (x5 ||| ((nI 1) <<< (x7 &&& 31)))), some (.int (x6 + nI 1)), some (.int x7)]) dX6_fewestHelpers_73 rfl (congrArg (fun z => x6 + z) (by decide)) (Nat.le_of_ble_eq_true rfl) rfl ?_
  refine rl_goto (tgt := 18) dX6_fewestHelpers_76 (by decide) ?_
  refine rl_wk (L' := [some (.ref a0), none, some (.int x2), none, some (.int (xs0 - xs1)), some (.int (x5 ||| ((nI 1) <<< (x7 &&& 31)))), some (.int (x6 + nI 1)), none]) ⟨rfl, ⟨rfl, ⟨rfl, ⟨rfl, ⟨rfl, trivial⟩⟩⟩⟩⟩ ?_
  exact H
theorem bX6_richestOutside_0 {Q : Nat → Option Value → Hp → Prop} {h : Hp} {a0 : Nat} {x1 x2 : Int32} (H : Wm mX6_richestOutside 3 0 0 Q 8 [some (.ref a0), some (.int x1), some (.int x2), some (.int (-1)), some (.int (nI 0)), some (.int (nI 0)), none] [] h 0 0) : Wm mX6_richestOutside 3 0 0 Q 0 [some (.ref a0), some (.int x1), some (.int x2), none, none, none, none] [] h 0 0 := by
  refine rl_iconst (v := -1) dX6_richestOutside_0 (by decide) ?_
  refine rl_istore_n (L' := [some (.ref a0), some (.int x1), some (.int x2), some (.int (-1)), none, none, none]) dX6_richestOutside_1 rfl (Nat.le_of_ble_eq_true rfl) rfl ?_
  refine rl_iconst (v := nI 0) dX6_richestOutside_2 (by decide) ?_
  refine rl_istore (L' := [some (.ref a0), some (.int x1), some (.int x2), some (.int (-1)), some (.int (nI 0)), none, none]) dX6_richestOutside_3 (Nat.le_of_ble_eq_true rfl) rfl ?_
  refine rl_iconst (v := nI 0) dX6_richestOutside_5 (by decide) ?_
  refine rl_istore (L' := [some (.ref a0), some (.int x1), some (.int x2), some (.int (-1)), some (.int (nI 0)), some (.int (nI 0)), none]) dX6_richestOutside_6 (Nat.le_of_ble_eq_true rfl) rfl ?_
  exact H
theorem bX6_richestOutside_8 {Q : Nat → Option Value → Hp → Prop} {h : Hp} {a0 : Nat} {x1 x2 x3 x4 x5 : Int32} (H : hpK h a0 = 16 ∧ (((hpI h a0 0) ≤ x5 → Q 0 (some (.int x3)) h) ∧ (¬ (hpI h a0 0) ≤ x5 → ((¬ ((x1 >>> (x5 &&& 31)) &&& (nI 1)) = 0 → Wm mX6_richestOutside 3 0 0 Q 54 [some (.ref a0), some (.int x1), some (.int x2), some (.int x3), some (.int x4), some (.int x5), none] [] h 0 0) ∧ (((x1 >>> (x5 &&& 31)) &&& (nI 1)) = 0 → CKi mX6_ownRights 2 0 0 [some (.ref a0), some (.int x5), some (.int x2), none, none, none] h (fun v h' => Wm mX6_richestOutside 3 0 0 Q 33 [some (.ref a0), some (.int x1), some (.int x2), some (.int x3), some (.int x4), some (.int x5), none] [.int v] h' 0 0)))))) : Wm mX6_richestOutside 3 0 0 Q 8 [some (.ref a0), some (.int x1), some (.int x2), some (.int x3), some (.int x4), some (.int x5), none] [] h 0 0 := by
  refine rl_iload dX6_richestOutside_8 rfl ?_
  refine rl_aload_n dX6_richestOutside_10 rfl rfl ?_
  obtain ⟨o_1, H⟩ := H
  refine rl_getI (k := 0) cfX6 dX6_richestOutside_11 flX6_23 (by decide) rfl o_1 ?_
  refine rl_icmp_ge (tgt := 60) dX6_richestOutside_14 (by decide) (fun c_2 => ?_) (fun c_2 => ?_)
  · have H := H.1 c_2
    refine rl_iload_n dX6_richestOutside_60 rfl rfl ?_
    exact rl_iret dX6_richestOutside_61 rfl (Nat.le_refl 0) (Nat.le_refl 0) H
  · have H := H.2 c_2
    refine rl_iload_n dX6_richestOutside_17 rfl rfl ?_
    refine rl_iload dX6_richestOutside_18 rfl ?_
    refine rl_ishr dX6_richestOutside_20 ?_
    refine rl_iconst (v := nI 1) dX6_richestOutside_21 (by decide) ?_
    refine rl_iand dX6_richestOutside_22 ?_
    refine rl_if_ne (tgt := 54) dX6_richestOutside_23 (by decide) (fun c_3 => ?_) (fun c_3 => ?_)
    · have H := H.1 c_3
      exact H
    · have H := H.2 c_3
      refine rl_aload_n dX6_richestOutside_26 rfl rfl ?_
      refine rl_iload dX6_richestOutside_27 rfl ?_
      refine rl_iload_n dX6_richestOutside_29 rfl rfl ?_
      exact rl_callV (As := [.int x5, .int x2]) (rest := []) mfX6_ownRights dX6_richestOutside_30 lkX6_120 o_1 (by decide) (Nat.le_of_ble_eq_true rfl) (Nat.le_refl _) (Nat.le_refl _) rfl (Nat.le_of_ble_eq_true rfl) rfl rfl (fun Qc k => H Qc (fun v h' w => k (some (.int v)) h' w))
theorem bX6_richestOutside_33 {Q : Nat → Option Value → Hp → Prop} {h : Hp} {a0 : Nat} {x1 x2 x3 x4 x5 xs0 : Int32} (H : ((x3 = (-1) → Wm mX6_richestOutside 3 0 0 Q 47 [some (.ref a0), some (.int x1), some (.int x2), none, none, some (.int x5), some (.int xs0)] [] h 0 0) ∧ (¬ x3 = (-1) → ((xs0 ≤ x4 → Wm mX6_richestOutside 3 0 0 Q 54 [some (.ref a0), some (.int x1), some (.int x2), some (.int x3), some (.int x4), some (.int x5), none] [] h 0 0) ∧ (¬ xs0 ≤ x4 → Wm mX6_richestOutside 3 0 0 Q 47 [some (.ref a0), some (.int x1), some (.int x2), none, none, some (.int x5), some (.int xs0)] [] h 0 0))))) : Wm mX6_richestOutside 3 0 0 Q 33 [some (.ref a0), some (.int x1), some (.int x2), some (.int x3), some (.int x4), some (.int x5), none] [.int xs0] h 0 0 := by
  refine rl_istore (L' := [some (.ref a0), some (.int x1), some (.int x2), some (.int x3), some (.int x4), some (.int x5), some (.int xs0)]) dX6_richestOutside_33 (Nat.le_of_ble_eq_true rfl) rfl ?_
  refine rl_iload_n dX6_richestOutside_35 rfl rfl ?_
  refine rl_iconst (v := -1) dX6_richestOutside_36 (by decide) ?_
  refine rl_icmp_eq (tgt := 47) dX6_richestOutside_37 (by decide) (fun c_1 => ?_) (fun c_1 => ?_)
  · have H := H.1 c_1
    refine rl_wk (L' := [some (.ref a0), some (.int x1), some (.int x2), none, none, some (.int x5), some (.int xs0)]) ⟨rfl, ⟨rfl, ⟨rfl, ⟨rfl, ⟨rfl, trivial⟩⟩⟩⟩⟩ ?_
    exact H
  · have H := H.2 c_1
    refine rl_iload dX6_richestOutside_40 rfl ?_
    refine rl_iload dX6_richestOutside_42 rfl ?_
    refine rl_icmp_le (tgt := 54) dX6_richestOutside_44 (by decide) (fun c_2 => ?_) (fun c_2 => ?_)
    · have H := H.1 c_2
      refine rl_wk (L' := [some (.ref a0), some (.int x1), some (.int x2), some (.int x3), some (.int x4), some (.int x5), none]) ⟨rfl, ⟨rfl, ⟨rfl, ⟨rfl, ⟨rfl, ⟨rfl, trivial⟩⟩⟩⟩⟩⟩ ?_
      exact H
    · have H := H.2 c_2
      refine rl_wk (L' := [some (.ref a0), some (.int x1), some (.int x2), none, none, some (.int x5), some (.int xs0)]) ⟨rfl, ⟨rfl, ⟨rfl, ⟨rfl, ⟨rfl, trivial⟩⟩⟩⟩⟩ ?_
      exact H
theorem bX6_richestOutside_47 {Q : Nat → Option Value → Hp → Prop} {h : Hp} {a0 : Nat} {x1 x2 x5 x6 : Int32} (H : Wm mX6_richestOutside 3 0 0 Q 54 [some (.ref a0), some (.int x1), some (.int x2), some (.int x5), some (.int x6), some (.int x5), none] [] h 0 0) : Wm mX6_richestOutside 3 0 0 Q 47 [some (.ref a0), some (.int x1), some (.int x2), none, none, some (.int x5), some (.int x6)] [] h 0 0 := by
  refine rl_iload dX6_richestOutside_47 rfl ?_
  refine rl_istore_n (L' := [some (.ref a0), some (.int x1), some (.int x2), some (.int x5), none, some (.int x5), some (.int x6)]) dX6_richestOutside_49 rfl (Nat.le_of_ble_eq_true rfl) rfl ?_
  refine rl_iload dX6_richestOutside_50 rfl ?_
  refine rl_istore (L' := [some (.ref a0), some (.int x1), some (.int x2), some (.int x5), some (.int x6), some (.int x5), some (.int x6)]) dX6_richestOutside_52 (Nat.le_of_ble_eq_true rfl) rfl ?_
  refine rl_wk (L' := [some (.ref a0), some (.int x1), some (.int x2), some (.int x5), some (.int x6), some (.int x5), none]) ⟨rfl, ⟨rfl, ⟨rfl, ⟨rfl, ⟨rfl, ⟨rfl, trivial⟩⟩⟩⟩⟩⟩ ?_
  exact H
theorem bX6_richestOutside_54 {Q : Nat → Option Value → Hp → Prop} {h : Hp} {a0 : Nat} {x1 x2 x3 x4 x5 : Int32} (H : Wm mX6_richestOutside 3 0 0 Q 8 [some (.ref a0), some (.int x1), some (.int x2), some (.int x3), some (.int x4), some (.int (x5 + nI 1)), none] [] h 0 0) : Wm mX6_richestOutside 3 0 0 Q 54 [some (.ref a0), some (.int x1), some (.int x2), some (.int x3), some (.int x4), some (.int x5), none] [] h 0 0 := by
  refine rl_iinc (v := x5 + nI 1) (L' := [some (.ref a0), some (.int x1), some (.int x2), some (.int x3), some (.int x4), some (.int (x5 + nI 1)), none]) dX6_richestOutside_54 rfl (congrArg (fun z => x5 + z) (by decide)) (Nat.le_of_ble_eq_true rfl) rfl ?_
  refine rl_goto (tgt := 8) dX6_richestOutside_57 (by decide) ?_
  exact H
