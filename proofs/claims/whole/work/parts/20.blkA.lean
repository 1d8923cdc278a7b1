theorem bX7_init_0 {Q : Nat → Option Value → Hp → Prop} {h : Hp} {mc ms nc ns : Nat} {a0 tg_5 : Nat} {x1 : Int32} (H : ¬ x1 < 0 ∧ (x1).toNatClampNeg ≤ 100000 ∧ nc + 1 ≤ mc ∧ ns + (x1).toNatClampNeg ≤ ms ∧ Wm mX7_init 2 mc ms Q 9 [some (.ref a0), some (.int x1), none] [.ref (hpZ h), .ref a0] (stN h 35 (x1).toNatClampNeg tg_5) (nc + 1) (ns + (x1).toNatClampNeg)) : Wm mX7_init 2 mc ms Q 0 [some (.ref a0), some (.int x1), none] [] h nc ns := by
  refine rl_aload_n dX7_init_0 rfl rfl ?_
  refine rl_obj dX7_init_1 lkX7_1 oi1 oi2 (by decide) (Nat.le_of_ble_eq_true rfl) ?_
  refine rl_aload_n dX7_init_4 rfl rfl ?_
  refine rl_iload_n dX7_init_5 rfl rfl ?_
  obtain ⟨o_1, H⟩ := H
  obtain ⟨o_2, H⟩ := H
  obtain ⟨o_3, H⟩ := H
  obtain ⟨o_4, H⟩ := H
  refine rl_newP (ci := 5) tg_5 dX7_init_6 rfl clX7_7 (by decide) o_1 rfl o_2 o_3 o_4 ?_
  exact H
theorem bX7_init_9 {Q : Nat → Option Value → Hp → Prop} {h : Hp} {mc ms nc ns : Nat} {a0 as0 as1 : Nat} {x1 : Int32} (H : hpK h as0 = 17 ∧ Wm mX7_init 2 mc ms Q 14 [some (.ref a0), some (.int x1), some (.int (nI 0))] [] (stP h as0 0 (some as1)) nc ns) : Wm mX7_init 2 mc ms Q 9 [some (.ref a0), some (.int x1), none] [.ref as1, .ref as0] h nc ns := by
  obtain ⟨o_1, H⟩ := H
  refine rl_putP (k := 0) cfX7 dX7_init_9 flX7_9 (by decide) rfl o_1 (Or.inr ⟨rfl, rfl⟩) rfl rfl ?_
  refine rl_iconst (v := nI 0) dX7_init_12 (by decide) ?_
  refine rl_istore_n (L' := [some (.ref a0), some (.int x1), some (.int (nI 0))]) dX7_init_13 rfl (Nat.le_of_ble_eq_true rfl) rfl ?_
  exact H
theorem bX7_init_14 {Q : Nat → Option Value → Hp → Prop} {h : Hp} {mc ms nc ns : Nat} {a0 tg_9 : Nat} {x1 x2 : Int32} (H : ((x1 ≤ x2 → nc ≤ mc ∧ ns ≤ ms ∧ Q 0 none h) ∧ (¬ x1 ≤ x2 → hpK h a0 = 17 ∧ ∃ p_5 : Nat, hpP h a0 0 = some p_5 ∧ (nc + 1 ≤ mc ∧ ns + 7 ≤ ms ∧ Wm mX7_init 2 mc ms Q 27 [some (.ref a0), some (.int x1), some (.int x2)] [.ref (hpZ h), .int x2, .ref p_5] (stN h 15 0 tg_9) (nc + 1) (ns + 7))))) : Wm mX7_init 2 mc ms Q 14 [some (.ref a0), some (.int x1), some (.int x2)] [] h nc ns := by
  refine rl_iload_n dX7_init_14 rfl rfl ?_
  refine rl_iload_n dX7_init_15 rfl rfl ?_
  refine rl_icmp_ge (tgt := 38) dX7_init_16 (by decide) (fun c_1 => ?_) (fun c_1 => ?_)
  · have H := H.1 c_1
    obtain ⟨o_2, H⟩ := H
    obtain ⟨o_3, H⟩ := H
    exact rl_vret dX7_init_38 rfl o_2 o_3 H
  · have H := H.2 c_1
    refine rl_aload_n dX7_init_19 rfl rfl ?_
    obtain ⟨o_4, H⟩ := H
    obtain ⟨p_5, e_6, H⟩ := H
    refine rl_getP (k := 0) cfX7 dX7_init_20 flX7_9 (by decide) rfl o_4 e_6 ?_
    refine rl_iload_n dX7_init_23 rfl rfl ?_
    obtain ⟨o_7, H⟩ := H
    obtain ⟨o_8, H⟩ := H
    refine rl_new tg_9 cfX5 cgX5 dX7_init_24 clX7_7 o_7 o_8 ?_
    exact H
theorem bX7_init_27 {Q : Nat → Option Value → Hp → Prop} {h : Hp} {mc ms nc ns : Nat} {a0 as0 as2 mcn msn : Nat} {x1 x2 xs1 : Int32} (H : nc + mcn ≤ mc ∧ ns + msn ≤ ms ∧ CKv mX5_init 1 mcn msn [some (.ref as2)] h (fun h' => Wm mX7_init 2 mc ms Q 31 [some (.ref a0), some (.int x1), some (.int x2)] [.ref as2, .int xs1, .ref as0] h' (nc + mcn) (ns + msn))) : Wm mX7_init 2 mc ms Q 27 [some (.ref a0), some (.int x1), some (.int x2)] [.ref as2, .int xs1, .ref as0] h nc ns := by
  refine rl_dup dX7_init_27 rfl ?_
  obtain ⟨o_1, H⟩ := H
  obtain ⟨o_2, H⟩ := H
  exact rl_callN (As := []) (rest := [.ref as2, .int xs1, .ref as0]) mfX5_init dX7_init_28 (by decide) (by decide) (Nat.le_of_ble_eq_true rfl) o_1 o_2 rfl (Nat.le_of_ble_eq_true rfl) rfl rfl (fun Qc k => H Qc (fun h' w => k none h' w))
theorem bX7_init_31 {Q : Nat → Option Value → Hp → Prop} {h : Hp} {mc ms nc ns : Nat} {a0 as0 as2 : Nat} {x1 x2 xs1 : Int32} (H : hpK h as0 = 35 ∧ vp_in xs1 (hpN h as0) ∧ hpK h as2 = 15 ∧ Wm mX7_init 2 mc ms Q 14 [some (.ref a0), some (.int x1), some (.int (x2 + nI 1))] [] (stP h as0 (xs1).toNatClampNeg (some as2)) nc ns) : Wm mX7_init 2 mc ms Q 31 [some (.ref a0), some (.int x1), some (.int x2)] [.ref as2, .int xs1, .ref as0] h nc ns := by
  obtain ⟨o_1, H⟩ := H
  obtain ⟨o_2, H⟩ := H
  obtain ⟨o_3, H⟩ := H
  refine rl_aast (ci := 5) dX7_init_31 rfl o_1 o_2 o_3 ?_
  refine rl_iinc (v := x2 + nI 1) (L' := [some (.ref a0), some (.int x1), some (.int (x2 + nI 1))]) dX7_init_32 rfl (congrArg (fun z => x2 + z) (by decide)) (Nat.le_of_ble_eq_true rfl) rfl ?_
  refine rl_goto (tgt := 14) dX7_init_35 (by decide) ?_
  exact H
theorem bX5_init_0 {Q : Nat → Option Value → Hp → Prop} {h : Hp} {mc ms nc ns : Nat} {a0 tg_5 : Nat} (H : ¬ (nI 2) < 0 ∧ (nI 2).toNatClampNeg ≤ 100000 ∧ nc + 1 ≤ mc ∧ ns + (nI 2).toNatClampNeg ≤ ms ∧ Wm mX5_init 1 mc ms Q 8 [some (.ref a0)] [.ref (hpZ h), .ref a0] (stN h 1 (nI 2).toNatClampNeg tg_5) (nc + 1) (ns + (nI 2).toNatClampNeg)) : Wm mX5_init 1 mc ms Q 0 [some (.ref a0)] [] h nc ns := by
  refine rl_aload_n dX5_init_0 rfl rfl ?_
  refine rl_obj dX5_init_1 lkX5_3 oi1 oi2 (by decide) (Nat.le_of_ble_eq_true rfl) ?_
  refine rl_aload_n dX5_init_4 rfl rfl ?_
  refine rl_iconst (v := nI 2) dX5_init_5 (by decide) ?_
  obtain ⟨o_1, H⟩ := H
  obtain ⟨o_2, H⟩ := H
  obtain ⟨o_3, H⟩ := H
  obtain ⟨o_4, H⟩ := H
  refine rl_newI tg_5 dX5_init_6 acI o_1 rfl o_2 o_3 o_4 ?_
  exact H
theorem bX5_init_8 {Q : Nat → Option Value → Hp → Prop} {h : Hp} {mc ms nc ns : Nat} {a0 as0 as1 tg_6 : Nat} (H : hpK h as0 = 15 ∧ ¬ (nI 2) < 0 ∧ (nI 2).toNatClampNeg ≤ 100000 ∧ nc + 1 ≤ mc ∧ ns + (nI 2).toNatClampNeg ≤ ms ∧ Wm mX5_init 1 mc ms Q 15 [some (.ref a0)] [.ref (hpZ (stP h as0 2 (some as1))), .ref a0] (stN (stP h as0 2 (some as1)) 1 (nI 2).toNatClampNeg tg_6) (nc + 1) (ns + (nI 2).toNatClampNeg)) : Wm mX5_init 1 mc ms Q 8 [some (.ref a0)] [.ref as1, .ref as0] h nc ns := by
  obtain ⟨o_1, H⟩ := H
  refine rl_putP (k := 2) cfX5 dX5_init_8 flX5_9 (by decide) rfl o_1 (Or.inr ⟨rfl, rfl⟩) rfl rfl ?_
  refine rl_aload_n dX5_init_11 rfl rfl ?_
  refine rl_iconst (v := nI 2) dX5_init_12 (by decide) ?_
  obtain ⟨o_2, H⟩ := H
  obtain ⟨o_3, H⟩ := H
  obtain ⟨o_4, H⟩ := H
  obtain ⟨o_5, H⟩ := H
  refine rl_newI tg_6 dX5_init_13 acI o_2 rfl o_3 o_4 o_5 ?_
  exact H
theorem bX5_init_15 {Q : Nat → Option Value → Hp → Prop} {h : Hp} {mc ms nc ns : Nat} {a0 as0 as1 tg_6 : Nat} (H : hpK h as0 = 15 ∧ ¬ (nI 10) < 0 ∧ (nI 10).toNatClampNeg ≤ 100000 ∧ nc + 1 ≤ mc ∧ ns + (nI 10).toNatClampNeg ≤ ms ∧ Wm mX5_init 1 mc ms Q 23 [some (.ref a0)] [.ref (hpZ (stP h as0 3 (some as1))), .ref a0] (stN (stP h as0 3 (some as1)) 1 (nI 10).toNatClampNeg tg_6) (nc + 1) (ns + (nI 10).toNatClampNeg)) : Wm mX5_init 1 mc ms Q 15 [some (.ref a0)] [.ref as1, .ref as0] h nc ns := by
  obtain ⟨o_1, H⟩ := H
  refine rl_putP (k := 3) cfX5 dX5_init_15 flX5_15 (by decide) rfl o_1 (Or.inr ⟨rfl, rfl⟩) rfl rfl ?_
  refine rl_aload_n dX5_init_18 rfl rfl ?_
  refine rl_bipush (v := nI 10) dX5_init_19 (by decide) ?_
  obtain ⟨o_2, H⟩ := H
  obtain ⟨o_3, H⟩ := H
  obtain ⟨o_4, H⟩ := H
  obtain ⟨o_5, H⟩ := H
  refine rl_newI tg_6 dX5_init_21 acI o_2 rfl o_3 o_4 o_5 ?_
  exact H
theorem bX5_init_23 {Q : Nat → Option Value → Hp → Prop} {h : Hp} {mc ms nc ns : Nat} {a0 as0 as1 tg_6 : Nat} (H : hpK h as0 = 15 ∧ ¬ (nI 10) < 0 ∧ (nI 10).toNatClampNeg ≤ 100000 ∧ nc + 1 ≤ mc ∧ ns + (nI 10).toNatClampNeg ≤ ms ∧ Wm mX5_init 1 mc ms Q 31 [none] [.ref (hpZ (stP h as0 4 (some as1))), .ref a0] (stN (stP h as0 4 (some as1)) 1 (nI 10).toNatClampNeg tg_6) (nc + 1) (ns + (nI 10).toNatClampNeg)) : Wm mX5_init 1 mc ms Q 23 [some (.ref a0)] [.ref as1, .ref as0] h nc ns := by
  obtain ⟨o_1, H⟩ := H
  refine rl_putP (k := 4) cfX5 dX5_init_23 flX5_18 (by decide) rfl o_1 (Or.inr ⟨rfl, rfl⟩) rfl rfl ?_
  refine rl_aload_n dX5_init_26 rfl rfl ?_
  refine rl_bipush (v := nI 10) dX5_init_27 (by decide) ?_
  obtain ⟨o_2, H⟩ := H
  obtain ⟨o_3, H⟩ := H
  obtain ⟨o_4, H⟩ := H
  obtain ⟨o_5, H⟩ := H
  refine rl_newI tg_6 dX5_init_29 acI o_2 rfl o_3 o_4 o_5 ?_
  refine rl_wk (L' := [none]) trivial ?_
  exact H
theorem bX5_init_31 {Q : Nat → Option Value → Hp → Prop} {h : Hp} {mc ms nc ns : Nat} {as0 as1 : Nat} (H : hpK h as0 = 15 ∧ nc ≤ mc ∧ ns ≤ ms ∧ Q 0 none (stP h as0 6 (some as1))) : Wm mX5_init 1 mc ms Q 31 [none] [.ref as1, .ref as0] h nc ns := by
  obtain ⟨o_1, H⟩ := H
  refine rl_putP (k := 6) cfX5 dX5_init_31 flX5_21 (by decide) rfl o_1 (Or.inr ⟨rfl, rfl⟩) rfl rfl ?_
  obtain ⟨o_2, H⟩ := H
  obtain ⟨o_3, H⟩ := H
  exact rl_vret dX5_init_34 rfl o_2 o_3 H
theorem bX2_init_0 {Q : Nat → Option Value → Hp → Prop} {h : Hp} {a0 : Nat} (H : Q 0 none h) : Wm mX2_init 1 0 0 Q 0 [some (.ref a0)] [] h 0 0 := by
  refine rl_aload_n dX2_init_0 rfl rfl ?_
  refine rl_obj dX2_init_1 lkX2_1 oi1 oi2 (by decide) (Nat.le_of_ble_eq_true rfl) ?_
  exact rl_vret dX2_init_4 rfl (Nat.le_refl 0) (Nat.le_refl 0) H
theorem bX3_init_0 {Q : Nat → Option Value → Hp → Prop} {h : Hp} {mc ms nc ns : Nat} {a0 tg_3 : Nat} {x1 : Int32} (H : nc + 1 ≤ mc ∧ ns + 1 ≤ ms ∧ Wm mX3_init 3 mc ms Q 8 [none, some (.int x1)] [.ref (hpZ h), .ref a0] (stN h 17 0 tg_3) (nc + 1) (ns + 1)) : Wm mX3_init 3 mc ms Q 0 [some (.ref a0), some (.int x1)] [] h nc ns := by
  refine rl_aload_n dX3_init_0 rfl rfl ?_
  refine rl_obj dX3_init_1 lkX3_1 oi1 oi2 (by decide) (Nat.le_of_ble_eq_true rfl) ?_
  refine rl_aload_n dX3_init_4 rfl rfl ?_
  obtain ⟨o_1, H⟩ := H
  obtain ⟨o_2, H⟩ := H
  refine rl_new tg_3 cfX7 cgX7 dX3_init_5 clX3_7 o_1 o_2 ?_
  refine rl_wk (L' := [none, some (.int x1)]) ⟨rfl, trivial⟩ ?_
  exact H
theorem bX3_init_8 {Q : Nat → Option Value → Hp → Prop} {h : Hp} {mc ms nc ns : Nat} {as0 as1 mcn msn : Nat} {x1 : Int32} (H : nc + mcn ≤ mc ∧ ns + msn ≤ ms ∧ CKv mX7_init 2 mcn msn [some (.ref as1), some (.int x1), none] h (fun h' => Wm mX3_init 3 mc ms Q 13 [none, none] [.ref as1, .ref as0] h' (nc + mcn) (ns + msn))) : Wm mX3_init 3 mc ms Q 8 [none, some (.int x1)] [.ref as1, .ref as0] h nc ns := by
  refine rl_dup dX3_init_8 rfl ?_
  refine rl_iload_n dX3_init_9 rfl rfl ?_
  obtain ⟨o_1, H⟩ := H
  obtain ⟨o_2, H⟩ := H
  exact rl_callI (As := [.int x1]) (rest := [.ref as1, .ref as0]) mfX7_init dX3_init_10 lkX3_9 (by decide) (Nat.le_of_ble_eq_true rfl) o_1 o_2 rfl (Nat.le_of_ble_eq_true rfl) rfl rfl (fun Qc k => H Qc (fun h' w => k none h' (rl_wk (L' := [none, none]) trivial w)))
theorem bX3_init_13 {Q : Nat → Option Value → Hp → Prop} {h : Hp} {mc ms nc ns : Nat} {as0 as1 : Nat} (H : hpK h as0 = 13 ∧ nc ≤ mc ∧ ns ≤ ms ∧ Q 0 none (stP h as0 3 (some as1))) : Wm mX3_init 3 mc ms Q 13 [none, none] [.ref as1, .ref as0] h nc ns := by
  obtain ⟨o_1, H⟩ := H
  refine rl_putP (k := 3) cfX3 dX3_init_13 flX3_12 (by decide) rfl o_1 (Or.inr ⟨rfl, rfl⟩) rfl rfl ?_
  obtain ⟨o_2, H⟩ := H
  obtain ⟨o_3, H⟩ := H
  exact rl_vret dX3_init_16 rfl o_2 o_3 H
theorem bX1_init_0 {Q : Nat → Option Value → Hp → Prop} {h : Hp} {mc ms nc ns : Nat} {a0 tg_5 : Nat} {x1 : Int32} (H : ¬ (nI 6) < 0 ∧ (nI 6).toNatClampNeg ≤ 100000 ∧ nc + 1 ≤ mc ∧ ns + (nI 6).toNatClampNeg ≤ ms ∧ Wm mX1_init 5 mc ms Q 10 [some (.ref a0), some (.int x1), none] [.ref (hpZ h), .ref a0] (stN h 36 (nI 6).toNatClampNeg tg_5) (nc + 1) (ns + (nI 6).toNatClampNeg)) : Wm mX1_init 5 mc ms Q 0 [some (.ref a0), some (.int x1), none] [] h nc ns := by
  refine rl_aload_n dX1_init_0 rfl rfl ?_
  refine rl_obj dX1_init_1 lkX1_3 oi1 oi2 (by decide) (Nat.le_of_ble_eq_true rfl) ?_
  refine rl_aload_n dX1_init_4 rfl rfl ?_
  refine rl_bipush (v := nI 6) dX1_init_5 (by decide) ?_
  obtain ⟨o_1, H⟩ := H
  obtain ⟨o_2, H⟩ := H
  obtain ⟨o_3, H⟩ := H
  obtain ⟨o_4, H⟩ := H
  refine rl_newP (ci := 6) tg_5 dX1_init_7 rfl clX1_9 (by decide) o_1 rfl o_2 o_3 o_4 ?_
  exact H
theorem bX1_init_10 {Q : Nat → Option Value → Hp → Prop} {h : Hp} {mc ms nc ns : Nat} {a0 as0 as1 : Nat} {x1 : Int32} (H : hpK h as0 = 11 ∧ Wm mX1_init 5 mc ms Q 15 [some (.ref a0), some (.int x1), some (.int (nI 0))] [] (stP h as0 0 (some as1)) nc ns) : Wm mX1_init 5 mc ms Q 10 [some (.ref a0), some (.int x1), none] [.ref as1, .ref as0] h nc ns := by
  obtain ⟨o_1, H⟩ := H
  refine rl_putP (k := 0) cfX1 dX1_init_10 flX1_11 (by decide) rfl o_1 (Or.inr ⟨rfl, rfl⟩) rfl rfl ?_
  refine rl_iconst (v := nI 0) dX1_init_13 (by decide) ?_
  refine rl_istore_n (L' := [some (.ref a0), some (.int x1), some (.int (nI 0))]) dX1_init_14 rfl (Nat.le_of_ble_eq_true rfl) rfl ?_
  exact H
theorem bX1_init_15 {Q : Nat → Option Value → Hp → Prop} {h : Hp} {mc ms nc ns : Nat} {a0 tg_9 : Nat} {x1 x2 : Int32} (H : (((nI 6) ≤ x2 → nc ≤ mc ∧ ns ≤ ms ∧ Q 0 none h) ∧ (¬ (nI 6) ≤ x2 → hpK h a0 = 11 ∧ ∃ p_5 : Nat, hpP h a0 0 = some p_5 ∧ (nc + 1 ≤ mc ∧ ns + 10 ≤ ms ∧ Wm mX1_init 5 mc ms Q 29 [some (.ref a0), some (.int x1), some (.int x2)] [.ref (hpZ h), .int x2, .ref p_5] (stN h 16 0 tg_9) (nc + 1) (ns + 10))))) : Wm mX1_init 5 mc ms Q 15 [some (.ref a0), some (.int x1), some (.int x2)] [] h nc ns := by
  refine rl_iload_n dX1_init_15 rfl rfl ?_
  refine rl_bipush (v := nI 6) dX1_init_16 (by decide) ?_
  refine rl_icmp_ge (tgt := 41) dX1_init_18 (by decide) (fun c_1 => ?_) (fun c_1 => ?_)
  · have H := H.1 c_1
    obtain ⟨o_2, H⟩ := H
    obtain ⟨o_3, H⟩ := H
    exact rl_vret dX1_init_41 rfl o_2 o_3 H
  · have H := H.2 c_1
    refine rl_aload_n dX1_init_21 rfl rfl ?_
    obtain ⟨o_4, H⟩ := H
    obtain ⟨p_5, e_6, H⟩ := H
    refine rl_getP (k := 0) cfX1 dX1_init_22 flX1_11 (by decide) rfl o_4 e_6 ?_
    refine rl_iload_n dX1_init_25 rfl rfl ?_
    obtain ⟨o_7, H⟩ := H
    obtain ⟨o_8, H⟩ := H
    refine rl_new tg_9 cfX6 cgX6 dX1_init_26 clX1_9 o_7 o_8 ?_
    exact H
theorem bX1_init_29 {Q : Nat → Option Value → Hp → Prop} {h : Hp} {mc ms nc ns : Nat} {a0 as0 as2 mcn msn : Nat} {x1 x2 xs1 : Int32} (H : nc + mcn ≤ mc ∧ ns + msn ≤ ms ∧ CKv mX6_init 4 mcn msn [some (.ref as2), some (.int x1), none] h (fun h' => Wm mX1_init 5 mc ms Q 34 [some (.ref a0), some (.int x1), some (.int x2)] [.ref as2, .int xs1, .ref as0] h' (nc + mcn) (ns + msn))) : Wm mX1_init 5 mc ms Q 29 [some (.ref a0), some (.int x1), some (.int x2)] [.ref as2, .int xs1, .ref as0] h nc ns := by
  refine rl_dup dX1_init_29 rfl ?_
  refine rl_iload_n dX1_init_30 rfl rfl ?_
  obtain ⟨o_1, H⟩ := H
  obtain ⟨o_2, H⟩ := H
  exact rl_callI (As := [.int x1]) (rest := [.ref as2, .int xs1, .ref as0]) mfX6_init dX1_init_31 lkX1_17 (by decide) (Nat.le_of_ble_eq_true rfl) o_1 o_2 rfl (Nat.le_of_ble_eq_true rfl) rfl rfl (fun Qc k => H Qc (fun h' w => k none h' w))
theorem bX1_init_34 {Q : Nat → Option Value → Hp → Prop} {h : Hp} {mc ms nc ns : Nat} {a0 as0 as2 : Nat} {x1 x2 xs1 : Int32} (H : hpK h as0 = 36 ∧ vp_in xs1 (hpN h as0) ∧ hpK h as2 = 16 ∧ Wm mX1_init 5 mc ms Q 15 [some (.ref a0), some (.int x1), some (.int (x2 + nI 1))] [] (stP h as0 (xs1).toNatClampNeg (some as2)) nc ns) : Wm mX1_init 5 mc ms Q 34 [some (.ref a0), some (.int x1), some (.int x2)] [.ref as2, .int xs1, .ref as0] h nc ns := by
  obtain ⟨o_1, H⟩ := H
  obtain ⟨o_2, H⟩ := H
  obtain ⟨o_3, H⟩ := H
  refine rl_aast (ci := 6) dX1_init_34 rfl o_1 o_2 o_3 ?_
  refine rl_iinc (v := x2 + nI 1) (L' := [some (.ref a0), some (.int x1), some (.int (x2 + nI 1))]) dX1_init_35 rfl (congrArg (fun z => x2 + z) (by decide)) (Nat.le_of_ble_eq_true rfl) rfl ?_
  refine rl_goto (tgt := 15) dX1_init_38 (by decide) ?_
  exact H
theorem bX4_init_0 {Q : Nat → Option Value → Hp → Prop} {h : Hp} {mc ms nc ns : Nat} {a0 tg_5 : Nat} (H : ¬ (nI 60) < 0 ∧ (nI 60).toNatClampNeg ≤ 100000 ∧ nc + 1 ≤ mc ∧ ns + (nI 60).toNatClampNeg ≤ ms ∧ Wm mX4_init 2 mc ms Q 9 [some (.ref a0), none] [.ref (hpZ h), .ref a0] (stN h 1 (nI 60).toNatClampNeg tg_5) (nc + 1) (ns + (nI 60).toNatClampNeg)) : Wm mX4_init 2 mc ms Q 0 [some (.ref a0), none] [] h nc ns := by
  refine rl_aload_n dX4_init_0 rfl rfl ?_
  refine rl_obj dX4_init_1 lkX4_3 oi1 oi2 (by decide) (Nat.le_of_ble_eq_true rfl) ?_
  refine rl_aload_n dX4_init_4 rfl rfl ?_
  refine rl_bipush (v := nI 60) dX4_init_5 (by decide) ?_
  obtain ⟨o_1, H⟩ := H
  obtain ⟨o_2, H⟩ := H
  obtain ⟨o_3, H⟩ := H
  obtain ⟨o_4, H⟩ := H
  refine rl_newI tg_5 dX4_init_7 acI o_1 rfl o_2 o_3 o_4 ?_
  exact H
theorem bX4_init_9 {Q : Nat → Option Value → Hp → Prop} {h : Hp} {mc ms nc ns : Nat} {a0 as0 as1 tg_6 : Nat} (H : hpK h as0 = 14 ∧ ¬ (nI 30) < 0 ∧ (nI 30).toNatClampNeg ≤ 100000 ∧ nc + 1 ≤ mc ∧ ns + (nI 30).toNatClampNeg ≤ ms ∧ Wm mX4_init 2 mc ms Q 18 [some (.ref a0), none] [.ref (hpZ (stP h as0 0 (some as1))), .ref a0] (stN (stP h as0 0 (some as1)) 30 (nI 30).toNatClampNeg tg_6) (nc + 1) (ns + (nI 30).toNatClampNeg)) : Wm mX4_init 2 mc ms Q 9 [some (.ref a0), none] [.ref as1, .ref as0] h nc ns := by
  obtain ⟨o_1, H⟩ := H
  refine rl_putP (k := 0) cfX4 dX4_init_9 flX4_9 (by decide) rfl o_1 (Or.inr ⟨rfl, rfl⟩) rfl rfl ?_
  refine rl_aload_n dX4_init_12 rfl rfl ?_
  refine rl_bipush (v := nI 30) dX4_init_13 (by decide) ?_
  obtain ⟨o_2, H⟩ := H
  obtain ⟨o_3, H⟩ := H
  obtain ⟨o_4, H⟩ := H
  obtain ⟨o_5, H⟩ := H
  refine rl_newP (ci := 0) tg_6 dX4_init_15 rfl clX4_15 (by decide) o_2 rfl o_3 o_4 o_5 ?_
  exact H
theorem bX4_init_18 {Q : Nat → Option Value → Hp → Prop} {h : Hp} {mc ms nc ns : Nat} {a0 as0 as1 : Nat} (H : hpK h as0 = 14 ∧ Wm mX4_init 2 mc ms Q 23 [some (.ref a0), some (.int (nI 0))] [] (stP h as0 1 (some as1)) nc ns) : Wm mX4_init 2 mc ms Q 18 [some (.ref a0), none] [.ref as1, .ref as0] h nc ns := by
  obtain ⟨o_1, H⟩ := H
  refine rl_putP (k := 1) cfX4 dX4_init_18 flX4_17 (by decide) rfl o_1 (Or.inr ⟨rfl, rfl⟩) rfl rfl ?_
  refine rl_iconst (v := nI 0) dX4_init_21 (by decide) ?_
  refine rl_istore_n (L' := [some (.ref a0), some (.int (nI 0))]) dX4_init_22 rfl (Nat.le_of_ble_eq_true rfl) rfl ?_
  exact H
theorem bX4_init_23 {Q : Nat → Option Value → Hp → Prop} {h : Hp} {mc ms nc ns : Nat} {a0 tg_9 : Nat} {x1 : Int32} (H : (((nI 30) ≤ x1 → nc ≤ mc ∧ ns ≤ ms ∧ Q 0 none h) ∧ (¬ (nI 30) ≤ x1 → hpK h a0 = 14 ∧ ∃ p_5 : Nat, hpP h a0 1 = some p_5 ∧ (nc + 1 ≤ mc ∧ ns + 4 ≤ ms ∧ Wm mX4_init 2 mc ms Q 37 [some (.ref a0), some (.int x1)] [.ref (hpZ h), .int x1, .ref p_5] (stN h 10 0 tg_9) (nc + 1) (ns + 4))))) : Wm mX4_init 2 mc ms Q 23 [some (.ref a0), some (.int x1)] [] h nc ns := by
  refine rl_iload_n dX4_init_23 rfl rfl ?_
  refine rl_bipush (v := nI 30) dX4_init_24 (by decide) ?_
  refine rl_icmp_ge (tgt := 48) dX4_init_26 (by decide) (fun c_1 => ?_) (fun c_1 => ?_)
  · have H := H.1 c_1
    obtain ⟨o_2, H⟩ := H
    obtain ⟨o_3, H⟩ := H
    exact rl_vret dX4_init_48 rfl o_2 o_3 H
  · have H := H.2 c_1
    refine rl_aload_n dX4_init_29 rfl rfl ?_
    obtain ⟨o_4, H⟩ := H
    obtain ⟨p_5, e_6, H⟩ := H
    refine rl_getP (k := 1) cfX4 dX4_init_30 flX4_17 (by decide) rfl o_4 e_6 ?_
    refine rl_iload_n dX4_init_33 rfl rfl ?_
    obtain ⟨o_7, H⟩ := H
    obtain ⟨o_8, H⟩ := H
    refine rl_new tg_9 cfX0 cgX0 dX4_init_34 clX4_15 o_7 o_8 ?_
    exact H
theorem bX4_init_37 {Q : Nat → Option Value → Hp → Prop} {h : Hp} {mc ms nc ns : Nat} {a0 as0 as2 : Nat} {x1 xs1 : Int32} (H : nc + 0 ≤ mc ∧ ns + 0 ≤ ms ∧ CKv mX0_init 1 0 0 [some (.ref as2)] h (fun h' => Wm mX4_init 2 mc ms Q 41 [some (.ref a0), some (.int x1)] [.ref as2, .int xs1, .ref as0] h' nc ns)) : Wm mX4_init 2 mc ms Q 37 [some (.ref a0), some (.int x1)] [.ref as2, .int xs1, .ref as0] h nc ns := by
  refine rl_dup dX4_init_37 rfl ?_
  obtain ⟨o_1, H⟩ := H
  obtain ⟨o_2, H⟩ := H
  exact rl_callN (As := []) (rest := [.ref as2, .int xs1, .ref as0]) mfX0_init dX4_init_38 (by decide) (by decide) (Nat.le_of_ble_eq_true rfl) o_1 o_2 rfl (Nat.le_of_ble_eq_true rfl) rfl rfl (fun Qc k => H Qc (fun h' w => k none h' w))
theorem bX4_init_41 {Q : Nat → Option Value → Hp → Prop} {h : Hp} {mc ms nc ns : Nat} {a0 as0 as2 : Nat} {x1 xs1 : Int32} (H : hpK h as0 = 30 ∧ vp_in xs1 (hpN h as0) ∧ hpK h as2 = 10 ∧ Wm mX4_init 2 mc ms Q 23 [some (.ref a0), some (.int (x1 + nI 1))] [] (stP h as0 (xs1).toNatClampNeg (some as2)) nc ns) : Wm mX4_init 2 mc ms Q 41 [some (.ref a0), some (.int x1)] [.ref as2, .int xs1, .ref as0] h nc ns := by
  obtain ⟨o_1, H⟩ := H
  obtain ⟨o_2, H⟩ := H
  obtain ⟨o_3, H⟩ := H
  refine rl_aast (ci := 0) dX4_init_41 rfl o_1 o_2 o_3 ?_
  refine rl_iinc (v := x1 + nI 1) (L' := [some (.ref a0), some (.int (x1 + nI 1))]) dX4_init_42 rfl (congrArg (fun z => x1 + z) (by decide)) (Nat.le_of_ble_eq_true rfl) rfl ?_
  refine rl_goto (tgt := 23) dX4_init_45 (by decide) ?_
  exact H
theorem bX0_init_0 {Q : Nat → Option Value → Hp → Prop} {h : Hp} {a0 : Nat} (H : Q 0 none h) : Wm mX0_init 1 0 0 Q 0 [some (.ref a0)] [] h 0 0 := by
  refine rl_aload_n dX0_init_0 rfl rfl ?_
  refine rl_obj dX0_init_1 lkX0_1 oi1 oi2 (by decide) (Nat.le_of_ble_eq_true rfl) ?_
  exact rl_vret dX0_init_4 rfl (Nat.le_refl 0) (Nat.le_refl 0) H
theorem bX7_clear_0 {Q : Nat → Option Value → Hp → Prop} {h : Hp} {a0 : Nat} (H : Wm mX7_clear 1 0 0 Q 2 [some (.ref a0), some (.int (nI 0))] [] h 0 0) : Wm mX7_clear 1 0 0 Q 0 [some (.ref a0), none] [] h 0 0 := by
  refine rl_iconst (v := nI 0) dX7_clear_0 (by decide) ?_
  refine rl_istore_n (L' := [some (.ref a0), some (.int (nI 0))]) dX7_clear_1 rfl (Nat.le_of_ble_eq_true rfl) rfl ?_
  exact H
theorem bX7_clear_2 {Q : Nat → Option Value → Hp → Prop} {h : Hp} {a0 : Nat} {x1 : Int32} (H : hpK h a0 = 17 ∧ ∃ p_2 : Nat, hpP h a0 0 = some p_2 ∧ (hpK h p_2 = 35 ∧ (((nI (hpN h p_2)) ≤ x1 → Q 0 none h) ∧ (¬ (nI (hpN h p_2)) ≤ x1 → vp_in x1 (hpN h p_2) ∧ ∃ p_7 : Nat, hpP h p_2 (x1).toNatClampNeg = some p_7 ∧ (hpK h p_7 = 15 ∧ CKv mX5_clear 0 0 0 [some (.ref p_7), none] h (fun h' => Wm mX7_clear 1 0 0 Q 20 [some (.ref a0), some (.int x1)] [] h' 0 0)))))) : Wm mX7_clear 1 0 0 Q 2 [some (.ref a0), some (.int x1)] [] h 0 0 := by
  refine rl_iload_n dX7_clear_2 rfl rfl ?_
  refine rl_aload_n dX7_clear_3 rfl rfl ?_
  obtain ⟨o_1, H⟩ := H
  obtain ⟨p_2, e_3, H⟩ := H
  refine rl_getP (k := 0) cfX7 dX7_clear_4 flX7_9 (by decide) rfl o_1 e_3 ?_
  obtain ⟨o_4, H⟩ := H
  refine rl_alen (n := nI (hpN h p_2)) dX7_clear_7 (Or.inr (Or.inr ⟨5, _, rfl, o_4⟩)) rfl ?_
  refine rl_icmp_ge (tgt := 26) dX7_clear_8 (by decide) (fun c_5 => ?_) (fun c_5 => ?_)
  · have H := H.1 c_5
    exact rl_vret dX7_clear_26 rfl (Nat.le_refl 0) (Nat.le_refl 0) H
  · have H := H.2 c_5
    refine rl_aload_n dX7_clear_11 rfl rfl ?_
    refine rl_getP (k := 0) cfX7 dX7_clear_12 flX7_9 (by decide) rfl o_1 e_3 ?_
    refine rl_iload_n dX7_clear_15 rfl rfl ?_
    obtain ⟨o_6, H⟩ := H
    obtain ⟨p_7, e_8, H⟩ := H
    refine rl_aald (ci := 5) dX7_clear_16 rfl o_4 o_6 e_8 ?_
    obtain ⟨o_9, H⟩ := H
    exact rl_callV (As := []) (rest := []) mfX5_clear dX7_clear_17 lkX7_16 o_9 (by decide) (Nat.le_of_ble_eq_true rfl) (Nat.le_refl _) (Nat.le_refl _) rfl (Nat.le_of_ble_eq_true rfl) rfl rfl (fun Qc k => H Qc (fun h' w => k none h' w))
theorem bX7_clear_20 {Q : Nat → Option Value → Hp → Prop} {h : Hp} {a0 : Nat} {x1 : Int32} (H : Wm mX7_clear 1 0 0 Q 2 [some (.ref a0), some (.int (x1 + nI 1))] [] h 0 0) : Wm mX7_clear 1 0 0 Q 20 [some (.ref a0), some (.int x1)] [] h 0 0 := by
  refine rl_iinc (v := x1 + nI 1) (L' := [some (.ref a0), some (.int (x1 + nI 1))]) dX7_clear_20 rfl (congrArg (fun z => x1 + z) (by decide)) (Nat.le_of_ble_eq_true rfl) rfl ?_
  refine rl_goto (tgt := 2) dX7_clear_23 (by decide) ?_
  exact H
theorem bX5_clear_0 {Q : Nat → Option Value → Hp → Prop} {h : Hp} {a0 : Nat} (H : hpK h a0 = 15 ∧ Wm mX5_clear 0 0 0 Q 17 [some (.ref a0), some (.int (nI 0))] [] (stI (stI (stI h a0 0 (nI 0)) a0 1 (nI 0)) a0 5 (nI 0)) 0 0) : Wm mX5_clear 0 0 0 Q 0 [some (.ref a0), none] [] h 0 0 := by
  refine rl_aload_n dX5_clear_0 rfl rfl ?_
  refine rl_iconst (v := nI 0) dX5_clear_1 (by decide) ?_
  obtain ⟨o_1, H⟩ := H
  refine rl_putI (k := 0) cfX5 dX5_clear_2 flX5_24 (by decide) rfl o_1 (Or.inl rfl) ?_
  refine rl_aload_n dX5_clear_5 rfl rfl ?_
  refine rl_iconst (v := nI 0) dX5_clear_6 (by decide) ?_
  refine rl_putI (k := 1) cfX5 dX5_clear_7 flX5_28 (by decide) rfl o_1 (Or.inl rfl) ?_
  refine rl_aload_n dX5_clear_10 rfl rfl ?_
  refine rl_iconst (v := nI 0) dX5_clear_11 (by decide) ?_
  refine rl_putI (k := 5) cfX5 dX5_clear_12 flX5_31 (by decide) rfl o_1 (Or.inl rfl) ?_
  refine rl_iconst (v := nI 0) dX5_clear_15 (by decide) ?_
  refine rl_istore_n (L' := [some (.ref a0), some (.int (nI 0))]) dX5_clear_16 rfl (Nat.le_of_ble_eq_true rfl) rfl ?_
  exact H
theorem bX5_clear_17 {Q : Nat → Option Value → Hp → Prop} {h : Hp} {a0 : Nat} {x1 : Int32} (H : (((nI 2) ≤ x1 → Wm mX5_clear 0 0 0 Q 44 [some (.ref a0), some (.int (nI 0))] [] h 0 0) ∧ (¬ (nI 2) ≤ x1 → hpK h a0 = 15 ∧ ∃ p_3 : Nat, hpP h a0 2 = some p_3 ∧ (hpK h p_3 = 1 ∧ vp_in x1 (hpN h p_3) ∧ ∃ p_7 : Nat, hpP h a0 3 = some p_7 ∧ (hpK h p_7 = 1 ∧ vp_in x1 (hpN h p_7) ∧ Wm mX5_clear 0 0 0 Q 17 [some (.ref a0), some (.int (x1 + nI 1))] [] (stI (stI h p_3 (x1).toNatClampNeg (nI 0)) p_7 (x1).toNatClampNeg (nI 0)) 0 0))))) : Wm mX5_clear 0 0 0 Q 17 [some (.ref a0), some (.int x1)] [] h 0 0 := by
  refine rl_iload_n dX5_clear_17 rfl rfl ?_
  refine rl_iconst (v := nI 2) dX5_clear_18 (by decide) ?_
  refine rl_icmp_ge (tgt := 42) dX5_clear_19 (by decide) (fun c_1 => ?_) (fun c_1 => ?_)
  · have H := H.1 c_1
    refine rl_iconst (v := nI 0) dX5_clear_42 (by decide) ?_
    refine rl_istore_n (L' := [some (.ref a0), some (.int (nI 0))]) dX5_clear_43 rfl (Nat.le_of_ble_eq_true rfl) rfl ?_
    exact H
  · have H := H.2 c_1
    refine rl_aload_n dX5_clear_22 rfl rfl ?_
    obtain ⟨o_2, H⟩ := H
    obtain ⟨p_3, e_4, H⟩ := H
    refine rl_getP (k := 2) cfX5 dX5_clear_23 flX5_9 (by decide) rfl o_2 e_4 ?_
    refine rl_iload_n dX5_clear_26 rfl rfl ?_
    refine rl_iconst (v := nI 0) dX5_clear_27 (by decide) ?_
    obtain ⟨o_5, H⟩ := H
    obtain ⟨o_6, H⟩ := H
    refine rl_iast dX5_clear_28 o_5 o_6 ?_
    refine rl_aload_n dX5_clear_29 rfl rfl ?_
    obtain ⟨p_7, e_8, H⟩ := H
    refine rl_getP (k := 3) cfX5 dX5_clear_30 flX5_15 (by decide) rfl o_2 e_8 ?_
    refine rl_iload_n dX5_clear_33 rfl rfl ?_
    refine rl_iconst (v := nI 0) dX5_clear_34 (by decide) ?_
    obtain ⟨o_9, H⟩ := H
    obtain ⟨o_10, H⟩ := H
    refine rl_iast dX5_clear_35 o_9 o_10 ?_
    refine rl_iinc (v := x1 + nI 1) (L' := [some (.ref a0), some (.int (x1 + nI 1))]) dX5_clear_36 rfl (congrArg (fun z => x1 + z) (by decide)) (Nat.le_of_ble_eq_true rfl) rfl ?_
    refine rl_goto (tgt := 17) dX5_clear_39 (by decide) ?_
    exact H
theorem bX5_clear_44 {Q : Nat → Option Value → Hp → Prop} {h : Hp} {a0 : Nat} {x1 : Int32} (H : hpK h a0 = 15 ∧ ∃ p_2 : Nat, hpP h a0 4 = some p_2 ∧ (hpK h p_2 = 1 ∧ (((nI (hpN h p_2)) ≤ x1 → Wm mX5_clear 0 0 0 Q 68 [some (.ref a0), some (.int (nI 0))] [] h 0 0) ∧ (¬ (nI (hpN h p_2)) ≤ x1 → vp_in x1 (hpN h p_2) ∧ Wm mX5_clear 0 0 0 Q 44 [some (.ref a0), some (.int (x1 + nI 1))] [] (stI h p_2 (x1).toNatClampNeg (nI 0)) 0 0)))) : Wm mX5_clear 0 0 0 Q 44 [some (.ref a0), some (.int x1)] [] h 0 0 := by
  refine rl_iload_n dX5_clear_44 rfl rfl ?_
  refine rl_aload_n dX5_clear_45 rfl rfl ?_
  obtain ⟨o_1, H⟩ := H
  obtain ⟨p_2, e_3, H⟩ := H
  refine rl_getP (k := 4) cfX5 dX5_clear_46 flX5_18 (by decide) rfl o_1 e_3 ?_
  obtain ⟨o_4, H⟩ := H
  refine rl_alen (n := nI (hpN h p_2)) dX5_clear_49 (Or.inl o_4) rfl ?_
  refine rl_icmp_ge (tgt := 66) dX5_clear_50 (by decide) (fun c_5 => ?_) (fun c_5 => ?_)
  · have H := H.1 c_5
    refine rl_iconst (v := nI 0) dX5_clear_66 (by decide) ?_
    refine rl_istore_n (L' := [some (.ref a0), some (.int (nI 0))]) dX5_clear_67 rfl (Nat.le_of_ble_eq_true rfl) rfl ?_
    exact H
  · have H := H.2 c_5
    refine rl_aload_n dX5_clear_53 rfl rfl ?_
    refine rl_getP (k := 4) cfX5 dX5_clear_54 flX5_18 (by decide) rfl o_1 e_3 ?_
    refine rl_iload_n dX5_clear_57 rfl rfl ?_
    refine rl_iconst (v := nI 0) dX5_clear_58 (by decide) ?_
    obtain ⟨o_6, H⟩ := H
    refine rl_iast dX5_clear_59 o_4 o_6 ?_
    refine rl_iinc (v := x1 + nI 1) (L' := [some (.ref a0), some (.int (x1 + nI 1))]) dX5_clear_60 rfl (congrArg (fun z => x1 + z) (by decide)) (Nat.le_of_ble_eq_true rfl) rfl ?_
    refine rl_goto (tgt := 44) dX5_clear_63 (by decide) ?_
    exact H
theorem bX5_clear_68 {Q : Nat → Option Value → Hp → Prop} {h : Hp} {a0 : Nat} {x1 : Int32} (H : (((nI 10) ≤ x1 → Q 0 none h) ∧ (¬ (nI 10) ≤ x1 → hpK h a0 = 15 ∧ ∃ p_3 : Nat, hpP h a0 6 = some p_3 ∧ (hpK h p_3 = 1 ∧ vp_in x1 (hpN h p_3) ∧ Wm mX5_clear 0 0 0 Q 68 [some (.ref a0), some (.int (x1 + nI 1))] [] (stI h p_3 (x1).toNatClampNeg (nI 0)) 0 0)))) : Wm mX5_clear 0 0 0 Q 68 [some (.ref a0), some (.int x1)] [] h 0 0 := by
  refine rl_iload_n dX5_clear_68 rfl rfl ?_
  refine rl_bipush (v := nI 10) dX5_clear_69 (by decide) ?_
  refine rl_icmp_ge (tgt := 87) dX5_clear_71 (by decide) (fun c_1 => ?_) (fun c_1 => ?_)
  · have H := H.1 c_1
    exact rl_vret dX5_clear_87 rfl (Nat.le_refl 0) (Nat.le_refl 0) H
  · have H := H.2 c_1
    refine rl_aload_n dX5_clear_74 rfl rfl ?_
    obtain ⟨o_2, H⟩ := H
    obtain ⟨p_3, e_4, H⟩ := H
    refine rl_getP (k := 6) cfX5 dX5_clear_75 flX5_21 (by decide) rfl o_2 e_4 ?_
    refine rl_iload_n dX5_clear_78 rfl rfl ?_
    refine rl_iconst (v := nI 0) dX5_clear_79 (by decide) ?_
    obtain ⟨o_5, H⟩ := H
    obtain ⟨o_6, H⟩ := H
    refine rl_iast dX5_clear_80 o_5 o_6 ?_
    refine rl_iinc (v := x1 + nI 1) (L' := [some (.ref a0), some (.int (x1 + nI 1))]) dX5_clear_81 rfl (congrArg (fun z => x1 + z) (by decide)) (Nat.le_of_ble_eq_true rfl) rfl ?_
    refine rl_goto (tgt := 68) dX5_clear_84 (by decide) ?_
    exact H
theorem bX4_read_0 {Q : Nat → Option Value → Hp → Prop} {h : Hp} {a0 : Nat} (H : hpK h a0 = 14 ∧ Wm mX4_read 3 0 0 Q 10 [some (.ref a0)] [] (stI (stI h a0 4 (nI 0)) a0 3 (nI 0)) 0 0) : Wm mX4_read 3 0 0 Q 0 [some (.ref a0)] [] h 0 0 := by
  refine rl_aload_n dX4_read_0 rfl rfl ?_
  refine rl_iconst (v := nI 0) dX4_read_1 (by decide) ?_
  obtain ⟨o_1, H⟩ := H
  refine rl_putI (k := 4) cfX4 dX4_read_2 flX4_26 (by decide) rfl o_1 (Or.inl rfl) ?_
  refine rl_aload_n dX4_read_5 rfl rfl ?_
  refine rl_iconst (v := nI 0) dX4_read_6 (by decide) ?_
  refine rl_putI (k := 3) cfX4 dX4_read_7 flX4_29 (by decide) rfl o_1 (Or.inl rfl) ?_
  exact H
theorem bX4_read_10 {Q : Nat → Option Value → Hp → Prop} {h : Hp} {a0 : Nat} (H : hpK h a0 = 14 ∧ (((nI 30) ≤ (hpI h a0 3) → Q 0 (some (.int (hpI h a0 4))) h) ∧ (¬ (nI 30) ≤ (hpI h a0 3) → (∃ p_3 : Nat, hpP h a0 1 = some p_3 ∧ (hpK h p_3 = 30 ∧ vp_in (hpI h a0 3) (hpN h p_3) ∧ ∃ p_7 : Nat, hpP h p_3 (hpI h a0 3).toNatClampNeg = some p_7 ∧ (CKi mX4_readCommand 2 0 0 [some (.ref a0), some (.ref p_7)] h (fun v h' => Wm mX4_read 3 0 0 Q 32 [some (.ref a0)] [.int v] h' 0 0))))))) : Wm mX4_read 3 0 0 Q 10 [some (.ref a0)] [] h 0 0 := by
  refine rl_aload_n dX4_read_10 rfl rfl ?_
  obtain ⟨o_1, H⟩ := H
  refine rl_getI (k := 3) cfX4 dX4_read_11 flX4_29 (by decide) rfl o_1 ?_
  refine rl_bipush (v := nI 30) dX4_read_14 (by decide) ?_
  refine rl_icmp_ge (tgt := 77) dX4_read_16 (by decide) (fun c_2 => ?_) (fun c_2 => ?_)
  · have H := H.1 c_2
    refine rl_aload_n dX4_read_77 rfl rfl ?_
    refine rl_getI (k := 4) cfX4 dX4_read_78 flX4_26 (by decide) rfl o_1 ?_
    exact rl_iret dX4_read_81 rfl (Nat.le_refl 0) (Nat.le_refl 0) H
  · have H := H.2 c_2
    refine rl_aload_n dX4_read_19 rfl rfl ?_
    refine rl_aload_n dX4_read_20 rfl rfl ?_
    obtain ⟨p_3, e_4, H⟩ := H
    refine rl_getP (k := 1) cfX4 dX4_read_21 flX4_17 (by decide) rfl o_1 e_4 ?_
    refine rl_aload_n dX4_read_24 rfl rfl ?_
    refine rl_getI (k := 3) cfX4 dX4_read_25 flX4_29 (by decide) rfl o_1 ?_
    obtain ⟨o_5, H⟩ := H
    obtain ⟨o_6, H⟩ := H
    obtain ⟨p_7, e_8, H⟩ := H
    refine rl_aald (ci := 0) dX4_read_28 rfl o_5 o_6 e_8 ?_
    exact rl_callV (As := [.ref p_7]) (rest := []) mfX4_readCommand dX4_read_29 lkX4_32 o_1 (by decide) (Nat.le_of_ble_eq_true rfl) (Nat.le_refl _) (Nat.le_refl _) rfl (Nat.le_of_ble_eq_true rfl) rfl rfl (fun Qc k => H Qc (fun v h' w => k (some (.int v)) h' w))
theorem bX4_read_32 {Q : Nat → Option Value → Hp → Prop} {h : Hp} {a0 : Nat} {xs0 : Int32} (H : ((¬ xs0 = 0 → hpK h a0 = 14 ∧ (((hpI (stI h a0 3 ((hpI h a0 3) + (nI 1))) a0 4) < (hpI (stI h a0 3 ((hpI h a0 3) + (nI 1))) a0 2) → CKi mX4_readSign 0 0 0 [some (.ref a0), some (.int (nI 59))] (stI h a0 3 ((hpI h a0 3) + (nI 1))) (fun v h' => Wm mX4_read 3 0 0 Q 69 [some (.ref a0)] [.int v] h' 0 0)) ∧ (¬ (hpI (stI h a0 3 ((hpI h a0 3) + (nI 1))) a0 4) < (hpI (stI h a0 3 ((hpI h a0 3) + (nI 1))) a0 2) → Q 0 (some (.int (-1))) (stI h a0 3 ((hpI h a0 3) + (nI 1)))))) ∧ (xs0 = 0 → hpK h a0 = 14 ∧ Q 0 (some (.int (hpI h a0 4))) h))) : Wm mX4_read 3 0 0 Q 32 [some (.ref a0)] [.int xs0] h 0 0 := by
  refine rl_if_ne (tgt := 40) dX4_read_32 (by decide) (fun c_1 => ?_) (fun c_1 => ?_)
  · have H := H.1 c_1
    refine rl_aload_n dX4_read_40 rfl rfl ?_
    refine rl_dup dX4_read_41 rfl ?_
    obtain ⟨o_2, H⟩ := H
    refine rl_getI (k := 3) cfX4 dX4_read_42 flX4_29 (by decide) rfl o_2 ?_
    refine rl_iconst (v := nI 1) dX4_read_45 (by decide) ?_
    refine rl_iadd dX4_read_46 ?_
    refine rl_putI (k := 3) cfX4 dX4_read_47 flX4_29 (by decide) rfl o_2 (Or.inl rfl) ?_
    refine rl_aload_n dX4_read_50 rfl rfl ?_
    refine rl_getI (k := 4) cfX4 dX4_read_51 flX4_26 (by decide) rfl o_2 ?_
    refine rl_aload_n dX4_read_54 rfl rfl ?_
    refine rl_getI (k := 2) cfX4 dX4_read_55 flX4_22 (by decide) rfl o_2 ?_
    refine rl_icmp_lt (tgt := 63) dX4_read_58 (by decide) (fun c_3 => ?_) (fun c_3 => ?_)
    · have H := H.1 c_3
      refine rl_aload_n dX4_read_63 rfl rfl ?_
      refine rl_bipush (v := nI 59) dX4_read_64 (by decide) ?_
      exact rl_callV (As := [.int (nI 59)]) (rest := []) mfX4_readSign dX4_read_66 lkX4_36 o_2 (by decide) (Nat.le_of_ble_eq_true rfl) (Nat.le_refl _) (Nat.le_refl _) rfl (Nat.le_of_ble_eq_true rfl) rfl rfl (fun Qc k => H Qc (fun v h' w => k (some (.int v)) h' w))
    · have H := H.2 c_3
      refine rl_iconst (v := -1) dX4_read_61 (by decide) ?_
      exact rl_iret dX4_read_62 rfl (Nat.le_refl 0) (Nat.le_refl 0) H
  · have H := H.2 c_1
    refine rl_aload_n dX4_read_35 rfl rfl ?_
    obtain ⟨o_4, H⟩ := H
    refine rl_getI (k := 4) cfX4 dX4_read_36 flX4_26 (by decide) rfl o_4 ?_
    exact rl_iret dX4_read_39 rfl (Nat.le_refl 0) (Nat.le_refl 0) H
theorem bX4_read_69 {Q : Nat → Option Value → Hp → Prop} {h : Hp} {a0 : Nat} {xs0 : Int32} (H : ((¬ xs0 = 0 → Wm mX4_read 3 0 0 Q 10 [some (.ref a0)] [] h 0 0) ∧ (xs0 = 0 → hpK h a0 = 14 ∧ Q 0 (some (.int (hpI h a0 4))) h))) : Wm mX4_read 3 0 0 Q 69 [some (.ref a0)] [.int xs0] h 0 0 := by
  refine rl_if_ne (tgt := 10) dX4_read_69 (by decide) (fun c_1 => ?_) (fun c_1 => ?_)
  · have H := H.1 c_1
    exact H
  · have H := H.2 c_1
    refine rl_aload_n dX4_read_72 rfl rfl ?_
    obtain ⟨o_2, H⟩ := H
    refine rl_getI (k := 4) cfX4 dX4_read_73 flX4_26 (by decide) rfl o_2 ?_
    exact rl_iret dX4_read_76 rfl (Nat.le_refl 0) (Nat.le_refl 0) H
theorem bX4_readCommand_0 {Q : Nat → Option Value → Hp → Prop} {h : Hp} {a0 a1 : Nat} (H : hpK h a0 = 14 ∧ (((hpI h a0 4) < (hpI h a0 2) → (∃ p_3 : Nat, hpP h a0 0 = some p_3 ∧ (hpK h p_3 = 1 ∧ vp_in (hpI h a0 4) (hpN h p_3) ∧ hpK h a1 = 10 ∧ (((hpI (stI h a1 0 (hpI h p_3 (hpI h a0 4).toNatClampNeg)) a1 0) = nI 43 → Wm mX4_readCommand 2 0 0 Q 88 [some (.ref a0), some (.ref a1)] [] (stI h a1 0 (hpI h p_3 (hpI h a0 4).toNatClampNeg)) 0 0) ∧ ((hpI (stI h a1 0 (hpI h p_3 (hpI h a0 4).toNatClampNeg)) a1 0) = nI 45 → Wm mX4_readCommand 2 0 0 Q 88 [some (.ref a0), some (.ref a1)] [] (stI h a1 0 (hpI h p_3 (hpI h a0 4).toNatClampNeg)) 0 0) ∧ ((hpI (stI h a1 0 (hpI h p_3 (hpI h a0 4).toNatClampNeg)) a1 0) = nI 100 → Wm mX4_readCommand 2 0 0 Q 123 [some (.ref a0), some (.ref a1)] [] (stI h a1 0 (hpI h p_3 (hpI h a0 4).toNatClampNeg)) 0 0) ∧ ((hpI (stI h a1 0 (hpI h p_3 (hpI h a0 4).toNatClampNeg)) a1 0) = nI 109 → CKi mX4_readSign 0 0 0 [some (.ref a0), some (.int (hpI (stI h a1 0 (hpI h p_3 (hpI h a0 4).toNatClampNeg)) a1 0))] (stI h a1 0 (hpI h p_3 (hpI h a0 4).toNatClampNeg)) (fun v h' => Wm mX4_readCommand 2 0 0 Q 174 [some (.ref a0), some (.ref a1)] [.int v] h' 0 0)) ∧ ((hpI (stI h a1 0 (hpI h p_3 (hpI h a0 4).toNatClampNeg)) a1 0) = nI 116 → CKi mX4_readNumberBehind 1 0 0 [some (.ref a0), some (.int (nI 116)), some (.ref a1), none] (stI h a1 0 (hpI h p_3 (hpI h a0 4).toNatClampNeg)) (fun v h' => Wm mX4_readCommand 2 0 0 Q 206 [none, none] [.int v] h' 0 0)) ∧ ((hpI (stI h a1 0 (hpI h p_3 (hpI h a0 4).toNatClampNeg)) a1 0) = nI 117 → Wm mX4_readCommand 2 0 0 Q 123 [some (.ref a0), some (.ref a1)] [] (stI h a1 0 (hpI h p_3 (hpI h a0 4).toNatClampNeg)) 0 0) ∧ (¬ (hpI (stI h a1 0 (hpI h p_3 (hpI h a0 4).toNatClampNeg)) a1 0) = nI 43 → ¬ (hpI (stI h a1 0 (hpI h p_3 (hpI h a0 4).toNatClampNeg)) a1 0) = nI 45 → ¬ (hpI (stI h a1 0 (hpI h p_3 (hpI h a0 4).toNatClampNeg)) a1 0) = nI 100 → ¬ (hpI (stI h a1 0 (hpI h p_3 (hpI h a0 4).toNatClampNeg)) a1 0) = nI 109 → ¬ (hpI (stI h a1 0 (hpI h p_3 (hpI h a0 4).toNatClampNeg)) a1 0) = nI 116 → ¬ (hpI (stI h a1 0 (hpI h p_3 (hpI h a0 4).toNatClampNeg)) a1 0) = nI 117 → Q 0 (some (.int (nI 0))) (stI h a1 0 (hpI h p_3 (hpI h a0 4).toNatClampNeg))))))) ∧ (¬ (hpI h a0 4) < (hpI h a0 2) → Q 0 (some (.int (nI 0))) h))) : Wm mX4_readCommand 2 0 0 Q 0 [some (.ref a0), some (.ref a1)] [] h 0 0 := by
  refine rl_aload_n dX4_readCommand_0 rfl rfl ?_
  obtain ⟨o_1, H⟩ := H
  refine rl_getI (k := 4) cfX4 dX4_readCommand_1 flX4_26 (by decide) rfl o_1 ?_
  refine rl_aload_n dX4_readCommand_4 rfl rfl ?_
  refine rl_getI (k := 2) cfX4 dX4_readCommand_5 flX4_22 (by decide) rfl o_1 ?_
  refine rl_icmp_lt (tgt := 13) dX4_readCommand_8 (by decide) (fun c_2 => ?_) (fun c_2 => ?_)
  · have H := H.1 c_2
    refine rl_aload_n dX4_readCommand_13 rfl rfl ?_
    refine rl_aload_n dX4_readCommand_14 rfl rfl ?_
    obtain ⟨p_3, e_4, H⟩ := H
    refine rl_getP (k := 0) cfX4 dX4_readCommand_15 flX4_9 (by decide) rfl o_1 e_4 ?_
    refine rl_aload_n dX4_readCommand_18 rfl rfl ?_
    refine rl_getI (k := 4) cfX4 dX4_readCommand_19 flX4_26 (by decide) rfl o_1 ?_
    obtain ⟨o_5, H⟩ := H
    obtain ⟨o_6, H⟩ := H
    refine rl_iald dX4_readCommand_22 (Or.inl o_5) o_6 ?_
    obtain ⟨o_7, H⟩ := H
    refine rl_putI (k := 0) cfX0 dX4_readCommand_23 flX4_40 (by decide) rfl o_7 (Or.inl rfl) ?_
    refine rl_aload_n dX4_readCommand_26 rfl rfl ?_
    refine rl_getI (k := 0) cfX0 dX4_readCommand_27 flX4_40 (by decide) rfl o_7 ?_
    by_cases c_8 : (hpI (stI h a1 0 (hpI h p_3 (hpI h a0 4).toNatClampNeg)) a1 0) = nI 43
    · have H := (H.1) c_8
      refine rl_lookup (tgt := 88) dX4_readCommand_30 (by decide) (by rw [c_8]; decide) ?_
      exact H
    by_cases c_9 : (hpI (stI h a1 0 (hpI h p_3 (hpI h a0 4).toNatClampNeg)) a1 0) = nI 45
    · have H := (H.2.1) c_9
      refine rl_lookup (tgt := 88) dX4_readCommand_30 (by decide) (by rw [c_9]; decide) ?_
      exact H
    by_cases c_10 : (hpI (stI h a1 0 (hpI h p_3 (hpI h a0 4).toNatClampNeg)) a1 0) = nI 100
    · have H := (H.2.2.1) c_10
      refine rl_lookup (tgt := 123) dX4_readCommand_30 (by decide) (by rw [c_10]; decide) ?_
      exact H
    by_cases c_11 : (hpI (stI h a1 0 (hpI h p_3 (hpI h a0 4).toNatClampNeg)) a1 0) = nI 109
    · have H := (H.2.2.2.1) c_11
      refine rl_lookup (tgt := 166) dX4_readCommand_30 (by decide) (by rw [c_11]; decide) ?_
      refine rl_aload_n dX4_readCommand_166 rfl rfl ?_
      refine rl_aload_n dX4_readCommand_167 rfl rfl ?_
      refine rl_getI (k := 0) cfX0 dX4_readCommand_168 flX4_40 (by decide) rfl o_7 ?_
      exact rl_callV (As := [.int (hpI (stI h a1 0 (hpI h p_3 (hpI h a0 4).toNatClampNeg)) a1 0)]) (rest := []) mfX4_readSign dX4_readCommand_171 lkX4_36 o_1 (by decide) (Nat.le_of_ble_eq_true rfl) (Nat.le_refl _) (Nat.le_refl _) rfl (Nat.le_of_ble_eq_true rfl) rfl rfl (fun Qc k => H Qc (fun v h' w => k (some (.int v)) h' w))
    by_cases c_12 : (hpI (stI h a1 0 (hpI h p_3 (hpI h a0 4).toNatClampNeg)) a1 0) = nI 116
    · have H := (H.2.2.2.2.1) c_12
      refine rl_lookup (tgt := 199) dX4_readCommand_30 (by decide) (by rw [c_12]; decide) ?_
      refine rl_aload_n dX4_readCommand_199 rfl rfl ?_
      refine rl_bipush (v := nI 116) dX4_readCommand_200 (by decide) ?_
      refine rl_aload_n dX4_readCommand_202 rfl rfl ?_
      exact rl_callV (As := [.int (nI 116), .ref a1]) (rest := []) mfX4_readNumberBehind dX4_readCommand_203 lkX4_46 o_1 (by decide) (Nat.le_of_ble_eq_true rfl) (Nat.le_refl _) (Nat.le_refl _) rfl (Nat.le_of_ble_eq_true rfl) rfl rfl (fun Qc k => H Qc (fun v h' w => k (some (.int v)) h' (rl_wk (L' := [none, none]) trivial w)))
    by_cases c_13 : (hpI (stI h a1 0 (hpI h p_3 (hpI h a0 4).toNatClampNeg)) a1 0) = nI 117
    · have H := (H.2.2.2.2.2.1) c_13
      refine rl_lookup (tgt := 123) dX4_readCommand_30 (by decide) (by rw [c_13]; decide) ?_
      exact H
    have H := (H.2.2.2.2.2.2) c_8 c_9 c_10 c_11 c_12 c_13
    refine rl_lookup (tgt := 207) dX4_readCommand_30 (by decide) (by show _ + Op.lookupswitch.offset [(43, 58), (45, 58), (100, 93), (109, 136), (116, 169), (117, 93)] _ _ = _; rw [lv_osw c_8 (by decide), lv_osw c_9 (by decide), lv_osw c_10 (by decide), lv_osw c_11 (by decide), lv_osw c_12 (by decide), lv_osw c_13 (by decide)]; rfl) ?_
    refine rl_iconst (v := nI 0) dX4_readCommand_207 (by decide) ?_
    exact rl_zret dX4_readCommand_208 rfl rfl (Nat.le_refl 0) (Nat.le_refl 0) H
  · have H := H.2 c_2
    refine rl_iconst (v := nI 0) dX4_readCommand_11 (by decide) ?_
    exact rl_zret dX4_readCommand_12 rfl rfl (Nat.le_refl 0) (Nat.le_refl 0) H
theorem bX4_readCommand_88 {Q : Nat → Option Value → Hp → Prop} {h : Hp} {a0 a1 : Nat} (H : hpK h a1 = 10 ∧ hpK h a0 = 14 ∧ CKi mX4_readSign 0 0 0 [some (.ref a0), some (.int (hpI h a1 0))] h (fun v h' => Wm mX4_readCommand 2 0 0 Q 96 [some (.ref a0), some (.ref a1)] [.int v] h' 0 0)) : Wm mX4_readCommand 2 0 0 Q 88 [some (.ref a0), some (.ref a1)] [] h 0 0 := by
  refine rl_aload_n dX4_readCommand_88 rfl rfl ?_
  refine rl_aload_n dX4_readCommand_89 rfl rfl ?_
  obtain ⟨o_1, H⟩ := H
  refine rl_getI (k := 0) cfX0 dX4_readCommand_90 flX4_40 (by decide) rfl o_1 ?_
  obtain ⟨o_2, H⟩ := H
  exact rl_callV (As := [.int (hpI h a1 0)]) (rest := []) mfX4_readSign dX4_readCommand_93 lkX4_36 o_2 (by decide) (Nat.le_of_ble_eq_true rfl) (Nat.le_refl _) (Nat.le_refl _) rfl (Nat.le_of_ble_eq_true rfl) rfl rfl (fun Qc k => H Qc (fun v h' w => k (some (.int v)) h' w))
theorem bX4_readCommand_96 {Q : Nat → Option Value → Hp → Prop} {h : Hp} {a0 a1 : Nat} {xs0 : Int32} (H : ((xs0 = 0 → Q 0 (some (.int (nI 0))) h) ∧ (¬ xs0 = 0 → hpK h a0 = 14 ∧ CKi mX4_readSite 1 0 0 [some (.ref a0), some (.ref a1)] h (fun v h' => Wm mX4_readCommand 2 0 0 Q 104 [some (.ref a0), some (.ref a1)] [.int v] h' 0 0)))) : Wm mX4_readCommand 2 0 0 Q 96 [some (.ref a0), some (.ref a1)] [.int xs0] h 0 0 := by
  refine rl_if_eq (tgt := 121) dX4_readCommand_96 (by decide) (fun c_1 => ?_) (fun c_1 => ?_)
  · have H := H.1 c_1
    refine rl_iconst (v := nI 0) dX4_readCommand_121 (by decide) ?_
    exact rl_zret dX4_readCommand_122 rfl rfl (Nat.le_refl 0) (Nat.le_refl 0) H
  · have H := H.2 c_1
    refine rl_aload_n dX4_readCommand_99 rfl rfl ?_
    refine rl_aload_n dX4_readCommand_100 rfl rfl ?_
    obtain ⟨o_2, H⟩ := H
    exact rl_callV (As := [.ref a1]) (rest := []) mfX4_readSite dX4_readCommand_101 lkX4_43 o_2 (by decide) (Nat.le_of_ble_eq_true rfl) (Nat.le_refl _) (Nat.le_refl _) rfl (Nat.le_of_ble_eq_true rfl) rfl rfl (fun Qc k => H Qc (fun v h' w => k (some (.int v)) h' w))
theorem bX4_readCommand_104 {Q : Nat → Option Value → Hp → Prop} {h : Hp} {a0 a1 : Nat} {xs0 : Int32} (H : ((xs0 = 0 → Q 0 (some (.int (nI 0))) h) ∧ (¬ xs0 = 0 → hpK h a0 = 14 ∧ CKi mX4_readNumberBehind 1 0 0 [some (.ref a0), some (.int (nI 58)), some (.ref a1), none] h (fun v h' => Wm mX4_readCommand 2 0 0 Q 114 [none, none] [.int v] h' 0 0)))) : Wm mX4_readCommand 2 0 0 Q 104 [some (.ref a0), some (.ref a1)] [.int xs0] h 0 0 := by
  refine rl_if_eq (tgt := 121) dX4_readCommand_104 (by decide) (fun c_1 => ?_) (fun c_1 => ?_)
  · have H := H.1 c_1
    refine rl_iconst (v := nI 0) dX4_readCommand_121 (by decide) ?_
    exact rl_zret dX4_readCommand_122 rfl rfl (Nat.le_refl 0) (Nat.le_refl 0) H
  · have H := H.2 c_1
    refine rl_aload_n dX4_readCommand_107 rfl rfl ?_
    refine rl_bipush (v := nI 58) dX4_readCommand_108 (by decide) ?_
    refine rl_aload_n dX4_readCommand_110 rfl rfl ?_
    obtain ⟨o_2, H⟩ := H
    exact rl_callV (As := [.int (nI 58), .ref a1]) (rest := []) mfX4_readNumberBehind dX4_readCommand_111 lkX4_46 o_2 (by decide) (Nat.le_of_ble_eq_true rfl) (Nat.le_refl _) (Nat.le_refl _) rfl (Nat.le_of_ble_eq_true rfl) rfl rfl (fun Qc k => H Qc (fun v h' w => k (some (.int v)) h' (rl_wk (L' := [none, none]) trivial w)))
theorem bX4_readCommand_114 {Q : Nat → Option Value → Hp → Prop} {h : Hp} {xs0 : Int32} (H : ((xs0 = 0 → Q 0 (some (.int (nI 0))) h) ∧ (¬ xs0 = 0 → Q 0 (some (.int (nI 1))) h))) : Wm mX4_readCommand 2 0 0 Q 114 [none, none] [.int xs0] h 0 0 := by
  refine rl_if_eq (tgt := 121) dX4_readCommand_114 (by decide) (fun c_1 => ?_) (fun c_1 => ?_)
  · have H := H.1 c_1
    refine rl_iconst (v := nI 0) dX4_readCommand_121 (by decide) ?_
    exact rl_zret dX4_readCommand_122 rfl rfl (Nat.le_refl 0) (Nat.le_refl 0) H
  · have H := H.2 c_1
    refine rl_iconst (v := nI 1) dX4_readCommand_117 (by decide) ?_
    refine rl_goto (tgt := 122) dX4_readCommand_118 (by decide) ?_
    exact rl_zret dX4_readCommand_122 rfl rfl (Nat.le_refl 0) (Nat.le_refl 0) H
theorem bX4_readCommand_123 {Q : Nat → Option Value → Hp → Prop} {h : Hp} {a0 a1 : Nat} (H : hpK h a1 = 10 ∧ hpK h a0 = 14 ∧ CKi mX4_readSign 0 0 0 [some (.ref a0), some (.int (hpI h a1 0))] h (fun v h' => Wm mX4_readCommand 2 0 0 Q 131 [some (.ref a0), some (.ref a1)] [.int v] h' 0 0)) : Wm mX4_readCommand 2 0 0 Q 123 [some (.ref a0), some (.ref a1)] [] h 0 0 := by
  refine rl_aload_n dX4_readCommand_123 rfl rfl ?_
  refine rl_aload_n dX4_readCommand_124 rfl rfl ?_
  obtain ⟨o_1, H⟩ := H
  refine rl_getI (k := 0) cfX0 dX4_readCommand_125 flX4_40 (by decide) rfl o_1 ?_
  obtain ⟨o_2, H⟩ := H
  exact rl_callV (As := [.int (hpI h a1 0)]) (rest := []) mfX4_readSign dX4_readCommand_128 lkX4_36 o_2 (by decide) (Nat.le_of_ble_eq_true rfl) (Nat.le_refl _) (Nat.le_refl _) rfl (Nat.le_of_ble_eq_true rfl) rfl rfl (fun Qc k => H Qc (fun v h' w => k (some (.int v)) h' w))
theorem bX4_readCommand_131 {Q : Nat → Option Value → Hp → Prop} {h : Hp} {a0 a1 : Nat} {xs0 : Int32} (H : ((xs0 = 0 → Q 0 (some (.int (nI 0))) h) ∧ (¬ xs0 = 0 → hpK h a0 = 14 ∧ CKi mX4_readSite 1 0 0 [some (.ref a0), some (.ref a1)] h (fun v h' => Wm mX4_readCommand 2 0 0 Q 139 [some (.ref a0), some (.ref a1)] [.int v] h' 0 0)))) : Wm mX4_readCommand 2 0 0 Q 131 [some (.ref a0), some (.ref a1)] [.int xs0] h 0 0 := by
  refine rl_if_eq (tgt := 164) dX4_readCommand_131 (by decide) (fun c_1 => ?_) (fun c_1 => ?_)
  · have H := H.1 c_1
    refine rl_iconst (v := nI 0) dX4_readCommand_164 (by decide) ?_
    exact rl_zret dX4_readCommand_165 rfl rfl (Nat.le_refl 0) (Nat.le_refl 0) H
  · have H := H.2 c_1
    refine rl_aload_n dX4_readCommand_134 rfl rfl ?_
    refine rl_aload_n dX4_readCommand_135 rfl rfl ?_
    obtain ⟨o_2, H⟩ := H
    exact rl_callV (As := [.ref a1]) (rest := []) mfX4_readSite dX4_readCommand_136 lkX4_43 o_2 (by decide) (Nat.le_of_ble_eq_true rfl) (Nat.le_refl _) (Nat.le_refl _) rfl (Nat.le_of_ble_eq_true rfl) rfl rfl (fun Qc k => H Qc (fun v h' w => k (some (.int v)) h' w))
theorem bX4_readCommand_139 {Q : Nat → Option Value → Hp → Prop} {h : Hp} {a0 a1 : Nat} {xs0 : Int32} (H : ((xs0 = 0 → Q 0 (some (.int (nI 0))) h) ∧ (¬ xs0 = 0 → hpK h a0 = 14 ∧ CKi mX4_readSecondSite 1 0 0 [some (.ref a0), some (.ref a1)] h (fun v h' => Wm mX4_readCommand 2 0 0 Q 147 [some (.ref a0), some (.ref a1)] [.int v] h' 0 0)))) : Wm mX4_readCommand 2 0 0 Q 139 [some (.ref a0), some (.ref a1)] [.int xs0] h 0 0 := by
  refine rl_if_eq (tgt := 164) dX4_readCommand_139 (by decide) (fun c_1 => ?_) (fun c_1 => ?_)
  · have H := H.1 c_1
    refine rl_iconst (v := nI 0) dX4_readCommand_164 (by decide) ?_
    exact rl_zret dX4_readCommand_165 rfl rfl (Nat.le_refl 0) (Nat.le_refl 0) H
  · have H := H.2 c_1
    refine rl_aload_n dX4_readCommand_142 rfl rfl ?_
    refine rl_aload_n dX4_readCommand_143 rfl rfl ?_
    obtain ⟨o_2, H⟩ := H
    exact rl_callV (As := [.ref a1]) (rest := []) mfX4_readSecondSite dX4_readCommand_144 lkX4_50 o_2 (by decide) (Nat.le_of_ble_eq_true rfl) (Nat.le_refl _) (Nat.le_refl _) rfl (Nat.le_of_ble_eq_true rfl) rfl rfl (fun Qc k => H Qc (fun v h' w => k (some (.int v)) h' w))
theorem bX4_readCommand_147 {Q : Nat → Option Value → Hp → Prop} {h : Hp} {a0 a1 : Nat} {xs0 : Int32} (H : ((xs0 = 0 → Q 0 (some (.int (nI 0))) h) ∧ (¬ xs0 = 0 → hpK h a0 = 14 ∧ CKi mX4_readNumberBehind 1 0 0 [some (.ref a0), some (.int (nI 58)), some (.ref a1), none] h (fun v h' => Wm mX4_readCommand 2 0 0 Q 157 [none, none] [.int v] h' 0 0)))) : Wm mX4_readCommand 2 0 0 Q 147 [some (.ref a0), some (.ref a1)] [.int xs0] h 0 0 := by
  refine rl_if_eq (tgt := 164) dX4_readCommand_147 (by decide) (fun c_1 => ?_) (fun c_1 => ?_)
  · have H := H.1 c_1
    refine rl_iconst (v := nI 0) dX4_readCommand_164 (by decide) ?_
    exact rl_zret dX4_readCommand_165 rfl rfl (Nat.le_refl 0) (Nat.le_refl 0) H
  · have H := H.2 c_1
    refine rl_aload_n dX4_readCommand_150 rfl rfl ?_
    refine rl_bipush (v := nI 58) dX4_readCommand_151 (by decide) ?_
    refine rl_aload_n dX4_readCommand_153 rfl rfl ?_
    obtain ⟨o_2, H⟩ := H
    exact rl_callV (As := [.int (nI 58), .ref a1]) (rest := []) mfX4_readNumberBehind dX4_readCommand_154 lkX4_46 o_2 (by decide) (Nat.le_of_ble_eq_true rfl) (Nat.le_refl _) (Nat.le_refl _) rfl (Nat.le_of_ble_eq_true rfl) rfl rfl (fun Qc k => H Qc (fun v h' w => k (some (.int v)) h' (rl_wk (L' := [none, none]) trivial w)))
theorem bX4_readCommand_157 {Q : Nat → Option Value → Hp → Prop} {h : Hp} {xs0 : Int32} (H : ((xs0 = 0 → Q 0 (some (.int (nI 0))) h) ∧ (¬ xs0 = 0 → Q 0 (some (.int (nI 1))) h))) : Wm mX4_readCommand 2 0 0 Q 157 [none, none] [.int xs0] h 0 0 := by
  refine rl_if_eq (tgt := 164) dX4_readCommand_157 (by decide) (fun c_1 => ?_) (fun c_1 => ?_)
  · have H := H.1 c_1
    refine rl_iconst (v := nI 0) dX4_readCommand_164 (by decide) ?_
    exact rl_zret dX4_readCommand_165 rfl rfl (Nat.le_refl 0) (Nat.le_refl 0) H
  · have H := H.2 c_1
    refine rl_iconst (v := nI 1) dX4_readCommand_160 (by decide) ?_
    refine rl_goto (tgt := 165) dX4_readCommand_161 (by decide) ?_
    exact rl_zret dX4_readCommand_165 rfl rfl (Nat.le_refl 0) (Nat.le_refl 0) H
theorem bX4_readCommand_174 {Q : Nat → Option Value → Hp → Prop} {h : Hp} {a0 a1 : Nat} {xs0 : Int32} (H : ((xs0 = 0 → Q 0 (some (.int (nI 0))) h) ∧ (¬ xs0 = 0 → hpK h a0 = 14 ∧ CKi mX4_readSite 1 0 0 [some (.ref a0), some (.ref a1)] h (fun v h' => Wm mX4_readCommand 2 0 0 Q 182 [some (.ref a0), some (.ref a1)] [.int v] h' 0 0)))) : Wm mX4_readCommand 2 0 0 Q 174 [some (.ref a0), some (.ref a1)] [.int xs0] h 0 0 := by
  refine rl_if_eq (tgt := 197) dX4_readCommand_174 (by decide) (fun c_1 => ?_) (fun c_1 => ?_)
  · have H := H.1 c_1
    refine rl_iconst (v := nI 0) dX4_readCommand_197 (by decide) ?_
    exact rl_zret dX4_readCommand_198 rfl rfl (Nat.le_refl 0) (Nat.le_refl 0) H
  · have H := H.2 c_1
    refine rl_aload_n dX4_readCommand_177 rfl rfl ?_
    refine rl_aload_n dX4_readCommand_178 rfl rfl ?_
    obtain ⟨o_2, H⟩ := H
    exact rl_callV (As := [.ref a1]) (rest := []) mfX4_readSite dX4_readCommand_179 lkX4_43 o_2 (by decide) (Nat.le_of_ble_eq_true rfl) (Nat.le_refl _) (Nat.le_refl _) rfl (Nat.le_of_ble_eq_true rfl) rfl rfl (fun Qc k => H Qc (fun v h' w => k (some (.int v)) h' w))
theorem bX4_readCommand_182 {Q : Nat → Option Value → Hp → Prop} {h : Hp} {a0 a1 : Nat} {xs0 : Int32} (H : ((xs0 = 0 → Q 0 (some (.int (nI 0))) h) ∧ (¬ xs0 = 0 → hpK h a0 = 14 ∧ CKi mX4_readSecondSite 1 0 0 [some (.ref a0), some (.ref a1)] h (fun v h' => Wm mX4_readCommand 2 0 0 Q 190 [none, none] [.int v] h' 0 0)))) : Wm mX4_readCommand 2 0 0 Q 182 [some (.ref a0), some (.ref a1)] [.int xs0] h 0 0 := by
  refine rl_if_eq (tgt := 197) dX4_readCommand_182 (by decide) (fun c_1 => ?_) (fun c_1 => ?_)
  · have H := H.1 c_1
    refine rl_iconst (v := nI 0) dX4_readCommand_197 (by decide) ?_
    exact rl_zret dX4_readCommand_198 rfl rfl (Nat.le_refl 0) (Nat.le_refl 0) H
  · have H := H.2 c_1
    refine rl_aload_n dX4_readCommand_185 rfl rfl ?_
    refine rl_aload_n dX4_readCommand_186 rfl rfl ?_
    obtain ⟨o_2, H⟩ := H
    exact rl_callV (As := [.ref a1]) (rest := []) mfX4_readSecondSite dX4_readCommand_187 lkX4_50 o_2 (by decide) (Nat.le_of_ble_eq_true rfl) (Nat.le_refl _) (Nat.le_refl _) rfl (Nat.le_of_ble_eq_true rfl) rfl rfl (fun Qc k => H Qc (fun v h' w => k (some (.int v)) h' (rl_wk (L' := [none, none]) trivial w)))
theorem bX4_readCommand_190 {Q : Nat → Option Value → Hp → Prop} {h : Hp} {xs0 : Int32} (H : ((xs0 = 0 → Q 0 (some (.int (nI 0))) h) ∧ (¬ xs0 = 0 → Q 0 (some (.int (nI 1))) h))) : Wm mX4_readCommand 2 0 0 Q 190 [none, none] [.int xs0] h 0 0 := by
  refine rl_if_eq (tgt := 197) dX4_readCommand_190 (by decide) (fun c_1 => ?_) (fun c_1 => ?_)
  · have H := H.1 c_1
    refine rl_iconst (v := nI 0) dX4_readCommand_197 (by decide) ?_
    exact rl_zret dX4_readCommand_198 rfl rfl (Nat.le_refl 0) (Nat.le_refl 0) H
  · have H := H.2 c_1
    refine rl_iconst (v := nI 1) dX4_readCommand_193 (by decide) ?_
    refine rl_goto (tgt := 198) dX4_readCommand_194 (by decide) ?_
    exact rl_zret dX4_readCommand_198 rfl rfl (Nat.le_refl 0) (Nat.le_refl 0) H
theorem bX4_readCommand_206 {Q : Nat → Option Value → Hp → Prop} {h : Hp} {xs0 : Int32} (H : narrow .boolean (.int xs0) = .int xs0 ∧ Q 0 (some (.int xs0)) h) : Wm mX4_readCommand 2 0 0 Q 206 [none, none] [.int xs0] h 0 0 := by
  obtain ⟨o_1, H⟩ := H
  exact rl_zret dX4_readCommand_206 rfl o_1 (Nat.le_refl 0) (Nat.le_refl 0) H
theorem bX4_readSign_0 {Q : Nat → Option Value → Hp → Prop} {h : Hp} {a0 : Nat} {x1 : Int32} (H : hpK h a0 = 14 ∧ (((hpI h a0 2) ≤ (hpI h a0 4) → Q 0 (some (.int (nI 0))) h) ∧ (¬ (hpI h a0 2) ≤ (hpI h a0 4) → (∃ p_3 : Nat, hpP h a0 0 = some p_3 ∧ (hpK h p_3 = 1 ∧ vp_in (hpI h a0 4) (hpN h p_3) ∧ (((hpI h p_3 (hpI h a0 4).toNatClampNeg) = x1 → Q 0 (some (.int (nI 1))) (stI h a0 4 ((hpI h a0 4) + (nI 1)))) ∧ (¬ (hpI h p_3 (hpI h a0 4).toNatClampNeg) = x1 → Q 0 (some (.int (nI 0))) h))))))) : Wm mX4_readSign 0 0 0 Q 0 [some (.ref a0), some (.int x1)] [] h 0 0 := by
  refine rl_aload_n dX4_readSign_0 rfl rfl ?_
  obtain ⟨o_1, H⟩ := H
  refine rl_getI (k := 4) cfX4 dX4_readSign_1 flX4_26 (by decide) rfl o_1 ?_
  refine rl_aload_n dX4_readSign_4 rfl rfl ?_
  refine rl_getI (k := 2) cfX4 dX4_readSign_5 flX4_22 (by decide) rfl o_1 ?_
  refine rl_icmp_ge (tgt := 24) dX4_readSign_8 (by decide) (fun c_2 => ?_) (fun c_2 => ?_)
  · have H := H.1 c_2
    refine rl_iconst (v := nI 0) dX4_readSign_24 (by decide) ?_
    exact rl_zret dX4_readSign_25 rfl rfl (Nat.le_refl 0) (Nat.le_refl 0) H
  · have H := H.2 c_2
    refine rl_aload_n dX4_readSign_11 rfl rfl ?_
    obtain ⟨p_3, e_4, H⟩ := H
    refine rl_getP (k := 0) cfX4 dX4_readSign_12 flX4_9 (by decide) rfl o_1 e_4 ?_
    refine rl_aload_n dX4_readSign_15 rfl rfl ?_
    refine rl_getI (k := 4) cfX4 dX4_readSign_16 flX4_26 (by decide) rfl o_1 ?_
    obtain ⟨o_5, H⟩ := H
    obtain ⟨o_6, H⟩ := H
    refine rl_iald dX4_readSign_19 (Or.inl o_5) o_6 ?_
    refine rl_iload_n dX4_readSign_20 rfl rfl ?_
    refine rl_icmp_eq (tgt := 26) dX4_readSign_21 (by decide) (fun c_7 => ?_) (fun c_7 => ?_)
    · have H := H.1 c_7
      refine rl_aload_n dX4_readSign_26 rfl rfl ?_
      refine rl_dup dX4_readSign_27 rfl ?_
      refine rl_getI (k := 4) cfX4 dX4_readSign_28 flX4_26 (by decide) rfl o_1 ?_
      refine rl_iconst (v := nI 1) dX4_readSign_31 (by decide) ?_
      refine rl_iadd dX4_readSign_32 ?_
      refine rl_putI (k := 4) cfX4 dX4_readSign_33 flX4_26 (by decide) rfl o_1 (Or.inl rfl) ?_
      refine rl_iconst (v := nI 1) dX4_readSign_36 (by decide) ?_
      exact rl_zret dX4_readSign_37 rfl rfl (Nat.le_refl 0) (Nat.le_refl 0) H
    · have H := H.2 c_7
      refine rl_iconst (v := nI 0) dX4_readSign_24 (by decide) ?_
      exact rl_zret dX4_readSign_25 rfl rfl (Nat.le_refl 0) (Nat.le_refl 0) H
theorem bX4_readSite_0 {Q : Nat → Option Value → Hp → Prop} {h : Hp} {a0 a1 : Nat} (H : hpK h a0 = 14 ∧ CKi mX4_isDigitNext 0 0 0 [some (.ref a0)] h (fun v h' => Wm mX4_readSite 1 0 0 Q 4 [some (.ref a0), some (.ref a1)] [.int v] h' 0 0)) : Wm mX4_readSite 1 0 0 Q 0 [some (.ref a0), some (.ref a1)] [] h 0 0 := by
  refine rl_aload_n dX4_readSite_0 rfl rfl ?_
  obtain ⟨o_1, H⟩ := H
  exact rl_callV (As := []) (rest := []) mfX4_isDigitNext dX4_readSite_1 lkX4_53 o_1 (by decide) (Nat.le_of_ble_eq_true rfl) (Nat.le_refl _) (Nat.le_refl _) rfl (Nat.le_of_ble_eq_true rfl) rfl rfl (fun Qc k => H Qc (fun v h' w => k (some (.int v)) h' w))
theorem bX4_readSite_4 {Q : Nat → Option Value → Hp → Prop} {h : Hp} {a0 a1 : Nat} {xs0 : Int32} (H : ((¬ xs0 = 0 → hpK h a0 = 14 ∧ CKi mX4_readDigit 0 0 0 [some (.ref a0), none] h (fun v h' => Wm mX4_readSite 1 0 0 Q 14 [none, none] [.int v, .ref a1] h' 0 0)) ∧ (xs0 = 0 → Q 0 (some (.int (nI 0))) h))) : Wm mX4_readSite 1 0 0 Q 4 [some (.ref a0), some (.ref a1)] [.int xs0] h 0 0 := by
  refine rl_if_ne (tgt := 9) dX4_readSite_4 (by decide) (fun c_1 => ?_) (fun c_1 => ?_)
  · have H := H.1 c_1
    refine rl_aload_n dX4_readSite_9 rfl rfl ?_
    refine rl_aload_n dX4_readSite_10 rfl rfl ?_
    obtain ⟨o_2, H⟩ := H
    exact rl_callV (As := []) (rest := [.ref a1]) mfX4_readDigit dX4_readSite_11 lkX4_57 o_2 (by decide) (Nat.le_of_ble_eq_true rfl) (Nat.le_refl _) (Nat.le_refl _) rfl (Nat.le_of_ble_eq_true rfl) rfl rfl (fun Qc k => H Qc (fun v h' w => k (some (.int v)) h' (rl_wk (L' := [none, none]) trivial w)))
  · have H := H.2 c_1
    refine rl_iconst (v := nI 0) dX4_readSite_7 (by decide) ?_
    exact rl_zret dX4_readSite_8 rfl rfl (Nat.le_refl 0) (Nat.le_refl 0) H
theorem bX4_readSite_14 {Q : Nat → Option Value → Hp → Prop} {h : Hp} {as0 : Nat} {xs1 : Int32} (H : hpK h as0 = 10 ∧ Q 0 (some (.int (nI 1))) (stI h as0 1 xs1)) : Wm mX4_readSite 1 0 0 Q 14 [none, none] [.int xs1, .ref as0] h 0 0 := by
  obtain ⟨o_1, H⟩ := H
  refine rl_putI (k := 1) cfX0 dX4_readSite_14 flX4_61 (by decide) rfl o_1 (Or.inl rfl) ?_
  refine rl_iconst (v := nI 1) dX4_readSite_17 (by decide) ?_
  exact rl_zret dX4_readSite_18 rfl rfl (Nat.le_refl 0) (Nat.le_refl 0) H
theorem bX4_isDigitNext_0 {Q : Nat → Option Value → Hp → Prop} {h : Hp} {a0 : Nat} (H : hpK h a0 = 14 ∧ (((hpI h a0 2) ≤ (hpI h a0 4) → Q 0 (some (.int (nI 0))) h) ∧ (¬ (hpI h a0 2) ≤ (hpI h a0 4) → (∃ p_3 : Nat, hpP h a0 0 = some p_3 ∧ (hpK h p_3 = 1 ∧ vp_in (hpI h a0 4) (hpN h p_3) ∧ (((hpI h p_3 (hpI h a0 4).toNatClampNeg) < (nI 48) → Q 0 (some (.int (nI 0))) h) ∧ (¬ (hpI h p_3 (hpI h a0 4).toNatClampNeg) < (nI 48) → (((nI 57) < (hpI h p_3 (hpI h a0 4).toNatClampNeg) → Q 0 (some (.int (nI 0))) h) ∧ (¬ (nI 57) < (hpI h p_3 (hpI h a0 4).toNatClampNeg) → Q 0 (some (.int (nI 1))) h))))))))) : Wm mX4_isDigitNext 0 0 0 Q 0 [some (.ref a0)] [] h 0 0 := by
  refine rl_aload_n dX4_isDigitNext_0 rfl rfl ?_
  obtain ⟨o_1, H⟩ := H
  refine rl_getI (k := 4) cfX4 dX4_isDigitNext_1 flX4_26 (by decide) rfl o_1 ?_
  refine rl_aload_n dX4_isDigitNext_4 rfl rfl ?_
  refine rl_getI (k := 2) cfX4 dX4_isDigitNext_5 flX4_22 (by decide) rfl o_1 ?_
  refine rl_icmp_ge (tgt := 43) dX4_isDigitNext_8 (by decide) (fun c_2 => ?_) (fun c_2 => ?_)
  · have H := H.1 c_2
    refine rl_iconst (v := nI 0) dX4_isDigitNext_43 (by decide) ?_
    exact rl_zret dX4_isDigitNext_44 rfl rfl (Nat.le_refl 0) (Nat.le_refl 0) H
  · have H := H.2 c_2
    refine rl_aload_n dX4_isDigitNext_11 rfl rfl ?_
    obtain ⟨p_3, e_4, H⟩ := H
    refine rl_getP (k := 0) cfX4 dX4_isDigitNext_12 flX4_9 (by decide) rfl o_1 e_4 ?_
    refine rl_aload_n dX4_isDigitNext_15 rfl rfl ?_
    refine rl_getI (k := 4) cfX4 dX4_isDigitNext_16 flX4_26 (by decide) rfl o_1 ?_
    obtain ⟨o_5, H⟩ := H
    obtain ⟨o_6, H⟩ := H
    refine rl_iald dX4_isDigitNext_19 (Or.inl o_5) o_6 ?_
    refine rl_bipush (v := nI 48) dX4_isDigitNext_20 (by decide) ?_
    refine rl_icmp_lt (tgt := 43) dX4_isDigitNext_22 (by decide) (fun c_7 => ?_) (fun c_7 => ?_)
    · have H := H.1 c_7
      refine rl_iconst (v := nI 0) dX4_isDigitNext_43 (by decide) ?_
      exact rl_zret dX4_isDigitNext_44 rfl rfl (Nat.le_refl 0) (Nat.le_refl 0) H
    · have H := H.2 c_7
      refine rl_aload_n dX4_isDigitNext_25 rfl rfl ?_
      refine rl_getP (k := 0) cfX4 dX4_isDigitNext_26 flX4_9 (by decide) rfl o_1 e_4 ?_
      refine rl_aload_n dX4_isDigitNext_29 rfl rfl ?_
      refine rl_getI (k := 4) cfX4 dX4_isDigitNext_30 flX4_26 (by decide) rfl o_1 ?_
      refine rl_iald dX4_isDigitNext_33 (Or.inl o_5) o_6 ?_
      refine rl_bipush (v := nI 57) dX4_isDigitNext_34 (by decide) ?_
      refine rl_icmp_gt (tgt := 43) dX4_isDigitNext_36 (by decide) (fun c_8 => ?_) (fun c_8 => ?_)
      · have H := H.1 c_8
        refine rl_iconst (v := nI 0) dX4_isDigitNext_43 (by decide) ?_
        exact rl_zret dX4_isDigitNext_44 rfl rfl (Nat.le_refl 0) (Nat.le_refl 0) H
      · have H := H.2 c_8
        refine rl_iconst (v := nI 1) dX4_isDigitNext_39 (by decide) ?_
        refine rl_goto (tgt := 44) dX4_isDigitNext_40 (by decide) ?_
        exact rl_zret dX4_isDigitNext_44 rfl rfl (Nat.le_refl 0) (Nat.le_refl 0) H
theorem bX4_readDigit_0 {Q : Nat → Option Value → Hp → Prop} {h : Hp} {a0 : Nat} (H : hpK h a0 = 14 ∧ ∃ p_2 : Nat, hpP h a0 0 = some p_2 ∧ (hpK h p_2 = 1 ∧ vp_in (hpI h a0 4) (hpN h p_2) ∧ Q 0 (some (.int ((hpI h p_2 (hpI h a0 4).toNatClampNeg) - (nI 48)))) (stI h a0 4 ((hpI h a0 4) + (nI 1))))) : Wm mX4_readDigit 0 0 0 Q 0 [some (.ref a0), none] [] h 0 0 := by
  refine rl_aload_n dX4_readDigit_0 rfl rfl ?_
  obtain ⟨o_1, H⟩ := H
  obtain ⟨p_2, e_3, H⟩ := H
  refine rl_getP (k := 0) cfX4 dX4_readDigit_1 flX4_9 (by decide) rfl o_1 e_3 ?_
  refine rl_aload_n dX4_readDigit_4 rfl rfl ?_
  refine rl_getI (k := 4) cfX4 dX4_readDigit_5 flX4_26 (by decide) rfl o_1 ?_
  obtain ⟨o_4, H⟩ := H
  obtain ⟨o_5, H⟩ := H
  refine rl_iald dX4_readDigit_8 (Or.inl o_4) o_5 ?_
  refine rl_bipush (v := nI 48) dX4_readDigit_9 (by decide) ?_
  refine rl_isub dX4_readDigit_11 ?_
  refine rl_istore_n (L' := [some (.ref a0), some (.int ((hpI h p_2 (hpI h a0 4).toNatClampNeg) - (nI 48)))]) dX4_readDigit_12 rfl (Nat.le_of_ble_eq_true rfl) rfl ?_
  refine rl_aload_n dX4_readDigit_13 rfl rfl ?_
  refine rl_dup dX4_readDigit_14 rfl ?_
  refine rl_getI (k := 4) cfX4 dX4_readDigit_15 flX4_26 (by decide) rfl o_1 ?_
  refine rl_iconst (v := nI 1) dX4_readDigit_18 (by decide) ?_
  refine rl_iadd dX4_readDigit_19 ?_
  refine rl_putI (k := 4) cfX4 dX4_readDigit_20 flX4_26 (by decide) rfl o_1 (Or.inl rfl) ?_
  refine rl_iload_n dX4_readDigit_23 rfl rfl ?_
  exact rl_iret dX4_readDigit_24 rfl (Nat.le_refl 0) (Nat.le_refl 0) H
theorem bX4_readNumberBehind_0 {Q : Nat → Option Value → Hp → Prop} {h : Hp} {a0 a2 : Nat} {x1 : Int32} (H : hpK h a0 = 14 ∧ CKi mX4_readSign 0 0 0 [some (.ref a0), some (.int x1)] h (fun v h' => Wm mX4_readNumberBehind 1 0 0 Q 5 [some (.ref a0), none, some (.ref a2), none] [.int v] h' 0 0)) : Wm mX4_readNumberBehind 1 0 0 Q 0 [some (.ref a0), some (.int x1), some (.ref a2), none] [] h 0 0 := by
  refine rl_aload_n dX4_readNumberBehind_0 rfl rfl ?_
  refine rl_iload_n dX4_readNumberBehind_1 rfl rfl ?_
  obtain ⟨o_1, H⟩ := H
  exact rl_callV (As := [.int x1]) (rest := []) mfX4_readSign dX4_readNumberBehind_2 lkX4_36 o_1 (by decide) (Nat.le_of_ble_eq_true rfl) (Nat.le_refl _) (Nat.le_refl _) rfl (Nat.le_of_ble_eq_true rfl) rfl rfl (fun Qc k => H Qc (fun v h' w => k (some (.int v)) h' (rl_wk (L' := [some (.ref a0), none, some (.ref a2), none]) ⟨rfl, ⟨rfl, trivial⟩⟩ w)))
theorem bX4_readNumberBehind_5 {Q : Nat → Option Value → Hp → Prop} {h : Hp} {a0 a2 : Nat} {xs0 : Int32} (H : ((¬ xs0 = 0 → hpK h a2 = 10 ∧ Wm mX4_readNumberBehind 1 0 0 Q 17 [some (.ref a0), none, some (.ref a2), some (.int (nI 0))] [] (stI h a2 3 (nI 0)) 0 0) ∧ (xs0 = 0 → Q 0 (some (.int (nI 0))) h))) : Wm mX4_readNumberBehind 1 0 0 Q 5 [some (.ref a0), none, some (.ref a2), none] [.int xs0] h 0 0 := by
  refine rl_if_ne (tgt := 10) dX4_readNumberBehind_5 (by decide) (fun c_1 => ?_) (fun c_1 => ?_)
  · have H := H.1 c_1
    refine rl_iconst (v := nI 0) dX4_readNumberBehind_10 (by decide) ?_
    refine rl_istore_n (L' := [some (.ref a0), none, some (.ref a2), some (.int (nI 0))]) dX4_readNumberBehind_11 rfl (Nat.le_of_ble_eq_true rfl) rfl ?_
    refine rl_aload_n dX4_readNumberBehind_12 rfl rfl ?_
    refine rl_iconst (v := nI 0) dX4_readNumberBehind_13 (by decide) ?_
    obtain ⟨o_2, H⟩ := H
    refine rl_putI (k := 3) cfX0 dX4_readNumberBehind_14 flX4_67 (by decide) rfl o_2 (Or.inl rfl) ?_
    exact H
  · have H := H.2 c_1
    refine rl_iconst (v := nI 0) dX4_readNumberBehind_8 (by decide) ?_
    exact rl_zret dX4_readNumberBehind_9 rfl rfl (Nat.le_refl 0) (Nat.le_refl 0) H
theorem bX4_readNumberBehind_17 {Q : Nat → Option Value → Hp → Prop} {h : Hp} {a0 a2 : Nat} {x3 : Int32} (H : (((nI 3) ≤ x3 → Wm mX4_readNumberBehind 1 0 0 Q 51 [none, none, none, some (.int x3)] [] h 0 0) ∧ (¬ (nI 3) ≤ x3 → hpK h a0 = 14 ∧ CKi mX4_isDigitNext 0 0 0 [some (.ref a0)] h (fun v h' => Wm mX4_readNumberBehind 1 0 0 Q 26 [some (.ref a0), none, some (.ref a2), some (.int x3)] [.int v] h' 0 0)))) : Wm mX4_readNumberBehind 1 0 0 Q 17 [some (.ref a0), none, some (.ref a2), some (.int x3)] [] h 0 0 := by
  refine rl_iload_n dX4_readNumberBehind_17 rfl rfl ?_
  refine rl_iconst (v := nI 3) dX4_readNumberBehind_18 (by decide) ?_
  refine rl_icmp_ge (tgt := 51) dX4_readNumberBehind_19 (by decide) (fun c_1 => ?_) (fun c_1 => ?_)
  · have H := H.1 c_1
    refine rl_wk (L' := [none, none, none, some (.int x3)]) ⟨rfl, trivial⟩ ?_
    exact H
  · have H := H.2 c_1
    refine rl_aload_n dX4_readNumberBehind_22 rfl rfl ?_
    obtain ⟨o_2, H⟩ := H
    exact rl_callV (As := []) (rest := []) mfX4_isDigitNext dX4_readNumberBehind_23 lkX4_53 o_2 (by decide) (Nat.le_of_ble_eq_true rfl) (Nat.le_refl _) (Nat.le_refl _) rfl (Nat.le_of_ble_eq_true rfl) rfl rfl (fun Qc k => H Qc (fun v h' w => k (some (.int v)) h' w))
theorem bX4_readNumberBehind_26 {Q : Nat → Option Value → Hp → Prop} {h : Hp} {a0 a2 : Nat} {x3 xs0 : Int32} (H : ((xs0 = 0 → Wm mX4_readNumberBehind 1 0 0 Q 51 [none, none, none, some (.int x3)] [] h 0 0) ∧ (¬ xs0 = 0 → hpK h a2 = 10 ∧ hpK h a0 = 14 ∧ CKi mX4_readDigit 0 0 0 [some (.ref a0), none] h (fun v h' => Wm mX4_readNumberBehind 1 0 0 Q 41 [some (.ref a0), none, some (.ref a2), some (.int x3)] [.int v, .int ((hpI h a2 3) * (nI 10)), .ref a2] h' 0 0)))) : Wm mX4_readNumberBehind 1 0 0 Q 26 [some (.ref a0), none, some (.ref a2), some (.int x3)] [.int xs0] h 0 0 := by
  refine rl_if_eq (tgt := 51) dX4_readNumberBehind_26 (by decide) (fun c_1 => ?_) (fun c_1 => ?_)
  · have H := H.1 c_1
    refine rl_wk (L' := [none, none, none, some (.int x3)]) ⟨rfl, trivial⟩ ?_
    exact H
  · have H := H.2 c_1
    refine rl_aload_n dX4_readNumberBehind_29 rfl rfl ?_
    refine rl_aload_n dX4_readNumberBehind_30 rfl rfl ?_
    obtain ⟨o_2, H⟩ := H
    refine rl_getI (k := 3) cfX0 dX4_readNumberBehind_31 flX4_67 (by decide) rfl o_2 ?_
    refine rl_bipush (v := nI 10) dX4_readNumberBehind_34 (by decide) ?_
    refine rl_imul dX4_readNumberBehind_36 ?_
    refine rl_aload_n dX4_readNumberBehind_37 rfl rfl ?_
    obtain ⟨o_3, H⟩ := H
    exact rl_callV (As := []) (rest := [.int ((hpI h a2 3) * (nI 10)), .ref a2]) mfX4_readDigit dX4_readNumberBehind_38 lkX4_57 o_3 (by decide) (Nat.le_of_ble_eq_true rfl) (Nat.le_refl _) (Nat.le_refl _) rfl (Nat.le_of_ble_eq_true rfl) rfl rfl (fun Qc k => H Qc (fun v h' w => k (some (.int v)) h' w))
theorem bX4_readNumberBehind_41 {Q : Nat → Option Value → Hp → Prop} {h : Hp} {a0 a2 as0 : Nat} {x3 xs1 xs2 : Int32} (H : hpK h as0 = 10 ∧ Wm mX4_readNumberBehind 1 0 0 Q 17 [some (.ref a0), none, some (.ref a2), some (.int (x3 + nI 1))] [] (stI h as0 3 (xs1 + xs2)) 0 0) : Wm mX4_readNumberBehind 1 0 0 Q 41 [some (.ref a0), none, some (.ref a2), some (.int x3)] [.int xs2, .int xs1, .ref as0] h 0 0 := by
  refine rl_iadd dX4_readNumberBehind_41 ?_
  obtain ⟨o_1, H⟩ := H
  refine rl_putI (k := 3) cfX0 dX4_readNumberBehind_42 flX4_67 (by decide) rfl o_1 (Or.inl rfl) ?_
  refine rl_iinc (v := x3 + nI 1) (L' := [some (.ref a0), none, some (.ref a2), some (.int (x3 + nI 1))]) dX4_readNumberBehind_45 rfl (congrArg (fun z => x3 + z) (by decide)) (Nat.le_of_ble_eq_true rfl) rfl ?_
  refine rl_goto (tgt := 17) dX4_readNumberBehind_48 (by decide) ?_
  exact H
theorem bX4_readNumberBehind_51 {Q : Nat → Option Value → Hp → Prop} {h : Hp} {x3 : Int32} (H : ((x3 ≤ 0 → Q 0 (some (.int (nI 0))) h) ∧ (¬ x3 ≤ 0 → Q 0 (some (.int (nI 1))) h))) : Wm mX4_readNumberBehind 1 0 0 Q 51 [none, none, none, some (.int x3)] [] h 0 0 := by
  refine rl_iload_n dX4_readNumberBehind_51 rfl rfl ?_
  refine rl_if_le (tgt := 59) dX4_readNumberBehind_52 (by decide) (fun c_1 => ?_) (fun c_1 => ?_)
  · have H := H.1 c_1
    refine rl_iconst (v := nI 0) dX4_readNumberBehind_59 (by decide) ?_
    exact rl_zret dX4_readNumberBehind_60 rfl rfl (Nat.le_refl 0) (Nat.le_refl 0) H
  · have H := H.2 c_1
    refine rl_iconst (v := nI 1) dX4_readNumberBehind_55 (by decide) ?_
    refine rl_goto (tgt := 60) dX4_readNumberBehind_56 (by decide) ?_
    exact rl_zret dX4_readNumberBehind_60 rfl rfl (Nat.le_refl 0) (Nat.le_refl 0) H
theorem bX4_readSecondSite_0 {Q : Nat → Option Value → Hp → Prop} {h : Hp} {a0 a1 : Nat} (H : hpK h a0 = 14 ∧ CKi mX4_readSign 0 0 0 [some (.ref a0), some (.int (nI 62))] h (fun v h' => Wm mX4_readSecondSite 1 0 0 Q 6 [some (.ref a0), some (.ref a1)] [.int v] h' 0 0)) : Wm mX4_readSecondSite 1 0 0 Q 0 [some (.ref a0), some (.ref a1)] [] h 0 0 := by
  refine rl_aload_n dX4_readSecondSite_0 rfl rfl ?_
  refine rl_bipush (v := nI 62) dX4_readSecondSite_1 (by decide) ?_
  obtain ⟨o_1, H⟩ := H
  exact rl_callV (As := [.int (nI 62)]) (rest := []) mfX4_readSign dX4_readSecondSite_3 lkX4_36 o_1 (by decide) (Nat.le_of_ble_eq_true rfl) (Nat.le_refl _) (Nat.le_refl _) rfl (Nat.le_of_ble_eq_true rfl) rfl rfl (fun Qc k => H Qc (fun v h' w => k (some (.int v)) h' w))
theorem bX4_readSecondSite_6 {Q : Nat → Option Value → Hp → Prop} {h : Hp} {a0 a1 : Nat} {xs0 : Int32} (H : ((xs0 = 0 → Q 0 (some (.int (nI 0))) h) ∧ (¬ xs0 = 0 → hpK h a0 = 14 ∧ CKi mX4_isDigitNext 0 0 0 [some (.ref a0)] h (fun v h' => Wm mX4_readSecondSite 1 0 0 Q 13 [some (.ref a0), some (.ref a1)] [.int v] h' 0 0)))) : Wm mX4_readSecondSite 1 0 0 Q 6 [some (.ref a0), some (.ref a1)] [.int xs0] h 0 0 := by
  refine rl_if_eq (tgt := 16) dX4_readSecondSite_6 (by decide) (fun c_1 => ?_) (fun c_1 => ?_)
  · have H := H.1 c_1
    refine rl_iconst (v := nI 0) dX4_readSecondSite_16 (by decide) ?_
    exact rl_zret dX4_readSecondSite_17 rfl rfl (Nat.le_refl 0) (Nat.le_refl 0) H
  · have H := H.2 c_1
    refine rl_aload_n dX4_readSecondSite_9 rfl rfl ?_
    obtain ⟨o_2, H⟩ := H
    exact rl_callV (As := []) (rest := []) mfX4_isDigitNext dX4_readSecondSite_10 lkX4_53 o_2 (by decide) (Nat.le_of_ble_eq_true rfl) (Nat.le_refl _) (Nat.le_refl _) rfl (Nat.le_of_ble_eq_true rfl) rfl rfl (fun Qc k => H Qc (fun v h' w => k (some (.int v)) h' w))
theorem bX4_readSecondSite_13 {Q : Nat → Option Value → Hp → Prop} {h : Hp} {a0 a1 : Nat} {xs0 : Int32} (H : ((¬ xs0 = 0 → hpK h a0 = 14 ∧ CKi mX4_readDigit 0 0 0 [some (.ref a0), none] h (fun v h' => Wm mX4_readSecondSite 1 0 0 Q 23 [none, none] [.int v, .ref a1] h' 0 0)) ∧ (xs0 = 0 → Q 0 (some (.int (nI 0))) h))) : Wm mX4_readSecondSite 1 0 0 Q 13 [some (.ref a0), some (.ref a1)] [.int xs0] h 0 0 := by
  refine rl_if_ne (tgt := 18) dX4_readSecondSite_13 (by decide) (fun c_1 => ?_) (fun c_1 => ?_)
  · have H := H.1 c_1
    refine rl_aload_n dX4_readSecondSite_18 rfl rfl ?_
    refine rl_aload_n dX4_readSecondSite_19 rfl rfl ?_
    obtain ⟨o_2, H⟩ := H
    exact rl_callV (As := []) (rest := [.ref a1]) mfX4_readDigit dX4_readSecondSite_20 lkX4_57 o_2 (by decide) (Nat.le_of_ble_eq_true rfl) (Nat.le_refl _) (Nat.le_refl _) rfl (Nat.le_of_ble_eq_true rfl) rfl rfl (fun Qc k => H Qc (fun v h' w => k (some (.int v)) h' (rl_wk (L' := [none, none]) trivial w)))
  · have H := H.2 c_1
    refine rl_iconst (v := nI 0) dX4_readSecondSite_16 (by decide) ?_
    exact rl_zret dX4_readSecondSite_17 rfl rfl (Nat.le_refl 0) (Nat.le_refl 0) H
theorem bX4_readSecondSite_23 {Q : Nat → Option Value → Hp → Prop} {h : Hp} {as0 : Nat} {xs1 : Int32} (H : hpK h as0 = 10 ∧ Q 0 (some (.int (nI 1))) (stI h as0 2 xs1)) : Wm mX4_readSecondSite 1 0 0 Q 23 [none, none] [.int xs1, .ref as0] h 0 0 := by
  obtain ⟨o_1, H⟩ := H
  refine rl_putI (k := 2) cfX0 dX4_readSecondSite_23 flX4_64 (by decide) rfl o_1 (Or.inl rfl) ?_
  refine rl_iconst (v := nI 1) dX4_readSecondSite_26 (by decide) ?_
  exact rl_zret dX4_readSecondSite_27 rfl rfl (Nat.le_refl 0) (Nat.le_refl 0) H
theorem bX1_save_0 {Q : Nat → Option Value → Hp → Prop} {h : Hp} {a0 a1 : Nat} (H : hpK h a0 = 11 ∧ CKr mX1_place 0 0 0 [some (.ref a0), some (.int (hpI h a0 2))] h (fun v h' => Wm mX1_save 5 0 0 Q 8 [none, some (.ref a1)] [.ref v] h' 0 0)) : Wm mX1_save 5 0 0 Q 0 [some (.ref a0), some (.ref a1)] [] h 0 0 := by
  refine rl_aload_n dX1_save_0 rfl rfl ?_
  refine rl_aload_n dX1_save_1 rfl rfl ?_
  obtain ⟨o_1, H⟩ := H
  refine rl_getI (k := 2) cfX1 dX1_save_2 flX1_24 (by decide) rfl o_1 ?_
  exact rl_callV (As := [.int (hpI h a0 2)]) (rest := []) mfX1_place dX1_save_5 lkX1_27 o_1 (by decide) (Nat.le_of_ble_eq_true rfl) (Nat.le_refl _) (Nat.le_refl _) rfl (Nat.le_of_ble_eq_true rfl) rfl rfl (fun Qc k => H Qc (fun v h' w => k (some (.ref v)) h' (rl_wk (L' := [none, some (.ref a1)]) ⟨rfl, trivial⟩ w)))
theorem bX1_save_8 {Q : Nat → Option Value → Hp → Prop} {h : Hp} {a1 as0 : Nat} (H : hpK h as0 = 16 ∧ CKv mX6_copyFrom 4 0 0 [some (.ref as0), some (.ref a1), none] h (fun h' => Wm mX1_save 5 0 0 Q 12 [none, none] [] h' 0 0)) : Wm mX1_save 5 0 0 Q 8 [none, some (.ref a1)] [.ref as0] h 0 0 := by
  refine rl_aload_n dX1_save_8 rfl rfl ?_
  obtain ⟨o_1, H⟩ := H
  exact rl_callV (As := [.ref a1]) (rest := []) mfX6_copyFrom dX1_save_9 lkX1_31 o_1 (by decide) (Nat.le_of_ble_eq_true rfl) (Nat.le_refl _) (Nat.le_refl _) rfl (Nat.le_of_ble_eq_true rfl) rfl rfl (fun Qc k => H Qc (fun h' w => k none h' (rl_wk (L' := [none, none]) trivial w)))
theorem bX1_save_12 {Q : Nat → Option Value → Hp → Prop} {h : Hp}  (H : Q 0 none h) : Wm mX1_save 5 0 0 Q 12 [none, none] [] h 0 0 := by
  exact rl_vret dX1_save_12 rfl (Nat.le_refl 0) (Nat.le_refl 0) H
theorem bX1_place_0 {Q : Nat → Option Value → Hp → Prop} {h : Hp} {a0 : Nat} {x1 : Int32} (H : hpK h a0 = 11 ∧ ∃ p_2 : Nat, hpP h a0 0 = some p_2 ∧ (¬ (nI 6) = 0 ∧ hpK h p_2 = 36 ∧ vp_in (((hpI h a0 1) + x1) - ((hpI h a0 1) + x1) / (nI 6) * (nI 6)) (hpN h p_2) ∧ ∃ p_7 : Nat, hpP h p_2 (((hpI h a0 1) + x1) - ((hpI h a0 1) + x1) / (nI 6) * (nI 6)).toNatClampNeg = some p_7 ∧ (Q 0 (some (.ref p_7)) h))) : Wm mX1_place 0 0 0 Q 0 [some (.ref a0), some (.int x1)] [] h 0 0 := by
  refine rl_aload_n dX1_place_0 rfl rfl ?_
  obtain ⟨o_1, H⟩ := H
  obtain ⟨p_2, e_3, H⟩ := H
  refine rl_getP (k := 0) cfX1 dX1_place_1 flX1_11 (by decide) rfl o_1 e_3 ?_
  refine rl_aload_n dX1_place_4 rfl rfl ?_
  refine rl_getI (k := 1) cfX1 dX1_place_5 flX1_20 (by decide) rfl o_1 ?_
  refine rl_iload_n dX1_place_8 rfl rfl ?_
  refine rl_iadd dX1_place_9 ?_
  refine rl_bipush (v := nI 6) dX1_place_10 (by decide) ?_
  obtain ⟨o_4, H⟩ := H
  refine rl_irem dX1_place_12 o_4 ?_
  obtain ⟨o_5, H⟩ := H
  obtain ⟨o_6, H⟩ := H
  obtain ⟨p_7, e_8, H⟩ := H
  refine rl_aald (ci := 6) dX1_place_13 rfl o_5 o_6 e_8 ?_
  exact rl_aret dX1_place_14 rfl (Nat.le_refl 0) (Nat.le_refl 0) H
theorem bX7_copyFrom_0 {Q : Nat → Option Value → Hp → Prop} {h : Hp} {a0 a1 : Nat} (H : Wm mX7_copyFrom 2 0 0 Q 2 [some (.ref a0), some (.ref a1), some (.int (nI 0))] [] h 0 0) : Wm mX7_copyFrom 2 0 0 Q 0 [some (.ref a0), some (.ref a1), none] [] h 0 0 := by
  refine rl_iconst (v := nI 0) dX7_copyFrom_0 (by decide) ?_
  refine rl_istore_n (L' := [some (.ref a0), some (.ref a1), some (.int (nI 0))]) dX7_copyFrom_1 rfl (Nat.le_of_ble_eq_true rfl) rfl ?_
  exact H
theorem bX7_copyFrom_2 {Q : Nat → Option Value → Hp → Prop} {h : Hp} {a0 a1 : Nat} {x2 : Int32} (H : hpK h a0 = 17 ∧ ∃ p_2 : Nat, hpP h a0 0 = some p_2 ∧ (hpK h p_2 = 35 ∧ (((nI (hpN h p_2)) ≤ x2 → Q 0 none h) ∧ (¬ (nI (hpN h p_2)) ≤ x2 → vp_in x2 (hpN h p_2) ∧ ∃ p_7 : Nat, hpP h p_2 (x2).toNatClampNeg = some p_7 ∧ (hpK h a1 = 17 ∧ ∃ p_10 : Nat, hpP h a1 0 = some p_10 ∧ (hpK h p_10 = 35 ∧ vp_in x2 (hpN h p_10) ∧ ∃ p_14 : Nat, hpP h p_10 (x2).toNatClampNeg = some p_14 ∧ (hpK h p_7 = 15 ∧ CKv mX5_copyFrom 1 0 0 [some (.ref p_7), some (.ref p_14)] h (fun h' => Wm mX7_copyFrom 2 0 0 Q 26 [some (.ref a0), some (.ref a1), some (.int x2)] [] h' 0 0)))))))) : Wm mX7_copyFrom 2 0 0 Q 2 [some (.ref a0), some (.ref a1), some (.int x2)] [] h 0 0 := by
  refine rl_iload_n dX7_copyFrom_2 rfl rfl ?_
  refine rl_aload_n dX7_copyFrom_3 rfl rfl ?_
  obtain ⟨o_1, H⟩ := H
  obtain ⟨p_2, e_3, H⟩ := H
  refine rl_getP (k := 0) cfX7 dX7_copyFrom_4 flX7_9 (by decide) rfl o_1 e_3 ?_
  obtain ⟨o_4, H⟩ := H
  refine rl_alen (n := nI (hpN h p_2)) dX7_copyFrom_7 (Or.inr (Or.inr ⟨5, _, rfl, o_4⟩)) rfl ?_
  refine rl_icmp_ge (tgt := 32) dX7_copyFrom_8 (by decide) (fun c_5 => ?_) (fun c_5 => ?_)
  · have H := H.1 c_5
    exact rl_vret dX7_copyFrom_32 rfl (Nat.le_refl 0) (Nat.le_refl 0) H
  · have H := H.2 c_5
    refine rl_aload_n dX7_copyFrom_11 rfl rfl ?_
    refine rl_getP (k := 0) cfX7 dX7_copyFrom_12 flX7_9 (by decide) rfl o_1 e_3 ?_
    refine rl_iload_n dX7_copyFrom_15 rfl rfl ?_
    obtain ⟨o_6, H⟩ := H
    obtain ⟨p_7, e_8, H⟩ := H
    refine rl_aald (ci := 5) dX7_copyFrom_16 rfl o_4 o_6 e_8 ?_
    refine rl_aload_n dX7_copyFrom_17 rfl rfl ?_
    obtain ⟨o_9, H⟩ := H
    obtain ⟨p_10, e_11, H⟩ := H
    refine rl_getP (k := 0) cfX7 dX7_copyFrom_18 flX7_9 (by decide) rfl o_9 e_11 ?_
    refine rl_iload_n dX7_copyFrom_21 rfl rfl ?_
    obtain ⟨o_12, H⟩ := H
    obtain ⟨o_13, H⟩ := H
    obtain ⟨p_14, e_15, H⟩ := H
    refine rl_aald (ci := 5) dX7_copyFrom_22 rfl o_12 o_13 e_15 ?_
    obtain ⟨o_16, H⟩ := H
    exact rl_callV (As := [.ref p_14]) (rest := []) mfX5_copyFrom dX7_copyFrom_23 lkX7_19 o_16 (by decide) (Nat.le_of_ble_eq_true rfl) (Nat.le_refl _) (Nat.le_refl _) rfl (Nat.le_of_ble_eq_true rfl) rfl rfl (fun Qc k => H Qc (fun h' w => k none h' w))
theorem bX7_copyFrom_26 {Q : Nat → Option Value → Hp → Prop} {h : Hp} {a0 a1 : Nat} {x2 : Int32} (H : Wm mX7_copyFrom 2 0 0 Q 2 [some (.ref a0), some (.ref a1), some (.int (x2 + nI 1))] [] h 0 0) : Wm mX7_copyFrom 2 0 0 Q 26 [some (.ref a0), some (.ref a1), some (.int x2)] [] h 0 0 := by
  refine rl_iinc (v := x2 + nI 1) (L' := [some (.ref a0), some (.ref a1), some (.int (x2 + nI 1))]) dX7_copyFrom_26 rfl (congrArg (fun z => x2 + z) (by decide)) (Nat.le_of_ble_eq_true rfl) rfl ?_
  refine rl_goto (tgt := 2) dX7_copyFrom_29 (by decide) ?_
  exact H
theorem bX5_copyFrom_0 {Q : Nat → Option Value → Hp → Prop} {h : Hp} {a0 a1 : Nat} (H : hpK h a1 = 15 ∧ hpK h a0 = 15 ∧ ∃ p_3 : Nat, hpP h a1 2 = some p_3 ∧ (∃ p_5 : Nat, hpP h a0 2 = some p_5 ∧ (hpK h p_3 = 1 ∧ hpK h p_5 = 1 ∧ ¬ (nI 0) < 0 ∧ ¬ (nI 2) < 0 ∧ (nI 0).toNatClampNeg + (nI 2).toNatClampNeg ≤ hpN h p_3 ∧ (nI 0).toNatClampNeg + (nI 2).toNatClampNeg ≤ hpN h p_5 ∧ Wm mX5_copyFrom 1 0 0 Q 38 [some (.ref a0), some (.ref a1)] [] (stA (stI (stI (stI h a0 0 (hpI h a1 0)) a0 1 (hpI (stI h a0 0 (hpI h a1 0)) a1 1)) a0 5 (hpI (stI (stI h a0 0 (hpI h a1 0)) a0 1 (hpI (stI h a0 0 (hpI h a1 0)) a1 1)) a1 5)) p_5 (va_cpy (hpI (stI (stI (stI h a0 0 (hpI h a1 0)) a0 1 (hpI (stI h a0 0 (hpI h a1 0)) a1 1)) a0 5 (hpI (stI (stI h a0 0 (hpI h a1 0)) a0 1 (hpI (stI h a0 0 (hpI h a1 0)) a1 1)) a1 5)) p_3) (hpI (stI (stI (stI h a0 0 (hpI h a1 0)) a0 1 (hpI (stI h a0 0 (hpI h a1 0)) a1 1)) a0 5 (hpI (stI (stI h a0 0 (hpI h a1 0)) a0 1 (hpI (stI h a0 0 (hpI h a1 0)) a1 1)) a1 5)) p_5) (nI 0).toNatClampNeg (nI 0).toNatClampNeg (nI 2).toNatClampNeg)) 0 0))) : Wm mX5_copyFrom 1 0 0 Q 0 [some (.ref a0), some (.ref a1)] [] h 0 0 := by
  refine rl_aload_n dX5_copyFrom_0 rfl rfl ?_
  refine rl_aload_n dX5_copyFrom_1 rfl rfl ?_
  obtain ⟨o_1, H⟩ := H
  refine rl_getI (k := 0) cfX5 dX5_copyFrom_2 flX5_24 (by decide) rfl o_1 ?_
  obtain ⟨o_2, H⟩ := H
  refine rl_putI (k := 0) cfX5 dX5_copyFrom_5 flX5_24 (by decide) rfl o_2 (Or.inl rfl) ?_
  refine rl_aload_n dX5_copyFrom_8 rfl rfl ?_
  refine rl_aload_n dX5_copyFrom_9 rfl rfl ?_
  refine rl_getI (k := 1) cfX5 dX5_copyFrom_10 flX5_28 (by decide) rfl o_1 ?_
  refine rl_putI (k := 1) cfX5 dX5_copyFrom_13 flX5_28 (by decide) rfl o_2 (Or.inl rfl) ?_
  refine rl_aload_n dX5_copyFrom_16 rfl rfl ?_
  refine rl_aload_n dX5_copyFrom_17 rfl rfl ?_
  refine rl_getI (k := 5) cfX5 dX5_copyFrom_18 flX5_31 (by decide) rfl o_1 ?_
  refine rl_putI (k := 5) cfX5 dX5_copyFrom_21 flX5_31 (by decide) rfl o_2 (Or.inl rfl) ?_
  refine rl_aload_n dX5_copyFrom_24 rfl rfl ?_
  obtain ⟨p_3, e_4, H⟩ := H
  refine rl_getP (k := 2) cfX5 dX5_copyFrom_25 flX5_9 (by decide) rfl o_1 e_4 ?_
  refine rl_iconst (v := nI 0) dX5_copyFrom_28 (by decide) ?_
  refine rl_aload_n dX5_copyFrom_29 rfl rfl ?_
  obtain ⟨p_5, e_6, H⟩ := H
  refine rl_getP (k := 2) cfX5 dX5_copyFrom_30 flX5_9 (by decide) rfl o_2 e_6 ?_
  refine rl_iconst (v := nI 0) dX5_copyFrom_33 (by decide) ?_
  refine rl_iconst (v := nI 2) dX5_copyFrom_34 (by decide) ?_
  obtain ⟨o_7, H⟩ := H
  obtain ⟨o_8, H⟩ := H
  obtain ⟨o_9, H⟩ := H
  obtain ⟨o_10, H⟩ := H
  obtain ⟨o_11, H⟩ := H
  obtain ⟨o_12, H⟩ := H
  refine rl_copy dX5_copyFrom_35 lkX5_34 ac1 ac2 inSystem (by decide) (by decide) (Nat.le_of_ble_eq_true rfl) o_7 o_8 o_9 o_9 o_10 o_11 o_12 ?_
  exact H
theorem bX5_copyFrom_38 {Q : Nat → Option Value → Hp → Prop} {h : Hp} {a0 a1 : Nat} (H : hpK h a1 = 15 ∧ ∃ p_2 : Nat, hpP h a1 3 = some p_2 ∧ (hpK h a0 = 15 ∧ ∃ p_5 : Nat, hpP h a0 3 = some p_5 ∧ (hpK h p_2 = 1 ∧ hpK h p_5 = 1 ∧ ¬ (nI 0) < 0 ∧ ¬ (nI 2) < 0 ∧ (nI 0).toNatClampNeg + (nI 2).toNatClampNeg ≤ hpN h p_2 ∧ (nI 0).toNatClampNeg + (nI 2).toNatClampNeg ≤ hpN h p_5 ∧ Wm mX5_copyFrom 1 0 0 Q 52 [some (.ref a0), some (.ref a1)] [] (stA h p_5 (va_cpy (hpI h p_2) (hpI h p_5) (nI 0).toNatClampNeg (nI 0).toNatClampNeg (nI 2).toNatClampNeg)) 0 0))) : Wm mX5_copyFrom 1 0 0 Q 38 [some (.ref a0), some (.ref a1)] [] h 0 0 := by
  refine rl_aload_n dX5_copyFrom_38 rfl rfl ?_
  obtain ⟨o_1, H⟩ := H
  obtain ⟨p_2, e_3, H⟩ := H
  refine rl_getP (k := 3) cfX5 dX5_copyFrom_39 flX5_15 (by decide) rfl o_1 e_3 ?_
  refine rl_iconst (v := nI 0) dX5_copyFrom_42 (by decide) ?_
  refine rl_aload_n dX5_copyFrom_43 rfl rfl ?_
  obtain ⟨o_4, H⟩ := H
  obtain ⟨p_5, e_6, H⟩ := H
  refine rl_getP (k := 3) cfX5 dX5_copyFrom_44 flX5_15 (by decide) rfl o_4 e_6 ?_
  refine rl_iconst (v := nI 0) dX5_copyFrom_47 (by decide) ?_
  refine rl_iconst (v := nI 2) dX5_copyFrom_48 (by decide) ?_
  obtain ⟨o_7, H⟩ := H
  obtain ⟨o_8, H⟩ := H
  obtain ⟨o_9, H⟩ := H
  obtain ⟨o_10, H⟩ := H
  obtain ⟨o_11, H⟩ := H
  obtain ⟨o_12, H⟩ := H
  refine rl_copy dX5_copyFrom_49 lkX5_34 ac1 ac2 inSystem (by decide) (by decide) (Nat.le_of_ble_eq_true rfl) o_7 o_8 o_9 o_9 o_10 o_11 o_12 ?_
  exact H
theorem bX5_copyFrom_52 {Q : Nat → Option Value → Hp → Prop} {h : Hp} {a0 a1 : Nat} (H : hpK h a1 = 15 ∧ ∃ p_2 : Nat, hpP h a1 4 = some p_2 ∧ (hpK h a0 = 15 ∧ ∃ p_5 : Nat, hpP h a0 4 = some p_5 ∧ (hpK h p_2 = 1 ∧ hpK h p_5 = 1 ∧ ¬ (nI 0) < 0 ∧ ¬ (nI 10) < 0 ∧ (nI 0).toNatClampNeg + (nI 10).toNatClampNeg ≤ hpN h p_2 ∧ (nI 0).toNatClampNeg + (nI 10).toNatClampNeg ≤ hpN h p_5 ∧ Wm mX5_copyFrom 1 0 0 Q 67 [some (.ref a0), some (.ref a1)] [] (stA h p_5 (va_cpy (hpI h p_2) (hpI h p_5) (nI 0).toNatClampNeg (nI 0).toNatClampNeg (nI 10).toNatClampNeg)) 0 0))) : Wm mX5_copyFrom 1 0 0 Q 52 [some (.ref a0), some (.ref a1)] [] h 0 0 := by
  refine rl_aload_n dX5_copyFrom_52 rfl rfl ?_
  obtain ⟨o_1, H⟩ := H
  obtain ⟨p_2, e_3, H⟩ := H
  refine rl_getP (k := 4) cfX5 dX5_copyFrom_53 flX5_18 (by decide) rfl o_1 e_3 ?_
  refine rl_iconst (v := nI 0) dX5_copyFrom_56 (by decide) ?_
  refine rl_aload_n dX5_copyFrom_57 rfl rfl ?_
  obtain ⟨o_4, H⟩ := H
  obtain ⟨p_5, e_6, H⟩ := H
  refine rl_getP (k := 4) cfX5 dX5_copyFrom_58 flX5_18 (by decide) rfl o_4 e_6 ?_
  refine rl_iconst (v := nI 0) dX5_copyFrom_61 (by decide) ?_
  refine rl_bipush (v := nI 10) dX5_copyFrom_62 (by decide) ?_
  obtain ⟨o_7, H⟩ := H
  obtain ⟨o_8, H⟩ := H
  obtain ⟨o_9, H⟩ := H
  obtain ⟨o_10, H⟩ := H
  obtain ⟨o_11, H⟩ := H
  obtain ⟨o_12, H⟩ := H
  refine rl_copy dX5_copyFrom_64 lkX5_34 ac1 ac2 inSystem (by decide) (by decide) (Nat.le_of_ble_eq_true rfl) o_7 o_8 o_9 o_9 o_10 o_11 o_12 ?_
  exact H
theorem bX5_copyFrom_67 {Q : Nat → Option Value → Hp → Prop} {h : Hp} {a0 a1 : Nat} (H : hpK h a1 = 15 ∧ ∃ p_2 : Nat, hpP h a1 6 = some p_2 ∧ (hpK h a0 = 15 ∧ ∃ p_5 : Nat, hpP h a0 6 = some p_5 ∧ (hpK h p_2 = 1 ∧ hpK h p_5 = 1 ∧ ¬ (nI 0) < 0 ∧ ¬ (nI 10) < 0 ∧ (nI 0).toNatClampNeg + (nI 10).toNatClampNeg ≤ hpN h p_2 ∧ (nI 0).toNatClampNeg + (nI 10).toNatClampNeg ≤ hpN h p_5 ∧ Wm mX5_copyFrom 1 0 0 Q 82 [none, none] [] (stA h p_5 (va_cpy (hpI h p_2) (hpI h p_5) (nI 0).toNatClampNeg (nI 0).toNatClampNeg (nI 10).toNatClampNeg)) 0 0))) : Wm mX5_copyFrom 1 0 0 Q 67 [some (.ref a0), some (.ref a1)] [] h 0 0 := by
  refine rl_aload_n dX5_copyFrom_67 rfl rfl ?_
  obtain ⟨o_1, H⟩ := H
  obtain ⟨p_2, e_3, H⟩ := H
  refine rl_getP (k := 6) cfX5 dX5_copyFrom_68 flX5_21 (by decide) rfl o_1 e_3 ?_
  refine rl_iconst (v := nI 0) dX5_copyFrom_71 (by decide) ?_
  refine rl_aload_n dX5_copyFrom_72 rfl rfl ?_
  obtain ⟨o_4, H⟩ := H
  obtain ⟨p_5, e_6, H⟩ := H
  refine rl_getP (k := 6) cfX5 dX5_copyFrom_73 flX5_21 (by decide) rfl o_4 e_6 ?_
  refine rl_iconst (v := nI 0) dX5_copyFrom_76 (by decide) ?_
  refine rl_bipush (v := nI 10) dX5_copyFrom_77 (by decide) ?_
  obtain ⟨o_7, H⟩ := H
  obtain ⟨o_8, H⟩ := H
  obtain ⟨o_9, H⟩ := H
  obtain ⟨o_10, H⟩ := H
  obtain ⟨o_11, H⟩ := H
  obtain ⟨o_12, H⟩ := H
  refine rl_copy dX5_copyFrom_79 lkX5_34 ac1 ac2 inSystem (by decide) (by decide) (Nat.le_of_ble_eq_true rfl) o_7 o_8 o_9 o_9 o_10 o_11 o_12 ?_
  refine rl_wk (L' := [none, none]) trivial ?_
  exact H
theorem bX5_copyFrom_82 {Q : Nat → Option Value → Hp → Prop} {h : Hp}  (H : Q 0 none h) : Wm mX5_copyFrom 1 0 0 Q 82 [none, none] [] h 0 0 := by
  exact rl_vret dX5_copyFrom_82 rfl (Nat.le_refl 0) (Nat.le_refl 0) H
theorem bX2_copyFrom_0 {Q : Nat → Option Value → Hp → Prop} {h : Hp} {a0 a1 : Nat} (H : hpK h a1 = 12 ∧ hpK h a0 = 12 ∧ Q 0 none (stI (stI (stI (stI (stI h a0 0 (hpI h a1 0)) a0 1 (hpI (stI h a0 0 (hpI h a1 0)) a1 1)) a0 2 (hpI (stI (stI h a0 0 (hpI h a1 0)) a0 1 (hpI (stI h a0 0 (hpI h a1 0)) a1 1)) a1 2)) a0 3 (hpI (stI (stI (stI h a0 0 (hpI h a1 0)) a0 1 (hpI (stI h a0 0 (hpI h a1 0)) a1 1)) a0 2 (hpI (stI (stI h a0 0 (hpI h a1 0)) a0 1 (hpI (stI h a0 0 (hpI h a1 0)) a1 1)) a1 2)) a1 3)) a0 4 (hpI (stI (stI (stI (stI h a0 0 (hpI h a1 0)) a0 1 (hpI (stI h a0 0 (hpI h a1 0)) a1 1)) a0 2 (hpI (stI (stI h a0 0 (hpI h a1 0)) a0 1 (hpI (stI h a0 0 (hpI h a1 0)) a1 1)) a1 2)) a0 3 (hpI (stI (stI (stI h a0 0 (hpI h a1 0)) a0 1 (hpI (stI h a0 0 (hpI h a1 0)) a1 1)) a0 2 (hpI (stI (stI h a0 0 (hpI h a1 0)) a0 1 (hpI (stI h a0 0 (hpI h a1 0)) a1 1)) a1 2)) a1 3)) a1 4))) : Wm mX2_copyFrom 0 0 0 Q 0 [some (.ref a0), some (.ref a1)] [] h 0 0 := by
  refine rl_aload_n dX2_copyFrom_0 rfl rfl ?_
  refine rl_aload_n dX2_copyFrom_1 rfl rfl ?_
  obtain ⟨o_1, H⟩ := H
  refine rl_getI (k := 0) cfX2 dX2_copyFrom_2 flX2_7 (by decide) rfl o_1 ?_
  obtain ⟨o_2, H⟩ := H
  refine rl_putI (k := 0) cfX2 dX2_copyFrom_5 flX2_7 (by decide) rfl o_2 (Or.inl rfl) ?_
  refine rl_aload_n dX2_copyFrom_8 rfl rfl ?_
  refine rl_aload_n dX2_copyFrom_9 rfl rfl ?_
  refine rl_getI (k := 1) cfX2 dX2_copyFrom_10 flX2_13 (by decide) rfl o_1 ?_
  refine rl_putI (k := 1) cfX2 dX2_copyFrom_13 flX2_13 (by decide) rfl o_2 (Or.inl rfl) ?_
  refine rl_aload_n dX2_copyFrom_16 rfl rfl ?_
  refine rl_aload_n dX2_copyFrom_17 rfl rfl ?_
  refine rl_getI (k := 2) cfX2 dX2_copyFrom_18 flX2_16 (by decide) rfl o_1 ?_
  refine rl_putI (k := 2) cfX2 dX2_copyFrom_21 flX2_16 (by decide) rfl o_2 (Or.inl rfl) ?_
  refine rl_aload_n dX2_copyFrom_24 rfl rfl ?_
  refine rl_aload_n dX2_copyFrom_25 rfl rfl ?_
  refine rl_getI (k := 3) cfX2 dX2_copyFrom_26 flX2_19 (by decide) rfl o_1 ?_
  refine rl_putI (k := 3) cfX2 dX2_copyFrom_29 flX2_19 (by decide) rfl o_2 (Or.inl rfl) ?_
  refine rl_aload_n dX2_copyFrom_32 rfl rfl ?_
  refine rl_aload_n dX2_copyFrom_33 rfl rfl ?_
  refine rl_getI (k := 4) cfX2 dX2_copyFrom_34 flX2_22 (by decide) rfl o_1 ?_
  refine rl_putI (k := 4) cfX2 dX2_copyFrom_37 flX2_22 (by decide) rfl o_2 (Or.inl rfl) ?_
  exact rl_vret dX2_copyFrom_40 rfl (Nat.le_refl 0) (Nat.le_refl 0) H
theorem bX3_copyFrom_0 {Q : Nat → Option Value → Hp → Prop} {h : Hp} {a0 a1 : Nat} (H : hpK h a1 = 13 ∧ hpK h a0 = 13 ∧ ∃ p_3 : Nat, hpP h a0 3 = some p_3 ∧ (∃ p_5 : Nat, hpP h a1 3 = some p_5 ∧ (hpK h p_3 = 17 ∧ CKv mX7_copyFrom 2 0 0 [some (.ref p_3), some (.ref p_5), none] (stI (stI (stI h a0 0 (hpI h a1 0)) a0 1 (hpI (stI h a0 0 (hpI h a1 0)) a1 1)) a0 2 (hpI (stI (stI h a0 0 (hpI h a1 0)) a0 1 (hpI (stI h a0 0 (hpI h a1 0)) a1 1)) a1 2)) (fun h' => Wm mX3_copyFrom 3 0 0 Q 35 [none, none] [] h' 0 0)))) : Wm mX3_copyFrom 3 0 0 Q 0 [some (.ref a0), some (.ref a1)] [] h 0 0 := by
  refine rl_aload_n dX3_copyFrom_0 rfl rfl ?_
  refine rl_aload_n dX3_copyFrom_1 rfl rfl ?_
  obtain ⟨o_1, H⟩ := H
  refine rl_getI (k := 0) cfX3 dX3_copyFrom_2 flX3_18 (by decide) rfl o_1 ?_
  obtain ⟨o_2, H⟩ := H
  refine rl_putI (k := 0) cfX3 dX3_copyFrom_5 flX3_18 (by decide) rfl o_2 (Or.inl rfl) ?_
  refine rl_aload_n dX3_copyFrom_8 rfl rfl ?_
  refine rl_aload_n dX3_copyFrom_9 rfl rfl ?_
  refine rl_getI (k := 1) cfX3 dX3_copyFrom_10 flX3_22 (by decide) rfl o_1 ?_
  refine rl_putI (k := 1) cfX3 dX3_copyFrom_13 flX3_22 (by decide) rfl o_2 (Or.inl rfl) ?_
  refine rl_aload_n dX3_copyFrom_16 rfl rfl ?_
  refine rl_aload_n dX3_copyFrom_17 rfl rfl ?_
  refine rl_getI (k := 2) cfX3 dX3_copyFrom_18 flX3_25 (by decide) rfl o_1 ?_
  refine rl_putI (k := 2) cfX3 dX3_copyFrom_21 flX3_25 (by decide) rfl o_2 (Or.inl rfl) ?_
  refine rl_aload_n dX3_copyFrom_24 rfl rfl ?_
  obtain ⟨p_3, e_4, H⟩ := H
  refine rl_getP (k := 3) cfX3 dX3_copyFrom_25 flX3_12 (by decide) rfl o_2 e_4 ?_
  refine rl_aload_n dX3_copyFrom_28 rfl rfl ?_
  obtain ⟨p_5, e_6, H⟩ := H
  refine rl_getP (k := 3) cfX3 dX3_copyFrom_29 flX3_12 (by decide) rfl o_1 e_6 ?_
  obtain ⟨o_7, H⟩ := H
  exact rl_callV (As := [.ref p_5]) (rest := []) mfX7_copyFrom dX3_copyFrom_32 lkX3_28 o_7 (by decide) (Nat.le_of_ble_eq_true rfl) (Nat.le_refl _) (Nat.le_refl _) rfl (Nat.le_of_ble_eq_true rfl) rfl rfl (fun Qc k => H Qc (fun h' w => k none h' (rl_wk (L' := [none, none]) trivial w)))
theorem bX3_copyFrom_35 {Q : Nat → Option Value → Hp → Prop} {h : Hp}  (H : Q 0 none h) : Wm mX3_copyFrom 3 0 0 Q 35 [none, none] [] h 0 0 := by
  exact rl_vret dX3_copyFrom_35 rfl (Nat.le_refl 0) (Nat.le_refl 0) H
theorem bX5_givenTo_0 {Q : Nat → Option Value → Hp → Prop} {h : Hp} {a0 : Nat} {x1 x2 : Int32} (H : hpK h a0 = 15 ∧ ∃ p_2 : Nat, hpP h a0 4 = some p_2 ∧ (hpK h p_2 = 1 ∧ vp_in ((x2 * (nI 5)) + x1) (hpN h p_2) ∧ Q 0 (some (.int (hpI h p_2 ((x2 * (nI 5)) + x1).toNatClampNeg))) h)) : Wm mX5_givenTo 0 0 0 Q 0 [some (.ref a0), some (.int x1), some (.int x2)] [] h 0 0 := by
  refine rl_aload_n dX5_givenTo_0 rfl rfl ?_
  obtain ⟨o_1, H⟩ := H
  obtain ⟨p_2, e_3, H⟩ := H
  refine rl_getP (k := 4) cfX5 dX5_givenTo_1 flX5_18 (by decide) rfl o_1 e_3 ?_
  refine rl_iload_n dX5_givenTo_4 rfl rfl ?_
  refine rl_iconst (v := nI 5) dX5_givenTo_5 (by decide) ?_
  refine rl_imul dX5_givenTo_6 ?_
  refine rl_iload_n dX5_givenTo_7 rfl rfl ?_
  refine rl_iadd dX5_givenTo_8 ?_
  obtain ⟨o_4, H⟩ := H
  obtain ⟨o_5, H⟩ := H
  refine rl_iald dX5_givenTo_9 (Or.inl o_4) o_5 ?_
  exact rl_iret dX5_givenTo_10 rfl (Nat.le_refl 0) (Nat.le_refl 0) H
theorem bX5_hasLent_0 {Q : Nat → Option Value → Hp → Prop} {h : Hp} {a0 : Nat} {x1 : Int32} (H : hpK h a0 = 15 ∧ ((¬ (((hpI h a0 5) >>> (x1 &&& 31)) &&& (nI 1)) = (nI 1) → Q 0 (some (.int (nI 0))) h) ∧ ((((hpI h a0 5) >>> (x1 &&& 31)) &&& (nI 1)) = (nI 1) → Q 0 (some (.int (nI 1))) h))) : Wm mX5_hasLent 0 0 0 Q 0 [some (.ref a0), some (.int x1)] [] h 0 0 := by
  refine rl_aload_n dX5_hasLent_0 rfl rfl ?_
  obtain ⟨o_1, H⟩ := H
  refine rl_getI (k := 5) cfX5 dX5_hasLent_1 flX5_31 (by decide) rfl o_1 ?_
  refine rl_iload_n dX5_hasLent_4 rfl rfl ?_
  refine rl_ishr dX5_hasLent_5 ?_
  refine rl_iconst (v := nI 1) dX5_hasLent_6 (by decide) ?_
  refine rl_iand dX5_hasLent_7 ?_
  refine rl_iconst (v := nI 1) dX5_hasLent_8 (by decide) ?_
  refine rl_icmp_ne (tgt := 16) dX5_hasLent_9 (by decide) (fun c_2 => ?_) (fun c_2 => ?_)
  · have H := H.1 c_2
    refine rl_iconst (v := nI 0) dX5_hasLent_16 (by decide) ?_
    exact rl_zret dX5_hasLent_17 rfl rfl (Nat.le_refl 0) (Nat.le_refl 0) H
  · have H := H.2 c_2
    refine rl_iconst (v := nI 1) dX5_hasLent_12 (by decide) ?_
    refine rl_goto (tgt := 17) dX5_hasLent_13 (by decide) ?_
    exact rl_zret dX5_hasLent_17 rfl rfl (Nat.le_refl 0) (Nat.le_refl 0) H
theorem bX5_give_0 {Q : Nat → Option Value → Hp → Prop} {h : Hp} {a0 : Nat} {x1 x2 x3 : Int32} (H : hpK h a0 = 15 ∧ ∃ p_2 : Nat, hpP h a0 4 = some p_2 ∧ (hpK h p_2 = 1 ∧ vp_in ((x2 * (nI 5)) + x1) (hpN h p_2) ∧ Q 0 none (stI (stI h p_2 ((x2 * (nI 5)) + x1).toNatClampNeg ((hpI h p_2 ((x2 * (nI 5)) + x1).toNatClampNeg) + x3)) a0 0 ((hpI (stI h p_2 ((x2 * (nI 5)) + x1).toNatClampNeg ((hpI h p_2 ((x2 * (nI 5)) + x1).toNatClampNeg) + x3)) a0 0) + (nI 1))))) : Wm mX5_give 0 0 0 Q 0 [some (.ref a0), some (.int x1), some (.int x2), some (.int x3)] [] h 0 0 := by
  refine rl_aload_n dX5_give_0 rfl rfl ?_
  obtain ⟨o_1, H⟩ := H
  obtain ⟨p_2, e_3, H⟩ := H
  refine rl_getP (k := 4) cfX5 dX5_give_1 flX5_18 (by decide) rfl o_1 e_3 ?_
  refine rl_iload_n dX5_give_4 rfl rfl ?_
  refine rl_iconst (v := nI 5) dX5_give_5 (by decide) ?_
  refine rl_imul dX5_give_6 ?_
  refine rl_iload_n dX5_give_7 rfl rfl ?_
  refine rl_iadd dX5_give_8 ?_
  refine rl_dup2 dX5_give_9 rfl rfl ?_
  obtain ⟨o_4, H⟩ := H
  obtain ⟨o_5, H⟩ := H
  refine rl_iald dX5_give_10 (Or.inl o_4) o_5 ?_
  refine rl_iload_n dX5_give_11 rfl rfl ?_
  refine rl_iadd dX5_give_12 ?_
  refine rl_iast dX5_give_13 o_4 o_5 ?_
  refine rl_aload_n dX5_give_14 rfl rfl ?_
  refine rl_dup dX5_give_15 rfl ?_
  refine rl_getI (k := 0) cfX5 dX5_give_16 flX5_24 (by decide) rfl o_1 ?_
  refine rl_iconst (v := nI 1) dX5_give_19 (by decide) ?_
  refine rl_iadd dX5_give_20 ?_
  refine rl_putI (k := 0) cfX5 dX5_give_21 flX5_24 (by decide) rfl o_1 (Or.inl rfl) ?_
  exact rl_vret dX5_give_24 rfl (Nat.le_refl 0) (Nat.le_refl 0) H
theorem bX7_learn_0 {Q : Nat → Option Value → Hp → Prop} {h : Hp} {a0 a1 : Nat} {x2 : Int32} (H : Wm mX7_learn 2 0 0 Q 5 [some (.ref a0), some (.ref a1), some (.int x2), some (.int (nI 0)), some (.int (nI 0))] [] h 0 0) : Wm mX7_learn 2 0 0 Q 0 [some (.ref a0), some (.ref a1), some (.int x2), none, none] [] h 0 0 := by
  refine rl_iconst (v := nI 0) dX7_learn_0 (by decide) ?_
  refine rl_istore_n (L' := [some (.ref a0), some (.ref a1), some (.int x2), some (.int (nI 0)), none]) dX7_learn_1 rfl (Nat.le_of_ble_eq_true rfl) rfl ?_
  refine rl_iconst (v := nI 0) dX7_learn_2 (by decide) ?_
  refine rl_istore (L' := [some (.ref a0), some (.ref a1), some (.int x2), some (.int (nI 0)), some (.int (nI 0))]) dX7_learn_3 (Nat.le_of_ble_eq_true rfl) rfl ?_
  exact H
theorem bX7_learn_5 {Q : Nat → Option Value → Hp → Prop} {h : Hp} {a0 a1 : Nat} {x2 x3 x4 : Int32} (H : hpK h a0 = 17 ∧ ∃ p_2 : Nat, hpP h a0 0 = some p_2 ∧ (hpK h p_2 = 35 ∧ (((nI (hpN h p_2)) ≤ x4 → Q 0 (some (.int x3)) h) ∧ (¬ (nI (hpN h p_2)) ≤ x4 → ((x4 = x2 → Wm mX7_learn 2 0 0 Q 61 [some (.ref a0), some (.ref a1), some (.int x2), some (.int x3), some (.int x4)] [] h 0 0) ∧ (¬ x4 = x2 → vp_in x4 (hpN h p_2) ∧ ∃ p_8 : Nat, hpP h p_2 (x4).toNatClampNeg = some p_8 ∧ (hpK h a1 = 17 ∧ ∃ p_11 : Nat, hpP h a1 0 = some p_11 ∧ (hpK h p_11 = 35 ∧ vp_in x4 (hpN h p_11) ∧ ∃ p_15 : Nat, hpP h p_11 (x4).toNatClampNeg = some p_15 ∧ (hpK h p_8 = 15 ∧ CKi mX5_isOlderThan 0 0 0 [some (.ref p_8), some (.ref p_15)] h (fun v h' => Wm mX7_learn 2 0 0 Q 38 [some (.ref a0), some (.ref a1), some (.int x2), some (.int x3), some (.int x4)] [.int v] h' 0 0)))))))))) : Wm mX7_learn 2 0 0 Q 5 [some (.ref a0), some (.ref a1), some (.int x2), some (.int x3), some (.int x4)] [] h 0 0 := by
  refine rl_iload dX7_learn_5 rfl ?_
  refine rl_aload_n dX7_learn_7 rfl rfl ?_
  obtain ⟨o_1, H⟩ := H
  obtain ⟨p_2, e_3, H⟩ := H
  refine rl_getP (k := 0) cfX7 dX7_learn_8 flX7_9 (by decide) rfl o_1 e_3 ?_
  obtain ⟨o_4, H⟩ := H
  refine rl_alen (n := nI (hpN h p_2)) dX7_learn_11 (Or.inr (Or.inr ⟨5, _, rfl, o_4⟩)) rfl ?_
  refine rl_icmp_ge (tgt := 67) dX7_learn_12 (by decide) (fun c_5 => ?_) (fun c_5 => ?_)
  · have H := H.1 c_5
    refine rl_iload_n dX7_learn_67 rfl rfl ?_
    exact rl_iret dX7_learn_68 rfl (Nat.le_refl 0) (Nat.le_refl 0) H
  · have H := H.2 c_5
    refine rl_iload dX7_learn_15 rfl ?_
    refine rl_iload_n dX7_learn_17 rfl rfl ?_
    refine rl_icmp_eq (tgt := 61) dX7_learn_18 (by decide) (fun c_6 => ?_) (fun c_6 => ?_)
    · have H := H.1 c_6
      exact H
    · have H := H.2 c_6
      refine rl_aload_n dX7_learn_21 rfl rfl ?_
      refine rl_getP (k := 0) cfX7 dX7_learn_22 flX7_9 (by decide) rfl o_1 e_3 ?_
      refine rl_iload dX7_learn_25 rfl ?_
      obtain ⟨o_7, H⟩ := H
      obtain ⟨p_8, e_9, H⟩ := H
      refine rl_aald (ci := 5) dX7_learn_27 rfl o_4 o_7 e_9 ?_
      refine rl_aload_n dX7_learn_28 rfl rfl ?_
      obtain ⟨o_10, H⟩ := H
      obtain ⟨p_11, e_12, H⟩ := H
      refine rl_getP (k := 0) cfX7 dX7_learn_29 flX7_9 (by decide) rfl o_10 e_12 ?_
      refine rl_iload dX7_learn_32 rfl ?_
      obtain ⟨o_13, H⟩ := H
      obtain ⟨o_14, H⟩ := H
      obtain ⟨p_15, e_16, H⟩ := H
      refine rl_aald (ci := 5) dX7_learn_34 rfl o_13 o_14 e_16 ?_
      obtain ⟨o_17, H⟩ := H
      exact rl_callV (As := [.ref p_15]) (rest := []) mfX5_isOlderThan dX7_learn_35 lkX7_23 o_17 (by decide) (Nat.le_of_ble_eq_true rfl) (Nat.le_refl _) (Nat.le_refl _) rfl (Nat.le_of_ble_eq_true rfl) rfl rfl (fun Qc k => H Qc (fun v h' w => k (some (.int v)) h' w))
theorem bX7_learn_38 {Q : Nat → Option Value → Hp → Prop} {h : Hp} {a0 a1 : Nat} {x2 x3 x4 xs0 : Int32} (H : ((xs0 = 0 → Wm mX7_learn 2 0 0 Q 61 [some (.ref a0), some (.ref a1), some (.int x2), some (.int x3), some (.int x4)] [] h 0 0) ∧ (¬ xs0 = 0 → hpK h a0 = 17 ∧ ∃ p_3 : Nat, hpP h a0 0 = some p_3 ∧ (hpK h p_3 = 35 ∧ vp_in x4 (hpN h p_3) ∧ ∃ p_7 : Nat, hpP h p_3 (x4).toNatClampNeg = some p_7 ∧ (hpK h a1 = 17 ∧ ∃ p_10 : Nat, hpP h a1 0 = some p_10 ∧ (hpK h p_10 = 35 ∧ vp_in x4 (hpN h p_10) ∧ ∃ p_14 : Nat, hpP h p_10 (x4).toNatClampNeg = some p_14 ∧ (hpK h p_7 = 15 ∧ CKv mX5_copyFrom 1 0 0 [some (.ref p_7), some (.ref p_14)] h (fun h' => Wm mX7_learn 2 0 0 Q 58 [some (.ref a0), some (.ref a1), some (.int x2), some (.int x3), some (.int x4)] [] h' 0 0)))))))) : Wm mX7_learn 2 0 0 Q 38 [some (.ref a0), some (.ref a1), some (.int x2), some (.int x3), some (.int x4)] [.int xs0] h 0 0 := by
  refine rl_if_eq (tgt := 61) dX7_learn_38 (by decide) (fun c_1 => ?_) (fun c_1 => ?_)
  · have H := H.1 c_1
    exact H
  · have H := H.2 c_1
    refine rl_aload_n dX7_learn_41 rfl rfl ?_
    obtain ⟨o_2, H⟩ := H
    obtain ⟨p_3, e_4, H⟩ := H
    refine rl_getP (k := 0) cfX7 dX7_learn_42 flX7_9 (by decide) rfl o_2 e_4 ?_
    refine rl_iload dX7_learn_45 rfl ?_
    obtain ⟨o_5, H⟩ := H
    obtain ⟨o_6, H⟩ := H
    obtain ⟨p_7, e_8, H⟩ := H
    refine rl_aald (ci := 5) dX7_learn_47 rfl o_5 o_6 e_8 ?_
    refine rl_aload_n dX7_learn_48 rfl rfl ?_
    obtain ⟨o_9, H⟩ := H
    obtain ⟨p_10, e_11, H⟩ := H
    refine rl_getP (k := 0) cfX7 dX7_learn_49 flX7_9 (by decide) rfl o_9 e_11 ?_
    refine rl_iload dX7_learn_52 rfl ?_
    obtain ⟨o_12, H⟩ := H
    obtain ⟨o_13, H⟩ := H
    obtain ⟨p_14, e_15, H⟩ := H
    refine rl_aald (ci := 5) dX7_learn_54 rfl o_12 o_13 e_15 ?_
    obtain ⟨o_16, H⟩ := H
    exact rl_callV (As := [.ref p_14]) (rest := []) mfX5_copyFrom dX7_learn_55 lkX7_19 o_16 (by decide) (Nat.le_of_ble_eq_true rfl) (Nat.le_refl _) (Nat.le_refl _) rfl (Nat.le_of_ble_eq_true rfl) rfl rfl (fun Qc k => H Qc (fun h' w => k none h' w))
theorem bX7_learn_58 {Q : Nat → Option Value → Hp → Prop} {h : Hp} {a0 a1 : Nat} {x2 x3 x4 : Int32} (H : Wm mX7_learn 2 0 0 Q 61 [some (.ref a0), some (.ref a1), some (.int x2), some (.int (x3 + nI 1)), some (.int x4)] [] h 0 0) : Wm mX7_learn 2 0 0 Q 58 [some (.ref a0), some (.ref a1), some (.int x2), some (.int x3), some (.int x4)] [] h 0 0 := by
  refine rl_iinc (v := x3 + nI 1) (L' := [some (.ref a0), some (.ref a1), some (.int x2), some (.int (x3 + nI 1)), some (.int x4)]) dX7_learn_58 rfl (congrArg (fun z => x3 + z) (by decide)) (Nat.le_of_ble_eq_true rfl) rfl ?_
  exact H
theorem bX7_learn_61 {Q : Nat → Option Value → Hp → Prop} {h : Hp} {a0 a1 : Nat} {x2 x3 x4 : Int32} (H : Wm mX7_learn 2 0 0 Q 5 [some (.ref a0), some (.ref a1), some (.int x2), some (.int x3), some (.int (x4 + nI 1))] [] h 0 0) : Wm mX7_learn 2 0 0 Q 61 [some (.ref a0), some (.ref a1), some (.int x2), some (.int x3), some (.int x4)] [] h 0 0 := by
  refine rl_iinc (v := x4 + nI 1) (L' := [some (.ref a0), some (.ref a1), some (.int x2), some (.int x3), some (.int (x4 + nI 1))]) dX7_learn_61 rfl (congrArg (fun z => x4 + z) (by decide)) (Nat.le_of_ble_eq_true rfl) rfl ?_
  refine rl_goto (tgt := 5) dX7_learn_64 (by decide) ?_
  exact H
theorem bX5_isOlderThan_0 {Q : Nat → Option Value → Hp → Prop} {h : Hp} {a0 a1 : Nat} (H : hpK h a0 = 15 ∧ hpK h a1 = 15 ∧ (((hpI h a0 0) < (hpI h a1 0) → Q 0 (some (.int (nI 1))) h) ∧ (¬ (hpI h a0 0) < (hpI h a1 0) → ((¬ (hpI h a0 0) = (hpI h a1 0) → Q 0 (some (.int (nI 0))) h) ∧ ((hpI h a0 0) = (hpI h a1 0) → (((hpI h a1 1) ≤ (hpI h a0 1) → Q 0 (some (.int (nI 0))) h) ∧ (¬ (hpI h a1 1) ≤ (hpI h a0 1) → Q 0 (some (.int (nI 1))) h))))))) : Wm mX5_isOlderThan 0 0 0 Q 0 [some (.ref a0), some (.ref a1)] [] h 0 0 := by
  refine rl_aload_n dX5_isOlderThan_0 rfl rfl ?_
  obtain ⟨o_1, H⟩ := H
  refine rl_getI (k := 0) cfX5 dX5_isOlderThan_1 flX5_24 (by decide) rfl o_1 ?_
  refine rl_aload_n dX5_isOlderThan_4 rfl rfl ?_
  obtain ⟨o_2, H⟩ := H
  refine rl_getI (k := 0) cfX5 dX5_isOlderThan_5 flX5_24 (by decide) rfl o_2 ?_
  refine rl_icmp_lt (tgt := 33) dX5_isOlderThan_8 (by decide) (fun c_3 => ?_) (fun c_3 => ?_)
  · have H := H.1 c_3
    refine rl_iconst (v := nI 1) dX5_isOlderThan_33 (by decide) ?_
    refine rl_goto (tgt := 38) dX5_isOlderThan_34 (by decide) ?_
    exact rl_zret dX5_isOlderThan_38 rfl rfl (Nat.le_refl 0) (Nat.le_refl 0) H
  · have H := H.2 c_3
    refine rl_aload_n dX5_isOlderThan_11 rfl rfl ?_
    refine rl_getI (k := 0) cfX5 dX5_isOlderThan_12 flX5_24 (by decide) rfl o_1 ?_
    refine rl_aload_n dX5_isOlderThan_15 rfl rfl ?_
    refine rl_getI (k := 0) cfX5 dX5_isOlderThan_16 flX5_24 (by decide) rfl o_2 ?_
    refine rl_icmp_ne (tgt := 37) dX5_isOlderThan_19 (by decide) (fun c_4 => ?_) (fun c_4 => ?_)
    · have H := H.1 c_4
      refine rl_iconst (v := nI 0) dX5_isOlderThan_37 (by decide) ?_
      exact rl_zret dX5_isOlderThan_38 rfl rfl (Nat.le_refl 0) (Nat.le_refl 0) H
    · have H := H.2 c_4
      refine rl_aload_n dX5_isOlderThan_22 rfl rfl ?_
      refine rl_getI (k := 1) cfX5 dX5_isOlderThan_23 flX5_28 (by decide) rfl o_1 ?_
      refine rl_aload_n dX5_isOlderThan_26 rfl rfl ?_
      refine rl_getI (k := 1) cfX5 dX5_isOlderThan_27 flX5_28 (by decide) rfl o_2 ?_
      refine rl_icmp_ge (tgt := 37) dX5_isOlderThan_30 (by decide) (fun c_5 => ?_) (fun c_5 => ?_)
      · have H := H.1 c_5
        refine rl_iconst (v := nI 0) dX5_isOlderThan_37 (by decide) ?_
        exact rl_zret dX5_isOlderThan_38 rfl rfl (Nat.le_refl 0) (Nat.le_refl 0) H
      · have H := H.2 c_5
        refine rl_iconst (v := nI 1) dX5_isOlderThan_33 (by decide) ?_
        refine rl_goto (tgt := 38) dX5_isOlderThan_34 (by decide) ?_
        exact rl_zret dX5_isOlderThan_38 rfl rfl (Nat.le_refl 0) (Nat.le_refl 0) H
theorem bX1_bringBackSaved_0 {Q : Nat → Option Value → Hp → Prop} {h : Hp} {a0 a1 : Nat} (H : hpK h a0 = 11 ∧ CKr mX1_place 0 0 0 [some (.ref a0), some (.int (hpI h a0 2))] h (fun v h' => Wm mX1_bringBackSaved 5 0 0 Q 9 [none, none] [.ref v, .ref a1] h' 0 0)) : Wm mX1_bringBackSaved 5 0 0 Q 0 [some (.ref a0), some (.ref a1)] [] h 0 0 := by
  refine rl_aload_n dX1_bringBackSaved_0 rfl rfl ?_
  refine rl_aload_n dX1_bringBackSaved_1 rfl rfl ?_
  refine rl_aload_n dX1_bringBackSaved_2 rfl rfl ?_
  obtain ⟨o_1, H⟩ := H
  refine rl_getI (k := 2) cfX1 dX1_bringBackSaved_3 flX1_24 (by decide) rfl o_1 ?_
  exact rl_callV (As := [.int (hpI h a0 2)]) (rest := [.ref a1]) mfX1_place dX1_bringBackSaved_6 lkX1_27 o_1 (by decide) (Nat.le_of_ble_eq_true rfl) (Nat.le_refl _) (Nat.le_refl _) rfl (Nat.le_of_ble_eq_true rfl) rfl rfl (fun Qc k => H Qc (fun v h' w => k (some (.ref v)) h' (rl_wk (L' := [none, none]) trivial w)))
theorem bX1_bringBackSaved_9 {Q : Nat → Option Value → Hp → Prop} {h : Hp} {as0 as1 : Nat} (H : hpK h as0 = 16 ∧ CKv mX6_copyFrom 4 0 0 [some (.ref as0), some (.ref as1), none] h (fun h' => Wm mX1_bringBackSaved 5 0 0 Q 12 [none, none] [] h' 0 0)) : Wm mX1_bringBackSaved 5 0 0 Q 9 [none, none] [.ref as1, .ref as0] h 0 0 := by
  obtain ⟨o_1, H⟩ := H
  exact rl_callV (As := [.ref as1]) (rest := []) mfX6_copyFrom dX1_bringBackSaved_9 lkX1_31 o_1 (by decide) (Nat.le_of_ble_eq_true rfl) (Nat.le_refl _) (Nat.le_refl _) rfl (Nat.le_of_ble_eq_true rfl) rfl rfl (fun Qc k => H Qc (fun h' w => k none h' w))
theorem bX1_bringBackSaved_12 {Q : Nat → Option Value → Hp → Prop} {h : Hp}  (H : Q 0 none h) : Wm mX1_bringBackSaved 5 0 0 Q 12 [none, none] [] h 0 0 := by
  exact rl_vret dX1_bringBackSaved_12 rfl (Nat.le_refl 0) (Nat.le_refl 0) H
theorem bX1_keep_0 {Q : Nat → Option Value → Hp → Prop} {h : Hp} {a0 : Nat} (H : hpK h a0 = 11 ∧ (((nI 5) ≤ (hpI h a0 2) → ¬ (nI 6) = 0 ∧ Q 0 none (stI h a0 1 (((hpI h a0 1) + (nI 1)) - ((hpI h a0 1) + (nI 1)) / (nI 6) * (nI 6)))) ∧ (¬ (nI 5) ≤ (hpI h a0 2) → Q 0 none (stI h a0 2 ((hpI h a0 2) + (nI 1)))))) : Wm mX1_keep 0 0 0 Q 0 [some (.ref a0)] [] h 0 0 := by
  refine rl_aload_n dX1_keep_0 rfl rfl ?_
  obtain ⟨o_1, H⟩ := H
  refine rl_getI (k := 2) cfX1 dX1_keep_1 flX1_24 (by decide) rfl o_1 ?_
  refine rl_iconst (v := nI 5) dX1_keep_4 (by decide) ?_
  refine rl_icmp_ge (tgt := 21) dX1_keep_5 (by decide) (fun c_2 => ?_) (fun c_2 => ?_)
  · have H := H.1 c_2
    refine rl_aload_n dX1_keep_21 rfl rfl ?_
    refine rl_aload_n dX1_keep_22 rfl rfl ?_
    refine rl_getI (k := 1) cfX1 dX1_keep_23 flX1_20 (by decide) rfl o_1 ?_
    refine rl_iconst (v := nI 1) dX1_keep_26 (by decide) ?_
    refine rl_iadd dX1_keep_27 ?_
    refine rl_bipush (v := nI 6) dX1_keep_28 (by decide) ?_
    obtain ⟨o_3, H⟩ := H
    refine rl_irem dX1_keep_30 o_3 ?_
    refine rl_putI (k := 1) cfX1 dX1_keep_31 flX1_20 (by decide) rfl o_1 (Or.inl rfl) ?_
    exact rl_vret dX1_keep_34 rfl (Nat.le_refl 0) (Nat.le_refl 0) H
  · have H := H.2 c_2
    refine rl_aload_n dX1_keep_8 rfl rfl ?_
    refine rl_dup dX1_keep_9 rfl ?_
    refine rl_getI (k := 2) cfX1 dX1_keep_10 flX1_24 (by decide) rfl o_1 ?_
    refine rl_iconst (v := nI 1) dX1_keep_13 (by decide) ?_
    refine rl_iadd dX1_keep_14 ?_
    refine rl_putI (k := 2) cfX1 dX1_keep_15 flX1_24 (by decide) rfl o_1 (Or.inl rfl) ?_
    refine rl_goto (tgt := 34) dX1_keep_18 (by decide) ?_
    exact rl_vret dX1_keep_34 rfl (Nat.le_refl 0) (Nat.le_refl 0) H
theorem bX1_forget_0 {Q : Nat → Option Value → Hp → Prop} {h : Hp} {a0 : Nat} (H : hpK h a0 = 11 ∧ Q 0 none (stI (stI h a0 1 (nI 0)) a0 2 (nI 0))) : Wm mX1_forget 0 0 0 Q 0 [some (.ref a0)] [] h 0 0 := by
  refine rl_aload_n dX1_forget_0 rfl rfl ?_
  refine rl_iconst (v := nI 0) dX1_forget_1 (by decide) ?_
  obtain ⟨o_1, H⟩ := H
  refine rl_putI (k := 1) cfX1 dX1_forget_2 flX1_20 (by decide) rfl o_1 (Or.inl rfl) ?_
  refine rl_aload_n dX1_forget_5 rfl rfl ?_
  refine rl_iconst (v := nI 0) dX1_forget_6 (by decide) ?_
  refine rl_putI (k := 2) cfX1 dX1_forget_7 flX1_24 (by decide) rfl o_1 (Or.inl rfl) ?_
  exact rl_vret dX1_forget_10 rfl (Nat.le_refl 0) (Nat.le_refl 0) H
theorem bX1_add_0 {Q : Nat → Option Value → Hp → Prop} {h : Hp} {a0 a1 : Nat} (H : hpK h a0 = 11 ∧ CKr mX1_place 0 0 0 [some (.ref a0), some (.int (hpI h a0 2))] h (fun v h' => Wm mX1_add 5 0 0 Q 8 [some (.ref a0), some (.ref a1)] [.ref v] h' 0 0)) : Wm mX1_add 5 0 0 Q 0 [some (.ref a0), some (.ref a1)] [] h 0 0 := by
  refine rl_aload_n dX1_add_0 rfl rfl ?_
  refine rl_aload_n dX1_add_1 rfl rfl ?_
  obtain ⟨o_1, H⟩ := H
  refine rl_getI (k := 2) cfX1 dX1_add_2 flX1_24 (by decide) rfl o_1 ?_
  exact rl_callV (As := [.int (hpI h a0 2)]) (rest := []) mfX1_place dX1_add_5 lkX1_27 o_1 (by decide) (Nat.le_of_ble_eq_true rfl) (Nat.le_refl _) (Nat.le_refl _) rfl (Nat.le_of_ble_eq_true rfl) rfl rfl (fun Qc k => H Qc (fun v h' w => k (some (.ref v)) h' w))
theorem bX1_add_8 {Q : Nat → Option Value → Hp → Prop} {h : Hp} {a0 a1 as0 : Nat} (H : hpK h as0 = 16 ∧ CKv mX6_copyFrom 4 0 0 [some (.ref as0), some (.ref a1), none] h (fun h' => Wm mX1_add 5 0 0 Q 12 [some (.ref a0), none] [] h' 0 0)) : Wm mX1_add 5 0 0 Q 8 [some (.ref a0), some (.ref a1)] [.ref as0] h 0 0 := by
  refine rl_aload_n dX1_add_8 rfl rfl ?_
  obtain ⟨o_1, H⟩ := H
  exact rl_callV (As := [.ref a1]) (rest := []) mfX6_copyFrom dX1_add_9 lkX1_31 o_1 (by decide) (Nat.le_of_ble_eq_true rfl) (Nat.le_refl _) (Nat.le_refl _) rfl (Nat.le_of_ble_eq_true rfl) rfl rfl (fun Qc k => H Qc (fun h' w => k none h' (rl_wk (L' := [some (.ref a0), none]) ⟨rfl, trivial⟩ w)))
theorem bX1_add_12 {Q : Nat → Option Value → Hp → Prop} {h : Hp} {a0 : Nat} (H : hpK h a0 = 11 ∧ CKv mX1_keep 0 0 0 [some (.ref a0)] h (fun h' => Wm mX1_add 5 0 0 Q 16 [none, none] [] h' 0 0)) : Wm mX1_add 5 0 0 Q 12 [some (.ref a0), none] [] h 0 0 := by
  refine rl_aload_n dX1_add_12 rfl rfl ?_
  obtain ⟨o_1, H⟩ := H
  exact rl_callV (As := []) (rest := []) mfX1_keep dX1_add_13 lkX1_35 o_1 (by decide) (Nat.le_of_ble_eq_true rfl) (Nat.le_refl _) (Nat.le_refl _) rfl (Nat.le_of_ble_eq_true rfl) rfl rfl (fun Qc k => H Qc (fun h' w => k none h' (rl_wk (L' := [none, none]) trivial w)))
theorem bX1_add_16 {Q : Nat → Option Value → Hp → Prop} {h : Hp}  (H : Q 0 none h) : Wm mX1_add 5 0 0 Q 16 [none, none] [] h 0 0 := by
  exact rl_vret dX1_add_16 rfl (Nat.le_refl 0) (Nat.le_refl 0) H
theorem bX3_fact_0 {Q : Nat → Option Value → Hp → Prop} {h : Hp} {a0 : Nat} {x1 : Int32} (H : ((x1 = nI 0 → hpK h a0 = 13 ∧ Q 0 (some (.int (hpI h a0 0))) h) ∧ (x1 = nI 1 → hpK h a0 = 13 ∧ Q 0 (some (.int (hpI h a0 1))) h) ∧ (¬ x1 = nI 0 → ¬ x1 = nI 1 → hpK h a0 = 13 ∧ Q 0 (some (.int (hpI h a0 2))) h))) : Wm mX3_fact 0 0 0 Q 0 [some (.ref a0), some (.int x1)] [] h 0 0 := by
  refine rl_iload_n dX3_fact_0 rfl rfl ?_
  by_cases c_1 : x1 = nI 0
  · have H := (H.1) c_1
    refine rl_lookup (tgt := 28) dX3_fact_1 (by decide) (by rw [c_1]; decide) ?_
    refine rl_aload_n dX3_fact_28 rfl rfl ?_
    obtain ⟨o_2, H⟩ := H
    refine rl_getI (k := 0) cfX3 dX3_fact_29 flX3_18 (by decide) rfl o_2 ?_
    exact rl_iret dX3_fact_32 rfl (Nat.le_refl 0) (Nat.le_refl 0) H
  by_cases c_3 : x1 = nI 1
  · have H := (H.2.1) c_3
    refine rl_lookup (tgt := 33) dX3_fact_1 (by decide) (by rw [c_3]; decide) ?_
    refine rl_aload_n dX3_fact_33 rfl rfl ?_
    obtain ⟨o_4, H⟩ := H
    refine rl_getI (k := 1) cfX3 dX3_fact_34 flX3_22 (by decide) rfl o_4 ?_
    exact rl_iret dX3_fact_37 rfl (Nat.le_refl 0) (Nat.le_refl 0) H
  have H := (H.2.2) c_1 c_3
  refine rl_lookup (tgt := 38) dX3_fact_1 (by decide) (by show _ + Op.lookupswitch.offset [(0, 27), (1, 32)] _ _ = _; rw [lv_osw c_1 (by decide), lv_osw c_3 (by decide)]; rfl) ?_
  refine rl_aload_n dX3_fact_38 rfl rfl ?_
  obtain ⟨o_5, H⟩ := H
  refine rl_getI (k := 2) cfX3 dX3_fact_39 flX3_25 (by decide) rfl o_5 ?_
  exact rl_iret dX3_fact_42 rfl (Nat.le_refl 0) (Nat.le_refl 0) H
theorem bX4_append_0 {Q : Nat → Option Value → Hp → Prop} {h : Hp} {a0 : Nat} {x1 : Int32} (H : hpK h a0 = 14 ∧ ∃ p_2 : Nat, hpP h a0 0 = some p_2 ∧ (hpK h p_2 = 1 ∧ vp_in (hpI h a0 2) (hpN h p_2) ∧ Q 0 none (stI (stI h p_2 (hpI h a0 2).toNatClampNeg x1) a0 2 ((hpI (stI h p_2 (hpI h a0 2).toNatClampNeg x1) a0 2) + (nI 1))))) : Wm mX4_append 0 0 0 Q 0 [some (.ref a0), some (.int x1)] [] h 0 0 := by
  refine rl_aload_n dX4_append_0 rfl rfl ?_
  obtain ⟨o_1, H⟩ := H
  obtain ⟨p_2, e_3, H⟩ := H
  refine rl_getP (k := 0) cfX4 dX4_append_1 flX4_9 (by decide) rfl o_1 e_3 ?_
  refine rl_aload_n dX4_append_4 rfl rfl ?_
  refine rl_getI (k := 2) cfX4 dX4_append_5 flX4_22 (by decide) rfl o_1 ?_
  refine rl_iload_n dX4_append_8 rfl rfl ?_
  obtain ⟨o_4, H⟩ := H
  obtain ⟨o_5, H⟩ := H
  refine rl_iast dX4_append_9 o_4 o_5 ?_
  refine rl_aload_n dX4_append_10 rfl rfl ?_
  refine rl_dup dX4_append_11 rfl ?_
  refine rl_getI (k := 2) cfX4 dX4_append_12 flX4_22 (by decide) rfl o_1 ?_
  refine rl_iconst (v := nI 1) dX4_append_15 (by decide) ?_
  refine rl_iadd dX4_append_16 ?_
  refine rl_putI (k := 2) cfX4 dX4_append_17 flX4_22 (by decide) rfl o_1 (Or.inl rfl) ?_
  exact rl_vret dX4_append_20 rfl (Nat.le_refl 0) (Nat.le_refl 0) H
theorem bX1_bringBackLatest_0 {Q : Nat → Option Value → Hp → Prop} {h : Hp} {a0 a1 : Nat} (H : hpK h a0 = 11 ∧ CKr mX1_place 0 0 0 [some (.ref a0), some (.int (hpI (stI h a0 2 ((hpI h a0 2) - (nI 1))) a0 2))] (stI h a0 2 ((hpI h a0 2) - (nI 1))) (fun v h' => Wm mX1_bringBackLatest 5 0 0 Q 19 [none, none] [.ref v, .ref a1] h' 0 0)) : Wm mX1_bringBackLatest 5 0 0 Q 0 [some (.ref a0), some (.ref a1)] [] h 0 0 := by
  refine rl_aload_n dX1_bringBackLatest_0 rfl rfl ?_
  refine rl_dup dX1_bringBackLatest_1 rfl ?_
  obtain ⟨o_1, H⟩ := H
  refine rl_getI (k := 2) cfX1 dX1_bringBackLatest_2 flX1_24 (by decide) rfl o_1 ?_
  refine rl_iconst (v := nI 1) dX1_bringBackLatest_5 (by decide) ?_
  refine rl_isub dX1_bringBackLatest_6 ?_
  refine rl_putI (k := 2) cfX1 dX1_bringBackLatest_7 flX1_24 (by decide) rfl o_1 (Or.inl rfl) ?_
  refine rl_aload_n dX1_bringBackLatest_10 rfl rfl ?_
  refine rl_aload_n dX1_bringBackLatest_11 rfl rfl ?_
  refine rl_aload_n dX1_bringBackLatest_12 rfl rfl ?_
  refine rl_getI (k := 2) cfX1 dX1_bringBackLatest_13 flX1_24 (by decide) rfl o_1 ?_
  exact rl_callV (As := [.int (hpI (stI h a0 2 ((hpI h a0 2) - (nI 1))) a0 2)]) (rest := [.ref a1]) mfX1_place dX1_bringBackLatest_16 lkX1_27 o_1 (by decide) (Nat.le_of_ble_eq_true rfl) (Nat.le_refl _) (Nat.le_refl _) rfl (Nat.le_of_ble_eq_true rfl) rfl rfl (fun Qc k => H Qc (fun v h' w => k (some (.ref v)) h' (rl_wk (L' := [none, none]) trivial w)))
theorem bX1_bringBackLatest_19 {Q : Nat → Option Value → Hp → Prop} {h : Hp} {as0 as1 : Nat} (H : hpK h as0 = 16 ∧ CKv mX6_copyFrom 4 0 0 [some (.ref as0), some (.ref as1), none] h (fun h' => Wm mX1_bringBackLatest 5 0 0 Q 22 [none, none] [] h' 0 0)) : Wm mX1_bringBackLatest 5 0 0 Q 19 [none, none] [.ref as1, .ref as0] h 0 0 := by
  obtain ⟨o_1, H⟩ := H
  exact rl_callV (As := [.ref as1]) (rest := []) mfX6_copyFrom dX1_bringBackLatest_19 lkX1_31 o_1 (by decide) (Nat.le_of_ble_eq_true rfl) (Nat.le_refl _) (Nat.le_refl _) rfl (Nat.le_of_ble_eq_true rfl) rfl rfl (fun Qc k => H Qc (fun h' w => k none h' w))
theorem bX1_bringBackLatest_22 {Q : Nat → Option Value → Hp → Prop} {h : Hp}  (H : Q 0 none h) : Wm mX1_bringBackLatest 5 0 0 Q 22 [none, none] [] h 0 0 := by
  exact rl_vret dX1_bringBackLatest_22 rfl (Nat.le_refl 0) (Nat.le_refl 0) H
