theorem bX9_starts_0 {Q : Nat → Option Value → Hp → Prop} {h : Hp} {a0 : Nat} {x1 x2 x3 : Int32} (H : Wm mX9_starts 0 0 0 Q 3 [some (.ref a0), some (.int x1), some (.int x2), some (.int x3), some (.int (nI 0))] [] h 0 0) : Wm mX9_starts 0 0 0 Q 0 [some (.ref a0), some (.int x1), some (.int x2), some (.int x3), none] [] h 0 0 := by
  refine rl_iconst (v := nI 0) dX9_starts_0 (by decide) ?_
  refine rl_istore (L' := [some (.ref a0), some (.int x1), some (.int x2), some (.int x3), some (.int (nI 0))]) dX9_starts_1 (Nat.le_of_ble_eq_true rfl) rfl ?_
  exact H

theorem bX9_starts_3 {Q : Nat → Option Value → Hp → Prop} {h : Hp} {a0 : Nat} {x1 x2 x3 x4 : Int32} (H : (((nI 2400) ≤ x4 → hpK h a0 = 19 ∧ ∃ p_3 : Nat, hpP h a0 1 = some p_3 ∧ (hpK h p_3 = 1 ∧ vp_in (nI 1) (hpN h p_3) ∧ vp_in (nI 2) (hpN h p_3) ∧ vp_in (nI 3) (hpN h p_3) ∧ Q 0 none (stI (stI (stI (stI h p_3 (nI 1).toNatClampNeg x1) p_3 (nI 2).toNatClampNeg x2) p_3 (nI 3).toNatClampNeg x3) a0 4 (nI 0)))) ∧ (¬ (nI 2400) ≤ x4 → hpK h a0 = 19 ∧ ∃ p_10 : Nat, hpP h a0 1 = some p_10 ∧ (hpK h p_10 = 1 ∧ vp_in x4 (hpN h p_10) ∧ Wm mX9_starts 0 0 0 Q 3 [some (.ref a0), some (.int x1), some (.int x2), some (.int x3), some (.int (x4 + nI 1))] [] (stI h p_10 (x4).toNatClampNeg (nI 0)) 0 0)))) : Wm mX9_starts 0 0 0 Q 3 [some (.ref a0), some (.int x1), some (.int x2), some (.int x3), some (.int x4)] [] h 0 0 := by
  refine rl_iload dX9_starts_3 rfl ?_
  refine rl_sipush (v := nI 2400) dX9_starts_5 (by decide) ?_
  refine rl_icmp_ge (tgt := 25) dX9_starts_8 (by decide) (fun c_1 => ?_) (fun c_1 => ?_)
  · have H := H.1 c_1
    refine rl_aload_n dX9_starts_25 rfl rfl ?_
    obtain ⟨o_2, H⟩ := H
    obtain ⟨p_3, e_4, H⟩ := H
    refine rl_getP (k := 1) cfX9 dX9_starts_26 flX9_7 (by decide) rfl o_2 e_4 ?_
    refine rl_iconst (v := nI 1) dX9_starts_29 (by decide) ?_
    refine rl_iload_n dX9_starts_30 rfl rfl ?_
    obtain ⟨o_5, H⟩ := H
    obtain ⟨o_6, H⟩ := H
    refine rl_iast dX9_starts_31 o_5 o_6 ?_
    refine rl_aload_n dX9_starts_32 rfl rfl ?_
    refine rl_getP (k := 1) cfX9 dX9_starts_33 flX9_7 (by decide) rfl o_2 e_4 ?_
    refine rl_iconst (v := nI 2) dX9_starts_36 (by decide) ?_
    refine rl_iload_n dX9_starts_37 rfl rfl ?_
    obtain ⟨o_7, H⟩ := H
    refine rl_iast dX9_starts_38 o_5 o_7 ?_
    refine rl_aload_n dX9_starts_39 rfl rfl ?_
    refine rl_getP (k := 1) cfX9 dX9_starts_40 flX9_7 (by decide) rfl o_2 e_4 ?_
    refine rl_iconst (v := nI 3) dX9_starts_43 (by decide) ?_
    refine rl_iload_n dX9_starts_44 rfl rfl ?_
    obtain ⟨o_8, H⟩ := H
    refine rl_iast dX9_starts_45 o_5 o_8 ?_
    refine rl_aload_n dX9_starts_46 rfl rfl ?_
    refine rl_iconst (v := nI 0) dX9_starts_47 (by decide) ?_
    refine rl_putI (k := 4) cfX9 dX9_starts_48 flX9_45 (by decide) rfl o_2 (Or.inl rfl) ?_
    exact rl_vret dX9_starts_51 rfl (Nat.le_refl 0) (Nat.le_refl 0) H
  · have H := H.2 c_1
    refine rl_aload_n dX9_starts_11 rfl rfl ?_
    obtain ⟨o_9, H⟩ := H
    obtain ⟨p_10, e_11, H⟩ := H
    refine rl_getP (k := 1) cfX9 dX9_starts_12 flX9_7 (by decide) rfl o_9 e_11 ?_
    refine rl_iload dX9_starts_15 rfl ?_
    refine rl_iconst (v := nI 0) dX9_starts_17 (by decide) ?_
    obtain ⟨o_12, H⟩ := H
    obtain ⟨o_13, H⟩ := H
    refine rl_iast dX9_starts_18 o_12 o_13 ?_
    refine rl_iinc (v := x4 + nI 1) (L' := [some (.ref a0), some (.int x1), some (.int x2), some (.int x3), some (.int (x4 + nI 1))]) dX9_starts_19 rfl (congrArg (fun z => x4 + z) (by decide)) (Nat.le_of_ble_eq_true rfl) rfl ?_
    refine rl_goto (tgt := 3) dX9_starts_22 (by decide) ?_
    exact H

