theorem tX7_clear_0 {n : Nat} {ad : Nat → Nat} {h0 : Hp} {cs : Nat → Nat → Int32} {pm : Nat → Nat → Nat} (L : Lay n ad h0) {Q : Nat → Option Value → Hp → Prop} {k0 w0 : Nat} (H : Wm mX7_clear 1 0 0 Q 2 [some (.ref (ad (gVw k0 w0))), some (.int (nI 0))] [] (HN h0 ad cs pm) 0 0) : Wm mX7_clear 1 0 0 Q 0 [some (.ref (ad (gVw k0 w0))), none] [] (HN h0 ad cs pm) 0 0 := by
  refine rl_iconst (v := nI 0) dX7_clear_0 (by decide) ?_
  refine rl_istore_n (L' := [some (.ref (ad (gVw k0 w0))), some (.int (nI 0))]) dX7_clear_1 rfl (Nat.le_of_ble_eq_true rfl) rfl ?_
  exact H
theorem tX7_clear_2 {n : Nat} {ad : Nat → Nat} {h0 : Hp} {cs : Nat → Nat → Int32} {pm : Nat → Nat → Nat} (L : Lay n ad h0) {Q : Nat → Option Value → Hp → Prop} {k0 w0 : Nat} {x1 : Int32} (H : vVw n k0 w0 ∧ (((nI n) ≤ x1 → Q 0 none (HN h0 ad cs pm)) ∧ (¬ (nI n) ≤ x1 → (∃ j_3 : Nat, x1 = nI j_3 ∧ j_3 < n ∧ (CKv mX5_clear 0 0 0 [some (.ref (ad (gRc k0 w0 j_3))), none] (HN h0 ad cs pm) (fun h' => Wm mX7_clear 1 0 0 Q 20 [some (.ref (ad (gVw k0 w0))), some (.int x1)] [] h' 0 0)))))) : Wm mX7_clear 1 0 0 Q 2 [some (.ref (ad (gVw k0 w0))), some (.int x1)] [] (HN h0 ad cs pm) 0 0 := by
  refine rl_iload_n dX7_clear_2 rfl rfl ?_
  refine rl_aload_n dX7_clear_3 rfl rfl ?_
  obtain ⟨o_1, H⟩ := H
  refine rt_getP (k := 0) cfX7 dX7_clear_4 flX7_9 (by decide) rfl (lVw L o_1) (rVw L o_1) (naVw L o_1) ?_
  refine rt_alen (ci := 5) dX7_clear_7 (lRa L o_1) rfl ?_
  refine rl_icmp_ge (tgt := 26) dX7_clear_8 (by decide) (fun c_2 => ?_) (fun c_2 => ?_)
  · have H := H.1 c_2
    exact rl_vret dX7_clear_26 rfl (Nat.le_refl 0) (Nat.le_refl 0) H
  · have H := H.2 c_2
    refine rl_aload_n dX7_clear_11 rfl rfl ?_
    refine rt_getP (k := 0) cfX7 dX7_clear_12 flX7_9 (by decide) rfl (lVw L o_1) (rVw L o_1) (naVw L o_1) ?_
    refine rl_iload_n dX7_clear_15 rfl rfl ?_
    obtain ⟨j_3, e_4, b_5, H⟩ := H
    refine rt_aald (ci := 5) (j := j_3) dX7_clear_16 rfl (lRa L o_1) e_4 b_5 (lay5 L) (rRa L o_1 b_5) (naRa L o_1) ?_
    exact rl_callV (As := []) (rest := []) mfX5_clear dX7_clear_17 lkX7_16 (lRc L ⟨o_1, b_5⟩).K (by decide) (Nat.le_of_ble_eq_true rfl) (Nat.le_refl _) (Nat.le_refl _) rfl (Nat.le_of_ble_eq_true rfl) rfl rfl (fun Qc k => H Qc (fun h' w => k none h' w))
theorem tX7_clear_20 {n : Nat} {ad : Nat → Nat} {h0 : Hp} {cs : Nat → Nat → Int32} {pm : Nat → Nat → Nat} (L : Lay n ad h0) {Q : Nat → Option Value → Hp → Prop} {k0 w0 : Nat} {x1 : Int32} (H : Wm mX7_clear 1 0 0 Q 2 [some (.ref (ad (gVw k0 w0))), some (.int (x1 + nI 1))] [] (HN h0 ad cs pm) 0 0) : Wm mX7_clear 1 0 0 Q 20 [some (.ref (ad (gVw k0 w0))), some (.int x1)] [] (HN h0 ad cs pm) 0 0 := by
  refine rl_iinc (v := x1 + nI 1) (L' := [some (.ref (ad (gVw k0 w0))), some (.int (x1 + nI 1))]) dX7_clear_20 rfl (congrArg (fun z => x1 + z) (by decide)) (Nat.le_of_ble_eq_true rfl) rfl ?_
  refine rl_goto (tgt := 2) dX7_clear_23 (by decide) ?_
  exact H
theorem tX5_clear_0 {n : Nat} {ad : Nat → Nat} {h0 : Hp} {cs : Nat → Nat → Int32} {pm : Nat → Nat → Nat} (L : Lay n ad h0) {Q : Nat → Option Value → Hp → Prop} {k0 o0 w0 : Nat} (H : vRc n k0 w0 o0 ∧ Wm mX5_clear 0 0 0 Q 17 [some (.ref (ad (gRc k0 w0 o0))), some (.int (nI 0))] [] (HN h0 ad (up2 (up2 (up2 cs (gRc k0 w0 o0) 0 (nI 0)) (gRc k0 w0 o0) 1 (nI 0)) (gRc k0 w0 o0) 5 (nI 0)) pm) 0 0) : Wm mX5_clear 0 0 0 Q 0 [some (.ref (ad (gRc k0 w0 o0))), none] [] (HN h0 ad cs pm) 0 0 := by
  refine rl_aload_n dX5_clear_0 rfl rfl ?_
  refine rl_iconst (v := nI 0) dX5_clear_1 (by decide) ?_
  obtain ⟨o_1, H⟩ := H
  refine rt_putI (k := 0) L.2.1 cfX5 dX5_clear_2 flX5_24 (by decide) rfl (lRc L o_1) nzRc (Or.inl rfl) ?_
  refine rl_aload_n dX5_clear_5 rfl rfl ?_
  refine rl_iconst (v := nI 0) dX5_clear_6 (by decide) ?_
  refine rt_putI (k := 1) L.2.1 cfX5 dX5_clear_7 flX5_28 (by decide) rfl (lRc L o_1) nzRc (Or.inl rfl) ?_
  refine rl_aload_n dX5_clear_10 rfl rfl ?_
  refine rl_iconst (v := nI 0) dX5_clear_11 (by decide) ?_
  refine rt_putI (k := 5) L.2.1 cfX5 dX5_clear_12 flX5_31 (by decide) rfl (lRc L o_1) nzRc (Or.inl rfl) ?_
  refine rl_iconst (v := nI 0) dX5_clear_15 (by decide) ?_
  refine rl_istore_n (L' := [some (.ref (ad (gRc k0 w0 o0))), some (.int (nI 0))]) dX5_clear_16 rfl (Nat.le_of_ble_eq_true rfl) rfl ?_
  exact H
theorem tX5_clear_17 {n : Nat} {ad : Nat → Nat} {h0 : Hp} {cs : Nat → Nat → Int32} {pm : Nat → Nat → Nat} (L : Lay n ad h0) {Q : Nat → Option Value → Hp → Prop} {k0 o0 w0 : Nat} {x1 : Int32} (H : (((nI 2) ≤ x1 → Wm mX5_clear 0 0 0 Q 44 [some (.ref (ad (gRc k0 w0 o0))), some (.int (nI 0))] [] (HN h0 ad cs pm) 0 0) ∧ (¬ (nI 2) ≤ x1 → vRc n k0 w0 o0 ∧ ∃ j_3 : Nat, x1 = nI j_3 ∧ j_3 < 2 ∧ (Wm mX5_clear 0 0 0 Q 17 [some (.ref (ad (gRc k0 w0 o0))), some (.int (x1 + nI 1))] [] (HN h0 ad (up2 (up2 cs (gAr k0 w0 o0 0) j_3 (nI 0)) (gAr k0 w0 o0 1) j_3 (nI 0)) pm) 0 0)))) : Wm mX5_clear 0 0 0 Q 17 [some (.ref (ad (gRc k0 w0 o0))), some (.int x1)] [] (HN h0 ad cs pm) 0 0 := by
  refine rl_iload_n dX5_clear_17 rfl rfl ?_
  refine rl_iconst (v := nI 2) dX5_clear_18 (by decide) ?_
  refine rl_icmp_ge (tgt := 42) dX5_clear_19 (by decide) (fun c_1 => ?_) (fun c_1 => ?_)
  · have H := H.1 c_1
    refine rl_iconst (v := nI 0) dX5_clear_42 (by decide) ?_
    refine rl_istore_n (L' := [some (.ref (ad (gRc k0 w0 o0))), some (.int (nI 0))]) dX5_clear_43 rfl (Nat.le_of_ble_eq_true rfl) rfl ?_
    exact H
  · have H := H.2 c_1
    refine rl_aload_n dX5_clear_22 rfl rfl ?_
    obtain ⟨o_2, H⟩ := H
    refine rt_getP (k := 2) cfX5 dX5_clear_23 flX5_9 (by decide) rfl (lRc L o_2) (rRc2 L o_2) (naRc L o_2) ?_
    refine rl_iload_n dX5_clear_26 rfl rfl ?_
    refine rl_iconst (v := nI 0) dX5_clear_27 (by decide) ?_
    obtain ⟨j_3, e_4, b_5, H⟩ := H
    refine rt_iast (j := j_3) L.2.1 dX5_clear_28 (lAr0 L o_2) nzAr e_4 b_5 (by decide) ?_
    refine rl_aload_n dX5_clear_29 rfl rfl ?_
    refine rt_getP (k := 3) cfX5 dX5_clear_30 flX5_15 (by decide) rfl (lRc L o_2) (rRc3 L o_2) (naRc L o_2) ?_
    refine rl_iload_n dX5_clear_33 rfl rfl ?_
    refine rl_iconst (v := nI 0) dX5_clear_34 (by decide) ?_
    refine rt_iast (j := j_3) L.2.1 dX5_clear_35 (lAr1 L o_2) nzAr e_4 b_5 (by decide) ?_
    refine rl_iinc (v := x1 + nI 1) (L' := [some (.ref (ad (gRc k0 w0 o0))), some (.int (x1 + nI 1))]) dX5_clear_36 rfl (congrArg (fun z => x1 + z) (by decide)) (Nat.le_of_ble_eq_true rfl) rfl ?_
    refine rl_goto (tgt := 17) dX5_clear_39 (by decide) ?_
    exact H
theorem tX5_clear_44 {n : Nat} {ad : Nat → Nat} {h0 : Hp} {cs : Nat → Nat → Int32} {pm : Nat → Nat → Nat} (L : Lay n ad h0) {Q : Nat → Option Value → Hp → Prop} {k0 o0 w0 : Nat} {x1 : Int32} (H : vRc n k0 w0 o0 ∧ (((nI 10) ≤ x1 → Wm mX5_clear 0 0 0 Q 68 [some (.ref (ad (gRc k0 w0 o0))), some (.int (nI 0))] [] (HN h0 ad cs pm) 0 0) ∧ (¬ (nI 10) ≤ x1 → (∃ j_3 : Nat, x1 = nI j_3 ∧ j_3 < 10 ∧ (Wm mX5_clear 0 0 0 Q 44 [some (.ref (ad (gRc k0 w0 o0))), some (.int (x1 + nI 1))] [] (HN h0 ad (up2 cs (gAr k0 w0 o0 2) j_3 (nI 0)) pm) 0 0))))) : Wm mX5_clear 0 0 0 Q 44 [some (.ref (ad (gRc k0 w0 o0))), some (.int x1)] [] (HN h0 ad cs pm) 0 0 := by
  refine rl_iload_n dX5_clear_44 rfl rfl ?_
  refine rl_aload_n dX5_clear_45 rfl rfl ?_
  obtain ⟨o_1, H⟩ := H
  refine rt_getP (k := 4) cfX5 dX5_clear_46 flX5_18 (by decide) rfl (lRc L o_1) (rRc4 L o_1) (naRc L o_1) ?_
  refine rt_alenI dX5_clear_49 (lAr2 L o_1) ?_
  refine rl_icmp_ge (tgt := 66) dX5_clear_50 (by decide) (fun c_2 => ?_) (fun c_2 => ?_)
  · have H := H.1 c_2
    refine rl_iconst (v := nI 0) dX5_clear_66 (by decide) ?_
    refine rl_istore_n (L' := [some (.ref (ad (gRc k0 w0 o0))), some (.int (nI 0))]) dX5_clear_67 rfl (Nat.le_of_ble_eq_true rfl) rfl ?_
    exact H
  · have H := H.2 c_2
    refine rl_aload_n dX5_clear_53 rfl rfl ?_
    refine rt_getP (k := 4) cfX5 dX5_clear_54 flX5_18 (by decide) rfl (lRc L o_1) (rRc4 L o_1) (naRc L o_1) ?_
    refine rl_iload_n dX5_clear_57 rfl rfl ?_
    refine rl_iconst (v := nI 0) dX5_clear_58 (by decide) ?_
    obtain ⟨j_3, e_4, b_5, H⟩ := H
    refine rt_iast (j := j_3) L.2.1 dX5_clear_59 (lAr2 L o_1) nzAr e_4 b_5 (by decide) ?_
    refine rl_iinc (v := x1 + nI 1) (L' := [some (.ref (ad (gRc k0 w0 o0))), some (.int (x1 + nI 1))]) dX5_clear_60 rfl (congrArg (fun z => x1 + z) (by decide)) (Nat.le_of_ble_eq_true rfl) rfl ?_
    refine rl_goto (tgt := 44) dX5_clear_63 (by decide) ?_
    exact H
theorem tX5_clear_68 {n : Nat} {ad : Nat → Nat} {h0 : Hp} {cs : Nat → Nat → Int32} {pm : Nat → Nat → Nat} (L : Lay n ad h0) {Q : Nat → Option Value → Hp → Prop} {k0 o0 w0 : Nat} {x1 : Int32} (H : (((nI 10) ≤ x1 → Q 0 none (HN h0 ad cs pm)) ∧ (¬ (nI 10) ≤ x1 → vRc n k0 w0 o0 ∧ ∃ j_3 : Nat, x1 = nI j_3 ∧ j_3 < 10 ∧ (Wm mX5_clear 0 0 0 Q 68 [some (.ref (ad (gRc k0 w0 o0))), some (.int (x1 + nI 1))] [] (HN h0 ad (up2 cs (gAr k0 w0 o0 3) j_3 (nI 0)) pm) 0 0)))) : Wm mX5_clear 0 0 0 Q 68 [some (.ref (ad (gRc k0 w0 o0))), some (.int x1)] [] (HN h0 ad cs pm) 0 0 := by
  refine rl_iload_n dX5_clear_68 rfl rfl ?_
  refine rl_bipush (v := nI 10) dX5_clear_69 (by decide) ?_
  refine rl_icmp_ge (tgt := 87) dX5_clear_71 (by decide) (fun c_1 => ?_) (fun c_1 => ?_)
  · have H := H.1 c_1
    exact rl_vret dX5_clear_87 rfl (Nat.le_refl 0) (Nat.le_refl 0) H
  · have H := H.2 c_1
    refine rl_aload_n dX5_clear_74 rfl rfl ?_
    obtain ⟨o_2, H⟩ := H
    refine rt_getP (k := 6) cfX5 dX5_clear_75 flX5_21 (by decide) rfl (lRc L o_2) (rRc6 L o_2) (naRc L o_2) ?_
    refine rl_iload_n dX5_clear_78 rfl rfl ?_
    refine rl_iconst (v := nI 0) dX5_clear_79 (by decide) ?_
    obtain ⟨j_3, e_4, b_5, H⟩ := H
    refine rt_iast (j := j_3) L.2.1 dX5_clear_80 (lAr3 L o_2) nzAr e_4 b_5 (by decide) ?_
    refine rl_iinc (v := x1 + nI 1) (L' := [some (.ref (ad (gRc k0 w0 o0))), some (.int (x1 + nI 1))]) dX5_clear_81 rfl (congrArg (fun z => x1 + z) (by decide)) (Nat.le_of_ble_eq_true rfl) rfl ?_
    refine rl_goto (tgt := 68) dX5_clear_84 (by decide) ?_
    exact H
theorem tX4_read_0 {n : Nat} {ad : Nat → Nat} {h0 : Hp} {cs : Nat → Nat → Int32} {pm : Nat → Nat → Nat} (L : Lay n ad h0) {Q : Nat → Option Value → Hp → Prop}  (H : Wm mX4_read 3 0 0 Q 10 [some (.ref (ad (gSc)))] [] (HN h0 ad (up2 (up2 cs (gSc) 4 (nI 0)) (gSc) 3 (nI 0)) pm) 0 0) : Wm mX4_read 3 0 0 Q 0 [some (.ref (ad (gSc)))] [] (HN h0 ad cs pm) 0 0 := by
  refine rl_aload_n dX4_read_0 rfl rfl ?_
  refine rl_iconst (v := nI 0) dX4_read_1 (by decide) ?_
  refine rt_putI (k := 4) L.2.1 cfX4 dX4_read_2 flX4_26 (by decide) rfl (lSc L) nzSc (Or.inl rfl) ?_
  refine rl_aload_n dX4_read_5 rfl rfl ?_
  refine rl_iconst (v := nI 0) dX4_read_6 (by decide) ?_
  refine rt_putI (k := 3) L.2.1 cfX4 dX4_read_7 flX4_29 (by decide) rfl (lSc L) nzSc (Or.inl rfl) ?_
  exact H
theorem tX4_read_10 {n : Nat} {ad : Nat → Nat} {h0 : Hp} {cs : Nat → Nat → Int32} {pm : Nat → Nat → Nat} (L : Lay n ad h0) {Q : Nat → Option Value → Hp → Prop}  (H : (((nI 30) ≤ (cs (gSc) 3) → Q 0 (some (.int (cs (gSc) 4))) (HN h0 ad cs pm)) ∧ (¬ (nI 30) ≤ (cs (gSc) 3) → (∃ j_2 : Nat, cs (gSc) 3 = nI j_2 ∧ j_2 < 30 ∧ (CKi mX4_readCommand 2 0 0 [some (.ref (ad (gSc))), some (.ref (ad (gCm j_2)))] (HN h0 ad cs pm) (fun v h' => Wm mX4_read 3 0 0 Q 32 [some (.ref (ad (gSc)))] [.int v] h' 0 0)))))) : Wm mX4_read 3 0 0 Q 10 [some (.ref (ad (gSc)))] [] (HN h0 ad cs pm) 0 0 := by
  refine rl_aload_n dX4_read_10 rfl rfl ?_
  refine rt_getI (k := 3) cfX4 dX4_read_11 flX4_29 (by decide) rfl (lSc L) nzSc ?_
  refine rl_bipush (v := nI 30) dX4_read_14 (by decide) ?_
  refine rl_icmp_ge (tgt := 77) dX4_read_16 (by decide) (fun c_1 => ?_) (fun c_1 => ?_)
  · have H := H.1 c_1
    refine rl_aload_n dX4_read_77 rfl rfl ?_
    refine rt_getI (k := 4) cfX4 dX4_read_78 flX4_26 (by decide) rfl (lSc L) nzSc ?_
    exact rl_iret dX4_read_81 rfl (Nat.le_refl 0) (Nat.le_refl 0) H
  · have H := H.2 c_1
    refine rl_aload_n dX4_read_19 rfl rfl ?_
    refine rl_aload_n dX4_read_20 rfl rfl ?_
    refine rt_getP (k := 1) cfX4 dX4_read_21 flX4_17 (by decide) rfl (lSc L) (rSc1 L) naSc ?_
    refine rl_aload_n dX4_read_24 rfl rfl ?_
    refine rt_getI (k := 3) cfX4 dX4_read_25 flX4_29 (by decide) rfl (lSc L) nzSc ?_
    obtain ⟨j_2, e_3, b_4, H⟩ := H
    refine rt_aald (ci := 0) (j := j_2) dX4_read_28 rfl (lCa L) e_3 b_4 (by decide) (rCa L b_4) naCa ?_
    exact rl_callV (As := [.ref (ad (gCm j_2))]) (rest := []) mfX4_readCommand dX4_read_29 lkX4_32 (lSc L).K (by decide) (Nat.le_of_ble_eq_true rfl) (Nat.le_refl _) (Nat.le_refl _) rfl (Nat.le_of_ble_eq_true rfl) rfl rfl (fun Qc k => H Qc (fun v h' w => k (some (.int v)) h' w))
theorem tX4_read_32 {n : Nat} {ad : Nat → Nat} {h0 : Hp} {cs : Nat → Nat → Int32} {pm : Nat → Nat → Nat} (L : Lay n ad h0) {Q : Nat → Option Value → Hp → Prop} {xs0 : Int32} (H : ((¬ xs0 = 0 → (((cs (gSc) 4) < (cs (gSc) 2) → CKi mX4_readSign 0 0 0 [some (.ref (ad (gSc))), some (.int (nI 59))] (HN h0 ad (up2 cs (gSc) 3 ((cs (gSc) 3) + (nI 1))) pm) (fun v h' => Wm mX4_read 3 0 0 Q 69 [some (.ref (ad (gSc)))] [.int v] h' 0 0)) ∧ (¬ (cs (gSc) 4) < (cs (gSc) 2) → Q 0 (some (.int (-1))) (HN h0 ad (up2 cs (gSc) 3 ((cs (gSc) 3) + (nI 1))) pm)))) ∧ (xs0 = 0 → Q 0 (some (.int (cs (gSc) 4))) (HN h0 ad cs pm)))) : Wm mX4_read 3 0 0 Q 32 [some (.ref (ad (gSc)))] [.int xs0] (HN h0 ad cs pm) 0 0 := by
  refine rl_if_ne (tgt := 40) dX4_read_32 (by decide) (fun c_1 => ?_) (fun c_1 => ?_)
  · have H := H.1 c_1
    refine rl_aload_n dX4_read_40 rfl rfl ?_
    refine rl_dup dX4_read_41 rfl ?_
    refine rt_getI (k := 3) cfX4 dX4_read_42 flX4_29 (by decide) rfl (lSc L) nzSc ?_
    refine rl_iconst (v := nI 1) dX4_read_45 (by decide) ?_
    refine rl_iadd dX4_read_46 ?_
    refine rt_putI (k := 3) L.2.1 cfX4 dX4_read_47 flX4_29 (by decide) rfl (lSc L) nzSc (Or.inl rfl) ?_
    refine rl_aload_n dX4_read_50 rfl rfl ?_
    refine rt_getIv (x := cs (gSc) 4) (k := 4) cfX4 dX4_read_51 flX4_26 (by decide) rfl (lSc L) nzSc ((up2_k (by decide)).trans (rfl)) ?_
    refine rl_aload_n dX4_read_54 rfl rfl ?_
    refine rt_getIv (x := cs (gSc) 2) (k := 2) cfX4 dX4_read_55 flX4_22 (by decide) rfl (lSc L) nzSc ((up2_k (by decide)).trans (rfl)) ?_
    refine rl_icmp_lt (tgt := 63) dX4_read_58 (by decide) (fun c_2 => ?_) (fun c_2 => ?_)
    · have H := H.1 c_2
      refine rl_aload_n dX4_read_63 rfl rfl ?_
      refine rl_bipush (v := nI 59) dX4_read_64 (by decide) ?_
      exact rl_callV (As := [.int (nI 59)]) (rest := []) mfX4_readSign dX4_read_66 lkX4_36 (lSc L).K (by decide) (Nat.le_of_ble_eq_true rfl) (Nat.le_refl _) (Nat.le_refl _) rfl (Nat.le_of_ble_eq_true rfl) rfl rfl (fun Qc k => H Qc (fun v h' w => k (some (.int v)) h' w))
    · have H := H.2 c_2
      refine rl_iconst (v := -1) dX4_read_61 (by decide) ?_
      exact rl_iret dX4_read_62 rfl (Nat.le_refl 0) (Nat.le_refl 0) H
  · have H := H.2 c_1
    refine rl_aload_n dX4_read_35 rfl rfl ?_
    refine rt_getI (k := 4) cfX4 dX4_read_36 flX4_26 (by decide) rfl (lSc L) nzSc ?_
    exact rl_iret dX4_read_39 rfl (Nat.le_refl 0) (Nat.le_refl 0) H
theorem tX4_read_69 {n : Nat} {ad : Nat → Nat} {h0 : Hp} {cs : Nat → Nat → Int32} {pm : Nat → Nat → Nat} (L : Lay n ad h0) {Q : Nat → Option Value → Hp → Prop} {xs0 : Int32} (H : ((¬ xs0 = 0 → Wm mX4_read 3 0 0 Q 10 [some (.ref (ad (gSc)))] [] (HN h0 ad cs pm) 0 0) ∧ (xs0 = 0 → Q 0 (some (.int (cs (gSc) 4))) (HN h0 ad cs pm)))) : Wm mX4_read 3 0 0 Q 69 [some (.ref (ad (gSc)))] [.int xs0] (HN h0 ad cs pm) 0 0 := by
  refine rl_if_ne (tgt := 10) dX4_read_69 (by decide) (fun c_1 => ?_) (fun c_1 => ?_)
  · have H := H.1 c_1
    exact H
  · have H := H.2 c_1
    refine rl_aload_n dX4_read_72 rfl rfl ?_
    refine rt_getI (k := 4) cfX4 dX4_read_73 flX4_26 (by decide) rfl (lSc L) nzSc ?_
    exact rl_iret dX4_read_76 rfl (Nat.le_refl 0) (Nat.le_refl 0) H
theorem tX4_readCommand_0 {n : Nat} {ad : Nat → Nat} {h0 : Hp} {cs : Nat → Nat → Int32} {pm : Nat → Nat → Nat} (L : Lay n ad h0) {Q : Nat → Option Value → Hp → Prop} {i1 : Nat} (H : (((cs (gSc) 4) < (cs (gSc) 2) → (∃ j_2 : Nat, cs (gSc) 4 = nI j_2 ∧ j_2 < 60 ∧ (i1 < 30 ∧ (((cs (gSg) j_2) = nI 43 → Wm mX4_readCommand 2 0 0 Q 88 [some (.ref (ad (gSc))), some (.ref (ad (gCm i1)))] [] (HN h0 ad (up2 cs (gCm i1) 0 (cs (gSg) j_2)) pm) 0 0) ∧ ((cs (gSg) j_2) = nI 45 → Wm mX4_readCommand 2 0 0 Q 88 [some (.ref (ad (gSc))), some (.ref (ad (gCm i1)))] [] (HN h0 ad (up2 cs (gCm i1) 0 (cs (gSg) j_2)) pm) 0 0) ∧ ((cs (gSg) j_2) = nI 100 → Wm mX4_readCommand 2 0 0 Q 123 [some (.ref (ad (gSc))), some (.ref (ad (gCm i1)))] [] (HN h0 ad (up2 cs (gCm i1) 0 (cs (gSg) j_2)) pm) 0 0) ∧ ((cs (gSg) j_2) = nI 109 → CKi mX4_readSign 0 0 0 [some (.ref (ad (gSc))), some (.int (cs (gSg) j_2))] (HN h0 ad (up2 cs (gCm i1) 0 (cs (gSg) j_2)) pm) (fun v h' => Wm mX4_readCommand 2 0 0 Q 174 [some (.ref (ad (gSc))), some (.ref (ad (gCm i1)))] [.int v] h' 0 0)) ∧ ((cs (gSg) j_2) = nI 116 → CKi mX4_readNumberBehind 1 0 0 [some (.ref (ad (gSc))), some (.int (nI 116)), some (.ref (ad (gCm i1))), none] (HN h0 ad (up2 cs (gCm i1) 0 (cs (gSg) j_2)) pm) (fun v h' => Wm mX4_readCommand 2 0 0 Q 206 [none, none] [.int v] h' 0 0)) ∧ ((cs (gSg) j_2) = nI 117 → Wm mX4_readCommand 2 0 0 Q 123 [some (.ref (ad (gSc))), some (.ref (ad (gCm i1)))] [] (HN h0 ad (up2 cs (gCm i1) 0 (cs (gSg) j_2)) pm) 0 0) ∧ (¬ (cs (gSg) j_2) = nI 43 → ¬ (cs (gSg) j_2) = nI 45 → ¬ (cs (gSg) j_2) = nI 100 → ¬ (cs (gSg) j_2) = nI 109 → ¬ (cs (gSg) j_2) = nI 116 → ¬ (cs (gSg) j_2) = nI 117 → Q 0 (some (.int (nI 0))) (HN h0 ad (up2 cs (gCm i1) 0 (cs (gSg) j_2)) pm)))))) ∧ (¬ (cs (gSc) 4) < (cs (gSc) 2) → Q 0 (some (.int (nI 0))) (HN h0 ad cs pm)))) : Wm mX4_readCommand 2 0 0 Q 0 [some (.ref (ad (gSc))), some (.ref (ad (gCm i1)))] [] (HN h0 ad cs pm) 0 0 := by
  refine rl_aload_n dX4_readCommand_0 rfl rfl ?_
  refine rt_getI (k := 4) cfX4 dX4_readCommand_1 flX4_26 (by decide) rfl (lSc L) nzSc ?_
  refine rl_aload_n dX4_readCommand_4 rfl rfl ?_
  refine rt_getI (k := 2) cfX4 dX4_readCommand_5 flX4_22 (by decide) rfl (lSc L) nzSc ?_
  refine rl_icmp_lt (tgt := 13) dX4_readCommand_8 (by decide) (fun c_1 => ?_) (fun c_1 => ?_)
  · have H := H.1 c_1
    refine rl_aload_n dX4_readCommand_13 rfl rfl ?_
    refine rl_aload_n dX4_readCommand_14 rfl rfl ?_
    refine rt_getP (k := 0) cfX4 dX4_readCommand_15 flX4_9 (by decide) rfl (lSc L) (rSc0 L) naSc ?_
    refine rl_aload_n dX4_readCommand_18 rfl rfl ?_
    refine rt_getI (k := 4) cfX4 dX4_readCommand_19 flX4_26 (by decide) rfl (lSc L) nzSc ?_
    obtain ⟨j_2, e_3, b_4, H⟩ := H
    refine rt_iald (j := j_2) dX4_readCommand_22 (lSg L) nzSg e_3 b_4 (by decide) ?_
    obtain ⟨o_5, H⟩ := H
    refine rt_putI (k := 0) L.2.1 cfX0 dX4_readCommand_23 flX4_40 (by decide) rfl (lCm L o_5) nzCm (Or.inl rfl) ?_
    refine rl_aload_n dX4_readCommand_26 rfl rfl ?_
    refine rt_getIv (x := cs (gSg) j_2) (k := 0) cfX0 dX4_readCommand_27 flX4_40 (by decide) rfl (lCm L o_5) nzCm (up2_s) ?_
    by_cases c_6 : (cs (gSg) j_2) = nI 43
    · have H := (H.1) c_6
      refine rl_lookup (tgt := 88) dX4_readCommand_30 (by decide) (by rw [c_6]; decide) ?_
      exact H
    by_cases c_7 : (cs (gSg) j_2) = nI 45
    · have H := (H.2.1) c_7
      refine rl_lookup (tgt := 88) dX4_readCommand_30 (by decide) (by rw [c_7]; decide) ?_
      exact H
    by_cases c_8 : (cs (gSg) j_2) = nI 100
    · have H := (H.2.2.1) c_8
      refine rl_lookup (tgt := 123) dX4_readCommand_30 (by decide) (by rw [c_8]; decide) ?_
      exact H
    by_cases c_9 : (cs (gSg) j_2) = nI 109
    · have H := (H.2.2.2.1) c_9
      refine rl_lookup (tgt := 166) dX4_readCommand_30 (by decide) (by rw [c_9]; decide) ?_
      refine rl_aload_n dX4_readCommand_166 rfl rfl ?_
      refine rl_aload_n dX4_readCommand_167 rfl rfl ?_
      refine rt_getIv (x := cs (gSg) j_2) (k := 0) cfX0 dX4_readCommand_168 flX4_40 (by decide) rfl (lCm L o_5) nzCm (up2_s) ?_
      exact rl_callV (As := [.int (cs (gSg) j_2)]) (rest := []) mfX4_readSign dX4_readCommand_171 lkX4_36 (lSc L).K (by decide) (Nat.le_of_ble_eq_true rfl) (Nat.le_refl _) (Nat.le_refl _) rfl (Nat.le_of_ble_eq_true rfl) rfl rfl (fun Qc k => H Qc (fun v h' w => k (some (.int v)) h' w))
    by_cases c_10 : (cs (gSg) j_2) = nI 116
    · have H := (H.2.2.2.2.1) c_10
      refine rl_lookup (tgt := 199) dX4_readCommand_30 (by decide) (by rw [c_10]; decide) ?_
      refine rl_aload_n dX4_readCommand_199 rfl rfl ?_
      refine rl_bipush (v := nI 116) dX4_readCommand_200 (by decide) ?_
      refine rl_aload_n dX4_readCommand_202 rfl rfl ?_
      exact rl_callV (As := [.int (nI 116), .ref (ad (gCm i1))]) (rest := []) mfX4_readNumberBehind dX4_readCommand_203 lkX4_46 (lSc L).K (by decide) (Nat.le_of_ble_eq_true rfl) (Nat.le_refl _) (Nat.le_refl _) rfl (Nat.le_of_ble_eq_true rfl) rfl rfl (fun Qc k => H Qc (fun v h' w => k (some (.int v)) h' (rl_wk (L' := [none, none]) trivial w)))
    by_cases c_11 : (cs (gSg) j_2) = nI 117
    · have H := (H.2.2.2.2.2.1) c_11
      refine rl_lookup (tgt := 123) dX4_readCommand_30 (by decide) (by rw [c_11]; decide) ?_
      exact H
    have H := (H.2.2.2.2.2.2) c_6 c_7 c_8 c_9 c_10 c_11
    refine rl_lookup (tgt := 207) dX4_readCommand_30 (by decide) (by show _ + Op.lookupswitch.offset [(43, 58), (45, 58), (100, 93), (109, 136), (116, 169), (117, 93)] _ _ = _; rw [lv_osw c_6 (by decide), lv_osw c_7 (by decide), lv_osw c_8 (by decide), lv_osw c_9 (by decide), lv_osw c_10 (by decide), lv_osw c_11 (by decide)]; rfl) ?_
    refine rl_iconst (v := nI 0) dX4_readCommand_207 (by decide) ?_
    exact rl_zret dX4_readCommand_208 rfl rfl (Nat.le_refl 0) (Nat.le_refl 0) H
  · have H := H.2 c_1
    refine rl_iconst (v := nI 0) dX4_readCommand_11 (by decide) ?_
    exact rl_zret dX4_readCommand_12 rfl rfl (Nat.le_refl 0) (Nat.le_refl 0) H
theorem tX4_readCommand_88 {n : Nat} {ad : Nat → Nat} {h0 : Hp} {cs : Nat → Nat → Int32} {pm : Nat → Nat → Nat} (L : Lay n ad h0) {Q : Nat → Option Value → Hp → Prop} {i1 : Nat} (H : i1 < 30 ∧ CKi mX4_readSign 0 0 0 [some (.ref (ad (gSc))), some (.int (cs (gCm i1) 0))] (HN h0 ad cs pm) (fun v h' => Wm mX4_readCommand 2 0 0 Q 96 [some (.ref (ad (gSc))), some (.ref (ad (gCm i1)))] [.int v] h' 0 0)) : Wm mX4_readCommand 2 0 0 Q 88 [some (.ref (ad (gSc))), some (.ref (ad (gCm i1)))] [] (HN h0 ad cs pm) 0 0 := by
  refine rl_aload_n dX4_readCommand_88 rfl rfl ?_
  refine rl_aload_n dX4_readCommand_89 rfl rfl ?_
  obtain ⟨o_1, H⟩ := H
  refine rt_getI (k := 0) cfX0 dX4_readCommand_90 flX4_40 (by decide) rfl (lCm L o_1) nzCm ?_
  exact rl_callV (As := [.int (cs (gCm i1) 0)]) (rest := []) mfX4_readSign dX4_readCommand_93 lkX4_36 (lSc L).K (by decide) (Nat.le_of_ble_eq_true rfl) (Nat.le_refl _) (Nat.le_refl _) rfl (Nat.le_of_ble_eq_true rfl) rfl rfl (fun Qc k => H Qc (fun v h' w => k (some (.int v)) h' w))
theorem tX4_readCommand_96 {n : Nat} {ad : Nat → Nat} {h0 : Hp} {cs : Nat → Nat → Int32} {pm : Nat → Nat → Nat} (L : Lay n ad h0) {Q : Nat → Option Value → Hp → Prop} {i1 : Nat} {xs0 : Int32} (H : ((xs0 = 0 → Q 0 (some (.int (nI 0))) (HN h0 ad cs pm)) ∧ (¬ xs0 = 0 → CKi mX4_readSite 1 0 0 [some (.ref (ad (gSc))), some (.ref (ad (gCm i1)))] (HN h0 ad cs pm) (fun v h' => Wm mX4_readCommand 2 0 0 Q 104 [some (.ref (ad (gSc))), some (.ref (ad (gCm i1)))] [.int v] h' 0 0)))) : Wm mX4_readCommand 2 0 0 Q 96 [some (.ref (ad (gSc))), some (.ref (ad (gCm i1)))] [.int xs0] (HN h0 ad cs pm) 0 0 := by
  refine rl_if_eq (tgt := 121) dX4_readCommand_96 (by decide) (fun c_1 => ?_) (fun c_1 => ?_)
  · have H := H.1 c_1
    refine rl_iconst (v := nI 0) dX4_readCommand_121 (by decide) ?_
    exact rl_zret dX4_readCommand_122 rfl rfl (Nat.le_refl 0) (Nat.le_refl 0) H
  · have H := H.2 c_1
    refine rl_aload_n dX4_readCommand_99 rfl rfl ?_
    refine rl_aload_n dX4_readCommand_100 rfl rfl ?_
    exact rl_callV (As := [.ref (ad (gCm i1))]) (rest := []) mfX4_readSite dX4_readCommand_101 lkX4_43 (lSc L).K (by decide) (Nat.le_of_ble_eq_true rfl) (Nat.le_refl _) (Nat.le_refl _) rfl (Nat.le_of_ble_eq_true rfl) rfl rfl (fun Qc k => H Qc (fun v h' w => k (some (.int v)) h' w))
theorem tX4_readCommand_104 {n : Nat} {ad : Nat → Nat} {h0 : Hp} {cs : Nat → Nat → Int32} {pm : Nat → Nat → Nat} (L : Lay n ad h0) {Q : Nat → Option Value → Hp → Prop} {i1 : Nat} {xs0 : Int32} (H : ((xs0 = 0 → Q 0 (some (.int (nI 0))) (HN h0 ad cs pm)) ∧ (¬ xs0 = 0 → CKi mX4_readNumberBehind 1 0 0 [some (.ref (ad (gSc))), some (.int (nI 58)), some (.ref (ad (gCm i1))), none] (HN h0 ad cs pm) (fun v h' => Wm mX4_readCommand 2 0 0 Q 114 [none, none] [.int v] h' 0 0)))) : Wm mX4_readCommand 2 0 0 Q 104 [some (.ref (ad (gSc))), some (.ref (ad (gCm i1)))] [.int xs0] (HN h0 ad cs pm) 0 0 := by
  refine rl_if_eq (tgt := 121) dX4_readCommand_104 (by decide) (fun c_1 => ?_) (fun c_1 => ?_)
  · have H := H.1 c_1
    refine rl_iconst (v := nI 0) dX4_readCommand_121 (by decide) ?_
    exact rl_zret dX4_readCommand_122 rfl rfl (Nat.le_refl 0) (Nat.le_refl 0) H
  · have H := H.2 c_1
    refine rl_aload_n dX4_readCommand_107 rfl rfl ?_
    refine rl_bipush (v := nI 58) dX4_readCommand_108 (by decide) ?_
    refine rl_aload_n dX4_readCommand_110 rfl rfl ?_
    exact rl_callV (As := [.int (nI 58), .ref (ad (gCm i1))]) (rest := []) mfX4_readNumberBehind dX4_readCommand_111 lkX4_46 (lSc L).K (by decide) (Nat.le_of_ble_eq_true rfl) (Nat.le_refl _) (Nat.le_refl _) rfl (Nat.le_of_ble_eq_true rfl) rfl rfl (fun Qc k => H Qc (fun v h' w => k (some (.int v)) h' (rl_wk (L' := [none, none]) trivial w)))
theorem tX4_readCommand_114 {n : Nat} {ad : Nat → Nat} {h0 : Hp} {cs : Nat → Nat → Int32} {pm : Nat → Nat → Nat} (L : Lay n ad h0) {Q : Nat → Option Value → Hp → Prop} {xs0 : Int32} (H : ((xs0 = 0 → Q 0 (some (.int (nI 0))) (HN h0 ad cs pm)) ∧ (¬ xs0 = 0 → Q 0 (some (.int (nI 1))) (HN h0 ad cs pm)))) : Wm mX4_readCommand 2 0 0 Q 114 [none, none] [.int xs0] (HN h0 ad cs pm) 0 0 := by
  refine rl_if_eq (tgt := 121) dX4_readCommand_114 (by decide) (fun c_1 => ?_) (fun c_1 => ?_)
  · have H := H.1 c_1
    refine rl_iconst (v := nI 0) dX4_readCommand_121 (by decide) ?_
    exact rl_zret dX4_readCommand_122 rfl rfl (Nat.le_refl 0) (Nat.le_refl 0) H
  · have H := H.2 c_1
    refine rl_iconst (v := nI 1) dX4_readCommand_117 (by decide) ?_
    refine rl_goto (tgt := 122) dX4_readCommand_118 (by decide) ?_
    exact rl_zret dX4_readCommand_122 rfl rfl (Nat.le_refl 0) (Nat.le_refl 0) H
theorem tX4_readCommand_123 {n : Nat} {ad : Nat → Nat} {h0 : Hp} {cs : Nat → Nat → Int32} {pm : Nat → Nat → Nat} (L : Lay n ad h0) {Q : Nat → Option Value → Hp → Prop} {i1 : Nat} (H : i1 < 30 ∧ CKi mX4_readSign 0 0 0 [some (.ref (ad (gSc))), some (.int (cs (gCm i1) 0))] (HN h0 ad cs pm) (fun v h' => Wm mX4_readCommand 2 0 0 Q 131 [some (.ref (ad (gSc))), some (.ref (ad (gCm i1)))] [.int v] h' 0 0)) : Wm mX4_readCommand 2 0 0 Q 123 [some (.ref (ad (gSc))), some (.ref (ad (gCm i1)))] [] (HN h0 ad cs pm) 0 0 := by
  refine rl_aload_n dX4_readCommand_123 rfl rfl ?_
  refine rl_aload_n dX4_readCommand_124 rfl rfl ?_
  obtain ⟨o_1, H⟩ := H
  refine rt_getI (k := 0) cfX0 dX4_readCommand_125 flX4_40 (by decide) rfl (lCm L o_1) nzCm ?_
  exact rl_callV (As := [.int (cs (gCm i1) 0)]) (rest := []) mfX4_readSign dX4_readCommand_128 lkX4_36 (lSc L).K (by decide) (Nat.le_of_ble_eq_true rfl) (Nat.le_refl _) (Nat.le_refl _) rfl (Nat.le_of_ble_eq_true rfl) rfl rfl (fun Qc k => H Qc (fun v h' w => k (some (.int v)) h' w))
theorem tX4_readCommand_131 {n : Nat} {ad : Nat → Nat} {h0 : Hp} {cs : Nat → Nat → Int32} {pm : Nat → Nat → Nat} (L : Lay n ad h0) {Q : Nat → Option Value → Hp → Prop} {i1 : Nat} {xs0 : Int32} (H : ((xs0 = 0 → Q 0 (some (.int (nI 0))) (HN h0 ad cs pm)) ∧ (¬ xs0 = 0 → CKi mX4_readSite 1 0 0 [some (.ref (ad (gSc))), some (.ref (ad (gCm i1)))] (HN h0 ad cs pm) (fun v h' => Wm mX4_readCommand 2 0 0 Q 139 [some (.ref (ad (gSc))), some (.ref (ad (gCm i1)))] [.int v] h' 0 0)))) : Wm mX4_readCommand 2 0 0 Q 131 [some (.ref (ad (gSc))), some (.ref (ad (gCm i1)))] [.int xs0] (HN h0 ad cs pm) 0 0 := by
  refine rl_if_eq (tgt := 164) dX4_readCommand_131 (by decide) (fun c_1 => ?_) (fun c_1 => ?_)
  · have H := H.1 c_1
    refine rl_iconst (v := nI 0) dX4_readCommand_164 (by decide) ?_
    exact rl_zret dX4_readCommand_165 rfl rfl (Nat.le_refl 0) (Nat.le_refl 0) H
  · have H := H.2 c_1
    refine rl_aload_n dX4_readCommand_134 rfl rfl ?_
    refine rl_aload_n dX4_readCommand_135 rfl rfl ?_
    exact rl_callV (As := [.ref (ad (gCm i1))]) (rest := []) mfX4_readSite dX4_readCommand_136 lkX4_43 (lSc L).K (by decide) (Nat.le_of_ble_eq_true rfl) (Nat.le_refl _) (Nat.le_refl _) rfl (Nat.le_of_ble_eq_true rfl) rfl rfl (fun Qc k => H Qc (fun v h' w => k (some (.int v)) h' w))
theorem tX4_readCommand_139 {n : Nat} {ad : Nat → Nat} {h0 : Hp} {cs : Nat → Nat → Int32} {pm : Nat → Nat → Nat} (L : Lay n ad h0) {Q : Nat → Option Value → Hp → Prop} {i1 : Nat} {xs0 : Int32} (H : ((xs0 = 0 → Q 0 (some (.int (nI 0))) (HN h0 ad cs pm)) ∧ (¬ xs0 = 0 → CKi mX4_readSecondSite 1 0 0 [some (.ref (ad (gSc))), some (.ref (ad (gCm i1)))] (HN h0 ad cs pm) (fun v h' => Wm mX4_readCommand 2 0 0 Q 147 [some (.ref (ad (gSc))), some (.ref (ad (gCm i1)))] [.int v] h' 0 0)))) : Wm mX4_readCommand 2 0 0 Q 139 [some (.ref (ad (gSc))), some (.ref (ad (gCm i1)))] [.int xs0] (HN h0 ad cs pm) 0 0 := by
  refine rl_if_eq (tgt := 164) dX4_readCommand_139 (by decide) (fun c_1 => ?_) (fun c_1 => ?_)
  · have H := H.1 c_1
    refine rl_iconst (v := nI 0) dX4_readCommand_164 (by decide) ?_
    exact rl_zret dX4_readCommand_165 rfl rfl (Nat.le_refl 0) (Nat.le_refl 0) H
  · have H := H.2 c_1
    refine rl_aload_n dX4_readCommand_142 rfl rfl ?_
    refine rl_aload_n dX4_readCommand_143 rfl rfl ?_
    exact rl_callV (As := [.ref (ad (gCm i1))]) (rest := []) mfX4_readSecondSite dX4_readCommand_144 lkX4_50 (lSc L).K (by decide) (Nat.le_of_ble_eq_true rfl) (Nat.le_refl _) (Nat.le_refl _) rfl (Nat.le_of_ble_eq_true rfl) rfl rfl (fun Qc k => H Qc (fun v h' w => k (some (.int v)) h' w))
theorem tX4_readCommand_147 {n : Nat} {ad : Nat → Nat} {h0 : Hp} {cs : Nat → Nat → Int32} {pm : Nat → Nat → Nat} (L : Lay n ad h0) {Q : Nat → Option Value → Hp → Prop} {i1 : Nat} {xs0 : Int32} (H : ((xs0 = 0 → Q 0 (some (.int (nI 0))) (HN h0 ad cs pm)) ∧ (¬ xs0 = 0 → CKi mX4_readNumberBehind 1 0 0 [some (.ref (ad (gSc))), some (.int (nI 58)), some (.ref (ad (gCm i1))), none] (HN h0 ad cs pm) (fun v h' => Wm mX4_readCommand 2 0 0 Q 157 [none, none] [.int v] h' 0 0)))) : Wm mX4_readCommand 2 0 0 Q 147 [some (.ref (ad (gSc))), some (.ref (ad (gCm i1)))] [.int xs0] (HN h0 ad cs pm) 0 0 := by
  refine rl_if_eq (tgt := 164) dX4_readCommand_147 (by decide) (fun c_1 => ?_) (fun c_1 => ?_)
  · have H := H.1 c_1
    refine rl_iconst (v := nI 0) dX4_readCommand_164 (by decide) ?_
    exact rl_zret dX4_readCommand_165 rfl rfl (Nat.le_refl 0) (Nat.le_refl 0) H
  · have H := H.2 c_1
    refine rl_aload_n dX4_readCommand_150 rfl rfl ?_
    refine rl_bipush (v := nI 58) dX4_readCommand_151 (by decide) ?_
    refine rl_aload_n dX4_readCommand_153 rfl rfl ?_
    exact rl_callV (As := [.int (nI 58), .ref (ad (gCm i1))]) (rest := []) mfX4_readNumberBehind dX4_readCommand_154 lkX4_46 (lSc L).K (by decide) (Nat.le_of_ble_eq_true rfl) (Nat.le_refl _) (Nat.le_refl _) rfl (Nat.le_of_ble_eq_true rfl) rfl rfl (fun Qc k => H Qc (fun v h' w => k (some (.int v)) h' (rl_wk (L' := [none, none]) trivial w)))
theorem tX4_readCommand_157 {n : Nat} {ad : Nat → Nat} {h0 : Hp} {cs : Nat → Nat → Int32} {pm : Nat → Nat → Nat} (L : Lay n ad h0) {Q : Nat → Option Value → Hp → Prop} {xs0 : Int32} (H : ((xs0 = 0 → Q 0 (some (.int (nI 0))) (HN h0 ad cs pm)) ∧ (¬ xs0 = 0 → Q 0 (some (.int (nI 1))) (HN h0 ad cs pm)))) : Wm mX4_readCommand 2 0 0 Q 157 [none, none] [.int xs0] (HN h0 ad cs pm) 0 0 := by
  refine rl_if_eq (tgt := 164) dX4_readCommand_157 (by decide) (fun c_1 => ?_) (fun c_1 => ?_)
  · have H := H.1 c_1
    refine rl_iconst (v := nI 0) dX4_readCommand_164 (by decide) ?_
    exact rl_zret dX4_readCommand_165 rfl rfl (Nat.le_refl 0) (Nat.le_refl 0) H
  · have H := H.2 c_1
    refine rl_iconst (v := nI 1) dX4_readCommand_160 (by decide) ?_
    refine rl_goto (tgt := 165) dX4_readCommand_161 (by decide) ?_
    exact rl_zret dX4_readCommand_165 rfl rfl (Nat.le_refl 0) (Nat.le_refl 0) H
theorem tX4_readCommand_174 {n : Nat} {ad : Nat → Nat} {h0 : Hp} {cs : Nat → Nat → Int32} {pm : Nat → Nat → Nat} (L : Lay n ad h0) {Q : Nat → Option Value → Hp → Prop} {i1 : Nat} {xs0 : Int32} (H : ((xs0 = 0 → Q 0 (some (.int (nI 0))) (HN h0 ad cs pm)) ∧ (¬ xs0 = 0 → CKi mX4_readSite 1 0 0 [some (.ref (ad (gSc))), some (.ref (ad (gCm i1)))] (HN h0 ad cs pm) (fun v h' => Wm mX4_readCommand 2 0 0 Q 182 [some (.ref (ad (gSc))), some (.ref (ad (gCm i1)))] [.int v] h' 0 0)))) : Wm mX4_readCommand 2 0 0 Q 174 [some (.ref (ad (gSc))), some (.ref (ad (gCm i1)))] [.int xs0] (HN h0 ad cs pm) 0 0 := by
  refine rl_if_eq (tgt := 197) dX4_readCommand_174 (by decide) (fun c_1 => ?_) (fun c_1 => ?_)
  · have H := H.1 c_1
    refine rl_iconst (v := nI 0) dX4_readCommand_197 (by decide) ?_
    exact rl_zret dX4_readCommand_198 rfl rfl (Nat.le_refl 0) (Nat.le_refl 0) H
  · have H := H.2 c_1
    refine rl_aload_n dX4_readCommand_177 rfl rfl ?_
    refine rl_aload_n dX4_readCommand_178 rfl rfl ?_
    exact rl_callV (As := [.ref (ad (gCm i1))]) (rest := []) mfX4_readSite dX4_readCommand_179 lkX4_43 (lSc L).K (by decide) (Nat.le_of_ble_eq_true rfl) (Nat.le_refl _) (Nat.le_refl _) rfl (Nat.le_of_ble_eq_true rfl) rfl rfl (fun Qc k => H Qc (fun v h' w => k (some (.int v)) h' w))
theorem tX4_readCommand_182 {n : Nat} {ad : Nat → Nat} {h0 : Hp} {cs : Nat → Nat → Int32} {pm : Nat → Nat → Nat} (L : Lay n ad h0) {Q : Nat → Option Value → Hp → Prop} {i1 : Nat} {xs0 : Int32} (H : ((xs0 = 0 → Q 0 (some (.int (nI 0))) (HN h0 ad cs pm)) ∧ (¬ xs0 = 0 → CKi mX4_readSecondSite 1 0 0 [some (.ref (ad (gSc))), some (.ref (ad (gCm i1)))] (HN h0 ad cs pm) (fun v h' => Wm mX4_readCommand 2 0 0 Q 190 [none, none] [.int v] h' 0 0)))) : Wm mX4_readCommand 2 0 0 Q 182 [some (.ref (ad (gSc))), some (.ref (ad (gCm i1)))] [.int xs0] (HN h0 ad cs pm) 0 0 := by
  refine rl_if_eq (tgt := 197) dX4_readCommand_182 (by decide) (fun c_1 => ?_) (fun c_1 => ?_)
  · have H := H.1 c_1
    refine rl_iconst (v := nI 0) dX4_readCommand_197 (by decide) ?_
    exact rl_zret dX4_readCommand_198 rfl rfl (Nat.le_refl 0) (Nat.le_refl 0) H
  · have H := H.2 c_1
    refine rl_aload_n dX4_readCommand_185 rfl rfl ?_
    refine rl_aload_n dX4_readCommand_186 rfl rfl ?_
    exact rl_callV (As := [.ref (ad (gCm i1))]) (rest := []) mfX4_readSecondSite dX4_readCommand_187 lkX4_50 (lSc L).K (by decide) (Nat.le_of_ble_eq_true rfl) (Nat.le_refl _) (Nat.le_refl _) rfl (Nat.le_of_ble_eq_true rfl) rfl rfl (fun Qc k => H Qc (fun v h' w => k (some (.int v)) h' (rl_wk (L' := [none, none]) trivial w)))
theorem tX4_readCommand_190 {n : Nat} {ad : Nat → Nat} {h0 : Hp} {cs : Nat → Nat → Int32} {pm : Nat → Nat → Nat} (L : Lay n ad h0) {Q : Nat → Option Value → Hp → Prop} {xs0 : Int32} (H : ((xs0 = 0 → Q 0 (some (.int (nI 0))) (HN h0 ad cs pm)) ∧ (¬ xs0 = 0 → Q 0 (some (.int (nI 1))) (HN h0 ad cs pm)))) : Wm mX4_readCommand 2 0 0 Q 190 [none, none] [.int xs0] (HN h0 ad cs pm) 0 0 := by
  refine rl_if_eq (tgt := 197) dX4_readCommand_190 (by decide) (fun c_1 => ?_) (fun c_1 => ?_)
  · have H := H.1 c_1
    refine rl_iconst (v := nI 0) dX4_readCommand_197 (by decide) ?_
    exact rl_zret dX4_readCommand_198 rfl rfl (Nat.le_refl 0) (Nat.le_refl 0) H
  · have H := H.2 c_1
    refine rl_iconst (v := nI 1) dX4_readCommand_193 (by decide) ?_
    refine rl_goto (tgt := 198) dX4_readCommand_194 (by decide) ?_
    exact rl_zret dX4_readCommand_198 rfl rfl (Nat.le_refl 0) (Nat.le_refl 0) H
theorem tX4_readCommand_206 {n : Nat} {ad : Nat → Nat} {h0 : Hp} {cs : Nat → Nat → Int32} {pm : Nat → Nat → Nat} (L : Lay n ad h0) {Q : Nat → Option Value → Hp → Prop} {xs0 : Int32} (H : narrow .boolean (.int xs0) = .int xs0 ∧ Q 0 (some (.int xs0)) (HN h0 ad cs pm)) : Wm mX4_readCommand 2 0 0 Q 206 [none, none] [.int xs0] (HN h0 ad cs pm) 0 0 := by
  obtain ⟨o_1, H⟩ := H
  exact rl_zret dX4_readCommand_206 rfl o_1 (Nat.le_refl 0) (Nat.le_refl 0) H
theorem tX4_readSign_0 {n : Nat} {ad : Nat → Nat} {h0 : Hp} {cs : Nat → Nat → Int32} {pm : Nat → Nat → Nat} (L : Lay n ad h0) {Q : Nat → Option Value → Hp → Prop} {x1 : Int32} (H : (((cs (gSc) 2) ≤ (cs (gSc) 4) → Q 0 (some (.int (nI 0))) (HN h0 ad cs pm)) ∧ (¬ (cs (gSc) 2) ≤ (cs (gSc) 4) → (∃ j_2 : Nat, cs (gSc) 4 = nI j_2 ∧ j_2 < 60 ∧ ((((cs (gSg) j_2) = x1 → Q 0 (some (.int (nI 1))) (HN h0 ad (up2 cs (gSc) 4 ((cs (gSc) 4) + (nI 1))) pm)) ∧ (¬ (cs (gSg) j_2) = x1 → Q 0 (some (.int (nI 0))) (HN h0 ad cs pm)))))))) : Wm mX4_readSign 0 0 0 Q 0 [some (.ref (ad (gSc))), some (.int x1)] [] (HN h0 ad cs pm) 0 0 := by
  refine rl_aload_n dX4_readSign_0 rfl rfl ?_
  refine rt_getI (k := 4) cfX4 dX4_readSign_1 flX4_26 (by decide) rfl (lSc L) nzSc ?_
  refine rl_aload_n dX4_readSign_4 rfl rfl ?_
  refine rt_getI (k := 2) cfX4 dX4_readSign_5 flX4_22 (by decide) rfl (lSc L) nzSc ?_
  refine rl_icmp_ge (tgt := 24) dX4_readSign_8 (by decide) (fun c_1 => ?_) (fun c_1 => ?_)
  · have H := H.1 c_1
    refine rl_iconst (v := nI 0) dX4_readSign_24 (by decide) ?_
    exact rl_zret dX4_readSign_25 rfl rfl (Nat.le_refl 0) (Nat.le_refl 0) H
  · have H := H.2 c_1
    refine rl_aload_n dX4_readSign_11 rfl rfl ?_
    refine rt_getP (k := 0) cfX4 dX4_readSign_12 flX4_9 (by decide) rfl (lSc L) (rSc0 L) naSc ?_
    refine rl_aload_n dX4_readSign_15 rfl rfl ?_
    refine rt_getI (k := 4) cfX4 dX4_readSign_16 flX4_26 (by decide) rfl (lSc L) nzSc ?_
    obtain ⟨j_2, e_3, b_4, H⟩ := H
    refine rt_iald (j := j_2) dX4_readSign_19 (lSg L) nzSg e_3 b_4 (by decide) ?_
    refine rl_iload_n dX4_readSign_20 rfl rfl ?_
    refine rl_icmp_eq (tgt := 26) dX4_readSign_21 (by decide) (fun c_5 => ?_) (fun c_5 => ?_)
    · have H := H.1 c_5
      refine rl_aload_n dX4_readSign_26 rfl rfl ?_
      refine rl_dup dX4_readSign_27 rfl ?_
      refine rt_getI (k := 4) cfX4 dX4_readSign_28 flX4_26 (by decide) rfl (lSc L) nzSc ?_
      refine rl_iconst (v := nI 1) dX4_readSign_31 (by decide) ?_
      refine rl_iadd dX4_readSign_32 ?_
      refine rt_putI (k := 4) L.2.1 cfX4 dX4_readSign_33 flX4_26 (by decide) rfl (lSc L) nzSc (Or.inl rfl) ?_
      refine rl_iconst (v := nI 1) dX4_readSign_36 (by decide) ?_
      exact rl_zret dX4_readSign_37 rfl rfl (Nat.le_refl 0) (Nat.le_refl 0) H
    · have H := H.2 c_5
      refine rl_iconst (v := nI 0) dX4_readSign_24 (by decide) ?_
      exact rl_zret dX4_readSign_25 rfl rfl (Nat.le_refl 0) (Nat.le_refl 0) H
theorem tX4_readSite_0 {n : Nat} {ad : Nat → Nat} {h0 : Hp} {cs : Nat → Nat → Int32} {pm : Nat → Nat → Nat} (L : Lay n ad h0) {Q : Nat → Option Value → Hp → Prop} {i1 : Nat} (H : CKi mX4_isDigitNext 0 0 0 [some (.ref (ad (gSc)))] (HN h0 ad cs pm) (fun v h' => Wm mX4_readSite 1 0 0 Q 4 [some (.ref (ad (gSc))), some (.ref (ad (gCm i1)))] [.int v] h' 0 0)) : Wm mX4_readSite 1 0 0 Q 0 [some (.ref (ad (gSc))), some (.ref (ad (gCm i1)))] [] (HN h0 ad cs pm) 0 0 := by
  refine rl_aload_n dX4_readSite_0 rfl rfl ?_
  exact rl_callV (As := []) (rest := []) mfX4_isDigitNext dX4_readSite_1 lkX4_53 (lSc L).K (by decide) (Nat.le_of_ble_eq_true rfl) (Nat.le_refl _) (Nat.le_refl _) rfl (Nat.le_of_ble_eq_true rfl) rfl rfl (fun Qc k => H Qc (fun v h' w => k (some (.int v)) h' w))
theorem tX4_readSite_4 {n : Nat} {ad : Nat → Nat} {h0 : Hp} {cs : Nat → Nat → Int32} {pm : Nat → Nat → Nat} (L : Lay n ad h0) {Q : Nat → Option Value → Hp → Prop} {i1 : Nat} {xs0 : Int32} (H : ((¬ xs0 = 0 → CKi mX4_readDigit 0 0 0 [some (.ref (ad (gSc))), none] (HN h0 ad cs pm) (fun v h' => Wm mX4_readSite 1 0 0 Q 14 [none, none] [.int v, .ref (ad (gCm i1))] h' 0 0)) ∧ (xs0 = 0 → Q 0 (some (.int (nI 0))) (HN h0 ad cs pm)))) : Wm mX4_readSite 1 0 0 Q 4 [some (.ref (ad (gSc))), some (.ref (ad (gCm i1)))] [.int xs0] (HN h0 ad cs pm) 0 0 := by
  refine rl_if_ne (tgt := 9) dX4_readSite_4 (by decide) (fun c_1 => ?_) (fun c_1 => ?_)
  · have H := H.1 c_1
    refine rl_aload_n dX4_readSite_9 rfl rfl ?_
    refine rl_aload_n dX4_readSite_10 rfl rfl ?_
    exact rl_callV (As := []) (rest := [.ref (ad (gCm i1))]) mfX4_readDigit dX4_readSite_11 lkX4_57 (lSc L).K (by decide) (Nat.le_of_ble_eq_true rfl) (Nat.le_refl _) (Nat.le_refl _) rfl (Nat.le_of_ble_eq_true rfl) rfl rfl (fun Qc k => H Qc (fun v h' w => k (some (.int v)) h' (rl_wk (L' := [none, none]) trivial w)))
  · have H := H.2 c_1
    refine rl_iconst (v := nI 0) dX4_readSite_7 (by decide) ?_
    exact rl_zret dX4_readSite_8 rfl rfl (Nat.le_refl 0) (Nat.le_refl 0) H
theorem tX4_readSite_14 {n : Nat} {ad : Nat → Nat} {h0 : Hp} {cs : Nat → Nat → Int32} {pm : Nat → Nat → Nat} (L : Lay n ad h0) {Q : Nat → Option Value → Hp → Prop} {is0 : Nat} {xs1 : Int32} (H : is0 < 30 ∧ Q 0 (some (.int (nI 1))) (HN h0 ad (up2 cs (gCm is0) 1 xs1) pm)) : Wm mX4_readSite 1 0 0 Q 14 [none, none] [.int xs1, .ref (ad (gCm is0))] (HN h0 ad cs pm) 0 0 := by
  obtain ⟨o_1, H⟩ := H
  refine rt_putI (k := 1) L.2.1 cfX0 dX4_readSite_14 flX4_61 (by decide) rfl (lCm L o_1) nzCm (Or.inl rfl) ?_
  refine rl_iconst (v := nI 1) dX4_readSite_17 (by decide) ?_
  exact rl_zret dX4_readSite_18 rfl rfl (Nat.le_refl 0) (Nat.le_refl 0) H
theorem tX4_isDigitNext_0 {n : Nat} {ad : Nat → Nat} {h0 : Hp} {cs : Nat → Nat → Int32} {pm : Nat → Nat → Nat} (L : Lay n ad h0) {Q : Nat → Option Value → Hp → Prop}  (H : (((cs (gSc) 2) ≤ (cs (gSc) 4) → Q 0 (some (.int (nI 0))) (HN h0 ad cs pm)) ∧ (¬ (cs (gSc) 2) ≤ (cs (gSc) 4) → (∃ j_2 : Nat, cs (gSc) 4 = nI j_2 ∧ j_2 < 60 ∧ ((((cs (gSg) j_2) < (nI 48) → Q 0 (some (.int (nI 0))) (HN h0 ad cs pm)) ∧ (¬ (cs (gSg) j_2) < (nI 48) → (((nI 57) < (cs (gSg) j_2) → Q 0 (some (.int (nI 0))) (HN h0 ad cs pm)) ∧ (¬ (nI 57) < (cs (gSg) j_2) → Q 0 (some (.int (nI 1))) (HN h0 ad cs pm)))))))))) : Wm mX4_isDigitNext 0 0 0 Q 0 [some (.ref (ad (gSc)))] [] (HN h0 ad cs pm) 0 0 := by
  refine rl_aload_n dX4_isDigitNext_0 rfl rfl ?_
  refine rt_getI (k := 4) cfX4 dX4_isDigitNext_1 flX4_26 (by decide) rfl (lSc L) nzSc ?_
  refine rl_aload_n dX4_isDigitNext_4 rfl rfl ?_
  refine rt_getI (k := 2) cfX4 dX4_isDigitNext_5 flX4_22 (by decide) rfl (lSc L) nzSc ?_
  refine rl_icmp_ge (tgt := 43) dX4_isDigitNext_8 (by decide) (fun c_1 => ?_) (fun c_1 => ?_)
  · have H := H.1 c_1
    refine rl_iconst (v := nI 0) dX4_isDigitNext_43 (by decide) ?_
    exact rl_zret dX4_isDigitNext_44 rfl rfl (Nat.le_refl 0) (Nat.le_refl 0) H
  · have H := H.2 c_1
    refine rl_aload_n dX4_isDigitNext_11 rfl rfl ?_
    refine rt_getP (k := 0) cfX4 dX4_isDigitNext_12 flX4_9 (by decide) rfl (lSc L) (rSc0 L) naSc ?_
    refine rl_aload_n dX4_isDigitNext_15 rfl rfl ?_
    refine rt_getI (k := 4) cfX4 dX4_isDigitNext_16 flX4_26 (by decide) rfl (lSc L) nzSc ?_
    obtain ⟨j_2, e_3, b_4, H⟩ := H
    refine rt_iald (j := j_2) dX4_isDigitNext_19 (lSg L) nzSg e_3 b_4 (by decide) ?_
    refine rl_bipush (v := nI 48) dX4_isDigitNext_20 (by decide) ?_
    refine rl_icmp_lt (tgt := 43) dX4_isDigitNext_22 (by decide) (fun c_5 => ?_) (fun c_5 => ?_)
    · have H := H.1 c_5
      refine rl_iconst (v := nI 0) dX4_isDigitNext_43 (by decide) ?_
      exact rl_zret dX4_isDigitNext_44 rfl rfl (Nat.le_refl 0) (Nat.le_refl 0) H
    · have H := H.2 c_5
      refine rl_aload_n dX4_isDigitNext_25 rfl rfl ?_
      refine rt_getP (k := 0) cfX4 dX4_isDigitNext_26 flX4_9 (by decide) rfl (lSc L) (rSc0 L) naSc ?_
      refine rl_aload_n dX4_isDigitNext_29 rfl rfl ?_
      refine rt_getI (k := 4) cfX4 dX4_isDigitNext_30 flX4_26 (by decide) rfl (lSc L) nzSc ?_
      refine rt_iald (j := j_2) dX4_isDigitNext_33 (lSg L) nzSg e_3 b_4 (by decide) ?_
      refine rl_bipush (v := nI 57) dX4_isDigitNext_34 (by decide) ?_
      refine rl_icmp_gt (tgt := 43) dX4_isDigitNext_36 (by decide) (fun c_6 => ?_) (fun c_6 => ?_)
      · have H := H.1 c_6
        refine rl_iconst (v := nI 0) dX4_isDigitNext_43 (by decide) ?_
        exact rl_zret dX4_isDigitNext_44 rfl rfl (Nat.le_refl 0) (Nat.le_refl 0) H
      · have H := H.2 c_6
        refine rl_iconst (v := nI 1) dX4_isDigitNext_39 (by decide) ?_
        refine rl_goto (tgt := 44) dX4_isDigitNext_40 (by decide) ?_
        exact rl_zret dX4_isDigitNext_44 rfl rfl (Nat.le_refl 0) (Nat.le_refl 0) H
theorem tX4_readDigit_0 {n : Nat} {ad : Nat → Nat} {h0 : Hp} {cs : Nat → Nat → Int32} {pm : Nat → Nat → Nat} (L : Lay n ad h0) {Q : Nat → Option Value → Hp → Prop}  (H : (∃ j_1 : Nat, cs (gSc) 4 = nI j_1 ∧ j_1 < 60 ∧ (Q 0 (some (.int ((cs (gSg) j_1) - (nI 48)))) (HN h0 ad (up2 cs (gSc) 4 ((cs (gSc) 4) + (nI 1))) pm)))) : Wm mX4_readDigit 0 0 0 Q 0 [some (.ref (ad (gSc))), none] [] (HN h0 ad cs pm) 0 0 := by
  refine rl_aload_n dX4_readDigit_0 rfl rfl ?_
  refine rt_getP (k := 0) cfX4 dX4_readDigit_1 flX4_9 (by decide) rfl (lSc L) (rSc0 L) naSc ?_
  refine rl_aload_n dX4_readDigit_4 rfl rfl ?_
  refine rt_getI (k := 4) cfX4 dX4_readDigit_5 flX4_26 (by decide) rfl (lSc L) nzSc ?_
  obtain ⟨j_1, e_2, b_3, H⟩ := H
  refine rt_iald (j := j_1) dX4_readDigit_8 (lSg L) nzSg e_2 b_3 (by decide) ?_
  refine rl_bipush (v := nI 48) dX4_readDigit_9 (by decide) ?_
  refine rl_isub dX4_readDigit_11 ?_
  refine rl_istore_n (L' := [some (.ref (ad (gSc))), some (.int ((cs (gSg) j_1) - (nI 48)))]) dX4_readDigit_12 rfl (Nat.le_of_ble_eq_true rfl) rfl ?_
  refine rl_aload_n dX4_readDigit_13 rfl rfl ?_
  refine rl_dup dX4_readDigit_14 rfl ?_
  refine rt_getI (k := 4) cfX4 dX4_readDigit_15 flX4_26 (by decide) rfl (lSc L) nzSc ?_
  refine rl_iconst (v := nI 1) dX4_readDigit_18 (by decide) ?_
  refine rl_iadd dX4_readDigit_19 ?_
  refine rt_putI (k := 4) L.2.1 cfX4 dX4_readDigit_20 flX4_26 (by decide) rfl (lSc L) nzSc (Or.inl rfl) ?_
  refine rl_iload_n dX4_readDigit_23 rfl rfl ?_
  exact rl_iret dX4_readDigit_24 rfl (Nat.le_refl 0) (Nat.le_refl 0) H
theorem tX4_readNumberBehind_0 {n : Nat} {ad : Nat → Nat} {h0 : Hp} {cs : Nat → Nat → Int32} {pm : Nat → Nat → Nat} (L : Lay n ad h0) {Q : Nat → Option Value → Hp → Prop} {i2 : Nat} {x1 : Int32} (H : CKi mX4_readSign 0 0 0 [some (.ref (ad (gSc))), some (.int x1)] (HN h0 ad cs pm) (fun v h' => Wm mX4_readNumberBehind 1 0 0 Q 5 [some (.ref (ad (gSc))), none, some (.ref (ad (gCm i2))), none] [.int v] h' 0 0)) : Wm mX4_readNumberBehind 1 0 0 Q 0 [some (.ref (ad (gSc))), some (.int x1), some (.ref (ad (gCm i2))), none] [] (HN h0 ad cs pm) 0 0 := by
  refine rl_aload_n dX4_readNumberBehind_0 rfl rfl ?_
  refine rl_iload_n dX4_readNumberBehind_1 rfl rfl ?_
  exact rl_callV (As := [.int x1]) (rest := []) mfX4_readSign dX4_readNumberBehind_2 lkX4_36 (lSc L).K (by decide) (Nat.le_of_ble_eq_true rfl) (Nat.le_refl _) (Nat.le_refl _) rfl (Nat.le_of_ble_eq_true rfl) rfl rfl (fun Qc k => H Qc (fun v h' w => k (some (.int v)) h' (rl_wk (L' := [some (.ref (ad (gSc))), none, some (.ref (ad (gCm i2))), none]) ⟨rfl, ⟨rfl, trivial⟩⟩ w)))
theorem tX4_readNumberBehind_5 {n : Nat} {ad : Nat → Nat} {h0 : Hp} {cs : Nat → Nat → Int32} {pm : Nat → Nat → Nat} (L : Lay n ad h0) {Q : Nat → Option Value → Hp → Prop} {i2 : Nat} {xs0 : Int32} (H : ((¬ xs0 = 0 → i2 < 30 ∧ Wm mX4_readNumberBehind 1 0 0 Q 17 [some (.ref (ad (gSc))), none, some (.ref (ad (gCm i2))), some (.int (nI 0))] [] (HN h0 ad (up2 cs (gCm i2) 3 (nI 0)) pm) 0 0) ∧ (xs0 = 0 → Q 0 (some (.int (nI 0))) (HN h0 ad cs pm)))) : Wm mX4_readNumberBehind 1 0 0 Q 5 [some (.ref (ad (gSc))), none, some (.ref (ad (gCm i2))), none] [.int xs0] (HN h0 ad cs pm) 0 0 := by
  refine rl_if_ne (tgt := 10) dX4_readNumberBehind_5 (by decide) (fun c_1 => ?_) (fun c_1 => ?_)
  · have H := H.1 c_1
    refine rl_iconst (v := nI 0) dX4_readNumberBehind_10 (by decide) ?_
    refine rl_istore_n (L' := [some (.ref (ad (gSc))), none, some (.ref (ad (gCm i2))), some (.int (nI 0))]) dX4_readNumberBehind_11 rfl (Nat.le_of_ble_eq_true rfl) rfl ?_
    refine rl_aload_n dX4_readNumberBehind_12 rfl rfl ?_
    refine rl_iconst (v := nI 0) dX4_readNumberBehind_13 (by decide) ?_
    obtain ⟨o_2, H⟩ := H
    refine rt_putI (k := 3) L.2.1 cfX0 dX4_readNumberBehind_14 flX4_67 (by decide) rfl (lCm L o_2) nzCm (Or.inl rfl) ?_
    exact H
  · have H := H.2 c_1
    refine rl_iconst (v := nI 0) dX4_readNumberBehind_8 (by decide) ?_
    exact rl_zret dX4_readNumberBehind_9 rfl rfl (Nat.le_refl 0) (Nat.le_refl 0) H
theorem tX4_readNumberBehind_17 {n : Nat} {ad : Nat → Nat} {h0 : Hp} {cs : Nat → Nat → Int32} {pm : Nat → Nat → Nat} (L : Lay n ad h0) {Q : Nat → Option Value → Hp → Prop} {i2 : Nat} {x3 : Int32} (H : (((nI 3) ≤ x3 → Wm mX4_readNumberBehind 1 0 0 Q 51 [none, none, none, some (.int x3)] [] (HN h0 ad cs pm) 0 0) ∧ (¬ (nI 3) ≤ x3 → CKi mX4_isDigitNext 0 0 0 [some (.ref (ad (gSc)))] (HN h0 ad cs pm) (fun v h' => Wm mX4_readNumberBehind 1 0 0 Q 26 [some (.ref (ad (gSc))), none, some (.ref (ad (gCm i2))), some (.int x3)] [.int v] h' 0 0)))) : Wm mX4_readNumberBehind 1 0 0 Q 17 [some (.ref (ad (gSc))), none, some (.ref (ad (gCm i2))), some (.int x3)] [] (HN h0 ad cs pm) 0 0 := by
  refine rl_iload_n dX4_readNumberBehind_17 rfl rfl ?_
  refine rl_iconst (v := nI 3) dX4_readNumberBehind_18 (by decide) ?_
  refine rl_icmp_ge (tgt := 51) dX4_readNumberBehind_19 (by decide) (fun c_1 => ?_) (fun c_1 => ?_)
  · have H := H.1 c_1
    refine rl_wk (L' := [none, none, none, some (.int x3)]) ⟨rfl, trivial⟩ ?_
    exact H
  · have H := H.2 c_1
    refine rl_aload_n dX4_readNumberBehind_22 rfl rfl ?_
    exact rl_callV (As := []) (rest := []) mfX4_isDigitNext dX4_readNumberBehind_23 lkX4_53 (lSc L).K (by decide) (Nat.le_of_ble_eq_true rfl) (Nat.le_refl _) (Nat.le_refl _) rfl (Nat.le_of_ble_eq_true rfl) rfl rfl (fun Qc k => H Qc (fun v h' w => k (some (.int v)) h' w))
theorem tX4_readNumberBehind_26 {n : Nat} {ad : Nat → Nat} {h0 : Hp} {cs : Nat → Nat → Int32} {pm : Nat → Nat → Nat} (L : Lay n ad h0) {Q : Nat → Option Value → Hp → Prop} {i2 : Nat} {x3 xs0 : Int32} (H : ((xs0 = 0 → Wm mX4_readNumberBehind 1 0 0 Q 51 [none, none, none, some (.int x3)] [] (HN h0 ad cs pm) 0 0) ∧ (¬ xs0 = 0 → i2 < 30 ∧ CKi mX4_readDigit 0 0 0 [some (.ref (ad (gSc))), none] (HN h0 ad cs pm) (fun v h' => Wm mX4_readNumberBehind 1 0 0 Q 41 [some (.ref (ad (gSc))), none, some (.ref (ad (gCm i2))), some (.int x3)] [.int v, .int ((cs (gCm i2) 3) * (nI 10)), .ref (ad (gCm i2))] h' 0 0)))) : Wm mX4_readNumberBehind 1 0 0 Q 26 [some (.ref (ad (gSc))), none, some (.ref (ad (gCm i2))), some (.int x3)] [.int xs0] (HN h0 ad cs pm) 0 0 := by
  refine rl_if_eq (tgt := 51) dX4_readNumberBehind_26 (by decide) (fun c_1 => ?_) (fun c_1 => ?_)
  · have H := H.1 c_1
    refine rl_wk (L' := [none, none, none, some (.int x3)]) ⟨rfl, trivial⟩ ?_
    exact H
  · have H := H.2 c_1
    refine rl_aload_n dX4_readNumberBehind_29 rfl rfl ?_
    refine rl_aload_n dX4_readNumberBehind_30 rfl rfl ?_
    obtain ⟨o_2, H⟩ := H
    refine rt_getI (k := 3) cfX0 dX4_readNumberBehind_31 flX4_67 (by decide) rfl (lCm L o_2) nzCm ?_
    refine rl_bipush (v := nI 10) dX4_readNumberBehind_34 (by decide) ?_
    refine rl_imul dX4_readNumberBehind_36 ?_
    refine rl_aload_n dX4_readNumberBehind_37 rfl rfl ?_
    exact rl_callV (As := []) (rest := [.int ((cs (gCm i2) 3) * (nI 10)), .ref (ad (gCm i2))]) mfX4_readDigit dX4_readNumberBehind_38 lkX4_57 (lSc L).K (by decide) (Nat.le_of_ble_eq_true rfl) (Nat.le_refl _) (Nat.le_refl _) rfl (Nat.le_of_ble_eq_true rfl) rfl rfl (fun Qc k => H Qc (fun v h' w => k (some (.int v)) h' w))
theorem tX4_readNumberBehind_41 {n : Nat} {ad : Nat → Nat} {h0 : Hp} {cs : Nat → Nat → Int32} {pm : Nat → Nat → Nat} (L : Lay n ad h0) {Q : Nat → Option Value → Hp → Prop} {i2 is0 : Nat} {x3 xs1 xs2 : Int32} (H : is0 < 30 ∧ Wm mX4_readNumberBehind 1 0 0 Q 17 [some (.ref (ad (gSc))), none, some (.ref (ad (gCm i2))), some (.int (x3 + nI 1))] [] (HN h0 ad (up2 cs (gCm is0) 3 (xs1 + xs2)) pm) 0 0) : Wm mX4_readNumberBehind 1 0 0 Q 41 [some (.ref (ad (gSc))), none, some (.ref (ad (gCm i2))), some (.int x3)] [.int xs2, .int xs1, .ref (ad (gCm is0))] (HN h0 ad cs pm) 0 0 := by
  refine rl_iadd dX4_readNumberBehind_41 ?_
  obtain ⟨o_1, H⟩ := H
  refine rt_putI (k := 3) L.2.1 cfX0 dX4_readNumberBehind_42 flX4_67 (by decide) rfl (lCm L o_1) nzCm (Or.inl rfl) ?_
  refine rl_iinc (v := x3 + nI 1) (L' := [some (.ref (ad (gSc))), none, some (.ref (ad (gCm i2))), some (.int (x3 + nI 1))]) dX4_readNumberBehind_45 rfl (congrArg (fun z => x3 + z) (by decide)) (Nat.le_of_ble_eq_true rfl) rfl ?_
  refine rl_goto (tgt := 17) dX4_readNumberBehind_48 (by decide) ?_
  exact H
theorem tX4_readNumberBehind_51 {n : Nat} {ad : Nat → Nat} {h0 : Hp} {cs : Nat → Nat → Int32} {pm : Nat → Nat → Nat} (L : Lay n ad h0) {Q : Nat → Option Value → Hp → Prop} {x3 : Int32} (H : ((x3 ≤ 0 → Q 0 (some (.int (nI 0))) (HN h0 ad cs pm)) ∧ (¬ x3 ≤ 0 → Q 0 (some (.int (nI 1))) (HN h0 ad cs pm)))) : Wm mX4_readNumberBehind 1 0 0 Q 51 [none, none, none, some (.int x3)] [] (HN h0 ad cs pm) 0 0 := by
  refine rl_iload_n dX4_readNumberBehind_51 rfl rfl ?_
  refine rl_if_le (tgt := 59) dX4_readNumberBehind_52 (by decide) (fun c_1 => ?_) (fun c_1 => ?_)
  · have H := H.1 c_1
    refine rl_iconst (v := nI 0) dX4_readNumberBehind_59 (by decide) ?_
    exact rl_zret dX4_readNumberBehind_60 rfl rfl (Nat.le_refl 0) (Nat.le_refl 0) H
  · have H := H.2 c_1
    refine rl_iconst (v := nI 1) dX4_readNumberBehind_55 (by decide) ?_
    refine rl_goto (tgt := 60) dX4_readNumberBehind_56 (by decide) ?_
    exact rl_zret dX4_readNumberBehind_60 rfl rfl (Nat.le_refl 0) (Nat.le_refl 0) H
theorem tX4_readSecondSite_0 {n : Nat} {ad : Nat → Nat} {h0 : Hp} {cs : Nat → Nat → Int32} {pm : Nat → Nat → Nat} (L : Lay n ad h0) {Q : Nat → Option Value → Hp → Prop} {i1 : Nat} (H : CKi mX4_readSign 0 0 0 [some (.ref (ad (gSc))), some (.int (nI 62))] (HN h0 ad cs pm) (fun v h' => Wm mX4_readSecondSite 1 0 0 Q 6 [some (.ref (ad (gSc))), some (.ref (ad (gCm i1)))] [.int v] h' 0 0)) : Wm mX4_readSecondSite 1 0 0 Q 0 [some (.ref (ad (gSc))), some (.ref (ad (gCm i1)))] [] (HN h0 ad cs pm) 0 0 := by
  refine rl_aload_n dX4_readSecondSite_0 rfl rfl ?_
  refine rl_bipush (v := nI 62) dX4_readSecondSite_1 (by decide) ?_
  exact rl_callV (As := [.int (nI 62)]) (rest := []) mfX4_readSign dX4_readSecondSite_3 lkX4_36 (lSc L).K (by decide) (Nat.le_of_ble_eq_true rfl) (Nat.le_refl _) (Nat.le_refl _) rfl (Nat.le_of_ble_eq_true rfl) rfl rfl (fun Qc k => H Qc (fun v h' w => k (some (.int v)) h' w))
theorem tX4_readSecondSite_6 {n : Nat} {ad : Nat → Nat} {h0 : Hp} {cs : Nat → Nat → Int32} {pm : Nat → Nat → Nat} (L : Lay n ad h0) {Q : Nat → Option Value → Hp → Prop} {i1 : Nat} {xs0 : Int32} (H : ((xs0 = 0 → Q 0 (some (.int (nI 0))) (HN h0 ad cs pm)) ∧ (¬ xs0 = 0 → CKi mX4_isDigitNext 0 0 0 [some (.ref (ad (gSc)))] (HN h0 ad cs pm) (fun v h' => Wm mX4_readSecondSite 1 0 0 Q 13 [some (.ref (ad (gSc))), some (.ref (ad (gCm i1)))] [.int v] h' 0 0)))) : Wm mX4_readSecondSite 1 0 0 Q 6 [some (.ref (ad (gSc))), some (.ref (ad (gCm i1)))] [.int xs0] (HN h0 ad cs pm) 0 0 := by
  refine rl_if_eq (tgt := 16) dX4_readSecondSite_6 (by decide) (fun c_1 => ?_) (fun c_1 => ?_)
  · have H := H.1 c_1
    refine rl_iconst (v := nI 0) dX4_readSecondSite_16 (by decide) ?_
    exact rl_zret dX4_readSecondSite_17 rfl rfl (Nat.le_refl 0) (Nat.le_refl 0) H
  · have H := H.2 c_1
    refine rl_aload_n dX4_readSecondSite_9 rfl rfl ?_
    exact rl_callV (As := []) (rest := []) mfX4_isDigitNext dX4_readSecondSite_10 lkX4_53 (lSc L).K (by decide) (Nat.le_of_ble_eq_true rfl) (Nat.le_refl _) (Nat.le_refl _) rfl (Nat.le_of_ble_eq_true rfl) rfl rfl (fun Qc k => H Qc (fun v h' w => k (some (.int v)) h' w))
theorem tX4_readSecondSite_13 {n : Nat} {ad : Nat → Nat} {h0 : Hp} {cs : Nat → Nat → Int32} {pm : Nat → Nat → Nat} (L : Lay n ad h0) {Q : Nat → Option Value → Hp → Prop} {i1 : Nat} {xs0 : Int32} (H : ((¬ xs0 = 0 → CKi mX4_readDigit 0 0 0 [some (.ref (ad (gSc))), none] (HN h0 ad cs pm) (fun v h' => Wm mX4_readSecondSite 1 0 0 Q 23 [none, none] [.int v, .ref (ad (gCm i1))] h' 0 0)) ∧ (xs0 = 0 → Q 0 (some (.int (nI 0))) (HN h0 ad cs pm)))) : Wm mX4_readSecondSite 1 0 0 Q 13 [some (.ref (ad (gSc))), some (.ref (ad (gCm i1)))] [.int xs0] (HN h0 ad cs pm) 0 0 := by
  refine rl_if_ne (tgt := 18) dX4_readSecondSite_13 (by decide) (fun c_1 => ?_) (fun c_1 => ?_)
  · have H := H.1 c_1
    refine rl_aload_n dX4_readSecondSite_18 rfl rfl ?_
    refine rl_aload_n dX4_readSecondSite_19 rfl rfl ?_
    exact rl_callV (As := []) (rest := [.ref (ad (gCm i1))]) mfX4_readDigit dX4_readSecondSite_20 lkX4_57 (lSc L).K (by decide) (Nat.le_of_ble_eq_true rfl) (Nat.le_refl _) (Nat.le_refl _) rfl (Nat.le_of_ble_eq_true rfl) rfl rfl (fun Qc k => H Qc (fun v h' w => k (some (.int v)) h' (rl_wk (L' := [none, none]) trivial w)))
  · have H := H.2 c_1
    refine rl_iconst (v := nI 0) dX4_readSecondSite_16 (by decide) ?_
    exact rl_zret dX4_readSecondSite_17 rfl rfl (Nat.le_refl 0) (Nat.le_refl 0) H
theorem tX4_readSecondSite_23 {n : Nat} {ad : Nat → Nat} {h0 : Hp} {cs : Nat → Nat → Int32} {pm : Nat → Nat → Nat} (L : Lay n ad h0) {Q : Nat → Option Value → Hp → Prop} {is0 : Nat} {xs1 : Int32} (H : is0 < 30 ∧ Q 0 (some (.int (nI 1))) (HN h0 ad (up2 cs (gCm is0) 2 xs1) pm)) : Wm mX4_readSecondSite 1 0 0 Q 23 [none, none] [.int xs1, .ref (ad (gCm is0))] (HN h0 ad cs pm) 0 0 := by
  obtain ⟨o_1, H⟩ := H
  refine rt_putI (k := 2) L.2.1 cfX0 dX4_readSecondSite_23 flX4_64 (by decide) rfl (lCm L o_1) nzCm (Or.inl rfl) ?_
  refine rl_iconst (v := nI 1) dX4_readSecondSite_26 (by decide) ?_
  exact rl_zret dX4_readSecondSite_27 rfl rfl (Nat.le_refl 0) (Nat.le_refl 0) H
theorem tX1_save_0 {n : Nat} {ad : Nat → Nat} {h0 : Hp} {cs : Nat → Nat → Int32} {pm : Nat → Nat → Nat} (L : Lay n ad h0) {Q : Nat → Option Value → Hp → Prop} {k1 : Nat} (H : CKr mX1_place 0 0 0 [some (.ref (ad (gHi))), some (.int (cs (gHi) 2))] (HN h0 ad cs pm) (fun v h' => Wm mX1_save 5 0 0 Q 8 [none, some (.ref (ad (gSt k1)))] [.ref v] h' 0 0)) : Wm mX1_save 5 0 0 Q 0 [some (.ref (ad (gHi))), some (.ref (ad (gSt k1)))] [] (HN h0 ad cs pm) 0 0 := by
  refine rl_aload_n dX1_save_0 rfl rfl ?_
  refine rl_aload_n dX1_save_1 rfl rfl ?_
  refine rt_getI (k := 2) cfX1 dX1_save_2 flX1_24 (by decide) rfl (lHi L) nzHi ?_
  exact rl_callV (As := [.int (cs (gHi) 2)]) (rest := []) mfX1_place dX1_save_5 lkX1_27 (lHi L).K (by decide) (Nat.le_of_ble_eq_true rfl) (Nat.le_refl _) (Nat.le_refl _) rfl (Nat.le_of_ble_eq_true rfl) rfl rfl (fun Qc k => H Qc (fun v h' w => k (some (.ref v)) h' (rl_wk (L' := [none, some (.ref (ad (gSt k1)))]) ⟨rfl, trivial⟩ w)))
theorem tX1_save_8 {n : Nat} {ad : Nat → Nat} {h0 : Hp} {cs : Nat → Nat → Int32} {pm : Nat → Nat → Nat} (L : Lay n ad h0) {Q : Nat → Option Value → Hp → Prop} {k1 ks0 : Nat} (H : ks0 < 7 ∧ CKv mX6_copyFrom 4 0 0 [some (.ref (ad (gSt ks0))), some (.ref (ad (gSt k1))), none] (HN h0 ad cs pm) (fun h' => Wm mX1_save 5 0 0 Q 12 [none, none] [] h' 0 0)) : Wm mX1_save 5 0 0 Q 8 [none, some (.ref (ad (gSt k1)))] [.ref (ad (gSt ks0))] (HN h0 ad cs pm) 0 0 := by
  refine rl_aload_n dX1_save_8 rfl rfl ?_
  obtain ⟨o_1, H⟩ := H
  exact rl_callV (As := [.ref (ad (gSt k1))]) (rest := []) mfX6_copyFrom dX1_save_9 lkX1_31 (lSt L o_1).K (by decide) (Nat.le_of_ble_eq_true rfl) (Nat.le_refl _) (Nat.le_refl _) rfl (Nat.le_of_ble_eq_true rfl) rfl rfl (fun Qc k => H Qc (fun h' w => k none h' (rl_wk (L' := [none, none]) trivial w)))
theorem tX1_save_12 {n : Nat} {ad : Nat → Nat} {h0 : Hp} {cs : Nat → Nat → Int32} {pm : Nat → Nat → Nat} (L : Lay n ad h0) {Q : Nat → Option Value → Hp → Prop}  (H : Q 0 none (HN h0 ad cs pm)) : Wm mX1_save 5 0 0 Q 12 [none, none] [] (HN h0 ad cs pm) 0 0 := by
  exact rl_vret dX1_save_12 rfl (Nat.le_refl 0) (Nat.le_refl 0) H
theorem tX1_place_0 {n : Nat} {ad : Nat → Nat} {h0 : Hp} {cs : Nat → Nat → Int32} {pm : Nat → Nat → Nat} (L : Lay n ad h0) {Q : Nat → Option Value → Hp → Prop} {x1 : Int32} (H : (∃ j_1 : Nat, ((cs (gHi) 1) + x1) - ((cs (gHi) 1) + x1) / (nI 6) * (nI 6) = nI j_1 ∧ j_1 < 6 ∧ (Q 0 (some (.ref (ad (gSt (1 + j_1))))) (HN h0 ad cs pm)))) : Wm mX1_place 0 0 0 Q 0 [some (.ref (ad (gHi))), some (.int x1)] [] (HN h0 ad cs pm) 0 0 := by
  refine rl_aload_n dX1_place_0 rfl rfl ?_
  refine rt_getP (k := 0) cfX1 dX1_place_1 flX1_11 (by decide) rfl (lHi L) (rHi L) naHi ?_
  refine rl_aload_n dX1_place_4 rfl rfl ?_
  refine rt_getI (k := 1) cfX1 dX1_place_5 flX1_20 (by decide) rfl (lHi L) nzHi ?_
  refine rl_iload_n dX1_place_8 rfl rfl ?_
  refine rl_iadd dX1_place_9 ?_
  refine rl_bipush (v := nI 6) dX1_place_10 (by decide) ?_
  refine rl_irem dX1_place_12 (by decide) ?_
  obtain ⟨j_1, e_2, b_3, H⟩ := H
  refine rt_aald (ci := 6) (j := j_1) dX1_place_13 rfl (lRi L) e_2 b_3 (by decide) (rRi L b_3) naRi ?_
  exact rl_aret dX1_place_14 rfl (Nat.le_refl 0) (Nat.le_refl 0) H
theorem tX7_copyFrom_0 {n : Nat} {ad : Nat → Nat} {h0 : Hp} {cs : Nat → Nat → Int32} {pm : Nat → Nat → Nat} (L : Lay n ad h0) {Q : Nat → Option Value → Hp → Prop} {k0 k1 w0 w1 : Nat} (H : Wm mX7_copyFrom 2 0 0 Q 2 [some (.ref (ad (gVw k0 w0))), some (.ref (ad (gVw k1 w1))), some (.int (nI 0))] [] (HN h0 ad cs pm) 0 0) : Wm mX7_copyFrom 2 0 0 Q 0 [some (.ref (ad (gVw k0 w0))), some (.ref (ad (gVw k1 w1))), none] [] (HN h0 ad cs pm) 0 0 := by
  refine rl_iconst (v := nI 0) dX7_copyFrom_0 (by decide) ?_
  refine rl_istore_n (L' := [some (.ref (ad (gVw k0 w0))), some (.ref (ad (gVw k1 w1))), some (.int (nI 0))]) dX7_copyFrom_1 rfl (Nat.le_of_ble_eq_true rfl) rfl ?_
  exact H
theorem tX7_copyFrom_2 {n : Nat} {ad : Nat → Nat} {h0 : Hp} {cs : Nat → Nat → Int32} {pm : Nat → Nat → Nat} (L : Lay n ad h0) {Q : Nat → Option Value → Hp → Prop} {k0 k1 w0 w1 : Nat} {x2 : Int32} (H : vVw n k0 w0 ∧ (((nI n) ≤ x2 → Q 0 none (HN h0 ad cs pm)) ∧ (¬ (nI n) ≤ x2 → (∃ j_3 : Nat, x2 = nI j_3 ∧ j_3 < n ∧ (vVw n k1 w1 ∧ CKv mX5_copyFrom 1 0 0 [some (.ref (ad (gRc k0 w0 j_3))), some (.ref (ad (gRc k1 w1 j_3)))] (HN h0 ad cs pm) (fun h' => Wm mX7_copyFrom 2 0 0 Q 26 [some (.ref (ad (gVw k0 w0))), some (.ref (ad (gVw k1 w1))), some (.int x2)] [] h' 0 0)))))) : Wm mX7_copyFrom 2 0 0 Q 2 [some (.ref (ad (gVw k0 w0))), some (.ref (ad (gVw k1 w1))), some (.int x2)] [] (HN h0 ad cs pm) 0 0 := by
  refine rl_iload_n dX7_copyFrom_2 rfl rfl ?_
  refine rl_aload_n dX7_copyFrom_3 rfl rfl ?_
  obtain ⟨o_1, H⟩ := H
  refine rt_getP (k := 0) cfX7 dX7_copyFrom_4 flX7_9 (by decide) rfl (lVw L o_1) (rVw L o_1) (naVw L o_1) ?_
  refine rt_alen (ci := 5) dX7_copyFrom_7 (lRa L o_1) rfl ?_
  refine rl_icmp_ge (tgt := 32) dX7_copyFrom_8 (by decide) (fun c_2 => ?_) (fun c_2 => ?_)
  · have H := H.1 c_2
    exact rl_vret dX7_copyFrom_32 rfl (Nat.le_refl 0) (Nat.le_refl 0) H
  · have H := H.2 c_2
    refine rl_aload_n dX7_copyFrom_11 rfl rfl ?_
    refine rt_getP (k := 0) cfX7 dX7_copyFrom_12 flX7_9 (by decide) rfl (lVw L o_1) (rVw L o_1) (naVw L o_1) ?_
    refine rl_iload_n dX7_copyFrom_15 rfl rfl ?_
    obtain ⟨j_3, e_4, b_5, H⟩ := H
    refine rt_aald (ci := 5) (j := j_3) dX7_copyFrom_16 rfl (lRa L o_1) e_4 b_5 (lay5 L) (rRa L o_1 b_5) (naRa L o_1) ?_
    refine rl_aload_n dX7_copyFrom_17 rfl rfl ?_
    obtain ⟨o_6, H⟩ := H
    refine rt_getP (k := 0) cfX7 dX7_copyFrom_18 flX7_9 (by decide) rfl (lVw L o_6) (rVw L o_6) (naVw L o_6) ?_
    refine rl_iload_n dX7_copyFrom_21 rfl rfl ?_
    refine rt_aald (ci := 5) (j := j_3) dX7_copyFrom_22 rfl (lRa L o_6) e_4 b_5 (lay5 L) (rRa L o_6 b_5) (naRa L o_6) ?_
    exact rl_callV (As := [.ref (ad (gRc k1 w1 j_3))]) (rest := []) mfX5_copyFrom dX7_copyFrom_23 lkX7_19 (lRc L ⟨o_1, b_5⟩).K (by decide) (Nat.le_of_ble_eq_true rfl) (Nat.le_refl _) (Nat.le_refl _) rfl (Nat.le_of_ble_eq_true rfl) rfl rfl (fun Qc k => H Qc (fun h' w => k none h' w))
theorem tX7_copyFrom_26 {n : Nat} {ad : Nat → Nat} {h0 : Hp} {cs : Nat → Nat → Int32} {pm : Nat → Nat → Nat} (L : Lay n ad h0) {Q : Nat → Option Value → Hp → Prop} {k0 k1 w0 w1 : Nat} {x2 : Int32} (H : Wm mX7_copyFrom 2 0 0 Q 2 [some (.ref (ad (gVw k0 w0))), some (.ref (ad (gVw k1 w1))), some (.int (x2 + nI 1))] [] (HN h0 ad cs pm) 0 0) : Wm mX7_copyFrom 2 0 0 Q 26 [some (.ref (ad (gVw k0 w0))), some (.ref (ad (gVw k1 w1))), some (.int x2)] [] (HN h0 ad cs pm) 0 0 := by
  refine rl_iinc (v := x2 + nI 1) (L' := [some (.ref (ad (gVw k0 w0))), some (.ref (ad (gVw k1 w1))), some (.int (x2 + nI 1))]) dX7_copyFrom_26 rfl (congrArg (fun z => x2 + z) (by decide)) (Nat.le_of_ble_eq_true rfl) rfl ?_
  refine rl_goto (tgt := 2) dX7_copyFrom_29 (by decide) ?_
  exact H
theorem tX5_copyFrom_0 {n : Nat} {ad : Nat → Nat} {h0 : Hp} {cs : Nat → Nat → Int32} {pm : Nat → Nat → Nat} (L : Lay n ad h0) {Q : Nat → Option Value → Hp → Prop} {k0 k1 o0 o1 w0 w1 : Nat} (H : vRc n k1 w1 o1 ∧ vRc n k0 w0 o0 ∧ Wm mX5_copyFrom 1 0 0 Q 38 [some (.ref (ad (gRc k0 w0 o0))), some (.ref (ad (gRc k1 w1 o1)))] [] (HN h0 ad (seR (up2 (up2 (up2 cs (gRc k0 w0 o0) 0 (cs (gRc k1 w1 o1) 0)) (gRc k0 w0 o0) 1 (cs (gRc k1 w1 o1) 1)) (gRc k0 w0 o0) 5 (cs (gRc k1 w1 o1) 5)) (gAr k0 w0 o0 0) (fun j => if j < 2 then (up2 (up2 (up2 cs (gRc k0 w0 o0) 0 (cs (gRc k1 w1 o1) 0)) (gRc k0 w0 o0) 1 (cs (gRc k1 w1 o1) 1)) (gRc k0 w0 o0) 5 (cs (gRc k1 w1 o1) 5)) (gAr k1 w1 o1 0) j else (up2 (up2 (up2 cs (gRc k0 w0 o0) 0 (cs (gRc k1 w1 o1) 0)) (gRc k0 w0 o0) 1 (cs (gRc k1 w1 o1) 1)) (gRc k0 w0 o0) 5 (cs (gRc k1 w1 o1) 5)) (gAr k0 w0 o0 0) j)) pm) 0 0) : Wm mX5_copyFrom 1 0 0 Q 0 [some (.ref (ad (gRc k0 w0 o0))), some (.ref (ad (gRc k1 w1 o1)))] [] (HN h0 ad cs pm) 0 0 := by
  refine rl_aload_n dX5_copyFrom_0 rfl rfl ?_
  refine rl_aload_n dX5_copyFrom_1 rfl rfl ?_
  obtain ⟨o_1, H⟩ := H
  refine rt_getI (k := 0) cfX5 dX5_copyFrom_2 flX5_24 (by decide) rfl (lRc L o_1) nzRc ?_
  obtain ⟨o_2, H⟩ := H
  refine rt_putI (k := 0) L.2.1 cfX5 dX5_copyFrom_5 flX5_24 (by decide) rfl (lRc L o_2) nzRc (Or.inl rfl) ?_
  refine rl_aload_n dX5_copyFrom_8 rfl rfl ?_
  refine rl_aload_n dX5_copyFrom_9 rfl rfl ?_
  refine rt_getIv (x := cs (gRc k1 w1 o1) 1) (k := 1) cfX5 dX5_copyFrom_10 flX5_28 (by decide) rfl (lRc L o_1) nzRc ((up2_k (by decide)).trans (rfl)) ?_
  refine rt_putI (k := 1) L.2.1 cfX5 dX5_copyFrom_13 flX5_28 (by decide) rfl (lRc L o_2) nzRc (Or.inl rfl) ?_
  refine rl_aload_n dX5_copyFrom_16 rfl rfl ?_
  refine rl_aload_n dX5_copyFrom_17 rfl rfl ?_
  refine rt_getIv (x := cs (gRc k1 w1 o1) 5) (k := 5) cfX5 dX5_copyFrom_18 flX5_31 (by decide) rfl (lRc L o_1) nzRc ((up2_k (by decide)).trans ((up2_k (by decide)).trans (rfl))) ?_
  refine rt_putI (k := 5) L.2.1 cfX5 dX5_copyFrom_21 flX5_31 (by decide) rfl (lRc L o_2) nzRc (Or.inl rfl) ?_
  refine rl_aload_n dX5_copyFrom_24 rfl rfl ?_
  refine rt_getP (k := 2) cfX5 dX5_copyFrom_25 flX5_9 (by decide) rfl (lRc L o_1) (rRc2 L o_1) (naRc L o_1) ?_
  refine rl_iconst (v := nI 0) dX5_copyFrom_28 (by decide) ?_
  refine rl_aload_n dX5_copyFrom_29 rfl rfl ?_
  refine rt_getP (k := 2) cfX5 dX5_copyFrom_30 flX5_9 (by decide) rfl (lRc L o_2) (rRc2 L o_2) (naRc L o_2) ?_
  refine rl_iconst (v := nI 0) dX5_copyFrom_33 (by decide) ?_
  refine rl_iconst (v := nI 2) dX5_copyFrom_34 (by decide) ?_
  refine rt_copy (len := 2) L.2.1 dX5_copyFrom_35 lkX5_34 (by decide) (Nat.le_of_ble_eq_true rfl) (lAr0 L o_1) (lAr0 L o_2) nzAr nzAr rfl (by decide) ac1 ac2 inSystem ?_
  exact H
theorem tX5_copyFrom_38 {n : Nat} {ad : Nat → Nat} {h0 : Hp} {cs : Nat → Nat → Int32} {pm : Nat → Nat → Nat} (L : Lay n ad h0) {Q : Nat → Option Value → Hp → Prop} {k0 k1 o0 o1 w0 w1 : Nat} (H : vRc n k1 w1 o1 ∧ vRc n k0 w0 o0 ∧ Wm mX5_copyFrom 1 0 0 Q 52 [some (.ref (ad (gRc k0 w0 o0))), some (.ref (ad (gRc k1 w1 o1)))] [] (HN h0 ad (seR cs (gAr k0 w0 o0 1) (fun j => if j < 2 then cs (gAr k1 w1 o1 1) j else cs (gAr k0 w0 o0 1) j)) pm) 0 0) : Wm mX5_copyFrom 1 0 0 Q 38 [some (.ref (ad (gRc k0 w0 o0))), some (.ref (ad (gRc k1 w1 o1)))] [] (HN h0 ad cs pm) 0 0 := by
  refine rl_aload_n dX5_copyFrom_38 rfl rfl ?_
  obtain ⟨o_1, H⟩ := H
  refine rt_getP (k := 3) cfX5 dX5_copyFrom_39 flX5_15 (by decide) rfl (lRc L o_1) (rRc3 L o_1) (naRc L o_1) ?_
  refine rl_iconst (v := nI 0) dX5_copyFrom_42 (by decide) ?_
  refine rl_aload_n dX5_copyFrom_43 rfl rfl ?_
  obtain ⟨o_2, H⟩ := H
  refine rt_getP (k := 3) cfX5 dX5_copyFrom_44 flX5_15 (by decide) rfl (lRc L o_2) (rRc3 L o_2) (naRc L o_2) ?_
  refine rl_iconst (v := nI 0) dX5_copyFrom_47 (by decide) ?_
  refine rl_iconst (v := nI 2) dX5_copyFrom_48 (by decide) ?_
  refine rt_copy (len := 2) L.2.1 dX5_copyFrom_49 lkX5_34 (by decide) (Nat.le_of_ble_eq_true rfl) (lAr1 L o_1) (lAr1 L o_2) nzAr nzAr rfl (by decide) ac1 ac2 inSystem ?_
  exact H
theorem tX5_copyFrom_52 {n : Nat} {ad : Nat → Nat} {h0 : Hp} {cs : Nat → Nat → Int32} {pm : Nat → Nat → Nat} (L : Lay n ad h0) {Q : Nat → Option Value → Hp → Prop} {k0 k1 o0 o1 w0 w1 : Nat} (H : vRc n k1 w1 o1 ∧ vRc n k0 w0 o0 ∧ Wm mX5_copyFrom 1 0 0 Q 67 [some (.ref (ad (gRc k0 w0 o0))), some (.ref (ad (gRc k1 w1 o1)))] [] (HN h0 ad (seR cs (gAr k0 w0 o0 2) (fun j => if j < 10 then cs (gAr k1 w1 o1 2) j else cs (gAr k0 w0 o0 2) j)) pm) 0 0) : Wm mX5_copyFrom 1 0 0 Q 52 [some (.ref (ad (gRc k0 w0 o0))), some (.ref (ad (gRc k1 w1 o1)))] [] (HN h0 ad cs pm) 0 0 := by
  refine rl_aload_n dX5_copyFrom_52 rfl rfl ?_
  obtain ⟨o_1, H⟩ := H
  refine rt_getP (k := 4) cfX5 dX5_copyFrom_53 flX5_18 (by decide) rfl (lRc L o_1) (rRc4 L o_1) (naRc L o_1) ?_
  refine rl_iconst (v := nI 0) dX5_copyFrom_56 (by decide) ?_
  refine rl_aload_n dX5_copyFrom_57 rfl rfl ?_
  obtain ⟨o_2, H⟩ := H
  refine rt_getP (k := 4) cfX5 dX5_copyFrom_58 flX5_18 (by decide) rfl (lRc L o_2) (rRc4 L o_2) (naRc L o_2) ?_
  refine rl_iconst (v := nI 0) dX5_copyFrom_61 (by decide) ?_
  refine rl_bipush (v := nI 10) dX5_copyFrom_62 (by decide) ?_
  refine rt_copy (len := 10) L.2.1 dX5_copyFrom_64 lkX5_34 (by decide) (Nat.le_of_ble_eq_true rfl) (lAr2 L o_1) (lAr2 L o_2) nzAr nzAr rfl (by decide) ac1 ac2 inSystem ?_
  exact H
theorem tX5_copyFrom_67 {n : Nat} {ad : Nat → Nat} {h0 : Hp} {cs : Nat → Nat → Int32} {pm : Nat → Nat → Nat} (L : Lay n ad h0) {Q : Nat → Option Value → Hp → Prop} {k0 k1 o0 o1 w0 w1 : Nat} (H : vRc n k1 w1 o1 ∧ vRc n k0 w0 o0 ∧ Wm mX5_copyFrom 1 0 0 Q 82 [none, none] [] (HN h0 ad (seR cs (gAr k0 w0 o0 3) (fun j => if j < 10 then cs (gAr k1 w1 o1 3) j else cs (gAr k0 w0 o0 3) j)) pm) 0 0) : Wm mX5_copyFrom 1 0 0 Q 67 [some (.ref (ad (gRc k0 w0 o0))), some (.ref (ad (gRc k1 w1 o1)))] [] (HN h0 ad cs pm) 0 0 := by
  refine rl_aload_n dX5_copyFrom_67 rfl rfl ?_
  obtain ⟨o_1, H⟩ := H
  refine rt_getP (k := 6) cfX5 dX5_copyFrom_68 flX5_21 (by decide) rfl (lRc L o_1) (rRc6 L o_1) (naRc L o_1) ?_
  refine rl_iconst (v := nI 0) dX5_copyFrom_71 (by decide) ?_
  refine rl_aload_n dX5_copyFrom_72 rfl rfl ?_
  obtain ⟨o_2, H⟩ := H
  refine rt_getP (k := 6) cfX5 dX5_copyFrom_73 flX5_21 (by decide) rfl (lRc L o_2) (rRc6 L o_2) (naRc L o_2) ?_
  refine rl_iconst (v := nI 0) dX5_copyFrom_76 (by decide) ?_
  refine rl_bipush (v := nI 10) dX5_copyFrom_77 (by decide) ?_
  refine rt_copy (len := 10) L.2.1 dX5_copyFrom_79 lkX5_34 (by decide) (Nat.le_of_ble_eq_true rfl) (lAr3 L o_1) (lAr3 L o_2) nzAr nzAr rfl (by decide) ac1 ac2 inSystem ?_
  refine rl_wk (L' := [none, none]) trivial ?_
  exact H
theorem tX5_copyFrom_82 {n : Nat} {ad : Nat → Nat} {h0 : Hp} {cs : Nat → Nat → Int32} {pm : Nat → Nat → Nat} (L : Lay n ad h0) {Q : Nat → Option Value → Hp → Prop}  (H : Q 0 none (HN h0 ad cs pm)) : Wm mX5_copyFrom 1 0 0 Q 82 [none, none] [] (HN h0 ad cs pm) 0 0 := by
  exact rl_vret dX5_copyFrom_82 rfl (Nat.le_refl 0) (Nat.le_refl 0) H
theorem tX2_copyFrom_0 {n : Nat} {ad : Nat → Nat} {h0 : Hp} {cs : Nat → Nat → Int32} {pm : Nat → Nat → Nat} (L : Lay n ad h0) {Q : Nat → Option Value → Hp → Prop} {k0 k1 l0 l1 : Nat} (H : (k1 < 7 ∧ l1 < 10) ∧ (k0 < 7 ∧ l0 < 10) ∧ Q 0 none (HN h0 ad (up2 (up2 (up2 (up2 (up2 cs (gLn k0 l0) 0 (cs (gLn k1 l1) 0)) (gLn k0 l0) 1 (cs (gLn k1 l1) 1)) (gLn k0 l0) 2 (cs (gLn k1 l1) 2)) (gLn k0 l0) 3 (cs (gLn k1 l1) 3)) (gLn k0 l0) 4 (cs (gLn k1 l1) 4)) pm)) : Wm mX2_copyFrom 0 0 0 Q 0 [some (.ref (ad (gLn k0 l0))), some (.ref (ad (gLn k1 l1)))] [] (HN h0 ad cs pm) 0 0 := by
  refine rl_aload_n dX2_copyFrom_0 rfl rfl ?_
  refine rl_aload_n dX2_copyFrom_1 rfl rfl ?_
  obtain ⟨o_1, H⟩ := H
  refine rt_getI (k := 0) cfX2 dX2_copyFrom_2 flX2_7 (by decide) rfl (lLn L o_1) nzLn ?_
  obtain ⟨o_2, H⟩ := H
  refine rt_putI (k := 0) L.2.1 cfX2 dX2_copyFrom_5 flX2_7 (by decide) rfl (lLn L o_2) nzLn (Or.inl rfl) ?_
  refine rl_aload_n dX2_copyFrom_8 rfl rfl ?_
  refine rl_aload_n dX2_copyFrom_9 rfl rfl ?_
  refine rt_getIv (x := cs (gLn k1 l1) 1) (k := 1) cfX2 dX2_copyFrom_10 flX2_13 (by decide) rfl (lLn L o_1) nzLn ((up2_k (by decide)).trans (rfl)) ?_
  refine rt_putI (k := 1) L.2.1 cfX2 dX2_copyFrom_13 flX2_13 (by decide) rfl (lLn L o_2) nzLn (Or.inl rfl) ?_
  refine rl_aload_n dX2_copyFrom_16 rfl rfl ?_
  refine rl_aload_n dX2_copyFrom_17 rfl rfl ?_
  refine rt_getIv (x := cs (gLn k1 l1) 2) (k := 2) cfX2 dX2_copyFrom_18 flX2_16 (by decide) rfl (lLn L o_1) nzLn ((up2_k (by decide)).trans ((up2_k (by decide)).trans (rfl))) ?_
  refine rt_putI (k := 2) L.2.1 cfX2 dX2_copyFrom_21 flX2_16 (by decide) rfl (lLn L o_2) nzLn (Or.inl rfl) ?_
  refine rl_aload_n dX2_copyFrom_24 rfl rfl ?_
  refine rl_aload_n dX2_copyFrom_25 rfl rfl ?_
  refine rt_getIv (x := cs (gLn k1 l1) 3) (k := 3) cfX2 dX2_copyFrom_26 flX2_19 (by decide) rfl (lLn L o_1) nzLn ((up2_k (by decide)).trans ((up2_k (by decide)).trans ((up2_k (by decide)).trans (rfl)))) ?_
  refine rt_putI (k := 3) L.2.1 cfX2 dX2_copyFrom_29 flX2_19 (by decide) rfl (lLn L o_2) nzLn (Or.inl rfl) ?_
  refine rl_aload_n dX2_copyFrom_32 rfl rfl ?_
  refine rl_aload_n dX2_copyFrom_33 rfl rfl ?_
  refine rt_getIv (x := cs (gLn k1 l1) 4) (k := 4) cfX2 dX2_copyFrom_34 flX2_22 (by decide) rfl (lLn L o_1) nzLn ((up2_k (by decide)).trans ((up2_k (by decide)).trans ((up2_k (by decide)).trans ((up2_k (by decide)).trans (rfl))))) ?_
  refine rt_putI (k := 4) L.2.1 cfX2 dX2_copyFrom_37 flX2_22 (by decide) rfl (lLn L o_2) nzLn (Or.inl rfl) ?_
  exact rl_vret dX2_copyFrom_40 rfl (Nat.le_refl 0) (Nat.le_refl 0) H
theorem tX3_copyFrom_0 {n : Nat} {ad : Nat → Nat} {h0 : Hp} {cs : Nat → Nat → Int32} {pm : Nat → Nat → Nat} (L : Lay n ad h0) {Q : Nat → Option Value → Hp → Prop} {k0 k1 m0 m1 : Nat} (H : (k1 < 7 ∧ m1 < 8) ∧ (k0 < 7 ∧ m0 < 8) ∧ CKv mX7_copyFrom 2 0 0 [some (.ref (ad (gVw k0 (5 + m0)))), some (.ref (ad (gVw k1 (5 + m1)))), none] (HN h0 ad (up2 (up2 (up2 cs (gMg k0 m0) 0 (cs (gMg k1 m1) 0)) (gMg k0 m0) 1 (cs (gMg k1 m1) 1)) (gMg k0 m0) 2 (cs (gMg k1 m1) 2)) pm) (fun h' => Wm mX3_copyFrom 3 0 0 Q 35 [none, none] [] h' 0 0)) : Wm mX3_copyFrom 3 0 0 Q 0 [some (.ref (ad (gMg k0 m0))), some (.ref (ad (gMg k1 m1)))] [] (HN h0 ad cs pm) 0 0 := by
  refine rl_aload_n dX3_copyFrom_0 rfl rfl ?_
  refine rl_aload_n dX3_copyFrom_1 rfl rfl ?_
  obtain ⟨o_1, H⟩ := H
  refine rt_getI (k := 0) cfX3 dX3_copyFrom_2 flX3_18 (by decide) rfl (lMg L o_1) nzMg ?_
  obtain ⟨o_2, H⟩ := H
  refine rt_putI (k := 0) L.2.1 cfX3 dX3_copyFrom_5 flX3_18 (by decide) rfl (lMg L o_2) nzMg (Or.inl rfl) ?_
  refine rl_aload_n dX3_copyFrom_8 rfl rfl ?_
  refine rl_aload_n dX3_copyFrom_9 rfl rfl ?_
  refine rt_getIv (x := cs (gMg k1 m1) 1) (k := 1) cfX3 dX3_copyFrom_10 flX3_22 (by decide) rfl (lMg L o_1) nzMg ((up2_k (by decide)).trans (rfl)) ?_
  refine rt_putI (k := 1) L.2.1 cfX3 dX3_copyFrom_13 flX3_22 (by decide) rfl (lMg L o_2) nzMg (Or.inl rfl) ?_
  refine rl_aload_n dX3_copyFrom_16 rfl rfl ?_
  refine rl_aload_n dX3_copyFrom_17 rfl rfl ?_
  refine rt_getIv (x := cs (gMg k1 m1) 2) (k := 2) cfX3 dX3_copyFrom_18 flX3_25 (by decide) rfl (lMg L o_1) nzMg ((up2_k (by decide)).trans ((up2_k (by decide)).trans (rfl))) ?_
  refine rt_putI (k := 2) L.2.1 cfX3 dX3_copyFrom_21 flX3_25 (by decide) rfl (lMg L o_2) nzMg (Or.inl rfl) ?_
  refine rl_aload_n dX3_copyFrom_24 rfl rfl ?_
  refine rt_getP (k := 3) cfX3 dX3_copyFrom_25 flX3_12 (by decide) rfl (lMg L o_2) (rMg L o_2) (naMgg o_2) ?_
  refine rl_aload_n dX3_copyFrom_28 rfl rfl ?_
  refine rt_getP (k := 3) cfX3 dX3_copyFrom_29 flX3_12 (by decide) rfl (lMg L o_1) (rMg L o_1) (naMgg o_1) ?_
  exact rl_callV (As := [.ref (ad (gVw k1 (5 + m1)))]) (rest := []) mfX7_copyFrom dX3_copyFrom_32 lkX3_28 (lVw L (vMV o_2)).K (by decide) (Nat.le_of_ble_eq_true rfl) (Nat.le_refl _) (Nat.le_refl _) rfl (Nat.le_of_ble_eq_true rfl) rfl rfl (fun Qc k => H Qc (fun h' w => k none h' (rl_wk (L' := [none, none]) trivial w)))
theorem tX3_copyFrom_35 {n : Nat} {ad : Nat → Nat} {h0 : Hp} {cs : Nat → Nat → Int32} {pm : Nat → Nat → Nat} (L : Lay n ad h0) {Q : Nat → Option Value → Hp → Prop}  (H : Q 0 none (HN h0 ad cs pm)) : Wm mX3_copyFrom 3 0 0 Q 35 [none, none] [] (HN h0 ad cs pm) 0 0 := by
  exact rl_vret dX3_copyFrom_35 rfl (Nat.le_refl 0) (Nat.le_refl 0) H
theorem tX5_givenTo_0 {n : Nat} {ad : Nat → Nat} {h0 : Hp} {cs : Nat → Nat → Int32} {pm : Nat → Nat → Nat} (L : Lay n ad h0) {Q : Nat → Option Value → Hp → Prop} {k0 o0 w0 : Nat} {x1 x2 : Int32} (H : vRc n k0 w0 o0 ∧ ∃ j_2 : Nat, (x2 * (nI 5)) + x1 = nI j_2 ∧ j_2 < 10 ∧ (Q 0 (some (.int (cs (gAr k0 w0 o0 2) j_2))) (HN h0 ad cs pm))) : Wm mX5_givenTo 0 0 0 Q 0 [some (.ref (ad (gRc k0 w0 o0))), some (.int x1), some (.int x2)] [] (HN h0 ad cs pm) 0 0 := by
  refine rl_aload_n dX5_givenTo_0 rfl rfl ?_
  obtain ⟨o_1, H⟩ := H
  refine rt_getP (k := 4) cfX5 dX5_givenTo_1 flX5_18 (by decide) rfl (lRc L o_1) (rRc4 L o_1) (naRc L o_1) ?_
  refine rl_iload_n dX5_givenTo_4 rfl rfl ?_
  refine rl_iconst (v := nI 5) dX5_givenTo_5 (by decide) ?_
  refine rl_imul dX5_givenTo_6 ?_
  refine rl_iload_n dX5_givenTo_7 rfl rfl ?_
  refine rl_iadd dX5_givenTo_8 ?_
  obtain ⟨j_2, e_3, b_4, H⟩ := H
  refine rt_iald (j := j_2) dX5_givenTo_9 (lAr2 L o_1) nzAr e_3 b_4 (by decide) ?_
  exact rl_iret dX5_givenTo_10 rfl (Nat.le_refl 0) (Nat.le_refl 0) H
theorem tX5_hasLent_0 {n : Nat} {ad : Nat → Nat} {h0 : Hp} {cs : Nat → Nat → Int32} {pm : Nat → Nat → Nat} (L : Lay n ad h0) {Q : Nat → Option Value → Hp → Prop} {k0 o0 w0 : Nat} {x1 : Int32} (H : vRc n k0 w0 o0 ∧ ((¬ (((cs (gRc k0 w0 o0) 5) >>> (x1 &&& 31)) &&& (nI 1)) = (nI 1) → Q 0 (some (.int (nI 0))) (HN h0 ad cs pm)) ∧ ((((cs (gRc k0 w0 o0) 5) >>> (x1 &&& 31)) &&& (nI 1)) = (nI 1) → Q 0 (some (.int (nI 1))) (HN h0 ad cs pm)))) : Wm mX5_hasLent 0 0 0 Q 0 [some (.ref (ad (gRc k0 w0 o0))), some (.int x1)] [] (HN h0 ad cs pm) 0 0 := by
  refine rl_aload_n dX5_hasLent_0 rfl rfl ?_
  obtain ⟨o_1, H⟩ := H
  refine rt_getI (k := 5) cfX5 dX5_hasLent_1 flX5_31 (by decide) rfl (lRc L o_1) nzRc ?_
  refine rl_iload_n dX5_hasLent_4 rfl rfl ?_
  refine rl_ishr dX5_hasLent_5 ?_
  refine rl_iconst (v := nI 1) dX5_hasLent_6 (by decide) ?_
  refine rl_iand dX5_hasLent_7 ?_
  refine rl_iconst (v := nI 1) dX5_hasLent_8 (by decide) ?_
  refine rl_icmp_ne (tgt := 16) dX5_hasLent_9 (by decide) (fun c_2 => ?_) (fun c_2 => ?_)
  · have H := H.1 c_2
    refine rl_iconst (v := nI 0) dX5_hasLent_16 (by decide) ?_
    exact rl_zret dX5_hasLent_17 rfl rfl (Nat.le_refl 0) (Nat.le_refl 0) H
  · have H := H.2 c_2
    refine rl_iconst (v := nI 1) dX5_hasLent_12 (by decide) ?_
    refine rl_goto (tgt := 17) dX5_hasLent_13 (by decide) ?_
    exact rl_zret dX5_hasLent_17 rfl rfl (Nat.le_refl 0) (Nat.le_refl 0) H
theorem tX5_give_0 {n : Nat} {ad : Nat → Nat} {h0 : Hp} {cs : Nat → Nat → Int32} {pm : Nat → Nat → Nat} (L : Lay n ad h0) {Q : Nat → Option Value → Hp → Prop} {k0 o0 w0 : Nat} {x1 x2 x3 : Int32} (H : vRc n k0 w0 o0 ∧ ∃ j_2 : Nat, (x2 * (nI 5)) + x1 = nI j_2 ∧ j_2 < 10 ∧ (Q 0 none (HN h0 ad (up2 (up2 cs (gAr k0 w0 o0 2) j_2 ((cs (gAr k0 w0 o0 2) j_2) + x3)) (gRc k0 w0 o0) 0 (((up2 cs (gAr k0 w0 o0 2) j_2 ((cs (gAr k0 w0 o0 2) j_2) + x3)) (gRc k0 w0 o0) 0) + (nI 1))) pm))) : Wm mX5_give 0 0 0 Q 0 [some (.ref (ad (gRc k0 w0 o0))), some (.int x1), some (.int x2), some (.int x3)] [] (HN h0 ad cs pm) 0 0 := by
  refine rl_aload_n dX5_give_0 rfl rfl ?_
  obtain ⟨o_1, H⟩ := H
  refine rt_getP (k := 4) cfX5 dX5_give_1 flX5_18 (by decide) rfl (lRc L o_1) (rRc4 L o_1) (naRc L o_1) ?_
  refine rl_iload_n dX5_give_4 rfl rfl ?_
  refine rl_iconst (v := nI 5) dX5_give_5 (by decide) ?_
  refine rl_imul dX5_give_6 ?_
  refine rl_iload_n dX5_give_7 rfl rfl ?_
  refine rl_iadd dX5_give_8 ?_
  refine rl_dup2 dX5_give_9 rfl rfl ?_
  obtain ⟨j_2, e_3, b_4, H⟩ := H
  refine rt_iald (j := j_2) dX5_give_10 (lAr2 L o_1) nzAr e_3 b_4 (by decide) ?_
  refine rl_iload_n dX5_give_11 rfl rfl ?_
  refine rl_iadd dX5_give_12 ?_
  refine rt_iast (j := j_2) L.2.1 dX5_give_13 (lAr2 L o_1) nzAr e_3 b_4 (by decide) ?_
  refine rl_aload_n dX5_give_14 rfl rfl ?_
  refine rl_dup dX5_give_15 rfl ?_
  refine rt_getI (k := 0) cfX5 dX5_give_16 flX5_24 (by decide) rfl (lRc L o_1) nzRc ?_
  refine rl_iconst (v := nI 1) dX5_give_19 (by decide) ?_
  refine rl_iadd dX5_give_20 ?_
  refine rt_putI (k := 0) L.2.1 cfX5 dX5_give_21 flX5_24 (by decide) rfl (lRc L o_1) nzRc (Or.inl rfl) ?_
  exact rl_vret dX5_give_24 rfl (Nat.le_refl 0) (Nat.le_refl 0) H
theorem tX7_learn_0 {n : Nat} {ad : Nat → Nat} {h0 : Hp} {cs : Nat → Nat → Int32} {pm : Nat → Nat → Nat} (L : Lay n ad h0) {Q : Nat → Option Value → Hp → Prop} {k0 k1 w0 w1 : Nat} {x2 : Int32} (H : Wm mX7_learn 2 0 0 Q 5 [some (.ref (ad (gVw k0 w0))), some (.ref (ad (gVw k1 w1))), some (.int x2), some (.int (nI 0)), some (.int (nI 0))] [] (HN h0 ad cs pm) 0 0) : Wm mX7_learn 2 0 0 Q 0 [some (.ref (ad (gVw k0 w0))), some (.ref (ad (gVw k1 w1))), some (.int x2), none, none] [] (HN h0 ad cs pm) 0 0 := by
  refine rl_iconst (v := nI 0) dX7_learn_0 (by decide) ?_
  refine rl_istore_n (L' := [some (.ref (ad (gVw k0 w0))), some (.ref (ad (gVw k1 w1))), some (.int x2), some (.int (nI 0)), none]) dX7_learn_1 rfl (Nat.le_of_ble_eq_true rfl) rfl ?_
  refine rl_iconst (v := nI 0) dX7_learn_2 (by decide) ?_
  refine rl_istore (L' := [some (.ref (ad (gVw k0 w0))), some (.ref (ad (gVw k1 w1))), some (.int x2), some (.int (nI 0)), some (.int (nI 0))]) dX7_learn_3 (Nat.le_of_ble_eq_true rfl) rfl ?_
  exact H
theorem tX7_learn_5 {n : Nat} {ad : Nat → Nat} {h0 : Hp} {cs : Nat → Nat → Int32} {pm : Nat → Nat → Nat} (L : Lay n ad h0) {Q : Nat → Option Value → Hp → Prop} {k0 k1 w0 w1 : Nat} {x2 x3 x4 : Int32} (H : vVw n k0 w0 ∧ (((nI n) ≤ x4 → Q 0 (some (.int x3)) (HN h0 ad cs pm)) ∧ (¬ (nI n) ≤ x4 → ((x4 = x2 → Wm mX7_learn 2 0 0 Q 61 [some (.ref (ad (gVw k0 w0))), some (.ref (ad (gVw k1 w1))), some (.int x2), some (.int x3), some (.int x4)] [] (HN h0 ad cs pm) 0 0) ∧ (¬ x4 = x2 → (∃ j_4 : Nat, x4 = nI j_4 ∧ j_4 < n ∧ (vVw n k1 w1 ∧ CKi mX5_isOlderThan 0 0 0 [some (.ref (ad (gRc k0 w0 j_4))), some (.ref (ad (gRc k1 w1 j_4)))] (HN h0 ad cs pm) (fun v h' => Wm mX7_learn 2 0 0 Q 38 [some (.ref (ad (gVw k0 w0))), some (.ref (ad (gVw k1 w1))), some (.int x2), some (.int x3), some (.int x4)] [.int v] h' 0 0)))))))) : Wm mX7_learn 2 0 0 Q 5 [some (.ref (ad (gVw k0 w0))), some (.ref (ad (gVw k1 w1))), some (.int x2), some (.int x3), some (.int x4)] [] (HN h0 ad cs pm) 0 0 := by
  refine rl_iload dX7_learn_5 rfl ?_
  refine rl_aload_n dX7_learn_7 rfl rfl ?_
  obtain ⟨o_1, H⟩ := H
  refine rt_getP (k := 0) cfX7 dX7_learn_8 flX7_9 (by decide) rfl (lVw L o_1) (rVw L o_1) (naVw L o_1) ?_
  refine rt_alen (ci := 5) dX7_learn_11 (lRa L o_1) rfl ?_
  refine rl_icmp_ge (tgt := 67) dX7_learn_12 (by decide) (fun c_2 => ?_) (fun c_2 => ?_)
  · have H := H.1 c_2
    refine rl_iload_n dX7_learn_67 rfl rfl ?_
    exact rl_iret dX7_learn_68 rfl (Nat.le_refl 0) (Nat.le_refl 0) H
  · have H := H.2 c_2
    refine rl_iload dX7_learn_15 rfl ?_
    refine rl_iload_n dX7_learn_17 rfl rfl ?_
    refine rl_icmp_eq (tgt := 61) dX7_learn_18 (by decide) (fun c_3 => ?_) (fun c_3 => ?_)
    · have H := H.1 c_3
      exact H
    · have H := H.2 c_3
      refine rl_aload_n dX7_learn_21 rfl rfl ?_
      refine rt_getP (k := 0) cfX7 dX7_learn_22 flX7_9 (by decide) rfl (lVw L o_1) (rVw L o_1) (naVw L o_1) ?_
      refine rl_iload dX7_learn_25 rfl ?_
      obtain ⟨j_4, e_5, b_6, H⟩ := H
      refine rt_aald (ci := 5) (j := j_4) dX7_learn_27 rfl (lRa L o_1) e_5 b_6 (lay5 L) (rRa L o_1 b_6) (naRa L o_1) ?_
      refine rl_aload_n dX7_learn_28 rfl rfl ?_
      obtain ⟨o_7, H⟩ := H
      refine rt_getP (k := 0) cfX7 dX7_learn_29 flX7_9 (by decide) rfl (lVw L o_7) (rVw L o_7) (naVw L o_7) ?_
      refine rl_iload dX7_learn_32 rfl ?_
      refine rt_aald (ci := 5) (j := j_4) dX7_learn_34 rfl (lRa L o_7) e_5 b_6 (lay5 L) (rRa L o_7 b_6) (naRa L o_7) ?_
      exact rl_callV (As := [.ref (ad (gRc k1 w1 j_4))]) (rest := []) mfX5_isOlderThan dX7_learn_35 lkX7_23 (lRc L ⟨o_1, b_6⟩).K (by decide) (Nat.le_of_ble_eq_true rfl) (Nat.le_refl _) (Nat.le_refl _) rfl (Nat.le_of_ble_eq_true rfl) rfl rfl (fun Qc k => H Qc (fun v h' w => k (some (.int v)) h' w))
theorem tX7_learn_38 {n : Nat} {ad : Nat → Nat} {h0 : Hp} {cs : Nat → Nat → Int32} {pm : Nat → Nat → Nat} (L : Lay n ad h0) {Q : Nat → Option Value → Hp → Prop} {k0 k1 w0 w1 : Nat} {x2 x3 x4 xs0 : Int32} (H : ((xs0 = 0 → Wm mX7_learn 2 0 0 Q 61 [some (.ref (ad (gVw k0 w0))), some (.ref (ad (gVw k1 w1))), some (.int x2), some (.int x3), some (.int x4)] [] (HN h0 ad cs pm) 0 0) ∧ (¬ xs0 = 0 → vVw n k0 w0 ∧ ∃ j_3 : Nat, x4 = nI j_3 ∧ j_3 < n ∧ (vVw n k1 w1 ∧ CKv mX5_copyFrom 1 0 0 [some (.ref (ad (gRc k0 w0 j_3))), some (.ref (ad (gRc k1 w1 j_3)))] (HN h0 ad cs pm) (fun h' => Wm mX7_learn 2 0 0 Q 58 [some (.ref (ad (gVw k0 w0))), some (.ref (ad (gVw k1 w1))), some (.int x2), some (.int x3), some (.int x4)] [] h' 0 0))))) : Wm mX7_learn 2 0 0 Q 38 [some (.ref (ad (gVw k0 w0))), some (.ref (ad (gVw k1 w1))), some (.int x2), some (.int x3), some (.int x4)] [.int xs0] (HN h0 ad cs pm) 0 0 := by
  refine rl_if_eq (tgt := 61) dX7_learn_38 (by decide) (fun c_1 => ?_) (fun c_1 => ?_)
  · have H := H.1 c_1
    exact H
  · have H := H.2 c_1
    refine rl_aload_n dX7_learn_41 rfl rfl ?_
    obtain ⟨o_2, H⟩ := H
    refine rt_getP (k := 0) cfX7 dX7_learn_42 flX7_9 (by decide) rfl (lVw L o_2) (rVw L o_2) (naVw L o_2) ?_
    refine rl_iload dX7_learn_45 rfl ?_
    obtain ⟨j_3, e_4, b_5, H⟩ := H
    refine rt_aald (ci := 5) (j := j_3) dX7_learn_47 rfl (lRa L o_2) e_4 b_5 (lay5 L) (rRa L o_2 b_5) (naRa L o_2) ?_
    refine rl_aload_n dX7_learn_48 rfl rfl ?_
    obtain ⟨o_6, H⟩ := H
    refine rt_getP (k := 0) cfX7 dX7_learn_49 flX7_9 (by decide) rfl (lVw L o_6) (rVw L o_6) (naVw L o_6) ?_
    refine rl_iload dX7_learn_52 rfl ?_
    refine rt_aald (ci := 5) (j := j_3) dX7_learn_54 rfl (lRa L o_6) e_4 b_5 (lay5 L) (rRa L o_6 b_5) (naRa L o_6) ?_
    exact rl_callV (As := [.ref (ad (gRc k1 w1 j_3))]) (rest := []) mfX5_copyFrom dX7_learn_55 lkX7_19 (lRc L ⟨o_2, b_5⟩).K (by decide) (Nat.le_of_ble_eq_true rfl) (Nat.le_refl _) (Nat.le_refl _) rfl (Nat.le_of_ble_eq_true rfl) rfl rfl (fun Qc k => H Qc (fun h' w => k none h' w))
theorem tX7_learn_58 {n : Nat} {ad : Nat → Nat} {h0 : Hp} {cs : Nat → Nat → Int32} {pm : Nat → Nat → Nat} (L : Lay n ad h0) {Q : Nat → Option Value → Hp → Prop} {k0 k1 w0 w1 : Nat} {x2 x3 x4 : Int32} (H : Wm mX7_learn 2 0 0 Q 61 [some (.ref (ad (gVw k0 w0))), some (.ref (ad (gVw k1 w1))), some (.int x2), some (.int (x3 + nI 1)), some (.int x4)] [] (HN h0 ad cs pm) 0 0) : Wm mX7_learn 2 0 0 Q 58 [some (.ref (ad (gVw k0 w0))), some (.ref (ad (gVw k1 w1))), some (.int x2), some (.int x3), some (.int x4)] [] (HN h0 ad cs pm) 0 0 := by
  refine rl_iinc (v := x3 + nI 1) (L' := [some (.ref (ad (gVw k0 w0))), some (.ref (ad (gVw k1 w1))), some (.int x2), some (.int (x3 + nI 1)), some (.int x4)]) dX7_learn_58 rfl (congrArg (fun z => x3 + z) (by decide)) (Nat.le_of_ble_eq_true rfl) rfl ?_
  exact H
theorem tX7_learn_61 {n : Nat} {ad : Nat → Nat} {h0 : Hp} {cs : Nat → Nat → Int32} {pm : Nat → Nat → Nat} (L : Lay n ad h0) {Q : Nat → Option Value → Hp → Prop} {k0 k1 w0 w1 : Nat} {x2 x3 x4 : Int32} (H : Wm mX7_learn 2 0 0 Q 5 [some (.ref (ad (gVw k0 w0))), some (.ref (ad (gVw k1 w1))), some (.int x2), some (.int x3), some (.int (x4 + nI 1))] [] (HN h0 ad cs pm) 0 0) : Wm mX7_learn 2 0 0 Q 61 [some (.ref (ad (gVw k0 w0))), some (.ref (ad (gVw k1 w1))), some (.int x2), some (.int x3), some (.int x4)] [] (HN h0 ad cs pm) 0 0 := by
  refine rl_iinc (v := x4 + nI 1) (L' := [some (.ref (ad (gVw k0 w0))), some (.ref (ad (gVw k1 w1))), some (.int x2), some (.int x3), some (.int (x4 + nI 1))]) dX7_learn_61 rfl (congrArg (fun z => x4 + z) (by decide)) (Nat.le_of_ble_eq_true rfl) rfl ?_
  refine rl_goto (tgt := 5) dX7_learn_64 (by decide) ?_
  exact H
theorem tX5_isOlderThan_0 {n : Nat} {ad : Nat → Nat} {h0 : Hp} {cs : Nat → Nat → Int32} {pm : Nat → Nat → Nat} (L : Lay n ad h0) {Q : Nat → Option Value → Hp → Prop} {k0 k1 o0 o1 w0 w1 : Nat} (H : vRc n k0 w0 o0 ∧ vRc n k1 w1 o1 ∧ (((cs (gRc k0 w0 o0) 0) < (cs (gRc k1 w1 o1) 0) → Q 0 (some (.int (nI 1))) (HN h0 ad cs pm)) ∧ (¬ (cs (gRc k0 w0 o0) 0) < (cs (gRc k1 w1 o1) 0) → ((¬ (cs (gRc k0 w0 o0) 0) = (cs (gRc k1 w1 o1) 0) → Q 0 (some (.int (nI 0))) (HN h0 ad cs pm)) ∧ ((cs (gRc k0 w0 o0) 0) = (cs (gRc k1 w1 o1) 0) → (((cs (gRc k1 w1 o1) 1) ≤ (cs (gRc k0 w0 o0) 1) → Q 0 (some (.int (nI 0))) (HN h0 ad cs pm)) ∧ (¬ (cs (gRc k1 w1 o1) 1) ≤ (cs (gRc k0 w0 o0) 1) → Q 0 (some (.int (nI 1))) (HN h0 ad cs pm)))))))) : Wm mX5_isOlderThan 0 0 0 Q 0 [some (.ref (ad (gRc k0 w0 o0))), some (.ref (ad (gRc k1 w1 o1)))] [] (HN h0 ad cs pm) 0 0 := by
  refine rl_aload_n dX5_isOlderThan_0 rfl rfl ?_
  obtain ⟨o_1, H⟩ := H
  refine rt_getI (k := 0) cfX5 dX5_isOlderThan_1 flX5_24 (by decide) rfl (lRc L o_1) nzRc ?_
  refine rl_aload_n dX5_isOlderThan_4 rfl rfl ?_
  obtain ⟨o_2, H⟩ := H
  refine rt_getI (k := 0) cfX5 dX5_isOlderThan_5 flX5_24 (by decide) rfl (lRc L o_2) nzRc ?_
  refine rl_icmp_lt (tgt := 33) dX5_isOlderThan_8 (by decide) (fun c_3 => ?_) (fun c_3 => ?_)
  · have H := H.1 c_3
    refine rl_iconst (v := nI 1) dX5_isOlderThan_33 (by decide) ?_
    refine rl_goto (tgt := 38) dX5_isOlderThan_34 (by decide) ?_
    exact rl_zret dX5_isOlderThan_38 rfl rfl (Nat.le_refl 0) (Nat.le_refl 0) H
  · have H := H.2 c_3
    refine rl_aload_n dX5_isOlderThan_11 rfl rfl ?_
    refine rt_getI (k := 0) cfX5 dX5_isOlderThan_12 flX5_24 (by decide) rfl (lRc L o_1) nzRc ?_
    refine rl_aload_n dX5_isOlderThan_15 rfl rfl ?_
    refine rt_getI (k := 0) cfX5 dX5_isOlderThan_16 flX5_24 (by decide) rfl (lRc L o_2) nzRc ?_
    refine rl_icmp_ne (tgt := 37) dX5_isOlderThan_19 (by decide) (fun c_4 => ?_) (fun c_4 => ?_)
    · have H := H.1 c_4
      refine rl_iconst (v := nI 0) dX5_isOlderThan_37 (by decide) ?_
      exact rl_zret dX5_isOlderThan_38 rfl rfl (Nat.le_refl 0) (Nat.le_refl 0) H
    · have H := H.2 c_4
      refine rl_aload_n dX5_isOlderThan_22 rfl rfl ?_
      refine rt_getI (k := 1) cfX5 dX5_isOlderThan_23 flX5_28 (by decide) rfl (lRc L o_1) nzRc ?_
      refine rl_aload_n dX5_isOlderThan_26 rfl rfl ?_
      refine rt_getI (k := 1) cfX5 dX5_isOlderThan_27 flX5_28 (by decide) rfl (lRc L o_2) nzRc ?_
      refine rl_icmp_ge (tgt := 37) dX5_isOlderThan_30 (by decide) (fun c_5 => ?_) (fun c_5 => ?_)
      · have H := H.1 c_5
        refine rl_iconst (v := nI 0) dX5_isOlderThan_37 (by decide) ?_
        exact rl_zret dX5_isOlderThan_38 rfl rfl (Nat.le_refl 0) (Nat.le_refl 0) H
      · have H := H.2 c_5
        refine rl_iconst (v := nI 1) dX5_isOlderThan_33 (by decide) ?_
        refine rl_goto (tgt := 38) dX5_isOlderThan_34 (by decide) ?_
        exact rl_zret dX5_isOlderThan_38 rfl rfl (Nat.le_refl 0) (Nat.le_refl 0) H
theorem tX1_bringBackSaved_0 {n : Nat} {ad : Nat → Nat} {h0 : Hp} {cs : Nat → Nat → Int32} {pm : Nat → Nat → Nat} (L : Lay n ad h0) {Q : Nat → Option Value → Hp → Prop} {k1 : Nat} (H : CKr mX1_place 0 0 0 [some (.ref (ad (gHi))), some (.int (cs (gHi) 2))] (HN h0 ad cs pm) (fun v h' => Wm mX1_bringBackSaved 5 0 0 Q 9 [none, none] [.ref v, .ref (ad (gSt k1))] h' 0 0)) : Wm mX1_bringBackSaved 5 0 0 Q 0 [some (.ref (ad (gHi))), some (.ref (ad (gSt k1)))] [] (HN h0 ad cs pm) 0 0 := by
  refine rl_aload_n dX1_bringBackSaved_0 rfl rfl ?_
  refine rl_aload_n dX1_bringBackSaved_1 rfl rfl ?_
  refine rl_aload_n dX1_bringBackSaved_2 rfl rfl ?_
  refine rt_getI (k := 2) cfX1 dX1_bringBackSaved_3 flX1_24 (by decide) rfl (lHi L) nzHi ?_
  exact rl_callV (As := [.int (cs (gHi) 2)]) (rest := [.ref (ad (gSt k1))]) mfX1_place dX1_bringBackSaved_6 lkX1_27 (lHi L).K (by decide) (Nat.le_of_ble_eq_true rfl) (Nat.le_refl _) (Nat.le_refl _) rfl (Nat.le_of_ble_eq_true rfl) rfl rfl (fun Qc k => H Qc (fun v h' w => k (some (.ref v)) h' (rl_wk (L' := [none, none]) trivial w)))
theorem tX1_bringBackSaved_9 {n : Nat} {ad : Nat → Nat} {h0 : Hp} {cs : Nat → Nat → Int32} {pm : Nat → Nat → Nat} (L : Lay n ad h0) {Q : Nat → Option Value → Hp → Prop} {ks0 ks1 : Nat} (H : ks0 < 7 ∧ CKv mX6_copyFrom 4 0 0 [some (.ref (ad (gSt ks0))), some (.ref (ad (gSt ks1))), none] (HN h0 ad cs pm) (fun h' => Wm mX1_bringBackSaved 5 0 0 Q 12 [none, none] [] h' 0 0)) : Wm mX1_bringBackSaved 5 0 0 Q 9 [none, none] [.ref (ad (gSt ks1)), .ref (ad (gSt ks0))] (HN h0 ad cs pm) 0 0 := by
  obtain ⟨o_1, H⟩ := H
  exact rl_callV (As := [.ref (ad (gSt ks1))]) (rest := []) mfX6_copyFrom dX1_bringBackSaved_9 lkX1_31 (lSt L o_1).K (by decide) (Nat.le_of_ble_eq_true rfl) (Nat.le_refl _) (Nat.le_refl _) rfl (Nat.le_of_ble_eq_true rfl) rfl rfl (fun Qc k => H Qc (fun h' w => k none h' w))
theorem tX1_bringBackSaved_12 {n : Nat} {ad : Nat → Nat} {h0 : Hp} {cs : Nat → Nat → Int32} {pm : Nat → Nat → Nat} (L : Lay n ad h0) {Q : Nat → Option Value → Hp → Prop}  (H : Q 0 none (HN h0 ad cs pm)) : Wm mX1_bringBackSaved 5 0 0 Q 12 [none, none] [] (HN h0 ad cs pm) 0 0 := by
  exact rl_vret dX1_bringBackSaved_12 rfl (Nat.le_refl 0) (Nat.le_refl 0) H
theorem tX1_keep_0 {n : Nat} {ad : Nat → Nat} {h0 : Hp} {cs : Nat → Nat → Int32} {pm : Nat → Nat → Nat} (L : Lay n ad h0) {Q : Nat → Option Value → Hp → Prop}  (H : (((nI 5) ≤ (cs (gHi) 2) → Q 0 none (HN h0 ad (up2 cs (gHi) 1 (((cs (gHi) 1) + (nI 1)) - ((cs (gHi) 1) + (nI 1)) / (nI 6) * (nI 6))) pm)) ∧ (¬ (nI 5) ≤ (cs (gHi) 2) → Q 0 none (HN h0 ad (up2 cs (gHi) 2 ((cs (gHi) 2) + (nI 1))) pm)))) : Wm mX1_keep 0 0 0 Q 0 [some (.ref (ad (gHi)))] [] (HN h0 ad cs pm) 0 0 := by
  refine rl_aload_n dX1_keep_0 rfl rfl ?_
  refine rt_getI (k := 2) cfX1 dX1_keep_1 flX1_24 (by decide) rfl (lHi L) nzHi ?_
  refine rl_iconst (v := nI 5) dX1_keep_4 (by decide) ?_
  refine rl_icmp_ge (tgt := 21) dX1_keep_5 (by decide) (fun c_1 => ?_) (fun c_1 => ?_)
  · have H := H.1 c_1
    refine rl_aload_n dX1_keep_21 rfl rfl ?_
    refine rl_aload_n dX1_keep_22 rfl rfl ?_
    refine rt_getI (k := 1) cfX1 dX1_keep_23 flX1_20 (by decide) rfl (lHi L) nzHi ?_
    refine rl_iconst (v := nI 1) dX1_keep_26 (by decide) ?_
    refine rl_iadd dX1_keep_27 ?_
    refine rl_bipush (v := nI 6) dX1_keep_28 (by decide) ?_
    refine rl_irem dX1_keep_30 (by decide) ?_
    refine rt_putI (k := 1) L.2.1 cfX1 dX1_keep_31 flX1_20 (by decide) rfl (lHi L) nzHi (Or.inl rfl) ?_
    exact rl_vret dX1_keep_34 rfl (Nat.le_refl 0) (Nat.le_refl 0) H
  · have H := H.2 c_1
    refine rl_aload_n dX1_keep_8 rfl rfl ?_
    refine rl_dup dX1_keep_9 rfl ?_
    refine rt_getI (k := 2) cfX1 dX1_keep_10 flX1_24 (by decide) rfl (lHi L) nzHi ?_
    refine rl_iconst (v := nI 1) dX1_keep_13 (by decide) ?_
    refine rl_iadd dX1_keep_14 ?_
    refine rt_putI (k := 2) L.2.1 cfX1 dX1_keep_15 flX1_24 (by decide) rfl (lHi L) nzHi (Or.inl rfl) ?_
    refine rl_goto (tgt := 34) dX1_keep_18 (by decide) ?_
    exact rl_vret dX1_keep_34 rfl (Nat.le_refl 0) (Nat.le_refl 0) H
theorem tX1_forget_0 {n : Nat} {ad : Nat → Nat} {h0 : Hp} {cs : Nat → Nat → Int32} {pm : Nat → Nat → Nat} (L : Lay n ad h0) {Q : Nat → Option Value → Hp → Prop}  (H : Q 0 none (HN h0 ad (up2 (up2 cs (gHi) 1 (nI 0)) (gHi) 2 (nI 0)) pm)) : Wm mX1_forget 0 0 0 Q 0 [some (.ref (ad (gHi)))] [] (HN h0 ad cs pm) 0 0 := by
  refine rl_aload_n dX1_forget_0 rfl rfl ?_
  refine rl_iconst (v := nI 0) dX1_forget_1 (by decide) ?_
  refine rt_putI (k := 1) L.2.1 cfX1 dX1_forget_2 flX1_20 (by decide) rfl (lHi L) nzHi (Or.inl rfl) ?_
  refine rl_aload_n dX1_forget_5 rfl rfl ?_
  refine rl_iconst (v := nI 0) dX1_forget_6 (by decide) ?_
  refine rt_putI (k := 2) L.2.1 cfX1 dX1_forget_7 flX1_24 (by decide) rfl (lHi L) nzHi (Or.inl rfl) ?_
  exact rl_vret dX1_forget_10 rfl (Nat.le_refl 0) (Nat.le_refl 0) H
theorem tX1_add_0 {n : Nat} {ad : Nat → Nat} {h0 : Hp} {cs : Nat → Nat → Int32} {pm : Nat → Nat → Nat} (L : Lay n ad h0) {Q : Nat → Option Value → Hp → Prop} {k1 : Nat} (H : CKr mX1_place 0 0 0 [some (.ref (ad (gHi))), some (.int (cs (gHi) 2))] (HN h0 ad cs pm) (fun v h' => Wm mX1_add 5 0 0 Q 8 [some (.ref (ad (gHi))), some (.ref (ad (gSt k1)))] [.ref v] h' 0 0)) : Wm mX1_add 5 0 0 Q 0 [some (.ref (ad (gHi))), some (.ref (ad (gSt k1)))] [] (HN h0 ad cs pm) 0 0 := by
  refine rl_aload_n dX1_add_0 rfl rfl ?_
  refine rl_aload_n dX1_add_1 rfl rfl ?_
  refine rt_getI (k := 2) cfX1 dX1_add_2 flX1_24 (by decide) rfl (lHi L) nzHi ?_
  exact rl_callV (As := [.int (cs (gHi) 2)]) (rest := []) mfX1_place dX1_add_5 lkX1_27 (lHi L).K (by decide) (Nat.le_of_ble_eq_true rfl) (Nat.le_refl _) (Nat.le_refl _) rfl (Nat.le_of_ble_eq_true rfl) rfl rfl (fun Qc k => H Qc (fun v h' w => k (some (.ref v)) h' w))
theorem tX1_add_8 {n : Nat} {ad : Nat → Nat} {h0 : Hp} {cs : Nat → Nat → Int32} {pm : Nat → Nat → Nat} (L : Lay n ad h0) {Q : Nat → Option Value → Hp → Prop} {k1 ks0 : Nat} (H : ks0 < 7 ∧ CKv mX6_copyFrom 4 0 0 [some (.ref (ad (gSt ks0))), some (.ref (ad (gSt k1))), none] (HN h0 ad cs pm) (fun h' => Wm mX1_add 5 0 0 Q 12 [some (.ref (ad (gHi))), none] [] h' 0 0)) : Wm mX1_add 5 0 0 Q 8 [some (.ref (ad (gHi))), some (.ref (ad (gSt k1)))] [.ref (ad (gSt ks0))] (HN h0 ad cs pm) 0 0 := by
  refine rl_aload_n dX1_add_8 rfl rfl ?_
  obtain ⟨o_1, H⟩ := H
  exact rl_callV (As := [.ref (ad (gSt k1))]) (rest := []) mfX6_copyFrom dX1_add_9 lkX1_31 (lSt L o_1).K (by decide) (Nat.le_of_ble_eq_true rfl) (Nat.le_refl _) (Nat.le_refl _) rfl (Nat.le_of_ble_eq_true rfl) rfl rfl (fun Qc k => H Qc (fun h' w => k none h' (rl_wk (L' := [some (.ref (ad (gHi))), none]) ⟨rfl, trivial⟩ w)))
theorem tX1_add_12 {n : Nat} {ad : Nat → Nat} {h0 : Hp} {cs : Nat → Nat → Int32} {pm : Nat → Nat → Nat} (L : Lay n ad h0) {Q : Nat → Option Value → Hp → Prop}  (H : CKv mX1_keep 0 0 0 [some (.ref (ad (gHi)))] (HN h0 ad cs pm) (fun h' => Wm mX1_add 5 0 0 Q 16 [none, none] [] h' 0 0)) : Wm mX1_add 5 0 0 Q 12 [some (.ref (ad (gHi))), none] [] (HN h0 ad cs pm) 0 0 := by
  refine rl_aload_n dX1_add_12 rfl rfl ?_
  exact rl_callV (As := []) (rest := []) mfX1_keep dX1_add_13 lkX1_35 (lHi L).K (by decide) (Nat.le_of_ble_eq_true rfl) (Nat.le_refl _) (Nat.le_refl _) rfl (Nat.le_of_ble_eq_true rfl) rfl rfl (fun Qc k => H Qc (fun h' w => k none h' (rl_wk (L' := [none, none]) trivial w)))
theorem tX1_add_16 {n : Nat} {ad : Nat → Nat} {h0 : Hp} {cs : Nat → Nat → Int32} {pm : Nat → Nat → Nat} (L : Lay n ad h0) {Q : Nat → Option Value → Hp → Prop}  (H : Q 0 none (HN h0 ad cs pm)) : Wm mX1_add 5 0 0 Q 16 [none, none] [] (HN h0 ad cs pm) 0 0 := by
  exact rl_vret dX1_add_16 rfl (Nat.le_refl 0) (Nat.le_refl 0) H
theorem tX3_fact_0 {n : Nat} {ad : Nat → Nat} {h0 : Hp} {cs : Nat → Nat → Int32} {pm : Nat → Nat → Nat} (L : Lay n ad h0) {Q : Nat → Option Value → Hp → Prop} {k0 m0 : Nat} {x1 : Int32} (H : ((x1 = nI 0 → (k0 < 7 ∧ m0 < 8) ∧ Q 0 (some (.int (cs (gMg k0 m0) 0))) (HN h0 ad cs pm)) ∧ (x1 = nI 1 → (k0 < 7 ∧ m0 < 8) ∧ Q 0 (some (.int (cs (gMg k0 m0) 1))) (HN h0 ad cs pm)) ∧ (¬ x1 = nI 0 → ¬ x1 = nI 1 → (k0 < 7 ∧ m0 < 8) ∧ Q 0 (some (.int (cs (gMg k0 m0) 2))) (HN h0 ad cs pm)))) : Wm mX3_fact 0 0 0 Q 0 [some (.ref (ad (gMg k0 m0))), some (.int x1)] [] (HN h0 ad cs pm) 0 0 := by
  refine rl_iload_n dX3_fact_0 rfl rfl ?_
  by_cases c_1 : x1 = nI 0
  · have H := (H.1) c_1
    refine rl_lookup (tgt := 28) dX3_fact_1 (by decide) (by rw [c_1]; decide) ?_
    refine rl_aload_n dX3_fact_28 rfl rfl ?_
    obtain ⟨o_2, H⟩ := H
    refine rt_getI (k := 0) cfX3 dX3_fact_29 flX3_18 (by decide) rfl (lMg L o_2) nzMg ?_
    exact rl_iret dX3_fact_32 rfl (Nat.le_refl 0) (Nat.le_refl 0) H
  by_cases c_3 : x1 = nI 1
  · have H := (H.2.1) c_3
    refine rl_lookup (tgt := 33) dX3_fact_1 (by decide) (by rw [c_3]; decide) ?_
    refine rl_aload_n dX3_fact_33 rfl rfl ?_
    obtain ⟨o_4, H⟩ := H
    refine rt_getI (k := 1) cfX3 dX3_fact_34 flX3_22 (by decide) rfl (lMg L o_4) nzMg ?_
    exact rl_iret dX3_fact_37 rfl (Nat.le_refl 0) (Nat.le_refl 0) H
  have H := (H.2.2) c_1 c_3
  refine rl_lookup (tgt := 38) dX3_fact_1 (by decide) (by show _ + Op.lookupswitch.offset [(0, 27), (1, 32)] _ _ = _; rw [lv_osw c_1 (by decide), lv_osw c_3 (by decide)]; rfl) ?_
  refine rl_aload_n dX3_fact_38 rfl rfl ?_
  obtain ⟨o_5, H⟩ := H
  refine rt_getI (k := 2) cfX3 dX3_fact_39 flX3_25 (by decide) rfl (lMg L o_5) nzMg ?_
  exact rl_iret dX3_fact_42 rfl (Nat.le_refl 0) (Nat.le_refl 0) H
theorem tX4_append_0 {n : Nat} {ad : Nat → Nat} {h0 : Hp} {cs : Nat → Nat → Int32} {pm : Nat → Nat → Nat} (L : Lay n ad h0) {Q : Nat → Option Value → Hp → Prop} {x1 : Int32} (H : (∃ j_1 : Nat, cs (gSc) 2 = nI j_1 ∧ j_1 < 60 ∧ (Q 0 none (HN h0 ad (up2 (up2 cs (gSg) j_1 x1) (gSc) 2 (((up2 cs (gSg) j_1 x1) (gSc) 2) + (nI 1))) pm)))) : Wm mX4_append 0 0 0 Q 0 [some (.ref (ad (gSc))), some (.int x1)] [] (HN h0 ad cs pm) 0 0 := by
  refine rl_aload_n dX4_append_0 rfl rfl ?_
  refine rt_getP (k := 0) cfX4 dX4_append_1 flX4_9 (by decide) rfl (lSc L) (rSc0 L) naSc ?_
  refine rl_aload_n dX4_append_4 rfl rfl ?_
  refine rt_getI (k := 2) cfX4 dX4_append_5 flX4_22 (by decide) rfl (lSc L) nzSc ?_
  refine rl_iload_n dX4_append_8 rfl rfl ?_
  obtain ⟨j_1, e_2, b_3, H⟩ := H
  refine rt_iast (j := j_1) L.2.1 dX4_append_9 (lSg L) nzSg e_2 b_3 (by decide) ?_
  refine rl_aload_n dX4_append_10 rfl rfl ?_
  refine rl_dup dX4_append_11 rfl ?_
  refine rt_getI (k := 2) cfX4 dX4_append_12 flX4_22 (by decide) rfl (lSc L) nzSc ?_
  refine rl_iconst (v := nI 1) dX4_append_15 (by decide) ?_
  refine rl_iadd dX4_append_16 ?_
  refine rt_putI (k := 2) L.2.1 cfX4 dX4_append_17 flX4_22 (by decide) rfl (lSc L) nzSc (Or.inl rfl) ?_
  exact rl_vret dX4_append_20 rfl (Nat.le_refl 0) (Nat.le_refl 0) H
theorem tX1_bringBackLatest_0 {n : Nat} {ad : Nat → Nat} {h0 : Hp} {cs : Nat → Nat → Int32} {pm : Nat → Nat → Nat} (L : Lay n ad h0) {Q : Nat → Option Value → Hp → Prop} {k1 : Nat} (H : CKr mX1_place 0 0 0 [some (.ref (ad (gHi))), some (.int ((cs (gHi) 2) - (nI 1)))] (HN h0 ad (up2 cs (gHi) 2 ((cs (gHi) 2) - (nI 1))) pm) (fun v h' => Wm mX1_bringBackLatest 5 0 0 Q 19 [none, none] [.ref v, .ref (ad (gSt k1))] h' 0 0)) : Wm mX1_bringBackLatest 5 0 0 Q 0 [some (.ref (ad (gHi))), some (.ref (ad (gSt k1)))] [] (HN h0 ad cs pm) 0 0 := by
  refine rl_aload_n dX1_bringBackLatest_0 rfl rfl ?_
  refine rl_dup dX1_bringBackLatest_1 rfl ?_
  refine rt_getI (k := 2) cfX1 dX1_bringBackLatest_2 flX1_24 (by decide) rfl (lHi L) nzHi ?_
  refine rl_iconst (v := nI 1) dX1_bringBackLatest_5 (by decide) ?_
  refine rl_isub dX1_bringBackLatest_6 ?_
  refine rt_putI (k := 2) L.2.1 cfX1 dX1_bringBackLatest_7 flX1_24 (by decide) rfl (lHi L) nzHi (Or.inl rfl) ?_
  refine rl_aload_n dX1_bringBackLatest_10 rfl rfl ?_
  refine rl_aload_n dX1_bringBackLatest_11 rfl rfl ?_
  refine rl_aload_n dX1_bringBackLatest_12 rfl rfl ?_
  refine rt_getIv (x := (cs (gHi) 2) - (nI 1)) (k := 2) cfX1 dX1_bringBackLatest_13 flX1_24 (by decide) rfl (lHi L) nzHi (up2_s) ?_
  exact rl_callV (As := [.int ((cs (gHi) 2) - (nI 1))]) (rest := [.ref (ad (gSt k1))]) mfX1_place dX1_bringBackLatest_16 lkX1_27 (lHi L).K (by decide) (Nat.le_of_ble_eq_true rfl) (Nat.le_refl _) (Nat.le_refl _) rfl (Nat.le_of_ble_eq_true rfl) rfl rfl (fun Qc k => H Qc (fun v h' w => k (some (.ref v)) h' (rl_wk (L' := [none, none]) trivial w)))
theorem tX1_bringBackLatest_19 {n : Nat} {ad : Nat → Nat} {h0 : Hp} {cs : Nat → Nat → Int32} {pm : Nat → Nat → Nat} (L : Lay n ad h0) {Q : Nat → Option Value → Hp → Prop} {ks0 ks1 : Nat} (H : ks0 < 7 ∧ CKv mX6_copyFrom 4 0 0 [some (.ref (ad (gSt ks0))), some (.ref (ad (gSt ks1))), none] (HN h0 ad cs pm) (fun h' => Wm mX1_bringBackLatest 5 0 0 Q 22 [none, none] [] h' 0 0)) : Wm mX1_bringBackLatest 5 0 0 Q 19 [none, none] [.ref (ad (gSt ks1)), .ref (ad (gSt ks0))] (HN h0 ad cs pm) 0 0 := by
  obtain ⟨o_1, H⟩ := H
  exact rl_callV (As := [.ref (ad (gSt ks1))]) (rest := []) mfX6_copyFrom dX1_bringBackLatest_19 lkX1_31 (lSt L o_1).K (by decide) (Nat.le_of_ble_eq_true rfl) (Nat.le_refl _) (Nat.le_refl _) rfl (Nat.le_of_ble_eq_true rfl) rfl rfl (fun Qc k => H Qc (fun h' w => k none h' w))
theorem tX1_bringBackLatest_22 {n : Nat} {ad : Nat → Nat} {h0 : Hp} {cs : Nat → Nat → Int32} {pm : Nat → Nat → Nat} (L : Lay n ad h0) {Q : Nat → Option Value → Hp → Prop}  (H : Q 0 none (HN h0 ad cs pm)) : Wm mX1_bringBackLatest 5 0 0 Q 22 [none, none] [] (HN h0 ad cs pm) 0 0 := by
  exact rl_vret dX1_bringBackLatest_22 rfl (Nat.le_refl 0) (Nat.le_refl 0) H
