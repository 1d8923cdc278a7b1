theorem tX8_sites_0 {n : Nat} {ad : Nat → Nat} {h0 : Hp} {cs : Nat → Nat → Int32} {pm : Nat → Nat → Nat} (L : Lay n ad h0) {Q : Nat → Option Value → Hp → Prop}  (H : Q 0 (some (.int (cs (gEc) 0))) (HN h0 ad cs pm)) : Wm mX8_sites 0 0 0 Q 0 [some (.ref (ad (gEc)))] [] (HN h0 ad cs pm) 0 0 := by
  refine rl_aload_n dX8_sites_0 rfl rfl ?_
  refine rt_getI (k := 0) cfX8 dX8_sites_1 flX8_18 (by decide) rfl (lEc L) nzEc ?_
  exact rl_iret dX8_sites_4 rfl (Nat.le_refl 0) (Nat.le_refl 0) H
theorem tX8_messages_0 {n : Nat} {ad : Nat → Nat} {h0 : Hp} {cs : Nat → Nat → Int32} {pm : Nat → Nat → Nat} (L : Lay n ad h0) {Q : Nat → Option Value → Hp → Prop}  (H : Q 0 (some (.int (cs (gSt 0) 6))) (HN h0 ad cs pm)) : Wm mX8_messages 0 0 0 Q 0 [some (.ref (ad (gEc)))] [] (HN h0 ad cs pm) 0 0 := by
  refine rl_aload_n dX8_messages_0 rfl rfl ?_
  refine rt_getP (k := 1) cfX8 dX8_messages_1 flX8_27 (by decide) rfl (lEc L) (rEc1 L) naEc ?_
  refine rt_getI (k := 6) cfX6 dX8_messages_4 flX8_132 (by decide) rfl (lSt L (by decide)) nzSt ?_
  exact rl_iret dX8_messages_7 rfl (Nat.le_refl 0) (Nat.le_refl 0) H
theorem tX8_time_0 {n : Nat} {ad : Nat → Nat} {h0 : Hp} {cs : Nat → Nat → Int32} {pm : Nat → Nat → Nat} (L : Lay n ad h0) {Q : Nat → Option Value → Hp → Prop}  (H : Q 0 (some (.int (cs (gSt 0) 4))) (HN h0 ad cs pm)) : Wm mX8_time 0 0 0 Q 0 [some (.ref (ad (gEc)))] [] (HN h0 ad cs pm) 0 0 := by
  refine rl_aload_n dX8_time_0 rfl rfl ?_
  refine rt_getP (k := 1) cfX8 dX8_time_1 flX8_27 (by decide) rfl (lEc L) (rEc1 L) naEc ?_
  refine rt_getI (k := 4) cfX6 dX8_time_4 flX8_114 (by decide) rfl (lSt L (by decide)) nzSt ?_
  exact rl_iret dX8_time_7 rfl (Nat.le_refl 0) (Nat.le_refl 0) H
theorem tX8_value_0 {n : Nat} {ad : Nat → Nat} {h0 : Hp} {cs : Nat → Nat → Int32} {pm : Nat → Nat → Nat} (L : Lay n ad h0) {Q : Nat → Option Value → Hp → Prop}  (H : CKi mX6_trueValue 1 0 0 [some (.ref (ad (gSt 0))), none, none, none] (HN h0 ad cs pm) (fun v h' => Wm mX8_value 2 0 0 Q 7 [none] [.int v] h' 0 0)) : Wm mX8_value 2 0 0 Q 0 [some (.ref (ad (gEc)))] [] (HN h0 ad cs pm) 0 0 := by
  refine rl_aload_n dX8_value_0 rfl rfl ?_
  refine rt_getP (k := 1) cfX8 dX8_value_1 flX8_27 (by decide) rfl (lEc L) (rEc1 L) naEc ?_
  exact rl_callV (As := []) (rest := []) mfX6_trueValue dX8_value_4 lkX8_56 (lSt L (by decide)).K (by decide) (Nat.le_of_ble_eq_true rfl) (Nat.le_refl _) (Nat.le_refl _) rfl (Nat.le_of_ble_eq_true rfl) rfl rfl (fun Qc k => H Qc (fun v h' w => k (some (.int v)) h' (rl_wk (L' := [none]) trivial w)))
theorem tX8_value_7 {n : Nat} {ad : Nat → Nat} {h0 : Hp} {cs : Nat → Nat → Int32} {pm : Nat → Nat → Nat} (L : Lay n ad h0) {Q : Nat → Option Value → Hp → Prop} {xs0 : Int32} (H : Q 0 (some (.int xs0)) (HN h0 ad cs pm)) : Wm mX8_value 2 0 0 Q 7 [none] [.int xs0] (HN h0 ad cs pm) 0 0 := by
  exact rl_iret dX8_value_7 rfl (Nat.le_refl 0) (Nat.le_refl 0) H
theorem tX8_loans_0 {n : Nat} {ad : Nat → Nat} {h0 : Hp} {cs : Nat → Nat → Int32} {pm : Nat → Nat → Nat} (L : Lay n ad h0) {Q : Nat → Option Value → Hp → Prop}  (H : Q 0 (some (.int (cs (gSt 0) 5))) (HN h0 ad cs pm)) : Wm mX8_loans 0 0 0 Q 0 [some (.ref (ad (gEc)))] [] (HN h0 ad cs pm) 0 0 := by
  refine rl_aload_n dX8_loans_0 rfl rfl ?_
  refine rt_getP (k := 1) cfX8 dX8_loans_1 flX8_27 (by decide) rfl (lEc L) (rEc1 L) naEc ?_
  refine rt_getI (k := 5) cfX6 dX8_loans_4 flX8_195 (by decide) rfl (lSt L (by decide)) nzSt ?_
  exact rl_iret dX8_loans_7 rfl (Nat.le_refl 0) (Nat.le_refl 0) H
theorem tX8_clearText_0 {n : Nat} {ad : Nat → Nat} {h0 : Hp} {cs : Nat → Nat → Int32} {pm : Nat → Nat → Nat} (L : Lay n ad h0) {Q : Nat → Option Value → Hp → Prop}  (H : Q 0 (some (.int (cs (gSc) 2))) (HN h0 ad (up2 cs (gSc) 2 (nI 0)) pm)) : Wm mX8_clearText 0 0 0 Q 0 [some (.ref (ad (gEc))), none] [] (HN h0 ad cs pm) 0 0 := by
  refine rl_aload_n dX8_clearText_0 rfl rfl ?_
  refine rt_getP (k := 3) cfX8 dX8_clearText_1 flX8_41 (by decide) rfl (lEc L) (rEc3 L) naEc ?_
  refine rt_getI (k := 2) cfX4 dX8_clearText_4 flX8_211 (by decide) rfl (lSc L) nzSc ?_
  refine rl_istore_n (L' := [some (.ref (ad (gEc))), some (.int (cs (gSc) 2))]) dX8_clearText_7 rfl (Nat.le_of_ble_eq_true rfl) rfl ?_
  refine rl_aload_n dX8_clearText_8 rfl rfl ?_
  refine rt_getP (k := 3) cfX8 dX8_clearText_9 flX8_41 (by decide) rfl (lEc L) (rEc3 L) naEc ?_
  refine rl_iconst (v := nI 0) dX8_clearText_12 (by decide) ?_
  refine rt_putI (k := 2) L.2.1 cfX4 dX8_clearText_13 flX8_211 (by decide) rfl (lSc L) nzSc (Or.inl rfl) ?_
  refine rl_iload_n dX8_clearText_16 rfl rfl ?_
  exact rl_iret dX8_clearText_17 rfl (Nat.le_refl 0) (Nat.le_refl 0) H
theorem tX8_runScript_0 {n : Nat} {ad : Nat → Nat} {h0 : Hp} {cs : Nat → Nat → Int32} {pm : Nat → Nat → Nat} (L : Lay n ad h0) {Q : Nat → Option Value → Hp → Prop}  (H : CKi mX4_read 3 0 0 [some (.ref (ad (gSc)))] (HN h0 ad cs pm) (fun v h' => Wm mX8_runScript 6 0 0 Q 7 [some (.ref (ad (gEc))), none, none] [.int v] h' 0 0)) : Wm mX8_runScript 6 0 0 Q 0 [some (.ref (ad (gEc))), none, none] [] (HN h0 ad cs pm) 0 0 := by
  refine rl_aload_n dX8_runScript_0 rfl rfl ?_
  refine rt_getP (k := 3) cfX8 dX8_runScript_1 flX8_41 (by decide) rfl (lEc L) (rEc3 L) naEc ?_
  exact rl_callV (As := []) (rest := []) mfX4_read dX8_runScript_4 lkX8_219 (lSc L).K (by decide) (Nat.le_of_ble_eq_true rfl) (Nat.le_refl _) (Nat.le_refl _) rfl (Nat.le_of_ble_eq_true rfl) rfl rfl (fun Qc k => H Qc (fun v h' w => k (some (.int v)) h' w))
theorem tX8_runScript_7 {n : Nat} {ad : Nat → Nat} {h0 : Hp} {cs : Nat → Nat → Int32} {pm : Nat → Nat → Nat} (L : Lay n ad h0) {Q : Nat → Option Value → Hp → Prop} {xs0 : Int32} (H : ((xs0 = (-1) → CKv mX1_save 5 0 0 [some (.ref (ad (gHi))), some (.ref (ad (gSt 0)))] (HN h0 ad cs pm) (fun h' => Wm mX8_runScript 6 0 0 Q 28 [some (.ref (ad (gEc))), none, none] [] h' 0 0)) ∧ (¬ xs0 = (-1) → Q 0 (some (.int ((-1) - xs0))) (HN h0 ad cs pm)))) : Wm mX8_runScript 6 0 0 Q 7 [some (.ref (ad (gEc))), none, none] [.int xs0] (HN h0 ad cs pm) 0 0 := by
  refine rl_istore_n (L' := [some (.ref (ad (gEc))), some (.int xs0), none]) dX8_runScript_7 rfl (Nat.le_of_ble_eq_true rfl) rfl ?_
  refine rl_iload_n dX8_runScript_8 rfl rfl ?_
  refine rl_iconst (v := -1) dX8_runScript_9 (by decide) ?_
  refine rl_icmp_eq (tgt := 17) dX8_runScript_10 (by decide) (fun c_1 => ?_) (fun c_1 => ?_)
  · have H := H.1 c_1
    refine rl_aload_n dX8_runScript_17 rfl rfl ?_
    refine rt_getP (k := 2) cfX8 dX8_runScript_18 flX8_34 (by decide) rfl (lEc L) (rEc2 L) naEc ?_
    refine rl_aload_n dX8_runScript_21 rfl rfl ?_
    refine rt_getP (k := 1) cfX8 dX8_runScript_22 flX8_27 (by decide) rfl (lEc L) (rEc1 L) naEc ?_
    exact rl_callV (As := [.ref (ad (gSt 0))]) (rest := []) mfX1_save dX8_runScript_25 lkX8_98 (lHi L).K (by decide) (Nat.le_of_ble_eq_true rfl) (Nat.le_refl _) (Nat.le_refl _) rfl (Nat.le_of_ble_eq_true rfl) rfl rfl (fun Qc k => H Qc (fun h' w => k none h' (rl_wk (L' := [some (.ref (ad (gEc))), none, none]) ⟨rfl, trivial⟩ w)))
  · have H := H.2 c_1
    refine rl_iconst (v := -1) dX8_runScript_13 (by decide) ?_
    refine rl_iload_n dX8_runScript_14 rfl rfl ?_
    refine rl_isub dX8_runScript_15 ?_
    exact rl_iret dX8_runScript_16 rfl (Nat.le_refl 0) (Nat.le_refl 0) H
theorem tX8_runScript_28 {n : Nat} {ad : Nat → Nat} {h0 : Hp} {cs : Nat → Nat → Int32} {pm : Nat → Nat → Nat} (L : Lay n ad h0) {Q : Nat → Option Value → Hp → Prop}  (H : Wm mX8_runScript 6 0 0 Q 30 [some (.ref (ad (gEc))), none, some (.int (nI 0))] [] (HN h0 ad cs pm) 0 0) : Wm mX8_runScript 6 0 0 Q 28 [some (.ref (ad (gEc))), none, none] [] (HN h0 ad cs pm) 0 0 := by
  refine rl_iconst (v := nI 0) dX8_runScript_28 (by decide) ?_
  refine rl_istore_n (L' := [some (.ref (ad (gEc))), none, some (.int (nI 0))]) dX8_runScript_29 rfl (Nat.le_of_ble_eq_true rfl) rfl ?_
  exact H
theorem tX8_runScript_30 {n : Nat} {ad : Nat → Nat} {h0 : Hp} {cs : Nat → Nat → Int32} {pm : Nat → Nat → Nat} (L : Lay n ad h0) {Q : Nat → Option Value → Hp → Prop} {x2 : Int32} (H : (((cs (gSc) 3) ≤ x2 → CKv mX1_keep 0 0 0 [some (.ref (ad (gHi)))] (HN h0 ad cs pm) (fun h' => Wm mX8_runScript 6 0 0 Q 87 [some (.ref (ad (gEc))), none, none] [] h' 0 0)) ∧ (¬ (cs (gSc) 3) ≤ x2 → (∃ j_2 : Nat, x2 = nI j_2 ∧ j_2 < 30 ∧ (CKi mX8_runCommand 5 0 0 [some (.ref (ad (gEc))), some (.ref (ad (gCm j_2)))] (HN h0 ad cs pm) (fun v h' => Wm mX8_runScript 6 0 0 Q 54 [some (.ref (ad (gEc))), none, some (.int x2)] [.int v] h' 0 0)))))) : Wm mX8_runScript 6 0 0 Q 30 [some (.ref (ad (gEc))), none, some (.int x2)] [] (HN h0 ad cs pm) 0 0 := by
  refine rl_iload_n dX8_runScript_30 rfl rfl ?_
  refine rl_aload_n dX8_runScript_31 rfl rfl ?_
  refine rt_getP (k := 3) cfX8 dX8_runScript_32 flX8_41 (by decide) rfl (lEc L) (rEc3 L) naEc ?_
  refine rt_getI (k := 3) cfX4 dX8_runScript_35 flX8_222 (by decide) rfl (lSc L) nzSc ?_
  refine rl_icmp_ge (tgt := 80) dX8_runScript_38 (by decide) (fun c_1 => ?_) (fun c_1 => ?_)
  · have H := H.1 c_1
    refine rl_aload_n dX8_runScript_80 rfl rfl ?_
    refine rt_getP (k := 2) cfX8 dX8_runScript_81 flX8_34 (by decide) rfl (lEc L) (rEc2 L) naEc ?_
    exact rl_callV (As := []) (rest := []) mfX1_keep dX8_runScript_84 lkX8_104 (lHi L).K (by decide) (Nat.le_of_ble_eq_true rfl) (Nat.le_refl _) (Nat.le_refl _) rfl (Nat.le_of_ble_eq_true rfl) rfl rfl (fun Qc k => H Qc (fun h' w => k none h' (rl_wk (L' := [some (.ref (ad (gEc))), none, none]) ⟨rfl, trivial⟩ w)))
  · have H := H.2 c_1
    refine rl_aload_n dX8_runScript_41 rfl rfl ?_
    refine rl_aload_n dX8_runScript_42 rfl rfl ?_
    refine rt_getP (k := 3) cfX8 dX8_runScript_43 flX8_41 (by decide) rfl (lEc L) (rEc3 L) naEc ?_
    refine rt_getP (k := 1) cfX4 dX8_runScript_46 flX8_225 (by decide) rfl (lSc L) (rSc1 L) naSc ?_
    refine rl_iload_n dX8_runScript_49 rfl rfl ?_
    obtain ⟨j_2, e_3, b_4, H⟩ := H
    refine rt_aald (ci := 0) (j := j_2) dX8_runScript_50 rfl (lCa L) e_3 b_4 (by decide) (rCa L b_4) naCa ?_
    exact rl_callV (As := [.ref (ad (gCm j_2))]) (rest := []) mfX8_runCommand dX8_runScript_51 lkX8_229 (lEc L).K (by decide) (Nat.le_of_ble_eq_true rfl) (Nat.le_refl _) (Nat.le_refl _) rfl (Nat.le_of_ble_eq_true rfl) rfl rfl (fun Qc k => H Qc (fun v h' w => k (some (.int v)) h' w))
theorem tX8_runScript_54 {n : Nat} {ad : Nat → Nat} {h0 : Hp} {cs : Nat → Nat → Int32} {pm : Nat → Nat → Nat} (L : Lay n ad h0) {Q : Nat → Option Value → Hp → Prop} {x2 xs0 : Int32} (H : ((¬ xs0 = 0 → Wm mX8_runScript 6 0 0 Q 30 [some (.ref (ad (gEc))), none, some (.int (x2 + nI 1))] [] (HN h0 ad cs pm) 0 0) ∧ (xs0 = 0 → CKv mX1_bringBackSaved 5 0 0 [some (.ref (ad (gHi))), some (.ref (ad (gSt 0)))] (HN h0 ad cs pm) (fun h' => Wm mX8_runScript 6 0 0 Q 68 [none, none, some (.int x2)] [] h' 0 0)))) : Wm mX8_runScript 6 0 0 Q 54 [some (.ref (ad (gEc))), none, some (.int x2)] [.int xs0] (HN h0 ad cs pm) 0 0 := by
  refine rl_if_ne (tgt := 74) dX8_runScript_54 (by decide) (fun c_1 => ?_) (fun c_1 => ?_)
  · have H := H.1 c_1
    refine rl_iinc (v := x2 + nI 1) (L' := [some (.ref (ad (gEc))), none, some (.int (x2 + nI 1))]) dX8_runScript_74 rfl (congrArg (fun z => x2 + z) (by decide)) (Nat.le_of_ble_eq_true rfl) rfl ?_
    refine rl_goto (tgt := 30) dX8_runScript_77 (by decide) ?_
    exact H
  · have H := H.2 c_1
    refine rl_aload_n dX8_runScript_57 rfl rfl ?_
    refine rt_getP (k := 2) cfX8 dX8_runScript_58 flX8_34 (by decide) rfl (lEc L) (rEc2 L) naEc ?_
    refine rl_aload_n dX8_runScript_61 rfl rfl ?_
    refine rt_getP (k := 1) cfX8 dX8_runScript_62 flX8_27 (by decide) rfl (lEc L) (rEc1 L) naEc ?_
    exact rl_callV (As := [.ref (ad (gSt 0))]) (rest := []) mfX1_bringBackSaved dX8_runScript_65 lkX8_233 (lHi L).K (by decide) (Nat.le_of_ble_eq_true rfl) (Nat.le_refl _) (Nat.le_refl _) rfl (Nat.le_of_ble_eq_true rfl) rfl rfl (fun Qc k => H Qc (fun h' w => k none h' (rl_wk (L' := [none, none, some (.int x2)]) ⟨rfl, trivial⟩ w)))
theorem tX8_runScript_68 {n : Nat} {ad : Nat → Nat} {h0 : Hp} {cs : Nat → Nat → Int32} {pm : Nat → Nat → Nat} (L : Lay n ad h0) {Q : Nat → Option Value → Hp → Prop} {x2 : Int32} (H : Q 0 (some (.int ((-1000) - x2))) (HN h0 ad cs pm)) : Wm mX8_runScript 6 0 0 Q 68 [none, none, some (.int x2)] [] (HN h0 ad cs pm) 0 0 := by
  refine rl_sipush (v := -1000) dX8_runScript_68 (by decide) ?_
  refine rl_iload_n dX8_runScript_71 rfl rfl ?_
  refine rl_isub dX8_runScript_72 ?_
  exact rl_iret dX8_runScript_73 rfl (Nat.le_refl 0) (Nat.le_refl 0) H
theorem tX8_runScript_87 {n : Nat} {ad : Nat → Nat} {h0 : Hp} {cs : Nat → Nat → Int32} {pm : Nat → Nat → Nat} (L : Lay n ad h0) {Q : Nat → Option Value → Hp → Prop}  (H : Q 0 (some (.int (cs (gSc) 3))) (HN h0 ad (up2 cs (gSc) 2 (nI 0)) pm)) : Wm mX8_runScript 6 0 0 Q 87 [some (.ref (ad (gEc))), none, none] [] (HN h0 ad cs pm) 0 0 := by
  refine rl_aload_n dX8_runScript_87 rfl rfl ?_
  refine rt_getP (k := 3) cfX8 dX8_runScript_88 flX8_41 (by decide) rfl (lEc L) (rEc3 L) naEc ?_
  refine rl_iconst (v := nI 0) dX8_runScript_91 (by decide) ?_
  refine rt_putI (k := 2) L.2.1 cfX4 dX8_runScript_92 flX8_211 (by decide) rfl (lSc L) nzSc (Or.inl rfl) ?_
  refine rl_aload_n dX8_runScript_95 rfl rfl ?_
  refine rt_getP (k := 3) cfX8 dX8_runScript_96 flX8_41 (by decide) rfl (lEc L) (rEc3 L) naEc ?_
  refine rt_getIv (x := cs (gSc) 3) (k := 3) cfX4 dX8_runScript_99 flX8_222 (by decide) rfl (lSc L) nzSc ((up2_k (by decide)).trans (rfl)) ?_
  exact rl_iret dX8_runScript_102 rfl (Nat.le_refl 0) (Nat.le_refl 0) H
theorem tX8_runCommand_0 {n : Nat} {ad : Nat → Nat} {h0 : Hp} {cs : Nat → Nat → Int32} {pm : Nat → Nat → Nat} (L : Lay n ad h0) {Q : Nat → Option Value → Hp → Prop} {i1 : Nat} (H : i1 < 30 ∧ (((cs (gCm i1) 0) = nI 43 → CKi mX8_changeFault 1 0 0 [some (.ref (ad (gEc))), some (.int (cs (gCm i1) 1)), some (.int (cs (gCm i1) 3))] (HN h0 ad cs pm) (fun v h' => Wm mX8_runCommand 5 0 0 Q 76 [some (.ref (ad (gEc))), some (.ref (ad (gCm i1)))] [.int v] h' 0 0)) ∧ ((cs (gCm i1) 0) = nI 45 → CKi mX8_changeFault 1 0 0 [some (.ref (ad (gEc))), some (.int (cs (gCm i1) 1)), some (.int (cs (gCm i1) 3))] (HN h0 ad cs pm) (fun v h' => Wm mX8_runCommand 5 0 0 Q 116 [some (.ref (ad (gEc))), some (.ref (ad (gCm i1)))] [.int v] h' 0 0)) ∧ ((cs (gCm i1) 0) = nI 100 → CKi mX8_runTransfer 4 0 0 [some (.ref (ad (gEc))), some (.int (nI 1)), some (.ref (ad (gCm i1)))] (HN h0 ad cs pm) (fun v h' => Wm mX8_runCommand 5 0 0 Q 157 [none, none] [.int v] h' 0 0)) ∧ ((cs (gCm i1) 0) = nI 109 → CKi mX8_runMessage 4 0 0 [some (.ref (ad (gEc))), some (.ref (ad (gCm i1)))] (HN h0 ad cs pm) (fun v h' => Wm mX8_runCommand 5 0 0 Q 163 [none, none] [.int v] h' 0 0)) ∧ ((cs (gCm i1) 0) = nI 116 → CKi mX8_runPass 2 0 0 [some (.ref (ad (gEc))), some (.ref (ad (gCm i1)))] (HN h0 ad cs pm) (fun v h' => Wm mX8_runCommand 5 0 0 Q 169 [none, none] [.int v] h' 0 0)) ∧ ((cs (gCm i1) 0) = nI 117 → CKi mX8_runTransfer 4 0 0 [some (.ref (ad (gEc))), some (.int (nI 0)), some (.ref (ad (gCm i1)))] (HN h0 ad cs pm) (fun v h' => Wm mX8_runCommand 5 0 0 Q 150 [none, none] [.int v] h' 0 0)) ∧ (¬ (cs (gCm i1) 0) = nI 43 → ¬ (cs (gCm i1) 0) = nI 45 → ¬ (cs (gCm i1) 0) = nI 100 → ¬ (cs (gCm i1) 0) = nI 109 → ¬ (cs (gCm i1) 0) = nI 116 → ¬ (cs (gCm i1) 0) = nI 117 → Q 0 (some (.int (nI 0))) (HN h0 ad cs pm)))) : Wm mX8_runCommand 5 0 0 Q 0 [some (.ref (ad (gEc))), some (.ref (ad (gCm i1)))] [] (HN h0 ad cs pm) 0 0 := by
  refine rl_aload_n dX8_runCommand_0 rfl rfl ?_
  obtain ⟨o_1, H⟩ := H
  refine rt_getI (k := 0) cfX0 dX8_runCommand_1 flX8_253 (by decide) rfl (lCm L o_1) nzCm ?_
  by_cases c_2 : (cs (gCm i1) 0) = nI 43
  · have H := (H.1) c_2
    refine rl_lookup (tgt := 64) dX8_runCommand_4 (by decide) (by rw [c_2]; decide) ?_
    refine rl_aload_n dX8_runCommand_64 rfl rfl ?_
    refine rl_aload_n dX8_runCommand_65 rfl rfl ?_
    refine rt_getI (k := 1) cfX0 dX8_runCommand_66 flX8_258 (by decide) rfl (lCm L o_1) nzCm ?_
    refine rl_aload_n dX8_runCommand_69 rfl rfl ?_
    refine rt_getI (k := 3) cfX0 dX8_runCommand_70 flX8_261 (by decide) rfl (lCm L o_1) nzCm ?_
    exact rl_callV (As := [.int (cs (gCm i1) 1), .int (cs (gCm i1) 3)]) (rest := []) mfX8_changeFault dX8_runCommand_73 lkX8_63 (lEc L).K (by decide) (Nat.le_of_ble_eq_true rfl) (Nat.le_refl _) (Nat.le_refl _) rfl (Nat.le_of_ble_eq_true rfl) rfl rfl (fun Qc k => H Qc (fun v h' w => k (some (.int v)) h' w))
  by_cases c_3 : (cs (gCm i1) 0) = nI 45
  · have H := (H.2.1) c_3
    refine rl_lookup (tgt := 104) dX8_runCommand_4 (by decide) (by rw [c_3]; decide) ?_
    refine rl_aload_n dX8_runCommand_104 rfl rfl ?_
    refine rl_aload_n dX8_runCommand_105 rfl rfl ?_
    refine rt_getI (k := 1) cfX0 dX8_runCommand_106 flX8_258 (by decide) rfl (lCm L o_1) nzCm ?_
    refine rl_aload_n dX8_runCommand_109 rfl rfl ?_
    refine rt_getI (k := 3) cfX0 dX8_runCommand_110 flX8_261 (by decide) rfl (lCm L o_1) nzCm ?_
    exact rl_callV (As := [.int (cs (gCm i1) 1), .int (cs (gCm i1) 3)]) (rest := []) mfX8_changeFault dX8_runCommand_113 lkX8_63 (lEc L).K (by decide) (Nat.le_of_ble_eq_true rfl) (Nat.le_refl _) (Nat.le_refl _) rfl (Nat.le_of_ble_eq_true rfl) rfl rfl (fun Qc k => H Qc (fun v h' w => k (some (.int v)) h' w))
  by_cases c_4 : (cs (gCm i1) 0) = nI 100
  · have H := (H.2.2.1) c_4
    refine rl_lookup (tgt := 151) dX8_runCommand_4 (by decide) (by rw [c_4]; decide) ?_
    refine rl_aload_n dX8_runCommand_151 rfl rfl ?_
    refine rl_iconst (v := nI 1) dX8_runCommand_152 (by decide) ?_
    refine rl_aload_n dX8_runCommand_153 rfl rfl ?_
    exact rl_callV (As := [.int (nI 1), .ref (ad (gCm i1))]) (rest := []) mfX8_runTransfer dX8_runCommand_154 lkX8_264 (lEc L).K (by decide) (Nat.le_of_ble_eq_true rfl) (Nat.le_refl _) (Nat.le_refl _) rfl (Nat.le_of_ble_eq_true rfl) rfl rfl (fun Qc k => H Qc (fun v h' w => k (some (.int v)) h' (rl_wk (L' := [none, none]) trivial w)))
  by_cases c_5 : (cs (gCm i1) 0) = nI 109
  · have H := (H.2.2.2.1) c_5
    refine rl_lookup (tgt := 158) dX8_runCommand_4 (by decide) (by rw [c_5]; decide) ?_
    refine rl_aload_n dX8_runCommand_158 rfl rfl ?_
    refine rl_aload_n dX8_runCommand_159 rfl rfl ?_
    exact rl_callV (As := [.ref (ad (gCm i1))]) (rest := []) mfX8_runMessage dX8_runCommand_160 lkX8_268 (lEc L).K (by decide) (Nat.le_of_ble_eq_true rfl) (Nat.le_refl _) (Nat.le_refl _) rfl (Nat.le_of_ble_eq_true rfl) rfl rfl (fun Qc k => H Qc (fun v h' w => k (some (.int v)) h' (rl_wk (L' := [none, none]) trivial w)))
  by_cases c_6 : (cs (gCm i1) 0) = nI 116
  · have H := (H.2.2.2.2.1) c_6
    refine rl_lookup (tgt := 164) dX8_runCommand_4 (by decide) (by rw [c_6]; decide) ?_
    refine rl_aload_n dX8_runCommand_164 rfl rfl ?_
    refine rl_aload_n dX8_runCommand_165 rfl rfl ?_
    exact rl_callV (As := [.ref (ad (gCm i1))]) (rest := []) mfX8_runPass dX8_runCommand_166 lkX8_271 (lEc L).K (by decide) (Nat.le_of_ble_eq_true rfl) (Nat.le_refl _) (Nat.le_refl _) rfl (Nat.le_of_ble_eq_true rfl) rfl rfl (fun Qc k => H Qc (fun v h' w => k (some (.int v)) h' (rl_wk (L' := [none, none]) trivial w)))
  by_cases c_7 : (cs (gCm i1) 0) = nI 117
  · have H := (H.2.2.2.2.2.1) c_7
    refine rl_lookup (tgt := 144) dX8_runCommand_4 (by decide) (by rw [c_7]; decide) ?_
    refine rl_aload_n dX8_runCommand_144 rfl rfl ?_
    refine rl_iconst (v := nI 0) dX8_runCommand_145 (by decide) ?_
    refine rl_aload_n dX8_runCommand_146 rfl rfl ?_
    exact rl_callV (As := [.int (nI 0), .ref (ad (gCm i1))]) (rest := []) mfX8_runTransfer dX8_runCommand_147 lkX8_264 (lEc L).K (by decide) (Nat.le_of_ble_eq_true rfl) (Nat.le_refl _) (Nat.le_refl _) rfl (Nat.le_of_ble_eq_true rfl) rfl rfl (fun Qc k => H Qc (fun v h' w => k (some (.int v)) h' (rl_wk (L' := [none, none]) trivial w)))
  have H := (H.2.2.2.2.2.2) c_2 c_3 c_4 c_5 c_6 c_7
  refine rl_lookup (tgt := 170) dX8_runCommand_4 (by decide) (by show _ + Op.lookupswitch.offset [(43, 60), (45, 100), (100, 147), (109, 154), (116, 160), (117, 140)] _ _ = _; rw [lv_osw c_2 (by decide), lv_osw c_3 (by decide), lv_osw c_4 (by decide), lv_osw c_5 (by decide), lv_osw c_6 (by decide), lv_osw c_7 (by decide)]; rfl) ?_
  refine rl_iconst (v := nI 0) dX8_runCommand_170 (by decide) ?_
  exact rl_zret dX8_runCommand_171 rfl rfl (Nat.le_refl 0) (Nat.le_refl 0) H
theorem tX8_runCommand_76 {n : Nat} {ad : Nat → Nat} {h0 : Hp} {cs : Nat → Nat → Int32} {pm : Nat → Nat → Nat} (L : Lay n ad h0) {Q : Nat → Option Value → Hp → Prop} {i1 : Nat} {xs0 : Int32} (H : ((¬ xs0 = 0 → Q 0 (some (.int (nI 0))) (HN h0 ad cs pm)) ∧ (xs0 = 0 → i1 < 30 ∧ CKi mX6_change 4 0 0 [some (.ref (ad (gSt 0))), some (.int (cs (gCm i1) 1)), some (.int (nI 0)), some (.int (cs (gCm i1) 3)), none, none] (HN h0 ad cs pm) (fun v h' => Wm mX8_runCommand 5 0 0 Q 95 [none, none] [.int v] h' 0 0)))) : Wm mX8_runCommand 5 0 0 Q 76 [some (.ref (ad (gEc))), some (.ref (ad (gCm i1)))] [.int xs0] (HN h0 ad cs pm) 0 0 := by
  refine rl_if_ne (tgt := 102) dX8_runCommand_76 (by decide) (fun c_1 => ?_) (fun c_1 => ?_)
  · have H := H.1 c_1
    refine rl_iconst (v := nI 0) dX8_runCommand_102 (by decide) ?_
    exact rl_zret dX8_runCommand_103 rfl rfl (Nat.le_refl 0) (Nat.le_refl 0) H
  · have H := H.2 c_1
    refine rl_aload_n dX8_runCommand_79 rfl rfl ?_
    refine rt_getP (k := 1) cfX8 dX8_runCommand_80 flX8_27 (by decide) rfl (lEc L) (rEc1 L) naEc ?_
    refine rl_aload_n dX8_runCommand_83 rfl rfl ?_
    obtain ⟨o_2, H⟩ := H
    refine rt_getI (k := 1) cfX0 dX8_runCommand_84 flX8_258 (by decide) rfl (lCm L o_2) nzCm ?_
    refine rl_iconst (v := nI 0) dX8_runCommand_87 (by decide) ?_
    refine rl_aload_n dX8_runCommand_88 rfl rfl ?_
    refine rt_getI (k := 3) cfX0 dX8_runCommand_89 flX8_261 (by decide) rfl (lCm L o_2) nzCm ?_
    exact rl_callV (As := [.int (cs (gCm i1) 1), .int (nI 0), .int (cs (gCm i1) 3)]) (rest := []) mfX6_change dX8_runCommand_92 lkX8_73 (lSt L (by decide)).K (by decide) (Nat.le_of_ble_eq_true rfl) (Nat.le_refl _) (Nat.le_refl _) rfl (Nat.le_of_ble_eq_true rfl) rfl rfl (fun Qc k => H Qc (fun v h' w => k (some (.int v)) h' (rl_wk (L' := [none, none]) trivial w)))
theorem tX8_runCommand_95 {n : Nat} {ad : Nat → Nat} {h0 : Hp} {cs : Nat → Nat → Int32} {pm : Nat → Nat → Nat} (L : Lay n ad h0) {Q : Nat → Option Value → Hp → Prop} {xs0 : Int32} (H : ((xs0 = 0 → Q 0 (some (.int (nI 0))) (HN h0 ad cs pm)) ∧ (¬ xs0 = 0 → Q 0 (some (.int (nI 1))) (HN h0 ad cs pm)))) : Wm mX8_runCommand 5 0 0 Q 95 [none, none] [.int xs0] (HN h0 ad cs pm) 0 0 := by
  refine rl_if_eq (tgt := 102) dX8_runCommand_95 (by decide) (fun c_1 => ?_) (fun c_1 => ?_)
  · have H := H.1 c_1
    refine rl_iconst (v := nI 0) dX8_runCommand_102 (by decide) ?_
    exact rl_zret dX8_runCommand_103 rfl rfl (Nat.le_refl 0) (Nat.le_refl 0) H
  · have H := H.2 c_1
    refine rl_iconst (v := nI 1) dX8_runCommand_98 (by decide) ?_
    refine rl_goto (tgt := 103) dX8_runCommand_99 (by decide) ?_
    exact rl_zret dX8_runCommand_103 rfl rfl (Nat.le_refl 0) (Nat.le_refl 0) H
theorem tX8_runCommand_116 {n : Nat} {ad : Nat → Nat} {h0 : Hp} {cs : Nat → Nat → Int32} {pm : Nat → Nat → Nat} (L : Lay n ad h0) {Q : Nat → Option Value → Hp → Prop} {i1 : Nat} {xs0 : Int32} (H : ((¬ xs0 = 0 → Q 0 (some (.int (nI 0))) (HN h0 ad cs pm)) ∧ (xs0 = 0 → i1 < 30 ∧ CKi mX6_change 4 0 0 [some (.ref (ad (gSt 0))), some (.int (cs (gCm i1) 1)), some (.int (nI 1)), some (.int (cs (gCm i1) 3)), none, none] (HN h0 ad cs pm) (fun v h' => Wm mX8_runCommand 5 0 0 Q 135 [none, none] [.int v] h' 0 0)))) : Wm mX8_runCommand 5 0 0 Q 116 [some (.ref (ad (gEc))), some (.ref (ad (gCm i1)))] [.int xs0] (HN h0 ad cs pm) 0 0 := by
  refine rl_if_ne (tgt := 142) dX8_runCommand_116 (by decide) (fun c_1 => ?_) (fun c_1 => ?_)
  · have H := H.1 c_1
    refine rl_iconst (v := nI 0) dX8_runCommand_142 (by decide) ?_
    exact rl_zret dX8_runCommand_143 rfl rfl (Nat.le_refl 0) (Nat.le_refl 0) H
  · have H := H.2 c_1
    refine rl_aload_n dX8_runCommand_119 rfl rfl ?_
    refine rt_getP (k := 1) cfX8 dX8_runCommand_120 flX8_27 (by decide) rfl (lEc L) (rEc1 L) naEc ?_
    refine rl_aload_n dX8_runCommand_123 rfl rfl ?_
    obtain ⟨o_2, H⟩ := H
    refine rt_getI (k := 1) cfX0 dX8_runCommand_124 flX8_258 (by decide) rfl (lCm L o_2) nzCm ?_
    refine rl_iconst (v := nI 1) dX8_runCommand_127 (by decide) ?_
    refine rl_aload_n dX8_runCommand_128 rfl rfl ?_
    refine rt_getI (k := 3) cfX0 dX8_runCommand_129 flX8_261 (by decide) rfl (lCm L o_2) nzCm ?_
    exact rl_callV (As := [.int (cs (gCm i1) 1), .int (nI 1), .int (cs (gCm i1) 3)]) (rest := []) mfX6_change dX8_runCommand_132 lkX8_73 (lSt L (by decide)).K (by decide) (Nat.le_of_ble_eq_true rfl) (Nat.le_refl _) (Nat.le_refl _) rfl (Nat.le_of_ble_eq_true rfl) rfl rfl (fun Qc k => H Qc (fun v h' w => k (some (.int v)) h' (rl_wk (L' := [none, none]) trivial w)))
theorem tX8_runCommand_135 {n : Nat} {ad : Nat → Nat} {h0 : Hp} {cs : Nat → Nat → Int32} {pm : Nat → Nat → Nat} (L : Lay n ad h0) {Q : Nat → Option Value → Hp → Prop} {xs0 : Int32} (H : ((xs0 = 0 → Q 0 (some (.int (nI 0))) (HN h0 ad cs pm)) ∧ (¬ xs0 = 0 → Q 0 (some (.int (nI 1))) (HN h0 ad cs pm)))) : Wm mX8_runCommand 5 0 0 Q 135 [none, none] [.int xs0] (HN h0 ad cs pm) 0 0 := by
  refine rl_if_eq (tgt := 142) dX8_runCommand_135 (by decide) (fun c_1 => ?_) (fun c_1 => ?_)
  · have H := H.1 c_1
    refine rl_iconst (v := nI 0) dX8_runCommand_142 (by decide) ?_
    exact rl_zret dX8_runCommand_143 rfl rfl (Nat.le_refl 0) (Nat.le_refl 0) H
  · have H := H.2 c_1
    refine rl_iconst (v := nI 1) dX8_runCommand_138 (by decide) ?_
    refine rl_goto (tgt := 143) dX8_runCommand_139 (by decide) ?_
    exact rl_zret dX8_runCommand_143 rfl rfl (Nat.le_refl 0) (Nat.le_refl 0) H
theorem tX8_runCommand_150 {n : Nat} {ad : Nat → Nat} {h0 : Hp} {cs : Nat → Nat → Int32} {pm : Nat → Nat → Nat} (L : Lay n ad h0) {Q : Nat → Option Value → Hp → Prop} {xs0 : Int32} (H : narrow .boolean (.int xs0) = .int xs0 ∧ Q 0 (some (.int xs0)) (HN h0 ad cs pm)) : Wm mX8_runCommand 5 0 0 Q 150 [none, none] [.int xs0] (HN h0 ad cs pm) 0 0 := by
  obtain ⟨o_1, H⟩ := H
  exact rl_zret dX8_runCommand_150 rfl o_1 (Nat.le_refl 0) (Nat.le_refl 0) H
theorem tX8_runCommand_157 {n : Nat} {ad : Nat → Nat} {h0 : Hp} {cs : Nat → Nat → Int32} {pm : Nat → Nat → Nat} (L : Lay n ad h0) {Q : Nat → Option Value → Hp → Prop} {xs0 : Int32} (H : narrow .boolean (.int xs0) = .int xs0 ∧ Q 0 (some (.int xs0)) (HN h0 ad cs pm)) : Wm mX8_runCommand 5 0 0 Q 157 [none, none] [.int xs0] (HN h0 ad cs pm) 0 0 := by
  obtain ⟨o_1, H⟩ := H
  exact rl_zret dX8_runCommand_157 rfl o_1 (Nat.le_refl 0) (Nat.le_refl 0) H
theorem tX8_runCommand_163 {n : Nat} {ad : Nat → Nat} {h0 : Hp} {cs : Nat → Nat → Int32} {pm : Nat → Nat → Nat} (L : Lay n ad h0) {Q : Nat → Option Value → Hp → Prop} {xs0 : Int32} (H : narrow .boolean (.int xs0) = .int xs0 ∧ Q 0 (some (.int xs0)) (HN h0 ad cs pm)) : Wm mX8_runCommand 5 0 0 Q 163 [none, none] [.int xs0] (HN h0 ad cs pm) 0 0 := by
  obtain ⟨o_1, H⟩ := H
  exact rl_zret dX8_runCommand_163 rfl o_1 (Nat.le_refl 0) (Nat.le_refl 0) H
theorem tX8_runCommand_169 {n : Nat} {ad : Nat → Nat} {h0 : Hp} {cs : Nat → Nat → Int32} {pm : Nat → Nat → Nat} (L : Lay n ad h0) {Q : Nat → Option Value → Hp → Prop} {xs0 : Int32} (H : narrow .boolean (.int xs0) = .int xs0 ∧ Q 0 (some (.int xs0)) (HN h0 ad cs pm)) : Wm mX8_runCommand 5 0 0 Q 169 [none, none] [.int xs0] (HN h0 ad cs pm) 0 0 := by
  obtain ⟨o_1, H⟩ := H
  exact rl_zret dX8_runCommand_169 rfl o_1 (Nat.le_refl 0) (Nat.le_refl 0) H
theorem tX8_changeFault_0 {n : Nat} {ad : Nat → Nat} {h0 : Hp} {cs : Nat → Nat → Int32} {pm : Nat → Nat → Nat} (L : Lay n ad h0) {Q : Nat → Option Value → Hp → Prop} {x1 x2 : Int32} (H : CKi mX8_isSite 0 0 0 [some (.ref (ad (gEc))), some (.int x1)] (HN h0 ad cs pm) (fun v h' => Wm mX8_changeFault 1 0 0 Q 5 [none, none, some (.int x2)] [.int v] h' 0 0)) : Wm mX8_changeFault 1 0 0 Q 0 [some (.ref (ad (gEc))), some (.int x1), some (.int x2)] [] (HN h0 ad cs pm) 0 0 := by
  refine rl_aload_n dX8_changeFault_0 rfl rfl ?_
  refine rl_iload_n dX8_changeFault_1 rfl rfl ?_
  exact rl_callV (As := [.int x1]) (rest := []) mfX8_isSite dX8_changeFault_2 lkX8_283 (lEc L).K (by decide) (Nat.le_of_ble_eq_true rfl) (Nat.le_refl _) (Nat.le_refl _) rfl (Nat.le_of_ble_eq_true rfl) rfl rfl (fun Qc k => H Qc (fun v h' w => k (some (.int v)) h' (rl_wk (L' := [none, none, some (.int x2)]) ⟨rfl, trivial⟩ w)))
theorem tX8_changeFault_5 {n : Nat} {ad : Nat → Nat} {h0 : Hp} {cs : Nat → Nat → Int32} {pm : Nat → Nat → Nat} (L : Lay n ad h0) {Q : Nat → Option Value → Hp → Prop} {x2 xs0 : Int32} (H : ((¬ xs0 = 0 → CKi mX8_isAmount 0 0 0 [some (.int x2)] (HN h0 ad cs pm) (fun v h' => Wm mX8_changeFault 1 0 0 Q 14 [none, none, none] [.int v] h' 0 0)) ∧ (xs0 = 0 → Q 0 (some (.int (nI 1))) (HN h0 ad cs pm)))) : Wm mX8_changeFault 1 0 0 Q 5 [none, none, some (.int x2)] [.int xs0] (HN h0 ad cs pm) 0 0 := by
  refine rl_if_ne (tgt := 10) dX8_changeFault_5 (by decide) (fun c_1 => ?_) (fun c_1 => ?_)
  · have H := H.1 c_1
    refine rl_iload_n dX8_changeFault_10 rfl rfl ?_
    exact rl_callS (As := [.int x2]) (rest := []) mfX8_isAmount dX8_changeFault_11 lkX8_286 (by decide) (Nat.le_of_ble_eq_true rfl) (Nat.le_refl _) (Nat.le_refl _) rfl (Nat.le_of_ble_eq_true rfl) rfl rfl (fun Qc k => H Qc (fun v h' w => k (some (.int v)) h' (rl_wk (L' := [none, none, none]) trivial w)))
  · have H := H.2 c_1
    refine rl_iconst (v := nI 1) dX8_changeFault_8 (by decide) ?_
    exact rl_iret dX8_changeFault_9 rfl (Nat.le_refl 0) (Nat.le_refl 0) H
theorem tX8_changeFault_14 {n : Nat} {ad : Nat → Nat} {h0 : Hp} {cs : Nat → Nat → Int32} {pm : Nat → Nat → Nat} (L : Lay n ad h0) {Q : Nat → Option Value → Hp → Prop} {xs0 : Int32} (H : ((xs0 = 0 → Q 0 (some (.int (nI 2))) (HN h0 ad cs pm)) ∧ (¬ xs0 = 0 → Q 0 (some (.int (nI 0))) (HN h0 ad cs pm)))) : Wm mX8_changeFault 1 0 0 Q 14 [none, none, none] [.int xs0] (HN h0 ad cs pm) 0 0 := by
  refine rl_if_eq (tgt := 21) dX8_changeFault_14 (by decide) (fun c_1 => ?_) (fun c_1 => ?_)
  · have H := H.1 c_1
    refine rl_iconst (v := nI 2) dX8_changeFault_21 (by decide) ?_
    exact rl_iret dX8_changeFault_22 rfl (Nat.le_refl 0) (Nat.le_refl 0) H
  · have H := H.2 c_1
    refine rl_iconst (v := nI 0) dX8_changeFault_17 (by decide) ?_
    refine rl_goto (tgt := 22) dX8_changeFault_18 (by decide) ?_
    exact rl_iret dX8_changeFault_22 rfl (Nat.le_refl 0) (Nat.le_refl 0) H
theorem tX8_isSite_0 {n : Nat} {ad : Nat → Nat} {h0 : Hp} {cs : Nat → Nat → Int32} {pm : Nat → Nat → Nat} (L : Lay n ad h0) {Q : Nat → Option Value → Hp → Prop} {x1 : Int32} (H : ((x1 < 0 → Q 0 (some (.int (nI 0))) (HN h0 ad cs pm)) ∧ (¬ x1 < 0 → (((cs (gEc) 0) ≤ x1 → Q 0 (some (.int (nI 0))) (HN h0 ad cs pm)) ∧ (¬ (cs (gEc) 0) ≤ x1 → Q 0 (some (.int (nI 1))) (HN h0 ad cs pm)))))) : Wm mX8_isSite 0 0 0 Q 0 [some (.ref (ad (gEc))), some (.int x1)] [] (HN h0 ad cs pm) 0 0 := by
  refine rl_iload_n dX8_isSite_0 rfl rfl ?_
  refine rl_if_lt (tgt := 16) dX8_isSite_1 (by decide) (fun c_1 => ?_) (fun c_1 => ?_)
  · have H := H.1 c_1
    refine rl_iconst (v := nI 0) dX8_isSite_16 (by decide) ?_
    exact rl_zret dX8_isSite_17 rfl rfl (Nat.le_refl 0) (Nat.le_refl 0) H
  · have H := H.2 c_1
    refine rl_iload_n dX8_isSite_4 rfl rfl ?_
    refine rl_aload_n dX8_isSite_5 rfl rfl ?_
    refine rt_getI (k := 0) cfX8 dX8_isSite_6 flX8_18 (by decide) rfl (lEc L) nzEc ?_
    refine rl_icmp_ge (tgt := 16) dX8_isSite_9 (by decide) (fun c_2 => ?_) (fun c_2 => ?_)
    · have H := H.1 c_2
      refine rl_iconst (v := nI 0) dX8_isSite_16 (by decide) ?_
      exact rl_zret dX8_isSite_17 rfl rfl (Nat.le_refl 0) (Nat.le_refl 0) H
    · have H := H.2 c_2
      refine rl_iconst (v := nI 1) dX8_isSite_12 (by decide) ?_
      refine rl_goto (tgt := 17) dX8_isSite_13 (by decide) ?_
      exact rl_zret dX8_isSite_17 rfl rfl (Nat.le_refl 0) (Nat.le_refl 0) H
theorem tX8_isAmount_0 {n : Nat} {ad : Nat → Nat} {h0 : Hp} {cs : Nat → Nat → Int32} {pm : Nat → Nat → Nat} (L : Lay n ad h0) {Q : Nat → Option Value → Hp → Prop} {x0 : Int32} (H : ((x0 < (nI 1) → Q 0 (some (.int (nI 0))) (HN h0 ad cs pm)) ∧ (¬ x0 < (nI 1) → (((nI 999) < x0 → Q 0 (some (.int (nI 0))) (HN h0 ad cs pm)) ∧ (¬ (nI 999) < x0 → Q 0 (some (.int (nI 1))) (HN h0 ad cs pm)))))) : Wm mX8_isAmount 0 0 0 Q 0 [some (.int x0)] [] (HN h0 ad cs pm) 0 0 := by
  refine rl_iload_n dX8_isAmount_0 rfl rfl ?_
  refine rl_iconst (v := nI 1) dX8_isAmount_1 (by decide) ?_
  refine rl_icmp_lt (tgt := 16) dX8_isAmount_2 (by decide) (fun c_1 => ?_) (fun c_1 => ?_)
  · have H := H.1 c_1
    refine rl_iconst (v := nI 0) dX8_isAmount_16 (by decide) ?_
    exact rl_zret dX8_isAmount_17 rfl rfl (Nat.le_refl 0) (Nat.le_refl 0) H
  · have H := H.2 c_1
    refine rl_iload_n dX8_isAmount_5 rfl rfl ?_
    refine rl_sipush (v := nI 999) dX8_isAmount_6 (by decide) ?_
    refine rl_icmp_gt (tgt := 16) dX8_isAmount_9 (by decide) (fun c_2 => ?_) (fun c_2 => ?_)
    · have H := H.1 c_2
      refine rl_iconst (v := nI 0) dX8_isAmount_16 (by decide) ?_
      exact rl_zret dX8_isAmount_17 rfl rfl (Nat.le_refl 0) (Nat.le_refl 0) H
    · have H := H.2 c_2
      refine rl_iconst (v := nI 1) dX8_isAmount_12 (by decide) ?_
      refine rl_goto (tgt := 17) dX8_isAmount_13 (by decide) ?_
      exact rl_zret dX8_isAmount_17 rfl rfl (Nat.le_refl 0) (Nat.le_refl 0) H
theorem tX8_runTransfer_0 {n : Nat} {ad : Nat → Nat} {h0 : Hp} {cs : Nat → Nat → Int32} {pm : Nat → Nat → Nat} (L : Lay n ad h0) {Q : Nat → Option Value → Hp → Prop} {i2 : Nat} {x1 : Int32} (H : i2 < 30 ∧ CKi mX8_transferFault 3 0 0 [some (.ref (ad (gEc))), some (.int x1), some (.int (cs (gCm i2) 1)), some (.int (cs (gCm i2) 2)), some (.int (cs (gCm i2) 3))] (HN h0 ad cs pm) (fun v h' => Wm mX8_runTransfer 4 0 0 Q 17 [some (.ref (ad (gEc))), some (.int x1), some (.ref (ad (gCm i2)))] [.int v] h' 0 0)) : Wm mX8_runTransfer 4 0 0 Q 0 [some (.ref (ad (gEc))), some (.int x1), some (.ref (ad (gCm i2)))] [] (HN h0 ad cs pm) 0 0 := by
  refine rl_aload_n dX8_runTransfer_0 rfl rfl ?_
  refine rl_iload_n dX8_runTransfer_1 rfl rfl ?_
  refine rl_aload_n dX8_runTransfer_2 rfl rfl ?_
  obtain ⟨o_1, H⟩ := H
  refine rt_getI (k := 1) cfX0 dX8_runTransfer_3 flX8_258 (by decide) rfl (lCm L o_1) nzCm ?_
  refine rl_aload_n dX8_runTransfer_6 rfl rfl ?_
  refine rt_getI (k := 2) cfX0 dX8_runTransfer_7 flX8_274 (by decide) rfl (lCm L o_1) nzCm ?_
  refine rl_aload_n dX8_runTransfer_10 rfl rfl ?_
  refine rt_getI (k := 3) cfX0 dX8_runTransfer_11 flX8_261 (by decide) rfl (lCm L o_1) nzCm ?_
  exact rl_callV (As := [.int x1, .int (cs (gCm i2) 1), .int (cs (gCm i2) 2), .int (cs (gCm i2) 3)]) (rest := []) mfX8_transferFault dX8_runTransfer_14 lkX8_77 (lEc L).K (by decide) (Nat.le_of_ble_eq_true rfl) (Nat.le_refl _) (Nat.le_refl _) rfl (Nat.le_of_ble_eq_true rfl) rfl rfl (fun Qc k => H Qc (fun v h' w => k (some (.int v)) h' w))
theorem tX8_runTransfer_17 {n : Nat} {ad : Nat → Nat} {h0 : Hp} {cs : Nat → Nat → Int32} {pm : Nat → Nat → Nat} (L : Lay n ad h0) {Q : Nat → Option Value → Hp → Prop} {i2 : Nat} {x1 xs0 : Int32} (H : ((xs0 = 0 → i2 < 30 ∧ CKv mX6_give 1 0 0 [some (.ref (ad (gSt 0))), some (.int x1), some (.int (cs (gCm i2) 1)), some (.int (cs (gCm i2) 2)), some (.int (cs (gCm i2) 3))] (HN h0 ad cs pm) (fun h' => Wm mX8_runTransfer 4 0 0 Q 42 [none, none, none] [] h' 0 0)) ∧ (¬ xs0 = 0 → Q 0 (some (.int (nI 0))) (HN h0 ad cs pm)))) : Wm mX8_runTransfer 4 0 0 Q 17 [some (.ref (ad (gEc))), some (.int x1), some (.ref (ad (gCm i2)))] [.int xs0] (HN h0 ad cs pm) 0 0 := by
  refine rl_if_eq (tgt := 22) dX8_runTransfer_17 (by decide) (fun c_1 => ?_) (fun c_1 => ?_)
  · have H := H.1 c_1
    refine rl_aload_n dX8_runTransfer_22 rfl rfl ?_
    refine rt_getP (k := 1) cfX8 dX8_runTransfer_23 flX8_27 (by decide) rfl (lEc L) (rEc1 L) naEc ?_
    refine rl_iload_n dX8_runTransfer_26 rfl rfl ?_
    refine rl_aload_n dX8_runTransfer_27 rfl rfl ?_
    obtain ⟨o_2, H⟩ := H
    refine rt_getI (k := 1) cfX0 dX8_runTransfer_28 flX8_258 (by decide) rfl (lCm L o_2) nzCm ?_
    refine rl_aload_n dX8_runTransfer_31 rfl rfl ?_
    refine rt_getI (k := 2) cfX0 dX8_runTransfer_32 flX8_274 (by decide) rfl (lCm L o_2) nzCm ?_
    refine rl_aload_n dX8_runTransfer_35 rfl rfl ?_
    refine rt_getI (k := 3) cfX0 dX8_runTransfer_36 flX8_261 (by decide) rfl (lCm L o_2) nzCm ?_
    exact rl_callV (As := [.int x1, .int (cs (gCm i2) 1), .int (cs (gCm i2) 2), .int (cs (gCm i2) 3)]) (rest := []) mfX6_give dX8_runTransfer_39 lkX8_81 (lSt L (by decide)).K (by decide) (Nat.le_of_ble_eq_true rfl) (Nat.le_refl _) (Nat.le_refl _) rfl (Nat.le_of_ble_eq_true rfl) rfl rfl (fun Qc k => H Qc (fun h' w => k none h' (rl_wk (L' := [none, none, none]) trivial w)))
  · have H := H.2 c_1
    refine rl_iconst (v := nI 0) dX8_runTransfer_20 (by decide) ?_
    exact rl_zret dX8_runTransfer_21 rfl rfl (Nat.le_refl 0) (Nat.le_refl 0) H
theorem tX8_runTransfer_42 {n : Nat} {ad : Nat → Nat} {h0 : Hp} {cs : Nat → Nat → Int32} {pm : Nat → Nat → Nat} (L : Lay n ad h0) {Q : Nat → Option Value → Hp → Prop}  (H : Q 0 (some (.int (nI 1))) (HN h0 ad cs pm)) : Wm mX8_runTransfer 4 0 0 Q 42 [none, none, none] [] (HN h0 ad cs pm) 0 0 := by
  refine rl_iconst (v := nI 1) dX8_runTransfer_42 (by decide) ?_
  exact rl_zret dX8_runTransfer_43 rfl rfl (Nat.le_refl 0) (Nat.le_refl 0) H
theorem tX8_transferFault_0 {n : Nat} {ad : Nat → Nat} {h0 : Hp} {cs : Nat → Nat → Int32} {pm : Nat → Nat → Nat} (L : Lay n ad h0) {Q : Nat → Option Value → Hp → Prop} {x1 x2 x3 x4 : Int32} (H : CKi mX8_isSite 0 0 0 [some (.ref (ad (gEc))), some (.int x2)] (HN h0 ad cs pm) (fun v h' => Wm mX8_transferFault 3 0 0 Q 5 [some (.ref (ad (gEc))), some (.int x1), some (.int x2), some (.int x3), some (.int x4)] [.int v] h' 0 0)) : Wm mX8_transferFault 3 0 0 Q 0 [some (.ref (ad (gEc))), some (.int x1), some (.int x2), some (.int x3), some (.int x4)] [] (HN h0 ad cs pm) 0 0 := by
  refine rl_aload_n dX8_transferFault_0 rfl rfl ?_
  refine rl_iload_n dX8_transferFault_1 rfl rfl ?_
  exact rl_callV (As := [.int x2]) (rest := []) mfX8_isSite dX8_transferFault_2 lkX8_283 (lEc L).K (by decide) (Nat.le_of_ble_eq_true rfl) (Nat.le_refl _) (Nat.le_refl _) rfl (Nat.le_of_ble_eq_true rfl) rfl rfl (fun Qc k => H Qc (fun v h' w => k (some (.int v)) h' w))
theorem tX8_transferFault_5 {n : Nat} {ad : Nat → Nat} {h0 : Hp} {cs : Nat → Nat → Int32} {pm : Nat → Nat → Nat} (L : Lay n ad h0) {Q : Nat → Option Value → Hp → Prop} {x1 x2 x3 x4 xs0 : Int32} (H : ((xs0 = 0 → Q 0 (some (.int (nI 1))) (HN h0 ad cs pm)) ∧ (¬ xs0 = 0 → CKi mX8_isSite 0 0 0 [some (.ref (ad (gEc))), some (.int x3)] (HN h0 ad cs pm) (fun v h' => Wm mX8_transferFault 3 0 0 Q 13 [some (.ref (ad (gEc))), some (.int x1), some (.int x2), some (.int x3), some (.int x4)] [.int v] h' 0 0)))) : Wm mX8_transferFault 3 0 0 Q 5 [some (.ref (ad (gEc))), some (.int x1), some (.int x2), some (.int x3), some (.int x4)] [.int xs0] (HN h0 ad cs pm) 0 0 := by
  refine rl_if_eq (tgt := 23) dX8_transferFault_5 (by decide) (fun c_1 => ?_) (fun c_1 => ?_)
  · have H := H.1 c_1
    refine rl_iconst (v := nI 1) dX8_transferFault_23 (by decide) ?_
    exact rl_iret dX8_transferFault_24 rfl (Nat.le_refl 0) (Nat.le_refl 0) H
  · have H := H.2 c_1
    refine rl_aload_n dX8_transferFault_8 rfl rfl ?_
    refine rl_iload_n dX8_transferFault_9 rfl rfl ?_
    exact rl_callV (As := [.int x3]) (rest := []) mfX8_isSite dX8_transferFault_10 lkX8_283 (lEc L).K (by decide) (Nat.le_of_ble_eq_true rfl) (Nat.le_refl _) (Nat.le_refl _) rfl (Nat.le_of_ble_eq_true rfl) rfl rfl (fun Qc k => H Qc (fun v h' w => k (some (.int v)) h' w))
theorem tX8_transferFault_13 {n : Nat} {ad : Nat → Nat} {h0 : Hp} {cs : Nat → Nat → Int32} {pm : Nat → Nat → Nat} (L : Lay n ad h0) {Q : Nat → Option Value → Hp → Prop} {x1 x2 x3 x4 xs0 : Int32} (H : ((xs0 = 0 → Q 0 (some (.int (nI 1))) (HN h0 ad cs pm)) ∧ (¬ xs0 = 0 → CKi mX8_isKind 0 0 0 [some (.int x1)] (HN h0 ad cs pm) (fun v h' => Wm mX8_transferFault 3 0 0 Q 20 [some (.ref (ad (gEc))), some (.int x1), some (.int x2), some (.int x3), some (.int x4)] [.int v] h' 0 0)))) : Wm mX8_transferFault 3 0 0 Q 13 [some (.ref (ad (gEc))), some (.int x1), some (.int x2), some (.int x3), some (.int x4)] [.int xs0] (HN h0 ad cs pm) 0 0 := by
  refine rl_if_eq (tgt := 23) dX8_transferFault_13 (by decide) (fun c_1 => ?_) (fun c_1 => ?_)
  · have H := H.1 c_1
    refine rl_iconst (v := nI 1) dX8_transferFault_23 (by decide) ?_
    exact rl_iret dX8_transferFault_24 rfl (Nat.le_refl 0) (Nat.le_refl 0) H
  · have H := H.2 c_1
    refine rl_iload_n dX8_transferFault_16 rfl rfl ?_
    exact rl_callS (As := [.int x1]) (rest := []) mfX8_isKind dX8_transferFault_17 lkX8_166 (by decide) (Nat.le_of_ble_eq_true rfl) (Nat.le_refl _) (Nat.le_refl _) rfl (Nat.le_of_ble_eq_true rfl) rfl rfl (fun Qc k => H Qc (fun v h' w => k (some (.int v)) h' w))
theorem tX8_transferFault_20 {n : Nat} {ad : Nat → Nat} {h0 : Hp} {cs : Nat → Nat → Int32} {pm : Nat → Nat → Nat} (L : Lay n ad h0) {Q : Nat → Option Value → Hp → Prop} {x1 x2 x3 x4 xs0 : Int32} (H : ((¬ xs0 = 0 → ((x2 = x3 → Q 0 (some (.int (nI 2))) (HN h0 ad cs pm)) ∧ (¬ x2 = x3 → CKi mX8_isAmount 0 0 0 [some (.int x4)] (HN h0 ad cs pm) (fun v h' => Wm mX8_transferFault 3 0 0 Q 35 [some (.ref (ad (gEc))), some (.int x1), some (.int x2), none, some (.int x4)] [.int v] h' 0 0)))) ∧ (xs0 = 0 → Q 0 (some (.int (nI 1))) (HN h0 ad cs pm)))) : Wm mX8_transferFault 3 0 0 Q 20 [some (.ref (ad (gEc))), some (.int x1), some (.int x2), some (.int x3), some (.int x4)] [.int xs0] (HN h0 ad cs pm) 0 0 := by
  refine rl_if_ne (tgt := 25) dX8_transferFault_20 (by decide) (fun c_1 => ?_) (fun c_1 => ?_)
  · have H := H.1 c_1
    refine rl_iload_n dX8_transferFault_25 rfl rfl ?_
    refine rl_iload_n dX8_transferFault_26 rfl rfl ?_
    refine rl_icmp_eq (tgt := 38) dX8_transferFault_27 (by decide) (fun c_2 => ?_) (fun c_2 => ?_)
    · have H := H.1 c_2
      refine rl_iconst (v := nI 2) dX8_transferFault_38 (by decide) ?_
      exact rl_iret dX8_transferFault_39 rfl (Nat.le_refl 0) (Nat.le_refl 0) H
    · have H := H.2 c_2
      refine rl_iload dX8_transferFault_30 rfl ?_
      exact rl_callS (As := [.int x4]) (rest := []) mfX8_isAmount dX8_transferFault_32 lkX8_286 (by decide) (Nat.le_of_ble_eq_true rfl) (Nat.le_refl _) (Nat.le_refl _) rfl (Nat.le_of_ble_eq_true rfl) rfl rfl (fun Qc k => H Qc (fun v h' w => k (some (.int v)) h' (rl_wk (L' := [some (.ref (ad (gEc))), some (.int x1), some (.int x2), none, some (.int x4)]) ⟨rfl, ⟨rfl, ⟨rfl, ⟨rfl, trivial⟩⟩⟩⟩ w)))
  · have H := H.2 c_1
    refine rl_iconst (v := nI 1) dX8_transferFault_23 (by decide) ?_
    exact rl_iret dX8_transferFault_24 rfl (Nat.le_refl 0) (Nat.le_refl 0) H
theorem tX8_transferFault_35 {n : Nat} {ad : Nat → Nat} {h0 : Hp} {cs : Nat → Nat → Int32} {pm : Nat → Nat → Nat} (L : Lay n ad h0) {Q : Nat → Option Value → Hp → Prop} {x1 x2 x4 xs0 : Int32} (H : ((¬ xs0 = 0 → CKi mX6_ownRights 2 0 0 [some (.ref (ad (gSt 0))), some (.int x2), some (.int x1), none, none, none] (HN h0 ad cs pm) (fun v h' => Wm mX8_transferFault 3 0 0 Q 49 [none, none, none, none, some (.int x4)] [.int v] h' 0 0)) ∧ (xs0 = 0 → Q 0 (some (.int (nI 2))) (HN h0 ad cs pm)))) : Wm mX8_transferFault 3 0 0 Q 35 [some (.ref (ad (gEc))), some (.int x1), some (.int x2), none, some (.int x4)] [.int xs0] (HN h0 ad cs pm) 0 0 := by
  refine rl_if_ne (tgt := 40) dX8_transferFault_35 (by decide) (fun c_1 => ?_) (fun c_1 => ?_)
  · have H := H.1 c_1
    refine rl_aload_n dX8_transferFault_40 rfl rfl ?_
    refine rt_getP (k := 1) cfX8 dX8_transferFault_41 flX8_27 (by decide) rfl (lEc L) (rEc1 L) naEc ?_
    refine rl_iload_n dX8_transferFault_44 rfl rfl ?_
    refine rl_iload_n dX8_transferFault_45 rfl rfl ?_
    exact rl_callV (As := [.int x2, .int x1]) (rest := []) mfX6_ownRights dX8_transferFault_46 lkX8_85 (lSt L (by decide)).K (by decide) (Nat.le_of_ble_eq_true rfl) (Nat.le_refl _) (Nat.le_refl _) rfl (Nat.le_of_ble_eq_true rfl) rfl rfl (fun Qc k => H Qc (fun v h' w => k (some (.int v)) h' (rl_wk (L' := [none, none, none, none, some (.int x4)]) ⟨rfl, trivial⟩ w)))
  · have H := H.2 c_1
    refine rl_iconst (v := nI 2) dX8_transferFault_38 (by decide) ?_
    exact rl_iret dX8_transferFault_39 rfl (Nat.le_refl 0) (Nat.le_refl 0) H
theorem tX8_transferFault_49 {n : Nat} {ad : Nat → Nat} {h0 : Hp} {cs : Nat → Nat → Int32} {pm : Nat → Nat → Nat} (L : Lay n ad h0) {Q : Nat → Option Value → Hp → Prop} {x4 xs0 : Int32} (H : ((x4 ≤ xs0 → Q 0 (some (.int (nI 0))) (HN h0 ad cs pm)) ∧ (¬ x4 ≤ xs0 → Q 0 (some (.int (nI 3))) (HN h0 ad cs pm)))) : Wm mX8_transferFault 3 0 0 Q 49 [none, none, none, none, some (.int x4)] [.int xs0] (HN h0 ad cs pm) 0 0 := by
  refine rl_iload dX8_transferFault_49 rfl ?_
  refine rl_icmp_ge (tgt := 58) dX8_transferFault_51 (by decide) (fun c_1 => ?_) (fun c_1 => ?_)
  · have H := H.1 c_1
    refine rl_iconst (v := nI 0) dX8_transferFault_58 (by decide) ?_
    exact rl_iret dX8_transferFault_59 rfl (Nat.le_refl 0) (Nat.le_refl 0) H
  · have H := H.2 c_1
    refine rl_iconst (v := nI 3) dX8_transferFault_54 (by decide) ?_
    refine rl_goto (tgt := 59) dX8_transferFault_55 (by decide) ?_
    exact rl_iret dX8_transferFault_59 rfl (Nat.le_refl 0) (Nat.le_refl 0) H
theorem tX8_isKind_0 {n : Nat} {ad : Nat → Nat} {h0 : Hp} {cs : Nat → Nat → Int32} {pm : Nat → Nat → Nat} (L : Lay n ad h0) {Q : Nat → Option Value → Hp → Prop} {x0 : Int32} (H : ((x0 = 0 → Q 0 (some (.int (nI 1))) (HN h0 ad cs pm)) ∧ (¬ x0 = 0 → ((¬ x0 = (nI 1) → Q 0 (some (.int (nI 0))) (HN h0 ad cs pm)) ∧ (x0 = (nI 1) → Q 0 (some (.int (nI 1))) (HN h0 ad cs pm)))))) : Wm mX8_isKind 0 0 0 Q 0 [some (.int x0)] [] (HN h0 ad cs pm) 0 0 := by
  refine rl_iload_n dX8_isKind_0 rfl rfl ?_
  refine rl_if_eq (tgt := 9) dX8_isKind_1 (by decide) (fun c_1 => ?_) (fun c_1 => ?_)
  · have H := H.1 c_1
    refine rl_iconst (v := nI 1) dX8_isKind_9 (by decide) ?_
    refine rl_goto (tgt := 14) dX8_isKind_10 (by decide) ?_
    exact rl_zret dX8_isKind_14 rfl rfl (Nat.le_refl 0) (Nat.le_refl 0) H
  · have H := H.2 c_1
    refine rl_iload_n dX8_isKind_4 rfl rfl ?_
    refine rl_iconst (v := nI 1) dX8_isKind_5 (by decide) ?_
    refine rl_icmp_ne (tgt := 13) dX8_isKind_6 (by decide) (fun c_2 => ?_) (fun c_2 => ?_)
    · have H := H.1 c_2
      refine rl_iconst (v := nI 0) dX8_isKind_13 (by decide) ?_
      exact rl_zret dX8_isKind_14 rfl rfl (Nat.le_refl 0) (Nat.le_refl 0) H
    · have H := H.2 c_2
      refine rl_iconst (v := nI 1) dX8_isKind_9 (by decide) ?_
      refine rl_goto (tgt := 14) dX8_isKind_10 (by decide) ?_
      exact rl_zret dX8_isKind_14 rfl rfl (Nat.le_refl 0) (Nat.le_refl 0) H
theorem tX8_runMessage_0 {n : Nat} {ad : Nat → Nat} {h0 : Hp} {cs : Nat → Nat → Int32} {pm : Nat → Nat → Nat} (L : Lay n ad h0) {Q : Nat → Option Value → Hp → Prop} {i1 : Nat} (H : i1 < 30 ∧ CKi mX8_sendFault 1 0 0 [some (.ref (ad (gEc))), some (.int (cs (gCm i1) 1)), some (.int (cs (gCm i1) 2))] (HN h0 ad cs pm) (fun v h' => Wm mX8_runMessage 4 0 0 Q 12 [some (.ref (ad (gEc))), some (.ref (ad (gCm i1)))] [.int v] h' 0 0)) : Wm mX8_runMessage 4 0 0 Q 0 [some (.ref (ad (gEc))), some (.ref (ad (gCm i1)))] [] (HN h0 ad cs pm) 0 0 := by
  refine rl_aload_n dX8_runMessage_0 rfl rfl ?_
  refine rl_aload_n dX8_runMessage_1 rfl rfl ?_
  obtain ⟨o_1, H⟩ := H
  refine rt_getI (k := 1) cfX0 dX8_runMessage_2 flX8_258 (by decide) rfl (lCm L o_1) nzCm ?_
  refine rl_aload_n dX8_runMessage_5 rfl rfl ?_
  refine rt_getI (k := 2) cfX0 dX8_runMessage_6 flX8_274 (by decide) rfl (lCm L o_1) nzCm ?_
  exact rl_callV (As := [.int (cs (gCm i1) 1), .int (cs (gCm i1) 2)]) (rest := []) mfX8_sendFault dX8_runMessage_9 lkX8_117 (lEc L).K (by decide) (Nat.le_of_ble_eq_true rfl) (Nat.le_refl _) (Nat.le_refl _) rfl (Nat.le_of_ble_eq_true rfl) rfl rfl (fun Qc k => H Qc (fun v h' w => k (some (.int v)) h' w))
theorem tX8_runMessage_12 {n : Nat} {ad : Nat → Nat} {h0 : Hp} {cs : Nat → Nat → Int32} {pm : Nat → Nat → Nat} (L : Lay n ad h0) {Q : Nat → Option Value → Hp → Prop} {i1 : Nat} {xs0 : Int32} (H : ((xs0 = 0 → i1 < 30 ∧ CKi mX6_post 3 0 0 [some (.ref (ad (gSt 0))), some (.int (cs (gCm i1) 1)), some (.int (cs (gCm i1) 2)), none, none] (HN h0 ad cs pm) (fun v h' => Wm mX8_runMessage 4 0 0 Q 36 [none, none] [.int v, .ref (ad (gSt 0))] h' 0 0)) ∧ (¬ xs0 = 0 → Q 0 (some (.int (nI 0))) (HN h0 ad cs pm)))) : Wm mX8_runMessage 4 0 0 Q 12 [some (.ref (ad (gEc))), some (.ref (ad (gCm i1)))] [.int xs0] (HN h0 ad cs pm) 0 0 := by
  refine rl_if_eq (tgt := 17) dX8_runMessage_12 (by decide) (fun c_1 => ?_) (fun c_1 => ?_)
  · have H := H.1 c_1
    refine rl_aload_n dX8_runMessage_17 rfl rfl ?_
    refine rt_getP (k := 1) cfX8 dX8_runMessage_18 flX8_27 (by decide) rfl (lEc L) (rEc1 L) naEc ?_
    refine rl_aload_n dX8_runMessage_21 rfl rfl ?_
    refine rt_getP (k := 1) cfX8 dX8_runMessage_22 flX8_27 (by decide) rfl (lEc L) (rEc1 L) naEc ?_
    refine rl_aload_n dX8_runMessage_25 rfl rfl ?_
    obtain ⟨o_2, H⟩ := H
    refine rt_getI (k := 1) cfX0 dX8_runMessage_26 flX8_258 (by decide) rfl (lCm L o_2) nzCm ?_
    refine rl_aload_n dX8_runMessage_29 rfl rfl ?_
    refine rt_getI (k := 2) cfX0 dX8_runMessage_30 flX8_274 (by decide) rfl (lCm L o_2) nzCm ?_
    exact rl_callV (As := [.int (cs (gCm i1) 1), .int (cs (gCm i1) 2)]) (rest := [.ref (ad (gSt 0))]) mfX6_post dX8_runMessage_33 lkX8_120 (lSt L (by decide)).K (by decide) (Nat.le_of_ble_eq_true rfl) (Nat.le_refl _) (Nat.le_refl _) rfl (Nat.le_of_ble_eq_true rfl) rfl rfl (fun Qc k => H Qc (fun v h' w => k (some (.int v)) h' (rl_wk (L' := [none, none]) trivial w)))
  · have H := H.2 c_1
    refine rl_iconst (v := nI 0) dX8_runMessage_15 (by decide) ?_
    exact rl_zret dX8_runMessage_16 rfl rfl (Nat.le_refl 0) (Nat.le_refl 0) H
theorem tX8_runMessage_36 {n : Nat} {ad : Nat → Nat} {h0 : Hp} {cs : Nat → Nat → Int32} {pm : Nat → Nat → Nat} (L : Lay n ad h0) {Q : Nat → Option Value → Hp → Prop} {ks0 : Nat} {xs1 : Int32} (H : ks0 < 7 ∧ CKi mX6_handOver 3 0 0 [some (.ref (ad (gSt ks0))), some (.int xs1), none, none] (HN h0 ad cs pm) (fun v h' => Wm mX8_runMessage 4 0 0 Q 39 [none, none] [.int v] h' 0 0)) : Wm mX8_runMessage 4 0 0 Q 36 [none, none] [.int xs1, .ref (ad (gSt ks0))] (HN h0 ad cs pm) 0 0 := by
  obtain ⟨o_1, H⟩ := H
  exact rl_callV (As := [.int xs1]) (rest := []) mfX6_handOver dX8_runMessage_36 lkX8_126 (lSt L o_1).K (by decide) (Nat.le_of_ble_eq_true rfl) (Nat.le_refl _) (Nat.le_refl _) rfl (Nat.le_of_ble_eq_true rfl) rfl rfl (fun Qc k => H Qc (fun v h' w => k (some (.int v)) h' w))
theorem tX8_runMessage_39 {n : Nat} {ad : Nat → Nat} {h0 : Hp} {cs : Nat → Nat → Int32} {pm : Nat → Nat → Nat} (L : Lay n ad h0) {Q : Nat → Option Value → Hp → Prop} {xs0 : Int32} (H : Q 0 (some (.int (nI 1))) (HN h0 ad cs pm)) : Wm mX8_runMessage 4 0 0 Q 39 [none, none] [.int xs0] (HN h0 ad cs pm) 0 0 := by
  refine rl_pop dX8_runMessage_39 rfl ?_
  refine rl_iconst (v := nI 1) dX8_runMessage_40 (by decide) ?_
  exact rl_zret dX8_runMessage_41 rfl rfl (Nat.le_refl 0) (Nat.le_refl 0) H
theorem tX8_sendFault_0 {n : Nat} {ad : Nat → Nat} {h0 : Hp} {cs : Nat → Nat → Int32} {pm : Nat → Nat → Nat} (L : Lay n ad h0) {Q : Nat → Option Value → Hp → Prop} {x1 x2 : Int32} (H : CKi mX8_isSite 0 0 0 [some (.ref (ad (gEc))), some (.int x1)] (HN h0 ad cs pm) (fun v h' => Wm mX8_sendFault 1 0 0 Q 5 [some (.ref (ad (gEc))), some (.int x1), some (.int x2)] [.int v] h' 0 0)) : Wm mX8_sendFault 1 0 0 Q 0 [some (.ref (ad (gEc))), some (.int x1), some (.int x2)] [] (HN h0 ad cs pm) 0 0 := by
  refine rl_aload_n dX8_sendFault_0 rfl rfl ?_
  refine rl_iload_n dX8_sendFault_1 rfl rfl ?_
  exact rl_callV (As := [.int x1]) (rest := []) mfX8_isSite dX8_sendFault_2 lkX8_283 (lEc L).K (by decide) (Nat.le_of_ble_eq_true rfl) (Nat.le_refl _) (Nat.le_refl _) rfl (Nat.le_of_ble_eq_true rfl) rfl rfl (fun Qc k => H Qc (fun v h' w => k (some (.int v)) h' w))
theorem tX8_sendFault_5 {n : Nat} {ad : Nat → Nat} {h0 : Hp} {cs : Nat → Nat → Int32} {pm : Nat → Nat → Nat} (L : Lay n ad h0) {Q : Nat → Option Value → Hp → Prop} {x1 x2 xs0 : Int32} (H : ((xs0 = 0 → Q 0 (some (.int (nI 1))) (HN h0 ad cs pm)) ∧ (¬ xs0 = 0 → CKi mX8_isSite 0 0 0 [some (.ref (ad (gEc))), some (.int x2)] (HN h0 ad cs pm) (fun v h' => Wm mX8_sendFault 1 0 0 Q 13 [some (.ref (ad (gEc))), some (.int x1), some (.int x2)] [.int v] h' 0 0)))) : Wm mX8_sendFault 1 0 0 Q 5 [some (.ref (ad (gEc))), some (.int x1), some (.int x2)] [.int xs0] (HN h0 ad cs pm) 0 0 := by
  refine rl_if_eq (tgt := 16) dX8_sendFault_5 (by decide) (fun c_1 => ?_) (fun c_1 => ?_)
  · have H := H.1 c_1
    refine rl_iconst (v := nI 1) dX8_sendFault_16 (by decide) ?_
    exact rl_iret dX8_sendFault_17 rfl (Nat.le_refl 0) (Nat.le_refl 0) H
  · have H := H.2 c_1
    refine rl_aload_n dX8_sendFault_8 rfl rfl ?_
    refine rl_iload_n dX8_sendFault_9 rfl rfl ?_
    exact rl_callV (As := [.int x2]) (rest := []) mfX8_isSite dX8_sendFault_10 lkX8_283 (lEc L).K (by decide) (Nat.le_of_ble_eq_true rfl) (Nat.le_refl _) (Nat.le_refl _) rfl (Nat.le_of_ble_eq_true rfl) rfl rfl (fun Qc k => H Qc (fun v h' w => k (some (.int v)) h' w))
theorem tX8_sendFault_13 {n : Nat} {ad : Nat → Nat} {h0 : Hp} {cs : Nat → Nat → Int32} {pm : Nat → Nat → Nat} (L : Lay n ad h0) {Q : Nat → Option Value → Hp → Prop} {x1 x2 xs0 : Int32} (H : ((¬ xs0 = 0 → ((¬ x1 = x2 → (((cs (gSt 0) 6) < (nI 8) → Q 0 (some (.int (nI 0))) (HN h0 ad cs pm)) ∧ (¬ (cs (gSt 0) 6) < (nI 8) → Q 0 (some (.int (nI 3))) (HN h0 ad cs pm)))) ∧ (x1 = x2 → Q 0 (some (.int (nI 2))) (HN h0 ad cs pm)))) ∧ (xs0 = 0 → Q 0 (some (.int (nI 1))) (HN h0 ad cs pm)))) : Wm mX8_sendFault 1 0 0 Q 13 [some (.ref (ad (gEc))), some (.int x1), some (.int x2)] [.int xs0] (HN h0 ad cs pm) 0 0 := by
  refine rl_if_ne (tgt := 18) dX8_sendFault_13 (by decide) (fun c_1 => ?_) (fun c_1 => ?_)
  · have H := H.1 c_1
    refine rl_iload_n dX8_sendFault_18 rfl rfl ?_
    refine rl_iload_n dX8_sendFault_19 rfl rfl ?_
    refine rl_icmp_ne (tgt := 25) dX8_sendFault_20 (by decide) (fun c_2 => ?_) (fun c_2 => ?_)
    · have H := H.1 c_2
      refine rl_aload_n dX8_sendFault_25 rfl rfl ?_
      refine rt_getP (k := 1) cfX8 dX8_sendFault_26 flX8_27 (by decide) rfl (lEc L) (rEc1 L) naEc ?_
      refine rt_getI (k := 6) cfX6 dX8_sendFault_29 flX8_132 (by decide) rfl (lSt L (by decide)) nzSt ?_
      refine rl_bipush (v := nI 8) dX8_sendFault_32 (by decide) ?_
      refine rl_icmp_lt (tgt := 41) dX8_sendFault_34 (by decide) (fun c_3 => ?_) (fun c_3 => ?_)
      · have H := H.1 c_3
        refine rl_iconst (v := nI 0) dX8_sendFault_41 (by decide) ?_
        exact rl_iret dX8_sendFault_42 rfl (Nat.le_refl 0) (Nat.le_refl 0) H
      · have H := H.2 c_3
        refine rl_iconst (v := nI 3) dX8_sendFault_37 (by decide) ?_
        refine rl_goto (tgt := 42) dX8_sendFault_38 (by decide) ?_
        exact rl_iret dX8_sendFault_42 rfl (Nat.le_refl 0) (Nat.le_refl 0) H
    · have H := H.2 c_2
      refine rl_iconst (v := nI 2) dX8_sendFault_23 (by decide) ?_
      exact rl_iret dX8_sendFault_24 rfl (Nat.le_refl 0) (Nat.le_refl 0) H
  · have H := H.2 c_1
    refine rl_iconst (v := nI 1) dX8_sendFault_16 (by decide) ?_
    exact rl_iret dX8_sendFault_17 rfl (Nat.le_refl 0) (Nat.le_refl 0) H
theorem tX8_runPass_0 {n : Nat} {ad : Nat → Nat} {h0 : Hp} {cs : Nat → Nat → Int32} {pm : Nat → Nat → Nat} (L : Lay n ad h0) {Q : Nat → Option Value → Hp → Prop} {i1 : Nat} (H : i1 < 30 ∧ CKi mX8_passFault 0 0 0 [some (.ref (ad (gEc))), some (.int (cs (gCm i1) 3))] (HN h0 ad cs pm) (fun v h' => Wm mX8_runPass 2 0 0 Q 8 [some (.ref (ad (gEc))), some (.ref (ad (gCm i1)))] [.int v] h' 0 0)) : Wm mX8_runPass 2 0 0 Q 0 [some (.ref (ad (gEc))), some (.ref (ad (gCm i1)))] [] (HN h0 ad cs pm) 0 0 := by
  refine rl_aload_n dX8_runPass_0 rfl rfl ?_
  refine rl_aload_n dX8_runPass_1 rfl rfl ?_
  obtain ⟨o_1, H⟩ := H
  refine rt_getI (k := 3) cfX0 dX8_runPass_2 flX8_261 (by decide) rfl (lCm L o_1) nzCm ?_
  exact rl_callV (As := [.int (cs (gCm i1) 3)]) (rest := []) mfX8_passFault dX8_runPass_5 lkX8_107 (lEc L).K (by decide) (Nat.le_of_ble_eq_true rfl) (Nat.le_refl _) (Nat.le_refl _) rfl (Nat.le_of_ble_eq_true rfl) rfl rfl (fun Qc k => H Qc (fun v h' w => k (some (.int v)) h' w))
theorem tX8_runPass_8 {n : Nat} {ad : Nat → Nat} {h0 : Hp} {cs : Nat → Nat → Int32} {pm : Nat → Nat → Nat} (L : Lay n ad h0) {Q : Nat → Option Value → Hp → Prop} {i1 : Nat} {xs0 : Int32} (H : ((xs0 = 0 → i1 < 30 ∧ CKv mX6_letPass 1 0 0 [some (.ref (ad (gSt 0))), some (.int (cs (gCm i1) 3)), none] (HN h0 ad cs pm) (fun h' => Wm mX8_runPass 2 0 0 Q 24 [none, none] [] h' 0 0)) ∧ (¬ xs0 = 0 → Q 0 (some (.int (nI 0))) (HN h0 ad cs pm)))) : Wm mX8_runPass 2 0 0 Q 8 [some (.ref (ad (gEc))), some (.ref (ad (gCm i1)))] [.int xs0] (HN h0 ad cs pm) 0 0 := by
  refine rl_if_eq (tgt := 13) dX8_runPass_8 (by decide) (fun c_1 => ?_) (fun c_1 => ?_)
  · have H := H.1 c_1
    refine rl_aload_n dX8_runPass_13 rfl rfl ?_
    refine rt_getP (k := 1) cfX8 dX8_runPass_14 flX8_27 (by decide) rfl (lEc L) (rEc1 L) naEc ?_
    refine rl_aload_n dX8_runPass_17 rfl rfl ?_
    obtain ⟨o_2, H⟩ := H
    refine rt_getI (k := 3) cfX0 dX8_runPass_18 flX8_261 (by decide) rfl (lCm L o_2) nzCm ?_
    exact rl_callV (As := [.int (cs (gCm i1) 3)]) (rest := []) mfX6_letPass dX8_runPass_21 lkX8_111 (lSt L (by decide)).K (by decide) (Nat.le_of_ble_eq_true rfl) (Nat.le_refl _) (Nat.le_refl _) rfl (Nat.le_of_ble_eq_true rfl) rfl rfl (fun Qc k => H Qc (fun h' w => k none h' (rl_wk (L' := [none, none]) trivial w)))
  · have H := H.2 c_1
    refine rl_iconst (v := nI 0) dX8_runPass_11 (by decide) ?_
    exact rl_zret dX8_runPass_12 rfl rfl (Nat.le_refl 0) (Nat.le_refl 0) H
theorem tX8_runPass_24 {n : Nat} {ad : Nat → Nat} {h0 : Hp} {cs : Nat → Nat → Int32} {pm : Nat → Nat → Nat} (L : Lay n ad h0) {Q : Nat → Option Value → Hp → Prop}  (H : Q 0 (some (.int (nI 1))) (HN h0 ad cs pm)) : Wm mX8_runPass 2 0 0 Q 24 [none, none] [] (HN h0 ad cs pm) 0 0 := by
  refine rl_iconst (v := nI 1) dX8_runPass_24 (by decide) ?_
  exact rl_zret dX8_runPass_25 rfl rfl (Nat.le_refl 0) (Nat.le_refl 0) H
theorem tX8_passFault_0 {n : Nat} {ad : Nat → Nat} {h0 : Hp} {cs : Nat → Nat → Int32} {pm : Nat → Nat → Nat} (L : Lay n ad h0) {Q : Nat → Option Value → Hp → Prop} {x1 : Int32} (H : ((x1 < (nI 1) → Q 0 (some (.int (nI 2))) (HN h0 ad cs pm)) ∧ (¬ x1 < (nI 1) → ((x1 ≤ (nI 1000) → (((cs (gSt 0) 4) ≤ ((nI 1000000) - x1) → Q 0 (some (.int (nI 0))) (HN h0 ad cs pm)) ∧ (¬ (cs (gSt 0) 4) ≤ ((nI 1000000) - x1) → Q 0 (some (.int (nI 3))) (HN h0 ad cs pm)))) ∧ (¬ x1 ≤ (nI 1000) → Q 0 (some (.int (nI 2))) (HN h0 ad cs pm)))))) : Wm mX8_passFault 0 0 0 Q 0 [some (.ref (ad (gEc))), some (.int x1)] [] (HN h0 ad cs pm) 0 0 := by
  refine rl_iload_n dX8_passFault_0 rfl rfl ?_
  refine rl_iconst (v := nI 1) dX8_passFault_1 (by decide) ?_
  refine rl_icmp_lt (tgt := 12) dX8_passFault_2 (by decide) (fun c_1 => ?_) (fun c_1 => ?_)
  · have H := H.1 c_1
    refine rl_iconst (v := nI 2) dX8_passFault_12 (by decide) ?_
    exact rl_iret dX8_passFault_13 rfl (Nat.le_refl 0) (Nat.le_refl 0) H
  · have H := H.2 c_1
    refine rl_iload_n dX8_passFault_5 rfl rfl ?_
    refine rl_sipush (v := nI 1000) dX8_passFault_6 (by decide) ?_
    refine rl_icmp_le (tgt := 14) dX8_passFault_9 (by decide) (fun c_2 => ?_) (fun c_2 => ?_)
    · have H := H.1 c_2
      refine rl_aload_n dX8_passFault_14 rfl rfl ?_
      refine rt_getP (k := 1) cfX8 dX8_passFault_15 flX8_27 (by decide) rfl (lEc L) (rEc1 L) naEc ?_
      refine rt_getI (k := 4) cfX6 dX8_passFault_18 flX8_114 (by decide) rfl (lSt L (by decide)) nzSt ?_
      refine rl_ldcw (v := nI 1000000) dX8_passFault_21 kcX8_289 ?_
      refine rl_iload_n dX8_passFault_24 rfl rfl ?_
      refine rl_isub dX8_passFault_25 ?_
      refine rl_icmp_le (tgt := 33) dX8_passFault_26 (by decide) (fun c_3 => ?_) (fun c_3 => ?_)
      · have H := H.1 c_3
        refine rl_iconst (v := nI 0) dX8_passFault_33 (by decide) ?_
        exact rl_iret dX8_passFault_34 rfl (Nat.le_refl 0) (Nat.le_refl 0) H
      · have H := H.2 c_3
        refine rl_iconst (v := nI 3) dX8_passFault_29 (by decide) ?_
        refine rl_goto (tgt := 34) dX8_passFault_30 (by decide) ?_
        exact rl_iret dX8_passFault_34 rfl (Nat.le_refl 0) (Nat.le_refl 0) H
    · have H := H.2 c_2
      refine rl_iconst (v := nI 2) dX8_passFault_12 (by decide) ?_
      exact rl_iret dX8_passFault_13 rfl (Nat.le_refl 0) (Nat.le_refl 0) H
theorem tX8_fingerprint_0 {n : Nat} {ad : Nat → Nat} {h0 : Hp} {cs : Nat → Nat → Int32} {pm : Nat → Nat → Nat} (L : Lay n ad h0) {Q : Nat → Option Value → Hp → Prop}  (H : CKl mX8_mixed 0 0 0 [some (.long 71), none, some (.int (cs (gSt 0) 4))] (HN h0 ad cs pm) (fun v h' => Wm mX8_fingerprint 5 0 0 Q 15 [some (.ref (ad (gEc))), none, none, none, none] [.long v] h' 0 0)) : Wm mX8_fingerprint 5 0 0 Q 0 [some (.ref (ad (gEc))), none, none, none, none] [] (HN h0 ad cs pm) 0 0 := by
  refine rl_ldc2 (v := 71) dX8_fingerprint_0 kcX8_242 ?_
  refine rl_lstore_n (L' := [some (.ref (ad (gEc))), some (.long 71), none, none, none]) dX8_fingerprint_3 rfl (Nat.le_of_ble_eq_true rfl) rfl ?_
  refine rl_lload_n dX8_fingerprint_4 rfl rfl ?_
  refine rl_aload_n dX8_fingerprint_5 rfl rfl ?_
  refine rt_getP (k := 1) cfX8 dX8_fingerprint_6 flX8_27 (by decide) rfl (lEc L) (rEc1 L) naEc ?_
  refine rt_getI (k := 4) cfX6 dX8_fingerprint_9 flX8_114 (by decide) rfl (lSt L (by decide)) nzSt ?_
  exact rl_callS (As := [.long 71, .int (cs (gSt 0) 4)]) (rest := []) mfX8_mixed dX8_fingerprint_12 lkX8_244 (by decide) (Nat.le_of_ble_eq_true rfl) (Nat.le_refl _) (Nat.le_refl _) rfl (Nat.le_of_ble_eq_true rfl) rfl rfl (fun Qc k => H Qc (fun v h' w => k (some (.long v)) h' (rl_wk (L' := [some (.ref (ad (gEc))), none, none, none, none]) ⟨rfl, trivial⟩ w)))
theorem tX8_fingerprint_15 {n : Nat} {ad : Nat → Nat} {h0 : Hp} {cs : Nat → Nat → Int32} {pm : Nat → Nat → Nat} (L : Lay n ad h0) {Q : Nat → Option Value → Hp → Prop} {js0 : Int64} (H : CKi mX6_trueValue 1 0 0 [some (.ref (ad (gSt 0))), none, none, none] (HN h0 ad cs pm) (fun v h' => Wm mX8_fingerprint 5 0 0 Q 24 [some (.ref (ad (gEc))), none, none, none, none] [.int v, .long js0] h' 0 0)) : Wm mX8_fingerprint 5 0 0 Q 15 [some (.ref (ad (gEc))), none, none, none, none] [.long js0] (HN h0 ad cs pm) 0 0 := by
  refine rl_lstore_n (L' := [some (.ref (ad (gEc))), some (.long js0), none, none, none]) dX8_fingerprint_15 rfl (Nat.le_of_ble_eq_true rfl) rfl ?_
  refine rl_lload_n dX8_fingerprint_16 rfl rfl ?_
  refine rl_aload_n dX8_fingerprint_17 rfl rfl ?_
  refine rt_getP (k := 1) cfX8 dX8_fingerprint_18 flX8_27 (by decide) rfl (lEc L) (rEc1 L) naEc ?_
  exact rl_callV (As := []) (rest := [.long js0]) mfX6_trueValue dX8_fingerprint_21 lkX8_56 (lSt L (by decide)).K (by decide) (Nat.le_of_ble_eq_true rfl) (Nat.le_refl _) (Nat.le_refl _) rfl (Nat.le_of_ble_eq_true rfl) rfl rfl (fun Qc k => H Qc (fun v h' w => k (some (.int v)) h' (rl_wk (L' := [some (.ref (ad (gEc))), none, none, none, none]) ⟨rfl, trivial⟩ w)))
theorem tX8_fingerprint_24 {n : Nat} {ad : Nat → Nat} {h0 : Hp} {cs : Nat → Nat → Int32} {pm : Nat → Nat → Nat} (L : Lay n ad h0) {Q : Nat → Option Value → Hp → Prop} {xs1 : Int32} {js0 : Int64} (H : CKl mX8_mixed 0 0 0 [some (.long js0), none, some (.int xs1)] (HN h0 ad cs pm) (fun v h' => Wm mX8_fingerprint 5 0 0 Q 27 [some (.ref (ad (gEc))), none, none, none, none] [.long v] h' 0 0)) : Wm mX8_fingerprint 5 0 0 Q 24 [some (.ref (ad (gEc))), none, none, none, none] [.int xs1, .long js0] (HN h0 ad cs pm) 0 0 := by
  exact rl_callS (As := [.long js0, .int xs1]) (rest := []) mfX8_mixed dX8_fingerprint_24 lkX8_244 (by decide) (Nat.le_of_ble_eq_true rfl) (Nat.le_refl _) (Nat.le_refl _) rfl (Nat.le_of_ble_eq_true rfl) rfl rfl (fun Qc k => H Qc (fun v h' w => k (some (.long v)) h' w))
theorem tX8_fingerprint_27 {n : Nat} {ad : Nat → Nat} {h0 : Hp} {cs : Nat → Nat → Int32} {pm : Nat → Nat → Nat} (L : Lay n ad h0) {Q : Nat → Option Value → Hp → Prop} {js0 : Int64} (H : CKl mX8_mixed 0 0 0 [some (.long js0), none, some (.int (cs (gSt 0) 5))] (HN h0 ad cs pm) (fun v h' => Wm mX8_fingerprint 5 0 0 Q 39 [some (.ref (ad (gEc))), none, none, none, none] [.long v] h' 0 0)) : Wm mX8_fingerprint 5 0 0 Q 27 [some (.ref (ad (gEc))), none, none, none, none] [.long js0] (HN h0 ad cs pm) 0 0 := by
  refine rl_lstore_n (L' := [some (.ref (ad (gEc))), some (.long js0), none, none, none]) dX8_fingerprint_27 rfl (Nat.le_of_ble_eq_true rfl) rfl ?_
  refine rl_lload_n dX8_fingerprint_28 rfl rfl ?_
  refine rl_aload_n dX8_fingerprint_29 rfl rfl ?_
  refine rt_getP (k := 1) cfX8 dX8_fingerprint_30 flX8_27 (by decide) rfl (lEc L) (rEc1 L) naEc ?_
  refine rt_getI (k := 5) cfX6 dX8_fingerprint_33 flX8_195 (by decide) rfl (lSt L (by decide)) nzSt ?_
  exact rl_callS (As := [.long js0, .int (cs (gSt 0) 5)]) (rest := []) mfX8_mixed dX8_fingerprint_36 lkX8_244 (by decide) (Nat.le_of_ble_eq_true rfl) (Nat.le_refl _) (Nat.le_refl _) rfl (Nat.le_of_ble_eq_true rfl) rfl rfl (fun Qc k => H Qc (fun v h' w => k (some (.long v)) h' (rl_wk (L' := [some (.ref (ad (gEc))), none, none, none, none]) ⟨rfl, trivial⟩ w)))
theorem tX8_fingerprint_39 {n : Nat} {ad : Nat → Nat} {h0 : Hp} {cs : Nat → Nat → Int32} {pm : Nat → Nat → Nat} (L : Lay n ad h0) {Q : Nat → Option Value → Hp → Prop} {js0 : Int64} (H : CKl mX8_mixed 0 0 0 [some (.long js0), none, some (.int (cs (gSt 0) 6))] (HN h0 ad cs pm) (fun v h' => Wm mX8_fingerprint 5 0 0 Q 51 [some (.ref (ad (gEc))), none, none, none, none] [.long v] h' 0 0)) : Wm mX8_fingerprint 5 0 0 Q 39 [some (.ref (ad (gEc))), none, none, none, none] [.long js0] (HN h0 ad cs pm) 0 0 := by
  refine rl_lstore_n (L' := [some (.ref (ad (gEc))), some (.long js0), none, none, none]) dX8_fingerprint_39 rfl (Nat.le_of_ble_eq_true rfl) rfl ?_
  refine rl_lload_n dX8_fingerprint_40 rfl rfl ?_
  refine rl_aload_n dX8_fingerprint_41 rfl rfl ?_
  refine rt_getP (k := 1) cfX8 dX8_fingerprint_42 flX8_27 (by decide) rfl (lEc L) (rEc1 L) naEc ?_
  refine rt_getI (k := 6) cfX6 dX8_fingerprint_45 flX8_132 (by decide) rfl (lSt L (by decide)) nzSt ?_
  exact rl_callS (As := [.long js0, .int (cs (gSt 0) 6)]) (rest := []) mfX8_mixed dX8_fingerprint_48 lkX8_244 (by decide) (Nat.le_of_ble_eq_true rfl) (Nat.le_refl _) (Nat.le_refl _) rfl (Nat.le_of_ble_eq_true rfl) rfl rfl (fun Qc k => H Qc (fun v h' w => k (some (.long v)) h' (rl_wk (L' := [some (.ref (ad (gEc))), none, none, none, none]) ⟨rfl, trivial⟩ w)))
theorem tX8_fingerprint_51 {n : Nat} {ad : Nat → Nat} {h0 : Hp} {cs : Nat → Nat → Int32} {pm : Nat → Nat → Nat} (L : Lay n ad h0) {Q : Nat → Option Value → Hp → Prop} {js0 : Int64} (H : Wm mX8_fingerprint 5 0 0 Q 54 [some (.ref (ad (gEc))), some (.long js0), none, some (.int (nI 0)), none] [] (HN h0 ad cs pm) 0 0) : Wm mX8_fingerprint 5 0 0 Q 51 [some (.ref (ad (gEc))), none, none, none, none] [.long js0] (HN h0 ad cs pm) 0 0 := by
  refine rl_lstore_n (L' := [some (.ref (ad (gEc))), some (.long js0), none, none, none]) dX8_fingerprint_51 rfl (Nat.le_of_ble_eq_true rfl) rfl ?_
  refine rl_iconst (v := nI 0) dX8_fingerprint_52 (by decide) ?_
  refine rl_istore_n (L' := [some (.ref (ad (gEc))), some (.long js0), none, some (.int (nI 0)), none]) dX8_fingerprint_53 rfl (Nat.le_of_ble_eq_true rfl) rfl ?_
  exact H
theorem tX8_fingerprint_54 {n : Nat} {ad : Nat → Nat} {h0 : Hp} {cs : Nat → Nat → Int32} {pm : Nat → Nat → Nat} (L : Lay n ad h0) {Q : Nat → Option Value → Hp → Prop} {x3 : Int32} {j1 : Int64} (H : (((cs (gEc) 0) ≤ x3 → Wm mX8_fingerprint 5 0 0 Q 77 [some (.ref (ad (gEc))), some (.long j1), none, some (.int (nI 0)), none] [] (HN h0 ad cs pm) 0 0) ∧ (¬ (cs (gEc) 0) ≤ x3 → CKl mX8_withSite 4 0 0 [some (.ref (ad (gEc))), some (.long j1), none, some (.int x3), none, none, none] (HN h0 ad cs pm) (fun v h' => Wm mX8_fingerprint 5 0 0 Q 68 [some (.ref (ad (gEc))), none, none, some (.int x3), none] [.long v] h' 0 0)))) : Wm mX8_fingerprint 5 0 0 Q 54 [some (.ref (ad (gEc))), some (.long j1), none, some (.int x3), none] [] (HN h0 ad cs pm) 0 0 := by
  refine rl_iload_n dX8_fingerprint_54 rfl rfl ?_
  refine rl_aload_n dX8_fingerprint_55 rfl rfl ?_
  refine rt_getI (k := 0) cfX8 dX8_fingerprint_56 flX8_18 (by decide) rfl (lEc L) nzEc ?_
  refine rl_icmp_ge (tgt := 75) dX8_fingerprint_59 (by decide) (fun c_1 => ?_) (fun c_1 => ?_)
  · have H := H.1 c_1
    refine rl_iconst (v := nI 0) dX8_fingerprint_75 (by decide) ?_
    refine rl_istore_n (L' := [some (.ref (ad (gEc))), some (.long j1), none, some (.int (nI 0)), none]) dX8_fingerprint_76 rfl (Nat.le_of_ble_eq_true rfl) rfl ?_
    exact H
  · have H := H.2 c_1
    refine rl_aload_n dX8_fingerprint_62 rfl rfl ?_
    refine rl_lload_n dX8_fingerprint_63 rfl rfl ?_
    refine rl_iload_n dX8_fingerprint_64 rfl rfl ?_
    exact rl_callV (As := [.long j1, .int x3]) (rest := []) mfX8_withSite dX8_fingerprint_65 lkX8_248 (lEc L).K (by decide) (Nat.le_of_ble_eq_true rfl) (Nat.le_refl _) (Nat.le_refl _) rfl (Nat.le_of_ble_eq_true rfl) rfl rfl (fun Qc k => H Qc (fun v h' w => k (some (.long v)) h' (rl_wk (L' := [some (.ref (ad (gEc))), none, none, some (.int x3), none]) ⟨rfl, ⟨rfl, trivial⟩⟩ w)))
theorem tX8_fingerprint_68 {n : Nat} {ad : Nat → Nat} {h0 : Hp} {cs : Nat → Nat → Int32} {pm : Nat → Nat → Nat} (L : Lay n ad h0) {Q : Nat → Option Value → Hp → Prop} {x3 : Int32} {js0 : Int64} (H : Wm mX8_fingerprint 5 0 0 Q 54 [some (.ref (ad (gEc))), some (.long js0), none, some (.int (x3 + nI 1)), none] [] (HN h0 ad cs pm) 0 0) : Wm mX8_fingerprint 5 0 0 Q 68 [some (.ref (ad (gEc))), none, none, some (.int x3), none] [.long js0] (HN h0 ad cs pm) 0 0 := by
  refine rl_lstore_n (L' := [some (.ref (ad (gEc))), some (.long js0), none, some (.int x3), none]) dX8_fingerprint_68 rfl (Nat.le_of_ble_eq_true rfl) rfl ?_
  refine rl_iinc (v := x3 + nI 1) (L' := [some (.ref (ad (gEc))), some (.long js0), none, some (.int (x3 + nI 1)), none]) dX8_fingerprint_69 rfl (congrArg (fun z => x3 + z) (by decide)) (Nat.le_of_ble_eq_true rfl) rfl ?_
  refine rl_goto (tgt := 54) dX8_fingerprint_72 (by decide) ?_
  exact H
theorem tX8_fingerprint_77 {n : Nat} {ad : Nat → Nat} {h0 : Hp} {cs : Nat → Nat → Int32} {pm : Nat → Nat → Nat} (L : Lay n ad h0) {Q : Nat → Option Value → Hp → Prop} {x3 : Int32} {j1 : Int64} (H : (((cs (gSt 0) 5) ≤ x3 → Q 0 (some (.long j1)) (HN h0 ad cs pm)) ∧ (¬ (cs (gSt 0) 5) ≤ x3 → Wm mX8_fingerprint 5 0 0 Q 91 [some (.ref (ad (gEc))), some (.long j1), none, some (.int x3), some (.int (nI 5))] [] (HN h0 ad cs pm) 0 0))) : Wm mX8_fingerprint 5 0 0 Q 77 [some (.ref (ad (gEc))), some (.long j1), none, some (.int x3), none] [] (HN h0 ad cs pm) 0 0 := by
  refine rl_iload_n dX8_fingerprint_77 rfl rfl ?_
  refine rl_aload_n dX8_fingerprint_78 rfl rfl ?_
  refine rt_getP (k := 1) cfX8 dX8_fingerprint_79 flX8_27 (by decide) rfl (lEc L) (rEc1 L) naEc ?_
  refine rt_getI (k := 5) cfX6 dX8_fingerprint_82 flX8_195 (by decide) rfl (lSt L (by decide)) nzSt ?_
  refine rl_icmp_ge (tgt := 125) dX8_fingerprint_85 (by decide) (fun c_1 => ?_) (fun c_1 => ?_)
  · have H := H.1 c_1
    refine rl_lload_n dX8_fingerprint_125 rfl rfl ?_
    exact rl_lret dX8_fingerprint_126 rfl (Nat.le_refl 0) (Nat.le_refl 0) H
  · have H := H.2 c_1
    refine rl_iconst (v := nI 5) dX8_fingerprint_88 (by decide) ?_
    refine rl_istore (L' := [some (.ref (ad (gEc))), some (.long j1), none, some (.int x3), some (.int (nI 5))]) dX8_fingerprint_89 (Nat.le_of_ble_eq_true rfl) rfl ?_
    exact H
theorem tX8_fingerprint_91 {n : Nat} {ad : Nat → Nat} {h0 : Hp} {cs : Nat → Nat → Int32} {pm : Nat → Nat → Nat} (L : Lay n ad h0) {Q : Nat → Option Value → Hp → Prop} {x3 x4 : Int32} {j1 : Int64} (H : (((nI 8) ≤ x4 → Wm mX8_fingerprint 5 0 0 Q 77 [some (.ref (ad (gEc))), some (.long j1), none, some (.int (x3 + nI 1)), none] [] (HN h0 ad cs pm) 0 0) ∧ (¬ (nI 8) ≤ x4 → CKi mX6_loanFact 2 0 0 [some (.ref (ad (gSt 0))), some (.int x3), some (.int x4), none] (HN h0 ad cs pm) (fun v h' => Wm mX8_fingerprint 5 0 0 Q 109 [some (.ref (ad (gEc))), none, none, some (.int x3), some (.int x4)] [.int v, .long j1] h' 0 0)))) : Wm mX8_fingerprint 5 0 0 Q 91 [some (.ref (ad (gEc))), some (.long j1), none, some (.int x3), some (.int x4)] [] (HN h0 ad cs pm) 0 0 := by
  refine rl_iload dX8_fingerprint_91 rfl ?_
  refine rl_bipush (v := nI 8) dX8_fingerprint_93 (by decide) ?_
  refine rl_icmp_ge (tgt := 119) dX8_fingerprint_95 (by decide) (fun c_1 => ?_) (fun c_1 => ?_)
  · have H := H.1 c_1
    refine rl_iinc (v := x3 + nI 1) (L' := [some (.ref (ad (gEc))), some (.long j1), none, some (.int (x3 + nI 1)), some (.int x4)]) dX8_fingerprint_119 rfl (congrArg (fun z => x3 + z) (by decide)) (Nat.le_of_ble_eq_true rfl) rfl ?_
    refine rl_goto (tgt := 77) dX8_fingerprint_122 (by decide) ?_
    refine rl_wk (L' := [some (.ref (ad (gEc))), some (.long j1), none, some (.int (x3 + nI 1)), none]) ⟨rfl, ⟨rfl, ⟨rfl, trivial⟩⟩⟩ ?_
    exact H
  · have H := H.2 c_1
    refine rl_lload_n dX8_fingerprint_98 rfl rfl ?_
    refine rl_aload_n dX8_fingerprint_99 rfl rfl ?_
    refine rt_getP (k := 1) cfX8 dX8_fingerprint_100 flX8_27 (by decide) rfl (lEc L) (rEc1 L) naEc ?_
    refine rl_iload_n dX8_fingerprint_103 rfl rfl ?_
    refine rl_iload dX8_fingerprint_104 rfl ?_
    exact rl_callV (As := [.int x3, .int x4]) (rest := [.long j1]) mfX6_loanFact dX8_fingerprint_106 lkX8_200 (lSt L (by decide)).K (by decide) (Nat.le_of_ble_eq_true rfl) (Nat.le_refl _) (Nat.le_refl _) rfl (Nat.le_of_ble_eq_true rfl) rfl rfl (fun Qc k => H Qc (fun v h' w => k (some (.int v)) h' (rl_wk (L' := [some (.ref (ad (gEc))), none, none, some (.int x3), some (.int x4)]) ⟨rfl, ⟨rfl, ⟨rfl, trivial⟩⟩⟩ w)))
theorem tX8_fingerprint_109 {n : Nat} {ad : Nat → Nat} {h0 : Hp} {cs : Nat → Nat → Int32} {pm : Nat → Nat → Nat} (L : Lay n ad h0) {Q : Nat → Option Value → Hp → Prop} {x3 x4 xs1 : Int32} {js0 : Int64} (H : CKl mX8_mixed 0 0 0 [some (.long js0), none, some (.int xs1)] (HN h0 ad cs pm) (fun v h' => Wm mX8_fingerprint 5 0 0 Q 112 [some (.ref (ad (gEc))), none, none, some (.int x3), some (.int x4)] [.long v] h' 0 0)) : Wm mX8_fingerprint 5 0 0 Q 109 [some (.ref (ad (gEc))), none, none, some (.int x3), some (.int x4)] [.int xs1, .long js0] (HN h0 ad cs pm) 0 0 := by
  exact rl_callS (As := [.long js0, .int xs1]) (rest := []) mfX8_mixed dX8_fingerprint_109 lkX8_244 (by decide) (Nat.le_of_ble_eq_true rfl) (Nat.le_refl _) (Nat.le_refl _) rfl (Nat.le_of_ble_eq_true rfl) rfl rfl (fun Qc k => H Qc (fun v h' w => k (some (.long v)) h' w))
theorem tX8_fingerprint_112 {n : Nat} {ad : Nat → Nat} {h0 : Hp} {cs : Nat → Nat → Int32} {pm : Nat → Nat → Nat} (L : Lay n ad h0) {Q : Nat → Option Value → Hp → Prop} {x3 x4 : Int32} {js0 : Int64} (H : Wm mX8_fingerprint 5 0 0 Q 91 [some (.ref (ad (gEc))), some (.long js0), none, some (.int x3), some (.int (x4 + nI 1))] [] (HN h0 ad cs pm) 0 0) : Wm mX8_fingerprint 5 0 0 Q 112 [some (.ref (ad (gEc))), none, none, some (.int x3), some (.int x4)] [.long js0] (HN h0 ad cs pm) 0 0 := by
  refine rl_lstore_n (L' := [some (.ref (ad (gEc))), some (.long js0), none, some (.int x3), some (.int x4)]) dX8_fingerprint_112 rfl (Nat.le_of_ble_eq_true rfl) rfl ?_
  refine rl_iinc (v := x4 + nI 1) (L' := [some (.ref (ad (gEc))), some (.long js0), none, some (.int x3), some (.int (x4 + nI 1))]) dX8_fingerprint_113 rfl (congrArg (fun z => x4 + z) (by decide)) (Nat.le_of_ble_eq_true rfl) rfl ?_
  refine rl_goto (tgt := 91) dX8_fingerprint_116 (by decide) ?_
  exact H
theorem tX8_mixed_0 {n : Nat} {ad : Nat → Nat} {h0 : Hp} {cs : Nat → Nat → Int32} {pm : Nat → Nat → Nat} (L : Lay n ad h0) {Q : Nat → Option Value → Hp → Prop} {x2 : Int32} {j0 : Int64} (H : Q 0 (some (.long ((31 * j0) + ((x2).toInt64)))) (HN h0 ad cs pm)) : Wm mX8_mixed 0 0 0 Q 0 [some (.long j0), none, some (.int x2)] [] (HN h0 ad cs pm) 0 0 := by
  refine rl_ldc2 (v := 31) dX8_mixed_0 kcX8_251 ?_
  refine rl_lload_n dX8_mixed_3 rfl rfl ?_
  refine rl_lmul dX8_mixed_4 ?_
  refine rl_iload_n dX8_mixed_5 rfl rfl ?_
  refine rl_i2l dX8_mixed_6 ?_
  refine rl_ladd dX8_mixed_7 ?_
  exact rl_lret dX8_mixed_8 rfl (Nat.le_refl 0) (Nat.le_refl 0) H
theorem tX8_withSite_0 {n : Nat} {ad : Nat → Nat} {h0 : Hp} {cs : Nat → Nat → Int32} {pm : Nat → Nat → Nat} (L : Lay n ad h0) {Q : Nat → Option Value → Hp → Prop} {x3 : Int32} {j1 : Int64} (H : Wm mX8_withSite 4 0 0 Q 6 [some (.ref (ad (gEc))), none, none, some (.int x3), some (.long j1), none, some (.int (nI 0))] [] (HN h0 ad cs pm) 0 0) : Wm mX8_withSite 4 0 0 Q 0 [some (.ref (ad (gEc))), some (.long j1), none, some (.int x3), none, none, none] [] (HN h0 ad cs pm) 0 0 := by
  refine rl_lload_n dX8_withSite_0 rfl rfl ?_
  refine rl_lstore (L' := [some (.ref (ad (gEc))), some (.long j1), none, some (.int x3), some (.long j1), none, none]) dX8_withSite_1 (Nat.le_of_ble_eq_true rfl) rfl ?_
  refine rl_iconst (v := nI 0) dX8_withSite_3 (by decide) ?_
  refine rl_istore (L' := [some (.ref (ad (gEc))), some (.long j1), none, some (.int x3), some (.long j1), none, some (.int (nI 0))]) dX8_withSite_4 (Nat.le_of_ble_eq_true rfl) rfl ?_
  refine rl_wk (L' := [some (.ref (ad (gEc))), none, none, some (.int x3), some (.long j1), none, some (.int (nI 0))]) ⟨rfl, ⟨rfl, ⟨rfl, ⟨rfl, trivial⟩⟩⟩⟩ ?_
  exact H
theorem tX8_withSite_6 {n : Nat} {ad : Nat → Nat} {h0 : Hp} {cs : Nat → Nat → Int32} {pm : Nat → Nat → Nat} (L : Lay n ad h0) {Q : Nat → Option Value → Hp → Prop} {x3 x6 : Int32} {j4 : Int64} (H : (((nI 2) ≤ x6 → CKi mX6_valueKnownAt 0 0 0 [some (.ref (ad (gSt 0))), some (.int x3), none, none, none] (HN h0 ad cs pm) (fun v h' => Wm mX8_withSite 4 0 0 Q 62 [some (.ref (ad (gEc))), none, none, some (.int x3), none, none, none] [.int v, .long j4] h' 0 0)) ∧ (¬ (nI 2) ≤ x6 → CKi mX6_ownRights 2 0 0 [some (.ref (ad (gSt 0))), some (.int x3), some (.int x6), none, none, none] (HN h0 ad cs pm) (fun v h' => Wm mX8_withSite 4 0 0 Q 24 [some (.ref (ad (gEc))), none, none, some (.int x3), none, none, some (.int x6)] [.int v, .long j4] h' 0 0)))) : Wm mX8_withSite 4 0 0 Q 6 [some (.ref (ad (gEc))), none, none, some (.int x3), some (.long j4), none, some (.int x6)] [] (HN h0 ad cs pm) 0 0 := by
  refine rl_iload dX8_withSite_6 rfl ?_
  refine rl_iconst (v := nI 2) dX8_withSite_8 (by decide) ?_
  refine rl_icmp_ge (tgt := 52) dX8_withSite_9 (by decide) (fun c_1 => ?_) (fun c_1 => ?_)
  · have H := H.1 c_1
    refine rl_lload dX8_withSite_52 rfl ?_
    refine rl_aload_n dX8_withSite_54 rfl rfl ?_
    refine rt_getP (k := 1) cfX8 dX8_withSite_55 flX8_27 (by decide) rfl (lEc L) (rEc1 L) naEc ?_
    refine rl_iload_n dX8_withSite_58 rfl rfl ?_
    exact rl_callV (As := [.int x3]) (rest := [.long j4]) mfX6_valueKnownAt dX8_withSite_59 lkX8_160 (lSt L (by decide)).K (by decide) (Nat.le_of_ble_eq_true rfl) (Nat.le_refl _) (Nat.le_refl _) rfl (Nat.le_of_ble_eq_true rfl) rfl rfl (fun Qc k => H Qc (fun v h' w => k (some (.int v)) h' (rl_wk (L' := [some (.ref (ad (gEc))), none, none, some (.int x3), none, none, none]) ⟨rfl, ⟨rfl, trivial⟩⟩ w)))
  · have H := H.2 c_1
    refine rl_lload dX8_withSite_12 rfl ?_
    refine rl_aload_n dX8_withSite_14 rfl rfl ?_
    refine rt_getP (k := 1) cfX8 dX8_withSite_15 flX8_27 (by decide) rfl (lEc L) (rEc1 L) naEc ?_
    refine rl_iload_n dX8_withSite_18 rfl rfl ?_
    refine rl_iload dX8_withSite_19 rfl ?_
    exact rl_callV (As := [.int x3, .int x6]) (rest := [.long j4]) mfX6_ownRights dX8_withSite_21 lkX8_85 (lSt L (by decide)).K (by decide) (Nat.le_of_ble_eq_true rfl) (Nat.le_refl _) (Nat.le_refl _) rfl (Nat.le_of_ble_eq_true rfl) rfl rfl (fun Qc k => H Qc (fun v h' w => k (some (.int v)) h' (rl_wk (L' := [some (.ref (ad (gEc))), none, none, some (.int x3), none, none, some (.int x6)]) ⟨rfl, ⟨rfl, ⟨rfl, trivial⟩⟩⟩ w)))
theorem tX8_withSite_24 {n : Nat} {ad : Nat → Nat} {h0 : Hp} {cs : Nat → Nat → Int32} {pm : Nat → Nat → Nat} (L : Lay n ad h0) {Q : Nat → Option Value → Hp → Prop} {x3 x6 xs1 : Int32} {js0 : Int64} (H : CKl mX8_mixed 0 0 0 [some (.long js0), none, some (.int xs1)] (HN h0 ad cs pm) (fun v h' => Wm mX8_withSite 4 0 0 Q 27 [some (.ref (ad (gEc))), none, none, some (.int x3), none, none, some (.int x6)] [.long v] h' 0 0)) : Wm mX8_withSite 4 0 0 Q 24 [some (.ref (ad (gEc))), none, none, some (.int x3), none, none, some (.int x6)] [.int xs1, .long js0] (HN h0 ad cs pm) 0 0 := by
  exact rl_callS (As := [.long js0, .int xs1]) (rest := []) mfX8_mixed dX8_withSite_24 lkX8_244 (by decide) (Nat.le_of_ble_eq_true rfl) (Nat.le_refl _) (Nat.le_refl _) rfl (Nat.le_of_ble_eq_true rfl) rfl rfl (fun Qc k => H Qc (fun v h' w => k (some (.long v)) h' w))
theorem tX8_withSite_27 {n : Nat} {ad : Nat → Nat} {h0 : Hp} {cs : Nat → Nat → Int32} {pm : Nat → Nat → Nat} (L : Lay n ad h0) {Q : Nat → Option Value → Hp → Prop} {x3 x6 : Int32} {js0 : Int64} (H : CKi mX6_availableRights 3 0 0 [some (.ref (ad (gSt 0))), some (.int x3), some (.int x6), none, none] (HN h0 ad cs pm) (fun v h' => Wm mX8_withSite 4 0 0 Q 41 [some (.ref (ad (gEc))), none, none, some (.int x3), none, none, some (.int x6)] [.int v, .long js0] h' 0 0)) : Wm mX8_withSite 4 0 0 Q 27 [some (.ref (ad (gEc))), none, none, some (.int x3), none, none, some (.int x6)] [.long js0] (HN h0 ad cs pm) 0 0 := by
  refine rl_lstore (L' := [some (.ref (ad (gEc))), none, none, some (.int x3), some (.long js0), none, some (.int x6)]) dX8_withSite_27 (Nat.le_of_ble_eq_true rfl) rfl ?_
  refine rl_lload dX8_withSite_29 rfl ?_
  refine rl_aload_n dX8_withSite_31 rfl rfl ?_
  refine rt_getP (k := 1) cfX8 dX8_withSite_32 flX8_27 (by decide) rfl (lEc L) (rEc1 L) naEc ?_
  refine rl_iload_n dX8_withSite_35 rfl rfl ?_
  refine rl_iload dX8_withSite_36 rfl ?_
  exact rl_callV (As := [.int x3, .int x6]) (rest := [.long js0]) mfX6_availableRights dX8_withSite_38 lkX8_163 (lSt L (by decide)).K (by decide) (Nat.le_of_ble_eq_true rfl) (Nat.le_refl _) (Nat.le_refl _) rfl (Nat.le_of_ble_eq_true rfl) rfl rfl (fun Qc k => H Qc (fun v h' w => k (some (.int v)) h' (rl_wk (L' := [some (.ref (ad (gEc))), none, none, some (.int x3), none, none, some (.int x6)]) ⟨rfl, ⟨rfl, ⟨rfl, trivial⟩⟩⟩ w)))
theorem tX8_withSite_41 {n : Nat} {ad : Nat → Nat} {h0 : Hp} {cs : Nat → Nat → Int32} {pm : Nat → Nat → Nat} (L : Lay n ad h0) {Q : Nat → Option Value → Hp → Prop} {x3 x6 xs1 : Int32} {js0 : Int64} (H : CKl mX8_mixed 0 0 0 [some (.long js0), none, some (.int xs1)] (HN h0 ad cs pm) (fun v h' => Wm mX8_withSite 4 0 0 Q 44 [some (.ref (ad (gEc))), none, none, some (.int x3), none, none, some (.int x6)] [.long v] h' 0 0)) : Wm mX8_withSite 4 0 0 Q 41 [some (.ref (ad (gEc))), none, none, some (.int x3), none, none, some (.int x6)] [.int xs1, .long js0] (HN h0 ad cs pm) 0 0 := by
  exact rl_callS (As := [.long js0, .int xs1]) (rest := []) mfX8_mixed dX8_withSite_41 lkX8_244 (by decide) (Nat.le_of_ble_eq_true rfl) (Nat.le_refl _) (Nat.le_refl _) rfl (Nat.le_of_ble_eq_true rfl) rfl rfl (fun Qc k => H Qc (fun v h' w => k (some (.long v)) h' w))
theorem tX8_withSite_44 {n : Nat} {ad : Nat → Nat} {h0 : Hp} {cs : Nat → Nat → Int32} {pm : Nat → Nat → Nat} (L : Lay n ad h0) {Q : Nat → Option Value → Hp → Prop} {x3 x6 : Int32} {js0 : Int64} (H : Wm mX8_withSite 4 0 0 Q 6 [some (.ref (ad (gEc))), none, none, some (.int x3), some (.long js0), none, some (.int (x6 + nI 1))] [] (HN h0 ad cs pm) 0 0) : Wm mX8_withSite 4 0 0 Q 44 [some (.ref (ad (gEc))), none, none, some (.int x3), none, none, some (.int x6)] [.long js0] (HN h0 ad cs pm) 0 0 := by
  refine rl_lstore (L' := [some (.ref (ad (gEc))), none, none, some (.int x3), some (.long js0), none, some (.int x6)]) dX8_withSite_44 (Nat.le_of_ble_eq_true rfl) rfl ?_
  refine rl_iinc (v := x6 + nI 1) (L' := [some (.ref (ad (gEc))), none, none, some (.int x3), some (.long js0), none, some (.int (x6 + nI 1))]) dX8_withSite_46 rfl (congrArg (fun z => x6 + z) (by decide)) (Nat.le_of_ble_eq_true rfl) rfl ?_
  refine rl_goto (tgt := 6) dX8_withSite_49 (by decide) ?_
  exact H
theorem tX8_withSite_62 {n : Nat} {ad : Nat → Nat} {h0 : Hp} {cs : Nat → Nat → Int32} {pm : Nat → Nat → Nat} (L : Lay n ad h0) {Q : Nat → Option Value → Hp → Prop} {x3 xs1 : Int32} {js0 : Int64} (H : CKl mX8_mixed 0 0 0 [some (.long js0), none, some (.int xs1)] (HN h0 ad cs pm) (fun v h' => Wm mX8_withSite 4 0 0 Q 65 [some (.ref (ad (gEc))), none, none, some (.int x3), none, none, none] [.long v] h' 0 0)) : Wm mX8_withSite 4 0 0 Q 62 [some (.ref (ad (gEc))), none, none, some (.int x3), none, none, none] [.int xs1, .long js0] (HN h0 ad cs pm) 0 0 := by
  exact rl_callS (As := [.long js0, .int xs1]) (rest := []) mfX8_mixed dX8_withSite_62 lkX8_244 (by decide) (Nat.le_of_ble_eq_true rfl) (Nat.le_refl _) (Nat.le_refl _) rfl (Nat.le_of_ble_eq_true rfl) rfl rfl (fun Qc k => H Qc (fun v h' w => k (some (.long v)) h' w))
theorem tX8_withSite_65 {n : Nat} {ad : Nat → Nat} {h0 : Hp} {cs : Nat → Nat → Int32} {pm : Nat → Nat → Nat} (L : Lay n ad h0) {Q : Nat → Option Value → Hp → Prop} {x3 : Int32} {js0 : Int64} (H : Wm mX8_withSite 4 0 0 Q 70 [some (.ref (ad (gEc))), none, none, some (.int x3), some (.long js0), none, some (.int (nI 0))] [] (HN h0 ad cs pm) 0 0) : Wm mX8_withSite 4 0 0 Q 65 [some (.ref (ad (gEc))), none, none, some (.int x3), none, none, none] [.long js0] (HN h0 ad cs pm) 0 0 := by
  refine rl_lstore (L' := [some (.ref (ad (gEc))), none, none, some (.int x3), some (.long js0), none, none]) dX8_withSite_65 (Nat.le_of_ble_eq_true rfl) rfl ?_
  refine rl_iconst (v := nI 0) dX8_withSite_67 (by decide) ?_
  refine rl_istore (L' := [some (.ref (ad (gEc))), none, none, some (.int x3), some (.long js0), none, some (.int (nI 0))]) dX8_withSite_68 (Nat.le_of_ble_eq_true rfl) rfl ?_
  exact H
theorem tX8_withSite_70 {n : Nat} {ad : Nat → Nat} {h0 : Hp} {cs : Nat → Nat → Int32} {pm : Nat → Nat → Nat} (L : Lay n ad h0) {Q : Nat → Option Value → Hp → Prop} {x3 x6 : Int32} {j4 : Int64} (H : (((cs (gEc) 0) ≤ x6 → Q 0 (some (.long j4)) (HN h0 ad cs pm)) ∧ (¬ (cs (gEc) 0) ≤ x6 → (∃ j_2 : Nat, x3 = nI j_2 ∧ j_2 < n ∧ (∃ j_5 : Nat, x6 = nI j_5 ∧ j_5 < n ∧ (CKl mX8_mixed 0 0 0 [some (.long j4), none, some (.int (cs (gRc 0 j_2 j_5) 0))] (HN h0 ad cs pm) (fun v h' => Wm mX8_withSite 4 0 0 Q 102 [some (.ref (ad (gEc))), none, none, some (.int x3), none, none, some (.int x6)] [.long v] h' 0 0))))))) : Wm mX8_withSite 4 0 0 Q 70 [some (.ref (ad (gEc))), none, none, some (.int x3), some (.long j4), none, some (.int x6)] [] (HN h0 ad cs pm) 0 0 := by
  refine rl_iload dX8_withSite_70 rfl ?_
  refine rl_aload_n dX8_withSite_72 rfl rfl ?_
  refine rt_getI (k := 0) cfX8 dX8_withSite_73 flX8_18 (by decide) rfl (lEc L) nzEc ?_
  refine rl_icmp_ge (tgt := 135) dX8_withSite_76 (by decide) (fun c_1 => ?_) (fun c_1 => ?_)
  · have H := H.1 c_1
    refine rl_lload dX8_withSite_135 rfl ?_
    exact rl_lret dX8_withSite_137 rfl (Nat.le_refl 0) (Nat.le_refl 0) H
  · have H := H.2 c_1
    refine rl_lload dX8_withSite_79 rfl ?_
    refine rl_aload_n dX8_withSite_81 rfl rfl ?_
    refine rt_getP (k := 1) cfX8 dX8_withSite_82 flX8_27 (by decide) rfl (lEc L) (rEc1 L) naEc ?_
    refine rt_getP (k := 7) cfX6 dX8_withSite_85 flX8_175 (by decide) rfl (lSt L (by decide)) (rStV L (by decide)) naSt ?_
    refine rl_iload_n dX8_withSite_88 rfl rfl ?_
    obtain ⟨j_2, e_3, b_4, H⟩ := H
    refine rt_aald (ci := 7) (j := j_2) dX8_withSite_89 rfl (lVa L (by decide)) e_3 b_4 (lay5 L) (rVa L (by decide) b_4) naVa ?_
    refine rt_getP (k := 0) cfX7 dX8_withSite_90 flX8_179 (by decide) rfl (lVw L ⟨(by decide), Or.inl b_4⟩) (rVw L ⟨(by decide), Or.inl b_4⟩) (naVw L ⟨(by decide), Or.inl b_4⟩) ?_
    refine rl_iload dX8_withSite_93 rfl ?_
    obtain ⟨j_5, e_6, b_7, H⟩ := H
    refine rt_aald (ci := 5) (j := j_5) dX8_withSite_95 rfl (lRa L ⟨(by decide), Or.inl b_4⟩) e_6 b_7 (lay5 L) (rRa L ⟨(by decide), Or.inl b_4⟩ b_7) (naRa L ⟨(by decide), Or.inl b_4⟩) ?_
    refine rt_getI (k := 0) cfX5 dX8_withSite_96 flX8_191 (by decide) rfl (lRc L ⟨⟨(by decide), Or.inl b_4⟩, b_7⟩) nzRc ?_
    exact rl_callS (As := [.long j4, .int (cs (gRc 0 j_2 j_5) 0)]) (rest := []) mfX8_mixed dX8_withSite_99 lkX8_244 (by decide) (Nat.le_of_ble_eq_true rfl) (Nat.le_refl _) (Nat.le_refl _) rfl (Nat.le_of_ble_eq_true rfl) rfl rfl (fun Qc k => H Qc (fun v h' w => k (some (.long v)) h' (rl_wk (L' := [some (.ref (ad (gEc))), none, none, some (.int x3), none, none, some (.int x6)]) ⟨rfl, ⟨rfl, ⟨rfl, trivial⟩⟩⟩ w)))
theorem tX8_withSite_102 {n : Nat} {ad : Nat → Nat} {h0 : Hp} {cs : Nat → Nat → Int32} {pm : Nat → Nat → Nat} (L : Lay n ad h0) {Q : Nat → Option Value → Hp → Prop} {x3 x6 : Int32} {js0 : Int64} (H : (∃ j_1 : Nat, x3 = nI j_1 ∧ j_1 < n ∧ (∃ j_4 : Nat, x6 = nI j_4 ∧ j_4 < n ∧ (CKl mX8_mixed 0 0 0 [some (.long js0), none, some (.int (cs (gRc 0 j_1 j_4) 1))] (HN h0 ad cs pm) (fun v h' => Wm mX8_withSite 4 0 0 Q 127 [some (.ref (ad (gEc))), none, none, some (.int x3), none, none, some (.int x6)] [.long v] h' 0 0))))) : Wm mX8_withSite 4 0 0 Q 102 [some (.ref (ad (gEc))), none, none, some (.int x3), none, none, some (.int x6)] [.long js0] (HN h0 ad cs pm) 0 0 := by
  refine rl_lstore (L' := [some (.ref (ad (gEc))), none, none, some (.int x3), some (.long js0), none, some (.int x6)]) dX8_withSite_102 (Nat.le_of_ble_eq_true rfl) rfl ?_
  refine rl_lload dX8_withSite_104 rfl ?_
  refine rl_aload_n dX8_withSite_106 rfl rfl ?_
  refine rt_getP (k := 1) cfX8 dX8_withSite_107 flX8_27 (by decide) rfl (lEc L) (rEc1 L) naEc ?_
  refine rt_getP (k := 7) cfX6 dX8_withSite_110 flX8_175 (by decide) rfl (lSt L (by decide)) (rStV L (by decide)) naSt ?_
  refine rl_iload_n dX8_withSite_113 rfl rfl ?_
  obtain ⟨j_1, e_2, b_3, H⟩ := H
  refine rt_aald (ci := 7) (j := j_1) dX8_withSite_114 rfl (lVa L (by decide)) e_2 b_3 (lay5 L) (rVa L (by decide) b_3) naVa ?_
  refine rt_getP (k := 0) cfX7 dX8_withSite_115 flX8_179 (by decide) rfl (lVw L ⟨(by decide), Or.inl b_3⟩) (rVw L ⟨(by decide), Or.inl b_3⟩) (naVw L ⟨(by decide), Or.inl b_3⟩) ?_
  refine rl_iload dX8_withSite_118 rfl ?_
  obtain ⟨j_4, e_5, b_6, H⟩ := H
  refine rt_aald (ci := 5) (j := j_4) dX8_withSite_120 rfl (lRa L ⟨(by decide), Or.inl b_3⟩) e_5 b_6 (lay5 L) (rRa L ⟨(by decide), Or.inl b_3⟩ b_6) (naRa L ⟨(by decide), Or.inl b_3⟩) ?_
  refine rt_getI (k := 1) cfX5 dX8_withSite_121 flX8_194 (by decide) rfl (lRc L ⟨⟨(by decide), Or.inl b_3⟩, b_6⟩) nzRc ?_
  exact rl_callS (As := [.long js0, .int (cs (gRc 0 j_1 j_4) 1)]) (rest := []) mfX8_mixed dX8_withSite_124 lkX8_244 (by decide) (Nat.le_of_ble_eq_true rfl) (Nat.le_refl _) (Nat.le_refl _) rfl (Nat.le_of_ble_eq_true rfl) rfl rfl (fun Qc k => H Qc (fun v h' w => k (some (.long v)) h' (rl_wk (L' := [some (.ref (ad (gEc))), none, none, some (.int x3), none, none, some (.int x6)]) ⟨rfl, ⟨rfl, ⟨rfl, trivial⟩⟩⟩ w)))
theorem tX8_withSite_127 {n : Nat} {ad : Nat → Nat} {h0 : Hp} {cs : Nat → Nat → Int32} {pm : Nat → Nat → Nat} (L : Lay n ad h0) {Q : Nat → Option Value → Hp → Prop} {x3 x6 : Int32} {js0 : Int64} (H : Wm mX8_withSite 4 0 0 Q 70 [some (.ref (ad (gEc))), none, none, some (.int x3), some (.long js0), none, some (.int (x6 + nI 1))] [] (HN h0 ad cs pm) 0 0) : Wm mX8_withSite 4 0 0 Q 127 [some (.ref (ad (gEc))), none, none, some (.int x3), none, none, some (.int x6)] [.long js0] (HN h0 ad cs pm) 0 0 := by
  refine rl_lstore (L' := [some (.ref (ad (gEc))), none, none, some (.int x3), some (.long js0), none, some (.int x6)]) dX8_withSite_127 (Nat.le_of_ble_eq_true rfl) rfl ?_
  refine rl_iinc (v := x6 + nI 1) (L' := [some (.ref (ad (gEc))), none, none, some (.int x3), some (.long js0), none, some (.int (x6 + nI 1))]) dX8_withSite_129 rfl (congrArg (fun z => x6 + z) (by decide)) (Nat.le_of_ble_eq_true rfl) rfl ?_
  refine rl_goto (tgt := 70) dX8_withSite_132 (by decide) ?_
  exact H
theorem tX8_begin_0 {n : Nat} {ad : Nat → Nat} {h0 : Hp} {cs : Nat → Nat → Int32} {pm : Nat → Nat → Nat} (L : Lay n ad h0) {Q : Nat → Option Value → Hp → Prop} {mc ms nc ns : Nat} {x1 x2 x3 : Int32} (H : ((x1 < (-10000) → Wm mX8_begin 6 mc ms Q 23 [some (.ref (ad (gEc))), some (.int x1), some (.int x2), some (.int x3), none, none] [] (HN h0 ad cs pm) nc ns) ∧ (¬ x1 < (-10000) → ((x2 < x1 → Wm mX8_begin 6 mc ms Q 23 [some (.ref (ad (gEc))), some (.int x1), some (.int x2), some (.int x3), none, none] [] (HN h0 ad cs pm) nc ns) ∧ (¬ x2 < x1 → (((nI 10000) < x2 → Wm mX8_begin 6 mc ms Q 23 [some (.ref (ad (gEc))), some (.int x1), some (.int x2), some (.int x3), none, none] [] (HN h0 ad cs pm) nc ns) ∧ (¬ (nI 10000) < x2 → ((x3 < x1 → Wm mX8_begin 6 mc ms Q 41 [none, none, none, none, none, none] [] (HN h0 ad cs pm) nc ns) ∧ (¬ x3 < x1 → ((x3 ≤ x2 → nc + 0 ≤ mc ∧ ns + 0 ≤ ms ∧ CKi mX6_trueValue 1 0 0 [some (.ref (ad (gSt 0))), none, none, none] (HN h0 ad cs pm) (fun v h' => Wm mX8_begin 6 mc ms Q 58 [some (.ref (ad (gEc))), some (.int x1), some (.int x2), some (.int x3), none, none] [.int v] h' nc ns)) ∧ (¬ x3 ≤ x2 → Wm mX8_begin 6 mc ms Q 41 [none, none, none, none, none, none] [] (HN h0 ad cs pm) nc ns))))))))))) : Wm mX8_begin 6 mc ms Q 0 [some (.ref (ad (gEc))), some (.int x1), some (.int x2), some (.int x3), none, none] [] (HN h0 ad cs pm) nc ns := by
  refine rl_iload_n dX8_begin_0 rfl rfl ?_
  refine rl_sipush (v := -10000) dX8_begin_1 (by decide) ?_
  refine rl_icmp_lt (tgt := 23) dX8_begin_4 (by decide) (fun c_1 => ?_) (fun c_1 => ?_)
  · have H := H.1 c_1
    exact H
  · have H := H.2 c_1
    refine rl_iload_n dX8_begin_7 rfl rfl ?_
    refine rl_iload_n dX8_begin_8 rfl rfl ?_
    refine rl_icmp_gt (tgt := 23) dX8_begin_9 (by decide) (fun c_2 => ?_) (fun c_2 => ?_)
    · have H := H.1 c_2
      exact H
    · have H := H.2 c_2
      refine rl_iload_n dX8_begin_12 rfl rfl ?_
      refine rl_sipush (v := nI 10000) dX8_begin_13 (by decide) ?_
      refine rl_icmp_gt (tgt := 23) dX8_begin_16 (by decide) (fun c_3 => ?_) (fun c_3 => ?_)
      · have H := H.1 c_3
        exact H
      · have H := H.2 c_3
        refine rl_iconst (v := nI 1) dX8_begin_19 (by decide) ?_
        refine rl_goto (tgt := 24) dX8_begin_20 (by decide) ?_
        refine rl_istore (L' := [some (.ref (ad (gEc))), some (.int x1), some (.int x2), some (.int x3), some (.int (nI 1)), none]) dX8_begin_24 (Nat.le_of_ble_eq_true rfl) rfl ?_
        refine rl_iload dX8_begin_26 rfl ?_
        refine rl_if_eq (tgt := 41) dX8_begin_28 (by decide) (fun q => absurd q (by decide)) (fun _ => ?_)
        refine rl_iload_n dX8_begin_31 rfl rfl ?_
        refine rl_iload_n dX8_begin_32 rfl rfl ?_
        refine rl_icmp_lt (tgt := 41) dX8_begin_33 (by decide) (fun c_4 => ?_) (fun c_4 => ?_)
        · have H := H.1 c_4
          refine rl_wk (L' := [none, none, none, none, none, none]) trivial ?_
          exact H
        · have H := H.2 c_4
          refine rl_iload_n dX8_begin_36 rfl rfl ?_
          refine rl_iload_n dX8_begin_37 rfl rfl ?_
          refine rl_icmp_le (tgt := 51) dX8_begin_38 (by decide) (fun c_5 => ?_) (fun c_5 => ?_)
          · have H := H.1 c_5
            refine rl_aload_n dX8_begin_51 rfl rfl ?_
            refine rt_getP (k := 1) cfX8 dX8_begin_52 flX8_27 (by decide) rfl (lEc L) (rEc1 L) naEc ?_
            obtain ⟨o_6, H⟩ := H
            obtain ⟨o_7, H⟩ := H
            exact rl_callV (As := []) (rest := []) mfX6_trueValue dX8_begin_55 lkX8_56 (lSt L (by decide)).K (by decide) (Nat.le_of_ble_eq_true rfl) o_6 o_7 rfl (Nat.le_of_ble_eq_true rfl) rfl rfl (fun Qc k => H Qc (fun v h' w => k (some (.int v)) h' (rl_wk (L' := [some (.ref (ad (gEc))), some (.int x1), some (.int x2), some (.int x3), none, none]) ⟨rfl, ⟨rfl, ⟨rfl, ⟨rfl, trivial⟩⟩⟩⟩ w)))
          · have H := H.2 c_5
            refine rl_wk (L' := [none, none, none, none, none, none]) trivial ?_
            exact H
theorem tX8_begin_23 {n : Nat} {ad : Nat → Nat} {h0 : Hp} {cs : Nat → Nat → Int32} {pm : Nat → Nat → Nat} (L : Lay n ad h0) {Q : Nat → Option Value → Hp → Prop} {mc ms nc ns : Nat} {x1 x2 x3 : Int32} (H : Wm mX8_begin 6 mc ms Q 41 [none, none, none, none, none, none] [] (HN h0 ad cs pm) nc ns) : Wm mX8_begin 6 mc ms Q 23 [some (.ref (ad (gEc))), some (.int x1), some (.int x2), some (.int x3), none, none] [] (HN h0 ad cs pm) nc ns := by
  refine rl_iconst (v := nI 0) dX8_begin_23 (by decide) ?_
  refine rl_istore (L' := [some (.ref (ad (gEc))), some (.int x1), some (.int x2), some (.int x3), some (.int (nI 0)), none]) dX8_begin_24 (Nat.le_of_ble_eq_true rfl) rfl ?_
  refine rl_iload dX8_begin_26 rfl ?_
  refine rl_if_eq (tgt := 41) dX8_begin_28 (by decide) (fun _ => ?_) (fun q => absurd q (by decide))
  refine rl_wk (L' := [none, none, none, none, none, none]) trivial ?_
  exact H
theorem tX8_begin_41 {n : Nat} {ad : Nat → Nat} {h0 : Hp} {cs : Nat → Nat → Int32} {pm : Nat → Nat → Nat} (L : Lay n ad h0) {Q : Nat → Option Value → Hp → Prop} {mc ms nc ns : Nat}  (H : nc + 1 ≤ mc ∧ ns + 6 ≤ ms ∧ (∀ z : Nat, hpZ h0 ≤ z → Q 2 none (HN (stZ h0 z) ad cs pm))) : Wm mX8_begin 6 mc ms Q 41 [none, none, none, none, none, none] [] (HN h0 ad cs pm) nc ns := by
  obtain ⟨o_1, H⟩ := H
  obtain ⟨o_2, H⟩ := H
  exact rl_throw 2 dX8_begin_41 dX8_begin_44 dX8_begin_45 dX8_begin_47 dX8_begin_50 clX8_49 thX8_53 (by decide) (List.mem_of_getElem? (i := 0) rfl) ⟨rfl, by decide⟩ (by decide) o_1 o_2 H
theorem tX8_begin_58 {n : Nat} {ad : Nat → Nat} {h0 : Hp} {cs : Nat → Nat → Int32} {pm : Nat → Nat → Nat} (L : Lay n ad h0) {Q : Nat → Option Value → Hp → Prop} {mc ms nc ns : Nat} {x1 x2 x3 xs0 : Int32} (H : nc + 0 ≤ mc ∧ ns + 0 ≤ ms ∧ CKv mX6_beginAnew 2 0 0 [some (.ref (ad (gSt 0))), some (.int x1), some (.int x2), some (.int x3), none] (HN h0 ad cs pm) (fun h' => Wm mX8_begin 6 mc ms Q 70 [some (.ref (ad (gEc))), none, none, none, none, some (.int xs0)] [] h' nc ns)) : Wm mX8_begin 6 mc ms Q 58 [some (.ref (ad (gEc))), some (.int x1), some (.int x2), some (.int x3), none, none] [.int xs0] (HN h0 ad cs pm) nc ns := by
  refine rl_istore (L' := [some (.ref (ad (gEc))), some (.int x1), some (.int x2), some (.int x3), none, some (.int xs0)]) dX8_begin_58 (Nat.le_of_ble_eq_true rfl) rfl ?_
  refine rl_aload_n dX8_begin_60 rfl rfl ?_
  refine rt_getP (k := 1) cfX8 dX8_begin_61 flX8_27 (by decide) rfl (lEc L) (rEc1 L) naEc ?_
  refine rl_iload_n dX8_begin_64 rfl rfl ?_
  refine rl_iload_n dX8_begin_65 rfl rfl ?_
  refine rl_iload_n dX8_begin_66 rfl rfl ?_
  obtain ⟨o_1, H⟩ := H
  obtain ⟨o_2, H⟩ := H
  exact rl_callV (As := [.int x1, .int x2, .int x3]) (rest := []) mfX6_beginAnew dX8_begin_67 lkX8_45 (lSt L (by decide)).K (by decide) (Nat.le_of_ble_eq_true rfl) o_1 o_2 rfl (Nat.le_of_ble_eq_true rfl) rfl rfl (fun Qc k => H Qc (fun h' w => k none h' (rl_wk (L' := [some (.ref (ad (gEc))), none, none, none, none, some (.int xs0)]) ⟨rfl, ⟨rfl, trivial⟩⟩ w)))
theorem tX8_begin_70 {n : Nat} {ad : Nat → Nat} {h0 : Hp} {cs : Nat → Nat → Int32} {pm : Nat → Nat → Nat} (L : Lay n ad h0) {Q : Nat → Option Value → Hp → Prop} {mc ms nc ns : Nat} {x5 : Int32} (H : nc + 0 ≤ mc ∧ ns + 0 ≤ ms ∧ CKv mX1_forget 0 0 0 [some (.ref (ad (gHi)))] (HN h0 ad cs pm) (fun h' => Wm mX8_begin 6 mc ms Q 77 [none, none, none, none, none, some (.int x5)] [] h' nc ns)) : Wm mX8_begin 6 mc ms Q 70 [some (.ref (ad (gEc))), none, none, none, none, some (.int x5)] [] (HN h0 ad cs pm) nc ns := by
  refine rl_aload_n dX8_begin_70 rfl rfl ?_
  refine rt_getP (k := 2) cfX8 dX8_begin_71 flX8_34 (by decide) rfl (lEc L) (rEc2 L) naEc ?_
  obtain ⟨o_1, H⟩ := H
  obtain ⟨o_2, H⟩ := H
  exact rl_callV (As := []) (rest := []) mfX1_forget dX8_begin_74 lkX8_60 (lHi L).K (by decide) (Nat.le_of_ble_eq_true rfl) o_1 o_2 rfl (Nat.le_of_ble_eq_true rfl) rfl rfl (fun Qc k => H Qc (fun h' w => k none h' (rl_wk (L' := [none, none, none, none, none, some (.int x5)]) ⟨rfl, trivial⟩ w)))
theorem tX8_begin_77 {n : Nat} {ad : Nat → Nat} {h0 : Hp} {cs : Nat → Nat → Int32} {pm : Nat → Nat → Nat} (L : Lay n ad h0) {Q : Nat → Option Value → Hp → Prop} {mc ms nc ns : Nat} {x5 : Int32} (H : nc ≤ mc ∧ ns ≤ ms ∧ Q 0 (some (.int x5)) (HN h0 ad cs pm)) : Wm mX8_begin 6 mc ms Q 77 [none, none, none, none, none, some (.int x5)] [] (HN h0 ad cs pm) nc ns := by
  refine rl_iload dX8_begin_77 rfl ?_
  obtain ⟨o_1, H⟩ := H
  obtain ⟨o_2, H⟩ := H
  exact rl_iret dX8_begin_79 rfl o_1 o_2 H
theorem tX8_increase_0 {n : Nat} {ad : Nat → Nat} {h0 : Hp} {cs : Nat → Nat → Int32} {pm : Nat → Nat → Nat} (L : Lay n ad h0) {Q : Nat → Option Value → Hp → Prop} {mc ms nc ns : Nat} {x1 x2 : Int32} (H : nc + 0 ≤ mc ∧ ns + 0 ≤ ms ∧ CKi mX8_changeFault 1 0 0 [some (.ref (ad (gEc))), some (.int x1), some (.int x2)] (HN h0 ad cs pm) (fun v h' => Wm mX8_increase 7 mc ms Q 6 [some (.ref (ad (gEc))), some (.int x1), some (.int x2)] [.int v] h' nc ns)) : Wm mX8_increase 7 mc ms Q 0 [some (.ref (ad (gEc))), some (.int x1), some (.int x2)] [] (HN h0 ad cs pm) nc ns := by
  refine rl_aload_n dX8_increase_0 rfl rfl ?_
  refine rl_iload_n dX8_increase_1 rfl rfl ?_
  refine rl_iload_n dX8_increase_2 rfl rfl ?_
  obtain ⟨o_1, H⟩ := H
  obtain ⟨o_2, H⟩ := H
  exact rl_callV (As := [.int x1, .int x2]) (rest := []) mfX8_changeFault dX8_increase_3 lkX8_63 (lEc L).K (by decide) (Nat.le_of_ble_eq_true rfl) o_1 o_2 rfl (Nat.le_of_ble_eq_true rfl) rfl rfl (fun Qc k => H Qc (fun v h' w => k (some (.int v)) h' w))
theorem tX8_increase_6 {n : Nat} {ad : Nat → Nat} {h0 : Hp} {cs : Nat → Nat → Int32} {pm : Nat → Nat → Nat} (L : Lay n ad h0) {Q : Nat → Option Value → Hp → Prop} {mc ms nc ns : Nat} {mcn msn : Nat} {x1 x2 xs0 : Int32} (H : nc + mcn ≤ mc ∧ ns + msn ≤ ms ∧ CXv mX8_throwFor 6 mcn msn [some (.int xs0)] (HN h0 ad cs pm) (fun h' => Wm mX8_increase 7 mc ms Q 9 [some (.ref (ad (gEc))), some (.int x1), some (.int x2)] [] h' (nc + mcn) (ns + msn)) (fun j h' => Q j none h')) : Wm mX8_increase 7 mc ms Q 6 [some (.ref (ad (gEc))), some (.int x1), some (.int x2)] [.int xs0] (HN h0 ad cs pm) nc ns := by
  obtain ⟨o_1, H⟩ := H
  obtain ⟨o_2, H⟩ := H
  exact rl_callSX (As := [.int xs0]) (rest := []) mfX8_throwFor dX8_increase_6 lkX8_66 ⟨rfl, by decide⟩ (by decide) (Nat.le_of_ble_eq_true rfl) o_1 o_2 rfl (Nat.le_of_ble_eq_true rfl) rfl rfl (fun Qc k kx => H Qc (fun h' w => k none h' w) kx)
theorem tX8_increase_9 {n : Nat} {ad : Nat → Nat} {h0 : Hp} {cs : Nat → Nat → Int32} {pm : Nat → Nat → Nat} (L : Lay n ad h0) {Q : Nat → Option Value → Hp → Prop} {mc ms nc ns : Nat} {x1 x2 : Int32} (H : nc + 0 ≤ mc ∧ ns + 0 ≤ ms ∧ CKv mX1_add 5 0 0 [some (.ref (ad (gHi))), some (.ref (ad (gSt 0)))] (HN h0 ad cs pm) (fun h' => Wm mX8_increase 7 mc ms Q 20 [some (.ref (ad (gEc))), some (.int x1), some (.int x2)] [] h' nc ns)) : Wm mX8_increase 7 mc ms Q 9 [some (.ref (ad (gEc))), some (.int x1), some (.int x2)] [] (HN h0 ad cs pm) nc ns := by
  refine rl_aload_n dX8_increase_9 rfl rfl ?_
  refine rt_getP (k := 2) cfX8 dX8_increase_10 flX8_34 (by decide) rfl (lEc L) (rEc2 L) naEc ?_
  refine rl_aload_n dX8_increase_13 rfl rfl ?_
  refine rt_getP (k := 1) cfX8 dX8_increase_14 flX8_27 (by decide) rfl (lEc L) (rEc1 L) naEc ?_
  obtain ⟨o_1, H⟩ := H
  obtain ⟨o_2, H⟩ := H
  exact rl_callV (As := [.ref (ad (gSt 0))]) (rest := []) mfX1_add dX8_increase_17 lkX8_69 (lHi L).K (by decide) (Nat.le_of_ble_eq_true rfl) o_1 o_2 rfl (Nat.le_of_ble_eq_true rfl) rfl rfl (fun Qc k => H Qc (fun h' w => k none h' w))
theorem tX8_increase_20 {n : Nat} {ad : Nat → Nat} {h0 : Hp} {cs : Nat → Nat → Int32} {pm : Nat → Nat → Nat} (L : Lay n ad h0) {Q : Nat → Option Value → Hp → Prop} {mc ms nc ns : Nat} {x1 x2 : Int32} (H : nc + 0 ≤ mc ∧ ns + 0 ≤ ms ∧ CKi mX6_change 4 0 0 [some (.ref (ad (gSt 0))), some (.int x1), some (.int (nI 0)), some (.int x2), none, none] (HN h0 ad cs pm) (fun v h' => Wm mX8_increase 7 mc ms Q 30 [none, none, none] [.int v] h' nc ns)) : Wm mX8_increase 7 mc ms Q 20 [some (.ref (ad (gEc))), some (.int x1), some (.int x2)] [] (HN h0 ad cs pm) nc ns := by
  refine rl_aload_n dX8_increase_20 rfl rfl ?_
  refine rt_getP (k := 1) cfX8 dX8_increase_21 flX8_27 (by decide) rfl (lEc L) (rEc1 L) naEc ?_
  refine rl_iload_n dX8_increase_24 rfl rfl ?_
  refine rl_iconst (v := nI 0) dX8_increase_25 (by decide) ?_
  refine rl_iload_n dX8_increase_26 rfl rfl ?_
  obtain ⟨o_1, H⟩ := H
  obtain ⟨o_2, H⟩ := H
  exact rl_callV (As := [.int x1, .int (nI 0), .int x2]) (rest := []) mfX6_change dX8_increase_27 lkX8_73 (lSt L (by decide)).K (by decide) (Nat.le_of_ble_eq_true rfl) o_1 o_2 rfl (Nat.le_of_ble_eq_true rfl) rfl rfl (fun Qc k => H Qc (fun v h' w => k (some (.int v)) h' (rl_wk (L' := [none, none, none]) trivial w)))
theorem tX8_increase_30 {n : Nat} {ad : Nat → Nat} {h0 : Hp} {cs : Nat → Nat → Int32} {pm : Nat → Nat → Nat} (L : Lay n ad h0) {Q : Nat → Option Value → Hp → Prop} {mc ms nc ns : Nat} {xs0 : Int32} (H : nc ≤ mc ∧ ns ≤ ms ∧ narrow .boolean (.int xs0) = .int xs0 ∧ Q 0 (some (.int xs0)) (HN h0 ad cs pm)) : Wm mX8_increase 7 mc ms Q 30 [none, none, none] [.int xs0] (HN h0 ad cs pm) nc ns := by
  obtain ⟨o_1, H⟩ := H
  obtain ⟨o_2, H⟩ := H
  obtain ⟨o_3, H⟩ := H
  exact rl_zret dX8_increase_30 rfl o_3 o_1 o_2 H
theorem tX8_throwFor_0 {n : Nat} {ad : Nat → Nat} {h0 : Hp} {cs : Nat → Nat → Int32} {pm : Nat → Nat → Nat} (L : Lay n ad h0) {Q : Nat → Option Value → Hp → Prop} {mc ms nc ns : Nat} {x0 : Int32} (H : ((¬ x0 = (nI 1) → ((¬ x0 = (nI 2) → ((¬ x0 = (nI 3) → nc ≤ mc ∧ ns ≤ ms ∧ Q 0 none (HN h0 ad cs pm)) ∧ (x0 = (nI 3) → nc + 1 ≤ mc ∧ ns + 6 ≤ ms ∧ (∀ z : Nat, hpZ h0 ≤ z → Q 3 none (HN (stZ h0 z) ad cs pm))))) ∧ (x0 = (nI 2) → nc + 1 ≤ mc ∧ ns + 6 ≤ ms ∧ (∀ z : Nat, hpZ h0 ≤ z → Q 2 none (HN (stZ h0 z) ad cs pm))))) ∧ (x0 = (nI 1) → nc + 1 ≤ mc ∧ ns + 6 ≤ ms ∧ (∀ z : Nat, hpZ h0 ≤ z → Q 1 none (HN (stZ h0 z) ad cs pm))))) : Wm mX8_throwFor 6 mc ms Q 0 [some (.int x0)] [] (HN h0 ad cs pm) nc ns := by
  refine rl_iload_n dX8_throwFor_0 rfl rfl ?_
  refine rl_iconst (v := nI 1) dX8_throwFor_1 (by decide) ?_
  refine rl_icmp_ne (tgt := 16) dX8_throwFor_2 (by decide) (fun c_1 => ?_) (fun c_1 => ?_)
  · have H := H.1 c_1
    refine rl_iload_n dX8_throwFor_16 rfl rfl ?_
    refine rl_iconst (v := nI 2) dX8_throwFor_17 (by decide) ?_
    refine rl_icmp_ne (tgt := 32) dX8_throwFor_18 (by decide) (fun c_2 => ?_) (fun c_2 => ?_)
    · have H := H.1 c_2
      refine rl_iload_n dX8_throwFor_32 rfl rfl ?_
      refine rl_iconst (v := nI 3) dX8_throwFor_33 (by decide) ?_
      refine rl_icmp_ne (tgt := 48) dX8_throwFor_34 (by decide) (fun c_3 => ?_) (fun c_3 => ?_)
      · have H := H.1 c_3
        obtain ⟨o_4, H⟩ := H
        obtain ⟨o_5, H⟩ := H
        exact rl_vret dX8_throwFor_48 rfl o_4 o_5 H
      · have H := H.2 c_3
        obtain ⟨o_6, H⟩ := H
        obtain ⟨o_7, H⟩ := H
        exact rl_throwW 3 dX8_throwFor_37 dX8_throwFor_40 dX8_throwFor_41 dX8_throwFor_44 dX8_throwFor_47 clX8_135 thX8_139 (by decide) (List.mem_of_getElem? (i := 3) rfl) ⟨rfl, by decide⟩ (by decide) o_6 o_7 H
    · have H := H.2 c_2
      obtain ⟨o_8, H⟩ := H
      obtain ⟨o_9, H⟩ := H
      exact rl_throwW 2 dX8_throwFor_21 dX8_throwFor_24 dX8_throwFor_25 dX8_throwFor_28 dX8_throwFor_31 clX8_49 thX8_53 (by decide) (List.mem_of_getElem? (i := 2) rfl) ⟨rfl, by decide⟩ (by decide) o_8 o_9 H
  · have H := H.2 c_1
    obtain ⟨o_10, H⟩ := H
    obtain ⟨o_11, H⟩ := H
    exact rl_throwW 1 dX8_throwFor_5 dX8_throwFor_8 dX8_throwFor_9 dX8_throwFor_12 dX8_throwFor_15 clX8_143 thX8_147 (by decide) (List.mem_of_getElem? (i := 1) rfl) ⟨rfl, by decide⟩ (by decide) o_10 o_11 H
theorem tX8_decrease_0 {n : Nat} {ad : Nat → Nat} {h0 : Hp} {cs : Nat → Nat → Int32} {pm : Nat → Nat → Nat} (L : Lay n ad h0) {Q : Nat → Option Value → Hp → Prop} {mc ms nc ns : Nat} {x1 x2 : Int32} (H : nc + 0 ≤ mc ∧ ns + 0 ≤ ms ∧ CKi mX8_changeFault 1 0 0 [some (.ref (ad (gEc))), some (.int x1), some (.int x2)] (HN h0 ad cs pm) (fun v h' => Wm mX8_decrease 7 mc ms Q 6 [some (.ref (ad (gEc))), some (.int x1), some (.int x2)] [.int v] h' nc ns)) : Wm mX8_decrease 7 mc ms Q 0 [some (.ref (ad (gEc))), some (.int x1), some (.int x2)] [] (HN h0 ad cs pm) nc ns := by
  refine rl_aload_n dX8_decrease_0 rfl rfl ?_
  refine rl_iload_n dX8_decrease_1 rfl rfl ?_
  refine rl_iload_n dX8_decrease_2 rfl rfl ?_
  obtain ⟨o_1, H⟩ := H
  obtain ⟨o_2, H⟩ := H
  exact rl_callV (As := [.int x1, .int x2]) (rest := []) mfX8_changeFault dX8_decrease_3 lkX8_63 (lEc L).K (by decide) (Nat.le_of_ble_eq_true rfl) o_1 o_2 rfl (Nat.le_of_ble_eq_true rfl) rfl rfl (fun Qc k => H Qc (fun v h' w => k (some (.int v)) h' w))
theorem tX8_decrease_6 {n : Nat} {ad : Nat → Nat} {h0 : Hp} {cs : Nat → Nat → Int32} {pm : Nat → Nat → Nat} (L : Lay n ad h0) {Q : Nat → Option Value → Hp → Prop} {mc ms nc ns : Nat} {mcn msn : Nat} {x1 x2 xs0 : Int32} (H : nc + mcn ≤ mc ∧ ns + msn ≤ ms ∧ CXv mX8_throwFor 6 mcn msn [some (.int xs0)] (HN h0 ad cs pm) (fun h' => Wm mX8_decrease 7 mc ms Q 9 [some (.ref (ad (gEc))), some (.int x1), some (.int x2)] [] h' (nc + mcn) (ns + msn)) (fun j h' => Q j none h')) : Wm mX8_decrease 7 mc ms Q 6 [some (.ref (ad (gEc))), some (.int x1), some (.int x2)] [.int xs0] (HN h0 ad cs pm) nc ns := by
  obtain ⟨o_1, H⟩ := H
  obtain ⟨o_2, H⟩ := H
  exact rl_callSX (As := [.int xs0]) (rest := []) mfX8_throwFor dX8_decrease_6 lkX8_66 ⟨rfl, by decide⟩ (by decide) (Nat.le_of_ble_eq_true rfl) o_1 o_2 rfl (Nat.le_of_ble_eq_true rfl) rfl rfl (fun Qc k kx => H Qc (fun h' w => k none h' w) kx)
theorem tX8_decrease_9 {n : Nat} {ad : Nat → Nat} {h0 : Hp} {cs : Nat → Nat → Int32} {pm : Nat → Nat → Nat} (L : Lay n ad h0) {Q : Nat → Option Value → Hp → Prop} {mc ms nc ns : Nat} {x1 x2 : Int32} (H : nc + 0 ≤ mc ∧ ns + 0 ≤ ms ∧ CKv mX1_add 5 0 0 [some (.ref (ad (gHi))), some (.ref (ad (gSt 0)))] (HN h0 ad cs pm) (fun h' => Wm mX8_decrease 7 mc ms Q 20 [some (.ref (ad (gEc))), some (.int x1), some (.int x2)] [] h' nc ns)) : Wm mX8_decrease 7 mc ms Q 9 [some (.ref (ad (gEc))), some (.int x1), some (.int x2)] [] (HN h0 ad cs pm) nc ns := by
  refine rl_aload_n dX8_decrease_9 rfl rfl ?_
  refine rt_getP (k := 2) cfX8 dX8_decrease_10 flX8_34 (by decide) rfl (lEc L) (rEc2 L) naEc ?_
  refine rl_aload_n dX8_decrease_13 rfl rfl ?_
  refine rt_getP (k := 1) cfX8 dX8_decrease_14 flX8_27 (by decide) rfl (lEc L) (rEc1 L) naEc ?_
  obtain ⟨o_1, H⟩ := H
  obtain ⟨o_2, H⟩ := H
  exact rl_callV (As := [.ref (ad (gSt 0))]) (rest := []) mfX1_add dX8_decrease_17 lkX8_69 (lHi L).K (by decide) (Nat.le_of_ble_eq_true rfl) o_1 o_2 rfl (Nat.le_of_ble_eq_true rfl) rfl rfl (fun Qc k => H Qc (fun h' w => k none h' w))
theorem tX8_decrease_20 {n : Nat} {ad : Nat → Nat} {h0 : Hp} {cs : Nat → Nat → Int32} {pm : Nat → Nat → Nat} (L : Lay n ad h0) {Q : Nat → Option Value → Hp → Prop} {mc ms nc ns : Nat} {x1 x2 : Int32} (H : nc + 0 ≤ mc ∧ ns + 0 ≤ ms ∧ CKi mX6_change 4 0 0 [some (.ref (ad (gSt 0))), some (.int x1), some (.int (nI 1)), some (.int x2), none, none] (HN h0 ad cs pm) (fun v h' => Wm mX8_decrease 7 mc ms Q 30 [none, none, none] [.int v] h' nc ns)) : Wm mX8_decrease 7 mc ms Q 20 [some (.ref (ad (gEc))), some (.int x1), some (.int x2)] [] (HN h0 ad cs pm) nc ns := by
  refine rl_aload_n dX8_decrease_20 rfl rfl ?_
  refine rt_getP (k := 1) cfX8 dX8_decrease_21 flX8_27 (by decide) rfl (lEc L) (rEc1 L) naEc ?_
  refine rl_iload_n dX8_decrease_24 rfl rfl ?_
  refine rl_iconst (v := nI 1) dX8_decrease_25 (by decide) ?_
  refine rl_iload_n dX8_decrease_26 rfl rfl ?_
  obtain ⟨o_1, H⟩ := H
  obtain ⟨o_2, H⟩ := H
  exact rl_callV (As := [.int x1, .int (nI 1), .int x2]) (rest := []) mfX6_change dX8_decrease_27 lkX8_73 (lSt L (by decide)).K (by decide) (Nat.le_of_ble_eq_true rfl) o_1 o_2 rfl (Nat.le_of_ble_eq_true rfl) rfl rfl (fun Qc k => H Qc (fun v h' w => k (some (.int v)) h' (rl_wk (L' := [none, none, none]) trivial w)))
theorem tX8_decrease_30 {n : Nat} {ad : Nat → Nat} {h0 : Hp} {cs : Nat → Nat → Int32} {pm : Nat → Nat → Nat} (L : Lay n ad h0) {Q : Nat → Option Value → Hp → Prop} {mc ms nc ns : Nat} {xs0 : Int32} (H : nc ≤ mc ∧ ns ≤ ms ∧ narrow .boolean (.int xs0) = .int xs0 ∧ Q 0 (some (.int xs0)) (HN h0 ad cs pm)) : Wm mX8_decrease 7 mc ms Q 30 [none, none, none] [.int xs0] (HN h0 ad cs pm) nc ns := by
  obtain ⟨o_1, H⟩ := H
  obtain ⟨o_2, H⟩ := H
  obtain ⟨o_3, H⟩ := H
  exact rl_zret dX8_decrease_30 rfl o_3 o_1 o_2 H
theorem tX8_transfer_0 {n : Nat} {ad : Nat → Nat} {h0 : Hp} {cs : Nat → Nat → Int32} {pm : Nat → Nat → Nat} (L : Lay n ad h0) {Q : Nat → Option Value → Hp → Prop} {mc ms nc ns : Nat} {x1 x2 x3 x4 : Int32} (H : nc + 0 ≤ mc ∧ ns + 0 ≤ ms ∧ CKi mX8_transferFault 3 0 0 [some (.ref (ad (gEc))), some (.int x1), some (.int x2), some (.int x3), some (.int x4)] (HN h0 ad cs pm) (fun v h' => Wm mX8_transfer 7 mc ms Q 9 [some (.ref (ad (gEc))), some (.int x1), some (.int x2), some (.int x3), some (.int x4)] [.int v] h' nc ns)) : Wm mX8_transfer 7 mc ms Q 0 [some (.ref (ad (gEc))), some (.int x1), some (.int x2), some (.int x3), some (.int x4)] [] (HN h0 ad cs pm) nc ns := by
  refine rl_aload_n dX8_transfer_0 rfl rfl ?_
  refine rl_iload_n dX8_transfer_1 rfl rfl ?_
  refine rl_iload_n dX8_transfer_2 rfl rfl ?_
  refine rl_iload_n dX8_transfer_3 rfl rfl ?_
  refine rl_iload dX8_transfer_4 rfl ?_
  obtain ⟨o_1, H⟩ := H
  obtain ⟨o_2, H⟩ := H
  exact rl_callV (As := [.int x1, .int x2, .int x3, .int x4]) (rest := []) mfX8_transferFault dX8_transfer_6 lkX8_77 (lEc L).K (by decide) (Nat.le_of_ble_eq_true rfl) o_1 o_2 rfl (Nat.le_of_ble_eq_true rfl) rfl rfl (fun Qc k => H Qc (fun v h' w => k (some (.int v)) h' w))
theorem tX8_transfer_9 {n : Nat} {ad : Nat → Nat} {h0 : Hp} {cs : Nat → Nat → Int32} {pm : Nat → Nat → Nat} (L : Lay n ad h0) {Q : Nat → Option Value → Hp → Prop} {mc ms nc ns : Nat} {mcn msn : Nat} {x1 x2 x3 x4 xs0 : Int32} (H : nc + mcn ≤ mc ∧ ns + msn ≤ ms ∧ CXv mX8_throwFor 6 mcn msn [some (.int xs0)] (HN h0 ad cs pm) (fun h' => Wm mX8_transfer 7 mc ms Q 12 [some (.ref (ad (gEc))), some (.int x1), some (.int x2), some (.int x3), some (.int x4)] [] h' (nc + mcn) (ns + msn)) (fun j h' => Q j none h')) : Wm mX8_transfer 7 mc ms Q 9 [some (.ref (ad (gEc))), some (.int x1), some (.int x2), some (.int x3), some (.int x4)] [.int xs0] (HN h0 ad cs pm) nc ns := by
  obtain ⟨o_1, H⟩ := H
  obtain ⟨o_2, H⟩ := H
  exact rl_callSX (As := [.int xs0]) (rest := []) mfX8_throwFor dX8_transfer_9 lkX8_66 ⟨rfl, by decide⟩ (by decide) (Nat.le_of_ble_eq_true rfl) o_1 o_2 rfl (Nat.le_of_ble_eq_true rfl) rfl rfl (fun Qc k kx => H Qc (fun h' w => k none h' w) kx)
theorem tX8_transfer_12 {n : Nat} {ad : Nat → Nat} {h0 : Hp} {cs : Nat → Nat → Int32} {pm : Nat → Nat → Nat} (L : Lay n ad h0) {Q : Nat → Option Value → Hp → Prop} {mc ms nc ns : Nat} {x1 x2 x3 x4 : Int32} (H : nc + 0 ≤ mc ∧ ns + 0 ≤ ms ∧ CKv mX1_add 5 0 0 [some (.ref (ad (gHi))), some (.ref (ad (gSt 0)))] (HN h0 ad cs pm) (fun h' => Wm mX8_transfer 7 mc ms Q 23 [some (.ref (ad (gEc))), some (.int x1), some (.int x2), some (.int x3), some (.int x4)] [] h' nc ns)) : Wm mX8_transfer 7 mc ms Q 12 [some (.ref (ad (gEc))), some (.int x1), some (.int x2), some (.int x3), some (.int x4)] [] (HN h0 ad cs pm) nc ns := by
  refine rl_aload_n dX8_transfer_12 rfl rfl ?_
  refine rt_getP (k := 2) cfX8 dX8_transfer_13 flX8_34 (by decide) rfl (lEc L) (rEc2 L) naEc ?_
  refine rl_aload_n dX8_transfer_16 rfl rfl ?_
  refine rt_getP (k := 1) cfX8 dX8_transfer_17 flX8_27 (by decide) rfl (lEc L) (rEc1 L) naEc ?_
  obtain ⟨o_1, H⟩ := H
  obtain ⟨o_2, H⟩ := H
  exact rl_callV (As := [.ref (ad (gSt 0))]) (rest := []) mfX1_add dX8_transfer_20 lkX8_69 (lHi L).K (by decide) (Nat.le_of_ble_eq_true rfl) o_1 o_2 rfl (Nat.le_of_ble_eq_true rfl) rfl rfl (fun Qc k => H Qc (fun h' w => k none h' w))
theorem tX8_transfer_23 {n : Nat} {ad : Nat → Nat} {h0 : Hp} {cs : Nat → Nat → Int32} {pm : Nat → Nat → Nat} (L : Lay n ad h0) {Q : Nat → Option Value → Hp → Prop} {mc ms nc ns : Nat} {x1 x2 x3 x4 : Int32} (H : nc + 0 ≤ mc ∧ ns + 0 ≤ ms ∧ CKv mX6_give 1 0 0 [some (.ref (ad (gSt 0))), some (.int x1), some (.int x2), some (.int x3), some (.int x4)] (HN h0 ad cs pm) (fun h' => Wm mX8_transfer 7 mc ms Q 35 [some (.ref (ad (gEc))), some (.int x1), some (.int x2), none, none] [] h' nc ns)) : Wm mX8_transfer 7 mc ms Q 23 [some (.ref (ad (gEc))), some (.int x1), some (.int x2), some (.int x3), some (.int x4)] [] (HN h0 ad cs pm) nc ns := by
  refine rl_aload_n dX8_transfer_23 rfl rfl ?_
  refine rt_getP (k := 1) cfX8 dX8_transfer_24 flX8_27 (by decide) rfl (lEc L) (rEc1 L) naEc ?_
  refine rl_iload_n dX8_transfer_27 rfl rfl ?_
  refine rl_iload_n dX8_transfer_28 rfl rfl ?_
  refine rl_iload_n dX8_transfer_29 rfl rfl ?_
  refine rl_iload dX8_transfer_30 rfl ?_
  obtain ⟨o_1, H⟩ := H
  obtain ⟨o_2, H⟩ := H
  exact rl_callV (As := [.int x1, .int x2, .int x3, .int x4]) (rest := []) mfX6_give dX8_transfer_32 lkX8_81 (lSt L (by decide)).K (by decide) (Nat.le_of_ble_eq_true rfl) o_1 o_2 rfl (Nat.le_of_ble_eq_true rfl) rfl rfl (fun Qc k => H Qc (fun h' w => k none h' (rl_wk (L' := [some (.ref (ad (gEc))), some (.int x1), some (.int x2), none, none]) ⟨rfl, ⟨rfl, ⟨rfl, trivial⟩⟩⟩ w)))
theorem tX8_transfer_35 {n : Nat} {ad : Nat → Nat} {h0 : Hp} {cs : Nat → Nat → Int32} {pm : Nat → Nat → Nat} (L : Lay n ad h0) {Q : Nat → Option Value → Hp → Prop} {mc ms nc ns : Nat} {x1 x2 : Int32} (H : nc + 0 ≤ mc ∧ ns + 0 ≤ ms ∧ CKi mX6_ownRights 2 0 0 [some (.ref (ad (gSt 0))), some (.int x2), some (.int x1), none, none, none] (HN h0 ad cs pm) (fun v h' => Wm mX8_transfer 7 mc ms Q 44 [none, none, none, none, none] [.int v] h' nc ns)) : Wm mX8_transfer 7 mc ms Q 35 [some (.ref (ad (gEc))), some (.int x1), some (.int x2), none, none] [] (HN h0 ad cs pm) nc ns := by
  refine rl_aload_n dX8_transfer_35 rfl rfl ?_
  refine rt_getP (k := 1) cfX8 dX8_transfer_36 flX8_27 (by decide) rfl (lEc L) (rEc1 L) naEc ?_
  refine rl_iload_n dX8_transfer_39 rfl rfl ?_
  refine rl_iload_n dX8_transfer_40 rfl rfl ?_
  obtain ⟨o_1, H⟩ := H
  obtain ⟨o_2, H⟩ := H
  exact rl_callV (As := [.int x2, .int x1]) (rest := []) mfX6_ownRights dX8_transfer_41 lkX8_85 (lSt L (by decide)).K (by decide) (Nat.le_of_ble_eq_true rfl) o_1 o_2 rfl (Nat.le_of_ble_eq_true rfl) rfl rfl (fun Qc k => H Qc (fun v h' w => k (some (.int v)) h' (rl_wk (L' := [none, none, none, none, none]) trivial w)))
theorem tX8_transfer_44 {n : Nat} {ad : Nat → Nat} {h0 : Hp} {cs : Nat → Nat → Int32} {pm : Nat → Nat → Nat} (L : Lay n ad h0) {Q : Nat → Option Value → Hp → Prop} {mc ms nc ns : Nat} {xs0 : Int32} (H : nc ≤ mc ∧ ns ≤ ms ∧ Q 0 (some (.int xs0)) (HN h0 ad cs pm)) : Wm mX8_transfer 7 mc ms Q 44 [none, none, none, none, none] [.int xs0] (HN h0 ad cs pm) nc ns := by
  obtain ⟨o_1, H⟩ := H
  obtain ⟨o_2, H⟩ := H
  exact rl_iret dX8_transfer_44 rfl o_1 o_2 H
theorem tX8_lend_0 {n : Nat} {ad : Nat → Nat} {h0 : Hp} {cs : Nat → Nat → Int32} {pm : Nat → Nat → Nat} (L : Lay n ad h0) {Q : Nat → Option Value → Hp → Prop} {mc ms nc ns : Nat} {x1 x2 x3 x4 x5 : Int32} (H : nc + 0 ≤ mc ∧ ns + 0 ≤ ms ∧ CKi mX8_lendFault 4 0 0 [some (.ref (ad (gEc))), some (.int x1), some (.int x2), some (.int x3), some (.int x4), some (.int x5), none] (HN h0 ad cs pm) (fun v h' => Wm mX8_lend 7 mc ms Q 11 [some (.ref (ad (gEc))), some (.int x1), some (.int x2), some (.int x3), some (.int x4), some (.int x5)] [.int v] h' nc ns)) : Wm mX8_lend 7 mc ms Q 0 [some (.ref (ad (gEc))), some (.int x1), some (.int x2), some (.int x3), some (.int x4), some (.int x5)] [] (HN h0 ad cs pm) nc ns := by
  refine rl_aload_n dX8_lend_0 rfl rfl ?_
  refine rl_iload_n dX8_lend_1 rfl rfl ?_
  refine rl_iload_n dX8_lend_2 rfl rfl ?_
  refine rl_iload_n dX8_lend_3 rfl rfl ?_
  refine rl_iload dX8_lend_4 rfl ?_
  refine rl_iload dX8_lend_6 rfl ?_
  obtain ⟨o_1, H⟩ := H
  obtain ⟨o_2, H⟩ := H
  exact rl_callV (As := [.int x1, .int x2, .int x3, .int x4, .int x5]) (rest := []) mfX8_lendFault dX8_lend_8 lkX8_88 (lEc L).K (by decide) (Nat.le_of_ble_eq_true rfl) o_1 o_2 rfl (Nat.le_of_ble_eq_true rfl) rfl rfl (fun Qc k => H Qc (fun v h' w => k (some (.int v)) h' w))
theorem tX8_lend_11 {n : Nat} {ad : Nat → Nat} {h0 : Hp} {cs : Nat → Nat → Int32} {pm : Nat → Nat → Nat} (L : Lay n ad h0) {Q : Nat → Option Value → Hp → Prop} {mc ms nc ns : Nat} {mcn msn : Nat} {x1 x2 x3 x4 x5 xs0 : Int32} (H : nc + mcn ≤ mc ∧ ns + msn ≤ ms ∧ CXv mX8_throwFor 6 mcn msn [some (.int xs0)] (HN h0 ad cs pm) (fun h' => Wm mX8_lend 7 mc ms Q 14 [some (.ref (ad (gEc))), some (.int x1), some (.int x2), some (.int x3), some (.int x4), some (.int x5)] [] h' (nc + mcn) (ns + msn)) (fun j h' => Q j none h')) : Wm mX8_lend 7 mc ms Q 11 [some (.ref (ad (gEc))), some (.int x1), some (.int x2), some (.int x3), some (.int x4), some (.int x5)] [.int xs0] (HN h0 ad cs pm) nc ns := by
  obtain ⟨o_1, H⟩ := H
  obtain ⟨o_2, H⟩ := H
  exact rl_callSX (As := [.int xs0]) (rest := []) mfX8_throwFor dX8_lend_11 lkX8_66 ⟨rfl, by decide⟩ (by decide) (Nat.le_of_ble_eq_true rfl) o_1 o_2 rfl (Nat.le_of_ble_eq_true rfl) rfl rfl (fun Qc k kx => H Qc (fun h' w => k none h' w) kx)
theorem tX8_lend_14 {n : Nat} {ad : Nat → Nat} {h0 : Hp} {cs : Nat → Nat → Int32} {pm : Nat → Nat → Nat} (L : Lay n ad h0) {Q : Nat → Option Value → Hp → Prop} {mc ms nc ns : Nat} {x1 x2 x3 x4 x5 : Int32} (H : nc + 0 ≤ mc ∧ ns + 0 ≤ ms ∧ CKv mX1_add 5 0 0 [some (.ref (ad (gHi))), some (.ref (ad (gSt 0)))] (HN h0 ad cs pm) (fun h' => Wm mX8_lend 7 mc ms Q 25 [some (.ref (ad (gEc))), some (.int x1), some (.int x2), some (.int x3), some (.int x4), some (.int x5)] [] h' nc ns)) : Wm mX8_lend 7 mc ms Q 14 [some (.ref (ad (gEc))), some (.int x1), some (.int x2), some (.int x3), some (.int x4), some (.int x5)] [] (HN h0 ad cs pm) nc ns := by
  refine rl_aload_n dX8_lend_14 rfl rfl ?_
  refine rt_getP (k := 2) cfX8 dX8_lend_15 flX8_34 (by decide) rfl (lEc L) (rEc2 L) naEc ?_
  refine rl_aload_n dX8_lend_18 rfl rfl ?_
  refine rt_getP (k := 1) cfX8 dX8_lend_19 flX8_27 (by decide) rfl (lEc L) (rEc1 L) naEc ?_
  obtain ⟨o_1, H⟩ := H
  obtain ⟨o_2, H⟩ := H
  exact rl_callV (As := [.ref (ad (gSt 0))]) (rest := []) mfX1_add dX8_lend_22 lkX8_69 (lHi L).K (by decide) (Nat.le_of_ble_eq_true rfl) o_1 o_2 rfl (Nat.le_of_ble_eq_true rfl) rfl rfl (fun Qc k => H Qc (fun h' w => k none h' w))
theorem tX8_lend_25 {n : Nat} {ad : Nat → Nat} {h0 : Hp} {cs : Nat → Nat → Int32} {pm : Nat → Nat → Nat} (L : Lay n ad h0) {Q : Nat → Option Value → Hp → Prop} {mc ms nc ns : Nat} {x1 x2 x3 x4 x5 : Int32} (H : nc + 0 ≤ mc ∧ ns + 0 ≤ ms ∧ CKi mX6_makeLoan 1 0 0 [some (.ref (ad (gSt 0))), some (.int x1), some (.int x2), some (.int x3), some (.int x4), some (.int x5), none, none, none] (HN h0 ad cs pm) (fun v h' => Wm mX8_lend 7 mc ms Q 39 [none, none, none, none, none, none] [.int v] h' nc ns)) : Wm mX8_lend 7 mc ms Q 25 [some (.ref (ad (gEc))), some (.int x1), some (.int x2), some (.int x3), some (.int x4), some (.int x5)] [] (HN h0 ad cs pm) nc ns := by
  refine rl_aload_n dX8_lend_25 rfl rfl ?_
  refine rt_getP (k := 1) cfX8 dX8_lend_26 flX8_27 (by decide) rfl (lEc L) (rEc1 L) naEc ?_
  refine rl_iload_n dX8_lend_29 rfl rfl ?_
  refine rl_iload_n dX8_lend_30 rfl rfl ?_
  refine rl_iload_n dX8_lend_31 rfl rfl ?_
  refine rl_iload dX8_lend_32 rfl ?_
  refine rl_iload dX8_lend_34 rfl ?_
  obtain ⟨o_1, H⟩ := H
  obtain ⟨o_2, H⟩ := H
  exact rl_callV (As := [.int x1, .int x2, .int x3, .int x4, .int x5]) (rest := []) mfX6_makeLoan dX8_lend_36 lkX8_92 (lSt L (by decide)).K (by decide) (Nat.le_of_ble_eq_true rfl) o_1 o_2 rfl (Nat.le_of_ble_eq_true rfl) rfl rfl (fun Qc k => H Qc (fun v h' w => k (some (.int v)) h' (rl_wk (L' := [none, none, none, none, none, none]) trivial w)))
theorem tX8_lend_39 {n : Nat} {ad : Nat → Nat} {h0 : Hp} {cs : Nat → Nat → Int32} {pm : Nat → Nat → Nat} (L : Lay n ad h0) {Q : Nat → Option Value → Hp → Prop} {mc ms nc ns : Nat} {xs0 : Int32} (H : nc ≤ mc ∧ ns ≤ ms ∧ Q 0 (some (.int xs0)) (HN h0 ad cs pm)) : Wm mX8_lend 7 mc ms Q 39 [none, none, none, none, none, none] [.int xs0] (HN h0 ad cs pm) nc ns := by
  obtain ⟨o_1, H⟩ := H
  obtain ⟨o_2, H⟩ := H
  exact rl_iret dX8_lend_39 rfl o_1 o_2 H
theorem tX8_lendFault_0 {n : Nat} {ad : Nat → Nat} {h0 : Hp} {cs : Nat → Nat → Int32} {pm : Nat → Nat → Nat} (L : Lay n ad h0) {Q : Nat → Option Value → Hp → Prop} {x1 x2 x3 x4 x5 : Int32} (H : CKi mX8_transferFault 3 0 0 [some (.ref (ad (gEc))), some (.int x1), some (.int x2), some (.int x3), some (.int x4)] (HN h0 ad cs pm) (fun v h' => Wm mX8_lendFault 4 0 0 Q 9 [some (.ref (ad (gEc))), none, none, none, none, some (.int x5), none] [.int v] h' 0 0)) : Wm mX8_lendFault 4 0 0 Q 0 [some (.ref (ad (gEc))), some (.int x1), some (.int x2), some (.int x3), some (.int x4), some (.int x5), none] [] (HN h0 ad cs pm) 0 0 := by
  refine rl_aload_n dX8_lendFault_0 rfl rfl ?_
  refine rl_iload_n dX8_lendFault_1 rfl rfl ?_
  refine rl_iload_n dX8_lendFault_2 rfl rfl ?_
  refine rl_iload_n dX8_lendFault_3 rfl rfl ?_
  refine rl_iload dX8_lendFault_4 rfl ?_
  exact rl_callV (As := [.int x1, .int x2, .int x3, .int x4]) (rest := []) mfX8_transferFault dX8_lendFault_6 lkX8_77 (lEc L).K (by decide) (Nat.le_of_ble_eq_true rfl) (Nat.le_refl _) (Nat.le_refl _) rfl (Nat.le_of_ble_eq_true rfl) rfl rfl (fun Qc k => H Qc (fun v h' w => k (some (.int v)) h' (rl_wk (L' := [some (.ref (ad (gEc))), none, none, none, none, some (.int x5), none]) ⟨rfl, ⟨rfl, trivial⟩⟩ w)))
theorem tX8_lendFault_9 {n : Nat} {ad : Nat → Nat} {h0 : Hp} {cs : Nat → Nat → Int32} {pm : Nat → Nat → Nat} (L : Lay n ad h0) {Q : Nat → Option Value → Hp → Prop} {x5 xs0 : Int32} (H : ((xs0 = (nI 1) → Q 0 (some (.int xs0)) (HN h0 ad cs pm)) ∧ (¬ xs0 = (nI 1) → ((¬ xs0 = (nI 2) → ((x5 < (nI 1) → Q 0 (some (.int (nI 2))) (HN h0 ad cs pm)) ∧ (¬ x5 < (nI 1) → ((x5 ≤ (nI 1000) → (((cs (gSt 0) 5) < (nI 10) → Q 0 (some (.int xs0)) (HN h0 ad cs pm)) ∧ (¬ (cs (gSt 0) 5) < (nI 10) → Q 0 (some (.int (nI 3))) (HN h0 ad cs pm)))) ∧ (¬ x5 ≤ (nI 1000) → Q 0 (some (.int (nI 2))) (HN h0 ad cs pm)))))) ∧ (xs0 = (nI 2) → Q 0 (some (.int xs0)) (HN h0 ad cs pm)))))) : Wm mX8_lendFault 4 0 0 Q 9 [some (.ref (ad (gEc))), none, none, none, none, some (.int x5), none] [.int xs0] (HN h0 ad cs pm) 0 0 := by
  refine rl_istore (L' := [some (.ref (ad (gEc))), none, none, none, none, some (.int x5), some (.int xs0)]) dX8_lendFault_9 (Nat.le_of_ble_eq_true rfl) rfl ?_
  refine rl_iload dX8_lendFault_11 rfl ?_
  refine rl_iconst (v := nI 1) dX8_lendFault_13 (by decide) ?_
  refine rl_icmp_eq (tgt := 23) dX8_lendFault_14 (by decide) (fun c_1 => ?_) (fun c_1 => ?_)
  · have H := H.1 c_1
    refine rl_iload dX8_lendFault_23 rfl ?_
    exact rl_iret dX8_lendFault_25 rfl (Nat.le_refl 0) (Nat.le_refl 0) H
  · have H := H.2 c_1
    refine rl_iload dX8_lendFault_17 rfl ?_
    refine rl_iconst (v := nI 2) dX8_lendFault_19 (by decide) ?_
    refine rl_icmp_ne (tgt := 26) dX8_lendFault_20 (by decide) (fun c_2 => ?_) (fun c_2 => ?_)
    · have H := H.1 c_2
      refine rl_iload dX8_lendFault_26 rfl ?_
      refine rl_iconst (v := nI 1) dX8_lendFault_28 (by decide) ?_
      refine rl_icmp_lt (tgt := 40) dX8_lendFault_29 (by decide) (fun c_3 => ?_) (fun c_3 => ?_)
      · have H := H.1 c_3
        refine rl_iconst (v := nI 2) dX8_lendFault_40 (by decide) ?_
        exact rl_iret dX8_lendFault_41 rfl (Nat.le_refl 0) (Nat.le_refl 0) H
      · have H := H.2 c_3
        refine rl_iload dX8_lendFault_32 rfl ?_
        refine rl_sipush (v := nI 1000) dX8_lendFault_34 (by decide) ?_
        refine rl_icmp_le (tgt := 42) dX8_lendFault_37 (by decide) (fun c_4 => ?_) (fun c_4 => ?_)
        · have H := H.1 c_4
          refine rl_aload_n dX8_lendFault_42 rfl rfl ?_
          refine rt_getP (k := 1) cfX8 dX8_lendFault_43 flX8_27 (by decide) rfl (lEc L) (rEc1 L) naEc ?_
          refine rt_getI (k := 5) cfX6 dX8_lendFault_46 flX8_195 (by decide) rfl (lSt L (by decide)) nzSt ?_
          refine rl_bipush (v := nI 10) dX8_lendFault_49 (by decide) ?_
          refine rl_icmp_lt (tgt := 58) dX8_lendFault_51 (by decide) (fun c_5 => ?_) (fun c_5 => ?_)
          · have H := H.1 c_5
            refine rl_iload dX8_lendFault_58 rfl ?_
            exact rl_iret dX8_lendFault_60 rfl (Nat.le_refl 0) (Nat.le_refl 0) H
          · have H := H.2 c_5
            refine rl_iconst (v := nI 3) dX8_lendFault_54 (by decide) ?_
            refine rl_goto (tgt := 60) dX8_lendFault_55 (by decide) ?_
            exact rl_iret dX8_lendFault_60 rfl (Nat.le_refl 0) (Nat.le_refl 0) H
        · have H := H.2 c_4
          refine rl_iconst (v := nI 2) dX8_lendFault_40 (by decide) ?_
          exact rl_iret dX8_lendFault_41 rfl (Nat.le_refl 0) (Nat.le_refl 0) H
    · have H := H.2 c_2
      refine rl_iload dX8_lendFault_23 rfl ?_
      exact rl_iret dX8_lendFault_25 rfl (Nat.le_refl 0) (Nat.le_refl 0) H
theorem tX8_rebalance_0 {n : Nat} {ad : Nat → Nat} {h0 : Hp} {cs : Nat → Nat → Int32} {pm : Nat → Nat → Nat} (L : Lay n ad h0) {Q : Nat → Option Value → Hp → Prop} {mc ms nc ns : Nat} {x1 x2 : Int32} (H : nc + 0 ≤ mc ∧ ns + 0 ≤ ms ∧ CKi mX8_siteAndKindFault 1 0 0 [some (.ref (ad (gEc))), some (.int x1), some (.int x2)] (HN h0 ad cs pm) (fun v h' => Wm mX8_rebalance 7 mc ms Q 6 [some (.ref (ad (gEc))), some (.int x1), some (.int x2), none] [.int v] h' nc ns)) : Wm mX8_rebalance 7 mc ms Q 0 [some (.ref (ad (gEc))), some (.int x1), some (.int x2), none] [] (HN h0 ad cs pm) nc ns := by
  refine rl_aload_n dX8_rebalance_0 rfl rfl ?_
  refine rl_iload_n dX8_rebalance_1 rfl rfl ?_
  refine rl_iload_n dX8_rebalance_2 rfl rfl ?_
  obtain ⟨o_1, H⟩ := H
  obtain ⟨o_2, H⟩ := H
  exact rl_callV (As := [.int x1, .int x2]) (rest := []) mfX8_siteAndKindFault dX8_rebalance_3 lkX8_95 (lEc L).K (by decide) (Nat.le_of_ble_eq_true rfl) o_1 o_2 rfl (Nat.le_of_ble_eq_true rfl) rfl rfl (fun Qc k => H Qc (fun v h' w => k (some (.int v)) h' w))
theorem tX8_rebalance_6 {n : Nat} {ad : Nat → Nat} {h0 : Hp} {cs : Nat → Nat → Int32} {pm : Nat → Nat → Nat} (L : Lay n ad h0) {Q : Nat → Option Value → Hp → Prop} {mc ms nc ns : Nat} {mcn msn : Nat} {x1 x2 xs0 : Int32} (H : nc + mcn ≤ mc ∧ ns + msn ≤ ms ∧ CXv mX8_throwFor 6 mcn msn [some (.int xs0)] (HN h0 ad cs pm) (fun h' => Wm mX8_rebalance 7 mc ms Q 9 [some (.ref (ad (gEc))), some (.int x1), some (.int x2), none] [] h' (nc + mcn) (ns + msn)) (fun j h' => Q j none h')) : Wm mX8_rebalance 7 mc ms Q 6 [some (.ref (ad (gEc))), some (.int x1), some (.int x2), none] [.int xs0] (HN h0 ad cs pm) nc ns := by
  obtain ⟨o_1, H⟩ := H
  obtain ⟨o_2, H⟩ := H
  exact rl_callSX (As := [.int xs0]) (rest := []) mfX8_throwFor dX8_rebalance_6 lkX8_66 ⟨rfl, by decide⟩ (by decide) (Nat.le_of_ble_eq_true rfl) o_1 o_2 rfl (Nat.le_of_ble_eq_true rfl) rfl rfl (fun Qc k kx => H Qc (fun h' w => k none h' w) kx)
theorem tX8_rebalance_9 {n : Nat} {ad : Nat → Nat} {h0 : Hp} {cs : Nat → Nat → Int32} {pm : Nat → Nat → Nat} (L : Lay n ad h0) {Q : Nat → Option Value → Hp → Prop} {mc ms nc ns : Nat} {x1 x2 : Int32} (H : nc + 0 ≤ mc ∧ ns + 0 ≤ ms ∧ CKv mX1_save 5 0 0 [some (.ref (ad (gHi))), some (.ref (ad (gSt 0)))] (HN h0 ad cs pm) (fun h' => Wm mX8_rebalance 7 mc ms Q 20 [some (.ref (ad (gEc))), some (.int x1), some (.int x2), none] [] h' nc ns)) : Wm mX8_rebalance 7 mc ms Q 9 [some (.ref (ad (gEc))), some (.int x1), some (.int x2), none] [] (HN h0 ad cs pm) nc ns := by
  refine rl_aload_n dX8_rebalance_9 rfl rfl ?_
  refine rt_getP (k := 2) cfX8 dX8_rebalance_10 flX8_34 (by decide) rfl (lEc L) (rEc2 L) naEc ?_
  refine rl_aload_n dX8_rebalance_13 rfl rfl ?_
  refine rt_getP (k := 1) cfX8 dX8_rebalance_14 flX8_27 (by decide) rfl (lEc L) (rEc1 L) naEc ?_
  obtain ⟨o_1, H⟩ := H
  obtain ⟨o_2, H⟩ := H
  exact rl_callV (As := [.ref (ad (gSt 0))]) (rest := []) mfX1_save dX8_rebalance_17 lkX8_98 (lHi L).K (by decide) (Nat.le_of_ble_eq_true rfl) o_1 o_2 rfl (Nat.le_of_ble_eq_true rfl) rfl rfl (fun Qc k => H Qc (fun h' w => k none h' w))
theorem tX8_rebalance_20 {n : Nat} {ad : Nat → Nat} {h0 : Hp} {cs : Nat → Nat → Int32} {pm : Nat → Nat → Nat} (L : Lay n ad h0) {Q : Nat → Option Value → Hp → Prop} {mc ms nc ns : Nat} {x1 x2 : Int32} (H : nc + 0 ≤ mc ∧ ns + 0 ≤ ms ∧ CKi mX6_shareOut 3 0 0 [some (.ref (ad (gSt 0))), some (.int x1), some (.int x2), none, none, none, none, none, none, none] (HN h0 ad cs pm) (fun v h' => Wm mX8_rebalance 7 mc ms Q 29 [some (.ref (ad (gEc))), none, none, none] [.int v] h' nc ns)) : Wm mX8_rebalance 7 mc ms Q 20 [some (.ref (ad (gEc))), some (.int x1), some (.int x2), none] [] (HN h0 ad cs pm) nc ns := by
  refine rl_aload_n dX8_rebalance_20 rfl rfl ?_
  refine rt_getP (k := 1) cfX8 dX8_rebalance_21 flX8_27 (by decide) rfl (lEc L) (rEc1 L) naEc ?_
  refine rl_iload_n dX8_rebalance_24 rfl rfl ?_
  refine rl_iload_n dX8_rebalance_25 rfl rfl ?_
  obtain ⟨o_1, H⟩ := H
  obtain ⟨o_2, H⟩ := H
  exact rl_callV (As := [.int x1, .int x2]) (rest := []) mfX6_shareOut dX8_rebalance_26 lkX8_101 (lSt L (by decide)).K (by decide) (Nat.le_of_ble_eq_true rfl) o_1 o_2 rfl (Nat.le_of_ble_eq_true rfl) rfl rfl (fun Qc k => H Qc (fun v h' w => k (some (.int v)) h' (rl_wk (L' := [some (.ref (ad (gEc))), none, none, none]) ⟨rfl, trivial⟩ w)))
theorem tX8_rebalance_29 {n : Nat} {ad : Nat → Nat} {h0 : Hp} {cs : Nat → Nat → Int32} {pm : Nat → Nat → Nat} (L : Lay n ad h0) {Q : Nat → Option Value → Hp → Prop} {mc ms nc ns : Nat} {xs0 : Int32} (H : ((xs0 ≤ 0 → Wm mX8_rebalance 7 mc ms Q 41 [none, none, none, some (.int xs0)] [] (HN h0 ad cs pm) nc ns) ∧ (¬ xs0 ≤ 0 → nc + 0 ≤ mc ∧ ns + 0 ≤ ms ∧ CKv mX1_keep 0 0 0 [some (.ref (ad (gHi)))] (HN h0 ad cs pm) (fun h' => Wm mX8_rebalance 7 mc ms Q 41 [none, none, none, some (.int xs0)] [] h' nc ns)))) : Wm mX8_rebalance 7 mc ms Q 29 [some (.ref (ad (gEc))), none, none, none] [.int xs0] (HN h0 ad cs pm) nc ns := by
  refine rl_istore_n (L' := [some (.ref (ad (gEc))), none, none, some (.int xs0)]) dX8_rebalance_29 rfl (Nat.le_of_ble_eq_true rfl) rfl ?_
  refine rl_iload_n dX8_rebalance_30 rfl rfl ?_
  refine rl_if_le (tgt := 41) dX8_rebalance_31 (by decide) (fun c_1 => ?_) (fun c_1 => ?_)
  · have H := H.1 c_1
    refine rl_wk (L' := [none, none, none, some (.int xs0)]) ⟨rfl, trivial⟩ ?_
    exact H
  · have H := H.2 c_1
    refine rl_aload_n dX8_rebalance_34 rfl rfl ?_
    refine rt_getP (k := 2) cfX8 dX8_rebalance_35 flX8_34 (by decide) rfl (lEc L) (rEc2 L) naEc ?_
    obtain ⟨o_2, H⟩ := H
    obtain ⟨o_3, H⟩ := H
    exact rl_callV (As := []) (rest := []) mfX1_keep dX8_rebalance_38 lkX8_104 (lHi L).K (by decide) (Nat.le_of_ble_eq_true rfl) o_2 o_3 rfl (Nat.le_of_ble_eq_true rfl) rfl rfl (fun Qc k => H Qc (fun h' w => k none h' (rl_wk (L' := [none, none, none, some (.int xs0)]) ⟨rfl, trivial⟩ w)))
theorem tX8_rebalance_41 {n : Nat} {ad : Nat → Nat} {h0 : Hp} {cs : Nat → Nat → Int32} {pm : Nat → Nat → Nat} (L : Lay n ad h0) {Q : Nat → Option Value → Hp → Prop} {mc ms nc ns : Nat} {x3 : Int32} (H : nc ≤ mc ∧ ns ≤ ms ∧ Q 0 (some (.int x3)) (HN h0 ad cs pm)) : Wm mX8_rebalance 7 mc ms Q 41 [none, none, none, some (.int x3)] [] (HN h0 ad cs pm) nc ns := by
  refine rl_iload_n dX8_rebalance_41 rfl rfl ?_
  obtain ⟨o_1, H⟩ := H
  obtain ⟨o_2, H⟩ := H
  exact rl_iret dX8_rebalance_42 rfl o_1 o_2 H
theorem tX8_siteAndKindFault_0 {n : Nat} {ad : Nat → Nat} {h0 : Hp} {cs : Nat → Nat → Int32} {pm : Nat → Nat → Nat} (L : Lay n ad h0) {Q : Nat → Option Value → Hp → Prop} {x1 x2 : Int32} (H : CKi mX8_isSite 0 0 0 [some (.ref (ad (gEc))), some (.int x1)] (HN h0 ad cs pm) (fun v h' => Wm mX8_siteAndKindFault 1 0 0 Q 5 [none, none, some (.int x2)] [.int v] h' 0 0)) : Wm mX8_siteAndKindFault 1 0 0 Q 0 [some (.ref (ad (gEc))), some (.int x1), some (.int x2)] [] (HN h0 ad cs pm) 0 0 := by
  refine rl_aload_n dX8_siteAndKindFault_0 rfl rfl ?_
  refine rl_iload_n dX8_siteAndKindFault_1 rfl rfl ?_
  exact rl_callV (As := [.int x1]) (rest := []) mfX8_isSite dX8_siteAndKindFault_2 lkX8_283 (lEc L).K (by decide) (Nat.le_of_ble_eq_true rfl) (Nat.le_refl _) (Nat.le_refl _) rfl (Nat.le_of_ble_eq_true rfl) rfl rfl (fun Qc k => H Qc (fun v h' w => k (some (.int v)) h' (rl_wk (L' := [none, none, some (.int x2)]) ⟨rfl, trivial⟩ w)))
theorem tX8_siteAndKindFault_5 {n : Nat} {ad : Nat → Nat} {h0 : Hp} {cs : Nat → Nat → Int32} {pm : Nat → Nat → Nat} (L : Lay n ad h0) {Q : Nat → Option Value → Hp → Prop} {x2 xs0 : Int32} (H : ((xs0 = 0 → Q 0 (some (.int (nI 1))) (HN h0 ad cs pm)) ∧ (¬ xs0 = 0 → CKi mX8_isKind 0 0 0 [some (.int x2)] (HN h0 ad cs pm) (fun v h' => Wm mX8_siteAndKindFault 1 0 0 Q 12 [none, none, none] [.int v] h' 0 0)))) : Wm mX8_siteAndKindFault 1 0 0 Q 5 [none, none, some (.int x2)] [.int xs0] (HN h0 ad cs pm) 0 0 := by
  refine rl_if_eq (tgt := 19) dX8_siteAndKindFault_5 (by decide) (fun c_1 => ?_) (fun c_1 => ?_)
  · have H := H.1 c_1
    refine rl_iconst (v := nI 1) dX8_siteAndKindFault_19 (by decide) ?_
    exact rl_iret dX8_siteAndKindFault_20 rfl (Nat.le_refl 0) (Nat.le_refl 0) H
  · have H := H.2 c_1
    refine rl_iload_n dX8_siteAndKindFault_8 rfl rfl ?_
    exact rl_callS (As := [.int x2]) (rest := []) mfX8_isKind dX8_siteAndKindFault_9 lkX8_166 (by decide) (Nat.le_of_ble_eq_true rfl) (Nat.le_refl _) (Nat.le_refl _) rfl (Nat.le_of_ble_eq_true rfl) rfl rfl (fun Qc k => H Qc (fun v h' w => k (some (.int v)) h' (rl_wk (L' := [none, none, none]) trivial w)))
theorem tX8_siteAndKindFault_12 {n : Nat} {ad : Nat → Nat} {h0 : Hp} {cs : Nat → Nat → Int32} {pm : Nat → Nat → Nat} (L : Lay n ad h0) {Q : Nat → Option Value → Hp → Prop} {xs0 : Int32} (H : ((xs0 = 0 → Q 0 (some (.int (nI 1))) (HN h0 ad cs pm)) ∧ (¬ xs0 = 0 → Q 0 (some (.int (nI 0))) (HN h0 ad cs pm)))) : Wm mX8_siteAndKindFault 1 0 0 Q 12 [none, none, none] [.int xs0] (HN h0 ad cs pm) 0 0 := by
  refine rl_if_eq (tgt := 19) dX8_siteAndKindFault_12 (by decide) (fun c_1 => ?_) (fun c_1 => ?_)
  · have H := H.1 c_1
    refine rl_iconst (v := nI 1) dX8_siteAndKindFault_19 (by decide) ?_
    exact rl_iret dX8_siteAndKindFault_20 rfl (Nat.le_refl 0) (Nat.le_refl 0) H
  · have H := H.2 c_1
    refine rl_iconst (v := nI 0) dX8_siteAndKindFault_15 (by decide) ?_
    refine rl_goto (tgt := 20) dX8_siteAndKindFault_16 (by decide) ?_
    exact rl_iret dX8_siteAndKindFault_20 rfl (Nat.le_refl 0) (Nat.le_refl 0) H
theorem tX8_pass_0 {n : Nat} {ad : Nat → Nat} {h0 : Hp} {cs : Nat → Nat → Int32} {pm : Nat → Nat → Nat} (L : Lay n ad h0) {Q : Nat → Option Value → Hp → Prop} {mc ms nc ns : Nat} {x1 : Int32} (H : nc + 0 ≤ mc ∧ ns + 0 ≤ ms ∧ CKi mX8_passFault 0 0 0 [some (.ref (ad (gEc))), some (.int x1)] (HN h0 ad cs pm) (fun v h' => Wm mX8_pass 7 mc ms Q 5 [some (.ref (ad (gEc))), some (.int x1)] [.int v] h' nc ns)) : Wm mX8_pass 7 mc ms Q 0 [some (.ref (ad (gEc))), some (.int x1)] [] (HN h0 ad cs pm) nc ns := by
  refine rl_aload_n dX8_pass_0 rfl rfl ?_
  refine rl_iload_n dX8_pass_1 rfl rfl ?_
  obtain ⟨o_1, H⟩ := H
  obtain ⟨o_2, H⟩ := H
  exact rl_callV (As := [.int x1]) (rest := []) mfX8_passFault dX8_pass_2 lkX8_107 (lEc L).K (by decide) (Nat.le_of_ble_eq_true rfl) o_1 o_2 rfl (Nat.le_of_ble_eq_true rfl) rfl rfl (fun Qc k => H Qc (fun v h' w => k (some (.int v)) h' w))
theorem tX8_pass_5 {n : Nat} {ad : Nat → Nat} {h0 : Hp} {cs : Nat → Nat → Int32} {pm : Nat → Nat → Nat} (L : Lay n ad h0) {Q : Nat → Option Value → Hp → Prop} {mc ms nc ns : Nat} {mcn msn : Nat} {x1 xs0 : Int32} (H : nc + mcn ≤ mc ∧ ns + msn ≤ ms ∧ CXv mX8_throwFor 6 mcn msn [some (.int xs0)] (HN h0 ad cs pm) (fun h' => Wm mX8_pass 7 mc ms Q 8 [some (.ref (ad (gEc))), some (.int x1)] [] h' (nc + mcn) (ns + msn)) (fun j h' => Q j none h')) : Wm mX8_pass 7 mc ms Q 5 [some (.ref (ad (gEc))), some (.int x1)] [.int xs0] (HN h0 ad cs pm) nc ns := by
  obtain ⟨o_1, H⟩ := H
  obtain ⟨o_2, H⟩ := H
  exact rl_callSX (As := [.int xs0]) (rest := []) mfX8_throwFor dX8_pass_5 lkX8_66 ⟨rfl, by decide⟩ (by decide) (Nat.le_of_ble_eq_true rfl) o_1 o_2 rfl (Nat.le_of_ble_eq_true rfl) rfl rfl (fun Qc k kx => H Qc (fun h' w => k none h' w) kx)
theorem tX8_pass_8 {n : Nat} {ad : Nat → Nat} {h0 : Hp} {cs : Nat → Nat → Int32} {pm : Nat → Nat → Nat} (L : Lay n ad h0) {Q : Nat → Option Value → Hp → Prop} {mc ms nc ns : Nat} {x1 : Int32} (H : nc + 0 ≤ mc ∧ ns + 0 ≤ ms ∧ CKv mX1_add 5 0 0 [some (.ref (ad (gHi))), some (.ref (ad (gSt 0)))] (HN h0 ad cs pm) (fun h' => Wm mX8_pass 7 mc ms Q 19 [some (.ref (ad (gEc))), some (.int x1)] [] h' nc ns)) : Wm mX8_pass 7 mc ms Q 8 [some (.ref (ad (gEc))), some (.int x1)] [] (HN h0 ad cs pm) nc ns := by
  refine rl_aload_n dX8_pass_8 rfl rfl ?_
  refine rt_getP (k := 2) cfX8 dX8_pass_9 flX8_34 (by decide) rfl (lEc L) (rEc2 L) naEc ?_
  refine rl_aload_n dX8_pass_12 rfl rfl ?_
  refine rt_getP (k := 1) cfX8 dX8_pass_13 flX8_27 (by decide) rfl (lEc L) (rEc1 L) naEc ?_
  obtain ⟨o_1, H⟩ := H
  obtain ⟨o_2, H⟩ := H
  exact rl_callV (As := [.ref (ad (gSt 0))]) (rest := []) mfX1_add dX8_pass_16 lkX8_69 (lHi L).K (by decide) (Nat.le_of_ble_eq_true rfl) o_1 o_2 rfl (Nat.le_of_ble_eq_true rfl) rfl rfl (fun Qc k => H Qc (fun h' w => k none h' w))
theorem tX8_pass_19 {n : Nat} {ad : Nat → Nat} {h0 : Hp} {cs : Nat → Nat → Int32} {pm : Nat → Nat → Nat} (L : Lay n ad h0) {Q : Nat → Option Value → Hp → Prop} {mc ms nc ns : Nat} {x1 : Int32} (H : nc + 0 ≤ mc ∧ ns + 0 ≤ ms ∧ CKv mX6_letPass 1 0 0 [some (.ref (ad (gSt 0))), some (.int x1), none] (HN h0 ad cs pm) (fun h' => Wm mX8_pass 7 mc ms Q 27 [some (.ref (ad (gEc))), none] [] h' nc ns)) : Wm mX8_pass 7 mc ms Q 19 [some (.ref (ad (gEc))), some (.int x1)] [] (HN h0 ad cs pm) nc ns := by
  refine rl_aload_n dX8_pass_19 rfl rfl ?_
  refine rt_getP (k := 1) cfX8 dX8_pass_20 flX8_27 (by decide) rfl (lEc L) (rEc1 L) naEc ?_
  refine rl_iload_n dX8_pass_23 rfl rfl ?_
  obtain ⟨o_1, H⟩ := H
  obtain ⟨o_2, H⟩ := H
  exact rl_callV (As := [.int x1]) (rest := []) mfX6_letPass dX8_pass_24 lkX8_111 (lSt L (by decide)).K (by decide) (Nat.le_of_ble_eq_true rfl) o_1 o_2 rfl (Nat.le_of_ble_eq_true rfl) rfl rfl (fun Qc k => H Qc (fun h' w => k none h' (rl_wk (L' := [some (.ref (ad (gEc))), none]) ⟨rfl, trivial⟩ w)))
theorem tX8_pass_27 {n : Nat} {ad : Nat → Nat} {h0 : Hp} {cs : Nat → Nat → Int32} {pm : Nat → Nat → Nat} (L : Lay n ad h0) {Q : Nat → Option Value → Hp → Prop} {mc ms nc ns : Nat}  (H : nc ≤ mc ∧ ns ≤ ms ∧ Q 0 (some (.int (cs (gSt 0) 4))) (HN h0 ad cs pm)) : Wm mX8_pass 7 mc ms Q 27 [some (.ref (ad (gEc))), none] [] (HN h0 ad cs pm) nc ns := by
  refine rl_aload_n dX8_pass_27 rfl rfl ?_
  refine rt_getP (k := 1) cfX8 dX8_pass_28 flX8_27 (by decide) rfl (lEc L) (rEc1 L) naEc ?_
  refine rt_getI (k := 4) cfX6 dX8_pass_31 flX8_114 (by decide) rfl (lSt L (by decide)) nzSt ?_
  obtain ⟨o_1, H⟩ := H
  obtain ⟨o_2, H⟩ := H
  exact rl_iret dX8_pass_34 rfl o_1 o_2 H
theorem tX8_send_0 {n : Nat} {ad : Nat → Nat} {h0 : Hp} {cs : Nat → Nat → Int32} {pm : Nat → Nat → Nat} (L : Lay n ad h0) {Q : Nat → Option Value → Hp → Prop} {mc ms nc ns : Nat} {x1 x2 : Int32} (H : nc + 0 ≤ mc ∧ ns + 0 ≤ ms ∧ CKi mX8_sendFault 1 0 0 [some (.ref (ad (gEc))), some (.int x1), some (.int x2)] (HN h0 ad cs pm) (fun v h' => Wm mX8_send 7 mc ms Q 6 [some (.ref (ad (gEc))), some (.int x1), some (.int x2)] [.int v] h' nc ns)) : Wm mX8_send 7 mc ms Q 0 [some (.ref (ad (gEc))), some (.int x1), some (.int x2)] [] (HN h0 ad cs pm) nc ns := by
  refine rl_aload_n dX8_send_0 rfl rfl ?_
  refine rl_iload_n dX8_send_1 rfl rfl ?_
  refine rl_iload_n dX8_send_2 rfl rfl ?_
  obtain ⟨o_1, H⟩ := H
  obtain ⟨o_2, H⟩ := H
  exact rl_callV (As := [.int x1, .int x2]) (rest := []) mfX8_sendFault dX8_send_3 lkX8_117 (lEc L).K (by decide) (Nat.le_of_ble_eq_true rfl) o_1 o_2 rfl (Nat.le_of_ble_eq_true rfl) rfl rfl (fun Qc k => H Qc (fun v h' w => k (some (.int v)) h' w))
theorem tX8_send_6 {n : Nat} {ad : Nat → Nat} {h0 : Hp} {cs : Nat → Nat → Int32} {pm : Nat → Nat → Nat} (L : Lay n ad h0) {Q : Nat → Option Value → Hp → Prop} {mc ms nc ns : Nat} {mcn msn : Nat} {x1 x2 xs0 : Int32} (H : nc + mcn ≤ mc ∧ ns + msn ≤ ms ∧ CXv mX8_throwFor 6 mcn msn [some (.int xs0)] (HN h0 ad cs pm) (fun h' => Wm mX8_send 7 mc ms Q 9 [some (.ref (ad (gEc))), some (.int x1), some (.int x2)] [] h' (nc + mcn) (ns + msn)) (fun j h' => Q j none h')) : Wm mX8_send 7 mc ms Q 6 [some (.ref (ad (gEc))), some (.int x1), some (.int x2)] [.int xs0] (HN h0 ad cs pm) nc ns := by
  obtain ⟨o_1, H⟩ := H
  obtain ⟨o_2, H⟩ := H
  exact rl_callSX (As := [.int xs0]) (rest := []) mfX8_throwFor dX8_send_6 lkX8_66 ⟨rfl, by decide⟩ (by decide) (Nat.le_of_ble_eq_true rfl) o_1 o_2 rfl (Nat.le_of_ble_eq_true rfl) rfl rfl (fun Qc k kx => H Qc (fun h' w => k none h' w) kx)
theorem tX8_send_9 {n : Nat} {ad : Nat → Nat} {h0 : Hp} {cs : Nat → Nat → Int32} {pm : Nat → Nat → Nat} (L : Lay n ad h0) {Q : Nat → Option Value → Hp → Prop} {mc ms nc ns : Nat} {x1 x2 : Int32} (H : nc + 0 ≤ mc ∧ ns + 0 ≤ ms ∧ CKv mX1_add 5 0 0 [some (.ref (ad (gHi))), some (.ref (ad (gSt 0)))] (HN h0 ad cs pm) (fun h' => Wm mX8_send 7 mc ms Q 20 [some (.ref (ad (gEc))), some (.int x1), some (.int x2)] [] h' nc ns)) : Wm mX8_send 7 mc ms Q 9 [some (.ref (ad (gEc))), some (.int x1), some (.int x2)] [] (HN h0 ad cs pm) nc ns := by
  refine rl_aload_n dX8_send_9 rfl rfl ?_
  refine rt_getP (k := 2) cfX8 dX8_send_10 flX8_34 (by decide) rfl (lEc L) (rEc2 L) naEc ?_
  refine rl_aload_n dX8_send_13 rfl rfl ?_
  refine rt_getP (k := 1) cfX8 dX8_send_14 flX8_27 (by decide) rfl (lEc L) (rEc1 L) naEc ?_
  obtain ⟨o_1, H⟩ := H
  obtain ⟨o_2, H⟩ := H
  exact rl_callV (As := [.ref (ad (gSt 0))]) (rest := []) mfX1_add dX8_send_17 lkX8_69 (lHi L).K (by decide) (Nat.le_of_ble_eq_true rfl) o_1 o_2 rfl (Nat.le_of_ble_eq_true rfl) rfl rfl (fun Qc k => H Qc (fun h' w => k none h' w))
theorem tX8_send_20 {n : Nat} {ad : Nat → Nat} {h0 : Hp} {cs : Nat → Nat → Int32} {pm : Nat → Nat → Nat} (L : Lay n ad h0) {Q : Nat → Option Value → Hp → Prop} {mc ms nc ns : Nat} {x1 x2 : Int32} (H : nc + 0 ≤ mc ∧ ns + 0 ≤ ms ∧ CKi mX6_post 3 0 0 [some (.ref (ad (gSt 0))), some (.int x1), some (.int x2), none, none] (HN h0 ad cs pm) (fun v h' => Wm mX8_send 7 mc ms Q 29 [none, none, none] [.int v] h' nc ns)) : Wm mX8_send 7 mc ms Q 20 [some (.ref (ad (gEc))), some (.int x1), some (.int x2)] [] (HN h0 ad cs pm) nc ns := by
  refine rl_aload_n dX8_send_20 rfl rfl ?_
  refine rt_getP (k := 1) cfX8 dX8_send_21 flX8_27 (by decide) rfl (lEc L) (rEc1 L) naEc ?_
  refine rl_iload_n dX8_send_24 rfl rfl ?_
  refine rl_iload_n dX8_send_25 rfl rfl ?_
  obtain ⟨o_1, H⟩ := H
  obtain ⟨o_2, H⟩ := H
  exact rl_callV (As := [.int x1, .int x2]) (rest := []) mfX6_post dX8_send_26 lkX8_120 (lSt L (by decide)).K (by decide) (Nat.le_of_ble_eq_true rfl) o_1 o_2 rfl (Nat.le_of_ble_eq_true rfl) rfl rfl (fun Qc k => H Qc (fun v h' w => k (some (.int v)) h' (rl_wk (L' := [none, none, none]) trivial w)))
theorem tX8_send_29 {n : Nat} {ad : Nat → Nat} {h0 : Hp} {cs : Nat → Nat → Int32} {pm : Nat → Nat → Nat} (L : Lay n ad h0) {Q : Nat → Option Value → Hp → Prop} {mc ms nc ns : Nat} {xs0 : Int32} (H : nc ≤ mc ∧ ns ≤ ms ∧ Q 0 (some (.int xs0)) (HN h0 ad cs pm)) : Wm mX8_send 7 mc ms Q 29 [none, none, none] [.int xs0] (HN h0 ad cs pm) nc ns := by
  obtain ⟨o_1, H⟩ := H
  obtain ⟨o_2, H⟩ := H
  exact rl_iret dX8_send_29 rfl o_1 o_2 H
theorem tX8_deliver_0 {n : Nat} {ad : Nat → Nat} {h0 : Hp} {cs : Nat → Nat → Int32} {pm : Nat → Nat → Nat} (L : Lay n ad h0) {Q : Nat → Option Value → Hp → Prop} {mc ms nc ns : Nat} {x1 : Int32} (H : nc + 0 ≤ mc ∧ ns + 0 ≤ ms ∧ CKi mX8_messageFault 0 0 0 [some (.ref (ad (gEc))), some (.int x1)] (HN h0 ad cs pm) (fun v h' => Wm mX8_deliver 7 mc ms Q 5 [some (.ref (ad (gEc))), some (.int x1)] [.int v] h' nc ns)) : Wm mX8_deliver 7 mc ms Q 0 [some (.ref (ad (gEc))), some (.int x1)] [] (HN h0 ad cs pm) nc ns := by
  refine rl_aload_n dX8_deliver_0 rfl rfl ?_
  refine rl_iload_n dX8_deliver_1 rfl rfl ?_
  obtain ⟨o_1, H⟩ := H
  obtain ⟨o_2, H⟩ := H
  exact rl_callV (As := [.int x1]) (rest := []) mfX8_messageFault dX8_deliver_2 lkX8_123 (lEc L).K (by decide) (Nat.le_of_ble_eq_true rfl) o_1 o_2 rfl (Nat.le_of_ble_eq_true rfl) rfl rfl (fun Qc k => H Qc (fun v h' w => k (some (.int v)) h' w))
theorem tX8_deliver_5 {n : Nat} {ad : Nat → Nat} {h0 : Hp} {cs : Nat → Nat → Int32} {pm : Nat → Nat → Nat} (L : Lay n ad h0) {Q : Nat → Option Value → Hp → Prop} {mc ms nc ns : Nat} {mcn msn : Nat} {x1 xs0 : Int32} (H : nc + mcn ≤ mc ∧ ns + msn ≤ ms ∧ CXv mX8_throwFor 6 mcn msn [some (.int xs0)] (HN h0 ad cs pm) (fun h' => Wm mX8_deliver 7 mc ms Q 8 [some (.ref (ad (gEc))), some (.int x1)] [] h' (nc + mcn) (ns + msn)) (fun j h' => Q j none h')) : Wm mX8_deliver 7 mc ms Q 5 [some (.ref (ad (gEc))), some (.int x1)] [.int xs0] (HN h0 ad cs pm) nc ns := by
  obtain ⟨o_1, H⟩ := H
  obtain ⟨o_2, H⟩ := H
  exact rl_callSX (As := [.int xs0]) (rest := []) mfX8_throwFor dX8_deliver_5 lkX8_66 ⟨rfl, by decide⟩ (by decide) (Nat.le_of_ble_eq_true rfl) o_1 o_2 rfl (Nat.le_of_ble_eq_true rfl) rfl rfl (fun Qc k kx => H Qc (fun h' w => k none h' w) kx)
theorem tX8_deliver_8 {n : Nat} {ad : Nat → Nat} {h0 : Hp} {cs : Nat → Nat → Int32} {pm : Nat → Nat → Nat} (L : Lay n ad h0) {Q : Nat → Option Value → Hp → Prop} {mc ms nc ns : Nat} {x1 : Int32} (H : nc + 0 ≤ mc ∧ ns + 0 ≤ ms ∧ CKv mX1_add 5 0 0 [some (.ref (ad (gHi))), some (.ref (ad (gSt 0)))] (HN h0 ad cs pm) (fun h' => Wm mX8_deliver 7 mc ms Q 19 [some (.ref (ad (gEc))), some (.int x1)] [] h' nc ns)) : Wm mX8_deliver 7 mc ms Q 8 [some (.ref (ad (gEc))), some (.int x1)] [] (HN h0 ad cs pm) nc ns := by
  refine rl_aload_n dX8_deliver_8 rfl rfl ?_
  refine rt_getP (k := 2) cfX8 dX8_deliver_9 flX8_34 (by decide) rfl (lEc L) (rEc2 L) naEc ?_
  refine rl_aload_n dX8_deliver_12 rfl rfl ?_
  refine rt_getP (k := 1) cfX8 dX8_deliver_13 flX8_27 (by decide) rfl (lEc L) (rEc1 L) naEc ?_
  obtain ⟨o_1, H⟩ := H
  obtain ⟨o_2, H⟩ := H
  exact rl_callV (As := [.ref (ad (gSt 0))]) (rest := []) mfX1_add dX8_deliver_16 lkX8_69 (lHi L).K (by decide) (Nat.le_of_ble_eq_true rfl) o_1 o_2 rfl (Nat.le_of_ble_eq_true rfl) rfl rfl (fun Qc k => H Qc (fun h' w => k none h' w))
theorem tX8_deliver_19 {n : Nat} {ad : Nat → Nat} {h0 : Hp} {cs : Nat → Nat → Int32} {pm : Nat → Nat → Nat} (L : Lay n ad h0) {Q : Nat → Option Value → Hp → Prop} {mc ms nc ns : Nat} {x1 : Int32} (H : nc + 0 ≤ mc ∧ ns + 0 ≤ ms ∧ CKi mX6_handOver 3 0 0 [some (.ref (ad (gSt 0))), some (.int x1), none, none] (HN h0 ad cs pm) (fun v h' => Wm mX8_deliver 7 mc ms Q 27 [none, none] [.int v] h' nc ns)) : Wm mX8_deliver 7 mc ms Q 19 [some (.ref (ad (gEc))), some (.int x1)] [] (HN h0 ad cs pm) nc ns := by
  refine rl_aload_n dX8_deliver_19 rfl rfl ?_
  refine rt_getP (k := 1) cfX8 dX8_deliver_20 flX8_27 (by decide) rfl (lEc L) (rEc1 L) naEc ?_
  refine rl_iload_n dX8_deliver_23 rfl rfl ?_
  obtain ⟨o_1, H⟩ := H
  obtain ⟨o_2, H⟩ := H
  exact rl_callV (As := [.int x1]) (rest := []) mfX6_handOver dX8_deliver_24 lkX8_126 (lSt L (by decide)).K (by decide) (Nat.le_of_ble_eq_true rfl) o_1 o_2 rfl (Nat.le_of_ble_eq_true rfl) rfl rfl (fun Qc k => H Qc (fun v h' w => k (some (.int v)) h' (rl_wk (L' := [none, none]) trivial w)))
theorem tX8_deliver_27 {n : Nat} {ad : Nat → Nat} {h0 : Hp} {cs : Nat → Nat → Int32} {pm : Nat → Nat → Nat} (L : Lay n ad h0) {Q : Nat → Option Value → Hp → Prop} {mc ms nc ns : Nat} {xs0 : Int32} (H : nc ≤ mc ∧ ns ≤ ms ∧ Q 0 (some (.int xs0)) (HN h0 ad cs pm)) : Wm mX8_deliver 7 mc ms Q 27 [none, none] [.int xs0] (HN h0 ad cs pm) nc ns := by
  obtain ⟨o_1, H⟩ := H
  obtain ⟨o_2, H⟩ := H
  exact rl_iret dX8_deliver_27 rfl o_1 o_2 H
theorem tX8_messageFault_0 {n : Nat} {ad : Nat → Nat} {h0 : Hp} {cs : Nat → Nat → Int32} {pm : Nat → Nat → Nat} (L : Lay n ad h0) {Q : Nat → Option Value → Hp → Prop} {x1 : Int32} (H : ((x1 < 0 → Q 0 (some (.int (nI 1))) (HN h0 ad cs pm)) ∧ (¬ x1 < 0 → (((cs (gSt 0) 6) ≤ x1 → Q 0 (some (.int (nI 1))) (HN h0 ad cs pm)) ∧ (¬ (cs (gSt 0) 6) ≤ x1 → Q 0 (some (.int (nI 0))) (HN h0 ad cs pm)))))) : Wm mX8_messageFault 0 0 0 Q 0 [some (.ref (ad (gEc))), some (.int x1)] [] (HN h0 ad cs pm) 0 0 := by
  refine rl_iload_n dX8_messageFault_0 rfl rfl ?_
  refine rl_if_lt (tgt := 19) dX8_messageFault_1 (by decide) (fun c_1 => ?_) (fun c_1 => ?_)
  · have H := H.1 c_1
    refine rl_iconst (v := nI 1) dX8_messageFault_19 (by decide) ?_
    exact rl_iret dX8_messageFault_20 rfl (Nat.le_refl 0) (Nat.le_refl 0) H
  · have H := H.2 c_1
    refine rl_iload_n dX8_messageFault_4 rfl rfl ?_
    refine rl_aload_n dX8_messageFault_5 rfl rfl ?_
    refine rt_getP (k := 1) cfX8 dX8_messageFault_6 flX8_27 (by decide) rfl (lEc L) (rEc1 L) naEc ?_
    refine rt_getI (k := 6) cfX6 dX8_messageFault_9 flX8_132 (by decide) rfl (lSt L (by decide)) nzSt ?_
    refine rl_icmp_ge (tgt := 19) dX8_messageFault_12 (by decide) (fun c_2 => ?_) (fun c_2 => ?_)
    · have H := H.1 c_2
      refine rl_iconst (v := nI 1) dX8_messageFault_19 (by decide) ?_
      exact rl_iret dX8_messageFault_20 rfl (Nat.le_refl 0) (Nat.le_refl 0) H
    · have H := H.2 c_2
      refine rl_iconst (v := nI 0) dX8_messageFault_15 (by decide) ?_
      refine rl_goto (tgt := 20) dX8_messageFault_16 (by decide) ?_
      exact rl_iret dX8_messageFault_20 rfl (Nat.le_refl 0) (Nat.le_refl 0) H
theorem tX8_lose_0 {n : Nat} {ad : Nat → Nat} {h0 : Hp} {cs : Nat → Nat → Int32} {pm : Nat → Nat → Nat} (L : Lay n ad h0) {Q : Nat → Option Value → Hp → Prop} {mc ms nc ns : Nat} {x1 : Int32} (H : nc + 0 ≤ mc ∧ ns + 0 ≤ ms ∧ CKi mX8_messageFault 0 0 0 [some (.ref (ad (gEc))), some (.int x1)] (HN h0 ad cs pm) (fun v h' => Wm mX8_lose 7 mc ms Q 5 [some (.ref (ad (gEc))), some (.int x1)] [.int v] h' nc ns)) : Wm mX8_lose 7 mc ms Q 0 [some (.ref (ad (gEc))), some (.int x1)] [] (HN h0 ad cs pm) nc ns := by
  refine rl_aload_n dX8_lose_0 rfl rfl ?_
  refine rl_iload_n dX8_lose_1 rfl rfl ?_
  obtain ⟨o_1, H⟩ := H
  obtain ⟨o_2, H⟩ := H
  exact rl_callV (As := [.int x1]) (rest := []) mfX8_messageFault dX8_lose_2 lkX8_123 (lEc L).K (by decide) (Nat.le_of_ble_eq_true rfl) o_1 o_2 rfl (Nat.le_of_ble_eq_true rfl) rfl rfl (fun Qc k => H Qc (fun v h' w => k (some (.int v)) h' w))
theorem tX8_lose_5 {n : Nat} {ad : Nat → Nat} {h0 : Hp} {cs : Nat → Nat → Int32} {pm : Nat → Nat → Nat} (L : Lay n ad h0) {Q : Nat → Option Value → Hp → Prop} {mc ms nc ns : Nat} {mcn msn : Nat} {x1 xs0 : Int32} (H : nc + mcn ≤ mc ∧ ns + msn ≤ ms ∧ CXv mX8_throwFor 6 mcn msn [some (.int xs0)] (HN h0 ad cs pm) (fun h' => Wm mX8_lose 7 mc ms Q 8 [some (.ref (ad (gEc))), some (.int x1)] [] h' (nc + mcn) (ns + msn)) (fun j h' => Q j none h')) : Wm mX8_lose 7 mc ms Q 5 [some (.ref (ad (gEc))), some (.int x1)] [.int xs0] (HN h0 ad cs pm) nc ns := by
  obtain ⟨o_1, H⟩ := H
  obtain ⟨o_2, H⟩ := H
  exact rl_callSX (As := [.int xs0]) (rest := []) mfX8_throwFor dX8_lose_5 lkX8_66 ⟨rfl, by decide⟩ (by decide) (Nat.le_of_ble_eq_true rfl) o_1 o_2 rfl (Nat.le_of_ble_eq_true rfl) rfl rfl (fun Qc k kx => H Qc (fun h' w => k none h' w) kx)
theorem tX8_lose_8 {n : Nat} {ad : Nat → Nat} {h0 : Hp} {cs : Nat → Nat → Int32} {pm : Nat → Nat → Nat} (L : Lay n ad h0) {Q : Nat → Option Value → Hp → Prop} {mc ms nc ns : Nat} {x1 : Int32} (H : nc + 0 ≤ mc ∧ ns + 0 ≤ ms ∧ CKv mX1_add 5 0 0 [some (.ref (ad (gHi))), some (.ref (ad (gSt 0)))] (HN h0 ad cs pm) (fun h' => Wm mX8_lose 7 mc ms Q 19 [some (.ref (ad (gEc))), some (.int x1)] [] h' nc ns)) : Wm mX8_lose 7 mc ms Q 8 [some (.ref (ad (gEc))), some (.int x1)] [] (HN h0 ad cs pm) nc ns := by
  refine rl_aload_n dX8_lose_8 rfl rfl ?_
  refine rt_getP (k := 2) cfX8 dX8_lose_9 flX8_34 (by decide) rfl (lEc L) (rEc2 L) naEc ?_
  refine rl_aload_n dX8_lose_12 rfl rfl ?_
  refine rt_getP (k := 1) cfX8 dX8_lose_13 flX8_27 (by decide) rfl (lEc L) (rEc1 L) naEc ?_
  obtain ⟨o_1, H⟩ := H
  obtain ⟨o_2, H⟩ := H
  exact rl_callV (As := [.ref (ad (gSt 0))]) (rest := []) mfX1_add dX8_lose_16 lkX8_69 (lHi L).K (by decide) (Nat.le_of_ble_eq_true rfl) o_1 o_2 rfl (Nat.le_of_ble_eq_true rfl) rfl rfl (fun Qc k => H Qc (fun h' w => k none h' w))
theorem tX8_lose_19 {n : Nat} {ad : Nat → Nat} {h0 : Hp} {cs : Nat → Nat → Int32} {pm : Nat → Nat → Nat} (L : Lay n ad h0) {Q : Nat → Option Value → Hp → Prop} {mc ms nc ns : Nat} {x1 : Int32} (H : nc + 0 ≤ mc ∧ ns + 0 ≤ ms ∧ CKv mX6_drop 0 0 0 [some (.ref (ad (gSt 0))), some (.int x1), none, none] (HN h0 ad cs pm) (fun h' => Wm mX8_lose 7 mc ms Q 27 [some (.ref (ad (gEc))), none] [] h' nc ns)) : Wm mX8_lose 7 mc ms Q 19 [some (.ref (ad (gEc))), some (.int x1)] [] (HN h0 ad cs pm) nc ns := by
  refine rl_aload_n dX8_lose_19 rfl rfl ?_
  refine rt_getP (k := 1) cfX8 dX8_lose_20 flX8_27 (by decide) rfl (lEc L) (rEc1 L) naEc ?_
  refine rl_iload_n dX8_lose_23 rfl rfl ?_
  obtain ⟨o_1, H⟩ := H
  obtain ⟨o_2, H⟩ := H
  exact rl_callV (As := [.int x1]) (rest := []) mfX6_drop dX8_lose_24 lkX8_129 (lSt L (by decide)).K (by decide) (Nat.le_of_ble_eq_true rfl) o_1 o_2 rfl (Nat.le_of_ble_eq_true rfl) rfl rfl (fun Qc k => H Qc (fun h' w => k none h' (rl_wk (L' := [some (.ref (ad (gEc))), none]) ⟨rfl, trivial⟩ w)))
theorem tX8_lose_27 {n : Nat} {ad : Nat → Nat} {h0 : Hp} {cs : Nat → Nat → Int32} {pm : Nat → Nat → Nat} (L : Lay n ad h0) {Q : Nat → Option Value → Hp → Prop} {mc ms nc ns : Nat}  (H : nc ≤ mc ∧ ns ≤ ms ∧ Q 0 (some (.int (cs (gSt 0) 6))) (HN h0 ad cs pm)) : Wm mX8_lose 7 mc ms Q 27 [some (.ref (ad (gEc))), none] [] (HN h0 ad cs pm) nc ns := by
  refine rl_aload_n dX8_lose_27 rfl rfl ?_
  refine rt_getP (k := 1) cfX8 dX8_lose_28 flX8_27 (by decide) rfl (lEc L) (rEc1 L) naEc ?_
  refine rt_getI (k := 6) cfX6 dX8_lose_31 flX8_132 (by decide) rfl (lSt L (by decide)) nzSt ?_
  obtain ⟨o_1, H⟩ := H
  obtain ⟨o_2, H⟩ := H
  exact rl_iret dX8_lose_34 rfl o_1 o_2 H
theorem tX8_repeat_0 {n : Nat} {ad : Nat → Nat} {h0 : Hp} {cs : Nat → Nat → Int32} {pm : Nat → Nat → Nat} (L : Lay n ad h0) {Q : Nat → Option Value → Hp → Prop} {mc ms nc ns : Nat} {x1 : Int32} (H : nc + 0 ≤ mc ∧ ns + 0 ≤ ms ∧ CKi mX8_messageFault 0 0 0 [some (.ref (ad (gEc))), some (.int x1)] (HN h0 ad cs pm) (fun v h' => Wm mX8_repeat 7 mc ms Q 5 [some (.ref (ad (gEc))), some (.int x1)] [.int v] h' nc ns)) : Wm mX8_repeat 7 mc ms Q 0 [some (.ref (ad (gEc))), some (.int x1)] [] (HN h0 ad cs pm) nc ns := by
  refine rl_aload_n dX8_repeat_0 rfl rfl ?_
  refine rl_iload_n dX8_repeat_1 rfl rfl ?_
  obtain ⟨o_1, H⟩ := H
  obtain ⟨o_2, H⟩ := H
  exact rl_callV (As := [.int x1]) (rest := []) mfX8_messageFault dX8_repeat_2 lkX8_123 (lEc L).K (by decide) (Nat.le_of_ble_eq_true rfl) o_1 o_2 rfl (Nat.le_of_ble_eq_true rfl) rfl rfl (fun Qc k => H Qc (fun v h' w => k (some (.int v)) h' w))
theorem tX8_repeat_5 {n : Nat} {ad : Nat → Nat} {h0 : Hp} {cs : Nat → Nat → Int32} {pm : Nat → Nat → Nat} (L : Lay n ad h0) {Q : Nat → Option Value → Hp → Prop} {mc ms nc ns : Nat} {mcn msn : Nat} {x1 xs0 : Int32} (H : nc + mcn ≤ mc ∧ ns + msn ≤ ms ∧ CXv mX8_throwFor 6 mcn msn [some (.int xs0)] (HN h0 ad cs pm) (fun h' => Wm mX8_repeat 7 mc ms Q 8 [some (.ref (ad (gEc))), some (.int x1)] [] h' (nc + mcn) (ns + msn)) (fun j h' => Q j none h')) : Wm mX8_repeat 7 mc ms Q 5 [some (.ref (ad (gEc))), some (.int x1)] [.int xs0] (HN h0 ad cs pm) nc ns := by
  obtain ⟨o_1, H⟩ := H
  obtain ⟨o_2, H⟩ := H
  exact rl_callSX (As := [.int xs0]) (rest := []) mfX8_throwFor dX8_repeat_5 lkX8_66 ⟨rfl, by decide⟩ (by decide) (Nat.le_of_ble_eq_true rfl) o_1 o_2 rfl (Nat.le_of_ble_eq_true rfl) rfl rfl (fun Qc k kx => H Qc (fun h' w => k none h' w) kx)
theorem tX8_repeat_8 {n : Nat} {ad : Nat → Nat} {h0 : Hp} {cs : Nat → Nat → Int32} {pm : Nat → Nat → Nat} (L : Lay n ad h0) {Q : Nat → Option Value → Hp → Prop} {mc ms nc ns : Nat} {x1 : Int32} (H : (((cs (gSt 0) 6) < (nI 8) → nc + 0 ≤ mc ∧ ns + 0 ≤ ms ∧ CKv mX1_add 5 0 0 [some (.ref (ad (gHi))), some (.ref (ad (gSt 0)))] (HN h0 ad cs pm) (fun h' => Wm mX8_repeat 7 mc ms Q 41 [some (.ref (ad (gEc))), some (.int x1)] [] h' nc ns)) ∧ (¬ (cs (gSt 0) 6) < (nI 8) → nc + 1 ≤ mc ∧ ns + 6 ≤ ms ∧ (∀ z : Nat, hpZ h0 ≤ z → Q 3 none (HN (stZ h0 z) ad cs pm))))) : Wm mX8_repeat 7 mc ms Q 8 [some (.ref (ad (gEc))), some (.int x1)] [] (HN h0 ad cs pm) nc ns := by
  refine rl_aload_n dX8_repeat_8 rfl rfl ?_
  refine rt_getP (k := 1) cfX8 dX8_repeat_9 flX8_27 (by decide) rfl (lEc L) (rEc1 L) naEc ?_
  refine rt_getI (k := 6) cfX6 dX8_repeat_12 flX8_132 (by decide) rfl (lSt L (by decide)) nzSt ?_
  refine rl_bipush (v := nI 8) dX8_repeat_15 (by decide) ?_
  refine rl_icmp_lt (tgt := 30) dX8_repeat_17 (by decide) (fun c_1 => ?_) (fun c_1 => ?_)
  · have H := H.1 c_1
    refine rl_aload_n dX8_repeat_30 rfl rfl ?_
    refine rt_getP (k := 2) cfX8 dX8_repeat_31 flX8_34 (by decide) rfl (lEc L) (rEc2 L) naEc ?_
    refine rl_aload_n dX8_repeat_34 rfl rfl ?_
    refine rt_getP (k := 1) cfX8 dX8_repeat_35 flX8_27 (by decide) rfl (lEc L) (rEc1 L) naEc ?_
    obtain ⟨o_2, H⟩ := H
    obtain ⟨o_3, H⟩ := H
    exact rl_callV (As := [.ref (ad (gSt 0))]) (rest := []) mfX1_add dX8_repeat_38 lkX8_69 (lHi L).K (by decide) (Nat.le_of_ble_eq_true rfl) o_2 o_3 rfl (Nat.le_of_ble_eq_true rfl) rfl rfl (fun Qc k => H Qc (fun h' w => k none h' w))
  · have H := H.2 c_1
    obtain ⟨o_4, H⟩ := H
    obtain ⟨o_5, H⟩ := H
    exact rl_throw 3 dX8_repeat_20 dX8_repeat_23 dX8_repeat_24 dX8_repeat_26 dX8_repeat_29 clX8_135 thX8_139 (by decide) (List.mem_of_getElem? (i := 4) rfl) ⟨rfl, by decide⟩ (by decide) o_4 o_5 H
theorem tX8_repeat_41 {n : Nat} {ad : Nat → Nat} {h0 : Hp} {cs : Nat → Nat → Int32} {pm : Nat → Nat → Nat} (L : Lay n ad h0) {Q : Nat → Option Value → Hp → Prop} {mc ms nc ns : Nat} {x1 : Int32} (H : nc + 0 ≤ mc ∧ ns + 0 ≤ ms ∧ CKi mX6_postAgain 4 0 0 [some (.ref (ad (gSt 0))), some (.int x1), none] (HN h0 ad cs pm) (fun v h' => Wm mX8_repeat 7 mc ms Q 49 [none, none] [.int v] h' nc ns)) : Wm mX8_repeat 7 mc ms Q 41 [some (.ref (ad (gEc))), some (.int x1)] [] (HN h0 ad cs pm) nc ns := by
  refine rl_aload_n dX8_repeat_41 rfl rfl ?_
  refine rt_getP (k := 1) cfX8 dX8_repeat_42 flX8_27 (by decide) rfl (lEc L) (rEc1 L) naEc ?_
  refine rl_iload_n dX8_repeat_45 rfl rfl ?_
  obtain ⟨o_1, H⟩ := H
  obtain ⟨o_2, H⟩ := H
  exact rl_callV (As := [.int x1]) (rest := []) mfX6_postAgain dX8_repeat_46 lkX8_140 (lSt L (by decide)).K (by decide) (Nat.le_of_ble_eq_true rfl) o_1 o_2 rfl (Nat.le_of_ble_eq_true rfl) rfl rfl (fun Qc k => H Qc (fun v h' w => k (some (.int v)) h' (rl_wk (L' := [none, none]) trivial w)))
theorem tX8_repeat_49 {n : Nat} {ad : Nat → Nat} {h0 : Hp} {cs : Nat → Nat → Int32} {pm : Nat → Nat → Nat} (L : Lay n ad h0) {Q : Nat → Option Value → Hp → Prop} {mc ms nc ns : Nat} {xs0 : Int32} (H : nc ≤ mc ∧ ns ≤ ms ∧ Q 0 (some (.int xs0)) (HN h0 ad cs pm)) : Wm mX8_repeat 7 mc ms Q 49 [none, none] [.int xs0] (HN h0 ad cs pm) nc ns := by
  obtain ⟨o_1, H⟩ := H
  obtain ⟨o_2, H⟩ := H
  exact rl_iret dX8_repeat_49 rfl o_1 o_2 H
theorem tX8_message_0 {n : Nat} {ad : Nat → Nat} {h0 : Hp} {cs : Nat → Nat → Int32} {pm : Nat → Nat → Nat} (L : Lay n ad h0) {Q : Nat → Option Value → Hp → Prop} {mc ms nc ns : Nat} {x1 x2 : Int32} (H : nc + 0 ≤ mc ∧ ns + 0 ≤ ms ∧ CKi mX8_messageFault 0 0 0 [some (.ref (ad (gEc))), some (.int x1)] (HN h0 ad cs pm) (fun v h' => Wm mX8_message 7 mc ms Q 5 [some (.ref (ad (gEc))), some (.int x1), some (.int x2)] [.int v] h' nc ns)) : Wm mX8_message 7 mc ms Q 0 [some (.ref (ad (gEc))), some (.int x1), some (.int x2)] [] (HN h0 ad cs pm) nc ns := by
  refine rl_aload_n dX8_message_0 rfl rfl ?_
  refine rl_iload_n dX8_message_1 rfl rfl ?_
  obtain ⟨o_1, H⟩ := H
  obtain ⟨o_2, H⟩ := H
  exact rl_callV (As := [.int x1]) (rest := []) mfX8_messageFault dX8_message_2 lkX8_123 (lEc L).K (by decide) (Nat.le_of_ble_eq_true rfl) o_1 o_2 rfl (Nat.le_of_ble_eq_true rfl) rfl rfl (fun Qc k => H Qc (fun v h' w => k (some (.int v)) h' w))
theorem tX8_message_5 {n : Nat} {ad : Nat → Nat} {h0 : Hp} {cs : Nat → Nat → Int32} {pm : Nat → Nat → Nat} (L : Lay n ad h0) {Q : Nat → Option Value → Hp → Prop} {mc ms nc ns : Nat} {mcn msn : Nat} {x1 x2 xs0 : Int32} (H : nc + mcn ≤ mc ∧ ns + msn ≤ ms ∧ CXv mX8_throwFor 6 mcn msn [some (.int xs0)] (HN h0 ad cs pm) (fun h' => Wm mX8_message 7 mc ms Q 8 [some (.ref (ad (gEc))), some (.int x1), some (.int x2)] [] h' (nc + mcn) (ns + msn)) (fun j h' => Q j none h')) : Wm mX8_message 7 mc ms Q 5 [some (.ref (ad (gEc))), some (.int x1), some (.int x2)] [.int xs0] (HN h0 ad cs pm) nc ns := by
  obtain ⟨o_1, H⟩ := H
  obtain ⟨o_2, H⟩ := H
  exact rl_callSX (As := [.int xs0]) (rest := []) mfX8_throwFor dX8_message_5 lkX8_66 ⟨rfl, by decide⟩ (by decide) (Nat.le_of_ble_eq_true rfl) o_1 o_2 rfl (Nat.le_of_ble_eq_true rfl) rfl rfl (fun Qc k kx => H Qc (fun h' w => k none h' w) kx)
theorem tX8_message_8 {n : Nat} {ad : Nat → Nat} {h0 : Hp} {cs : Nat → Nat → Int32} {pm : Nat → Nat → Nat} (L : Lay n ad h0) {Q : Nat → Option Value → Hp → Prop} {mc ms nc ns : Nat} {x1 x2 : Int32} (H : ((x2 < 0 → Wm mX8_message 7 mc ms Q 17 [none, none, none] [] (HN h0 ad cs pm) nc ns) ∧ (¬ x2 < 0 → ((x2 < (nI 3) → (∃ j_3 : Nat, x1 = nI j_3 ∧ j_3 < 8 ∧ (pm 0 j_3 < 8 ∧ nc + 0 ≤ mc ∧ ns + 0 ≤ ms ∧ CKi mX3_fact 0 0 0 [some (.ref (ad (gMg 0 (pm 0 j_3)))), some (.int x2)] (HN h0 ad cs pm) (fun v h' => Wm mX8_message 7 mc ms Q 40 [none, none, none] [.int v] h' nc ns)))) ∧ (¬ x2 < (nI 3) → Wm mX8_message 7 mc ms Q 17 [none, none, none] [] (HN h0 ad cs pm) nc ns))))) : Wm mX8_message 7 mc ms Q 8 [some (.ref (ad (gEc))), some (.int x1), some (.int x2)] [] (HN h0 ad cs pm) nc ns := by
  refine rl_iload_n dX8_message_8 rfl rfl ?_
  refine rl_if_lt (tgt := 17) dX8_message_9 (by decide) (fun c_1 => ?_) (fun c_1 => ?_)
  · have H := H.1 c_1
    refine rl_wk (L' := [none, none, none]) trivial ?_
    exact H
  · have H := H.2 c_1
    refine rl_iload_n dX8_message_12 rfl rfl ?_
    refine rl_iconst (v := nI 3) dX8_message_13 (by decide) ?_
    refine rl_icmp_lt (tgt := 27) dX8_message_14 (by decide) (fun c_2 => ?_) (fun c_2 => ?_)
    · have H := H.1 c_2
      refine rl_aload_n dX8_message_27 rfl rfl ?_
      refine rt_getP (k := 1) cfX8 dX8_message_28 flX8_27 (by decide) rfl (lEc L) (rEc1 L) naEc ?_
      refine rt_getP (k := 9) cfX6 dX8_message_31 flX8_148 (by decide) rfl (lSt L (by decide)) (rStM L (by decide)) naSt ?_
      refine rl_iload_n dX8_message_34 rfl rfl ?_
      obtain ⟨j_3, e_4, b_5, H⟩ := H
      obtain ⟨o_6, H⟩ := H
      refine rt_aaldM (j := j_3) L dX8_message_35 (by decide) e_4 b_5 ?_
      refine rl_iload_n dX8_message_36 rfl rfl ?_
      obtain ⟨o_7, H⟩ := H
      obtain ⟨o_8, H⟩ := H
      exact rl_callV (As := [.int x2]) (rest := []) mfX3_fact dX8_message_37 lkX8_152 (lMg L ⟨(by decide), o_6⟩).K (by decide) (Nat.le_of_ble_eq_true rfl) o_7 o_8 rfl (Nat.le_of_ble_eq_true rfl) rfl rfl (fun Qc k => H Qc (fun v h' w => k (some (.int v)) h' (rl_wk (L' := [none, none, none]) trivial w)))
    · have H := H.2 c_2
      refine rl_wk (L' := [none, none, none]) trivial ?_
      exact H
theorem tX8_message_17 {n : Nat} {ad : Nat → Nat} {h0 : Hp} {cs : Nat → Nat → Int32} {pm : Nat → Nat → Nat} (L : Lay n ad h0) {Q : Nat → Option Value → Hp → Prop} {mc ms nc ns : Nat}  (H : nc + 1 ≤ mc ∧ ns + 6 ≤ ms ∧ (∀ z : Nat, hpZ h0 ≤ z → Q 1 none (HN (stZ h0 z) ad cs pm))) : Wm mX8_message 7 mc ms Q 17 [none, none, none] [] (HN h0 ad cs pm) nc ns := by
  obtain ⟨o_1, H⟩ := H
  obtain ⟨o_2, H⟩ := H
  exact rl_throw 1 dX8_message_17 dX8_message_20 dX8_message_21 dX8_message_23 dX8_message_26 clX8_143 thX8_147 (by decide) (List.mem_of_getElem? (i := 5) rfl) ⟨rfl, by decide⟩ (by decide) o_1 o_2 H
theorem tX8_message_40 {n : Nat} {ad : Nat → Nat} {h0 : Hp} {cs : Nat → Nat → Int32} {pm : Nat → Nat → Nat} (L : Lay n ad h0) {Q : Nat → Option Value → Hp → Prop} {mc ms nc ns : Nat} {xs0 : Int32} (H : nc ≤ mc ∧ ns ≤ ms ∧ Q 0 (some (.int xs0)) (HN h0 ad cs pm)) : Wm mX8_message 7 mc ms Q 40 [none, none, none] [.int xs0] (HN h0 ad cs pm) nc ns := by
  obtain ⟨o_1, H⟩ := H
  obtain ⟨o_2, H⟩ := H
  exact rl_iret dX8_message_40 rfl o_1 o_2 H
theorem tX8_known_0 {n : Nat} {ad : Nat → Nat} {h0 : Hp} {cs : Nat → Nat → Int32} {pm : Nat → Nat → Nat} (L : Lay n ad h0) {Q : Nat → Option Value → Hp → Prop} {mc ms nc ns : Nat} {x1 : Int32} (H : nc + 0 ≤ mc ∧ ns + 0 ≤ ms ∧ CKi mX8_siteFault 1 0 0 [some (.ref (ad (gEc))), some (.int x1)] (HN h0 ad cs pm) (fun v h' => Wm mX8_known 7 mc ms Q 5 [some (.ref (ad (gEc))), some (.int x1)] [.int v] h' nc ns)) : Wm mX8_known 7 mc ms Q 0 [some (.ref (ad (gEc))), some (.int x1)] [] (HN h0 ad cs pm) nc ns := by
  refine rl_aload_n dX8_known_0 rfl rfl ?_
  refine rl_iload_n dX8_known_1 rfl rfl ?_
  obtain ⟨o_1, H⟩ := H
  obtain ⟨o_2, H⟩ := H
  exact rl_callV (As := [.int x1]) (rest := []) mfX8_siteFault dX8_known_2 lkX8_157 (lEc L).K (by decide) (Nat.le_of_ble_eq_true rfl) o_1 o_2 rfl (Nat.le_of_ble_eq_true rfl) rfl rfl (fun Qc k => H Qc (fun v h' w => k (some (.int v)) h' w))
theorem tX8_known_5 {n : Nat} {ad : Nat → Nat} {h0 : Hp} {cs : Nat → Nat → Int32} {pm : Nat → Nat → Nat} (L : Lay n ad h0) {Q : Nat → Option Value → Hp → Prop} {mc ms nc ns : Nat} {mcn msn : Nat} {x1 xs0 : Int32} (H : nc + mcn ≤ mc ∧ ns + msn ≤ ms ∧ CXv mX8_throwFor 6 mcn msn [some (.int xs0)] (HN h0 ad cs pm) (fun h' => Wm mX8_known 7 mc ms Q 8 [some (.ref (ad (gEc))), some (.int x1)] [] h' (nc + mcn) (ns + msn)) (fun j h' => Q j none h')) : Wm mX8_known 7 mc ms Q 5 [some (.ref (ad (gEc))), some (.int x1)] [.int xs0] (HN h0 ad cs pm) nc ns := by
  obtain ⟨o_1, H⟩ := H
  obtain ⟨o_2, H⟩ := H
  exact rl_callSX (As := [.int xs0]) (rest := []) mfX8_throwFor dX8_known_5 lkX8_66 ⟨rfl, by decide⟩ (by decide) (Nat.le_of_ble_eq_true rfl) o_1 o_2 rfl (Nat.le_of_ble_eq_true rfl) rfl rfl (fun Qc k kx => H Qc (fun h' w => k none h' w) kx)
theorem tX8_known_8 {n : Nat} {ad : Nat → Nat} {h0 : Hp} {cs : Nat → Nat → Int32} {pm : Nat → Nat → Nat} (L : Lay n ad h0) {Q : Nat → Option Value → Hp → Prop} {mc ms nc ns : Nat} {x1 : Int32} (H : nc + 0 ≤ mc ∧ ns + 0 ≤ ms ∧ CKi mX6_valueKnownAt 0 0 0 [some (.ref (ad (gSt 0))), some (.int x1), none, none, none] (HN h0 ad cs pm) (fun v h' => Wm mX8_known 7 mc ms Q 16 [none, none] [.int v] h' nc ns)) : Wm mX8_known 7 mc ms Q 8 [some (.ref (ad (gEc))), some (.int x1)] [] (HN h0 ad cs pm) nc ns := by
  refine rl_aload_n dX8_known_8 rfl rfl ?_
  refine rt_getP (k := 1) cfX8 dX8_known_9 flX8_27 (by decide) rfl (lEc L) (rEc1 L) naEc ?_
  refine rl_iload_n dX8_known_12 rfl rfl ?_
  obtain ⟨o_1, H⟩ := H
  obtain ⟨o_2, H⟩ := H
  exact rl_callV (As := [.int x1]) (rest := []) mfX6_valueKnownAt dX8_known_13 lkX8_160 (lSt L (by decide)).K (by decide) (Nat.le_of_ble_eq_true rfl) o_1 o_2 rfl (Nat.le_of_ble_eq_true rfl) rfl rfl (fun Qc k => H Qc (fun v h' w => k (some (.int v)) h' (rl_wk (L' := [none, none]) trivial w)))
theorem tX8_known_16 {n : Nat} {ad : Nat → Nat} {h0 : Hp} {cs : Nat → Nat → Int32} {pm : Nat → Nat → Nat} (L : Lay n ad h0) {Q : Nat → Option Value → Hp → Prop} {mc ms nc ns : Nat} {xs0 : Int32} (H : nc ≤ mc ∧ ns ≤ ms ∧ Q 0 (some (.int xs0)) (HN h0 ad cs pm)) : Wm mX8_known 7 mc ms Q 16 [none, none] [.int xs0] (HN h0 ad cs pm) nc ns := by
  obtain ⟨o_1, H⟩ := H
  obtain ⟨o_2, H⟩ := H
  exact rl_iret dX8_known_16 rfl o_1 o_2 H
theorem tX8_siteFault_0 {n : Nat} {ad : Nat → Nat} {h0 : Hp} {cs : Nat → Nat → Int32} {pm : Nat → Nat → Nat} (L : Lay n ad h0) {Q : Nat → Option Value → Hp → Prop} {x1 : Int32} (H : CKi mX8_isSite 0 0 0 [some (.ref (ad (gEc))), some (.int x1)] (HN h0 ad cs pm) (fun v h' => Wm mX8_siteFault 1 0 0 Q 5 [none, none] [.int v] h' 0 0)) : Wm mX8_siteFault 1 0 0 Q 0 [some (.ref (ad (gEc))), some (.int x1)] [] (HN h0 ad cs pm) 0 0 := by
  refine rl_aload_n dX8_siteFault_0 rfl rfl ?_
  refine rl_iload_n dX8_siteFault_1 rfl rfl ?_
  exact rl_callV (As := [.int x1]) (rest := []) mfX8_isSite dX8_siteFault_2 lkX8_283 (lEc L).K (by decide) (Nat.le_of_ble_eq_true rfl) (Nat.le_refl _) (Nat.le_refl _) rfl (Nat.le_of_ble_eq_true rfl) rfl rfl (fun Qc k => H Qc (fun v h' w => k (some (.int v)) h' (rl_wk (L' := [none, none]) trivial w)))
theorem tX8_siteFault_5 {n : Nat} {ad : Nat → Nat} {h0 : Hp} {cs : Nat → Nat → Int32} {pm : Nat → Nat → Nat} (L : Lay n ad h0) {Q : Nat → Option Value → Hp → Prop} {xs0 : Int32} (H : ((xs0 = 0 → Q 0 (some (.int (nI 1))) (HN h0 ad cs pm)) ∧ (¬ xs0 = 0 → Q 0 (some (.int (nI 0))) (HN h0 ad cs pm)))) : Wm mX8_siteFault 1 0 0 Q 5 [none, none] [.int xs0] (HN h0 ad cs pm) 0 0 := by
  refine rl_if_eq (tgt := 12) dX8_siteFault_5 (by decide) (fun c_1 => ?_) (fun c_1 => ?_)
  · have H := H.1 c_1
    refine rl_iconst (v := nI 1) dX8_siteFault_12 (by decide) ?_
    exact rl_iret dX8_siteFault_13 rfl (Nat.le_refl 0) (Nat.le_refl 0) H
  · have H := H.2 c_1
    refine rl_iconst (v := nI 0) dX8_siteFault_8 (by decide) ?_
    refine rl_goto (tgt := 13) dX8_siteFault_9 (by decide) ?_
    exact rl_iret dX8_siteFault_13 rfl (Nat.le_refl 0) (Nat.le_refl 0) H
theorem tX8_own_0 {n : Nat} {ad : Nat → Nat} {h0 : Hp} {cs : Nat → Nat → Int32} {pm : Nat → Nat → Nat} (L : Lay n ad h0) {Q : Nat → Option Value → Hp → Prop} {mc ms nc ns : Nat} {x1 x2 : Int32} (H : nc + 0 ≤ mc ∧ ns + 0 ≤ ms ∧ CKi mX8_siteAndKindFault 1 0 0 [some (.ref (ad (gEc))), some (.int x1), some (.int x2)] (HN h0 ad cs pm) (fun v h' => Wm mX8_own 7 mc ms Q 6 [some (.ref (ad (gEc))), some (.int x1), some (.int x2)] [.int v] h' nc ns)) : Wm mX8_own 7 mc ms Q 0 [some (.ref (ad (gEc))), some (.int x1), some (.int x2)] [] (HN h0 ad cs pm) nc ns := by
  refine rl_aload_n dX8_own_0 rfl rfl ?_
  refine rl_iload_n dX8_own_1 rfl rfl ?_
  refine rl_iload_n dX8_own_2 rfl rfl ?_
  obtain ⟨o_1, H⟩ := H
  obtain ⟨o_2, H⟩ := H
  exact rl_callV (As := [.int x1, .int x2]) (rest := []) mfX8_siteAndKindFault dX8_own_3 lkX8_95 (lEc L).K (by decide) (Nat.le_of_ble_eq_true rfl) o_1 o_2 rfl (Nat.le_of_ble_eq_true rfl) rfl rfl (fun Qc k => H Qc (fun v h' w => k (some (.int v)) h' w))
theorem tX8_own_6 {n : Nat} {ad : Nat → Nat} {h0 : Hp} {cs : Nat → Nat → Int32} {pm : Nat → Nat → Nat} (L : Lay n ad h0) {Q : Nat → Option Value → Hp → Prop} {mc ms nc ns : Nat} {mcn msn : Nat} {x1 x2 xs0 : Int32} (H : nc + mcn ≤ mc ∧ ns + msn ≤ ms ∧ CXv mX8_throwFor 6 mcn msn [some (.int xs0)] (HN h0 ad cs pm) (fun h' => Wm mX8_own 7 mc ms Q 9 [some (.ref (ad (gEc))), some (.int x1), some (.int x2)] [] h' (nc + mcn) (ns + msn)) (fun j h' => Q j none h')) : Wm mX8_own 7 mc ms Q 6 [some (.ref (ad (gEc))), some (.int x1), some (.int x2)] [.int xs0] (HN h0 ad cs pm) nc ns := by
  obtain ⟨o_1, H⟩ := H
  obtain ⟨o_2, H⟩ := H
  exact rl_callSX (As := [.int xs0]) (rest := []) mfX8_throwFor dX8_own_6 lkX8_66 ⟨rfl, by decide⟩ (by decide) (Nat.le_of_ble_eq_true rfl) o_1 o_2 rfl (Nat.le_of_ble_eq_true rfl) rfl rfl (fun Qc k kx => H Qc (fun h' w => k none h' w) kx)
theorem tX8_own_9 {n : Nat} {ad : Nat → Nat} {h0 : Hp} {cs : Nat → Nat → Int32} {pm : Nat → Nat → Nat} (L : Lay n ad h0) {Q : Nat → Option Value → Hp → Prop} {mc ms nc ns : Nat} {x1 x2 : Int32} (H : nc + 0 ≤ mc ∧ ns + 0 ≤ ms ∧ CKi mX6_ownRights 2 0 0 [some (.ref (ad (gSt 0))), some (.int x1), some (.int x2), none, none, none] (HN h0 ad cs pm) (fun v h' => Wm mX8_own 7 mc ms Q 18 [none, none, none] [.int v] h' nc ns)) : Wm mX8_own 7 mc ms Q 9 [some (.ref (ad (gEc))), some (.int x1), some (.int x2)] [] (HN h0 ad cs pm) nc ns := by
  refine rl_aload_n dX8_own_9 rfl rfl ?_
  refine rt_getP (k := 1) cfX8 dX8_own_10 flX8_27 (by decide) rfl (lEc L) (rEc1 L) naEc ?_
  refine rl_iload_n dX8_own_13 rfl rfl ?_
  refine rl_iload_n dX8_own_14 rfl rfl ?_
  obtain ⟨o_1, H⟩ := H
  obtain ⟨o_2, H⟩ := H
  exact rl_callV (As := [.int x1, .int x2]) (rest := []) mfX6_ownRights dX8_own_15 lkX8_85 (lSt L (by decide)).K (by decide) (Nat.le_of_ble_eq_true rfl) o_1 o_2 rfl (Nat.le_of_ble_eq_true rfl) rfl rfl (fun Qc k => H Qc (fun v h' w => k (some (.int v)) h' (rl_wk (L' := [none, none, none]) trivial w)))
theorem tX8_own_18 {n : Nat} {ad : Nat → Nat} {h0 : Hp} {cs : Nat → Nat → Int32} {pm : Nat → Nat → Nat} (L : Lay n ad h0) {Q : Nat → Option Value → Hp → Prop} {mc ms nc ns : Nat} {xs0 : Int32} (H : nc ≤ mc ∧ ns ≤ ms ∧ Q 0 (some (.int xs0)) (HN h0 ad cs pm)) : Wm mX8_own 7 mc ms Q 18 [none, none, none] [.int xs0] (HN h0 ad cs pm) nc ns := by
  obtain ⟨o_1, H⟩ := H
  obtain ⟨o_2, H⟩ := H
  exact rl_iret dX8_own_18 rfl o_1 o_2 H
theorem tX8_available_0 {n : Nat} {ad : Nat → Nat} {h0 : Hp} {cs : Nat → Nat → Int32} {pm : Nat → Nat → Nat} (L : Lay n ad h0) {Q : Nat → Option Value → Hp → Prop} {mc ms nc ns : Nat} {x1 x2 : Int32} (H : nc + 0 ≤ mc ∧ ns + 0 ≤ ms ∧ CKi mX8_siteAndKindFault 1 0 0 [some (.ref (ad (gEc))), some (.int x1), some (.int x2)] (HN h0 ad cs pm) (fun v h' => Wm mX8_available 7 mc ms Q 6 [some (.ref (ad (gEc))), some (.int x1), some (.int x2)] [.int v] h' nc ns)) : Wm mX8_available 7 mc ms Q 0 [some (.ref (ad (gEc))), some (.int x1), some (.int x2)] [] (HN h0 ad cs pm) nc ns := by
  refine rl_aload_n dX8_available_0 rfl rfl ?_
  refine rl_iload_n dX8_available_1 rfl rfl ?_
  refine rl_iload_n dX8_available_2 rfl rfl ?_
  obtain ⟨o_1, H⟩ := H
  obtain ⟨o_2, H⟩ := H
  exact rl_callV (As := [.int x1, .int x2]) (rest := []) mfX8_siteAndKindFault dX8_available_3 lkX8_95 (lEc L).K (by decide) (Nat.le_of_ble_eq_true rfl) o_1 o_2 rfl (Nat.le_of_ble_eq_true rfl) rfl rfl (fun Qc k => H Qc (fun v h' w => k (some (.int v)) h' w))
theorem tX8_available_6 {n : Nat} {ad : Nat → Nat} {h0 : Hp} {cs : Nat → Nat → Int32} {pm : Nat → Nat → Nat} (L : Lay n ad h0) {Q : Nat → Option Value → Hp → Prop} {mc ms nc ns : Nat} {mcn msn : Nat} {x1 x2 xs0 : Int32} (H : nc + mcn ≤ mc ∧ ns + msn ≤ ms ∧ CXv mX8_throwFor 6 mcn msn [some (.int xs0)] (HN h0 ad cs pm) (fun h' => Wm mX8_available 7 mc ms Q 9 [some (.ref (ad (gEc))), some (.int x1), some (.int x2)] [] h' (nc + mcn) (ns + msn)) (fun j h' => Q j none h')) : Wm mX8_available 7 mc ms Q 6 [some (.ref (ad (gEc))), some (.int x1), some (.int x2)] [.int xs0] (HN h0 ad cs pm) nc ns := by
  obtain ⟨o_1, H⟩ := H
  obtain ⟨o_2, H⟩ := H
  exact rl_callSX (As := [.int xs0]) (rest := []) mfX8_throwFor dX8_available_6 lkX8_66 ⟨rfl, by decide⟩ (by decide) (Nat.le_of_ble_eq_true rfl) o_1 o_2 rfl (Nat.le_of_ble_eq_true rfl) rfl rfl (fun Qc k kx => H Qc (fun h' w => k none h' w) kx)
theorem tX8_available_9 {n : Nat} {ad : Nat → Nat} {h0 : Hp} {cs : Nat → Nat → Int32} {pm : Nat → Nat → Nat} (L : Lay n ad h0) {Q : Nat → Option Value → Hp → Prop} {mc ms nc ns : Nat} {x1 x2 : Int32} (H : nc + 0 ≤ mc ∧ ns + 0 ≤ ms ∧ CKi mX6_availableRights 3 0 0 [some (.ref (ad (gSt 0))), some (.int x1), some (.int x2), none, none] (HN h0 ad cs pm) (fun v h' => Wm mX8_available 7 mc ms Q 18 [none, none, none] [.int v] h' nc ns)) : Wm mX8_available 7 mc ms Q 9 [some (.ref (ad (gEc))), some (.int x1), some (.int x2)] [] (HN h0 ad cs pm) nc ns := by
  refine rl_aload_n dX8_available_9 rfl rfl ?_
  refine rt_getP (k := 1) cfX8 dX8_available_10 flX8_27 (by decide) rfl (lEc L) (rEc1 L) naEc ?_
  refine rl_iload_n dX8_available_13 rfl rfl ?_
  refine rl_iload_n dX8_available_14 rfl rfl ?_
  obtain ⟨o_1, H⟩ := H
  obtain ⟨o_2, H⟩ := H
  exact rl_callV (As := [.int x1, .int x2]) (rest := []) mfX6_availableRights dX8_available_15 lkX8_163 (lSt L (by decide)).K (by decide) (Nat.le_of_ble_eq_true rfl) o_1 o_2 rfl (Nat.le_of_ble_eq_true rfl) rfl rfl (fun Qc k => H Qc (fun v h' w => k (some (.int v)) h' (rl_wk (L' := [none, none, none]) trivial w)))
theorem tX8_available_18 {n : Nat} {ad : Nat → Nat} {h0 : Hp} {cs : Nat → Nat → Int32} {pm : Nat → Nat → Nat} (L : Lay n ad h0) {Q : Nat → Option Value → Hp → Prop} {mc ms nc ns : Nat} {xs0 : Int32} (H : nc ≤ mc ∧ ns ≤ ms ∧ Q 0 (some (.int xs0)) (HN h0 ad cs pm)) : Wm mX8_available 7 mc ms Q 18 [none, none, none] [.int xs0] (HN h0 ad cs pm) nc ns := by
  obtain ⟨o_1, H⟩ := H
  obtain ⟨o_2, H⟩ := H
  exact rl_iret dX8_available_18 rfl o_1 o_2 H
theorem tX8_dormant_0 {n : Nat} {ad : Nat → Nat} {h0 : Hp} {cs : Nat → Nat → Int32} {pm : Nat → Nat → Nat} (L : Lay n ad h0) {Q : Nat → Option Value → Hp → Prop} {mc ms nc ns : Nat} {x1 : Int32} (H : nc + 0 ≤ mc ∧ ns + 0 ≤ ms ∧ CKi mX8_isKind 0 0 0 [some (.int x1)] (HN h0 ad cs pm) (fun v h' => Wm mX8_dormant 6 mc ms Q 4 [some (.ref (ad (gEc))), some (.int x1)] [.int v] h' nc ns)) : Wm mX8_dormant 6 mc ms Q 0 [some (.ref (ad (gEc))), some (.int x1)] [] (HN h0 ad cs pm) nc ns := by
  refine rl_iload_n dX8_dormant_0 rfl rfl ?_
  obtain ⟨o_1, H⟩ := H
  obtain ⟨o_2, H⟩ := H
  exact rl_callS (As := [.int x1]) (rest := []) mfX8_isKind dX8_dormant_1 lkX8_166 (by decide) (Nat.le_of_ble_eq_true rfl) o_1 o_2 rfl (Nat.le_of_ble_eq_true rfl) rfl rfl (fun Qc k => H Qc (fun v h' w => k (some (.int v)) h' w))
theorem tX8_dormant_4 {n : Nat} {ad : Nat → Nat} {h0 : Hp} {cs : Nat → Nat → Int32} {pm : Nat → Nat → Nat} (L : Lay n ad h0) {Q : Nat → Option Value → Hp → Prop} {mc ms nc ns : Nat} {x1 xs0 : Int32} (H : ((¬ xs0 = 0 → nc + 0 ≤ mc ∧ ns + 0 ≤ ms ∧ CKi mX6_dormantRights 4 0 0 [some (.ref (ad (gSt 0))), some (.int x1), none, none] (HN h0 ad cs pm) (fun v h' => Wm mX8_dormant 6 mc ms Q 25 [none, none] [.int v] h' nc ns)) ∧ (xs0 = 0 → nc + 1 ≤ mc ∧ ns + 6 ≤ ms ∧ (∀ z : Nat, hpZ h0 ≤ z → Q 1 none (HN (stZ h0 z) ad cs pm))))) : Wm mX8_dormant 6 mc ms Q 4 [some (.ref (ad (gEc))), some (.int x1)] [.int xs0] (HN h0 ad cs pm) nc ns := by
  refine rl_if_ne (tgt := 17) dX8_dormant_4 (by decide) (fun c_1 => ?_) (fun c_1 => ?_)
  · have H := H.1 c_1
    refine rl_aload_n dX8_dormant_17 rfl rfl ?_
    refine rt_getP (k := 1) cfX8 dX8_dormant_18 flX8_27 (by decide) rfl (lEc L) (rEc1 L) naEc ?_
    refine rl_iload_n dX8_dormant_21 rfl rfl ?_
    obtain ⟨o_2, H⟩ := H
    obtain ⟨o_3, H⟩ := H
    exact rl_callV (As := [.int x1]) (rest := []) mfX6_dormantRights dX8_dormant_22 lkX8_172 (lSt L (by decide)).K (by decide) (Nat.le_of_ble_eq_true rfl) o_2 o_3 rfl (Nat.le_of_ble_eq_true rfl) rfl rfl (fun Qc k => H Qc (fun v h' w => k (some (.int v)) h' (rl_wk (L' := [none, none]) trivial w)))
  · have H := H.2 c_1
    obtain ⟨o_4, H⟩ := H
    obtain ⟨o_5, H⟩ := H
    exact rl_throw 1 dX8_dormant_7 dX8_dormant_10 dX8_dormant_11 dX8_dormant_13 dX8_dormant_16 clX8_143 thX8_147 (by decide) (List.mem_of_getElem? (i := 6) rfl) ⟨rfl, by decide⟩ (by decide) o_4 o_5 H
theorem tX8_dormant_25 {n : Nat} {ad : Nat → Nat} {h0 : Hp} {cs : Nat → Nat → Int32} {pm : Nat → Nat → Nat} (L : Lay n ad h0) {Q : Nat → Option Value → Hp → Prop} {mc ms nc ns : Nat} {xs0 : Int32} (H : nc ≤ mc ∧ ns ≤ ms ∧ Q 0 (some (.int xs0)) (HN h0 ad cs pm)) : Wm mX8_dormant 6 mc ms Q 25 [none, none] [.int xs0] (HN h0 ad cs pm) nc ns := by
  obtain ⟨o_1, H⟩ := H
  obtain ⟨o_2, H⟩ := H
  exact rl_iret dX8_dormant_25 rfl o_1 o_2 H
theorem tX8_demand_0 {n : Nat} {ad : Nat → Nat} {h0 : Hp} {cs : Nat → Nat → Int32} {pm : Nat → Nat → Nat} (L : Lay n ad h0) {Q : Nat → Option Value → Hp → Prop} {mc ms nc ns : Nat} {x1 x2 x3 : Int32} (H : nc + 0 ≤ mc ∧ ns + 0 ≤ ms ∧ CKi mX8_siteAndKindFault 1 0 0 [some (.ref (ad (gEc))), some (.int x1), some (.int x3)] (HN h0 ad cs pm) (fun v h' => Wm mX8_demand 7 mc ms Q 6 [some (.ref (ad (gEc))), some (.int x1), some (.int x2), some (.int x3)] [.int v] h' nc ns)) : Wm mX8_demand 7 mc ms Q 0 [some (.ref (ad (gEc))), some (.int x1), some (.int x2), some (.int x3)] [] (HN h0 ad cs pm) nc ns := by
  refine rl_aload_n dX8_demand_0 rfl rfl ?_
  refine rl_iload_n dX8_demand_1 rfl rfl ?_
  refine rl_iload_n dX8_demand_2 rfl rfl ?_
  obtain ⟨o_1, H⟩ := H
  obtain ⟨o_2, H⟩ := H
  exact rl_callV (As := [.int x1, .int x3]) (rest := []) mfX8_siteAndKindFault dX8_demand_3 lkX8_95 (lEc L).K (by decide) (Nat.le_of_ble_eq_true rfl) o_1 o_2 rfl (Nat.le_of_ble_eq_true rfl) rfl rfl (fun Qc k => H Qc (fun v h' w => k (some (.int v)) h' w))
theorem tX8_demand_6 {n : Nat} {ad : Nat → Nat} {h0 : Hp} {cs : Nat → Nat → Int32} {pm : Nat → Nat → Nat} (L : Lay n ad h0) {Q : Nat → Option Value → Hp → Prop} {mc ms nc ns : Nat} {mcn msn : Nat} {x1 x2 x3 xs0 : Int32} (H : nc + mcn ≤ mc ∧ ns + msn ≤ ms ∧ CXv mX8_throwFor 6 mcn msn [some (.int xs0)] (HN h0 ad cs pm) (fun h' => Wm mX8_demand 7 mc ms Q 9 [some (.ref (ad (gEc))), some (.int x1), some (.int x2), some (.int x3)] [] h' (nc + mcn) (ns + msn)) (fun j h' => Q j none h')) : Wm mX8_demand 7 mc ms Q 6 [some (.ref (ad (gEc))), some (.int x1), some (.int x2), some (.int x3)] [.int xs0] (HN h0 ad cs pm) nc ns := by
  obtain ⟨o_1, H⟩ := H
  obtain ⟨o_2, H⟩ := H
  exact rl_callSX (As := [.int xs0]) (rest := []) mfX8_throwFor dX8_demand_6 lkX8_66 ⟨rfl, by decide⟩ (by decide) (Nat.le_of_ble_eq_true rfl) o_1 o_2 rfl (Nat.le_of_ble_eq_true rfl) rfl rfl (fun Qc k kx => H Qc (fun h' w => k none h' w) kx)
theorem tX8_demand_9 {n : Nat} {ad : Nat → Nat} {h0 : Hp} {cs : Nat → Nat → Int32} {pm : Nat → Nat → Nat} (L : Lay n ad h0) {Q : Nat → Option Value → Hp → Prop} {mc ms nc ns : Nat} {x1 x2 x3 : Int32} (H : nc + 0 ≤ mc ∧ ns + 0 ≤ ms ∧ CKi mX8_siteFault 1 0 0 [some (.ref (ad (gEc))), some (.int x2)] (HN h0 ad cs pm) (fun v h' => Wm mX8_demand 7 mc ms Q 14 [some (.ref (ad (gEc))), some (.int x1), some (.int x2), some (.int x3)] [.int v] h' nc ns)) : Wm mX8_demand 7 mc ms Q 9 [some (.ref (ad (gEc))), some (.int x1), some (.int x2), some (.int x3)] [] (HN h0 ad cs pm) nc ns := by
  refine rl_aload_n dX8_demand_9 rfl rfl ?_
  refine rl_iload_n dX8_demand_10 rfl rfl ?_
  obtain ⟨o_1, H⟩ := H
  obtain ⟨o_2, H⟩ := H
  exact rl_callV (As := [.int x2]) (rest := []) mfX8_siteFault dX8_demand_11 lkX8_157 (lEc L).K (by decide) (Nat.le_of_ble_eq_true rfl) o_1 o_2 rfl (Nat.le_of_ble_eq_true rfl) rfl rfl (fun Qc k => H Qc (fun v h' w => k (some (.int v)) h' w))
theorem tX8_demand_14 {n : Nat} {ad : Nat → Nat} {h0 : Hp} {cs : Nat → Nat → Int32} {pm : Nat → Nat → Nat} (L : Lay n ad h0) {Q : Nat → Option Value → Hp → Prop} {mc ms nc ns : Nat} {mcn msn : Nat} {x1 x2 x3 xs0 : Int32} (H : nc + mcn ≤ mc ∧ ns + msn ≤ ms ∧ CXv mX8_throwFor 6 mcn msn [some (.int xs0)] (HN h0 ad cs pm) (fun h' => Wm mX8_demand 7 mc ms Q 17 [some (.ref (ad (gEc))), some (.int x1), some (.int x2), some (.int x3)] [] h' (nc + mcn) (ns + msn)) (fun j h' => Q j none h')) : Wm mX8_demand 7 mc ms Q 14 [some (.ref (ad (gEc))), some (.int x1), some (.int x2), some (.int x3)] [.int xs0] (HN h0 ad cs pm) nc ns := by
  obtain ⟨o_1, H⟩ := H
  obtain ⟨o_2, H⟩ := H
  exact rl_callSX (As := [.int xs0]) (rest := []) mfX8_throwFor dX8_demand_14 lkX8_66 ⟨rfl, by decide⟩ (by decide) (Nat.le_of_ble_eq_true rfl) o_1 o_2 rfl (Nat.le_of_ble_eq_true rfl) rfl rfl (fun Qc k kx => H Qc (fun h' w => k none h' w) kx)
theorem tX8_demand_17 {n : Nat} {ad : Nat → Nat} {h0 : Hp} {cs : Nat → Nat → Int32} {pm : Nat → Nat → Nat} (L : Lay n ad h0) {Q : Nat → Option Value → Hp → Prop} {mc ms nc ns : Nat} {x1 x2 x3 : Int32} (H : (∃ j_1 : Nat, x1 = nI j_1 ∧ j_1 < n ∧ (∃ j_4 : Nat, x2 = nI j_4 ∧ j_4 < n ∧ (∃ j_7 : Nat, x3 = nI j_7 ∧ j_7 < 2 ∧ (nc ≤ mc ∧ ns ≤ ms ∧ Q 0 (some (.int (cs (gAr 0 j_1 j_4 1) j_7))) (HN h0 ad cs pm)))))) : Wm mX8_demand 7 mc ms Q 17 [some (.ref (ad (gEc))), some (.int x1), some (.int x2), some (.int x3)] [] (HN h0 ad cs pm) nc ns := by
  refine rl_aload_n dX8_demand_17 rfl rfl ?_
  refine rt_getP (k := 1) cfX8 dX8_demand_18 flX8_27 (by decide) rfl (lEc L) (rEc1 L) naEc ?_
  refine rt_getP (k := 7) cfX6 dX8_demand_21 flX8_175 (by decide) rfl (lSt L (by decide)) (rStV L (by decide)) naSt ?_
  refine rl_iload_n dX8_demand_24 rfl rfl ?_
  obtain ⟨j_1, e_2, b_3, H⟩ := H
  refine rt_aald (ci := 7) (j := j_1) dX8_demand_25 rfl (lVa L (by decide)) e_2 b_3 (lay5 L) (rVa L (by decide) b_3) naVa ?_
  refine rt_getP (k := 0) cfX7 dX8_demand_26 flX8_179 (by decide) rfl (lVw L ⟨(by decide), Or.inl b_3⟩) (rVw L ⟨(by decide), Or.inl b_3⟩) (naVw L ⟨(by decide), Or.inl b_3⟩) ?_
  refine rl_iload_n dX8_demand_29 rfl rfl ?_
  obtain ⟨j_4, e_5, b_6, H⟩ := H
  refine rt_aald (ci := 5) (j := j_4) dX8_demand_30 rfl (lRa L ⟨(by decide), Or.inl b_3⟩) e_5 b_6 (lay5 L) (rRa L ⟨(by decide), Or.inl b_3⟩ b_6) (naRa L ⟨(by decide), Or.inl b_3⟩) ?_
  refine rt_getP (k := 3) cfX5 dX8_demand_31 flX8_185 (by decide) rfl (lRc L ⟨⟨(by decide), Or.inl b_3⟩, b_6⟩) (rRc3 L ⟨⟨(by decide), Or.inl b_3⟩, b_6⟩) (naRc L ⟨⟨(by decide), Or.inl b_3⟩, b_6⟩) ?_
  refine rl_iload_n dX8_demand_34 rfl rfl ?_
  obtain ⟨j_7, e_8, b_9, H⟩ := H
  refine rt_iald (j := j_7) dX8_demand_35 (lAr1 L ⟨⟨(by decide), Or.inl b_3⟩, b_6⟩) nzAr e_8 b_9 (by decide) ?_
  obtain ⟨o_10, H⟩ := H
  obtain ⟨o_11, H⟩ := H
  exact rl_iret dX8_demand_36 rfl o_10 o_11 H
theorem tX8_version_0 {n : Nat} {ad : Nat → Nat} {h0 : Hp} {cs : Nat → Nat → Int32} {pm : Nat → Nat → Nat} (L : Lay n ad h0) {Q : Nat → Option Value → Hp → Prop} {mc ms nc ns : Nat} {x1 x2 : Int32} (H : nc + 0 ≤ mc ∧ ns + 0 ≤ ms ∧ CKi mX8_siteFault 1 0 0 [some (.ref (ad (gEc))), some (.int x1)] (HN h0 ad cs pm) (fun v h' => Wm mX8_version 7 mc ms Q 5 [some (.ref (ad (gEc))), some (.int x1), some (.int x2)] [.int v] h' nc ns)) : Wm mX8_version 7 mc ms Q 0 [some (.ref (ad (gEc))), some (.int x1), some (.int x2)] [] (HN h0 ad cs pm) nc ns := by
  refine rl_aload_n dX8_version_0 rfl rfl ?_
  refine rl_iload_n dX8_version_1 rfl rfl ?_
  obtain ⟨o_1, H⟩ := H
  obtain ⟨o_2, H⟩ := H
  exact rl_callV (As := [.int x1]) (rest := []) mfX8_siteFault dX8_version_2 lkX8_157 (lEc L).K (by decide) (Nat.le_of_ble_eq_true rfl) o_1 o_2 rfl (Nat.le_of_ble_eq_true rfl) rfl rfl (fun Qc k => H Qc (fun v h' w => k (some (.int v)) h' w))
theorem tX8_version_5 {n : Nat} {ad : Nat → Nat} {h0 : Hp} {cs : Nat → Nat → Int32} {pm : Nat → Nat → Nat} (L : Lay n ad h0) {Q : Nat → Option Value → Hp → Prop} {mc ms nc ns : Nat} {mcn msn : Nat} {x1 x2 xs0 : Int32} (H : nc + mcn ≤ mc ∧ ns + msn ≤ ms ∧ CXv mX8_throwFor 6 mcn msn [some (.int xs0)] (HN h0 ad cs pm) (fun h' => Wm mX8_version 7 mc ms Q 8 [some (.ref (ad (gEc))), some (.int x1), some (.int x2)] [] h' (nc + mcn) (ns + msn)) (fun j h' => Q j none h')) : Wm mX8_version 7 mc ms Q 5 [some (.ref (ad (gEc))), some (.int x1), some (.int x2)] [.int xs0] (HN h0 ad cs pm) nc ns := by
  obtain ⟨o_1, H⟩ := H
  obtain ⟨o_2, H⟩ := H
  exact rl_callSX (As := [.int xs0]) (rest := []) mfX8_throwFor dX8_version_5 lkX8_66 ⟨rfl, by decide⟩ (by decide) (Nat.le_of_ble_eq_true rfl) o_1 o_2 rfl (Nat.le_of_ble_eq_true rfl) rfl rfl (fun Qc k kx => H Qc (fun h' w => k none h' w) kx)
theorem tX8_version_8 {n : Nat} {ad : Nat → Nat} {h0 : Hp} {cs : Nat → Nat → Int32} {pm : Nat → Nat → Nat} (L : Lay n ad h0) {Q : Nat → Option Value → Hp → Prop} {mc ms nc ns : Nat} {x1 x2 : Int32} (H : nc + 0 ≤ mc ∧ ns + 0 ≤ ms ∧ CKi mX8_siteFault 1 0 0 [some (.ref (ad (gEc))), some (.int x2)] (HN h0 ad cs pm) (fun v h' => Wm mX8_version 7 mc ms Q 13 [some (.ref (ad (gEc))), some (.int x1), some (.int x2)] [.int v] h' nc ns)) : Wm mX8_version 7 mc ms Q 8 [some (.ref (ad (gEc))), some (.int x1), some (.int x2)] [] (HN h0 ad cs pm) nc ns := by
  refine rl_aload_n dX8_version_8 rfl rfl ?_
  refine rl_iload_n dX8_version_9 rfl rfl ?_
  obtain ⟨o_1, H⟩ := H
  obtain ⟨o_2, H⟩ := H
  exact rl_callV (As := [.int x2]) (rest := []) mfX8_siteFault dX8_version_10 lkX8_157 (lEc L).K (by decide) (Nat.le_of_ble_eq_true rfl) o_1 o_2 rfl (Nat.le_of_ble_eq_true rfl) rfl rfl (fun Qc k => H Qc (fun v h' w => k (some (.int v)) h' w))
theorem tX8_version_13 {n : Nat} {ad : Nat → Nat} {h0 : Hp} {cs : Nat → Nat → Int32} {pm : Nat → Nat → Nat} (L : Lay n ad h0) {Q : Nat → Option Value → Hp → Prop} {mc ms nc ns : Nat} {mcn msn : Nat} {x1 x2 xs0 : Int32} (H : nc + mcn ≤ mc ∧ ns + msn ≤ ms ∧ CXv mX8_throwFor 6 mcn msn [some (.int xs0)] (HN h0 ad cs pm) (fun h' => Wm mX8_version 7 mc ms Q 16 [some (.ref (ad (gEc))), some (.int x1), some (.int x2)] [] h' (nc + mcn) (ns + msn)) (fun j h' => Q j none h')) : Wm mX8_version 7 mc ms Q 13 [some (.ref (ad (gEc))), some (.int x1), some (.int x2)] [.int xs0] (HN h0 ad cs pm) nc ns := by
  obtain ⟨o_1, H⟩ := H
  obtain ⟨o_2, H⟩ := H
  exact rl_callSX (As := [.int xs0]) (rest := []) mfX8_throwFor dX8_version_13 lkX8_66 ⟨rfl, by decide⟩ (by decide) (Nat.le_of_ble_eq_true rfl) o_1 o_2 rfl (Nat.le_of_ble_eq_true rfl) rfl rfl (fun Qc k kx => H Qc (fun h' w => k none h' w) kx)
theorem tX8_version_16 {n : Nat} {ad : Nat → Nat} {h0 : Hp} {cs : Nat → Nat → Int32} {pm : Nat → Nat → Nat} (L : Lay n ad h0) {Q : Nat → Option Value → Hp → Prop} {mc ms nc ns : Nat} {x1 x2 : Int32} (H : (∃ j_1 : Nat, x1 = nI j_1 ∧ j_1 < n ∧ (∃ j_4 : Nat, x2 = nI j_4 ∧ j_4 < n ∧ (nc ≤ mc ∧ ns ≤ ms ∧ Q 0 (some (.int (cs (gRc 0 j_1 j_4) 0))) (HN h0 ad cs pm))))) : Wm mX8_version 7 mc ms Q 16 [some (.ref (ad (gEc))), some (.int x1), some (.int x2)] [] (HN h0 ad cs pm) nc ns := by
  refine rl_aload_n dX8_version_16 rfl rfl ?_
  refine rt_getP (k := 1) cfX8 dX8_version_17 flX8_27 (by decide) rfl (lEc L) (rEc1 L) naEc ?_
  refine rt_getP (k := 7) cfX6 dX8_version_20 flX8_175 (by decide) rfl (lSt L (by decide)) (rStV L (by decide)) naSt ?_
  refine rl_iload_n dX8_version_23 rfl rfl ?_
  obtain ⟨j_1, e_2, b_3, H⟩ := H
  refine rt_aald (ci := 7) (j := j_1) dX8_version_24 rfl (lVa L (by decide)) e_2 b_3 (lay5 L) (rVa L (by decide) b_3) naVa ?_
  refine rt_getP (k := 0) cfX7 dX8_version_25 flX8_179 (by decide) rfl (lVw L ⟨(by decide), Or.inl b_3⟩) (rVw L ⟨(by decide), Or.inl b_3⟩) (naVw L ⟨(by decide), Or.inl b_3⟩) ?_
  refine rl_iload_n dX8_version_28 rfl rfl ?_
  obtain ⟨j_4, e_5, b_6, H⟩ := H
  refine rt_aald (ci := 5) (j := j_4) dX8_version_29 rfl (lRa L ⟨(by decide), Or.inl b_3⟩) e_5 b_6 (lay5 L) (rRa L ⟨(by decide), Or.inl b_3⟩ b_6) (naRa L ⟨(by decide), Or.inl b_3⟩) ?_
  refine rt_getI (k := 0) cfX5 dX8_version_30 flX8_191 (by decide) rfl (lRc L ⟨⟨(by decide), Or.inl b_3⟩, b_6⟩) nzRc ?_
  obtain ⟨o_7, H⟩ := H
  obtain ⟨o_8, H⟩ := H
  exact rl_iret dX8_version_33 rfl o_7 o_8 H
theorem tX8_copyTime_0 {n : Nat} {ad : Nat → Nat} {h0 : Hp} {cs : Nat → Nat → Int32} {pm : Nat → Nat → Nat} (L : Lay n ad h0) {Q : Nat → Option Value → Hp → Prop} {mc ms nc ns : Nat} {x1 x2 : Int32} (H : nc + 0 ≤ mc ∧ ns + 0 ≤ ms ∧ CKi mX8_siteFault 1 0 0 [some (.ref (ad (gEc))), some (.int x1)] (HN h0 ad cs pm) (fun v h' => Wm mX8_copyTime 7 mc ms Q 5 [some (.ref (ad (gEc))), some (.int x1), some (.int x2)] [.int v] h' nc ns)) : Wm mX8_copyTime 7 mc ms Q 0 [some (.ref (ad (gEc))), some (.int x1), some (.int x2)] [] (HN h0 ad cs pm) nc ns := by
  refine rl_aload_n dX8_copyTime_0 rfl rfl ?_
  refine rl_iload_n dX8_copyTime_1 rfl rfl ?_
  obtain ⟨o_1, H⟩ := H
  obtain ⟨o_2, H⟩ := H
  exact rl_callV (As := [.int x1]) (rest := []) mfX8_siteFault dX8_copyTime_2 lkX8_157 (lEc L).K (by decide) (Nat.le_of_ble_eq_true rfl) o_1 o_2 rfl (Nat.le_of_ble_eq_true rfl) rfl rfl (fun Qc k => H Qc (fun v h' w => k (some (.int v)) h' w))
theorem tX8_copyTime_5 {n : Nat} {ad : Nat → Nat} {h0 : Hp} {cs : Nat → Nat → Int32} {pm : Nat → Nat → Nat} (L : Lay n ad h0) {Q : Nat → Option Value → Hp → Prop} {mc ms nc ns : Nat} {mcn msn : Nat} {x1 x2 xs0 : Int32} (H : nc + mcn ≤ mc ∧ ns + msn ≤ ms ∧ CXv mX8_throwFor 6 mcn msn [some (.int xs0)] (HN h0 ad cs pm) (fun h' => Wm mX8_copyTime 7 mc ms Q 8 [some (.ref (ad (gEc))), some (.int x1), some (.int x2)] [] h' (nc + mcn) (ns + msn)) (fun j h' => Q j none h')) : Wm mX8_copyTime 7 mc ms Q 5 [some (.ref (ad (gEc))), some (.int x1), some (.int x2)] [.int xs0] (HN h0 ad cs pm) nc ns := by
  obtain ⟨o_1, H⟩ := H
  obtain ⟨o_2, H⟩ := H
  exact rl_callSX (As := [.int xs0]) (rest := []) mfX8_throwFor dX8_copyTime_5 lkX8_66 ⟨rfl, by decide⟩ (by decide) (Nat.le_of_ble_eq_true rfl) o_1 o_2 rfl (Nat.le_of_ble_eq_true rfl) rfl rfl (fun Qc k kx => H Qc (fun h' w => k none h' w) kx)
theorem tX8_copyTime_8 {n : Nat} {ad : Nat → Nat} {h0 : Hp} {cs : Nat → Nat → Int32} {pm : Nat → Nat → Nat} (L : Lay n ad h0) {Q : Nat → Option Value → Hp → Prop} {mc ms nc ns : Nat} {x1 x2 : Int32} (H : nc + 0 ≤ mc ∧ ns + 0 ≤ ms ∧ CKi mX8_siteFault 1 0 0 [some (.ref (ad (gEc))), some (.int x2)] (HN h0 ad cs pm) (fun v h' => Wm mX8_copyTime 7 mc ms Q 13 [some (.ref (ad (gEc))), some (.int x1), some (.int x2)] [.int v] h' nc ns)) : Wm mX8_copyTime 7 mc ms Q 8 [some (.ref (ad (gEc))), some (.int x1), some (.int x2)] [] (HN h0 ad cs pm) nc ns := by
  refine rl_aload_n dX8_copyTime_8 rfl rfl ?_
  refine rl_iload_n dX8_copyTime_9 rfl rfl ?_
  obtain ⟨o_1, H⟩ := H
  obtain ⟨o_2, H⟩ := H
  exact rl_callV (As := [.int x2]) (rest := []) mfX8_siteFault dX8_copyTime_10 lkX8_157 (lEc L).K (by decide) (Nat.le_of_ble_eq_true rfl) o_1 o_2 rfl (Nat.le_of_ble_eq_true rfl) rfl rfl (fun Qc k => H Qc (fun v h' w => k (some (.int v)) h' w))
theorem tX8_copyTime_13 {n : Nat} {ad : Nat → Nat} {h0 : Hp} {cs : Nat → Nat → Int32} {pm : Nat → Nat → Nat} (L : Lay n ad h0) {Q : Nat → Option Value → Hp → Prop} {mc ms nc ns : Nat} {mcn msn : Nat} {x1 x2 xs0 : Int32} (H : nc + mcn ≤ mc ∧ ns + msn ≤ ms ∧ CXv mX8_throwFor 6 mcn msn [some (.int xs0)] (HN h0 ad cs pm) (fun h' => Wm mX8_copyTime 7 mc ms Q 16 [some (.ref (ad (gEc))), some (.int x1), some (.int x2)] [] h' (nc + mcn) (ns + msn)) (fun j h' => Q j none h')) : Wm mX8_copyTime 7 mc ms Q 13 [some (.ref (ad (gEc))), some (.int x1), some (.int x2)] [.int xs0] (HN h0 ad cs pm) nc ns := by
  obtain ⟨o_1, H⟩ := H
  obtain ⟨o_2, H⟩ := H
  exact rl_callSX (As := [.int xs0]) (rest := []) mfX8_throwFor dX8_copyTime_13 lkX8_66 ⟨rfl, by decide⟩ (by decide) (Nat.le_of_ble_eq_true rfl) o_1 o_2 rfl (Nat.le_of_ble_eq_true rfl) rfl rfl (fun Qc k kx => H Qc (fun h' w => k none h' w) kx)
theorem tX8_copyTime_16 {n : Nat} {ad : Nat → Nat} {h0 : Hp} {cs : Nat → Nat → Int32} {pm : Nat → Nat → Nat} (L : Lay n ad h0) {Q : Nat → Option Value → Hp → Prop} {mc ms nc ns : Nat} {x1 x2 : Int32} (H : (∃ j_1 : Nat, x1 = nI j_1 ∧ j_1 < n ∧ (∃ j_4 : Nat, x2 = nI j_4 ∧ j_4 < n ∧ (nc ≤ mc ∧ ns ≤ ms ∧ Q 0 (some (.int (cs (gRc 0 j_1 j_4) 1))) (HN h0 ad cs pm))))) : Wm mX8_copyTime 7 mc ms Q 16 [some (.ref (ad (gEc))), some (.int x1), some (.int x2)] [] (HN h0 ad cs pm) nc ns := by
  refine rl_aload_n dX8_copyTime_16 rfl rfl ?_
  refine rt_getP (k := 1) cfX8 dX8_copyTime_17 flX8_27 (by decide) rfl (lEc L) (rEc1 L) naEc ?_
  refine rt_getP (k := 7) cfX6 dX8_copyTime_20 flX8_175 (by decide) rfl (lSt L (by decide)) (rStV L (by decide)) naSt ?_
  refine rl_iload_n dX8_copyTime_23 rfl rfl ?_
  obtain ⟨j_1, e_2, b_3, H⟩ := H
  refine rt_aald (ci := 7) (j := j_1) dX8_copyTime_24 rfl (lVa L (by decide)) e_2 b_3 (lay5 L) (rVa L (by decide) b_3) naVa ?_
  refine rt_getP (k := 0) cfX7 dX8_copyTime_25 flX8_179 (by decide) rfl (lVw L ⟨(by decide), Or.inl b_3⟩) (rVw L ⟨(by decide), Or.inl b_3⟩) (naVw L ⟨(by decide), Or.inl b_3⟩) ?_
  refine rl_iload_n dX8_copyTime_28 rfl rfl ?_
  obtain ⟨j_4, e_5, b_6, H⟩ := H
  refine rt_aald (ci := 5) (j := j_4) dX8_copyTime_29 rfl (lRa L ⟨(by decide), Or.inl b_3⟩) e_5 b_6 (lay5 L) (rRa L ⟨(by decide), Or.inl b_3⟩ b_6) (naRa L ⟨(by decide), Or.inl b_3⟩) ?_
  refine rt_getI (k := 1) cfX5 dX8_copyTime_30 flX8_194 (by decide) rfl (lRc L ⟨⟨(by decide), Or.inl b_3⟩, b_6⟩) nzRc ?_
  obtain ⟨o_7, H⟩ := H
  obtain ⟨o_8, H⟩ := H
  exact rl_iret dX8_copyTime_33 rfl o_7 o_8 H
theorem tX8_loan_0 {n : Nat} {ad : Nat → Nat} {h0 : Hp} {cs : Nat → Nat → Int32} {pm : Nat → Nat → Nat} (L : Lay n ad h0) {Q : Nat → Option Value → Hp → Prop} {mc ms nc ns : Nat} {x1 x2 : Int32} (H : ((x1 < 0 → Wm mX8_loan 6 mc ms Q 25 [none, none, none] [] (HN h0 ad cs pm) nc ns) ∧ (¬ x1 < 0 → (((cs (gSt 0) 5) ≤ x1 → Wm mX8_loan 6 mc ms Q 25 [none, none, none] [] (HN h0 ad cs pm) nc ns) ∧ (¬ (cs (gSt 0) 5) ≤ x1 → ((x2 < 0 → Wm mX8_loan 6 mc ms Q 25 [none, none, none] [] (HN h0 ad cs pm) nc ns) ∧ (¬ x2 < 0 → ((x2 < (nI 8) → nc + 0 ≤ mc ∧ ns + 0 ≤ ms ∧ CKi mX6_loanFact 2 0 0 [some (.ref (ad (gSt 0))), some (.int x1), some (.int x2), none] (HN h0 ad cs pm) (fun v h' => Wm mX8_loan 6 mc ms Q 44 [none, none, none] [.int v] h' nc ns)) ∧ (¬ x2 < (nI 8) → Wm mX8_loan 6 mc ms Q 25 [none, none, none] [] (HN h0 ad cs pm) nc ns))))))))) : Wm mX8_loan 6 mc ms Q 0 [some (.ref (ad (gEc))), some (.int x1), some (.int x2)] [] (HN h0 ad cs pm) nc ns := by
  refine rl_iload_n dX8_loan_0 rfl rfl ?_
  refine rl_if_lt (tgt := 25) dX8_loan_1 (by decide) (fun c_1 => ?_) (fun c_1 => ?_)
  · have H := H.1 c_1
    refine rl_wk (L' := [none, none, none]) trivial ?_
    exact H
  · have H := H.2 c_1
    refine rl_iload_n dX8_loan_4 rfl rfl ?_
    refine rl_aload_n dX8_loan_5 rfl rfl ?_
    refine rt_getP (k := 1) cfX8 dX8_loan_6 flX8_27 (by decide) rfl (lEc L) (rEc1 L) naEc ?_
    refine rt_getI (k := 5) cfX6 dX8_loan_9 flX8_195 (by decide) rfl (lSt L (by decide)) nzSt ?_
    refine rl_icmp_ge (tgt := 25) dX8_loan_12 (by decide) (fun c_2 => ?_) (fun c_2 => ?_)
    · have H := H.1 c_2
      refine rl_wk (L' := [none, none, none]) trivial ?_
      exact H
    · have H := H.2 c_2
      refine rl_iload_n dX8_loan_15 rfl rfl ?_
      refine rl_if_lt (tgt := 25) dX8_loan_16 (by decide) (fun c_3 => ?_) (fun c_3 => ?_)
      · have H := H.1 c_3
        refine rl_wk (L' := [none, none, none]) trivial ?_
        exact H
      · have H := H.2 c_3
        refine rl_iload_n dX8_loan_19 rfl rfl ?_
        refine rl_bipush (v := nI 8) dX8_loan_20 (by decide) ?_
        refine rl_icmp_lt (tgt := 35) dX8_loan_22 (by decide) (fun c_4 => ?_) (fun c_4 => ?_)
        · have H := H.1 c_4
          refine rl_aload_n dX8_loan_35 rfl rfl ?_
          refine rt_getP (k := 1) cfX8 dX8_loan_36 flX8_27 (by decide) rfl (lEc L) (rEc1 L) naEc ?_
          refine rl_iload_n dX8_loan_39 rfl rfl ?_
          refine rl_iload_n dX8_loan_40 rfl rfl ?_
          obtain ⟨o_5, H⟩ := H
          obtain ⟨o_6, H⟩ := H
          exact rl_callV (As := [.int x1, .int x2]) (rest := []) mfX6_loanFact dX8_loan_41 lkX8_200 (lSt L (by decide)).K (by decide) (Nat.le_of_ble_eq_true rfl) o_5 o_6 rfl (Nat.le_of_ble_eq_true rfl) rfl rfl (fun Qc k => H Qc (fun v h' w => k (some (.int v)) h' (rl_wk (L' := [none, none, none]) trivial w)))
        · have H := H.2 c_4
          refine rl_wk (L' := [none, none, none]) trivial ?_
          exact H
theorem tX8_loan_25 {n : Nat} {ad : Nat → Nat} {h0 : Hp} {cs : Nat → Nat → Int32} {pm : Nat → Nat → Nat} (L : Lay n ad h0) {Q : Nat → Option Value → Hp → Prop} {mc ms nc ns : Nat}  (H : nc + 1 ≤ mc ∧ ns + 6 ≤ ms ∧ (∀ z : Nat, hpZ h0 ≤ z → Q 1 none (HN (stZ h0 z) ad cs pm))) : Wm mX8_loan 6 mc ms Q 25 [none, none, none] [] (HN h0 ad cs pm) nc ns := by
  obtain ⟨o_1, H⟩ := H
  obtain ⟨o_2, H⟩ := H
  exact rl_throw 1 dX8_loan_25 dX8_loan_28 dX8_loan_29 dX8_loan_31 dX8_loan_34 clX8_143 thX8_147 (by decide) (List.mem_of_getElem? (i := 7) rfl) ⟨rfl, by decide⟩ (by decide) o_1 o_2 H
theorem tX8_loan_44 {n : Nat} {ad : Nat → Nat} {h0 : Hp} {cs : Nat → Nat → Int32} {pm : Nat → Nat → Nat} (L : Lay n ad h0) {Q : Nat → Option Value → Hp → Prop} {mc ms nc ns : Nat} {xs0 : Int32} (H : nc ≤ mc ∧ ns ≤ ms ∧ Q 0 (some (.int xs0)) (HN h0 ad cs pm)) : Wm mX8_loan 6 mc ms Q 44 [none, none, none] [.int xs0] (HN h0 ad cs pm) nc ns := by
  obtain ⟨o_1, H⟩ := H
  obtain ⟨o_2, H⟩ := H
  exact rl_iret dX8_loan_44 rfl o_1 o_2 H
theorem tX8_helpers_0 {n : Nat} {ad : Nat → Nat} {h0 : Hp} {cs : Nat → Nat → Int32} {pm : Nat → Nat → Nat} (L : Lay n ad h0) {Q : Nat → Option Value → Hp → Prop} {mc ms nc ns : Nat} {x1 x2 x3 : Int32} (H : nc + 0 ≤ mc ∧ ns + 0 ≤ ms ∧ CKi mX8_siteAndKindFault 1 0 0 [some (.ref (ad (gEc))), some (.int x1), some (.int x2)] (HN h0 ad cs pm) (fun v h' => Wm mX8_helpers 7 mc ms Q 6 [some (.ref (ad (gEc))), some (.int x1), some (.int x2), some (.int x3)] [.int v] h' nc ns)) : Wm mX8_helpers 7 mc ms Q 0 [some (.ref (ad (gEc))), some (.int x1), some (.int x2), some (.int x3)] [] (HN h0 ad cs pm) nc ns := by
  refine rl_aload_n dX8_helpers_0 rfl rfl ?_
  refine rl_iload_n dX8_helpers_1 rfl rfl ?_
  refine rl_iload_n dX8_helpers_2 rfl rfl ?_
  obtain ⟨o_1, H⟩ := H
  obtain ⟨o_2, H⟩ := H
  exact rl_callV (As := [.int x1, .int x2]) (rest := []) mfX8_siteAndKindFault dX8_helpers_3 lkX8_95 (lEc L).K (by decide) (Nat.le_of_ble_eq_true rfl) o_1 o_2 rfl (Nat.le_of_ble_eq_true rfl) rfl rfl (fun Qc k => H Qc (fun v h' w => k (some (.int v)) h' w))
theorem tX8_helpers_6 {n : Nat} {ad : Nat → Nat} {h0 : Hp} {cs : Nat → Nat → Int32} {pm : Nat → Nat → Nat} (L : Lay n ad h0) {Q : Nat → Option Value → Hp → Prop} {mc ms nc ns : Nat} {mcn msn : Nat} {x1 x2 x3 xs0 : Int32} (H : nc + mcn ≤ mc ∧ ns + msn ≤ ms ∧ CXv mX8_throwFor 6 mcn msn [some (.int xs0)] (HN h0 ad cs pm) (fun h' => Wm mX8_helpers 7 mc ms Q 9 [some (.ref (ad (gEc))), some (.int x1), some (.int x2), some (.int x3)] [] h' (nc + mcn) (ns + msn)) (fun j h' => Q j none h')) : Wm mX8_helpers 7 mc ms Q 6 [some (.ref (ad (gEc))), some (.int x1), some (.int x2), some (.int x3)] [.int xs0] (HN h0 ad cs pm) nc ns := by
  obtain ⟨o_1, H⟩ := H
  obtain ⟨o_2, H⟩ := H
  exact rl_callSX (As := [.int xs0]) (rest := []) mfX8_throwFor dX8_helpers_6 lkX8_66 ⟨rfl, by decide⟩ (by decide) (Nat.le_of_ble_eq_true rfl) o_1 o_2 rfl (Nat.le_of_ble_eq_true rfl) rfl rfl (fun Qc k kx => H Qc (fun h' w => k none h' w) kx)
theorem tX8_helpers_9 {n : Nat} {ad : Nat → Nat} {h0 : Hp} {cs : Nat → Nat → Int32} {pm : Nat → Nat → Nat} (L : Lay n ad h0) {Q : Nat → Option Value → Hp → Prop} {mc ms nc ns : Nat} {x1 x2 x3 : Int32} (H : ((x3 < 0 → Wm mX8_helpers 7 mc ms Q 20 [none, none, none, none] [] (HN h0 ad cs pm) nc ns) ∧ (¬ x3 < 0 → ((x3 ≤ (nI 30000) → nc + 0 ≤ mc ∧ ns + 0 ≤ ms ∧ CKi mX6_fewestHelpers 4 0 0 [some (.ref (ad (gSt 0))), some (.int x1), some (.int x2), some (.int x3), none, none, none, none] (HN h0 ad cs pm) (fun v h' => Wm mX8_helpers 7 mc ms Q 40 [none, none, none, none] [.int v] h' nc ns)) ∧ (¬ x3 ≤ (nI 30000) → Wm mX8_helpers 7 mc ms Q 20 [none, none, none, none] [] (HN h0 ad cs pm) nc ns))))) : Wm mX8_helpers 7 mc ms Q 9 [some (.ref (ad (gEc))), some (.int x1), some (.int x2), some (.int x3)] [] (HN h0 ad cs pm) nc ns := by
  refine rl_iload_n dX8_helpers_9 rfl rfl ?_
  refine rl_if_lt (tgt := 20) dX8_helpers_10 (by decide) (fun c_1 => ?_) (fun c_1 => ?_)
  · have H := H.1 c_1
    refine rl_wk (L' := [none, none, none, none]) trivial ?_
    exact H
  · have H := H.2 c_1
    refine rl_iload_n dX8_helpers_13 rfl rfl ?_
    refine rl_sipush (v := nI 30000) dX8_helpers_14 (by decide) ?_
    refine rl_icmp_le (tgt := 30) dX8_helpers_17 (by decide) (fun c_2 => ?_) (fun c_2 => ?_)
    · have H := H.1 c_2
      refine rl_aload_n dX8_helpers_30 rfl rfl ?_
      refine rt_getP (k := 1) cfX8 dX8_helpers_31 flX8_27 (by decide) rfl (lEc L) (rEc1 L) naEc ?_
      refine rl_iload_n dX8_helpers_34 rfl rfl ?_
      refine rl_iload_n dX8_helpers_35 rfl rfl ?_
      refine rl_iload_n dX8_helpers_36 rfl rfl ?_
      obtain ⟨o_3, H⟩ := H
      obtain ⟨o_4, H⟩ := H
      exact rl_callV (As := [.int x1, .int x2, .int x3]) (rest := []) mfX6_fewestHelpers dX8_helpers_37 lkX8_205 (lSt L (by decide)).K (by decide) (Nat.le_of_ble_eq_true rfl) o_3 o_4 rfl (Nat.le_of_ble_eq_true rfl) rfl rfl (fun Qc k => H Qc (fun v h' w => k (some (.int v)) h' (rl_wk (L' := [none, none, none, none]) trivial w)))
    · have H := H.2 c_2
      refine rl_wk (L' := [none, none, none, none]) trivial ?_
      exact H
theorem tX8_helpers_20 {n : Nat} {ad : Nat → Nat} {h0 : Hp} {cs : Nat → Nat → Int32} {pm : Nat → Nat → Nat} (L : Lay n ad h0) {Q : Nat → Option Value → Hp → Prop} {mc ms nc ns : Nat}  (H : nc + 1 ≤ mc ∧ ns + 6 ≤ ms ∧ (∀ z : Nat, hpZ h0 ≤ z → Q 2 none (HN (stZ h0 z) ad cs pm))) : Wm mX8_helpers 7 mc ms Q 20 [none, none, none, none] [] (HN h0 ad cs pm) nc ns := by
  obtain ⟨o_1, H⟩ := H
  obtain ⟨o_2, H⟩ := H
  exact rl_throw 2 dX8_helpers_20 dX8_helpers_23 dX8_helpers_24 dX8_helpers_26 dX8_helpers_29 clX8_49 thX8_53 (by decide) (List.mem_of_getElem? (i := 8) rfl) ⟨rfl, by decide⟩ (by decide) o_1 o_2 H
theorem tX8_helpers_40 {n : Nat} {ad : Nat → Nat} {h0 : Hp} {cs : Nat → Nat → Int32} {pm : Nat → Nat → Nat} (L : Lay n ad h0) {Q : Nat → Option Value → Hp → Prop} {mc ms nc ns : Nat} {xs0 : Int32} (H : nc ≤ mc ∧ ns ≤ ms ∧ Q 0 (some (.int xs0)) (HN h0 ad cs pm)) : Wm mX8_helpers 7 mc ms Q 40 [none, none, none, none] [.int xs0] (HN h0 ad cs pm) nc ns := by
  obtain ⟨o_1, H⟩ := H
  obtain ⟨o_2, H⟩ := H
  exact rl_iret dX8_helpers_40 rfl o_1 o_2 H
theorem tX8_type_0 {n : Nat} {ad : Nat → Nat} {h0 : Hp} {cs : Nat → Nat → Int32} {pm : Nat → Nat → Nat} (L : Lay n ad h0) {Q : Nat → Option Value → Hp → Prop} {mc ms nc ns : Nat} {x1 : Int32} (H : ((x1 < (nI 32) → Wm mX8_type 6 mc ms Q 12 [none, none] [] (HN h0 ad cs pm) nc ns) ∧ (¬ x1 < (nI 32) → ((x1 ≤ (nI 126) → (((cs (gSc) 2) < (nI 60) → nc + 0 ≤ mc ∧ ns + 0 ≤ ms ∧ CKv mX4_append 0 0 0 [some (.ref (ad (gSc))), some (.int x1)] (HN h0 ad cs pm) (fun h' => Wm mX8_type 6 mc ms Q 52 [some (.ref (ad (gEc))), none] [] h' nc ns)) ∧ (¬ (cs (gSc) 2) < (nI 60) → nc + 1 ≤ mc ∧ ns + 6 ≤ ms ∧ (∀ z : Nat, hpZ h0 ≤ z → Q 3 none (HN (stZ h0 z) ad cs pm))))) ∧ (¬ x1 ≤ (nI 126) → Wm mX8_type 6 mc ms Q 12 [none, none] [] (HN h0 ad cs pm) nc ns))))) : Wm mX8_type 6 mc ms Q 0 [some (.ref (ad (gEc))), some (.int x1)] [] (HN h0 ad cs pm) nc ns := by
  refine rl_iload_n dX8_type_0 rfl rfl ?_
  refine rl_bipush (v := nI 32) dX8_type_1 (by decide) ?_
  refine rl_icmp_lt (tgt := 12) dX8_type_3 (by decide) (fun c_1 => ?_) (fun c_1 => ?_)
  · have H := H.1 c_1
    refine rl_wk (L' := [none, none]) trivial ?_
    exact H
  · have H := H.2 c_1
    refine rl_iload_n dX8_type_6 rfl rfl ?_
    refine rl_bipush (v := nI 126) dX8_type_7 (by decide) ?_
    refine rl_icmp_le (tgt := 22) dX8_type_9 (by decide) (fun c_2 => ?_) (fun c_2 => ?_)
    · have H := H.1 c_2
      refine rl_aload_n dX8_type_22 rfl rfl ?_
      refine rt_getP (k := 3) cfX8 dX8_type_23 flX8_41 (by decide) rfl (lEc L) (rEc3 L) naEc ?_
      refine rt_getI (k := 2) cfX4 dX8_type_26 flX8_211 (by decide) rfl (lSc L) nzSc ?_
      refine rl_bipush (v := nI 60) dX8_type_29 (by decide) ?_
      refine rl_icmp_lt (tgt := 44) dX8_type_31 (by decide) (fun c_3 => ?_) (fun c_3 => ?_)
      · have H := H.1 c_3
        refine rl_aload_n dX8_type_44 rfl rfl ?_
        refine rt_getP (k := 3) cfX8 dX8_type_45 flX8_41 (by decide) rfl (lEc L) (rEc3 L) naEc ?_
        refine rl_iload_n dX8_type_48 rfl rfl ?_
        obtain ⟨o_4, H⟩ := H
        obtain ⟨o_5, H⟩ := H
        exact rl_callV (As := [.int x1]) (rest := []) mfX4_append dX8_type_49 lkX8_216 (lSc L).K (by decide) (Nat.le_of_ble_eq_true rfl) o_4 o_5 rfl (Nat.le_of_ble_eq_true rfl) rfl rfl (fun Qc k => H Qc (fun h' w => k none h' (rl_wk (L' := [some (.ref (ad (gEc))), none]) ⟨rfl, trivial⟩ w)))
      · have H := H.2 c_3
        obtain ⟨o_6, H⟩ := H
        obtain ⟨o_7, H⟩ := H
        exact rl_throw 3 dX8_type_34 dX8_type_37 dX8_type_38 dX8_type_40 dX8_type_43 clX8_135 thX8_139 (by decide) (List.mem_of_getElem? (i := 10) rfl) ⟨rfl, by decide⟩ (by decide) o_6 o_7 H
    · have H := H.2 c_2
      refine rl_wk (L' := [none, none]) trivial ?_
      exact H
theorem tX8_type_12 {n : Nat} {ad : Nat → Nat} {h0 : Hp} {cs : Nat → Nat → Int32} {pm : Nat → Nat → Nat} (L : Lay n ad h0) {Q : Nat → Option Value → Hp → Prop} {mc ms nc ns : Nat}  (H : nc + 1 ≤ mc ∧ ns + 6 ≤ ms ∧ (∀ z : Nat, hpZ h0 ≤ z → Q 2 none (HN (stZ h0 z) ad cs pm))) : Wm mX8_type 6 mc ms Q 12 [none, none] [] (HN h0 ad cs pm) nc ns := by
  obtain ⟨o_1, H⟩ := H
  obtain ⟨o_2, H⟩ := H
  exact rl_throw 2 dX8_type_12 dX8_type_15 dX8_type_16 dX8_type_18 dX8_type_21 clX8_49 thX8_53 (by decide) (List.mem_of_getElem? (i := 9) rfl) ⟨rfl, by decide⟩ (by decide) o_1 o_2 H
theorem tX8_type_52 {n : Nat} {ad : Nat → Nat} {h0 : Hp} {cs : Nat → Nat → Int32} {pm : Nat → Nat → Nat} (L : Lay n ad h0) {Q : Nat → Option Value → Hp → Prop} {mc ms nc ns : Nat}  (H : nc ≤ mc ∧ ns ≤ ms ∧ Q 0 (some (.int (cs (gSc) 2))) (HN h0 ad cs pm)) : Wm mX8_type 6 mc ms Q 52 [some (.ref (ad (gEc))), none] [] (HN h0 ad cs pm) nc ns := by
  refine rl_aload_n dX8_type_52 rfl rfl ?_
  refine rt_getP (k := 3) cfX8 dX8_type_53 flX8_41 (by decide) rfl (lEc L) (rEc3 L) naEc ?_
  refine rt_getI (k := 2) cfX4 dX8_type_56 flX8_211 (by decide) rfl (lSc L) nzSc ?_
  obtain ⟨o_1, H⟩ := H
  obtain ⟨o_2, H⟩ := H
  exact rl_iret dX8_type_59 rfl o_1 o_2 H
theorem tX8_undo_0 {n : Nat} {ad : Nat → Nat} {h0 : Hp} {cs : Nat → Nat → Int32} {pm : Nat → Nat → Nat} (L : Lay n ad h0) {Q : Nat → Option Value → Hp → Prop} {mc ms nc ns : Nat}  (H : ((¬ (cs (gHi) 2) = 0 → nc + 0 ≤ mc ∧ ns + 0 ≤ ms ∧ CKv mX1_bringBackLatest 5 0 0 [some (.ref (ad (gHi))), some (.ref (ad (gSt 0)))] (HN h0 ad cs pm) (fun h' => Wm mX8_undo 6 mc ms Q 31 [some (.ref (ad (gEc)))] [] h' nc ns)) ∧ ((cs (gHi) 2) = 0 → nc + 1 ≤ mc ∧ ns + 6 ≤ ms ∧ (∀ z : Nat, hpZ h0 ≤ z → Q 3 none (HN (stZ h0 z) ad cs pm))))) : Wm mX8_undo 6 mc ms Q 0 [some (.ref (ad (gEc)))] [] (HN h0 ad cs pm) nc ns := by
  refine rl_aload_n dX8_undo_0 rfl rfl ?_
  refine rt_getP (k := 2) cfX8 dX8_undo_1 flX8_34 (by decide) rfl (lEc L) (rEc2 L) naEc ?_
  refine rt_getI (k := 2) cfX1 dX8_undo_4 flX8_236 (by decide) rfl (lHi L) nzHi ?_
  refine rl_if_ne (tgt := 20) dX8_undo_7 (by decide) (fun c_1 => ?_) (fun c_1 => ?_)
  · have H := H.1 c_1
    refine rl_aload_n dX8_undo_20 rfl rfl ?_
    refine rt_getP (k := 2) cfX8 dX8_undo_21 flX8_34 (by decide) rfl (lEc L) (rEc2 L) naEc ?_
    refine rl_aload_n dX8_undo_24 rfl rfl ?_
    refine rt_getP (k := 1) cfX8 dX8_undo_25 flX8_27 (by decide) rfl (lEc L) (rEc1 L) naEc ?_
    obtain ⟨o_2, H⟩ := H
    obtain ⟨o_3, H⟩ := H
    exact rl_callV (As := [.ref (ad (gSt 0))]) (rest := []) mfX1_bringBackLatest dX8_undo_28 lkX8_239 (lHi L).K (by decide) (Nat.le_of_ble_eq_true rfl) o_2 o_3 rfl (Nat.le_of_ble_eq_true rfl) rfl rfl (fun Qc k => H Qc (fun h' w => k none h' w))
  · have H := H.2 c_1
    obtain ⟨o_4, H⟩ := H
    obtain ⟨o_5, H⟩ := H
    exact rl_throw 3 dX8_undo_10 dX8_undo_13 dX8_undo_14 dX8_undo_16 dX8_undo_19 clX8_135 thX8_139 (by decide) (List.mem_of_getElem? (i := 11) rfl) ⟨rfl, by decide⟩ (by decide) o_4 o_5 H
theorem tX8_undo_31 {n : Nat} {ad : Nat → Nat} {h0 : Hp} {cs : Nat → Nat → Int32} {pm : Nat → Nat → Nat} (L : Lay n ad h0) {Q : Nat → Option Value → Hp → Prop} {mc ms nc ns : Nat}  (H : nc ≤ mc ∧ ns ≤ ms ∧ Q 0 (some (.int (cs (gHi) 2))) (HN h0 ad cs pm)) : Wm mX8_undo 6 mc ms Q 31 [some (.ref (ad (gEc)))] [] (HN h0 ad cs pm) nc ns := by
  refine rl_aload_n dX8_undo_31 rfl rfl ?_
  refine rt_getP (k := 2) cfX8 dX8_undo_32 flX8_34 (by decide) rfl (lEc L) (rEc2 L) naEc ?_
  refine rt_getI (k := 2) cfX1 dX8_undo_35 flX8_236 (by decide) rfl (lHi L) nzHi ?_
  obtain ⟨o_1, H⟩ := H
  obtain ⟨o_2, H⟩ := H
  exact rl_iret dX8_undo_38 rfl o_1 o_2 H
