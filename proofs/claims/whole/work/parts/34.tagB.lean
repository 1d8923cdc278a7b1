theorem tX6_beginAnew_0 {n : Nat} {ad : Nat → Nat} {h0 : Hp} {cs : Nat → Nat → Int32} {pm : Nat → Nat → Nat} (L : Lay n ad h0) {Q : Nat → Option Value → Hp → Prop} {k0 : Nat} {x1 x2 x3 : Int32} (H : k0 < 7 ∧ Wm mX6_beginAnew 2 0 0 Q 33 [some (.ref (ad (gSt k0))), none, none, none, some (.int (nI 0))] [] (HN h0 ad (up2 (up2 (up2 (up2 (up2 (up2 cs (gSt k0) 1 x1) (gSt k0) 2 x2) (gSt k0) 3 x3) (gSt k0) 4 (nI 0)) (gSt k0) 5 (nI 0)) (gSt k0) 6 (nI 0)) pm) 0 0) : Wm mX6_beginAnew 2 0 0 Q 0 [some (.ref (ad (gSt k0))), some (.int x1), some (.int x2), some (.int x3), none] [] (HN h0 ad cs pm) 0 0 := by
  refine rl_aload_n dX6_beginAnew_0 rfl rfl ?_
  refine rl_iload_n dX6_beginAnew_1 rfl rfl ?_
  obtain ⟨o_1, H⟩ := H
  refine rt_putI (k := 1) L.2.1 cfX6 dX6_beginAnew_2 flX6_38 (by decide) rfl (lSt L o_1) nzSt (Or.inl rfl) ?_
  refine rl_aload_n dX6_beginAnew_5 rfl rfl ?_
  refine rl_iload_n dX6_beginAnew_6 rfl rfl ?_
  refine rt_putI (k := 2) L.2.1 cfX6 dX6_beginAnew_7 flX6_41 (by decide) rfl (lSt L o_1) nzSt (Or.inl rfl) ?_
  refine rl_aload_n dX6_beginAnew_10 rfl rfl ?_
  refine rl_iload_n dX6_beginAnew_11 rfl rfl ?_
  refine rt_putI (k := 3) L.2.1 cfX6 dX6_beginAnew_12 flX6_44 (by decide) rfl (lSt L o_1) nzSt (Or.inl rfl) ?_
  refine rl_aload_n dX6_beginAnew_15 rfl rfl ?_
  refine rl_iconst (v := nI 0) dX6_beginAnew_16 (by decide) ?_
  refine rt_putI (k := 4) L.2.1 cfX6 dX6_beginAnew_17 flX6_47 (by decide) rfl (lSt L o_1) nzSt (Or.inl rfl) ?_
  refine rl_aload_n dX6_beginAnew_20 rfl rfl ?_
  refine rl_iconst (v := nI 0) dX6_beginAnew_21 (by decide) ?_
  refine rt_putI (k := 5) L.2.1 cfX6 dX6_beginAnew_22 flX6_50 (by decide) rfl (lSt L o_1) nzSt (Or.inl rfl) ?_
  refine rl_aload_n dX6_beginAnew_25 rfl rfl ?_
  refine rl_iconst (v := nI 0) dX6_beginAnew_26 (by decide) ?_
  refine rt_putI (k := 6) L.2.1 cfX6 dX6_beginAnew_27 flX6_53 (by decide) rfl (lSt L o_1) nzSt (Or.inl rfl) ?_
  refine rl_iconst (v := nI 0) dX6_beginAnew_30 (by decide) ?_
  refine rl_istore (L' := [some (.ref (ad (gSt k0))), some (.int x1), some (.int x2), some (.int x3), some (.int (nI 0))]) dX6_beginAnew_31 (Nat.le_of_ble_eq_true rfl) rfl ?_
  refine rl_wk (L' := [some (.ref (ad (gSt k0))), none, none, none, some (.int (nI 0))]) ⟨rfl, ⟨rfl, trivial⟩⟩ ?_
  exact H
theorem tX6_beginAnew_33 {n : Nat} {ad : Nat → Nat} {h0 : Hp} {cs : Nat → Nat → Int32} {pm : Nat → Nat → Nat} (L : Lay n ad h0) {Q : Nat → Option Value → Hp → Prop} {k0 : Nat} {x4 : Int32} (H : k0 < 7 ∧ (((cs (gSt k0) 0) ≤ x4 → Q 0 none (HN h0 ad cs pm)) ∧ (¬ (cs (gSt k0) 0) ≤ x4 → (∃ j_3 : Nat, x4 = nI j_3 ∧ j_3 < n ∧ (CKv mX7_clear 1 0 0 [some (.ref (ad (gVw k0 j_3))), none] (HN h0 ad cs pm) (fun h' => Wm mX6_beginAnew 2 0 0 Q 52 [some (.ref (ad (gSt k0))), none, none, none, some (.int x4)] [] h' 0 0)))))) : Wm mX6_beginAnew 2 0 0 Q 33 [some (.ref (ad (gSt k0))), none, none, none, some (.int x4)] [] (HN h0 ad cs pm) 0 0 := by
  refine rl_iload dX6_beginAnew_33 rfl ?_
  refine rl_aload_n dX6_beginAnew_35 rfl rfl ?_
  obtain ⟨o_1, H⟩ := H
  refine rt_getI (k := 0) cfX6 dX6_beginAnew_36 flX6_23 (by decide) rfl (lSt L o_1) nzSt ?_
  refine rl_icmp_ge (tgt := 58) dX6_beginAnew_39 (by decide) (fun c_2 => ?_) (fun c_2 => ?_)
  · have H := H.1 c_2
    exact rl_vret dX6_beginAnew_58 rfl (Nat.le_refl 0) (Nat.le_refl 0) H
  · have H := H.2 c_2
    refine rl_aload_n dX6_beginAnew_42 rfl rfl ?_
    refine rt_getP (k := 7) cfX6 dX6_beginAnew_43 flX6_29 (by decide) rfl (lSt L o_1) (rStV L o_1) naSt ?_
    refine rl_iload dX6_beginAnew_46 rfl ?_
    obtain ⟨j_3, e_4, b_5, H⟩ := H
    refine rt_aald (ci := 7) (j := j_3) dX6_beginAnew_48 rfl (lVa L o_1) e_4 b_5 (lay5 L) (rVa L o_1 b_5) naVa ?_
    exact rl_callV (As := []) (rest := []) mfX7_clear dX6_beginAnew_49 lkX6_56 (lVw L ⟨o_1, Or.inl b_5⟩).K (by decide) (Nat.le_of_ble_eq_true rfl) (Nat.le_refl _) (Nat.le_refl _) rfl (Nat.le_of_ble_eq_true rfl) rfl rfl (fun Qc k => H Qc (fun h' w => k none h' w))
theorem tX6_beginAnew_52 {n : Nat} {ad : Nat → Nat} {h0 : Hp} {cs : Nat → Nat → Int32} {pm : Nat → Nat → Nat} (L : Lay n ad h0) {Q : Nat → Option Value → Hp → Prop} {k0 : Nat} {x4 : Int32} (H : Wm mX6_beginAnew 2 0 0 Q 33 [some (.ref (ad (gSt k0))), none, none, none, some (.int (x4 + nI 1))] [] (HN h0 ad cs pm) 0 0) : Wm mX6_beginAnew 2 0 0 Q 52 [some (.ref (ad (gSt k0))), none, none, none, some (.int x4)] [] (HN h0 ad cs pm) 0 0 := by
  refine rl_iinc (v := x4 + nI 1) (L' := [some (.ref (ad (gSt k0))), none, none, none, some (.int (x4 + nI 1))]) dX6_beginAnew_52 rfl (congrArg (fun z => x4 + z) (by decide)) (Nat.le_of_ble_eq_true rfl) rfl ?_
  refine rl_goto (tgt := 33) dX6_beginAnew_55 (by decide) ?_
  exact H
theorem tX6_trueValue_0 {n : Nat} {ad : Nat → Nat} {h0 : Hp} {cs : Nat → Nat → Int32} {pm : Nat → Nat → Nat} (L : Lay n ad h0) {Q : Nat → Option Value → Hp → Prop} {k0 : Nat} (H : k0 < 7 ∧ Wm mX6_trueValue 1 0 0 Q 7 [some (.ref (ad (gSt k0))), some (.int (cs (gSt k0) 3)), some (.int (nI 0)), none] [] (HN h0 ad cs pm) 0 0) : Wm mX6_trueValue 1 0 0 Q 0 [some (.ref (ad (gSt k0))), none, none, none] [] (HN h0 ad cs pm) 0 0 := by
  refine rl_aload_n dX6_trueValue_0 rfl rfl ?_
  obtain ⟨o_1, H⟩ := H
  refine rt_getI (k := 3) cfX6 dX6_trueValue_1 flX6_44 (by decide) rfl (lSt L o_1) nzSt ?_
  refine rl_istore_n (L' := [some (.ref (ad (gSt k0))), some (.int (cs (gSt k0) 3)), none, none]) dX6_trueValue_4 rfl (Nat.le_of_ble_eq_true rfl) rfl ?_
  refine rl_iconst (v := nI 0) dX6_trueValue_5 (by decide) ?_
  refine rl_istore_n (L' := [some (.ref (ad (gSt k0))), some (.int (cs (gSt k0) 3)), some (.int (nI 0)), none]) dX6_trueValue_6 rfl (Nat.le_of_ble_eq_true rfl) rfl ?_
  exact H
theorem tX6_trueValue_7 {n : Nat} {ad : Nat → Nat} {h0 : Hp} {cs : Nat → Nat → Int32} {pm : Nat → Nat → Nat} (L : Lay n ad h0) {Q : Nat → Option Value → Hp → Prop} {k0 : Nat} {x1 x2 : Int32} (H : k0 < 7 ∧ (((cs (gSt k0) 0) ≤ x2 → Q 0 (some (.int x1)) (HN h0 ad cs pm)) ∧ (¬ (cs (gSt k0) 0) ≤ x2 → CKr mX6_recordOf 0 0 0 [some (.ref (ad (gSt k0))), some (.int x2)] (HN h0 ad cs pm) (fun v h' => Wm mX6_trueValue 1 0 0 Q 20 [some (.ref (ad (gSt k0))), some (.int x1), some (.int x2), none] [.ref v] h' 0 0)))) : Wm mX6_trueValue 1 0 0 Q 7 [some (.ref (ad (gSt k0))), some (.int x1), some (.int x2), none] [] (HN h0 ad cs pm) 0 0 := by
  refine rl_iload_n dX6_trueValue_7 rfl rfl ?_
  refine rl_aload_n dX6_trueValue_8 rfl rfl ?_
  obtain ⟨o_1, H⟩ := H
  refine rt_getI (k := 0) cfX6 dX6_trueValue_9 flX6_23 (by decide) rfl (lSt L o_1) nzSt ?_
  refine rl_icmp_ge (tgt := 43) dX6_trueValue_12 (by decide) (fun c_2 => ?_) (fun c_2 => ?_)
  · have H := H.1 c_2
    refine rl_iload_n dX6_trueValue_43 rfl rfl ?_
    exact rl_iret dX6_trueValue_44 rfl (Nat.le_refl 0) (Nat.le_refl 0) H
  · have H := H.2 c_2
    refine rl_aload_n dX6_trueValue_15 rfl rfl ?_
    refine rl_iload_n dX6_trueValue_16 rfl rfl ?_
    exact rl_callV (As := [.int x2]) (rest := []) mfX6_recordOf dX6_trueValue_17 lkX6_73 (lSt L o_1).K (by decide) (Nat.le_of_ble_eq_true rfl) (Nat.le_refl _) (Nat.le_refl _) rfl (Nat.le_of_ble_eq_true rfl) rfl rfl (fun Qc k => H Qc (fun v h' w => k (some (.ref v)) h' w))
theorem tX6_trueValue_20 {n : Nat} {ad : Nat → Nat} {h0 : Hp} {cs : Nat → Nat → Int32} {pm : Nat → Nat → Nat} (L : Lay n ad h0) {Q : Nat → Option Value → Hp → Prop} {k0 ks0 os0 ws0 : Nat} {x1 x2 : Int32} (H : vRc n ks0 ws0 os0 ∧ Wm mX6_trueValue 1 0 0 Q 7 [some (.ref (ad (gSt k0))), some (.int (x1 + ((cs (gAr ks0 ws0 os0 0) 0) - (cs (gAr ks0 ws0 os0 0) 1)))), some (.int (x2 + nI 1)), none] [] (HN h0 ad cs pm) 0 0) : Wm mX6_trueValue 1 0 0 Q 20 [some (.ref (ad (gSt k0))), some (.int x1), some (.int x2), none] [.ref (ad (gRc ks0 ws0 os0))] (HN h0 ad cs pm) 0 0 := by
  refine rl_astore_n (L' := [some (.ref (ad (gSt k0))), some (.int x1), some (.int x2), some (.ref (ad (gRc ks0 ws0 os0)))]) dX6_trueValue_20 rfl (Nat.le_of_ble_eq_true rfl) rfl ?_
  refine rl_iload_n dX6_trueValue_21 rfl rfl ?_
  refine rl_aload_n dX6_trueValue_22 rfl rfl ?_
  obtain ⟨o_1, H⟩ := H
  refine rt_getP (k := 2) cfX5 dX6_trueValue_23 flX6_77 (by decide) rfl (lRc L o_1) (rRc2 L o_1) (naRc L o_1) ?_
  refine rl_iconst (v := nI 0) dX6_trueValue_26 (by decide) ?_
  refine rt_iald (j := 0) dX6_trueValue_27 (lAr0 L o_1) nzAr rfl (by decide) (by decide) ?_
  refine rl_aload_n dX6_trueValue_28 rfl rfl ?_
  refine rt_getP (k := 2) cfX5 dX6_trueValue_29 flX6_77 (by decide) rfl (lRc L o_1) (rRc2 L o_1) (naRc L o_1) ?_
  refine rl_iconst (v := nI 1) dX6_trueValue_32 (by decide) ?_
  refine rt_iald (j := 1) dX6_trueValue_33 (lAr0 L o_1) nzAr rfl (by decide) (by decide) ?_
  refine rl_isub dX6_trueValue_34 ?_
  refine rl_iadd dX6_trueValue_35 ?_
  refine rl_istore_n (L' := [some (.ref (ad (gSt k0))), some (.int (x1 + ((cs (gAr ks0 ws0 os0 0) 0) - (cs (gAr ks0 ws0 os0 0) 1)))), some (.int x2), some (.ref (ad (gRc ks0 ws0 os0)))]) dX6_trueValue_36 rfl (Nat.le_of_ble_eq_true rfl) rfl ?_
  refine rl_iinc (v := x2 + nI 1) (L' := [some (.ref (ad (gSt k0))), some (.int (x1 + ((cs (gAr ks0 ws0 os0 0) 0) - (cs (gAr ks0 ws0 os0 0) 1)))), some (.int (x2 + nI 1)), some (.ref (ad (gRc ks0 ws0 os0)))]) dX6_trueValue_37 rfl (congrArg (fun z => x2 + z) (by decide)) (Nat.le_of_ble_eq_true rfl) rfl ?_
  refine rl_goto (tgt := 7) dX6_trueValue_40 (by decide) ?_
  refine rl_wk (L' := [some (.ref (ad (gSt k0))), some (.int (x1 + ((cs (gAr ks0 ws0 os0 0) 0) - (cs (gAr ks0 ws0 os0 0) 1)))), some (.int (x2 + nI 1)), none]) ⟨rfl, ⟨rfl, ⟨rfl, trivial⟩⟩⟩ ?_
  exact H
theorem tX6_recordOf_0 {n : Nat} {ad : Nat → Nat} {h0 : Hp} {cs : Nat → Nat → Int32} {pm : Nat → Nat → Nat} (L : Lay n ad h0) {Q : Nat → Option Value → Hp → Prop} {k0 : Nat} {x1 : Int32} (H : k0 < 7 ∧ ∃ j_2 : Nat, x1 = nI j_2 ∧ j_2 < n ∧ (Q 0 (some (.ref (ad (gRc k0 j_2 j_2)))) (HN h0 ad cs pm))) : Wm mX6_recordOf 0 0 0 Q 0 [some (.ref (ad (gSt k0))), some (.int x1)] [] (HN h0 ad cs pm) 0 0 := by
  refine rl_aload_n dX6_recordOf_0 rfl rfl ?_
  obtain ⟨o_1, H⟩ := H
  refine rt_getP (k := 7) cfX6 dX6_recordOf_1 flX6_29 (by decide) rfl (lSt L o_1) (rStV L o_1) naSt ?_
  refine rl_iload_n dX6_recordOf_4 rfl rfl ?_
  obtain ⟨j_2, e_3, b_4, H⟩ := H
  refine rt_aald (ci := 7) (j := j_2) dX6_recordOf_5 rfl (lVa L o_1) e_3 b_4 (lay5 L) (rVa L o_1 b_4) naVa ?_
  refine rt_getP (k := 0) cfX7 dX6_recordOf_6 flX6_69 (by decide) rfl (lVw L ⟨o_1, Or.inl b_4⟩) (rVw L ⟨o_1, Or.inl b_4⟩) (naVw L ⟨o_1, Or.inl b_4⟩) ?_
  refine rl_iload_n dX6_recordOf_9 rfl rfl ?_
  refine rt_aald (ci := 5) (j := j_2) dX6_recordOf_10 rfl (lRa L ⟨o_1, Or.inl b_4⟩) e_3 b_4 (lay5 L) (rRa L ⟨o_1, Or.inl b_4⟩ b_4) (naRa L ⟨o_1, Or.inl b_4⟩) ?_
  exact rl_aret dX6_recordOf_11 rfl (Nat.le_refl 0) (Nat.le_refl 0) H
theorem tX6_copyFrom_0 {n : Nat} {ad : Nat → Nat} {h0 : Hp} {cs : Nat → Nat → Int32} {pm : Nat → Nat → Nat} (L : Lay n ad h0) {Q : Nat → Option Value → Hp → Prop} {k0 k1 : Nat} (H : k1 < 7 ∧ k0 < 7 ∧ Wm mX6_copyFrom 4 0 0 Q 50 [some (.ref (ad (gSt k0))), some (.ref (ad (gSt k1))), some (.int (nI 0))] [] (HN h0 ad (up2 (up2 (up2 (up2 (up2 (up2 cs (gSt k0) 1 (cs (gSt k1) 1)) (gSt k0) 2 (cs (gSt k1) 2)) (gSt k0) 3 (cs (gSt k1) 3)) (gSt k0) 4 (cs (gSt k1) 4)) (gSt k0) 5 (cs (gSt k1) 5)) (gSt k0) 6 (cs (gSt k1) 6)) pm) 0 0) : Wm mX6_copyFrom 4 0 0 Q 0 [some (.ref (ad (gSt k0))), some (.ref (ad (gSt k1))), none] [] (HN h0 ad cs pm) 0 0 := by
  refine rl_aload_n dX6_copyFrom_0 rfl rfl ?_
  refine rl_aload_n dX6_copyFrom_1 rfl rfl ?_
  obtain ⟨o_1, H⟩ := H
  refine rt_getI (k := 1) cfX6 dX6_copyFrom_2 flX6_38 (by decide) rfl (lSt L o_1) nzSt ?_
  obtain ⟨o_2, H⟩ := H
  refine rt_putI (k := 1) L.2.1 cfX6 dX6_copyFrom_5 flX6_38 (by decide) rfl (lSt L o_2) nzSt (Or.inl rfl) ?_
  refine rl_aload_n dX6_copyFrom_8 rfl rfl ?_
  refine rl_aload_n dX6_copyFrom_9 rfl rfl ?_
  refine rt_getIv (x := cs (gSt k1) 2) (k := 2) cfX6 dX6_copyFrom_10 flX6_41 (by decide) rfl (lSt L o_1) nzSt ((up2_k (by decide)).trans (rfl)) ?_
  refine rt_putI (k := 2) L.2.1 cfX6 dX6_copyFrom_13 flX6_41 (by decide) rfl (lSt L o_2) nzSt (Or.inl rfl) ?_
  refine rl_aload_n dX6_copyFrom_16 rfl rfl ?_
  refine rl_aload_n dX6_copyFrom_17 rfl rfl ?_
  refine rt_getIv (x := cs (gSt k1) 3) (k := 3) cfX6 dX6_copyFrom_18 flX6_44 (by decide) rfl (lSt L o_1) nzSt ((up2_k (by decide)).trans ((up2_k (by decide)).trans (rfl))) ?_
  refine rt_putI (k := 3) L.2.1 cfX6 dX6_copyFrom_21 flX6_44 (by decide) rfl (lSt L o_2) nzSt (Or.inl rfl) ?_
  refine rl_aload_n dX6_copyFrom_24 rfl rfl ?_
  refine rl_aload_n dX6_copyFrom_25 rfl rfl ?_
  refine rt_getIv (x := cs (gSt k1) 4) (k := 4) cfX6 dX6_copyFrom_26 flX6_47 (by decide) rfl (lSt L o_1) nzSt ((up2_k (by decide)).trans ((up2_k (by decide)).trans ((up2_k (by decide)).trans (rfl)))) ?_
  refine rt_putI (k := 4) L.2.1 cfX6 dX6_copyFrom_29 flX6_47 (by decide) rfl (lSt L o_2) nzSt (Or.inl rfl) ?_
  refine rl_aload_n dX6_copyFrom_32 rfl rfl ?_
  refine rl_aload_n dX6_copyFrom_33 rfl rfl ?_
  refine rt_getIv (x := cs (gSt k1) 5) (k := 5) cfX6 dX6_copyFrom_34 flX6_50 (by decide) rfl (lSt L o_1) nzSt ((up2_k (by decide)).trans ((up2_k (by decide)).trans ((up2_k (by decide)).trans ((up2_k (by decide)).trans (rfl))))) ?_
  refine rt_putI (k := 5) L.2.1 cfX6 dX6_copyFrom_37 flX6_50 (by decide) rfl (lSt L o_2) nzSt (Or.inl rfl) ?_
  refine rl_aload_n dX6_copyFrom_40 rfl rfl ?_
  refine rl_aload_n dX6_copyFrom_41 rfl rfl ?_
  refine rt_getIv (x := cs (gSt k1) 6) (k := 6) cfX6 dX6_copyFrom_42 flX6_53 (by decide) rfl (lSt L o_1) nzSt ((up2_k (by decide)).trans ((up2_k (by decide)).trans ((up2_k (by decide)).trans ((up2_k (by decide)).trans ((up2_k (by decide)).trans (rfl)))))) ?_
  refine rt_putI (k := 6) L.2.1 cfX6 dX6_copyFrom_45 flX6_53 (by decide) rfl (lSt L o_2) nzSt (Or.inl rfl) ?_
  refine rl_iconst (v := nI 0) dX6_copyFrom_48 (by decide) ?_
  refine rl_istore_n (L' := [some (.ref (ad (gSt k0))), some (.ref (ad (gSt k1))), some (.int (nI 0))]) dX6_copyFrom_49 rfl (Nat.le_of_ble_eq_true rfl) rfl ?_
  exact H
theorem tX6_copyFrom_50 {n : Nat} {ad : Nat → Nat} {h0 : Hp} {cs : Nat → Nat → Int32} {pm : Nat → Nat → Nat} (L : Lay n ad h0) {Q : Nat → Option Value → Hp → Prop} {k0 k1 : Nat} {x2 : Int32} (H : k0 < 7 ∧ (((cs (gSt k0) 0) ≤ x2 → Wm mX6_copyFrom 4 0 0 Q 81 [some (.ref (ad (gSt k0))), some (.ref (ad (gSt k1))), some (.int (nI 0))] [] (HN h0 ad cs pm) 0 0) ∧ (¬ (cs (gSt k0) 0) ≤ x2 → (∃ j_3 : Nat, x2 = nI j_3 ∧ j_3 < n ∧ (k1 < 7 ∧ CKv mX7_copyFrom 2 0 0 [some (.ref (ad (gVw k0 j_3))), some (.ref (ad (gVw k1 j_3))), none] (HN h0 ad cs pm) (fun h' => Wm mX6_copyFrom 4 0 0 Q 73 [some (.ref (ad (gSt k0))), some (.ref (ad (gSt k1))), some (.int x2)] [] h' 0 0)))))) : Wm mX6_copyFrom 4 0 0 Q 50 [some (.ref (ad (gSt k0))), some (.ref (ad (gSt k1))), some (.int x2)] [] (HN h0 ad cs pm) 0 0 := by
  refine rl_iload_n dX6_copyFrom_50 rfl rfl ?_
  refine rl_aload_n dX6_copyFrom_51 rfl rfl ?_
  obtain ⟨o_1, H⟩ := H
  refine rt_getI (k := 0) cfX6 dX6_copyFrom_52 flX6_23 (by decide) rfl (lSt L o_1) nzSt ?_
  refine rl_icmp_ge (tgt := 79) dX6_copyFrom_55 (by decide) (fun c_2 => ?_) (fun c_2 => ?_)
  · have H := H.1 c_2
    refine rl_iconst (v := nI 0) dX6_copyFrom_79 (by decide) ?_
    refine rl_istore_n (L' := [some (.ref (ad (gSt k0))), some (.ref (ad (gSt k1))), some (.int (nI 0))]) dX6_copyFrom_80 rfl (Nat.le_of_ble_eq_true rfl) rfl ?_
    exact H
  · have H := H.2 c_2
    refine rl_aload_n dX6_copyFrom_58 rfl rfl ?_
    refine rt_getP (k := 7) cfX6 dX6_copyFrom_59 flX6_29 (by decide) rfl (lSt L o_1) (rStV L o_1) naSt ?_
    refine rl_iload_n dX6_copyFrom_62 rfl rfl ?_
    obtain ⟨j_3, e_4, b_5, H⟩ := H
    refine rt_aald (ci := 7) (j := j_3) dX6_copyFrom_63 rfl (lVa L o_1) e_4 b_5 (lay5 L) (rVa L o_1 b_5) naVa ?_
    refine rl_aload_n dX6_copyFrom_64 rfl rfl ?_
    obtain ⟨o_6, H⟩ := H
    refine rt_getP (k := 7) cfX6 dX6_copyFrom_65 flX6_29 (by decide) rfl (lSt L o_6) (rStV L o_6) naSt ?_
    refine rl_iload_n dX6_copyFrom_68 rfl rfl ?_
    refine rt_aald (ci := 7) (j := j_3) dX6_copyFrom_69 rfl (lVa L o_6) e_4 b_5 (lay5 L) (rVa L o_6 b_5) naVa ?_
    exact rl_callV (As := [.ref (ad (gVw k1 j_3))]) (rest := []) mfX7_copyFrom dX6_copyFrom_70 lkX6_59 (lVw L ⟨o_1, Or.inl b_5⟩).K (by decide) (Nat.le_of_ble_eq_true rfl) (Nat.le_refl _) (Nat.le_refl _) rfl (Nat.le_of_ble_eq_true rfl) rfl rfl (fun Qc k => H Qc (fun h' w => k none h' w))
theorem tX6_copyFrom_73 {n : Nat} {ad : Nat → Nat} {h0 : Hp} {cs : Nat → Nat → Int32} {pm : Nat → Nat → Nat} (L : Lay n ad h0) {Q : Nat → Option Value → Hp → Prop} {k0 k1 : Nat} {x2 : Int32} (H : Wm mX6_copyFrom 4 0 0 Q 50 [some (.ref (ad (gSt k0))), some (.ref (ad (gSt k1))), some (.int (x2 + nI 1))] [] (HN h0 ad cs pm) 0 0) : Wm mX6_copyFrom 4 0 0 Q 73 [some (.ref (ad (gSt k0))), some (.ref (ad (gSt k1))), some (.int x2)] [] (HN h0 ad cs pm) 0 0 := by
  refine rl_iinc (v := x2 + nI 1) (L' := [some (.ref (ad (gSt k0))), some (.ref (ad (gSt k1))), some (.int (x2 + nI 1))]) dX6_copyFrom_73 rfl (congrArg (fun z => x2 + z) (by decide)) (Nat.le_of_ble_eq_true rfl) rfl ?_
  refine rl_goto (tgt := 50) dX6_copyFrom_76 (by decide) ?_
  exact H
theorem tX6_copyFrom_81 {n : Nat} {ad : Nat → Nat} {h0 : Hp} {cs : Nat → Nat → Int32} {pm : Nat → Nat → Nat} (L : Lay n ad h0) {Q : Nat → Option Value → Hp → Prop} {k0 k1 : Nat} {x2 : Int32} (H : k0 < 7 ∧ (((cs (gSt k0) 5) ≤ x2 → Wm mX6_copyFrom 4 0 0 Q 112 [some (.ref (ad (gSt k0))), some (.ref (ad (gSt k1))), some (.int (nI 0))] [] (HN h0 ad cs pm) 0 0) ∧ (¬ (cs (gSt k0) 5) ≤ x2 → (∃ j_3 : Nat, x2 = nI j_3 ∧ j_3 < 10 ∧ (k1 < 7 ∧ CKv mX2_copyFrom 0 0 0 [some (.ref (ad (gLn k0 j_3))), some (.ref (ad (gLn k1 j_3)))] (HN h0 ad cs pm) (fun h' => Wm mX6_copyFrom 4 0 0 Q 104 [some (.ref (ad (gSt k0))), some (.ref (ad (gSt k1))), some (.int x2)] [] h' 0 0)))))) : Wm mX6_copyFrom 4 0 0 Q 81 [some (.ref (ad (gSt k0))), some (.ref (ad (gSt k1))), some (.int x2)] [] (HN h0 ad cs pm) 0 0 := by
  refine rl_iload_n dX6_copyFrom_81 rfl rfl ?_
  refine rl_aload_n dX6_copyFrom_82 rfl rfl ?_
  obtain ⟨o_1, H⟩ := H
  refine rt_getI (k := 5) cfX6 dX6_copyFrom_83 flX6_50 (by decide) rfl (lSt L o_1) nzSt ?_
  refine rl_icmp_ge (tgt := 110) dX6_copyFrom_86 (by decide) (fun c_2 => ?_) (fun c_2 => ?_)
  · have H := H.1 c_2
    refine rl_iconst (v := nI 0) dX6_copyFrom_110 (by decide) ?_
    refine rl_istore_n (L' := [some (.ref (ad (gSt k0))), some (.ref (ad (gSt k1))), some (.int (nI 0))]) dX6_copyFrom_111 rfl (Nat.le_of_ble_eq_true rfl) rfl ?_
    exact H
  · have H := H.2 c_2
    refine rl_aload_n dX6_copyFrom_89 rfl rfl ?_
    refine rt_getP (k := 8) cfX6 dX6_copyFrom_90 flX6_11 (by decide) rfl (lSt L o_1) (rStL L o_1) naSt ?_
    refine rl_iload_n dX6_copyFrom_93 rfl rfl ?_
    obtain ⟨j_3, e_4, b_5, H⟩ := H
    refine rt_aald (ci := 2) (j := j_3) dX6_copyFrom_94 rfl (lLa L o_1) e_4 b_5 (by decide) (rLa L o_1 b_5) naLa ?_
    refine rl_aload_n dX6_copyFrom_95 rfl rfl ?_
    obtain ⟨o_6, H⟩ := H
    refine rt_getP (k := 8) cfX6 dX6_copyFrom_96 flX6_11 (by decide) rfl (lSt L o_6) (rStL L o_6) naSt ?_
    refine rl_iload_n dX6_copyFrom_99 rfl rfl ?_
    refine rt_aald (ci := 2) (j := j_3) dX6_copyFrom_100 rfl (lLa L o_6) e_4 b_5 (by decide) (rLa L o_6 b_5) naLa ?_
    exact rl_callV (As := [.ref (ad (gLn k1 j_3))]) (rest := []) mfX2_copyFrom dX6_copyFrom_101 lkX6_63 (lLn L ⟨o_1, b_5⟩).K (by decide) (Nat.le_of_ble_eq_true rfl) (Nat.le_refl _) (Nat.le_refl _) rfl (Nat.le_of_ble_eq_true rfl) rfl rfl (fun Qc k => H Qc (fun h' w => k none h' w))
theorem tX6_copyFrom_104 {n : Nat} {ad : Nat → Nat} {h0 : Hp} {cs : Nat → Nat → Int32} {pm : Nat → Nat → Nat} (L : Lay n ad h0) {Q : Nat → Option Value → Hp → Prop} {k0 k1 : Nat} {x2 : Int32} (H : Wm mX6_copyFrom 4 0 0 Q 81 [some (.ref (ad (gSt k0))), some (.ref (ad (gSt k1))), some (.int (x2 + nI 1))] [] (HN h0 ad cs pm) 0 0) : Wm mX6_copyFrom 4 0 0 Q 104 [some (.ref (ad (gSt k0))), some (.ref (ad (gSt k1))), some (.int x2)] [] (HN h0 ad cs pm) 0 0 := by
  refine rl_iinc (v := x2 + nI 1) (L' := [some (.ref (ad (gSt k0))), some (.ref (ad (gSt k1))), some (.int (x2 + nI 1))]) dX6_copyFrom_104 rfl (congrArg (fun z => x2 + z) (by decide)) (Nat.le_of_ble_eq_true rfl) rfl ?_
  refine rl_goto (tgt := 81) dX6_copyFrom_107 (by decide) ?_
  exact H
theorem tX6_copyFrom_112 {n : Nat} {ad : Nat → Nat} {h0 : Hp} {cs : Nat → Nat → Int32} {pm : Nat → Nat → Nat} (L : Lay n ad h0) {Q : Nat → Option Value → Hp → Prop} {k0 k1 : Nat} {x2 : Int32} (H : k0 < 7 ∧ (((cs (gSt k0) 6) ≤ x2 → Q 0 none (HN h0 ad cs pm)) ∧ (¬ (cs (gSt k0) 6) ≤ x2 → (∃ j_3 : Nat, x2 = nI j_3 ∧ j_3 < 8 ∧ (pm k0 j_3 < 8 ∧ k1 < 7 ∧ pm k1 j_3 < 8 ∧ CKv mX3_copyFrom 3 0 0 [some (.ref (ad (gMg k0 (pm k0 j_3)))), some (.ref (ad (gMg k1 (pm k1 j_3))))] (HN h0 ad cs pm) (fun h' => Wm mX6_copyFrom 4 0 0 Q 135 [some (.ref (ad (gSt k0))), some (.ref (ad (gSt k1))), some (.int x2)] [] h' 0 0)))))) : Wm mX6_copyFrom 4 0 0 Q 112 [some (.ref (ad (gSt k0))), some (.ref (ad (gSt k1))), some (.int x2)] [] (HN h0 ad cs pm) 0 0 := by
  refine rl_iload_n dX6_copyFrom_112 rfl rfl ?_
  refine rl_aload_n dX6_copyFrom_113 rfl rfl ?_
  obtain ⟨o_1, H⟩ := H
  refine rt_getI (k := 6) cfX6 dX6_copyFrom_114 flX6_53 (by decide) rfl (lSt L o_1) nzSt ?_
  refine rl_icmp_ge (tgt := 141) dX6_copyFrom_117 (by decide) (fun c_2 => ?_) (fun c_2 => ?_)
  · have H := H.1 c_2
    exact rl_vret dX6_copyFrom_141 rfl (Nat.le_refl 0) (Nat.le_refl 0) H
  · have H := H.2 c_2
    refine rl_aload_n dX6_copyFrom_120 rfl rfl ?_
    refine rt_getP (k := 9) cfX6 dX6_copyFrom_121 flX6_19 (by decide) rfl (lSt L o_1) (rStM L o_1) naSt ?_
    refine rl_iload_n dX6_copyFrom_124 rfl rfl ?_
    obtain ⟨j_3, e_4, b_5, H⟩ := H
    obtain ⟨o_6, H⟩ := H
    refine rt_aaldM (j := j_3) L dX6_copyFrom_125 o_1 e_4 b_5 ?_
    refine rl_aload_n dX6_copyFrom_126 rfl rfl ?_
    obtain ⟨o_7, H⟩ := H
    refine rt_getP (k := 9) cfX6 dX6_copyFrom_127 flX6_19 (by decide) rfl (lSt L o_7) (rStM L o_7) naSt ?_
    refine rl_iload_n dX6_copyFrom_130 rfl rfl ?_
    obtain ⟨o_8, H⟩ := H
    refine rt_aaldM (j := j_3) L dX6_copyFrom_131 o_7 e_4 b_5 ?_
    exact rl_callV (As := [.ref (ad (gMg k1 (pm k1 j_3)))]) (rest := []) mfX3_copyFrom dX6_copyFrom_132 lkX6_66 (lMg L ⟨o_1, o_6⟩).K (by decide) (Nat.le_of_ble_eq_true rfl) (Nat.le_refl _) (Nat.le_refl _) rfl (Nat.le_of_ble_eq_true rfl) rfl rfl (fun Qc k => H Qc (fun h' w => k none h' w))
theorem tX6_copyFrom_135 {n : Nat} {ad : Nat → Nat} {h0 : Hp} {cs : Nat → Nat → Int32} {pm : Nat → Nat → Nat} (L : Lay n ad h0) {Q : Nat → Option Value → Hp → Prop} {k0 k1 : Nat} {x2 : Int32} (H : Wm mX6_copyFrom 4 0 0 Q 112 [some (.ref (ad (gSt k0))), some (.ref (ad (gSt k1))), some (.int (x2 + nI 1))] [] (HN h0 ad cs pm) 0 0) : Wm mX6_copyFrom 4 0 0 Q 135 [some (.ref (ad (gSt k0))), some (.ref (ad (gSt k1))), some (.int x2)] [] (HN h0 ad cs pm) 0 0 := by
  refine rl_iinc (v := x2 + nI 1) (L' := [some (.ref (ad (gSt k0))), some (.ref (ad (gSt k1))), some (.int (x2 + nI 1))]) dX6_copyFrom_135 rfl (congrArg (fun z => x2 + z) (by decide)) (Nat.le_of_ble_eq_true rfl) rfl ?_
  refine rl_goto (tgt := 112) dX6_copyFrom_138 (by decide) ?_
  exact H
theorem tX6_change_0 {n : Nat} {ad : Nat → Nat} {h0 : Hp} {cs : Nat → Nat → Int32} {pm : Nat → Nat → Nat} (L : Lay n ad h0) {Q : Nat → Option Value → Hp → Prop} {k0 : Nat} {x1 x2 x3 : Int32} (H : k0 < 7 ∧ CKr mX6_recordOf 0 0 0 [some (.ref (ad (gSt k0))), some (.int x1)] (HN h0 ad cs pm) (fun v h' => Wm mX6_change 4 0 0 Q 5 [some (.ref (ad (gSt k0))), some (.int x1), some (.int x2), some (.int x3), none, none] [.ref v] h' 0 0)) : Wm mX6_change 4 0 0 Q 0 [some (.ref (ad (gSt k0))), some (.int x1), some (.int x2), some (.int x3), none, none] [] (HN h0 ad cs pm) 0 0 := by
  refine rl_aload_n dX6_change_0 rfl rfl ?_
  refine rl_iload_n dX6_change_1 rfl rfl ?_
  obtain ⟨o_1, H⟩ := H
  exact rl_callV (As := [.int x1]) (rest := []) mfX6_recordOf dX6_change_2 lkX6_73 (lSt L o_1).K (by decide) (Nat.le_of_ble_eq_true rfl) (Nat.le_refl _) (Nat.le_refl _) rfl (Nat.le_of_ble_eq_true rfl) rfl rfl (fun Qc k => H Qc (fun v h' w => k (some (.ref v)) h' w))
theorem tX6_change_5 {n : Nat} {ad : Nat → Nat} {h0 : Hp} {cs : Nat → Nat → Int32} {pm : Nat → Nat → Nat} (L : Lay n ad h0) {Q : Nat → Option Value → Hp → Prop} {k0 ks0 os0 ws0 : Nat} {x1 x2 x3 : Int32} (H : k0 < 7 ∧ CKi mX6_availableRights 3 0 0 [some (.ref (ad (gSt k0))), some (.int x1), some (.int x2), none, none] (HN h0 ad cs pm) (fun v h' => Wm mX6_change 4 0 0 Q 14 [some (.ref (ad (gSt k0))), some (.int x1), some (.int x2), some (.int x3), some (.ref (ad (gRc ks0 ws0 os0))), none] [.int v, .int x3] h' 0 0)) : Wm mX6_change 4 0 0 Q 5 [some (.ref (ad (gSt k0))), some (.int x1), some (.int x2), some (.int x3), none, none] [.ref (ad (gRc ks0 ws0 os0))] (HN h0 ad cs pm) 0 0 := by
  refine rl_astore (L' := [some (.ref (ad (gSt k0))), some (.int x1), some (.int x2), some (.int x3), some (.ref (ad (gRc ks0 ws0 os0))), none]) dX6_change_5 (Nat.le_of_ble_eq_true rfl) rfl ?_
  refine rl_iload_n dX6_change_7 rfl rfl ?_
  refine rl_aload_n dX6_change_8 rfl rfl ?_
  refine rl_iload_n dX6_change_9 rfl rfl ?_
  refine rl_iload_n dX6_change_10 rfl rfl ?_
  obtain ⟨o_1, H⟩ := H
  exact rl_callV (As := [.int x1, .int x2]) (rest := [.int x3]) mfX6_availableRights dX6_change_11 lkX6_131 (lSt L o_1).K (by decide) (Nat.le_of_ble_eq_true rfl) (Nat.le_refl _) (Nat.le_refl _) rfl (Nat.le_of_ble_eq_true rfl) rfl rfl (fun Qc k => H Qc (fun v h' w => k (some (.int v)) h' w))
theorem tX6_change_14 {n : Nat} {ad : Nat → Nat} {h0 : Hp} {cs : Nat → Nat → Int32} {pm : Nat → Nat → Nat} (L : Lay n ad h0) {Q : Nat → Option Value → Hp → Prop} {k0 k4 o4 w4 : Nat} {x1 x2 x3 xs0 xs1 : Int32} (H : vRc n k4 w4 o4 ∧ (((xs0 - xs1) ≤ 0 → k0 < 7 ∧ CKv mX6_useLoans 3 0 0 [some (.ref (ad (gSt k0))), some (.int x1), some (.int x2), some (.int x3), none, none, none, none] (HN h0 ad (up2 cs (gRc k4 w4 o4) 0 ((cs (gRc k4 w4 o4) 0) + (nI 1))) pm) (fun h' => Wm mX6_change 4 0 0 Q 64 [none, none, some (.int x2), some (.int x3), some (.ref (ad (gRc k4 w4 o4))), none] [] h' 0 0)) ∧ (¬ (xs0 - xs1) ≤ 0 → (∃ j_4 : Nat, x2 = nI j_4 ∧ j_4 < 2 ∧ (Q 0 (some (.int (nI 0))) (HN h0 ad (up2 (up2 cs (gRc k4 w4 o4) 0 ((cs (gRc k4 w4 o4) 0) + (nI 1))) (gAr k4 w4 o4 1) j_4 (if (((up2 cs (gRc k4 w4 o4) 0 ((cs (gRc k4 w4 o4) 0) + (nI 1))) (gAr k4 w4 o4 1) j_4) + (xs0 - xs1)) < (nI 100000) then (((up2 cs (gRc k4 w4 o4) 0 ((cs (gRc k4 w4 o4) 0) + (nI 1))) (gAr k4 w4 o4 1) j_4) + (xs0 - xs1)) else (nI 100000))) pm)))))) : Wm mX6_change 4 0 0 Q 14 [some (.ref (ad (gSt k0))), some (.int x1), some (.int x2), some (.int x3), some (.ref (ad (gRc k4 w4 o4))), none] [.int xs1, .int xs0] (HN h0 ad cs pm) 0 0 := by
  refine rl_isub dX6_change_14 ?_
  refine rl_istore (L' := [some (.ref (ad (gSt k0))), some (.int x1), some (.int x2), some (.int x3), some (.ref (ad (gRc k4 w4 o4))), some (.int (xs0 - xs1))]) dX6_change_15 (Nat.le_of_ble_eq_true rfl) rfl ?_
  refine rl_aload dX6_change_17 rfl ?_
  refine rl_dup dX6_change_19 rfl ?_
  obtain ⟨o_1, H⟩ := H
  refine rt_getI (k := 0) cfX5 dX6_change_20 flX6_137 (by decide) rfl (lRc L o_1) nzRc ?_
  refine rl_iconst (v := nI 1) dX6_change_23 (by decide) ?_
  refine rl_iadd dX6_change_24 ?_
  refine rt_putI (k := 0) L.2.1 cfX5 dX6_change_25 flX6_137 (by decide) rfl (lRc L o_1) nzRc (Or.inl rfl) ?_
  refine rl_iload dX6_change_28 rfl ?_
  refine rl_if_le (tgt := 57) dX6_change_30 (by decide) (fun c_2 => ?_) (fun c_2 => ?_)
  · have H := H.1 c_2
    refine rl_aload_n dX6_change_57 rfl rfl ?_
    refine rl_iload_n dX6_change_58 rfl rfl ?_
    refine rl_iload_n dX6_change_59 rfl rfl ?_
    refine rl_iload_n dX6_change_60 rfl rfl ?_
    obtain ⟨o_3, H⟩ := H
    exact rl_callV (As := [.int x1, .int x2, .int x3]) (rest := []) mfX6_useLoans dX6_change_61 lkX6_149 (lSt L o_3).K (by decide) (Nat.le_of_ble_eq_true rfl) (Nat.le_refl _) (Nat.le_refl _) rfl (Nat.le_of_ble_eq_true rfl) rfl rfl (fun Qc k => H Qc (fun h' w => k none h' (rl_wk (L' := [none, none, some (.int x2), some (.int x3), some (.ref (ad (gRc k4 w4 o4))), none]) ⟨rfl, ⟨rfl, ⟨rfl, trivial⟩⟩⟩ w)))
  · have H := H.2 c_2
    refine rl_aload dX6_change_33 rfl ?_
    refine rt_getP (k := 3) cfX5 dX6_change_35 flX6_140 (by decide) rfl (lRc L o_1) (rRc3 L o_1) (naRc L o_1) ?_
    refine rl_iload_n dX6_change_38 rfl rfl ?_
    refine rl_ldc (v := nI 100000) dX6_change_39 kcX6_143 ?_
    refine rl_aload dX6_change_41 rfl ?_
    refine rt_getP (k := 3) cfX5 dX6_change_43 flX6_140 (by decide) rfl (lRc L o_1) (rRc3 L o_1) (naRc L o_1) ?_
    refine rl_iload_n dX6_change_46 rfl rfl ?_
    obtain ⟨j_4, e_5, b_6, H⟩ := H
    refine rt_iald (j := j_4) dX6_change_47 (lAr1 L o_1) nzAr e_5 b_6 (by decide) ?_
    refine rl_iload dX6_change_48 rfl ?_
    refine rl_iadd dX6_change_50 ?_
    refine rl_min dX6_change_51 lkX6_144 min1 inMath min2 (by decide) (Nat.le_of_ble_eq_true rfl) (Nat.le_refl 0) (Nat.le_refl 0) ?_
    refine rt_iast (j := j_4) L.2.1 dX6_change_54 (lAr1 L o_1) nzAr e_5 b_6 (by decide) ?_
    refine rl_iconst (v := nI 0) dX6_change_55 (by decide) ?_
    exact rl_zret dX6_change_56 rfl rfl (Nat.le_refl 0) (Nat.le_refl 0) H
theorem tX6_change_64 {n : Nat} {ad : Nat → Nat} {h0 : Hp} {cs : Nat → Nat → Int32} {pm : Nat → Nat → Nat} (L : Lay n ad h0) {Q : Nat → Option Value → Hp → Prop} {k4 o4 w4 : Nat} {x2 x3 : Int32} (H : vRc n k4 w4 o4 ∧ ∃ j_2 : Nat, x2 = nI j_2 ∧ j_2 < 2 ∧ (Q 0 (some (.int (nI 1))) (HN h0 ad (up2 cs (gAr k4 w4 o4 0) j_2 ((cs (gAr k4 w4 o4 0) j_2) + x3)) pm))) : Wm mX6_change 4 0 0 Q 64 [none, none, some (.int x2), some (.int x3), some (.ref (ad (gRc k4 w4 o4))), none] [] (HN h0 ad cs pm) 0 0 := by
  refine rl_aload dX6_change_64 rfl ?_
  obtain ⟨o_1, H⟩ := H
  refine rt_getP (k := 2) cfX5 dX6_change_66 flX6_77 (by decide) rfl (lRc L o_1) (rRc2 L o_1) (naRc L o_1) ?_
  refine rl_iload_n dX6_change_69 rfl rfl ?_
  refine rl_dup2 dX6_change_70 rfl rfl ?_
  obtain ⟨j_2, e_3, b_4, H⟩ := H
  refine rt_iald (j := j_2) dX6_change_71 (lAr0 L o_1) nzAr e_3 b_4 (by decide) ?_
  refine rl_iload_n dX6_change_72 rfl rfl ?_
  refine rl_iadd dX6_change_73 ?_
  refine rt_iast (j := j_2) L.2.1 dX6_change_74 (lAr0 L o_1) nzAr e_3 b_4 (by decide) ?_
  refine rl_iconst (v := nI 1) dX6_change_75 (by decide) ?_
  exact rl_zret dX6_change_76 rfl rfl (Nat.le_refl 0) (Nat.le_refl 0) H
theorem tX6_availableRights_0 {n : Nat} {ad : Nat → Nat} {h0 : Hp} {cs : Nat → Nat → Int32} {pm : Nat → Nat → Nat} (L : Lay n ad h0) {Q : Nat → Option Value → Hp → Prop} {k0 : Nat} {x1 x2 : Int32} (H : k0 < 7 ∧ CKi mX6_ownRights 2 0 0 [some (.ref (ad (gSt k0))), some (.int x1), some (.int x2), none, none, none] (HN h0 ad cs pm) (fun v h' => Wm mX6_availableRights 3 0 0 Q 6 [some (.ref (ad (gSt k0))), some (.int x1), some (.int x2), none, none] [.int v] h' 0 0)) : Wm mX6_availableRights 3 0 0 Q 0 [some (.ref (ad (gSt k0))), some (.int x1), some (.int x2), none, none] [] (HN h0 ad cs pm) 0 0 := by
  refine rl_aload_n dX6_availableRights_0 rfl rfl ?_
  refine rl_iload_n dX6_availableRights_1 rfl rfl ?_
  refine rl_iload_n dX6_availableRights_2 rfl rfl ?_
  obtain ⟨o_1, H⟩ := H
  exact rl_callV (As := [.int x1, .int x2]) (rest := []) mfX6_ownRights dX6_availableRights_3 lkX6_120 (lSt L o_1).K (by decide) (Nat.le_of_ble_eq_true rfl) (Nat.le_refl _) (Nat.le_refl _) rfl (Nat.le_of_ble_eq_true rfl) rfl rfl (fun Qc k => H Qc (fun v h' w => k (some (.int v)) h' w))
theorem tX6_availableRights_6 {n : Nat} {ad : Nat → Nat} {h0 : Hp} {cs : Nat → Nat → Int32} {pm : Nat → Nat → Nat} (L : Lay n ad h0) {Q : Nat → Option Value → Hp → Prop} {k0 : Nat} {x1 x2 xs0 : Int32} (H : Wm mX6_availableRights 3 0 0 Q 10 [some (.ref (ad (gSt k0))), some (.int x1), some (.int x2), some (.int xs0), some (.int (nI 0))] [] (HN h0 ad cs pm) 0 0) : Wm mX6_availableRights 3 0 0 Q 6 [some (.ref (ad (gSt k0))), some (.int x1), some (.int x2), none, none] [.int xs0] (HN h0 ad cs pm) 0 0 := by
  refine rl_istore_n (L' := [some (.ref (ad (gSt k0))), some (.int x1), some (.int x2), some (.int xs0), none]) dX6_availableRights_6 rfl (Nat.le_of_ble_eq_true rfl) rfl ?_
  refine rl_iconst (v := nI 0) dX6_availableRights_7 (by decide) ?_
  refine rl_istore (L' := [some (.ref (ad (gSt k0))), some (.int x1), some (.int x2), some (.int xs0), some (.int (nI 0))]) dX6_availableRights_8 (Nat.le_of_ble_eq_true rfl) rfl ?_
  exact H
theorem tX6_availableRights_10 {n : Nat} {ad : Nat → Nat} {h0 : Hp} {cs : Nat → Nat → Int32} {pm : Nat → Nat → Nat} (L : Lay n ad h0) {Q : Nat → Option Value → Hp → Prop} {k0 : Nat} {x1 x2 x3 x4 : Int32} (H : k0 < 7 ∧ (((cs (gSt k0) 5) ≤ x4 → Q 0 (some (.int x3)) (HN h0 ad cs pm)) ∧ (¬ (cs (gSt k0) 5) ≤ x4 → (∃ j_3 : Nat, x4 = nI j_3 ∧ j_3 < 10 ∧ (((¬ (cs (gLn k0 j_3) 1) = x1 → Wm mX6_availableRights 3 0 0 Q 56 [some (.ref (ad (gSt k0))), some (.int x1), some (.int x2), some (.int x3), some (.int x4)] [] (HN h0 ad cs pm) 0 0) ∧ ((cs (gLn k0 j_3) 1) = x1 → ((¬ (cs (gLn k0 j_3) 2) = x2 → Wm mX6_availableRights 3 0 0 Q 56 [some (.ref (ad (gSt k0))), some (.int x1), some (.int x2), some (.int x3), some (.int x4)] [] (HN h0 ad cs pm) 0 0) ∧ ((cs (gLn k0 j_3) 2) = x2 → CKi mX6_restOf 1 0 0 [some (.ref (ad (gSt k0))), some (.int x4), none, none] (HN h0 ad cs pm) (fun v h' => Wm mX6_availableRights 3 0 0 Q 54 [some (.ref (ad (gSt k0))), some (.int x1), some (.int x2), none, some (.int x4)] [.int v, .int x3] h' 0 0)))))))))) : Wm mX6_availableRights 3 0 0 Q 10 [some (.ref (ad (gSt k0))), some (.int x1), some (.int x2), some (.int x3), some (.int x4)] [] (HN h0 ad cs pm) 0 0 := by
  refine rl_iload dX6_availableRights_10 rfl ?_
  refine rl_aload_n dX6_availableRights_12 rfl rfl ?_
  obtain ⟨o_1, H⟩ := H
  refine rt_getI (k := 5) cfX6 dX6_availableRights_13 flX6_50 (by decide) rfl (lSt L o_1) nzSt ?_
  refine rl_icmp_ge (tgt := 62) dX6_availableRights_16 (by decide) (fun c_2 => ?_) (fun c_2 => ?_)
  · have H := H.1 c_2
    refine rl_iload_n dX6_availableRights_62 rfl rfl ?_
    exact rl_iret dX6_availableRights_63 rfl (Nat.le_refl 0) (Nat.le_refl 0) H
  · have H := H.2 c_2
    refine rl_aload_n dX6_availableRights_19 rfl rfl ?_
    refine rt_getP (k := 8) cfX6 dX6_availableRights_20 flX6_11 (by decide) rfl (lSt L o_1) (rStL L o_1) naSt ?_
    refine rl_iload dX6_availableRights_23 rfl ?_
    obtain ⟨j_3, e_4, b_5, H⟩ := H
    refine rt_aald (ci := 2) (j := j_3) dX6_availableRights_25 rfl (lLa L o_1) e_4 b_5 (by decide) (rLa L o_1 b_5) naLa ?_
    refine rt_getI (k := 1) cfX2 dX6_availableRights_26 flX6_96 (by decide) rfl (lLn L ⟨o_1, b_5⟩) nzLn ?_
    refine rl_iload_n dX6_availableRights_29 rfl rfl ?_
    refine rl_icmp_ne (tgt := 56) dX6_availableRights_30 (by decide) (fun c_6 => ?_) (fun c_6 => ?_)
    · have H := H.1 c_6
      exact H
    · have H := H.2 c_6
      refine rl_aload_n dX6_availableRights_33 rfl rfl ?_
      refine rt_getP (k := 8) cfX6 dX6_availableRights_34 flX6_11 (by decide) rfl (lSt L o_1) (rStL L o_1) naSt ?_
      refine rl_iload dX6_availableRights_37 rfl ?_
      refine rt_aald (ci := 2) (j := j_3) dX6_availableRights_39 rfl (lLa L o_1) e_4 b_5 (by decide) (rLa L o_1 b_5) naLa ?_
      refine rt_getI (k := 2) cfX2 dX6_availableRights_40 flX6_90 (by decide) rfl (lLn L ⟨o_1, b_5⟩) nzLn ?_
      refine rl_iload_n dX6_availableRights_43 rfl rfl ?_
      refine rl_icmp_ne (tgt := 56) dX6_availableRights_44 (by decide) (fun c_7 => ?_) (fun c_7 => ?_)
      · have H := H.1 c_7
        exact H
      · have H := H.2 c_7
        refine rl_iload_n dX6_availableRights_47 rfl rfl ?_
        refine rl_aload_n dX6_availableRights_48 rfl rfl ?_
        refine rl_iload dX6_availableRights_49 rfl ?_
        exact rl_callV (As := [.int x4]) (rest := [.int x3]) mfX6_restOf dX6_availableRights_51 lkX6_123 (lSt L o_1).K (by decide) (Nat.le_of_ble_eq_true rfl) (Nat.le_refl _) (Nat.le_refl _) rfl (Nat.le_of_ble_eq_true rfl) rfl rfl (fun Qc k => H Qc (fun v h' w => k (some (.int v)) h' (rl_wk (L' := [some (.ref (ad (gSt k0))), some (.int x1), some (.int x2), none, some (.int x4)]) ⟨rfl, ⟨rfl, ⟨rfl, ⟨rfl, trivial⟩⟩⟩⟩ w)))
theorem tX6_availableRights_54 {n : Nat} {ad : Nat → Nat} {h0 : Hp} {cs : Nat → Nat → Int32} {pm : Nat → Nat → Nat} (L : Lay n ad h0) {Q : Nat → Option Value → Hp → Prop} {k0 : Nat} {x1 x2 x4 xs0 xs1 : Int32} (H : Wm mX6_availableRights 3 0 0 Q 56 [some (.ref (ad (gSt k0))), some (.int x1), some (.int x2), some (.int (xs0 + xs1)), some (.int x4)] [] (HN h0 ad cs pm) 0 0) : Wm mX6_availableRights 3 0 0 Q 54 [some (.ref (ad (gSt k0))), some (.int x1), some (.int x2), none, some (.int x4)] [.int xs1, .int xs0] (HN h0 ad cs pm) 0 0 := by
  refine rl_iadd dX6_availableRights_54 ?_
  refine rl_istore_n (L' := [some (.ref (ad (gSt k0))), some (.int x1), some (.int x2), some (.int (xs0 + xs1)), some (.int x4)]) dX6_availableRights_55 rfl (Nat.le_of_ble_eq_true rfl) rfl ?_
  exact H
theorem tX6_availableRights_56 {n : Nat} {ad : Nat → Nat} {h0 : Hp} {cs : Nat → Nat → Int32} {pm : Nat → Nat → Nat} (L : Lay n ad h0) {Q : Nat → Option Value → Hp → Prop} {k0 : Nat} {x1 x2 x3 x4 : Int32} (H : Wm mX6_availableRights 3 0 0 Q 10 [some (.ref (ad (gSt k0))), some (.int x1), some (.int x2), some (.int x3), some (.int (x4 + nI 1))] [] (HN h0 ad cs pm) 0 0) : Wm mX6_availableRights 3 0 0 Q 56 [some (.ref (ad (gSt k0))), some (.int x1), some (.int x2), some (.int x3), some (.int x4)] [] (HN h0 ad cs pm) 0 0 := by
  refine rl_iinc (v := x4 + nI 1) (L' := [some (.ref (ad (gSt k0))), some (.int x1), some (.int x2), some (.int x3), some (.int (x4 + nI 1))]) dX6_availableRights_56 rfl (congrArg (fun z => x4 + z) (by decide)) (Nat.le_of_ble_eq_true rfl) rfl ?_
  refine rl_goto (tgt := 10) dX6_availableRights_59 (by decide) ?_
  exact H
theorem tX6_ownRights_0 {n : Nat} {ad : Nat → Nat} {h0 : Hp} {cs : Nat → Nat → Int32} {pm : Nat → Nat → Nat} (L : Lay n ad h0) {Q : Nat → Option Value → Hp → Prop} {k0 : Nat} {x1 x2 : Int32} (H : k0 < 7 ∧ CKr mX6_recordOf 0 0 0 [some (.ref (ad (gSt k0))), some (.int x1)] (HN h0 ad cs pm) (fun v h' => Wm mX6_ownRights 2 0 0 Q 5 [some (.ref (ad (gSt k0))), some (.int x1), some (.int x2), none, none, none] [.ref v] h' 0 0)) : Wm mX6_ownRights 2 0 0 Q 0 [some (.ref (ad (gSt k0))), some (.int x1), some (.int x2), none, none, none] [] (HN h0 ad cs pm) 0 0 := by
  refine rl_aload_n dX6_ownRights_0 rfl rfl ?_
  refine rl_iload_n dX6_ownRights_1 rfl rfl ?_
  obtain ⟨o_1, H⟩ := H
  exact rl_callV (As := [.int x1]) (rest := []) mfX6_recordOf dX6_ownRights_2 lkX6_73 (lSt L o_1).K (by decide) (Nat.le_of_ble_eq_true rfl) (Nat.le_refl _) (Nat.le_refl _) rfl (Nat.le_of_ble_eq_true rfl) rfl rfl (fun Qc k => H Qc (fun v h' w => k (some (.ref v)) h' w))
theorem tX6_ownRights_5 {n : Nat} {ad : Nat → Nat} {h0 : Hp} {cs : Nat → Nat → Int32} {pm : Nat → Nat → Nat} (L : Lay n ad h0) {Q : Nat → Option Value → Hp → Prop} {k0 ks0 os0 ws0 : Nat} {x1 x2 : Int32} (H : ((¬ x1 = 0 → vRc n ks0 ws0 os0 ∧ ((¬ x2 = 0 → (∃ j_4 : Nat, x2 = nI j_4 ∧ j_4 < 2 ∧ (Wm mX6_ownRights 2 0 0 Q 54 [some (.ref (ad (gSt k0))), some (.int x1), some (.int x2), some (.ref (ad (gRc ks0 ws0 os0))), some (.int ((nI 0) + ((cs (gAr ks0 ws0 os0 0) 0) - (cs (gAr ks0 ws0 os0 0) j_4)))), some (.int (nI 0))] [] (HN h0 ad cs pm) 0 0))) ∧ (x2 = 0 → (∃ j_7 : Nat, x2 = nI j_7 ∧ j_7 < 2 ∧ (Wm mX6_ownRights 2 0 0 Q 54 [some (.ref (ad (gSt k0))), some (.int x1), some (.int x2), some (.ref (ad (gRc ks0 ws0 os0))), some (.int ((nI 0) + ((cs (gAr ks0 ws0 os0 0) 1) - (cs (gAr ks0 ws0 os0 0) j_7)))), some (.int (nI 0))] [] (HN h0 ad cs pm) 0 0))))) ∧ (x1 = 0 → k0 < 7 ∧ CKi mX6_roomAt 0 0 0 [some (.ref (ad (gSt k0))), some (.int (cs (gSt k0) 3)), some (.int x2)] (HN h0 ad cs pm) (fun v h' => Wm mX6_ownRights 2 0 0 Q 19 [some (.ref (ad (gSt k0))), some (.int x1), some (.int x2), some (.ref (ad (gRc ks0 ws0 os0))), none, none] [.int v] h' 0 0)))) : Wm mX6_ownRights 2 0 0 Q 5 [some (.ref (ad (gSt k0))), some (.int x1), some (.int x2), none, none, none] [.ref (ad (gRc ks0 ws0 os0))] (HN h0 ad cs pm) 0 0 := by
  refine rl_astore_n (L' := [some (.ref (ad (gSt k0))), some (.int x1), some (.int x2), some (.ref (ad (gRc ks0 ws0 os0))), none, none]) dX6_ownRights_5 rfl (Nat.le_of_ble_eq_true rfl) rfl ?_
  refine rl_iload_n dX6_ownRights_6 rfl rfl ?_
  refine rl_if_ne (tgt := 22) dX6_ownRights_7 (by decide) (fun c_1 => ?_) (fun c_1 => ?_)
  · have H := H.1 c_1
    refine rl_iconst (v := nI 0) dX6_ownRights_22 (by decide) ?_
    refine rl_istore (L' := [some (.ref (ad (gSt k0))), some (.int x1), some (.int x2), some (.ref (ad (gRc ks0 ws0 os0))), some (.int (nI 0)), none]) dX6_ownRights_23 (Nat.le_of_ble_eq_true rfl) rfl ?_
    refine rl_iload dX6_ownRights_25 rfl ?_
    refine rl_aload_n dX6_ownRights_27 rfl rfl ?_
    obtain ⟨o_2, H⟩ := H
    refine rt_getP (k := 2) cfX5 dX6_ownRights_28 flX6_77 (by decide) rfl (lRc L o_2) (rRc2 L o_2) (naRc L o_2) ?_
    refine rl_iload_n dX6_ownRights_31 rfl rfl ?_
    refine rl_if_ne (tgt := 39) dX6_ownRights_32 (by decide) (fun c_3 => ?_) (fun c_3 => ?_)
    · have H := H.1 c_3
      refine rl_iconst (v := nI 0) dX6_ownRights_39 (by decide) ?_
      refine rt_iald (j := 0) dX6_ownRights_40 (lAr0 L o_2) nzAr rfl (by decide) (by decide) ?_
      refine rl_aload_n dX6_ownRights_41 rfl rfl ?_
      refine rt_getP (k := 2) cfX5 dX6_ownRights_42 flX6_77 (by decide) rfl (lRc L o_2) (rRc2 L o_2) (naRc L o_2) ?_
      refine rl_iload_n dX6_ownRights_45 rfl rfl ?_
      obtain ⟨j_4, e_5, b_6, H⟩ := H
      refine rt_iald (j := j_4) dX6_ownRights_46 (lAr0 L o_2) nzAr e_5 b_6 (by decide) ?_
      refine rl_isub dX6_ownRights_47 ?_
      refine rl_iadd dX6_ownRights_48 ?_
      refine rl_istore (L' := [some (.ref (ad (gSt k0))), some (.int x1), some (.int x2), some (.ref (ad (gRc ks0 ws0 os0))), some (.int ((nI 0) + ((cs (gAr ks0 ws0 os0 0) 0) - (cs (gAr ks0 ws0 os0 0) j_4)))), none]) dX6_ownRights_49 (Nat.le_of_ble_eq_true rfl) rfl ?_
      refine rl_iconst (v := nI 0) dX6_ownRights_51 (by decide) ?_
      refine rl_istore (L' := [some (.ref (ad (gSt k0))), some (.int x1), some (.int x2), some (.ref (ad (gRc ks0 ws0 os0))), some (.int ((nI 0) + ((cs (gAr ks0 ws0 os0 0) 0) - (cs (gAr ks0 ws0 os0 0) j_4)))), some (.int (nI 0))]) dX6_ownRights_52 (Nat.le_of_ble_eq_true rfl) rfl ?_
      exact H
    · have H := H.2 c_3
      refine rl_iconst (v := nI 1) dX6_ownRights_35 (by decide) ?_
      refine rl_goto (tgt := 40) dX6_ownRights_36 (by decide) ?_
      refine rt_iald (j := 1) dX6_ownRights_40 (lAr0 L o_2) nzAr rfl (by decide) (by decide) ?_
      refine rl_aload_n dX6_ownRights_41 rfl rfl ?_
      refine rt_getP (k := 2) cfX5 dX6_ownRights_42 flX6_77 (by decide) rfl (lRc L o_2) (rRc2 L o_2) (naRc L o_2) ?_
      refine rl_iload_n dX6_ownRights_45 rfl rfl ?_
      obtain ⟨j_7, e_8, b_9, H⟩ := H
      refine rt_iald (j := j_7) dX6_ownRights_46 (lAr0 L o_2) nzAr e_8 b_9 (by decide) ?_
      refine rl_isub dX6_ownRights_47 ?_
      refine rl_iadd dX6_ownRights_48 ?_
      refine rl_istore (L' := [some (.ref (ad (gSt k0))), some (.int x1), some (.int x2), some (.ref (ad (gRc ks0 ws0 os0))), some (.int ((nI 0) + ((cs (gAr ks0 ws0 os0 0) 1) - (cs (gAr ks0 ws0 os0 0) j_7)))), none]) dX6_ownRights_49 (Nat.le_of_ble_eq_true rfl) rfl ?_
      refine rl_iconst (v := nI 0) dX6_ownRights_51 (by decide) ?_
      refine rl_istore (L' := [some (.ref (ad (gSt k0))), some (.int x1), some (.int x2), some (.ref (ad (gRc ks0 ws0 os0))), some (.int ((nI 0) + ((cs (gAr ks0 ws0 os0 0) 1) - (cs (gAr ks0 ws0 os0 0) j_7)))), some (.int (nI 0))]) dX6_ownRights_52 (Nat.le_of_ble_eq_true rfl) rfl ?_
      exact H
  · have H := H.2 c_1
    refine rl_aload_n dX6_ownRights_10 rfl rfl ?_
    refine rl_aload_n dX6_ownRights_11 rfl rfl ?_
    obtain ⟨o_10, H⟩ := H
    refine rt_getI (k := 3) cfX6 dX6_ownRights_12 flX6_44 (by decide) rfl (lSt L o_10) nzSt ?_
    refine rl_iload_n dX6_ownRights_15 rfl rfl ?_
    exact rl_callV (As := [.int (cs (gSt k0) 3), .int x2]) (rest := []) mfX6_roomAt dX6_ownRights_16 lkX6_83 (lSt L o_10).K (by decide) (Nat.le_of_ble_eq_true rfl) (Nat.le_refl _) (Nat.le_refl _) rfl (Nat.le_of_ble_eq_true rfl) rfl rfl (fun Qc k => H Qc (fun v h' w => k (some (.int v)) h' w))
theorem tX6_ownRights_19 {n : Nat} {ad : Nat → Nat} {h0 : Hp} {cs : Nat → Nat → Int32} {pm : Nat → Nat → Nat} (L : Lay n ad h0) {Q : Nat → Option Value → Hp → Prop} {k0 k3 o3 w3 : Nat} {x1 x2 xs0 : Int32} (H : vRc n k3 w3 o3 ∧ ((¬ x2 = 0 → (∃ j_3 : Nat, x2 = nI j_3 ∧ j_3 < 2 ∧ (Wm mX6_ownRights 2 0 0 Q 54 [some (.ref (ad (gSt k0))), some (.int x1), some (.int x2), some (.ref (ad (gRc k3 w3 o3))), some (.int (xs0 + ((cs (gAr k3 w3 o3 0) 0) - (cs (gAr k3 w3 o3 0) j_3)))), some (.int (nI 0))] [] (HN h0 ad cs pm) 0 0))) ∧ (x2 = 0 → (∃ j_6 : Nat, x2 = nI j_6 ∧ j_6 < 2 ∧ (Wm mX6_ownRights 2 0 0 Q 54 [some (.ref (ad (gSt k0))), some (.int x1), some (.int x2), some (.ref (ad (gRc k3 w3 o3))), some (.int (xs0 + ((cs (gAr k3 w3 o3 0) 1) - (cs (gAr k3 w3 o3 0) j_6)))), some (.int (nI 0))] [] (HN h0 ad cs pm) 0 0))))) : Wm mX6_ownRights 2 0 0 Q 19 [some (.ref (ad (gSt k0))), some (.int x1), some (.int x2), some (.ref (ad (gRc k3 w3 o3))), none, none] [.int xs0] (HN h0 ad cs pm) 0 0 := by
  refine rl_goto (tgt := 23) dX6_ownRights_19 (by decide) ?_
  refine rl_istore (L' := [some (.ref (ad (gSt k0))), some (.int x1), some (.int x2), some (.ref (ad (gRc k3 w3 o3))), some (.int xs0), none]) dX6_ownRights_23 (Nat.le_of_ble_eq_true rfl) rfl ?_
  refine rl_iload dX6_ownRights_25 rfl ?_
  refine rl_aload_n dX6_ownRights_27 rfl rfl ?_
  obtain ⟨o_1, H⟩ := H
  refine rt_getP (k := 2) cfX5 dX6_ownRights_28 flX6_77 (by decide) rfl (lRc L o_1) (rRc2 L o_1) (naRc L o_1) ?_
  refine rl_iload_n dX6_ownRights_31 rfl rfl ?_
  refine rl_if_ne (tgt := 39) dX6_ownRights_32 (by decide) (fun c_2 => ?_) (fun c_2 => ?_)
  · have H := H.1 c_2
    refine rl_iconst (v := nI 0) dX6_ownRights_39 (by decide) ?_
    refine rt_iald (j := 0) dX6_ownRights_40 (lAr0 L o_1) nzAr rfl (by decide) (by decide) ?_
    refine rl_aload_n dX6_ownRights_41 rfl rfl ?_
    refine rt_getP (k := 2) cfX5 dX6_ownRights_42 flX6_77 (by decide) rfl (lRc L o_1) (rRc2 L o_1) (naRc L o_1) ?_
    refine rl_iload_n dX6_ownRights_45 rfl rfl ?_
    obtain ⟨j_3, e_4, b_5, H⟩ := H
    refine rt_iald (j := j_3) dX6_ownRights_46 (lAr0 L o_1) nzAr e_4 b_5 (by decide) ?_
    refine rl_isub dX6_ownRights_47 ?_
    refine rl_iadd dX6_ownRights_48 ?_
    refine rl_istore (L' := [some (.ref (ad (gSt k0))), some (.int x1), some (.int x2), some (.ref (ad (gRc k3 w3 o3))), some (.int (xs0 + ((cs (gAr k3 w3 o3 0) 0) - (cs (gAr k3 w3 o3 0) j_3)))), none]) dX6_ownRights_49 (Nat.le_of_ble_eq_true rfl) rfl ?_
    refine rl_iconst (v := nI 0) dX6_ownRights_51 (by decide) ?_
    refine rl_istore (L' := [some (.ref (ad (gSt k0))), some (.int x1), some (.int x2), some (.ref (ad (gRc k3 w3 o3))), some (.int (xs0 + ((cs (gAr k3 w3 o3 0) 0) - (cs (gAr k3 w3 o3 0) j_3)))), some (.int (nI 0))]) dX6_ownRights_52 (Nat.le_of_ble_eq_true rfl) rfl ?_
    exact H
  · have H := H.2 c_2
    refine rl_iconst (v := nI 1) dX6_ownRights_35 (by decide) ?_
    refine rl_goto (tgt := 40) dX6_ownRights_36 (by decide) ?_
    refine rt_iald (j := 1) dX6_ownRights_40 (lAr0 L o_1) nzAr rfl (by decide) (by decide) ?_
    refine rl_aload_n dX6_ownRights_41 rfl rfl ?_
    refine rt_getP (k := 2) cfX5 dX6_ownRights_42 flX6_77 (by decide) rfl (lRc L o_1) (rRc2 L o_1) (naRc L o_1) ?_
    refine rl_iload_n dX6_ownRights_45 rfl rfl ?_
    obtain ⟨j_6, e_7, b_8, H⟩ := H
    refine rt_iald (j := j_6) dX6_ownRights_46 (lAr0 L o_1) nzAr e_7 b_8 (by decide) ?_
    refine rl_isub dX6_ownRights_47 ?_
    refine rl_iadd dX6_ownRights_48 ?_
    refine rl_istore (L' := [some (.ref (ad (gSt k0))), some (.int x1), some (.int x2), some (.ref (ad (gRc k3 w3 o3))), some (.int (xs0 + ((cs (gAr k3 w3 o3 0) 1) - (cs (gAr k3 w3 o3 0) j_6)))), none]) dX6_ownRights_49 (Nat.le_of_ble_eq_true rfl) rfl ?_
    refine rl_iconst (v := nI 0) dX6_ownRights_51 (by decide) ?_
    refine rl_istore (L' := [some (.ref (ad (gSt k0))), some (.int x1), some (.int x2), some (.ref (ad (gRc k3 w3 o3))), some (.int (xs0 + ((cs (gAr k3 w3 o3 0) 1) - (cs (gAr k3 w3 o3 0) j_6)))), some (.int (nI 0))]) dX6_ownRights_52 (Nat.le_of_ble_eq_true rfl) rfl ?_
    exact H
theorem tX6_ownRights_54 {n : Nat} {ad : Nat → Nat} {h0 : Hp} {cs : Nat → Nat → Int32} {pm : Nat → Nat → Nat} (L : Lay n ad h0) {Q : Nat → Option Value → Hp → Prop} {k0 k3 o3 w3 : Nat} {x1 x2 x4 x5 : Int32} (H : k0 < 7 ∧ (((cs (gSt k0) 0) ≤ x5 → Wm mX6_ownRights 2 0 0 Q 108 [some (.ref (ad (gSt k0))), some (.int x1), some (.int x2), none, some (.int x4), some (.int (nI 0))] [] (HN h0 ad cs pm) 0 0) ∧ (¬ (cs (gSt k0) 0) ≤ x5 → ((x5 = x1 → Wm mX6_ownRights 2 0 0 Q 99 [some (.ref (ad (gSt k0))), some (.int x1), some (.int x2), some (.ref (ad (gRc k3 w3 o3))), some (.int x4), some (.int x5)] [] (HN h0 ad cs pm) 0 0) ∧ (¬ x5 = x1 → (∃ j_4 : Nat, x1 = nI j_4 ∧ j_4 < n ∧ (∃ j_7 : Nat, x5 = nI j_7 ∧ j_7 < n ∧ (CKi mX5_givenTo 0 0 0 [some (.ref (ad (gRc k0 j_4 j_7))), some (.int x1), some (.int x2)] (HN h0 ad cs pm) (fun v h' => Wm mX6_ownRights 2 0 0 Q 88 [some (.ref (ad (gSt k0))), some (.int x1), some (.int x2), some (.ref (ad (gRc k3 w3 o3))), none, some (.int x5)] [.int v, .int x4] h' 0 0))))))))) : Wm mX6_ownRights 2 0 0 Q 54 [some (.ref (ad (gSt k0))), some (.int x1), some (.int x2), some (.ref (ad (gRc k3 w3 o3))), some (.int x4), some (.int x5)] [] (HN h0 ad cs pm) 0 0 := by
  refine rl_iload dX6_ownRights_54 rfl ?_
  refine rl_aload_n dX6_ownRights_56 rfl rfl ?_
  obtain ⟨o_1, H⟩ := H
  refine rt_getI (k := 0) cfX6 dX6_ownRights_57 flX6_23 (by decide) rfl (lSt L o_1) nzSt ?_
  refine rl_icmp_ge (tgt := 105) dX6_ownRights_60 (by decide) (fun c_2 => ?_) (fun c_2 => ?_)
  · have H := H.1 c_2
    refine rl_iconst (v := nI 0) dX6_ownRights_105 (by decide) ?_
    refine rl_istore (L' := [some (.ref (ad (gSt k0))), some (.int x1), some (.int x2), some (.ref (ad (gRc k3 w3 o3))), some (.int x4), some (.int (nI 0))]) dX6_ownRights_106 (Nat.le_of_ble_eq_true rfl) rfl ?_
    refine rl_wk (L' := [some (.ref (ad (gSt k0))), some (.int x1), some (.int x2), none, some (.int x4), some (.int (nI 0))]) ⟨rfl, ⟨rfl, ⟨rfl, ⟨rfl, ⟨rfl, trivial⟩⟩⟩⟩⟩ ?_
    exact H
  · have H := H.2 c_2
    refine rl_iload dX6_ownRights_63 rfl ?_
    refine rl_iload_n dX6_ownRights_65 rfl rfl ?_
    refine rl_icmp_eq (tgt := 99) dX6_ownRights_66 (by decide) (fun c_3 => ?_) (fun c_3 => ?_)
    · have H := H.1 c_3
      exact H
    · have H := H.2 c_3
      refine rl_iload dX6_ownRights_69 rfl ?_
      refine rl_aload_n dX6_ownRights_71 rfl rfl ?_
      refine rt_getP (k := 7) cfX6 dX6_ownRights_72 flX6_29 (by decide) rfl (lSt L o_1) (rStV L o_1) naSt ?_
      refine rl_iload_n dX6_ownRights_75 rfl rfl ?_
      obtain ⟨j_4, e_5, b_6, H⟩ := H
      refine rt_aald (ci := 7) (j := j_4) dX6_ownRights_76 rfl (lVa L o_1) e_5 b_6 (lay5 L) (rVa L o_1 b_6) naVa ?_
      refine rt_getP (k := 0) cfX7 dX6_ownRights_77 flX6_69 (by decide) rfl (lVw L ⟨o_1, Or.inl b_6⟩) (rVw L ⟨o_1, Or.inl b_6⟩) (naVw L ⟨o_1, Or.inl b_6⟩) ?_
      refine rl_iload dX6_ownRights_80 rfl ?_
      obtain ⟨j_7, e_8, b_9, H⟩ := H
      refine rt_aald (ci := 5) (j := j_7) dX6_ownRights_82 rfl (lRa L ⟨o_1, Or.inl b_6⟩) e_8 b_9 (lay5 L) (rRa L ⟨o_1, Or.inl b_6⟩ b_9) (naRa L ⟨o_1, Or.inl b_6⟩) ?_
      refine rl_iload_n dX6_ownRights_83 rfl rfl ?_
      refine rl_iload_n dX6_ownRights_84 rfl rfl ?_
      exact rl_callV (As := [.int x1, .int x2]) (rest := [.int x4]) mfX5_givenTo dX6_ownRights_85 lkX6_87 (lRc L ⟨⟨o_1, Or.inl b_6⟩, b_9⟩).K (by decide) (Nat.le_of_ble_eq_true rfl) (Nat.le_refl _) (Nat.le_refl _) rfl (Nat.le_of_ble_eq_true rfl) rfl rfl (fun Qc k => H Qc (fun v h' w => k (some (.int v)) h' (rl_wk (L' := [some (.ref (ad (gSt k0))), some (.int x1), some (.int x2), some (.ref (ad (gRc k3 w3 o3))), none, some (.int x5)]) ⟨rfl, ⟨rfl, ⟨rfl, ⟨rfl, ⟨rfl, trivial⟩⟩⟩⟩⟩ w)))
theorem tX6_ownRights_88 {n : Nat} {ad : Nat → Nat} {h0 : Hp} {cs : Nat → Nat → Int32} {pm : Nat → Nat → Nat} (L : Lay n ad h0) {Q : Nat → Option Value → Hp → Prop} {k0 k3 o3 w3 : Nat} {x1 x2 x5 xs0 xs1 : Int32} (H : vRc n k3 w3 o3 ∧ CKi mX5_givenTo 0 0 0 [some (.ref (ad (gRc k3 w3 o3))), some (.int x5), some (.int x2)] (HN h0 ad cs pm) (fun v h' => Wm mX6_ownRights 2 0 0 Q 95 [some (.ref (ad (gSt k0))), some (.int x1), some (.int x2), some (.ref (ad (gRc k3 w3 o3))), none, some (.int x5)] [.int v, .int xs1, .int xs0] h' 0 0)) : Wm mX6_ownRights 2 0 0 Q 88 [some (.ref (ad (gSt k0))), some (.int x1), some (.int x2), some (.ref (ad (gRc k3 w3 o3))), none, some (.int x5)] [.int xs1, .int xs0] (HN h0 ad cs pm) 0 0 := by
  refine rl_aload_n dX6_ownRights_88 rfl rfl ?_
  refine rl_iload dX6_ownRights_89 rfl ?_
  refine rl_iload_n dX6_ownRights_91 rfl rfl ?_
  obtain ⟨o_1, H⟩ := H
  exact rl_callV (As := [.int x5, .int x2]) (rest := [.int xs1, .int xs0]) mfX5_givenTo dX6_ownRights_92 lkX6_87 (lRc L o_1).K (by decide) (Nat.le_of_ble_eq_true rfl) (Nat.le_refl _) (Nat.le_refl _) rfl (Nat.le_of_ble_eq_true rfl) rfl rfl (fun Qc k => H Qc (fun v h' w => k (some (.int v)) h' w))
theorem tX6_ownRights_95 {n : Nat} {ad : Nat → Nat} {h0 : Hp} {cs : Nat → Nat → Int32} {pm : Nat → Nat → Nat} (L : Lay n ad h0) {Q : Nat → Option Value → Hp → Prop} {k0 k3 o3 w3 : Nat} {x1 x2 x5 xs0 xs1 xs2 : Int32} (H : Wm mX6_ownRights 2 0 0 Q 99 [some (.ref (ad (gSt k0))), some (.int x1), some (.int x2), some (.ref (ad (gRc k3 w3 o3))), some (.int (xs0 + (xs1 - xs2))), some (.int x5)] [] (HN h0 ad cs pm) 0 0) : Wm mX6_ownRights 2 0 0 Q 95 [some (.ref (ad (gSt k0))), some (.int x1), some (.int x2), some (.ref (ad (gRc k3 w3 o3))), none, some (.int x5)] [.int xs2, .int xs1, .int xs0] (HN h0 ad cs pm) 0 0 := by
  refine rl_isub dX6_ownRights_95 ?_
  refine rl_iadd dX6_ownRights_96 ?_
  refine rl_istore (L' := [some (.ref (ad (gSt k0))), some (.int x1), some (.int x2), some (.ref (ad (gRc k3 w3 o3))), some (.int (xs0 + (xs1 - xs2))), some (.int x5)]) dX6_ownRights_97 (Nat.le_of_ble_eq_true rfl) rfl ?_
  exact H
theorem tX6_ownRights_99 {n : Nat} {ad : Nat → Nat} {h0 : Hp} {cs : Nat → Nat → Int32} {pm : Nat → Nat → Nat} (L : Lay n ad h0) {Q : Nat → Option Value → Hp → Prop} {k0 k3 o3 w3 : Nat} {x1 x2 x4 x5 : Int32} (H : Wm mX6_ownRights 2 0 0 Q 54 [some (.ref (ad (gSt k0))), some (.int x1), some (.int x2), some (.ref (ad (gRc k3 w3 o3))), some (.int x4), some (.int (x5 + nI 1))] [] (HN h0 ad cs pm) 0 0) : Wm mX6_ownRights 2 0 0 Q 99 [some (.ref (ad (gSt k0))), some (.int x1), some (.int x2), some (.ref (ad (gRc k3 w3 o3))), some (.int x4), some (.int x5)] [] (HN h0 ad cs pm) 0 0 := by
  refine rl_iinc (v := x5 + nI 1) (L' := [some (.ref (ad (gSt k0))), some (.int x1), some (.int x2), some (.ref (ad (gRc k3 w3 o3))), some (.int x4), some (.int (x5 + nI 1))]) dX6_ownRights_99 rfl (congrArg (fun z => x5 + z) (by decide)) (Nat.le_of_ble_eq_true rfl) rfl ?_
  refine rl_goto (tgt := 54) dX6_ownRights_102 (by decide) ?_
  exact H
theorem tX6_ownRights_108 {n : Nat} {ad : Nat → Nat} {h0 : Hp} {cs : Nat → Nat → Int32} {pm : Nat → Nat → Nat} (L : Lay n ad h0) {Q : Nat → Option Value → Hp → Prop} {k0 : Nat} {x1 x2 x4 x5 : Int32} (H : k0 < 7 ∧ (((cs (gSt k0) 5) ≤ x5 → Q 0 (some (.int x4)) (HN h0 ad cs pm)) ∧ (¬ (cs (gSt k0) 5) ≤ x5 → (∃ j_3 : Nat, x5 = nI j_3 ∧ j_3 < 10 ∧ (((¬ (cs (gLn k0 j_3) 2) = x2 → Wm mX6_ownRights 2 0 0 Q 143 [some (.ref (ad (gSt k0))), some (.int x1), some (.int x2), none, some (.int x4), some (.int x5)] [] (HN h0 ad cs pm) 0 0) ∧ ((cs (gLn k0 j_3) 2) = x2 → CKi mX6_loanBalance 1 0 0 [some (.ref (ad (gSt k0))), some (.int x5), some (.int x1), none] (HN h0 ad cs pm) (fun v h' => Wm mX6_ownRights 2 0 0 Q 140 [some (.ref (ad (gSt k0))), some (.int x1), some (.int x2), none, none, some (.int x5)] [.int v, .int x4] h' 0 0)))))))) : Wm mX6_ownRights 2 0 0 Q 108 [some (.ref (ad (gSt k0))), some (.int x1), some (.int x2), none, some (.int x4), some (.int x5)] [] (HN h0 ad cs pm) 0 0 := by
  refine rl_iload dX6_ownRights_108 rfl ?_
  refine rl_aload_n dX6_ownRights_110 rfl rfl ?_
  obtain ⟨o_1, H⟩ := H
  refine rt_getI (k := 5) cfX6 dX6_ownRights_111 flX6_50 (by decide) rfl (lSt L o_1) nzSt ?_
  refine rl_icmp_ge (tgt := 149) dX6_ownRights_114 (by decide) (fun c_2 => ?_) (fun c_2 => ?_)
  · have H := H.1 c_2
    refine rl_iload dX6_ownRights_149 rfl ?_
    exact rl_iret dX6_ownRights_151 rfl (Nat.le_refl 0) (Nat.le_refl 0) H
  · have H := H.2 c_2
    refine rl_aload_n dX6_ownRights_117 rfl rfl ?_
    refine rt_getP (k := 8) cfX6 dX6_ownRights_118 flX6_11 (by decide) rfl (lSt L o_1) (rStL L o_1) naSt ?_
    refine rl_iload dX6_ownRights_121 rfl ?_
    obtain ⟨j_3, e_4, b_5, H⟩ := H
    refine rt_aald (ci := 2) (j := j_3) dX6_ownRights_123 rfl (lLa L o_1) e_4 b_5 (by decide) (rLa L o_1 b_5) naLa ?_
    refine rt_getI (k := 2) cfX2 dX6_ownRights_124 flX6_90 (by decide) rfl (lLn L ⟨o_1, b_5⟩) nzLn ?_
    refine rl_iload_n dX6_ownRights_127 rfl rfl ?_
    refine rl_icmp_ne (tgt := 143) dX6_ownRights_128 (by decide) (fun c_6 => ?_) (fun c_6 => ?_)
    · have H := H.1 c_6
      exact H
    · have H := H.2 c_6
      refine rl_iload dX6_ownRights_131 rfl ?_
      refine rl_aload_n dX6_ownRights_133 rfl rfl ?_
      refine rl_iload dX6_ownRights_134 rfl ?_
      refine rl_iload_n dX6_ownRights_136 rfl rfl ?_
      exact rl_callV (As := [.int x5, .int x1]) (rest := [.int x4]) mfX6_loanBalance dX6_ownRights_137 lkX6_93 (lSt L o_1).K (by decide) (Nat.le_of_ble_eq_true rfl) (Nat.le_refl _) (Nat.le_refl _) rfl (Nat.le_of_ble_eq_true rfl) rfl rfl (fun Qc k => H Qc (fun v h' w => k (some (.int v)) h' (rl_wk (L' := [some (.ref (ad (gSt k0))), some (.int x1), some (.int x2), none, none, some (.int x5)]) ⟨rfl, ⟨rfl, ⟨rfl, ⟨rfl, trivial⟩⟩⟩⟩ w)))
theorem tX6_ownRights_140 {n : Nat} {ad : Nat → Nat} {h0 : Hp} {cs : Nat → Nat → Int32} {pm : Nat → Nat → Nat} (L : Lay n ad h0) {Q : Nat → Option Value → Hp → Prop} {k0 : Nat} {x1 x2 x5 xs0 xs1 : Int32} (H : Wm mX6_ownRights 2 0 0 Q 143 [some (.ref (ad (gSt k0))), some (.int x1), some (.int x2), none, some (.int (xs0 + xs1)), some (.int x5)] [] (HN h0 ad cs pm) 0 0) : Wm mX6_ownRights 2 0 0 Q 140 [some (.ref (ad (gSt k0))), some (.int x1), some (.int x2), none, none, some (.int x5)] [.int xs1, .int xs0] (HN h0 ad cs pm) 0 0 := by
  refine rl_iadd dX6_ownRights_140 ?_
  refine rl_istore (L' := [some (.ref (ad (gSt k0))), some (.int x1), some (.int x2), none, some (.int (xs0 + xs1)), some (.int x5)]) dX6_ownRights_141 (Nat.le_of_ble_eq_true rfl) rfl ?_
  exact H
theorem tX6_ownRights_143 {n : Nat} {ad : Nat → Nat} {h0 : Hp} {cs : Nat → Nat → Int32} {pm : Nat → Nat → Nat} (L : Lay n ad h0) {Q : Nat → Option Value → Hp → Prop} {k0 : Nat} {x1 x2 x4 x5 : Int32} (H : Wm mX6_ownRights 2 0 0 Q 108 [some (.ref (ad (gSt k0))), some (.int x1), some (.int x2), none, some (.int x4), some (.int (x5 + nI 1))] [] (HN h0 ad cs pm) 0 0) : Wm mX6_ownRights 2 0 0 Q 143 [some (.ref (ad (gSt k0))), some (.int x1), some (.int x2), none, some (.int x4), some (.int x5)] [] (HN h0 ad cs pm) 0 0 := by
  refine rl_iinc (v := x5 + nI 1) (L' := [some (.ref (ad (gSt k0))), some (.int x1), some (.int x2), none, some (.int x4), some (.int (x5 + nI 1))]) dX6_ownRights_143 rfl (congrArg (fun z => x5 + z) (by decide)) (Nat.le_of_ble_eq_true rfl) rfl ?_
  refine rl_goto (tgt := 108) dX6_ownRights_146 (by decide) ?_
  exact H
theorem tX6_roomAt_0 {n : Nat} {ad : Nat → Nat} {h0 : Hp} {cs : Nat → Nat → Int32} {pm : Nat → Nat → Nat} (L : Lay n ad h0) {Q : Nat → Option Value → Hp → Prop} {k0 : Nat} {x1 x2 : Int32} (H : ((¬ x2 = 0 → k0 < 7 ∧ Q 0 (some (.int (x1 - (cs (gSt k0) 1)))) (HN h0 ad cs pm)) ∧ (x2 = 0 → k0 < 7 ∧ Q 0 (some (.int ((cs (gSt k0) 2) - x1))) (HN h0 ad cs pm)))) : Wm mX6_roomAt 0 0 0 Q 0 [some (.ref (ad (gSt k0))), some (.int x1), some (.int x2)] [] (HN h0 ad cs pm) 0 0 := by
  refine rl_iload_n dX6_roomAt_0 rfl rfl ?_
  refine rl_if_ne (tgt := 13) dX6_roomAt_1 (by decide) (fun c_1 => ?_) (fun c_1 => ?_)
  · have H := H.1 c_1
    refine rl_iload_n dX6_roomAt_13 rfl rfl ?_
    refine rl_aload_n dX6_roomAt_14 rfl rfl ?_
    obtain ⟨o_2, H⟩ := H
    refine rt_getI (k := 1) cfX6 dX6_roomAt_15 flX6_38 (by decide) rfl (lSt L o_2) nzSt ?_
    refine rl_isub dX6_roomAt_18 ?_
    exact rl_iret dX6_roomAt_19 rfl (Nat.le_refl 0) (Nat.le_refl 0) H
  · have H := H.2 c_1
    refine rl_aload_n dX6_roomAt_4 rfl rfl ?_
    obtain ⟨o_3, H⟩ := H
    refine rt_getI (k := 2) cfX6 dX6_roomAt_5 flX6_41 (by decide) rfl (lSt L o_3) nzSt ?_
    refine rl_iload_n dX6_roomAt_8 rfl rfl ?_
    refine rl_isub dX6_roomAt_9 ?_
    refine rl_goto (tgt := 19) dX6_roomAt_10 (by decide) ?_
    exact rl_iret dX6_roomAt_19 rfl (Nat.le_refl 0) (Nat.le_refl 0) H
theorem tX6_loanBalance_0 {n : Nat} {ad : Nat → Nat} {h0 : Hp} {cs : Nat → Nat → Int32} {pm : Nat → Nat → Nat} (L : Lay n ad h0) {Q : Nat → Option Value → Hp → Prop} {k0 : Nat} {x1 x2 : Int32} (H : k0 < 7 ∧ ∃ j_2 : Nat, x1 = nI j_2 ∧ j_2 < 10 ∧ (((¬ (cs (gLn k0 j_2) 1) = x2 → (((cs (gLn k0 j_2) 0) = x2 → CKi mX6_hasComeBack 0 0 0 [some (.ref (ad (gSt k0))), some (.ref (ad (gLn k0 j_2)))] (HN h0 ad cs pm) (fun v h' => Wm mX6_loanBalance 1 0 0 Q 41 [some (.ref (ad (gSt k0))), some (.int x1), some (.int x2), some (.ref (ad (gLn k0 j_2)))] [.int v] h' 0 0)) ∧ (¬ (cs (gLn k0 j_2) 0) = x2 → Q 0 (some (.int (nI 0))) (HN h0 ad cs pm)))) ∧ ((cs (gLn k0 j_2) 1) = x2 → CKr mX6_recordOf 0 0 0 [some (.ref (ad (gSt k0))), some (.int x2)] (HN h0 ad cs pm) (fun v h' => Wm mX6_loanBalance 1 0 0 Q 20 [none, some (.int x1), none, none] [.ref v] h' 0 0))))) : Wm mX6_loanBalance 1 0 0 Q 0 [some (.ref (ad (gSt k0))), some (.int x1), some (.int x2), none] [] (HN h0 ad cs pm) 0 0 := by
  refine rl_aload_n dX6_loanBalance_0 rfl rfl ?_
  obtain ⟨o_1, H⟩ := H
  refine rt_getP (k := 8) cfX6 dX6_loanBalance_1 flX6_11 (by decide) rfl (lSt L o_1) (rStL L o_1) naSt ?_
  refine rl_iload_n dX6_loanBalance_4 rfl rfl ?_
  obtain ⟨j_2, e_3, b_4, H⟩ := H
  refine rt_aald (ci := 2) (j := j_2) dX6_loanBalance_5 rfl (lLa L o_1) e_3 b_4 (by decide) (rLa L o_1 b_4) naLa ?_
  refine rl_astore_n (L' := [some (.ref (ad (gSt k0))), some (.int x1), some (.int x2), some (.ref (ad (gLn k0 j_2)))]) dX6_loanBalance_6 rfl (Nat.le_of_ble_eq_true rfl) rfl ?_
  refine rl_aload_n dX6_loanBalance_7 rfl rfl ?_
  refine rt_getI (k := 1) cfX2 dX6_loanBalance_8 flX6_96 (by decide) rfl (lLn L ⟨o_1, b_4⟩) nzLn ?_
  refine rl_iload_n dX6_loanBalance_11 rfl rfl ?_
  refine rl_icmp_ne (tgt := 26) dX6_loanBalance_12 (by decide) (fun c_5 => ?_) (fun c_5 => ?_)
  · have H := H.1 c_5
    refine rl_aload_n dX6_loanBalance_26 rfl rfl ?_
    refine rt_getI (k := 0) cfX2 dX6_loanBalance_27 flX6_102 (by decide) rfl (lLn L ⟨o_1, b_4⟩) nzLn ?_
    refine rl_iload_n dX6_loanBalance_30 rfl rfl ?_
    refine rl_icmp_eq (tgt := 36) dX6_loanBalance_31 (by decide) (fun c_6 => ?_) (fun c_6 => ?_)
    · have H := H.1 c_6
      refine rl_aload_n dX6_loanBalance_36 rfl rfl ?_
      refine rl_aload_n dX6_loanBalance_37 rfl rfl ?_
      exact rl_callV (As := [.ref (ad (gLn k0 j_2))]) (rest := []) mfX6_hasComeBack dX6_loanBalance_38 lkX6_105 (lSt L o_1).K (by decide) (Nat.le_of_ble_eq_true rfl) (Nat.le_refl _) (Nat.le_refl _) rfl (Nat.le_of_ble_eq_true rfl) rfl rfl (fun Qc k => H Qc (fun v h' w => k (some (.int v)) h' w))
    · have H := H.2 c_6
      refine rl_iconst (v := nI 0) dX6_loanBalance_34 (by decide) ?_
      exact rl_iret dX6_loanBalance_35 rfl (Nat.le_refl 0) (Nat.le_refl 0) H
  · have H := H.2 c_5
    refine rl_aload_n dX6_loanBalance_15 rfl rfl ?_
    refine rl_iload_n dX6_loanBalance_16 rfl rfl ?_
    exact rl_callV (As := [.int x2]) (rest := []) mfX6_recordOf dX6_loanBalance_17 lkX6_73 (lSt L o_1).K (by decide) (Nat.le_of_ble_eq_true rfl) (Nat.le_refl _) (Nat.le_refl _) rfl (Nat.le_of_ble_eq_true rfl) rfl rfl (fun Qc k => H Qc (fun v h' w => k (some (.ref v)) h' (rl_wk (L' := [none, some (.int x1), none, none]) ⟨rfl, trivial⟩ w)))
theorem tX6_loanBalance_20 {n : Nat} {ad : Nat → Nat} {h0 : Hp} {cs : Nat → Nat → Int32} {pm : Nat → Nat → Nat} (L : Lay n ad h0) {Q : Nat → Option Value → Hp → Prop} {ks0 os0 ws0 : Nat} {x1 : Int32} (H : vRc n ks0 ws0 os0 ∧ ∃ j_2 : Nat, x1 = nI j_2 ∧ j_2 < 10 ∧ (Q 0 (some (.int (cs (gAr ks0 ws0 os0 3) j_2))) (HN h0 ad cs pm))) : Wm mX6_loanBalance 1 0 0 Q 20 [none, some (.int x1), none, none] [.ref (ad (gRc ks0 ws0 os0))] (HN h0 ad cs pm) 0 0 := by
  obtain ⟨o_1, H⟩ := H
  refine rt_getP (k := 6) cfX5 dX6_loanBalance_20 flX6_99 (by decide) rfl (lRc L o_1) (rRc6 L o_1) (naRc L o_1) ?_
  refine rl_iload_n dX6_loanBalance_23 rfl rfl ?_
  obtain ⟨j_2, e_3, b_4, H⟩ := H
  refine rt_iald (j := j_2) dX6_loanBalance_24 (lAr3 L o_1) nzAr e_3 b_4 (by decide) ?_
  exact rl_iret dX6_loanBalance_25 rfl (Nat.le_refl 0) (Nat.le_refl 0) H
theorem tX6_loanBalance_41 {n : Nat} {ad : Nat → Nat} {h0 : Hp} {cs : Nat → Nat → Int32} {pm : Nat → Nat → Nat} (L : Lay n ad h0) {Q : Nat → Option Value → Hp → Prop} {k0 k3 l3 : Nat} {x1 x2 xs0 : Int32} (H : ((¬ xs0 = 0 → k0 < 7 ∧ ∃ j_3 : Nat, x2 = nI j_3 ∧ j_3 < n ∧ ((k3 < 7 ∧ l3 < 10) ∧ ∃ j_7 : Nat, cs (gLn k3 l3) 1 = nI j_7 ∧ j_7 < n ∧ (∃ j_10 : Nat, x1 = nI j_10 ∧ j_10 < 10 ∧ (Q 0 (some (.int (-(cs (gAr k0 j_3 j_7 3) j_10)))) (HN h0 ad cs pm))))) ∧ (xs0 = 0 → (k3 < 7 ∧ l3 < 10) ∧ Q 0 (some (.int (-(cs (gLn k3 l3) 3)))) (HN h0 ad cs pm)))) : Wm mX6_loanBalance 1 0 0 Q 41 [some (.ref (ad (gSt k0))), some (.int x1), some (.int x2), some (.ref (ad (gLn k3 l3)))] [.int xs0] (HN h0 ad cs pm) 0 0 := by
  refine rl_if_ne (tgt := 50) dX6_loanBalance_41 (by decide) (fun c_1 => ?_) (fun c_1 => ?_)
  · have H := H.1 c_1
    refine rl_aload_n dX6_loanBalance_50 rfl rfl ?_
    obtain ⟨o_2, H⟩ := H
    refine rt_getP (k := 7) cfX6 dX6_loanBalance_51 flX6_29 (by decide) rfl (lSt L o_2) (rStV L o_2) naSt ?_
    refine rl_iload_n dX6_loanBalance_54 rfl rfl ?_
    obtain ⟨j_3, e_4, b_5, H⟩ := H
    refine rt_aald (ci := 7) (j := j_3) dX6_loanBalance_55 rfl (lVa L o_2) e_4 b_5 (lay5 L) (rVa L o_2 b_5) naVa ?_
    refine rt_getP (k := 0) cfX7 dX6_loanBalance_56 flX6_69 (by decide) rfl (lVw L ⟨o_2, Or.inl b_5⟩) (rVw L ⟨o_2, Or.inl b_5⟩) (naVw L ⟨o_2, Or.inl b_5⟩) ?_
    refine rl_aload_n dX6_loanBalance_59 rfl rfl ?_
    obtain ⟨o_6, H⟩ := H
    refine rt_getI (k := 1) cfX2 dX6_loanBalance_60 flX6_96 (by decide) rfl (lLn L o_6) nzLn ?_
    obtain ⟨j_7, e_8, b_9, H⟩ := H
    refine rt_aald (ci := 5) (j := j_7) dX6_loanBalance_63 rfl (lRa L ⟨o_2, Or.inl b_5⟩) e_8 b_9 (lay5 L) (rRa L ⟨o_2, Or.inl b_5⟩ b_9) (naRa L ⟨o_2, Or.inl b_5⟩) ?_
    refine rt_getP (k := 6) cfX5 dX6_loanBalance_64 flX6_99 (by decide) rfl (lRc L ⟨⟨o_2, Or.inl b_5⟩, b_9⟩) (rRc6 L ⟨⟨o_2, Or.inl b_5⟩, b_9⟩) (naRc L ⟨⟨o_2, Or.inl b_5⟩, b_9⟩) ?_
    refine rl_iload_n dX6_loanBalance_67 rfl rfl ?_
    obtain ⟨j_10, e_11, b_12, H⟩ := H
    refine rt_iald (j := j_10) dX6_loanBalance_68 (lAr3 L ⟨⟨o_2, Or.inl b_5⟩, b_9⟩) nzAr e_11 b_12 (by decide) ?_
    refine rl_ineg dX6_loanBalance_69 ?_
    exact rl_iret dX6_loanBalance_70 rfl (Nat.le_refl 0) (Nat.le_refl 0) H
  · have H := H.2 c_1
    refine rl_aload_n dX6_loanBalance_44 rfl rfl ?_
    obtain ⟨o_13, H⟩ := H
    refine rt_getI (k := 3) cfX2 dX6_loanBalance_45 flX6_109 (by decide) rfl (lLn L o_13) nzLn ?_
    refine rl_ineg dX6_loanBalance_48 ?_
    exact rl_iret dX6_loanBalance_49 rfl (Nat.le_refl 0) (Nat.le_refl 0) H
theorem tX6_hasComeBack_0 {n : Nat} {ad : Nat → Nat} {h0 : Hp} {cs : Nat → Nat → Int32} {pm : Nat → Nat → Nat} (L : Lay n ad h0) {Q : Nat → Option Value → Hp → Prop} {k0 k1 l1 : Nat} (H : k0 < 7 ∧ (k1 < 7 ∧ l1 < 10) ∧ (((cs (gSt k0) 4) < (cs (gLn k1 l1) 4) → Q 0 (some (.int (nI 0))) (HN h0 ad cs pm)) ∧ (¬ (cs (gSt k0) 4) < (cs (gLn k1 l1) 4) → (∃ j_4 : Nat, cs (gLn k1 l1) 0 = nI j_4 ∧ j_4 < n ∧ (∃ j_7 : Nat, cs (gLn k1 l1) 1 = nI j_7 ∧ j_7 < n ∧ ((((cs (gRc k0 j_4 j_7) 1) < (cs (gLn k1 l1) 4) → Q 0 (some (.int (nI 0))) (HN h0 ad cs pm)) ∧ (¬ (cs (gRc k0 j_4 j_7) 1) < (cs (gLn k1 l1) 4) → Q 0 (some (.int (nI 1))) (HN h0 ad cs pm))))))))) : Wm mX6_hasComeBack 0 0 0 Q 0 [some (.ref (ad (gSt k0))), some (.ref (ad (gLn k1 l1)))] [] (HN h0 ad cs pm) 0 0 := by
  refine rl_aload_n dX6_hasComeBack_0 rfl rfl ?_
  obtain ⟨o_1, H⟩ := H
  refine rt_getI (k := 4) cfX6 dX6_hasComeBack_1 flX6_47 (by decide) rfl (lSt L o_1) nzSt ?_
  refine rl_aload_n dX6_hasComeBack_4 rfl rfl ?_
  obtain ⟨o_2, H⟩ := H
  refine rt_getI (k := 4) cfX2 dX6_hasComeBack_5 flX6_112 (by decide) rfl (lLn L o_2) nzLn ?_
  refine rl_icmp_lt (tgt := 42) dX6_hasComeBack_8 (by decide) (fun c_3 => ?_) (fun c_3 => ?_)
  · have H := H.1 c_3
    refine rl_iconst (v := nI 0) dX6_hasComeBack_42 (by decide) ?_
    exact rl_zret dX6_hasComeBack_43 rfl rfl (Nat.le_refl 0) (Nat.le_refl 0) H
  · have H := H.2 c_3
    refine rl_aload_n dX6_hasComeBack_11 rfl rfl ?_
    refine rt_getP (k := 7) cfX6 dX6_hasComeBack_12 flX6_29 (by decide) rfl (lSt L o_1) (rStV L o_1) naSt ?_
    refine rl_aload_n dX6_hasComeBack_15 rfl rfl ?_
    refine rt_getI (k := 0) cfX2 dX6_hasComeBack_16 flX6_102 (by decide) rfl (lLn L o_2) nzLn ?_
    obtain ⟨j_4, e_5, b_6, H⟩ := H
    refine rt_aald (ci := 7) (j := j_4) dX6_hasComeBack_19 rfl (lVa L o_1) e_5 b_6 (lay5 L) (rVa L o_1 b_6) naVa ?_
    refine rt_getP (k := 0) cfX7 dX6_hasComeBack_20 flX6_69 (by decide) rfl (lVw L ⟨o_1, Or.inl b_6⟩) (rVw L ⟨o_1, Or.inl b_6⟩) (naVw L ⟨o_1, Or.inl b_6⟩) ?_
    refine rl_aload_n dX6_hasComeBack_23 rfl rfl ?_
    refine rt_getI (k := 1) cfX2 dX6_hasComeBack_24 flX6_96 (by decide) rfl (lLn L o_2) nzLn ?_
    obtain ⟨j_7, e_8, b_9, H⟩ := H
    refine rt_aald (ci := 5) (j := j_7) dX6_hasComeBack_27 rfl (lRa L ⟨o_1, Or.inl b_6⟩) e_8 b_9 (lay5 L) (rRa L ⟨o_1, Or.inl b_6⟩ b_9) (naRa L ⟨o_1, Or.inl b_6⟩) ?_
    refine rt_getI (k := 1) cfX5 dX6_hasComeBack_28 flX6_115 (by decide) rfl (lRc L ⟨⟨o_1, Or.inl b_6⟩, b_9⟩) nzRc ?_
    refine rl_aload_n dX6_hasComeBack_31 rfl rfl ?_
    refine rt_getI (k := 4) cfX2 dX6_hasComeBack_32 flX6_112 (by decide) rfl (lLn L o_2) nzLn ?_
    refine rl_icmp_lt (tgt := 42) dX6_hasComeBack_35 (by decide) (fun c_10 => ?_) (fun c_10 => ?_)
    · have H := H.1 c_10
      refine rl_iconst (v := nI 0) dX6_hasComeBack_42 (by decide) ?_
      exact rl_zret dX6_hasComeBack_43 rfl rfl (Nat.le_refl 0) (Nat.le_refl 0) H
    · have H := H.2 c_10
      refine rl_iconst (v := nI 1) dX6_hasComeBack_38 (by decide) ?_
      refine rl_goto (tgt := 43) dX6_hasComeBack_39 (by decide) ?_
      exact rl_zret dX6_hasComeBack_43 rfl rfl (Nat.le_refl 0) (Nat.le_refl 0) H
theorem tX6_restOf_0 {n : Nat} {ad : Nat → Nat} {h0 : Hp} {cs : Nat → Nat → Int32} {pm : Nat → Nat → Nat} (L : Lay n ad h0) {Q : Nat → Option Value → Hp → Prop} {k0 : Nat} {x1 : Int32} (H : k0 < 7 ∧ ∃ j_2 : Nat, x1 = nI j_2 ∧ j_2 < 10 ∧ (∃ j_5 : Nat, cs (gLn k0 j_2) 1 = nI j_5 ∧ j_5 < n ∧ (∃ j_8 : Nat, cs (gLn k0 j_2) 0 = nI j_8 ∧ j_8 < n ∧ (CKi mX5_hasLent 0 0 0 [some (.ref (ad (gRc k0 j_5 j_8))), some (.int x1)] (HN h0 ad cs pm) (fun v h' => Wm mX6_restOf 1 0 0 Q 28 [some (.ref (ad (gSt k0))), some (.int x1), some (.ref (ad (gLn k0 j_2))), none] [.int v] h' 0 0))))) : Wm mX6_restOf 1 0 0 Q 0 [some (.ref (ad (gSt k0))), some (.int x1), none, none] [] (HN h0 ad cs pm) 0 0 := by
  refine rl_aload_n dX6_restOf_0 rfl rfl ?_
  obtain ⟨o_1, H⟩ := H
  refine rt_getP (k := 8) cfX6 dX6_restOf_1 flX6_11 (by decide) rfl (lSt L o_1) (rStL L o_1) naSt ?_
  refine rl_iload_n dX6_restOf_4 rfl rfl ?_
  obtain ⟨j_2, e_3, b_4, H⟩ := H
  refine rt_aald (ci := 2) (j := j_2) dX6_restOf_5 rfl (lLa L o_1) e_3 b_4 (by decide) (rLa L o_1 b_4) naLa ?_
  refine rl_astore_n (L' := [some (.ref (ad (gSt k0))), some (.int x1), some (.ref (ad (gLn k0 j_2))), none]) dX6_restOf_6 rfl (Nat.le_of_ble_eq_true rfl) rfl ?_
  refine rl_aload_n dX6_restOf_7 rfl rfl ?_
  refine rt_getP (k := 7) cfX6 dX6_restOf_8 flX6_29 (by decide) rfl (lSt L o_1) (rStV L o_1) naSt ?_
  refine rl_aload_n dX6_restOf_11 rfl rfl ?_
  refine rt_getI (k := 1) cfX2 dX6_restOf_12 flX6_96 (by decide) rfl (lLn L ⟨o_1, b_4⟩) nzLn ?_
  obtain ⟨j_5, e_6, b_7, H⟩ := H
  refine rt_aald (ci := 7) (j := j_5) dX6_restOf_15 rfl (lVa L o_1) e_6 b_7 (lay5 L) (rVa L o_1 b_7) naVa ?_
  refine rt_getP (k := 0) cfX7 dX6_restOf_16 flX6_69 (by decide) rfl (lVw L ⟨o_1, Or.inl b_7⟩) (rVw L ⟨o_1, Or.inl b_7⟩) (naVw L ⟨o_1, Or.inl b_7⟩) ?_
  refine rl_aload_n dX6_restOf_19 rfl rfl ?_
  refine rt_getI (k := 0) cfX2 dX6_restOf_20 flX6_102 (by decide) rfl (lLn L ⟨o_1, b_4⟩) nzLn ?_
  obtain ⟨j_8, e_9, b_10, H⟩ := H
  refine rt_aald (ci := 5) (j := j_8) dX6_restOf_23 rfl (lRa L ⟨o_1, Or.inl b_7⟩) e_9 b_10 (lay5 L) (rRa L ⟨o_1, Or.inl b_7⟩ b_10) (naRa L ⟨o_1, Or.inl b_7⟩) ?_
  refine rl_iload_n dX6_restOf_24 rfl rfl ?_
  exact rl_callV (As := [.int x1]) (rest := []) mfX5_hasLent dX6_restOf_25 lkX6_116 (lRc L ⟨⟨o_1, Or.inl b_7⟩, b_10⟩).K (by decide) (Nat.le_of_ble_eq_true rfl) (Nat.le_refl _) (Nat.le_refl _) rfl (Nat.le_of_ble_eq_true rfl) rfl rfl (fun Qc k => H Qc (fun v h' w => k (some (.int v)) h' w))
theorem tX6_restOf_28 {n : Nat} {ad : Nat → Nat} {h0 : Hp} {cs : Nat → Nat → Int32} {pm : Nat → Nat → Nat} (L : Lay n ad h0) {Q : Nat → Option Value → Hp → Prop} {k0 k2 l2 : Nat} {x1 xs0 : Int32} (H : ((xs0 = 0 → Q 0 (some (.int (nI 0))) (HN h0 ad cs pm)) ∧ (¬ xs0 = 0 → k0 < 7 ∧ (k2 < 7 ∧ l2 < 10) ∧ (((cs (gSt k0) 4) < (cs (gLn k2 l2) 4) → CKr mX6_recordOf 0 0 0 [some (.ref (ad (gSt k0))), some (.int (cs (gLn k2 l2) 1))] (HN h0 ad cs pm) (fun v h' => Wm mX6_restOf 1 0 0 Q 58 [none, some (.int x1), none, none] [.ref v, .int (cs (gLn k2 l2) 3)] h' 0 0)) ∧ (¬ (cs (gSt k0) 4) < (cs (gLn k2 l2) 4) → Q 0 (some (.int (nI 0))) (HN h0 ad cs pm)))))) : Wm mX6_restOf 1 0 0 Q 28 [some (.ref (ad (gSt k0))), some (.int x1), some (.ref (ad (gLn k2 l2))), none] [.int xs0] (HN h0 ad cs pm) 0 0 := by
  refine rl_istore_n (L' := [some (.ref (ad (gSt k0))), some (.int x1), some (.ref (ad (gLn k2 l2))), some (.int xs0)]) dX6_restOf_28 rfl (Nat.le_of_ble_eq_true rfl) rfl ?_
  refine rl_iload_n dX6_restOf_29 rfl rfl ?_
  refine rl_if_eq (tgt := 44) dX6_restOf_30 (by decide) (fun c_1 => ?_) (fun c_1 => ?_)
  · have H := H.1 c_1
    refine rl_iconst (v := nI 0) dX6_restOf_44 (by decide) ?_
    exact rl_iret dX6_restOf_45 rfl (Nat.le_refl 0) (Nat.le_refl 0) H
  · have H := H.2 c_1
    refine rl_aload_n dX6_restOf_33 rfl rfl ?_
    obtain ⟨o_2, H⟩ := H
    refine rt_getI (k := 4) cfX6 dX6_restOf_34 flX6_47 (by decide) rfl (lSt L o_2) nzSt ?_
    refine rl_aload_n dX6_restOf_37 rfl rfl ?_
    obtain ⟨o_3, H⟩ := H
    refine rt_getI (k := 4) cfX2 dX6_restOf_38 flX6_112 (by decide) rfl (lLn L o_3) nzLn ?_
    refine rl_icmp_lt (tgt := 46) dX6_restOf_41 (by decide) (fun c_4 => ?_) (fun c_4 => ?_)
    · have H := H.1 c_4
      refine rl_aload_n dX6_restOf_46 rfl rfl ?_
      refine rt_getI (k := 3) cfX2 dX6_restOf_47 flX6_109 (by decide) rfl (lLn L o_3) nzLn ?_
      refine rl_aload_n dX6_restOf_50 rfl rfl ?_
      refine rl_aload_n dX6_restOf_51 rfl rfl ?_
      refine rt_getI (k := 1) cfX2 dX6_restOf_52 flX6_96 (by decide) rfl (lLn L o_3) nzLn ?_
      exact rl_callV (As := [.int (cs (gLn k2 l2) 1)]) (rest := [.int (cs (gLn k2 l2) 3)]) mfX6_recordOf dX6_restOf_55 lkX6_73 (lSt L o_2).K (by decide) (Nat.le_of_ble_eq_true rfl) (Nat.le_refl _) (Nat.le_refl _) rfl (Nat.le_of_ble_eq_true rfl) rfl rfl (fun Qc k => H Qc (fun v h' w => k (some (.ref v)) h' (rl_wk (L' := [none, some (.int x1), none, none]) ⟨rfl, trivial⟩ w)))
    · have H := H.2 c_4
      refine rl_iconst (v := nI 0) dX6_restOf_44 (by decide) ?_
      exact rl_iret dX6_restOf_45 rfl (Nat.le_refl 0) (Nat.le_refl 0) H
theorem tX6_restOf_58 {n : Nat} {ad : Nat → Nat} {h0 : Hp} {cs : Nat → Nat → Int32} {pm : Nat → Nat → Nat} (L : Lay n ad h0) {Q : Nat → Option Value → Hp → Prop} {ks1 os1 ws1 : Nat} {x1 xs0 : Int32} (H : vRc n ks1 ws1 os1 ∧ ∃ j_2 : Nat, x1 = nI j_2 ∧ j_2 < 10 ∧ (Q 0 (some (.int (xs0 - (cs (gAr ks1 ws1 os1 3) j_2)))) (HN h0 ad cs pm))) : Wm mX6_restOf 1 0 0 Q 58 [none, some (.int x1), none, none] [.ref (ad (gRc ks1 ws1 os1)), .int xs0] (HN h0 ad cs pm) 0 0 := by
  obtain ⟨o_1, H⟩ := H
  refine rt_getP (k := 6) cfX5 dX6_restOf_58 flX6_99 (by decide) rfl (lRc L o_1) (rRc6 L o_1) (naRc L o_1) ?_
  refine rl_iload_n dX6_restOf_61 rfl rfl ?_
  obtain ⟨j_2, e_3, b_4, H⟩ := H
  refine rt_iald (j := j_2) dX6_restOf_62 (lAr3 L o_1) nzAr e_3 b_4 (by decide) ?_
  refine rl_isub dX6_restOf_63 ?_
  exact rl_iret dX6_restOf_64 rfl (Nat.le_refl 0) (Nat.le_refl 0) H
theorem tX6_useLoans_0 {n : Nat} {ad : Nat → Nat} {h0 : Hp} {cs : Nat → Nat → Int32} {pm : Nat → Nat → Nat} (L : Lay n ad h0) {Q : Nat → Option Value → Hp → Prop} {k0 : Nat} {x1 x2 x3 : Int32} (H : Wm mX6_useLoans 3 0 0 Q 6 [some (.ref (ad (gSt k0))), some (.int x1), some (.int x2), none, some (.int x3), some (.int (nI 0)), none, none] [] (HN h0 ad cs pm) 0 0) : Wm mX6_useLoans 3 0 0 Q 0 [some (.ref (ad (gSt k0))), some (.int x1), some (.int x2), some (.int x3), none, none, none, none] [] (HN h0 ad cs pm) 0 0 := by
  refine rl_iload_n dX6_useLoans_0 rfl rfl ?_
  refine rl_istore (L' := [some (.ref (ad (gSt k0))), some (.int x1), some (.int x2), some (.int x3), some (.int x3), none, none, none]) dX6_useLoans_1 (Nat.le_of_ble_eq_true rfl) rfl ?_
  refine rl_iconst (v := nI 0) dX6_useLoans_3 (by decide) ?_
  refine rl_istore (L' := [some (.ref (ad (gSt k0))), some (.int x1), some (.int x2), some (.int x3), some (.int x3), some (.int (nI 0)), none, none]) dX6_useLoans_4 (Nat.le_of_ble_eq_true rfl) rfl ?_
  refine rl_wk (L' := [some (.ref (ad (gSt k0))), some (.int x1), some (.int x2), none, some (.int x3), some (.int (nI 0)), none, none]) ⟨rfl, ⟨rfl, ⟨rfl, ⟨rfl, ⟨rfl, trivial⟩⟩⟩⟩⟩ ?_
  exact H
theorem tX6_useLoans_6 {n : Nat} {ad : Nat → Nat} {h0 : Hp} {cs : Nat → Nat → Int32} {pm : Nat → Nat → Nat} (L : Lay n ad h0) {Q : Nat → Option Value → Hp → Prop} {k0 : Nat} {x1 x2 x4 x5 : Int32} (H : k0 < 7 ∧ (((cs (gSt k0) 5) ≤ x5 → Q 0 none (HN h0 ad cs pm)) ∧ (¬ (cs (gSt k0) 5) ≤ x5 → ((x4 ≤ 0 → Q 0 none (HN h0 ad cs pm)) ∧ (¬ x4 ≤ 0 → CKi mX6_soonestLoan 2 0 0 [some (.ref (ad (gSt k0))), some (.int x1), some (.int x2), none, none, none] (HN h0 ad cs pm) (fun v h' => Wm mX6_useLoans 3 0 0 Q 26 [some (.ref (ad (gSt k0))), some (.int x1), some (.int x2), none, some (.int x4), some (.int x5), none, none] [.int v] h' 0 0)))))) : Wm mX6_useLoans 3 0 0 Q 6 [some (.ref (ad (gSt k0))), some (.int x1), some (.int x2), none, some (.int x4), some (.int x5), none, none] [] (HN h0 ad cs pm) 0 0 := by
  refine rl_iload dX6_useLoans_6 rfl ?_
  refine rl_aload_n dX6_useLoans_8 rfl rfl ?_
  obtain ⟨o_1, H⟩ := H
  refine rt_getI (k := 5) cfX6 dX6_useLoans_9 flX6_50 (by decide) rfl (lSt L o_1) nzSt ?_
  refine rl_icmp_ge (tgt := 77) dX6_useLoans_12 (by decide) (fun c_2 => ?_) (fun c_2 => ?_)
  · have H := H.1 c_2
    exact rl_vret dX6_useLoans_77 rfl (Nat.le_refl 0) (Nat.le_refl 0) H
  · have H := H.2 c_2
    refine rl_iload dX6_useLoans_15 rfl ?_
    refine rl_if_le (tgt := 77) dX6_useLoans_17 (by decide) (fun c_3 => ?_) (fun c_3 => ?_)
    · have H := H.1 c_3
      exact rl_vret dX6_useLoans_77 rfl (Nat.le_refl 0) (Nat.le_refl 0) H
    · have H := H.2 c_3
      refine rl_aload_n dX6_useLoans_20 rfl rfl ?_
      refine rl_iload_n dX6_useLoans_21 rfl rfl ?_
      refine rl_iload_n dX6_useLoans_22 rfl rfl ?_
      exact rl_callV (As := [.int x1, .int x2]) (rest := []) mfX6_soonestLoan dX6_useLoans_23 lkX6_153 (lSt L o_1).K (by decide) (Nat.le_of_ble_eq_true rfl) (Nat.le_refl _) (Nat.le_refl _) rfl (Nat.le_of_ble_eq_true rfl) rfl rfl (fun Qc k => H Qc (fun v h' w => k (some (.int v)) h' w))
theorem tX6_useLoans_26 {n : Nat} {ad : Nat → Nat} {h0 : Hp} {cs : Nat → Nat → Int32} {pm : Nat → Nat → Nat} (L : Lay n ad h0) {Q : Nat → Option Value → Hp → Prop} {k0 : Nat} {x1 x2 x4 x5 xs0 : Int32} (H : ((¬ xs0 = (-1) → k0 < 7 ∧ CKi mX6_restOf 1 0 0 [some (.ref (ad (gSt k0))), some (.int xs0), none, none] (HN h0 ad cs pm) (fun v h' => Wm mX6_useLoans 3 0 0 Q 43 [some (.ref (ad (gSt k0))), some (.int x1), some (.int x2), none, some (.int x4), some (.int x5), some (.int xs0), none] [.int v, .int x4] h' 0 0)) ∧ (xs0 = (-1) → Q 0 none (HN h0 ad cs pm)))) : Wm mX6_useLoans 3 0 0 Q 26 [some (.ref (ad (gSt k0))), some (.int x1), some (.int x2), none, some (.int x4), some (.int x5), none, none] [.int xs0] (HN h0 ad cs pm) 0 0 := by
  refine rl_istore (L' := [some (.ref (ad (gSt k0))), some (.int x1), some (.int x2), none, some (.int x4), some (.int x5), some (.int xs0), none]) dX6_useLoans_26 (Nat.le_of_ble_eq_true rfl) rfl ?_
  refine rl_iload dX6_useLoans_28 rfl ?_
  refine rl_iconst (v := -1) dX6_useLoans_30 (by decide) ?_
  refine rl_icmp_ne (tgt := 35) dX6_useLoans_31 (by decide) (fun c_1 => ?_) (fun c_1 => ?_)
  · have H := H.1 c_1
    refine rl_iload dX6_useLoans_35 rfl ?_
    refine rl_aload_n dX6_useLoans_37 rfl rfl ?_
    refine rl_iload dX6_useLoans_38 rfl ?_
    obtain ⟨o_2, H⟩ := H
    exact rl_callV (As := [.int xs0]) (rest := [.int x4]) mfX6_restOf dX6_useLoans_40 lkX6_123 (lSt L o_2).K (by decide) (Nat.le_of_ble_eq_true rfl) (Nat.le_refl _) (Nat.le_refl _) rfl (Nat.le_of_ble_eq_true rfl) rfl rfl (fun Qc k => H Qc (fun v h' w => k (some (.int v)) h' w))
  · have H := H.2 c_1
    exact rl_vret dX6_useLoans_34 rfl (Nat.le_refl 0) (Nat.le_refl 0) H
theorem tX6_useLoans_43 {n : Nat} {ad : Nat → Nat} {h0 : Hp} {cs : Nat → Nat → Int32} {pm : Nat → Nat → Nat} (L : Lay n ad h0) {Q : Nat → Option Value → Hp → Prop} {k0 : Nat} {x1 x2 x4 x5 x6 xs0 xs1 : Int32} (H : k0 < 7 ∧ CKr mX6_recordOf 0 0 0 [some (.ref (ad (gSt k0))), some (.int x1)] (HN h0 ad cs pm) (fun v h' => Wm mX6_useLoans 3 0 0 Q 53 [some (.ref (ad (gSt k0))), some (.int x1), some (.int x2), none, some (.int x4), some (.int x5), some (.int x6), some (.int (if xs1 < xs0 then xs1 else xs0))] [.ref v] h' 0 0)) : Wm mX6_useLoans 3 0 0 Q 43 [some (.ref (ad (gSt k0))), some (.int x1), some (.int x2), none, some (.int x4), some (.int x5), some (.int x6), none] [.int xs1, .int xs0] (HN h0 ad cs pm) 0 0 := by
  refine rl_min dX6_useLoans_43 lkX6_144 min1 inMath min2 (by decide) (Nat.le_of_ble_eq_true rfl) (Nat.le_refl 0) (Nat.le_refl 0) ?_
  refine rl_istore (L' := [some (.ref (ad (gSt k0))), some (.int x1), some (.int x2), none, some (.int x4), some (.int x5), some (.int x6), some (.int (if xs1 < xs0 then xs1 else xs0))]) dX6_useLoans_46 (Nat.le_of_ble_eq_true rfl) rfl ?_
  refine rl_aload_n dX6_useLoans_48 rfl rfl ?_
  refine rl_iload_n dX6_useLoans_49 rfl rfl ?_
  obtain ⟨o_1, H⟩ := H
  exact rl_callV (As := [.int x1]) (rest := []) mfX6_recordOf dX6_useLoans_50 lkX6_73 (lSt L o_1).K (by decide) (Nat.le_of_ble_eq_true rfl) (Nat.le_refl _) (Nat.le_refl _) rfl (Nat.le_of_ble_eq_true rfl) rfl rfl (fun Qc k => H Qc (fun v h' w => k (some (.ref v)) h' w))
theorem tX6_useLoans_53 {n : Nat} {ad : Nat → Nat} {h0 : Hp} {cs : Nat → Nat → Int32} {pm : Nat → Nat → Nat} (L : Lay n ad h0) {Q : Nat → Option Value → Hp → Prop} {k0 ks0 os0 ws0 : Nat} {x1 x2 x4 x5 x6 x7 : Int32} (H : vRc n ks0 ws0 os0 ∧ ∃ j_2 : Nat, x6 = nI j_2 ∧ j_2 < 10 ∧ (Wm mX6_useLoans 3 0 0 Q 6 [some (.ref (ad (gSt k0))), some (.int x1), some (.int x2), none, some (.int (x4 - x7)), some (.int (x5 + nI 1)), none, none] [] (HN h0 ad (up2 cs (gAr ks0 ws0 os0 3) j_2 ((cs (gAr ks0 ws0 os0 3) j_2) + x7)) pm) 0 0)) : Wm mX6_useLoans 3 0 0 Q 53 [some (.ref (ad (gSt k0))), some (.int x1), some (.int x2), none, some (.int x4), some (.int x5), some (.int x6), some (.int x7)] [.ref (ad (gRc ks0 ws0 os0))] (HN h0 ad cs pm) 0 0 := by
  obtain ⟨o_1, H⟩ := H
  refine rt_getP (k := 6) cfX5 dX6_useLoans_53 flX6_99 (by decide) rfl (lRc L o_1) (rRc6 L o_1) (naRc L o_1) ?_
  refine rl_iload dX6_useLoans_56 rfl ?_
  refine rl_dup2 dX6_useLoans_58 rfl rfl ?_
  obtain ⟨j_2, e_3, b_4, H⟩ := H
  refine rt_iald (j := j_2) dX6_useLoans_59 (lAr3 L o_1) nzAr e_3 b_4 (by decide) ?_
  refine rl_iload dX6_useLoans_60 rfl ?_
  refine rl_iadd dX6_useLoans_62 ?_
  refine rt_iast (j := j_2) L.2.1 dX6_useLoans_63 (lAr3 L o_1) nzAr e_3 b_4 (by decide) ?_
  refine rl_iload dX6_useLoans_64 rfl ?_
  refine rl_iload dX6_useLoans_66 rfl ?_
  refine rl_isub dX6_useLoans_68 ?_
  refine rl_istore (L' := [some (.ref (ad (gSt k0))), some (.int x1), some (.int x2), none, some (.int (x4 - x7)), some (.int x5), some (.int x6), some (.int x7)]) dX6_useLoans_69 (Nat.le_of_ble_eq_true rfl) rfl ?_
  refine rl_iinc (v := x5 + nI 1) (L' := [some (.ref (ad (gSt k0))), some (.int x1), some (.int x2), none, some (.int (x4 - x7)), some (.int (x5 + nI 1)), some (.int x6), some (.int x7)]) dX6_useLoans_71 rfl (congrArg (fun z => x5 + z) (by decide)) (Nat.le_of_ble_eq_true rfl) rfl ?_
  refine rl_goto (tgt := 6) dX6_useLoans_74 (by decide) ?_
  refine rl_wk (L' := [some (.ref (ad (gSt k0))), some (.int x1), some (.int x2), none, some (.int (x4 - x7)), some (.int (x5 + nI 1)), none, none]) ⟨rfl, ⟨rfl, ⟨rfl, ⟨rfl, ⟨rfl, trivial⟩⟩⟩⟩⟩ ?_
  exact H
theorem tX6_soonestLoan_0 {n : Nat} {ad : Nat → Nat} {h0 : Hp} {cs : Nat → Nat → Int32} {pm : Nat → Nat → Nat} (L : Lay n ad h0) {Q : Nat → Option Value → Hp → Prop} {k0 : Nat} {x1 x2 : Int32} (H : Wm mX6_soonestLoan 2 0 0 Q 5 [some (.ref (ad (gSt k0))), some (.int x1), some (.int x2), some (.int (-1)), some (.int (nI 0)), none] [] (HN h0 ad cs pm) 0 0) : Wm mX6_soonestLoan 2 0 0 Q 0 [some (.ref (ad (gSt k0))), some (.int x1), some (.int x2), none, none, none] [] (HN h0 ad cs pm) 0 0 := by
  refine rl_iconst (v := -1) dX6_soonestLoan_0 (by decide) ?_
  refine rl_istore_n (L' := [some (.ref (ad (gSt k0))), some (.int x1), some (.int x2), some (.int (-1)), none, none]) dX6_soonestLoan_1 rfl (Nat.le_of_ble_eq_true rfl) rfl ?_
  refine rl_iconst (v := nI 0) dX6_soonestLoan_2 (by decide) ?_
  refine rl_istore (L' := [some (.ref (ad (gSt k0))), some (.int x1), some (.int x2), some (.int (-1)), some (.int (nI 0)), none]) dX6_soonestLoan_3 (Nat.le_of_ble_eq_true rfl) rfl ?_
  exact H
theorem tX6_soonestLoan_5 {n : Nat} {ad : Nat → Nat} {h0 : Hp} {cs : Nat → Nat → Int32} {pm : Nat → Nat → Nat} (L : Lay n ad h0) {Q : Nat → Option Value → Hp → Prop} {k0 : Nat} {x1 x2 x3 x4 : Int32} (H : k0 < 7 ∧ (((cs (gSt k0) 5) ≤ x4 → Q 0 (some (.int x3)) (HN h0 ad cs pm)) ∧ (¬ (cs (gSt k0) 5) ≤ x4 → (∃ j_3 : Nat, x4 = nI j_3 ∧ j_3 < 10 ∧ (((¬ (cs (gLn k0 j_3) 1) = x1 → Wm mX6_soonestLoan 2 0 0 Q 55 [some (.ref (ad (gSt k0))), some (.int x1), some (.int x2), some (.int x3), some (.int x4), none] [] (HN h0 ad cs pm) 0 0) ∧ ((cs (gLn k0 j_3) 1) = x1 → ((¬ (cs (gLn k0 j_3) 2) = x2 → Wm mX6_soonestLoan 2 0 0 Q 55 [some (.ref (ad (gSt k0))), some (.int x1), some (.int x2), some (.int x3), some (.int x4), none] [] (HN h0 ad cs pm) 0 0) ∧ ((cs (gLn k0 j_3) 2) = x2 → CKi mX6_restOf 1 0 0 [some (.ref (ad (gSt k0))), some (.int x4), none, none] (HN h0 ad cs pm) (fun v h' => Wm mX6_soonestLoan 2 0 0 Q 48 [some (.ref (ad (gSt k0))), some (.int x1), some (.int x2), some (.int x3), some (.int x4), none] [.int v] h' 0 0)))))))))) : Wm mX6_soonestLoan 2 0 0 Q 5 [some (.ref (ad (gSt k0))), some (.int x1), some (.int x2), some (.int x3), some (.int x4), none] [] (HN h0 ad cs pm) 0 0 := by
  refine rl_iload dX6_soonestLoan_5 rfl ?_
  refine rl_aload_n dX6_soonestLoan_7 rfl rfl ?_
  obtain ⟨o_1, H⟩ := H
  refine rt_getI (k := 5) cfX6 dX6_soonestLoan_8 flX6_50 (by decide) rfl (lSt L o_1) nzSt ?_
  refine rl_icmp_ge (tgt := 99) dX6_soonestLoan_11 (by decide) (fun c_2 => ?_) (fun c_2 => ?_)
  · have H := H.1 c_2
    refine rl_iload_n dX6_soonestLoan_99 rfl rfl ?_
    exact rl_iret dX6_soonestLoan_100 rfl (Nat.le_refl 0) (Nat.le_refl 0) H
  · have H := H.2 c_2
    refine rl_aload_n dX6_soonestLoan_14 rfl rfl ?_
    refine rt_getP (k := 8) cfX6 dX6_soonestLoan_15 flX6_11 (by decide) rfl (lSt L o_1) (rStL L o_1) naSt ?_
    refine rl_iload dX6_soonestLoan_18 rfl ?_
    obtain ⟨j_3, e_4, b_5, H⟩ := H
    refine rt_aald (ci := 2) (j := j_3) dX6_soonestLoan_20 rfl (lLa L o_1) e_4 b_5 (by decide) (rLa L o_1 b_5) naLa ?_
    refine rt_getI (k := 1) cfX2 dX6_soonestLoan_21 flX6_96 (by decide) rfl (lLn L ⟨o_1, b_5⟩) nzLn ?_
    refine rl_iload_n dX6_soonestLoan_24 rfl rfl ?_
    refine rl_icmp_ne (tgt := 55) dX6_soonestLoan_25 (by decide) (fun c_6 => ?_) (fun c_6 => ?_)
    · have H := H.1 c_6
      exact H
    · have H := H.2 c_6
      refine rl_aload_n dX6_soonestLoan_28 rfl rfl ?_
      refine rt_getP (k := 8) cfX6 dX6_soonestLoan_29 flX6_11 (by decide) rfl (lSt L o_1) (rStL L o_1) naSt ?_
      refine rl_iload dX6_soonestLoan_32 rfl ?_
      refine rt_aald (ci := 2) (j := j_3) dX6_soonestLoan_34 rfl (lLa L o_1) e_4 b_5 (by decide) (rLa L o_1 b_5) naLa ?_
      refine rt_getI (k := 2) cfX2 dX6_soonestLoan_35 flX6_90 (by decide) rfl (lLn L ⟨o_1, b_5⟩) nzLn ?_
      refine rl_iload_n dX6_soonestLoan_38 rfl rfl ?_
      refine rl_icmp_ne (tgt := 55) dX6_soonestLoan_39 (by decide) (fun c_7 => ?_) (fun c_7 => ?_)
      · have H := H.1 c_7
        exact H
      · have H := H.2 c_7
        refine rl_aload_n dX6_soonestLoan_42 rfl rfl ?_
        refine rl_iload dX6_soonestLoan_43 rfl ?_
        exact rl_callV (As := [.int x4]) (rest := []) mfX6_restOf dX6_soonestLoan_45 lkX6_123 (lSt L o_1).K (by decide) (Nat.le_of_ble_eq_true rfl) (Nat.le_refl _) (Nat.le_refl _) rfl (Nat.le_of_ble_eq_true rfl) rfl rfl (fun Qc k => H Qc (fun v h' w => k (some (.int v)) h' w))
theorem tX6_soonestLoan_48 {n : Nat} {ad : Nat → Nat} {h0 : Hp} {cs : Nat → Nat → Int32} {pm : Nat → Nat → Nat} (L : Lay n ad h0) {Q : Nat → Option Value → Hp → Prop} {k0 : Nat} {x1 x2 x3 x4 xs0 : Int32} (H : ((xs0 ≤ 0 → Wm mX6_soonestLoan 2 0 0 Q 55 [some (.ref (ad (gSt k0))), some (.int x1), some (.int x2), some (.int x3), some (.int x4), none] [] (HN h0 ad cs pm) 0 0) ∧ (¬ xs0 ≤ 0 → ((x3 = (-1) → Wm mX6_soonestLoan 2 0 0 Q 90 [some (.ref (ad (gSt k0))), some (.int x1), some (.int x2), none, some (.int x4), none] [] (HN h0 ad cs pm) 0 0) ∧ (¬ x3 = (-1) → k0 < 7 ∧ ∃ j_4 : Nat, x4 = nI j_4 ∧ j_4 < 10 ∧ (∃ j_7 : Nat, x3 = nI j_7 ∧ j_7 < 10 ∧ ((((cs (gLn k0 j_7) 4) ≤ (cs (gLn k0 j_4) 4) → Wm mX6_soonestLoan 2 0 0 Q 93 [some (.ref (ad (gSt k0))), some (.int x1), some (.int x2), some (.int x3), some (.int x4), none] [] (HN h0 ad cs pm) 0 0) ∧ (¬ (cs (gLn k0 j_7) 4) ≤ (cs (gLn k0 j_4) 4) → Wm mX6_soonestLoan 2 0 0 Q 90 [some (.ref (ad (gSt k0))), some (.int x1), some (.int x2), none, some (.int x4), none] [] (HN h0 ad cs pm) 0 0))))))))) : Wm mX6_soonestLoan 2 0 0 Q 48 [some (.ref (ad (gSt k0))), some (.int x1), some (.int x2), some (.int x3), some (.int x4), none] [.int xs0] (HN h0 ad cs pm) 0 0 := by
  refine rl_if_le (tgt := 55) dX6_soonestLoan_48 (by decide) (fun c_1 => ?_) (fun c_1 => ?_)
  · have H := H.1 c_1
    exact H
  · have H := H.2 c_1
    refine rl_iconst (v := nI 1) dX6_soonestLoan_51 (by decide) ?_
    refine rl_goto (tgt := 56) dX6_soonestLoan_52 (by decide) ?_
    refine rl_istore (L' := [some (.ref (ad (gSt k0))), some (.int x1), some (.int x2), some (.int x3), some (.int x4), some (.int (nI 1))]) dX6_soonestLoan_56 (Nat.le_of_ble_eq_true rfl) rfl ?_
    refine rl_iload dX6_soonestLoan_58 rfl ?_
    refine rl_if_eq (tgt := 93) dX6_soonestLoan_60 (by decide) (fun q => absurd q (by decide)) (fun _ => ?_)
    refine rl_iload_n dX6_soonestLoan_63 rfl rfl ?_
    refine rl_iconst (v := -1) dX6_soonestLoan_64 (by decide) ?_
    refine rl_icmp_eq (tgt := 90) dX6_soonestLoan_65 (by decide) (fun c_2 => ?_) (fun c_2 => ?_)
    · have H := H.1 c_2
      refine rl_wk (L' := [some (.ref (ad (gSt k0))), some (.int x1), some (.int x2), none, some (.int x4), none]) ⟨rfl, ⟨rfl, ⟨rfl, ⟨rfl, trivial⟩⟩⟩⟩ ?_
      exact H
    · have H := H.2 c_2
      refine rl_aload_n dX6_soonestLoan_68 rfl rfl ?_
      obtain ⟨o_3, H⟩ := H
      refine rt_getP (k := 8) cfX6 dX6_soonestLoan_69 flX6_11 (by decide) rfl (lSt L o_3) (rStL L o_3) naSt ?_
      refine rl_iload dX6_soonestLoan_72 rfl ?_
      obtain ⟨j_4, e_5, b_6, H⟩ := H
      refine rt_aald (ci := 2) (j := j_4) dX6_soonestLoan_74 rfl (lLa L o_3) e_5 b_6 (by decide) (rLa L o_3 b_6) naLa ?_
      refine rt_getI (k := 4) cfX2 dX6_soonestLoan_75 flX6_112 (by decide) rfl (lLn L ⟨o_3, b_6⟩) nzLn ?_
      refine rl_aload_n dX6_soonestLoan_78 rfl rfl ?_
      refine rt_getP (k := 8) cfX6 dX6_soonestLoan_79 flX6_11 (by decide) rfl (lSt L o_3) (rStL L o_3) naSt ?_
      refine rl_iload_n dX6_soonestLoan_82 rfl rfl ?_
      obtain ⟨j_7, e_8, b_9, H⟩ := H
      refine rt_aald (ci := 2) (j := j_7) dX6_soonestLoan_83 rfl (lLa L o_3) e_8 b_9 (by decide) (rLa L o_3 b_9) naLa ?_
      refine rt_getI (k := 4) cfX2 dX6_soonestLoan_84 flX6_112 (by decide) rfl (lLn L ⟨o_3, b_9⟩) nzLn ?_
      refine rl_icmp_ge (tgt := 93) dX6_soonestLoan_87 (by decide) (fun c_10 => ?_) (fun c_10 => ?_)
      · have H := H.1 c_10
        refine rl_wk (L' := [some (.ref (ad (gSt k0))), some (.int x1), some (.int x2), some (.int x3), some (.int x4), none]) ⟨rfl, ⟨rfl, ⟨rfl, ⟨rfl, ⟨rfl, trivial⟩⟩⟩⟩⟩ ?_
        exact H
      · have H := H.2 c_10
        refine rl_wk (L' := [some (.ref (ad (gSt k0))), some (.int x1), some (.int x2), none, some (.int x4), none]) ⟨rfl, ⟨rfl, ⟨rfl, ⟨rfl, trivial⟩⟩⟩⟩ ?_
        exact H
theorem tX6_soonestLoan_55 {n : Nat} {ad : Nat → Nat} {h0 : Hp} {cs : Nat → Nat → Int32} {pm : Nat → Nat → Nat} (L : Lay n ad h0) {Q : Nat → Option Value → Hp → Prop} {k0 : Nat} {x1 x2 x3 x4 : Int32} (H : Wm mX6_soonestLoan 2 0 0 Q 93 [some (.ref (ad (gSt k0))), some (.int x1), some (.int x2), some (.int x3), some (.int x4), none] [] (HN h0 ad cs pm) 0 0) : Wm mX6_soonestLoan 2 0 0 Q 55 [some (.ref (ad (gSt k0))), some (.int x1), some (.int x2), some (.int x3), some (.int x4), none] [] (HN h0 ad cs pm) 0 0 := by
  refine rl_iconst (v := nI 0) dX6_soonestLoan_55 (by decide) ?_
  refine rl_istore (L' := [some (.ref (ad (gSt k0))), some (.int x1), some (.int x2), some (.int x3), some (.int x4), some (.int (nI 0))]) dX6_soonestLoan_56 (Nat.le_of_ble_eq_true rfl) rfl ?_
  refine rl_iload dX6_soonestLoan_58 rfl ?_
  refine rl_if_eq (tgt := 93) dX6_soonestLoan_60 (by decide) (fun _ => ?_) (fun q => absurd q (by decide))
  refine rl_wk (L' := [some (.ref (ad (gSt k0))), some (.int x1), some (.int x2), some (.int x3), some (.int x4), none]) ⟨rfl, ⟨rfl, ⟨rfl, ⟨rfl, ⟨rfl, trivial⟩⟩⟩⟩⟩ ?_
  exact H
theorem tX6_soonestLoan_90 {n : Nat} {ad : Nat → Nat} {h0 : Hp} {cs : Nat → Nat → Int32} {pm : Nat → Nat → Nat} (L : Lay n ad h0) {Q : Nat → Option Value → Hp → Prop} {k0 : Nat} {x1 x2 x4 : Int32} (H : Wm mX6_soonestLoan 2 0 0 Q 93 [some (.ref (ad (gSt k0))), some (.int x1), some (.int x2), some (.int x4), some (.int x4), none] [] (HN h0 ad cs pm) 0 0) : Wm mX6_soonestLoan 2 0 0 Q 90 [some (.ref (ad (gSt k0))), some (.int x1), some (.int x2), none, some (.int x4), none] [] (HN h0 ad cs pm) 0 0 := by
  refine rl_iload dX6_soonestLoan_90 rfl ?_
  refine rl_istore_n (L' := [some (.ref (ad (gSt k0))), some (.int x1), some (.int x2), some (.int x4), some (.int x4), none]) dX6_soonestLoan_92 rfl (Nat.le_of_ble_eq_true rfl) rfl ?_
  exact H
theorem tX6_soonestLoan_93 {n : Nat} {ad : Nat → Nat} {h0 : Hp} {cs : Nat → Nat → Int32} {pm : Nat → Nat → Nat} (L : Lay n ad h0) {Q : Nat → Option Value → Hp → Prop} {k0 : Nat} {x1 x2 x3 x4 : Int32} (H : Wm mX6_soonestLoan 2 0 0 Q 5 [some (.ref (ad (gSt k0))), some (.int x1), some (.int x2), some (.int x3), some (.int (x4 + nI 1)), none] [] (HN h0 ad cs pm) 0 0) : Wm mX6_soonestLoan 2 0 0 Q 93 [some (.ref (ad (gSt k0))), some (.int x1), some (.int x2), some (.int x3), some (.int x4), none] [] (HN h0 ad cs pm) 0 0 := by
  refine rl_iinc (v := x4 + nI 1) (L' := [some (.ref (ad (gSt k0))), some (.int x1), some (.int x2), some (.int x3), some (.int (x4 + nI 1)), none]) dX6_soonestLoan_93 rfl (congrArg (fun z => x4 + z) (by decide)) (Nat.le_of_ble_eq_true rfl) rfl ?_
  refine rl_goto (tgt := 5) dX6_soonestLoan_96 (by decide) ?_
  exact H
theorem tX6_give_0 {n : Nat} {ad : Nat → Nat} {h0 : Hp} {cs : Nat → Nat → Int32} {pm : Nat → Nat → Nat} (L : Lay n ad h0) {Q : Nat → Option Value → Hp → Prop} {k0 : Nat} {x1 x2 x3 x4 : Int32} (H : k0 < 7 ∧ CKr mX6_recordOf 0 0 0 [some (.ref (ad (gSt k0))), some (.int x2)] (HN h0 ad cs pm) (fun v h' => Wm mX6_give 1 0 0 Q 5 [none, some (.int x1), none, some (.int x3), some (.int x4)] [.ref v] h' 0 0)) : Wm mX6_give 1 0 0 Q 0 [some (.ref (ad (gSt k0))), some (.int x1), some (.int x2), some (.int x3), some (.int x4)] [] (HN h0 ad cs pm) 0 0 := by
  refine rl_aload_n dX6_give_0 rfl rfl ?_
  refine rl_iload_n dX6_give_1 rfl rfl ?_
  obtain ⟨o_1, H⟩ := H
  exact rl_callV (As := [.int x2]) (rest := []) mfX6_recordOf dX6_give_2 lkX6_73 (lSt L o_1).K (by decide) (Nat.le_of_ble_eq_true rfl) (Nat.le_refl _) (Nat.le_refl _) rfl (Nat.le_of_ble_eq_true rfl) rfl rfl (fun Qc k => H Qc (fun v h' w => k (some (.ref v)) h' (rl_wk (L' := [none, some (.int x1), none, some (.int x3), some (.int x4)]) ⟨rfl, ⟨rfl, ⟨rfl, trivial⟩⟩⟩ w)))
theorem tX6_give_5 {n : Nat} {ad : Nat → Nat} {h0 : Hp} {cs : Nat → Nat → Int32} {pm : Nat → Nat → Nat} (L : Lay n ad h0) {Q : Nat → Option Value → Hp → Prop} {ks0 os0 ws0 : Nat} {x1 x3 x4 : Int32} (H : vRc n ks0 ws0 os0 ∧ CKv mX5_give 0 0 0 [some (.ref (ad (gRc ks0 ws0 os0))), some (.int x3), some (.int x1), some (.int x4)] (HN h0 ad cs pm) (fun h' => Wm mX6_give 1 0 0 Q 12 [none, none, none, none, none] [] h' 0 0)) : Wm mX6_give 1 0 0 Q 5 [none, some (.int x1), none, some (.int x3), some (.int x4)] [.ref (ad (gRc ks0 ws0 os0))] (HN h0 ad cs pm) 0 0 := by
  refine rl_iload_n dX6_give_5 rfl rfl ?_
  refine rl_iload_n dX6_give_6 rfl rfl ?_
  refine rl_iload dX6_give_7 rfl ?_
  obtain ⟨o_1, H⟩ := H
  exact rl_callV (As := [.int x3, .int x1, .int x4]) (rest := []) mfX5_give dX6_give_9 lkX6_156 (lRc L o_1).K (by decide) (Nat.le_of_ble_eq_true rfl) (Nat.le_refl _) (Nat.le_refl _) rfl (Nat.le_of_ble_eq_true rfl) rfl rfl (fun Qc k => H Qc (fun h' w => k none h' (rl_wk (L' := [none, none, none, none, none]) trivial w)))
theorem tX6_give_12 {n : Nat} {ad : Nat → Nat} {h0 : Hp} {cs : Nat → Nat → Int32} {pm : Nat → Nat → Nat} (L : Lay n ad h0) {Q : Nat → Option Value → Hp → Prop}  (H : Q 0 none (HN h0 ad cs pm)) : Wm mX6_give 1 0 0 Q 12 [none, none, none, none, none] [] (HN h0 ad cs pm) 0 0 := by
  exact rl_vret dX6_give_12 rfl (Nat.le_refl 0) (Nat.le_refl 0) H
theorem tX6_post_0 {n : Nat} {ad : Nat → Nat} {h0 : Hp} {cs : Nat → Nat → Int32} {pm : Nat → Nat → Nat} (L : Lay n ad h0) {Q : Nat → Option Value → Hp → Prop} {k0 : Nat} {x1 x2 : Int32} (H : k0 < 7 ∧ ∃ j_2 : Nat, cs (gSt k0) 6 = nI j_2 ∧ j_2 < 8 ∧ (pm k0 j_2 < 8 ∧ ∃ j_6 : Nat, x1 = nI j_6 ∧ j_6 < n ∧ (CKv mX7_copyFrom 2 0 0 [some (.ref (ad (gVw k0 (5 + (pm k0 j_2))))), some (.ref (ad (gVw k0 j_6))), none] (HN h0 ad (up2 (up2 (up2 cs (gMg k0 (pm k0 j_2)) 0 x1) (gMg k0 (pm k0 j_2)) 1 x2) (gMg k0 (pm k0 j_2)) 2 (cs (gSt k0) 4)) pm) (fun h' => Wm mX6_post 3 0 0 Q 48 [some (.ref (ad (gSt k0))), none, none, some (.int (cs (gSt k0) 6)), none] [] h' 0 0)))) : Wm mX6_post 3 0 0 Q 0 [some (.ref (ad (gSt k0))), some (.int x1), some (.int x2), none, none] [] (HN h0 ad cs pm) 0 0 := by
  refine rl_aload_n dX6_post_0 rfl rfl ?_
  obtain ⟨o_1, H⟩ := H
  refine rt_getI (k := 6) cfX6 dX6_post_1 flX6_53 (by decide) rfl (lSt L o_1) nzSt ?_
  refine rl_istore_n (L' := [some (.ref (ad (gSt k0))), some (.int x1), some (.int x2), some (.int (cs (gSt k0) 6)), none]) dX6_post_4 rfl (Nat.le_of_ble_eq_true rfl) rfl ?_
  refine rl_aload_n dX6_post_5 rfl rfl ?_
  refine rt_getP (k := 9) cfX6 dX6_post_6 flX6_19 (by decide) rfl (lSt L o_1) (rStM L o_1) naSt ?_
  refine rl_iload_n dX6_post_9 rfl rfl ?_
  obtain ⟨j_2, e_3, b_4, H⟩ := H
  obtain ⟨o_5, H⟩ := H
  refine rt_aaldM (j := j_2) L dX6_post_10 o_1 e_3 b_4 ?_
  refine rl_astore (L' := [some (.ref (ad (gSt k0))), some (.int x1), some (.int x2), some (.int (cs (gSt k0) 6)), some (.ref (ad (gMg k0 (pm k0 j_2))))]) dX6_post_11 (Nat.le_of_ble_eq_true rfl) rfl ?_
  refine rl_aload dX6_post_13 rfl ?_
  refine rl_iload_n dX6_post_15 rfl rfl ?_
  refine rt_putI (k := 0) L.2.1 cfX3 dX6_post_16 flX6_165 (by decide) rfl (lMg L ⟨o_1, o_5⟩) nzMg (Or.inl rfl) ?_
  refine rl_aload dX6_post_19 rfl ?_
  refine rl_iload_n dX6_post_21 rfl rfl ?_
  refine rt_putI (k := 1) L.2.1 cfX3 dX6_post_22 flX6_168 (by decide) rfl (lMg L ⟨o_1, o_5⟩) nzMg (Or.inl rfl) ?_
  refine rl_aload dX6_post_25 rfl ?_
  refine rl_aload_n dX6_post_27 rfl rfl ?_
  refine rt_getIv (x := cs (gSt k0) 4) (k := 4) cfX6 dX6_post_28 flX6_47 (by decide) rfl (lSt L o_1) nzSt ((up2_k (by decide)).trans ((up2_k (by decide)).trans (rfl))) ?_
  refine rt_putI (k := 2) L.2.1 cfX3 dX6_post_31 flX6_171 (by decide) rfl (lMg L ⟨o_1, o_5⟩) nzMg (Or.inl rfl) ?_
  refine rl_aload dX6_post_34 rfl ?_
  refine rt_getP (k := 3) cfX3 dX6_post_36 flX6_174 (by decide) rfl (lMg L ⟨o_1, o_5⟩) (rMg L ⟨o_1, o_5⟩) (naMgg ⟨o_1, o_5⟩) ?_
  refine rl_aload_n dX6_post_39 rfl rfl ?_
  refine rt_getP (k := 7) cfX6 dX6_post_40 flX6_29 (by decide) rfl (lSt L o_1) (rStV L o_1) naSt ?_
  refine rl_iload_n dX6_post_43 rfl rfl ?_
  obtain ⟨j_6, e_7, b_8, H⟩ := H
  refine rt_aald (ci := 7) (j := j_6) dX6_post_44 rfl (lVa L o_1) e_7 b_8 (lay5 L) (rVa L o_1 b_8) naVa ?_
  exact rl_callV (As := [.ref (ad (gVw k0 j_6))]) (rest := []) mfX7_copyFrom dX6_post_45 lkX6_59 (lVw L (vMV ⟨o_1, o_5⟩)).K (by decide) (Nat.le_of_ble_eq_true rfl) (Nat.le_refl _) (Nat.le_refl _) rfl (Nat.le_of_ble_eq_true rfl) rfl rfl (fun Qc k => H Qc (fun h' w => k none h' (rl_wk (L' := [some (.ref (ad (gSt k0))), none, none, some (.int (cs (gSt k0) 6)), none]) ⟨rfl, ⟨rfl, trivial⟩⟩ w)))
theorem tX6_post_48 {n : Nat} {ad : Nat → Nat} {h0 : Hp} {cs : Nat → Nat → Int32} {pm : Nat → Nat → Nat} (L : Lay n ad h0) {Q : Nat → Option Value → Hp → Prop} {k0 : Nat} {x3 : Int32} (H : k0 < 7 ∧ Q 0 (some (.int x3)) (HN h0 ad (up2 cs (gSt k0) 6 ((cs (gSt k0) 6) + (nI 1))) pm)) : Wm mX6_post 3 0 0 Q 48 [some (.ref (ad (gSt k0))), none, none, some (.int x3), none] [] (HN h0 ad cs pm) 0 0 := by
  refine rl_aload_n dX6_post_48 rfl rfl ?_
  refine rl_dup dX6_post_49 rfl ?_
  obtain ⟨o_1, H⟩ := H
  refine rt_getI (k := 6) cfX6 dX6_post_50 flX6_53 (by decide) rfl (lSt L o_1) nzSt ?_
  refine rl_iconst (v := nI 1) dX6_post_53 (by decide) ?_
  refine rl_iadd dX6_post_54 ?_
  refine rt_putI (k := 6) L.2.1 cfX6 dX6_post_55 flX6_53 (by decide) rfl (lSt L o_1) nzSt (Or.inl rfl) ?_
  refine rl_iload_n dX6_post_58 rfl rfl ?_
  exact rl_iret dX6_post_59 rfl (Nat.le_refl 0) (Nat.le_refl 0) H
theorem tX6_handOver_0 {n : Nat} {ad : Nat → Nat} {h0 : Hp} {cs : Nat → Nat → Int32} {pm : Nat → Nat → Nat} (L : Lay n ad h0) {Q : Nat → Option Value → Hp → Prop} {k0 : Nat} {x1 : Int32} (H : k0 < 7 ∧ ∃ j_2 : Nat, x1 = nI j_2 ∧ j_2 < 8 ∧ (pm k0 j_2 < 8 ∧ ∃ j_6 : Nat, cs (gMg k0 (pm k0 j_2)) 1 = nI j_6 ∧ j_6 < n ∧ (CKi mX7_learn 2 0 0 [some (.ref (ad (gVw k0 j_6))), some (.ref (ad (gVw k0 (5 + (pm k0 j_2))))), some (.int (cs (gMg k0 (pm k0 j_2)) 1)), none, none] (HN h0 ad cs pm) (fun v h' => Wm mX6_handOver 3 0 0 Q 27 [some (.ref (ad (gSt k0))), some (.int x1), none, none] [.int v] h' 0 0)))) : Wm mX6_handOver 3 0 0 Q 0 [some (.ref (ad (gSt k0))), some (.int x1), none, none] [] (HN h0 ad cs pm) 0 0 := by
  refine rl_aload_n dX6_handOver_0 rfl rfl ?_
  obtain ⟨o_1, H⟩ := H
  refine rt_getP (k := 9) cfX6 dX6_handOver_1 flX6_19 (by decide) rfl (lSt L o_1) (rStM L o_1) naSt ?_
  refine rl_iload_n dX6_handOver_4 rfl rfl ?_
  obtain ⟨j_2, e_3, b_4, H⟩ := H
  obtain ⟨o_5, H⟩ := H
  refine rt_aaldM (j := j_2) L dX6_handOver_5 o_1 e_3 b_4 ?_
  refine rl_astore_n (L' := [some (.ref (ad (gSt k0))), some (.int x1), some (.ref (ad (gMg k0 (pm k0 j_2)))), none]) dX6_handOver_6 rfl (Nat.le_of_ble_eq_true rfl) rfl ?_
  refine rl_aload_n dX6_handOver_7 rfl rfl ?_
  refine rt_getP (k := 7) cfX6 dX6_handOver_8 flX6_29 (by decide) rfl (lSt L o_1) (rStV L o_1) naSt ?_
  refine rl_aload_n dX6_handOver_11 rfl rfl ?_
  refine rt_getI (k := 1) cfX3 dX6_handOver_12 flX6_168 (by decide) rfl (lMg L ⟨o_1, o_5⟩) nzMg ?_
  obtain ⟨j_6, e_7, b_8, H⟩ := H
  refine rt_aald (ci := 7) (j := j_6) dX6_handOver_15 rfl (lVa L o_1) e_7 b_8 (lay5 L) (rVa L o_1 b_8) naVa ?_
  refine rl_aload_n dX6_handOver_16 rfl rfl ?_
  refine rt_getP (k := 3) cfX3 dX6_handOver_17 flX6_174 (by decide) rfl (lMg L ⟨o_1, o_5⟩) (rMg L ⟨o_1, o_5⟩) (naMgg ⟨o_1, o_5⟩) ?_
  refine rl_aload_n dX6_handOver_20 rfl rfl ?_
  refine rt_getI (k := 1) cfX3 dX6_handOver_21 flX6_168 (by decide) rfl (lMg L ⟨o_1, o_5⟩) nzMg ?_
  exact rl_callV (As := [.ref (ad (gVw k0 (5 + (pm k0 j_2)))), .int (cs (gMg k0 (pm k0 j_2)) 1)]) (rest := []) mfX7_learn dX6_handOver_24 lkX6_178 (lVw L ⟨o_1, Or.inl b_8⟩).K (by decide) (Nat.le_of_ble_eq_true rfl) (Nat.le_refl _) (Nat.le_refl _) rfl (Nat.le_of_ble_eq_true rfl) rfl rfl (fun Qc k => H Qc (fun v h' w => k (some (.int v)) h' (rl_wk (L' := [some (.ref (ad (gSt k0))), some (.int x1), none, none]) ⟨rfl, ⟨rfl, trivial⟩⟩ w)))
theorem tX6_handOver_27 {n : Nat} {ad : Nat → Nat} {h0 : Hp} {cs : Nat → Nat → Int32} {pm : Nat → Nat → Nat} (L : Lay n ad h0) {Q : Nat → Option Value → Hp → Prop} {k0 : Nat} {x1 xs0 : Int32} (H : k0 < 7 ∧ CKv mX6_drop 0 0 0 [some (.ref (ad (gSt k0))), some (.int x1), none, none] (HN h0 ad cs pm) (fun h' => Wm mX6_handOver 3 0 0 Q 33 [none, none, none, some (.int xs0)] [] h' 0 0)) : Wm mX6_handOver 3 0 0 Q 27 [some (.ref (ad (gSt k0))), some (.int x1), none, none] [.int xs0] (HN h0 ad cs pm) 0 0 := by
  refine rl_istore_n (L' := [some (.ref (ad (gSt k0))), some (.int x1), none, some (.int xs0)]) dX6_handOver_27 rfl (Nat.le_of_ble_eq_true rfl) rfl ?_
  refine rl_aload_n dX6_handOver_28 rfl rfl ?_
  refine rl_iload_n dX6_handOver_29 rfl rfl ?_
  obtain ⟨o_1, H⟩ := H
  exact rl_callV (As := [.int x1]) (rest := []) mfX6_drop dX6_handOver_30 lkX6_182 (lSt L o_1).K (by decide) (Nat.le_of_ble_eq_true rfl) (Nat.le_refl _) (Nat.le_refl _) rfl (Nat.le_of_ble_eq_true rfl) rfl rfl (fun Qc k => H Qc (fun h' w => k none h' (rl_wk (L' := [none, none, none, some (.int xs0)]) ⟨rfl, trivial⟩ w)))
theorem tX6_handOver_33 {n : Nat} {ad : Nat → Nat} {h0 : Hp} {cs : Nat → Nat → Int32} {pm : Nat → Nat → Nat} (L : Lay n ad h0) {Q : Nat → Option Value → Hp → Prop} {x3 : Int32} (H : Q 0 (some (.int x3)) (HN h0 ad cs pm)) : Wm mX6_handOver 3 0 0 Q 33 [none, none, none, some (.int x3)] [] (HN h0 ad cs pm) 0 0 := by
  refine rl_iload_n dX6_handOver_33 rfl rfl ?_
  exact rl_iret dX6_handOver_34 rfl (Nat.le_refl 0) (Nat.le_refl 0) H
theorem tX6_drop_0 {n : Nat} {ad : Nat → Nat} {h0 : Hp} {cs : Nat → Nat → Int32} {pm : Nat → Nat → Nat} (L : Lay n ad h0) {Q : Nat → Option Value → Hp → Prop} {k0 : Nat} {x1 : Int32} (H : k0 < 7 ∧ ∃ j_2 : Nat, x1 = nI j_2 ∧ j_2 < 8 ∧ (pm k0 j_2 < 8 ∧ Wm mX6_drop 0 0 0 Q 9 [some (.ref (ad (gSt k0))), none, some (.ref (ad (gMg k0 (pm k0 j_2)))), some (.int x1)] [] (HN h0 ad cs pm) 0 0)) : Wm mX6_drop 0 0 0 Q 0 [some (.ref (ad (gSt k0))), some (.int x1), none, none] [] (HN h0 ad cs pm) 0 0 := by
  refine rl_aload_n dX6_drop_0 rfl rfl ?_
  obtain ⟨o_1, H⟩ := H
  refine rt_getP (k := 9) cfX6 dX6_drop_1 flX6_19 (by decide) rfl (lSt L o_1) (rStM L o_1) naSt ?_
  refine rl_iload_n dX6_drop_4 rfl rfl ?_
  obtain ⟨j_2, e_3, b_4, H⟩ := H
  obtain ⟨o_5, H⟩ := H
  refine rt_aaldM (j := j_2) L dX6_drop_5 o_1 e_3 b_4 ?_
  refine rl_astore_n (L' := [some (.ref (ad (gSt k0))), some (.int x1), some (.ref (ad (gMg k0 (pm k0 j_2)))), none]) dX6_drop_6 rfl (Nat.le_of_ble_eq_true rfl) rfl ?_
  refine rl_iload_n dX6_drop_7 rfl rfl ?_
  refine rl_istore_n (L' := [some (.ref (ad (gSt k0))), some (.int x1), some (.ref (ad (gMg k0 (pm k0 j_2)))), some (.int x1)]) dX6_drop_8 rfl (Nat.le_of_ble_eq_true rfl) rfl ?_
  refine rl_wk (L' := [some (.ref (ad (gSt k0))), none, some (.ref (ad (gMg k0 (pm k0 j_2)))), some (.int x1)]) ⟨rfl, ⟨rfl, ⟨rfl, trivial⟩⟩⟩ ?_
  exact H
theorem tX6_drop_9 {n : Nat} {ad : Nat → Nat} {h0 : Hp} {cs : Nat → Nat → Int32} {pm : Nat → Nat → Nat} (L : Lay n ad h0) {Q : Nat → Option Value → Hp → Prop} {k0 k2 m2 : Nat} {x3 : Int32} (H : k0 < 7 ∧ (((cs (gSt k0) 6) ≤ (x3 + (nI 1)) → (∃ j_3 : Nat, (cs (gSt k0) 6) - (nI 1) = nI j_3 ∧ j_3 < 8 ∧ (k2 = k0 ∧ m2 < 8 ∧ Q 0 none (HN h0 ad (up2 cs (gSt k0) 6 ((cs (gSt k0) 6) - (nI 1))) (up2 pm k0 j_3 m2))))) ∧ (¬ (cs (gSt k0) 6) ≤ (x3 + (nI 1)) → (∃ j_8 : Nat, x3 + (nI 1) = nI j_8 ∧ j_8 < 8 ∧ (pm k0 j_8 < 8 ∧ ∃ j_12 : Nat, x3 = nI j_12 ∧ j_12 < 8 ∧ (Wm mX6_drop 0 0 0 Q 9 [some (.ref (ad (gSt k0))), none, some (.ref (ad (gMg k2 m2))), some (.int (x3 + nI 1))] [] (HN h0 ad cs (up2 pm k0 j_12 (pm k0 j_8))) 0 0)))))) : Wm mX6_drop 0 0 0 Q 9 [some (.ref (ad (gSt k0))), none, some (.ref (ad (gMg k2 m2))), some (.int x3)] [] (HN h0 ad cs pm) 0 0 := by
  refine rl_iload_n dX6_drop_9 rfl rfl ?_
  refine rl_iconst (v := nI 1) dX6_drop_10 (by decide) ?_
  refine rl_iadd dX6_drop_11 ?_
  refine rl_aload_n dX6_drop_12 rfl rfl ?_
  obtain ⟨o_1, H⟩ := H
  refine rt_getI (k := 6) cfX6 dX6_drop_13 flX6_53 (by decide) rfl (lSt L o_1) nzSt ?_
  refine rl_icmp_ge (tgt := 39) dX6_drop_16 (by decide) (fun c_2 => ?_) (fun c_2 => ?_)
  · have H := H.1 c_2
    refine rl_aload_n dX6_drop_39 rfl rfl ?_
    refine rl_dup dX6_drop_40 rfl ?_
    refine rt_getI (k := 6) cfX6 dX6_drop_41 flX6_53 (by decide) rfl (lSt L o_1) nzSt ?_
    refine rl_iconst (v := nI 1) dX6_drop_44 (by decide) ?_
    refine rl_isub dX6_drop_45 ?_
    refine rt_putI (k := 6) L.2.1 cfX6 dX6_drop_46 flX6_53 (by decide) rfl (lSt L o_1) nzSt (Or.inl rfl) ?_
    refine rl_aload_n dX6_drop_49 rfl rfl ?_
    refine rt_getP (k := 9) cfX6 dX6_drop_50 flX6_19 (by decide) rfl (lSt L o_1) (rStM L o_1) naSt ?_
    refine rl_aload_n dX6_drop_53 rfl rfl ?_
    refine rt_getIv (x := (cs (gSt k0) 6) - (nI 1)) (k := 6) cfX6 dX6_drop_54 flX6_53 (by decide) rfl (lSt L o_1) nzSt (up2_s) ?_
    refine rl_aload_n dX6_drop_57 rfl rfl ?_
    obtain ⟨j_3, e_4, b_5, H⟩ := H
    obtain ⟨o_6, H⟩ := H
    subst o_6
    obtain ⟨o_7, H⟩ := H
    refine rt_aastM (j := j_3) L dX6_drop_58 o_1 o_7 e_4 b_5 ?_
    exact rl_vret dX6_drop_59 rfl (Nat.le_refl 0) (Nat.le_refl 0) H
  · have H := H.2 c_2
    refine rl_aload_n dX6_drop_19 rfl rfl ?_
    refine rt_getP (k := 9) cfX6 dX6_drop_20 flX6_19 (by decide) rfl (lSt L o_1) (rStM L o_1) naSt ?_
    refine rl_iload_n dX6_drop_23 rfl rfl ?_
    refine rl_aload_n dX6_drop_24 rfl rfl ?_
    refine rt_getP (k := 9) cfX6 dX6_drop_25 flX6_19 (by decide) rfl (lSt L o_1) (rStM L o_1) naSt ?_
    refine rl_iload_n dX6_drop_28 rfl rfl ?_
    refine rl_iconst (v := nI 1) dX6_drop_29 (by decide) ?_
    refine rl_iadd dX6_drop_30 ?_
    obtain ⟨j_8, e_9, b_10, H⟩ := H
    obtain ⟨o_11, H⟩ := H
    refine rt_aaldM (j := j_8) L dX6_drop_31 o_1 e_9 b_10 ?_
    obtain ⟨j_12, e_13, b_14, H⟩ := H
    refine rt_aastM (j := j_12) L dX6_drop_32 o_1 o_11 e_13 b_14 ?_
    refine rl_iinc (v := x3 + nI 1) (L' := [some (.ref (ad (gSt k0))), none, some (.ref (ad (gMg k2 m2))), some (.int (x3 + nI 1))]) dX6_drop_33 rfl (congrArg (fun z => x3 + z) (by decide)) (Nat.le_of_ble_eq_true rfl) rfl ?_
    refine rl_goto (tgt := 9) dX6_drop_36 (by decide) ?_
    exact H
theorem tX6_letPass_0 {n : Nat} {ad : Nat → Nat} {h0 : Hp} {cs : Nat → Nat → Int32} {pm : Nat → Nat → Nat} (L : Lay n ad h0) {Q : Nat → Option Value → Hp → Prop} {k0 : Nat} {x1 : Int32} (H : k0 < 7 ∧ Wm mX6_letPass 1 0 0 Q 12 [some (.ref (ad (gSt k0))), none, some (.int (nI 0))] [] (HN h0 ad (up2 cs (gSt k0) 4 ((cs (gSt k0) 4) + x1)) pm) 0 0) : Wm mX6_letPass 1 0 0 Q 0 [some (.ref (ad (gSt k0))), some (.int x1), none] [] (HN h0 ad cs pm) 0 0 := by
  refine rl_aload_n dX6_letPass_0 rfl rfl ?_
  refine rl_dup dX6_letPass_1 rfl ?_
  obtain ⟨o_1, H⟩ := H
  refine rt_getI (k := 4) cfX6 dX6_letPass_2 flX6_47 (by decide) rfl (lSt L o_1) nzSt ?_
  refine rl_iload_n dX6_letPass_5 rfl rfl ?_
  refine rl_iadd dX6_letPass_6 ?_
  refine rt_putI (k := 4) L.2.1 cfX6 dX6_letPass_7 flX6_47 (by decide) rfl (lSt L o_1) nzSt (Or.inl rfl) ?_
  refine rl_iconst (v := nI 0) dX6_letPass_10 (by decide) ?_
  refine rl_istore_n (L' := [some (.ref (ad (gSt k0))), some (.int x1), some (.int (nI 0))]) dX6_letPass_11 rfl (Nat.le_of_ble_eq_true rfl) rfl ?_
  refine rl_wk (L' := [some (.ref (ad (gSt k0))), none, some (.int (nI 0))]) ⟨rfl, ⟨rfl, trivial⟩⟩ ?_
  exact H
theorem tX6_letPass_12 {n : Nat} {ad : Nat → Nat} {h0 : Hp} {cs : Nat → Nat → Int32} {pm : Nat → Nat → Nat} (L : Lay n ad h0) {Q : Nat → Option Value → Hp → Prop} {k0 : Nat} {x2 : Int32} (H : k0 < 7 ∧ (((cs (gSt k0) 0) ≤ x2 → Q 0 none (HN h0 ad cs pm)) ∧ (¬ (cs (gSt k0) 0) ≤ x2 → CKr mX6_recordOf 0 0 0 [some (.ref (ad (gSt k0))), some (.int x2)] (HN h0 ad cs pm) (fun v h' => Wm mX6_letPass 1 0 0 Q 25 [some (.ref (ad (gSt k0))), none, some (.int x2)] [.ref v] h' 0 0)))) : Wm mX6_letPass 1 0 0 Q 12 [some (.ref (ad (gSt k0))), none, some (.int x2)] [] (HN h0 ad cs pm) 0 0 := by
  refine rl_iload_n dX6_letPass_12 rfl rfl ?_
  refine rl_aload_n dX6_letPass_13 rfl rfl ?_
  obtain ⟨o_1, H⟩ := H
  refine rt_getI (k := 0) cfX6 dX6_letPass_14 flX6_23 (by decide) rfl (lSt L o_1) nzSt ?_
  refine rl_icmp_ge (tgt := 38) dX6_letPass_17 (by decide) (fun c_2 => ?_) (fun c_2 => ?_)
  · have H := H.1 c_2
    exact rl_vret dX6_letPass_38 rfl (Nat.le_refl 0) (Nat.le_refl 0) H
  · have H := H.2 c_2
    refine rl_aload_n dX6_letPass_20 rfl rfl ?_
    refine rl_iload_n dX6_letPass_21 rfl rfl ?_
    exact rl_callV (As := [.int x2]) (rest := []) mfX6_recordOf dX6_letPass_22 lkX6_73 (lSt L o_1).K (by decide) (Nat.le_of_ble_eq_true rfl) (Nat.le_refl _) (Nat.le_refl _) rfl (Nat.le_of_ble_eq_true rfl) rfl rfl (fun Qc k => H Qc (fun v h' w => k (some (.ref v)) h' w))
theorem tX6_letPass_25 {n : Nat} {ad : Nat → Nat} {h0 : Hp} {cs : Nat → Nat → Int32} {pm : Nat → Nat → Nat} (L : Lay n ad h0) {Q : Nat → Option Value → Hp → Prop} {k0 ks0 os0 ws0 : Nat} {x2 : Int32} (H : k0 < 7 ∧ vRc n ks0 ws0 os0 ∧ Wm mX6_letPass 1 0 0 Q 12 [some (.ref (ad (gSt k0))), none, some (.int (x2 + nI 1))] [] (HN h0 ad (up2 cs (gRc ks0 ws0 os0) 1 (cs (gSt k0) 4)) pm) 0 0) : Wm mX6_letPass 1 0 0 Q 25 [some (.ref (ad (gSt k0))), none, some (.int x2)] [.ref (ad (gRc ks0 ws0 os0))] (HN h0 ad cs pm) 0 0 := by
  refine rl_aload_n dX6_letPass_25 rfl rfl ?_
  obtain ⟨o_1, H⟩ := H
  refine rt_getI (k := 4) cfX6 dX6_letPass_26 flX6_47 (by decide) rfl (lSt L o_1) nzSt ?_
  obtain ⟨o_2, H⟩ := H
  refine rt_putI (k := 1) L.2.1 cfX5 dX6_letPass_29 flX6_115 (by decide) rfl (lRc L o_2) nzRc (Or.inl rfl) ?_
  refine rl_iinc (v := x2 + nI 1) (L' := [some (.ref (ad (gSt k0))), none, some (.int (x2 + nI 1))]) dX6_letPass_32 rfl (congrArg (fun z => x2 + z) (by decide)) (Nat.le_of_ble_eq_true rfl) rfl ?_
  refine rl_goto (tgt := 12) dX6_letPass_35 (by decide) ?_
  exact H
theorem tX6_valueKnownAt_0 {n : Nat} {ad : Nat → Nat} {h0 : Hp} {cs : Nat → Nat → Int32} {pm : Nat → Nat → Nat} (L : Lay n ad h0) {Q : Nat → Option Value → Hp → Prop} {k0 : Nat} {x1 : Int32} (H : k0 < 7 ∧ Wm mX6_valueKnownAt 0 0 0 Q 7 [some (.ref (ad (gSt k0))), some (.int x1), some (.int (cs (gSt k0) 3)), some (.int (nI 0)), none] [] (HN h0 ad cs pm) 0 0) : Wm mX6_valueKnownAt 0 0 0 Q 0 [some (.ref (ad (gSt k0))), some (.int x1), none, none, none] [] (HN h0 ad cs pm) 0 0 := by
  refine rl_aload_n dX6_valueKnownAt_0 rfl rfl ?_
  obtain ⟨o_1, H⟩ := H
  refine rt_getI (k := 3) cfX6 dX6_valueKnownAt_1 flX6_44 (by decide) rfl (lSt L o_1) nzSt ?_
  refine rl_istore_n (L' := [some (.ref (ad (gSt k0))), some (.int x1), some (.int (cs (gSt k0) 3)), none, none]) dX6_valueKnownAt_4 rfl (Nat.le_of_ble_eq_true rfl) rfl ?_
  refine rl_iconst (v := nI 0) dX6_valueKnownAt_5 (by decide) ?_
  refine rl_istore_n (L' := [some (.ref (ad (gSt k0))), some (.int x1), some (.int (cs (gSt k0) 3)), some (.int (nI 0)), none]) dX6_valueKnownAt_6 rfl (Nat.le_of_ble_eq_true rfl) rfl ?_
  exact H
theorem tX6_valueKnownAt_7 {n : Nat} {ad : Nat → Nat} {h0 : Hp} {cs : Nat → Nat → Int32} {pm : Nat → Nat → Nat} (L : Lay n ad h0) {Q : Nat → Option Value → Hp → Prop} {k0 : Nat} {x1 x2 x3 : Int32} (H : k0 < 7 ∧ (((cs (gSt k0) 0) ≤ x3 → Q 0 (some (.int x2)) (HN h0 ad cs pm)) ∧ (¬ (cs (gSt k0) 0) ≤ x3 → (∃ j_3 : Nat, x1 = nI j_3 ∧ j_3 < n ∧ (∃ j_6 : Nat, x3 = nI j_6 ∧ j_6 < n ∧ (Wm mX6_valueKnownAt 0 0 0 Q 7 [some (.ref (ad (gSt k0))), some (.int x1), some (.int (x2 + ((cs (gAr k0 j_3 j_6 0) 0) - (cs (gAr k0 j_3 j_6 0) 1)))), some (.int (x3 + nI 1)), none] [] (HN h0 ad cs pm) 0 0)))))) : Wm mX6_valueKnownAt 0 0 0 Q 7 [some (.ref (ad (gSt k0))), some (.int x1), some (.int x2), some (.int x3), none] [] (HN h0 ad cs pm) 0 0 := by
  refine rl_iload_n dX6_valueKnownAt_7 rfl rfl ?_
  refine rl_aload_n dX6_valueKnownAt_8 rfl rfl ?_
  obtain ⟨o_1, H⟩ := H
  refine rt_getI (k := 0) cfX6 dX6_valueKnownAt_9 flX6_23 (by decide) rfl (lSt L o_1) nzSt ?_
  refine rl_icmp_ge (tgt := 52) dX6_valueKnownAt_12 (by decide) (fun c_2 => ?_) (fun c_2 => ?_)
  · have H := H.1 c_2
    refine rl_iload_n dX6_valueKnownAt_52 rfl rfl ?_
    exact rl_iret dX6_valueKnownAt_53 rfl (Nat.le_refl 0) (Nat.le_refl 0) H
  · have H := H.2 c_2
    refine rl_aload_n dX6_valueKnownAt_15 rfl rfl ?_
    refine rt_getP (k := 7) cfX6 dX6_valueKnownAt_16 flX6_29 (by decide) rfl (lSt L o_1) (rStV L o_1) naSt ?_
    refine rl_iload_n dX6_valueKnownAt_19 rfl rfl ?_
    obtain ⟨j_3, e_4, b_5, H⟩ := H
    refine rt_aald (ci := 7) (j := j_3) dX6_valueKnownAt_20 rfl (lVa L o_1) e_4 b_5 (lay5 L) (rVa L o_1 b_5) naVa ?_
    refine rt_getP (k := 0) cfX7 dX6_valueKnownAt_21 flX6_69 (by decide) rfl (lVw L ⟨o_1, Or.inl b_5⟩) (rVw L ⟨o_1, Or.inl b_5⟩) (naVw L ⟨o_1, Or.inl b_5⟩) ?_
    refine rl_iload_n dX6_valueKnownAt_24 rfl rfl ?_
    obtain ⟨j_6, e_7, b_8, H⟩ := H
    refine rt_aald (ci := 5) (j := j_6) dX6_valueKnownAt_25 rfl (lRa L ⟨o_1, Or.inl b_5⟩) e_7 b_8 (lay5 L) (rRa L ⟨o_1, Or.inl b_5⟩ b_8) (naRa L ⟨o_1, Or.inl b_5⟩) ?_
    refine rl_astore (L' := [some (.ref (ad (gSt k0))), some (.int x1), some (.int x2), some (.int x3), some (.ref (ad (gRc k0 j_3 j_6)))]) dX6_valueKnownAt_26 (Nat.le_of_ble_eq_true rfl) rfl ?_
    refine rl_iload_n dX6_valueKnownAt_28 rfl rfl ?_
    refine rl_aload dX6_valueKnownAt_29 rfl ?_
    refine rt_getP (k := 2) cfX5 dX6_valueKnownAt_31 flX6_77 (by decide) rfl (lRc L ⟨⟨o_1, Or.inl b_5⟩, b_8⟩) (rRc2 L ⟨⟨o_1, Or.inl b_5⟩, b_8⟩) (naRc L ⟨⟨o_1, Or.inl b_5⟩, b_8⟩) ?_
    refine rl_iconst (v := nI 0) dX6_valueKnownAt_34 (by decide) ?_
    refine rt_iald (j := 0) dX6_valueKnownAt_35 (lAr0 L ⟨⟨o_1, Or.inl b_5⟩, b_8⟩) nzAr rfl (by decide) (by decide) ?_
    refine rl_aload dX6_valueKnownAt_36 rfl ?_
    refine rt_getP (k := 2) cfX5 dX6_valueKnownAt_38 flX6_77 (by decide) rfl (lRc L ⟨⟨o_1, Or.inl b_5⟩, b_8⟩) (rRc2 L ⟨⟨o_1, Or.inl b_5⟩, b_8⟩) (naRc L ⟨⟨o_1, Or.inl b_5⟩, b_8⟩) ?_
    refine rl_iconst (v := nI 1) dX6_valueKnownAt_41 (by decide) ?_
    refine rt_iald (j := 1) dX6_valueKnownAt_42 (lAr0 L ⟨⟨o_1, Or.inl b_5⟩, b_8⟩) nzAr rfl (by decide) (by decide) ?_
    refine rl_isub dX6_valueKnownAt_43 ?_
    refine rl_iadd dX6_valueKnownAt_44 ?_
    refine rl_istore_n (L' := [some (.ref (ad (gSt k0))), some (.int x1), some (.int (x2 + ((cs (gAr k0 j_3 j_6 0) 0) - (cs (gAr k0 j_3 j_6 0) 1)))), some (.int x3), some (.ref (ad (gRc k0 j_3 j_6)))]) dX6_valueKnownAt_45 rfl (Nat.le_of_ble_eq_true rfl) rfl ?_
    refine rl_iinc (v := x3 + nI 1) (L' := [some (.ref (ad (gSt k0))), some (.int x1), some (.int (x2 + ((cs (gAr k0 j_3 j_6 0) 0) - (cs (gAr k0 j_3 j_6 0) 1)))), some (.int (x3 + nI 1)), some (.ref (ad (gRc k0 j_3 j_6)))]) dX6_valueKnownAt_46 rfl (congrArg (fun z => x3 + z) (by decide)) (Nat.le_of_ble_eq_true rfl) rfl ?_
    refine rl_goto (tgt := 7) dX6_valueKnownAt_49 (by decide) ?_
    refine rl_wk (L' := [some (.ref (ad (gSt k0))), some (.int x1), some (.int (x2 + ((cs (gAr k0 j_3 j_6 0) 0) - (cs (gAr k0 j_3 j_6 0) 1)))), some (.int (x3 + nI 1)), none]) ⟨rfl, ⟨rfl, ⟨rfl, ⟨rfl, trivial⟩⟩⟩⟩ ?_
    exact H
theorem tX6_loanFact_0 {n : Nat} {ad : Nat → Nat} {h0 : Hp} {cs : Nat → Nat → Int32} {pm : Nat → Nat → Nat} (L : Lay n ad h0) {Q : Nat → Option Value → Hp → Prop} {k0 : Nat} {x1 x2 : Int32} (H : k0 < 7 ∧ ∃ j_2 : Nat, x1 = nI j_2 ∧ j_2 < 10 ∧ (((x2 = nI 0 → Q 0 (some (.int (cs (gLn k0 j_2) 0))) (HN h0 ad cs pm)) ∧ (x2 = nI 1 → Q 0 (some (.int (cs (gLn k0 j_2) 1))) (HN h0 ad cs pm)) ∧ (x2 = nI 2 → Q 0 (some (.int (cs (gLn k0 j_2) 2))) (HN h0 ad cs pm)) ∧ (x2 = nI 3 → Q 0 (some (.int (cs (gLn k0 j_2) 3))) (HN h0 ad cs pm)) ∧ (x2 = nI 4 → Q 0 (some (.int (cs (gLn k0 j_2) 4))) (HN h0 ad cs pm)) ∧ (x2 = nI 5 → CKr mX6_recordOf 0 0 0 [some (.ref (ad (gSt k0))), some (.int (cs (gLn k0 j_2) 1))] (HN h0 ad cs pm) (fun v h' => Wm mX6_loanFact 2 0 0 Q 85 [none, some (.int x1), none, none] [.ref v] h' 0 0)) ∧ (x2 = nI 6 → CKi mX6_restOf 1 0 0 [some (.ref (ad (gSt k0))), some (.int x1), none, none] (HN h0 ad cs pm) (fun v h' => Wm mX6_loanFact 2 0 0 Q 96 [none, none, none, none] [.int v] h' 0 0)) ∧ (¬ x2 = nI 0 → ¬ x2 = nI 1 → ¬ x2 = nI 2 → ¬ x2 = nI 3 → ¬ x2 = nI 4 → ¬ x2 = nI 5 → ¬ x2 = nI 6 → CKi mX6_hasComeBack 0 0 0 [some (.ref (ad (gSt k0))), some (.ref (ad (gLn k0 j_2)))] (HN h0 ad cs pm) (fun v h' => Wm mX6_loanFact 2 0 0 Q 102 [none, none, none, none] [.int v] h' 0 0))))) : Wm mX6_loanFact 2 0 0 Q 0 [some (.ref (ad (gSt k0))), some (.int x1), some (.int x2), none] [] (HN h0 ad cs pm) 0 0 := by
  refine rl_aload_n dX6_loanFact_0 rfl rfl ?_
  obtain ⟨o_1, H⟩ := H
  refine rt_getP (k := 8) cfX6 dX6_loanFact_1 flX6_11 (by decide) rfl (lSt L o_1) (rStL L o_1) naSt ?_
  refine rl_iload_n dX6_loanFact_4 rfl rfl ?_
  obtain ⟨j_2, e_3, b_4, H⟩ := H
  refine rt_aald (ci := 2) (j := j_2) dX6_loanFact_5 rfl (lLa L o_1) e_3 b_4 (by decide) (rLa L o_1 b_4) naLa ?_
  refine rl_astore_n (L' := [some (.ref (ad (gSt k0))), some (.int x1), some (.int x2), some (.ref (ad (gLn k0 j_2)))]) dX6_loanFact_6 rfl (Nat.le_of_ble_eq_true rfl) rfl ?_
  refine rl_iload_n dX6_loanFact_7 rfl rfl ?_
  by_cases c_5 : x2 = nI 0
  · have H := (H.1) c_5
    refine rl_tableIn (tgt := 52) dX6_loanFact_8 (by rw [c_5]; decide) (by rw [c_5]; decide) (by rw [c_5]; rfl) (by decide) ?_
    refine rl_aload_n dX6_loanFact_52 rfl rfl ?_
    refine rt_getI (k := 0) cfX2 dX6_loanFact_53 flX6_102 (by decide) rfl (lLn L ⟨o_1, b_4⟩) nzLn ?_
    exact rl_iret dX6_loanFact_56 rfl (Nat.le_refl 0) (Nat.le_refl 0) H
  by_cases c_6 : x2 = nI 1
  · have H := (H.2.1) c_6
    refine rl_tableIn (tgt := 57) dX6_loanFact_8 (by rw [c_6]; decide) (by rw [c_6]; decide) (by rw [c_6]; rfl) (by decide) ?_
    refine rl_aload_n dX6_loanFact_57 rfl rfl ?_
    refine rt_getI (k := 1) cfX2 dX6_loanFact_58 flX6_96 (by decide) rfl (lLn L ⟨o_1, b_4⟩) nzLn ?_
    exact rl_iret dX6_loanFact_61 rfl (Nat.le_refl 0) (Nat.le_refl 0) H
  by_cases c_7 : x2 = nI 2
  · have H := (H.2.2.1) c_7
    refine rl_tableIn (tgt := 62) dX6_loanFact_8 (by rw [c_7]; decide) (by rw [c_7]; decide) (by rw [c_7]; rfl) (by decide) ?_
    refine rl_aload_n dX6_loanFact_62 rfl rfl ?_
    refine rt_getI (k := 2) cfX2 dX6_loanFact_63 flX6_90 (by decide) rfl (lLn L ⟨o_1, b_4⟩) nzLn ?_
    exact rl_iret dX6_loanFact_66 rfl (Nat.le_refl 0) (Nat.le_refl 0) H
  by_cases c_8 : x2 = nI 3
  · have H := (H.2.2.2.1) c_8
    refine rl_tableIn (tgt := 67) dX6_loanFact_8 (by rw [c_8]; decide) (by rw [c_8]; decide) (by rw [c_8]; rfl) (by decide) ?_
    refine rl_aload_n dX6_loanFact_67 rfl rfl ?_
    refine rt_getI (k := 3) cfX2 dX6_loanFact_68 flX6_109 (by decide) rfl (lLn L ⟨o_1, b_4⟩) nzLn ?_
    exact rl_iret dX6_loanFact_71 rfl (Nat.le_refl 0) (Nat.le_refl 0) H
  by_cases c_9 : x2 = nI 4
  · have H := (H.2.2.2.2.1) c_9
    refine rl_tableIn (tgt := 72) dX6_loanFact_8 (by rw [c_9]; decide) (by rw [c_9]; decide) (by rw [c_9]; rfl) (by decide) ?_
    refine rl_aload_n dX6_loanFact_72 rfl rfl ?_
    refine rt_getI (k := 4) cfX2 dX6_loanFact_73 flX6_112 (by decide) rfl (lLn L ⟨o_1, b_4⟩) nzLn ?_
    exact rl_iret dX6_loanFact_76 rfl (Nat.le_refl 0) (Nat.le_refl 0) H
  by_cases c_10 : x2 = nI 5
  · have H := (H.2.2.2.2.2.1) c_10
    refine rl_tableIn (tgt := 77) dX6_loanFact_8 (by rw [c_10]; decide) (by rw [c_10]; decide) (by rw [c_10]; rfl) (by decide) ?_
    refine rl_aload_n dX6_loanFact_77 rfl rfl ?_
    refine rl_aload_n dX6_loanFact_78 rfl rfl ?_
    refine rt_getI (k := 1) cfX2 dX6_loanFact_79 flX6_96 (by decide) rfl (lLn L ⟨o_1, b_4⟩) nzLn ?_
    exact rl_callV (As := [.int (cs (gLn k0 j_2) 1)]) (rest := []) mfX6_recordOf dX6_loanFact_82 lkX6_73 (lSt L o_1).K (by decide) (Nat.le_of_ble_eq_true rfl) (Nat.le_refl _) (Nat.le_refl _) rfl (Nat.le_of_ble_eq_true rfl) rfl rfl (fun Qc k => H Qc (fun v h' w => k (some (.ref v)) h' (rl_wk (L' := [none, some (.int x1), none, none]) ⟨rfl, trivial⟩ w)))
  by_cases c_11 : x2 = nI 6
  · have H := (H.2.2.2.2.2.2.1) c_11
    refine rl_tableIn (tgt := 91) dX6_loanFact_8 (by rw [c_11]; decide) (by rw [c_11]; decide) (by rw [c_11]; rfl) (by decide) ?_
    refine rl_aload_n dX6_loanFact_91 rfl rfl ?_
    refine rl_iload_n dX6_loanFact_92 rfl rfl ?_
    exact rl_callV (As := [.int x1]) (rest := []) mfX6_restOf dX6_loanFact_93 lkX6_123 (lSt L o_1).K (by decide) (Nat.le_of_ble_eq_true rfl) (Nat.le_refl _) (Nat.le_refl _) rfl (Nat.le_of_ble_eq_true rfl) rfl rfl (fun Qc k => H Qc (fun v h' w => k (some (.int v)) h' (rl_wk (L' := [none, none, none, none]) trivial w)))
  have H := (H.2.2.2.2.2.2.2) c_5 c_6 c_7 c_8 c_9 c_10 c_11
  refine rl_tableOut (tgt := 97) dX6_loanFact_8 (by have g0 := lv_neT c_5 (a := 0) (by decide); have g1 := lv_neT c_6 (a := 1) (by decide); have g2 := lv_neT c_7 (a := 2) (by decide); have g3 := lv_neT c_8 (a := 3) (by decide); have g4 := lv_neT c_9 (a := 4) (by decide); have g5 := lv_neT c_10 (a := 5) (by decide); have g6 := lv_neT c_11 (a := 6) (by decide); omega) (by decide) ?_
  refine rl_aload_n dX6_loanFact_97 rfl rfl ?_
  refine rl_aload_n dX6_loanFact_98 rfl rfl ?_
  exact rl_callV (As := [.ref (ad (gLn k0 j_2))]) (rest := []) mfX6_hasComeBack dX6_loanFact_99 lkX6_105 (lSt L o_1).K (by decide) (Nat.le_of_ble_eq_true rfl) (Nat.le_refl _) (Nat.le_refl _) rfl (Nat.le_of_ble_eq_true rfl) rfl rfl (fun Qc k => H Qc (fun v h' w => k (some (.int v)) h' (rl_wk (L' := [none, none, none, none]) trivial w)))
theorem tX6_loanFact_85 {n : Nat} {ad : Nat → Nat} {h0 : Hp} {cs : Nat → Nat → Int32} {pm : Nat → Nat → Nat} (L : Lay n ad h0) {Q : Nat → Option Value → Hp → Prop} {ks0 os0 ws0 : Nat} {x1 : Int32} (H : vRc n ks0 ws0 os0 ∧ ∃ j_2 : Nat, x1 = nI j_2 ∧ j_2 < 10 ∧ (Q 0 (some (.int (cs (gAr ks0 ws0 os0 3) j_2))) (HN h0 ad cs pm))) : Wm mX6_loanFact 2 0 0 Q 85 [none, some (.int x1), none, none] [.ref (ad (gRc ks0 ws0 os0))] (HN h0 ad cs pm) 0 0 := by
  obtain ⟨o_1, H⟩ := H
  refine rt_getP (k := 6) cfX5 dX6_loanFact_85 flX6_99 (by decide) rfl (lRc L o_1) (rRc6 L o_1) (naRc L o_1) ?_
  refine rl_iload_n dX6_loanFact_88 rfl rfl ?_
  obtain ⟨j_2, e_3, b_4, H⟩ := H
  refine rt_iald (j := j_2) dX6_loanFact_89 (lAr3 L o_1) nzAr e_3 b_4 (by decide) ?_
  exact rl_iret dX6_loanFact_90 rfl (Nat.le_refl 0) (Nat.le_refl 0) H
theorem tX6_loanFact_96 {n : Nat} {ad : Nat → Nat} {h0 : Hp} {cs : Nat → Nat → Int32} {pm : Nat → Nat → Nat} (L : Lay n ad h0) {Q : Nat → Option Value → Hp → Prop} {xs0 : Int32} (H : Q 0 (some (.int xs0)) (HN h0 ad cs pm)) : Wm mX6_loanFact 2 0 0 Q 96 [none, none, none, none] [.int xs0] (HN h0 ad cs pm) 0 0 := by
  exact rl_iret dX6_loanFact_96 rfl (Nat.le_refl 0) (Nat.le_refl 0) H
theorem tX6_loanFact_102 {n : Nat} {ad : Nat → Nat} {h0 : Hp} {cs : Nat → Nat → Int32} {pm : Nat → Nat → Nat} (L : Lay n ad h0) {Q : Nat → Option Value → Hp → Prop} {xs0 : Int32} (H : ((xs0 = 0 → Q 0 (some (.int (nI 0))) (HN h0 ad cs pm)) ∧ (¬ xs0 = 0 → Q 0 (some (.int (nI 1))) (HN h0 ad cs pm)))) : Wm mX6_loanFact 2 0 0 Q 102 [none, none, none, none] [.int xs0] (HN h0 ad cs pm) 0 0 := by
  refine rl_if_eq (tgt := 109) dX6_loanFact_102 (by decide) (fun c_1 => ?_) (fun c_1 => ?_)
  · have H := H.1 c_1
    refine rl_iconst (v := nI 0) dX6_loanFact_109 (by decide) ?_
    exact rl_iret dX6_loanFact_110 rfl (Nat.le_refl 0) (Nat.le_refl 0) H
  · have H := H.2 c_1
    refine rl_iconst (v := nI 1) dX6_loanFact_105 (by decide) ?_
    refine rl_goto (tgt := 110) dX6_loanFact_106 (by decide) ?_
    exact rl_iret dX6_loanFact_110 rfl (Nat.le_refl 0) (Nat.le_refl 0) H
theorem tX6_makeLoan_0 {n : Nat} {ad : Nat → Nat} {h0 : Hp} {cs : Nat → Nat → Int32} {pm : Nat → Nat → Nat} (L : Lay n ad h0) {Q : Nat → Option Value → Hp → Prop} {k0 : Nat} {x1 x2 x3 x4 x5 : Int32} (H : k0 < 7 ∧ ∃ j_2 : Nat, cs (gSt k0) 5 = nI j_2 ∧ j_2 < 10 ∧ (CKr mX6_recordOf 0 0 0 [some (.ref (ad (gSt k0))), some (.int x2)] (HN h0 ad (up2 (up2 (up2 (up2 (up2 (up2 cs (gLn k0 j_2) 0 x2) (gLn k0 j_2) 1 x3) (gLn k0 j_2) 2 x1) (gLn k0 j_2) 3 x4) (gLn k0 j_2) 4 ((cs (gSt k0) 4) + x5)) (gSt k0) 5 ((cs (gSt k0) 5) + (nI 1))) pm) (fun v h' => Wm mX6_makeLoan 1 0 0 Q 67 [none, none, none, none, none, none, some (.int (cs (gSt k0) 5)), none, none] [.ref v] h' 0 0))) : Wm mX6_makeLoan 1 0 0 Q 0 [some (.ref (ad (gSt k0))), some (.int x1), some (.int x2), some (.int x3), some (.int x4), some (.int x5), none, none, none] [] (HN h0 ad cs pm) 0 0 := by
  refine rl_aload_n dX6_makeLoan_0 rfl rfl ?_
  obtain ⟨o_1, H⟩ := H
  refine rt_getI (k := 5) cfX6 dX6_makeLoan_1 flX6_50 (by decide) rfl (lSt L o_1) nzSt ?_
  refine rl_istore (L' := [some (.ref (ad (gSt k0))), some (.int x1), some (.int x2), some (.int x3), some (.int x4), some (.int x5), some (.int (cs (gSt k0) 5)), none, none]) dX6_makeLoan_4 (Nat.le_of_ble_eq_true rfl) rfl ?_
  refine rl_aload_n dX6_makeLoan_6 rfl rfl ?_
  refine rt_getP (k := 8) cfX6 dX6_makeLoan_7 flX6_11 (by decide) rfl (lSt L o_1) (rStL L o_1) naSt ?_
  refine rl_iload dX6_makeLoan_10 rfl ?_
  obtain ⟨j_2, e_3, b_4, H⟩ := H
  refine rt_aald (ci := 2) (j := j_2) dX6_makeLoan_12 rfl (lLa L o_1) e_3 b_4 (by decide) (rLa L o_1 b_4) naLa ?_
  refine rl_astore (L' := [some (.ref (ad (gSt k0))), some (.int x1), some (.int x2), some (.int x3), some (.int x4), some (.int x5), some (.int (cs (gSt k0) 5)), some (.ref (ad (gLn k0 j_2))), none]) dX6_makeLoan_13 (Nat.le_of_ble_eq_true rfl) rfl ?_
  refine rl_aload dX6_makeLoan_15 rfl ?_
  refine rl_iload_n dX6_makeLoan_17 rfl rfl ?_
  refine rt_putI (k := 0) L.2.1 cfX2 dX6_makeLoan_18 flX6_102 (by decide) rfl (lLn L ⟨o_1, b_4⟩) nzLn (Or.inl rfl) ?_
  refine rl_aload dX6_makeLoan_21 rfl ?_
  refine rl_iload_n dX6_makeLoan_23 rfl rfl ?_
  refine rt_putI (k := 1) L.2.1 cfX2 dX6_makeLoan_24 flX6_96 (by decide) rfl (lLn L ⟨o_1, b_4⟩) nzLn (Or.inl rfl) ?_
  refine rl_aload dX6_makeLoan_27 rfl ?_
  refine rl_iload_n dX6_makeLoan_29 rfl rfl ?_
  refine rt_putI (k := 2) L.2.1 cfX2 dX6_makeLoan_30 flX6_90 (by decide) rfl (lLn L ⟨o_1, b_4⟩) nzLn (Or.inl rfl) ?_
  refine rl_aload dX6_makeLoan_33 rfl ?_
  refine rl_iload dX6_makeLoan_35 rfl ?_
  refine rt_putI (k := 3) L.2.1 cfX2 dX6_makeLoan_37 flX6_109 (by decide) rfl (lLn L ⟨o_1, b_4⟩) nzLn (Or.inl rfl) ?_
  refine rl_aload dX6_makeLoan_40 rfl ?_
  refine rl_aload_n dX6_makeLoan_42 rfl rfl ?_
  refine rt_getIv (x := cs (gSt k0) 4) (k := 4) cfX6 dX6_makeLoan_43 flX6_47 (by decide) rfl (lSt L o_1) nzSt ((up2_k (by decide)).trans ((up2_k (by decide)).trans ((up2_k (by decide)).trans ((up2_k (by decide)).trans (rfl))))) ?_
  refine rl_iload dX6_makeLoan_46 rfl ?_
  refine rl_iadd dX6_makeLoan_48 ?_
  refine rt_putI (k := 4) L.2.1 cfX2 dX6_makeLoan_49 flX6_112 (by decide) rfl (lLn L ⟨o_1, b_4⟩) nzLn (Or.inl rfl) ?_
  refine rl_aload_n dX6_makeLoan_52 rfl rfl ?_
  refine rl_dup dX6_makeLoan_53 rfl ?_
  refine rt_getIv (x := cs (gSt k0) 5) (k := 5) cfX6 dX6_makeLoan_54 flX6_50 (by decide) rfl (lSt L o_1) nzSt ((up2_k (by decide)).trans ((up2_k (by decide)).trans ((up2_k (by decide)).trans ((up2_k (by decide)).trans ((up2_k (by decide)).trans (rfl)))))) ?_
  refine rl_iconst (v := nI 1) dX6_makeLoan_57 (by decide) ?_
  refine rl_iadd dX6_makeLoan_58 ?_
  refine rt_putI (k := 5) L.2.1 cfX6 dX6_makeLoan_59 flX6_50 (by decide) rfl (lSt L o_1) nzSt (Or.inl rfl) ?_
  refine rl_aload_n dX6_makeLoan_62 rfl rfl ?_
  refine rl_iload_n dX6_makeLoan_63 rfl rfl ?_
  exact rl_callV (As := [.int x2]) (rest := []) mfX6_recordOf dX6_makeLoan_64 lkX6_73 (lSt L o_1).K (by decide) (Nat.le_of_ble_eq_true rfl) (Nat.le_refl _) (Nat.le_refl _) rfl (Nat.le_of_ble_eq_true rfl) rfl rfl (fun Qc k => H Qc (fun v h' w => k (some (.ref v)) h' (rl_wk (L' := [none, none, none, none, none, none, some (.int (cs (gSt k0) 5)), none, none]) ⟨rfl, trivial⟩ w)))
theorem tX6_makeLoan_67 {n : Nat} {ad : Nat → Nat} {h0 : Hp} {cs : Nat → Nat → Int32} {pm : Nat → Nat → Nat} (L : Lay n ad h0) {Q : Nat → Option Value → Hp → Prop} {ks0 os0 ws0 : Nat} {x6 : Int32} (H : vRc n ks0 ws0 os0 ∧ Q 0 (some (.int x6)) (HN h0 ad (up2 (up2 cs (gRc ks0 ws0 os0) 5 ((cs (gRc ks0 ws0 os0) 5) ||| ((nI 1) <<< (x6 &&& 31)))) (gRc ks0 ws0 os0) 0 ((cs (gRc ks0 ws0 os0) 0) + (nI 1))) pm)) : Wm mX6_makeLoan 1 0 0 Q 67 [none, none, none, none, none, none, some (.int x6), none, none] [.ref (ad (gRc ks0 ws0 os0))] (HN h0 ad cs pm) 0 0 := by
  refine rl_astore (L' := [none, none, none, none, none, none, some (.int x6), none, some (.ref (ad (gRc ks0 ws0 os0)))]) dX6_makeLoan_67 (Nat.le_of_ble_eq_true rfl) rfl ?_
  refine rl_aload dX6_makeLoan_69 rfl ?_
  refine rl_dup dX6_makeLoan_71 rfl ?_
  obtain ⟨o_1, H⟩ := H
  refine rt_getI (k := 5) cfX5 dX6_makeLoan_72 flX6_159 (by decide) rfl (lRc L o_1) nzRc ?_
  refine rl_iconst (v := nI 1) dX6_makeLoan_75 (by decide) ?_
  refine rl_iload dX6_makeLoan_76 rfl ?_
  refine rl_ishl dX6_makeLoan_78 ?_
  refine rl_ior dX6_makeLoan_79 ?_
  refine rt_putI (k := 5) L.2.1 cfX5 dX6_makeLoan_80 flX6_159 (by decide) rfl (lRc L o_1) nzRc (Or.inl rfl) ?_
  refine rl_aload dX6_makeLoan_83 rfl ?_
  refine rl_dup dX6_makeLoan_85 rfl ?_
  refine rt_getIv (x := cs (gRc ks0 ws0 os0) 0) (k := 0) cfX5 dX6_makeLoan_86 flX6_137 (by decide) rfl (lRc L o_1) nzRc ((up2_k (by decide)).trans (rfl)) ?_
  refine rl_iconst (v := nI 1) dX6_makeLoan_89 (by decide) ?_
  refine rl_iadd dX6_makeLoan_90 ?_
  refine rt_putI (k := 0) L.2.1 cfX5 dX6_makeLoan_91 flX6_137 (by decide) rfl (lRc L o_1) nzRc (Or.inl rfl) ?_
  refine rl_iload dX6_makeLoan_94 rfl ?_
  exact rl_iret dX6_makeLoan_96 rfl (Nat.le_refl 0) (Nat.le_refl 0) H
theorem tX6_shareOut_0 {n : Nat} {ad : Nat → Nat} {h0 : Hp} {cs : Nat → Nat → Int32} {pm : Nat → Nat → Nat} (L : Lay n ad h0) {Q : Nat → Option Value → Hp → Prop} {k0 : Nat} {x1 x2 : Int32} (H : Wm mX6_shareOut 3 0 0 Q 5 [some (.ref (ad (gSt k0))), some (.int x1), some (.int x2), some (.int (nI 0)), some (.int (nI 0)), none, none, none, none, none] [] (HN h0 ad cs pm) 0 0) : Wm mX6_shareOut 3 0 0 Q 0 [some (.ref (ad (gSt k0))), some (.int x1), some (.int x2), none, none, none, none, none, none, none] [] (HN h0 ad cs pm) 0 0 := by
  refine rl_iconst (v := nI 0) dX6_shareOut_0 (by decide) ?_
  refine rl_istore_n (L' := [some (.ref (ad (gSt k0))), some (.int x1), some (.int x2), some (.int (nI 0)), none, none, none, none, none, none]) dX6_shareOut_1 rfl (Nat.le_of_ble_eq_true rfl) rfl ?_
  refine rl_iconst (v := nI 0) dX6_shareOut_2 (by decide) ?_
  refine rl_istore (L' := [some (.ref (ad (gSt k0))), some (.int x1), some (.int x2), some (.int (nI 0)), some (.int (nI 0)), none, none, none, none, none]) dX6_shareOut_3 (Nat.le_of_ble_eq_true rfl) rfl ?_
  exact H
theorem tX6_shareOut_5 {n : Nat} {ad : Nat → Nat} {h0 : Hp} {cs : Nat → Nat → Int32} {pm : Nat → Nat → Nat} (L : Lay n ad h0) {Q : Nat → Option Value → Hp → Prop} {k0 : Nat} {x1 x2 x3 x4 : Int32} (H : k0 < 7 ∧ (((cs (gSt k0) 0) ≤ x4 → ((0 < x3 → CKi mX6_ownRights 2 0 0 [some (.ref (ad (gSt k0))), some (.int x1), some (.int x2), none, none, none] (HN h0 ad cs pm) (fun v h' => Wm mX6_shareOut 3 0 0 Q 52 [some (.ref (ad (gSt k0))), some (.int x1), some (.int x2), some (.int x3), none, none, none, none, none, none] [.int v] h' 0 0)) ∧ (¬ 0 < x3 → Q 0 (some (.int (nI 0))) (HN h0 ad cs pm)))) ∧ (¬ (cs (gSt k0) 0) ≤ x4 → (∃ j_4 : Nat, x1 = nI j_4 ∧ j_4 < n ∧ (∃ j_7 : Nat, x4 = nI j_7 ∧ j_7 < n ∧ (∃ j_10 : Nat, x2 = nI j_10 ∧ j_10 < 2 ∧ (Wm mX6_shareOut 3 0 0 Q 5 [some (.ref (ad (gSt k0))), some (.int x1), some (.int x2), some (.int (x3 + (cs (gAr k0 j_4 j_7 1) j_10))), some (.int (x4 + nI 1)), none, none, none, none, none] [] (HN h0 ad cs pm) 0 0))))))) : Wm mX6_shareOut 3 0 0 Q 5 [some (.ref (ad (gSt k0))), some (.int x1), some (.int x2), some (.int x3), some (.int x4), none, none, none, none, none] [] (HN h0 ad cs pm) 0 0 := by
  refine rl_iload dX6_shareOut_5 rfl ?_
  refine rl_aload_n dX6_shareOut_7 rfl rfl ?_
  obtain ⟨o_1, H⟩ := H
  refine rt_getI (k := 0) cfX6 dX6_shareOut_8 flX6_23 (by decide) rfl (lSt L o_1) nzSt ?_
  refine rl_icmp_ge (tgt := 40) dX6_shareOut_11 (by decide) (fun c_2 => ?_) (fun c_2 => ?_)
  · have H := H.1 c_2
    refine rl_iload_n dX6_shareOut_40 rfl rfl ?_
    refine rl_if_gt (tgt := 46) dX6_shareOut_41 (by decide) (fun c_3 => ?_) (fun c_3 => ?_)
    · have H := H.1 c_3
      refine rl_aload_n dX6_shareOut_46 rfl rfl ?_
      refine rl_iload_n dX6_shareOut_47 rfl rfl ?_
      refine rl_iload_n dX6_shareOut_48 rfl rfl ?_
      exact rl_callV (As := [.int x1, .int x2]) (rest := []) mfX6_ownRights dX6_shareOut_49 lkX6_120 (lSt L o_1).K (by decide) (Nat.le_of_ble_eq_true rfl) (Nat.le_refl _) (Nat.le_refl _) rfl (Nat.le_of_ble_eq_true rfl) rfl rfl (fun Qc k => H Qc (fun v h' w => k (some (.int v)) h' (rl_wk (L' := [some (.ref (ad (gSt k0))), some (.int x1), some (.int x2), some (.int x3), none, none, none, none, none, none]) ⟨rfl, ⟨rfl, ⟨rfl, ⟨rfl, trivial⟩⟩⟩⟩ w)))
    · have H := H.2 c_3
      refine rl_iconst (v := nI 0) dX6_shareOut_44 (by decide) ?_
      exact rl_iret dX6_shareOut_45 rfl (Nat.le_refl 0) (Nat.le_refl 0) H
  · have H := H.2 c_2
    refine rl_iload_n dX6_shareOut_14 rfl rfl ?_
    refine rl_aload_n dX6_shareOut_15 rfl rfl ?_
    refine rt_getP (k := 7) cfX6 dX6_shareOut_16 flX6_29 (by decide) rfl (lSt L o_1) (rStV L o_1) naSt ?_
    refine rl_iload_n dX6_shareOut_19 rfl rfl ?_
    obtain ⟨j_4, e_5, b_6, H⟩ := H
    refine rt_aald (ci := 7) (j := j_4) dX6_shareOut_20 rfl (lVa L o_1) e_5 b_6 (lay5 L) (rVa L o_1 b_6) naVa ?_
    refine rt_getP (k := 0) cfX7 dX6_shareOut_21 flX6_69 (by decide) rfl (lVw L ⟨o_1, Or.inl b_6⟩) (rVw L ⟨o_1, Or.inl b_6⟩) (naVw L ⟨o_1, Or.inl b_6⟩) ?_
    refine rl_iload dX6_shareOut_24 rfl ?_
    obtain ⟨j_7, e_8, b_9, H⟩ := H
    refine rt_aald (ci := 5) (j := j_7) dX6_shareOut_26 rfl (lRa L ⟨o_1, Or.inl b_6⟩) e_8 b_9 (lay5 L) (rRa L ⟨o_1, Or.inl b_6⟩ b_9) (naRa L ⟨o_1, Or.inl b_6⟩) ?_
    refine rt_getP (k := 3) cfX5 dX6_shareOut_27 flX6_140 (by decide) rfl (lRc L ⟨⟨o_1, Or.inl b_6⟩, b_9⟩) (rRc3 L ⟨⟨o_1, Or.inl b_6⟩, b_9⟩) (naRc L ⟨⟨o_1, Or.inl b_6⟩, b_9⟩) ?_
    refine rl_iload_n dX6_shareOut_30 rfl rfl ?_
    obtain ⟨j_10, e_11, b_12, H⟩ := H
    refine rt_iald (j := j_10) dX6_shareOut_31 (lAr1 L ⟨⟨o_1, Or.inl b_6⟩, b_9⟩) nzAr e_11 b_12 (by decide) ?_
    refine rl_iadd dX6_shareOut_32 ?_
    refine rl_istore_n (L' := [some (.ref (ad (gSt k0))), some (.int x1), some (.int x2), some (.int (x3 + (cs (gAr k0 j_4 j_7 1) j_10))), some (.int x4), none, none, none, none, none]) dX6_shareOut_33 rfl (Nat.le_of_ble_eq_true rfl) rfl ?_
    refine rl_iinc (v := x4 + nI 1) (L' := [some (.ref (ad (gSt k0))), some (.int x1), some (.int x2), some (.int (x3 + (cs (gAr k0 j_4 j_7 1) j_10))), some (.int (x4 + nI 1)), none, none, none, none, none]) dX6_shareOut_34 rfl (congrArg (fun z => x4 + z) (by decide)) (Nat.le_of_ble_eq_true rfl) rfl ?_
    refine rl_goto (tgt := 5) dX6_shareOut_37 (by decide) ?_
    exact H
theorem tX6_shareOut_52 {n : Nat} {ad : Nat → Nat} {h0 : Hp} {cs : Nat → Nat → Int32} {pm : Nat → Nat → Nat} (L : Lay n ad h0) {Q : Nat → Option Value → Hp → Prop} {k0 : Nat} {x1 x2 x3 xs0 : Int32} (H : Wm mX6_shareOut 3 0 0 Q 61 [some (.ref (ad (gSt k0))), some (.int x1), some (.int x2), some (.int x3), some (.long ((xs0).toInt64)), none, some (.int (nI 0)), some (.int (nI 0)), none, none] [] (HN h0 ad cs pm) 0 0) : Wm mX6_shareOut 3 0 0 Q 52 [some (.ref (ad (gSt k0))), some (.int x1), some (.int x2), some (.int x3), none, none, none, none, none, none] [.int xs0] (HN h0 ad cs pm) 0 0 := by
  refine rl_i2l dX6_shareOut_52 ?_
  refine rl_lstore (L' := [some (.ref (ad (gSt k0))), some (.int x1), some (.int x2), some (.int x3), some (.long ((xs0).toInt64)), none, none, none, none, none]) dX6_shareOut_53 (Nat.le_of_ble_eq_true rfl) rfl ?_
  refine rl_iconst (v := nI 0) dX6_shareOut_55 (by decide) ?_
  refine rl_istore (L' := [some (.ref (ad (gSt k0))), some (.int x1), some (.int x2), some (.int x3), some (.long ((xs0).toInt64)), none, some (.int (nI 0)), none, none, none]) dX6_shareOut_56 (Nat.le_of_ble_eq_true rfl) rfl ?_
  refine rl_iconst (v := nI 0) dX6_shareOut_58 (by decide) ?_
  refine rl_istore (L' := [some (.ref (ad (gSt k0))), some (.int x1), some (.int x2), some (.int x3), some (.long ((xs0).toInt64)), none, some (.int (nI 0)), some (.int (nI 0)), none, none]) dX6_shareOut_59 (Nat.le_of_ble_eq_true rfl) rfl ?_
  exact H
theorem tX6_shareOut_61 {n : Nat} {ad : Nat → Nat} {h0 : Hp} {cs : Nat → Nat → Int32} {pm : Nat → Nat → Nat} (L : Lay n ad h0) {Q : Nat → Option Value → Hp → Prop} {k0 : Nat} {x1 x2 x3 x6 x7 : Int32} {j4 : Int64} (H : k0 < 7 ∧ (((cs (gSt k0) 0) ≤ x7 → Q 0 (some (.int x6)) (HN h0 ad cs pm)) ∧ (¬ (cs (gSt k0) 0) ≤ x7 → (∃ j_3 : Nat, x1 = nI j_3 ∧ j_3 < n ∧ (∃ j_6 : Nat, x7 = nI j_6 ∧ j_6 < n ∧ (∃ j_9 : Nat, x2 = nI j_9 ∧ j_9 < 2 ∧ (¬ ((x3).toInt64) = 0 ∧ ((x7 = x1 → Wm mX6_shareOut 3 0 0 Q 128 [some (.ref (ad (gSt k0))), some (.int x1), some (.int x2), some (.int x3), some (.long j4), none, some (.int x6), some (.int x7), none, none] [] (HN h0 ad cs pm) 0 0) ∧ (¬ x7 = x1 → (((lg_cmp ((j4 * ((cs (gAr k0 j_3 j_6 1) j_9).toInt64)) / ((x3).toInt64)) 0) ≤ 0 → Wm mX6_shareOut 3 0 0 Q 128 [some (.ref (ad (gSt k0))), some (.int x1), some (.int x2), some (.int x3), some (.long j4), none, some (.int x6), some (.int x7), none, none] [] (HN h0 ad cs pm) 0 0) ∧ (¬ (lg_cmp ((j4 * ((cs (gAr k0 j_3 j_6 1) j_9).toInt64)) / ((x3).toInt64)) 0) ≤ 0 → CKv mX6_give 1 0 0 [some (.ref (ad (gSt k0))), some (.int x2), some (.int x1), some (.int x7), some (.int (((j4 * ((cs (gAr k0 j_3 j_6 1) j_9).toInt64)) / ((x3).toInt64)).toInt32))] (HN h0 ad cs pm) (fun h' => Wm mX6_shareOut 3 0 0 Q 120 [some (.ref (ad (gSt k0))), some (.int x1), some (.int x2), some (.int x3), some (.long j4), none, some (.int x6), some (.int x7), some (.long ((j4 * ((cs (gAr k0 j_3 j_6 1) j_9).toInt64)) / ((x3).toInt64))), none] [] h' 0 0)))))))))))) : Wm mX6_shareOut 3 0 0 Q 61 [some (.ref (ad (gSt k0))), some (.int x1), some (.int x2), some (.int x3), some (.long j4), none, some (.int x6), some (.int x7), none, none] [] (HN h0 ad cs pm) 0 0 := by
  refine rl_iload dX6_shareOut_61 rfl ?_
  refine rl_aload_n dX6_shareOut_63 rfl rfl ?_
  obtain ⟨o_1, H⟩ := H
  refine rt_getI (k := 0) cfX6 dX6_shareOut_64 flX6_23 (by decide) rfl (lSt L o_1) nzSt ?_
  refine rl_icmp_ge (tgt := 134) dX6_shareOut_67 (by decide) (fun c_2 => ?_) (fun c_2 => ?_)
  · have H := H.1 c_2
    refine rl_iload dX6_shareOut_134 rfl ?_
    exact rl_iret dX6_shareOut_136 rfl (Nat.le_refl 0) (Nat.le_refl 0) H
  · have H := H.2 c_2
    refine rl_lload dX6_shareOut_70 rfl ?_
    refine rl_aload_n dX6_shareOut_72 rfl rfl ?_
    refine rt_getP (k := 7) cfX6 dX6_shareOut_73 flX6_29 (by decide) rfl (lSt L o_1) (rStV L o_1) naSt ?_
    refine rl_iload_n dX6_shareOut_76 rfl rfl ?_
    obtain ⟨j_3, e_4, b_5, H⟩ := H
    refine rt_aald (ci := 7) (j := j_3) dX6_shareOut_77 rfl (lVa L o_1) e_4 b_5 (lay5 L) (rVa L o_1 b_5) naVa ?_
    refine rt_getP (k := 0) cfX7 dX6_shareOut_78 flX6_69 (by decide) rfl (lVw L ⟨o_1, Or.inl b_5⟩) (rVw L ⟨o_1, Or.inl b_5⟩) (naVw L ⟨o_1, Or.inl b_5⟩) ?_
    refine rl_iload dX6_shareOut_81 rfl ?_
    obtain ⟨j_6, e_7, b_8, H⟩ := H
    refine rt_aald (ci := 5) (j := j_6) dX6_shareOut_83 rfl (lRa L ⟨o_1, Or.inl b_5⟩) e_7 b_8 (lay5 L) (rRa L ⟨o_1, Or.inl b_5⟩ b_8) (naRa L ⟨o_1, Or.inl b_5⟩) ?_
    refine rt_getP (k := 3) cfX5 dX6_shareOut_84 flX6_140 (by decide) rfl (lRc L ⟨⟨o_1, Or.inl b_5⟩, b_8⟩) (rRc3 L ⟨⟨o_1, Or.inl b_5⟩, b_8⟩) (naRc L ⟨⟨o_1, Or.inl b_5⟩, b_8⟩) ?_
    refine rl_iload_n dX6_shareOut_87 rfl rfl ?_
    obtain ⟨j_9, e_10, b_11, H⟩ := H
    refine rt_iald (j := j_9) dX6_shareOut_88 (lAr1 L ⟨⟨o_1, Or.inl b_5⟩, b_8⟩) nzAr e_10 b_11 (by decide) ?_
    refine rl_i2l dX6_shareOut_89 ?_
    refine rl_lmul dX6_shareOut_90 ?_
    refine rl_iload_n dX6_shareOut_91 rfl rfl ?_
    refine rl_i2l dX6_shareOut_92 ?_
    obtain ⟨o_12, H⟩ := H
    refine rl_ldiv dX6_shareOut_93 o_12 ?_
    refine rl_lstore (L' := [some (.ref (ad (gSt k0))), some (.int x1), some (.int x2), some (.int x3), some (.long j4), none, some (.int x6), some (.int x7), some (.long ((j4 * ((cs (gAr k0 j_3 j_6 1) j_9).toInt64)) / ((x3).toInt64))), none]) dX6_shareOut_94 (Nat.le_of_ble_eq_true rfl) rfl ?_
    refine rl_iload dX6_shareOut_96 rfl ?_
    refine rl_iload_n dX6_shareOut_98 rfl rfl ?_
    refine rl_icmp_eq (tgt := 128) dX6_shareOut_99 (by decide) (fun c_13 => ?_) (fun c_13 => ?_)
    · have H := H.1 c_13
      refine rl_wk (L' := [some (.ref (ad (gSt k0))), some (.int x1), some (.int x2), some (.int x3), some (.long j4), none, some (.int x6), some (.int x7), none, none]) ⟨rfl, ⟨rfl, ⟨rfl, ⟨rfl, ⟨rfl, ⟨rfl, ⟨rfl, trivial⟩⟩⟩⟩⟩⟩⟩ ?_
      exact H
    · have H := H.2 c_13
      refine rl_lload dX6_shareOut_102 rfl ?_
      refine rl_lconst (v := 0) dX6_shareOut_104 rfl ?_
      refine rl_lcmp dX6_shareOut_105 ?_
      refine rl_if_le (tgt := 128) dX6_shareOut_106 (by decide) (fun c_14 => ?_) (fun c_14 => ?_)
      · have H := H.1 c_14
        refine rl_wk (L' := [some (.ref (ad (gSt k0))), some (.int x1), some (.int x2), some (.int x3), some (.long j4), none, some (.int x6), some (.int x7), none, none]) ⟨rfl, ⟨rfl, ⟨rfl, ⟨rfl, ⟨rfl, ⟨rfl, ⟨rfl, trivial⟩⟩⟩⟩⟩⟩⟩ ?_
        exact H
      · have H := H.2 c_14
        refine rl_aload_n dX6_shareOut_109 rfl rfl ?_
        refine rl_iload_n dX6_shareOut_110 rfl rfl ?_
        refine rl_iload_n dX6_shareOut_111 rfl rfl ?_
        refine rl_iload dX6_shareOut_112 rfl ?_
        refine rl_lload dX6_shareOut_114 rfl ?_
        refine rl_l2i dX6_shareOut_116 ?_
        exact rl_callV (As := [.int x2, .int x1, .int x7, .int (((j4 * ((cs (gAr k0 j_3 j_6 1) j_9).toInt64)) / ((x3).toInt64)).toInt32)]) (rest := []) mfX6_give dX6_shareOut_117 lkX6_162 (lSt L o_1).K (by decide) (Nat.le_of_ble_eq_true rfl) (Nat.le_refl _) (Nat.le_refl _) rfl (Nat.le_of_ble_eq_true rfl) rfl rfl (fun Qc k => H Qc (fun h' w => k none h' w))
theorem tX6_shareOut_120 {n : Nat} {ad : Nat → Nat} {h0 : Hp} {cs : Nat → Nat → Int32} {pm : Nat → Nat → Nat} (L : Lay n ad h0) {Q : Nat → Option Value → Hp → Prop} {k0 : Nat} {x1 x2 x3 x6 x7 : Int32} {j4 j8 : Int64} (H : Wm mX6_shareOut 3 0 0 Q 128 [some (.ref (ad (gSt k0))), some (.int x1), some (.int x2), some (.int x3), some (.long j4), none, some (.int (x6 + ((j8).toInt32))), some (.int x7), none, none] [] (HN h0 ad cs pm) 0 0) : Wm mX6_shareOut 3 0 0 Q 120 [some (.ref (ad (gSt k0))), some (.int x1), some (.int x2), some (.int x3), some (.long j4), none, some (.int x6), some (.int x7), some (.long j8), none] [] (HN h0 ad cs pm) 0 0 := by
  refine rl_iload dX6_shareOut_120 rfl ?_
  refine rl_lload dX6_shareOut_122 rfl ?_
  refine rl_l2i dX6_shareOut_124 ?_
  refine rl_iadd dX6_shareOut_125 ?_
  refine rl_istore (L' := [some (.ref (ad (gSt k0))), some (.int x1), some (.int x2), some (.int x3), some (.long j4), none, some (.int (x6 + ((j8).toInt32))), some (.int x7), some (.long j8), none]) dX6_shareOut_126 (Nat.le_of_ble_eq_true rfl) rfl ?_
  refine rl_wk (L' := [some (.ref (ad (gSt k0))), some (.int x1), some (.int x2), some (.int x3), some (.long j4), none, some (.int (x6 + ((j8).toInt32))), some (.int x7), none, none]) ⟨rfl, ⟨rfl, ⟨rfl, ⟨rfl, ⟨rfl, ⟨rfl, ⟨rfl, trivial⟩⟩⟩⟩⟩⟩⟩ ?_
  exact H
theorem tX6_shareOut_128 {n : Nat} {ad : Nat → Nat} {h0 : Hp} {cs : Nat → Nat → Int32} {pm : Nat → Nat → Nat} (L : Lay n ad h0) {Q : Nat → Option Value → Hp → Prop} {k0 : Nat} {x1 x2 x3 x6 x7 : Int32} {j4 : Int64} (H : Wm mX6_shareOut 3 0 0 Q 61 [some (.ref (ad (gSt k0))), some (.int x1), some (.int x2), some (.int x3), some (.long j4), none, some (.int x6), some (.int (x7 + nI 1)), none, none] [] (HN h0 ad cs pm) 0 0) : Wm mX6_shareOut 3 0 0 Q 128 [some (.ref (ad (gSt k0))), some (.int x1), some (.int x2), some (.int x3), some (.long j4), none, some (.int x6), some (.int x7), none, none] [] (HN h0 ad cs pm) 0 0 := by
  refine rl_iinc (v := x7 + nI 1) (L' := [some (.ref (ad (gSt k0))), some (.int x1), some (.int x2), some (.int x3), some (.long j4), none, some (.int x6), some (.int (x7 + nI 1)), none, none]) dX6_shareOut_128 rfl (congrArg (fun z => x7 + z) (by decide)) (Nat.le_of_ble_eq_true rfl) rfl ?_
  refine rl_goto (tgt := 61) dX6_shareOut_131 (by decide) ?_
  exact H
theorem tX6_postAgain_0 {n : Nat} {ad : Nat → Nat} {h0 : Hp} {cs : Nat → Nat → Int32} {pm : Nat → Nat → Nat} (L : Lay n ad h0) {Q : Nat → Option Value → Hp → Prop} {k0 : Nat} {x1 : Int32} (H : k0 < 7 ∧ ∃ j_2 : Nat, cs (gSt k0) 6 = nI j_2 ∧ j_2 < 8 ∧ (pm k0 j_2 < 8 ∧ ∃ j_6 : Nat, x1 = nI j_6 ∧ j_6 < 8 ∧ (pm k0 j_6 < 8 ∧ CKv mX3_copyFrom 3 0 0 [some (.ref (ad (gMg k0 (pm k0 j_2)))), some (.ref (ad (gMg k0 (pm k0 j_6))))] (HN h0 ad cs pm) (fun h' => Wm mX6_postAgain 4 0 0 Q 20 [some (.ref (ad (gSt k0))), none, some (.int (cs (gSt k0) 6))] [] h' 0 0)))) : Wm mX6_postAgain 4 0 0 Q 0 [some (.ref (ad (gSt k0))), some (.int x1), none] [] (HN h0 ad cs pm) 0 0 := by
  refine rl_aload_n dX6_postAgain_0 rfl rfl ?_
  obtain ⟨o_1, H⟩ := H
  refine rt_getI (k := 6) cfX6 dX6_postAgain_1 flX6_53 (by decide) rfl (lSt L o_1) nzSt ?_
  refine rl_istore_n (L' := [some (.ref (ad (gSt k0))), some (.int x1), some (.int (cs (gSt k0) 6))]) dX6_postAgain_4 rfl (Nat.le_of_ble_eq_true rfl) rfl ?_
  refine rl_aload_n dX6_postAgain_5 rfl rfl ?_
  refine rt_getP (k := 9) cfX6 dX6_postAgain_6 flX6_19 (by decide) rfl (lSt L o_1) (rStM L o_1) naSt ?_
  refine rl_iload_n dX6_postAgain_9 rfl rfl ?_
  obtain ⟨j_2, e_3, b_4, H⟩ := H
  obtain ⟨o_5, H⟩ := H
  refine rt_aaldM (j := j_2) L dX6_postAgain_10 o_1 e_3 b_4 ?_
  refine rl_aload_n dX6_postAgain_11 rfl rfl ?_
  refine rt_getP (k := 9) cfX6 dX6_postAgain_12 flX6_19 (by decide) rfl (lSt L o_1) (rStM L o_1) naSt ?_
  refine rl_iload_n dX6_postAgain_15 rfl rfl ?_
  obtain ⟨j_6, e_7, b_8, H⟩ := H
  obtain ⟨o_9, H⟩ := H
  refine rt_aaldM (j := j_6) L dX6_postAgain_16 o_1 e_7 b_8 ?_
  exact rl_callV (As := [.ref (ad (gMg k0 (pm k0 j_6)))]) (rest := []) mfX3_copyFrom dX6_postAgain_17 lkX6_66 (lMg L ⟨o_1, o_5⟩).K (by decide) (Nat.le_of_ble_eq_true rfl) (Nat.le_refl _) (Nat.le_refl _) rfl (Nat.le_of_ble_eq_true rfl) rfl rfl (fun Qc k => H Qc (fun h' w => k none h' (rl_wk (L' := [some (.ref (ad (gSt k0))), none, some (.int (cs (gSt k0) 6))]) ⟨rfl, ⟨rfl, trivial⟩⟩ w)))
theorem tX6_postAgain_20 {n : Nat} {ad : Nat → Nat} {h0 : Hp} {cs : Nat → Nat → Int32} {pm : Nat → Nat → Nat} (L : Lay n ad h0) {Q : Nat → Option Value → Hp → Prop} {k0 : Nat} {x2 : Int32} (H : k0 < 7 ∧ Q 0 (some (.int x2)) (HN h0 ad (up2 cs (gSt k0) 6 ((cs (gSt k0) 6) + (nI 1))) pm)) : Wm mX6_postAgain 4 0 0 Q 20 [some (.ref (ad (gSt k0))), none, some (.int x2)] [] (HN h0 ad cs pm) 0 0 := by
  refine rl_aload_n dX6_postAgain_20 rfl rfl ?_
  refine rl_dup dX6_postAgain_21 rfl ?_
  obtain ⟨o_1, H⟩ := H
  refine rt_getI (k := 6) cfX6 dX6_postAgain_22 flX6_53 (by decide) rfl (lSt L o_1) nzSt ?_
  refine rl_iconst (v := nI 1) dX6_postAgain_25 (by decide) ?_
  refine rl_iadd dX6_postAgain_26 ?_
  refine rt_putI (k := 6) L.2.1 cfX6 dX6_postAgain_27 flX6_53 (by decide) rfl (lSt L o_1) nzSt (Or.inl rfl) ?_
  refine rl_iload_n dX6_postAgain_30 rfl rfl ?_
  exact rl_iret dX6_postAgain_31 rfl (Nat.le_refl 0) (Nat.le_refl 0) H
theorem tX6_dormantRights_0 {n : Nat} {ad : Nat → Nat} {h0 : Hp} {cs : Nat → Nat → Int32} {pm : Nat → Nat → Nat} (L : Lay n ad h0) {Q : Nat → Option Value → Hp → Prop} {k0 : Nat} {x1 : Int32} (H : k0 < 7 ∧ CKi mX6_trueValue 1 0 0 [some (.ref (ad (gSt k0))), none, none, none] (HN h0 ad cs pm) (fun v h' => Wm mX6_dormantRights 4 0 0 Q 5 [some (.ref (ad (gSt k0))), some (.int x1), none, none] [.int v, .ref (ad (gSt k0))] h' 0 0)) : Wm mX6_dormantRights 4 0 0 Q 0 [some (.ref (ad (gSt k0))), some (.int x1), none, none] [] (HN h0 ad cs pm) 0 0 := by
  refine rl_aload_n dX6_dormantRights_0 rfl rfl ?_
  refine rl_aload_n dX6_dormantRights_1 rfl rfl ?_
  obtain ⟨o_1, H⟩ := H
  exact rl_callV (As := []) (rest := [.ref (ad (gSt k0))]) mfX6_trueValue dX6_dormantRights_2 lkX6_127 (lSt L o_1).K (by decide) (Nat.le_of_ble_eq_true rfl) (Nat.le_refl _) (Nat.le_refl _) rfl (Nat.le_of_ble_eq_true rfl) rfl rfl (fun Qc k => H Qc (fun v h' w => k (some (.int v)) h' w))
theorem tX6_dormantRights_5 {n : Nat} {ad : Nat → Nat} {h0 : Hp} {cs : Nat → Nat → Int32} {pm : Nat → Nat → Nat} (L : Lay n ad h0) {Q : Nat → Option Value → Hp → Prop} {k0 ks0 : Nat} {x1 xs1 : Int32} (H : ks0 < 7 ∧ CKi mX6_roomAt 0 0 0 [some (.ref (ad (gSt ks0))), some (.int xs1), some (.int x1)] (HN h0 ad cs pm) (fun v h' => Wm mX6_dormantRights 4 0 0 Q 9 [some (.ref (ad (gSt k0))), some (.int x1), none, none] [.int v] h' 0 0)) : Wm mX6_dormantRights 4 0 0 Q 5 [some (.ref (ad (gSt k0))), some (.int x1), none, none] [.int xs1, .ref (ad (gSt ks0))] (HN h0 ad cs pm) 0 0 := by
  refine rl_iload_n dX6_dormantRights_5 rfl rfl ?_
  obtain ⟨o_1, H⟩ := H
  exact rl_callV (As := [.int xs1, .int x1]) (rest := []) mfX6_roomAt dX6_dormantRights_6 lkX6_83 (lSt L o_1).K (by decide) (Nat.le_of_ble_eq_true rfl) (Nat.le_refl _) (Nat.le_refl _) rfl (Nat.le_of_ble_eq_true rfl) rfl rfl (fun Qc k => H Qc (fun v h' w => k (some (.int v)) h' w))
theorem tX6_dormantRights_9 {n : Nat} {ad : Nat → Nat} {h0 : Hp} {cs : Nat → Nat → Int32} {pm : Nat → Nat → Nat} (L : Lay n ad h0) {Q : Nat → Option Value → Hp → Prop} {k0 : Nat} {x1 xs0 : Int32} (H : Wm mX6_dormantRights 4 0 0 Q 12 [some (.ref (ad (gSt k0))), some (.int x1), some (.int xs0), some (.int (nI 0))] [] (HN h0 ad cs pm) 0 0) : Wm mX6_dormantRights 4 0 0 Q 9 [some (.ref (ad (gSt k0))), some (.int x1), none, none] [.int xs0] (HN h0 ad cs pm) 0 0 := by
  refine rl_istore_n (L' := [some (.ref (ad (gSt k0))), some (.int x1), some (.int xs0), none]) dX6_dormantRights_9 rfl (Nat.le_of_ble_eq_true rfl) rfl ?_
  refine rl_iconst (v := nI 0) dX6_dormantRights_10 (by decide) ?_
  refine rl_istore_n (L' := [some (.ref (ad (gSt k0))), some (.int x1), some (.int xs0), some (.int (nI 0))]) dX6_dormantRights_11 rfl (Nat.le_of_ble_eq_true rfl) rfl ?_
  exact H
theorem tX6_dormantRights_12 {n : Nat} {ad : Nat → Nat} {h0 : Hp} {cs : Nat → Nat → Int32} {pm : Nat → Nat → Nat} (L : Lay n ad h0) {Q : Nat → Option Value → Hp → Prop} {k0 : Nat} {x1 x2 x3 : Int32} (H : k0 < 7 ∧ (((cs (gSt k0) 0) ≤ x3 → Q 0 (some (.int x2)) (HN h0 ad cs pm)) ∧ (¬ (cs (gSt k0) 0) ≤ x3 → CKi mX6_availableRights 3 0 0 [some (.ref (ad (gSt k0))), some (.int x3), some (.int x1), none, none] (HN h0 ad cs pm) (fun v h' => Wm mX6_dormantRights 4 0 0 Q 27 [some (.ref (ad (gSt k0))), some (.int x1), none, some (.int x3)] [.int v, .int x2] h' 0 0)))) : Wm mX6_dormantRights 4 0 0 Q 12 [some (.ref (ad (gSt k0))), some (.int x1), some (.int x2), some (.int x3)] [] (HN h0 ad cs pm) 0 0 := by
  refine rl_iload_n dX6_dormantRights_12 rfl rfl ?_
  refine rl_aload_n dX6_dormantRights_13 rfl rfl ?_
  obtain ⟨o_1, H⟩ := H
  refine rt_getI (k := 0) cfX6 dX6_dormantRights_14 flX6_23 (by decide) rfl (lSt L o_1) nzSt ?_
  refine rl_icmp_ge (tgt := 35) dX6_dormantRights_17 (by decide) (fun c_2 => ?_) (fun c_2 => ?_)
  · have H := H.1 c_2
    refine rl_iload_n dX6_dormantRights_35 rfl rfl ?_
    exact rl_iret dX6_dormantRights_36 rfl (Nat.le_refl 0) (Nat.le_refl 0) H
  · have H := H.2 c_2
    refine rl_iload_n dX6_dormantRights_20 rfl rfl ?_
    refine rl_aload_n dX6_dormantRights_21 rfl rfl ?_
    refine rl_iload_n dX6_dormantRights_22 rfl rfl ?_
    refine rl_iload_n dX6_dormantRights_23 rfl rfl ?_
    exact rl_callV (As := [.int x3, .int x1]) (rest := [.int x2]) mfX6_availableRights dX6_dormantRights_24 lkX6_131 (lSt L o_1).K (by decide) (Nat.le_of_ble_eq_true rfl) (Nat.le_refl _) (Nat.le_refl _) rfl (Nat.le_of_ble_eq_true rfl) rfl rfl (fun Qc k => H Qc (fun v h' w => k (some (.int v)) h' (rl_wk (L' := [some (.ref (ad (gSt k0))), some (.int x1), none, some (.int x3)]) ⟨rfl, ⟨rfl, ⟨rfl, trivial⟩⟩⟩ w)))
theorem tX6_dormantRights_27 {n : Nat} {ad : Nat → Nat} {h0 : Hp} {cs : Nat → Nat → Int32} {pm : Nat → Nat → Nat} (L : Lay n ad h0) {Q : Nat → Option Value → Hp → Prop} {k0 : Nat} {x1 x3 xs0 xs1 : Int32} (H : Wm mX6_dormantRights 4 0 0 Q 12 [some (.ref (ad (gSt k0))), some (.int x1), some (.int (xs0 - xs1)), some (.int (x3 + nI 1))] [] (HN h0 ad cs pm) 0 0) : Wm mX6_dormantRights 4 0 0 Q 27 [some (.ref (ad (gSt k0))), some (.int x1), none, some (.int x3)] [.int xs1, .int xs0] (HN h0 ad cs pm) 0 0 := by
  refine rl_isub dX6_dormantRights_27 ?_
  refine rl_istore_n (L' := [some (.ref (ad (gSt k0))), some (.int x1), some (.int (xs0 - xs1)), some (.int x3)]) dX6_dormantRights_28 rfl (Nat.le_of_ble_eq_true rfl) rfl ?_
  refine rl_iinc (v := x3 + nI 1) (L' := [some (.ref (ad (gSt k0))), some (.int x1), some (.int (xs0 - xs1)), some (.int (x3 + nI 1))]) dX6_dormantRights_29 rfl (congrArg (fun z => x3 + z) (by decide)) (Nat.le_of_ble_eq_true rfl) rfl ?_
  refine rl_goto (tgt := 12) dX6_dormantRights_32 (by decide) ?_
  exact H
theorem tX6_fewestHelpers_0 {n : Nat} {ad : Nat → Nat} {h0 : Hp} {cs : Nat → Nat → Int32} {pm : Nat → Nat → Nat} (L : Lay n ad h0) {Q : Nat → Option Value → Hp → Prop} {k0 : Nat} {x1 x2 x3 : Int32} (H : k0 < 7 ∧ CKi mX6_availableRights 3 0 0 [some (.ref (ad (gSt k0))), some (.int x1), some (.int x2), none, none] (HN h0 ad cs pm) (fun v h' => Wm mX6_fewestHelpers 4 0 0 Q 7 [some (.ref (ad (gSt k0))), some (.int x1), some (.int x2), none, none, none, none, none] [.int v, .int x3] h' 0 0)) : Wm mX6_fewestHelpers 4 0 0 Q 0 [some (.ref (ad (gSt k0))), some (.int x1), some (.int x2), some (.int x3), none, none, none, none] [] (HN h0 ad cs pm) 0 0 := by
  refine rl_iload_n dX6_fewestHelpers_0 rfl rfl ?_
  refine rl_aload_n dX6_fewestHelpers_1 rfl rfl ?_
  refine rl_iload_n dX6_fewestHelpers_2 rfl rfl ?_
  refine rl_iload_n dX6_fewestHelpers_3 rfl rfl ?_
  obtain ⟨o_1, H⟩ := H
  exact rl_callV (As := [.int x1, .int x2]) (rest := [.int x3]) mfX6_availableRights dX6_fewestHelpers_4 lkX6_131 (lSt L o_1).K (by decide) (Nat.le_of_ble_eq_true rfl) (Nat.le_refl _) (Nat.le_refl _) rfl (Nat.le_of_ble_eq_true rfl) rfl rfl (fun Qc k => H Qc (fun v h' w => k (some (.int v)) h' (rl_wk (L' := [some (.ref (ad (gSt k0))), some (.int x1), some (.int x2), none, none, none, none, none]) ⟨rfl, ⟨rfl, ⟨rfl, trivial⟩⟩⟩ w)))
theorem tX6_fewestHelpers_7 {n : Nat} {ad : Nat → Nat} {h0 : Hp} {cs : Nat → Nat → Int32} {pm : Nat → Nat → Nat} (L : Lay n ad h0) {Q : Nat → Option Value → Hp → Prop} {k0 : Nat} {x1 x2 xs0 xs1 : Int32} (H : Wm mX6_fewestHelpers 4 0 0 Q 18 [some (.ref (ad (gSt k0))), none, some (.int x2), none, some (.int (xs0 - xs1)), some (.int ((nI 1) <<< (x1 &&& 31))), some (.int (nI 0)), none] [] (HN h0 ad cs pm) 0 0) : Wm mX6_fewestHelpers 4 0 0 Q 7 [some (.ref (ad (gSt k0))), some (.int x1), some (.int x2), none, none, none, none, none] [.int xs1, .int xs0] (HN h0 ad cs pm) 0 0 := by
  refine rl_isub dX6_fewestHelpers_7 ?_
  refine rl_istore (L' := [some (.ref (ad (gSt k0))), some (.int x1), some (.int x2), none, some (.int (xs0 - xs1)), none, none, none]) dX6_fewestHelpers_8 (Nat.le_of_ble_eq_true rfl) rfl ?_
  refine rl_iconst (v := nI 1) dX6_fewestHelpers_10 (by decide) ?_
  refine rl_iload_n dX6_fewestHelpers_11 rfl rfl ?_
  refine rl_ishl dX6_fewestHelpers_12 ?_
  refine rl_istore (L' := [some (.ref (ad (gSt k0))), some (.int x1), some (.int x2), none, some (.int (xs0 - xs1)), some (.int ((nI 1) <<< (x1 &&& 31))), none, none]) dX6_fewestHelpers_13 (Nat.le_of_ble_eq_true rfl) rfl ?_
  refine rl_iconst (v := nI 0) dX6_fewestHelpers_15 (by decide) ?_
  refine rl_istore (L' := [some (.ref (ad (gSt k0))), some (.int x1), some (.int x2), none, some (.int (xs0 - xs1)), some (.int ((nI 1) <<< (x1 &&& 31))), some (.int (nI 0)), none]) dX6_fewestHelpers_16 (Nat.le_of_ble_eq_true rfl) rfl ?_
  refine rl_wk (L' := [some (.ref (ad (gSt k0))), none, some (.int x2), none, some (.int (xs0 - xs1)), some (.int ((nI 1) <<< (x1 &&& 31))), some (.int (nI 0)), none]) ⟨rfl, ⟨rfl, ⟨rfl, ⟨rfl, ⟨rfl, trivial⟩⟩⟩⟩⟩ ?_
  exact H
theorem tX6_fewestHelpers_18 {n : Nat} {ad : Nat → Nat} {h0 : Hp} {cs : Nat → Nat → Int32} {pm : Nat → Nat → Nat} (L : Lay n ad h0) {Q : Nat → Option Value → Hp → Prop} {k0 : Nat} {x2 x4 x5 x6 : Int32} (H : k0 < 7 ∧ (((cs (gSt k0) 0) ≤ x6 → Q 0 (some (.int (-1))) (HN h0 ad cs pm)) ∧ (¬ (cs (gSt k0) 0) ≤ x6 → ((0 < x4 → CKi mX6_richestOutside 3 0 0 [some (.ref (ad (gSt k0))), some (.int x5), some (.int x2), none, none, none, none] (HN h0 ad cs pm) (fun v h' => Wm mX6_fewestHelpers 4 0 0 Q 42 [some (.ref (ad (gSt k0))), none, some (.int x2), none, some (.int x4), some (.int x5), some (.int x6), none] [.int v] h' 0 0)) ∧ (¬ 0 < x4 → Q 0 (some (.int x6)) (HN h0 ad cs pm)))))) : Wm mX6_fewestHelpers 4 0 0 Q 18 [some (.ref (ad (gSt k0))), none, some (.int x2), none, some (.int x4), some (.int x5), some (.int x6), none] [] (HN h0 ad cs pm) 0 0 := by
  refine rl_iload dX6_fewestHelpers_18 rfl ?_
  refine rl_aload_n dX6_fewestHelpers_20 rfl rfl ?_
  obtain ⟨o_1, H⟩ := H
  refine rt_getI (k := 0) cfX6 dX6_fewestHelpers_21 flX6_23 (by decide) rfl (lSt L o_1) nzSt ?_
  refine rl_icmp_ge (tgt := 79) dX6_fewestHelpers_24 (by decide) (fun c_2 => ?_) (fun c_2 => ?_)
  · have H := H.1 c_2
    refine rl_iconst (v := -1) dX6_fewestHelpers_79 (by decide) ?_
    exact rl_iret dX6_fewestHelpers_80 rfl (Nat.le_refl 0) (Nat.le_refl 0) H
  · have H := H.2 c_2
    refine rl_iload dX6_fewestHelpers_27 rfl ?_
    refine rl_if_gt (tgt := 35) dX6_fewestHelpers_29 (by decide) (fun c_3 => ?_) (fun c_3 => ?_)
    · have H := H.1 c_3
      refine rl_aload_n dX6_fewestHelpers_35 rfl rfl ?_
      refine rl_iload dX6_fewestHelpers_36 rfl ?_
      refine rl_iload_n dX6_fewestHelpers_38 rfl rfl ?_
      exact rl_callV (As := [.int x5, .int x2]) (rest := []) mfX6_richestOutside dX6_fewestHelpers_39 lkX6_134 (lSt L o_1).K (by decide) (Nat.le_of_ble_eq_true rfl) (Nat.le_refl _) (Nat.le_refl _) rfl (Nat.le_of_ble_eq_true rfl) rfl rfl (fun Qc k => H Qc (fun v h' w => k (some (.int v)) h' w))
    · have H := H.2 c_3
      refine rl_iload dX6_fewestHelpers_32 rfl ?_
      exact rl_iret dX6_fewestHelpers_34 rfl (Nat.le_refl 0) (Nat.le_refl 0) H
theorem tX6_fewestHelpers_42 {n : Nat} {ad : Nat → Nat} {h0 : Hp} {cs : Nat → Nat → Int32} {pm : Nat → Nat → Nat} (L : Lay n ad h0) {Q : Nat → Option Value → Hp → Prop} {k0 : Nat} {x2 x4 x5 x6 xs0 : Int32} (H : ((¬ xs0 = (-1) → k0 < 7 ∧ CKi mX6_ownRights 2 0 0 [some (.ref (ad (gSt k0))), some (.int xs0), some (.int x2), none, none, none] (HN h0 ad cs pm) (fun v h' => Wm mX6_fewestHelpers 4 0 0 Q 61 [some (.ref (ad (gSt k0))), none, some (.int x2), none, none, some (.int x5), some (.int x6), some (.int xs0)] [.int v, .int x4] h' 0 0)) ∧ (xs0 = (-1) → Q 0 (some (.int (-1))) (HN h0 ad cs pm)))) : Wm mX6_fewestHelpers 4 0 0 Q 42 [some (.ref (ad (gSt k0))), none, some (.int x2), none, some (.int x4), some (.int x5), some (.int x6), none] [.int xs0] (HN h0 ad cs pm) 0 0 := by
  refine rl_istore (L' := [some (.ref (ad (gSt k0))), none, some (.int x2), none, some (.int x4), some (.int x5), some (.int x6), some (.int xs0)]) dX6_fewestHelpers_42 (Nat.le_of_ble_eq_true rfl) rfl ?_
  refine rl_iload dX6_fewestHelpers_44 rfl ?_
  refine rl_iconst (v := -1) dX6_fewestHelpers_46 (by decide) ?_
  refine rl_icmp_ne (tgt := 52) dX6_fewestHelpers_47 (by decide) (fun c_1 => ?_) (fun c_1 => ?_)
  · have H := H.1 c_1
    refine rl_iload dX6_fewestHelpers_52 rfl ?_
    refine rl_aload_n dX6_fewestHelpers_54 rfl rfl ?_
    refine rl_iload dX6_fewestHelpers_55 rfl ?_
    refine rl_iload_n dX6_fewestHelpers_57 rfl rfl ?_
    obtain ⟨o_2, H⟩ := H
    exact rl_callV (As := [.int xs0, .int x2]) (rest := [.int x4]) mfX6_ownRights dX6_fewestHelpers_58 lkX6_120 (lSt L o_2).K (by decide) (Nat.le_of_ble_eq_true rfl) (Nat.le_refl _) (Nat.le_refl _) rfl (Nat.le_of_ble_eq_true rfl) rfl rfl (fun Qc k => H Qc (fun v h' w => k (some (.int v)) h' (rl_wk (L' := [some (.ref (ad (gSt k0))), none, some (.int x2), none, none, some (.int x5), some (.int x6), some (.int xs0)]) ⟨rfl, ⟨rfl, ⟨rfl, ⟨rfl, ⟨rfl, trivial⟩⟩⟩⟩⟩ w)))
  · have H := H.2 c_1
    refine rl_iconst (v := -1) dX6_fewestHelpers_50 (by decide) ?_
    exact rl_iret dX6_fewestHelpers_51 rfl (Nat.le_refl 0) (Nat.le_refl 0) H
theorem tX6_fewestHelpers_61 {n : Nat} {ad : Nat → Nat} {h0 : Hp} {cs : Nat → Nat → Int32} {pm : Nat → Nat → Nat} (L : Lay n ad h0) {Q : Nat → Option Value → Hp → Prop} {k0 : Nat} {x2 x5 x6 x7 xs0 xs1 : Int32} (H : Wm mX6_fewestHelpers 4 0 0 Q 18 [some (.ref (ad (gSt k0))), none, some (.int x2), none, some (.int (xs0 - xs1)), some (.int (x5 ||| ((nI 1) <<< (x7 &&& 31)))), some (.int (x6 + nI 1)), none] [] (HN h0 ad cs pm) 0 0) : Wm mX6_fewestHelpers 4 0 0 Q 61 [some (.ref (ad (gSt k0))), none, some (.int x2), none, none, some (.int x5), some (.int x6), some (.int x7)] [.int xs1, .int xs0] (HN h0 ad cs pm) 0 0 := by
  refine rl_isub dX6_fewestHelpers_61 ?_
  refine rl_istore (L' := [some (.ref (ad (gSt k0))), none, some (.int x2), none, some (.int (xs0 - xs1)), some (.int x5), some (.int x6), some (.int x7)]) dX6_fewestHelpers_62 (Nat.le_of_ble_eq_true rfl) rfl ?_
  refine rl_iload dX6_fewestHelpers_64 rfl ?_
  refine rl_iconst (v := nI 1) dX6_fewestHelpers_66 (by decide) ?_
  refine rl_iload dX6_fewestHelpers_67 rfl ?_
  refine rl_ishl dX6_fewestHelpers_69 ?_
  refine rl_ior dX6_fewestHelpers_70 ?_
  refine rl_istore (L' := [some (.ref (ad (gSt k0))), none, some (.int x2), none, some (.int (xs0 - xs1)), some (.int (x5 ||| ((nI 1) <<< (x7 &&& 31)))), some (.int x6), some (.int x7)]) dX6_fewestHelpers_71 (Nat.le_of_ble_eq_true rfl) rfl ?_
  refine rl_iinc (v := x6 + nI 1) (L' := [some (.ref (ad (gSt k0))), none, some (.int x2), none, some (.int (xs0 - xs1)), some (.int (x5 ||| ((nI 1) <<< (x7 &&& 31)))), some (.int (x6 + nI 1)), some (.int x7)]) dX6_fewestHelpers_73 rfl (congrArg (fun z => x6 + z) (by decide)) (Nat.le_of_ble_eq_true rfl) rfl ?_
  refine rl_goto (tgt := 18) dX6_fewestHelpers_76 (by decide) ?_
  refine rl_wk (L' := [some (.ref (ad (gSt k0))), none, some (.int x2), none, some (.int (xs0 - xs1)), some (.int (x5 ||| ((nI 1) <<< (x7 &&& 31)))), some (.int (x6 + nI 1)), none]) ⟨rfl, ⟨rfl, ⟨rfl, ⟨rfl, ⟨rfl, trivial⟩⟩⟩⟩⟩ ?_
  exact H
theorem tX6_richestOutside_0 {n : Nat} {ad : Nat → Nat} {h0 : Hp} {cs : Nat → Nat → Int32} {pm : Nat → Nat → Nat} (L : Lay n ad h0) {Q : Nat → Option Value → Hp → Prop} {k0 : Nat} {x1 x2 : Int32} (H : Wm mX6_richestOutside 3 0 0 Q 8 [some (.ref (ad (gSt k0))), some (.int x1), some (.int x2), some (.int (-1)), some (.int (nI 0)), some (.int (nI 0)), none] [] (HN h0 ad cs pm) 0 0) : Wm mX6_richestOutside 3 0 0 Q 0 [some (.ref (ad (gSt k0))), some (.int x1), some (.int x2), none, none, none, none] [] (HN h0 ad cs pm) 0 0 := by
  refine rl_iconst (v := -1) dX6_richestOutside_0 (by decide) ?_
  refine rl_istore_n (L' := [some (.ref (ad (gSt k0))), some (.int x1), some (.int x2), some (.int (-1)), none, none, none]) dX6_richestOutside_1 rfl (Nat.le_of_ble_eq_true rfl) rfl ?_
  refine rl_iconst (v := nI 0) dX6_richestOutside_2 (by decide) ?_
  refine rl_istore (L' := [some (.ref (ad (gSt k0))), some (.int x1), some (.int x2), some (.int (-1)), some (.int (nI 0)), none, none]) dX6_richestOutside_3 (Nat.le_of_ble_eq_true rfl) rfl ?_
  refine rl_iconst (v := nI 0) dX6_richestOutside_5 (by decide) ?_
  refine rl_istore (L' := [some (.ref (ad (gSt k0))), some (.int x1), some (.int x2), some (.int (-1)), some (.int (nI 0)), some (.int (nI 0)), none]) dX6_richestOutside_6 (Nat.le_of_ble_eq_true rfl) rfl ?_
  exact H
theorem tX6_richestOutside_8 {n : Nat} {ad : Nat → Nat} {h0 : Hp} {cs : Nat → Nat → Int32} {pm : Nat → Nat → Nat} (L : Lay n ad h0) {Q : Nat → Option Value → Hp → Prop} {k0 : Nat} {x1 x2 x3 x4 x5 : Int32} (H : k0 < 7 ∧ (((cs (gSt k0) 0) ≤ x5 → Q 0 (some (.int x3)) (HN h0 ad cs pm)) ∧ (¬ (cs (gSt k0) 0) ≤ x5 → ((¬ ((x1 >>> (x5 &&& 31)) &&& (nI 1)) = 0 → Wm mX6_richestOutside 3 0 0 Q 54 [some (.ref (ad (gSt k0))), some (.int x1), some (.int x2), some (.int x3), some (.int x4), some (.int x5), none] [] (HN h0 ad cs pm) 0 0) ∧ (((x1 >>> (x5 &&& 31)) &&& (nI 1)) = 0 → CKi mX6_ownRights 2 0 0 [some (.ref (ad (gSt k0))), some (.int x5), some (.int x2), none, none, none] (HN h0 ad cs pm) (fun v h' => Wm mX6_richestOutside 3 0 0 Q 33 [some (.ref (ad (gSt k0))), some (.int x1), some (.int x2), some (.int x3), some (.int x4), some (.int x5), none] [.int v] h' 0 0)))))) : Wm mX6_richestOutside 3 0 0 Q 8 [some (.ref (ad (gSt k0))), some (.int x1), some (.int x2), some (.int x3), some (.int x4), some (.int x5), none] [] (HN h0 ad cs pm) 0 0 := by
  refine rl_iload dX6_richestOutside_8 rfl ?_
  refine rl_aload_n dX6_richestOutside_10 rfl rfl ?_
  obtain ⟨o_1, H⟩ := H
  refine rt_getI (k := 0) cfX6 dX6_richestOutside_11 flX6_23 (by decide) rfl (lSt L o_1) nzSt ?_
  refine rl_icmp_ge (tgt := 60) dX6_richestOutside_14 (by decide) (fun c_2 => ?_) (fun c_2 => ?_)
  · have H := H.1 c_2
    refine rl_iload_n dX6_richestOutside_60 rfl rfl ?_
    exact rl_iret dX6_richestOutside_61 rfl (Nat.le_refl 0) (Nat.le_refl 0) H
  · have H := H.2 c_2
    refine rl_iload_n dX6_richestOutside_17 rfl rfl ?_
    refine rl_iload dX6_richestOutside_18 rfl ?_
    refine rl_ishr dX6_richestOutside_20 ?_
    refine rl_iconst (v := nI 1) dX6_richestOutside_21 (by decide) ?_
    refine rl_iand dX6_richestOutside_22 ?_
    refine rl_if_ne (tgt := 54) dX6_richestOutside_23 (by decide) (fun c_3 => ?_) (fun c_3 => ?_)
    · have H := H.1 c_3
      exact H
    · have H := H.2 c_3
      refine rl_aload_n dX6_richestOutside_26 rfl rfl ?_
      refine rl_iload dX6_richestOutside_27 rfl ?_
      refine rl_iload_n dX6_richestOutside_29 rfl rfl ?_
      exact rl_callV (As := [.int x5, .int x2]) (rest := []) mfX6_ownRights dX6_richestOutside_30 lkX6_120 (lSt L o_1).K (by decide) (Nat.le_of_ble_eq_true rfl) (Nat.le_refl _) (Nat.le_refl _) rfl (Nat.le_of_ble_eq_true rfl) rfl rfl (fun Qc k => H Qc (fun v h' w => k (some (.int v)) h' w))
theorem tX6_richestOutside_33 {n : Nat} {ad : Nat → Nat} {h0 : Hp} {cs : Nat → Nat → Int32} {pm : Nat → Nat → Nat} (L : Lay n ad h0) {Q : Nat → Option Value → Hp → Prop} {k0 : Nat} {x1 x2 x3 x4 x5 xs0 : Int32} (H : ((x3 = (-1) → Wm mX6_richestOutside 3 0 0 Q 47 [some (.ref (ad (gSt k0))), some (.int x1), some (.int x2), none, none, some (.int x5), some (.int xs0)] [] (HN h0 ad cs pm) 0 0) ∧ (¬ x3 = (-1) → ((xs0 ≤ x4 → Wm mX6_richestOutside 3 0 0 Q 54 [some (.ref (ad (gSt k0))), some (.int x1), some (.int x2), some (.int x3), some (.int x4), some (.int x5), none] [] (HN h0 ad cs pm) 0 0) ∧ (¬ xs0 ≤ x4 → Wm mX6_richestOutside 3 0 0 Q 47 [some (.ref (ad (gSt k0))), some (.int x1), some (.int x2), none, none, some (.int x5), some (.int xs0)] [] (HN h0 ad cs pm) 0 0))))) : Wm mX6_richestOutside 3 0 0 Q 33 [some (.ref (ad (gSt k0))), some (.int x1), some (.int x2), some (.int x3), some (.int x4), some (.int x5), none] [.int xs0] (HN h0 ad cs pm) 0 0 := by
  refine rl_istore (L' := [some (.ref (ad (gSt k0))), some (.int x1), some (.int x2), some (.int x3), some (.int x4), some (.int x5), some (.int xs0)]) dX6_richestOutside_33 (Nat.le_of_ble_eq_true rfl) rfl ?_
  refine rl_iload_n dX6_richestOutside_35 rfl rfl ?_
  refine rl_iconst (v := -1) dX6_richestOutside_36 (by decide) ?_
  refine rl_icmp_eq (tgt := 47) dX6_richestOutside_37 (by decide) (fun c_1 => ?_) (fun c_1 => ?_)
  · have H := H.1 c_1
    refine rl_wk (L' := [some (.ref (ad (gSt k0))), some (.int x1), some (.int x2), none, none, some (.int x5), some (.int xs0)]) ⟨rfl, ⟨rfl, ⟨rfl, ⟨rfl, ⟨rfl, trivial⟩⟩⟩⟩⟩ ?_
    exact H
  · have H := H.2 c_1
    refine rl_iload dX6_richestOutside_40 rfl ?_
    refine rl_iload dX6_richestOutside_42 rfl ?_
    refine rl_icmp_le (tgt := 54) dX6_richestOutside_44 (by decide) (fun c_2 => ?_) (fun c_2 => ?_)
    · have H := H.1 c_2
      refine rl_wk (L' := [some (.ref (ad (gSt k0))), some (.int x1), some (.int x2), some (.int x3), some (.int x4), some (.int x5), none]) ⟨rfl, ⟨rfl, ⟨rfl, ⟨rfl, ⟨rfl, ⟨rfl, trivial⟩⟩⟩⟩⟩⟩ ?_
      exact H
    · have H := H.2 c_2
      refine rl_wk (L' := [some (.ref (ad (gSt k0))), some (.int x1), some (.int x2), none, none, some (.int x5), some (.int xs0)]) ⟨rfl, ⟨rfl, ⟨rfl, ⟨rfl, ⟨rfl, trivial⟩⟩⟩⟩⟩ ?_
      exact H
theorem tX6_richestOutside_47 {n : Nat} {ad : Nat → Nat} {h0 : Hp} {cs : Nat → Nat → Int32} {pm : Nat → Nat → Nat} (L : Lay n ad h0) {Q : Nat → Option Value → Hp → Prop} {k0 : Nat} {x1 x2 x5 x6 : Int32} (H : Wm mX6_richestOutside 3 0 0 Q 54 [some (.ref (ad (gSt k0))), some (.int x1), some (.int x2), some (.int x5), some (.int x6), some (.int x5), none] [] (HN h0 ad cs pm) 0 0) : Wm mX6_richestOutside 3 0 0 Q 47 [some (.ref (ad (gSt k0))), some (.int x1), some (.int x2), none, none, some (.int x5), some (.int x6)] [] (HN h0 ad cs pm) 0 0 := by
  refine rl_iload dX6_richestOutside_47 rfl ?_
  refine rl_istore_n (L' := [some (.ref (ad (gSt k0))), some (.int x1), some (.int x2), some (.int x5), none, some (.int x5), some (.int x6)]) dX6_richestOutside_49 rfl (Nat.le_of_ble_eq_true rfl) rfl ?_
  refine rl_iload dX6_richestOutside_50 rfl ?_
  refine rl_istore (L' := [some (.ref (ad (gSt k0))), some (.int x1), some (.int x2), some (.int x5), some (.int x6), some (.int x5), some (.int x6)]) dX6_richestOutside_52 (Nat.le_of_ble_eq_true rfl) rfl ?_
  refine rl_wk (L' := [some (.ref (ad (gSt k0))), some (.int x1), some (.int x2), some (.int x5), some (.int x6), some (.int x5), none]) ⟨rfl, ⟨rfl, ⟨rfl, ⟨rfl, ⟨rfl, ⟨rfl, trivial⟩⟩⟩⟩⟩⟩ ?_
  exact H
theorem tX6_richestOutside_54 {n : Nat} {ad : Nat → Nat} {h0 : Hp} {cs : Nat → Nat → Int32} {pm : Nat → Nat → Nat} (L : Lay n ad h0) {Q : Nat → Option Value → Hp → Prop} {k0 : Nat} {x1 x2 x3 x4 x5 : Int32} (H : Wm mX6_richestOutside 3 0 0 Q 8 [some (.ref (ad (gSt k0))), some (.int x1), some (.int x2), some (.int x3), some (.int x4), some (.int (x5 + nI 1)), none] [] (HN h0 ad cs pm) 0 0) : Wm mX6_richestOutside 3 0 0 Q 54 [some (.ref (ad (gSt k0))), some (.int x1), some (.int x2), some (.int x3), some (.int x4), some (.int x5), none] [] (HN h0 ad cs pm) 0 0 := by
  refine rl_iinc (v := x5 + nI 1) (L' := [some (.ref (ad (gSt k0))), some (.int x1), some (.int x2), some (.int x3), some (.int x4), some (.int (x5 + nI 1)), none]) dX6_richestOutside_54 rfl (congrArg (fun z => x5 + z) (by decide)) (Nat.le_of_ble_eq_true rfl) rfl ?_
  refine rl_goto (tgt := 8) dX6_richestOutside_57 (by decide) ?_
  exact H
