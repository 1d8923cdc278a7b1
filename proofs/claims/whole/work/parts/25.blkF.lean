theorem bL_begin_0 {Q : Nat → Option Value → Hp → Prop} {h : Hp} {mc ms nc ns : Nat} {a0 a4 mcn msn : Nat} {x1 x2 x3 : Int32} (H : nc + mcn ≤ mc ∧ ns + msn ≤ ms ∧ hpK h a0 = 18 ∧ CXi mX8_begin 6 mcn msn [some (.ref a0), some (.int x1), some (.int x2), some (.int x3), none, none] h (fun v h' => Wm mL_begin 7 mc ms Q 10 [none, none, none, none, none, none] [.int v, .int (nI 0), .ref a4] h' (nc + mcn) (ns + msn)) (fun j h' => ∃ hpc : Nat, (j, hpc) ∈ ([(2, 15)] : List (Nat × Nat)) ∧ ∀ q : Nat, Wm mL_begin 7 mc ms Q hpc [none, none, none, none, none, none] [.ref q] h' (nc + mcn) (ns + msn))) : Wm mL_begin 7 mc ms Q 0 [some (.ref a0), some (.int x1), some (.int x2), some (.int x3), some (.ref a4), none] [] h nc ns := by
  refine rl_aload dL_begin_0 rfl ?_
  refine rl_iconst (v := nI 0) dL_begin_2 (by decide) ?_
  refine rl_aload_n dL_begin_3 rfl rfl ?_
  refine rl_iload_n dL_begin_4 rfl rfl ?_
  refine rl_iload_n dL_begin_5 rfl rfl ?_
  refine rl_iload_n dL_begin_6 rfl rfl ?_
  obtain ⟨o_1, H⟩ := H
  obtain ⟨o_2, H⟩ := H
  obtain ⟨o_3, H⟩ := H
  exact rl_callVH (As := [.int x1, .int x2, .int x3]) (rest := [.int (nI 0), .ref a4]) (L9 := [none, none, none, none, none, none]) [(2, 15)] mfX8_begin dL_begin_7 lkL_7 (by decide) hnL_begin o_3 (by decide) (Nat.le_of_ble_eq_true rfl) o_1 o_2 rfl (Nat.le_of_ble_eq_true rfl) rfl rfl trivial (fun Qc k kx => H Qc (fun v h' w => k (some (.int v)) h' (rl_wk (L' := [none, none, none, none, none, none]) trivial w)) kx)
theorem bL_begin_10 {Q : Nat → Option Value → Hp → Prop} {h : Hp} {mc ms nc ns : Nat} {as0 : Nat} {xs1 xs2 : Int32} (H : hpK h as0 = 3 ∧ vp_in xs1 (hpN h as0) ∧ nc ≤ mc ∧ ns ≤ ms ∧ Q 0 (some (.int (nI 0))) (stJ h as0 (xs1).toNatClampNeg ((xs2).toInt64))) : Wm mL_begin 7 mc ms Q 10 [none, none, none, none, none, none] [.int xs2, .int xs1, .ref as0] h nc ns := by
  refine rl_i2l dL_begin_10 ?_
  obtain ⟨o_1, H⟩ := H
  obtain ⟨o_2, H⟩ := H
  refine rl_last dL_begin_11 o_1 o_2 ?_
  refine rl_goto (tgt := 19) dL_begin_12 (by decide) ?_
  refine rl_iconst (v := nI 0) dL_begin_19 (by decide) ?_
  obtain ⟨o_3, H⟩ := H
  obtain ⟨o_4, H⟩ := H
  exact rl_iret dL_begin_20 rfl o_3 o_4 H
theorem bL_begin_15 {Q : Nat → Option Value → Hp → Prop} {h : Hp} {mc ms nc ns : Nat} {as0 : Nat} (H : nc ≤ mc ∧ ns ≤ ms ∧ Q 0 (some (.int (nI 1))) h) : Wm mL_begin 7 mc ms Q 15 [none, none, none, none, none, none] [.ref as0] h nc ns := by
  refine rl_astore (L' := [none, none, none, none, none, some (.ref as0)]) dL_begin_15 (Nat.le_of_ble_eq_true rfl) rfl ?_
  refine rl_iconst (v := nI 1) dL_begin_17 (by decide) ?_
  obtain ⟨o_1, H⟩ := H
  obtain ⟨o_2, H⟩ := H
  exact rl_iret dL_begin_18 rfl o_1 o_2 H
theorem bL_increase_0 {Q : Nat → Option Value → Hp → Prop} {h : Hp} {mc ms nc ns : Nat} {a0 a3 mcn msn : Nat} {x1 x2 : Int32} (H : nc + mcn ≤ mc ∧ ns + msn ≤ ms ∧ hpK h a0 = 18 ∧ CXi mX8_increase 7 mcn msn [some (.ref a0), some (.int x1), some (.int x2)] h (fun v h' => Wm mL_increase 8 mc ms Q 8 [none, none, none, none, none] [.int v, .int (nI 0), .ref a3] h' (nc + mcn) (ns + msn)) (fun j h' => ∃ hpc : Nat, (j, hpc) ∈ ([(1, 20), (2, 24)] : List (Nat × Nat)) ∧ ∀ q : Nat, Wm mL_increase 8 mc ms Q hpc [none, none, none, none, none] [.ref q] h' (nc + mcn) (ns + msn))) : Wm mL_increase 8 mc ms Q 0 [some (.ref a0), some (.int x1), some (.int x2), some (.ref a3), none] [] h nc ns := by
  refine rl_aload_n dL_increase_0 rfl rfl ?_
  refine rl_iconst (v := nI 0) dL_increase_1 (by decide) ?_
  refine rl_aload_n dL_increase_2 rfl rfl ?_
  refine rl_iload_n dL_increase_3 rfl rfl ?_
  refine rl_iload_n dL_increase_4 rfl rfl ?_
  obtain ⟨o_1, H⟩ := H
  obtain ⟨o_2, H⟩ := H
  obtain ⟨o_3, H⟩ := H
  exact rl_callVH (As := [.int x1, .int x2]) (rest := [.int (nI 0), .ref a3]) (L9 := [none, none, none, none, none]) [(1, 20), (2, 24)] mfX8_increase dL_increase_5 lkL_15 (by decide) hnL_increase o_3 (by decide) (Nat.le_of_ble_eq_true rfl) o_1 o_2 rfl (Nat.le_of_ble_eq_true rfl) rfl rfl trivial (fun Qc k kx => H Qc (fun v h' w => k (some (.int v)) h' (rl_wk (L' := [none, none, none, none, none]) trivial w)) kx)
theorem bL_increase_8 {Q : Nat → Option Value → Hp → Prop} {h : Hp} {mc ms nc ns : Nat} {as0 : Nat} {xs1 xs2 : Int32} (H : ((xs2 = 0 → hpK h as0 = 3 ∧ vp_in xs1 (hpN h as0) ∧ nc ≤ mc ∧ ns ≤ ms ∧ Q 0 (some (.int (nI 0))) (stJ h as0 (xs1).toNatClampNeg 0)) ∧ (¬ xs2 = 0 → hpK h as0 = 3 ∧ vp_in xs1 (hpN h as0) ∧ nc ≤ mc ∧ ns ≤ ms ∧ Q 0 (some (.int (nI 0))) (stJ h as0 (xs1).toNatClampNeg 1)))) : Wm mL_increase 8 mc ms Q 8 [none, none, none, none, none] [.int xs2, .int xs1, .ref as0] h nc ns := by
  refine rl_if_eq (tgt := 15) dL_increase_8 (by decide) (fun c_1 => ?_) (fun c_1 => ?_)
  · have H := H.1 c_1
    refine rl_lconst (v := 0) dL_increase_15 rfl ?_
    obtain ⟨o_2, H⟩ := H
    obtain ⟨o_3, H⟩ := H
    refine rl_last dL_increase_16 o_2 o_3 ?_
    refine rl_goto (tgt := 28) dL_increase_17 (by decide) ?_
    refine rl_iconst (v := nI 0) dL_increase_28 (by decide) ?_
    obtain ⟨o_4, H⟩ := H
    obtain ⟨o_5, H⟩ := H
    exact rl_iret dL_increase_29 rfl o_4 o_5 H
  · have H := H.2 c_1
    refine rl_lconst (v := 1) dL_increase_11 rfl ?_
    refine rl_goto (tgt := 16) dL_increase_12 (by decide) ?_
    obtain ⟨o_6, H⟩ := H
    obtain ⟨o_7, H⟩ := H
    refine rl_last dL_increase_16 o_6 o_7 ?_
    refine rl_goto (tgt := 28) dL_increase_17 (by decide) ?_
    refine rl_iconst (v := nI 0) dL_increase_28 (by decide) ?_
    obtain ⟨o_8, H⟩ := H
    obtain ⟨o_9, H⟩ := H
    exact rl_iret dL_increase_29 rfl o_8 o_9 H
theorem bL_increase_20 {Q : Nat → Option Value → Hp → Prop} {h : Hp} {mc ms nc ns : Nat} {as0 : Nat} (H : nc ≤ mc ∧ ns ≤ ms ∧ Q 0 (some (.int (nI 1))) h) : Wm mL_increase 8 mc ms Q 20 [none, none, none, none, none] [.ref as0] h nc ns := by
  refine rl_astore (L' := [none, none, none, none, some (.ref as0)]) dL_increase_20 (Nat.le_of_ble_eq_true rfl) rfl ?_
  refine rl_iconst (v := nI 1) dL_increase_22 (by decide) ?_
  obtain ⟨o_1, H⟩ := H
  obtain ⟨o_2, H⟩ := H
  exact rl_iret dL_increase_23 rfl o_1 o_2 H
theorem bL_increase_24 {Q : Nat → Option Value → Hp → Prop} {h : Hp} {mc ms nc ns : Nat} {as0 : Nat} (H : nc ≤ mc ∧ ns ≤ ms ∧ Q 0 (some (.int (nI 2))) h) : Wm mL_increase 8 mc ms Q 24 [none, none, none, none, none] [.ref as0] h nc ns := by
  refine rl_astore (L' := [none, none, none, none, some (.ref as0)]) dL_increase_24 (Nat.le_of_ble_eq_true rfl) rfl ?_
  refine rl_iconst (v := nI 2) dL_increase_26 (by decide) ?_
  obtain ⟨o_1, H⟩ := H
  obtain ⟨o_2, H⟩ := H
  exact rl_iret dL_increase_27 rfl o_1 o_2 H
theorem bL_decrease_0 {Q : Nat → Option Value → Hp → Prop} {h : Hp} {mc ms nc ns : Nat} {a0 a3 mcn msn : Nat} {x1 x2 : Int32} (H : nc + mcn ≤ mc ∧ ns + msn ≤ ms ∧ hpK h a0 = 18 ∧ CXi mX8_decrease 7 mcn msn [some (.ref a0), some (.int x1), some (.int x2)] h (fun v h' => Wm mL_decrease 8 mc ms Q 8 [none, none, none, none, none] [.int v, .int (nI 0), .ref a3] h' (nc + mcn) (ns + msn)) (fun j h' => ∃ hpc : Nat, (j, hpc) ∈ ([(1, 20), (2, 24)] : List (Nat × Nat)) ∧ ∀ q : Nat, Wm mL_decrease 8 mc ms Q hpc [none, none, none, none, none] [.ref q] h' (nc + mcn) (ns + msn))) : Wm mL_decrease 8 mc ms Q 0 [some (.ref a0), some (.int x1), some (.int x2), some (.ref a3), none] [] h nc ns := by
  refine rl_aload_n dL_decrease_0 rfl rfl ?_
  refine rl_iconst (v := nI 0) dL_decrease_1 (by decide) ?_
  refine rl_aload_n dL_decrease_2 rfl rfl ?_
  refine rl_iload_n dL_decrease_3 rfl rfl ?_
  refine rl_iload_n dL_decrease_4 rfl rfl ?_
  obtain ⟨o_1, H⟩ := H
  obtain ⟨o_2, H⟩ := H
  obtain ⟨o_3, H⟩ := H
  exact rl_callVH (As := [.int x1, .int x2]) (rest := [.int (nI 0), .ref a3]) (L9 := [none, none, none, none, none]) [(1, 20), (2, 24)] mfX8_decrease dL_decrease_5 lkL_21 (by decide) hnL_decrease o_3 (by decide) (Nat.le_of_ble_eq_true rfl) o_1 o_2 rfl (Nat.le_of_ble_eq_true rfl) rfl rfl trivial (fun Qc k kx => H Qc (fun v h' w => k (some (.int v)) h' (rl_wk (L' := [none, none, none, none, none]) trivial w)) kx)
theorem bL_decrease_8 {Q : Nat → Option Value → Hp → Prop} {h : Hp} {mc ms nc ns : Nat} {as0 : Nat} {xs1 xs2 : Int32} (H : ((xs2 = 0 → hpK h as0 = 3 ∧ vp_in xs1 (hpN h as0) ∧ nc ≤ mc ∧ ns ≤ ms ∧ Q 0 (some (.int (nI 0))) (stJ h as0 (xs1).toNatClampNeg 0)) ∧ (¬ xs2 = 0 → hpK h as0 = 3 ∧ vp_in xs1 (hpN h as0) ∧ nc ≤ mc ∧ ns ≤ ms ∧ Q 0 (some (.int (nI 0))) (stJ h as0 (xs1).toNatClampNeg 1)))) : Wm mL_decrease 8 mc ms Q 8 [none, none, none, none, none] [.int xs2, .int xs1, .ref as0] h nc ns := by
  refine rl_if_eq (tgt := 15) dL_decrease_8 (by decide) (fun c_1 => ?_) (fun c_1 => ?_)
  · have H := H.1 c_1
    refine rl_lconst (v := 0) dL_decrease_15 rfl ?_
    obtain ⟨o_2, H⟩ := H
    obtain ⟨o_3, H⟩ := H
    refine rl_last dL_decrease_16 o_2 o_3 ?_
    refine rl_goto (tgt := 28) dL_decrease_17 (by decide) ?_
    refine rl_iconst (v := nI 0) dL_decrease_28 (by decide) ?_
    obtain ⟨o_4, H⟩ := H
    obtain ⟨o_5, H⟩ := H
    exact rl_iret dL_decrease_29 rfl o_4 o_5 H
  · have H := H.2 c_1
    refine rl_lconst (v := 1) dL_decrease_11 rfl ?_
    refine rl_goto (tgt := 16) dL_decrease_12 (by decide) ?_
    obtain ⟨o_6, H⟩ := H
    obtain ⟨o_7, H⟩ := H
    refine rl_last dL_decrease_16 o_6 o_7 ?_
    refine rl_goto (tgt := 28) dL_decrease_17 (by decide) ?_
    refine rl_iconst (v := nI 0) dL_decrease_28 (by decide) ?_
    obtain ⟨o_8, H⟩ := H
    obtain ⟨o_9, H⟩ := H
    exact rl_iret dL_decrease_29 rfl o_8 o_9 H
theorem bL_decrease_20 {Q : Nat → Option Value → Hp → Prop} {h : Hp} {mc ms nc ns : Nat} {as0 : Nat} (H : nc ≤ mc ∧ ns ≤ ms ∧ Q 0 (some (.int (nI 1))) h) : Wm mL_decrease 8 mc ms Q 20 [none, none, none, none, none] [.ref as0] h nc ns := by
  refine rl_astore (L' := [none, none, none, none, some (.ref as0)]) dL_decrease_20 (Nat.le_of_ble_eq_true rfl) rfl ?_
  refine rl_iconst (v := nI 1) dL_decrease_22 (by decide) ?_
  obtain ⟨o_1, H⟩ := H
  obtain ⟨o_2, H⟩ := H
  exact rl_iret dL_decrease_23 rfl o_1 o_2 H
theorem bL_decrease_24 {Q : Nat → Option Value → Hp → Prop} {h : Hp} {mc ms nc ns : Nat} {as0 : Nat} (H : nc ≤ mc ∧ ns ≤ ms ∧ Q 0 (some (.int (nI 2))) h) : Wm mL_decrease 8 mc ms Q 24 [none, none, none, none, none] [.ref as0] h nc ns := by
  refine rl_astore (L' := [none, none, none, none, some (.ref as0)]) dL_decrease_24 (Nat.le_of_ble_eq_true rfl) rfl ?_
  refine rl_iconst (v := nI 2) dL_decrease_26 (by decide) ?_
  obtain ⟨o_1, H⟩ := H
  obtain ⟨o_2, H⟩ := H
  exact rl_iret dL_decrease_27 rfl o_1 o_2 H
theorem bL_transfer_0 {Q : Nat → Option Value → Hp → Prop} {h : Hp} {mc ms nc ns : Nat} {a0 a5 mcn msn : Nat} {x1 x2 x3 x4 : Int32} (H : nc + mcn ≤ mc ∧ ns + msn ≤ ms ∧ hpK h a0 = 18 ∧ CXi mX8_transfer 7 mcn msn [some (.ref a0), some (.int x1), some (.int x2), some (.int x3), some (.int x4)] h (fun v h' => Wm mL_transfer 8 mc ms Q 12 [none, none, none, none, none, none, none] [.int v, .int (nI 0), .ref a5] h' (nc + mcn) (ns + msn)) (fun j h' => ∃ hpc : Nat, (j, hpc) ∈ ([(1, 17), (2, 21), (3, 25)] : List (Nat × Nat)) ∧ ∀ q : Nat, Wm mL_transfer 8 mc ms Q hpc [none, none, none, none, none, none, none] [.ref q] h' (nc + mcn) (ns + msn))) : Wm mL_transfer 8 mc ms Q 0 [some (.ref a0), some (.int x1), some (.int x2), some (.int x3), some (.int x4), some (.ref a5), none] [] h nc ns := by
  refine rl_aload dL_transfer_0 rfl ?_
  refine rl_iconst (v := nI 0) dL_transfer_2 (by decide) ?_
  refine rl_aload_n dL_transfer_3 rfl rfl ?_
  refine rl_iload_n dL_transfer_4 rfl rfl ?_
  refine rl_iload_n dL_transfer_5 rfl rfl ?_
  refine rl_iload_n dL_transfer_6 rfl rfl ?_
  refine rl_iload dL_transfer_7 rfl ?_
  obtain ⟨o_1, H⟩ := H
  obtain ⟨o_2, H⟩ := H
  obtain ⟨o_3, H⟩ := H
  exact rl_callVH (As := [.int x1, .int x2, .int x3, .int x4]) (rest := [.int (nI 0), .ref a5]) (L9 := [none, none, none, none, none, none, none]) [(1, 17), (2, 21), (3, 25)] mfX8_transfer dL_transfer_9 lkL_24 (by decide) hnL_transfer o_3 (by decide) (Nat.le_of_ble_eq_true rfl) o_1 o_2 rfl (Nat.le_of_ble_eq_true rfl) rfl rfl trivial (fun Qc k kx => H Qc (fun v h' w => k (some (.int v)) h' (rl_wk (L' := [none, none, none, none, none, none, none]) trivial w)) kx)
theorem bL_transfer_12 {Q : Nat → Option Value → Hp → Prop} {h : Hp} {mc ms nc ns : Nat} {as0 : Nat} {xs1 xs2 : Int32} (H : hpK h as0 = 3 ∧ vp_in xs1 (hpN h as0) ∧ nc ≤ mc ∧ ns ≤ ms ∧ Q 0 (some (.int (nI 0))) (stJ h as0 (xs1).toNatClampNeg ((xs2).toInt64))) : Wm mL_transfer 8 mc ms Q 12 [none, none, none, none, none, none, none] [.int xs2, .int xs1, .ref as0] h nc ns := by
  refine rl_i2l dL_transfer_12 ?_
  obtain ⟨o_1, H⟩ := H
  obtain ⟨o_2, H⟩ := H
  refine rl_last dL_transfer_13 o_1 o_2 ?_
  refine rl_goto (tgt := 29) dL_transfer_14 (by decide) ?_
  refine rl_iconst (v := nI 0) dL_transfer_29 (by decide) ?_
  obtain ⟨o_3, H⟩ := H
  obtain ⟨o_4, H⟩ := H
  exact rl_iret dL_transfer_30 rfl o_3 o_4 H
theorem bL_transfer_17 {Q : Nat → Option Value → Hp → Prop} {h : Hp} {mc ms nc ns : Nat} {as0 : Nat} (H : nc ≤ mc ∧ ns ≤ ms ∧ Q 0 (some (.int (nI 1))) h) : Wm mL_transfer 8 mc ms Q 17 [none, none, none, none, none, none, none] [.ref as0] h nc ns := by
  refine rl_astore (L' := [none, none, none, none, none, none, some (.ref as0)]) dL_transfer_17 (Nat.le_of_ble_eq_true rfl) rfl ?_
  refine rl_iconst (v := nI 1) dL_transfer_19 (by decide) ?_
  obtain ⟨o_1, H⟩ := H
  obtain ⟨o_2, H⟩ := H
  exact rl_iret dL_transfer_20 rfl o_1 o_2 H
theorem bL_transfer_21 {Q : Nat → Option Value → Hp → Prop} {h : Hp} {mc ms nc ns : Nat} {as0 : Nat} (H : nc ≤ mc ∧ ns ≤ ms ∧ Q 0 (some (.int (nI 2))) h) : Wm mL_transfer 8 mc ms Q 21 [none, none, none, none, none, none, none] [.ref as0] h nc ns := by
  refine rl_astore (L' := [none, none, none, none, none, none, some (.ref as0)]) dL_transfer_21 (Nat.le_of_ble_eq_true rfl) rfl ?_
  refine rl_iconst (v := nI 2) dL_transfer_23 (by decide) ?_
  obtain ⟨o_1, H⟩ := H
  obtain ⟨o_2, H⟩ := H
  exact rl_iret dL_transfer_24 rfl o_1 o_2 H
theorem bL_transfer_25 {Q : Nat → Option Value → Hp → Prop} {h : Hp} {mc ms nc ns : Nat} {as0 : Nat} (H : nc ≤ mc ∧ ns ≤ ms ∧ Q 0 (some (.int (nI 3))) h) : Wm mL_transfer 8 mc ms Q 25 [none, none, none, none, none, none, none] [.ref as0] h nc ns := by
  refine rl_astore (L' := [none, none, none, none, none, none, some (.ref as0)]) dL_transfer_25 (Nat.le_of_ble_eq_true rfl) rfl ?_
  refine rl_iconst (v := nI 3) dL_transfer_27 (by decide) ?_
  obtain ⟨o_1, H⟩ := H
  obtain ⟨o_2, H⟩ := H
  exact rl_iret dL_transfer_28 rfl o_1 o_2 H
theorem bL_lend_0 {Q : Nat → Option Value → Hp → Prop} {h : Hp} {mc ms nc ns : Nat} {a0 a6 mcn msn : Nat} {x1 x2 x3 x4 x5 : Int32} (H : nc + mcn ≤ mc ∧ ns + msn ≤ ms ∧ hpK h a0 = 18 ∧ CXi mX8_lend 7 mcn msn [some (.ref a0), some (.int x1), some (.int x2), some (.int x3), some (.int x4), some (.int x5)] h (fun v h' => Wm mL_lend 8 mc ms Q 14 [none, none, none, none, none, none, none, none] [.int v, .int (nI 0), .ref a6] h' (nc + mcn) (ns + msn)) (fun j h' => ∃ hpc : Nat, (j, hpc) ∈ ([(1, 19), (2, 23), (3, 27)] : List (Nat × Nat)) ∧ ∀ q : Nat, Wm mL_lend 8 mc ms Q hpc [none, none, none, none, none, none, none, none] [.ref q] h' (nc + mcn) (ns + msn))) : Wm mL_lend 8 mc ms Q 0 [some (.ref a0), some (.int x1), some (.int x2), some (.int x3), some (.int x4), some (.int x5), some (.ref a6), none] [] h nc ns := by
  refine rl_aload dL_lend_0 rfl ?_
  refine rl_iconst (v := nI 0) dL_lend_2 (by decide) ?_
  refine rl_aload_n dL_lend_3 rfl rfl ?_
  refine rl_iload_n dL_lend_4 rfl rfl ?_
  refine rl_iload_n dL_lend_5 rfl rfl ?_
  refine rl_iload_n dL_lend_6 rfl rfl ?_
  refine rl_iload dL_lend_7 rfl ?_
  refine rl_iload dL_lend_9 rfl ?_
  obtain ⟨o_1, H⟩ := H
  obtain ⟨o_2, H⟩ := H
  obtain ⟨o_3, H⟩ := H
  exact rl_callVH (As := [.int x1, .int x2, .int x3, .int x4, .int x5]) (rest := [.int (nI 0), .ref a6]) (L9 := [none, none, none, none, none, none, none, none]) [(1, 19), (2, 23), (3, 27)] mfX8_lend dL_lend_11 lkL_30 (by decide) hnL_lend o_3 (by decide) (Nat.le_of_ble_eq_true rfl) o_1 o_2 rfl (Nat.le_of_ble_eq_true rfl) rfl rfl trivial (fun Qc k kx => H Qc (fun v h' w => k (some (.int v)) h' (rl_wk (L' := [none, none, none, none, none, none, none, none]) trivial w)) kx)
theorem bL_lend_14 {Q : Nat → Option Value → Hp → Prop} {h : Hp} {mc ms nc ns : Nat} {as0 : Nat} {xs1 xs2 : Int32} (H : hpK h as0 = 3 ∧ vp_in xs1 (hpN h as0) ∧ nc ≤ mc ∧ ns ≤ ms ∧ Q 0 (some (.int (nI 0))) (stJ h as0 (xs1).toNatClampNeg ((xs2).toInt64))) : Wm mL_lend 8 mc ms Q 14 [none, none, none, none, none, none, none, none] [.int xs2, .int xs1, .ref as0] h nc ns := by
  refine rl_i2l dL_lend_14 ?_
  obtain ⟨o_1, H⟩ := H
  obtain ⟨o_2, H⟩ := H
  refine rl_last dL_lend_15 o_1 o_2 ?_
  refine rl_goto (tgt := 31) dL_lend_16 (by decide) ?_
  refine rl_iconst (v := nI 0) dL_lend_31 (by decide) ?_
  obtain ⟨o_3, H⟩ := H
  obtain ⟨o_4, H⟩ := H
  exact rl_iret dL_lend_32 rfl o_3 o_4 H
theorem bL_lend_19 {Q : Nat → Option Value → Hp → Prop} {h : Hp} {mc ms nc ns : Nat} {as0 : Nat} (H : nc ≤ mc ∧ ns ≤ ms ∧ Q 0 (some (.int (nI 1))) h) : Wm mL_lend 8 mc ms Q 19 [none, none, none, none, none, none, none, none] [.ref as0] h nc ns := by
  refine rl_astore (L' := [none, none, none, none, none, none, none, some (.ref as0)]) dL_lend_19 (Nat.le_of_ble_eq_true rfl) rfl ?_
  refine rl_iconst (v := nI 1) dL_lend_21 (by decide) ?_
  obtain ⟨o_1, H⟩ := H
  obtain ⟨o_2, H⟩ := H
  exact rl_iret dL_lend_22 rfl o_1 o_2 H
theorem bL_lend_23 {Q : Nat → Option Value → Hp → Prop} {h : Hp} {mc ms nc ns : Nat} {as0 : Nat} (H : nc ≤ mc ∧ ns ≤ ms ∧ Q 0 (some (.int (nI 2))) h) : Wm mL_lend 8 mc ms Q 23 [none, none, none, none, none, none, none, none] [.ref as0] h nc ns := by
  refine rl_astore (L' := [none, none, none, none, none, none, none, some (.ref as0)]) dL_lend_23 (Nat.le_of_ble_eq_true rfl) rfl ?_
  refine rl_iconst (v := nI 2) dL_lend_25 (by decide) ?_
  obtain ⟨o_1, H⟩ := H
  obtain ⟨o_2, H⟩ := H
  exact rl_iret dL_lend_26 rfl o_1 o_2 H
theorem bL_lend_27 {Q : Nat → Option Value → Hp → Prop} {h : Hp} {mc ms nc ns : Nat} {as0 : Nat} (H : nc ≤ mc ∧ ns ≤ ms ∧ Q 0 (some (.int (nI 3))) h) : Wm mL_lend 8 mc ms Q 27 [none, none, none, none, none, none, none, none] [.ref as0] h nc ns := by
  refine rl_astore (L' := [none, none, none, none, none, none, none, some (.ref as0)]) dL_lend_27 (Nat.le_of_ble_eq_true rfl) rfl ?_
  refine rl_iconst (v := nI 3) dL_lend_29 (by decide) ?_
  obtain ⟨o_1, H⟩ := H
  obtain ⟨o_2, H⟩ := H
  exact rl_iret dL_lend_30 rfl o_1 o_2 H
theorem bL_rebalance_0 {Q : Nat → Option Value → Hp → Prop} {h : Hp} {mc ms nc ns : Nat} {a0 a3 mcn msn : Nat} {x1 x2 : Int32} (H : nc + mcn ≤ mc ∧ ns + msn ≤ ms ∧ hpK h a0 = 18 ∧ CXi mX8_rebalance 7 mcn msn [some (.ref a0), some (.int x1), some (.int x2), none] h (fun v h' => Wm mL_rebalance 8 mc ms Q 8 [none, none, none, none, none] [.int v, .int (nI 0), .ref a3] h' (nc + mcn) (ns + msn)) (fun j h' => ∃ hpc : Nat, (j, hpc) ∈ ([(1, 13)] : List (Nat × Nat)) ∧ ∀ q : Nat, Wm mL_rebalance 8 mc ms Q hpc [none, none, none, none, none] [.ref q] h' (nc + mcn) (ns + msn))) : Wm mL_rebalance 8 mc ms Q 0 [some (.ref a0), some (.int x1), some (.int x2), some (.ref a3), none] [] h nc ns := by
  refine rl_aload_n dL_rebalance_0 rfl rfl ?_
  refine rl_iconst (v := nI 0) dL_rebalance_1 (by decide) ?_
  refine rl_aload_n dL_rebalance_2 rfl rfl ?_
  refine rl_iload_n dL_rebalance_3 rfl rfl ?_
  refine rl_iload_n dL_rebalance_4 rfl rfl ?_
  obtain ⟨o_1, H⟩ := H
  obtain ⟨o_2, H⟩ := H
  obtain ⟨o_3, H⟩ := H
  exact rl_callVH (As := [.int x1, .int x2]) (rest := [.int (nI 0), .ref a3]) (L9 := [none, none, none, none, none]) [(1, 13)] mfX8_rebalance dL_rebalance_5 lkL_34 (by decide) hnL_rebalance o_3 (by decide) (Nat.le_of_ble_eq_true rfl) o_1 o_2 rfl (Nat.le_of_ble_eq_true rfl) rfl rfl trivial (fun Qc k kx => H Qc (fun v h' w => k (some (.int v)) h' (rl_wk (L' := [none, none, none, none, none]) trivial w)) kx)
theorem bL_rebalance_8 {Q : Nat → Option Value → Hp → Prop} {h : Hp} {mc ms nc ns : Nat} {as0 : Nat} {xs1 xs2 : Int32} (H : hpK h as0 = 3 ∧ vp_in xs1 (hpN h as0) ∧ nc ≤ mc ∧ ns ≤ ms ∧ Q 0 (some (.int (nI 0))) (stJ h as0 (xs1).toNatClampNeg ((xs2).toInt64))) : Wm mL_rebalance 8 mc ms Q 8 [none, none, none, none, none] [.int xs2, .int xs1, .ref as0] h nc ns := by
  refine rl_i2l dL_rebalance_8 ?_
  obtain ⟨o_1, H⟩ := H
  obtain ⟨o_2, H⟩ := H
  refine rl_last dL_rebalance_9 o_1 o_2 ?_
  refine rl_goto (tgt := 17) dL_rebalance_10 (by decide) ?_
  refine rl_iconst (v := nI 0) dL_rebalance_17 (by decide) ?_
  obtain ⟨o_3, H⟩ := H
  obtain ⟨o_4, H⟩ := H
  exact rl_iret dL_rebalance_18 rfl o_3 o_4 H
theorem bL_rebalance_13 {Q : Nat → Option Value → Hp → Prop} {h : Hp} {mc ms nc ns : Nat} {as0 : Nat} (H : nc ≤ mc ∧ ns ≤ ms ∧ Q 0 (some (.int (nI 1))) h) : Wm mL_rebalance 8 mc ms Q 13 [none, none, none, none, none] [.ref as0] h nc ns := by
  refine rl_astore (L' := [none, none, none, none, some (.ref as0)]) dL_rebalance_13 (Nat.le_of_ble_eq_true rfl) rfl ?_
  refine rl_iconst (v := nI 1) dL_rebalance_15 (by decide) ?_
  obtain ⟨o_1, H⟩ := H
  obtain ⟨o_2, H⟩ := H
  exact rl_iret dL_rebalance_16 rfl o_1 o_2 H
theorem bL_pass_0 {Q : Nat → Option Value → Hp → Prop} {h : Hp} {mc ms nc ns : Nat} {a0 a2 mcn msn : Nat} {x1 : Int32} (H : nc + mcn ≤ mc ∧ ns + msn ≤ ms ∧ hpK h a0 = 18 ∧ CXi mX8_pass 7 mcn msn [some (.ref a0), some (.int x1)] h (fun v h' => Wm mL_pass 8 mc ms Q 7 [none, none, none, none] [.int v, .int (nI 0), .ref a2] h' (nc + mcn) (ns + msn)) (fun j h' => ∃ hpc : Nat, (j, hpc) ∈ ([(2, 12), (3, 15)] : List (Nat × Nat)) ∧ ∀ q : Nat, Wm mL_pass 8 mc ms Q hpc [none, none, none, none] [.ref q] h' (nc + mcn) (ns + msn))) : Wm mL_pass 8 mc ms Q 0 [some (.ref a0), some (.int x1), some (.ref a2), none] [] h nc ns := by
  refine rl_aload_n dL_pass_0 rfl rfl ?_
  refine rl_iconst (v := nI 0) dL_pass_1 (by decide) ?_
  refine rl_aload_n dL_pass_2 rfl rfl ?_
  refine rl_iload_n dL_pass_3 rfl rfl ?_
  obtain ⟨o_1, H⟩ := H
  obtain ⟨o_2, H⟩ := H
  obtain ⟨o_3, H⟩ := H
  exact rl_callVH (As := [.int x1]) (rest := [.int (nI 0), .ref a2]) (L9 := [none, none, none, none]) [(2, 12), (3, 15)] mfX8_pass dL_pass_4 lkL_38 (by decide) hnL_pass o_3 (by decide) (Nat.le_of_ble_eq_true rfl) o_1 o_2 rfl (Nat.le_of_ble_eq_true rfl) rfl rfl trivial (fun Qc k kx => H Qc (fun v h' w => k (some (.int v)) h' (rl_wk (L' := [none, none, none, none]) trivial w)) kx)
theorem bL_pass_7 {Q : Nat → Option Value → Hp → Prop} {h : Hp} {mc ms nc ns : Nat} {as0 : Nat} {xs1 xs2 : Int32} (H : hpK h as0 = 3 ∧ vp_in xs1 (hpN h as0) ∧ nc ≤ mc ∧ ns ≤ ms ∧ Q 0 (some (.int (nI 0))) (stJ h as0 (xs1).toNatClampNeg ((xs2).toInt64))) : Wm mL_pass 8 mc ms Q 7 [none, none, none, none] [.int xs2, .int xs1, .ref as0] h nc ns := by
  refine rl_i2l dL_pass_7 ?_
  obtain ⟨o_1, H⟩ := H
  obtain ⟨o_2, H⟩ := H
  refine rl_last dL_pass_8 o_1 o_2 ?_
  refine rl_goto (tgt := 18) dL_pass_9 (by decide) ?_
  refine rl_iconst (v := nI 0) dL_pass_18 (by decide) ?_
  obtain ⟨o_3, H⟩ := H
  obtain ⟨o_4, H⟩ := H
  exact rl_iret dL_pass_19 rfl o_3 o_4 H
theorem bL_pass_12 {Q : Nat → Option Value → Hp → Prop} {h : Hp} {mc ms nc ns : Nat} {as0 : Nat} (H : nc ≤ mc ∧ ns ≤ ms ∧ Q 0 (some (.int (nI 1))) h) : Wm mL_pass 8 mc ms Q 12 [none, none, none, none] [.ref as0] h nc ns := by
  refine rl_astore_n (L' := [none, none, none, some (.ref as0)]) dL_pass_12 rfl (Nat.le_of_ble_eq_true rfl) rfl ?_
  refine rl_iconst (v := nI 1) dL_pass_13 (by decide) ?_
  obtain ⟨o_1, H⟩ := H
  obtain ⟨o_2, H⟩ := H
  exact rl_iret dL_pass_14 rfl o_1 o_2 H
theorem bL_pass_15 {Q : Nat → Option Value → Hp → Prop} {h : Hp} {mc ms nc ns : Nat} {as0 : Nat} (H : nc ≤ mc ∧ ns ≤ ms ∧ Q 0 (some (.int (nI 2))) h) : Wm mL_pass 8 mc ms Q 15 [none, none, none, none] [.ref as0] h nc ns := by
  refine rl_astore_n (L' := [none, none, none, some (.ref as0)]) dL_pass_15 rfl (Nat.le_of_ble_eq_true rfl) rfl ?_
  refine rl_iconst (v := nI 2) dL_pass_16 (by decide) ?_
  obtain ⟨o_1, H⟩ := H
  obtain ⟨o_2, H⟩ := H
  exact rl_iret dL_pass_17 rfl o_1 o_2 H
theorem bL_send_0 {Q : Nat → Option Value → Hp → Prop} {h : Hp} {mc ms nc ns : Nat} {a0 a3 mcn msn : Nat} {x1 x2 : Int32} (H : nc + mcn ≤ mc ∧ ns + msn ≤ ms ∧ hpK h a0 = 18 ∧ CXi mX8_send 7 mcn msn [some (.ref a0), some (.int x1), some (.int x2)] h (fun v h' => Wm mL_send 8 mc ms Q 8 [none, none, none, none, none] [.int v, .int (nI 0), .ref a3] h' (nc + mcn) (ns + msn)) (fun j h' => ∃ hpc : Nat, (j, hpc) ∈ ([(1, 13), (2, 17), (3, 21)] : List (Nat × Nat)) ∧ ∀ q : Nat, Wm mL_send 8 mc ms Q hpc [none, none, none, none, none] [.ref q] h' (nc + mcn) (ns + msn))) : Wm mL_send 8 mc ms Q 0 [some (.ref a0), some (.int x1), some (.int x2), some (.ref a3), none] [] h nc ns := by
  refine rl_aload_n dL_send_0 rfl rfl ?_
  refine rl_iconst (v := nI 0) dL_send_1 (by decide) ?_
  refine rl_aload_n dL_send_2 rfl rfl ?_
  refine rl_iload_n dL_send_3 rfl rfl ?_
  refine rl_iload_n dL_send_4 rfl rfl ?_
  obtain ⟨o_1, H⟩ := H
  obtain ⟨o_2, H⟩ := H
  obtain ⟨o_3, H⟩ := H
  exact rl_callVH (As := [.int x1, .int x2]) (rest := [.int (nI 0), .ref a3]) (L9 := [none, none, none, none, none]) [(1, 13), (2, 17), (3, 21)] mfX8_send dL_send_5 lkL_42 (by decide) hnL_send o_3 (by decide) (Nat.le_of_ble_eq_true rfl) o_1 o_2 rfl (Nat.le_of_ble_eq_true rfl) rfl rfl trivial (fun Qc k kx => H Qc (fun v h' w => k (some (.int v)) h' (rl_wk (L' := [none, none, none, none, none]) trivial w)) kx)
theorem bL_send_8 {Q : Nat → Option Value → Hp → Prop} {h : Hp} {mc ms nc ns : Nat} {as0 : Nat} {xs1 xs2 : Int32} (H : hpK h as0 = 3 ∧ vp_in xs1 (hpN h as0) ∧ nc ≤ mc ∧ ns ≤ ms ∧ Q 0 (some (.int (nI 0))) (stJ h as0 (xs1).toNatClampNeg ((xs2).toInt64))) : Wm mL_send 8 mc ms Q 8 [none, none, none, none, none] [.int xs2, .int xs1, .ref as0] h nc ns := by
  refine rl_i2l dL_send_8 ?_
  obtain ⟨o_1, H⟩ := H
  obtain ⟨o_2, H⟩ := H
  refine rl_last dL_send_9 o_1 o_2 ?_
  refine rl_goto (tgt := 25) dL_send_10 (by decide) ?_
  refine rl_iconst (v := nI 0) dL_send_25 (by decide) ?_
  obtain ⟨o_3, H⟩ := H
  obtain ⟨o_4, H⟩ := H
  exact rl_iret dL_send_26 rfl o_3 o_4 H
theorem bL_send_13 {Q : Nat → Option Value → Hp → Prop} {h : Hp} {mc ms nc ns : Nat} {as0 : Nat} (H : nc ≤ mc ∧ ns ≤ ms ∧ Q 0 (some (.int (nI 1))) h) : Wm mL_send 8 mc ms Q 13 [none, none, none, none, none] [.ref as0] h nc ns := by
  refine rl_astore (L' := [none, none, none, none, some (.ref as0)]) dL_send_13 (Nat.le_of_ble_eq_true rfl) rfl ?_
  refine rl_iconst (v := nI 1) dL_send_15 (by decide) ?_
  obtain ⟨o_1, H⟩ := H
  obtain ⟨o_2, H⟩ := H
  exact rl_iret dL_send_16 rfl o_1 o_2 H
theorem bL_send_17 {Q : Nat → Option Value → Hp → Prop} {h : Hp} {mc ms nc ns : Nat} {as0 : Nat} (H : nc ≤ mc ∧ ns ≤ ms ∧ Q 0 (some (.int (nI 2))) h) : Wm mL_send 8 mc ms Q 17 [none, none, none, none, none] [.ref as0] h nc ns := by
  refine rl_astore (L' := [none, none, none, none, some (.ref as0)]) dL_send_17 (Nat.le_of_ble_eq_true rfl) rfl ?_
  refine rl_iconst (v := nI 2) dL_send_19 (by decide) ?_
  obtain ⟨o_1, H⟩ := H
  obtain ⟨o_2, H⟩ := H
  exact rl_iret dL_send_20 rfl o_1 o_2 H
theorem bL_send_21 {Q : Nat → Option Value → Hp → Prop} {h : Hp} {mc ms nc ns : Nat} {as0 : Nat} (H : nc ≤ mc ∧ ns ≤ ms ∧ Q 0 (some (.int (nI 3))) h) : Wm mL_send 8 mc ms Q 21 [none, none, none, none, none] [.ref as0] h nc ns := by
  refine rl_astore (L' := [none, none, none, none, some (.ref as0)]) dL_send_21 (Nat.le_of_ble_eq_true rfl) rfl ?_
  refine rl_iconst (v := nI 3) dL_send_23 (by decide) ?_
  obtain ⟨o_1, H⟩ := H
  obtain ⟨o_2, H⟩ := H
  exact rl_iret dL_send_24 rfl o_1 o_2 H
theorem bL_deliver_0 {Q : Nat → Option Value → Hp → Prop} {h : Hp} {mc ms nc ns : Nat} {a0 a2 mcn msn : Nat} {x1 : Int32} (H : nc + mcn ≤ mc ∧ ns + msn ≤ ms ∧ hpK h a0 = 18 ∧ CXi mX8_deliver 7 mcn msn [some (.ref a0), some (.int x1)] h (fun v h' => Wm mL_deliver 8 mc ms Q 7 [none, none, none, none] [.int v, .int (nI 0), .ref a2] h' (nc + mcn) (ns + msn)) (fun j h' => ∃ hpc : Nat, (j, hpc) ∈ ([(1, 12)] : List (Nat × Nat)) ∧ ∀ q : Nat, Wm mL_deliver 8 mc ms Q hpc [none, none, none, none] [.ref q] h' (nc + mcn) (ns + msn))) : Wm mL_deliver 8 mc ms Q 0 [some (.ref a0), some (.int x1), some (.ref a2), none] [] h nc ns := by
  refine rl_aload_n dL_deliver_0 rfl rfl ?_
  refine rl_iconst (v := nI 0) dL_deliver_1 (by decide) ?_
  refine rl_aload_n dL_deliver_2 rfl rfl ?_
  refine rl_iload_n dL_deliver_3 rfl rfl ?_
  obtain ⟨o_1, H⟩ := H
  obtain ⟨o_2, H⟩ := H
  obtain ⟨o_3, H⟩ := H
  exact rl_callVH (As := [.int x1]) (rest := [.int (nI 0), .ref a2]) (L9 := [none, none, none, none]) [(1, 12)] mfX8_deliver dL_deliver_4 lkL_45 (by decide) hnL_deliver o_3 (by decide) (Nat.le_of_ble_eq_true rfl) o_1 o_2 rfl (Nat.le_of_ble_eq_true rfl) rfl rfl trivial (fun Qc k kx => H Qc (fun v h' w => k (some (.int v)) h' (rl_wk (L' := [none, none, none, none]) trivial w)) kx)
theorem bL_deliver_7 {Q : Nat → Option Value → Hp → Prop} {h : Hp} {mc ms nc ns : Nat} {as0 : Nat} {xs1 xs2 : Int32} (H : hpK h as0 = 3 ∧ vp_in xs1 (hpN h as0) ∧ nc ≤ mc ∧ ns ≤ ms ∧ Q 0 (some (.int (nI 0))) (stJ h as0 (xs1).toNatClampNeg ((xs2).toInt64))) : Wm mL_deliver 8 mc ms Q 7 [none, none, none, none] [.int xs2, .int xs1, .ref as0] h nc ns := by
  refine rl_i2l dL_deliver_7 ?_
  obtain ⟨o_1, H⟩ := H
  obtain ⟨o_2, H⟩ := H
  refine rl_last dL_deliver_8 o_1 o_2 ?_
  refine rl_goto (tgt := 15) dL_deliver_9 (by decide) ?_
  refine rl_iconst (v := nI 0) dL_deliver_15 (by decide) ?_
  obtain ⟨o_3, H⟩ := H
  obtain ⟨o_4, H⟩ := H
  exact rl_iret dL_deliver_16 rfl o_3 o_4 H
theorem bL_deliver_12 {Q : Nat → Option Value → Hp → Prop} {h : Hp} {mc ms nc ns : Nat} {as0 : Nat} (H : nc ≤ mc ∧ ns ≤ ms ∧ Q 0 (some (.int (nI 1))) h) : Wm mL_deliver 8 mc ms Q 12 [none, none, none, none] [.ref as0] h nc ns := by
  refine rl_astore_n (L' := [none, none, none, some (.ref as0)]) dL_deliver_12 rfl (Nat.le_of_ble_eq_true rfl) rfl ?_
  refine rl_iconst (v := nI 1) dL_deliver_13 (by decide) ?_
  obtain ⟨o_1, H⟩ := H
  obtain ⟨o_2, H⟩ := H
  exact rl_iret dL_deliver_14 rfl o_1 o_2 H
theorem bL_lose_0 {Q : Nat → Option Value → Hp → Prop} {h : Hp} {mc ms nc ns : Nat} {a0 a2 mcn msn : Nat} {x1 : Int32} (H : nc + mcn ≤ mc ∧ ns + msn ≤ ms ∧ hpK h a0 = 18 ∧ CXi mX8_lose 7 mcn msn [some (.ref a0), some (.int x1)] h (fun v h' => Wm mL_lose 8 mc ms Q 7 [none, none, none, none] [.int v, .int (nI 0), .ref a2] h' (nc + mcn) (ns + msn)) (fun j h' => ∃ hpc : Nat, (j, hpc) ∈ ([(1, 12)] : List (Nat × Nat)) ∧ ∀ q : Nat, Wm mL_lose 8 mc ms Q hpc [none, none, none, none] [.ref q] h' (nc + mcn) (ns + msn))) : Wm mL_lose 8 mc ms Q 0 [some (.ref a0), some (.int x1), some (.ref a2), none] [] h nc ns := by
  refine rl_aload_n dL_lose_0 rfl rfl ?_
  refine rl_iconst (v := nI 0) dL_lose_1 (by decide) ?_
  refine rl_aload_n dL_lose_2 rfl rfl ?_
  refine rl_iload_n dL_lose_3 rfl rfl ?_
  obtain ⟨o_1, H⟩ := H
  obtain ⟨o_2, H⟩ := H
  obtain ⟨o_3, H⟩ := H
  exact rl_callVH (As := [.int x1]) (rest := [.int (nI 0), .ref a2]) (L9 := [none, none, none, none]) [(1, 12)] mfX8_lose dL_lose_4 lkL_48 (by decide) hnL_lose o_3 (by decide) (Nat.le_of_ble_eq_true rfl) o_1 o_2 rfl (Nat.le_of_ble_eq_true rfl) rfl rfl trivial (fun Qc k kx => H Qc (fun v h' w => k (some (.int v)) h' (rl_wk (L' := [none, none, none, none]) trivial w)) kx)
theorem bL_lose_7 {Q : Nat → Option Value → Hp → Prop} {h : Hp} {mc ms nc ns : Nat} {as0 : Nat} {xs1 xs2 : Int32} (H : hpK h as0 = 3 ∧ vp_in xs1 (hpN h as0) ∧ nc ≤ mc ∧ ns ≤ ms ∧ Q 0 (some (.int (nI 0))) (stJ h as0 (xs1).toNatClampNeg ((xs2).toInt64))) : Wm mL_lose 8 mc ms Q 7 [none, none, none, none] [.int xs2, .int xs1, .ref as0] h nc ns := by
  refine rl_i2l dL_lose_7 ?_
  obtain ⟨o_1, H⟩ := H
  obtain ⟨o_2, H⟩ := H
  refine rl_last dL_lose_8 o_1 o_2 ?_
  refine rl_goto (tgt := 15) dL_lose_9 (by decide) ?_
  refine rl_iconst (v := nI 0) dL_lose_15 (by decide) ?_
  obtain ⟨o_3, H⟩ := H
  obtain ⟨o_4, H⟩ := H
  exact rl_iret dL_lose_16 rfl o_3 o_4 H
theorem bL_lose_12 {Q : Nat → Option Value → Hp → Prop} {h : Hp} {mc ms nc ns : Nat} {as0 : Nat} (H : nc ≤ mc ∧ ns ≤ ms ∧ Q 0 (some (.int (nI 1))) h) : Wm mL_lose 8 mc ms Q 12 [none, none, none, none] [.ref as0] h nc ns := by
  refine rl_astore_n (L' := [none, none, none, some (.ref as0)]) dL_lose_12 rfl (Nat.le_of_ble_eq_true rfl) rfl ?_
  refine rl_iconst (v := nI 1) dL_lose_13 (by decide) ?_
  obtain ⟨o_1, H⟩ := H
  obtain ⟨o_2, H⟩ := H
  exact rl_iret dL_lose_14 rfl o_1 o_2 H
theorem bL_repeat_0 {Q : Nat → Option Value → Hp → Prop} {h : Hp} {mc ms nc ns : Nat} {a0 a2 mcn msn : Nat} {x1 : Int32} (H : nc + mcn ≤ mc ∧ ns + msn ≤ ms ∧ hpK h a0 = 18 ∧ CXi mX8_repeat 7 mcn msn [some (.ref a0), some (.int x1)] h (fun v h' => Wm mL_repeat 8 mc ms Q 7 [none, none, none, none] [.int v, .int (nI 0), .ref a2] h' (nc + mcn) (ns + msn)) (fun j h' => ∃ hpc : Nat, (j, hpc) ∈ ([(1, 12), (3, 15)] : List (Nat × Nat)) ∧ ∀ q : Nat, Wm mL_repeat 8 mc ms Q hpc [none, none, none, none] [.ref q] h' (nc + mcn) (ns + msn))) : Wm mL_repeat 8 mc ms Q 0 [some (.ref a0), some (.int x1), some (.ref a2), none] [] h nc ns := by
  refine rl_aload_n dL_repeat_0 rfl rfl ?_
  refine rl_iconst (v := nI 0) dL_repeat_1 (by decide) ?_
  refine rl_aload_n dL_repeat_2 rfl rfl ?_
  refine rl_iload_n dL_repeat_3 rfl rfl ?_
  obtain ⟨o_1, H⟩ := H
  obtain ⟨o_2, H⟩ := H
  obtain ⟨o_3, H⟩ := H
  exact rl_callVH (As := [.int x1]) (rest := [.int (nI 0), .ref a2]) (L9 := [none, none, none, none]) [(1, 12), (3, 15)] mfX8_repeat dL_repeat_4 lkL_51 (by decide) hnL_repeat o_3 (by decide) (Nat.le_of_ble_eq_true rfl) o_1 o_2 rfl (Nat.le_of_ble_eq_true rfl) rfl rfl trivial (fun Qc k kx => H Qc (fun v h' w => k (some (.int v)) h' (rl_wk (L' := [none, none, none, none]) trivial w)) kx)
theorem bL_repeat_7 {Q : Nat → Option Value → Hp → Prop} {h : Hp} {mc ms nc ns : Nat} {as0 : Nat} {xs1 xs2 : Int32} (H : hpK h as0 = 3 ∧ vp_in xs1 (hpN h as0) ∧ nc ≤ mc ∧ ns ≤ ms ∧ Q 0 (some (.int (nI 0))) (stJ h as0 (xs1).toNatClampNeg ((xs2).toInt64))) : Wm mL_repeat 8 mc ms Q 7 [none, none, none, none] [.int xs2, .int xs1, .ref as0] h nc ns := by
  refine rl_i2l dL_repeat_7 ?_
  obtain ⟨o_1, H⟩ := H
  obtain ⟨o_2, H⟩ := H
  refine rl_last dL_repeat_8 o_1 o_2 ?_
  refine rl_goto (tgt := 18) dL_repeat_9 (by decide) ?_
  refine rl_iconst (v := nI 0) dL_repeat_18 (by decide) ?_
  obtain ⟨o_3, H⟩ := H
  obtain ⟨o_4, H⟩ := H
  exact rl_iret dL_repeat_19 rfl o_3 o_4 H
theorem bL_repeat_12 {Q : Nat → Option Value → Hp → Prop} {h : Hp} {mc ms nc ns : Nat} {as0 : Nat} (H : nc ≤ mc ∧ ns ≤ ms ∧ Q 0 (some (.int (nI 1))) h) : Wm mL_repeat 8 mc ms Q 12 [none, none, none, none] [.ref as0] h nc ns := by
  refine rl_astore_n (L' := [none, none, none, some (.ref as0)]) dL_repeat_12 rfl (Nat.le_of_ble_eq_true rfl) rfl ?_
  refine rl_iconst (v := nI 1) dL_repeat_13 (by decide) ?_
  obtain ⟨o_1, H⟩ := H
  obtain ⟨o_2, H⟩ := H
  exact rl_iret dL_repeat_14 rfl o_1 o_2 H
theorem bL_repeat_15 {Q : Nat → Option Value → Hp → Prop} {h : Hp} {mc ms nc ns : Nat} {as0 : Nat} (H : nc ≤ mc ∧ ns ≤ ms ∧ Q 0 (some (.int (nI 2))) h) : Wm mL_repeat 8 mc ms Q 15 [none, none, none, none] [.ref as0] h nc ns := by
  refine rl_astore_n (L' := [none, none, none, some (.ref as0)]) dL_repeat_15 rfl (Nat.le_of_ble_eq_true rfl) rfl ?_
  refine rl_iconst (v := nI 2) dL_repeat_16 (by decide) ?_
  obtain ⟨o_1, H⟩ := H
  obtain ⟨o_2, H⟩ := H
  exact rl_iret dL_repeat_17 rfl o_1 o_2 H
theorem bL_message_0 {Q : Nat → Option Value → Hp → Prop} {h : Hp} {mc ms nc ns : Nat} {a0 a3 mcn msn : Nat} {x1 x2 : Int32} (H : nc + mcn ≤ mc ∧ ns + msn ≤ ms ∧ hpK h a0 = 18 ∧ CXi mX8_message 7 mcn msn [some (.ref a0), some (.int x1), some (.int x2)] h (fun v h' => Wm mL_message 8 mc ms Q 8 [none, none, none, none, none] [.int v, .int (nI 0), .ref a3] h' (nc + mcn) (ns + msn)) (fun j h' => ∃ hpc : Nat, (j, hpc) ∈ ([(1, 13)] : List (Nat × Nat)) ∧ ∀ q : Nat, Wm mL_message 8 mc ms Q hpc [none, none, none, none, none] [.ref q] h' (nc + mcn) (ns + msn))) : Wm mL_message 8 mc ms Q 0 [some (.ref a0), some (.int x1), some (.int x2), some (.ref a3), none] [] h nc ns := by
  refine rl_aload_n dL_message_0 rfl rfl ?_
  refine rl_iconst (v := nI 0) dL_message_1 (by decide) ?_
  refine rl_aload_n dL_message_2 rfl rfl ?_
  refine rl_iload_n dL_message_3 rfl rfl ?_
  refine rl_iload_n dL_message_4 rfl rfl ?_
  obtain ⟨o_1, H⟩ := H
  obtain ⟨o_2, H⟩ := H
  obtain ⟨o_3, H⟩ := H
  exact rl_callVH (As := [.int x1, .int x2]) (rest := [.int (nI 0), .ref a3]) (L9 := [none, none, none, none, none]) [(1, 13)] mfX8_message dL_message_5 lkL_54 (by decide) hnL_message o_3 (by decide) (Nat.le_of_ble_eq_true rfl) o_1 o_2 rfl (Nat.le_of_ble_eq_true rfl) rfl rfl trivial (fun Qc k kx => H Qc (fun v h' w => k (some (.int v)) h' (rl_wk (L' := [none, none, none, none, none]) trivial w)) kx)
theorem bL_message_8 {Q : Nat → Option Value → Hp → Prop} {h : Hp} {mc ms nc ns : Nat} {as0 : Nat} {xs1 xs2 : Int32} (H : hpK h as0 = 3 ∧ vp_in xs1 (hpN h as0) ∧ nc ≤ mc ∧ ns ≤ ms ∧ Q 0 (some (.int (nI 0))) (stJ h as0 (xs1).toNatClampNeg ((xs2).toInt64))) : Wm mL_message 8 mc ms Q 8 [none, none, none, none, none] [.int xs2, .int xs1, .ref as0] h nc ns := by
  refine rl_i2l dL_message_8 ?_
  obtain ⟨o_1, H⟩ := H
  obtain ⟨o_2, H⟩ := H
  refine rl_last dL_message_9 o_1 o_2 ?_
  refine rl_goto (tgt := 17) dL_message_10 (by decide) ?_
  refine rl_iconst (v := nI 0) dL_message_17 (by decide) ?_
  obtain ⟨o_3, H⟩ := H
  obtain ⟨o_4, H⟩ := H
  exact rl_iret dL_message_18 rfl o_3 o_4 H
theorem bL_message_13 {Q : Nat → Option Value → Hp → Prop} {h : Hp} {mc ms nc ns : Nat} {as0 : Nat} (H : nc ≤ mc ∧ ns ≤ ms ∧ Q 0 (some (.int (nI 1))) h) : Wm mL_message 8 mc ms Q 13 [none, none, none, none, none] [.ref as0] h nc ns := by
  refine rl_astore (L' := [none, none, none, none, some (.ref as0)]) dL_message_13 (Nat.le_of_ble_eq_true rfl) rfl ?_
  refine rl_iconst (v := nI 1) dL_message_15 (by decide) ?_
  obtain ⟨o_1, H⟩ := H
  obtain ⟨o_2, H⟩ := H
  exact rl_iret dL_message_16 rfl o_1 o_2 H
theorem bL_known_0 {Q : Nat → Option Value → Hp → Prop} {h : Hp} {mc ms nc ns : Nat} {a0 a2 mcn msn : Nat} {x1 : Int32} (H : nc + mcn ≤ mc ∧ ns + msn ≤ ms ∧ hpK h a0 = 18 ∧ CXi mX8_known 7 mcn msn [some (.ref a0), some (.int x1)] h (fun v h' => Wm mL_known 8 mc ms Q 7 [none, none, none, none] [.int v, .int (nI 0), .ref a2] h' (nc + mcn) (ns + msn)) (fun j h' => ∃ hpc : Nat, (j, hpc) ∈ ([(1, 12)] : List (Nat × Nat)) ∧ ∀ q : Nat, Wm mL_known 8 mc ms Q hpc [none, none, none, none] [.ref q] h' (nc + mcn) (ns + msn))) : Wm mL_known 8 mc ms Q 0 [some (.ref a0), some (.int x1), some (.ref a2), none] [] h nc ns := by
  refine rl_aload_n dL_known_0 rfl rfl ?_
  refine rl_iconst (v := nI 0) dL_known_1 (by decide) ?_
  refine rl_aload_n dL_known_2 rfl rfl ?_
  refine rl_iload_n dL_known_3 rfl rfl ?_
  obtain ⟨o_1, H⟩ := H
  obtain ⟨o_2, H⟩ := H
  obtain ⟨o_3, H⟩ := H
  exact rl_callVH (As := [.int x1]) (rest := [.int (nI 0), .ref a2]) (L9 := [none, none, none, none]) [(1, 12)] mfX8_known dL_known_4 lkL_57 (by decide) hnL_known o_3 (by decide) (Nat.le_of_ble_eq_true rfl) o_1 o_2 rfl (Nat.le_of_ble_eq_true rfl) rfl rfl trivial (fun Qc k kx => H Qc (fun v h' w => k (some (.int v)) h' (rl_wk (L' := [none, none, none, none]) trivial w)) kx)
theorem bL_known_7 {Q : Nat → Option Value → Hp → Prop} {h : Hp} {mc ms nc ns : Nat} {as0 : Nat} {xs1 xs2 : Int32} (H : hpK h as0 = 3 ∧ vp_in xs1 (hpN h as0) ∧ nc ≤ mc ∧ ns ≤ ms ∧ Q 0 (some (.int (nI 0))) (stJ h as0 (xs1).toNatClampNeg ((xs2).toInt64))) : Wm mL_known 8 mc ms Q 7 [none, none, none, none] [.int xs2, .int xs1, .ref as0] h nc ns := by
  refine rl_i2l dL_known_7 ?_
  obtain ⟨o_1, H⟩ := H
  obtain ⟨o_2, H⟩ := H
  refine rl_last dL_known_8 o_1 o_2 ?_
  refine rl_goto (tgt := 15) dL_known_9 (by decide) ?_
  refine rl_iconst (v := nI 0) dL_known_15 (by decide) ?_
  obtain ⟨o_3, H⟩ := H
  obtain ⟨o_4, H⟩ := H
  exact rl_iret dL_known_16 rfl o_3 o_4 H
theorem bL_known_12 {Q : Nat → Option Value → Hp → Prop} {h : Hp} {mc ms nc ns : Nat} {as0 : Nat} (H : nc ≤ mc ∧ ns ≤ ms ∧ Q 0 (some (.int (nI 1))) h) : Wm mL_known 8 mc ms Q 12 [none, none, none, none] [.ref as0] h nc ns := by
  refine rl_astore_n (L' := [none, none, none, some (.ref as0)]) dL_known_12 rfl (Nat.le_of_ble_eq_true rfl) rfl ?_
  refine rl_iconst (v := nI 1) dL_known_13 (by decide) ?_
  obtain ⟨o_1, H⟩ := H
  obtain ⟨o_2, H⟩ := H
  exact rl_iret dL_known_14 rfl o_1 o_2 H
theorem bL_own_0 {Q : Nat → Option Value → Hp → Prop} {h : Hp} {mc ms nc ns : Nat} {a0 a3 mcn msn : Nat} {x1 x2 : Int32} (H : nc + mcn ≤ mc ∧ ns + msn ≤ ms ∧ hpK h a0 = 18 ∧ CXi mX8_own 7 mcn msn [some (.ref a0), some (.int x1), some (.int x2)] h (fun v h' => Wm mL_own 8 mc ms Q 8 [none, none, none, none, none] [.int v, .int (nI 0), .ref a3] h' (nc + mcn) (ns + msn)) (fun j h' => ∃ hpc : Nat, (j, hpc) ∈ ([(1, 13)] : List (Nat × Nat)) ∧ ∀ q : Nat, Wm mL_own 8 mc ms Q hpc [none, none, none, none, none] [.ref q] h' (nc + mcn) (ns + msn))) : Wm mL_own 8 mc ms Q 0 [some (.ref a0), some (.int x1), some (.int x2), some (.ref a3), none] [] h nc ns := by
  refine rl_aload_n dL_own_0 rfl rfl ?_
  refine rl_iconst (v := nI 0) dL_own_1 (by decide) ?_
  refine rl_aload_n dL_own_2 rfl rfl ?_
  refine rl_iload_n dL_own_3 rfl rfl ?_
  refine rl_iload_n dL_own_4 rfl rfl ?_
  obtain ⟨o_1, H⟩ := H
  obtain ⟨o_2, H⟩ := H
  obtain ⟨o_3, H⟩ := H
  exact rl_callVH (As := [.int x1, .int x2]) (rest := [.int (nI 0), .ref a3]) (L9 := [none, none, none, none, none]) [(1, 13)] mfX8_own dL_own_5 lkL_60 (by decide) hnL_own o_3 (by decide) (Nat.le_of_ble_eq_true rfl) o_1 o_2 rfl (Nat.le_of_ble_eq_true rfl) rfl rfl trivial (fun Qc k kx => H Qc (fun v h' w => k (some (.int v)) h' (rl_wk (L' := [none, none, none, none, none]) trivial w)) kx)
theorem bL_own_8 {Q : Nat → Option Value → Hp → Prop} {h : Hp} {mc ms nc ns : Nat} {as0 : Nat} {xs1 xs2 : Int32} (H : hpK h as0 = 3 ∧ vp_in xs1 (hpN h as0) ∧ nc ≤ mc ∧ ns ≤ ms ∧ Q 0 (some (.int (nI 0))) (stJ h as0 (xs1).toNatClampNeg ((xs2).toInt64))) : Wm mL_own 8 mc ms Q 8 [none, none, none, none, none] [.int xs2, .int xs1, .ref as0] h nc ns := by
  refine rl_i2l dL_own_8 ?_
  obtain ⟨o_1, H⟩ := H
  obtain ⟨o_2, H⟩ := H
  refine rl_last dL_own_9 o_1 o_2 ?_
  refine rl_goto (tgt := 17) dL_own_10 (by decide) ?_
  refine rl_iconst (v := nI 0) dL_own_17 (by decide) ?_
  obtain ⟨o_3, H⟩ := H
  obtain ⟨o_4, H⟩ := H
  exact rl_iret dL_own_18 rfl o_3 o_4 H
theorem bL_own_13 {Q : Nat → Option Value → Hp → Prop} {h : Hp} {mc ms nc ns : Nat} {as0 : Nat} (H : nc ≤ mc ∧ ns ≤ ms ∧ Q 0 (some (.int (nI 1))) h) : Wm mL_own 8 mc ms Q 13 [none, none, none, none, none] [.ref as0] h nc ns := by
  refine rl_astore (L' := [none, none, none, none, some (.ref as0)]) dL_own_13 (Nat.le_of_ble_eq_true rfl) rfl ?_
  refine rl_iconst (v := nI 1) dL_own_15 (by decide) ?_
  obtain ⟨o_1, H⟩ := H
  obtain ⟨o_2, H⟩ := H
  exact rl_iret dL_own_16 rfl o_1 o_2 H
theorem bL_available_0 {Q : Nat → Option Value → Hp → Prop} {h : Hp} {mc ms nc ns : Nat} {a0 a3 mcn msn : Nat} {x1 x2 : Int32} (H : nc + mcn ≤ mc ∧ ns + msn ≤ ms ∧ hpK h a0 = 18 ∧ CXi mX8_available 7 mcn msn [some (.ref a0), some (.int x1), some (.int x2)] h (fun v h' => Wm mL_available 8 mc ms Q 8 [none, none, none, none, none] [.int v, .int (nI 0), .ref a3] h' (nc + mcn) (ns + msn)) (fun j h' => ∃ hpc : Nat, (j, hpc) ∈ ([(1, 13)] : List (Nat × Nat)) ∧ ∀ q : Nat, Wm mL_available 8 mc ms Q hpc [none, none, none, none, none] [.ref q] h' (nc + mcn) (ns + msn))) : Wm mL_available 8 mc ms Q 0 [some (.ref a0), some (.int x1), some (.int x2), some (.ref a3), none] [] h nc ns := by
  refine rl_aload_n dL_available_0 rfl rfl ?_
  refine rl_iconst (v := nI 0) dL_available_1 (by decide) ?_
  refine rl_aload_n dL_available_2 rfl rfl ?_
  refine rl_iload_n dL_available_3 rfl rfl ?_
  refine rl_iload_n dL_available_4 rfl rfl ?_
  obtain ⟨o_1, H⟩ := H
  obtain ⟨o_2, H⟩ := H
  obtain ⟨o_3, H⟩ := H
  exact rl_callVH (As := [.int x1, .int x2]) (rest := [.int (nI 0), .ref a3]) (L9 := [none, none, none, none, none]) [(1, 13)] mfX8_available dL_available_5 lkL_63 (by decide) hnL_available o_3 (by decide) (Nat.le_of_ble_eq_true rfl) o_1 o_2 rfl (Nat.le_of_ble_eq_true rfl) rfl rfl trivial (fun Qc k kx => H Qc (fun v h' w => k (some (.int v)) h' (rl_wk (L' := [none, none, none, none, none]) trivial w)) kx)
theorem bL_available_8 {Q : Nat → Option Value → Hp → Prop} {h : Hp} {mc ms nc ns : Nat} {as0 : Nat} {xs1 xs2 : Int32} (H : hpK h as0 = 3 ∧ vp_in xs1 (hpN h as0) ∧ nc ≤ mc ∧ ns ≤ ms ∧ Q 0 (some (.int (nI 0))) (stJ h as0 (xs1).toNatClampNeg ((xs2).toInt64))) : Wm mL_available 8 mc ms Q 8 [none, none, none, none, none] [.int xs2, .int xs1, .ref as0] h nc ns := by
  refine rl_i2l dL_available_8 ?_
  obtain ⟨o_1, H⟩ := H
  obtain ⟨o_2, H⟩ := H
  refine rl_last dL_available_9 o_1 o_2 ?_
  refine rl_goto (tgt := 17) dL_available_10 (by decide) ?_
  refine rl_iconst (v := nI 0) dL_available_17 (by decide) ?_
  obtain ⟨o_3, H⟩ := H
  obtain ⟨o_4, H⟩ := H
  exact rl_iret dL_available_18 rfl o_3 o_4 H
theorem bL_available_13 {Q : Nat → Option Value → Hp → Prop} {h : Hp} {mc ms nc ns : Nat} {as0 : Nat} (H : nc ≤ mc ∧ ns ≤ ms ∧ Q 0 (some (.int (nI 1))) h) : Wm mL_available 8 mc ms Q 13 [none, none, none, none, none] [.ref as0] h nc ns := by
  refine rl_astore (L' := [none, none, none, none, some (.ref as0)]) dL_available_13 (Nat.le_of_ble_eq_true rfl) rfl ?_
  refine rl_iconst (v := nI 1) dL_available_15 (by decide) ?_
  obtain ⟨o_1, H⟩ := H
  obtain ⟨o_2, H⟩ := H
  exact rl_iret dL_available_16 rfl o_1 o_2 H
theorem bL_dormant_0 {Q : Nat → Option Value → Hp → Prop} {h : Hp} {mc ms nc ns : Nat} {a0 a2 mcn msn : Nat} {x1 : Int32} (H : nc + mcn ≤ mc ∧ ns + msn ≤ ms ∧ hpK h a0 = 18 ∧ CXi mX8_dormant 6 mcn msn [some (.ref a0), some (.int x1)] h (fun v h' => Wm mL_dormant 7 mc ms Q 7 [none, none, none, none] [.int v, .int (nI 0), .ref a2] h' (nc + mcn) (ns + msn)) (fun j h' => ∃ hpc : Nat, (j, hpc) ∈ ([(1, 12)] : List (Nat × Nat)) ∧ ∀ q : Nat, Wm mL_dormant 7 mc ms Q hpc [none, none, none, none] [.ref q] h' (nc + mcn) (ns + msn))) : Wm mL_dormant 7 mc ms Q 0 [some (.ref a0), some (.int x1), some (.ref a2), none] [] h nc ns := by
  refine rl_aload_n dL_dormant_0 rfl rfl ?_
  refine rl_iconst (v := nI 0) dL_dormant_1 (by decide) ?_
  refine rl_aload_n dL_dormant_2 rfl rfl ?_
  refine rl_iload_n dL_dormant_3 rfl rfl ?_
  obtain ⟨o_1, H⟩ := H
  obtain ⟨o_2, H⟩ := H
  obtain ⟨o_3, H⟩ := H
  exact rl_callVH (As := [.int x1]) (rest := [.int (nI 0), .ref a2]) (L9 := [none, none, none, none]) [(1, 12)] mfX8_dormant dL_dormant_4 lkL_66 (by decide) hnL_dormant o_3 (by decide) (Nat.le_of_ble_eq_true rfl) o_1 o_2 rfl (Nat.le_of_ble_eq_true rfl) rfl rfl trivial (fun Qc k kx => H Qc (fun v h' w => k (some (.int v)) h' (rl_wk (L' := [none, none, none, none]) trivial w)) kx)
theorem bL_dormant_7 {Q : Nat → Option Value → Hp → Prop} {h : Hp} {mc ms nc ns : Nat} {as0 : Nat} {xs1 xs2 : Int32} (H : hpK h as0 = 3 ∧ vp_in xs1 (hpN h as0) ∧ nc ≤ mc ∧ ns ≤ ms ∧ Q 0 (some (.int (nI 0))) (stJ h as0 (xs1).toNatClampNeg ((xs2).toInt64))) : Wm mL_dormant 7 mc ms Q 7 [none, none, none, none] [.int xs2, .int xs1, .ref as0] h nc ns := by
  refine rl_i2l dL_dormant_7 ?_
  obtain ⟨o_1, H⟩ := H
  obtain ⟨o_2, H⟩ := H
  refine rl_last dL_dormant_8 o_1 o_2 ?_
  refine rl_goto (tgt := 15) dL_dormant_9 (by decide) ?_
  refine rl_iconst (v := nI 0) dL_dormant_15 (by decide) ?_
  obtain ⟨o_3, H⟩ := H
  obtain ⟨o_4, H⟩ := H
  exact rl_iret dL_dormant_16 rfl o_3 o_4 H
theorem bL_dormant_12 {Q : Nat → Option Value → Hp → Prop} {h : Hp} {mc ms nc ns : Nat} {as0 : Nat} (H : nc ≤ mc ∧ ns ≤ ms ∧ Q 0 (some (.int (nI 1))) h) : Wm mL_dormant 7 mc ms Q 12 [none, none, none, none] [.ref as0] h nc ns := by
  refine rl_astore_n (L' := [none, none, none, some (.ref as0)]) dL_dormant_12 rfl (Nat.le_of_ble_eq_true rfl) rfl ?_
  refine rl_iconst (v := nI 1) dL_dormant_13 (by decide) ?_
  obtain ⟨o_1, H⟩ := H
  obtain ⟨o_2, H⟩ := H
  exact rl_iret dL_dormant_14 rfl o_1 o_2 H
theorem bL_demand_0 {Q : Nat → Option Value → Hp → Prop} {h : Hp} {mc ms nc ns : Nat} {a0 a4 mcn msn : Nat} {x1 x2 x3 : Int32} (H : nc + mcn ≤ mc ∧ ns + msn ≤ ms ∧ hpK h a0 = 18 ∧ CXi mX8_demand 7 mcn msn [some (.ref a0), some (.int x1), some (.int x2), some (.int x3)] h (fun v h' => Wm mL_demand 8 mc ms Q 10 [none, none, none, none, none, none] [.int v, .int (nI 0), .ref a4] h' (nc + mcn) (ns + msn)) (fun j h' => ∃ hpc : Nat, (j, hpc) ∈ ([(1, 15)] : List (Nat × Nat)) ∧ ∀ q : Nat, Wm mL_demand 8 mc ms Q hpc [none, none, none, none, none, none] [.ref q] h' (nc + mcn) (ns + msn))) : Wm mL_demand 8 mc ms Q 0 [some (.ref a0), some (.int x1), some (.int x2), some (.int x3), some (.ref a4), none] [] h nc ns := by
  refine rl_aload dL_demand_0 rfl ?_
  refine rl_iconst (v := nI 0) dL_demand_2 (by decide) ?_
  refine rl_aload_n dL_demand_3 rfl rfl ?_
  refine rl_iload_n dL_demand_4 rfl rfl ?_
  refine rl_iload_n dL_demand_5 rfl rfl ?_
  refine rl_iload_n dL_demand_6 rfl rfl ?_
  obtain ⟨o_1, H⟩ := H
  obtain ⟨o_2, H⟩ := H
  obtain ⟨o_3, H⟩ := H
  exact rl_callVH (As := [.int x1, .int x2, .int x3]) (rest := [.int (nI 0), .ref a4]) (L9 := [none, none, none, none, none, none]) [(1, 15)] mfX8_demand dL_demand_7 lkL_69 (by decide) hnL_demand o_3 (by decide) (Nat.le_of_ble_eq_true rfl) o_1 o_2 rfl (Nat.le_of_ble_eq_true rfl) rfl rfl trivial (fun Qc k kx => H Qc (fun v h' w => k (some (.int v)) h' (rl_wk (L' := [none, none, none, none, none, none]) trivial w)) kx)
theorem bL_demand_10 {Q : Nat → Option Value → Hp → Prop} {h : Hp} {mc ms nc ns : Nat} {as0 : Nat} {xs1 xs2 : Int32} (H : hpK h as0 = 3 ∧ vp_in xs1 (hpN h as0) ∧ nc ≤ mc ∧ ns ≤ ms ∧ Q 0 (some (.int (nI 0))) (stJ h as0 (xs1).toNatClampNeg ((xs2).toInt64))) : Wm mL_demand 8 mc ms Q 10 [none, none, none, none, none, none] [.int xs2, .int xs1, .ref as0] h nc ns := by
  refine rl_i2l dL_demand_10 ?_
  obtain ⟨o_1, H⟩ := H
  obtain ⟨o_2, H⟩ := H
  refine rl_last dL_demand_11 o_1 o_2 ?_
  refine rl_goto (tgt := 19) dL_demand_12 (by decide) ?_
  refine rl_iconst (v := nI 0) dL_demand_19 (by decide) ?_
  obtain ⟨o_3, H⟩ := H
  obtain ⟨o_4, H⟩ := H
  exact rl_iret dL_demand_20 rfl o_3 o_4 H
theorem bL_demand_15 {Q : Nat → Option Value → Hp → Prop} {h : Hp} {mc ms nc ns : Nat} {as0 : Nat} (H : nc ≤ mc ∧ ns ≤ ms ∧ Q 0 (some (.int (nI 1))) h) : Wm mL_demand 8 mc ms Q 15 [none, none, none, none, none, none] [.ref as0] h nc ns := by
  refine rl_astore (L' := [none, none, none, none, none, some (.ref as0)]) dL_demand_15 (Nat.le_of_ble_eq_true rfl) rfl ?_
  refine rl_iconst (v := nI 1) dL_demand_17 (by decide) ?_
  obtain ⟨o_1, H⟩ := H
  obtain ⟨o_2, H⟩ := H
  exact rl_iret dL_demand_18 rfl o_1 o_2 H
theorem bL_version_0 {Q : Nat → Option Value → Hp → Prop} {h : Hp} {mc ms nc ns : Nat} {a0 a3 mcn msn : Nat} {x1 x2 : Int32} (H : nc + mcn ≤ mc ∧ ns + msn ≤ ms ∧ hpK h a0 = 18 ∧ CXi mX8_version 7 mcn msn [some (.ref a0), some (.int x1), some (.int x2)] h (fun v h' => Wm mL_version 8 mc ms Q 8 [none, none, none, none, none] [.int v, .int (nI 0), .ref a3] h' (nc + mcn) (ns + msn)) (fun j h' => ∃ hpc : Nat, (j, hpc) ∈ ([(1, 13)] : List (Nat × Nat)) ∧ ∀ q : Nat, Wm mL_version 8 mc ms Q hpc [none, none, none, none, none] [.ref q] h' (nc + mcn) (ns + msn))) : Wm mL_version 8 mc ms Q 0 [some (.ref a0), some (.int x1), some (.int x2), some (.ref a3), none] [] h nc ns := by
  refine rl_aload_n dL_version_0 rfl rfl ?_
  refine rl_iconst (v := nI 0) dL_version_1 (by decide) ?_
  refine rl_aload_n dL_version_2 rfl rfl ?_
  refine rl_iload_n dL_version_3 rfl rfl ?_
  refine rl_iload_n dL_version_4 rfl rfl ?_
  obtain ⟨o_1, H⟩ := H
  obtain ⟨o_2, H⟩ := H
  obtain ⟨o_3, H⟩ := H
  exact rl_callVH (As := [.int x1, .int x2]) (rest := [.int (nI 0), .ref a3]) (L9 := [none, none, none, none, none]) [(1, 13)] mfX8_version dL_version_5 lkL_72 (by decide) hnL_version o_3 (by decide) (Nat.le_of_ble_eq_true rfl) o_1 o_2 rfl (Nat.le_of_ble_eq_true rfl) rfl rfl trivial (fun Qc k kx => H Qc (fun v h' w => k (some (.int v)) h' (rl_wk (L' := [none, none, none, none, none]) trivial w)) kx)
theorem bL_version_8 {Q : Nat → Option Value → Hp → Prop} {h : Hp} {mc ms nc ns : Nat} {as0 : Nat} {xs1 xs2 : Int32} (H : hpK h as0 = 3 ∧ vp_in xs1 (hpN h as0) ∧ nc ≤ mc ∧ ns ≤ ms ∧ Q 0 (some (.int (nI 0))) (stJ h as0 (xs1).toNatClampNeg ((xs2).toInt64))) : Wm mL_version 8 mc ms Q 8 [none, none, none, none, none] [.int xs2, .int xs1, .ref as0] h nc ns := by
  refine rl_i2l dL_version_8 ?_
  obtain ⟨o_1, H⟩ := H
  obtain ⟨o_2, H⟩ := H
  refine rl_last dL_version_9 o_1 o_2 ?_
  refine rl_goto (tgt := 17) dL_version_10 (by decide) ?_
  refine rl_iconst (v := nI 0) dL_version_17 (by decide) ?_
  obtain ⟨o_3, H⟩ := H
  obtain ⟨o_4, H⟩ := H
  exact rl_iret dL_version_18 rfl o_3 o_4 H
theorem bL_version_13 {Q : Nat → Option Value → Hp → Prop} {h : Hp} {mc ms nc ns : Nat} {as0 : Nat} (H : nc ≤ mc ∧ ns ≤ ms ∧ Q 0 (some (.int (nI 1))) h) : Wm mL_version 8 mc ms Q 13 [none, none, none, none, none] [.ref as0] h nc ns := by
  refine rl_astore (L' := [none, none, none, none, some (.ref as0)]) dL_version_13 (Nat.le_of_ble_eq_true rfl) rfl ?_
  refine rl_iconst (v := nI 1) dL_version_15 (by decide) ?_
  obtain ⟨o_1, H⟩ := H
  obtain ⟨o_2, H⟩ := H
  exact rl_iret dL_version_16 rfl o_1 o_2 H
theorem bL_copyTime_0 {Q : Nat → Option Value → Hp → Prop} {h : Hp} {mc ms nc ns : Nat} {a0 a3 mcn msn : Nat} {x1 x2 : Int32} (H : nc + mcn ≤ mc ∧ ns + msn ≤ ms ∧ hpK h a0 = 18 ∧ CXi mX8_copyTime 7 mcn msn [some (.ref a0), some (.int x1), some (.int x2)] h (fun v h' => Wm mL_copyTime 8 mc ms Q 8 [none, none, none, none, none] [.int v, .int (nI 0), .ref a3] h' (nc + mcn) (ns + msn)) (fun j h' => ∃ hpc : Nat, (j, hpc) ∈ ([(1, 13)] : List (Nat × Nat)) ∧ ∀ q : Nat, Wm mL_copyTime 8 mc ms Q hpc [none, none, none, none, none] [.ref q] h' (nc + mcn) (ns + msn))) : Wm mL_copyTime 8 mc ms Q 0 [some (.ref a0), some (.int x1), some (.int x2), some (.ref a3), none] [] h nc ns := by
  refine rl_aload_n dL_copyTime_0 rfl rfl ?_
  refine rl_iconst (v := nI 0) dL_copyTime_1 (by decide) ?_
  refine rl_aload_n dL_copyTime_2 rfl rfl ?_
  refine rl_iload_n dL_copyTime_3 rfl rfl ?_
  refine rl_iload_n dL_copyTime_4 rfl rfl ?_
  obtain ⟨o_1, H⟩ := H
  obtain ⟨o_2, H⟩ := H
  obtain ⟨o_3, H⟩ := H
  exact rl_callVH (As := [.int x1, .int x2]) (rest := [.int (nI 0), .ref a3]) (L9 := [none, none, none, none, none]) [(1, 13)] mfX8_copyTime dL_copyTime_5 lkL_75 (by decide) hnL_copyTime o_3 (by decide) (Nat.le_of_ble_eq_true rfl) o_1 o_2 rfl (Nat.le_of_ble_eq_true rfl) rfl rfl trivial (fun Qc k kx => H Qc (fun v h' w => k (some (.int v)) h' (rl_wk (L' := [none, none, none, none, none]) trivial w)) kx)
theorem bL_copyTime_8 {Q : Nat → Option Value → Hp → Prop} {h : Hp} {mc ms nc ns : Nat} {as0 : Nat} {xs1 xs2 : Int32} (H : hpK h as0 = 3 ∧ vp_in xs1 (hpN h as0) ∧ nc ≤ mc ∧ ns ≤ ms ∧ Q 0 (some (.int (nI 0))) (stJ h as0 (xs1).toNatClampNeg ((xs2).toInt64))) : Wm mL_copyTime 8 mc ms Q 8 [none, none, none, none, none] [.int xs2, .int xs1, .ref as0] h nc ns := by
  refine rl_i2l dL_copyTime_8 ?_
  obtain ⟨o_1, H⟩ := H
  obtain ⟨o_2, H⟩ := H
  refine rl_last dL_copyTime_9 o_1 o_2 ?_
  refine rl_goto (tgt := 17) dL_copyTime_10 (by decide) ?_
  refine rl_iconst (v := nI 0) dL_copyTime_17 (by decide) ?_
  obtain ⟨o_3, H⟩ := H
  obtain ⟨o_4, H⟩ := H
  exact rl_iret dL_copyTime_18 rfl o_3 o_4 H
theorem bL_copyTime_13 {Q : Nat → Option Value → Hp → Prop} {h : Hp} {mc ms nc ns : Nat} {as0 : Nat} (H : nc ≤ mc ∧ ns ≤ ms ∧ Q 0 (some (.int (nI 1))) h) : Wm mL_copyTime 8 mc ms Q 13 [none, none, none, none, none] [.ref as0] h nc ns := by
  refine rl_astore (L' := [none, none, none, none, some (.ref as0)]) dL_copyTime_13 (Nat.le_of_ble_eq_true rfl) rfl ?_
  refine rl_iconst (v := nI 1) dL_copyTime_15 (by decide) ?_
  obtain ⟨o_1, H⟩ := H
  obtain ⟨o_2, H⟩ := H
  exact rl_iret dL_copyTime_16 rfl o_1 o_2 H
theorem bL_loan_0 {Q : Nat → Option Value → Hp → Prop} {h : Hp} {mc ms nc ns : Nat} {a0 a3 mcn msn : Nat} {x1 x2 : Int32} (H : nc + mcn ≤ mc ∧ ns + msn ≤ ms ∧ hpK h a0 = 18 ∧ CXi mX8_loan 6 mcn msn [some (.ref a0), some (.int x1), some (.int x2)] h (fun v h' => Wm mL_loan 7 mc ms Q 8 [none, none, none, none, none] [.int v, .int (nI 0), .ref a3] h' (nc + mcn) (ns + msn)) (fun j h' => ∃ hpc : Nat, (j, hpc) ∈ ([(1, 13)] : List (Nat × Nat)) ∧ ∀ q : Nat, Wm mL_loan 7 mc ms Q hpc [none, none, none, none, none] [.ref q] h' (nc + mcn) (ns + msn))) : Wm mL_loan 7 mc ms Q 0 [some (.ref a0), some (.int x1), some (.int x2), some (.ref a3), none] [] h nc ns := by
  refine rl_aload_n dL_loan_0 rfl rfl ?_
  refine rl_iconst (v := nI 0) dL_loan_1 (by decide) ?_
  refine rl_aload_n dL_loan_2 rfl rfl ?_
  refine rl_iload_n dL_loan_3 rfl rfl ?_
  refine rl_iload_n dL_loan_4 rfl rfl ?_
  obtain ⟨o_1, H⟩ := H
  obtain ⟨o_2, H⟩ := H
  obtain ⟨o_3, H⟩ := H
  exact rl_callVH (As := [.int x1, .int x2]) (rest := [.int (nI 0), .ref a3]) (L9 := [none, none, none, none, none]) [(1, 13)] mfX8_loan dL_loan_5 lkL_78 (by decide) hnL_loan o_3 (by decide) (Nat.le_of_ble_eq_true rfl) o_1 o_2 rfl (Nat.le_of_ble_eq_true rfl) rfl rfl trivial (fun Qc k kx => H Qc (fun v h' w => k (some (.int v)) h' (rl_wk (L' := [none, none, none, none, none]) trivial w)) kx)
theorem bL_loan_8 {Q : Nat → Option Value → Hp → Prop} {h : Hp} {mc ms nc ns : Nat} {as0 : Nat} {xs1 xs2 : Int32} (H : hpK h as0 = 3 ∧ vp_in xs1 (hpN h as0) ∧ nc ≤ mc ∧ ns ≤ ms ∧ Q 0 (some (.int (nI 0))) (stJ h as0 (xs1).toNatClampNeg ((xs2).toInt64))) : Wm mL_loan 7 mc ms Q 8 [none, none, none, none, none] [.int xs2, .int xs1, .ref as0] h nc ns := by
  refine rl_i2l dL_loan_8 ?_
  obtain ⟨o_1, H⟩ := H
  obtain ⟨o_2, H⟩ := H
  refine rl_last dL_loan_9 o_1 o_2 ?_
  refine rl_goto (tgt := 17) dL_loan_10 (by decide) ?_
  refine rl_iconst (v := nI 0) dL_loan_17 (by decide) ?_
  obtain ⟨o_3, H⟩ := H
  obtain ⟨o_4, H⟩ := H
  exact rl_iret dL_loan_18 rfl o_3 o_4 H
theorem bL_loan_13 {Q : Nat → Option Value → Hp → Prop} {h : Hp} {mc ms nc ns : Nat} {as0 : Nat} (H : nc ≤ mc ∧ ns ≤ ms ∧ Q 0 (some (.int (nI 1))) h) : Wm mL_loan 7 mc ms Q 13 [none, none, none, none, none] [.ref as0] h nc ns := by
  refine rl_astore (L' := [none, none, none, none, some (.ref as0)]) dL_loan_13 (Nat.le_of_ble_eq_true rfl) rfl ?_
  refine rl_iconst (v := nI 1) dL_loan_15 (by decide) ?_
  obtain ⟨o_1, H⟩ := H
  obtain ⟨o_2, H⟩ := H
  exact rl_iret dL_loan_16 rfl o_1 o_2 H
theorem bL_helpers_0 {Q : Nat → Option Value → Hp → Prop} {h : Hp} {mc ms nc ns : Nat} {a0 a4 mcn msn : Nat} {x1 x2 x3 : Int32} (H : nc + mcn ≤ mc ∧ ns + msn ≤ ms ∧ hpK h a0 = 18 ∧ CXi mX8_helpers 7 mcn msn [some (.ref a0), some (.int x1), some (.int x2), some (.int x3)] h (fun v h' => Wm mL_helpers 8 mc ms Q 10 [none, none, none, none, none, none] [.int v, .int (nI 0), .ref a4] h' (nc + mcn) (ns + msn)) (fun j h' => ∃ hpc : Nat, (j, hpc) ∈ ([(1, 15), (2, 19)] : List (Nat × Nat)) ∧ ∀ q : Nat, Wm mL_helpers 8 mc ms Q hpc [none, none, none, none, none, none] [.ref q] h' (nc + mcn) (ns + msn))) : Wm mL_helpers 8 mc ms Q 0 [some (.ref a0), some (.int x1), some (.int x2), some (.int x3), some (.ref a4), none] [] h nc ns := by
  refine rl_aload dL_helpers_0 rfl ?_
  refine rl_iconst (v := nI 0) dL_helpers_2 (by decide) ?_
  refine rl_aload_n dL_helpers_3 rfl rfl ?_
  refine rl_iload_n dL_helpers_4 rfl rfl ?_
  refine rl_iload_n dL_helpers_5 rfl rfl ?_
  refine rl_iload_n dL_helpers_6 rfl rfl ?_
  obtain ⟨o_1, H⟩ := H
  obtain ⟨o_2, H⟩ := H
  obtain ⟨o_3, H⟩ := H
  exact rl_callVH (As := [.int x1, .int x2, .int x3]) (rest := [.int (nI 0), .ref a4]) (L9 := [none, none, none, none, none, none]) [(1, 15), (2, 19)] mfX8_helpers dL_helpers_7 lkL_81 (by decide) hnL_helpers o_3 (by decide) (Nat.le_of_ble_eq_true rfl) o_1 o_2 rfl (Nat.le_of_ble_eq_true rfl) rfl rfl trivial (fun Qc k kx => H Qc (fun v h' w => k (some (.int v)) h' (rl_wk (L' := [none, none, none, none, none, none]) trivial w)) kx)
theorem bL_helpers_10 {Q : Nat → Option Value → Hp → Prop} {h : Hp} {mc ms nc ns : Nat} {as0 : Nat} {xs1 xs2 : Int32} (H : hpK h as0 = 3 ∧ vp_in xs1 (hpN h as0) ∧ nc ≤ mc ∧ ns ≤ ms ∧ Q 0 (some (.int (nI 0))) (stJ h as0 (xs1).toNatClampNeg ((xs2).toInt64))) : Wm mL_helpers 8 mc ms Q 10 [none, none, none, none, none, none] [.int xs2, .int xs1, .ref as0] h nc ns := by
  refine rl_i2l dL_helpers_10 ?_
  obtain ⟨o_1, H⟩ := H
  obtain ⟨o_2, H⟩ := H
  refine rl_last dL_helpers_11 o_1 o_2 ?_
  refine rl_goto (tgt := 23) dL_helpers_12 (by decide) ?_
  refine rl_iconst (v := nI 0) dL_helpers_23 (by decide) ?_
  obtain ⟨o_3, H⟩ := H
  obtain ⟨o_4, H⟩ := H
  exact rl_iret dL_helpers_24 rfl o_3 o_4 H
theorem bL_helpers_15 {Q : Nat → Option Value → Hp → Prop} {h : Hp} {mc ms nc ns : Nat} {as0 : Nat} (H : nc ≤ mc ∧ ns ≤ ms ∧ Q 0 (some (.int (nI 1))) h) : Wm mL_helpers 8 mc ms Q 15 [none, none, none, none, none, none] [.ref as0] h nc ns := by
  refine rl_astore (L' := [none, none, none, none, none, some (.ref as0)]) dL_helpers_15 (Nat.le_of_ble_eq_true rfl) rfl ?_
  refine rl_iconst (v := nI 1) dL_helpers_17 (by decide) ?_
  obtain ⟨o_1, H⟩ := H
  obtain ⟨o_2, H⟩ := H
  exact rl_iret dL_helpers_18 rfl o_1 o_2 H
theorem bL_helpers_19 {Q : Nat → Option Value → Hp → Prop} {h : Hp} {mc ms nc ns : Nat} {as0 : Nat} (H : nc ≤ mc ∧ ns ≤ ms ∧ Q 0 (some (.int (nI 2))) h) : Wm mL_helpers 8 mc ms Q 19 [none, none, none, none, none, none] [.ref as0] h nc ns := by
  refine rl_astore (L' := [none, none, none, none, none, some (.ref as0)]) dL_helpers_19 (Nat.le_of_ble_eq_true rfl) rfl ?_
  refine rl_iconst (v := nI 2) dL_helpers_21 (by decide) ?_
  obtain ⟨o_1, H⟩ := H
  obtain ⟨o_2, H⟩ := H
  exact rl_iret dL_helpers_22 rfl o_1 o_2 H
theorem bL_type_0 {Q : Nat → Option Value → Hp → Prop} {h : Hp} {mc ms nc ns : Nat} {a0 a2 mcn msn : Nat} {x1 : Int32} (H : nc + mcn ≤ mc ∧ ns + msn ≤ ms ∧ hpK h a0 = 18 ∧ CXi mX8_type 6 mcn msn [some (.ref a0), some (.int x1)] h (fun v h' => Wm mL_type 7 mc ms Q 7 [none, none, none, none] [.int v, .int (nI 0), .ref a2] h' (nc + mcn) (ns + msn)) (fun j h' => ∃ hpc : Nat, (j, hpc) ∈ ([(2, 12), (3, 15)] : List (Nat × Nat)) ∧ ∀ q : Nat, Wm mL_type 7 mc ms Q hpc [none, none, none, none] [.ref q] h' (nc + mcn) (ns + msn))) : Wm mL_type 7 mc ms Q 0 [some (.ref a0), some (.int x1), some (.ref a2), none] [] h nc ns := by
  refine rl_aload_n dL_type_0 rfl rfl ?_
  refine rl_iconst (v := nI 0) dL_type_1 (by decide) ?_
  refine rl_aload_n dL_type_2 rfl rfl ?_
  refine rl_iload_n dL_type_3 rfl rfl ?_
  obtain ⟨o_1, H⟩ := H
  obtain ⟨o_2, H⟩ := H
  obtain ⟨o_3, H⟩ := H
  exact rl_callVH (As := [.int x1]) (rest := [.int (nI 0), .ref a2]) (L9 := [none, none, none, none]) [(2, 12), (3, 15)] mfX8_type dL_type_4 lkL_84 (by decide) hnL_type o_3 (by decide) (Nat.le_of_ble_eq_true rfl) o_1 o_2 rfl (Nat.le_of_ble_eq_true rfl) rfl rfl trivial (fun Qc k kx => H Qc (fun v h' w => k (some (.int v)) h' (rl_wk (L' := [none, none, none, none]) trivial w)) kx)
theorem bL_type_7 {Q : Nat → Option Value → Hp → Prop} {h : Hp} {mc ms nc ns : Nat} {as0 : Nat} {xs1 xs2 : Int32} (H : hpK h as0 = 3 ∧ vp_in xs1 (hpN h as0) ∧ nc ≤ mc ∧ ns ≤ ms ∧ Q 0 (some (.int (nI 0))) (stJ h as0 (xs1).toNatClampNeg ((xs2).toInt64))) : Wm mL_type 7 mc ms Q 7 [none, none, none, none] [.int xs2, .int xs1, .ref as0] h nc ns := by
  refine rl_i2l dL_type_7 ?_
  obtain ⟨o_1, H⟩ := H
  obtain ⟨o_2, H⟩ := H
  refine rl_last dL_type_8 o_1 o_2 ?_
  refine rl_goto (tgt := 18) dL_type_9 (by decide) ?_
  refine rl_iconst (v := nI 0) dL_type_18 (by decide) ?_
  obtain ⟨o_3, H⟩ := H
  obtain ⟨o_4, H⟩ := H
  exact rl_iret dL_type_19 rfl o_3 o_4 H
theorem bL_type_12 {Q : Nat → Option Value → Hp → Prop} {h : Hp} {mc ms nc ns : Nat} {as0 : Nat} (H : nc ≤ mc ∧ ns ≤ ms ∧ Q 0 (some (.int (nI 1))) h) : Wm mL_type 7 mc ms Q 12 [none, none, none, none] [.ref as0] h nc ns := by
  refine rl_astore_n (L' := [none, none, none, some (.ref as0)]) dL_type_12 rfl (Nat.le_of_ble_eq_true rfl) rfl ?_
  refine rl_iconst (v := nI 1) dL_type_13 (by decide) ?_
  obtain ⟨o_1, H⟩ := H
  obtain ⟨o_2, H⟩ := H
  exact rl_iret dL_type_14 rfl o_1 o_2 H
theorem bL_type_15 {Q : Nat → Option Value → Hp → Prop} {h : Hp} {mc ms nc ns : Nat} {as0 : Nat} (H : nc ≤ mc ∧ ns ≤ ms ∧ Q 0 (some (.int (nI 2))) h) : Wm mL_type 7 mc ms Q 15 [none, none, none, none] [.ref as0] h nc ns := by
  refine rl_astore_n (L' := [none, none, none, some (.ref as0)]) dL_type_15 rfl (Nat.le_of_ble_eq_true rfl) rfl ?_
  refine rl_iconst (v := nI 2) dL_type_16 (by decide) ?_
  obtain ⟨o_1, H⟩ := H
  obtain ⟨o_2, H⟩ := H
  exact rl_iret dL_type_17 rfl o_1 o_2 H
theorem bL_undo_0 {Q : Nat → Option Value → Hp → Prop} {h : Hp} {mc ms nc ns : Nat} {a0 a1 mcn msn : Nat} (H : nc + mcn ≤ mc ∧ ns + msn ≤ ms ∧ hpK h a0 = 18 ∧ CXi mX8_undo 6 mcn msn [some (.ref a0)] h (fun v h' => Wm mL_undo 7 mc ms Q 6 [none, none, none] [.int v, .int (nI 0), .ref a1] h' (nc + mcn) (ns + msn)) (fun j h' => ∃ hpc : Nat, (j, hpc) ∈ ([(3, 11)] : List (Nat × Nat)) ∧ ∀ q : Nat, Wm mL_undo 7 mc ms Q hpc [none, none, none] [.ref q] h' (nc + mcn) (ns + msn))) : Wm mL_undo 7 mc ms Q 0 [some (.ref a0), some (.ref a1), none] [] h nc ns := by
  refine rl_aload_n dL_undo_0 rfl rfl ?_
  refine rl_iconst (v := nI 0) dL_undo_1 (by decide) ?_
  refine rl_aload_n dL_undo_2 rfl rfl ?_
  obtain ⟨o_1, H⟩ := H
  obtain ⟨o_2, H⟩ := H
  obtain ⟨o_3, H⟩ := H
  exact rl_callVH (As := []) (rest := [.int (nI 0), .ref a1]) (L9 := [none, none, none]) [(3, 11)] mfX8_undo dL_undo_3 lkL_87 (by decide) hnL_undo o_3 (by decide) (Nat.le_of_ble_eq_true rfl) o_1 o_2 rfl (Nat.le_of_ble_eq_true rfl) rfl rfl trivial (fun Qc k kx => H Qc (fun v h' w => k (some (.int v)) h' (rl_wk (L' := [none, none, none]) trivial w)) kx)
theorem bL_undo_6 {Q : Nat → Option Value → Hp → Prop} {h : Hp} {mc ms nc ns : Nat} {as0 : Nat} {xs1 xs2 : Int32} (H : hpK h as0 = 3 ∧ vp_in xs1 (hpN h as0) ∧ nc ≤ mc ∧ ns ≤ ms ∧ Q 0 (some (.int (nI 0))) (stJ h as0 (xs1).toNatClampNeg ((xs2).toInt64))) : Wm mL_undo 7 mc ms Q 6 [none, none, none] [.int xs2, .int xs1, .ref as0] h nc ns := by
  refine rl_i2l dL_undo_6 ?_
  obtain ⟨o_1, H⟩ := H
  obtain ⟨o_2, H⟩ := H
  refine rl_last dL_undo_7 o_1 o_2 ?_
  refine rl_goto (tgt := 14) dL_undo_8 (by decide) ?_
  refine rl_iconst (v := nI 0) dL_undo_14 (by decide) ?_
  obtain ⟨o_3, H⟩ := H
  obtain ⟨o_4, H⟩ := H
  exact rl_iret dL_undo_15 rfl o_3 o_4 H
theorem bL_undo_11 {Q : Nat → Option Value → Hp → Prop} {h : Hp} {mc ms nc ns : Nat} {as0 : Nat} (H : nc ≤ mc ∧ ns ≤ ms ∧ Q 0 (some (.int (nI 1))) h) : Wm mL_undo 7 mc ms Q 11 [none, none, none] [.ref as0] h nc ns := by
  refine rl_astore_n (L' := [none, none, some (.ref as0)]) dL_undo_11 rfl (Nat.le_of_ble_eq_true rfl) rfl ?_
  refine rl_iconst (v := nI 1) dL_undo_12 (by decide) ?_
  obtain ⟨o_1, H⟩ := H
  obtain ⟨o_2, H⟩ := H
  exact rl_iret dL_undo_13 rfl o_1 o_2 H
