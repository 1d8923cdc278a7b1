theorem bL_cell_0 {Q : Nat → Option Value → Hp → Prop} {h : Hp} {a0 : Nat} {x1 : Int32} (H : hpK h a0 = 2 ∧ (((nI (hpN h a0)) ≤ x1 → Q 0 (some (.int (nI 0))) h) ∧ (¬ (nI (hpN h a0)) ≤ x1 → vp_in x1 (hpN h a0) ∧ Q 0 (some (.int (hpI h a0 (x1).toNatClampNeg))) h))) : Wm mL_cell 0 0 0 Q 0 [some (.ref a0), some (.int x1)] [] h 0 0 := by
  refine rl_iload_n dL_cell_0 rfl rfl ?_
  refine rl_aload_n dL_cell_1 rfl rfl ?_
  obtain ⟨o_1, H⟩ := H
  refine rl_alen (n := nI (hpN h a0)) dL_cell_2 (Or.inr (Or.inl o_1)) rfl ?_
  refine rl_icmp_ge (tgt := 12) dL_cell_3 (by decide) (fun c_2 => ?_) (fun c_2 => ?_)
  · have H := H.1 c_2
    refine rl_iconst (v := nI 0) dL_cell_12 (by decide) ?_
    exact rl_iret dL_cell_13 rfl (Nat.le_refl 0) (Nat.le_refl 0) H
  · have H := H.2 c_2
    refine rl_aload_n dL_cell_6 rfl rfl ?_
    refine rl_iload_n dL_cell_7 rfl rfl ?_
    obtain ⟨o_3, H⟩ := H
    refine rl_iald dL_cell_8 (Or.inr o_1) o_3 ?_
    refine rl_goto (tgt := 13) dL_cell_9 (by decide) ?_
    exact rl_iret dL_cell_13 rfl (Nat.le_refl 0) (Nat.le_refl 0) H
theorem bL_law_0 {Q : Nat → Option Value → Hp → Prop} {h : Hp} {mc ms nc ns : Nat} {a0 tg_3 : Nat} (H : nc + 1 ≤ mc ∧ ns + 4 ≤ ms ∧ Wm mL_law 11 mc ms Q 3 [some (.ref a0), none, none, none, none, none, none] [.ref (hpZ h)] (stN h 18 0 tg_3) (nc + 1) (ns + 4)) : Wm mL_law 11 mc ms Q 0 [some (.ref a0), none, none, none, none, none, none] [] h nc ns := by
  obtain ⟨o_1, H⟩ := H
  obtain ⟨o_2, H⟩ := H
  refine rl_new tg_3 cfX8 cgX8 dL_law_0 clL_8 o_1 o_2 ?_
  exact H
theorem bL_law_3 {Q : Nat → Option Value → Hp → Prop} {h : Hp} {mc ms nc ns : Nat} {a0 as0 : Nat} (H : nc + 0 ≤ mc ∧ ns + 0 ≤ ms ∧ CKi mL_cell 0 0 0 [some (.ref a0), some (.int (nI 0))] h (fun v h' => Wm mL_law 11 mc ms Q 9 [some (.ref a0), none, none, none, none, none, none] [.int v, .ref as0, .ref as0] h' nc ns)) : Wm mL_law 11 mc ms Q 3 [some (.ref a0), none, none, none, none, none, none] [.ref as0] h nc ns := by
  refine rl_dup dL_law_3 rfl ?_
  refine rl_aload_n dL_law_4 rfl rfl ?_
  refine rl_iconst (v := nI 0) dL_law_5 (by decide) ?_
  obtain ⟨o_1, H⟩ := H
  obtain ⟨o_2, H⟩ := H
  exact rl_callS (As := [.ref a0, .int (nI 0)]) (rest := [.ref as0, .ref as0]) mfL_cell dL_law_6 lkL_91 (by decide) (Nat.le_of_ble_eq_true rfl) o_1 o_2 rfl (Nat.le_of_ble_eq_true rfl) rfl rfl (fun Qc k => H Qc (fun v h' w => k (some (.int v)) h' w))
theorem bL_law_9 {Q : Nat → Option Value → Hp → Prop} {h : Hp} {mc ms nc ns : Nat} {a0 as0 as1 mcn msn : Nat} {xs2 : Int32} (H : nc + mcn ≤ mc ∧ ns + msn ≤ ms ∧ CKv mX8_init 6 mcn msn [some (.ref as1), some (.int xs2)] h (fun h' => Wm mL_law 11 mc ms Q 12 [some (.ref a0), none, none, none, none, none, none] [.ref as0] h' (nc + mcn) (ns + msn))) : Wm mL_law 11 mc ms Q 9 [some (.ref a0), none, none, none, none, none, none] [.int xs2, .ref as1, .ref as0] h nc ns := by
  obtain ⟨o_1, H⟩ := H
  obtain ⟨o_2, H⟩ := H
  exact rl_callI (As := [.int xs2]) (rest := [.ref as0]) mfX8_init dL_law_9 lkL_97 (by decide) (Nat.le_of_ble_eq_true rfl) o_1 o_2 rfl (Nat.le_of_ble_eq_true rfl) rfl rfl (fun Qc k => H Qc (fun h' w => k none h' w))
theorem bL_law_12 {Q : Nat → Option Value → Hp → Prop} {h : Hp} {mc ms nc ns : Nat} {a0 as0 tg_3 : Nat} (H : nc + 1 ≤ mc ∧ ns + 15 ≤ ms ∧ Wm mL_law 11 mc ms Q 16 [some (.ref a0), some (.ref as0), none, none, none, none, none] [.ref (hpZ h)] (stN h 19 0 tg_3) (nc + 1) (ns + 15)) : Wm mL_law 11 mc ms Q 12 [some (.ref a0), none, none, none, none, none, none] [.ref as0] h nc ns := by
  refine rl_astore_n (L' := [some (.ref a0), some (.ref as0), none, none, none, none, none]) dL_law_12 rfl (Nat.le_of_ble_eq_true rfl) rfl ?_
  obtain ⟨o_1, H⟩ := H
  obtain ⟨o_2, H⟩ := H
  refine rl_new tg_3 cfX9 cgX9 dL_law_13 clL_100 o_1 o_2 ?_
  exact H
theorem bL_law_16 {Q : Nat → Option Value → Hp → Prop} {h : Hp} {mc ms nc ns : Nat} {a0 a1 as0 : Nat} (H : nc + 0 ≤ mc ∧ ns + 0 ≤ ms ∧ CKi mL_cell 0 0 0 [some (.ref a0), some (.int (nI 0))] h (fun v h' => Wm mL_law 11 mc ms Q 22 [some (.ref a0), some (.ref a1), none, none, none, none, none] [.int v, .ref as0, .ref as0] h' nc ns)) : Wm mL_law 11 mc ms Q 16 [some (.ref a0), some (.ref a1), none, none, none, none, none] [.ref as0] h nc ns := by
  refine rl_dup dL_law_16 rfl ?_
  refine rl_aload_n dL_law_17 rfl rfl ?_
  refine rl_iconst (v := nI 0) dL_law_18 (by decide) ?_
  obtain ⟨o_1, H⟩ := H
  obtain ⟨o_2, H⟩ := H
  exact rl_callS (As := [.ref a0, .int (nI 0)]) (rest := [.ref as0, .ref as0]) mfL_cell dL_law_19 lkL_91 (by decide) (Nat.le_of_ble_eq_true rfl) o_1 o_2 rfl (Nat.le_of_ble_eq_true rfl) rfl rfl (fun Qc k => H Qc (fun v h' w => k (some (.int v)) h' w))
theorem bL_law_22 {Q : Nat → Option Value → Hp → Prop} {h : Hp} {mc ms nc ns : Nat} {a0 a1 as0 as1 mcn msn : Nat} {xs2 : Int32} (H : nc + mcn ≤ mc ∧ ns + msn ≤ ms ∧ CKv mX9_init 1 mcn msn [some (.ref as1), some (.int xs2)] h (fun h' => Wm mL_law 11 mc ms Q 25 [some (.ref a0), some (.ref a1), none, none, none, none, none] [.ref as0] h' (nc + mcn) (ns + msn))) : Wm mL_law 11 mc ms Q 22 [some (.ref a0), some (.ref a1), none, none, none, none, none] [.int xs2, .ref as1, .ref as0] h nc ns := by
  obtain ⟨o_1, H⟩ := H
  obtain ⟨o_2, H⟩ := H
  exact rl_callI (As := [.int xs2]) (rest := [.ref as0]) mfX9_init dL_law_22 lkL_102 (by decide) (Nat.le_of_ble_eq_true rfl) o_1 o_2 rfl (Nat.le_of_ble_eq_true rfl) rfl rfl (fun Qc k => H Qc (fun h' w => k none h' w))
theorem bL_law_25 {Q : Nat → Option Value → Hp → Prop} {h : Hp} {mc ms nc ns : Nat} {a0 a1 as0 tg_5 : Nat} (H : ¬ (nI 1) < 0 ∧ (nI 1).toNatClampNeg ≤ 100000 ∧ nc + 1 ≤ mc ∧ ns + (nI 1).toNatClampNeg ≤ ms ∧ Wm mL_law 11 mc ms Q 29 [some (.ref a0), some (.ref a1), some (.ref as0), none, none, none, none] [.ref (hpZ h)] (stN h 3 (nI 1).toNatClampNeg tg_5) (nc + 1) (ns + (nI 1).toNatClampNeg)) : Wm mL_law 11 mc ms Q 25 [some (.ref a0), some (.ref a1), none, none, none, none, none] [.ref as0] h nc ns := by
  refine rl_astore_n (L' := [some (.ref a0), some (.ref a1), some (.ref as0), none, none, none, none]) dL_law_25 rfl (Nat.le_of_ble_eq_true rfl) rfl ?_
  refine rl_iconst (v := nI 1) dL_law_26 (by decide) ?_
  obtain ⟨o_1, H⟩ := H
  obtain ⟨o_2, H⟩ := H
  obtain ⟨o_3, H⟩ := H
  obtain ⟨o_4, H⟩ := H
  refine rl_newJ tg_5 dL_law_27 acJ o_1 rfl o_2 o_3 o_4 ?_
  exact H
theorem bL_law_29 {Q : Nat → Option Value → Hp → Prop} {h : Hp} {mc ms nc ns : Nat} {a0 a1 a2 as0 : Nat} (H : Wm mL_law 11 mc ms Q 33 [some (.ref a0), some (.ref a1), some (.ref a2), some (.ref as0), some (.int (nI 1)), none, none] [] h nc ns) : Wm mL_law 11 mc ms Q 29 [some (.ref a0), some (.ref a1), some (.ref a2), none, none, none, none] [.ref as0] h nc ns := by
  refine rl_astore_n (L' := [some (.ref a0), some (.ref a1), some (.ref a2), some (.ref as0), none, none, none]) dL_law_29 rfl (Nat.le_of_ble_eq_true rfl) rfl ?_
  refine rl_iconst (v := nI 1) dL_law_30 (by decide) ?_
  refine rl_istore (L' := [some (.ref a0), some (.ref a1), some (.ref a2), some (.ref as0), some (.int (nI 1)), none, none]) dL_law_31 (Nat.le_of_ble_eq_true rfl) rfl ?_
  exact H
theorem bL_law_33 {Q : Nat → Option Value → Hp → Prop} {h : Hp} {mc ms nc ns : Nat} {a0 a1 a2 a3 mcn msn : Nat} {x4 : Int32} (H : hpK h a0 = 2 ∧ ((((nI (hpN h a0)) - (nI 6)) < x4 → nc ≤ mc ∧ ns ≤ ms ∧ Q 0 (some (.int (nI 1))) h) ∧ (¬ ((nI (hpN h a0)) - (nI 6)) < x4 → vp_in x4 (hpN h a0) ∧ ((((hpI h a0 (x4).toNatClampNeg) &&& (nI 31)) = nI 0 → nc + 0 ≤ mc ∧ ns + 0 ≤ ms ∧ hpK h a1 = 18 ∧ CKi mX8_sites 0 0 0 [some (.ref a1)] h (fun v h' => Wm mL_law 11 mc ms Q 192 [some (.ref a0), some (.ref a1), some (.ref a2), some (.ref a3), some (.int x4), none, none] [.int v] h' nc ns)) ∧ (((hpI h a0 (x4).toNatClampNeg) &&& (nI 31)) = nI 1 → vp_in (x4 + (nI 1)) (hpN h a0) ∧ vp_in (x4 + (nI 2)) (hpN h a0) ∧ vp_in (x4 + (nI 3)) (hpN h a0) ∧ nc + mcn ≤ mc ∧ ns + msn ≤ ms ∧ CKi mL_begin 7 mcn msn [some (.ref a1), some (.int (hpI h a0 (x4 + (nI 1)).toNatClampNeg)), some (.int (hpI h a0 (x4 + (nI 2)).toNatClampNeg)), some (.int (hpI h a0 (x4 + (nI 3)).toNatClampNeg)), some (.ref a3), none] h (fun v h' => Wm mL_law 11 mc ms Q 224 [some (.ref a0), some (.ref a1), some (.ref a2), some (.ref a3), some (.int x4), none, none] [.int v] h' (nc + mcn) (ns + msn))) ∧ (((hpI h a0 (x4).toNatClampNeg) &&& (nI 31)) = nI 2 → vp_in (x4 + (nI 1)) (hpN h a0) ∧ vp_in (x4 + (nI 2)) (hpN h a0) ∧ nc + mcn ≤ mc ∧ ns + msn ≤ ms ∧ CKi mL_increase 8 mcn msn [some (.ref a1), some (.int (hpI h a0 (x4 + (nI 1)).toNatClampNeg)), some (.int (hpI h a0 (x4 + (nI 2)).toNatClampNeg)), some (.ref a3), none] h (fun v h' => Wm mL_law 11 mc ms Q 298 [some (.ref a0), some (.ref a1), some (.ref a2), some (.ref a3), some (.int x4), none, none] [.int v] h' (nc + mcn) (ns + msn))) ∧ (((hpI h a0 (x4).toNatClampNeg) &&& (nI 31)) = nI 3 → vp_in (x4 + (nI 1)) (hpN h a0) ∧ vp_in (x4 + (nI 2)) (hpN h a0) ∧ nc + mcn ≤ mc ∧ ns + msn ≤ ms ∧ CKi mL_decrease 8 mcn msn [some (.ref a1), some (.int (hpI h a0 (x4 + (nI 1)).toNatClampNeg)), some (.int (hpI h a0 (x4 + (nI 2)).toNatClampNeg)), some (.ref a3), none] h (fun v h' => Wm mL_law 11 mc ms Q 373 [some (.ref a0), some (.ref a1), some (.ref a2), some (.ref a3), some (.int x4), none, none] [.int v] h' (nc + mcn) (ns + msn))) ∧ (((hpI h a0 (x4).toNatClampNeg) &&& (nI 31)) = nI 4 → vp_in (x4 + (nI 1)) (hpN h a0) ∧ vp_in (x4 + (nI 2)) (hpN h a0) ∧ vp_in (x4 + (nI 3)) (hpN h a0) ∧ vp_in (x4 + (nI 4)) (hpN h a0) ∧ nc + mcn ≤ mc ∧ ns + msn ≤ ms ∧ CKi mL_transfer 8 mcn msn [some (.ref a1), some (.int (hpI h a0 (x4 + (nI 1)).toNatClampNeg)), some (.int (hpI h a0 (x4 + (nI 2)).toNatClampNeg)), some (.int (hpI h a0 (x4 + (nI 3)).toNatClampNeg)), some (.int (hpI h a0 (x4 + (nI 4)).toNatClampNeg)), some (.ref a3), none] h (fun v h' => Wm mL_law 11 mc ms Q 460 [some (.ref a0), some (.ref a1), some (.ref a2), some (.ref a3), some (.int x4), none, none] [.int v] h' (nc + mcn) (ns + msn))) ∧ (((hpI h a0 (x4).toNatClampNeg) &&& (nI 31)) = nI 5 → vp_in (x4 + (nI 1)) (hpN h a0) ∧ vp_in (x4 + (nI 2)) (hpN h a0) ∧ vp_in (x4 + (nI 3)) (hpN h a0) ∧ vp_in (x4 + (nI 4)) (hpN h a0) ∧ vp_in (x4 + (nI 5)) (hpN h a0) ∧ nc + mcn ≤ mc ∧ ns + msn ≤ ms ∧ CKi mL_lend 8 mcn msn [some (.ref a1), some (.int (hpI h a0 (x4 + (nI 1)).toNatClampNeg)), some (.int (hpI h a0 (x4 + (nI 2)).toNatClampNeg)), some (.int (hpI h a0 (x4 + (nI 3)).toNatClampNeg)), some (.int (hpI h a0 (x4 + (nI 4)).toNatClampNeg)), some (.int (hpI h a0 (x4 + (nI 5)).toNatClampNeg)), some (.ref a3), none] h (fun v h' => Wm mL_law 11 mc ms Q 558 [some (.ref a0), some (.ref a1), some (.ref a2), some (.ref a3), some (.int x4), none, none] [.int v] h' (nc + mcn) (ns + msn))) ∧ (((hpI h a0 (x4).toNatClampNeg) &&& (nI 31)) = nI 6 → vp_in (x4 + (nI 1)) (hpN h a0) ∧ vp_in (x4 + (nI 2)) (hpN h a0) ∧ nc + mcn ≤ mc ∧ ns + msn ≤ ms ∧ CKi mL_rebalance 8 mcn msn [some (.ref a1), some (.int (hpI h a0 (x4 + (nI 1)).toNatClampNeg)), some (.int (hpI h a0 (x4 + (nI 2)).toNatClampNeg)), some (.ref a3), none] h (fun v h' => Wm mL_law 11 mc ms Q 644 [some (.ref a0), some (.ref a1), some (.ref a2), some (.ref a3), some (.int x4), none, none] [.int v] h' (nc + mcn) (ns + msn))) ∧ (((hpI h a0 (x4).toNatClampNeg) &&& (nI 31)) = nI 7 → vp_in (x4 + (nI 1)) (hpN h a0) ∧ nc + mcn ≤ mc ∧ ns + msn ≤ ms ∧ CKi mL_pass 8 mcn msn [some (.ref a1), some (.int (hpI h a0 (x4 + (nI 1)).toNatClampNeg)), some (.ref a3), none] h (fun v h' => Wm mL_law 11 mc ms Q 706 [some (.ref a0), some (.ref a1), some (.ref a2), some (.ref a3), some (.int x4), none, none] [.int v] h' (nc + mcn) (ns + msn))) ∧ (((hpI h a0 (x4).toNatClampNeg) &&& (nI 31)) = nI 8 → vp_in (x4 + (nI 1)) (hpN h a0) ∧ vp_in (x4 + (nI 2)) (hpN h a0) ∧ nc + mcn ≤ mc ∧ ns + msn ≤ ms ∧ CKi mL_send 8 mcn msn [some (.ref a1), some (.int (hpI h a0 (x4 + (nI 1)).toNatClampNeg)), some (.int (hpI h a0 (x4 + (nI 2)).toNatClampNeg)), some (.ref a3), none] h (fun v h' => Wm mL_law 11 mc ms Q 768 [some (.ref a0), some (.ref a1), some (.ref a2), some (.ref a3), some (.int x4), none, none] [.int v] h' (nc + mcn) (ns + msn))) ∧ (((hpI h a0 (x4).toNatClampNeg) &&& (nI 31)) = nI 9 → vp_in (x4 + (nI 1)) (hpN h a0) ∧ nc + mcn ≤ mc ∧ ns + msn ≤ ms ∧ CKi mL_deliver 8 mcn msn [some (.ref a1), some (.int (hpI h a0 (x4 + (nI 1)).toNatClampNeg)), some (.ref a3), none] h (fun v h' => Wm mL_law 11 mc ms Q 830 [some (.ref a0), some (.ref a1), some (.ref a2), some (.ref a3), some (.int x4), none, none] [.int v] h' (nc + mcn) (ns + msn))) ∧ (((hpI h a0 (x4).toNatClampNeg) &&& (nI 31)) = nI 10 → vp_in (x4 + (nI 1)) (hpN h a0) ∧ nc + mcn ≤ mc ∧ ns + msn ≤ ms ∧ CKi mL_lose 8 mcn msn [some (.ref a1), some (.int (hpI h a0 (x4 + (nI 1)).toNatClampNeg)), some (.ref a3), none] h (fun v h' => Wm mL_law 11 mc ms Q 886 [some (.ref a0), some (.ref a1), some (.ref a2), some (.ref a3), some (.int x4), none, none] [.int v] h' (nc + mcn) (ns + msn))) ∧ (((hpI h a0 (x4).toNatClampNeg) &&& (nI 31)) = nI 11 → vp_in (x4 + (nI 1)) (hpN h a0) ∧ nc + mcn ≤ mc ∧ ns + msn ≤ ms ∧ CKi mL_repeat 8 mcn msn [some (.ref a1), some (.int (hpI h a0 (x4 + (nI 1)).toNatClampNeg)), some (.ref a3), none] h (fun v h' => Wm mL_law 11 mc ms Q 942 [some (.ref a0), some (.ref a1), some (.ref a2), some (.ref a3), some (.int x4), none, none] [.int v] h' (nc + mcn) (ns + msn))) ∧ (((hpI h a0 (x4).toNatClampNeg) &&& (nI 31)) = nI 12 → nc + 0 ≤ mc ∧ ns + 0 ≤ ms ∧ hpK h a1 = 18 ∧ CKi mX8_messages 0 0 0 [some (.ref a1)] h (fun v h' => Wm mL_law 11 mc ms Q 991 [some (.ref a0), some (.ref a1), some (.ref a2), some (.ref a3), some (.int x4), none, none] [.int v] h' nc ns)) ∧ (((hpI h a0 (x4).toNatClampNeg) &&& (nI 31)) = nI 13 → vp_in (x4 + (nI 1)) (hpN h a0) ∧ vp_in (x4 + (nI 2)) (hpN h a0) ∧ nc + mcn ≤ mc ∧ ns + msn ≤ ms ∧ CKi mL_message 8 mcn msn [some (.ref a1), some (.int (hpI h a0 (x4 + (nI 1)).toNatClampNeg)), some (.int (hpI h a0 (x4 + (nI 2)).toNatClampNeg)), some (.ref a3), none] h (fun v h' => Wm mL_law 11 mc ms Q 1017 [some (.ref a0), some (.ref a1), some (.ref a2), some (.ref a3), some (.int x4), none, none] [.int v] h' (nc + mcn) (ns + msn))) ∧ (((hpI h a0 (x4).toNatClampNeg) &&& (nI 31)) = nI 14 → nc + 0 ≤ mc ∧ ns + 0 ≤ ms ∧ hpK h a1 = 18 ∧ CKi mX8_time 0 0 0 [some (.ref a1)] h (fun v h' => Wm mL_law 11 mc ms Q 1072 [some (.ref a0), some (.ref a1), some (.ref a2), some (.ref a3), some (.int x4), none, none] [.int v] h' nc ns)) ∧ (((hpI h a0 (x4).toNatClampNeg) &&& (nI 31)) = nI 15 → nc + 0 ≤ mc ∧ ns + 0 ≤ ms ∧ hpK h a1 = 18 ∧ CKi mX8_value 2 0 0 [some (.ref a1)] h (fun v h' => Wm mL_law 11 mc ms Q 1085 [some (.ref a0), some (.ref a1), some (.ref a2), some (.ref a3), some (.int x4), none, none] [.int v] h' nc ns)) ∧ (((hpI h a0 (x4).toNatClampNeg) &&& (nI 31)) = nI 16 → vp_in (x4 + (nI 1)) (hpN h a0) ∧ nc + mcn ≤ mc ∧ ns + msn ≤ ms ∧ CKi mL_known 8 mcn msn [some (.ref a1), some (.int (hpI h a0 (x4 + (nI 1)).toNatClampNeg)), some (.ref a3), none] h (fun v h' => Wm mL_law 11 mc ms Q 1105 [some (.ref a0), some (.ref a1), some (.ref a2), some (.ref a3), some (.int x4), none, none] [.int v] h' (nc + mcn) (ns + msn))) ∧ (((hpI h a0 (x4).toNatClampNeg) &&& (nI 31)) = nI 17 → vp_in (x4 + (nI 1)) (hpN h a0) ∧ vp_in (x4 + (nI 2)) (hpN h a0) ∧ nc + mcn ≤ mc ∧ ns + msn ≤ ms ∧ CKi mL_own 8 mcn msn [some (.ref a1), some (.int (hpI h a0 (x4 + (nI 1)).toNatClampNeg)), some (.int (hpI h a0 (x4 + (nI 2)).toNatClampNeg)), some (.ref a3), none] h (fun v h' => Wm mL_law 11 mc ms Q 1167 [some (.ref a0), some (.ref a1), some (.ref a2), some (.ref a3), some (.int x4), none, none] [.int v] h' (nc + mcn) (ns + msn))) ∧ (((hpI h a0 (x4).toNatClampNeg) &&& (nI 31)) = nI 18 → vp_in (x4 + (nI 1)) (hpN h a0) ∧ vp_in (x4 + (nI 2)) (hpN h a0) ∧ nc + mcn ≤ mc ∧ ns + msn ≤ ms ∧ CKi mL_available 8 mcn msn [some (.ref a1), some (.int (hpI h a0 (x4 + (nI 1)).toNatClampNeg)), some (.int (hpI h a0 (x4 + (nI 2)).toNatClampNeg)), some (.ref a3), none] h (fun v h' => Wm mL_law 11 mc ms Q 1235 [some (.ref a0), some (.ref a1), some (.ref a2), some (.ref a3), some (.int x4), none, none] [.int v] h' (nc + mcn) (ns + msn))) ∧ (((hpI h a0 (x4).toNatClampNeg) &&& (nI 31)) = nI 19 → vp_in (x4 + (nI 1)) (hpN h a0) ∧ nc + mcn ≤ mc ∧ ns + msn ≤ ms ∧ CKi mL_dormant 7 mcn msn [some (.ref a1), some (.int (hpI h a0 (x4 + (nI 1)).toNatClampNeg)), some (.ref a3), none] h (fun v h' => Wm mL_law 11 mc ms Q 1297 [some (.ref a0), some (.ref a1), some (.ref a2), some (.ref a3), some (.int x4), none, none] [.int v] h' (nc + mcn) (ns + msn))) ∧ (((hpI h a0 (x4).toNatClampNeg) &&& (nI 31)) = nI 20 → vp_in (x4 + (nI 1)) (hpN h a0) ∧ vp_in (x4 + (nI 2)) (hpN h a0) ∧ vp_in (x4 + (nI 3)) (hpN h a0) ∧ nc + mcn ≤ mc ∧ ns + msn ≤ ms ∧ CKi mL_demand 8 mcn msn [some (.ref a1), some (.int (hpI h a0 (x4 + (nI 1)).toNatClampNeg)), some (.int (hpI h a0 (x4 + (nI 2)).toNatClampNeg)), some (.int (hpI h a0 (x4 + (nI 3)).toNatClampNeg)), some (.ref a3), none] h (fun v h' => Wm mL_law 11 mc ms Q 1365 [some (.ref a0), some (.ref a1), some (.ref a2), some (.ref a3), some (.int x4), none, none] [.int v] h' (nc + mcn) (ns + msn))) ∧ (((hpI h a0 (x4).toNatClampNeg) &&& (nI 31)) = nI 21 → vp_in (x4 + (nI 1)) (hpN h a0) ∧ vp_in (x4 + (nI 2)) (hpN h a0) ∧ nc + mcn ≤ mc ∧ ns + msn ≤ ms ∧ CKi mL_version 8 mcn msn [some (.ref a1), some (.int (hpI h a0 (x4 + (nI 1)).toNatClampNeg)), some (.int (hpI h a0 (x4 + (nI 2)).toNatClampNeg)), some (.ref a3), none] h (fun v h' => Wm mL_law 11 mc ms Q 1439 [some (.ref a0), some (.ref a1), some (.ref a2), some (.ref a3), some (.int x4), none, none] [.int v] h' (nc + mcn) (ns + msn))) ∧ (((hpI h a0 (x4).toNatClampNeg) &&& (nI 31)) = nI 22 → vp_in (x4 + (nI 1)) (hpN h a0) ∧ vp_in (x4 + (nI 2)) (hpN h a0) ∧ nc + mcn ≤ mc ∧ ns + msn ≤ ms ∧ CKi mL_copyTime 8 mcn msn [some (.ref a1), some (.int (hpI h a0 (x4 + (nI 1)).toNatClampNeg)), some (.int (hpI h a0 (x4 + (nI 2)).toNatClampNeg)), some (.ref a3), none] h (fun v h' => Wm mL_law 11 mc ms Q 1507 [some (.ref a0), some (.ref a1), some (.ref a2), some (.ref a3), some (.int x4), none, none] [.int v] h' (nc + mcn) (ns + msn))) ∧ (((hpI h a0 (x4).toNatClampNeg) &&& (nI 31)) = nI 23 → nc + 0 ≤ mc ∧ ns + 0 ≤ ms ∧ hpK h a1 = 18 ∧ CKi mX8_loans 0 0 0 [some (.ref a1)] h (fun v h' => Wm mL_law 11 mc ms Q 1562 [some (.ref a0), some (.ref a1), some (.ref a2), some (.ref a3), some (.int x4), none, none] [.int v] h' nc ns)) ∧ (((hpI h a0 (x4).toNatClampNeg) &&& (nI 31)) = nI 24 → vp_in (x4 + (nI 1)) (hpN h a0) ∧ vp_in (x4 + (nI 2)) (hpN h a0) ∧ nc + mcn ≤ mc ∧ ns + msn ≤ ms ∧ CKi mL_loan 7 mcn msn [some (.ref a1), some (.int (hpI h a0 (x4 + (nI 1)).toNatClampNeg)), some (.int (hpI h a0 (x4 + (nI 2)).toNatClampNeg)), some (.ref a3), none] h (fun v h' => Wm mL_law 11 mc ms Q 1588 [some (.ref a0), some (.ref a1), some (.ref a2), some (.ref a3), some (.int x4), none, none] [.int v] h' (nc + mcn) (ns + msn))) ∧ (((hpI h a0 (x4).toNatClampNeg) &&& (nI 31)) = nI 25 → vp_in (x4 + (nI 1)) (hpN h a0) ∧ vp_in (x4 + (nI 2)) (hpN h a0) ∧ vp_in (x4 + (nI 3)) (hpN h a0) ∧ nc + mcn ≤ mc ∧ ns + msn ≤ ms ∧ CKi mL_helpers 8 mcn msn [some (.ref a1), some (.int (hpI h a0 (x4 + (nI 1)).toNatClampNeg)), some (.int (hpI h a0 (x4 + (nI 2)).toNatClampNeg)), some (.int (hpI h a0 (x4 + (nI 3)).toNatClampNeg)), some (.ref a3), none] h (fun v h' => Wm mL_law 11 mc ms Q 1662 [some (.ref a0), some (.ref a1), some (.ref a2), some (.ref a3), some (.int x4), none, none] [.int v] h' (nc + mcn) (ns + msn))) ∧ (((hpI h a0 (x4).toNatClampNeg) &&& (nI 31)) = nI 26 → vp_in (x4 + (nI 1)) (hpN h a0) ∧ nc + mcn ≤ mc ∧ ns + msn ≤ ms ∧ CKi mL_type 7 mcn msn [some (.ref a1), some (.int (hpI h a0 (x4 + (nI 1)).toNatClampNeg)), some (.ref a3), none] h (fun v h' => Wm mL_law 11 mc ms Q 1730 [some (.ref a0), some (.ref a1), some (.ref a2), some (.ref a3), some (.int x4), none, none] [.int v] h' (nc + mcn) (ns + msn))) ∧ (((hpI h a0 (x4).toNatClampNeg) &&& (nI 31)) = nI 27 → nc + 0 ≤ mc ∧ ns + 0 ≤ ms ∧ hpK h a1 = 18 ∧ CKi mX8_clearText 0 0 0 [some (.ref a1), none] h (fun v h' => Wm mL_law 11 mc ms Q 1779 [some (.ref a0), some (.ref a1), some (.ref a2), some (.ref a3), some (.int x4), none, none] [.int v] h' nc ns)) ∧ (((hpI h a0 (x4).toNatClampNeg) &&& (nI 31)) = nI 28 → nc + 0 ≤ mc ∧ ns + 0 ≤ ms ∧ hpK h a1 = 18 ∧ CKi mX8_runScript 6 0 0 [some (.ref a1), none, none] h (fun v h' => Wm mL_law 11 mc ms Q 1792 [some (.ref a0), some (.ref a1), some (.ref a2), some (.ref a3), some (.int x4), none, none] [.int v] h' nc ns)) ∧ (((hpI h a0 (x4).toNatClampNeg) &&& (nI 31)) = nI 29 → nc + mcn ≤ mc ∧ ns + msn ≤ ms ∧ CKi mL_undo 7 mcn msn [some (.ref a1), some (.ref a3), none] h (fun v h' => Wm mL_law 11 mc ms Q 1806 [some (.ref a0), some (.ref a1), some (.ref a2), some (.ref a3), some (.int x4), none, none] [.int v] h' (nc + mcn) (ns + msn))) ∧ (((hpI h a0 (x4).toNatClampNeg) &&& (nI 31)) = nI 30 → nc + 0 ≤ mc ∧ ns + 0 ≤ ms ∧ hpK h a1 = 18 ∧ CKl mX8_fingerprint 5 0 0 [some (.ref a1), none, none, none, none] h (fun v h' => Wm mL_law 11 mc ms Q 1849 [some (.ref a0), some (.ref a1), some (.ref a2), some (.ref a3), some (.int x4), none, none] [.long v] h' nc ns)) ∧ (¬ ((hpI h a0 (x4).toNatClampNeg) &&& (nI 31)) = nI 0 → ¬ ((hpI h a0 (x4).toNatClampNeg) &&& (nI 31)) = nI 1 → ¬ ((hpI h a0 (x4).toNatClampNeg) &&& (nI 31)) = nI 2 → ¬ ((hpI h a0 (x4).toNatClampNeg) &&& (nI 31)) = nI 3 → ¬ ((hpI h a0 (x4).toNatClampNeg) &&& (nI 31)) = nI 4 → ¬ ((hpI h a0 (x4).toNatClampNeg) &&& (nI 31)) = nI 5 → ¬ ((hpI h a0 (x4).toNatClampNeg) &&& (nI 31)) = nI 6 → ¬ ((hpI h a0 (x4).toNatClampNeg) &&& (nI 31)) = nI 7 → ¬ ((hpI h a0 (x4).toNatClampNeg) &&& (nI 31)) = nI 8 → ¬ ((hpI h a0 (x4).toNatClampNeg) &&& (nI 31)) = nI 9 → ¬ ((hpI h a0 (x4).toNatClampNeg) &&& (nI 31)) = nI 10 → ¬ ((hpI h a0 (x4).toNatClampNeg) &&& (nI 31)) = nI 11 → ¬ ((hpI h a0 (x4).toNatClampNeg) &&& (nI 31)) = nI 12 → ¬ ((hpI h a0 (x4).toNatClampNeg) &&& (nI 31)) = nI 13 → ¬ ((hpI h a0 (x4).toNatClampNeg) &&& (nI 31)) = nI 14 → ¬ ((hpI h a0 (x4).toNatClampNeg) &&& (nI 31)) = nI 15 → ¬ ((hpI h a0 (x4).toNatClampNeg) &&& (nI 31)) = nI 16 → ¬ ((hpI h a0 (x4).toNatClampNeg) &&& (nI 31)) = nI 17 → ¬ ((hpI h a0 (x4).toNatClampNeg) &&& (nI 31)) = nI 18 → ¬ ((hpI h a0 (x4).toNatClampNeg) &&& (nI 31)) = nI 19 → ¬ ((hpI h a0 (x4).toNatClampNeg) &&& (nI 31)) = nI 20 → ¬ ((hpI h a0 (x4).toNatClampNeg) &&& (nI 31)) = nI 21 → ¬ ((hpI h a0 (x4).toNatClampNeg) &&& (nI 31)) = nI 22 → ¬ ((hpI h a0 (x4).toNatClampNeg) &&& (nI 31)) = nI 23 → ¬ ((hpI h a0 (x4).toNatClampNeg) &&& (nI 31)) = nI 24 → ¬ ((hpI h a0 (x4).toNatClampNeg) &&& (nI 31)) = nI 25 → ¬ ((hpI h a0 (x4).toNatClampNeg) &&& (nI 31)) = nI 26 → ¬ ((hpI h a0 (x4).toNatClampNeg) &&& (nI 31)) = nI 27 → ¬ ((hpI h a0 (x4).toNatClampNeg) &&& (nI 31)) = nI 28 → ¬ ((hpI h a0 (x4).toNatClampNeg) &&& (nI 31)) = nI 29 → ¬ ((hpI h a0 (x4).toNatClampNeg) &&& (nI 31)) = nI 30 → Wm mL_law 11 mc ms Q 1859 [some (.ref a0), some (.ref a1), some (.ref a2), some (.ref a3), some (.int x4), none, none] [] h nc ns))))) : Wm mL_law 11 mc ms Q 33 [some (.ref a0), some (.ref a1), some (.ref a2), some (.ref a3), some (.int x4), none, none] [] h nc ns := by
  refine rl_iload dL_law_33 rfl ?_
  refine rl_aload_n dL_law_35 rfl rfl ?_
  obtain ⟨o_1, H⟩ := H
  refine rl_alen (n := nI (hpN h a0)) dL_law_36 (Or.inr (Or.inl o_1)) rfl ?_
  refine rl_bipush (v := nI 6) dL_law_37 (by decide) ?_
  refine rl_isub dL_law_39 ?_
  refine rl_icmp_gt (tgt := 1865) dL_law_40 (by decide) (fun c_2 => ?_) (fun c_2 => ?_)
  · have H := H.1 c_2
    refine rl_iconst (v := nI 1) dL_law_1865 (by decide) ?_
    obtain ⟨o_3, H⟩ := H
    obtain ⟨o_4, H⟩ := H
    exact rl_zret dL_law_1866 rfl rfl o_3 o_4 H
  · have H := H.2 c_2
    refine rl_aload_n dL_law_43 rfl rfl ?_
    refine rl_iload dL_law_44 rfl ?_
    obtain ⟨o_5, H⟩ := H
    refine rl_iald dL_law_46 (Or.inr o_1) o_5 ?_
    refine rl_bipush (v := nI 31) dL_law_47 (by decide) ?_
    refine rl_iand dL_law_49 ?_
    by_cases c_6 : ((hpI h a0 (x4).toNatClampNeg) &&& (nI 31)) = nI 0
    · have H := (H.1) c_6
      refine rl_tableIn (tgt := 188) dL_law_50 (by rw [c_6]; decide) (by rw [c_6]; decide) (by rw [c_6]; rfl) (by decide) ?_
      refine rl_aload_n dL_law_188 rfl rfl ?_
      obtain ⟨o_7, H⟩ := H
      obtain ⟨o_8, H⟩ := H
      obtain ⟨o_9, H⟩ := H
      exact rl_callV (As := []) (rest := []) mfX8_sites dL_law_189 lkL_103 o_9 (by decide) (Nat.le_of_ble_eq_true rfl) o_7 o_8 rfl (Nat.le_of_ble_eq_true rfl) rfl rfl (fun Qc k => H Qc (fun v h' w => k (some (.int v)) h' w))
    by_cases c_10 : ((hpI h a0 (x4).toNatClampNeg) &&& (nI 31)) = nI 1
    · have H := (H.2.1) c_10
      refine rl_tableIn (tgt := 201) dL_law_50 (by rw [c_10]; decide) (by rw [c_10]; decide) (by rw [c_10]; rfl) (by decide) ?_
      refine rl_aload_n dL_law_201 rfl rfl ?_
      refine rl_aload_n dL_law_202 rfl rfl ?_
      refine rl_iload dL_law_203 rfl ?_
      refine rl_iconst (v := nI 1) dL_law_205 (by decide) ?_
      refine rl_iadd dL_law_206 ?_
      obtain ⟨o_11, H⟩ := H
      refine rl_iald dL_law_207 (Or.inr o_1) o_11 ?_
      refine rl_aload_n dL_law_208 rfl rfl ?_
      refine rl_iload dL_law_209 rfl ?_
      refine rl_iconst (v := nI 2) dL_law_211 (by decide) ?_
      refine rl_iadd dL_law_212 ?_
      obtain ⟨o_12, H⟩ := H
      refine rl_iald dL_law_213 (Or.inr o_1) o_12 ?_
      refine rl_aload_n dL_law_214 rfl rfl ?_
      refine rl_iload dL_law_215 rfl ?_
      refine rl_iconst (v := nI 3) dL_law_217 (by decide) ?_
      refine rl_iadd dL_law_218 ?_
      obtain ⟨o_13, H⟩ := H
      refine rl_iald dL_law_219 (Or.inr o_1) o_13 ?_
      refine rl_aload_n dL_law_220 rfl rfl ?_
      obtain ⟨o_14, H⟩ := H
      obtain ⟨o_15, H⟩ := H
      exact rl_callW (As := [.ref a1, .int (hpI h a0 (x4 + (nI 1)).toNatClampNeg), .int (hpI h a0 (x4 + (nI 2)).toNatClampNeg), .int (hpI h a0 (x4 + (nI 3)).toNatClampNeg), .ref a3]) (rest := []) mfL_begin dL_law_221 lkL_107 (by decide) (Nat.le_of_ble_eq_true rfl) o_14 o_15 rfl (Nat.le_of_ble_eq_true rfl) rfl rfl (fun Qc k => H Qc (fun v h' w => k (some (.int v)) h' w))
    by_cases c_16 : ((hpI h a0 (x4).toNatClampNeg) &&& (nI 31)) = nI 2
    · have H := (H.2.2.1) c_16
      refine rl_tableIn (tgt := 281) dL_law_50 (by rw [c_16]; decide) (by rw [c_16]; decide) (by rw [c_16]; rfl) (by decide) ?_
      refine rl_aload_n dL_law_281 rfl rfl ?_
      refine rl_aload_n dL_law_282 rfl rfl ?_
      refine rl_iload dL_law_283 rfl ?_
      refine rl_iconst (v := nI 1) dL_law_285 (by decide) ?_
      refine rl_iadd dL_law_286 ?_
      obtain ⟨o_17, H⟩ := H
      refine rl_iald dL_law_287 (Or.inr o_1) o_17 ?_
      refine rl_aload_n dL_law_288 rfl rfl ?_
      refine rl_iload dL_law_289 rfl ?_
      refine rl_iconst (v := nI 2) dL_law_291 (by decide) ?_
      refine rl_iadd dL_law_292 ?_
      obtain ⟨o_18, H⟩ := H
      refine rl_iald dL_law_293 (Or.inr o_1) o_18 ?_
      refine rl_aload_n dL_law_294 rfl rfl ?_
      obtain ⟨o_19, H⟩ := H
      obtain ⟨o_20, H⟩ := H
      exact rl_callW (As := [.ref a1, .int (hpI h a0 (x4 + (nI 1)).toNatClampNeg), .int (hpI h a0 (x4 + (nI 2)).toNatClampNeg), .ref a3]) (rest := []) mfL_increase dL_law_295 lkL_114 (by decide) (Nat.le_of_ble_eq_true rfl) o_19 o_20 rfl (Nat.le_of_ble_eq_true rfl) rfl rfl (fun Qc k => H Qc (fun v h' w => k (some (.int v)) h' w))
    by_cases c_21 : ((hpI h a0 (x4).toNatClampNeg) &&& (nI 31)) = nI 3
    · have H := (H.2.2.2.1) c_21
      refine rl_tableIn (tgt := 356) dL_law_50 (by rw [c_21]; decide) (by rw [c_21]; decide) (by rw [c_21]; rfl) (by decide) ?_
      refine rl_aload_n dL_law_356 rfl rfl ?_
      refine rl_aload_n dL_law_357 rfl rfl ?_
      refine rl_iload dL_law_358 rfl ?_
      refine rl_iconst (v := nI 1) dL_law_360 (by decide) ?_
      refine rl_iadd dL_law_361 ?_
      obtain ⟨o_22, H⟩ := H
      refine rl_iald dL_law_362 (Or.inr o_1) o_22 ?_
      refine rl_aload_n dL_law_363 rfl rfl ?_
      refine rl_iload dL_law_364 rfl ?_
      refine rl_iconst (v := nI 2) dL_law_366 (by decide) ?_
      refine rl_iadd dL_law_367 ?_
      obtain ⟨o_23, H⟩ := H
      refine rl_iald dL_law_368 (Or.inr o_1) o_23 ?_
      refine rl_aload_n dL_law_369 rfl rfl ?_
      obtain ⟨o_24, H⟩ := H
      obtain ⟨o_25, H⟩ := H
      exact rl_callW (As := [.ref a1, .int (hpI h a0 (x4 + (nI 1)).toNatClampNeg), .int (hpI h a0 (x4 + (nI 2)).toNatClampNeg), .ref a3]) (rest := []) mfL_decrease dL_law_370 lkL_118 (by decide) (Nat.le_of_ble_eq_true rfl) o_24 o_25 rfl (Nat.le_of_ble_eq_true rfl) rfl rfl (fun Qc k => H Qc (fun v h' w => k (some (.int v)) h' w))
    by_cases c_26 : ((hpI h a0 (x4).toNatClampNeg) &&& (nI 31)) = nI 4
    · have H := (H.2.2.2.2.1) c_26
      refine rl_tableIn (tgt := 431) dL_law_50 (by rw [c_26]; decide) (by rw [c_26]; decide) (by rw [c_26]; rfl) (by decide) ?_
      refine rl_aload_n dL_law_431 rfl rfl ?_
      refine rl_aload_n dL_law_432 rfl rfl ?_
      refine rl_iload dL_law_433 rfl ?_
      refine rl_iconst (v := nI 1) dL_law_435 (by decide) ?_
      refine rl_iadd dL_law_436 ?_
      obtain ⟨o_27, H⟩ := H
      refine rl_iald dL_law_437 (Or.inr o_1) o_27 ?_
      refine rl_aload_n dL_law_438 rfl rfl ?_
      refine rl_iload dL_law_439 rfl ?_
      refine rl_iconst (v := nI 2) dL_law_441 (by decide) ?_
      refine rl_iadd dL_law_442 ?_
      obtain ⟨o_28, H⟩ := H
      refine rl_iald dL_law_443 (Or.inr o_1) o_28 ?_
      refine rl_aload_n dL_law_444 rfl rfl ?_
      refine rl_iload dL_law_445 rfl ?_
      refine rl_iconst (v := nI 3) dL_law_447 (by decide) ?_
      refine rl_iadd dL_law_448 ?_
      obtain ⟨o_29, H⟩ := H
      refine rl_iald dL_law_449 (Or.inr o_1) o_29 ?_
      refine rl_aload_n dL_law_450 rfl rfl ?_
      refine rl_iload dL_law_451 rfl ?_
      refine rl_iconst (v := nI 4) dL_law_453 (by decide) ?_
      refine rl_iadd dL_law_454 ?_
      obtain ⟨o_30, H⟩ := H
      refine rl_iald dL_law_455 (Or.inr o_1) o_30 ?_
      refine rl_aload_n dL_law_456 rfl rfl ?_
      obtain ⟨o_31, H⟩ := H
      obtain ⟨o_32, H⟩ := H
      exact rl_callW (As := [.ref a1, .int (hpI h a0 (x4 + (nI 1)).toNatClampNeg), .int (hpI h a0 (x4 + (nI 2)).toNatClampNeg), .int (hpI h a0 (x4 + (nI 3)).toNatClampNeg), .int (hpI h a0 (x4 + (nI 4)).toNatClampNeg), .ref a3]) (rest := []) mfL_transfer dL_law_457 lkL_121 (by decide) (Nat.le_of_ble_eq_true rfl) o_31 o_32 rfl (Nat.le_of_ble_eq_true rfl) rfl rfl (fun Qc k => H Qc (fun v h' w => k (some (.int v)) h' w))
    by_cases c_33 : ((hpI h a0 (x4).toNatClampNeg) &&& (nI 31)) = nI 5
    · have H := (H.2.2.2.2.2.1) c_33
      refine rl_tableIn (tgt := 523) dL_law_50 (by rw [c_33]; decide) (by rw [c_33]; decide) (by rw [c_33]; rfl) (by decide) ?_
      refine rl_aload_n dL_law_523 rfl rfl ?_
      refine rl_aload_n dL_law_524 rfl rfl ?_
      refine rl_iload dL_law_525 rfl ?_
      refine rl_iconst (v := nI 1) dL_law_527 (by decide) ?_
      refine rl_iadd dL_law_528 ?_
      obtain ⟨o_34, H⟩ := H
      refine rl_iald dL_law_529 (Or.inr o_1) o_34 ?_
      refine rl_aload_n dL_law_530 rfl rfl ?_
      refine rl_iload dL_law_531 rfl ?_
      refine rl_iconst (v := nI 2) dL_law_533 (by decide) ?_
      refine rl_iadd dL_law_534 ?_
      obtain ⟨o_35, H⟩ := H
      refine rl_iald dL_law_535 (Or.inr o_1) o_35 ?_
      refine rl_aload_n dL_law_536 rfl rfl ?_
      refine rl_iload dL_law_537 rfl ?_
      refine rl_iconst (v := nI 3) dL_law_539 (by decide) ?_
      refine rl_iadd dL_law_540 ?_
      obtain ⟨o_36, H⟩ := H
      refine rl_iald dL_law_541 (Or.inr o_1) o_36 ?_
      refine rl_aload_n dL_law_542 rfl rfl ?_
      refine rl_iload dL_law_543 rfl ?_
      refine rl_iconst (v := nI 4) dL_law_545 (by decide) ?_
      refine rl_iadd dL_law_546 ?_
      obtain ⟨o_37, H⟩ := H
      refine rl_iald dL_law_547 (Or.inr o_1) o_37 ?_
      refine rl_aload_n dL_law_548 rfl rfl ?_
      refine rl_iload dL_law_549 rfl ?_
      refine rl_iconst (v := nI 5) dL_law_551 (by decide) ?_
      refine rl_iadd dL_law_552 ?_
      obtain ⟨o_38, H⟩ := H
      refine rl_iald dL_law_553 (Or.inr o_1) o_38 ?_
      refine rl_aload_n dL_law_554 rfl rfl ?_
      obtain ⟨o_39, H⟩ := H
      obtain ⟨o_40, H⟩ := H
      exact rl_callW (As := [.ref a1, .int (hpI h a0 (x4 + (nI 1)).toNatClampNeg), .int (hpI h a0 (x4 + (nI 2)).toNatClampNeg), .int (hpI h a0 (x4 + (nI 3)).toNatClampNeg), .int (hpI h a0 (x4 + (nI 4)).toNatClampNeg), .int (hpI h a0 (x4 + (nI 5)).toNatClampNeg), .ref a3]) (rest := []) mfL_lend dL_law_555 lkL_125 (by decide) (Nat.le_of_ble_eq_true rfl) o_39 o_40 rfl (Nat.le_of_ble_eq_true rfl) rfl rfl (fun Qc k => H Qc (fun v h' w => k (some (.int v)) h' w))
    by_cases c_41 : ((hpI h a0 (x4).toNatClampNeg) &&& (nI 31)) = nI 6
    · have H := (H.2.2.2.2.2.2.1) c_41
      refine rl_tableIn (tgt := 627) dL_law_50 (by rw [c_41]; decide) (by rw [c_41]; decide) (by rw [c_41]; rfl) (by decide) ?_
      refine rl_aload_n dL_law_627 rfl rfl ?_
      refine rl_aload_n dL_law_628 rfl rfl ?_
      refine rl_iload dL_law_629 rfl ?_
      refine rl_iconst (v := nI 1) dL_law_631 (by decide) ?_
      refine rl_iadd dL_law_632 ?_
      obtain ⟨o_42, H⟩ := H
      refine rl_iald dL_law_633 (Or.inr o_1) o_42 ?_
      refine rl_aload_n dL_law_634 rfl rfl ?_
      refine rl_iload dL_law_635 rfl ?_
      refine rl_iconst (v := nI 2) dL_law_637 (by decide) ?_
      refine rl_iadd dL_law_638 ?_
      obtain ⟨o_43, H⟩ := H
      refine rl_iald dL_law_639 (Or.inr o_1) o_43 ?_
      refine rl_aload_n dL_law_640 rfl rfl ?_
      obtain ⟨o_44, H⟩ := H
      obtain ⟨o_45, H⟩ := H
      exact rl_callW (As := [.ref a1, .int (hpI h a0 (x4 + (nI 1)).toNatClampNeg), .int (hpI h a0 (x4 + (nI 2)).toNatClampNeg), .ref a3]) (rest := []) mfL_rebalance dL_law_641 lkL_129 (by decide) (Nat.le_of_ble_eq_true rfl) o_44 o_45 rfl (Nat.le_of_ble_eq_true rfl) rfl rfl (fun Qc k => H Qc (fun v h' w => k (some (.int v)) h' w))
    by_cases c_46 : ((hpI h a0 (x4).toNatClampNeg) &&& (nI 31)) = nI 7
    · have H := (H.2.2.2.2.2.2.2.1) c_46
      refine rl_tableIn (tgt := 695) dL_law_50 (by rw [c_46]; decide) (by rw [c_46]; decide) (by rw [c_46]; rfl) (by decide) ?_
      refine rl_aload_n dL_law_695 rfl rfl ?_
      refine rl_aload_n dL_law_696 rfl rfl ?_
      refine rl_iload dL_law_697 rfl ?_
      refine rl_iconst (v := nI 1) dL_law_699 (by decide) ?_
      refine rl_iadd dL_law_700 ?_
      obtain ⟨o_47, H⟩ := H
      refine rl_iald dL_law_701 (Or.inr o_1) o_47 ?_
      refine rl_aload_n dL_law_702 rfl rfl ?_
      obtain ⟨o_48, H⟩ := H
      obtain ⟨o_49, H⟩ := H
      exact rl_callW (As := [.ref a1, .int (hpI h a0 (x4 + (nI 1)).toNatClampNeg), .ref a3]) (rest := []) mfL_pass dL_law_703 lkL_132 (by decide) (Nat.le_of_ble_eq_true rfl) o_48 o_49 rfl (Nat.le_of_ble_eq_true rfl) rfl rfl (fun Qc k => H Qc (fun v h' w => k (some (.int v)) h' w))
    by_cases c_50 : ((hpI h a0 (x4).toNatClampNeg) &&& (nI 31)) = nI 8
    · have H := (H.2.2.2.2.2.2.2.2.1) c_50
      refine rl_tableIn (tgt := 751) dL_law_50 (by rw [c_50]; decide) (by rw [c_50]; decide) (by rw [c_50]; rfl) (by decide) ?_
      refine rl_aload_n dL_law_751 rfl rfl ?_
      refine rl_aload_n dL_law_752 rfl rfl ?_
      refine rl_iload dL_law_753 rfl ?_
      refine rl_iconst (v := nI 1) dL_law_755 (by decide) ?_
      refine rl_iadd dL_law_756 ?_
      obtain ⟨o_51, H⟩ := H
      refine rl_iald dL_law_757 (Or.inr o_1) o_51 ?_
      refine rl_aload_n dL_law_758 rfl rfl ?_
      refine rl_iload dL_law_759 rfl ?_
      refine rl_iconst (v := nI 2) dL_law_761 (by decide) ?_
      refine rl_iadd dL_law_762 ?_
      obtain ⟨o_52, H⟩ := H
      refine rl_iald dL_law_763 (Or.inr o_1) o_52 ?_
      refine rl_aload_n dL_law_764 rfl rfl ?_
      obtain ⟨o_53, H⟩ := H
      obtain ⟨o_54, H⟩ := H
      exact rl_callW (As := [.ref a1, .int (hpI h a0 (x4 + (nI 1)).toNatClampNeg), .int (hpI h a0 (x4 + (nI 2)).toNatClampNeg), .ref a3]) (rest := []) mfL_send dL_law_765 lkL_136 (by decide) (Nat.le_of_ble_eq_true rfl) o_53 o_54 rfl (Nat.le_of_ble_eq_true rfl) rfl rfl (fun Qc k => H Qc (fun v h' w => k (some (.int v)) h' w))
    by_cases c_55 : ((hpI h a0 (x4).toNatClampNeg) &&& (nI 31)) = nI 9
    · have H := (H.2.2.2.2.2.2.2.2.2.1) c_55
      refine rl_tableIn (tgt := 819) dL_law_50 (by rw [c_55]; decide) (by rw [c_55]; decide) (by rw [c_55]; rfl) (by decide) ?_
      refine rl_aload_n dL_law_819 rfl rfl ?_
      refine rl_aload_n dL_law_820 rfl rfl ?_
      refine rl_iload dL_law_821 rfl ?_
      refine rl_iconst (v := nI 1) dL_law_823 (by decide) ?_
      refine rl_iadd dL_law_824 ?_
      obtain ⟨o_56, H⟩ := H
      refine rl_iald dL_law_825 (Or.inr o_1) o_56 ?_
      refine rl_aload_n dL_law_826 rfl rfl ?_
      obtain ⟨o_57, H⟩ := H
      obtain ⟨o_58, H⟩ := H
      exact rl_callW (As := [.ref a1, .int (hpI h a0 (x4 + (nI 1)).toNatClampNeg), .ref a3]) (rest := []) mfL_deliver dL_law_827 lkL_139 (by decide) (Nat.le_of_ble_eq_true rfl) o_57 o_58 rfl (Nat.le_of_ble_eq_true rfl) rfl rfl (fun Qc k => H Qc (fun v h' w => k (some (.int v)) h' w))
    by_cases c_59 : ((hpI h a0 (x4).toNatClampNeg) &&& (nI 31)) = nI 10
    · have H := (H.2.2.2.2.2.2.2.2.2.2.1) c_59
      refine rl_tableIn (tgt := 875) dL_law_50 (by rw [c_59]; decide) (by rw [c_59]; decide) (by rw [c_59]; rfl) (by decide) ?_
      refine rl_aload_n dL_law_875 rfl rfl ?_
      refine rl_aload_n dL_law_876 rfl rfl ?_
      refine rl_iload dL_law_877 rfl ?_
      refine rl_iconst (v := nI 1) dL_law_879 (by decide) ?_
      refine rl_iadd dL_law_880 ?_
      obtain ⟨o_60, H⟩ := H
      refine rl_iald dL_law_881 (Or.inr o_1) o_60 ?_
      refine rl_aload_n dL_law_882 rfl rfl ?_
      obtain ⟨o_61, H⟩ := H
      obtain ⟨o_62, H⟩ := H
      exact rl_callW (As := [.ref a1, .int (hpI h a0 (x4 + (nI 1)).toNatClampNeg), .ref a3]) (rest := []) mfL_lose dL_law_883 lkL_142 (by decide) (Nat.le_of_ble_eq_true rfl) o_61 o_62 rfl (Nat.le_of_ble_eq_true rfl) rfl rfl (fun Qc k => H Qc (fun v h' w => k (some (.int v)) h' w))
    by_cases c_63 : ((hpI h a0 (x4).toNatClampNeg) &&& (nI 31)) = nI 11
    · have H := (H.2.2.2.2.2.2.2.2.2.2.2.1) c_63
      refine rl_tableIn (tgt := 931) dL_law_50 (by rw [c_63]; decide) (by rw [c_63]; decide) (by rw [c_63]; rfl) (by decide) ?_
      refine rl_aload_n dL_law_931 rfl rfl ?_
      refine rl_aload_n dL_law_932 rfl rfl ?_
      refine rl_iload dL_law_933 rfl ?_
      refine rl_iconst (v := nI 1) dL_law_935 (by decide) ?_
      refine rl_iadd dL_law_936 ?_
      obtain ⟨o_64, H⟩ := H
      refine rl_iald dL_law_937 (Or.inr o_1) o_64 ?_
      refine rl_aload_n dL_law_938 rfl rfl ?_
      obtain ⟨o_65, H⟩ := H
      obtain ⟨o_66, H⟩ := H
      exact rl_callW (As := [.ref a1, .int (hpI h a0 (x4 + (nI 1)).toNatClampNeg), .ref a3]) (rest := []) mfL_repeat dL_law_939 lkL_145 (by decide) (Nat.le_of_ble_eq_true rfl) o_65 o_66 rfl (Nat.le_of_ble_eq_true rfl) rfl rfl (fun Qc k => H Qc (fun v h' w => k (some (.int v)) h' w))
    by_cases c_67 : ((hpI h a0 (x4).toNatClampNeg) &&& (nI 31)) = nI 12
    · have H := (H.2.2.2.2.2.2.2.2.2.2.2.2.1) c_67
      refine rl_tableIn (tgt := 987) dL_law_50 (by rw [c_67]; decide) (by rw [c_67]; decide) (by rw [c_67]; rfl) (by decide) ?_
      refine rl_aload_n dL_law_987 rfl rfl ?_
      obtain ⟨o_68, H⟩ := H
      obtain ⟨o_69, H⟩ := H
      obtain ⟨o_70, H⟩ := H
      exact rl_callV (As := []) (rest := []) mfX8_messages dL_law_988 lkL_148 o_70 (by decide) (Nat.le_of_ble_eq_true rfl) o_68 o_69 rfl (Nat.le_of_ble_eq_true rfl) rfl rfl (fun Qc k => H Qc (fun v h' w => k (some (.int v)) h' w))
    by_cases c_71 : ((hpI h a0 (x4).toNatClampNeg) &&& (nI 31)) = nI 13
    · have H := (H.2.2.2.2.2.2.2.2.2.2.2.2.2.1) c_71
      refine rl_tableIn (tgt := 1000) dL_law_50 (by rw [c_71]; decide) (by rw [c_71]; decide) (by rw [c_71]; rfl) (by decide) ?_
      refine rl_aload_n dL_law_1000 rfl rfl ?_
      refine rl_aload_n dL_law_1001 rfl rfl ?_
      refine rl_iload dL_law_1002 rfl ?_
      refine rl_iconst (v := nI 1) dL_law_1004 (by decide) ?_
      refine rl_iadd dL_law_1005 ?_
      obtain ⟨o_72, H⟩ := H
      refine rl_iald dL_law_1006 (Or.inr o_1) o_72 ?_
      refine rl_aload_n dL_law_1007 rfl rfl ?_
      refine rl_iload dL_law_1008 rfl ?_
      refine rl_iconst (v := nI 2) dL_law_1010 (by decide) ?_
      refine rl_iadd dL_law_1011 ?_
      obtain ⟨o_73, H⟩ := H
      refine rl_iald dL_law_1012 (Or.inr o_1) o_73 ?_
      refine rl_aload_n dL_law_1013 rfl rfl ?_
      obtain ⟨o_74, H⟩ := H
      obtain ⟨o_75, H⟩ := H
      exact rl_callW (As := [.ref a1, .int (hpI h a0 (x4 + (nI 1)).toNatClampNeg), .int (hpI h a0 (x4 + (nI 2)).toNatClampNeg), .ref a3]) (rest := []) mfL_message dL_law_1014 lkL_152 (by decide) (Nat.le_of_ble_eq_true rfl) o_74 o_75 rfl (Nat.le_of_ble_eq_true rfl) rfl rfl (fun Qc k => H Qc (fun v h' w => k (some (.int v)) h' w))
    by_cases c_76 : ((hpI h a0 (x4).toNatClampNeg) &&& (nI 31)) = nI 14
    · have H := (H.2.2.2.2.2.2.2.2.2.2.2.2.2.2.1) c_76
      refine rl_tableIn (tgt := 1068) dL_law_50 (by rw [c_76]; decide) (by rw [c_76]; decide) (by rw [c_76]; rfl) (by decide) ?_
      refine rl_aload_n dL_law_1068 rfl rfl ?_
      obtain ⟨o_77, H⟩ := H
      obtain ⟨o_78, H⟩ := H
      obtain ⟨o_79, H⟩ := H
      exact rl_callV (As := []) (rest := []) mfX8_time dL_law_1069 lkL_155 o_79 (by decide) (Nat.le_of_ble_eq_true rfl) o_77 o_78 rfl (Nat.le_of_ble_eq_true rfl) rfl rfl (fun Qc k => H Qc (fun v h' w => k (some (.int v)) h' w))
    by_cases c_80 : ((hpI h a0 (x4).toNatClampNeg) &&& (nI 31)) = nI 15
    · have H := (H.2.2.2.2.2.2.2.2.2.2.2.2.2.2.2.1) c_80
      refine rl_tableIn (tgt := 1081) dL_law_50 (by rw [c_80]; decide) (by rw [c_80]; decide) (by rw [c_80]; rfl) (by decide) ?_
      refine rl_aload_n dL_law_1081 rfl rfl ?_
      obtain ⟨o_81, H⟩ := H
      obtain ⟨o_82, H⟩ := H
      obtain ⟨o_83, H⟩ := H
      exact rl_callV (As := []) (rest := []) mfX8_value dL_law_1082 lkL_159 o_83 (by decide) (Nat.le_of_ble_eq_true rfl) o_81 o_82 rfl (Nat.le_of_ble_eq_true rfl) rfl rfl (fun Qc k => H Qc (fun v h' w => k (some (.int v)) h' w))
    by_cases c_84 : ((hpI h a0 (x4).toNatClampNeg) &&& (nI 31)) = nI 16
    · have H := (H.2.2.2.2.2.2.2.2.2.2.2.2.2.2.2.2.1) c_84
      refine rl_tableIn (tgt := 1094) dL_law_50 (by rw [c_84]; decide) (by rw [c_84]; decide) (by rw [c_84]; rfl) (by decide) ?_
      refine rl_aload_n dL_law_1094 rfl rfl ?_
      refine rl_aload_n dL_law_1095 rfl rfl ?_
      refine rl_iload dL_law_1096 rfl ?_
      refine rl_iconst (v := nI 1) dL_law_1098 (by decide) ?_
      refine rl_iadd dL_law_1099 ?_
      obtain ⟨o_85, H⟩ := H
      refine rl_iald dL_law_1100 (Or.inr o_1) o_85 ?_
      refine rl_aload_n dL_law_1101 rfl rfl ?_
      obtain ⟨o_86, H⟩ := H
      obtain ⟨o_87, H⟩ := H
      exact rl_callW (As := [.ref a1, .int (hpI h a0 (x4 + (nI 1)).toNatClampNeg), .ref a3]) (rest := []) mfL_known dL_law_1102 lkL_163 (by decide) (Nat.le_of_ble_eq_true rfl) o_86 o_87 rfl (Nat.le_of_ble_eq_true rfl) rfl rfl (fun Qc k => H Qc (fun v h' w => k (some (.int v)) h' w))
    by_cases c_88 : ((hpI h a0 (x4).toNatClampNeg) &&& (nI 31)) = nI 17
    · have H := (H.2.2.2.2.2.2.2.2.2.2.2.2.2.2.2.2.2.1) c_88
      refine rl_tableIn (tgt := 1150) dL_law_50 (by rw [c_88]; decide) (by rw [c_88]; decide) (by rw [c_88]; rfl) (by decide) ?_
      refine rl_aload_n dL_law_1150 rfl rfl ?_
      refine rl_aload_n dL_law_1151 rfl rfl ?_
      refine rl_iload dL_law_1152 rfl ?_
      refine rl_iconst (v := nI 1) dL_law_1154 (by decide) ?_
      refine rl_iadd dL_law_1155 ?_
      obtain ⟨o_89, H⟩ := H
      refine rl_iald dL_law_1156 (Or.inr o_1) o_89 ?_
      refine rl_aload_n dL_law_1157 rfl rfl ?_
      refine rl_iload dL_law_1158 rfl ?_
      refine rl_iconst (v := nI 2) dL_law_1160 (by decide) ?_
      refine rl_iadd dL_law_1161 ?_
      obtain ⟨o_90, H⟩ := H
      refine rl_iald dL_law_1162 (Or.inr o_1) o_90 ?_
      refine rl_aload_n dL_law_1163 rfl rfl ?_
      obtain ⟨o_91, H⟩ := H
      obtain ⟨o_92, H⟩ := H
      exact rl_callW (As := [.ref a1, .int (hpI h a0 (x4 + (nI 1)).toNatClampNeg), .int (hpI h a0 (x4 + (nI 2)).toNatClampNeg), .ref a3]) (rest := []) mfL_own dL_law_1164 lkL_166 (by decide) (Nat.le_of_ble_eq_true rfl) o_91 o_92 rfl (Nat.le_of_ble_eq_true rfl) rfl rfl (fun Qc k => H Qc (fun v h' w => k (some (.int v)) h' w))
    by_cases c_93 : ((hpI h a0 (x4).toNatClampNeg) &&& (nI 31)) = nI 18
    · have H := (H.2.2.2.2.2.2.2.2.2.2.2.2.2.2.2.2.2.2.1) c_93
      refine rl_tableIn (tgt := 1218) dL_law_50 (by rw [c_93]; decide) (by rw [c_93]; decide) (by rw [c_93]; rfl) (by decide) ?_
      refine rl_aload_n dL_law_1218 rfl rfl ?_
      refine rl_aload_n dL_law_1219 rfl rfl ?_
      refine rl_iload dL_law_1220 rfl ?_
      refine rl_iconst (v := nI 1) dL_law_1222 (by decide) ?_
      refine rl_iadd dL_law_1223 ?_
      obtain ⟨o_94, H⟩ := H
      refine rl_iald dL_law_1224 (Or.inr o_1) o_94 ?_
      refine rl_aload_n dL_law_1225 rfl rfl ?_
      refine rl_iload dL_law_1226 rfl ?_
      refine rl_iconst (v := nI 2) dL_law_1228 (by decide) ?_
      refine rl_iadd dL_law_1229 ?_
      obtain ⟨o_95, H⟩ := H
      refine rl_iald dL_law_1230 (Or.inr o_1) o_95 ?_
      refine rl_aload_n dL_law_1231 rfl rfl ?_
      obtain ⟨o_96, H⟩ := H
      obtain ⟨o_97, H⟩ := H
      exact rl_callW (As := [.ref a1, .int (hpI h a0 (x4 + (nI 1)).toNatClampNeg), .int (hpI h a0 (x4 + (nI 2)).toNatClampNeg), .ref a3]) (rest := []) mfL_available dL_law_1232 lkL_169 (by decide) (Nat.le_of_ble_eq_true rfl) o_96 o_97 rfl (Nat.le_of_ble_eq_true rfl) rfl rfl (fun Qc k => H Qc (fun v h' w => k (some (.int v)) h' w))
    by_cases c_98 : ((hpI h a0 (x4).toNatClampNeg) &&& (nI 31)) = nI 19
    · have H := (H.2.2.2.2.2.2.2.2.2.2.2.2.2.2.2.2.2.2.2.1) c_98
      refine rl_tableIn (tgt := 1286) dL_law_50 (by rw [c_98]; decide) (by rw [c_98]; decide) (by rw [c_98]; rfl) (by decide) ?_
      refine rl_aload_n dL_law_1286 rfl rfl ?_
      refine rl_aload_n dL_law_1287 rfl rfl ?_
      refine rl_iload dL_law_1288 rfl ?_
      refine rl_iconst (v := nI 1) dL_law_1290 (by decide) ?_
      refine rl_iadd dL_law_1291 ?_
      obtain ⟨o_99, H⟩ := H
      refine rl_iald dL_law_1292 (Or.inr o_1) o_99 ?_
      refine rl_aload_n dL_law_1293 rfl rfl ?_
      obtain ⟨o_100, H⟩ := H
      obtain ⟨o_101, H⟩ := H
      exact rl_callW (As := [.ref a1, .int (hpI h a0 (x4 + (nI 1)).toNatClampNeg), .ref a3]) (rest := []) mfL_dormant dL_law_1294 lkL_172 (by decide) (Nat.le_of_ble_eq_true rfl) o_100 o_101 rfl (Nat.le_of_ble_eq_true rfl) rfl rfl (fun Qc k => H Qc (fun v h' w => k (some (.int v)) h' w))
    by_cases c_102 : ((hpI h a0 (x4).toNatClampNeg) &&& (nI 31)) = nI 20
    · have H := (H.2.2.2.2.2.2.2.2.2.2.2.2.2.2.2.2.2.2.2.2.1) c_102
      refine rl_tableIn (tgt := 1342) dL_law_50 (by rw [c_102]; decide) (by rw [c_102]; decide) (by rw [c_102]; rfl) (by decide) ?_
      refine rl_aload_n dL_law_1342 rfl rfl ?_
      refine rl_aload_n dL_law_1343 rfl rfl ?_
      refine rl_iload dL_law_1344 rfl ?_
      refine rl_iconst (v := nI 1) dL_law_1346 (by decide) ?_
      refine rl_iadd dL_law_1347 ?_
      obtain ⟨o_103, H⟩ := H
      refine rl_iald dL_law_1348 (Or.inr o_1) o_103 ?_
      refine rl_aload_n dL_law_1349 rfl rfl ?_
      refine rl_iload dL_law_1350 rfl ?_
      refine rl_iconst (v := nI 2) dL_law_1352 (by decide) ?_
      refine rl_iadd dL_law_1353 ?_
      obtain ⟨o_104, H⟩ := H
      refine rl_iald dL_law_1354 (Or.inr o_1) o_104 ?_
      refine rl_aload_n dL_law_1355 rfl rfl ?_
      refine rl_iload dL_law_1356 rfl ?_
      refine rl_iconst (v := nI 3) dL_law_1358 (by decide) ?_
      refine rl_iadd dL_law_1359 ?_
      obtain ⟨o_105, H⟩ := H
      refine rl_iald dL_law_1360 (Or.inr o_1) o_105 ?_
      refine rl_aload_n dL_law_1361 rfl rfl ?_
      obtain ⟨o_106, H⟩ := H
      obtain ⟨o_107, H⟩ := H
      exact rl_callW (As := [.ref a1, .int (hpI h a0 (x4 + (nI 1)).toNatClampNeg), .int (hpI h a0 (x4 + (nI 2)).toNatClampNeg), .int (hpI h a0 (x4 + (nI 3)).toNatClampNeg), .ref a3]) (rest := []) mfL_demand dL_law_1362 lkL_175 (by decide) (Nat.le_of_ble_eq_true rfl) o_106 o_107 rfl (Nat.le_of_ble_eq_true rfl) rfl rfl (fun Qc k => H Qc (fun v h' w => k (some (.int v)) h' w))
    by_cases c_108 : ((hpI h a0 (x4).toNatClampNeg) &&& (nI 31)) = nI 21
    · have H := (H.2.2.2.2.2.2.2.2.2.2.2.2.2.2.2.2.2.2.2.2.2.1) c_108
      refine rl_tableIn (tgt := 1422) dL_law_50 (by rw [c_108]; decide) (by rw [c_108]; decide) (by rw [c_108]; rfl) (by decide) ?_
      refine rl_aload_n dL_law_1422 rfl rfl ?_
      refine rl_aload_n dL_law_1423 rfl rfl ?_
      refine rl_iload dL_law_1424 rfl ?_
      refine rl_iconst (v := nI 1) dL_law_1426 (by decide) ?_
      refine rl_iadd dL_law_1427 ?_
      obtain ⟨o_109, H⟩ := H
      refine rl_iald dL_law_1428 (Or.inr o_1) o_109 ?_
      refine rl_aload_n dL_law_1429 rfl rfl ?_
      refine rl_iload dL_law_1430 rfl ?_
      refine rl_iconst (v := nI 2) dL_law_1432 (by decide) ?_
      refine rl_iadd dL_law_1433 ?_
      obtain ⟨o_110, H⟩ := H
      refine rl_iald dL_law_1434 (Or.inr o_1) o_110 ?_
      refine rl_aload_n dL_law_1435 rfl rfl ?_
      obtain ⟨o_111, H⟩ := H
      obtain ⟨o_112, H⟩ := H
      exact rl_callW (As := [.ref a1, .int (hpI h a0 (x4 + (nI 1)).toNatClampNeg), .int (hpI h a0 (x4 + (nI 2)).toNatClampNeg), .ref a3]) (rest := []) mfL_version dL_law_1436 lkL_178 (by decide) (Nat.le_of_ble_eq_true rfl) o_111 o_112 rfl (Nat.le_of_ble_eq_true rfl) rfl rfl (fun Qc k => H Qc (fun v h' w => k (some (.int v)) h' w))
    by_cases c_113 : ((hpI h a0 (x4).toNatClampNeg) &&& (nI 31)) = nI 22
    · have H := (H.2.2.2.2.2.2.2.2.2.2.2.2.2.2.2.2.2.2.2.2.2.2.1) c_113
      refine rl_tableIn (tgt := 1490) dL_law_50 (by rw [c_113]; decide) (by rw [c_113]; decide) (by rw [c_113]; rfl) (by decide) ?_
      refine rl_aload_n dL_law_1490 rfl rfl ?_
      refine rl_aload_n dL_law_1491 rfl rfl ?_
      refine rl_iload dL_law_1492 rfl ?_
      refine rl_iconst (v := nI 1) dL_law_1494 (by decide) ?_
      refine rl_iadd dL_law_1495 ?_
      obtain ⟨o_114, H⟩ := H
      refine rl_iald dL_law_1496 (Or.inr o_1) o_114 ?_
      refine rl_aload_n dL_law_1497 rfl rfl ?_
      refine rl_iload dL_law_1498 rfl ?_
      refine rl_iconst (v := nI 2) dL_law_1500 (by decide) ?_
      refine rl_iadd dL_law_1501 ?_
      obtain ⟨o_115, H⟩ := H
      refine rl_iald dL_law_1502 (Or.inr o_1) o_115 ?_
      refine rl_aload_n dL_law_1503 rfl rfl ?_
      obtain ⟨o_116, H⟩ := H
      obtain ⟨o_117, H⟩ := H
      exact rl_callW (As := [.ref a1, .int (hpI h a0 (x4 + (nI 1)).toNatClampNeg), .int (hpI h a0 (x4 + (nI 2)).toNatClampNeg), .ref a3]) (rest := []) mfL_copyTime dL_law_1504 lkL_181 (by decide) (Nat.le_of_ble_eq_true rfl) o_116 o_117 rfl (Nat.le_of_ble_eq_true rfl) rfl rfl (fun Qc k => H Qc (fun v h' w => k (some (.int v)) h' w))
    by_cases c_118 : ((hpI h a0 (x4).toNatClampNeg) &&& (nI 31)) = nI 23
    · have H := (H.2.2.2.2.2.2.2.2.2.2.2.2.2.2.2.2.2.2.2.2.2.2.2.1) c_118
      refine rl_tableIn (tgt := 1558) dL_law_50 (by rw [c_118]; decide) (by rw [c_118]; decide) (by rw [c_118]; rfl) (by decide) ?_
      refine rl_aload_n dL_law_1558 rfl rfl ?_
      obtain ⟨o_119, H⟩ := H
      obtain ⟨o_120, H⟩ := H
      obtain ⟨o_121, H⟩ := H
      exact rl_callV (As := []) (rest := []) mfX8_loans dL_law_1559 lkL_184 o_121 (by decide) (Nat.le_of_ble_eq_true rfl) o_119 o_120 rfl (Nat.le_of_ble_eq_true rfl) rfl rfl (fun Qc k => H Qc (fun v h' w => k (some (.int v)) h' w))
    by_cases c_122 : ((hpI h a0 (x4).toNatClampNeg) &&& (nI 31)) = nI 24
    · have H := (H.2.2.2.2.2.2.2.2.2.2.2.2.2.2.2.2.2.2.2.2.2.2.2.2.1) c_122
      refine rl_tableIn (tgt := 1571) dL_law_50 (by rw [c_122]; decide) (by rw [c_122]; decide) (by rw [c_122]; rfl) (by decide) ?_
      refine rl_aload_n dL_law_1571 rfl rfl ?_
      refine rl_aload_n dL_law_1572 rfl rfl ?_
      refine rl_iload dL_law_1573 rfl ?_
      refine rl_iconst (v := nI 1) dL_law_1575 (by decide) ?_
      refine rl_iadd dL_law_1576 ?_
      obtain ⟨o_123, H⟩ := H
      refine rl_iald dL_law_1577 (Or.inr o_1) o_123 ?_
      refine rl_aload_n dL_law_1578 rfl rfl ?_
      refine rl_iload dL_law_1579 rfl ?_
      refine rl_iconst (v := nI 2) dL_law_1581 (by decide) ?_
      refine rl_iadd dL_law_1582 ?_
      obtain ⟨o_124, H⟩ := H
      refine rl_iald dL_law_1583 (Or.inr o_1) o_124 ?_
      refine rl_aload_n dL_law_1584 rfl rfl ?_
      obtain ⟨o_125, H⟩ := H
      obtain ⟨o_126, H⟩ := H
      exact rl_callW (As := [.ref a1, .int (hpI h a0 (x4 + (nI 1)).toNatClampNeg), .int (hpI h a0 (x4 + (nI 2)).toNatClampNeg), .ref a3]) (rest := []) mfL_loan dL_law_1585 lkL_188 (by decide) (Nat.le_of_ble_eq_true rfl) o_125 o_126 rfl (Nat.le_of_ble_eq_true rfl) rfl rfl (fun Qc k => H Qc (fun v h' w => k (some (.int v)) h' w))
    by_cases c_127 : ((hpI h a0 (x4).toNatClampNeg) &&& (nI 31)) = nI 25
    · have H := (H.2.2.2.2.2.2.2.2.2.2.2.2.2.2.2.2.2.2.2.2.2.2.2.2.2.1) c_127
      refine rl_tableIn (tgt := 1639) dL_law_50 (by rw [c_127]; decide) (by rw [c_127]; decide) (by rw [c_127]; rfl) (by decide) ?_
      refine rl_aload_n dL_law_1639 rfl rfl ?_
      refine rl_aload_n dL_law_1640 rfl rfl ?_
      refine rl_iload dL_law_1641 rfl ?_
      refine rl_iconst (v := nI 1) dL_law_1643 (by decide) ?_
      refine rl_iadd dL_law_1644 ?_
      obtain ⟨o_128, H⟩ := H
      refine rl_iald dL_law_1645 (Or.inr o_1) o_128 ?_
      refine rl_aload_n dL_law_1646 rfl rfl ?_
      refine rl_iload dL_law_1647 rfl ?_
      refine rl_iconst (v := nI 2) dL_law_1649 (by decide) ?_
      refine rl_iadd dL_law_1650 ?_
      obtain ⟨o_129, H⟩ := H
      refine rl_iald dL_law_1651 (Or.inr o_1) o_129 ?_
      refine rl_aload_n dL_law_1652 rfl rfl ?_
      refine rl_iload dL_law_1653 rfl ?_
      refine rl_iconst (v := nI 3) dL_law_1655 (by decide) ?_
      refine rl_iadd dL_law_1656 ?_
      obtain ⟨o_130, H⟩ := H
      refine rl_iald dL_law_1657 (Or.inr o_1) o_130 ?_
      refine rl_aload_n dL_law_1658 rfl rfl ?_
      obtain ⟨o_131, H⟩ := H
      obtain ⟨o_132, H⟩ := H
      exact rl_callW (As := [.ref a1, .int (hpI h a0 (x4 + (nI 1)).toNatClampNeg), .int (hpI h a0 (x4 + (nI 2)).toNatClampNeg), .int (hpI h a0 (x4 + (nI 3)).toNatClampNeg), .ref a3]) (rest := []) mfL_helpers dL_law_1659 lkL_191 (by decide) (Nat.le_of_ble_eq_true rfl) o_131 o_132 rfl (Nat.le_of_ble_eq_true rfl) rfl rfl (fun Qc k => H Qc (fun v h' w => k (some (.int v)) h' w))
    by_cases c_133 : ((hpI h a0 (x4).toNatClampNeg) &&& (nI 31)) = nI 26
    · have H := (H.2.2.2.2.2.2.2.2.2.2.2.2.2.2.2.2.2.2.2.2.2.2.2.2.2.2.1) c_133
      refine rl_tableIn (tgt := 1719) dL_law_50 (by rw [c_133]; decide) (by rw [c_133]; decide) (by rw [c_133]; rfl) (by decide) ?_
      refine rl_aload_n dL_law_1719 rfl rfl ?_
      refine rl_aload_n dL_law_1720 rfl rfl ?_
      refine rl_iload dL_law_1721 rfl ?_
      refine rl_iconst (v := nI 1) dL_law_1723 (by decide) ?_
      refine rl_iadd dL_law_1724 ?_
      obtain ⟨o_134, H⟩ := H
      refine rl_iald dL_law_1725 (Or.inr o_1) o_134 ?_
      refine rl_aload_n dL_law_1726 rfl rfl ?_
      obtain ⟨o_135, H⟩ := H
      obtain ⟨o_136, H⟩ := H
      exact rl_callW (As := [.ref a1, .int (hpI h a0 (x4 + (nI 1)).toNatClampNeg), .ref a3]) (rest := []) mfL_type dL_law_1727 lkL_194 (by decide) (Nat.le_of_ble_eq_true rfl) o_135 o_136 rfl (Nat.le_of_ble_eq_true rfl) rfl rfl (fun Qc k => H Qc (fun v h' w => k (some (.int v)) h' w))
    by_cases c_137 : ((hpI h a0 (x4).toNatClampNeg) &&& (nI 31)) = nI 27
    · have H := (H.2.2.2.2.2.2.2.2.2.2.2.2.2.2.2.2.2.2.2.2.2.2.2.2.2.2.2.1) c_137
      refine rl_tableIn (tgt := 1775) dL_law_50 (by rw [c_137]; decide) (by rw [c_137]; decide) (by rw [c_137]; rfl) (by decide) ?_
      refine rl_aload_n dL_law_1775 rfl rfl ?_
      obtain ⟨o_138, H⟩ := H
      obtain ⟨o_139, H⟩ := H
      obtain ⟨o_140, H⟩ := H
      exact rl_callV (As := []) (rest := []) mfX8_clearText dL_law_1776 lkL_197 o_140 (by decide) (Nat.le_of_ble_eq_true rfl) o_138 o_139 rfl (Nat.le_of_ble_eq_true rfl) rfl rfl (fun Qc k => H Qc (fun v h' w => k (some (.int v)) h' w))
    by_cases c_141 : ((hpI h a0 (x4).toNatClampNeg) &&& (nI 31)) = nI 28
    · have H := (H.2.2.2.2.2.2.2.2.2.2.2.2.2.2.2.2.2.2.2.2.2.2.2.2.2.2.2.2.1) c_141
      refine rl_tableIn (tgt := 1788) dL_law_50 (by rw [c_141]; decide) (by rw [c_141]; decide) (by rw [c_141]; rfl) (by decide) ?_
      refine rl_aload_n dL_law_1788 rfl rfl ?_
      obtain ⟨o_142, H⟩ := H
      obtain ⟨o_143, H⟩ := H
      obtain ⟨o_144, H⟩ := H
      exact rl_callV (As := []) (rest := []) mfX8_runScript dL_law_1789 lkL_201 o_144 (by decide) (Nat.le_of_ble_eq_true rfl) o_142 o_143 rfl (Nat.le_of_ble_eq_true rfl) rfl rfl (fun Qc k => H Qc (fun v h' w => k (some (.int v)) h' w))
    by_cases c_145 : ((hpI h a0 (x4).toNatClampNeg) &&& (nI 31)) = nI 29
    · have H := (H.2.2.2.2.2.2.2.2.2.2.2.2.2.2.2.2.2.2.2.2.2.2.2.2.2.2.2.2.2.1) c_145
      refine rl_tableIn (tgt := 1801) dL_law_50 (by rw [c_145]; decide) (by rw [c_145]; decide) (by rw [c_145]; rfl) (by decide) ?_
      refine rl_aload_n dL_law_1801 rfl rfl ?_
      refine rl_aload_n dL_law_1802 rfl rfl ?_
      obtain ⟨o_146, H⟩ := H
      obtain ⟨o_147, H⟩ := H
      exact rl_callW (As := [.ref a1, .ref a3]) (rest := []) mfL_undo dL_law_1803 lkL_205 (by decide) (Nat.le_of_ble_eq_true rfl) o_146 o_147 rfl (Nat.le_of_ble_eq_true rfl) rfl rfl (fun Qc k => H Qc (fun v h' w => k (some (.int v)) h' w))
    by_cases c_148 : ((hpI h a0 (x4).toNatClampNeg) &&& (nI 31)) = nI 30
    · have H := (H.2.2.2.2.2.2.2.2.2.2.2.2.2.2.2.2.2.2.2.2.2.2.2.2.2.2.2.2.2.2.1) c_148
      refine rl_tableIn (tgt := 1845) dL_law_50 (by rw [c_148]; decide) (by rw [c_148]; decide) (by rw [c_148]; rfl) (by decide) ?_
      refine rl_aload_n dL_law_1845 rfl rfl ?_
      obtain ⟨o_149, H⟩ := H
      obtain ⟨o_150, H⟩ := H
      obtain ⟨o_151, H⟩ := H
      exact rl_callV (As := []) (rest := []) mfX8_fingerprint dL_law_1846 lkL_209 o_151 (by decide) (Nat.le_of_ble_eq_true rfl) o_149 o_150 rfl (Nat.le_of_ble_eq_true rfl) rfl rfl (fun Qc k => H Qc (fun v h' w => k (some (.long v)) h' w))
    have H := (H.2.2.2.2.2.2.2.2.2.2.2.2.2.2.2.2.2.2.2.2.2.2.2.2.2.2.2.2.2.2.2) c_6 c_10 c_16 c_21 c_26 c_33 c_41 c_46 c_50 c_55 c_59 c_63 c_67 c_71 c_76 c_80 c_84 c_88 c_93 c_98 c_102 c_108 c_113 c_118 c_122 c_127 c_133 c_137 c_141 c_145 c_148
    refine rl_tableOut (tgt := 1859) dL_law_50 (by have g0 := lv_neT c_6 (a := 0) (by decide); have g1 := lv_neT c_10 (a := 1) (by decide); have g2 := lv_neT c_16 (a := 2) (by decide); have g3 := lv_neT c_21 (a := 3) (by decide); have g4 := lv_neT c_26 (a := 4) (by decide); have g5 := lv_neT c_33 (a := 5) (by decide); have g6 := lv_neT c_41 (a := 6) (by decide); have g7 := lv_neT c_46 (a := 7) (by decide); have g8 := lv_neT c_50 (a := 8) (by decide); have g9 := lv_neT c_55 (a := 9) (by decide); have g10 := lv_neT c_59 (a := 10) (by decide); have g11 := lv_neT c_63 (a := 11) (by decide); have g12 := lv_neT c_67 (a := 12) (by decide); have g13 := lv_neT c_71 (a := 13) (by decide); have g14 := lv_neT c_76 (a := 14) (by decide); have g15 := lv_neT c_80 (a := 15) (by decide); have g16 := lv_neT c_84 (a := 16) (by decide); have g17 := lv_neT c_88 (a := 17) (by decide); have g18 := lv_neT c_93 (a := 18) (by decide); have g19 := lv_neT c_98 (a := 19) (by decide); have g20 := lv_neT c_102 (a := 20) (by decide); have g21 := lv_neT c_108 (a := 21) (by decide); have g22 := lv_neT c_113 (a := 22) (by decide); have g23 := lv_neT c_118 (a := 23) (by decide); have g24 := lv_neT c_122 (a := 24) (by decide); have g25 := lv_neT c_127 (a := 25) (by decide); have g26 := lv_neT c_133 (a := 26) (by decide); have g27 := lv_neT c_137 (a := 27) (by decide); have g28 := lv_neT c_141 (a := 28) (by decide); have g29 := lv_neT c_145 (a := 29) (by decide); have g30 := lv_neT c_148 (a := 30) (by decide); omega) (by decide) ?_
    exact H
theorem bL_law_192 {Q : Nat → Option Value → Hp → Prop} {h : Hp} {mc ms nc ns : Nat} {a0 a1 a2 a3 : Nat} {x4 xs0 : Int32} (H : nc + 0 ≤ mc ∧ ns + 0 ≤ ms ∧ hpK h a2 = 19 ∧ CKi mX9_sites 0 0 0 [some (.ref a2)] h (fun v h' => Wm mL_law 11 mc ms Q 196 [some (.ref a0), some (.ref a1), some (.ref a2), some (.ref a3), some (.int x4), none, none] [.int v, .int xs0] h' nc ns)) : Wm mL_law 11 mc ms Q 192 [some (.ref a0), some (.ref a1), some (.ref a2), some (.ref a3), some (.int x4), none, none] [.int xs0] h nc ns := by
  refine rl_aload_n dL_law_192 rfl rfl ?_
  obtain ⟨o_1, H⟩ := H
  obtain ⟨o_2, H⟩ := H
  obtain ⟨o_3, H⟩ := H
  exact rl_callV (As := []) (rest := [.int xs0]) mfX9_sites dL_law_193 lkL_106 o_3 (by decide) (Nat.le_of_ble_eq_true rfl) o_1 o_2 rfl (Nat.le_of_ble_eq_true rfl) rfl rfl (fun Qc k => H Qc (fun v h' w => k (some (.int v)) h' w))
theorem bL_law_196 {Q : Nat → Option Value → Hp → Prop} {h : Hp} {mc ms nc ns : Nat} {a0 a1 a2 a3 : Nat} {x4 xs0 xs1 : Int32} (H : ((xs0 = xs1 → Wm mL_law 11 mc ms Q 1859 [some (.ref a0), some (.ref a1), some (.ref a2), some (.ref a3), some (.int x4), none, none] [] h nc ns) ∧ (¬ xs0 = xs1 → nc ≤ mc ∧ ns ≤ ms ∧ Q 0 (some (.int (nI 0))) h))) : Wm mL_law 11 mc ms Q 196 [some (.ref a0), some (.ref a1), some (.ref a2), some (.ref a3), some (.int x4), none, none] [.int xs1, .int xs0] h nc ns := by
  refine rl_icmp_eq (tgt := 1859) dL_law_196 (by decide) (fun c_1 => ?_) (fun c_1 => ?_)
  · have H := H.1 c_1
    exact H
  · have H := H.2 c_1
    refine rl_iconst (v := nI 0) dL_law_199 (by decide) ?_
    obtain ⟨o_2, H⟩ := H
    obtain ⟨o_3, H⟩ := H
    exact rl_zret dL_law_200 rfl rfl o_2 o_3 H
theorem bL_law_224 {Q : Nat → Option Value → Hp → Prop} {h : Hp} {mc ms nc ns : Nat} {a0 a1 a2 a3 : Nat} {x4 xs0 : Int32} (H : hpK h a0 = 2 ∧ vp_in (x4 + (nI 1)) (hpN h a0) ∧ vp_in (x4 + (nI 2)) (hpN h a0) ∧ vp_in (x4 + (nI 3)) (hpN h a0) ∧ nc + 0 ≤ mc ∧ ns + 0 ≤ ms ∧ hpK h a2 = 19 ∧ CKi mX9_begin 3 0 0 [some (.ref a2), some (.int (hpI h a0 (x4 + (nI 1)).toNatClampNeg)), some (.int (hpI h a0 (x4 + (nI 2)).toNatClampNeg)), some (.int (hpI h a0 (x4 + (nI 3)).toNatClampNeg)), none] h (fun v h' => Wm mL_law 11 mc ms Q 248 [some (.ref a0), some (.ref a1), some (.ref a2), some (.ref a3), some (.int x4), some (.int xs0), none] [.int v] h' nc ns)) : Wm mL_law 11 mc ms Q 224 [some (.ref a0), some (.ref a1), some (.ref a2), some (.ref a3), some (.int x4), none, none] [.int xs0] h nc ns := by
  refine rl_istore (L' := [some (.ref a0), some (.ref a1), some (.ref a2), some (.ref a3), some (.int x4), some (.int xs0), none]) dL_law_224 (Nat.le_of_ble_eq_true rfl) rfl ?_
  refine rl_aload_n dL_law_226 rfl rfl ?_
  refine rl_aload_n dL_law_227 rfl rfl ?_
  refine rl_iload dL_law_228 rfl ?_
  refine rl_iconst (v := nI 1) dL_law_230 (by decide) ?_
  refine rl_iadd dL_law_231 ?_
  obtain ⟨o_1, H⟩ := H
  obtain ⟨o_2, H⟩ := H
  refine rl_iald dL_law_232 (Or.inr o_1) o_2 ?_
  refine rl_aload_n dL_law_233 rfl rfl ?_
  refine rl_iload dL_law_234 rfl ?_
  refine rl_iconst (v := nI 2) dL_law_236 (by decide) ?_
  refine rl_iadd dL_law_237 ?_
  obtain ⟨o_3, H⟩ := H
  refine rl_iald dL_law_238 (Or.inr o_1) o_3 ?_
  refine rl_aload_n dL_law_239 rfl rfl ?_
  refine rl_iload dL_law_240 rfl ?_
  refine rl_iconst (v := nI 3) dL_law_242 (by decide) ?_
  refine rl_iadd dL_law_243 ?_
  obtain ⟨o_4, H⟩ := H
  refine rl_iald dL_law_244 (Or.inr o_1) o_4 ?_
  obtain ⟨o_5, H⟩ := H
  obtain ⟨o_6, H⟩ := H
  obtain ⟨o_7, H⟩ := H
  exact rl_callV (As := [.int (hpI h a0 (x4 + (nI 1)).toNatClampNeg), .int (hpI h a0 (x4 + (nI 2)).toNatClampNeg), .int (hpI h a0 (x4 + (nI 3)).toNatClampNeg)]) (rest := []) mfX9_begin dL_law_245 lkL_110 o_7 (by decide) (Nat.le_of_ble_eq_true rfl) o_5 o_6 rfl (Nat.le_of_ble_eq_true rfl) rfl rfl (fun Qc k => H Qc (fun v h' w => k (some (.int v)) h' w))
theorem bL_law_248 {Q : Nat → Option Value → Hp → Prop} {h : Hp} {mc ms nc ns : Nat} {a0 a1 a2 a3 : Nat} {x4 x5 xs0 : Int32} (H : nc + 0 ≤ mc ∧ ns + 0 ≤ ms ∧ hpK h a2 = 19 ∧ CKi mX9_thrown 0 0 0 [some (.ref a2)] h (fun v h' => Wm mL_law 11 mc ms Q 254 [some (.ref a0), some (.ref a1), some (.ref a2), some (.ref a3), some (.int x4), some (.int x5), some (.int xs0)] [.int v] h' nc ns)) : Wm mL_law 11 mc ms Q 248 [some (.ref a0), some (.ref a1), some (.ref a2), some (.ref a3), some (.int x4), some (.int x5), none] [.int xs0] h nc ns := by
  refine rl_istore (L' := [some (.ref a0), some (.ref a1), some (.ref a2), some (.ref a3), some (.int x4), some (.int x5), some (.int xs0)]) dL_law_248 (Nat.le_of_ble_eq_true rfl) rfl ?_
  refine rl_aload_n dL_law_250 rfl rfl ?_
  obtain ⟨o_1, H⟩ := H
  obtain ⟨o_2, H⟩ := H
  obtain ⟨o_3, H⟩ := H
  exact rl_callV (As := []) (rest := []) mfX9_thrown dL_law_251 lkL_111 o_3 (by decide) (Nat.le_of_ble_eq_true rfl) o_1 o_2 rfl (Nat.le_of_ble_eq_true rfl) rfl rfl (fun Qc k => H Qc (fun v h' w => k (some (.int v)) h' w))
theorem bL_law_254 {Q : Nat → Option Value → Hp → Prop} {h : Hp} {mc ms nc ns : Nat} {a0 a1 a2 a3 : Nat} {x4 x5 x6 xs0 : Int32} (H : ((xs0 = x5 → ((¬ x5 = 0 → Wm mL_law 11 mc ms Q 278 [some (.ref a0), some (.ref a1), some (.ref a2), some (.ref a3), some (.int x4), none, none] [] h nc ns) ∧ (x5 = 0 → hpK h a3 = 3 ∧ vp_in (nI 0) (hpN h a3) ∧ (((lg_cmp (hpJ h a3 (nI 0).toNatClampNeg) ((x6).toInt64)) = 0 → Wm mL_law 11 mc ms Q 278 [some (.ref a0), some (.ref a1), some (.ref a2), some (.ref a3), some (.int x4), none, none] [] h nc ns) ∧ (¬ (lg_cmp (hpJ h a3 (nI 0).toNatClampNeg) ((x6).toInt64)) = 0 → nc ≤ mc ∧ ns ≤ ms ∧ Q 0 (some (.int (nI 0))) h))))) ∧ (¬ xs0 = x5 → nc ≤ mc ∧ ns ≤ ms ∧ Q 0 (some (.int (nI 0))) h))) : Wm mL_law 11 mc ms Q 254 [some (.ref a0), some (.ref a1), some (.ref a2), some (.ref a3), some (.int x4), some (.int x5), some (.int x6)] [.int xs0] h nc ns := by
  refine rl_iload dL_law_254 rfl ?_
  refine rl_icmp_eq (tgt := 261) dL_law_256 (by decide) (fun c_1 => ?_) (fun c_1 => ?_)
  · have H := H.1 c_1
    refine rl_iload dL_law_261 rfl ?_
    refine rl_if_ne (tgt := 278) dL_law_263 (by decide) (fun c_2 => ?_) (fun c_2 => ?_)
    · have H := H.1 c_2
      refine rl_wk (L' := [some (.ref a0), some (.ref a1), some (.ref a2), some (.ref a3), some (.int x4), none, none]) ⟨rfl, ⟨rfl, ⟨rfl, ⟨rfl, ⟨rfl, trivial⟩⟩⟩⟩⟩ ?_
      exact H
    · have H := H.2 c_2
      refine rl_aload_n dL_law_266 rfl rfl ?_
      refine rl_iconst (v := nI 0) dL_law_267 (by decide) ?_
      obtain ⟨o_3, H⟩ := H
      obtain ⟨o_4, H⟩ := H
      refine rl_lald dL_law_268 o_3 o_4 ?_
      refine rl_iload dL_law_269 rfl ?_
      refine rl_i2l dL_law_271 ?_
      refine rl_lcmp dL_law_272 ?_
      refine rl_if_eq (tgt := 278) dL_law_273 (by decide) (fun c_5 => ?_) (fun c_5 => ?_)
      · have H := H.1 c_5
        refine rl_wk (L' := [some (.ref a0), some (.ref a1), some (.ref a2), some (.ref a3), some (.int x4), none, none]) ⟨rfl, ⟨rfl, ⟨rfl, ⟨rfl, ⟨rfl, trivial⟩⟩⟩⟩⟩ ?_
        exact H
      · have H := H.2 c_5
        refine rl_iconst (v := nI 0) dL_law_276 (by decide) ?_
        obtain ⟨o_6, H⟩ := H
        obtain ⟨o_7, H⟩ := H
        exact rl_zret dL_law_277 rfl rfl o_6 o_7 H
  · have H := H.2 c_1
    refine rl_iconst (v := nI 0) dL_law_259 (by decide) ?_
    obtain ⟨o_8, H⟩ := H
    obtain ⟨o_9, H⟩ := H
    exact rl_zret dL_law_260 rfl rfl o_8 o_9 H
theorem bL_law_278 {Q : Nat → Option Value → Hp → Prop} {h : Hp} {mc ms nc ns : Nat} {a0 a1 a2 a3 : Nat} {x4 : Int32} (H : Wm mL_law 11 mc ms Q 1859 [some (.ref a0), some (.ref a1), some (.ref a2), some (.ref a3), some (.int x4), none, none] [] h nc ns) : Wm mL_law 11 mc ms Q 278 [some (.ref a0), some (.ref a1), some (.ref a2), some (.ref a3), some (.int x4), none, none] [] h nc ns := by
  refine rl_goto (tgt := 1859) dL_law_278 (by decide) ?_
  exact H
theorem bL_law_298 {Q : Nat → Option Value → Hp → Prop} {h : Hp} {mc ms nc ns : Nat} {a0 a1 a2 a3 : Nat} {x4 xs0 : Int32} (H : hpK h a0 = 2 ∧ vp_in (x4 + (nI 1)) (hpN h a0) ∧ vp_in (x4 + (nI 2)) (hpN h a0) ∧ nc + 0 ≤ mc ∧ ns + 0 ≤ ms ∧ hpK h a2 = 19 ∧ CKi mX9_increase 7 0 0 [some (.ref a2), some (.int (hpI h a0 (x4 + (nI 1)).toNatClampNeg)), some (.int (hpI h a0 (x4 + (nI 2)).toNatClampNeg))] h (fun v h' => Wm mL_law 11 mc ms Q 316 [some (.ref a0), some (.ref a1), some (.ref a2), some (.ref a3), some (.int x4), some (.int xs0), none] [.int v] h' nc ns)) : Wm mL_law 11 mc ms Q 298 [some (.ref a0), some (.ref a1), some (.ref a2), some (.ref a3), some (.int x4), none, none] [.int xs0] h nc ns := by
  refine rl_istore (L' := [some (.ref a0), some (.ref a1), some (.ref a2), some (.ref a3), some (.int x4), some (.int xs0), none]) dL_law_298 (Nat.le_of_ble_eq_true rfl) rfl ?_
  refine rl_aload_n dL_law_300 rfl rfl ?_
  refine rl_aload_n dL_law_301 rfl rfl ?_
  refine rl_iload dL_law_302 rfl ?_
  refine rl_iconst (v := nI 1) dL_law_304 (by decide) ?_
  refine rl_iadd dL_law_305 ?_
  obtain ⟨o_1, H⟩ := H
  obtain ⟨o_2, H⟩ := H
  refine rl_iald dL_law_306 (Or.inr o_1) o_2 ?_
  refine rl_aload_n dL_law_307 rfl rfl ?_
  refine rl_iload dL_law_308 rfl ?_
  refine rl_iconst (v := nI 2) dL_law_310 (by decide) ?_
  refine rl_iadd dL_law_311 ?_
  obtain ⟨o_3, H⟩ := H
  refine rl_iald dL_law_312 (Or.inr o_1) o_3 ?_
  obtain ⟨o_4, H⟩ := H
  obtain ⟨o_5, H⟩ := H
  obtain ⟨o_6, H⟩ := H
  exact rl_callV (As := [.int (hpI h a0 (x4 + (nI 1)).toNatClampNeg), .int (hpI h a0 (x4 + (nI 2)).toNatClampNeg)]) (rest := []) mfX9_increase dL_law_313 lkL_117 o_6 (by decide) (Nat.le_of_ble_eq_true rfl) o_4 o_5 rfl (Nat.le_of_ble_eq_true rfl) rfl rfl (fun Qc k => H Qc (fun v h' w => k (some (.int v)) h' w))
theorem bL_law_316 {Q : Nat → Option Value → Hp → Prop} {h : Hp} {mc ms nc ns : Nat} {a0 a1 a2 a3 : Nat} {x4 x5 xs0 : Int32} (H : nc + 0 ≤ mc ∧ ns + 0 ≤ ms ∧ hpK h a2 = 19 ∧ CKi mX9_thrown 0 0 0 [some (.ref a2)] h (fun v h' => Wm mL_law 11 mc ms Q 322 [some (.ref a0), some (.ref a1), some (.ref a2), some (.ref a3), some (.int x4), some (.int x5), some (.int xs0)] [.int v] h' nc ns)) : Wm mL_law 11 mc ms Q 316 [some (.ref a0), some (.ref a1), some (.ref a2), some (.ref a3), some (.int x4), some (.int x5), none] [.int xs0] h nc ns := by
  refine rl_istore (L' := [some (.ref a0), some (.ref a1), some (.ref a2), some (.ref a3), some (.int x4), some (.int x5), some (.int xs0)]) dL_law_316 (Nat.le_of_ble_eq_true rfl) rfl ?_
  refine rl_aload_n dL_law_318 rfl rfl ?_
  obtain ⟨o_1, H⟩ := H
  obtain ⟨o_2, H⟩ := H
  obtain ⟨o_3, H⟩ := H
  exact rl_callV (As := []) (rest := []) mfX9_thrown dL_law_319 lkL_111 o_3 (by decide) (Nat.le_of_ble_eq_true rfl) o_1 o_2 rfl (Nat.le_of_ble_eq_true rfl) rfl rfl (fun Qc k => H Qc (fun v h' w => k (some (.int v)) h' w))
theorem bL_law_322 {Q : Nat → Option Value → Hp → Prop} {h : Hp} {mc ms nc ns : Nat} {a0 a1 a2 a3 : Nat} {x4 x5 x6 xs0 : Int32} (H : ((xs0 = x5 → ((¬ x5 = 0 → Wm mL_law 11 mc ms Q 353 [some (.ref a0), some (.ref a1), some (.ref a2), some (.ref a3), some (.int x4), none, none] [] h nc ns) ∧ (x5 = 0 → hpK h a3 = 3 ∧ vp_in (nI 0) (hpN h a3) ∧ ((x6 = 0 → (((lg_cmp (hpJ h a3 (nI 0).toNatClampNeg) 0) = 0 → Wm mL_law 11 mc ms Q 353 [some (.ref a0), some (.ref a1), some (.ref a2), some (.ref a3), some (.int x4), none, none] [] h nc ns) ∧ (¬ (lg_cmp (hpJ h a3 (nI 0).toNatClampNeg) 0) = 0 → nc ≤ mc ∧ ns ≤ ms ∧ Q 0 (some (.int (nI 0))) h))) ∧ (¬ x6 = 0 → (((lg_cmp (hpJ h a3 (nI 0).toNatClampNeg) 1) = 0 → Wm mL_law 11 mc ms Q 353 [some (.ref a0), some (.ref a1), some (.ref a2), some (.ref a3), some (.int x4), none, none] [] h nc ns) ∧ (¬ (lg_cmp (hpJ h a3 (nI 0).toNatClampNeg) 1) = 0 → nc ≤ mc ∧ ns ≤ ms ∧ Q 0 (some (.int (nI 0))) h))))))) ∧ (¬ xs0 = x5 → nc ≤ mc ∧ ns ≤ ms ∧ Q 0 (some (.int (nI 0))) h))) : Wm mL_law 11 mc ms Q 322 [some (.ref a0), some (.ref a1), some (.ref a2), some (.ref a3), some (.int x4), some (.int x5), some (.int x6)] [.int xs0] h nc ns := by
  refine rl_iload dL_law_322 rfl ?_
  refine rl_icmp_eq (tgt := 329) dL_law_324 (by decide) (fun c_1 => ?_) (fun c_1 => ?_)
  · have H := H.1 c_1
    refine rl_iload dL_law_329 rfl ?_
    refine rl_if_ne (tgt := 353) dL_law_331 (by decide) (fun c_2 => ?_) (fun c_2 => ?_)
    · have H := H.1 c_2
      refine rl_wk (L' := [some (.ref a0), some (.ref a1), some (.ref a2), some (.ref a3), some (.int x4), none, none]) ⟨rfl, ⟨rfl, ⟨rfl, ⟨rfl, ⟨rfl, trivial⟩⟩⟩⟩⟩ ?_
      exact H
    · have H := H.2 c_2
      refine rl_aload_n dL_law_334 rfl rfl ?_
      refine rl_iconst (v := nI 0) dL_law_335 (by decide) ?_
      obtain ⟨o_3, H⟩ := H
      obtain ⟨o_4, H⟩ := H
      refine rl_lald dL_law_336 o_3 o_4 ?_
      refine rl_iload dL_law_337 rfl ?_
      refine rl_if_eq (tgt := 346) dL_law_339 (by decide) (fun c_5 => ?_) (fun c_5 => ?_)
      · have H := H.1 c_5
        refine rl_lconst (v := 0) dL_law_346 rfl ?_
        refine rl_lcmp dL_law_347 ?_
        refine rl_if_eq (tgt := 353) dL_law_348 (by decide) (fun c_6 => ?_) (fun c_6 => ?_)
        · have H := H.1 c_6
          refine rl_wk (L' := [some (.ref a0), some (.ref a1), some (.ref a2), some (.ref a3), some (.int x4), none, none]) ⟨rfl, ⟨rfl, ⟨rfl, ⟨rfl, ⟨rfl, trivial⟩⟩⟩⟩⟩ ?_
          exact H
        · have H := H.2 c_6
          refine rl_iconst (v := nI 0) dL_law_351 (by decide) ?_
          obtain ⟨o_7, H⟩ := H
          obtain ⟨o_8, H⟩ := H
          exact rl_zret dL_law_352 rfl rfl o_7 o_8 H
      · have H := H.2 c_5
        refine rl_lconst (v := 1) dL_law_342 rfl ?_
        refine rl_goto (tgt := 347) dL_law_343 (by decide) ?_
        refine rl_lcmp dL_law_347 ?_
        refine rl_if_eq (tgt := 353) dL_law_348 (by decide) (fun c_9 => ?_) (fun c_9 => ?_)
        · have H := H.1 c_9
          refine rl_wk (L' := [some (.ref a0), some (.ref a1), some (.ref a2), some (.ref a3), some (.int x4), none, none]) ⟨rfl, ⟨rfl, ⟨rfl, ⟨rfl, ⟨rfl, trivial⟩⟩⟩⟩⟩ ?_
          exact H
        · have H := H.2 c_9
          refine rl_iconst (v := nI 0) dL_law_351 (by decide) ?_
          obtain ⟨o_10, H⟩ := H
          obtain ⟨o_11, H⟩ := H
          exact rl_zret dL_law_352 rfl rfl o_10 o_11 H
  · have H := H.2 c_1
    refine rl_iconst (v := nI 0) dL_law_327 (by decide) ?_
    obtain ⟨o_12, H⟩ := H
    obtain ⟨o_13, H⟩ := H
    exact rl_zret dL_law_328 rfl rfl o_12 o_13 H
theorem bL_law_353 {Q : Nat → Option Value → Hp → Prop} {h : Hp} {mc ms nc ns : Nat} {a0 a1 a2 a3 : Nat} {x4 : Int32} (H : Wm mL_law 11 mc ms Q 1859 [some (.ref a0), some (.ref a1), some (.ref a2), some (.ref a3), some (.int x4), none, none] [] h nc ns) : Wm mL_law 11 mc ms Q 353 [some (.ref a0), some (.ref a1), some (.ref a2), some (.ref a3), some (.int x4), none, none] [] h nc ns := by
  refine rl_goto (tgt := 1859) dL_law_353 (by decide) ?_
  exact H
theorem bL_law_373 {Q : Nat → Option Value → Hp → Prop} {h : Hp} {mc ms nc ns : Nat} {a0 a1 a2 a3 : Nat} {x4 xs0 : Int32} (H : hpK h a0 = 2 ∧ vp_in (x4 + (nI 1)) (hpN h a0) ∧ vp_in (x4 + (nI 2)) (hpN h a0) ∧ nc + 0 ≤ mc ∧ ns + 0 ≤ ms ∧ hpK h a2 = 19 ∧ CKi mX9_decrease 7 0 0 [some (.ref a2), some (.int (hpI h a0 (x4 + (nI 1)).toNatClampNeg)), some (.int (hpI h a0 (x4 + (nI 2)).toNatClampNeg))] h (fun v h' => Wm mL_law 11 mc ms Q 391 [some (.ref a0), some (.ref a1), some (.ref a2), some (.ref a3), some (.int x4), some (.int xs0), none] [.int v] h' nc ns)) : Wm mL_law 11 mc ms Q 373 [some (.ref a0), some (.ref a1), some (.ref a2), some (.ref a3), some (.int x4), none, none] [.int xs0] h nc ns := by
  refine rl_istore (L' := [some (.ref a0), some (.ref a1), some (.ref a2), some (.ref a3), some (.int x4), some (.int xs0), none]) dL_law_373 (Nat.le_of_ble_eq_true rfl) rfl ?_
  refine rl_aload_n dL_law_375 rfl rfl ?_
  refine rl_aload_n dL_law_376 rfl rfl ?_
  refine rl_iload dL_law_377 rfl ?_
  refine rl_iconst (v := nI 1) dL_law_379 (by decide) ?_
  refine rl_iadd dL_law_380 ?_
  obtain ⟨o_1, H⟩ := H
  obtain ⟨o_2, H⟩ := H
  refine rl_iald dL_law_381 (Or.inr o_1) o_2 ?_
  refine rl_aload_n dL_law_382 rfl rfl ?_
  refine rl_iload dL_law_383 rfl ?_
  refine rl_iconst (v := nI 2) dL_law_385 (by decide) ?_
  refine rl_iadd dL_law_386 ?_
  obtain ⟨o_3, H⟩ := H
  refine rl_iald dL_law_387 (Or.inr o_1) o_3 ?_
  obtain ⟨o_4, H⟩ := H
  obtain ⟨o_5, H⟩ := H
  obtain ⟨o_6, H⟩ := H
  exact rl_callV (As := [.int (hpI h a0 (x4 + (nI 1)).toNatClampNeg), .int (hpI h a0 (x4 + (nI 2)).toNatClampNeg)]) (rest := []) mfX9_decrease dL_law_388 lkL_120 o_6 (by decide) (Nat.le_of_ble_eq_true rfl) o_4 o_5 rfl (Nat.le_of_ble_eq_true rfl) rfl rfl (fun Qc k => H Qc (fun v h' w => k (some (.int v)) h' w))
theorem bL_law_391 {Q : Nat → Option Value → Hp → Prop} {h : Hp} {mc ms nc ns : Nat} {a0 a1 a2 a3 : Nat} {x4 x5 xs0 : Int32} (H : nc + 0 ≤ mc ∧ ns + 0 ≤ ms ∧ hpK h a2 = 19 ∧ CKi mX9_thrown 0 0 0 [some (.ref a2)] h (fun v h' => Wm mL_law 11 mc ms Q 397 [some (.ref a0), some (.ref a1), some (.ref a2), some (.ref a3), some (.int x4), some (.int x5), some (.int xs0)] [.int v] h' nc ns)) : Wm mL_law 11 mc ms Q 391 [some (.ref a0), some (.ref a1), some (.ref a2), some (.ref a3), some (.int x4), some (.int x5), none] [.int xs0] h nc ns := by
  refine rl_istore (L' := [some (.ref a0), some (.ref a1), some (.ref a2), some (.ref a3), some (.int x4), some (.int x5), some (.int xs0)]) dL_law_391 (Nat.le_of_ble_eq_true rfl) rfl ?_
  refine rl_aload_n dL_law_393 rfl rfl ?_
  obtain ⟨o_1, H⟩ := H
  obtain ⟨o_2, H⟩ := H
  obtain ⟨o_3, H⟩ := H
  exact rl_callV (As := []) (rest := []) mfX9_thrown dL_law_394 lkL_111 o_3 (by decide) (Nat.le_of_ble_eq_true rfl) o_1 o_2 rfl (Nat.le_of_ble_eq_true rfl) rfl rfl (fun Qc k => H Qc (fun v h' w => k (some (.int v)) h' w))
theorem bL_law_397 {Q : Nat → Option Value → Hp → Prop} {h : Hp} {mc ms nc ns : Nat} {a0 a1 a2 a3 : Nat} {x4 x5 x6 xs0 : Int32} (H : ((xs0 = x5 → ((¬ x5 = 0 → Wm mL_law 11 mc ms Q 428 [some (.ref a0), some (.ref a1), some (.ref a2), some (.ref a3), some (.int x4), none, none] [] h nc ns) ∧ (x5 = 0 → hpK h a3 = 3 ∧ vp_in (nI 0) (hpN h a3) ∧ ((x6 = 0 → (((lg_cmp (hpJ h a3 (nI 0).toNatClampNeg) 0) = 0 → Wm mL_law 11 mc ms Q 428 [some (.ref a0), some (.ref a1), some (.ref a2), some (.ref a3), some (.int x4), none, none] [] h nc ns) ∧ (¬ (lg_cmp (hpJ h a3 (nI 0).toNatClampNeg) 0) = 0 → nc ≤ mc ∧ ns ≤ ms ∧ Q 0 (some (.int (nI 0))) h))) ∧ (¬ x6 = 0 → (((lg_cmp (hpJ h a3 (nI 0).toNatClampNeg) 1) = 0 → Wm mL_law 11 mc ms Q 428 [some (.ref a0), some (.ref a1), some (.ref a2), some (.ref a3), some (.int x4), none, none] [] h nc ns) ∧ (¬ (lg_cmp (hpJ h a3 (nI 0).toNatClampNeg) 1) = 0 → nc ≤ mc ∧ ns ≤ ms ∧ Q 0 (some (.int (nI 0))) h))))))) ∧ (¬ xs0 = x5 → nc ≤ mc ∧ ns ≤ ms ∧ Q 0 (some (.int (nI 0))) h))) : Wm mL_law 11 mc ms Q 397 [some (.ref a0), some (.ref a1), some (.ref a2), some (.ref a3), some (.int x4), some (.int x5), some (.int x6)] [.int xs0] h nc ns := by
  refine rl_iload dL_law_397 rfl ?_
  refine rl_icmp_eq (tgt := 404) dL_law_399 (by decide) (fun c_1 => ?_) (fun c_1 => ?_)
  · have H := H.1 c_1
    refine rl_iload dL_law_404 rfl ?_
    refine rl_if_ne (tgt := 428) dL_law_406 (by decide) (fun c_2 => ?_) (fun c_2 => ?_)
    · have H := H.1 c_2
      refine rl_wk (L' := [some (.ref a0), some (.ref a1), some (.ref a2), some (.ref a3), some (.int x4), none, none]) ⟨rfl, ⟨rfl, ⟨rfl, ⟨rfl, ⟨rfl, trivial⟩⟩⟩⟩⟩ ?_
      exact H
    · have H := H.2 c_2
      refine rl_aload_n dL_law_409 rfl rfl ?_
      refine rl_iconst (v := nI 0) dL_law_410 (by decide) ?_
      obtain ⟨o_3, H⟩ := H
      obtain ⟨o_4, H⟩ := H
      refine rl_lald dL_law_411 o_3 o_4 ?_
      refine rl_iload dL_law_412 rfl ?_
      refine rl_if_eq (tgt := 421) dL_law_414 (by decide) (fun c_5 => ?_) (fun c_5 => ?_)
      · have H := H.1 c_5
        refine rl_lconst (v := 0) dL_law_421 rfl ?_
        refine rl_lcmp dL_law_422 ?_
        refine rl_if_eq (tgt := 428) dL_law_423 (by decide) (fun c_6 => ?_) (fun c_6 => ?_)
        · have H := H.1 c_6
          refine rl_wk (L' := [some (.ref a0), some (.ref a1), some (.ref a2), some (.ref a3), some (.int x4), none, none]) ⟨rfl, ⟨rfl, ⟨rfl, ⟨rfl, ⟨rfl, trivial⟩⟩⟩⟩⟩ ?_
          exact H
        · have H := H.2 c_6
          refine rl_iconst (v := nI 0) dL_law_426 (by decide) ?_
          obtain ⟨o_7, H⟩ := H
          obtain ⟨o_8, H⟩ := H
          exact rl_zret dL_law_427 rfl rfl o_7 o_8 H
      · have H := H.2 c_5
        refine rl_lconst (v := 1) dL_law_417 rfl ?_
        refine rl_goto (tgt := 422) dL_law_418 (by decide) ?_
        refine rl_lcmp dL_law_422 ?_
        refine rl_if_eq (tgt := 428) dL_law_423 (by decide) (fun c_9 => ?_) (fun c_9 => ?_)
        · have H := H.1 c_9
          refine rl_wk (L' := [some (.ref a0), some (.ref a1), some (.ref a2), some (.ref a3), some (.int x4), none, none]) ⟨rfl, ⟨rfl, ⟨rfl, ⟨rfl, ⟨rfl, trivial⟩⟩⟩⟩⟩ ?_
          exact H
        · have H := H.2 c_9
          refine rl_iconst (v := nI 0) dL_law_426 (by decide) ?_
          obtain ⟨o_10, H⟩ := H
          obtain ⟨o_11, H⟩ := H
          exact rl_zret dL_law_427 rfl rfl o_10 o_11 H
  · have H := H.2 c_1
    refine rl_iconst (v := nI 0) dL_law_402 (by decide) ?_
    obtain ⟨o_12, H⟩ := H
    obtain ⟨o_13, H⟩ := H
    exact rl_zret dL_law_403 rfl rfl o_12 o_13 H
theorem bL_law_428 {Q : Nat → Option Value → Hp → Prop} {h : Hp} {mc ms nc ns : Nat} {a0 a1 a2 a3 : Nat} {x4 : Int32} (H : Wm mL_law 11 mc ms Q 1859 [some (.ref a0), some (.ref a1), some (.ref a2), some (.ref a3), some (.int x4), none, none] [] h nc ns) : Wm mL_law 11 mc ms Q 428 [some (.ref a0), some (.ref a1), some (.ref a2), some (.ref a3), some (.int x4), none, none] [] h nc ns := by
  refine rl_goto (tgt := 1859) dL_law_428 (by decide) ?_
  exact H
theorem bL_law_460 {Q : Nat → Option Value → Hp → Prop} {h : Hp} {mc ms nc ns : Nat} {a0 a1 a2 a3 : Nat} {x4 xs0 : Int32} (H : hpK h a0 = 2 ∧ vp_in (x4 + (nI 1)) (hpN h a0) ∧ vp_in (x4 + (nI 2)) (hpN h a0) ∧ vp_in (x4 + (nI 3)) (hpN h a0) ∧ vp_in (x4 + (nI 4)) (hpN h a0) ∧ nc + 0 ≤ mc ∧ ns + 0 ≤ ms ∧ hpK h a2 = 19 ∧ CKi mX9_transfer 4 0 0 [some (.ref a2), some (.int (hpI h a0 (x4 + (nI 1)).toNatClampNeg)), some (.int (hpI h a0 (x4 + (nI 2)).toNatClampNeg)), some (.int (hpI h a0 (x4 + (nI 3)).toNatClampNeg)), some (.int (hpI h a0 (x4 + (nI 4)).toNatClampNeg))] h (fun v h' => Wm mL_law 11 mc ms Q 490 [some (.ref a0), some (.ref a1), some (.ref a2), some (.ref a3), some (.int x4), some (.int xs0), none] [.int v] h' nc ns)) : Wm mL_law 11 mc ms Q 460 [some (.ref a0), some (.ref a1), some (.ref a2), some (.ref a3), some (.int x4), none, none] [.int xs0] h nc ns := by
  refine rl_istore (L' := [some (.ref a0), some (.ref a1), some (.ref a2), some (.ref a3), some (.int x4), some (.int xs0), none]) dL_law_460 (Nat.le_of_ble_eq_true rfl) rfl ?_
  refine rl_aload_n dL_law_462 rfl rfl ?_
  refine rl_aload_n dL_law_463 rfl rfl ?_
  refine rl_iload dL_law_464 rfl ?_
  refine rl_iconst (v := nI 1) dL_law_466 (by decide) ?_
  refine rl_iadd dL_law_467 ?_
  obtain ⟨o_1, H⟩ := H
  obtain ⟨o_2, H⟩ := H
  refine rl_iald dL_law_468 (Or.inr o_1) o_2 ?_
  refine rl_aload_n dL_law_469 rfl rfl ?_
  refine rl_iload dL_law_470 rfl ?_
  refine rl_iconst (v := nI 2) dL_law_472 (by decide) ?_
  refine rl_iadd dL_law_473 ?_
  obtain ⟨o_3, H⟩ := H
  refine rl_iald dL_law_474 (Or.inr o_1) o_3 ?_
  refine rl_aload_n dL_law_475 rfl rfl ?_
  refine rl_iload dL_law_476 rfl ?_
  refine rl_iconst (v := nI 3) dL_law_478 (by decide) ?_
  refine rl_iadd dL_law_479 ?_
  obtain ⟨o_4, H⟩ := H
  refine rl_iald dL_law_480 (Or.inr o_1) o_4 ?_
  refine rl_aload_n dL_law_481 rfl rfl ?_
  refine rl_iload dL_law_482 rfl ?_
  refine rl_iconst (v := nI 4) dL_law_484 (by decide) ?_
  refine rl_iadd dL_law_485 ?_
  obtain ⟨o_5, H⟩ := H
  refine rl_iald dL_law_486 (Or.inr o_1) o_5 ?_
  obtain ⟨o_6, H⟩ := H
  obtain ⟨o_7, H⟩ := H
  obtain ⟨o_8, H⟩ := H
  exact rl_callV (As := [.int (hpI h a0 (x4 + (nI 1)).toNatClampNeg), .int (hpI h a0 (x4 + (nI 2)).toNatClampNeg), .int (hpI h a0 (x4 + (nI 3)).toNatClampNeg), .int (hpI h a0 (x4 + (nI 4)).toNatClampNeg)]) (rest := []) mfX9_transfer dL_law_487 lkL_124 o_8 (by decide) (Nat.le_of_ble_eq_true rfl) o_6 o_7 rfl (Nat.le_of_ble_eq_true rfl) rfl rfl (fun Qc k => H Qc (fun v h' w => k (some (.int v)) h' w))
theorem bL_law_490 {Q : Nat → Option Value → Hp → Prop} {h : Hp} {mc ms nc ns : Nat} {a0 a1 a2 a3 : Nat} {x4 x5 xs0 : Int32} (H : nc + 0 ≤ mc ∧ ns + 0 ≤ ms ∧ hpK h a2 = 19 ∧ CKi mX9_thrown 0 0 0 [some (.ref a2)] h (fun v h' => Wm mL_law 11 mc ms Q 496 [some (.ref a0), some (.ref a1), some (.ref a2), some (.ref a3), some (.int x4), some (.int x5), some (.int xs0)] [.int v] h' nc ns)) : Wm mL_law 11 mc ms Q 490 [some (.ref a0), some (.ref a1), some (.ref a2), some (.ref a3), some (.int x4), some (.int x5), none] [.int xs0] h nc ns := by
  refine rl_istore (L' := [some (.ref a0), some (.ref a1), some (.ref a2), some (.ref a3), some (.int x4), some (.int x5), some (.int xs0)]) dL_law_490 (Nat.le_of_ble_eq_true rfl) rfl ?_
  refine rl_aload_n dL_law_492 rfl rfl ?_
  obtain ⟨o_1, H⟩ := H
  obtain ⟨o_2, H⟩ := H
  obtain ⟨o_3, H⟩ := H
  exact rl_callV (As := []) (rest := []) mfX9_thrown dL_law_493 lkL_111 o_3 (by decide) (Nat.le_of_ble_eq_true rfl) o_1 o_2 rfl (Nat.le_of_ble_eq_true rfl) rfl rfl (fun Qc k => H Qc (fun v h' w => k (some (.int v)) h' w))
theorem bL_law_496 {Q : Nat → Option Value → Hp → Prop} {h : Hp} {mc ms nc ns : Nat} {a0 a1 a2 a3 : Nat} {x4 x5 x6 xs0 : Int32} (H : ((xs0 = x5 → ((¬ x5 = 0 → Wm mL_law 11 mc ms Q 520 [some (.ref a0), some (.ref a1), some (.ref a2), some (.ref a3), some (.int x4), none, none] [] h nc ns) ∧ (x5 = 0 → hpK h a3 = 3 ∧ vp_in (nI 0) (hpN h a3) ∧ (((lg_cmp (hpJ h a3 (nI 0).toNatClampNeg) ((x6).toInt64)) = 0 → Wm mL_law 11 mc ms Q 520 [some (.ref a0), some (.ref a1), some (.ref a2), some (.ref a3), some (.int x4), none, none] [] h nc ns) ∧ (¬ (lg_cmp (hpJ h a3 (nI 0).toNatClampNeg) ((x6).toInt64)) = 0 → nc ≤ mc ∧ ns ≤ ms ∧ Q 0 (some (.int (nI 0))) h))))) ∧ (¬ xs0 = x5 → nc ≤ mc ∧ ns ≤ ms ∧ Q 0 (some (.int (nI 0))) h))) : Wm mL_law 11 mc ms Q 496 [some (.ref a0), some (.ref a1), some (.ref a2), some (.ref a3), some (.int x4), some (.int x5), some (.int x6)] [.int xs0] h nc ns := by
  refine rl_iload dL_law_496 rfl ?_
  refine rl_icmp_eq (tgt := 503) dL_law_498 (by decide) (fun c_1 => ?_) (fun c_1 => ?_)
  · have H := H.1 c_1
    refine rl_iload dL_law_503 rfl ?_
    refine rl_if_ne (tgt := 520) dL_law_505 (by decide) (fun c_2 => ?_) (fun c_2 => ?_)
    · have H := H.1 c_2
      refine rl_wk (L' := [some (.ref a0), some (.ref a1), some (.ref a2), some (.ref a3), some (.int x4), none, none]) ⟨rfl, ⟨rfl, ⟨rfl, ⟨rfl, ⟨rfl, trivial⟩⟩⟩⟩⟩ ?_
      exact H
    · have H := H.2 c_2
      refine rl_aload_n dL_law_508 rfl rfl ?_
      refine rl_iconst (v := nI 0) dL_law_509 (by decide) ?_
      obtain ⟨o_3, H⟩ := H
      obtain ⟨o_4, H⟩ := H
      refine rl_lald dL_law_510 o_3 o_4 ?_
      refine rl_iload dL_law_511 rfl ?_
      refine rl_i2l dL_law_513 ?_
      refine rl_lcmp dL_law_514 ?_
      refine rl_if_eq (tgt := 520) dL_law_515 (by decide) (fun c_5 => ?_) (fun c_5 => ?_)
      · have H := H.1 c_5
        refine rl_wk (L' := [some (.ref a0), some (.ref a1), some (.ref a2), some (.ref a3), some (.int x4), none, none]) ⟨rfl, ⟨rfl, ⟨rfl, ⟨rfl, ⟨rfl, trivial⟩⟩⟩⟩⟩ ?_
        exact H
      · have H := H.2 c_5
        refine rl_iconst (v := nI 0) dL_law_518 (by decide) ?_
        obtain ⟨o_6, H⟩ := H
        obtain ⟨o_7, H⟩ := H
        exact rl_zret dL_law_519 rfl rfl o_6 o_7 H
  · have H := H.2 c_1
    refine rl_iconst (v := nI 0) dL_law_501 (by decide) ?_
    obtain ⟨o_8, H⟩ := H
    obtain ⟨o_9, H⟩ := H
    exact rl_zret dL_law_502 rfl rfl o_8 o_9 H
theorem bL_law_520 {Q : Nat → Option Value → Hp → Prop} {h : Hp} {mc ms nc ns : Nat} {a0 a1 a2 a3 : Nat} {x4 : Int32} (H : Wm mL_law 11 mc ms Q 1859 [some (.ref a0), some (.ref a1), some (.ref a2), some (.ref a3), some (.int x4), none, none] [] h nc ns) : Wm mL_law 11 mc ms Q 520 [some (.ref a0), some (.ref a1), some (.ref a2), some (.ref a3), some (.int x4), none, none] [] h nc ns := by
  refine rl_goto (tgt := 1859) dL_law_520 (by decide) ?_
  exact H
theorem bL_law_558 {Q : Nat → Option Value → Hp → Prop} {h : Hp} {mc ms nc ns : Nat} {a0 a1 a2 a3 : Nat} {x4 xs0 : Int32} (H : hpK h a0 = 2 ∧ vp_in (x4 + (nI 1)) (hpN h a0) ∧ vp_in (x4 + (nI 2)) (hpN h a0) ∧ vp_in (x4 + (nI 3)) (hpN h a0) ∧ vp_in (x4 + (nI 4)) (hpN h a0) ∧ vp_in (x4 + (nI 5)) (hpN h a0) ∧ nc + 0 ≤ mc ∧ ns + 0 ≤ ms ∧ hpK h a2 = 19 ∧ CKi mX9_lend 4 0 0 [some (.ref a2), some (.int (hpI h a0 (x4 + (nI 1)).toNatClampNeg)), some (.int (hpI h a0 (x4 + (nI 2)).toNatClampNeg)), some (.int (hpI h a0 (x4 + (nI 3)).toNatClampNeg)), some (.int (hpI h a0 (x4 + (nI 4)).toNatClampNeg)), some (.int (hpI h a0 (x4 + (nI 5)).toNatClampNeg)), none, none] h (fun v h' => Wm mL_law 11 mc ms Q 594 [some (.ref a0), some (.ref a1), some (.ref a2), some (.ref a3), some (.int x4), some (.int xs0), none] [.int v] h' nc ns)) : Wm mL_law 11 mc ms Q 558 [some (.ref a0), some (.ref a1), some (.ref a2), some (.ref a3), some (.int x4), none, none] [.int xs0] h nc ns := by
  refine rl_istore (L' := [some (.ref a0), some (.ref a1), some (.ref a2), some (.ref a3), some (.int x4), some (.int xs0), none]) dL_law_558 (Nat.le_of_ble_eq_true rfl) rfl ?_
  refine rl_aload_n dL_law_560 rfl rfl ?_
  refine rl_aload_n dL_law_561 rfl rfl ?_
  refine rl_iload dL_law_562 rfl ?_
  refine rl_iconst (v := nI 1) dL_law_564 (by decide) ?_
  refine rl_iadd dL_law_565 ?_
  obtain ⟨o_1, H⟩ := H
  obtain ⟨o_2, H⟩ := H
  refine rl_iald dL_law_566 (Or.inr o_1) o_2 ?_
  refine rl_aload_n dL_law_567 rfl rfl ?_
  refine rl_iload dL_law_568 rfl ?_
  refine rl_iconst (v := nI 2) dL_law_570 (by decide) ?_
  refine rl_iadd dL_law_571 ?_
  obtain ⟨o_3, H⟩ := H
  refine rl_iald dL_law_572 (Or.inr o_1) o_3 ?_
  refine rl_aload_n dL_law_573 rfl rfl ?_
  refine rl_iload dL_law_574 rfl ?_
  refine rl_iconst (v := nI 3) dL_law_576 (by decide) ?_
  refine rl_iadd dL_law_577 ?_
  obtain ⟨o_4, H⟩ := H
  refine rl_iald dL_law_578 (Or.inr o_1) o_4 ?_
  refine rl_aload_n dL_law_579 rfl rfl ?_
  refine rl_iload dL_law_580 rfl ?_
  refine rl_iconst (v := nI 4) dL_law_582 (by decide) ?_
  refine rl_iadd dL_law_583 ?_
  obtain ⟨o_5, H⟩ := H
  refine rl_iald dL_law_584 (Or.inr o_1) o_5 ?_
  refine rl_aload_n dL_law_585 rfl rfl ?_
  refine rl_iload dL_law_586 rfl ?_
  refine rl_iconst (v := nI 5) dL_law_588 (by decide) ?_
  refine rl_iadd dL_law_589 ?_
  obtain ⟨o_6, H⟩ := H
  refine rl_iald dL_law_590 (Or.inr o_1) o_6 ?_
  obtain ⟨o_7, H⟩ := H
  obtain ⟨o_8, H⟩ := H
  obtain ⟨o_9, H⟩ := H
  exact rl_callV (As := [.int (hpI h a0 (x4 + (nI 1)).toNatClampNeg), .int (hpI h a0 (x4 + (nI 2)).toNatClampNeg), .int (hpI h a0 (x4 + (nI 3)).toNatClampNeg), .int (hpI h a0 (x4 + (nI 4)).toNatClampNeg), .int (hpI h a0 (x4 + (nI 5)).toNatClampNeg)]) (rest := []) mfX9_lend dL_law_591 lkL_128 o_9 (by decide) (Nat.le_of_ble_eq_true rfl) o_7 o_8 rfl (Nat.le_of_ble_eq_true rfl) rfl rfl (fun Qc k => H Qc (fun v h' w => k (some (.int v)) h' w))
theorem bL_law_594 {Q : Nat → Option Value → Hp → Prop} {h : Hp} {mc ms nc ns : Nat} {a0 a1 a2 a3 : Nat} {x4 x5 xs0 : Int32} (H : nc + 0 ≤ mc ∧ ns + 0 ≤ ms ∧ hpK h a2 = 19 ∧ CKi mX9_thrown 0 0 0 [some (.ref a2)] h (fun v h' => Wm mL_law 11 mc ms Q 600 [some (.ref a0), some (.ref a1), some (.ref a2), some (.ref a3), some (.int x4), some (.int x5), some (.int xs0)] [.int v] h' nc ns)) : Wm mL_law 11 mc ms Q 594 [some (.ref a0), some (.ref a1), some (.ref a2), some (.ref a3), some (.int x4), some (.int x5), none] [.int xs0] h nc ns := by
  refine rl_istore (L' := [some (.ref a0), some (.ref a1), some (.ref a2), some (.ref a3), some (.int x4), some (.int x5), some (.int xs0)]) dL_law_594 (Nat.le_of_ble_eq_true rfl) rfl ?_
  refine rl_aload_n dL_law_596 rfl rfl ?_
  obtain ⟨o_1, H⟩ := H
  obtain ⟨o_2, H⟩ := H
  obtain ⟨o_3, H⟩ := H
  exact rl_callV (As := []) (rest := []) mfX9_thrown dL_law_597 lkL_111 o_3 (by decide) (Nat.le_of_ble_eq_true rfl) o_1 o_2 rfl (Nat.le_of_ble_eq_true rfl) rfl rfl (fun Qc k => H Qc (fun v h' w => k (some (.int v)) h' w))
theorem bL_law_600 {Q : Nat → Option Value → Hp → Prop} {h : Hp} {mc ms nc ns : Nat} {a0 a1 a2 a3 : Nat} {x4 x5 x6 xs0 : Int32} (H : ((xs0 = x5 → ((¬ x5 = 0 → Wm mL_law 11 mc ms Q 624 [some (.ref a0), some (.ref a1), some (.ref a2), some (.ref a3), some (.int x4), none, none] [] h nc ns) ∧ (x5 = 0 → hpK h a3 = 3 ∧ vp_in (nI 0) (hpN h a3) ∧ (((lg_cmp (hpJ h a3 (nI 0).toNatClampNeg) ((x6).toInt64)) = 0 → Wm mL_law 11 mc ms Q 624 [some (.ref a0), some (.ref a1), some (.ref a2), some (.ref a3), some (.int x4), none, none] [] h nc ns) ∧ (¬ (lg_cmp (hpJ h a3 (nI 0).toNatClampNeg) ((x6).toInt64)) = 0 → nc ≤ mc ∧ ns ≤ ms ∧ Q 0 (some (.int (nI 0))) h))))) ∧ (¬ xs0 = x5 → nc ≤ mc ∧ ns ≤ ms ∧ Q 0 (some (.int (nI 0))) h))) : Wm mL_law 11 mc ms Q 600 [some (.ref a0), some (.ref a1), some (.ref a2), some (.ref a3), some (.int x4), some (.int x5), some (.int x6)] [.int xs0] h nc ns := by
  refine rl_iload dL_law_600 rfl ?_
  refine rl_icmp_eq (tgt := 607) dL_law_602 (by decide) (fun c_1 => ?_) (fun c_1 => ?_)
  · have H := H.1 c_1
    refine rl_iload dL_law_607 rfl ?_
    refine rl_if_ne (tgt := 624) dL_law_609 (by decide) (fun c_2 => ?_) (fun c_2 => ?_)
    · have H := H.1 c_2
      refine rl_wk (L' := [some (.ref a0), some (.ref a1), some (.ref a2), some (.ref a3), some (.int x4), none, none]) ⟨rfl, ⟨rfl, ⟨rfl, ⟨rfl, ⟨rfl, trivial⟩⟩⟩⟩⟩ ?_
      exact H
    · have H := H.2 c_2
      refine rl_aload_n dL_law_612 rfl rfl ?_
      refine rl_iconst (v := nI 0) dL_law_613 (by decide) ?_
      obtain ⟨o_3, H⟩ := H
      obtain ⟨o_4, H⟩ := H
      refine rl_lald dL_law_614 o_3 o_4 ?_
      refine rl_iload dL_law_615 rfl ?_
      refine rl_i2l dL_law_617 ?_
      refine rl_lcmp dL_law_618 ?_
      refine rl_if_eq (tgt := 624) dL_law_619 (by decide) (fun c_5 => ?_) (fun c_5 => ?_)
      · have H := H.1 c_5
        refine rl_wk (L' := [some (.ref a0), some (.ref a1), some (.ref a2), some (.ref a3), some (.int x4), none, none]) ⟨rfl, ⟨rfl, ⟨rfl, ⟨rfl, ⟨rfl, trivial⟩⟩⟩⟩⟩ ?_
        exact H
      · have H := H.2 c_5
        refine rl_iconst (v := nI 0) dL_law_622 (by decide) ?_
        obtain ⟨o_6, H⟩ := H
        obtain ⟨o_7, H⟩ := H
        exact rl_zret dL_law_623 rfl rfl o_6 o_7 H
  · have H := H.2 c_1
    refine rl_iconst (v := nI 0) dL_law_605 (by decide) ?_
    obtain ⟨o_8, H⟩ := H
    obtain ⟨o_9, H⟩ := H
    exact rl_zret dL_law_606 rfl rfl o_8 o_9 H
theorem bL_law_624 {Q : Nat → Option Value → Hp → Prop} {h : Hp} {mc ms nc ns : Nat} {a0 a1 a2 a3 : Nat} {x4 : Int32} (H : Wm mL_law 11 mc ms Q 1859 [some (.ref a0), some (.ref a1), some (.ref a2), some (.ref a3), some (.int x4), none, none] [] h nc ns) : Wm mL_law 11 mc ms Q 624 [some (.ref a0), some (.ref a1), some (.ref a2), some (.ref a3), some (.int x4), none, none] [] h nc ns := by
  refine rl_goto (tgt := 1859) dL_law_624 (by decide) ?_
  exact H
theorem bL_law_644 {Q : Nat → Option Value → Hp → Prop} {h : Hp} {mc ms nc ns : Nat} {a0 a1 a2 a3 : Nat} {x4 xs0 : Int32} (H : hpK h a0 = 2 ∧ vp_in (x4 + (nI 1)) (hpN h a0) ∧ vp_in (x4 + (nI 2)) (hpN h a0) ∧ nc + 0 ≤ mc ∧ ns + 0 ≤ ms ∧ hpK h a2 = 19 ∧ CKi mX9_rebalance 4 0 0 [some (.ref a2), some (.int (hpI h a0 (x4 + (nI 1)).toNatClampNeg)), some (.int (hpI h a0 (x4 + (nI 2)).toNatClampNeg)), none, none, none, none, none, none, none] h (fun v h' => Wm mL_law 11 mc ms Q 662 [some (.ref a0), some (.ref a1), some (.ref a2), some (.ref a3), some (.int x4), some (.int xs0), none] [.int v] h' nc ns)) : Wm mL_law 11 mc ms Q 644 [some (.ref a0), some (.ref a1), some (.ref a2), some (.ref a3), some (.int x4), none, none] [.int xs0] h nc ns := by
  refine rl_istore (L' := [some (.ref a0), some (.ref a1), some (.ref a2), some (.ref a3), some (.int x4), some (.int xs0), none]) dL_law_644 (Nat.le_of_ble_eq_true rfl) rfl ?_
  refine rl_aload_n dL_law_646 rfl rfl ?_
  refine rl_aload_n dL_law_647 rfl rfl ?_
  refine rl_iload dL_law_648 rfl ?_
  refine rl_iconst (v := nI 1) dL_law_650 (by decide) ?_
  refine rl_iadd dL_law_651 ?_
  obtain ⟨o_1, H⟩ := H
  obtain ⟨o_2, H⟩ := H
  refine rl_iald dL_law_652 (Or.inr o_1) o_2 ?_
  refine rl_aload_n dL_law_653 rfl rfl ?_
  refine rl_iload dL_law_654 rfl ?_
  refine rl_iconst (v := nI 2) dL_law_656 (by decide) ?_
  refine rl_iadd dL_law_657 ?_
  obtain ⟨o_3, H⟩ := H
  refine rl_iald dL_law_658 (Or.inr o_1) o_3 ?_
  obtain ⟨o_4, H⟩ := H
  obtain ⟨o_5, H⟩ := H
  obtain ⟨o_6, H⟩ := H
  exact rl_callV (As := [.int (hpI h a0 (x4 + (nI 1)).toNatClampNeg), .int (hpI h a0 (x4 + (nI 2)).toNatClampNeg)]) (rest := []) mfX9_rebalance dL_law_659 lkL_131 o_6 (by decide) (Nat.le_of_ble_eq_true rfl) o_4 o_5 rfl (Nat.le_of_ble_eq_true rfl) rfl rfl (fun Qc k => H Qc (fun v h' w => k (some (.int v)) h' w))
theorem bL_law_662 {Q : Nat → Option Value → Hp → Prop} {h : Hp} {mc ms nc ns : Nat} {a0 a1 a2 a3 : Nat} {x4 x5 xs0 : Int32} (H : nc + 0 ≤ mc ∧ ns + 0 ≤ ms ∧ hpK h a2 = 19 ∧ CKi mX9_thrown 0 0 0 [some (.ref a2)] h (fun v h' => Wm mL_law 11 mc ms Q 668 [some (.ref a0), some (.ref a1), some (.ref a2), some (.ref a3), some (.int x4), some (.int x5), some (.int xs0)] [.int v] h' nc ns)) : Wm mL_law 11 mc ms Q 662 [some (.ref a0), some (.ref a1), some (.ref a2), some (.ref a3), some (.int x4), some (.int x5), none] [.int xs0] h nc ns := by
  refine rl_istore (L' := [some (.ref a0), some (.ref a1), some (.ref a2), some (.ref a3), some (.int x4), some (.int x5), some (.int xs0)]) dL_law_662 (Nat.le_of_ble_eq_true rfl) rfl ?_
  refine rl_aload_n dL_law_664 rfl rfl ?_
  obtain ⟨o_1, H⟩ := H
  obtain ⟨o_2, H⟩ := H
  obtain ⟨o_3, H⟩ := H
  exact rl_callV (As := []) (rest := []) mfX9_thrown dL_law_665 lkL_111 o_3 (by decide) (Nat.le_of_ble_eq_true rfl) o_1 o_2 rfl (Nat.le_of_ble_eq_true rfl) rfl rfl (fun Qc k => H Qc (fun v h' w => k (some (.int v)) h' w))
theorem bL_law_668 {Q : Nat → Option Value → Hp → Prop} {h : Hp} {mc ms nc ns : Nat} {a0 a1 a2 a3 : Nat} {x4 x5 x6 xs0 : Int32} (H : ((xs0 = x5 → ((¬ x5 = 0 → Wm mL_law 11 mc ms Q 692 [some (.ref a0), some (.ref a1), some (.ref a2), some (.ref a3), some (.int x4), none, none] [] h nc ns) ∧ (x5 = 0 → hpK h a3 = 3 ∧ vp_in (nI 0) (hpN h a3) ∧ (((lg_cmp (hpJ h a3 (nI 0).toNatClampNeg) ((x6).toInt64)) = 0 → Wm mL_law 11 mc ms Q 692 [some (.ref a0), some (.ref a1), some (.ref a2), some (.ref a3), some (.int x4), none, none] [] h nc ns) ∧ (¬ (lg_cmp (hpJ h a3 (nI 0).toNatClampNeg) ((x6).toInt64)) = 0 → nc ≤ mc ∧ ns ≤ ms ∧ Q 0 (some (.int (nI 0))) h))))) ∧ (¬ xs0 = x5 → nc ≤ mc ∧ ns ≤ ms ∧ Q 0 (some (.int (nI 0))) h))) : Wm mL_law 11 mc ms Q 668 [some (.ref a0), some (.ref a1), some (.ref a2), some (.ref a3), some (.int x4), some (.int x5), some (.int x6)] [.int xs0] h nc ns := by
  refine rl_iload dL_law_668 rfl ?_
  refine rl_icmp_eq (tgt := 675) dL_law_670 (by decide) (fun c_1 => ?_) (fun c_1 => ?_)
  · have H := H.1 c_1
    refine rl_iload dL_law_675 rfl ?_
    refine rl_if_ne (tgt := 692) dL_law_677 (by decide) (fun c_2 => ?_) (fun c_2 => ?_)
    · have H := H.1 c_2
      refine rl_wk (L' := [some (.ref a0), some (.ref a1), some (.ref a2), some (.ref a3), some (.int x4), none, none]) ⟨rfl, ⟨rfl, ⟨rfl, ⟨rfl, ⟨rfl, trivial⟩⟩⟩⟩⟩ ?_
      exact H
    · have H := H.2 c_2
      refine rl_aload_n dL_law_680 rfl rfl ?_
      refine rl_iconst (v := nI 0) dL_law_681 (by decide) ?_
      obtain ⟨o_3, H⟩ := H
      obtain ⟨o_4, H⟩ := H
      refine rl_lald dL_law_682 o_3 o_4 ?_
      refine rl_iload dL_law_683 rfl ?_
      refine rl_i2l dL_law_685 ?_
      refine rl_lcmp dL_law_686 ?_
      refine rl_if_eq (tgt := 692) dL_law_687 (by decide) (fun c_5 => ?_) (fun c_5 => ?_)
      · have H := H.1 c_5
        refine rl_wk (L' := [some (.ref a0), some (.ref a1), some (.ref a2), some (.ref a3), some (.int x4), none, none]) ⟨rfl, ⟨rfl, ⟨rfl, ⟨rfl, ⟨rfl, trivial⟩⟩⟩⟩⟩ ?_
        exact H
      · have H := H.2 c_5
        refine rl_iconst (v := nI 0) dL_law_690 (by decide) ?_
        obtain ⟨o_6, H⟩ := H
        obtain ⟨o_7, H⟩ := H
        exact rl_zret dL_law_691 rfl rfl o_6 o_7 H
  · have H := H.2 c_1
    refine rl_iconst (v := nI 0) dL_law_673 (by decide) ?_
    obtain ⟨o_8, H⟩ := H
    obtain ⟨o_9, H⟩ := H
    exact rl_zret dL_law_674 rfl rfl o_8 o_9 H
theorem bL_law_692 {Q : Nat → Option Value → Hp → Prop} {h : Hp} {mc ms nc ns : Nat} {a0 a1 a2 a3 : Nat} {x4 : Int32} (H : Wm mL_law 11 mc ms Q 1859 [some (.ref a0), some (.ref a1), some (.ref a2), some (.ref a3), some (.int x4), none, none] [] h nc ns) : Wm mL_law 11 mc ms Q 692 [some (.ref a0), some (.ref a1), some (.ref a2), some (.ref a3), some (.int x4), none, none] [] h nc ns := by
  refine rl_goto (tgt := 1859) dL_law_692 (by decide) ?_
  exact H
theorem bL_law_706 {Q : Nat → Option Value → Hp → Prop} {h : Hp} {mc ms nc ns : Nat} {a0 a1 a2 a3 : Nat} {x4 xs0 : Int32} (H : hpK h a0 = 2 ∧ vp_in (x4 + (nI 1)) (hpN h a0) ∧ nc + 0 ≤ mc ∧ ns + 0 ≤ ms ∧ hpK h a2 = 19 ∧ CKi mX9_pass 1 0 0 [some (.ref a2), some (.int (hpI h a0 (x4 + (nI 1)).toNatClampNeg))] h (fun v h' => Wm mL_law 11 mc ms Q 718 [some (.ref a0), some (.ref a1), some (.ref a2), some (.ref a3), some (.int x4), some (.int xs0), none] [.int v] h' nc ns)) : Wm mL_law 11 mc ms Q 706 [some (.ref a0), some (.ref a1), some (.ref a2), some (.ref a3), some (.int x4), none, none] [.int xs0] h nc ns := by
  refine rl_istore (L' := [some (.ref a0), some (.ref a1), some (.ref a2), some (.ref a3), some (.int x4), some (.int xs0), none]) dL_law_706 (Nat.le_of_ble_eq_true rfl) rfl ?_
  refine rl_aload_n dL_law_708 rfl rfl ?_
  refine rl_aload_n dL_law_709 rfl rfl ?_
  refine rl_iload dL_law_710 rfl ?_
  refine rl_iconst (v := nI 1) dL_law_712 (by decide) ?_
  refine rl_iadd dL_law_713 ?_
  obtain ⟨o_1, H⟩ := H
  obtain ⟨o_2, H⟩ := H
  refine rl_iald dL_law_714 (Or.inr o_1) o_2 ?_
  obtain ⟨o_3, H⟩ := H
  obtain ⟨o_4, H⟩ := H
  obtain ⟨o_5, H⟩ := H
  exact rl_callV (As := [.int (hpI h a0 (x4 + (nI 1)).toNatClampNeg)]) (rest := []) mfX9_pass dL_law_715 lkL_135 o_5 (by decide) (Nat.le_of_ble_eq_true rfl) o_3 o_4 rfl (Nat.le_of_ble_eq_true rfl) rfl rfl (fun Qc k => H Qc (fun v h' w => k (some (.int v)) h' w))
theorem bL_law_718 {Q : Nat → Option Value → Hp → Prop} {h : Hp} {mc ms nc ns : Nat} {a0 a1 a2 a3 : Nat} {x4 x5 xs0 : Int32} (H : nc + 0 ≤ mc ∧ ns + 0 ≤ ms ∧ hpK h a2 = 19 ∧ CKi mX9_thrown 0 0 0 [some (.ref a2)] h (fun v h' => Wm mL_law 11 mc ms Q 724 [some (.ref a0), some (.ref a1), some (.ref a2), some (.ref a3), some (.int x4), some (.int x5), some (.int xs0)] [.int v] h' nc ns)) : Wm mL_law 11 mc ms Q 718 [some (.ref a0), some (.ref a1), some (.ref a2), some (.ref a3), some (.int x4), some (.int x5), none] [.int xs0] h nc ns := by
  refine rl_istore (L' := [some (.ref a0), some (.ref a1), some (.ref a2), some (.ref a3), some (.int x4), some (.int x5), some (.int xs0)]) dL_law_718 (Nat.le_of_ble_eq_true rfl) rfl ?_
  refine rl_aload_n dL_law_720 rfl rfl ?_
  obtain ⟨o_1, H⟩ := H
  obtain ⟨o_2, H⟩ := H
  obtain ⟨o_3, H⟩ := H
  exact rl_callV (As := []) (rest := []) mfX9_thrown dL_law_721 lkL_111 o_3 (by decide) (Nat.le_of_ble_eq_true rfl) o_1 o_2 rfl (Nat.le_of_ble_eq_true rfl) rfl rfl (fun Qc k => H Qc (fun v h' w => k (some (.int v)) h' w))
theorem bL_law_724 {Q : Nat → Option Value → Hp → Prop} {h : Hp} {mc ms nc ns : Nat} {a0 a1 a2 a3 : Nat} {x4 x5 x6 xs0 : Int32} (H : ((xs0 = x5 → ((¬ x5 = 0 → Wm mL_law 11 mc ms Q 748 [some (.ref a0), some (.ref a1), some (.ref a2), some (.ref a3), some (.int x4), none, none] [] h nc ns) ∧ (x5 = 0 → hpK h a3 = 3 ∧ vp_in (nI 0) (hpN h a3) ∧ (((lg_cmp (hpJ h a3 (nI 0).toNatClampNeg) ((x6).toInt64)) = 0 → Wm mL_law 11 mc ms Q 748 [some (.ref a0), some (.ref a1), some (.ref a2), some (.ref a3), some (.int x4), none, none] [] h nc ns) ∧ (¬ (lg_cmp (hpJ h a3 (nI 0).toNatClampNeg) ((x6).toInt64)) = 0 → nc ≤ mc ∧ ns ≤ ms ∧ Q 0 (some (.int (nI 0))) h))))) ∧ (¬ xs0 = x5 → nc ≤ mc ∧ ns ≤ ms ∧ Q 0 (some (.int (nI 0))) h))) : Wm mL_law 11 mc ms Q 724 [some (.ref a0), some (.ref a1), some (.ref a2), some (.ref a3), some (.int x4), some (.int x5), some (.int x6)] [.int xs0] h nc ns := by
  refine rl_iload dL_law_724 rfl ?_
  refine rl_icmp_eq (tgt := 731) dL_law_726 (by decide) (fun c_1 => ?_) (fun c_1 => ?_)
  · have H := H.1 c_1
    refine rl_iload dL_law_731 rfl ?_
    refine rl_if_ne (tgt := 748) dL_law_733 (by decide) (fun c_2 => ?_) (fun c_2 => ?_)
    · have H := H.1 c_2
      refine rl_wk (L' := [some (.ref a0), some (.ref a1), some (.ref a2), some (.ref a3), some (.int x4), none, none]) ⟨rfl, ⟨rfl, ⟨rfl, ⟨rfl, ⟨rfl, trivial⟩⟩⟩⟩⟩ ?_
      exact H
    · have H := H.2 c_2
      refine rl_aload_n dL_law_736 rfl rfl ?_
      refine rl_iconst (v := nI 0) dL_law_737 (by decide) ?_
      obtain ⟨o_3, H⟩ := H
      obtain ⟨o_4, H⟩ := H
      refine rl_lald dL_law_738 o_3 o_4 ?_
      refine rl_iload dL_law_739 rfl ?_
      refine rl_i2l dL_law_741 ?_
      refine rl_lcmp dL_law_742 ?_
      refine rl_if_eq (tgt := 748) dL_law_743 (by decide) (fun c_5 => ?_) (fun c_5 => ?_)
      · have H := H.1 c_5
        refine rl_wk (L' := [some (.ref a0), some (.ref a1), some (.ref a2), some (.ref a3), some (.int x4), none, none]) ⟨rfl, ⟨rfl, ⟨rfl, ⟨rfl, ⟨rfl, trivial⟩⟩⟩⟩⟩ ?_
        exact H
      · have H := H.2 c_5
        refine rl_iconst (v := nI 0) dL_law_746 (by decide) ?_
        obtain ⟨o_6, H⟩ := H
        obtain ⟨o_7, H⟩ := H
        exact rl_zret dL_law_747 rfl rfl o_6 o_7 H
  · have H := H.2 c_1
    refine rl_iconst (v := nI 0) dL_law_729 (by decide) ?_
    obtain ⟨o_8, H⟩ := H
    obtain ⟨o_9, H⟩ := H
    exact rl_zret dL_law_730 rfl rfl o_8 o_9 H
theorem bL_law_748 {Q : Nat → Option Value → Hp → Prop} {h : Hp} {mc ms nc ns : Nat} {a0 a1 a2 a3 : Nat} {x4 : Int32} (H : Wm mL_law 11 mc ms Q 1859 [some (.ref a0), some (.ref a1), some (.ref a2), some (.ref a3), some (.int x4), none, none] [] h nc ns) : Wm mL_law 11 mc ms Q 748 [some (.ref a0), some (.ref a1), some (.ref a2), some (.ref a3), some (.int x4), none, none] [] h nc ns := by
  refine rl_goto (tgt := 1859) dL_law_748 (by decide) ?_
  exact H
theorem bL_law_768 {Q : Nat → Option Value → Hp → Prop} {h : Hp} {mc ms nc ns : Nat} {a0 a1 a2 a3 : Nat} {x4 xs0 : Int32} (H : hpK h a0 = 2 ∧ vp_in (x4 + (nI 1)) (hpN h a0) ∧ vp_in (x4 + (nI 2)) (hpN h a0) ∧ nc + 0 ≤ mc ∧ ns + 0 ≤ ms ∧ hpK h a2 = 19 ∧ CKi mX9_send 3 0 0 [some (.ref a2), some (.int (hpI h a0 (x4 + (nI 1)).toNatClampNeg)), some (.int (hpI h a0 (x4 + (nI 2)).toNatClampNeg))] h (fun v h' => Wm mL_law 11 mc ms Q 786 [some (.ref a0), some (.ref a1), some (.ref a2), some (.ref a3), some (.int x4), some (.int xs0), none] [.int v] h' nc ns)) : Wm mL_law 11 mc ms Q 768 [some (.ref a0), some (.ref a1), some (.ref a2), some (.ref a3), some (.int x4), none, none] [.int xs0] h nc ns := by
  refine rl_istore (L' := [some (.ref a0), some (.ref a1), some (.ref a2), some (.ref a3), some (.int x4), some (.int xs0), none]) dL_law_768 (Nat.le_of_ble_eq_true rfl) rfl ?_
  refine rl_aload_n dL_law_770 rfl rfl ?_
  refine rl_aload_n dL_law_771 rfl rfl ?_
  refine rl_iload dL_law_772 rfl ?_
  refine rl_iconst (v := nI 1) dL_law_774 (by decide) ?_
  refine rl_iadd dL_law_775 ?_
  obtain ⟨o_1, H⟩ := H
  obtain ⟨o_2, H⟩ := H
  refine rl_iald dL_law_776 (Or.inr o_1) o_2 ?_
  refine rl_aload_n dL_law_777 rfl rfl ?_
  refine rl_iload dL_law_778 rfl ?_
  refine rl_iconst (v := nI 2) dL_law_780 (by decide) ?_
  refine rl_iadd dL_law_781 ?_
  obtain ⟨o_3, H⟩ := H
  refine rl_iald dL_law_782 (Or.inr o_1) o_3 ?_
  obtain ⟨o_4, H⟩ := H
  obtain ⟨o_5, H⟩ := H
  obtain ⟨o_6, H⟩ := H
  exact rl_callV (As := [.int (hpI h a0 (x4 + (nI 1)).toNatClampNeg), .int (hpI h a0 (x4 + (nI 2)).toNatClampNeg)]) (rest := []) mfX9_send dL_law_783 lkL_138 o_6 (by decide) (Nat.le_of_ble_eq_true rfl) o_4 o_5 rfl (Nat.le_of_ble_eq_true rfl) rfl rfl (fun Qc k => H Qc (fun v h' w => k (some (.int v)) h' w))
theorem bL_law_786 {Q : Nat → Option Value → Hp → Prop} {h : Hp} {mc ms nc ns : Nat} {a0 a1 a2 a3 : Nat} {x4 x5 xs0 : Int32} (H : nc + 0 ≤ mc ∧ ns + 0 ≤ ms ∧ hpK h a2 = 19 ∧ CKi mX9_thrown 0 0 0 [some (.ref a2)] h (fun v h' => Wm mL_law 11 mc ms Q 792 [some (.ref a0), some (.ref a1), some (.ref a2), some (.ref a3), some (.int x4), some (.int x5), some (.int xs0)] [.int v] h' nc ns)) : Wm mL_law 11 mc ms Q 786 [some (.ref a0), some (.ref a1), some (.ref a2), some (.ref a3), some (.int x4), some (.int x5), none] [.int xs0] h nc ns := by
  refine rl_istore (L' := [some (.ref a0), some (.ref a1), some (.ref a2), some (.ref a3), some (.int x4), some (.int x5), some (.int xs0)]) dL_law_786 (Nat.le_of_ble_eq_true rfl) rfl ?_
  refine rl_aload_n dL_law_788 rfl rfl ?_
  obtain ⟨o_1, H⟩ := H
  obtain ⟨o_2, H⟩ := H
  obtain ⟨o_3, H⟩ := H
  exact rl_callV (As := []) (rest := []) mfX9_thrown dL_law_789 lkL_111 o_3 (by decide) (Nat.le_of_ble_eq_true rfl) o_1 o_2 rfl (Nat.le_of_ble_eq_true rfl) rfl rfl (fun Qc k => H Qc (fun v h' w => k (some (.int v)) h' w))
theorem bL_law_792 {Q : Nat → Option Value → Hp → Prop} {h : Hp} {mc ms nc ns : Nat} {a0 a1 a2 a3 : Nat} {x4 x5 x6 xs0 : Int32} (H : ((xs0 = x5 → ((¬ x5 = 0 → Wm mL_law 11 mc ms Q 816 [some (.ref a0), some (.ref a1), some (.ref a2), some (.ref a3), some (.int x4), none, none] [] h nc ns) ∧ (x5 = 0 → hpK h a3 = 3 ∧ vp_in (nI 0) (hpN h a3) ∧ (((lg_cmp (hpJ h a3 (nI 0).toNatClampNeg) ((x6).toInt64)) = 0 → Wm mL_law 11 mc ms Q 816 [some (.ref a0), some (.ref a1), some (.ref a2), some (.ref a3), some (.int x4), none, none] [] h nc ns) ∧ (¬ (lg_cmp (hpJ h a3 (nI 0).toNatClampNeg) ((x6).toInt64)) = 0 → nc ≤ mc ∧ ns ≤ ms ∧ Q 0 (some (.int (nI 0))) h))))) ∧ (¬ xs0 = x5 → nc ≤ mc ∧ ns ≤ ms ∧ Q 0 (some (.int (nI 0))) h))) : Wm mL_law 11 mc ms Q 792 [some (.ref a0), some (.ref a1), some (.ref a2), some (.ref a3), some (.int x4), some (.int x5), some (.int x6)] [.int xs0] h nc ns := by
  refine rl_iload dL_law_792 rfl ?_
  refine rl_icmp_eq (tgt := 799) dL_law_794 (by decide) (fun c_1 => ?_) (fun c_1 => ?_)
  · have H := H.1 c_1
    refine rl_iload dL_law_799 rfl ?_
    refine rl_if_ne (tgt := 816) dL_law_801 (by decide) (fun c_2 => ?_) (fun c_2 => ?_)
    · have H := H.1 c_2
      refine rl_wk (L' := [some (.ref a0), some (.ref a1), some (.ref a2), some (.ref a3), some (.int x4), none, none]) ⟨rfl, ⟨rfl, ⟨rfl, ⟨rfl, ⟨rfl, trivial⟩⟩⟩⟩⟩ ?_
      exact H
    · have H := H.2 c_2
      refine rl_aload_n dL_law_804 rfl rfl ?_
      refine rl_iconst (v := nI 0) dL_law_805 (by decide) ?_
      obtain ⟨o_3, H⟩ := H
      obtain ⟨o_4, H⟩ := H
      refine rl_lald dL_law_806 o_3 o_4 ?_
      refine rl_iload dL_law_807 rfl ?_
      refine rl_i2l dL_law_809 ?_
      refine rl_lcmp dL_law_810 ?_
      refine rl_if_eq (tgt := 816) dL_law_811 (by decide) (fun c_5 => ?_) (fun c_5 => ?_)
      · have H := H.1 c_5
        refine rl_wk (L' := [some (.ref a0), some (.ref a1), some (.ref a2), some (.ref a3), some (.int x4), none, none]) ⟨rfl, ⟨rfl, ⟨rfl, ⟨rfl, ⟨rfl, trivial⟩⟩⟩⟩⟩ ?_
        exact H
      · have H := H.2 c_5
        refine rl_iconst (v := nI 0) dL_law_814 (by decide) ?_
        obtain ⟨o_6, H⟩ := H
        obtain ⟨o_7, H⟩ := H
        exact rl_zret dL_law_815 rfl rfl o_6 o_7 H
  · have H := H.2 c_1
    refine rl_iconst (v := nI 0) dL_law_797 (by decide) ?_
    obtain ⟨o_8, H⟩ := H
    obtain ⟨o_9, H⟩ := H
    exact rl_zret dL_law_798 rfl rfl o_8 o_9 H
theorem bL_law_816 {Q : Nat → Option Value → Hp → Prop} {h : Hp} {mc ms nc ns : Nat} {a0 a1 a2 a3 : Nat} {x4 : Int32} (H : Wm mL_law 11 mc ms Q 1859 [some (.ref a0), some (.ref a1), some (.ref a2), some (.ref a3), some (.int x4), none, none] [] h nc ns) : Wm mL_law 11 mc ms Q 816 [some (.ref a0), some (.ref a1), some (.ref a2), some (.ref a3), some (.int x4), none, none] [] h nc ns := by
  refine rl_goto (tgt := 1859) dL_law_816 (by decide) ?_
  exact H
theorem bL_law_830 {Q : Nat → Option Value → Hp → Prop} {h : Hp} {mc ms nc ns : Nat} {a0 a1 a2 a3 : Nat} {x4 xs0 : Int32} (H : hpK h a0 = 2 ∧ vp_in (x4 + (nI 1)) (hpN h a0) ∧ nc + 0 ≤ mc ∧ ns + 0 ≤ ms ∧ hpK h a2 = 19 ∧ CKi mX9_deliver 2 0 0 [some (.ref a2), some (.int (hpI h a0 (x4 + (nI 1)).toNatClampNeg)), none] h (fun v h' => Wm mL_law 11 mc ms Q 842 [some (.ref a0), some (.ref a1), some (.ref a2), some (.ref a3), some (.int x4), some (.int xs0), none] [.int v] h' nc ns)) : Wm mL_law 11 mc ms Q 830 [some (.ref a0), some (.ref a1), some (.ref a2), some (.ref a3), some (.int x4), none, none] [.int xs0] h nc ns := by
  refine rl_istore (L' := [some (.ref a0), some (.ref a1), some (.ref a2), some (.ref a3), some (.int x4), some (.int xs0), none]) dL_law_830 (Nat.le_of_ble_eq_true rfl) rfl ?_
  refine rl_aload_n dL_law_832 rfl rfl ?_
  refine rl_aload_n dL_law_833 rfl rfl ?_
  refine rl_iload dL_law_834 rfl ?_
  refine rl_iconst (v := nI 1) dL_law_836 (by decide) ?_
  refine rl_iadd dL_law_837 ?_
  obtain ⟨o_1, H⟩ := H
  obtain ⟨o_2, H⟩ := H
  refine rl_iald dL_law_838 (Or.inr o_1) o_2 ?_
  obtain ⟨o_3, H⟩ := H
  obtain ⟨o_4, H⟩ := H
  obtain ⟨o_5, H⟩ := H
  exact rl_callV (As := [.int (hpI h a0 (x4 + (nI 1)).toNatClampNeg)]) (rest := []) mfX9_deliver dL_law_839 lkL_141 o_5 (by decide) (Nat.le_of_ble_eq_true rfl) o_3 o_4 rfl (Nat.le_of_ble_eq_true rfl) rfl rfl (fun Qc k => H Qc (fun v h' w => k (some (.int v)) h' w))
theorem bL_law_842 {Q : Nat → Option Value → Hp → Prop} {h : Hp} {mc ms nc ns : Nat} {a0 a1 a2 a3 : Nat} {x4 x5 xs0 : Int32} (H : nc + 0 ≤ mc ∧ ns + 0 ≤ ms ∧ hpK h a2 = 19 ∧ CKi mX9_thrown 0 0 0 [some (.ref a2)] h (fun v h' => Wm mL_law 11 mc ms Q 848 [some (.ref a0), some (.ref a1), some (.ref a2), some (.ref a3), some (.int x4), some (.int x5), some (.int xs0)] [.int v] h' nc ns)) : Wm mL_law 11 mc ms Q 842 [some (.ref a0), some (.ref a1), some (.ref a2), some (.ref a3), some (.int x4), some (.int x5), none] [.int xs0] h nc ns := by
  refine rl_istore (L' := [some (.ref a0), some (.ref a1), some (.ref a2), some (.ref a3), some (.int x4), some (.int x5), some (.int xs0)]) dL_law_842 (Nat.le_of_ble_eq_true rfl) rfl ?_
  refine rl_aload_n dL_law_844 rfl rfl ?_
  obtain ⟨o_1, H⟩ := H
  obtain ⟨o_2, H⟩ := H
  obtain ⟨o_3, H⟩ := H
  exact rl_callV (As := []) (rest := []) mfX9_thrown dL_law_845 lkL_111 o_3 (by decide) (Nat.le_of_ble_eq_true rfl) o_1 o_2 rfl (Nat.le_of_ble_eq_true rfl) rfl rfl (fun Qc k => H Qc (fun v h' w => k (some (.int v)) h' w))
theorem bL_law_848 {Q : Nat → Option Value → Hp → Prop} {h : Hp} {mc ms nc ns : Nat} {a0 a1 a2 a3 : Nat} {x4 x5 x6 xs0 : Int32} (H : ((xs0 = x5 → ((¬ x5 = 0 → Wm mL_law 11 mc ms Q 872 [some (.ref a0), some (.ref a1), some (.ref a2), some (.ref a3), some (.int x4), none, none] [] h nc ns) ∧ (x5 = 0 → hpK h a3 = 3 ∧ vp_in (nI 0) (hpN h a3) ∧ (((lg_cmp (hpJ h a3 (nI 0).toNatClampNeg) ((x6).toInt64)) = 0 → Wm mL_law 11 mc ms Q 872 [some (.ref a0), some (.ref a1), some (.ref a2), some (.ref a3), some (.int x4), none, none] [] h nc ns) ∧ (¬ (lg_cmp (hpJ h a3 (nI 0).toNatClampNeg) ((x6).toInt64)) = 0 → nc ≤ mc ∧ ns ≤ ms ∧ Q 0 (some (.int (nI 0))) h))))) ∧ (¬ xs0 = x5 → nc ≤ mc ∧ ns ≤ ms ∧ Q 0 (some (.int (nI 0))) h))) : Wm mL_law 11 mc ms Q 848 [some (.ref a0), some (.ref a1), some (.ref a2), some (.ref a3), some (.int x4), some (.int x5), some (.int x6)] [.int xs0] h nc ns := by
  refine rl_iload dL_law_848 rfl ?_
  refine rl_icmp_eq (tgt := 855) dL_law_850 (by decide) (fun c_1 => ?_) (fun c_1 => ?_)
  · have H := H.1 c_1
    refine rl_iload dL_law_855 rfl ?_
    refine rl_if_ne (tgt := 872) dL_law_857 (by decide) (fun c_2 => ?_) (fun c_2 => ?_)
    · have H := H.1 c_2
      refine rl_wk (L' := [some (.ref a0), some (.ref a1), some (.ref a2), some (.ref a3), some (.int x4), none, none]) ⟨rfl, ⟨rfl, ⟨rfl, ⟨rfl, ⟨rfl, trivial⟩⟩⟩⟩⟩ ?_
      exact H
    · have H := H.2 c_2
      refine rl_aload_n dL_law_860 rfl rfl ?_
      refine rl_iconst (v := nI 0) dL_law_861 (by decide) ?_
      obtain ⟨o_3, H⟩ := H
      obtain ⟨o_4, H⟩ := H
      refine rl_lald dL_law_862 o_3 o_4 ?_
      refine rl_iload dL_law_863 rfl ?_
      refine rl_i2l dL_law_865 ?_
      refine rl_lcmp dL_law_866 ?_
      refine rl_if_eq (tgt := 872) dL_law_867 (by decide) (fun c_5 => ?_) (fun c_5 => ?_)
      · have H := H.1 c_5
        refine rl_wk (L' := [some (.ref a0), some (.ref a1), some (.ref a2), some (.ref a3), some (.int x4), none, none]) ⟨rfl, ⟨rfl, ⟨rfl, ⟨rfl, ⟨rfl, trivial⟩⟩⟩⟩⟩ ?_
        exact H
      · have H := H.2 c_5
        refine rl_iconst (v := nI 0) dL_law_870 (by decide) ?_
        obtain ⟨o_6, H⟩ := H
        obtain ⟨o_7, H⟩ := H
        exact rl_zret dL_law_871 rfl rfl o_6 o_7 H
  · have H := H.2 c_1
    refine rl_iconst (v := nI 0) dL_law_853 (by decide) ?_
    obtain ⟨o_8, H⟩ := H
    obtain ⟨o_9, H⟩ := H
    exact rl_zret dL_law_854 rfl rfl o_8 o_9 H
theorem bL_law_872 {Q : Nat → Option Value → Hp → Prop} {h : Hp} {mc ms nc ns : Nat} {a0 a1 a2 a3 : Nat} {x4 : Int32} (H : Wm mL_law 11 mc ms Q 1859 [some (.ref a0), some (.ref a1), some (.ref a2), some (.ref a3), some (.int x4), none, none] [] h nc ns) : Wm mL_law 11 mc ms Q 872 [some (.ref a0), some (.ref a1), some (.ref a2), some (.ref a3), some (.int x4), none, none] [] h nc ns := by
  refine rl_goto (tgt := 1859) dL_law_872 (by decide) ?_
  exact H
theorem bL_law_886 {Q : Nat → Option Value → Hp → Prop} {h : Hp} {mc ms nc ns : Nat} {a0 a1 a2 a3 : Nat} {x4 xs0 : Int32} (H : hpK h a0 = 2 ∧ vp_in (x4 + (nI 1)) (hpN h a0) ∧ nc + 0 ≤ mc ∧ ns + 0 ≤ ms ∧ hpK h a2 = 19 ∧ CKi mX9_lose 2 0 0 [some (.ref a2), some (.int (hpI h a0 (x4 + (nI 1)).toNatClampNeg))] h (fun v h' => Wm mL_law 11 mc ms Q 898 [some (.ref a0), some (.ref a1), some (.ref a2), some (.ref a3), some (.int x4), some (.int xs0), none] [.int v] h' nc ns)) : Wm mL_law 11 mc ms Q 886 [some (.ref a0), some (.ref a1), some (.ref a2), some (.ref a3), some (.int x4), none, none] [.int xs0] h nc ns := by
  refine rl_istore (L' := [some (.ref a0), some (.ref a1), some (.ref a2), some (.ref a3), some (.int x4), some (.int xs0), none]) dL_law_886 (Nat.le_of_ble_eq_true rfl) rfl ?_
  refine rl_aload_n dL_law_888 rfl rfl ?_
  refine rl_aload_n dL_law_889 rfl rfl ?_
  refine rl_iload dL_law_890 rfl ?_
  refine rl_iconst (v := nI 1) dL_law_892 (by decide) ?_
  refine rl_iadd dL_law_893 ?_
  obtain ⟨o_1, H⟩ := H
  obtain ⟨o_2, H⟩ := H
  refine rl_iald dL_law_894 (Or.inr o_1) o_2 ?_
  obtain ⟨o_3, H⟩ := H
  obtain ⟨o_4, H⟩ := H
  obtain ⟨o_5, H⟩ := H
  exact rl_callV (As := [.int (hpI h a0 (x4 + (nI 1)).toNatClampNeg)]) (rest := []) mfX9_lose dL_law_895 lkL_144 o_5 (by decide) (Nat.le_of_ble_eq_true rfl) o_3 o_4 rfl (Nat.le_of_ble_eq_true rfl) rfl rfl (fun Qc k => H Qc (fun v h' w => k (some (.int v)) h' w))
theorem bL_law_898 {Q : Nat → Option Value → Hp → Prop} {h : Hp} {mc ms nc ns : Nat} {a0 a1 a2 a3 : Nat} {x4 x5 xs0 : Int32} (H : nc + 0 ≤ mc ∧ ns + 0 ≤ ms ∧ hpK h a2 = 19 ∧ CKi mX9_thrown 0 0 0 [some (.ref a2)] h (fun v h' => Wm mL_law 11 mc ms Q 904 [some (.ref a0), some (.ref a1), some (.ref a2), some (.ref a3), some (.int x4), some (.int x5), some (.int xs0)] [.int v] h' nc ns)) : Wm mL_law 11 mc ms Q 898 [some (.ref a0), some (.ref a1), some (.ref a2), some (.ref a3), some (.int x4), some (.int x5), none] [.int xs0] h nc ns := by
  refine rl_istore (L' := [some (.ref a0), some (.ref a1), some (.ref a2), some (.ref a3), some (.int x4), some (.int x5), some (.int xs0)]) dL_law_898 (Nat.le_of_ble_eq_true rfl) rfl ?_
  refine rl_aload_n dL_law_900 rfl rfl ?_
  obtain ⟨o_1, H⟩ := H
  obtain ⟨o_2, H⟩ := H
  obtain ⟨o_3, H⟩ := H
  exact rl_callV (As := []) (rest := []) mfX9_thrown dL_law_901 lkL_111 o_3 (by decide) (Nat.le_of_ble_eq_true rfl) o_1 o_2 rfl (Nat.le_of_ble_eq_true rfl) rfl rfl (fun Qc k => H Qc (fun v h' w => k (some (.int v)) h' w))
theorem bL_law_904 {Q : Nat → Option Value → Hp → Prop} {h : Hp} {mc ms nc ns : Nat} {a0 a1 a2 a3 : Nat} {x4 x5 x6 xs0 : Int32} (H : ((xs0 = x5 → ((¬ x5 = 0 → Wm mL_law 11 mc ms Q 928 [some (.ref a0), some (.ref a1), some (.ref a2), some (.ref a3), some (.int x4), none, none] [] h nc ns) ∧ (x5 = 0 → hpK h a3 = 3 ∧ vp_in (nI 0) (hpN h a3) ∧ (((lg_cmp (hpJ h a3 (nI 0).toNatClampNeg) ((x6).toInt64)) = 0 → Wm mL_law 11 mc ms Q 928 [some (.ref a0), some (.ref a1), some (.ref a2), some (.ref a3), some (.int x4), none, none] [] h nc ns) ∧ (¬ (lg_cmp (hpJ h a3 (nI 0).toNatClampNeg) ((x6).toInt64)) = 0 → nc ≤ mc ∧ ns ≤ ms ∧ Q 0 (some (.int (nI 0))) h))))) ∧ (¬ xs0 = x5 → nc ≤ mc ∧ ns ≤ ms ∧ Q 0 (some (.int (nI 0))) h))) : Wm mL_law 11 mc ms Q 904 [some (.ref a0), some (.ref a1), some (.ref a2), some (.ref a3), some (.int x4), some (.int x5), some (.int x6)] [.int xs0] h nc ns := by
  refine rl_iload dL_law_904 rfl ?_
  refine rl_icmp_eq (tgt := 911) dL_law_906 (by decide) (fun c_1 => ?_) (fun c_1 => ?_)
  · have H := H.1 c_1
    refine rl_iload dL_law_911 rfl ?_
    refine rl_if_ne (tgt := 928) dL_law_913 (by decide) (fun c_2 => ?_) (fun c_2 => ?_)
    · have H := H.1 c_2
      refine rl_wk (L' := [some (.ref a0), some (.ref a1), some (.ref a2), some (.ref a3), some (.int x4), none, none]) ⟨rfl, ⟨rfl, ⟨rfl, ⟨rfl, ⟨rfl, trivial⟩⟩⟩⟩⟩ ?_
      exact H
    · have H := H.2 c_2
      refine rl_aload_n dL_law_916 rfl rfl ?_
      refine rl_iconst (v := nI 0) dL_law_917 (by decide) ?_
      obtain ⟨o_3, H⟩ := H
      obtain ⟨o_4, H⟩ := H
      refine rl_lald dL_law_918 o_3 o_4 ?_
      refine rl_iload dL_law_919 rfl ?_
      refine rl_i2l dL_law_921 ?_
      refine rl_lcmp dL_law_922 ?_
      refine rl_if_eq (tgt := 928) dL_law_923 (by decide) (fun c_5 => ?_) (fun c_5 => ?_)
      · have H := H.1 c_5
        refine rl_wk (L' := [some (.ref a0), some (.ref a1), some (.ref a2), some (.ref a3), some (.int x4), none, none]) ⟨rfl, ⟨rfl, ⟨rfl, ⟨rfl, ⟨rfl, trivial⟩⟩⟩⟩⟩ ?_
        exact H
      · have H := H.2 c_5
        refine rl_iconst (v := nI 0) dL_law_926 (by decide) ?_
        obtain ⟨o_6, H⟩ := H
        obtain ⟨o_7, H⟩ := H
        exact rl_zret dL_law_927 rfl rfl o_6 o_7 H
  · have H := H.2 c_1
    refine rl_iconst (v := nI 0) dL_law_909 (by decide) ?_
    obtain ⟨o_8, H⟩ := H
    obtain ⟨o_9, H⟩ := H
    exact rl_zret dL_law_910 rfl rfl o_8 o_9 H
theorem bL_law_928 {Q : Nat → Option Value → Hp → Prop} {h : Hp} {mc ms nc ns : Nat} {a0 a1 a2 a3 : Nat} {x4 : Int32} (H : Wm mL_law 11 mc ms Q 1859 [some (.ref a0), some (.ref a1), some (.ref a2), some (.ref a3), some (.int x4), none, none] [] h nc ns) : Wm mL_law 11 mc ms Q 928 [some (.ref a0), some (.ref a1), some (.ref a2), some (.ref a3), some (.int x4), none, none] [] h nc ns := by
  refine rl_goto (tgt := 1859) dL_law_928 (by decide) ?_
  exact H
theorem bL_law_942 {Q : Nat → Option Value → Hp → Prop} {h : Hp} {mc ms nc ns : Nat} {a0 a1 a2 a3 : Nat} {x4 xs0 : Int32} (H : hpK h a0 = 2 ∧ vp_in (x4 + (nI 1)) (hpN h a0) ∧ nc + 0 ≤ mc ∧ ns + 0 ≤ ms ∧ hpK h a2 = 19 ∧ CKi mX9_repeat 2 0 0 [some (.ref a2), some (.int (hpI h a0 (x4 + (nI 1)).toNatClampNeg)), none] h (fun v h' => Wm mL_law 11 mc ms Q 954 [some (.ref a0), some (.ref a1), some (.ref a2), some (.ref a3), some (.int x4), some (.int xs0), none] [.int v] h' nc ns)) : Wm mL_law 11 mc ms Q 942 [some (.ref a0), some (.ref a1), some (.ref a2), some (.ref a3), some (.int x4), none, none] [.int xs0] h nc ns := by
  refine rl_istore (L' := [some (.ref a0), some (.ref a1), some (.ref a2), some (.ref a3), some (.int x4), some (.int xs0), none]) dL_law_942 (Nat.le_of_ble_eq_true rfl) rfl ?_
  refine rl_aload_n dL_law_944 rfl rfl ?_
  refine rl_aload_n dL_law_945 rfl rfl ?_
  refine rl_iload dL_law_946 rfl ?_
  refine rl_iconst (v := nI 1) dL_law_948 (by decide) ?_
  refine rl_iadd dL_law_949 ?_
  obtain ⟨o_1, H⟩ := H
  obtain ⟨o_2, H⟩ := H
  refine rl_iald dL_law_950 (Or.inr o_1) o_2 ?_
  obtain ⟨o_3, H⟩ := H
  obtain ⟨o_4, H⟩ := H
  obtain ⟨o_5, H⟩ := H
  exact rl_callV (As := [.int (hpI h a0 (x4 + (nI 1)).toNatClampNeg)]) (rest := []) mfX9_repeat dL_law_951 lkL_147 o_5 (by decide) (Nat.le_of_ble_eq_true rfl) o_3 o_4 rfl (Nat.le_of_ble_eq_true rfl) rfl rfl (fun Qc k => H Qc (fun v h' w => k (some (.int v)) h' w))
theorem bL_law_954 {Q : Nat → Option Value → Hp → Prop} {h : Hp} {mc ms nc ns : Nat} {a0 a1 a2 a3 : Nat} {x4 x5 xs0 : Int32} (H : nc + 0 ≤ mc ∧ ns + 0 ≤ ms ∧ hpK h a2 = 19 ∧ CKi mX9_thrown 0 0 0 [some (.ref a2)] h (fun v h' => Wm mL_law 11 mc ms Q 960 [some (.ref a0), some (.ref a1), some (.ref a2), some (.ref a3), some (.int x4), some (.int x5), some (.int xs0)] [.int v] h' nc ns)) : Wm mL_law 11 mc ms Q 954 [some (.ref a0), some (.ref a1), some (.ref a2), some (.ref a3), some (.int x4), some (.int x5), none] [.int xs0] h nc ns := by
  refine rl_istore (L' := [some (.ref a0), some (.ref a1), some (.ref a2), some (.ref a3), some (.int x4), some (.int x5), some (.int xs0)]) dL_law_954 (Nat.le_of_ble_eq_true rfl) rfl ?_
  refine rl_aload_n dL_law_956 rfl rfl ?_
  obtain ⟨o_1, H⟩ := H
  obtain ⟨o_2, H⟩ := H
  obtain ⟨o_3, H⟩ := H
  exact rl_callV (As := []) (rest := []) mfX9_thrown dL_law_957 lkL_111 o_3 (by decide) (Nat.le_of_ble_eq_true rfl) o_1 o_2 rfl (Nat.le_of_ble_eq_true rfl) rfl rfl (fun Qc k => H Qc (fun v h' w => k (some (.int v)) h' w))
theorem bL_law_960 {Q : Nat → Option Value → Hp → Prop} {h : Hp} {mc ms nc ns : Nat} {a0 a1 a2 a3 : Nat} {x4 x5 x6 xs0 : Int32} (H : ((xs0 = x5 → ((¬ x5 = 0 → Wm mL_law 11 mc ms Q 984 [some (.ref a0), some (.ref a1), some (.ref a2), some (.ref a3), some (.int x4), none, none] [] h nc ns) ∧ (x5 = 0 → hpK h a3 = 3 ∧ vp_in (nI 0) (hpN h a3) ∧ (((lg_cmp (hpJ h a3 (nI 0).toNatClampNeg) ((x6).toInt64)) = 0 → Wm mL_law 11 mc ms Q 984 [some (.ref a0), some (.ref a1), some (.ref a2), some (.ref a3), some (.int x4), none, none] [] h nc ns) ∧ (¬ (lg_cmp (hpJ h a3 (nI 0).toNatClampNeg) ((x6).toInt64)) = 0 → nc ≤ mc ∧ ns ≤ ms ∧ Q 0 (some (.int (nI 0))) h))))) ∧ (¬ xs0 = x5 → nc ≤ mc ∧ ns ≤ ms ∧ Q 0 (some (.int (nI 0))) h))) : Wm mL_law 11 mc ms Q 960 [some (.ref a0), some (.ref a1), some (.ref a2), some (.ref a3), some (.int x4), some (.int x5), some (.int x6)] [.int xs0] h nc ns := by
  refine rl_iload dL_law_960 rfl ?_
  refine rl_icmp_eq (tgt := 967) dL_law_962 (by decide) (fun c_1 => ?_) (fun c_1 => ?_)
  · have H := H.1 c_1
    refine rl_iload dL_law_967 rfl ?_
    refine rl_if_ne (tgt := 984) dL_law_969 (by decide) (fun c_2 => ?_) (fun c_2 => ?_)
    · have H := H.1 c_2
      refine rl_wk (L' := [some (.ref a0), some (.ref a1), some (.ref a2), some (.ref a3), some (.int x4), none, none]) ⟨rfl, ⟨rfl, ⟨rfl, ⟨rfl, ⟨rfl, trivial⟩⟩⟩⟩⟩ ?_
      exact H
    · have H := H.2 c_2
      refine rl_aload_n dL_law_972 rfl rfl ?_
      refine rl_iconst (v := nI 0) dL_law_973 (by decide) ?_
      obtain ⟨o_3, H⟩ := H
      obtain ⟨o_4, H⟩ := H
      refine rl_lald dL_law_974 o_3 o_4 ?_
      refine rl_iload dL_law_975 rfl ?_
      refine rl_i2l dL_law_977 ?_
      refine rl_lcmp dL_law_978 ?_
      refine rl_if_eq (tgt := 984) dL_law_979 (by decide) (fun c_5 => ?_) (fun c_5 => ?_)
      · have H := H.1 c_5
        refine rl_wk (L' := [some (.ref a0), some (.ref a1), some (.ref a2), some (.ref a3), some (.int x4), none, none]) ⟨rfl, ⟨rfl, ⟨rfl, ⟨rfl, ⟨rfl, trivial⟩⟩⟩⟩⟩ ?_
        exact H
      · have H := H.2 c_5
        refine rl_iconst (v := nI 0) dL_law_982 (by decide) ?_
        obtain ⟨o_6, H⟩ := H
        obtain ⟨o_7, H⟩ := H
        exact rl_zret dL_law_983 rfl rfl o_6 o_7 H
  · have H := H.2 c_1
    refine rl_iconst (v := nI 0) dL_law_965 (by decide) ?_
    obtain ⟨o_8, H⟩ := H
    obtain ⟨o_9, H⟩ := H
    exact rl_zret dL_law_966 rfl rfl o_8 o_9 H
theorem bL_law_984 {Q : Nat → Option Value → Hp → Prop} {h : Hp} {mc ms nc ns : Nat} {a0 a1 a2 a3 : Nat} {x4 : Int32} (H : Wm mL_law 11 mc ms Q 1859 [some (.ref a0), some (.ref a1), some (.ref a2), some (.ref a3), some (.int x4), none, none] [] h nc ns) : Wm mL_law 11 mc ms Q 984 [some (.ref a0), some (.ref a1), some (.ref a2), some (.ref a3), some (.int x4), none, none] [] h nc ns := by
  refine rl_goto (tgt := 1859) dL_law_984 (by decide) ?_
  exact H
theorem bL_law_991 {Q : Nat → Option Value → Hp → Prop} {h : Hp} {mc ms nc ns : Nat} {a0 a1 a2 a3 : Nat} {x4 xs0 : Int32} (H : nc + 0 ≤ mc ∧ ns + 0 ≤ ms ∧ hpK h a2 = 19 ∧ CKi mX9_messages 0 0 0 [some (.ref a2)] h (fun v h' => Wm mL_law 11 mc ms Q 995 [some (.ref a0), some (.ref a1), some (.ref a2), some (.ref a3), some (.int x4), none, none] [.int v, .int xs0] h' nc ns)) : Wm mL_law 11 mc ms Q 991 [some (.ref a0), some (.ref a1), some (.ref a2), some (.ref a3), some (.int x4), none, none] [.int xs0] h nc ns := by
  refine rl_aload_n dL_law_991 rfl rfl ?_
  obtain ⟨o_1, H⟩ := H
  obtain ⟨o_2, H⟩ := H
  obtain ⟨o_3, H⟩ := H
  exact rl_callV (As := []) (rest := [.int xs0]) mfX9_messages dL_law_992 lkL_151 o_3 (by decide) (Nat.le_of_ble_eq_true rfl) o_1 o_2 rfl (Nat.le_of_ble_eq_true rfl) rfl rfl (fun Qc k => H Qc (fun v h' w => k (some (.int v)) h' w))
theorem bL_law_995 {Q : Nat → Option Value → Hp → Prop} {h : Hp} {mc ms nc ns : Nat} {a0 a1 a2 a3 : Nat} {x4 xs0 xs1 : Int32} (H : ((xs0 = xs1 → Wm mL_law 11 mc ms Q 1859 [some (.ref a0), some (.ref a1), some (.ref a2), some (.ref a3), some (.int x4), none, none] [] h nc ns) ∧ (¬ xs0 = xs1 → nc ≤ mc ∧ ns ≤ ms ∧ Q 0 (some (.int (nI 0))) h))) : Wm mL_law 11 mc ms Q 995 [some (.ref a0), some (.ref a1), some (.ref a2), some (.ref a3), some (.int x4), none, none] [.int xs1, .int xs0] h nc ns := by
  refine rl_icmp_eq (tgt := 1859) dL_law_995 (by decide) (fun c_1 => ?_) (fun c_1 => ?_)
  · have H := H.1 c_1
    exact H
  · have H := H.2 c_1
    refine rl_iconst (v := nI 0) dL_law_998 (by decide) ?_
    obtain ⟨o_2, H⟩ := H
    obtain ⟨o_3, H⟩ := H
    exact rl_zret dL_law_999 rfl rfl o_2 o_3 H
theorem bL_law_1017 {Q : Nat → Option Value → Hp → Prop} {h : Hp} {mc ms nc ns : Nat} {a0 a1 a2 a3 : Nat} {x4 xs0 : Int32} (H : hpK h a0 = 2 ∧ vp_in (x4 + (nI 1)) (hpN h a0) ∧ vp_in (x4 + (nI 2)) (hpN h a0) ∧ nc + 0 ≤ mc ∧ ns + 0 ≤ ms ∧ hpK h a2 = 19 ∧ CKi mX9_message 2 0 0 [some (.ref a2), some (.int (hpI h a0 (x4 + (nI 1)).toNatClampNeg)), some (.int (hpI h a0 (x4 + (nI 2)).toNatClampNeg))] h (fun v h' => Wm mL_law 11 mc ms Q 1035 [some (.ref a0), some (.ref a1), some (.ref a2), some (.ref a3), some (.int x4), some (.int xs0), none] [.int v] h' nc ns)) : Wm mL_law 11 mc ms Q 1017 [some (.ref a0), some (.ref a1), some (.ref a2), some (.ref a3), some (.int x4), none, none] [.int xs0] h nc ns := by
  refine rl_istore (L' := [some (.ref a0), some (.ref a1), some (.ref a2), some (.ref a3), some (.int x4), some (.int xs0), none]) dL_law_1017 (Nat.le_of_ble_eq_true rfl) rfl ?_
  refine rl_aload_n dL_law_1019 rfl rfl ?_
  refine rl_aload_n dL_law_1020 rfl rfl ?_
  refine rl_iload dL_law_1021 rfl ?_
  refine rl_iconst (v := nI 1) dL_law_1023 (by decide) ?_
  refine rl_iadd dL_law_1024 ?_
  obtain ⟨o_1, H⟩ := H
  obtain ⟨o_2, H⟩ := H
  refine rl_iald dL_law_1025 (Or.inr o_1) o_2 ?_
  refine rl_aload_n dL_law_1026 rfl rfl ?_
  refine rl_iload dL_law_1027 rfl ?_
  refine rl_iconst (v := nI 2) dL_law_1029 (by decide) ?_
  refine rl_iadd dL_law_1030 ?_
  obtain ⟨o_3, H⟩ := H
  refine rl_iald dL_law_1031 (Or.inr o_1) o_3 ?_
  obtain ⟨o_4, H⟩ := H
  obtain ⟨o_5, H⟩ := H
  obtain ⟨o_6, H⟩ := H
  exact rl_callV (As := [.int (hpI h a0 (x4 + (nI 1)).toNatClampNeg), .int (hpI h a0 (x4 + (nI 2)).toNatClampNeg)]) (rest := []) mfX9_message dL_law_1032 lkL_154 o_6 (by decide) (Nat.le_of_ble_eq_true rfl) o_4 o_5 rfl (Nat.le_of_ble_eq_true rfl) rfl rfl (fun Qc k => H Qc (fun v h' w => k (some (.int v)) h' w))
theorem bL_law_1035 {Q : Nat → Option Value → Hp → Prop} {h : Hp} {mc ms nc ns : Nat} {a0 a1 a2 a3 : Nat} {x4 x5 xs0 : Int32} (H : nc + 0 ≤ mc ∧ ns + 0 ≤ ms ∧ hpK h a2 = 19 ∧ CKi mX9_thrown 0 0 0 [some (.ref a2)] h (fun v h' => Wm mL_law 11 mc ms Q 1041 [some (.ref a0), some (.ref a1), some (.ref a2), some (.ref a3), some (.int x4), some (.int x5), some (.int xs0)] [.int v] h' nc ns)) : Wm mL_law 11 mc ms Q 1035 [some (.ref a0), some (.ref a1), some (.ref a2), some (.ref a3), some (.int x4), some (.int x5), none] [.int xs0] h nc ns := by
  refine rl_istore (L' := [some (.ref a0), some (.ref a1), some (.ref a2), some (.ref a3), some (.int x4), some (.int x5), some (.int xs0)]) dL_law_1035 (Nat.le_of_ble_eq_true rfl) rfl ?_
  refine rl_aload_n dL_law_1037 rfl rfl ?_
  obtain ⟨o_1, H⟩ := H
  obtain ⟨o_2, H⟩ := H
  obtain ⟨o_3, H⟩ := H
  exact rl_callV (As := []) (rest := []) mfX9_thrown dL_law_1038 lkL_111 o_3 (by decide) (Nat.le_of_ble_eq_true rfl) o_1 o_2 rfl (Nat.le_of_ble_eq_true rfl) rfl rfl (fun Qc k => H Qc (fun v h' w => k (some (.int v)) h' w))
theorem bL_law_1041 {Q : Nat → Option Value → Hp → Prop} {h : Hp} {mc ms nc ns : Nat} {a0 a1 a2 a3 : Nat} {x4 x5 x6 xs0 : Int32} (H : ((xs0 = x5 → ((¬ x5 = 0 → Wm mL_law 11 mc ms Q 1065 [some (.ref a0), some (.ref a1), some (.ref a2), some (.ref a3), some (.int x4), none, none] [] h nc ns) ∧ (x5 = 0 → hpK h a3 = 3 ∧ vp_in (nI 0) (hpN h a3) ∧ (((lg_cmp (hpJ h a3 (nI 0).toNatClampNeg) ((x6).toInt64)) = 0 → Wm mL_law 11 mc ms Q 1065 [some (.ref a0), some (.ref a1), some (.ref a2), some (.ref a3), some (.int x4), none, none] [] h nc ns) ∧ (¬ (lg_cmp (hpJ h a3 (nI 0).toNatClampNeg) ((x6).toInt64)) = 0 → nc ≤ mc ∧ ns ≤ ms ∧ Q 0 (some (.int (nI 0))) h))))) ∧ (¬ xs0 = x5 → nc ≤ mc ∧ ns ≤ ms ∧ Q 0 (some (.int (nI 0))) h))) : Wm mL_law 11 mc ms Q 1041 [some (.ref a0), some (.ref a1), some (.ref a2), some (.ref a3), some (.int x4), some (.int x5), some (.int x6)] [.int xs0] h nc ns := by
  refine rl_iload dL_law_1041 rfl ?_
  refine rl_icmp_eq (tgt := 1048) dL_law_1043 (by decide) (fun c_1 => ?_) (fun c_1 => ?_)
  · have H := H.1 c_1
    refine rl_iload dL_law_1048 rfl ?_
    refine rl_if_ne (tgt := 1065) dL_law_1050 (by decide) (fun c_2 => ?_) (fun c_2 => ?_)
    · have H := H.1 c_2
      refine rl_wk (L' := [some (.ref a0), some (.ref a1), some (.ref a2), some (.ref a3), some (.int x4), none, none]) ⟨rfl, ⟨rfl, ⟨rfl, ⟨rfl, ⟨rfl, trivial⟩⟩⟩⟩⟩ ?_
      exact H
    · have H := H.2 c_2
      refine rl_aload_n dL_law_1053 rfl rfl ?_
      refine rl_iconst (v := nI 0) dL_law_1054 (by decide) ?_
      obtain ⟨o_3, H⟩ := H
      obtain ⟨o_4, H⟩ := H
      refine rl_lald dL_law_1055 o_3 o_4 ?_
      refine rl_iload dL_law_1056 rfl ?_
      refine rl_i2l dL_law_1058 ?_
      refine rl_lcmp dL_law_1059 ?_
      refine rl_if_eq (tgt := 1065) dL_law_1060 (by decide) (fun c_5 => ?_) (fun c_5 => ?_)
      · have H := H.1 c_5
        refine rl_wk (L' := [some (.ref a0), some (.ref a1), some (.ref a2), some (.ref a3), some (.int x4), none, none]) ⟨rfl, ⟨rfl, ⟨rfl, ⟨rfl, ⟨rfl, trivial⟩⟩⟩⟩⟩ ?_
        exact H
      · have H := H.2 c_5
        refine rl_iconst (v := nI 0) dL_law_1063 (by decide) ?_
        obtain ⟨o_6, H⟩ := H
        obtain ⟨o_7, H⟩ := H
        exact rl_zret dL_law_1064 rfl rfl o_6 o_7 H
  · have H := H.2 c_1
    refine rl_iconst (v := nI 0) dL_law_1046 (by decide) ?_
    obtain ⟨o_8, H⟩ := H
    obtain ⟨o_9, H⟩ := H
    exact rl_zret dL_law_1047 rfl rfl o_8 o_9 H
theorem bL_law_1065 {Q : Nat → Option Value → Hp → Prop} {h : Hp} {mc ms nc ns : Nat} {a0 a1 a2 a3 : Nat} {x4 : Int32} (H : Wm mL_law 11 mc ms Q 1859 [some (.ref a0), some (.ref a1), some (.ref a2), some (.ref a3), some (.int x4), none, none] [] h nc ns) : Wm mL_law 11 mc ms Q 1065 [some (.ref a0), some (.ref a1), some (.ref a2), some (.ref a3), some (.int x4), none, none] [] h nc ns := by
  refine rl_goto (tgt := 1859) dL_law_1065 (by decide) ?_
  exact H
theorem bL_law_1072 {Q : Nat → Option Value → Hp → Prop} {h : Hp} {mc ms nc ns : Nat} {a0 a1 a2 a3 : Nat} {x4 xs0 : Int32} (H : nc + 0 ≤ mc ∧ ns + 0 ≤ ms ∧ hpK h a2 = 19 ∧ CKi mX9_time 0 0 0 [some (.ref a2)] h (fun v h' => Wm mL_law 11 mc ms Q 1076 [some (.ref a0), some (.ref a1), some (.ref a2), some (.ref a3), some (.int x4), none, none] [.int v, .int xs0] h' nc ns)) : Wm mL_law 11 mc ms Q 1072 [some (.ref a0), some (.ref a1), some (.ref a2), some (.ref a3), some (.int x4), none, none] [.int xs0] h nc ns := by
  refine rl_aload_n dL_law_1072 rfl rfl ?_
  obtain ⟨o_1, H⟩ := H
  obtain ⟨o_2, H⟩ := H
  obtain ⟨o_3, H⟩ := H
  exact rl_callV (As := []) (rest := [.int xs0]) mfX9_time dL_law_1073 lkL_158 o_3 (by decide) (Nat.le_of_ble_eq_true rfl) o_1 o_2 rfl (Nat.le_of_ble_eq_true rfl) rfl rfl (fun Qc k => H Qc (fun v h' w => k (some (.int v)) h' w))
theorem bL_law_1076 {Q : Nat → Option Value → Hp → Prop} {h : Hp} {mc ms nc ns : Nat} {a0 a1 a2 a3 : Nat} {x4 xs0 xs1 : Int32} (H : ((xs0 = xs1 → Wm mL_law 11 mc ms Q 1859 [some (.ref a0), some (.ref a1), some (.ref a2), some (.ref a3), some (.int x4), none, none] [] h nc ns) ∧ (¬ xs0 = xs1 → nc ≤ mc ∧ ns ≤ ms ∧ Q 0 (some (.int (nI 0))) h))) : Wm mL_law 11 mc ms Q 1076 [some (.ref a0), some (.ref a1), some (.ref a2), some (.ref a3), some (.int x4), none, none] [.int xs1, .int xs0] h nc ns := by
  refine rl_icmp_eq (tgt := 1859) dL_law_1076 (by decide) (fun c_1 => ?_) (fun c_1 => ?_)
  · have H := H.1 c_1
    exact H
  · have H := H.2 c_1
    refine rl_iconst (v := nI 0) dL_law_1079 (by decide) ?_
    obtain ⟨o_2, H⟩ := H
    obtain ⟨o_3, H⟩ := H
    exact rl_zret dL_law_1080 rfl rfl o_2 o_3 H
theorem bL_law_1085 {Q : Nat → Option Value → Hp → Prop} {h : Hp} {mc ms nc ns : Nat} {a0 a1 a2 a3 : Nat} {x4 xs0 : Int32} (H : nc + 0 ≤ mc ∧ ns + 0 ≤ ms ∧ hpK h a2 = 19 ∧ CKi mX9_value 3 0 0 [some (.ref a2)] h (fun v h' => Wm mL_law 11 mc ms Q 1089 [some (.ref a0), some (.ref a1), some (.ref a2), some (.ref a3), some (.int x4), none, none] [.int v, .int xs0] h' nc ns)) : Wm mL_law 11 mc ms Q 1085 [some (.ref a0), some (.ref a1), some (.ref a2), some (.ref a3), some (.int x4), none, none] [.int xs0] h nc ns := by
  refine rl_aload_n dL_law_1085 rfl rfl ?_
  obtain ⟨o_1, H⟩ := H
  obtain ⟨o_2, H⟩ := H
  obtain ⟨o_3, H⟩ := H
  exact rl_callV (As := []) (rest := [.int xs0]) mfX9_value dL_law_1086 lkL_162 o_3 (by decide) (Nat.le_of_ble_eq_true rfl) o_1 o_2 rfl (Nat.le_of_ble_eq_true rfl) rfl rfl (fun Qc k => H Qc (fun v h' w => k (some (.int v)) h' w))
theorem bL_law_1089 {Q : Nat → Option Value → Hp → Prop} {h : Hp} {mc ms nc ns : Nat} {a0 a1 a2 a3 : Nat} {x4 xs0 xs1 : Int32} (H : ((xs0 = xs1 → Wm mL_law 11 mc ms Q 1859 [some (.ref a0), some (.ref a1), some (.ref a2), some (.ref a3), some (.int x4), none, none] [] h nc ns) ∧ (¬ xs0 = xs1 → nc ≤ mc ∧ ns ≤ ms ∧ Q 0 (some (.int (nI 0))) h))) : Wm mL_law 11 mc ms Q 1089 [some (.ref a0), some (.ref a1), some (.ref a2), some (.ref a3), some (.int x4), none, none] [.int xs1, .int xs0] h nc ns := by
  refine rl_icmp_eq (tgt := 1859) dL_law_1089 (by decide) (fun c_1 => ?_) (fun c_1 => ?_)
  · have H := H.1 c_1
    exact H
  · have H := H.2 c_1
    refine rl_iconst (v := nI 0) dL_law_1092 (by decide) ?_
    obtain ⟨o_2, H⟩ := H
    obtain ⟨o_3, H⟩ := H
    exact rl_zret dL_law_1093 rfl rfl o_2 o_3 H
theorem bL_law_1105 {Q : Nat → Option Value → Hp → Prop} {h : Hp} {mc ms nc ns : Nat} {a0 a1 a2 a3 : Nat} {x4 xs0 : Int32} (H : hpK h a0 = 2 ∧ vp_in (x4 + (nI 1)) (hpN h a0) ∧ nc + 0 ≤ mc ∧ ns + 0 ≤ ms ∧ hpK h a2 = 19 ∧ CKi mX9_known 2 0 0 [some (.ref a2), some (.int (hpI h a0 (x4 + (nI 1)).toNatClampNeg))] h (fun v h' => Wm mL_law 11 mc ms Q 1117 [some (.ref a0), some (.ref a1), some (.ref a2), some (.ref a3), some (.int x4), some (.int xs0), none] [.int v] h' nc ns)) : Wm mL_law 11 mc ms Q 1105 [some (.ref a0), some (.ref a1), some (.ref a2), some (.ref a3), some (.int x4), none, none] [.int xs0] h nc ns := by
  refine rl_istore (L' := [some (.ref a0), some (.ref a1), some (.ref a2), some (.ref a3), some (.int x4), some (.int xs0), none]) dL_law_1105 (Nat.le_of_ble_eq_true rfl) rfl ?_
  refine rl_aload_n dL_law_1107 rfl rfl ?_
  refine rl_aload_n dL_law_1108 rfl rfl ?_
  refine rl_iload dL_law_1109 rfl ?_
  refine rl_iconst (v := nI 1) dL_law_1111 (by decide) ?_
  refine rl_iadd dL_law_1112 ?_
  obtain ⟨o_1, H⟩ := H
  obtain ⟨o_2, H⟩ := H
  refine rl_iald dL_law_1113 (Or.inr o_1) o_2 ?_
  obtain ⟨o_3, H⟩ := H
  obtain ⟨o_4, H⟩ := H
  obtain ⟨o_5, H⟩ := H
  exact rl_callV (As := [.int (hpI h a0 (x4 + (nI 1)).toNatClampNeg)]) (rest := []) mfX9_known dL_law_1114 lkL_165 o_5 (by decide) (Nat.le_of_ble_eq_true rfl) o_3 o_4 rfl (Nat.le_of_ble_eq_true rfl) rfl rfl (fun Qc k => H Qc (fun v h' w => k (some (.int v)) h' w))
theorem bL_law_1117 {Q : Nat → Option Value → Hp → Prop} {h : Hp} {mc ms nc ns : Nat} {a0 a1 a2 a3 : Nat} {x4 x5 xs0 : Int32} (H : nc + 0 ≤ mc ∧ ns + 0 ≤ ms ∧ hpK h a2 = 19 ∧ CKi mX9_thrown 0 0 0 [some (.ref a2)] h (fun v h' => Wm mL_law 11 mc ms Q 1123 [some (.ref a0), some (.ref a1), some (.ref a2), some (.ref a3), some (.int x4), some (.int x5), some (.int xs0)] [.int v] h' nc ns)) : Wm mL_law 11 mc ms Q 1117 [some (.ref a0), some (.ref a1), some (.ref a2), some (.ref a3), some (.int x4), some (.int x5), none] [.int xs0] h nc ns := by
  refine rl_istore (L' := [some (.ref a0), some (.ref a1), some (.ref a2), some (.ref a3), some (.int x4), some (.int x5), some (.int xs0)]) dL_law_1117 (Nat.le_of_ble_eq_true rfl) rfl ?_
  refine rl_aload_n dL_law_1119 rfl rfl ?_
  obtain ⟨o_1, H⟩ := H
  obtain ⟨o_2, H⟩ := H
  obtain ⟨o_3, H⟩ := H
  exact rl_callV (As := []) (rest := []) mfX9_thrown dL_law_1120 lkL_111 o_3 (by decide) (Nat.le_of_ble_eq_true rfl) o_1 o_2 rfl (Nat.le_of_ble_eq_true rfl) rfl rfl (fun Qc k => H Qc (fun v h' w => k (some (.int v)) h' w))
theorem bL_law_1123 {Q : Nat → Option Value → Hp → Prop} {h : Hp} {mc ms nc ns : Nat} {a0 a1 a2 a3 : Nat} {x4 x5 x6 xs0 : Int32} (H : ((xs0 = x5 → ((¬ x5 = 0 → Wm mL_law 11 mc ms Q 1147 [some (.ref a0), some (.ref a1), some (.ref a2), some (.ref a3), some (.int x4), none, none] [] h nc ns) ∧ (x5 = 0 → hpK h a3 = 3 ∧ vp_in (nI 0) (hpN h a3) ∧ (((lg_cmp (hpJ h a3 (nI 0).toNatClampNeg) ((x6).toInt64)) = 0 → Wm mL_law 11 mc ms Q 1147 [some (.ref a0), some (.ref a1), some (.ref a2), some (.ref a3), some (.int x4), none, none] [] h nc ns) ∧ (¬ (lg_cmp (hpJ h a3 (nI 0).toNatClampNeg) ((x6).toInt64)) = 0 → nc ≤ mc ∧ ns ≤ ms ∧ Q 0 (some (.int (nI 0))) h))))) ∧ (¬ xs0 = x5 → nc ≤ mc ∧ ns ≤ ms ∧ Q 0 (some (.int (nI 0))) h))) : Wm mL_law 11 mc ms Q 1123 [some (.ref a0), some (.ref a1), some (.ref a2), some (.ref a3), some (.int x4), some (.int x5), some (.int x6)] [.int xs0] h nc ns := by
  refine rl_iload dL_law_1123 rfl ?_
  refine rl_icmp_eq (tgt := 1130) dL_law_1125 (by decide) (fun c_1 => ?_) (fun c_1 => ?_)
  · have H := H.1 c_1
    refine rl_iload dL_law_1130 rfl ?_
    refine rl_if_ne (tgt := 1147) dL_law_1132 (by decide) (fun c_2 => ?_) (fun c_2 => ?_)
    · have H := H.1 c_2
      refine rl_wk (L' := [some (.ref a0), some (.ref a1), some (.ref a2), some (.ref a3), some (.int x4), none, none]) ⟨rfl, ⟨rfl, ⟨rfl, ⟨rfl, ⟨rfl, trivial⟩⟩⟩⟩⟩ ?_
      exact H
    · have H := H.2 c_2
      refine rl_aload_n dL_law_1135 rfl rfl ?_
      refine rl_iconst (v := nI 0) dL_law_1136 (by decide) ?_
      obtain ⟨o_3, H⟩ := H
      obtain ⟨o_4, H⟩ := H
      refine rl_lald dL_law_1137 o_3 o_4 ?_
      refine rl_iload dL_law_1138 rfl ?_
      refine rl_i2l dL_law_1140 ?_
      refine rl_lcmp dL_law_1141 ?_
      refine rl_if_eq (tgt := 1147) dL_law_1142 (by decide) (fun c_5 => ?_) (fun c_5 => ?_)
      · have H := H.1 c_5
        refine rl_wk (L' := [some (.ref a0), some (.ref a1), some (.ref a2), some (.ref a3), some (.int x4), none, none]) ⟨rfl, ⟨rfl, ⟨rfl, ⟨rfl, ⟨rfl, trivial⟩⟩⟩⟩⟩ ?_
        exact H
      · have H := H.2 c_5
        refine rl_iconst (v := nI 0) dL_law_1145 (by decide) ?_
        obtain ⟨o_6, H⟩ := H
        obtain ⟨o_7, H⟩ := H
        exact rl_zret dL_law_1146 rfl rfl o_6 o_7 H
  · have H := H.2 c_1
    refine rl_iconst (v := nI 0) dL_law_1128 (by decide) ?_
    obtain ⟨o_8, H⟩ := H
    obtain ⟨o_9, H⟩ := H
    exact rl_zret dL_law_1129 rfl rfl o_8 o_9 H
theorem bL_law_1147 {Q : Nat → Option Value → Hp → Prop} {h : Hp} {mc ms nc ns : Nat} {a0 a1 a2 a3 : Nat} {x4 : Int32} (H : Wm mL_law 11 mc ms Q 1859 [some (.ref a0), some (.ref a1), some (.ref a2), some (.ref a3), some (.int x4), none, none] [] h nc ns) : Wm mL_law 11 mc ms Q 1147 [some (.ref a0), some (.ref a1), some (.ref a2), some (.ref a3), some (.int x4), none, none] [] h nc ns := by
  refine rl_goto (tgt := 1859) dL_law_1147 (by decide) ?_
  exact H
theorem bL_law_1167 {Q : Nat → Option Value → Hp → Prop} {h : Hp} {mc ms nc ns : Nat} {a0 a1 a2 a3 : Nat} {x4 xs0 : Int32} (H : hpK h a0 = 2 ∧ vp_in (x4 + (nI 1)) (hpN h a0) ∧ vp_in (x4 + (nI 2)) (hpN h a0) ∧ nc + 0 ≤ mc ∧ ns + 0 ≤ ms ∧ hpK h a2 = 19 ∧ CKi mX9_own 4 0 0 [some (.ref a2), some (.int (hpI h a0 (x4 + (nI 1)).toNatClampNeg)), some (.int (hpI h a0 (x4 + (nI 2)).toNatClampNeg))] h (fun v h' => Wm mL_law 11 mc ms Q 1185 [some (.ref a0), some (.ref a1), some (.ref a2), some (.ref a3), some (.int x4), some (.int xs0), none] [.int v] h' nc ns)) : Wm mL_law 11 mc ms Q 1167 [some (.ref a0), some (.ref a1), some (.ref a2), some (.ref a3), some (.int x4), none, none] [.int xs0] h nc ns := by
  refine rl_istore (L' := [some (.ref a0), some (.ref a1), some (.ref a2), some (.ref a3), some (.int x4), some (.int xs0), none]) dL_law_1167 (Nat.le_of_ble_eq_true rfl) rfl ?_
  refine rl_aload_n dL_law_1169 rfl rfl ?_
  refine rl_aload_n dL_law_1170 rfl rfl ?_
  refine rl_iload dL_law_1171 rfl ?_
  refine rl_iconst (v := nI 1) dL_law_1173 (by decide) ?_
  refine rl_iadd dL_law_1174 ?_
  obtain ⟨o_1, H⟩ := H
  obtain ⟨o_2, H⟩ := H
  refine rl_iald dL_law_1175 (Or.inr o_1) o_2 ?_
  refine rl_aload_n dL_law_1176 rfl rfl ?_
  refine rl_iload dL_law_1177 rfl ?_
  refine rl_iconst (v := nI 2) dL_law_1179 (by decide) ?_
  refine rl_iadd dL_law_1180 ?_
  obtain ⟨o_3, H⟩ := H
  refine rl_iald dL_law_1181 (Or.inr o_1) o_3 ?_
  obtain ⟨o_4, H⟩ := H
  obtain ⟨o_5, H⟩ := H
  obtain ⟨o_6, H⟩ := H
  exact rl_callV (As := [.int (hpI h a0 (x4 + (nI 1)).toNatClampNeg), .int (hpI h a0 (x4 + (nI 2)).toNatClampNeg)]) (rest := []) mfX9_own dL_law_1182 lkL_168 o_6 (by decide) (Nat.le_of_ble_eq_true rfl) o_4 o_5 rfl (Nat.le_of_ble_eq_true rfl) rfl rfl (fun Qc k => H Qc (fun v h' w => k (some (.int v)) h' w))
theorem bL_law_1185 {Q : Nat → Option Value → Hp → Prop} {h : Hp} {mc ms nc ns : Nat} {a0 a1 a2 a3 : Nat} {x4 x5 xs0 : Int32} (H : nc + 0 ≤ mc ∧ ns + 0 ≤ ms ∧ hpK h a2 = 19 ∧ CKi mX9_thrown 0 0 0 [some (.ref a2)] h (fun v h' => Wm mL_law 11 mc ms Q 1191 [some (.ref a0), some (.ref a1), some (.ref a2), some (.ref a3), some (.int x4), some (.int x5), some (.int xs0)] [.int v] h' nc ns)) : Wm mL_law 11 mc ms Q 1185 [some (.ref a0), some (.ref a1), some (.ref a2), some (.ref a3), some (.int x4), some (.int x5), none] [.int xs0] h nc ns := by
  refine rl_istore (L' := [some (.ref a0), some (.ref a1), some (.ref a2), some (.ref a3), some (.int x4), some (.int x5), some (.int xs0)]) dL_law_1185 (Nat.le_of_ble_eq_true rfl) rfl ?_
  refine rl_aload_n dL_law_1187 rfl rfl ?_
  obtain ⟨o_1, H⟩ := H
  obtain ⟨o_2, H⟩ := H
  obtain ⟨o_3, H⟩ := H
  exact rl_callV (As := []) (rest := []) mfX9_thrown dL_law_1188 lkL_111 o_3 (by decide) (Nat.le_of_ble_eq_true rfl) o_1 o_2 rfl (Nat.le_of_ble_eq_true rfl) rfl rfl (fun Qc k => H Qc (fun v h' w => k (some (.int v)) h' w))
theorem bL_law_1191 {Q : Nat → Option Value → Hp → Prop} {h : Hp} {mc ms nc ns : Nat} {a0 a1 a2 a3 : Nat} {x4 x5 x6 xs0 : Int32} (H : ((xs0 = x5 → ((¬ x5 = 0 → Wm mL_law 11 mc ms Q 1215 [some (.ref a0), some (.ref a1), some (.ref a2), some (.ref a3), some (.int x4), none, none] [] h nc ns) ∧ (x5 = 0 → hpK h a3 = 3 ∧ vp_in (nI 0) (hpN h a3) ∧ (((lg_cmp (hpJ h a3 (nI 0).toNatClampNeg) ((x6).toInt64)) = 0 → Wm mL_law 11 mc ms Q 1215 [some (.ref a0), some (.ref a1), some (.ref a2), some (.ref a3), some (.int x4), none, none] [] h nc ns) ∧ (¬ (lg_cmp (hpJ h a3 (nI 0).toNatClampNeg) ((x6).toInt64)) = 0 → nc ≤ mc ∧ ns ≤ ms ∧ Q 0 (some (.int (nI 0))) h))))) ∧ (¬ xs0 = x5 → nc ≤ mc ∧ ns ≤ ms ∧ Q 0 (some (.int (nI 0))) h))) : Wm mL_law 11 mc ms Q 1191 [some (.ref a0), some (.ref a1), some (.ref a2), some (.ref a3), some (.int x4), some (.int x5), some (.int x6)] [.int xs0] h nc ns := by
  refine rl_iload dL_law_1191 rfl ?_
  refine rl_icmp_eq (tgt := 1198) dL_law_1193 (by decide) (fun c_1 => ?_) (fun c_1 => ?_)
  · have H := H.1 c_1
    refine rl_iload dL_law_1198 rfl ?_
    refine rl_if_ne (tgt := 1215) dL_law_1200 (by decide) (fun c_2 => ?_) (fun c_2 => ?_)
    · have H := H.1 c_2
      refine rl_wk (L' := [some (.ref a0), some (.ref a1), some (.ref a2), some (.ref a3), some (.int x4), none, none]) ⟨rfl, ⟨rfl, ⟨rfl, ⟨rfl, ⟨rfl, trivial⟩⟩⟩⟩⟩ ?_
      exact H
    · have H := H.2 c_2
      refine rl_aload_n dL_law_1203 rfl rfl ?_
      refine rl_iconst (v := nI 0) dL_law_1204 (by decide) ?_
      obtain ⟨o_3, H⟩ := H
      obtain ⟨o_4, H⟩ := H
      refine rl_lald dL_law_1205 o_3 o_4 ?_
      refine rl_iload dL_law_1206 rfl ?_
      refine rl_i2l dL_law_1208 ?_
      refine rl_lcmp dL_law_1209 ?_
      refine rl_if_eq (tgt := 1215) dL_law_1210 (by decide) (fun c_5 => ?_) (fun c_5 => ?_)
      · have H := H.1 c_5
        refine rl_wk (L' := [some (.ref a0), some (.ref a1), some (.ref a2), some (.ref a3), some (.int x4), none, none]) ⟨rfl, ⟨rfl, ⟨rfl, ⟨rfl, ⟨rfl, trivial⟩⟩⟩⟩⟩ ?_
        exact H
      · have H := H.2 c_5
        refine rl_iconst (v := nI 0) dL_law_1213 (by decide) ?_
        obtain ⟨o_6, H⟩ := H
        obtain ⟨o_7, H⟩ := H
        exact rl_zret dL_law_1214 rfl rfl o_6 o_7 H
  · have H := H.2 c_1
    refine rl_iconst (v := nI 0) dL_law_1196 (by decide) ?_
    obtain ⟨o_8, H⟩ := H
    obtain ⟨o_9, H⟩ := H
    exact rl_zret dL_law_1197 rfl rfl o_8 o_9 H
theorem bL_law_1215 {Q : Nat → Option Value → Hp → Prop} {h : Hp} {mc ms nc ns : Nat} {a0 a1 a2 a3 : Nat} {x4 : Int32} (H : Wm mL_law 11 mc ms Q 1859 [some (.ref a0), some (.ref a1), some (.ref a2), some (.ref a3), some (.int x4), none, none] [] h nc ns) : Wm mL_law 11 mc ms Q 1215 [some (.ref a0), some (.ref a1), some (.ref a2), some (.ref a3), some (.int x4), none, none] [] h nc ns := by
  refine rl_goto (tgt := 1859) dL_law_1215 (by decide) ?_
  exact H
theorem bL_law_1235 {Q : Nat → Option Value → Hp → Prop} {h : Hp} {mc ms nc ns : Nat} {a0 a1 a2 a3 : Nat} {x4 xs0 : Int32} (H : hpK h a0 = 2 ∧ vp_in (x4 + (nI 1)) (hpN h a0) ∧ vp_in (x4 + (nI 2)) (hpN h a0) ∧ nc + 0 ≤ mc ∧ ns + 0 ≤ ms ∧ hpK h a2 = 19 ∧ CKi mX9_available 5 0 0 [some (.ref a2), some (.int (hpI h a0 (x4 + (nI 1)).toNatClampNeg)), some (.int (hpI h a0 (x4 + (nI 2)).toNatClampNeg))] h (fun v h' => Wm mL_law 11 mc ms Q 1253 [some (.ref a0), some (.ref a1), some (.ref a2), some (.ref a3), some (.int x4), some (.int xs0), none] [.int v] h' nc ns)) : Wm mL_law 11 mc ms Q 1235 [some (.ref a0), some (.ref a1), some (.ref a2), some (.ref a3), some (.int x4), none, none] [.int xs0] h nc ns := by
  refine rl_istore (L' := [some (.ref a0), some (.ref a1), some (.ref a2), some (.ref a3), some (.int x4), some (.int xs0), none]) dL_law_1235 (Nat.le_of_ble_eq_true rfl) rfl ?_
  refine rl_aload_n dL_law_1237 rfl rfl ?_
  refine rl_aload_n dL_law_1238 rfl rfl ?_
  refine rl_iload dL_law_1239 rfl ?_
  refine rl_iconst (v := nI 1) dL_law_1241 (by decide) ?_
  refine rl_iadd dL_law_1242 ?_
  obtain ⟨o_1, H⟩ := H
  obtain ⟨o_2, H⟩ := H
  refine rl_iald dL_law_1243 (Or.inr o_1) o_2 ?_
  refine rl_aload_n dL_law_1244 rfl rfl ?_
  refine rl_iload dL_law_1245 rfl ?_
  refine rl_iconst (v := nI 2) dL_law_1247 (by decide) ?_
  refine rl_iadd dL_law_1248 ?_
  obtain ⟨o_3, H⟩ := H
  refine rl_iald dL_law_1249 (Or.inr o_1) o_3 ?_
  obtain ⟨o_4, H⟩ := H
  obtain ⟨o_5, H⟩ := H
  obtain ⟨o_6, H⟩ := H
  exact rl_callV (As := [.int (hpI h a0 (x4 + (nI 1)).toNatClampNeg), .int (hpI h a0 (x4 + (nI 2)).toNatClampNeg)]) (rest := []) mfX9_available dL_law_1250 lkL_171 o_6 (by decide) (Nat.le_of_ble_eq_true rfl) o_4 o_5 rfl (Nat.le_of_ble_eq_true rfl) rfl rfl (fun Qc k => H Qc (fun v h' w => k (some (.int v)) h' w))
theorem bL_law_1253 {Q : Nat → Option Value → Hp → Prop} {h : Hp} {mc ms nc ns : Nat} {a0 a1 a2 a3 : Nat} {x4 x5 xs0 : Int32} (H : nc + 0 ≤ mc ∧ ns + 0 ≤ ms ∧ hpK h a2 = 19 ∧ CKi mX9_thrown 0 0 0 [some (.ref a2)] h (fun v h' => Wm mL_law 11 mc ms Q 1259 [some (.ref a0), some (.ref a1), some (.ref a2), some (.ref a3), some (.int x4), some (.int x5), some (.int xs0)] [.int v] h' nc ns)) : Wm mL_law 11 mc ms Q 1253 [some (.ref a0), some (.ref a1), some (.ref a2), some (.ref a3), some (.int x4), some (.int x5), none] [.int xs0] h nc ns := by
  refine rl_istore (L' := [some (.ref a0), some (.ref a1), some (.ref a2), some (.ref a3), some (.int x4), some (.int x5), some (.int xs0)]) dL_law_1253 (Nat.le_of_ble_eq_true rfl) rfl ?_
  refine rl_aload_n dL_law_1255 rfl rfl ?_
  obtain ⟨o_1, H⟩ := H
  obtain ⟨o_2, H⟩ := H
  obtain ⟨o_3, H⟩ := H
  exact rl_callV (As := []) (rest := []) mfX9_thrown dL_law_1256 lkL_111 o_3 (by decide) (Nat.le_of_ble_eq_true rfl) o_1 o_2 rfl (Nat.le_of_ble_eq_true rfl) rfl rfl (fun Qc k => H Qc (fun v h' w => k (some (.int v)) h' w))
theorem bL_law_1259 {Q : Nat → Option Value → Hp → Prop} {h : Hp} {mc ms nc ns : Nat} {a0 a1 a2 a3 : Nat} {x4 x5 x6 xs0 : Int32} (H : ((xs0 = x5 → ((¬ x5 = 0 → Wm mL_law 11 mc ms Q 1283 [some (.ref a0), some (.ref a1), some (.ref a2), some (.ref a3), some (.int x4), none, none] [] h nc ns) ∧ (x5 = 0 → hpK h a3 = 3 ∧ vp_in (nI 0) (hpN h a3) ∧ (((lg_cmp (hpJ h a3 (nI 0).toNatClampNeg) ((x6).toInt64)) = 0 → Wm mL_law 11 mc ms Q 1283 [some (.ref a0), some (.ref a1), some (.ref a2), some (.ref a3), some (.int x4), none, none] [] h nc ns) ∧ (¬ (lg_cmp (hpJ h a3 (nI 0).toNatClampNeg) ((x6).toInt64)) = 0 → nc ≤ mc ∧ ns ≤ ms ∧ Q 0 (some (.int (nI 0))) h))))) ∧ (¬ xs0 = x5 → nc ≤ mc ∧ ns ≤ ms ∧ Q 0 (some (.int (nI 0))) h))) : Wm mL_law 11 mc ms Q 1259 [some (.ref a0), some (.ref a1), some (.ref a2), some (.ref a3), some (.int x4), some (.int x5), some (.int x6)] [.int xs0] h nc ns := by
  refine rl_iload dL_law_1259 rfl ?_
  refine rl_icmp_eq (tgt := 1266) dL_law_1261 (by decide) (fun c_1 => ?_) (fun c_1 => ?_)
  · have H := H.1 c_1
    refine rl_iload dL_law_1266 rfl ?_
    refine rl_if_ne (tgt := 1283) dL_law_1268 (by decide) (fun c_2 => ?_) (fun c_2 => ?_)
    · have H := H.1 c_2
      refine rl_wk (L' := [some (.ref a0), some (.ref a1), some (.ref a2), some (.ref a3), some (.int x4), none, none]) ⟨rfl, ⟨rfl, ⟨rfl, ⟨rfl, ⟨rfl, trivial⟩⟩⟩⟩⟩ ?_
      exact H
    · have H := H.2 c_2
      refine rl_aload_n dL_law_1271 rfl rfl ?_
      refine rl_iconst (v := nI 0) dL_law_1272 (by decide) ?_
      obtain ⟨o_3, H⟩ := H
      obtain ⟨o_4, H⟩ := H
      refine rl_lald dL_law_1273 o_3 o_4 ?_
      refine rl_iload dL_law_1274 rfl ?_
      refine rl_i2l dL_law_1276 ?_
      refine rl_lcmp dL_law_1277 ?_
      refine rl_if_eq (tgt := 1283) dL_law_1278 (by decide) (fun c_5 => ?_) (fun c_5 => ?_)
      · have H := H.1 c_5
        refine rl_wk (L' := [some (.ref a0), some (.ref a1), some (.ref a2), some (.ref a3), some (.int x4), none, none]) ⟨rfl, ⟨rfl, ⟨rfl, ⟨rfl, ⟨rfl, trivial⟩⟩⟩⟩⟩ ?_
        exact H
      · have H := H.2 c_5
        refine rl_iconst (v := nI 0) dL_law_1281 (by decide) ?_
        obtain ⟨o_6, H⟩ := H
        obtain ⟨o_7, H⟩ := H
        exact rl_zret dL_law_1282 rfl rfl o_6 o_7 H
  · have H := H.2 c_1
    refine rl_iconst (v := nI 0) dL_law_1264 (by decide) ?_
    obtain ⟨o_8, H⟩ := H
    obtain ⟨o_9, H⟩ := H
    exact rl_zret dL_law_1265 rfl rfl o_8 o_9 H
theorem bL_law_1283 {Q : Nat → Option Value → Hp → Prop} {h : Hp} {mc ms nc ns : Nat} {a0 a1 a2 a3 : Nat} {x4 : Int32} (H : Wm mL_law 11 mc ms Q 1859 [some (.ref a0), some (.ref a1), some (.ref a2), some (.ref a3), some (.int x4), none, none] [] h nc ns) : Wm mL_law 11 mc ms Q 1283 [some (.ref a0), some (.ref a1), some (.ref a2), some (.ref a3), some (.int x4), none, none] [] h nc ns := by
  refine rl_goto (tgt := 1859) dL_law_1283 (by decide) ?_
  exact H
theorem bL_law_1297 {Q : Nat → Option Value → Hp → Prop} {h : Hp} {mc ms nc ns : Nat} {a0 a1 a2 a3 : Nat} {x4 xs0 : Int32} (H : hpK h a0 = 2 ∧ vp_in (x4 + (nI 1)) (hpN h a0) ∧ nc + 0 ≤ mc ∧ ns + 0 ≤ ms ∧ hpK h a2 = 19 ∧ CKi mX9_dormant 5 0 0 [some (.ref a2), some (.int (hpI h a0 (x4 + (nI 1)).toNatClampNeg)), none, none] h (fun v h' => Wm mL_law 11 mc ms Q 1309 [some (.ref a0), some (.ref a1), some (.ref a2), some (.ref a3), some (.int x4), some (.int xs0), none] [.int v] h' nc ns)) : Wm mL_law 11 mc ms Q 1297 [some (.ref a0), some (.ref a1), some (.ref a2), some (.ref a3), some (.int x4), none, none] [.int xs0] h nc ns := by
  refine rl_istore (L' := [some (.ref a0), some (.ref a1), some (.ref a2), some (.ref a3), some (.int x4), some (.int xs0), none]) dL_law_1297 (Nat.le_of_ble_eq_true rfl) rfl ?_
  refine rl_aload_n dL_law_1299 rfl rfl ?_
  refine rl_aload_n dL_law_1300 rfl rfl ?_
  refine rl_iload dL_law_1301 rfl ?_
  refine rl_iconst (v := nI 1) dL_law_1303 (by decide) ?_
  refine rl_iadd dL_law_1304 ?_
  obtain ⟨o_1, H⟩ := H
  obtain ⟨o_2, H⟩ := H
  refine rl_iald dL_law_1305 (Or.inr o_1) o_2 ?_
  obtain ⟨o_3, H⟩ := H
  obtain ⟨o_4, H⟩ := H
  obtain ⟨o_5, H⟩ := H
  exact rl_callV (As := [.int (hpI h a0 (x4 + (nI 1)).toNatClampNeg)]) (rest := []) mfX9_dormant dL_law_1306 lkL_174 o_5 (by decide) (Nat.le_of_ble_eq_true rfl) o_3 o_4 rfl (Nat.le_of_ble_eq_true rfl) rfl rfl (fun Qc k => H Qc (fun v h' w => k (some (.int v)) h' w))
theorem bL_law_1309 {Q : Nat → Option Value → Hp → Prop} {h : Hp} {mc ms nc ns : Nat} {a0 a1 a2 a3 : Nat} {x4 x5 xs0 : Int32} (H : nc + 0 ≤ mc ∧ ns + 0 ≤ ms ∧ hpK h a2 = 19 ∧ CKi mX9_thrown 0 0 0 [some (.ref a2)] h (fun v h' => Wm mL_law 11 mc ms Q 1315 [some (.ref a0), some (.ref a1), some (.ref a2), some (.ref a3), some (.int x4), some (.int x5), some (.int xs0)] [.int v] h' nc ns)) : Wm mL_law 11 mc ms Q 1309 [some (.ref a0), some (.ref a1), some (.ref a2), some (.ref a3), some (.int x4), some (.int x5), none] [.int xs0] h nc ns := by
  refine rl_istore (L' := [some (.ref a0), some (.ref a1), some (.ref a2), some (.ref a3), some (.int x4), some (.int x5), some (.int xs0)]) dL_law_1309 (Nat.le_of_ble_eq_true rfl) rfl ?_
  refine rl_aload_n dL_law_1311 rfl rfl ?_
  obtain ⟨o_1, H⟩ := H
  obtain ⟨o_2, H⟩ := H
  obtain ⟨o_3, H⟩ := H
  exact rl_callV (As := []) (rest := []) mfX9_thrown dL_law_1312 lkL_111 o_3 (by decide) (Nat.le_of_ble_eq_true rfl) o_1 o_2 rfl (Nat.le_of_ble_eq_true rfl) rfl rfl (fun Qc k => H Qc (fun v h' w => k (some (.int v)) h' w))
theorem bL_law_1315 {Q : Nat → Option Value → Hp → Prop} {h : Hp} {mc ms nc ns : Nat} {a0 a1 a2 a3 : Nat} {x4 x5 x6 xs0 : Int32} (H : ((xs0 = x5 → ((¬ x5 = 0 → Wm mL_law 11 mc ms Q 1339 [some (.ref a0), some (.ref a1), some (.ref a2), some (.ref a3), some (.int x4), none, none] [] h nc ns) ∧ (x5 = 0 → hpK h a3 = 3 ∧ vp_in (nI 0) (hpN h a3) ∧ (((lg_cmp (hpJ h a3 (nI 0).toNatClampNeg) ((x6).toInt64)) = 0 → Wm mL_law 11 mc ms Q 1339 [some (.ref a0), some (.ref a1), some (.ref a2), some (.ref a3), some (.int x4), none, none] [] h nc ns) ∧ (¬ (lg_cmp (hpJ h a3 (nI 0).toNatClampNeg) ((x6).toInt64)) = 0 → nc ≤ mc ∧ ns ≤ ms ∧ Q 0 (some (.int (nI 0))) h))))) ∧ (¬ xs0 = x5 → nc ≤ mc ∧ ns ≤ ms ∧ Q 0 (some (.int (nI 0))) h))) : Wm mL_law 11 mc ms Q 1315 [some (.ref a0), some (.ref a1), some (.ref a2), some (.ref a3), some (.int x4), some (.int x5), some (.int x6)] [.int xs0] h nc ns := by
  refine rl_iload dL_law_1315 rfl ?_
  refine rl_icmp_eq (tgt := 1322) dL_law_1317 (by decide) (fun c_1 => ?_) (fun c_1 => ?_)
  · have H := H.1 c_1
    refine rl_iload dL_law_1322 rfl ?_
    refine rl_if_ne (tgt := 1339) dL_law_1324 (by decide) (fun c_2 => ?_) (fun c_2 => ?_)
    · have H := H.1 c_2
      refine rl_wk (L' := [some (.ref a0), some (.ref a1), some (.ref a2), some (.ref a3), some (.int x4), none, none]) ⟨rfl, ⟨rfl, ⟨rfl, ⟨rfl, ⟨rfl, trivial⟩⟩⟩⟩⟩ ?_
      exact H
    · have H := H.2 c_2
      refine rl_aload_n dL_law_1327 rfl rfl ?_
      refine rl_iconst (v := nI 0) dL_law_1328 (by decide) ?_
      obtain ⟨o_3, H⟩ := H
      obtain ⟨o_4, H⟩ := H
      refine rl_lald dL_law_1329 o_3 o_4 ?_
      refine rl_iload dL_law_1330 rfl ?_
      refine rl_i2l dL_law_1332 ?_
      refine rl_lcmp dL_law_1333 ?_
      refine rl_if_eq (tgt := 1339) dL_law_1334 (by decide) (fun c_5 => ?_) (fun c_5 => ?_)
      · have H := H.1 c_5
        refine rl_wk (L' := [some (.ref a0), some (.ref a1), some (.ref a2), some (.ref a3), some (.int x4), none, none]) ⟨rfl, ⟨rfl, ⟨rfl, ⟨rfl, ⟨rfl, trivial⟩⟩⟩⟩⟩ ?_
        exact H
      · have H := H.2 c_5
        refine rl_iconst (v := nI 0) dL_law_1337 (by decide) ?_
        obtain ⟨o_6, H⟩ := H
        obtain ⟨o_7, H⟩ := H
        exact rl_zret dL_law_1338 rfl rfl o_6 o_7 H
  · have H := H.2 c_1
    refine rl_iconst (v := nI 0) dL_law_1320 (by decide) ?_
    obtain ⟨o_8, H⟩ := H
    obtain ⟨o_9, H⟩ := H
    exact rl_zret dL_law_1321 rfl rfl o_8 o_9 H
theorem bL_law_1339 {Q : Nat → Option Value → Hp → Prop} {h : Hp} {mc ms nc ns : Nat} {a0 a1 a2 a3 : Nat} {x4 : Int32} (H : Wm mL_law 11 mc ms Q 1859 [some (.ref a0), some (.ref a1), some (.ref a2), some (.ref a3), some (.int x4), none, none] [] h nc ns) : Wm mL_law 11 mc ms Q 1339 [some (.ref a0), some (.ref a1), some (.ref a2), some (.ref a3), some (.int x4), none, none] [] h nc ns := by
  refine rl_goto (tgt := 1859) dL_law_1339 (by decide) ?_
  exact H
theorem bL_law_1365 {Q : Nat → Option Value → Hp → Prop} {h : Hp} {mc ms nc ns : Nat} {a0 a1 a2 a3 : Nat} {x4 xs0 : Int32} (H : hpK h a0 = 2 ∧ vp_in (x4 + (nI 1)) (hpN h a0) ∧ vp_in (x4 + (nI 2)) (hpN h a0) ∧ vp_in (x4 + (nI 3)) (hpN h a0) ∧ nc + 0 ≤ mc ∧ ns + 0 ≤ ms ∧ hpK h a2 = 19 ∧ CKi mX9_demand 2 0 0 [some (.ref a2), some (.int (hpI h a0 (x4 + (nI 1)).toNatClampNeg)), some (.int (hpI h a0 (x4 + (nI 2)).toNatClampNeg)), some (.int (hpI h a0 (x4 + (nI 3)).toNatClampNeg))] h (fun v h' => Wm mL_law 11 mc ms Q 1389 [some (.ref a0), some (.ref a1), some (.ref a2), some (.ref a3), some (.int x4), some (.int xs0), none] [.int v] h' nc ns)) : Wm mL_law 11 mc ms Q 1365 [some (.ref a0), some (.ref a1), some (.ref a2), some (.ref a3), some (.int x4), none, none] [.int xs0] h nc ns := by
  refine rl_istore (L' := [some (.ref a0), some (.ref a1), some (.ref a2), some (.ref a3), some (.int x4), some (.int xs0), none]) dL_law_1365 (Nat.le_of_ble_eq_true rfl) rfl ?_
  refine rl_aload_n dL_law_1367 rfl rfl ?_
  refine rl_aload_n dL_law_1368 rfl rfl ?_
  refine rl_iload dL_law_1369 rfl ?_
  refine rl_iconst (v := nI 1) dL_law_1371 (by decide) ?_
  refine rl_iadd dL_law_1372 ?_
  obtain ⟨o_1, H⟩ := H
  obtain ⟨o_2, H⟩ := H
  refine rl_iald dL_law_1373 (Or.inr o_1) o_2 ?_
  refine rl_aload_n dL_law_1374 rfl rfl ?_
  refine rl_iload dL_law_1375 rfl ?_
  refine rl_iconst (v := nI 2) dL_law_1377 (by decide) ?_
  refine rl_iadd dL_law_1378 ?_
  obtain ⟨o_3, H⟩ := H
  refine rl_iald dL_law_1379 (Or.inr o_1) o_3 ?_
  refine rl_aload_n dL_law_1380 rfl rfl ?_
  refine rl_iload dL_law_1381 rfl ?_
  refine rl_iconst (v := nI 3) dL_law_1383 (by decide) ?_
  refine rl_iadd dL_law_1384 ?_
  obtain ⟨o_4, H⟩ := H
  refine rl_iald dL_law_1385 (Or.inr o_1) o_4 ?_
  obtain ⟨o_5, H⟩ := H
  obtain ⟨o_6, H⟩ := H
  obtain ⟨o_7, H⟩ := H
  exact rl_callV (As := [.int (hpI h a0 (x4 + (nI 1)).toNatClampNeg), .int (hpI h a0 (x4 + (nI 2)).toNatClampNeg), .int (hpI h a0 (x4 + (nI 3)).toNatClampNeg)]) (rest := []) mfX9_demand dL_law_1386 lkL_177 o_7 (by decide) (Nat.le_of_ble_eq_true rfl) o_5 o_6 rfl (Nat.le_of_ble_eq_true rfl) rfl rfl (fun Qc k => H Qc (fun v h' w => k (some (.int v)) h' w))
theorem bL_law_1389 {Q : Nat → Option Value → Hp → Prop} {h : Hp} {mc ms nc ns : Nat} {a0 a1 a2 a3 : Nat} {x4 x5 xs0 : Int32} (H : nc + 0 ≤ mc ∧ ns + 0 ≤ ms ∧ hpK h a2 = 19 ∧ CKi mX9_thrown 0 0 0 [some (.ref a2)] h (fun v h' => Wm mL_law 11 mc ms Q 1395 [some (.ref a0), some (.ref a1), some (.ref a2), some (.ref a3), some (.int x4), some (.int x5), some (.int xs0)] [.int v] h' nc ns)) : Wm mL_law 11 mc ms Q 1389 [some (.ref a0), some (.ref a1), some (.ref a2), some (.ref a3), some (.int x4), some (.int x5), none] [.int xs0] h nc ns := by
  refine rl_istore (L' := [some (.ref a0), some (.ref a1), some (.ref a2), some (.ref a3), some (.int x4), some (.int x5), some (.int xs0)]) dL_law_1389 (Nat.le_of_ble_eq_true rfl) rfl ?_
  refine rl_aload_n dL_law_1391 rfl rfl ?_
  obtain ⟨o_1, H⟩ := H
  obtain ⟨o_2, H⟩ := H
  obtain ⟨o_3, H⟩ := H
  exact rl_callV (As := []) (rest := []) mfX9_thrown dL_law_1392 lkL_111 o_3 (by decide) (Nat.le_of_ble_eq_true rfl) o_1 o_2 rfl (Nat.le_of_ble_eq_true rfl) rfl rfl (fun Qc k => H Qc (fun v h' w => k (some (.int v)) h' w))
theorem bL_law_1395 {Q : Nat → Option Value → Hp → Prop} {h : Hp} {mc ms nc ns : Nat} {a0 a1 a2 a3 : Nat} {x4 x5 x6 xs0 : Int32} (H : ((xs0 = x5 → ((¬ x5 = 0 → Wm mL_law 11 mc ms Q 1419 [some (.ref a0), some (.ref a1), some (.ref a2), some (.ref a3), some (.int x4), none, none] [] h nc ns) ∧ (x5 = 0 → hpK h a3 = 3 ∧ vp_in (nI 0) (hpN h a3) ∧ (((lg_cmp (hpJ h a3 (nI 0).toNatClampNeg) ((x6).toInt64)) = 0 → Wm mL_law 11 mc ms Q 1419 [some (.ref a0), some (.ref a1), some (.ref a2), some (.ref a3), some (.int x4), none, none] [] h nc ns) ∧ (¬ (lg_cmp (hpJ h a3 (nI 0).toNatClampNeg) ((x6).toInt64)) = 0 → nc ≤ mc ∧ ns ≤ ms ∧ Q 0 (some (.int (nI 0))) h))))) ∧ (¬ xs0 = x5 → nc ≤ mc ∧ ns ≤ ms ∧ Q 0 (some (.int (nI 0))) h))) : Wm mL_law 11 mc ms Q 1395 [some (.ref a0), some (.ref a1), some (.ref a2), some (.ref a3), some (.int x4), some (.int x5), some (.int x6)] [.int xs0] h nc ns := by
  refine rl_iload dL_law_1395 rfl ?_
  refine rl_icmp_eq (tgt := 1402) dL_law_1397 (by decide) (fun c_1 => ?_) (fun c_1 => ?_)
  · have H := H.1 c_1
    refine rl_iload dL_law_1402 rfl ?_
    refine rl_if_ne (tgt := 1419) dL_law_1404 (by decide) (fun c_2 => ?_) (fun c_2 => ?_)
    · have H := H.1 c_2
      refine rl_wk (L' := [some (.ref a0), some (.ref a1), some (.ref a2), some (.ref a3), some (.int x4), none, none]) ⟨rfl, ⟨rfl, ⟨rfl, ⟨rfl, ⟨rfl, trivial⟩⟩⟩⟩⟩ ?_
      exact H
    · have H := H.2 c_2
      refine rl_aload_n dL_law_1407 rfl rfl ?_
      refine rl_iconst (v := nI 0) dL_law_1408 (by decide) ?_
      obtain ⟨o_3, H⟩ := H
      obtain ⟨o_4, H⟩ := H
      refine rl_lald dL_law_1409 o_3 o_4 ?_
      refine rl_iload dL_law_1410 rfl ?_
      refine rl_i2l dL_law_1412 ?_
      refine rl_lcmp dL_law_1413 ?_
      refine rl_if_eq (tgt := 1419) dL_law_1414 (by decide) (fun c_5 => ?_) (fun c_5 => ?_)
      · have H := H.1 c_5
        refine rl_wk (L' := [some (.ref a0), some (.ref a1), some (.ref a2), some (.ref a3), some (.int x4), none, none]) ⟨rfl, ⟨rfl, ⟨rfl, ⟨rfl, ⟨rfl, trivial⟩⟩⟩⟩⟩ ?_
        exact H
      · have H := H.2 c_5
        refine rl_iconst (v := nI 0) dL_law_1417 (by decide) ?_
        obtain ⟨o_6, H⟩ := H
        obtain ⟨o_7, H⟩ := H
        exact rl_zret dL_law_1418 rfl rfl o_6 o_7 H
  · have H := H.2 c_1
    refine rl_iconst (v := nI 0) dL_law_1400 (by decide) ?_
    obtain ⟨o_8, H⟩ := H
    obtain ⟨o_9, H⟩ := H
    exact rl_zret dL_law_1401 rfl rfl o_8 o_9 H
theorem bL_law_1419 {Q : Nat → Option Value → Hp → Prop} {h : Hp} {mc ms nc ns : Nat} {a0 a1 a2 a3 : Nat} {x4 : Int32} (H : Wm mL_law 11 mc ms Q 1859 [some (.ref a0), some (.ref a1), some (.ref a2), some (.ref a3), some (.int x4), none, none] [] h nc ns) : Wm mL_law 11 mc ms Q 1419 [some (.ref a0), some (.ref a1), some (.ref a2), some (.ref a3), some (.int x4), none, none] [] h nc ns := by
  refine rl_goto (tgt := 1859) dL_law_1419 (by decide) ?_
  exact H
theorem bL_law_1439 {Q : Nat → Option Value → Hp → Prop} {h : Hp} {mc ms nc ns : Nat} {a0 a1 a2 a3 : Nat} {x4 xs0 : Int32} (H : hpK h a0 = 2 ∧ vp_in (x4 + (nI 1)) (hpN h a0) ∧ vp_in (x4 + (nI 2)) (hpN h a0) ∧ nc + 0 ≤ mc ∧ ns + 0 ≤ ms ∧ hpK h a2 = 19 ∧ CKi mX9_version 3 0 0 [some (.ref a2), some (.int (hpI h a0 (x4 + (nI 1)).toNatClampNeg)), some (.int (hpI h a0 (x4 + (nI 2)).toNatClampNeg))] h (fun v h' => Wm mL_law 11 mc ms Q 1457 [some (.ref a0), some (.ref a1), some (.ref a2), some (.ref a3), some (.int x4), some (.int xs0), none] [.int v] h' nc ns)) : Wm mL_law 11 mc ms Q 1439 [some (.ref a0), some (.ref a1), some (.ref a2), some (.ref a3), some (.int x4), none, none] [.int xs0] h nc ns := by
  refine rl_istore (L' := [some (.ref a0), some (.ref a1), some (.ref a2), some (.ref a3), some (.int x4), some (.int xs0), none]) dL_law_1439 (Nat.le_of_ble_eq_true rfl) rfl ?_
  refine rl_aload_n dL_law_1441 rfl rfl ?_
  refine rl_aload_n dL_law_1442 rfl rfl ?_
  refine rl_iload dL_law_1443 rfl ?_
  refine rl_iconst (v := nI 1) dL_law_1445 (by decide) ?_
  refine rl_iadd dL_law_1446 ?_
  obtain ⟨o_1, H⟩ := H
  obtain ⟨o_2, H⟩ := H
  refine rl_iald dL_law_1447 (Or.inr o_1) o_2 ?_
  refine rl_aload_n dL_law_1448 rfl rfl ?_
  refine rl_iload dL_law_1449 rfl ?_
  refine rl_iconst (v := nI 2) dL_law_1451 (by decide) ?_
  refine rl_iadd dL_law_1452 ?_
  obtain ⟨o_3, H⟩ := H
  refine rl_iald dL_law_1453 (Or.inr o_1) o_3 ?_
  obtain ⟨o_4, H⟩ := H
  obtain ⟨o_5, H⟩ := H
  obtain ⟨o_6, H⟩ := H
  exact rl_callV (As := [.int (hpI h a0 (x4 + (nI 1)).toNatClampNeg), .int (hpI h a0 (x4 + (nI 2)).toNatClampNeg)]) (rest := []) mfX9_version dL_law_1454 lkL_180 o_6 (by decide) (Nat.le_of_ble_eq_true rfl) o_4 o_5 rfl (Nat.le_of_ble_eq_true rfl) rfl rfl (fun Qc k => H Qc (fun v h' w => k (some (.int v)) h' w))
theorem bL_law_1457 {Q : Nat → Option Value → Hp → Prop} {h : Hp} {mc ms nc ns : Nat} {a0 a1 a2 a3 : Nat} {x4 x5 xs0 : Int32} (H : nc + 0 ≤ mc ∧ ns + 0 ≤ ms ∧ hpK h a2 = 19 ∧ CKi mX9_thrown 0 0 0 [some (.ref a2)] h (fun v h' => Wm mL_law 11 mc ms Q 1463 [some (.ref a0), some (.ref a1), some (.ref a2), some (.ref a3), some (.int x4), some (.int x5), some (.int xs0)] [.int v] h' nc ns)) : Wm mL_law 11 mc ms Q 1457 [some (.ref a0), some (.ref a1), some (.ref a2), some (.ref a3), some (.int x4), some (.int x5), none] [.int xs0] h nc ns := by
  refine rl_istore (L' := [some (.ref a0), some (.ref a1), some (.ref a2), some (.ref a3), some (.int x4), some (.int x5), some (.int xs0)]) dL_law_1457 (Nat.le_of_ble_eq_true rfl) rfl ?_
  refine rl_aload_n dL_law_1459 rfl rfl ?_
  obtain ⟨o_1, H⟩ := H
  obtain ⟨o_2, H⟩ := H
  obtain ⟨o_3, H⟩ := H
  exact rl_callV (As := []) (rest := []) mfX9_thrown dL_law_1460 lkL_111 o_3 (by decide) (Nat.le_of_ble_eq_true rfl) o_1 o_2 rfl (Nat.le_of_ble_eq_true rfl) rfl rfl (fun Qc k => H Qc (fun v h' w => k (some (.int v)) h' w))
theorem bL_law_1463 {Q : Nat → Option Value → Hp → Prop} {h : Hp} {mc ms nc ns : Nat} {a0 a1 a2 a3 : Nat} {x4 x5 x6 xs0 : Int32} (H : ((xs0 = x5 → ((¬ x5 = 0 → Wm mL_law 11 mc ms Q 1487 [some (.ref a0), some (.ref a1), some (.ref a2), some (.ref a3), some (.int x4), none, none] [] h nc ns) ∧ (x5 = 0 → hpK h a3 = 3 ∧ vp_in (nI 0) (hpN h a3) ∧ (((lg_cmp (hpJ h a3 (nI 0).toNatClampNeg) ((x6).toInt64)) = 0 → Wm mL_law 11 mc ms Q 1487 [some (.ref a0), some (.ref a1), some (.ref a2), some (.ref a3), some (.int x4), none, none] [] h nc ns) ∧ (¬ (lg_cmp (hpJ h a3 (nI 0).toNatClampNeg) ((x6).toInt64)) = 0 → nc ≤ mc ∧ ns ≤ ms ∧ Q 0 (some (.int (nI 0))) h))))) ∧ (¬ xs0 = x5 → nc ≤ mc ∧ ns ≤ ms ∧ Q 0 (some (.int (nI 0))) h))) : Wm mL_law 11 mc ms Q 1463 [some (.ref a0), some (.ref a1), some (.ref a2), some (.ref a3), some (.int x4), some (.int x5), some (.int x6)] [.int xs0] h nc ns := by
  refine rl_iload dL_law_1463 rfl ?_
  refine rl_icmp_eq (tgt := 1470) dL_law_1465 (by decide) (fun c_1 => ?_) (fun c_1 => ?_)
  · have H := H.1 c_1
    refine rl_iload dL_law_1470 rfl ?_
    refine rl_if_ne (tgt := 1487) dL_law_1472 (by decide) (fun c_2 => ?_) (fun c_2 => ?_)
    · have H := H.1 c_2
      refine rl_wk (L' := [some (.ref a0), some (.ref a1), some (.ref a2), some (.ref a3), some (.int x4), none, none]) ⟨rfl, ⟨rfl, ⟨rfl, ⟨rfl, ⟨rfl, trivial⟩⟩⟩⟩⟩ ?_
      exact H
    · have H := H.2 c_2
      refine rl_aload_n dL_law_1475 rfl rfl ?_
      refine rl_iconst (v := nI 0) dL_law_1476 (by decide) ?_
      obtain ⟨o_3, H⟩ := H
      obtain ⟨o_4, H⟩ := H
      refine rl_lald dL_law_1477 o_3 o_4 ?_
      refine rl_iload dL_law_1478 rfl ?_
      refine rl_i2l dL_law_1480 ?_
      refine rl_lcmp dL_law_1481 ?_
      refine rl_if_eq (tgt := 1487) dL_law_1482 (by decide) (fun c_5 => ?_) (fun c_5 => ?_)
      · have H := H.1 c_5
        refine rl_wk (L' := [some (.ref a0), some (.ref a1), some (.ref a2), some (.ref a3), some (.int x4), none, none]) ⟨rfl, ⟨rfl, ⟨rfl, ⟨rfl, ⟨rfl, trivial⟩⟩⟩⟩⟩ ?_
        exact H
      · have H := H.2 c_5
        refine rl_iconst (v := nI 0) dL_law_1485 (by decide) ?_
        obtain ⟨o_6, H⟩ := H
        obtain ⟨o_7, H⟩ := H
        exact rl_zret dL_law_1486 rfl rfl o_6 o_7 H
  · have H := H.2 c_1
    refine rl_iconst (v := nI 0) dL_law_1468 (by decide) ?_
    obtain ⟨o_8, H⟩ := H
    obtain ⟨o_9, H⟩ := H
    exact rl_zret dL_law_1469 rfl rfl o_8 o_9 H
theorem bL_law_1487 {Q : Nat → Option Value → Hp → Prop} {h : Hp} {mc ms nc ns : Nat} {a0 a1 a2 a3 : Nat} {x4 : Int32} (H : Wm mL_law 11 mc ms Q 1859 [some (.ref a0), some (.ref a1), some (.ref a2), some (.ref a3), some (.int x4), none, none] [] h nc ns) : Wm mL_law 11 mc ms Q 1487 [some (.ref a0), some (.ref a1), some (.ref a2), some (.ref a3), some (.int x4), none, none] [] h nc ns := by
  refine rl_goto (tgt := 1859) dL_law_1487 (by decide) ?_
  exact H
theorem bL_law_1507 {Q : Nat → Option Value → Hp → Prop} {h : Hp} {mc ms nc ns : Nat} {a0 a1 a2 a3 : Nat} {x4 xs0 : Int32} (H : hpK h a0 = 2 ∧ vp_in (x4 + (nI 1)) (hpN h a0) ∧ vp_in (x4 + (nI 2)) (hpN h a0) ∧ nc + 0 ≤ mc ∧ ns + 0 ≤ ms ∧ hpK h a2 = 19 ∧ CKi mX9_copyTime 3 0 0 [some (.ref a2), some (.int (hpI h a0 (x4 + (nI 1)).toNatClampNeg)), some (.int (hpI h a0 (x4 + (nI 2)).toNatClampNeg))] h (fun v h' => Wm mL_law 11 mc ms Q 1525 [some (.ref a0), some (.ref a1), some (.ref a2), some (.ref a3), some (.int x4), some (.int xs0), none] [.int v] h' nc ns)) : Wm mL_law 11 mc ms Q 1507 [some (.ref a0), some (.ref a1), some (.ref a2), some (.ref a3), some (.int x4), none, none] [.int xs0] h nc ns := by
  refine rl_istore (L' := [some (.ref a0), some (.ref a1), some (.ref a2), some (.ref a3), some (.int x4), some (.int xs0), none]) dL_law_1507 (Nat.le_of_ble_eq_true rfl) rfl ?_
  refine rl_aload_n dL_law_1509 rfl rfl ?_
  refine rl_aload_n dL_law_1510 rfl rfl ?_
  refine rl_iload dL_law_1511 rfl ?_
  refine rl_iconst (v := nI 1) dL_law_1513 (by decide) ?_
  refine rl_iadd dL_law_1514 ?_
  obtain ⟨o_1, H⟩ := H
  obtain ⟨o_2, H⟩ := H
  refine rl_iald dL_law_1515 (Or.inr o_1) o_2 ?_
  refine rl_aload_n dL_law_1516 rfl rfl ?_
  refine rl_iload dL_law_1517 rfl ?_
  refine rl_iconst (v := nI 2) dL_law_1519 (by decide) ?_
  refine rl_iadd dL_law_1520 ?_
  obtain ⟨o_3, H⟩ := H
  refine rl_iald dL_law_1521 (Or.inr o_1) o_3 ?_
  obtain ⟨o_4, H⟩ := H
  obtain ⟨o_5, H⟩ := H
  obtain ⟨o_6, H⟩ := H
  exact rl_callV (As := [.int (hpI h a0 (x4 + (nI 1)).toNatClampNeg), .int (hpI h a0 (x4 + (nI 2)).toNatClampNeg)]) (rest := []) mfX9_copyTime dL_law_1522 lkL_183 o_6 (by decide) (Nat.le_of_ble_eq_true rfl) o_4 o_5 rfl (Nat.le_of_ble_eq_true rfl) rfl rfl (fun Qc k => H Qc (fun v h' w => k (some (.int v)) h' w))
theorem bL_law_1525 {Q : Nat → Option Value → Hp → Prop} {h : Hp} {mc ms nc ns : Nat} {a0 a1 a2 a3 : Nat} {x4 x5 xs0 : Int32} (H : nc + 0 ≤ mc ∧ ns + 0 ≤ ms ∧ hpK h a2 = 19 ∧ CKi mX9_thrown 0 0 0 [some (.ref a2)] h (fun v h' => Wm mL_law 11 mc ms Q 1531 [some (.ref a0), some (.ref a1), some (.ref a2), some (.ref a3), some (.int x4), some (.int x5), some (.int xs0)] [.int v] h' nc ns)) : Wm mL_law 11 mc ms Q 1525 [some (.ref a0), some (.ref a1), some (.ref a2), some (.ref a3), some (.int x4), some (.int x5), none] [.int xs0] h nc ns := by
  refine rl_istore (L' := [some (.ref a0), some (.ref a1), some (.ref a2), some (.ref a3), some (.int x4), some (.int x5), some (.int xs0)]) dL_law_1525 (Nat.le_of_ble_eq_true rfl) rfl ?_
  refine rl_aload_n dL_law_1527 rfl rfl ?_
  obtain ⟨o_1, H⟩ := H
  obtain ⟨o_2, H⟩ := H
  obtain ⟨o_3, H⟩ := H
  exact rl_callV (As := []) (rest := []) mfX9_thrown dL_law_1528 lkL_111 o_3 (by decide) (Nat.le_of_ble_eq_true rfl) o_1 o_2 rfl (Nat.le_of_ble_eq_true rfl) rfl rfl (fun Qc k => H Qc (fun v h' w => k (some (.int v)) h' w))
theorem bL_law_1531 {Q : Nat → Option Value → Hp → Prop} {h : Hp} {mc ms nc ns : Nat} {a0 a1 a2 a3 : Nat} {x4 x5 x6 xs0 : Int32} (H : ((xs0 = x5 → ((¬ x5 = 0 → Wm mL_law 11 mc ms Q 1555 [some (.ref a0), some (.ref a1), some (.ref a2), some (.ref a3), some (.int x4), none, none] [] h nc ns) ∧ (x5 = 0 → hpK h a3 = 3 ∧ vp_in (nI 0) (hpN h a3) ∧ (((lg_cmp (hpJ h a3 (nI 0).toNatClampNeg) ((x6).toInt64)) = 0 → Wm mL_law 11 mc ms Q 1555 [some (.ref a0), some (.ref a1), some (.ref a2), some (.ref a3), some (.int x4), none, none] [] h nc ns) ∧ (¬ (lg_cmp (hpJ h a3 (nI 0).toNatClampNeg) ((x6).toInt64)) = 0 → nc ≤ mc ∧ ns ≤ ms ∧ Q 0 (some (.int (nI 0))) h))))) ∧ (¬ xs0 = x5 → nc ≤ mc ∧ ns ≤ ms ∧ Q 0 (some (.int (nI 0))) h))) : Wm mL_law 11 mc ms Q 1531 [some (.ref a0), some (.ref a1), some (.ref a2), some (.ref a3), some (.int x4), some (.int x5), some (.int x6)] [.int xs0] h nc ns := by
  refine rl_iload dL_law_1531 rfl ?_
  refine rl_icmp_eq (tgt := 1538) dL_law_1533 (by decide) (fun c_1 => ?_) (fun c_1 => ?_)
  · have H := H.1 c_1
    refine rl_iload dL_law_1538 rfl ?_
    refine rl_if_ne (tgt := 1555) dL_law_1540 (by decide) (fun c_2 => ?_) (fun c_2 => ?_)
    · have H := H.1 c_2
      refine rl_wk (L' := [some (.ref a0), some (.ref a1), some (.ref a2), some (.ref a3), some (.int x4), none, none]) ⟨rfl, ⟨rfl, ⟨rfl, ⟨rfl, ⟨rfl, trivial⟩⟩⟩⟩⟩ ?_
      exact H
    · have H := H.2 c_2
      refine rl_aload_n dL_law_1543 rfl rfl ?_
      refine rl_iconst (v := nI 0) dL_law_1544 (by decide) ?_
      obtain ⟨o_3, H⟩ := H
      obtain ⟨o_4, H⟩ := H
      refine rl_lald dL_law_1545 o_3 o_4 ?_
      refine rl_iload dL_law_1546 rfl ?_
      refine rl_i2l dL_law_1548 ?_
      refine rl_lcmp dL_law_1549 ?_
      refine rl_if_eq (tgt := 1555) dL_law_1550 (by decide) (fun c_5 => ?_) (fun c_5 => ?_)
      · have H := H.1 c_5
        refine rl_wk (L' := [some (.ref a0), some (.ref a1), some (.ref a2), some (.ref a3), some (.int x4), none, none]) ⟨rfl, ⟨rfl, ⟨rfl, ⟨rfl, ⟨rfl, trivial⟩⟩⟩⟩⟩ ?_
        exact H
      · have H := H.2 c_5
        refine rl_iconst (v := nI 0) dL_law_1553 (by decide) ?_
        obtain ⟨o_6, H⟩ := H
        obtain ⟨o_7, H⟩ := H
        exact rl_zret dL_law_1554 rfl rfl o_6 o_7 H
  · have H := H.2 c_1
    refine rl_iconst (v := nI 0) dL_law_1536 (by decide) ?_
    obtain ⟨o_8, H⟩ := H
    obtain ⟨o_9, H⟩ := H
    exact rl_zret dL_law_1537 rfl rfl o_8 o_9 H
theorem bL_law_1555 {Q : Nat → Option Value → Hp → Prop} {h : Hp} {mc ms nc ns : Nat} {a0 a1 a2 a3 : Nat} {x4 : Int32} (H : Wm mL_law 11 mc ms Q 1859 [some (.ref a0), some (.ref a1), some (.ref a2), some (.ref a3), some (.int x4), none, none] [] h nc ns) : Wm mL_law 11 mc ms Q 1555 [some (.ref a0), some (.ref a1), some (.ref a2), some (.ref a3), some (.int x4), none, none] [] h nc ns := by
  refine rl_goto (tgt := 1859) dL_law_1555 (by decide) ?_
  exact H
theorem bL_law_1562 {Q : Nat → Option Value → Hp → Prop} {h : Hp} {mc ms nc ns : Nat} {a0 a1 a2 a3 : Nat} {x4 xs0 : Int32} (H : nc + 0 ≤ mc ∧ ns + 0 ≤ ms ∧ hpK h a2 = 19 ∧ CKi mX9_loans 0 0 0 [some (.ref a2)] h (fun v h' => Wm mL_law 11 mc ms Q 1566 [some (.ref a0), some (.ref a1), some (.ref a2), some (.ref a3), some (.int x4), none, none] [.int v, .int xs0] h' nc ns)) : Wm mL_law 11 mc ms Q 1562 [some (.ref a0), some (.ref a1), some (.ref a2), some (.ref a3), some (.int x4), none, none] [.int xs0] h nc ns := by
  refine rl_aload_n dL_law_1562 rfl rfl ?_
  obtain ⟨o_1, H⟩ := H
  obtain ⟨o_2, H⟩ := H
  obtain ⟨o_3, H⟩ := H
  exact rl_callV (As := []) (rest := [.int xs0]) mfX9_loans dL_law_1563 lkL_187 o_3 (by decide) (Nat.le_of_ble_eq_true rfl) o_1 o_2 rfl (Nat.le_of_ble_eq_true rfl) rfl rfl (fun Qc k => H Qc (fun v h' w => k (some (.int v)) h' w))
theorem bL_law_1566 {Q : Nat → Option Value → Hp → Prop} {h : Hp} {mc ms nc ns : Nat} {a0 a1 a2 a3 : Nat} {x4 xs0 xs1 : Int32} (H : ((xs0 = xs1 → Wm mL_law 11 mc ms Q 1859 [some (.ref a0), some (.ref a1), some (.ref a2), some (.ref a3), some (.int x4), none, none] [] h nc ns) ∧ (¬ xs0 = xs1 → nc ≤ mc ∧ ns ≤ ms ∧ Q 0 (some (.int (nI 0))) h))) : Wm mL_law 11 mc ms Q 1566 [some (.ref a0), some (.ref a1), some (.ref a2), some (.ref a3), some (.int x4), none, none] [.int xs1, .int xs0] h nc ns := by
  refine rl_icmp_eq (tgt := 1859) dL_law_1566 (by decide) (fun c_1 => ?_) (fun c_1 => ?_)
  · have H := H.1 c_1
    exact H
  · have H := H.2 c_1
    refine rl_iconst (v := nI 0) dL_law_1569 (by decide) ?_
    obtain ⟨o_2, H⟩ := H
    obtain ⟨o_3, H⟩ := H
    exact rl_zret dL_law_1570 rfl rfl o_2 o_3 H
theorem bL_law_1588 {Q : Nat → Option Value → Hp → Prop} {h : Hp} {mc ms nc ns : Nat} {a0 a1 a2 a3 : Nat} {x4 xs0 : Int32} (H : hpK h a0 = 2 ∧ vp_in (x4 + (nI 1)) (hpN h a0) ∧ vp_in (x4 + (nI 2)) (hpN h a0) ∧ nc + 0 ≤ mc ∧ ns + 0 ≤ ms ∧ hpK h a2 = 19 ∧ CKi mX9_loan 4 0 0 [some (.ref a2), some (.int (hpI h a0 (x4 + (nI 1)).toNatClampNeg)), some (.int (hpI h a0 (x4 + (nI 2)).toNatClampNeg))] h (fun v h' => Wm mL_law 11 mc ms Q 1606 [some (.ref a0), some (.ref a1), some (.ref a2), some (.ref a3), some (.int x4), some (.int xs0), none] [.int v] h' nc ns)) : Wm mL_law 11 mc ms Q 1588 [some (.ref a0), some (.ref a1), some (.ref a2), some (.ref a3), some (.int x4), none, none] [.int xs0] h nc ns := by
  refine rl_istore (L' := [some (.ref a0), some (.ref a1), some (.ref a2), some (.ref a3), some (.int x4), some (.int xs0), none]) dL_law_1588 (Nat.le_of_ble_eq_true rfl) rfl ?_
  refine rl_aload_n dL_law_1590 rfl rfl ?_
  refine rl_aload_n dL_law_1591 rfl rfl ?_
  refine rl_iload dL_law_1592 rfl ?_
  refine rl_iconst (v := nI 1) dL_law_1594 (by decide) ?_
  refine rl_iadd dL_law_1595 ?_
  obtain ⟨o_1, H⟩ := H
  obtain ⟨o_2, H⟩ := H
  refine rl_iald dL_law_1596 (Or.inr o_1) o_2 ?_
  refine rl_aload_n dL_law_1597 rfl rfl ?_
  refine rl_iload dL_law_1598 rfl ?_
  refine rl_iconst (v := nI 2) dL_law_1600 (by decide) ?_
  refine rl_iadd dL_law_1601 ?_
  obtain ⟨o_3, H⟩ := H
  refine rl_iald dL_law_1602 (Or.inr o_1) o_3 ?_
  obtain ⟨o_4, H⟩ := H
  obtain ⟨o_5, H⟩ := H
  obtain ⟨o_6, H⟩ := H
  exact rl_callV (As := [.int (hpI h a0 (x4 + (nI 1)).toNatClampNeg), .int (hpI h a0 (x4 + (nI 2)).toNatClampNeg)]) (rest := []) mfX9_loan dL_law_1603 lkL_190 o_6 (by decide) (Nat.le_of_ble_eq_true rfl) o_4 o_5 rfl (Nat.le_of_ble_eq_true rfl) rfl rfl (fun Qc k => H Qc (fun v h' w => k (some (.int v)) h' w))
theorem bL_law_1606 {Q : Nat → Option Value → Hp → Prop} {h : Hp} {mc ms nc ns : Nat} {a0 a1 a2 a3 : Nat} {x4 x5 xs0 : Int32} (H : nc + 0 ≤ mc ∧ ns + 0 ≤ ms ∧ hpK h a2 = 19 ∧ CKi mX9_thrown 0 0 0 [some (.ref a2)] h (fun v h' => Wm mL_law 11 mc ms Q 1612 [some (.ref a0), some (.ref a1), some (.ref a2), some (.ref a3), some (.int x4), some (.int x5), some (.int xs0)] [.int v] h' nc ns)) : Wm mL_law 11 mc ms Q 1606 [some (.ref a0), some (.ref a1), some (.ref a2), some (.ref a3), some (.int x4), some (.int x5), none] [.int xs0] h nc ns := by
  refine rl_istore (L' := [some (.ref a0), some (.ref a1), some (.ref a2), some (.ref a3), some (.int x4), some (.int x5), some (.int xs0)]) dL_law_1606 (Nat.le_of_ble_eq_true rfl) rfl ?_
  refine rl_aload_n dL_law_1608 rfl rfl ?_
  obtain ⟨o_1, H⟩ := H
  obtain ⟨o_2, H⟩ := H
  obtain ⟨o_3, H⟩ := H
  exact rl_callV (As := []) (rest := []) mfX9_thrown dL_law_1609 lkL_111 o_3 (by decide) (Nat.le_of_ble_eq_true rfl) o_1 o_2 rfl (Nat.le_of_ble_eq_true rfl) rfl rfl (fun Qc k => H Qc (fun v h' w => k (some (.int v)) h' w))
theorem bL_law_1612 {Q : Nat → Option Value → Hp → Prop} {h : Hp} {mc ms nc ns : Nat} {a0 a1 a2 a3 : Nat} {x4 x5 x6 xs0 : Int32} (H : ((xs0 = x5 → ((¬ x5 = 0 → Wm mL_law 11 mc ms Q 1636 [some (.ref a0), some (.ref a1), some (.ref a2), some (.ref a3), some (.int x4), none, none] [] h nc ns) ∧ (x5 = 0 → hpK h a3 = 3 ∧ vp_in (nI 0) (hpN h a3) ∧ (((lg_cmp (hpJ h a3 (nI 0).toNatClampNeg) ((x6).toInt64)) = 0 → Wm mL_law 11 mc ms Q 1636 [some (.ref a0), some (.ref a1), some (.ref a2), some (.ref a3), some (.int x4), none, none] [] h nc ns) ∧ (¬ (lg_cmp (hpJ h a3 (nI 0).toNatClampNeg) ((x6).toInt64)) = 0 → nc ≤ mc ∧ ns ≤ ms ∧ Q 0 (some (.int (nI 0))) h))))) ∧ (¬ xs0 = x5 → nc ≤ mc ∧ ns ≤ ms ∧ Q 0 (some (.int (nI 0))) h))) : Wm mL_law 11 mc ms Q 1612 [some (.ref a0), some (.ref a1), some (.ref a2), some (.ref a3), some (.int x4), some (.int x5), some (.int x6)] [.int xs0] h nc ns := by
  refine rl_iload dL_law_1612 rfl ?_
  refine rl_icmp_eq (tgt := 1619) dL_law_1614 (by decide) (fun c_1 => ?_) (fun c_1 => ?_)
  · have H := H.1 c_1
    refine rl_iload dL_law_1619 rfl ?_
    refine rl_if_ne (tgt := 1636) dL_law_1621 (by decide) (fun c_2 => ?_) (fun c_2 => ?_)
    · have H := H.1 c_2
      refine rl_wk (L' := [some (.ref a0), some (.ref a1), some (.ref a2), some (.ref a3), some (.int x4), none, none]) ⟨rfl, ⟨rfl, ⟨rfl, ⟨rfl, ⟨rfl, trivial⟩⟩⟩⟩⟩ ?_
      exact H
    · have H := H.2 c_2
      refine rl_aload_n dL_law_1624 rfl rfl ?_
      refine rl_iconst (v := nI 0) dL_law_1625 (by decide) ?_
      obtain ⟨o_3, H⟩ := H
      obtain ⟨o_4, H⟩ := H
      refine rl_lald dL_law_1626 o_3 o_4 ?_
      refine rl_iload dL_law_1627 rfl ?_
      refine rl_i2l dL_law_1629 ?_
      refine rl_lcmp dL_law_1630 ?_
      refine rl_if_eq (tgt := 1636) dL_law_1631 (by decide) (fun c_5 => ?_) (fun c_5 => ?_)
      · have H := H.1 c_5
        refine rl_wk (L' := [some (.ref a0), some (.ref a1), some (.ref a2), some (.ref a3), some (.int x4), none, none]) ⟨rfl, ⟨rfl, ⟨rfl, ⟨rfl, ⟨rfl, trivial⟩⟩⟩⟩⟩ ?_
        exact H
      · have H := H.2 c_5
        refine rl_iconst (v := nI 0) dL_law_1634 (by decide) ?_
        obtain ⟨o_6, H⟩ := H
        obtain ⟨o_7, H⟩ := H
        exact rl_zret dL_law_1635 rfl rfl o_6 o_7 H
  · have H := H.2 c_1
    refine rl_iconst (v := nI 0) dL_law_1617 (by decide) ?_
    obtain ⟨o_8, H⟩ := H
    obtain ⟨o_9, H⟩ := H
    exact rl_zret dL_law_1618 rfl rfl o_8 o_9 H
theorem bL_law_1636 {Q : Nat → Option Value → Hp → Prop} {h : Hp} {mc ms nc ns : Nat} {a0 a1 a2 a3 : Nat} {x4 : Int32} (H : Wm mL_law 11 mc ms Q 1859 [some (.ref a0), some (.ref a1), some (.ref a2), some (.ref a3), some (.int x4), none, none] [] h nc ns) : Wm mL_law 11 mc ms Q 1636 [some (.ref a0), some (.ref a1), some (.ref a2), some (.ref a3), some (.int x4), none, none] [] h nc ns := by
  refine rl_goto (tgt := 1859) dL_law_1636 (by decide) ?_
  exact H
theorem bL_law_1662 {Q : Nat → Option Value → Hp → Prop} {h : Hp} {mc ms nc ns : Nat} {a0 a1 a2 a3 : Nat} {x4 xs0 : Int32} (H : hpK h a0 = 2 ∧ vp_in (x4 + (nI 1)) (hpN h a0) ∧ vp_in (x4 + (nI 2)) (hpN h a0) ∧ vp_in (x4 + (nI 3)) (hpN h a0) ∧ nc + 0 ≤ mc ∧ ns + 0 ≤ ms ∧ hpK h a2 = 19 ∧ CKi mX9_helpers 5 0 0 [some (.ref a2), some (.int (hpI h a0 (x4 + (nI 1)).toNatClampNeg)), some (.int (hpI h a0 (x4 + (nI 2)).toNatClampNeg)), some (.int (hpI h a0 (x4 + (nI 3)).toNatClampNeg)), none, none, none, none, none, none] h (fun v h' => Wm mL_law 11 mc ms Q 1686 [some (.ref a0), some (.ref a1), some (.ref a2), some (.ref a3), some (.int x4), some (.int xs0), none] [.int v] h' nc ns)) : Wm mL_law 11 mc ms Q 1662 [some (.ref a0), some (.ref a1), some (.ref a2), some (.ref a3), some (.int x4), none, none] [.int xs0] h nc ns := by
  refine rl_istore (L' := [some (.ref a0), some (.ref a1), some (.ref a2), some (.ref a3), some (.int x4), some (.int xs0), none]) dL_law_1662 (Nat.le_of_ble_eq_true rfl) rfl ?_
  refine rl_aload_n dL_law_1664 rfl rfl ?_
  refine rl_aload_n dL_law_1665 rfl rfl ?_
  refine rl_iload dL_law_1666 rfl ?_
  refine rl_iconst (v := nI 1) dL_law_1668 (by decide) ?_
  refine rl_iadd dL_law_1669 ?_
  obtain ⟨o_1, H⟩ := H
  obtain ⟨o_2, H⟩ := H
  refine rl_iald dL_law_1670 (Or.inr o_1) o_2 ?_
  refine rl_aload_n dL_law_1671 rfl rfl ?_
  refine rl_iload dL_law_1672 rfl ?_
  refine rl_iconst (v := nI 2) dL_law_1674 (by decide) ?_
  refine rl_iadd dL_law_1675 ?_
  obtain ⟨o_3, H⟩ := H
  refine rl_iald dL_law_1676 (Or.inr o_1) o_3 ?_
  refine rl_aload_n dL_law_1677 rfl rfl ?_
  refine rl_iload dL_law_1678 rfl ?_
  refine rl_iconst (v := nI 3) dL_law_1680 (by decide) ?_
  refine rl_iadd dL_law_1681 ?_
  obtain ⟨o_4, H⟩ := H
  refine rl_iald dL_law_1682 (Or.inr o_1) o_4 ?_
  obtain ⟨o_5, H⟩ := H
  obtain ⟨o_6, H⟩ := H
  obtain ⟨o_7, H⟩ := H
  exact rl_callV (As := [.int (hpI h a0 (x4 + (nI 1)).toNatClampNeg), .int (hpI h a0 (x4 + (nI 2)).toNatClampNeg), .int (hpI h a0 (x4 + (nI 3)).toNatClampNeg)]) (rest := []) mfX9_helpers dL_law_1683 lkL_193 o_7 (by decide) (Nat.le_of_ble_eq_true rfl) o_5 o_6 rfl (Nat.le_of_ble_eq_true rfl) rfl rfl (fun Qc k => H Qc (fun v h' w => k (some (.int v)) h' w))
theorem bL_law_1686 {Q : Nat → Option Value → Hp → Prop} {h : Hp} {mc ms nc ns : Nat} {a0 a1 a2 a3 : Nat} {x4 x5 xs0 : Int32} (H : nc + 0 ≤ mc ∧ ns + 0 ≤ ms ∧ hpK h a2 = 19 ∧ CKi mX9_thrown 0 0 0 [some (.ref a2)] h (fun v h' => Wm mL_law 11 mc ms Q 1692 [some (.ref a0), some (.ref a1), some (.ref a2), some (.ref a3), some (.int x4), some (.int x5), some (.int xs0)] [.int v] h' nc ns)) : Wm mL_law 11 mc ms Q 1686 [some (.ref a0), some (.ref a1), some (.ref a2), some (.ref a3), some (.int x4), some (.int x5), none] [.int xs0] h nc ns := by
  refine rl_istore (L' := [some (.ref a0), some (.ref a1), some (.ref a2), some (.ref a3), some (.int x4), some (.int x5), some (.int xs0)]) dL_law_1686 (Nat.le_of_ble_eq_true rfl) rfl ?_
  refine rl_aload_n dL_law_1688 rfl rfl ?_
  obtain ⟨o_1, H⟩ := H
  obtain ⟨o_2, H⟩ := H
  obtain ⟨o_3, H⟩ := H
  exact rl_callV (As := []) (rest := []) mfX9_thrown dL_law_1689 lkL_111 o_3 (by decide) (Nat.le_of_ble_eq_true rfl) o_1 o_2 rfl (Nat.le_of_ble_eq_true rfl) rfl rfl (fun Qc k => H Qc (fun v h' w => k (some (.int v)) h' w))
theorem bL_law_1692 {Q : Nat → Option Value → Hp → Prop} {h : Hp} {mc ms nc ns : Nat} {a0 a1 a2 a3 : Nat} {x4 x5 x6 xs0 : Int32} (H : ((xs0 = x5 → ((¬ x5 = 0 → Wm mL_law 11 mc ms Q 1716 [some (.ref a0), some (.ref a1), some (.ref a2), some (.ref a3), some (.int x4), none, none] [] h nc ns) ∧ (x5 = 0 → hpK h a3 = 3 ∧ vp_in (nI 0) (hpN h a3) ∧ (((lg_cmp (hpJ h a3 (nI 0).toNatClampNeg) ((x6).toInt64)) = 0 → Wm mL_law 11 mc ms Q 1716 [some (.ref a0), some (.ref a1), some (.ref a2), some (.ref a3), some (.int x4), none, none] [] h nc ns) ∧ (¬ (lg_cmp (hpJ h a3 (nI 0).toNatClampNeg) ((x6).toInt64)) = 0 → nc ≤ mc ∧ ns ≤ ms ∧ Q 0 (some (.int (nI 0))) h))))) ∧ (¬ xs0 = x5 → nc ≤ mc ∧ ns ≤ ms ∧ Q 0 (some (.int (nI 0))) h))) : Wm mL_law 11 mc ms Q 1692 [some (.ref a0), some (.ref a1), some (.ref a2), some (.ref a3), some (.int x4), some (.int x5), some (.int x6)] [.int xs0] h nc ns := by
  refine rl_iload dL_law_1692 rfl ?_
  refine rl_icmp_eq (tgt := 1699) dL_law_1694 (by decide) (fun c_1 => ?_) (fun c_1 => ?_)
  · have H := H.1 c_1
    refine rl_iload dL_law_1699 rfl ?_
    refine rl_if_ne (tgt := 1716) dL_law_1701 (by decide) (fun c_2 => ?_) (fun c_2 => ?_)
    · have H := H.1 c_2
      refine rl_wk (L' := [some (.ref a0), some (.ref a1), some (.ref a2), some (.ref a3), some (.int x4), none, none]) ⟨rfl, ⟨rfl, ⟨rfl, ⟨rfl, ⟨rfl, trivial⟩⟩⟩⟩⟩ ?_
      exact H
    · have H := H.2 c_2
      refine rl_aload_n dL_law_1704 rfl rfl ?_
      refine rl_iconst (v := nI 0) dL_law_1705 (by decide) ?_
      obtain ⟨o_3, H⟩ := H
      obtain ⟨o_4, H⟩ := H
      refine rl_lald dL_law_1706 o_3 o_4 ?_
      refine rl_iload dL_law_1707 rfl ?_
      refine rl_i2l dL_law_1709 ?_
      refine rl_lcmp dL_law_1710 ?_
      refine rl_if_eq (tgt := 1716) dL_law_1711 (by decide) (fun c_5 => ?_) (fun c_5 => ?_)
      · have H := H.1 c_5
        refine rl_wk (L' := [some (.ref a0), some (.ref a1), some (.ref a2), some (.ref a3), some (.int x4), none, none]) ⟨rfl, ⟨rfl, ⟨rfl, ⟨rfl, ⟨rfl, trivial⟩⟩⟩⟩⟩ ?_
        exact H
      · have H := H.2 c_5
        refine rl_iconst (v := nI 0) dL_law_1714 (by decide) ?_
        obtain ⟨o_6, H⟩ := H
        obtain ⟨o_7, H⟩ := H
        exact rl_zret dL_law_1715 rfl rfl o_6 o_7 H
  · have H := H.2 c_1
    refine rl_iconst (v := nI 0) dL_law_1697 (by decide) ?_
    obtain ⟨o_8, H⟩ := H
    obtain ⟨o_9, H⟩ := H
    exact rl_zret dL_law_1698 rfl rfl o_8 o_9 H
theorem bL_law_1716 {Q : Nat → Option Value → Hp → Prop} {h : Hp} {mc ms nc ns : Nat} {a0 a1 a2 a3 : Nat} {x4 : Int32} (H : Wm mL_law 11 mc ms Q 1859 [some (.ref a0), some (.ref a1), some (.ref a2), some (.ref a3), some (.int x4), none, none] [] h nc ns) : Wm mL_law 11 mc ms Q 1716 [some (.ref a0), some (.ref a1), some (.ref a2), some (.ref a3), some (.int x4), none, none] [] h nc ns := by
  refine rl_goto (tgt := 1859) dL_law_1716 (by decide) ?_
  exact H
theorem bL_law_1730 {Q : Nat → Option Value → Hp → Prop} {h : Hp} {mc ms nc ns : Nat} {a0 a1 a2 a3 : Nat} {x4 xs0 : Int32} (H : hpK h a0 = 2 ∧ vp_in (x4 + (nI 1)) (hpN h a0) ∧ nc + 0 ≤ mc ∧ ns + 0 ≤ ms ∧ hpK h a2 = 19 ∧ CKi mX9_type 1 0 0 [some (.ref a2), some (.int (hpI h a0 (x4 + (nI 1)).toNatClampNeg))] h (fun v h' => Wm mL_law 11 mc ms Q 1742 [some (.ref a0), some (.ref a1), some (.ref a2), some (.ref a3), some (.int x4), some (.int xs0), none] [.int v] h' nc ns)) : Wm mL_law 11 mc ms Q 1730 [some (.ref a0), some (.ref a1), some (.ref a2), some (.ref a3), some (.int x4), none, none] [.int xs0] h nc ns := by
  refine rl_istore (L' := [some (.ref a0), some (.ref a1), some (.ref a2), some (.ref a3), some (.int x4), some (.int xs0), none]) dL_law_1730 (Nat.le_of_ble_eq_true rfl) rfl ?_
  refine rl_aload_n dL_law_1732 rfl rfl ?_
  refine rl_aload_n dL_law_1733 rfl rfl ?_
  refine rl_iload dL_law_1734 rfl ?_
  refine rl_iconst (v := nI 1) dL_law_1736 (by decide) ?_
  refine rl_iadd dL_law_1737 ?_
  obtain ⟨o_1, H⟩ := H
  obtain ⟨o_2, H⟩ := H
  refine rl_iald dL_law_1738 (Or.inr o_1) o_2 ?_
  obtain ⟨o_3, H⟩ := H
  obtain ⟨o_4, H⟩ := H
  obtain ⟨o_5, H⟩ := H
  exact rl_callV (As := [.int (hpI h a0 (x4 + (nI 1)).toNatClampNeg)]) (rest := []) mfX9_type dL_law_1739 lkL_196 o_5 (by decide) (Nat.le_of_ble_eq_true rfl) o_3 o_4 rfl (Nat.le_of_ble_eq_true rfl) rfl rfl (fun Qc k => H Qc (fun v h' w => k (some (.int v)) h' w))
theorem bL_law_1742 {Q : Nat → Option Value → Hp → Prop} {h : Hp} {mc ms nc ns : Nat} {a0 a1 a2 a3 : Nat} {x4 x5 xs0 : Int32} (H : nc + 0 ≤ mc ∧ ns + 0 ≤ ms ∧ hpK h a2 = 19 ∧ CKi mX9_thrown 0 0 0 [some (.ref a2)] h (fun v h' => Wm mL_law 11 mc ms Q 1748 [some (.ref a0), some (.ref a1), some (.ref a2), some (.ref a3), some (.int x4), some (.int x5), some (.int xs0)] [.int v] h' nc ns)) : Wm mL_law 11 mc ms Q 1742 [some (.ref a0), some (.ref a1), some (.ref a2), some (.ref a3), some (.int x4), some (.int x5), none] [.int xs0] h nc ns := by
  refine rl_istore (L' := [some (.ref a0), some (.ref a1), some (.ref a2), some (.ref a3), some (.int x4), some (.int x5), some (.int xs0)]) dL_law_1742 (Nat.le_of_ble_eq_true rfl) rfl ?_
  refine rl_aload_n dL_law_1744 rfl rfl ?_
  obtain ⟨o_1, H⟩ := H
  obtain ⟨o_2, H⟩ := H
  obtain ⟨o_3, H⟩ := H
  exact rl_callV (As := []) (rest := []) mfX9_thrown dL_law_1745 lkL_111 o_3 (by decide) (Nat.le_of_ble_eq_true rfl) o_1 o_2 rfl (Nat.le_of_ble_eq_true rfl) rfl rfl (fun Qc k => H Qc (fun v h' w => k (some (.int v)) h' w))
theorem bL_law_1748 {Q : Nat → Option Value → Hp → Prop} {h : Hp} {mc ms nc ns : Nat} {a0 a1 a2 a3 : Nat} {x4 x5 x6 xs0 : Int32} (H : ((xs0 = x5 → ((¬ x5 = 0 → Wm mL_law 11 mc ms Q 1772 [some (.ref a0), some (.ref a1), some (.ref a2), some (.ref a3), some (.int x4), none, none] [] h nc ns) ∧ (x5 = 0 → hpK h a3 = 3 ∧ vp_in (nI 0) (hpN h a3) ∧ (((lg_cmp (hpJ h a3 (nI 0).toNatClampNeg) ((x6).toInt64)) = 0 → Wm mL_law 11 mc ms Q 1772 [some (.ref a0), some (.ref a1), some (.ref a2), some (.ref a3), some (.int x4), none, none] [] h nc ns) ∧ (¬ (lg_cmp (hpJ h a3 (nI 0).toNatClampNeg) ((x6).toInt64)) = 0 → nc ≤ mc ∧ ns ≤ ms ∧ Q 0 (some (.int (nI 0))) h))))) ∧ (¬ xs0 = x5 → nc ≤ mc ∧ ns ≤ ms ∧ Q 0 (some (.int (nI 0))) h))) : Wm mL_law 11 mc ms Q 1748 [some (.ref a0), some (.ref a1), some (.ref a2), some (.ref a3), some (.int x4), some (.int x5), some (.int x6)] [.int xs0] h nc ns := by
  refine rl_iload dL_law_1748 rfl ?_
  refine rl_icmp_eq (tgt := 1755) dL_law_1750 (by decide) (fun c_1 => ?_) (fun c_1 => ?_)
  · have H := H.1 c_1
    refine rl_iload dL_law_1755 rfl ?_
    refine rl_if_ne (tgt := 1772) dL_law_1757 (by decide) (fun c_2 => ?_) (fun c_2 => ?_)
    · have H := H.1 c_2
      refine rl_wk (L' := [some (.ref a0), some (.ref a1), some (.ref a2), some (.ref a3), some (.int x4), none, none]) ⟨rfl, ⟨rfl, ⟨rfl, ⟨rfl, ⟨rfl, trivial⟩⟩⟩⟩⟩ ?_
      exact H
    · have H := H.2 c_2
      refine rl_aload_n dL_law_1760 rfl rfl ?_
      refine rl_iconst (v := nI 0) dL_law_1761 (by decide) ?_
      obtain ⟨o_3, H⟩ := H
      obtain ⟨o_4, H⟩ := H
      refine rl_lald dL_law_1762 o_3 o_4 ?_
      refine rl_iload dL_law_1763 rfl ?_
      refine rl_i2l dL_law_1765 ?_
      refine rl_lcmp dL_law_1766 ?_
      refine rl_if_eq (tgt := 1772) dL_law_1767 (by decide) (fun c_5 => ?_) (fun c_5 => ?_)
      · have H := H.1 c_5
        refine rl_wk (L' := [some (.ref a0), some (.ref a1), some (.ref a2), some (.ref a3), some (.int x4), none, none]) ⟨rfl, ⟨rfl, ⟨rfl, ⟨rfl, ⟨rfl, trivial⟩⟩⟩⟩⟩ ?_
        exact H
      · have H := H.2 c_5
        refine rl_iconst (v := nI 0) dL_law_1770 (by decide) ?_
        obtain ⟨o_6, H⟩ := H
        obtain ⟨o_7, H⟩ := H
        exact rl_zret dL_law_1771 rfl rfl o_6 o_7 H
  · have H := H.2 c_1
    refine rl_iconst (v := nI 0) dL_law_1753 (by decide) ?_
    obtain ⟨o_8, H⟩ := H
    obtain ⟨o_9, H⟩ := H
    exact rl_zret dL_law_1754 rfl rfl o_8 o_9 H
theorem bL_law_1772 {Q : Nat → Option Value → Hp → Prop} {h : Hp} {mc ms nc ns : Nat} {a0 a1 a2 a3 : Nat} {x4 : Int32} (H : Wm mL_law 11 mc ms Q 1859 [some (.ref a0), some (.ref a1), some (.ref a2), some (.ref a3), some (.int x4), none, none] [] h nc ns) : Wm mL_law 11 mc ms Q 1772 [some (.ref a0), some (.ref a1), some (.ref a2), some (.ref a3), some (.int x4), none, none] [] h nc ns := by
  refine rl_goto (tgt := 1859) dL_law_1772 (by decide) ?_
  exact H
theorem bL_law_1779 {Q : Nat → Option Value → Hp → Prop} {h : Hp} {mc ms nc ns : Nat} {a0 a1 a2 a3 : Nat} {x4 xs0 : Int32} (H : nc + 0 ≤ mc ∧ ns + 0 ≤ ms ∧ hpK h a2 = 19 ∧ CKi mX9_clearText 0 0 0 [some (.ref a2), none] h (fun v h' => Wm mL_law 11 mc ms Q 1783 [some (.ref a0), some (.ref a1), some (.ref a2), some (.ref a3), some (.int x4), none, none] [.int v, .int xs0] h' nc ns)) : Wm mL_law 11 mc ms Q 1779 [some (.ref a0), some (.ref a1), some (.ref a2), some (.ref a3), some (.int x4), none, none] [.int xs0] h nc ns := by
  refine rl_aload_n dL_law_1779 rfl rfl ?_
  obtain ⟨o_1, H⟩ := H
  obtain ⟨o_2, H⟩ := H
  obtain ⟨o_3, H⟩ := H
  exact rl_callV (As := []) (rest := [.int xs0]) mfX9_clearText dL_law_1780 lkL_200 o_3 (by decide) (Nat.le_of_ble_eq_true rfl) o_1 o_2 rfl (Nat.le_of_ble_eq_true rfl) rfl rfl (fun Qc k => H Qc (fun v h' w => k (some (.int v)) h' w))
theorem bL_law_1783 {Q : Nat → Option Value → Hp → Prop} {h : Hp} {mc ms nc ns : Nat} {a0 a1 a2 a3 : Nat} {x4 xs0 xs1 : Int32} (H : ((xs0 = xs1 → Wm mL_law 11 mc ms Q 1859 [some (.ref a0), some (.ref a1), some (.ref a2), some (.ref a3), some (.int x4), none, none] [] h nc ns) ∧ (¬ xs0 = xs1 → nc ≤ mc ∧ ns ≤ ms ∧ Q 0 (some (.int (nI 0))) h))) : Wm mL_law 11 mc ms Q 1783 [some (.ref a0), some (.ref a1), some (.ref a2), some (.ref a3), some (.int x4), none, none] [.int xs1, .int xs0] h nc ns := by
  refine rl_icmp_eq (tgt := 1859) dL_law_1783 (by decide) (fun c_1 => ?_) (fun c_1 => ?_)
  · have H := H.1 c_1
    exact H
  · have H := H.2 c_1
    refine rl_iconst (v := nI 0) dL_law_1786 (by decide) ?_
    obtain ⟨o_2, H⟩ := H
    obtain ⟨o_3, H⟩ := H
    exact rl_zret dL_law_1787 rfl rfl o_2 o_3 H
theorem bL_law_1792 {Q : Nat → Option Value → Hp → Prop} {h : Hp} {mc ms nc ns : Nat} {a0 a1 a2 a3 : Nat} {x4 xs0 : Int32} (H : nc + 0 ≤ mc ∧ ns + 0 ≤ ms ∧ hpK h a2 = 19 ∧ CKi mX9_runScript 7 0 0 [some (.ref a2), none, none] h (fun v h' => Wm mL_law 11 mc ms Q 1796 [some (.ref a0), some (.ref a1), some (.ref a2), some (.ref a3), some (.int x4), none, none] [.int v, .int xs0] h' nc ns)) : Wm mL_law 11 mc ms Q 1792 [some (.ref a0), some (.ref a1), some (.ref a2), some (.ref a3), some (.int x4), none, none] [.int xs0] h nc ns := by
  refine rl_aload_n dL_law_1792 rfl rfl ?_
  obtain ⟨o_1, H⟩ := H
  obtain ⟨o_2, H⟩ := H
  obtain ⟨o_3, H⟩ := H
  exact rl_callV (As := []) (rest := [.int xs0]) mfX9_runScript dL_law_1793 lkL_204 o_3 (by decide) (Nat.le_of_ble_eq_true rfl) o_1 o_2 rfl (Nat.le_of_ble_eq_true rfl) rfl rfl (fun Qc k => H Qc (fun v h' w => k (some (.int v)) h' w))
theorem bL_law_1796 {Q : Nat → Option Value → Hp → Prop} {h : Hp} {mc ms nc ns : Nat} {a0 a1 a2 a3 : Nat} {x4 xs0 xs1 : Int32} (H : ((xs0 = xs1 → Wm mL_law 11 mc ms Q 1859 [some (.ref a0), some (.ref a1), some (.ref a2), some (.ref a3), some (.int x4), none, none] [] h nc ns) ∧ (¬ xs0 = xs1 → nc ≤ mc ∧ ns ≤ ms ∧ Q 0 (some (.int (nI 0))) h))) : Wm mL_law 11 mc ms Q 1796 [some (.ref a0), some (.ref a1), some (.ref a2), some (.ref a3), some (.int x4), none, none] [.int xs1, .int xs0] h nc ns := by
  refine rl_icmp_eq (tgt := 1859) dL_law_1796 (by decide) (fun c_1 => ?_) (fun c_1 => ?_)
  · have H := H.1 c_1
    exact H
  · have H := H.2 c_1
    refine rl_iconst (v := nI 0) dL_law_1799 (by decide) ?_
    obtain ⟨o_2, H⟩ := H
    obtain ⟨o_3, H⟩ := H
    exact rl_zret dL_law_1800 rfl rfl o_2 o_3 H
theorem bL_law_1806 {Q : Nat → Option Value → Hp → Prop} {h : Hp} {mc ms nc ns : Nat} {a0 a1 a2 a3 : Nat} {x4 xs0 : Int32} (H : nc + 0 ≤ mc ∧ ns + 0 ≤ ms ∧ hpK h a2 = 19 ∧ CKi mX9_undo 1 0 0 [some (.ref a2), none] h (fun v h' => Wm mL_law 11 mc ms Q 1812 [some (.ref a0), some (.ref a1), some (.ref a2), some (.ref a3), some (.int x4), some (.int xs0), none] [.int v] h' nc ns)) : Wm mL_law 11 mc ms Q 1806 [some (.ref a0), some (.ref a1), some (.ref a2), some (.ref a3), some (.int x4), none, none] [.int xs0] h nc ns := by
  refine rl_istore (L' := [some (.ref a0), some (.ref a1), some (.ref a2), some (.ref a3), some (.int x4), some (.int xs0), none]) dL_law_1806 (Nat.le_of_ble_eq_true rfl) rfl ?_
  refine rl_aload_n dL_law_1808 rfl rfl ?_
  obtain ⟨o_1, H⟩ := H
  obtain ⟨o_2, H⟩ := H
  obtain ⟨o_3, H⟩ := H
  exact rl_callV (As := []) (rest := []) mfX9_undo dL_law_1809 lkL_208 o_3 (by decide) (Nat.le_of_ble_eq_true rfl) o_1 o_2 rfl (Nat.le_of_ble_eq_true rfl) rfl rfl (fun Qc k => H Qc (fun v h' w => k (some (.int v)) h' w))
theorem bL_law_1812 {Q : Nat → Option Value → Hp → Prop} {h : Hp} {mc ms nc ns : Nat} {a0 a1 a2 a3 : Nat} {x4 x5 xs0 : Int32} (H : nc + 0 ≤ mc ∧ ns + 0 ≤ ms ∧ hpK h a2 = 19 ∧ CKi mX9_thrown 0 0 0 [some (.ref a2)] h (fun v h' => Wm mL_law 11 mc ms Q 1818 [some (.ref a0), some (.ref a1), some (.ref a2), some (.ref a3), some (.int x4), some (.int x5), some (.int xs0)] [.int v] h' nc ns)) : Wm mL_law 11 mc ms Q 1812 [some (.ref a0), some (.ref a1), some (.ref a2), some (.ref a3), some (.int x4), some (.int x5), none] [.int xs0] h nc ns := by
  refine rl_istore (L' := [some (.ref a0), some (.ref a1), some (.ref a2), some (.ref a3), some (.int x4), some (.int x5), some (.int xs0)]) dL_law_1812 (Nat.le_of_ble_eq_true rfl) rfl ?_
  refine rl_aload_n dL_law_1814 rfl rfl ?_
  obtain ⟨o_1, H⟩ := H
  obtain ⟨o_2, H⟩ := H
  obtain ⟨o_3, H⟩ := H
  exact rl_callV (As := []) (rest := []) mfX9_thrown dL_law_1815 lkL_111 o_3 (by decide) (Nat.le_of_ble_eq_true rfl) o_1 o_2 rfl (Nat.le_of_ble_eq_true rfl) rfl rfl (fun Qc k => H Qc (fun v h' w => k (some (.int v)) h' w))
theorem bL_law_1818 {Q : Nat → Option Value → Hp → Prop} {h : Hp} {mc ms nc ns : Nat} {a0 a1 a2 a3 : Nat} {x4 x5 x6 xs0 : Int32} (H : ((xs0 = x5 → ((¬ x5 = 0 → Wm mL_law 11 mc ms Q 1842 [some (.ref a0), some (.ref a1), some (.ref a2), some (.ref a3), some (.int x4), none, none] [] h nc ns) ∧ (x5 = 0 → hpK h a3 = 3 ∧ vp_in (nI 0) (hpN h a3) ∧ (((lg_cmp (hpJ h a3 (nI 0).toNatClampNeg) ((x6).toInt64)) = 0 → Wm mL_law 11 mc ms Q 1842 [some (.ref a0), some (.ref a1), some (.ref a2), some (.ref a3), some (.int x4), none, none] [] h nc ns) ∧ (¬ (lg_cmp (hpJ h a3 (nI 0).toNatClampNeg) ((x6).toInt64)) = 0 → nc ≤ mc ∧ ns ≤ ms ∧ Q 0 (some (.int (nI 0))) h))))) ∧ (¬ xs0 = x5 → nc ≤ mc ∧ ns ≤ ms ∧ Q 0 (some (.int (nI 0))) h))) : Wm mL_law 11 mc ms Q 1818 [some (.ref a0), some (.ref a1), some (.ref a2), some (.ref a3), some (.int x4), some (.int x5), some (.int x6)] [.int xs0] h nc ns := by
  refine rl_iload dL_law_1818 rfl ?_
  refine rl_icmp_eq (tgt := 1825) dL_law_1820 (by decide) (fun c_1 => ?_) (fun c_1 => ?_)
  · have H := H.1 c_1
    refine rl_iload dL_law_1825 rfl ?_
    refine rl_if_ne (tgt := 1842) dL_law_1827 (by decide) (fun c_2 => ?_) (fun c_2 => ?_)
    · have H := H.1 c_2
      refine rl_wk (L' := [some (.ref a0), some (.ref a1), some (.ref a2), some (.ref a3), some (.int x4), none, none]) ⟨rfl, ⟨rfl, ⟨rfl, ⟨rfl, ⟨rfl, trivial⟩⟩⟩⟩⟩ ?_
      exact H
    · have H := H.2 c_2
      refine rl_aload_n dL_law_1830 rfl rfl ?_
      refine rl_iconst (v := nI 0) dL_law_1831 (by decide) ?_
      obtain ⟨o_3, H⟩ := H
      obtain ⟨o_4, H⟩ := H
      refine rl_lald dL_law_1832 o_3 o_4 ?_
      refine rl_iload dL_law_1833 rfl ?_
      refine rl_i2l dL_law_1835 ?_
      refine rl_lcmp dL_law_1836 ?_
      refine rl_if_eq (tgt := 1842) dL_law_1837 (by decide) (fun c_5 => ?_) (fun c_5 => ?_)
      · have H := H.1 c_5
        refine rl_wk (L' := [some (.ref a0), some (.ref a1), some (.ref a2), some (.ref a3), some (.int x4), none, none]) ⟨rfl, ⟨rfl, ⟨rfl, ⟨rfl, ⟨rfl, trivial⟩⟩⟩⟩⟩ ?_
        exact H
      · have H := H.2 c_5
        refine rl_iconst (v := nI 0) dL_law_1840 (by decide) ?_
        obtain ⟨o_6, H⟩ := H
        obtain ⟨o_7, H⟩ := H
        exact rl_zret dL_law_1841 rfl rfl o_6 o_7 H
  · have H := H.2 c_1
    refine rl_iconst (v := nI 0) dL_law_1823 (by decide) ?_
    obtain ⟨o_8, H⟩ := H
    obtain ⟨o_9, H⟩ := H
    exact rl_zret dL_law_1824 rfl rfl o_8 o_9 H
theorem bL_law_1842 {Q : Nat → Option Value → Hp → Prop} {h : Hp} {mc ms nc ns : Nat} {a0 a1 a2 a3 : Nat} {x4 : Int32} (H : Wm mL_law 11 mc ms Q 1859 [some (.ref a0), some (.ref a1), some (.ref a2), some (.ref a3), some (.int x4), none, none] [] h nc ns) : Wm mL_law 11 mc ms Q 1842 [some (.ref a0), some (.ref a1), some (.ref a2), some (.ref a3), some (.int x4), none, none] [] h nc ns := by
  refine rl_goto (tgt := 1859) dL_law_1842 (by decide) ?_
  exact H
theorem bL_law_1849 {Q : Nat → Option Value → Hp → Prop} {h : Hp} {mc ms nc ns : Nat} {a0 a1 a2 a3 : Nat} {x4 : Int32} {js0 : Int64} (H : nc + 0 ≤ mc ∧ ns + 0 ≤ ms ∧ hpK h a2 = 19 ∧ CKl mX9_fingerprint 5 0 0 [some (.ref a2), none, none, none, none] h (fun v h' => Wm mL_law 11 mc ms Q 1853 [some (.ref a0), some (.ref a1), some (.ref a2), some (.ref a3), some (.int x4), none, none] [.long v, .long js0] h' nc ns)) : Wm mL_law 11 mc ms Q 1849 [some (.ref a0), some (.ref a1), some (.ref a2), some (.ref a3), some (.int x4), none, none] [.long js0] h nc ns := by
  refine rl_aload_n dL_law_1849 rfl rfl ?_
  obtain ⟨o_1, H⟩ := H
  obtain ⟨o_2, H⟩ := H
  obtain ⟨o_3, H⟩ := H
  exact rl_callV (As := []) (rest := [.long js0]) mfX9_fingerprint dL_law_1850 lkL_213 o_3 (by decide) (Nat.le_of_ble_eq_true rfl) o_1 o_2 rfl (Nat.le_of_ble_eq_true rfl) rfl rfl (fun Qc k => H Qc (fun v h' w => k (some (.long v)) h' w))
theorem bL_law_1853 {Q : Nat → Option Value → Hp → Prop} {h : Hp} {mc ms nc ns : Nat} {a0 a1 a2 a3 : Nat} {x4 : Int32} {js0 js1 : Int64} (H : (((lg_cmp js0 js1) = 0 → Wm mL_law 11 mc ms Q 1859 [some (.ref a0), some (.ref a1), some (.ref a2), some (.ref a3), some (.int x4), none, none] [] h nc ns) ∧ (¬ (lg_cmp js0 js1) = 0 → nc ≤ mc ∧ ns ≤ ms ∧ Q 0 (some (.int (nI 0))) h))) : Wm mL_law 11 mc ms Q 1853 [some (.ref a0), some (.ref a1), some (.ref a2), some (.ref a3), some (.int x4), none, none] [.long js1, .long js0] h nc ns := by
  refine rl_lcmp dL_law_1853 ?_
  refine rl_if_eq (tgt := 1859) dL_law_1854 (by decide) (fun c_1 => ?_) (fun c_1 => ?_)
  · have H := H.1 c_1
    exact H
  · have H := H.2 c_1
    refine rl_iconst (v := nI 0) dL_law_1857 (by decide) ?_
    obtain ⟨o_2, H⟩ := H
    obtain ⟨o_3, H⟩ := H
    exact rl_zret dL_law_1858 rfl rfl o_2 o_3 H
theorem bL_law_1859 {Q : Nat → Option Value → Hp → Prop} {h : Hp} {mc ms nc ns : Nat} {a0 a1 a2 a3 : Nat} {x4 : Int32} (H : Wm mL_law 11 mc ms Q 33 [some (.ref a0), some (.ref a1), some (.ref a2), some (.ref a3), some (.int (x4 + nI 6)), none, none] [] h nc ns) : Wm mL_law 11 mc ms Q 1859 [some (.ref a0), some (.ref a1), some (.ref a2), some (.ref a3), some (.int x4), none, none] [] h nc ns := by
  refine rl_iinc (v := x4 + nI 6) (L' := [some (.ref a0), some (.ref a1), some (.ref a2), some (.ref a3), some (.int (x4 + nI 6)), none, none]) dL_law_1859 rfl (congrArg (fun z => x4 + z) (by decide)) (Nat.le_of_ble_eq_true rfl) rfl ?_
  refine rl_goto (tgt := 33) dL_law_1862 (by decide) ?_
  exact H
