theorem tX9_starts_0 {n : Nat} {ad : Nat → Nat} {h0 : Hp} {cs : Nat → Nat → Int32} {pm : Nat → Nat → Nat} (L : Lay n ad h0) {Q : Nat → Option Value → Hp → Prop} {x1 x2 x3 : Int32} (H : Wm mX9_starts 0 0 0 Q 3 [some (.ref (ad (gMo 0))), some (.int x1), some (.int x2), some (.int x3), some (.int (nI 0))] [] (HN h0 ad cs pm) 0 0) : Wm mX9_starts 0 0 0 Q 0 [some (.ref (ad (gMo 0))), some (.int x1), some (.int x2), some (.int x3), none] [] (HN h0 ad cs pm) 0 0 := by
  refine rl_iconst (v := nI 0) dX9_starts_0 (by decide) ?_
  refine rl_istore (L' := [some (.ref (ad (gMo 0))), some (.int x1), some (.int x2), some (.int x3), some (.int (nI 0))]) dX9_starts_1 (Nat.le_of_ble_eq_true rfl) rfl ?_
  exact H
theorem tX9_starts_3 {n : Nat} {ad : Nat → Nat} {h0 : Hp} {cs : Nat → Nat → Int32} {pm : Nat → Nat → Nat} (L : Lay n ad h0) {Q : Nat → Option Value → Hp → Prop} {x1 x2 x3 x4 : Int32} (H : (((nI 2400) ≤ x4 → Q 0 none (HN h0 ad (up2 (up2 (up2 (up2 cs (gMo 1) 1 x1) (gMo 1) 2 x2) (gMo 1) 3 x3) (gMo 0) 4 (nI 0)) pm)) ∧ (¬ (nI 2400) ≤ x4 → (∃ j_2 : Nat, x4 = nI j_2 ∧ j_2 < 2400 ∧ (Wm mX9_starts 0 0 0 Q 3 [some (.ref (ad (gMo 0))), some (.int x1), some (.int x2), some (.int x3), some (.int (x4 + nI 1))] [] (HN h0 ad (up2 cs (gMo 1) j_2 (nI 0)) pm) 0 0))))) : Wm mX9_starts 0 0 0 Q 3 [some (.ref (ad (gMo 0))), some (.int x1), some (.int x2), some (.int x3), some (.int x4)] [] (HN h0 ad cs pm) 0 0 := by
  refine rl_iload dX9_starts_3 rfl ?_
  refine rl_sipush (v := nI 2400) dX9_starts_5 (by decide) ?_
  refine rl_icmp_ge (tgt := 25) dX9_starts_8 (by decide) (fun c_1 => ?_) (fun c_1 => ?_)
  · have H := H.1 c_1
    refine rl_aload_n dX9_starts_25 rfl rfl ?_
    refine rt_getP (k := 1) cfX9 dX9_starts_26 flX9_7 (by decide) rfl (lMo0 L) (rMo1 L) naMo ?_
    refine rl_iconst (v := nI 1) dX9_starts_29 (by decide) ?_
    refine rl_iload_n dX9_starts_30 rfl rfl ?_
    refine rt_iast (j := 1) L.2.1 dX9_starts_31 (lMo1 L) nzMo rfl (by decide) (by decide) ?_
    refine rl_aload_n dX9_starts_32 rfl rfl ?_
    refine rt_getP (k := 1) cfX9 dX9_starts_33 flX9_7 (by decide) rfl (lMo0 L) (rMo1 L) naMo ?_
    refine rl_iconst (v := nI 2) dX9_starts_36 (by decide) ?_
    refine rl_iload_n dX9_starts_37 rfl rfl ?_
    refine rt_iast (j := 2) L.2.1 dX9_starts_38 (lMo1 L) nzMo rfl (by decide) (by decide) ?_
    refine rl_aload_n dX9_starts_39 rfl rfl ?_
    refine rt_getP (k := 1) cfX9 dX9_starts_40 flX9_7 (by decide) rfl (lMo0 L) (rMo1 L) naMo ?_
    refine rl_iconst (v := nI 3) dX9_starts_43 (by decide) ?_
    refine rl_iload_n dX9_starts_44 rfl rfl ?_
    refine rt_iast (j := 3) L.2.1 dX9_starts_45 (lMo1 L) nzMo rfl (by decide) (by decide) ?_
    refine rl_aload_n dX9_starts_46 rfl rfl ?_
    refine rl_iconst (v := nI 0) dX9_starts_47 (by decide) ?_
    refine rt_putI (k := 4) L.2.1 cfX9 dX9_starts_48 flX9_45 (by decide) rfl (lMo0 L) nzMo (Or.inl rfl) ?_
    exact rl_vret dX9_starts_51 rfl (Nat.le_refl 0) (Nat.le_refl 0) H
  · have H := H.2 c_1
    refine rl_aload_n dX9_starts_11 rfl rfl ?_
    refine rt_getP (k := 1) cfX9 dX9_starts_12 flX9_7 (by decide) rfl (lMo0 L) (rMo1 L) naMo ?_
    refine rl_iload dX9_starts_15 rfl ?_
    refine rl_iconst (v := nI 0) dX9_starts_17 (by decide) ?_
    obtain ⟨j_2, e_3, b_4, H⟩ := H
    refine rt_iast (j := j_2) L.2.1 dX9_starts_18 (lMo1 L) nzMo e_3 b_4 (by decide) ?_
    refine rl_iinc (v := x4 + nI 1) (L' := [some (.ref (ad (gMo 0))), some (.int x1), some (.int x2), some (.int x3), some (.int (x4 + nI 1))]) dX9_starts_19 rfl (congrArg (fun z => x4 + z) (by decide)) (Nat.le_of_ble_eq_true rfl) rfl ?_
    refine rl_goto (tgt := 3) dX9_starts_22 (by decide) ?_
    exact H
theorem tX9_thrown_0 {n : Nat} {ad : Nat → Nat} {h0 : Hp} {cs : Nat → Nat → Int32} {pm : Nat → Nat → Nat} (L : Lay n ad h0) {Q : Nat → Option Value → Hp → Prop}  (H : Q 0 (some (.int (cs (gMo 0) 7))) (HN h0 ad cs pm)) : Wm mX9_thrown 0 0 0 Q 0 [some (.ref (ad (gMo 0)))] [] (HN h0 ad cs pm) 0 0 := by
  refine rl_aload_n dX9_thrown_0 rfl rfl ?_
  refine rt_getI (k := 7) cfX9 dX9_thrown_1 flX9_42 (by decide) rfl (lMo0 L) nzMo ?_
  exact rl_iret dX9_thrown_4 rfl (Nat.le_refl 0) (Nat.le_refl 0) H
theorem tX9_sites_0 {n : Nat} {ad : Nat → Nat} {h0 : Hp} {cs : Nat → Nat → Int32} {pm : Nat → Nat → Nat} (L : Lay n ad h0) {Q : Nat → Option Value → Hp → Prop}  (H : Q 0 (some (.int (cs (gMo 0) 0))) (HN h0 ad (up2 cs (gMo 0) 7 (nI 0)) pm)) : Wm mX9_sites 0 0 0 Q 0 [some (.ref (ad (gMo 0)))] [] (HN h0 ad cs pm) 0 0 := by
  refine rl_aload_n dX9_sites_0 rfl rfl ?_
  refine rl_iconst (v := nI 0) dX9_sites_1 (by decide) ?_
  refine rt_putI (k := 7) L.2.1 cfX9 dX9_sites_2 flX9_42 (by decide) rfl (lMo0 L) nzMo (Or.inl rfl) ?_
  refine rl_aload_n dX9_sites_5 rfl rfl ?_
  refine rt_getIv (x := cs (gMo 0) 0) (k := 0) cfX9 dX9_sites_6 flX9_34 (by decide) rfl (lMo0 L) nzMo ((up2_k (by decide)).trans (rfl)) ?_
  exact rl_iret dX9_sites_9 rfl (Nat.le_refl 0) (Nat.le_refl 0) H
theorem tX9_begin_0 {n : Nat} {ad : Nat → Nat} {h0 : Hp} {cs : Nat → Nat → Int32} {pm : Nat → Nat → Nat} (L : Lay n ad h0) {Q : Nat → Option Value → Hp → Prop} {x1 x2 x3 : Int32} (H : CKi mX9_in 0 0 0 [some (.int x1), some (.int (-10000)), some (.int (nI 10000))] (HN h0 ad (up2 cs (gMo 0) 7 (nI 0)) pm) (fun v h' => Wm mX9_begin 3 0 0 Q 15 [some (.ref (ad (gMo 0))), some (.int x1), some (.int x2), some (.int x3), none] [.int v] h' 0 0)) : Wm mX9_begin 3 0 0 Q 0 [some (.ref (ad (gMo 0))), some (.int x1), some (.int x2), some (.int x3), none] [] (HN h0 ad cs pm) 0 0 := by
  refine rl_aload_n dX9_begin_0 rfl rfl ?_
  refine rl_iconst (v := nI 0) dX9_begin_1 (by decide) ?_
  refine rt_putI (k := 7) L.2.1 cfX9 dX9_begin_2 flX9_42 (by decide) rfl (lMo0 L) nzMo (Or.inl rfl) ?_
  refine rl_iload_n dX9_begin_5 rfl rfl ?_
  refine rl_sipush (v := -10000) dX9_begin_6 (by decide) ?_
  refine rl_sipush (v := nI 10000) dX9_begin_9 (by decide) ?_
  exact rl_callS (As := [.int x1, .int (-10000), .int (nI 10000)]) (rest := []) mfX9_in dX9_begin_12 lkX9_48 (by decide) (Nat.le_of_ble_eq_true rfl) (Nat.le_refl _) (Nat.le_refl _) rfl (Nat.le_of_ble_eq_true rfl) rfl rfl (fun Qc k => H Qc (fun v h' w => k (some (.int v)) h' w))
theorem tX9_begin_15 {n : Nat} {ad : Nat → Nat} {h0 : Hp} {cs : Nat → Nat → Int32} {pm : Nat → Nat → Nat} (L : Lay n ad h0) {Q : Nat → Option Value → Hp → Prop} {x1 x2 x3 xs0 : Int32} (H : ((xs0 = 0 → Wm mX9_begin 3 0 0 Q 38 [some (.ref (ad (gMo 0))), none, none, none, none] [] (HN h0 ad cs pm) 0 0) ∧ (¬ xs0 = 0 → CKi mX9_in 0 0 0 [some (.int x2), some (.int x1), some (.int (nI 10000))] (HN h0 ad cs pm) (fun v h' => Wm mX9_begin 3 0 0 Q 26 [some (.ref (ad (gMo 0))), some (.int x1), some (.int x2), some (.int x3), none] [.int v] h' 0 0)))) : Wm mX9_begin 3 0 0 Q 15 [some (.ref (ad (gMo 0))), some (.int x1), some (.int x2), some (.int x3), none] [.int xs0] (HN h0 ad cs pm) 0 0 := by
  refine rl_if_eq (tgt := 38) dX9_begin_15 (by decide) (fun c_1 => ?_) (fun c_1 => ?_)
  · have H := H.1 c_1
    refine rl_wk (L' := [some (.ref (ad (gMo 0))), none, none, none, none]) ⟨rfl, trivial⟩ ?_
    exact H
  · have H := H.2 c_1
    refine rl_iload_n dX9_begin_18 rfl rfl ?_
    refine rl_iload_n dX9_begin_19 rfl rfl ?_
    refine rl_sipush (v := nI 10000) dX9_begin_20 (by decide) ?_
    exact rl_callS (As := [.int x2, .int x1, .int (nI 10000)]) (rest := []) mfX9_in dX9_begin_23 lkX9_48 (by decide) (Nat.le_of_ble_eq_true rfl) (Nat.le_refl _) (Nat.le_refl _) rfl (Nat.le_of_ble_eq_true rfl) rfl rfl (fun Qc k => H Qc (fun v h' w => k (some (.int v)) h' w))
theorem tX9_begin_26 {n : Nat} {ad : Nat → Nat} {h0 : Hp} {cs : Nat → Nat → Int32} {pm : Nat → Nat → Nat} (L : Lay n ad h0) {Q : Nat → Option Value → Hp → Prop} {x1 x2 x3 xs0 : Int32} (H : ((xs0 = 0 → Wm mX9_begin 3 0 0 Q 38 [some (.ref (ad (gMo 0))), none, none, none, none] [] (HN h0 ad cs pm) 0 0) ∧ (¬ xs0 = 0 → CKi mX9_in 0 0 0 [some (.int x3), some (.int x1), some (.int x2)] (HN h0 ad cs pm) (fun v h' => Wm mX9_begin 3 0 0 Q 35 [some (.ref (ad (gMo 0))), some (.int x1), some (.int x2), some (.int x3), none] [.int v] h' 0 0)))) : Wm mX9_begin 3 0 0 Q 26 [some (.ref (ad (gMo 0))), some (.int x1), some (.int x2), some (.int x3), none] [.int xs0] (HN h0 ad cs pm) 0 0 := by
  refine rl_if_eq (tgt := 38) dX9_begin_26 (by decide) (fun c_1 => ?_) (fun c_1 => ?_)
  · have H := H.1 c_1
    refine rl_wk (L' := [some (.ref (ad (gMo 0))), none, none, none, none]) ⟨rfl, trivial⟩ ?_
    exact H
  · have H := H.2 c_1
    refine rl_iload_n dX9_begin_29 rfl rfl ?_
    refine rl_iload_n dX9_begin_30 rfl rfl ?_
    refine rl_iload_n dX9_begin_31 rfl rfl ?_
    exact rl_callS (As := [.int x3, .int x1, .int x2]) (rest := []) mfX9_in dX9_begin_32 lkX9_48 (by decide) (Nat.le_of_ble_eq_true rfl) (Nat.le_refl _) (Nat.le_refl _) rfl (Nat.le_of_ble_eq_true rfl) rfl rfl (fun Qc k => H Qc (fun v h' w => k (some (.int v)) h' w))
theorem tX9_begin_35 {n : Nat} {ad : Nat → Nat} {h0 : Hp} {cs : Nat → Nat → Int32} {pm : Nat → Nat → Nat} (L : Lay n ad h0) {Q : Nat → Option Value → Hp → Prop} {x1 x2 x3 xs0 : Int32} (H : ((¬ xs0 = 0 → CKi mX9_valueNow 2 0 0 [some (.ref (ad (gMo 0))), none, none] (HN h0 ad cs pm) (fun v h' => Wm mX9_begin 3 0 0 Q 48 [some (.ref (ad (gMo 0))), some (.int x1), some (.int x2), some (.int x3), none] [.int v] h' 0 0)) ∧ (xs0 = 0 → Wm mX9_begin 3 0 0 Q 38 [some (.ref (ad (gMo 0))), none, none, none, none] [] (HN h0 ad cs pm) 0 0))) : Wm mX9_begin 3 0 0 Q 35 [some (.ref (ad (gMo 0))), some (.int x1), some (.int x2), some (.int x3), none] [.int xs0] (HN h0 ad cs pm) 0 0 := by
  refine rl_if_ne (tgt := 44) dX9_begin_35 (by decide) (fun c_1 => ?_) (fun c_1 => ?_)
  · have H := H.1 c_1
    refine rl_aload_n dX9_begin_44 rfl rfl ?_
    exact rl_callV (As := []) (rest := []) mfX9_valueNow dX9_begin_45 lkX9_108 (lMo0 L).K (by decide) (Nat.le_of_ble_eq_true rfl) (Nat.le_refl _) (Nat.le_refl _) rfl (Nat.le_of_ble_eq_true rfl) rfl rfl (fun Qc k => H Qc (fun v h' w => k (some (.int v)) h' w))
  · have H := H.2 c_1
    refine rl_wk (L' := [some (.ref (ad (gMo 0))), none, none, none, none]) ⟨rfl, trivial⟩ ?_
    exact H
theorem tX9_begin_38 {n : Nat} {ad : Nat → Nat} {h0 : Hp} {cs : Nat → Nat → Int32} {pm : Nat → Nat → Nat} (L : Lay n ad h0) {Q : Nat → Option Value → Hp → Prop}  (H : CKi mX9_fails 0 0 0 [some (.ref (ad (gMo 0))), some (.int (nI 1))] (HN h0 ad cs pm) (fun v h' => Wm mX9_begin 3 0 0 Q 43 [none, none, none, none, none] [.int v] h' 0 0)) : Wm mX9_begin 3 0 0 Q 38 [some (.ref (ad (gMo 0))), none, none, none, none] [] (HN h0 ad cs pm) 0 0 := by
  refine rl_aload_n dX9_begin_38 rfl rfl ?_
  refine rl_iconst (v := nI 1) dX9_begin_39 (by decide) ?_
  exact rl_callV (As := [.int (nI 1)]) (rest := []) mfX9_fails dX9_begin_40 lkX9_105 (lMo0 L).K (by decide) (Nat.le_of_ble_eq_true rfl) (Nat.le_refl _) (Nat.le_refl _) rfl (Nat.le_of_ble_eq_true rfl) rfl rfl (fun Qc k => H Qc (fun v h' w => k (some (.int v)) h' (rl_wk (L' := [none, none, none, none, none]) trivial w)))
theorem tX9_begin_43 {n : Nat} {ad : Nat → Nat} {h0 : Hp} {cs : Nat → Nat → Int32} {pm : Nat → Nat → Nat} (L : Lay n ad h0) {Q : Nat → Option Value → Hp → Prop} {xs0 : Int32} (H : Q 0 (some (.int xs0)) (HN h0 ad cs pm)) : Wm mX9_begin 3 0 0 Q 43 [none, none, none, none, none] [.int xs0] (HN h0 ad cs pm) 0 0 := by
  exact rl_iret dX9_begin_43 rfl (Nat.le_refl 0) (Nat.le_refl 0) H
theorem tX9_begin_48 {n : Nat} {ad : Nat → Nat} {h0 : Hp} {cs : Nat → Nat → Int32} {pm : Nat → Nat → Nat} (L : Lay n ad h0) {Q : Nat → Option Value → Hp → Prop} {x1 x2 x3 xs0 : Int32} (H : CKv mX9_starts 0 0 0 [some (.ref (ad (gMo 0))), some (.int x1), some (.int x2), some (.int x3), none] (HN h0 ad cs pm) (fun h' => Wm mX9_begin 3 0 0 Q 57 [none, none, none, none, some (.int xs0)] [] h' 0 0)) : Wm mX9_begin 3 0 0 Q 48 [some (.ref (ad (gMo 0))), some (.int x1), some (.int x2), some (.int x3), none] [.int xs0] (HN h0 ad cs pm) 0 0 := by
  refine rl_istore (L' := [some (.ref (ad (gMo 0))), some (.int x1), some (.int x2), some (.int x3), some (.int xs0)]) dX9_begin_48 (Nat.le_of_ble_eq_true rfl) rfl ?_
  refine rl_aload_n dX9_begin_50 rfl rfl ?_
  refine rl_iload_n dX9_begin_51 rfl rfl ?_
  refine rl_iload_n dX9_begin_52 rfl rfl ?_
  refine rl_iload_n dX9_begin_53 rfl rfl ?_
  exact rl_callV (As := [.int x1, .int x2, .int x3]) (rest := []) mfX9_starts dX9_begin_54 lkX9_38 (lMo0 L).K (by decide) (Nat.le_of_ble_eq_true rfl) (Nat.le_refl _) (Nat.le_refl _) rfl (Nat.le_of_ble_eq_true rfl) rfl rfl (fun Qc k => H Qc (fun h' w => k none h' (rl_wk (L' := [none, none, none, none, some (.int xs0)]) ⟨rfl, trivial⟩ w)))
theorem tX9_begin_57 {n : Nat} {ad : Nat → Nat} {h0 : Hp} {cs : Nat → Nat → Int32} {pm : Nat → Nat → Nat} (L : Lay n ad h0) {Q : Nat → Option Value → Hp → Prop} {x4 : Int32} (H : Q 0 (some (.int x4)) (HN h0 ad cs pm)) : Wm mX9_begin 3 0 0 Q 57 [none, none, none, none, some (.int x4)] [] (HN h0 ad cs pm) 0 0 := by
  refine rl_iload dX9_begin_57 rfl ?_
  exact rl_iret dX9_begin_59 rfl (Nat.le_refl 0) (Nat.le_refl 0) H
theorem tX9_in_0 {n : Nat} {ad : Nat → Nat} {h0 : Hp} {cs : Nat → Nat → Int32} {pm : Nat → Nat → Nat} (L : Lay n ad h0) {Q : Nat → Option Value → Hp → Prop} {x0 x1 x2 : Int32} (H : ((x0 < x1 → Q 0 (some (.int (nI 0))) (HN h0 ad cs pm)) ∧ (¬ x0 < x1 → ((x2 < x0 → Q 0 (some (.int (nI 0))) (HN h0 ad cs pm)) ∧ (¬ x2 < x0 → Q 0 (some (.int (nI 1))) (HN h0 ad cs pm)))))) : Wm mX9_in 0 0 0 Q 0 [some (.int x0), some (.int x1), some (.int x2)] [] (HN h0 ad cs pm) 0 0 := by
  refine rl_iload_n dX9_in_0 rfl rfl ?_
  refine rl_iload_n dX9_in_1 rfl rfl ?_
  refine rl_icmp_lt (tgt := 14) dX9_in_2 (by decide) (fun c_1 => ?_) (fun c_1 => ?_)
  · have H := H.1 c_1
    refine rl_iconst (v := nI 0) dX9_in_14 (by decide) ?_
    exact rl_zret dX9_in_15 rfl rfl (Nat.le_refl 0) (Nat.le_refl 0) H
  · have H := H.2 c_1
    refine rl_iload_n dX9_in_5 rfl rfl ?_
    refine rl_iload_n dX9_in_6 rfl rfl ?_
    refine rl_icmp_gt (tgt := 14) dX9_in_7 (by decide) (fun c_2 => ?_) (fun c_2 => ?_)
    · have H := H.1 c_2
      refine rl_iconst (v := nI 0) dX9_in_14 (by decide) ?_
      exact rl_zret dX9_in_15 rfl rfl (Nat.le_refl 0) (Nat.le_refl 0) H
    · have H := H.2 c_2
      refine rl_iconst (v := nI 1) dX9_in_10 (by decide) ?_
      refine rl_goto (tgt := 15) dX9_in_11 (by decide) ?_
      exact rl_zret dX9_in_15 rfl rfl (Nat.le_refl 0) (Nat.le_refl 0) H
theorem tX9_fails_0 {n : Nat} {ad : Nat → Nat} {h0 : Hp} {cs : Nat → Nat → Int32} {pm : Nat → Nat → Nat} (L : Lay n ad h0) {Q : Nat → Option Value → Hp → Prop} {x1 : Int32} (H : Q 0 (some (.int (nI 0))) (HN h0 ad (up2 cs (gMo 0) 7 x1) pm)) : Wm mX9_fails 0 0 0 Q 0 [some (.ref (ad (gMo 0))), some (.int x1)] [] (HN h0 ad cs pm) 0 0 := by
  refine rl_aload_n dX9_fails_0 rfl rfl ?_
  refine rl_iload_n dX9_fails_1 rfl rfl ?_
  refine rt_putI (k := 7) L.2.1 cfX9 dX9_fails_2 flX9_42 (by decide) rfl (lMo0 L) nzMo (Or.inl rfl) ?_
  refine rl_iconst (v := nI 0) dX9_fails_5 (by decide) ?_
  exact rl_iret dX9_fails_6 rfl (Nat.le_refl 0) (Nat.le_refl 0) H
theorem tX9_valueNow_0 {n : Nat} {ad : Nat → Nat} {h0 : Hp} {cs : Nat → Nat → Int32} {pm : Nat → Nat → Nat} (L : Lay n ad h0) {Q : Nat → Option Value → Hp → Prop}  (H : Wm mX9_valueNow 2 0 0 Q 9 [some (.ref (ad (gMo 0))), some (.int (cs (gMo 1) 3)), some (.int (nI 0))] [] (HN h0 ad cs pm) 0 0) : Wm mX9_valueNow 2 0 0 Q 0 [some (.ref (ad (gMo 0))), none, none] [] (HN h0 ad cs pm) 0 0 := by
  refine rl_aload_n dX9_valueNow_0 rfl rfl ?_
  refine rt_getP (k := 1) cfX9 dX9_valueNow_1 flX9_7 (by decide) rfl (lMo0 L) (rMo1 L) naMo ?_
  refine rl_iconst (v := nI 3) dX9_valueNow_4 (by decide) ?_
  refine rt_iald (j := 3) dX9_valueNow_5 (lMo1 L) nzMo rfl (by decide) (by decide) ?_
  refine rl_istore_n (L' := [some (.ref (ad (gMo 0))), some (.int (cs (gMo 1) 3)), none]) dX9_valueNow_6 rfl (Nat.le_of_ble_eq_true rfl) rfl ?_
  refine rl_iconst (v := nI 0) dX9_valueNow_7 (by decide) ?_
  refine rl_istore_n (L' := [some (.ref (ad (gMo 0))), some (.int (cs (gMo 1) 3)), some (.int (nI 0))]) dX9_valueNow_8 rfl (Nat.le_of_ble_eq_true rfl) rfl ?_
  exact H
theorem tX9_valueNow_9 {n : Nat} {ad : Nat → Nat} {h0 : Hp} {cs : Nat → Nat → Int32} {pm : Nat → Nat → Nat} (L : Lay n ad h0) {Q : Nat → Option Value → Hp → Prop} {x1 x2 : Int32} (H : (((cs (gMo 0) 0) ≤ x2 → Q 0 (some (.int x1)) (HN h0 ad cs pm)) ∧ (¬ (cs (gMo 0) 0) ≤ x2 → CKi mX9_mineAt 1 0 0 [some (.ref (ad (gMo 0))), some (.int x2)] (HN h0 ad cs pm) (fun v h' => Wm mX9_valueNow 2 0 0 Q 27 [some (.ref (ad (gMo 0))), none, some (.int x2)] [.int v, .ref (ad (gMo 1)), .int x1] h' 0 0)))) : Wm mX9_valueNow 2 0 0 Q 9 [some (.ref (ad (gMo 0))), some (.int x1), some (.int x2)] [] (HN h0 ad cs pm) 0 0 := by
  refine rl_iload_n dX9_valueNow_9 rfl rfl ?_
  refine rl_aload_n dX9_valueNow_10 rfl rfl ?_
  refine rt_getI (k := 0) cfX9 dX9_valueNow_11 flX9_34 (by decide) rfl (lMo0 L) nzMo ?_
  refine rl_icmp_ge (tgt := 51) dX9_valueNow_14 (by decide) (fun c_1 => ?_) (fun c_1 => ?_)
  · have H := H.1 c_1
    refine rl_iload_n dX9_valueNow_51 rfl rfl ?_
    exact rl_iret dX9_valueNow_52 rfl (Nat.le_refl 0) (Nat.le_refl 0) H
  · have H := H.2 c_1
    refine rl_iload_n dX9_valueNow_17 rfl rfl ?_
    refine rl_aload_n dX9_valueNow_18 rfl rfl ?_
    refine rt_getP (k := 1) cfX9 dX9_valueNow_19 flX9_7 (by decide) rfl (lMo0 L) (rMo1 L) naMo ?_
    refine rl_aload_n dX9_valueNow_22 rfl rfl ?_
    refine rl_iload_n dX9_valueNow_23 rfl rfl ?_
    exact rl_callV (As := [.int x2]) (rest := [.ref (ad (gMo 1)), .int x1]) mfX9_mineAt dX9_valueNow_24 lkX9_56 (lMo0 L).K (by decide) (Nat.le_of_ble_eq_true rfl) (Nat.le_refl _) (Nat.le_refl _) rfl (Nat.le_of_ble_eq_true rfl) rfl rfl (fun Qc k => H Qc (fun v h' w => k (some (.int v)) h' (rl_wk (L' := [some (.ref (ad (gMo 0))), none, some (.int x2)]) ⟨rfl, ⟨rfl, trivial⟩⟩ w)))
theorem tX9_valueNow_27 {n : Nat} {ad : Nat → Nat} {h0 : Hp} {cs : Nat → Nat → Int32} {pm : Nat → Nat → Nat} (L : Lay n ad h0) {Q : Nat → Option Value → Hp → Prop} {x2 xs0 xs2 : Int32} (H : (∃ j_1 : Nat, xs2 + (nI 2) = nI j_1 ∧ j_1 < 2400 ∧ (CKi mX9_mineAt 1 0 0 [some (.ref (ad (gMo 0))), some (.int x2)] (HN h0 ad cs pm) (fun v h' => Wm mX9_valueNow 2 0 0 Q 39 [some (.ref (ad (gMo 0))), none, some (.int x2)] [.int v, .ref (ad (gMo 1)), .int (cs (gMo 1) j_1), .int xs0] h' 0 0)))) : Wm mX9_valueNow 2 0 0 Q 27 [some (.ref (ad (gMo 0))), none, some (.int x2)] [.int xs2, .ref (ad (gMo 1)), .int xs0] (HN h0 ad cs pm) 0 0 := by
  refine rl_iconst (v := nI 2) dX9_valueNow_27 (by decide) ?_
  refine rl_iadd dX9_valueNow_28 ?_
  obtain ⟨j_1, e_2, b_3, H⟩ := H
  refine rt_iald (j := j_1) dX9_valueNow_29 (lMo1 L) nzMo e_2 b_3 (by decide) ?_
  refine rl_aload_n dX9_valueNow_30 rfl rfl ?_
  refine rt_getP (k := 1) cfX9 dX9_valueNow_31 flX9_7 (by decide) rfl (lMo0 L) (rMo1 L) naMo ?_
  refine rl_aload_n dX9_valueNow_34 rfl rfl ?_
  refine rl_iload_n dX9_valueNow_35 rfl rfl ?_
  exact rl_callV (As := [.int x2]) (rest := [.ref (ad (gMo 1)), .int (cs (gMo 1) j_1), .int xs0]) mfX9_mineAt dX9_valueNow_36 lkX9_56 (lMo0 L).K (by decide) (Nat.le_of_ble_eq_true rfl) (Nat.le_refl _) (Nat.le_refl _) rfl (Nat.le_of_ble_eq_true rfl) rfl rfl (fun Qc k => H Qc (fun v h' w => k (some (.int v)) h' w))
theorem tX9_valueNow_39 {n : Nat} {ad : Nat → Nat} {h0 : Hp} {cs : Nat → Nat → Int32} {pm : Nat → Nat → Nat} (L : Lay n ad h0) {Q : Nat → Option Value → Hp → Prop} {x2 xs0 xs1 xs3 : Int32} (H : (∃ j_1 : Nat, xs3 + (nI 3) = nI j_1 ∧ j_1 < 2400 ∧ (Wm mX9_valueNow 2 0 0 Q 9 [some (.ref (ad (gMo 0))), some (.int (xs0 + (xs1 - (cs (gMo 1) j_1)))), some (.int (x2 + nI 1))] [] (HN h0 ad cs pm) 0 0))) : Wm mX9_valueNow 2 0 0 Q 39 [some (.ref (ad (gMo 0))), none, some (.int x2)] [.int xs3, .ref (ad (gMo 1)), .int xs1, .int xs0] (HN h0 ad cs pm) 0 0 := by
  refine rl_iconst (v := nI 3) dX9_valueNow_39 (by decide) ?_
  refine rl_iadd dX9_valueNow_40 ?_
  obtain ⟨j_1, e_2, b_3, H⟩ := H
  refine rt_iald (j := j_1) dX9_valueNow_41 (lMo1 L) nzMo e_2 b_3 (by decide) ?_
  refine rl_isub dX9_valueNow_42 ?_
  refine rl_iadd dX9_valueNow_43 ?_
  refine rl_istore_n (L' := [some (.ref (ad (gMo 0))), some (.int (xs0 + (xs1 - (cs (gMo 1) j_1)))), some (.int x2)]) dX9_valueNow_44 rfl (Nat.le_of_ble_eq_true rfl) rfl ?_
  refine rl_iinc (v := x2 + nI 1) (L' := [some (.ref (ad (gMo 0))), some (.int (xs0 + (xs1 - (cs (gMo 1) j_1)))), some (.int (x2 + nI 1))]) dX9_valueNow_45 rfl (congrArg (fun z => x2 + z) (by decide)) (Nat.le_of_ble_eq_true rfl) rfl ?_
  refine rl_goto (tgt := 9) dX9_valueNow_48 (by decide) ?_
  exact H
theorem tX9_mineAt_0 {n : Nat} {ad : Nat → Nat} {h0 : Hp} {cs : Nat → Nat → Int32} {pm : Nat → Nat → Nat} (L : Lay n ad h0) {Q : Nat → Option Value → Hp → Prop} {x1 : Int32} (H : CKi mX9_record 0 0 0 [some (.int x1), some (.int x1)] (HN h0 ad cs pm) (fun v h' => Wm mX9_mineAt 1 0 0 Q 5 [none, none] [.int v] h' 0 0)) : Wm mX9_mineAt 1 0 0 Q 0 [some (.ref (ad (gMo 0))), some (.int x1)] [] (HN h0 ad cs pm) 0 0 := by
  refine rl_iload_n dX9_mineAt_0 rfl rfl ?_
  refine rl_iload_n dX9_mineAt_1 rfl rfl ?_
  exact rl_callS (As := [.int x1, .int x1]) (rest := []) mfX9_record dX9_mineAt_2 lkX9_52 (by decide) (Nat.le_of_ble_eq_true rfl) (Nat.le_refl _) (Nat.le_refl _) rfl (Nat.le_of_ble_eq_true rfl) rfl rfl (fun Qc k => H Qc (fun v h' w => k (some (.int v)) h' (rl_wk (L' := [none, none]) trivial w)))
theorem tX9_mineAt_5 {n : Nat} {ad : Nat → Nat} {h0 : Hp} {cs : Nat → Nat → Int32} {pm : Nat → Nat → Nat} (L : Lay n ad h0) {Q : Nat → Option Value → Hp → Prop} {xs0 : Int32} (H : Q 0 (some (.int xs0)) (HN h0 ad cs pm)) : Wm mX9_mineAt 1 0 0 Q 5 [none, none] [.int xs0] (HN h0 ad cs pm) 0 0 := by
  exact rl_iret dX9_mineAt_5 rfl (Nat.le_refl 0) (Nat.le_refl 0) H
theorem tX9_record_0 {n : Nat} {ad : Nat → Nat} {h0 : Hp} {cs : Nat → Nat → Int32} {pm : Nat → Nat → Nat} (L : Lay n ad h0) {Q : Nat → Option Value → Hp → Prop} {x0 x1 : Int32} (H : Q 0 (some (.int ((nI 60) + ((nI 30) * (((nI 5) * x0) + x1))))) (HN h0 ad cs pm)) : Wm mX9_record 0 0 0 Q 0 [some (.int x0), some (.int x1)] [] (HN h0 ad cs pm) 0 0 := by
  refine rl_bipush (v := nI 60) dX9_record_0 (by decide) ?_
  refine rl_bipush (v := nI 30) dX9_record_2 (by decide) ?_
  refine rl_iconst (v := nI 5) dX9_record_4 (by decide) ?_
  refine rl_iload_n dX9_record_5 rfl rfl ?_
  refine rl_imul dX9_record_6 ?_
  refine rl_iload_n dX9_record_7 rfl rfl ?_
  refine rl_iadd dX9_record_8 ?_
  refine rl_imul dX9_record_9 ?_
  refine rl_iadd dX9_record_10 ?_
  exact rl_iret dX9_record_11 rfl (Nat.le_refl 0) (Nat.le_refl 0) H
theorem tX9_increase_0 {n : Nat} {ad : Nat → Nat} {h0 : Hp} {cs : Nat → Nat → Int32} {pm : Nat → Nat → Nat} (L : Lay n ad h0) {Q : Nat → Option Value → Hp → Prop} {x1 x2 : Int32} (H : CKi mX9_change 6 0 0 [some (.ref (ad (gMo 0))), some (.int x1), some (.int (nI 0)), some (.int x2)] (HN h0 ad cs pm) (fun v h' => Wm mX9_increase 7 0 0 Q 7 [none, none, none] [.int v] h' 0 0)) : Wm mX9_increase 7 0 0 Q 0 [some (.ref (ad (gMo 0))), some (.int x1), some (.int x2)] [] (HN h0 ad cs pm) 0 0 := by
  refine rl_aload_n dX9_increase_0 rfl rfl ?_
  refine rl_iload_n dX9_increase_1 rfl rfl ?_
  refine rl_iconst (v := nI 0) dX9_increase_2 (by decide) ?_
  refine rl_iload_n dX9_increase_3 rfl rfl ?_
  exact rl_callV (As := [.int x1, .int (nI 0), .int x2]) (rest := []) mfX9_change dX9_increase_4 lkX9_112 (lMo0 L).K (by decide) (Nat.le_of_ble_eq_true rfl) (Nat.le_refl _) (Nat.le_refl _) rfl (Nat.le_of_ble_eq_true rfl) rfl rfl (fun Qc k => H Qc (fun v h' w => k (some (.int v)) h' (rl_wk (L' := [none, none, none]) trivial w)))
theorem tX9_increase_7 {n : Nat} {ad : Nat → Nat} {h0 : Hp} {cs : Nat → Nat → Int32} {pm : Nat → Nat → Nat} (L : Lay n ad h0) {Q : Nat → Option Value → Hp → Prop} {xs0 : Int32} (H : narrow .boolean (.int xs0) = .int xs0 ∧ Q 0 (some (.int xs0)) (HN h0 ad cs pm)) : Wm mX9_increase 7 0 0 Q 7 [none, none, none] [.int xs0] (HN h0 ad cs pm) 0 0 := by
  obtain ⟨o_1, H⟩ := H
  exact rl_zret dX9_increase_7 rfl o_1 (Nat.le_refl 0) (Nat.le_refl 0) H
theorem tX9_change_0 {n : Nat} {ad : Nat → Nat} {h0 : Hp} {cs : Nat → Nat → Int32} {pm : Nat → Nat → Nat} (L : Lay n ad h0) {Q : Nat → Option Value → Hp → Prop} {x1 x2 x3 : Int32} (H : CKi mX9_isSite 1 0 0 [some (.ref (ad (gMo 0))), some (.int x1)] (HN h0 ad cs pm) (fun v h' => Wm mX9_change 6 0 0 Q 6 [some (.ref (ad (gMo 0))), some (.int x1), some (.int x2), some (.int x3)] [.int v, .ref (ad (gMo 0))] h' 0 0)) : Wm mX9_change 6 0 0 Q 0 [some (.ref (ad (gMo 0))), some (.int x1), some (.int x2), some (.int x3)] [] (HN h0 ad cs pm) 0 0 := by
  refine rl_aload_n dX9_change_0 rfl rfl ?_
  refine rl_aload_n dX9_change_1 rfl rfl ?_
  refine rl_iload_n dX9_change_2 rfl rfl ?_
  exact rl_callV (As := [.int x1]) (rest := [.ref (ad (gMo 0))]) mfX9_isSite dX9_change_3 lkX9_96 (lMo0 L).K (by decide) (Nat.le_of_ble_eq_true rfl) (Nat.le_refl _) (Nat.le_refl _) rfl (Nat.le_of_ble_eq_true rfl) rfl rfl (fun Qc k => H Qc (fun v h' w => k (some (.int v)) h' w))
theorem tX9_change_6 {n : Nat} {ad : Nat → Nat} {h0 : Hp} {cs : Nat → Nat → Int32} {pm : Nat → Nat → Nat} (L : Lay n ad h0) {Q : Nat → Option Value → Hp → Prop} {x1 x2 x3 xs1 : Int32} (H : ((¬ xs1 = 0 → CKi mX9_in 0 0 0 [some (.int x3), some (.int (nI 1)), some (.int (nI 999))] (HN h0 ad cs pm) (fun v h' => Wm mX9_change 6 0 0 Q 21 [some (.ref (ad (gMo 0))), some (.int x1), some (.int x2), some (.int x3)] [.int v, .ref (ad (gMo 0))] h' 0 0)) ∧ (xs1 = 0 → Q 0 (some (.int (nI 0))) (HN h0 ad (up2 cs (gMo 0) 7 (nI 1)) pm)))) : Wm mX9_change 6 0 0 Q 6 [some (.ref (ad (gMo 0))), some (.int x1), some (.int x2), some (.int x3)] [.int xs1, .ref (ad (gMo 0))] (HN h0 ad cs pm) 0 0 := by
  refine rl_if_ne (tgt := 13) dX9_change_6 (by decide) (fun c_1 => ?_) (fun c_1 => ?_)
  · have H := H.1 c_1
    refine rl_iload_n dX9_change_13 rfl rfl ?_
    refine rl_iconst (v := nI 1) dX9_change_14 (by decide) ?_
    refine rl_sipush (v := nI 999) dX9_change_15 (by decide) ?_
    exact rl_callS (As := [.int x3, .int (nI 1), .int (nI 999)]) (rest := [.ref (ad (gMo 0))]) mfX9_in dX9_change_18 lkX9_48 (by decide) (Nat.le_of_ble_eq_true rfl) (Nat.le_refl _) (Nat.le_refl _) rfl (Nat.le_of_ble_eq_true rfl) rfl rfl (fun Qc k => H Qc (fun v h' w => k (some (.int v)) h' w))
  · have H := H.2 c_1
    refine rl_iconst (v := nI 1) dX9_change_9 (by decide) ?_
    refine rl_goto (tgt := 29) dX9_change_10 (by decide) ?_
    refine rt_putI (k := 7) L.2.1 cfX9 dX9_change_29 flX9_42 (by decide) rfl (lMo0 L) nzMo (Or.inl rfl) ?_
    refine rl_aload_n dX9_change_32 rfl rfl ?_
    refine rt_getIv (x := nI 1) (k := 7) cfX9 dX9_change_33 flX9_42 (by decide) rfl (lMo0 L) nzMo (up2_s) ?_
    refine rl_if_eq (tgt := 41) dX9_change_36 (by decide) (fun q => absurd q (by decide)) (fun _ => ?_)
    refine rl_iconst (v := nI 0) dX9_change_39 (by decide) ?_
    exact rl_zret dX9_change_40 rfl rfl (Nat.le_refl 0) (Nat.le_refl 0) H
theorem tX9_change_21 {n : Nat} {ad : Nat → Nat} {h0 : Hp} {cs : Nat → Nat → Int32} {pm : Nat → Nat → Nat} (L : Lay n ad h0) {Q : Nat → Option Value → Hp → Prop} {x1 x2 x3 xs1 : Int32} (H : ((¬ xs1 = 0 → CKv mX9_act 0 0 0 [some (.ref (ad (gMo 0))), none] (HN h0 ad (up2 cs (gMo 0) 7 (nI 0)) pm) (fun h' => Wm mX9_change 6 0 0 Q 45 [some (.ref (ad (gMo 0))), some (.int x1), some (.int x2), some (.int x3)] [] h' 0 0)) ∧ (xs1 = 0 → Q 0 (some (.int (nI 0))) (HN h0 ad (up2 cs (gMo 0) 7 (nI 2)) pm)))) : Wm mX9_change 6 0 0 Q 21 [some (.ref (ad (gMo 0))), some (.int x1), some (.int x2), some (.int x3)] [.int xs1, .ref (ad (gMo 0))] (HN h0 ad cs pm) 0 0 := by
  refine rl_if_ne (tgt := 28) dX9_change_21 (by decide) (fun c_1 => ?_) (fun c_1 => ?_)
  · have H := H.1 c_1
    refine rl_iconst (v := nI 0) dX9_change_28 (by decide) ?_
    refine rt_putI (k := 7) L.2.1 cfX9 dX9_change_29 flX9_42 (by decide) rfl (lMo0 L) nzMo (Or.inl rfl) ?_
    refine rl_aload_n dX9_change_32 rfl rfl ?_
    refine rt_getIv (x := nI 0) (k := 7) cfX9 dX9_change_33 flX9_42 (by decide) rfl (lMo0 L) nzMo (up2_s) ?_
    refine rl_if_eq (tgt := 41) dX9_change_36 (by decide) (fun _ => ?_) (fun q => absurd q (by decide))
    refine rl_aload_n dX9_change_41 rfl rfl ?_
    exact rl_callV (As := []) (rest := []) mfX9_act dX9_change_42 lkX9_99 (lMo0 L).K (by decide) (Nat.le_of_ble_eq_true rfl) (Nat.le_refl _) (Nat.le_refl _) rfl (Nat.le_of_ble_eq_true rfl) rfl rfl (fun Qc k => H Qc (fun h' w => k none h' w))
  · have H := H.2 c_1
    refine rl_iconst (v := nI 2) dX9_change_24 (by decide) ?_
    refine rl_goto (tgt := 29) dX9_change_25 (by decide) ?_
    refine rt_putI (k := 7) L.2.1 cfX9 dX9_change_29 flX9_42 (by decide) rfl (lMo0 L) nzMo (Or.inl rfl) ?_
    refine rl_aload_n dX9_change_32 rfl rfl ?_
    refine rt_getIv (x := nI 2) (k := 7) cfX9 dX9_change_33 flX9_42 (by decide) rfl (lMo0 L) nzMo (up2_s) ?_
    refine rl_if_eq (tgt := 41) dX9_change_36 (by decide) (fun q => absurd q (by decide)) (fun _ => ?_)
    refine rl_iconst (v := nI 0) dX9_change_39 (by decide) ?_
    exact rl_zret dX9_change_40 rfl rfl (Nat.le_refl 0) (Nat.le_refl 0) H
theorem tX9_change_45 {n : Nat} {ad : Nat → Nat} {h0 : Hp} {cs : Nat → Nat → Int32} {pm : Nat → Nat → Nat} (L : Lay n ad h0) {Q : Nat → Option Value → Hp → Prop} {x1 x2 x3 : Int32} (H : CKi mX9_uses 5 0 0 [some (.ref (ad (gMo 0))), some (.int x1), some (.int x2), some (.int x3), none, none, none, none] (HN h0 ad cs pm) (fun v h' => Wm mX9_change 6 0 0 Q 52 [none, none, none, none] [.int v] h' 0 0)) : Wm mX9_change 6 0 0 Q 45 [some (.ref (ad (gMo 0))), some (.int x1), some (.int x2), some (.int x3)] [] (HN h0 ad cs pm) 0 0 := by
  refine rl_aload_n dX9_change_45 rfl rfl ?_
  refine rl_iload_n dX9_change_46 rfl rfl ?_
  refine rl_iload_n dX9_change_47 rfl rfl ?_
  refine rl_iload_n dX9_change_48 rfl rfl ?_
  exact rl_callV (As := [.int x1, .int x2, .int x3]) (rest := []) mfX9_uses dX9_change_49 lkX9_102 (lMo0 L).K (by decide) (Nat.le_of_ble_eq_true rfl) (Nat.le_refl _) (Nat.le_refl _) rfl (Nat.le_of_ble_eq_true rfl) rfl rfl (fun Qc k => H Qc (fun v h' w => k (some (.int v)) h' (rl_wk (L' := [none, none, none, none]) trivial w)))
theorem tX9_change_52 {n : Nat} {ad : Nat → Nat} {h0 : Hp} {cs : Nat → Nat → Int32} {pm : Nat → Nat → Nat} (L : Lay n ad h0) {Q : Nat → Option Value → Hp → Prop} {xs0 : Int32} (H : narrow .boolean (.int xs0) = .int xs0 ∧ Q 0 (some (.int xs0)) (HN h0 ad cs pm)) : Wm mX9_change 6 0 0 Q 52 [none, none, none, none] [.int xs0] (HN h0 ad cs pm) 0 0 := by
  obtain ⟨o_1, H⟩ := H
  exact rl_zret dX9_change_52 rfl o_1 (Nat.le_refl 0) (Nat.le_refl 0) H
theorem tX9_isSite_0 {n : Nat} {ad : Nat → Nat} {h0 : Hp} {cs : Nat → Nat → Int32} {pm : Nat → Nat → Nat} (L : Lay n ad h0) {Q : Nat → Option Value → Hp → Prop} {x1 : Int32} (H : CKi mX9_in 0 0 0 [some (.int x1), some (.int (nI 0)), some (.int ((cs (gMo 0) 0) - (nI 1)))] (HN h0 ad cs pm) (fun v h' => Wm mX9_isSite 1 0 0 Q 11 [none, none] [.int v] h' 0 0)) : Wm mX9_isSite 1 0 0 Q 0 [some (.ref (ad (gMo 0))), some (.int x1)] [] (HN h0 ad cs pm) 0 0 := by
  refine rl_iload_n dX9_isSite_0 rfl rfl ?_
  refine rl_iconst (v := nI 0) dX9_isSite_1 (by decide) ?_
  refine rl_aload_n dX9_isSite_2 rfl rfl ?_
  refine rt_getI (k := 0) cfX9 dX9_isSite_3 flX9_34 (by decide) rfl (lMo0 L) nzMo ?_
  refine rl_iconst (v := nI 1) dX9_isSite_6 (by decide) ?_
  refine rl_isub dX9_isSite_7 ?_
  exact rl_callS (As := [.int x1, .int (nI 0), .int ((cs (gMo 0) 0) - (nI 1))]) (rest := []) mfX9_in dX9_isSite_8 lkX9_48 (by decide) (Nat.le_of_ble_eq_true rfl) (Nat.le_refl _) (Nat.le_refl _) rfl (Nat.le_of_ble_eq_true rfl) rfl rfl (fun Qc k => H Qc (fun v h' w => k (some (.int v)) h' (rl_wk (L' := [none, none]) trivial w)))
theorem tX9_isSite_11 {n : Nat} {ad : Nat → Nat} {h0 : Hp} {cs : Nat → Nat → Int32} {pm : Nat → Nat → Nat} (L : Lay n ad h0) {Q : Nat → Option Value → Hp → Prop} {xs0 : Int32} (H : narrow .boolean (.int xs0) = .int xs0 ∧ Q 0 (some (.int xs0)) (HN h0 ad cs pm)) : Wm mX9_isSite 1 0 0 Q 11 [none, none] [.int xs0] (HN h0 ad cs pm) 0 0 := by
  obtain ⟨o_1, H⟩ := H
  exact rl_zret dX9_isSite_11 rfl o_1 (Nat.le_refl 0) (Nat.le_refl 0) H
theorem tX9_act_0 {n : Nat} {ad : Nat → Nat} {h0 : Hp} {cs : Nat → Nat → Int32} {pm : Nat → Nat → Nat} (L : Lay n ad h0) {Q : Nat → Option Value → Hp → Prop}  (H : ((¬ (cs (gMo 0) 4) = (nI 5) → Wm mX9_act 0 0 0 Q 49 [some (.ref (ad (gMo 0))), none] [] (HN h0 ad cs pm) 0 0) ∧ ((cs (gMo 0) 4) = (nI 5) → Wm mX9_act 0 0 0 Q 10 [some (.ref (ad (gMo 0))), some (.int (nI 0))] [] (HN h0 ad cs pm) 0 0))) : Wm mX9_act 0 0 0 Q 0 [some (.ref (ad (gMo 0))), none] [] (HN h0 ad cs pm) 0 0 := by
  refine rl_aload_n dX9_act_0 rfl rfl ?_
  refine rt_getI (k := 4) cfX9 dX9_act_1 flX9_45 (by decide) rfl (lMo0 L) nzMo ?_
  refine rl_iconst (v := nI 5) dX9_act_4 (by decide) ?_
  refine rl_icmp_ne (tgt := 49) dX9_act_5 (by decide) (fun c_1 => ?_) (fun c_1 => ?_)
  · have H := H.1 c_1
    exact H
  · have H := H.2 c_1
    refine rl_iconst (v := nI 0) dX9_act_8 (by decide) ?_
    refine rl_istore_n (L' := [some (.ref (ad (gMo 0))), some (.int (nI 0))]) dX9_act_9 rfl (Nat.le_of_ble_eq_true rfl) rfl ?_
    exact H
theorem tX9_act_10 {n : Nat} {ad : Nat → Nat} {h0 : Hp} {cs : Nat → Nat → Int32} {pm : Nat → Nat → Nat} (L : Lay n ad h0) {Q : Nat → Option Value → Hp → Prop} {x1 : Int32} (H : (((nI 9600) ≤ x1 → Wm mX9_act 0 0 0 Q 49 [some (.ref (ad (gMo 0))), none] [] (HN h0 ad (up2 cs (gMo 0) 4 ((cs (gMo 0) 4) - (nI 1))) pm) 0 0) ∧ (¬ (nI 9600) ≤ x1 → (∃ j_2 : Nat, x1 + (nI 2400) = nI j_2 ∧ j_2 < 12000 ∧ (∃ j_5 : Nat, x1 = nI j_5 ∧ j_5 < 12000 ∧ (Wm mX9_act 0 0 0 Q 10 [some (.ref (ad (gMo 0))), some (.int (x1 + nI 1))] [] (HN h0 ad (up2 cs (gMo 2) j_5 (cs (gMo 2) j_2)) pm) 0 0)))))) : Wm mX9_act 0 0 0 Q 10 [some (.ref (ad (gMo 0))), some (.int x1)] [] (HN h0 ad cs pm) 0 0 := by
  refine rl_iload_n dX9_act_10 rfl rfl ?_
  refine rl_sipush (v := nI 9600) dX9_act_11 (by decide) ?_
  refine rl_icmp_ge (tgt := 39) dX9_act_14 (by decide) (fun c_1 => ?_) (fun c_1 => ?_)
  · have H := H.1 c_1
    refine rl_aload_n dX9_act_39 rfl rfl ?_
    refine rl_dup dX9_act_40 rfl ?_
    refine rt_getI (k := 4) cfX9 dX9_act_41 flX9_45 (by decide) rfl (lMo0 L) nzMo ?_
    refine rl_iconst (v := nI 1) dX9_act_44 (by decide) ?_
    refine rl_isub dX9_act_45 ?_
    refine rt_putI (k := 4) L.2.1 cfX9 dX9_act_46 flX9_45 (by decide) rfl (lMo0 L) nzMo (Or.inl rfl) ?_
    refine rl_wk (L' := [some (.ref (ad (gMo 0))), none]) ⟨rfl, trivial⟩ ?_
    exact H
  · have H := H.2 c_1
    refine rl_aload_n dX9_act_17 rfl rfl ?_
    refine rt_getP (k := 2) cfX9 dX9_act_18 flX9_13 (by decide) rfl (lMo0 L) (rMo2 L) naMo ?_
    refine rl_iload_n dX9_act_21 rfl rfl ?_
    refine rl_aload_n dX9_act_22 rfl rfl ?_
    refine rt_getP (k := 2) cfX9 dX9_act_23 flX9_13 (by decide) rfl (lMo0 L) (rMo2 L) naMo ?_
    refine rl_iload_n dX9_act_26 rfl rfl ?_
    refine rl_sipush (v := nI 2400) dX9_act_27 (by decide) ?_
    refine rl_iadd dX9_act_30 ?_
    obtain ⟨j_2, e_3, b_4, H⟩ := H
    refine rt_iald (j := j_2) dX9_act_31 (lMo2 L) nzMo e_3 b_4 (by decide) ?_
    obtain ⟨j_5, e_6, b_7, H⟩ := H
    refine rt_iast (j := j_5) L.2.1 dX9_act_32 (lMo2 L) nzMo e_6 b_7 (by decide) ?_
    refine rl_iinc (v := x1 + nI 1) (L' := [some (.ref (ad (gMo 0))), some (.int (x1 + nI 1))]) dX9_act_33 rfl (congrArg (fun z => x1 + z) (by decide)) (Nat.le_of_ble_eq_true rfl) rfl ?_
    refine rl_goto (tgt := 10) dX9_act_36 (by decide) ?_
    exact H
theorem tX9_act_49 {n : Nat} {ad : Nat → Nat} {h0 : Hp} {cs : Nat → Nat → Int32} {pm : Nat → Nat → Nat} (L : Lay n ad h0) {Q : Nat → Option Value → Hp → Prop}  (H : Wm mX9_act 0 0 0 Q 51 [some (.ref (ad (gMo 0))), some (.int (nI 0))] [] (HN h0 ad cs pm) 0 0) : Wm mX9_act 0 0 0 Q 49 [some (.ref (ad (gMo 0))), none] [] (HN h0 ad cs pm) 0 0 := by
  refine rl_iconst (v := nI 0) dX9_act_49 (by decide) ?_
  refine rl_istore_n (L' := [some (.ref (ad (gMo 0))), some (.int (nI 0))]) dX9_act_50 rfl (Nat.le_of_ble_eq_true rfl) rfl ?_
  exact H
theorem tX9_act_51 {n : Nat} {ad : Nat → Nat} {h0 : Hp} {cs : Nat → Nat → Int32} {pm : Nat → Nat → Nat} (L : Lay n ad h0) {Q : Nat → Option Value → Hp → Prop} {x1 : Int32} (H : (((nI 2400) ≤ x1 → Q 0 none (HN h0 ad (up2 cs (gMo 0) 4 ((cs (gMo 0) 4) + (nI 1))) pm)) ∧ (¬ (nI 2400) ≤ x1 → (∃ j_2 : Nat, x1 = nI j_2 ∧ j_2 < 2400 ∧ (∃ j_5 : Nat, ((nI 2400) * (cs (gMo 0) 4)) + x1 = nI j_5 ∧ j_5 < 12000 ∧ (Wm mX9_act 0 0 0 Q 51 [some (.ref (ad (gMo 0))), some (.int (x1 + nI 1))] [] (HN h0 ad (up2 cs (gMo 2) j_5 (cs (gMo 1) j_2)) pm) 0 0)))))) : Wm mX9_act 0 0 0 Q 51 [some (.ref (ad (gMo 0))), some (.int x1)] [] (HN h0 ad cs pm) 0 0 := by
  refine rl_iload_n dX9_act_51 rfl rfl ?_
  refine rl_sipush (v := nI 2400) dX9_act_52 (by decide) ?_
  refine rl_icmp_ge (tgt := 85) dX9_act_55 (by decide) (fun c_1 => ?_) (fun c_1 => ?_)
  · have H := H.1 c_1
    refine rl_aload_n dX9_act_85 rfl rfl ?_
    refine rl_dup dX9_act_86 rfl ?_
    refine rt_getI (k := 4) cfX9 dX9_act_87 flX9_45 (by decide) rfl (lMo0 L) nzMo ?_
    refine rl_iconst (v := nI 1) dX9_act_90 (by decide) ?_
    refine rl_iadd dX9_act_91 ?_
    refine rt_putI (k := 4) L.2.1 cfX9 dX9_act_92 flX9_45 (by decide) rfl (lMo0 L) nzMo (Or.inl rfl) ?_
    exact rl_vret dX9_act_95 rfl (Nat.le_refl 0) (Nat.le_refl 0) H
  · have H := H.2 c_1
    refine rl_aload_n dX9_act_58 rfl rfl ?_
    refine rt_getP (k := 2) cfX9 dX9_act_59 flX9_13 (by decide) rfl (lMo0 L) (rMo2 L) naMo ?_
    refine rl_sipush (v := nI 2400) dX9_act_62 (by decide) ?_
    refine rl_aload_n dX9_act_65 rfl rfl ?_
    refine rt_getI (k := 4) cfX9 dX9_act_66 flX9_45 (by decide) rfl (lMo0 L) nzMo ?_
    refine rl_imul dX9_act_69 ?_
    refine rl_iload_n dX9_act_70 rfl rfl ?_
    refine rl_iadd dX9_act_71 ?_
    refine rl_aload_n dX9_act_72 rfl rfl ?_
    refine rt_getP (k := 1) cfX9 dX9_act_73 flX9_7 (by decide) rfl (lMo0 L) (rMo1 L) naMo ?_
    refine rl_iload_n dX9_act_76 rfl rfl ?_
    obtain ⟨j_2, e_3, b_4, H⟩ := H
    refine rt_iald (j := j_2) dX9_act_77 (lMo1 L) nzMo e_3 b_4 (by decide) ?_
    obtain ⟨j_5, e_6, b_7, H⟩ := H
    refine rt_iast (j := j_5) L.2.1 dX9_act_78 (lMo2 L) nzMo e_6 b_7 (by decide) ?_
    refine rl_iinc (v := x1 + nI 1) (L' := [some (.ref (ad (gMo 0))), some (.int (x1 + nI 1))]) dX9_act_79 rfl (congrArg (fun z => x1 + z) (by decide)) (Nat.le_of_ble_eq_true rfl) rfl ?_
    refine rl_goto (tgt := 51) dX9_act_82 (by decide) ?_
    exact H
theorem tX9_uses_0 {n : Nat} {ad : Nat → Nat} {h0 : Hp} {cs : Nat → Nat → Int32} {pm : Nat → Nat → Nat} (L : Lay n ad h0) {Q : Nat → Option Value → Hp → Prop} {x1 x2 x3 : Int32} (H : CKi mX9_allRights 4 0 0 [some (.ref (ad (gMo 0))), some (.int x1), some (.int x2)] (HN h0 ad cs pm) (fun v h' => Wm mX9_uses 5 0 0 Q 7 [some (.ref (ad (gMo 0))), some (.int x1), some (.int x2), some (.int x3), none, none, none, none] [.int v, .int x3] h' 0 0)) : Wm mX9_uses 5 0 0 Q 0 [some (.ref (ad (gMo 0))), some (.int x1), some (.int x2), some (.int x3), none, none, none, none] [] (HN h0 ad cs pm) 0 0 := by
  refine rl_iload_n dX9_uses_0 rfl rfl ?_
  refine rl_aload_n dX9_uses_1 rfl rfl ?_
  refine rl_iload_n dX9_uses_2 rfl rfl ?_
  refine rl_iload_n dX9_uses_3 rfl rfl ?_
  exact rl_callV (As := [.int x1, .int x2]) (rest := [.int x3]) mfX9_allRights dX9_uses_4 lkX9_85 (lMo0 L).K (by decide) (Nat.le_of_ble_eq_true rfl) (Nat.le_refl _) (Nat.le_refl _) rfl (Nat.le_of_ble_eq_true rfl) rfl rfl (fun Qc k => H Qc (fun v h' w => k (some (.int v)) h' w))
theorem tX9_uses_7 {n : Nat} {ad : Nat → Nat} {h0 : Hp} {cs : Nat → Nat → Int32} {pm : Nat → Nat → Nat} (L : Lay n ad h0) {Q : Nat → Option Value → Hp → Prop} {x1 x2 x3 xs0 xs1 : Int32} (H : (((xs0 - xs1) ≤ 0 → CKi mX9_firstLoan 3 0 0 [some (.ref (ad (gMo 0))), some (.int x1), some (.int x2), none, none, none, none] (HN h0 ad cs pm) (fun v h' => Wm mX9_uses 5 0 0 Q 80 [some (.ref (ad (gMo 0))), some (.int x1), some (.int x2), some (.int x3), none, some (.int x3), none, none] [.int v] h' 0 0)) ∧ (¬ (xs0 - xs1) ≤ 0 → CKi mX9_mineAt 1 0 0 [some (.ref (ad (gMo 0))), some (.int x1)] (HN h0 ad cs pm) (fun v h' => Wm mX9_uses 5 0 0 Q 24 [some (.ref (ad (gMo 0))), some (.int x1), some (.int x2), none, some (.int (xs0 - xs1)), none, none, none] [.int v, .ref (ad (gMo 1))] h' 0 0)))) : Wm mX9_uses 5 0 0 Q 7 [some (.ref (ad (gMo 0))), some (.int x1), some (.int x2), some (.int x3), none, none, none, none] [.int xs1, .int xs0] (HN h0 ad cs pm) 0 0 := by
  refine rl_isub dX9_uses_7 ?_
  refine rl_istore (L' := [some (.ref (ad (gMo 0))), some (.int x1), some (.int x2), some (.int x3), some (.int (xs0 - xs1)), none, none, none]) dX9_uses_8 (Nat.le_of_ble_eq_true rfl) rfl ?_
  refine rl_iload dX9_uses_10 rfl ?_
  refine rl_if_le (tgt := 71) dX9_uses_12 (by decide) (fun c_1 => ?_) (fun c_1 => ?_)
  · have H := H.1 c_1
    refine rl_iload_n dX9_uses_71 rfl rfl ?_
    refine rl_istore (L' := [some (.ref (ad (gMo 0))), some (.int x1), some (.int x2), some (.int x3), some (.int (xs0 - xs1)), some (.int x3), none, none]) dX9_uses_72 (Nat.le_of_ble_eq_true rfl) rfl ?_
    refine rl_aload_n dX9_uses_74 rfl rfl ?_
    refine rl_iload_n dX9_uses_75 rfl rfl ?_
    refine rl_iload_n dX9_uses_76 rfl rfl ?_
    exact rl_callV (As := [.int x1, .int x2]) (rest := []) mfX9_firstLoan dX9_uses_77 lkX9_93 (lMo0 L).K (by decide) (Nat.le_of_ble_eq_true rfl) (Nat.le_refl _) (Nat.le_refl _) rfl (Nat.le_of_ble_eq_true rfl) rfl rfl (fun Qc k => H Qc (fun v h' w => k (some (.int v)) h' (rl_wk (L' := [some (.ref (ad (gMo 0))), some (.int x1), some (.int x2), some (.int x3), none, some (.int x3), none, none]) ⟨rfl, ⟨rfl, ⟨rfl, ⟨rfl, ⟨rfl, trivial⟩⟩⟩⟩⟩ w)))
  · have H := H.2 c_1
    refine rl_aload_n dX9_uses_15 rfl rfl ?_
    refine rt_getP (k := 1) cfX9 dX9_uses_16 flX9_7 (by decide) rfl (lMo0 L) (rMo1 L) naMo ?_
    refine rl_aload_n dX9_uses_19 rfl rfl ?_
    refine rl_iload_n dX9_uses_20 rfl rfl ?_
    exact rl_callV (As := [.int x1]) (rest := [.ref (ad (gMo 1))]) mfX9_mineAt dX9_uses_21 lkX9_56 (lMo0 L).K (by decide) (Nat.le_of_ble_eq_true rfl) (Nat.le_refl _) (Nat.le_refl _) rfl (Nat.le_of_ble_eq_true rfl) rfl rfl (fun Qc k => H Qc (fun v h' w => k (some (.int v)) h' (rl_wk (L' := [some (.ref (ad (gMo 0))), some (.int x1), some (.int x2), none, some (.int (xs0 - xs1)), none, none, none]) ⟨rfl, ⟨rfl, ⟨rfl, ⟨rfl, trivial⟩⟩⟩⟩ w)))
theorem tX9_uses_24 {n : Nat} {ad : Nat → Nat} {h0 : Hp} {cs : Nat → Nat → Int32} {pm : Nat → Nat → Nat} (L : Lay n ad h0) {Q : Nat → Option Value → Hp → Prop} {x1 x2 x4 xs1 : Int32} (H : (∃ j_1 : Nat, (xs1 + (nI 14)) + x2 = nI j_1 ∧ j_1 < 2400 ∧ (CKi mX9_mineAt 1 0 0 [some (.ref (ad (gMo 0))), some (.int x1)] (HN h0 ad cs pm) (fun v h' => Wm mX9_uses 5 0 0 Q 44 [some (.ref (ad (gMo 0))), some (.int x1), some (.int x2), none, none, some (.int ((cs (gMo 1) j_1) + x4)), none, none] [.int v, .ref (ad (gMo 1))] h' 0 0)))) : Wm mX9_uses 5 0 0 Q 24 [some (.ref (ad (gMo 0))), some (.int x1), some (.int x2), none, some (.int x4), none, none, none] [.int xs1, .ref (ad (gMo 1))] (HN h0 ad cs pm) 0 0 := by
  refine rl_bipush (v := nI 14) dX9_uses_24 (by decide) ?_
  refine rl_iadd dX9_uses_26 ?_
  refine rl_iload_n dX9_uses_27 rfl rfl ?_
  refine rl_iadd dX9_uses_28 ?_
  obtain ⟨j_1, e_2, b_3, H⟩ := H
  refine rt_iald (j := j_1) dX9_uses_29 (lMo1 L) nzMo e_2 b_3 (by decide) ?_
  refine rl_iload dX9_uses_30 rfl ?_
  refine rl_iadd dX9_uses_32 ?_
  refine rl_istore (L' := [some (.ref (ad (gMo 0))), some (.int x1), some (.int x2), none, some (.int x4), some (.int ((cs (gMo 1) j_1) + x4)), none, none]) dX9_uses_33 (Nat.le_of_ble_eq_true rfl) rfl ?_
  refine rl_aload_n dX9_uses_35 rfl rfl ?_
  refine rt_getP (k := 1) cfX9 dX9_uses_36 flX9_7 (by decide) rfl (lMo0 L) (rMo1 L) naMo ?_
  refine rl_aload_n dX9_uses_39 rfl rfl ?_
  refine rl_iload_n dX9_uses_40 rfl rfl ?_
  exact rl_callV (As := [.int x1]) (rest := [.ref (ad (gMo 1))]) mfX9_mineAt dX9_uses_41 lkX9_56 (lMo0 L).K (by decide) (Nat.le_of_ble_eq_true rfl) (Nat.le_refl _) (Nat.le_refl _) rfl (Nat.le_of_ble_eq_true rfl) rfl rfl (fun Qc k => H Qc (fun v h' w => k (some (.int v)) h' (rl_wk (L' := [some (.ref (ad (gMo 0))), some (.int x1), some (.int x2), none, none, some (.int ((cs (gMo 1) j_1) + x4)), none, none]) ⟨rfl, ⟨rfl, ⟨rfl, ⟨rfl, trivial⟩⟩⟩⟩ w)))
theorem tX9_uses_44 {n : Nat} {ad : Nat → Nat} {h0 : Hp} {cs : Nat → Nat → Int32} {pm : Nat → Nat → Nat} (L : Lay n ad h0) {Q : Nat → Option Value → Hp → Prop} {x1 x2 x5 xs1 : Int32} (H : ((x5 ≤ (nI 100000) → (∃ j_2 : Nat, (xs1 + (nI 14)) + x2 = nI j_2 ∧ j_2 < 2400 ∧ (CKv mX9_changed 2 0 0 [some (.ref (ad (gMo 0))), some (.int x1)] (HN h0 ad (up2 cs (gMo 1) j_2 x5) pm) (fun h' => Wm mX9_uses 5 0 0 Q 69 [none, none, none, none, none, none, none, none] [] h' 0 0)))) ∧ (¬ x5 ≤ (nI 100000) → (∃ j_5 : Nat, (xs1 + (nI 14)) + x2 = nI j_5 ∧ j_5 < 2400 ∧ (CKv mX9_changed 2 0 0 [some (.ref (ad (gMo 0))), some (.int x1)] (HN h0 ad (up2 cs (gMo 1) j_5 (nI 100000)) pm) (fun h' => Wm mX9_uses 5 0 0 Q 69 [none, none, none, none, none, none, none, none] [] h' 0 0)))))) : Wm mX9_uses 5 0 0 Q 44 [some (.ref (ad (gMo 0))), some (.int x1), some (.int x2), none, none, some (.int x5), none, none] [.int xs1, .ref (ad (gMo 1))] (HN h0 ad cs pm) 0 0 := by
  refine rl_bipush (v := nI 14) dX9_uses_44 (by decide) ?_
  refine rl_iadd dX9_uses_46 ?_
  refine rl_iload_n dX9_uses_47 rfl rfl ?_
  refine rl_iadd dX9_uses_48 ?_
  refine rl_iload dX9_uses_49 rfl ?_
  refine rl_ldc (v := nI 100000) dX9_uses_51 kcX9_88 ?_
  refine rl_icmp_le (tgt := 61) dX9_uses_53 (by decide) (fun c_1 => ?_) (fun c_1 => ?_)
  · have H := H.1 c_1
    refine rl_iload dX9_uses_61 rfl ?_
    obtain ⟨j_2, e_3, b_4, H⟩ := H
    refine rt_iast (j := j_2) L.2.1 dX9_uses_63 (lMo1 L) nzMo e_3 b_4 (by decide) ?_
    refine rl_aload_n dX9_uses_64 rfl rfl ?_
    refine rl_iload_n dX9_uses_65 rfl rfl ?_
    exact rl_callV (As := [.int x1]) (rest := []) mfX9_changed dX9_uses_66 lkX9_89 (lMo0 L).K (by decide) (Nat.le_of_ble_eq_true rfl) (Nat.le_refl _) (Nat.le_refl _) rfl (Nat.le_of_ble_eq_true rfl) rfl rfl (fun Qc k => H Qc (fun h' w => k none h' (rl_wk (L' := [none, none, none, none, none, none, none, none]) trivial w)))
  · have H := H.2 c_1
    refine rl_ldc (v := nI 100000) dX9_uses_56 kcX9_88 ?_
    refine rl_goto (tgt := 63) dX9_uses_58 (by decide) ?_
    obtain ⟨j_5, e_6, b_7, H⟩ := H
    refine rt_iast (j := j_5) L.2.1 dX9_uses_63 (lMo1 L) nzMo e_6 b_7 (by decide) ?_
    refine rl_aload_n dX9_uses_64 rfl rfl ?_
    refine rl_iload_n dX9_uses_65 rfl rfl ?_
    exact rl_callV (As := [.int x1]) (rest := []) mfX9_changed dX9_uses_66 lkX9_89 (lMo0 L).K (by decide) (Nat.le_of_ble_eq_true rfl) (Nat.le_refl _) (Nat.le_refl _) rfl (Nat.le_of_ble_eq_true rfl) rfl rfl (fun Qc k => H Qc (fun h' w => k none h' (rl_wk (L' := [none, none, none, none, none, none, none, none]) trivial w)))
theorem tX9_uses_69 {n : Nat} {ad : Nat → Nat} {h0 : Hp} {cs : Nat → Nat → Int32} {pm : Nat → Nat → Nat} (L : Lay n ad h0) {Q : Nat → Option Value → Hp → Prop}  (H : Q 0 (some (.int (nI 0))) (HN h0 ad cs pm)) : Wm mX9_uses 5 0 0 Q 69 [none, none, none, none, none, none, none, none] [] (HN h0 ad cs pm) 0 0 := by
  refine rl_iconst (v := nI 0) dX9_uses_69 (by decide) ?_
  exact rl_zret dX9_uses_70 rfl rfl (Nat.le_refl 0) (Nat.le_refl 0) H
theorem tX9_uses_80 {n : Nat} {ad : Nat → Nat} {h0 : Hp} {cs : Nat → Nat → Int32} {pm : Nat → Nat → Nat} (L : Lay n ad h0) {Q : Nat → Option Value → Hp → Prop} {x1 x2 x3 x5 xs0 : Int32} (H : Wm mX9_uses 5 0 0 Q 82 [some (.ref (ad (gMo 0))), some (.int x1), some (.int x2), some (.int x3), none, some (.int x5), some (.int xs0), none] [] (HN h0 ad cs pm) 0 0) : Wm mX9_uses 5 0 0 Q 80 [some (.ref (ad (gMo 0))), some (.int x1), some (.int x2), some (.int x3), none, some (.int x5), none, none] [.int xs0] (HN h0 ad cs pm) 0 0 := by
  refine rl_istore (L' := [some (.ref (ad (gMo 0))), some (.int x1), some (.int x2), some (.int x3), none, some (.int x5), some (.int xs0), none]) dX9_uses_80 (Nat.le_of_ble_eq_true rfl) rfl ?_
  exact H
theorem tX9_uses_82 {n : Nat} {ad : Nat → Nat} {h0 : Hp} {cs : Nat → Nat → Int32} {pm : Nat → Nat → Nat} (L : Lay n ad h0) {Q : Nat → Option Value → Hp → Prop} {x1 x2 x3 x5 x6 : Int32} (H : ((x6 < 0 → Wm mX9_uses 5 0 0 Q 155 [some (.ref (ad (gMo 0))), some (.int x1), some (.int x2), some (.int x3), none, none, none, none] [] (HN h0 ad cs pm) 0 0) ∧ (¬ x6 < 0 → ((x5 ≤ 0 → Wm mX9_uses 5 0 0 Q 155 [some (.ref (ad (gMo 0))), some (.int x1), some (.int x2), some (.int x3), none, none, none, none] [] (HN h0 ad cs pm) 0 0) ∧ (¬ x5 ≤ 0 → CKi mX9_restOf 2 0 0 [some (.ref (ad (gMo 0))), some (.int x6), none] (HN h0 ad cs pm) (fun v h' => Wm mX9_uses 5 0 0 Q 98 [some (.ref (ad (gMo 0))), some (.int x1), some (.int x2), some (.int x3), none, some (.int x5), some (.int x6), none] [.int v] h' 0 0)))))) : Wm mX9_uses 5 0 0 Q 82 [some (.ref (ad (gMo 0))), some (.int x1), some (.int x2), some (.int x3), none, some (.int x5), some (.int x6), none] [] (HN h0 ad cs pm) 0 0 := by
  refine rl_iload dX9_uses_82 rfl ?_
  refine rl_if_lt (tgt := 155) dX9_uses_84 (by decide) (fun c_1 => ?_) (fun c_1 => ?_)
  · have H := H.1 c_1
    refine rl_wk (L' := [some (.ref (ad (gMo 0))), some (.int x1), some (.int x2), some (.int x3), none, none, none, none]) ⟨rfl, ⟨rfl, ⟨rfl, ⟨rfl, trivial⟩⟩⟩⟩ ?_
    exact H
  · have H := H.2 c_1
    refine rl_iload dX9_uses_87 rfl ?_
    refine rl_if_le (tgt := 155) dX9_uses_89 (by decide) (fun c_2 => ?_) (fun c_2 => ?_)
    · have H := H.1 c_2
      refine rl_wk (L' := [some (.ref (ad (gMo 0))), some (.int x1), some (.int x2), some (.int x3), none, none, none, none]) ⟨rfl, ⟨rfl, ⟨rfl, ⟨rfl, trivial⟩⟩⟩⟩ ?_
      exact H
    · have H := H.2 c_2
      refine rl_aload_n dX9_uses_92 rfl rfl ?_
      refine rl_iload dX9_uses_93 rfl ?_
      exact rl_callV (As := [.int x6]) (rest := []) mfX9_restOf dX9_uses_95 lkX9_76 (lMo0 L).K (by decide) (Nat.le_of_ble_eq_true rfl) (Nat.le_refl _) (Nat.le_refl _) rfl (Nat.le_of_ble_eq_true rfl) rfl rfl (fun Qc k => H Qc (fun v h' w => k (some (.int v)) h' w))
theorem tX9_uses_98 {n : Nat} {ad : Nat → Nat} {h0 : Hp} {cs : Nat → Nat → Int32} {pm : Nat → Nat → Nat} (L : Lay n ad h0) {Q : Nat → Option Value → Hp → Prop} {x1 x2 x3 x5 x6 xs0 : Int32} (H : ((x5 ≤ xs0 → CKi mX9_mineAt 1 0 0 [some (.ref (ad (gMo 0))), some (.int x1)] (HN h0 ad cs pm) (fun v h' => Wm mX9_uses 5 0 0 Q 125 [some (.ref (ad (gMo 0))), some (.int x1), some (.int x2), some (.int x3), none, some (.int x5), some (.int x6), some (.int x5)] [.int v, .ref (ad (gMo 1))] h' 0 0)) ∧ (¬ x5 ≤ xs0 → CKi mX9_restOf 2 0 0 [some (.ref (ad (gMo 0))), some (.int x6), none] (HN h0 ad cs pm) (fun v h' => Wm mX9_uses 5 0 0 Q 109 [some (.ref (ad (gMo 0))), some (.int x1), some (.int x2), some (.int x3), none, some (.int x5), some (.int x6), none] [.int v] h' 0 0)))) : Wm mX9_uses 5 0 0 Q 98 [some (.ref (ad (gMo 0))), some (.int x1), some (.int x2), some (.int x3), none, some (.int x5), some (.int x6), none] [.int xs0] (HN h0 ad cs pm) 0 0 := by
  refine rl_iload dX9_uses_98 rfl ?_
  refine rl_icmp_ge (tgt := 112) dX9_uses_100 (by decide) (fun c_1 => ?_) (fun c_1 => ?_)
  · have H := H.1 c_1
    refine rl_iload dX9_uses_112 rfl ?_
    refine rl_istore (L' := [some (.ref (ad (gMo 0))), some (.int x1), some (.int x2), some (.int x3), none, some (.int x5), some (.int x6), some (.int x5)]) dX9_uses_114 (Nat.le_of_ble_eq_true rfl) rfl ?_
    refine rl_aload_n dX9_uses_116 rfl rfl ?_
    refine rt_getP (k := 1) cfX9 dX9_uses_117 flX9_7 (by decide) rfl (lMo0 L) (rMo1 L) naMo ?_
    refine rl_aload_n dX9_uses_120 rfl rfl ?_
    refine rl_iload_n dX9_uses_121 rfl rfl ?_
    exact rl_callV (As := [.int x1]) (rest := [.ref (ad (gMo 1))]) mfX9_mineAt dX9_uses_122 lkX9_56 (lMo0 L).K (by decide) (Nat.le_of_ble_eq_true rfl) (Nat.le_refl _) (Nat.le_refl _) rfl (Nat.le_of_ble_eq_true rfl) rfl rfl (fun Qc k => H Qc (fun v h' w => k (some (.int v)) h' w))
  · have H := H.2 c_1
    refine rl_aload_n dX9_uses_103 rfl rfl ?_
    refine rl_iload dX9_uses_104 rfl ?_
    exact rl_callV (As := [.int x6]) (rest := []) mfX9_restOf dX9_uses_106 lkX9_76 (lMo0 L).K (by decide) (Nat.le_of_ble_eq_true rfl) (Nat.le_refl _) (Nat.le_refl _) rfl (Nat.le_of_ble_eq_true rfl) rfl rfl (fun Qc k => H Qc (fun v h' w => k (some (.int v)) h' w))
theorem tX9_uses_109 {n : Nat} {ad : Nat → Nat} {h0 : Hp} {cs : Nat → Nat → Int32} {pm : Nat → Nat → Nat} (L : Lay n ad h0) {Q : Nat → Option Value → Hp → Prop} {x1 x2 x3 x5 x6 xs0 : Int32} (H : CKi mX9_mineAt 1 0 0 [some (.ref (ad (gMo 0))), some (.int x1)] (HN h0 ad cs pm) (fun v h' => Wm mX9_uses 5 0 0 Q 125 [some (.ref (ad (gMo 0))), some (.int x1), some (.int x2), some (.int x3), none, some (.int x5), some (.int x6), some (.int xs0)] [.int v, .ref (ad (gMo 1))] h' 0 0)) : Wm mX9_uses 5 0 0 Q 109 [some (.ref (ad (gMo 0))), some (.int x1), some (.int x2), some (.int x3), none, some (.int x5), some (.int x6), none] [.int xs0] (HN h0 ad cs pm) 0 0 := by
  refine rl_goto (tgt := 114) dX9_uses_109 (by decide) ?_
  refine rl_istore (L' := [some (.ref (ad (gMo 0))), some (.int x1), some (.int x2), some (.int x3), none, some (.int x5), some (.int x6), some (.int xs0)]) dX9_uses_114 (Nat.le_of_ble_eq_true rfl) rfl ?_
  refine rl_aload_n dX9_uses_116 rfl rfl ?_
  refine rt_getP (k := 1) cfX9 dX9_uses_117 flX9_7 (by decide) rfl (lMo0 L) (rMo1 L) naMo ?_
  refine rl_aload_n dX9_uses_120 rfl rfl ?_
  refine rl_iload_n dX9_uses_121 rfl rfl ?_
  exact rl_callV (As := [.int x1]) (rest := [.ref (ad (gMo 1))]) mfX9_mineAt dX9_uses_122 lkX9_56 (lMo0 L).K (by decide) (Nat.le_of_ble_eq_true rfl) (Nat.le_refl _) (Nat.le_refl _) rfl (Nat.le_of_ble_eq_true rfl) rfl rfl (fun Qc k => H Qc (fun v h' w => k (some (.int v)) h' w))
theorem tX9_uses_125 {n : Nat} {ad : Nat → Nat} {h0 : Hp} {cs : Nat → Nat → Int32} {pm : Nat → Nat → Nat} (L : Lay n ad h0) {Q : Nat → Option Value → Hp → Prop} {x1 x2 x3 x5 x6 x7 xs1 : Int32} (H : (∃ j_1 : Nat, (xs1 + (nI 17)) + x6 = nI j_1 ∧ j_1 < 2400 ∧ (CKi mX9_firstLoan 3 0 0 [some (.ref (ad (gMo 0))), some (.int x1), some (.int x2), none, none, none, none] (HN h0 ad (up2 cs (gMo 1) j_1 ((cs (gMo 1) j_1) + x7)) pm) (fun v h' => Wm mX9_uses 5 0 0 Q 150 [some (.ref (ad (gMo 0))), some (.int x1), some (.int x2), some (.int x3), none, some (.int (x5 - x7)), none, none] [.int v] h' 0 0)))) : Wm mX9_uses 5 0 0 Q 125 [some (.ref (ad (gMo 0))), some (.int x1), some (.int x2), some (.int x3), none, some (.int x5), some (.int x6), some (.int x7)] [.int xs1, .ref (ad (gMo 1))] (HN h0 ad cs pm) 0 0 := by
  refine rl_bipush (v := nI 17) dX9_uses_125 (by decide) ?_
  refine rl_iadd dX9_uses_127 ?_
  refine rl_iload dX9_uses_128 rfl ?_
  refine rl_iadd dX9_uses_130 ?_
  refine rl_dup2 dX9_uses_131 rfl rfl ?_
  obtain ⟨j_1, e_2, b_3, H⟩ := H
  refine rt_iald (j := j_1) dX9_uses_132 (lMo1 L) nzMo e_2 b_3 (by decide) ?_
  refine rl_iload dX9_uses_133 rfl ?_
  refine rl_iadd dX9_uses_135 ?_
  refine rt_iast (j := j_1) L.2.1 dX9_uses_136 (lMo1 L) nzMo e_2 b_3 (by decide) ?_
  refine rl_iload dX9_uses_137 rfl ?_
  refine rl_iload dX9_uses_139 rfl ?_
  refine rl_isub dX9_uses_141 ?_
  refine rl_istore (L' := [some (.ref (ad (gMo 0))), some (.int x1), some (.int x2), some (.int x3), none, some (.int (x5 - x7)), some (.int x6), some (.int x7)]) dX9_uses_142 (Nat.le_of_ble_eq_true rfl) rfl ?_
  refine rl_aload_n dX9_uses_144 rfl rfl ?_
  refine rl_iload_n dX9_uses_145 rfl rfl ?_
  refine rl_iload_n dX9_uses_146 rfl rfl ?_
  exact rl_callV (As := [.int x1, .int x2]) (rest := []) mfX9_firstLoan dX9_uses_147 lkX9_93 (lMo0 L).K (by decide) (Nat.le_of_ble_eq_true rfl) (Nat.le_refl _) (Nat.le_refl _) rfl (Nat.le_of_ble_eq_true rfl) rfl rfl (fun Qc k => H Qc (fun v h' w => k (some (.int v)) h' (rl_wk (L' := [some (.ref (ad (gMo 0))), some (.int x1), some (.int x2), some (.int x3), none, some (.int (x5 - x7)), none, none]) ⟨rfl, ⟨rfl, ⟨rfl, ⟨rfl, ⟨rfl, trivial⟩⟩⟩⟩⟩ w)))
theorem tX9_uses_150 {n : Nat} {ad : Nat → Nat} {h0 : Hp} {cs : Nat → Nat → Int32} {pm : Nat → Nat → Nat} (L : Lay n ad h0) {Q : Nat → Option Value → Hp → Prop} {x1 x2 x3 x5 xs0 : Int32} (H : Wm mX9_uses 5 0 0 Q 82 [some (.ref (ad (gMo 0))), some (.int x1), some (.int x2), some (.int x3), none, some (.int x5), some (.int xs0), none] [] (HN h0 ad cs pm) 0 0) : Wm mX9_uses 5 0 0 Q 150 [some (.ref (ad (gMo 0))), some (.int x1), some (.int x2), some (.int x3), none, some (.int x5), none, none] [.int xs0] (HN h0 ad cs pm) 0 0 := by
  refine rl_istore (L' := [some (.ref (ad (gMo 0))), some (.int x1), some (.int x2), some (.int x3), none, some (.int x5), some (.int xs0), none]) dX9_uses_150 (Nat.le_of_ble_eq_true rfl) rfl ?_
  refine rl_goto (tgt := 82) dX9_uses_152 (by decide) ?_
  exact H
theorem tX9_uses_155 {n : Nat} {ad : Nat → Nat} {h0 : Hp} {cs : Nat → Nat → Int32} {pm : Nat → Nat → Nat} (L : Lay n ad h0) {Q : Nat → Option Value → Hp → Prop} {x1 x2 x3 : Int32} (H : CKi mX9_mineAt 1 0 0 [some (.ref (ad (gMo 0))), some (.int x1)] (HN h0 ad cs pm) (fun v h' => Wm mX9_uses 5 0 0 Q 164 [some (.ref (ad (gMo 0))), some (.int x1), some (.int x2), some (.int x3), none, none, none, none] [.int v, .ref (ad (gMo 1))] h' 0 0)) : Wm mX9_uses 5 0 0 Q 155 [some (.ref (ad (gMo 0))), some (.int x1), some (.int x2), some (.int x3), none, none, none, none] [] (HN h0 ad cs pm) 0 0 := by
  refine rl_aload_n dX9_uses_155 rfl rfl ?_
  refine rt_getP (k := 1) cfX9 dX9_uses_156 flX9_7 (by decide) rfl (lMo0 L) (rMo1 L) naMo ?_
  refine rl_aload_n dX9_uses_159 rfl rfl ?_
  refine rl_iload_n dX9_uses_160 rfl rfl ?_
  exact rl_callV (As := [.int x1]) (rest := [.ref (ad (gMo 1))]) mfX9_mineAt dX9_uses_161 lkX9_56 (lMo0 L).K (by decide) (Nat.le_of_ble_eq_true rfl) (Nat.le_refl _) (Nat.le_refl _) rfl (Nat.le_of_ble_eq_true rfl) rfl rfl (fun Qc k => H Qc (fun v h' w => k (some (.int v)) h' w))
theorem tX9_uses_164 {n : Nat} {ad : Nat → Nat} {h0 : Hp} {cs : Nat → Nat → Int32} {pm : Nat → Nat → Nat} (L : Lay n ad h0) {Q : Nat → Option Value → Hp → Prop} {x1 x2 x3 xs1 : Int32} (H : ((¬ x2 = 0 → (∃ j_2 : Nat, xs1 + (nI 3) = nI j_2 ∧ j_2 < 2400 ∧ (CKv mX9_changed 2 0 0 [some (.ref (ad (gMo 0))), some (.int x1)] (HN h0 ad (up2 cs (gMo 1) j_2 ((cs (gMo 1) j_2) + x3)) pm) (fun h' => Wm mX9_uses 5 0 0 Q 184 [none, none, none, none, none, none, none, none] [] h' 0 0)))) ∧ (x2 = 0 → (∃ j_5 : Nat, xs1 + (nI 2) = nI j_5 ∧ j_5 < 2400 ∧ (CKv mX9_changed 2 0 0 [some (.ref (ad (gMo 0))), some (.int x1)] (HN h0 ad (up2 cs (gMo 1) j_5 ((cs (gMo 1) j_5) + x3)) pm) (fun h' => Wm mX9_uses 5 0 0 Q 184 [none, none, none, none, none, none, none, none] [] h' 0 0)))))) : Wm mX9_uses 5 0 0 Q 164 [some (.ref (ad (gMo 0))), some (.int x1), some (.int x2), some (.int x3), none, none, none, none] [.int xs1, .ref (ad (gMo 1))] (HN h0 ad cs pm) 0 0 := by
  refine rl_iload_n dX9_uses_164 rfl rfl ?_
  refine rl_if_ne (tgt := 172) dX9_uses_165 (by decide) (fun c_1 => ?_) (fun c_1 => ?_)
  · have H := H.1 c_1
    refine rl_iconst (v := nI 3) dX9_uses_172 (by decide) ?_
    refine rl_iadd dX9_uses_173 ?_
    refine rl_dup2 dX9_uses_174 rfl rfl ?_
    obtain ⟨j_2, e_3, b_4, H⟩ := H
    refine rt_iald (j := j_2) dX9_uses_175 (lMo1 L) nzMo e_3 b_4 (by decide) ?_
    refine rl_iload_n dX9_uses_176 rfl rfl ?_
    refine rl_iadd dX9_uses_177 ?_
    refine rt_iast (j := j_2) L.2.1 dX9_uses_178 (lMo1 L) nzMo e_3 b_4 (by decide) ?_
    refine rl_aload_n dX9_uses_179 rfl rfl ?_
    refine rl_iload_n dX9_uses_180 rfl rfl ?_
    exact rl_callV (As := [.int x1]) (rest := []) mfX9_changed dX9_uses_181 lkX9_89 (lMo0 L).K (by decide) (Nat.le_of_ble_eq_true rfl) (Nat.le_refl _) (Nat.le_refl _) rfl (Nat.le_of_ble_eq_true rfl) rfl rfl (fun Qc k => H Qc (fun h' w => k none h' (rl_wk (L' := [none, none, none, none, none, none, none, none]) trivial w)))
  · have H := H.2 c_1
    refine rl_iconst (v := nI 2) dX9_uses_168 (by decide) ?_
    refine rl_goto (tgt := 173) dX9_uses_169 (by decide) ?_
    refine rl_iadd dX9_uses_173 ?_
    refine rl_dup2 dX9_uses_174 rfl rfl ?_
    obtain ⟨j_5, e_6, b_7, H⟩ := H
    refine rt_iald (j := j_5) dX9_uses_175 (lMo1 L) nzMo e_6 b_7 (by decide) ?_
    refine rl_iload_n dX9_uses_176 rfl rfl ?_
    refine rl_iadd dX9_uses_177 ?_
    refine rt_iast (j := j_5) L.2.1 dX9_uses_178 (lMo1 L) nzMo e_6 b_7 (by decide) ?_
    refine rl_aload_n dX9_uses_179 rfl rfl ?_
    refine rl_iload_n dX9_uses_180 rfl rfl ?_
    exact rl_callV (As := [.int x1]) (rest := []) mfX9_changed dX9_uses_181 lkX9_89 (lMo0 L).K (by decide) (Nat.le_of_ble_eq_true rfl) (Nat.le_refl _) (Nat.le_refl _) rfl (Nat.le_of_ble_eq_true rfl) rfl rfl (fun Qc k => H Qc (fun h' w => k none h' (rl_wk (L' := [none, none, none, none, none, none, none, none]) trivial w)))
theorem tX9_uses_184 {n : Nat} {ad : Nat → Nat} {h0 : Hp} {cs : Nat → Nat → Int32} {pm : Nat → Nat → Nat} (L : Lay n ad h0) {Q : Nat → Option Value → Hp → Prop}  (H : Q 0 (some (.int (nI 1))) (HN h0 ad cs pm)) : Wm mX9_uses 5 0 0 Q 184 [none, none, none, none, none, none, none, none] [] (HN h0 ad cs pm) 0 0 := by
  refine rl_iconst (v := nI 1) dX9_uses_184 (by decide) ?_
  exact rl_zret dX9_uses_185 rfl rfl (Nat.le_refl 0) (Nat.le_refl 0) H
theorem tX9_allRights_0 {n : Nat} {ad : Nat → Nat} {h0 : Hp} {cs : Nat → Nat → Int32} {pm : Nat → Nat → Nat} (L : Lay n ad h0) {Q : Nat → Option Value → Hp → Prop} {x1 x2 : Int32} (H : CKi mX9_ownRights 3 0 0 [some (.ref (ad (gMo 0))), some (.int x1), some (.int x2), none, none, none, none, none] (HN h0 ad cs pm) (fun v h' => Wm mX9_allRights 4 0 0 Q 6 [some (.ref (ad (gMo 0))), some (.int x1), some (.int x2)] [.int v] h' 0 0)) : Wm mX9_allRights 4 0 0 Q 0 [some (.ref (ad (gMo 0))), some (.int x1), some (.int x2)] [] (HN h0 ad cs pm) 0 0 := by
  refine rl_aload_n dX9_allRights_0 rfl rfl ?_
  refine rl_iload_n dX9_allRights_1 rfl rfl ?_
  refine rl_iload_n dX9_allRights_2 rfl rfl ?_
  exact rl_callV (As := [.int x1, .int x2]) (rest := []) mfX9_ownRights dX9_allRights_3 lkX9_79 (lMo0 L).K (by decide) (Nat.le_of_ble_eq_true rfl) (Nat.le_refl _) (Nat.le_refl _) rfl (Nat.le_of_ble_eq_true rfl) rfl rfl (fun Qc k => H Qc (fun v h' w => k (some (.int v)) h' w))
theorem tX9_allRights_6 {n : Nat} {ad : Nat → Nat} {h0 : Hp} {cs : Nat → Nat → Int32} {pm : Nat → Nat → Nat} (L : Lay n ad h0) {Q : Nat → Option Value → Hp → Prop} {x1 x2 xs0 : Int32} (H : CKi mX9_lentRights 3 0 0 [some (.ref (ad (gMo 0))), some (.int x1), some (.int x2), none, none] (HN h0 ad cs pm) (fun v h' => Wm mX9_allRights 4 0 0 Q 12 [none, none, none] [.int v, .int xs0] h' 0 0)) : Wm mX9_allRights 4 0 0 Q 6 [some (.ref (ad (gMo 0))), some (.int x1), some (.int x2)] [.int xs0] (HN h0 ad cs pm) 0 0 := by
  refine rl_aload_n dX9_allRights_6 rfl rfl ?_
  refine rl_iload_n dX9_allRights_7 rfl rfl ?_
  refine rl_iload_n dX9_allRights_8 rfl rfl ?_
  exact rl_callV (As := [.int x1, .int x2]) (rest := [.int xs0]) mfX9_lentRights dX9_allRights_9 lkX9_82 (lMo0 L).K (by decide) (Nat.le_of_ble_eq_true rfl) (Nat.le_refl _) (Nat.le_refl _) rfl (Nat.le_of_ble_eq_true rfl) rfl rfl (fun Qc k => H Qc (fun v h' w => k (some (.int v)) h' (rl_wk (L' := [none, none, none]) trivial w)))
theorem tX9_allRights_12 {n : Nat} {ad : Nat → Nat} {h0 : Hp} {cs : Nat → Nat → Int32} {pm : Nat → Nat → Nat} (L : Lay n ad h0) {Q : Nat → Option Value → Hp → Prop} {xs0 xs1 : Int32} (H : Q 0 (some (.int (xs0 + xs1))) (HN h0 ad cs pm)) : Wm mX9_allRights 4 0 0 Q 12 [none, none, none] [.int xs1, .int xs0] (HN h0 ad cs pm) 0 0 := by
  refine rl_iadd dX9_allRights_12 ?_
  exact rl_iret dX9_allRights_13 rfl (Nat.le_refl 0) (Nat.le_refl 0) H
theorem tX9_ownRights_0 {n : Nat} {ad : Nat → Nat} {h0 : Hp} {cs : Nat → Nat → Int32} {pm : Nat → Nat → Nat} (L : Lay n ad h0) {Q : Nat → Option Value → Hp → Prop} {x1 x2 : Int32} (H : CKi mX9_mineAt 1 0 0 [some (.ref (ad (gMo 0))), some (.int x1)] (HN h0 ad cs pm) (fun v h' => Wm mX9_ownRights 3 0 0 Q 5 [some (.ref (ad (gMo 0))), some (.int x1), some (.int x2), none, none, none, none, none] [.int v] h' 0 0)) : Wm mX9_ownRights 3 0 0 Q 0 [some (.ref (ad (gMo 0))), some (.int x1), some (.int x2), none, none, none, none, none] [] (HN h0 ad cs pm) 0 0 := by
  refine rl_aload_n dX9_ownRights_0 rfl rfl ?_
  refine rl_iload_n dX9_ownRights_1 rfl rfl ?_
  exact rl_callV (As := [.int x1]) (rest := []) mfX9_mineAt dX9_ownRights_2 lkX9_56 (lMo0 L).K (by decide) (Nat.le_of_ble_eq_true rfl) (Nat.le_refl _) (Nat.le_refl _) rfl (Nat.le_of_ble_eq_true rfl) rfl rfl (fun Qc k => H Qc (fun v h' w => k (some (.int v)) h' w))
theorem tX9_ownRights_5 {n : Nat} {ad : Nat → Nat} {h0 : Hp} {cs : Nat → Nat → Int32} {pm : Nat → Nat → Nat} (L : Lay n ad h0) {Q : Nat → Option Value → Hp → Prop} {x1 x2 xs0 : Int32} (H : (∃ j_1 : Nat, xs0 + (nI 3) = nI j_1 ∧ j_1 < 2400 ∧ (∃ j_4 : Nat, xs0 + (nI 2) = nI j_4 ∧ j_4 < 2400 ∧ (((¬ x2 = 0 → ((¬ x1 = 0 → Wm mX9_ownRights 3 0 0 Q 81 [some (.ref (ad (gMo 0))), some (.int x1), some (.int x2), some (.int xs0), none, some (.int (-((cs (gMo 1) j_1) - (cs (gMo 1) j_4)))), none, none] [] (HN h0 ad cs pm) 0 0) ∧ (x1 = 0 → ((¬ x2 = 0 → Wm mX9_ownRights 3 0 0 Q 81 [some (.ref (ad (gMo 0))), some (.int x1), some (.int x2), some (.int xs0), none, some (.int ((-((cs (gMo 1) j_1) - (cs (gMo 1) j_4))) + ((cs (gMo 1) 3) - (cs (gMo 1) 1)))), none, none] [] (HN h0 ad cs pm) 0 0) ∧ (x2 = 0 → Wm mX9_ownRights 3 0 0 Q 81 [some (.ref (ad (gMo 0))), some (.int x1), some (.int x2), some (.int xs0), none, some (.int ((-((cs (gMo 1) j_1) - (cs (gMo 1) j_4))) + ((cs (gMo 1) 2) - (cs (gMo 1) 3)))), none, none] [] (HN h0 ad cs pm) 0 0))))) ∧ (x2 = 0 → ((¬ x1 = 0 → Wm mX9_ownRights 3 0 0 Q 81 [some (.ref (ad (gMo 0))), some (.int x1), some (.int x2), some (.int xs0), none, some (.int ((cs (gMo 1) j_1) - (cs (gMo 1) j_4))), none, none] [] (HN h0 ad cs pm) 0 0) ∧ (x1 = 0 → ((¬ x2 = 0 → Wm mX9_ownRights 3 0 0 Q 81 [some (.ref (ad (gMo 0))), some (.int x1), some (.int x2), some (.int xs0), none, some (.int (((cs (gMo 1) j_1) - (cs (gMo 1) j_4)) + ((cs (gMo 1) 3) - (cs (gMo 1) 1)))), none, none] [] (HN h0 ad cs pm) 0 0) ∧ (x2 = 0 → Wm mX9_ownRights 3 0 0 Q 81 [some (.ref (ad (gMo 0))), some (.int x1), some (.int x2), some (.int xs0), none, some (.int (((cs (gMo 1) j_1) - (cs (gMo 1) j_4)) + ((cs (gMo 1) 2) - (cs (gMo 1) 3)))), none, none] [] (HN h0 ad cs pm) 0 0)))))))))) : Wm mX9_ownRights 3 0 0 Q 5 [some (.ref (ad (gMo 0))), some (.int x1), some (.int x2), none, none, none, none, none] [.int xs0] (HN h0 ad cs pm) 0 0 := by
  refine rl_istore_n (L' := [some (.ref (ad (gMo 0))), some (.int x1), some (.int x2), some (.int xs0), none, none, none, none]) dX9_ownRights_5 rfl (Nat.le_of_ble_eq_true rfl) rfl ?_
  refine rl_aload_n dX9_ownRights_6 rfl rfl ?_
  refine rt_getP (k := 1) cfX9 dX9_ownRights_7 flX9_7 (by decide) rfl (lMo0 L) (rMo1 L) naMo ?_
  refine rl_iload_n dX9_ownRights_10 rfl rfl ?_
  refine rl_iconst (v := nI 3) dX9_ownRights_11 (by decide) ?_
  refine rl_iadd dX9_ownRights_12 ?_
  obtain ⟨j_1, e_2, b_3, H⟩ := H
  refine rt_iald (j := j_1) dX9_ownRights_13 (lMo1 L) nzMo e_2 b_3 (by decide) ?_
  refine rl_aload_n dX9_ownRights_14 rfl rfl ?_
  refine rt_getP (k := 1) cfX9 dX9_ownRights_15 flX9_7 (by decide) rfl (lMo0 L) (rMo1 L) naMo ?_
  refine rl_iload_n dX9_ownRights_18 rfl rfl ?_
  refine rl_iconst (v := nI 2) dX9_ownRights_19 (by decide) ?_
  refine rl_iadd dX9_ownRights_20 ?_
  obtain ⟨j_4, e_5, b_6, H⟩ := H
  refine rt_iald (j := j_4) dX9_ownRights_21 (lMo1 L) nzMo e_5 b_6 (by decide) ?_
  refine rl_isub dX9_ownRights_22 ?_
  refine rl_istore (L' := [some (.ref (ad (gMo 0))), some (.int x1), some (.int x2), some (.int xs0), some (.int ((cs (gMo 1) j_1) - (cs (gMo 1) j_4))), none, none, none]) dX9_ownRights_23 (Nat.le_of_ble_eq_true rfl) rfl ?_
  refine rl_iload_n dX9_ownRights_25 rfl rfl ?_
  refine rl_if_ne (tgt := 34) dX9_ownRights_26 (by decide) (fun c_7 => ?_) (fun c_7 => ?_)
  · have H := H.1 c_7
    refine rl_iload dX9_ownRights_34 rfl ?_
    refine rl_ineg dX9_ownRights_36 ?_
    refine rl_istore (L' := [some (.ref (ad (gMo 0))), some (.int x1), some (.int x2), some (.int xs0), some (.int ((cs (gMo 1) j_1) - (cs (gMo 1) j_4))), some (.int (-((cs (gMo 1) j_1) - (cs (gMo 1) j_4)))), none, none]) dX9_ownRights_37 (Nat.le_of_ble_eq_true rfl) rfl ?_
    refine rl_iload_n dX9_ownRights_39 rfl rfl ?_
    refine rl_if_ne (tgt := 81) dX9_ownRights_40 (by decide) (fun c_8 => ?_) (fun c_8 => ?_)
    · have H := H.1 c_8
      refine rl_wk (L' := [some (.ref (ad (gMo 0))), some (.int x1), some (.int x2), some (.int xs0), none, some (.int (-((cs (gMo 1) j_1) - (cs (gMo 1) j_4)))), none, none]) ⟨rfl, ⟨rfl, ⟨rfl, ⟨rfl, ⟨rfl, trivial⟩⟩⟩⟩⟩ ?_
      exact H
    · have H := H.2 c_8
      refine rl_iload dX9_ownRights_43 rfl ?_
      refine rl_iload_n dX9_ownRights_45 rfl rfl ?_
      refine rl_if_ne (tgt := 65) dX9_ownRights_46 (by decide) (fun c_9 => ?_) (fun c_9 => ?_)
      · have H := H.1 c_9
        refine rl_aload_n dX9_ownRights_65 rfl rfl ?_
        refine rt_getP (k := 1) cfX9 dX9_ownRights_66 flX9_7 (by decide) rfl (lMo0 L) (rMo1 L) naMo ?_
        refine rl_iconst (v := nI 3) dX9_ownRights_69 (by decide) ?_
        refine rt_iald (j := 3) dX9_ownRights_70 (lMo1 L) nzMo rfl (by decide) (by decide) ?_
        refine rl_aload_n dX9_ownRights_71 rfl rfl ?_
        refine rt_getP (k := 1) cfX9 dX9_ownRights_72 flX9_7 (by decide) rfl (lMo0 L) (rMo1 L) naMo ?_
        refine rl_iconst (v := nI 1) dX9_ownRights_75 (by decide) ?_
        refine rt_iald (j := 1) dX9_ownRights_76 (lMo1 L) nzMo rfl (by decide) (by decide) ?_
        refine rl_isub dX9_ownRights_77 ?_
        refine rl_iadd dX9_ownRights_78 ?_
        refine rl_istore (L' := [some (.ref (ad (gMo 0))), some (.int x1), some (.int x2), some (.int xs0), some (.int ((cs (gMo 1) j_1) - (cs (gMo 1) j_4))), some (.int ((-((cs (gMo 1) j_1) - (cs (gMo 1) j_4))) + ((cs (gMo 1) 3) - (cs (gMo 1) 1)))), none, none]) dX9_ownRights_79 (Nat.le_of_ble_eq_true rfl) rfl ?_
        refine rl_wk (L' := [some (.ref (ad (gMo 0))), some (.int x1), some (.int x2), some (.int xs0), none, some (.int ((-((cs (gMo 1) j_1) - (cs (gMo 1) j_4))) + ((cs (gMo 1) 3) - (cs (gMo 1) 1)))), none, none]) ⟨rfl, ⟨rfl, ⟨rfl, ⟨rfl, ⟨rfl, trivial⟩⟩⟩⟩⟩ ?_
        exact H
      · have H := H.2 c_9
        refine rl_aload_n dX9_ownRights_49 rfl rfl ?_
        refine rt_getP (k := 1) cfX9 dX9_ownRights_50 flX9_7 (by decide) rfl (lMo0 L) (rMo1 L) naMo ?_
        refine rl_iconst (v := nI 2) dX9_ownRights_53 (by decide) ?_
        refine rt_iald (j := 2) dX9_ownRights_54 (lMo1 L) nzMo rfl (by decide) (by decide) ?_
        refine rl_aload_n dX9_ownRights_55 rfl rfl ?_
        refine rt_getP (k := 1) cfX9 dX9_ownRights_56 flX9_7 (by decide) rfl (lMo0 L) (rMo1 L) naMo ?_
        refine rl_iconst (v := nI 3) dX9_ownRights_59 (by decide) ?_
        refine rt_iald (j := 3) dX9_ownRights_60 (lMo1 L) nzMo rfl (by decide) (by decide) ?_
        refine rl_isub dX9_ownRights_61 ?_
        refine rl_goto (tgt := 78) dX9_ownRights_62 (by decide) ?_
        refine rl_iadd dX9_ownRights_78 ?_
        refine rl_istore (L' := [some (.ref (ad (gMo 0))), some (.int x1), some (.int x2), some (.int xs0), some (.int ((cs (gMo 1) j_1) - (cs (gMo 1) j_4))), some (.int ((-((cs (gMo 1) j_1) - (cs (gMo 1) j_4))) + ((cs (gMo 1) 2) - (cs (gMo 1) 3)))), none, none]) dX9_ownRights_79 (Nat.le_of_ble_eq_true rfl) rfl ?_
        refine rl_wk (L' := [some (.ref (ad (gMo 0))), some (.int x1), some (.int x2), some (.int xs0), none, some (.int ((-((cs (gMo 1) j_1) - (cs (gMo 1) j_4))) + ((cs (gMo 1) 2) - (cs (gMo 1) 3)))), none, none]) ⟨rfl, ⟨rfl, ⟨rfl, ⟨rfl, ⟨rfl, trivial⟩⟩⟩⟩⟩ ?_
        exact H
  · have H := H.2 c_7
    refine rl_iload dX9_ownRights_29 rfl ?_
    refine rl_goto (tgt := 37) dX9_ownRights_31 (by decide) ?_
    refine rl_istore (L' := [some (.ref (ad (gMo 0))), some (.int x1), some (.int x2), some (.int xs0), some (.int ((cs (gMo 1) j_1) - (cs (gMo 1) j_4))), some (.int ((cs (gMo 1) j_1) - (cs (gMo 1) j_4))), none, none]) dX9_ownRights_37 (Nat.le_of_ble_eq_true rfl) rfl ?_
    refine rl_iload_n dX9_ownRights_39 rfl rfl ?_
    refine rl_if_ne (tgt := 81) dX9_ownRights_40 (by decide) (fun c_10 => ?_) (fun c_10 => ?_)
    · have H := H.1 c_10
      refine rl_wk (L' := [some (.ref (ad (gMo 0))), some (.int x1), some (.int x2), some (.int xs0), none, some (.int ((cs (gMo 1) j_1) - (cs (gMo 1) j_4))), none, none]) ⟨rfl, ⟨rfl, ⟨rfl, ⟨rfl, ⟨rfl, trivial⟩⟩⟩⟩⟩ ?_
      exact H
    · have H := H.2 c_10
      refine rl_iload dX9_ownRights_43 rfl ?_
      refine rl_iload_n dX9_ownRights_45 rfl rfl ?_
      refine rl_if_ne (tgt := 65) dX9_ownRights_46 (by decide) (fun c_11 => ?_) (fun c_11 => ?_)
      · have H := H.1 c_11
        refine rl_aload_n dX9_ownRights_65 rfl rfl ?_
        refine rt_getP (k := 1) cfX9 dX9_ownRights_66 flX9_7 (by decide) rfl (lMo0 L) (rMo1 L) naMo ?_
        refine rl_iconst (v := nI 3) dX9_ownRights_69 (by decide) ?_
        refine rt_iald (j := 3) dX9_ownRights_70 (lMo1 L) nzMo rfl (by decide) (by decide) ?_
        refine rl_aload_n dX9_ownRights_71 rfl rfl ?_
        refine rt_getP (k := 1) cfX9 dX9_ownRights_72 flX9_7 (by decide) rfl (lMo0 L) (rMo1 L) naMo ?_
        refine rl_iconst (v := nI 1) dX9_ownRights_75 (by decide) ?_
        refine rt_iald (j := 1) dX9_ownRights_76 (lMo1 L) nzMo rfl (by decide) (by decide) ?_
        refine rl_isub dX9_ownRights_77 ?_
        refine rl_iadd dX9_ownRights_78 ?_
        refine rl_istore (L' := [some (.ref (ad (gMo 0))), some (.int x1), some (.int x2), some (.int xs0), some (.int ((cs (gMo 1) j_1) - (cs (gMo 1) j_4))), some (.int (((cs (gMo 1) j_1) - (cs (gMo 1) j_4)) + ((cs (gMo 1) 3) - (cs (gMo 1) 1)))), none, none]) dX9_ownRights_79 (Nat.le_of_ble_eq_true rfl) rfl ?_
        refine rl_wk (L' := [some (.ref (ad (gMo 0))), some (.int x1), some (.int x2), some (.int xs0), none, some (.int (((cs (gMo 1) j_1) - (cs (gMo 1) j_4)) + ((cs (gMo 1) 3) - (cs (gMo 1) 1)))), none, none]) ⟨rfl, ⟨rfl, ⟨rfl, ⟨rfl, ⟨rfl, trivial⟩⟩⟩⟩⟩ ?_
        exact H
      · have H := H.2 c_11
        refine rl_aload_n dX9_ownRights_49 rfl rfl ?_
        refine rt_getP (k := 1) cfX9 dX9_ownRights_50 flX9_7 (by decide) rfl (lMo0 L) (rMo1 L) naMo ?_
        refine rl_iconst (v := nI 2) dX9_ownRights_53 (by decide) ?_
        refine rt_iald (j := 2) dX9_ownRights_54 (lMo1 L) nzMo rfl (by decide) (by decide) ?_
        refine rl_aload_n dX9_ownRights_55 rfl rfl ?_
        refine rt_getP (k := 1) cfX9 dX9_ownRights_56 flX9_7 (by decide) rfl (lMo0 L) (rMo1 L) naMo ?_
        refine rl_iconst (v := nI 3) dX9_ownRights_59 (by decide) ?_
        refine rt_iald (j := 3) dX9_ownRights_60 (lMo1 L) nzMo rfl (by decide) (by decide) ?_
        refine rl_isub dX9_ownRights_61 ?_
        refine rl_goto (tgt := 78) dX9_ownRights_62 (by decide) ?_
        refine rl_iadd dX9_ownRights_78 ?_
        refine rl_istore (L' := [some (.ref (ad (gMo 0))), some (.int x1), some (.int x2), some (.int xs0), some (.int ((cs (gMo 1) j_1) - (cs (gMo 1) j_4))), some (.int (((cs (gMo 1) j_1) - (cs (gMo 1) j_4)) + ((cs (gMo 1) 2) - (cs (gMo 1) 3)))), none, none]) dX9_ownRights_79 (Nat.le_of_ble_eq_true rfl) rfl ?_
        refine rl_wk (L' := [some (.ref (ad (gMo 0))), some (.int x1), some (.int x2), some (.int xs0), none, some (.int (((cs (gMo 1) j_1) - (cs (gMo 1) j_4)) + ((cs (gMo 1) 2) - (cs (gMo 1) 3)))), none, none]) ⟨rfl, ⟨rfl, ⟨rfl, ⟨rfl, ⟨rfl, trivial⟩⟩⟩⟩⟩ ?_
        exact H
theorem tX9_ownRights_81 {n : Nat} {ad : Nat → Nat} {h0 : Hp} {cs : Nat → Nat → Int32} {pm : Nat → Nat → Nat} (L : Lay n ad h0) {Q : Nat → Option Value → Hp → Prop} {x1 x2 x3 x5 : Int32} (H : Wm mX9_ownRights 3 0 0 Q 84 [some (.ref (ad (gMo 0))), some (.int x1), some (.int x2), some (.int x3), none, some (.int x5), some (.int (nI 0)), none] [] (HN h0 ad cs pm) 0 0) : Wm mX9_ownRights 3 0 0 Q 81 [some (.ref (ad (gMo 0))), some (.int x1), some (.int x2), some (.int x3), none, some (.int x5), none, none] [] (HN h0 ad cs pm) 0 0 := by
  refine rl_iconst (v := nI 0) dX9_ownRights_81 (by decide) ?_
  refine rl_istore (L' := [some (.ref (ad (gMo 0))), some (.int x1), some (.int x2), some (.int x3), none, some (.int x5), some (.int (nI 0)), none]) dX9_ownRights_82 (Nat.le_of_ble_eq_true rfl) rfl ?_
  exact H
theorem tX9_ownRights_84 {n : Nat} {ad : Nat → Nat} {h0 : Hp} {cs : Nat → Nat → Int32} {pm : Nat → Nat → Nat} (L : Lay n ad h0) {Q : Nat → Option Value → Hp → Prop} {x1 x2 x3 x5 x6 : Int32} (H : (((cs (gMo 0) 0) ≤ x6 → Wm mX9_ownRights 3 0 0 Q 148 [some (.ref (ad (gMo 0))), some (.int x1), some (.int x2), some (.int x3), none, some (.int x5), some (.int (nI 0)), none] [] (HN h0 ad cs pm) 0 0) ∧ (¬ (cs (gMo 0) 0) ≤ x6 → ((x6 = x1 → Wm mX9_ownRights 3 0 0 Q 139 [some (.ref (ad (gMo 0))), some (.int x1), some (.int x2), some (.int x3), none, some (.int x5), some (.int x6), none] [] (HN h0 ad cs pm) 0 0) ∧ (¬ x6 = x1 → CKi mX9_record 0 0 0 [some (.int x1), some (.int x6)] (HN h0 ad cs pm) (fun v h' => Wm mX9_ownRights 3 0 0 Q 111 [some (.ref (ad (gMo 0))), some (.int x1), some (.int x2), some (.int x3), none, none, some (.int x6), none] [.int v, .ref (ad (gMo 1)), .int x5] h' 0 0)))))) : Wm mX9_ownRights 3 0 0 Q 84 [some (.ref (ad (gMo 0))), some (.int x1), some (.int x2), some (.int x3), none, some (.int x5), some (.int x6), none] [] (HN h0 ad cs pm) 0 0 := by
  refine rl_iload dX9_ownRights_84 rfl ?_
  refine rl_aload_n dX9_ownRights_86 rfl rfl ?_
  refine rt_getI (k := 0) cfX9 dX9_ownRights_87 flX9_34 (by decide) rfl (lMo0 L) nzMo ?_
  refine rl_icmp_ge (tgt := 145) dX9_ownRights_90 (by decide) (fun c_1 => ?_) (fun c_1 => ?_)
  · have H := H.1 c_1
    refine rl_iconst (v := nI 0) dX9_ownRights_145 (by decide) ?_
    refine rl_istore (L' := [some (.ref (ad (gMo 0))), some (.int x1), some (.int x2), some (.int x3), none, some (.int x5), some (.int (nI 0)), none]) dX9_ownRights_146 (Nat.le_of_ble_eq_true rfl) rfl ?_
    exact H
  · have H := H.2 c_1
    refine rl_iload dX9_ownRights_93 rfl ?_
    refine rl_iload_n dX9_ownRights_95 rfl rfl ?_
    refine rl_icmp_eq (tgt := 139) dX9_ownRights_96 (by decide) (fun c_2 => ?_) (fun c_2 => ?_)
    · have H := H.1 c_2
      exact H
    · have H := H.2 c_2
      refine rl_iload dX9_ownRights_99 rfl ?_
      refine rl_aload_n dX9_ownRights_101 rfl rfl ?_
      refine rt_getP (k := 1) cfX9 dX9_ownRights_102 flX9_7 (by decide) rfl (lMo0 L) (rMo1 L) naMo ?_
      refine rl_iload_n dX9_ownRights_105 rfl rfl ?_
      refine rl_iload dX9_ownRights_106 rfl ?_
      exact rl_callS (As := [.int x1, .int x6]) (rest := [.ref (ad (gMo 1)), .int x5]) mfX9_record dX9_ownRights_108 lkX9_52 (by decide) (Nat.le_of_ble_eq_true rfl) (Nat.le_refl _) (Nat.le_refl _) rfl (Nat.le_of_ble_eq_true rfl) rfl rfl (fun Qc k => H Qc (fun v h' w => k (some (.int v)) h' (rl_wk (L' := [some (.ref (ad (gMo 0))), some (.int x1), some (.int x2), some (.int x3), none, none, some (.int x6), none]) ⟨rfl, ⟨rfl, ⟨rfl, ⟨rfl, ⟨rfl, trivial⟩⟩⟩⟩⟩ w)))
theorem tX9_ownRights_111 {n : Nat} {ad : Nat → Nat} {h0 : Hp} {cs : Nat → Nat → Int32} {pm : Nat → Nat → Nat} (L : Lay n ad h0) {Q : Nat → Option Value → Hp → Prop} {x1 x2 x3 x6 xs0 xs2 : Int32} (H : (∃ j_1 : Nat, ((xs2 + (nI 4)) + ((nI 5) * x2)) + x1 = nI j_1 ∧ j_1 < 2400 ∧ (∃ j_4 : Nat, ((x3 + (nI 4)) + ((nI 5) * x2)) + x6 = nI j_4 ∧ j_4 < 2400 ∧ (Wm mX9_ownRights 3 0 0 Q 139 [some (.ref (ad (gMo 0))), some (.int x1), some (.int x2), some (.int x3), none, some (.int (xs0 + ((cs (gMo 1) j_1) - (cs (gMo 1) j_4)))), some (.int x6), none] [] (HN h0 ad cs pm) 0 0)))) : Wm mX9_ownRights 3 0 0 Q 111 [some (.ref (ad (gMo 0))), some (.int x1), some (.int x2), some (.int x3), none, none, some (.int x6), none] [.int xs2, .ref (ad (gMo 1)), .int xs0] (HN h0 ad cs pm) 0 0 := by
  refine rl_iconst (v := nI 4) dX9_ownRights_111 (by decide) ?_
  refine rl_iadd dX9_ownRights_112 ?_
  refine rl_iconst (v := nI 5) dX9_ownRights_113 (by decide) ?_
  refine rl_iload_n dX9_ownRights_114 rfl rfl ?_
  refine rl_imul dX9_ownRights_115 ?_
  refine rl_iadd dX9_ownRights_116 ?_
  refine rl_iload_n dX9_ownRights_117 rfl rfl ?_
  refine rl_iadd dX9_ownRights_118 ?_
  obtain ⟨j_1, e_2, b_3, H⟩ := H
  refine rt_iald (j := j_1) dX9_ownRights_119 (lMo1 L) nzMo e_2 b_3 (by decide) ?_
  refine rl_aload_n dX9_ownRights_120 rfl rfl ?_
  refine rt_getP (k := 1) cfX9 dX9_ownRights_121 flX9_7 (by decide) rfl (lMo0 L) (rMo1 L) naMo ?_
  refine rl_iload_n dX9_ownRights_124 rfl rfl ?_
  refine rl_iconst (v := nI 4) dX9_ownRights_125 (by decide) ?_
  refine rl_iadd dX9_ownRights_126 ?_
  refine rl_iconst (v := nI 5) dX9_ownRights_127 (by decide) ?_
  refine rl_iload_n dX9_ownRights_128 rfl rfl ?_
  refine rl_imul dX9_ownRights_129 ?_
  refine rl_iadd dX9_ownRights_130 ?_
  refine rl_iload dX9_ownRights_131 rfl ?_
  refine rl_iadd dX9_ownRights_133 ?_
  obtain ⟨j_4, e_5, b_6, H⟩ := H
  refine rt_iald (j := j_4) dX9_ownRights_134 (lMo1 L) nzMo e_5 b_6 (by decide) ?_
  refine rl_isub dX9_ownRights_135 ?_
  refine rl_iadd dX9_ownRights_136 ?_
  refine rl_istore (L' := [some (.ref (ad (gMo 0))), some (.int x1), some (.int x2), some (.int x3), none, some (.int (xs0 + ((cs (gMo 1) j_1) - (cs (gMo 1) j_4)))), some (.int x6), none]) dX9_ownRights_137 (Nat.le_of_ble_eq_true rfl) rfl ?_
  exact H
theorem tX9_ownRights_139 {n : Nat} {ad : Nat → Nat} {h0 : Hp} {cs : Nat → Nat → Int32} {pm : Nat → Nat → Nat} (L : Lay n ad h0) {Q : Nat → Option Value → Hp → Prop} {x1 x2 x3 x5 x6 : Int32} (H : Wm mX9_ownRights 3 0 0 Q 84 [some (.ref (ad (gMo 0))), some (.int x1), some (.int x2), some (.int x3), none, some (.int x5), some (.int (x6 + nI 1)), none] [] (HN h0 ad cs pm) 0 0) : Wm mX9_ownRights 3 0 0 Q 139 [some (.ref (ad (gMo 0))), some (.int x1), some (.int x2), some (.int x3), none, some (.int x5), some (.int x6), none] [] (HN h0 ad cs pm) 0 0 := by
  refine rl_iinc (v := x6 + nI 1) (L' := [some (.ref (ad (gMo 0))), some (.int x1), some (.int x2), some (.int x3), none, some (.int x5), some (.int (x6 + nI 1)), none]) dX9_ownRights_139 rfl (congrArg (fun z => x6 + z) (by decide)) (Nat.le_of_ble_eq_true rfl) rfl ?_
  refine rl_goto (tgt := 84) dX9_ownRights_142 (by decide) ?_
  exact H
theorem tX9_ownRights_148 {n : Nat} {ad : Nat → Nat} {h0 : Hp} {cs : Nat → Nat → Int32} {pm : Nat → Nat → Nat} (L : Lay n ad h0) {Q : Nat → Option Value → Hp → Prop} {x1 x2 x3 x5 x6 : Int32} (H : (((cs (gMo 1) 4) ≤ x6 → Q 0 (some (.int x5)) (HN h0 ad cs pm)) ∧ (¬ (cs (gMo 1) 4) ≤ x6 → CKi mX9_loanAt 0 0 0 [some (.int x6)] (HN h0 ad cs pm) (fun v h' => Wm mX9_ownRights 3 0 0 Q 164 [some (.ref (ad (gMo 0))), some (.int x1), some (.int x2), some (.int x3), none, some (.int x5), some (.int x6), none] [.int v] h' 0 0)))) : Wm mX9_ownRights 3 0 0 Q 148 [some (.ref (ad (gMo 0))), some (.int x1), some (.int x2), some (.int x3), none, some (.int x5), some (.int x6), none] [] (HN h0 ad cs pm) 0 0 := by
  refine rl_iload dX9_ownRights_148 rfl ?_
  refine rl_aload_n dX9_ownRights_150 rfl rfl ?_
  refine rt_getP (k := 1) cfX9 dX9_ownRights_151 flX9_7 (by decide) rfl (lMo0 L) (rMo1 L) naMo ?_
  refine rl_iconst (v := nI 4) dX9_ownRights_154 (by decide) ?_
  refine rt_iald (j := 4) dX9_ownRights_155 (lMo1 L) nzMo rfl (by decide) (by decide) ?_
  refine rl_icmp_ge (tgt := 267) dX9_ownRights_156 (by decide) (fun c_1 => ?_) (fun c_1 => ?_)
  · have H := H.1 c_1
    refine rl_iload dX9_ownRights_267 rfl ?_
    exact rl_iret dX9_ownRights_269 rfl (Nat.le_refl 0) (Nat.le_refl 0) H
  · have H := H.2 c_1
    refine rl_iload dX9_ownRights_159 rfl ?_
    exact rl_callS (As := [.int x6]) (rest := []) mfX9_loanAt dX9_ownRights_161 lkX9_60 (by decide) (Nat.le_of_ble_eq_true rfl) (Nat.le_refl _) (Nat.le_refl _) rfl (Nat.le_of_ble_eq_true rfl) rfl rfl (fun Qc k => H Qc (fun v h' w => k (some (.int v)) h' w))
theorem tX9_ownRights_164 {n : Nat} {ad : Nat → Nat} {h0 : Hp} {cs : Nat → Nat → Int32} {pm : Nat → Nat → Nat} (L : Lay n ad h0) {Q : Nat → Option Value → Hp → Prop} {x1 x2 x3 x5 x6 xs0 : Int32} (H : (∃ j_1 : Nat, xs0 + (nI 2) = nI j_1 ∧ j_1 < 2400 ∧ (((¬ (cs (gMo 1) j_1) = x2 → Wm mX9_ownRights 3 0 0 Q 261 [some (.ref (ad (gMo 0))), some (.int x1), some (.int x2), some (.int x3), none, some (.int x5), some (.int x6), none] [] (HN h0 ad cs pm) 0 0) ∧ ((cs (gMo 1) j_1) = x2 → (∃ j_5 : Nat, xs0 + (nI 1) = nI j_5 ∧ j_5 < 2400 ∧ (((¬ (cs (gMo 1) j_5) = x1 → (∃ j_9 : Nat, xs0 = nI j_9 ∧ j_9 < 2400 ∧ (((¬ (cs (gMo 1) j_9) = x1 → Wm mX9_ownRights 3 0 0 Q 261 [some (.ref (ad (gMo 0))), some (.int x1), some (.int x2), some (.int x3), none, some (.int ((x5 + (nI 0)) - (nI 0))), some (.int x6), none] [] (HN h0 ad cs pm) 0 0) ∧ ((cs (gMo 1) j_9) = x1 → CKi mX9_isBack 2 0 0 [some (.ref (ad (gMo 0))), some (.int x6), none] (HN h0 ad cs pm) (fun v h' => Wm mX9_ownRights 3 0 0 Q 232 [some (.ref (ad (gMo 0))), some (.int x1), some (.int x2), some (.int x3), none, none, some (.int x6), some (.int xs0)] [.int v, .int (x5 + (nI 0))] h' 0 0)))))) ∧ ((cs (gMo 1) j_5) = x1 → (∃ j_13 : Nat, (x3 + (nI 17)) + x6 = nI j_13 ∧ j_13 < 2400 ∧ (∃ j_16 : Nat, xs0 = nI j_16 ∧ j_16 < 2400 ∧ (((¬ (cs (gMo 1) j_16) = x1 → Wm mX9_ownRights 3 0 0 Q 261 [some (.ref (ad (gMo 0))), some (.int x1), some (.int x2), some (.int x3), none, some (.int ((x5 + (cs (gMo 1) j_13)) - (nI 0))), some (.int x6), none] [] (HN h0 ad cs pm) 0 0) ∧ ((cs (gMo 1) j_16) = x1 → CKi mX9_isBack 2 0 0 [some (.ref (ad (gMo 0))), some (.int x6), none] (HN h0 ad cs pm) (fun v h' => Wm mX9_ownRights 3 0 0 Q 232 [some (.ref (ad (gMo 0))), some (.int x1), some (.int x2), some (.int x3), none, none, some (.int x6), some (.int xs0)] [.int v, .int (x5 + (cs (gMo 1) j_13))] h' 0 0))))))))))))))) : Wm mX9_ownRights 3 0 0 Q 164 [some (.ref (ad (gMo 0))), some (.int x1), some (.int x2), some (.int x3), none, some (.int x5), some (.int x6), none] [.int xs0] (HN h0 ad cs pm) 0 0 := by
  refine rl_istore (L' := [some (.ref (ad (gMo 0))), some (.int x1), some (.int x2), some (.int x3), none, some (.int x5), some (.int x6), some (.int xs0)]) dX9_ownRights_164 (Nat.le_of_ble_eq_true rfl) rfl ?_
  refine rl_aload_n dX9_ownRights_166 rfl rfl ?_
  refine rt_getP (k := 1) cfX9 dX9_ownRights_167 flX9_7 (by decide) rfl (lMo0 L) (rMo1 L) naMo ?_
  refine rl_iload dX9_ownRights_170 rfl ?_
  refine rl_iconst (v := nI 2) dX9_ownRights_172 (by decide) ?_
  refine rl_iadd dX9_ownRights_173 ?_
  obtain ⟨j_1, e_2, b_3, H⟩ := H
  refine rt_iald (j := j_1) dX9_ownRights_174 (lMo1 L) nzMo e_2 b_3 (by decide) ?_
  refine rl_iload_n dX9_ownRights_175 rfl rfl ?_
  refine rl_icmp_ne (tgt := 261) dX9_ownRights_176 (by decide) (fun c_4 => ?_) (fun c_4 => ?_)
  · have H := H.1 c_4
    refine rl_wk (L' := [some (.ref (ad (gMo 0))), some (.int x1), some (.int x2), some (.int x3), none, some (.int x5), some (.int x6), none]) ⟨rfl, ⟨rfl, ⟨rfl, ⟨rfl, ⟨rfl, ⟨rfl, trivial⟩⟩⟩⟩⟩⟩ ?_
    exact H
  · have H := H.2 c_4
    refine rl_iload dX9_ownRights_179 rfl ?_
    refine rl_aload_n dX9_ownRights_181 rfl rfl ?_
    refine rt_getP (k := 1) cfX9 dX9_ownRights_182 flX9_7 (by decide) rfl (lMo0 L) (rMo1 L) naMo ?_
    refine rl_iload dX9_ownRights_185 rfl ?_
    refine rl_iconst (v := nI 1) dX9_ownRights_187 (by decide) ?_
    refine rl_iadd dX9_ownRights_188 ?_
    obtain ⟨j_5, e_6, b_7, H⟩ := H
    refine rt_iald (j := j_5) dX9_ownRights_189 (lMo1 L) nzMo e_6 b_7 (by decide) ?_
    refine rl_iload_n dX9_ownRights_190 rfl rfl ?_
    refine rl_icmp_ne (tgt := 209) dX9_ownRights_191 (by decide) (fun c_8 => ?_) (fun c_8 => ?_)
    · have H := H.1 c_8
      refine rl_iconst (v := nI 0) dX9_ownRights_209 (by decide) ?_
      refine rl_iadd dX9_ownRights_210 ?_
      refine rl_istore (L' := [some (.ref (ad (gMo 0))), some (.int x1), some (.int x2), some (.int x3), none, some (.int (x5 + (nI 0))), some (.int x6), some (.int xs0)]) dX9_ownRights_211 (Nat.le_of_ble_eq_true rfl) rfl ?_
      refine rl_iload dX9_ownRights_213 rfl ?_
      refine rl_aload_n dX9_ownRights_215 rfl rfl ?_
      refine rt_getP (k := 1) cfX9 dX9_ownRights_216 flX9_7 (by decide) rfl (lMo0 L) (rMo1 L) naMo ?_
      refine rl_iload dX9_ownRights_219 rfl ?_
      obtain ⟨j_9, e_10, b_11, H⟩ := H
      refine rt_iald (j := j_9) dX9_ownRights_221 (lMo1 L) nzMo e_10 b_11 (by decide) ?_
      refine rl_iload_n dX9_ownRights_222 rfl rfl ?_
      refine rl_icmp_ne (tgt := 257) dX9_ownRights_223 (by decide) (fun c_12 => ?_) (fun c_12 => ?_)
      · have H := H.1 c_12
        refine rl_iconst (v := nI 0) dX9_ownRights_257 (by decide) ?_
        refine rl_isub dX9_ownRights_258 ?_
        refine rl_istore (L' := [some (.ref (ad (gMo 0))), some (.int x1), some (.int x2), some (.int x3), none, some (.int ((x5 + (nI 0)) - (nI 0))), some (.int x6), some (.int xs0)]) dX9_ownRights_259 (Nat.le_of_ble_eq_true rfl) rfl ?_
        refine rl_wk (L' := [some (.ref (ad (gMo 0))), some (.int x1), some (.int x2), some (.int x3), none, some (.int ((x5 + (nI 0)) - (nI 0))), some (.int x6), none]) ⟨rfl, ⟨rfl, ⟨rfl, ⟨rfl, ⟨rfl, ⟨rfl, trivial⟩⟩⟩⟩⟩⟩ ?_
        exact H
      · have H := H.2 c_12
        refine rl_aload_n dX9_ownRights_226 rfl rfl ?_
        refine rl_iload dX9_ownRights_227 rfl ?_
        exact rl_callV (As := [.int x6]) (rest := [.int (x5 + (nI 0))]) mfX9_isBack dX9_ownRights_229 lkX9_73 (lMo0 L).K (by decide) (Nat.le_of_ble_eq_true rfl) (Nat.le_refl _) (Nat.le_refl _) rfl (Nat.le_of_ble_eq_true rfl) rfl rfl (fun Qc k => H Qc (fun v h' w => k (some (.int v)) h' (rl_wk (L' := [some (.ref (ad (gMo 0))), some (.int x1), some (.int x2), some (.int x3), none, none, some (.int x6), some (.int xs0)]) ⟨rfl, ⟨rfl, ⟨rfl, ⟨rfl, ⟨rfl, ⟨rfl, trivial⟩⟩⟩⟩⟩⟩ w)))
    · have H := H.2 c_8
      refine rl_aload_n dX9_ownRights_194 rfl rfl ?_
      refine rt_getP (k := 1) cfX9 dX9_ownRights_195 flX9_7 (by decide) rfl (lMo0 L) (rMo1 L) naMo ?_
      refine rl_iload_n dX9_ownRights_198 rfl rfl ?_
      refine rl_bipush (v := nI 17) dX9_ownRights_199 (by decide) ?_
      refine rl_iadd dX9_ownRights_201 ?_
      refine rl_iload dX9_ownRights_202 rfl ?_
      refine rl_iadd dX9_ownRights_204 ?_
      obtain ⟨j_13, e_14, b_15, H⟩ := H
      refine rt_iald (j := j_13) dX9_ownRights_205 (lMo1 L) nzMo e_14 b_15 (by decide) ?_
      refine rl_goto (tgt := 210) dX9_ownRights_206 (by decide) ?_
      refine rl_iadd dX9_ownRights_210 ?_
      refine rl_istore (L' := [some (.ref (ad (gMo 0))), some (.int x1), some (.int x2), some (.int x3), none, some (.int (x5 + (cs (gMo 1) j_13))), some (.int x6), some (.int xs0)]) dX9_ownRights_211 (Nat.le_of_ble_eq_true rfl) rfl ?_
      refine rl_iload dX9_ownRights_213 rfl ?_
      refine rl_aload_n dX9_ownRights_215 rfl rfl ?_
      refine rt_getP (k := 1) cfX9 dX9_ownRights_216 flX9_7 (by decide) rfl (lMo0 L) (rMo1 L) naMo ?_
      refine rl_iload dX9_ownRights_219 rfl ?_
      obtain ⟨j_16, e_17, b_18, H⟩ := H
      refine rt_iald (j := j_16) dX9_ownRights_221 (lMo1 L) nzMo e_17 b_18 (by decide) ?_
      refine rl_iload_n dX9_ownRights_222 rfl rfl ?_
      refine rl_icmp_ne (tgt := 257) dX9_ownRights_223 (by decide) (fun c_19 => ?_) (fun c_19 => ?_)
      · have H := H.1 c_19
        refine rl_iconst (v := nI 0) dX9_ownRights_257 (by decide) ?_
        refine rl_isub dX9_ownRights_258 ?_
        refine rl_istore (L' := [some (.ref (ad (gMo 0))), some (.int x1), some (.int x2), some (.int x3), none, some (.int ((x5 + (cs (gMo 1) j_13)) - (nI 0))), some (.int x6), some (.int xs0)]) dX9_ownRights_259 (Nat.le_of_ble_eq_true rfl) rfl ?_
        refine rl_wk (L' := [some (.ref (ad (gMo 0))), some (.int x1), some (.int x2), some (.int x3), none, some (.int ((x5 + (cs (gMo 1) j_13)) - (nI 0))), some (.int x6), none]) ⟨rfl, ⟨rfl, ⟨rfl, ⟨rfl, ⟨rfl, ⟨rfl, trivial⟩⟩⟩⟩⟩⟩ ?_
        exact H
      · have H := H.2 c_19
        refine rl_aload_n dX9_ownRights_226 rfl rfl ?_
        refine rl_iload dX9_ownRights_227 rfl ?_
        exact rl_callV (As := [.int x6]) (rest := [.int (x5 + (cs (gMo 1) j_13))]) mfX9_isBack dX9_ownRights_229 lkX9_73 (lMo0 L).K (by decide) (Nat.le_of_ble_eq_true rfl) (Nat.le_refl _) (Nat.le_refl _) rfl (Nat.le_of_ble_eq_true rfl) rfl rfl (fun Qc k => H Qc (fun v h' w => k (some (.int v)) h' (rl_wk (L' := [some (.ref (ad (gMo 0))), some (.int x1), some (.int x2), some (.int x3), none, none, some (.int x6), some (.int xs0)]) ⟨rfl, ⟨rfl, ⟨rfl, ⟨rfl, ⟨rfl, ⟨rfl, trivial⟩⟩⟩⟩⟩⟩ w)))
theorem tX9_ownRights_232 {n : Nat} {ad : Nat → Nat} {h0 : Hp} {cs : Nat → Nat → Int32} {pm : Nat → Nat → Nat} (L : Lay n ad h0) {Q : Nat → Option Value → Hp → Prop} {x1 x2 x3 x6 x7 xs0 xs1 : Int32} (H : ((xs1 = 0 → (∃ j_2 : Nat, x7 + (nI 3) = nI j_2 ∧ j_2 < 2400 ∧ (Wm mX9_ownRights 3 0 0 Q 261 [some (.ref (ad (gMo 0))), some (.int x1), some (.int x2), some (.int x3), none, some (.int (xs0 - (cs (gMo 1) j_2))), some (.int x6), none] [] (HN h0 ad cs pm) 0 0))) ∧ (¬ xs1 = 0 → CKi mX9_usedOf 1 0 0 [some (.ref (ad (gMo 0))), some (.int x1), some (.int x6)] (HN h0 ad cs pm) (fun v h' => Wm mX9_ownRights 3 0 0 Q 242 [some (.ref (ad (gMo 0))), some (.int x1), some (.int x2), some (.int x3), none, none, some (.int x6), none] [.int v, .int xs0] h' 0 0)))) : Wm mX9_ownRights 3 0 0 Q 232 [some (.ref (ad (gMo 0))), some (.int x1), some (.int x2), some (.int x3), none, none, some (.int x6), some (.int x7)] [.int xs1, .int xs0] (HN h0 ad cs pm) 0 0 := by
  refine rl_if_eq (tgt := 245) dX9_ownRights_232 (by decide) (fun c_1 => ?_) (fun c_1 => ?_)
  · have H := H.1 c_1
    refine rl_aload_n dX9_ownRights_245 rfl rfl ?_
    refine rt_getP (k := 1) cfX9 dX9_ownRights_246 flX9_7 (by decide) rfl (lMo0 L) (rMo1 L) naMo ?_
    refine rl_iload dX9_ownRights_249 rfl ?_
    refine rl_iconst (v := nI 3) dX9_ownRights_251 (by decide) ?_
    refine rl_iadd dX9_ownRights_252 ?_
    obtain ⟨j_2, e_3, b_4, H⟩ := H
    refine rt_iald (j := j_2) dX9_ownRights_253 (lMo1 L) nzMo e_3 b_4 (by decide) ?_
    refine rl_goto (tgt := 258) dX9_ownRights_254 (by decide) ?_
    refine rl_isub dX9_ownRights_258 ?_
    refine rl_istore (L' := [some (.ref (ad (gMo 0))), some (.int x1), some (.int x2), some (.int x3), none, some (.int (xs0 - (cs (gMo 1) j_2))), some (.int x6), some (.int x7)]) dX9_ownRights_259 (Nat.le_of_ble_eq_true rfl) rfl ?_
    refine rl_wk (L' := [some (.ref (ad (gMo 0))), some (.int x1), some (.int x2), some (.int x3), none, some (.int (xs0 - (cs (gMo 1) j_2))), some (.int x6), none]) ⟨rfl, ⟨rfl, ⟨rfl, ⟨rfl, ⟨rfl, ⟨rfl, trivial⟩⟩⟩⟩⟩⟩ ?_
    exact H
  · have H := H.2 c_1
    refine rl_aload_n dX9_ownRights_235 rfl rfl ?_
    refine rl_iload_n dX9_ownRights_236 rfl rfl ?_
    refine rl_iload dX9_ownRights_237 rfl ?_
    exact rl_callV (As := [.int x1, .int x6]) (rest := [.int xs0]) mfX9_usedOf dX9_ownRights_239 lkX9_70 (lMo0 L).K (by decide) (Nat.le_of_ble_eq_true rfl) (Nat.le_refl _) (Nat.le_refl _) rfl (Nat.le_of_ble_eq_true rfl) rfl rfl (fun Qc k => H Qc (fun v h' w => k (some (.int v)) h' (rl_wk (L' := [some (.ref (ad (gMo 0))), some (.int x1), some (.int x2), some (.int x3), none, none, some (.int x6), none]) ⟨rfl, ⟨rfl, ⟨rfl, ⟨rfl, ⟨rfl, trivial⟩⟩⟩⟩⟩ w)))
theorem tX9_ownRights_242 {n : Nat} {ad : Nat → Nat} {h0 : Hp} {cs : Nat → Nat → Int32} {pm : Nat → Nat → Nat} (L : Lay n ad h0) {Q : Nat → Option Value → Hp → Prop} {x1 x2 x3 x6 xs0 xs1 : Int32} (H : Wm mX9_ownRights 3 0 0 Q 261 [some (.ref (ad (gMo 0))), some (.int x1), some (.int x2), some (.int x3), none, some (.int (xs0 - xs1)), some (.int x6), none] [] (HN h0 ad cs pm) 0 0) : Wm mX9_ownRights 3 0 0 Q 242 [some (.ref (ad (gMo 0))), some (.int x1), some (.int x2), some (.int x3), none, none, some (.int x6), none] [.int xs1, .int xs0] (HN h0 ad cs pm) 0 0 := by
  refine rl_goto (tgt := 258) dX9_ownRights_242 (by decide) ?_
  refine rl_isub dX9_ownRights_258 ?_
  refine rl_istore (L' := [some (.ref (ad (gMo 0))), some (.int x1), some (.int x2), some (.int x3), none, some (.int (xs0 - xs1)), some (.int x6), none]) dX9_ownRights_259 (Nat.le_of_ble_eq_true rfl) rfl ?_
  exact H
theorem tX9_ownRights_261 {n : Nat} {ad : Nat → Nat} {h0 : Hp} {cs : Nat → Nat → Int32} {pm : Nat → Nat → Nat} (L : Lay n ad h0) {Q : Nat → Option Value → Hp → Prop} {x1 x2 x3 x5 x6 : Int32} (H : Wm mX9_ownRights 3 0 0 Q 148 [some (.ref (ad (gMo 0))), some (.int x1), some (.int x2), some (.int x3), none, some (.int x5), some (.int (x6 + nI 1)), none] [] (HN h0 ad cs pm) 0 0) : Wm mX9_ownRights 3 0 0 Q 261 [some (.ref (ad (gMo 0))), some (.int x1), some (.int x2), some (.int x3), none, some (.int x5), some (.int x6), none] [] (HN h0 ad cs pm) 0 0 := by
  refine rl_iinc (v := x6 + nI 1) (L' := [some (.ref (ad (gMo 0))), some (.int x1), some (.int x2), some (.int x3), none, some (.int x5), some (.int (x6 + nI 1)), none]) dX9_ownRights_261 rfl (congrArg (fun z => x6 + z) (by decide)) (Nat.le_of_ble_eq_true rfl) rfl ?_
  refine rl_goto (tgt := 148) dX9_ownRights_264 (by decide) ?_
  exact H
theorem tX9_loanAt_0 {n : Nat} {ad : Nat → Nat} {h0 : Hp} {cs : Nat → Nat → Int32} {pm : Nat → Nat → Nat} (L : Lay n ad h0) {Q : Nat → Option Value → Hp → Prop} {x0 : Int32} (H : Q 0 (some (.int ((nI 10) + ((nI 5) * x0)))) (HN h0 ad cs pm)) : Wm mX9_loanAt 0 0 0 Q 0 [some (.int x0)] [] (HN h0 ad cs pm) 0 0 := by
  refine rl_bipush (v := nI 10) dX9_loanAt_0 (by decide) ?_
  refine rl_iconst (v := nI 5) dX9_loanAt_2 (by decide) ?_
  refine rl_iload_n dX9_loanAt_3 rfl rfl ?_
  refine rl_imul dX9_loanAt_4 ?_
  refine rl_iadd dX9_loanAt_5 ?_
  exact rl_iret dX9_loanAt_6 rfl (Nat.le_refl 0) (Nat.le_refl 0) H
theorem tX9_isBack_0 {n : Nat} {ad : Nat → Nat} {h0 : Hp} {cs : Nat → Nat → Int32} {pm : Nat → Nat → Nat} (L : Lay n ad h0) {Q : Nat → Option Value → Hp → Prop} {x1 : Int32} (H : CKi mX9_loanAt 0 0 0 [some (.int x1)] (HN h0 ad cs pm) (fun v h' => Wm mX9_isBack 2 0 0 Q 4 [some (.ref (ad (gMo 0))), none, none] [.int v] h' 0 0)) : Wm mX9_isBack 2 0 0 Q 0 [some (.ref (ad (gMo 0))), some (.int x1), none] [] (HN h0 ad cs pm) 0 0 := by
  refine rl_iload_n dX9_isBack_0 rfl rfl ?_
  exact rl_callS (As := [.int x1]) (rest := []) mfX9_loanAt dX9_isBack_1 lkX9_60 (by decide) (Nat.le_of_ble_eq_true rfl) (Nat.le_refl _) (Nat.le_refl _) rfl (Nat.le_of_ble_eq_true rfl) rfl rfl (fun Qc k => H Qc (fun v h' w => k (some (.int v)) h' (rl_wk (L' := [some (.ref (ad (gMo 0))), none, none]) ⟨rfl, trivial⟩ w)))
theorem tX9_isBack_4 {n : Nat} {ad : Nat → Nat} {h0 : Hp} {cs : Nat → Nat → Int32} {pm : Nat → Nat → Nat} (L : Lay n ad h0) {Q : Nat → Option Value → Hp → Prop} {xs0 : Int32} (H : (∃ j_1 : Nat, xs0 + (nI 4) = nI j_1 ∧ j_1 < 2400 ∧ ((((cs (gMo 1) 0) < (cs (gMo 1) j_1) → Q 0 (some (.int (nI 0))) (HN h0 ad cs pm)) ∧ (¬ (cs (gMo 1) 0) < (cs (gMo 1) j_1) → (∃ j_5 : Nat, xs0 = nI j_5 ∧ j_5 < 2400 ∧ (∃ j_8 : Nat, xs0 + (nI 1) = nI j_8 ∧ j_8 < 2400 ∧ (CKi mX9_timeOf 1 0 0 [some (.ref (ad (gMo 0))), some (.int (cs (gMo 1) j_5)), some (.int (cs (gMo 1) j_8))] (HN h0 ad cs pm) (fun v h' => Wm mX9_isBack 2 0 0 Q 40 [some (.ref (ad (gMo 0))), none, some (.int xs0)] [.int v] h' 0 0))))))))) : Wm mX9_isBack 2 0 0 Q 4 [some (.ref (ad (gMo 0))), none, none] [.int xs0] (HN h0 ad cs pm) 0 0 := by
  refine rl_istore_n (L' := [some (.ref (ad (gMo 0))), none, some (.int xs0)]) dX9_isBack_4 rfl (Nat.le_of_ble_eq_true rfl) rfl ?_
  refine rl_aload_n dX9_isBack_5 rfl rfl ?_
  refine rt_getP (k := 1) cfX9 dX9_isBack_6 flX9_7 (by decide) rfl (lMo0 L) (rMo1 L) naMo ?_
  refine rl_iconst (v := nI 0) dX9_isBack_9 (by decide) ?_
  refine rt_iald (j := 0) dX9_isBack_10 (lMo1 L) nzMo rfl (by decide) (by decide) ?_
  refine rl_aload_n dX9_isBack_11 rfl rfl ?_
  refine rt_getP (k := 1) cfX9 dX9_isBack_12 flX9_7 (by decide) rfl (lMo0 L) (rMo1 L) naMo ?_
  refine rl_iload_n dX9_isBack_15 rfl rfl ?_
  refine rl_iconst (v := nI 4) dX9_isBack_16 (by decide) ?_
  refine rl_iadd dX9_isBack_17 ?_
  obtain ⟨j_1, e_2, b_3, H⟩ := H
  refine rt_iald (j := j_1) dX9_isBack_18 (lMo1 L) nzMo e_2 b_3 (by decide) ?_
  refine rl_icmp_lt (tgt := 55) dX9_isBack_19 (by decide) (fun c_4 => ?_) (fun c_4 => ?_)
  · have H := H.1 c_4
    refine rl_iconst (v := nI 0) dX9_isBack_55 (by decide) ?_
    exact rl_zret dX9_isBack_56 rfl rfl (Nat.le_refl 0) (Nat.le_refl 0) H
  · have H := H.2 c_4
    refine rl_aload_n dX9_isBack_22 rfl rfl ?_
    refine rl_aload_n dX9_isBack_23 rfl rfl ?_
    refine rt_getP (k := 1) cfX9 dX9_isBack_24 flX9_7 (by decide) rfl (lMo0 L) (rMo1 L) naMo ?_
    refine rl_iload_n dX9_isBack_27 rfl rfl ?_
    obtain ⟨j_5, e_6, b_7, H⟩ := H
    refine rt_iald (j := j_5) dX9_isBack_28 (lMo1 L) nzMo e_6 b_7 (by decide) ?_
    refine rl_aload_n dX9_isBack_29 rfl rfl ?_
    refine rt_getP (k := 1) cfX9 dX9_isBack_30 flX9_7 (by decide) rfl (lMo0 L) (rMo1 L) naMo ?_
    refine rl_iload_n dX9_isBack_33 rfl rfl ?_
    refine rl_iconst (v := nI 1) dX9_isBack_34 (by decide) ?_
    refine rl_iadd dX9_isBack_35 ?_
    obtain ⟨j_8, e_9, b_10, H⟩ := H
    refine rt_iald (j := j_8) dX9_isBack_36 (lMo1 L) nzMo e_9 b_10 (by decide) ?_
    exact rl_callV (As := [.int (cs (gMo 1) j_5), .int (cs (gMo 1) j_8)]) (rest := []) mfX9_timeOf dX9_isBack_37 lkX9_63 (lMo0 L).K (by decide) (Nat.le_of_ble_eq_true rfl) (Nat.le_refl _) (Nat.le_refl _) rfl (Nat.le_of_ble_eq_true rfl) rfl rfl (fun Qc k => H Qc (fun v h' w => k (some (.int v)) h' w))
theorem tX9_isBack_40 {n : Nat} {ad : Nat → Nat} {h0 : Hp} {cs : Nat → Nat → Int32} {pm : Nat → Nat → Nat} (L : Lay n ad h0) {Q : Nat → Option Value → Hp → Prop} {x2 xs0 : Int32} (H : (∃ j_1 : Nat, x2 + (nI 4) = nI j_1 ∧ j_1 < 2400 ∧ (((xs0 < (cs (gMo 1) j_1) → Q 0 (some (.int (nI 0))) (HN h0 ad cs pm)) ∧ (¬ xs0 < (cs (gMo 1) j_1) → Q 0 (some (.int (nI 1))) (HN h0 ad cs pm)))))) : Wm mX9_isBack 2 0 0 Q 40 [some (.ref (ad (gMo 0))), none, some (.int x2)] [.int xs0] (HN h0 ad cs pm) 0 0 := by
  refine rl_aload_n dX9_isBack_40 rfl rfl ?_
  refine rt_getP (k := 1) cfX9 dX9_isBack_41 flX9_7 (by decide) rfl (lMo0 L) (rMo1 L) naMo ?_
  refine rl_iload_n dX9_isBack_44 rfl rfl ?_
  refine rl_iconst (v := nI 4) dX9_isBack_45 (by decide) ?_
  refine rl_iadd dX9_isBack_46 ?_
  obtain ⟨j_1, e_2, b_3, H⟩ := H
  refine rt_iald (j := j_1) dX9_isBack_47 (lMo1 L) nzMo e_2 b_3 (by decide) ?_
  refine rl_icmp_lt (tgt := 55) dX9_isBack_48 (by decide) (fun c_4 => ?_) (fun c_4 => ?_)
  · have H := H.1 c_4
    refine rl_iconst (v := nI 0) dX9_isBack_55 (by decide) ?_
    exact rl_zret dX9_isBack_56 rfl rfl (Nat.le_refl 0) (Nat.le_refl 0) H
  · have H := H.2 c_4
    refine rl_iconst (v := nI 1) dX9_isBack_51 (by decide) ?_
    refine rl_goto (tgt := 56) dX9_isBack_52 (by decide) ?_
    exact rl_zret dX9_isBack_56 rfl rfl (Nat.le_refl 0) (Nat.le_refl 0) H
theorem tX9_timeOf_0 {n : Nat} {ad : Nat → Nat} {h0 : Hp} {cs : Nat → Nat → Int32} {pm : Nat → Nat → Nat} (L : Lay n ad h0) {Q : Nat → Option Value → Hp → Prop} {x1 x2 : Int32} (H : ((¬ x1 = x2 → CKi mX9_record 0 0 0 [some (.int x1), some (.int x2)] (HN h0 ad cs pm) (fun v h' => Wm mX9_timeOf 1 0 0 Q 23 [none, none, none] [.int v, .ref (ad (gMo 1))] h' 0 0)) ∧ (x1 = x2 → Q 0 (some (.int (cs (gMo 1) 0))) (HN h0 ad cs pm)))) : Wm mX9_timeOf 1 0 0 Q 0 [some (.ref (ad (gMo 0))), some (.int x1), some (.int x2)] [] (HN h0 ad cs pm) 0 0 := by
  refine rl_iload_n dX9_timeOf_0 rfl rfl ?_
  refine rl_iload_n dX9_timeOf_1 rfl rfl ?_
  refine rl_icmp_ne (tgt := 14) dX9_timeOf_2 (by decide) (fun c_1 => ?_) (fun c_1 => ?_)
  · have H := H.1 c_1
    refine rl_aload_n dX9_timeOf_14 rfl rfl ?_
    refine rt_getP (k := 1) cfX9 dX9_timeOf_15 flX9_7 (by decide) rfl (lMo0 L) (rMo1 L) naMo ?_
    refine rl_iload_n dX9_timeOf_18 rfl rfl ?_
    refine rl_iload_n dX9_timeOf_19 rfl rfl ?_
    exact rl_callS (As := [.int x1, .int x2]) (rest := [.ref (ad (gMo 1))]) mfX9_record dX9_timeOf_20 lkX9_52 (by decide) (Nat.le_of_ble_eq_true rfl) (Nat.le_refl _) (Nat.le_refl _) rfl (Nat.le_of_ble_eq_true rfl) rfl rfl (fun Qc k => H Qc (fun v h' w => k (some (.int v)) h' (rl_wk (L' := [none, none, none]) trivial w)))
  · have H := H.2 c_1
    refine rl_aload_n dX9_timeOf_5 rfl rfl ?_
    refine rt_getP (k := 1) cfX9 dX9_timeOf_6 flX9_7 (by decide) rfl (lMo0 L) (rMo1 L) naMo ?_
    refine rl_iconst (v := nI 0) dX9_timeOf_9 (by decide) ?_
    refine rt_iald (j := 0) dX9_timeOf_10 (lMo1 L) nzMo rfl (by decide) (by decide) ?_
    refine rl_goto (tgt := 26) dX9_timeOf_11 (by decide) ?_
    exact rl_iret dX9_timeOf_26 rfl (Nat.le_refl 0) (Nat.le_refl 0) H
theorem tX9_timeOf_23 {n : Nat} {ad : Nat → Nat} {h0 : Hp} {cs : Nat → Nat → Int32} {pm : Nat → Nat → Nat} (L : Lay n ad h0) {Q : Nat → Option Value → Hp → Prop} {xs1 : Int32} (H : (∃ j_1 : Nat, xs1 + (nI 1) = nI j_1 ∧ j_1 < 2400 ∧ (Q 0 (some (.int (cs (gMo 1) j_1))) (HN h0 ad cs pm)))) : Wm mX9_timeOf 1 0 0 Q 23 [none, none, none] [.int xs1, .ref (ad (gMo 1))] (HN h0 ad cs pm) 0 0 := by
  refine rl_iconst (v := nI 1) dX9_timeOf_23 (by decide) ?_
  refine rl_iadd dX9_timeOf_24 ?_
  obtain ⟨j_1, e_2, b_3, H⟩ := H
  refine rt_iald (j := j_1) dX9_timeOf_25 (lMo1 L) nzMo e_2 b_3 (by decide) ?_
  exact rl_iret dX9_timeOf_26 rfl (Nat.le_refl 0) (Nat.le_refl 0) H
theorem tX9_usedOf_0 {n : Nat} {ad : Nat → Nat} {h0 : Hp} {cs : Nat → Nat → Int32} {pm : Nat → Nat → Nat} (L : Lay n ad h0) {Q : Nat → Option Value → Hp → Prop} {x1 x2 : Int32} (H : CKi mX9_loanAt 0 0 0 [some (.int x2)] (HN h0 ad cs pm) (fun v h' => Wm mX9_usedOf 1 0 0 Q 13 [none, none, some (.int x2)] [.int v, .ref (ad (gMo 1)), .int x1, .ref (ad (gMo 1))] h' 0 0)) : Wm mX9_usedOf 1 0 0 Q 0 [some (.ref (ad (gMo 0))), some (.int x1), some (.int x2)] [] (HN h0 ad cs pm) 0 0 := by
  refine rl_aload_n dX9_usedOf_0 rfl rfl ?_
  refine rt_getP (k := 1) cfX9 dX9_usedOf_1 flX9_7 (by decide) rfl (lMo0 L) (rMo1 L) naMo ?_
  refine rl_iload_n dX9_usedOf_4 rfl rfl ?_
  refine rl_aload_n dX9_usedOf_5 rfl rfl ?_
  refine rt_getP (k := 1) cfX9 dX9_usedOf_6 flX9_7 (by decide) rfl (lMo0 L) (rMo1 L) naMo ?_
  refine rl_iload_n dX9_usedOf_9 rfl rfl ?_
  exact rl_callS (As := [.int x2]) (rest := [.ref (ad (gMo 1)), .int x1, .ref (ad (gMo 1))]) mfX9_loanAt dX9_usedOf_10 lkX9_60 (by decide) (Nat.le_of_ble_eq_true rfl) (Nat.le_refl _) (Nat.le_refl _) rfl (Nat.le_of_ble_eq_true rfl) rfl rfl (fun Qc k => H Qc (fun v h' w => k (some (.int v)) h' (rl_wk (L' := [none, none, some (.int x2)]) ⟨rfl, trivial⟩ w)))
theorem tX9_usedOf_13 {n : Nat} {ad : Nat → Nat} {h0 : Hp} {cs : Nat → Nat → Int32} {pm : Nat → Nat → Nat} (L : Lay n ad h0) {Q : Nat → Option Value → Hp → Prop} {x2 xs1 xs3 : Int32} (H : (∃ j_1 : Nat, xs3 + (nI 1) = nI j_1 ∧ j_1 < 2400 ∧ (CKi mX9_record 0 0 0 [some (.int xs1), some (.int (cs (gMo 1) j_1))] (HN h0 ad cs pm) (fun v h' => Wm mX9_usedOf 1 0 0 Q 19 [none, none, some (.int x2)] [.int v, .ref (ad (gMo 1))] h' 0 0)))) : Wm mX9_usedOf 1 0 0 Q 13 [none, none, some (.int x2)] [.int xs3, .ref (ad (gMo 1)), .int xs1, .ref (ad (gMo 1))] (HN h0 ad cs pm) 0 0 := by
  refine rl_iconst (v := nI 1) dX9_usedOf_13 (by decide) ?_
  refine rl_iadd dX9_usedOf_14 ?_
  obtain ⟨j_1, e_2, b_3, H⟩ := H
  refine rt_iald (j := j_1) dX9_usedOf_15 (lMo1 L) nzMo e_2 b_3 (by decide) ?_
  exact rl_callS (As := [.int xs1, .int (cs (gMo 1) j_1)]) (rest := [.ref (ad (gMo 1))]) mfX9_record dX9_usedOf_16 lkX9_52 (by decide) (Nat.le_of_ble_eq_true rfl) (Nat.le_refl _) (Nat.le_refl _) rfl (Nat.le_of_ble_eq_true rfl) rfl rfl (fun Qc k => H Qc (fun v h' w => k (some (.int v)) h' w))
theorem tX9_usedOf_19 {n : Nat} {ad : Nat → Nat} {h0 : Hp} {cs : Nat → Nat → Int32} {pm : Nat → Nat → Nat} (L : Lay n ad h0) {Q : Nat → Option Value → Hp → Prop} {x2 xs1 : Int32} (H : (∃ j_1 : Nat, (xs1 + (nI 17)) + x2 = nI j_1 ∧ j_1 < 2400 ∧ (Q 0 (some (.int (cs (gMo 1) j_1))) (HN h0 ad cs pm)))) : Wm mX9_usedOf 1 0 0 Q 19 [none, none, some (.int x2)] [.int xs1, .ref (ad (gMo 1))] (HN h0 ad cs pm) 0 0 := by
  refine rl_bipush (v := nI 17) dX9_usedOf_19 (by decide) ?_
  refine rl_iadd dX9_usedOf_21 ?_
  refine rl_iload_n dX9_usedOf_22 rfl rfl ?_
  refine rl_iadd dX9_usedOf_23 ?_
  obtain ⟨j_1, e_2, b_3, H⟩ := H
  refine rt_iald (j := j_1) dX9_usedOf_24 (lMo1 L) nzMo e_2 b_3 (by decide) ?_
  exact rl_iret dX9_usedOf_25 rfl (Nat.le_refl 0) (Nat.le_refl 0) H
theorem tX9_lentRights_0 {n : Nat} {ad : Nat → Nat} {h0 : Hp} {cs : Nat → Nat → Int32} {pm : Nat → Nat → Nat} (L : Lay n ad h0) {Q : Nat → Option Value → Hp → Prop} {x1 x2 : Int32} (H : Wm mX9_lentRights 3 0 0 Q 5 [some (.ref (ad (gMo 0))), some (.int x1), some (.int x2), some (.int (nI 0)), some (.int (nI 0))] [] (HN h0 ad cs pm) 0 0) : Wm mX9_lentRights 3 0 0 Q 0 [some (.ref (ad (gMo 0))), some (.int x1), some (.int x2), none, none] [] (HN h0 ad cs pm) 0 0 := by
  refine rl_iconst (v := nI 0) dX9_lentRights_0 (by decide) ?_
  refine rl_istore_n (L' := [some (.ref (ad (gMo 0))), some (.int x1), some (.int x2), some (.int (nI 0)), none]) dX9_lentRights_1 rfl (Nat.le_of_ble_eq_true rfl) rfl ?_
  refine rl_iconst (v := nI 0) dX9_lentRights_2 (by decide) ?_
  refine rl_istore (L' := [some (.ref (ad (gMo 0))), some (.int x1), some (.int x2), some (.int (nI 0)), some (.int (nI 0))]) dX9_lentRights_3 (Nat.le_of_ble_eq_true rfl) rfl ?_
  exact H
theorem tX9_lentRights_5 {n : Nat} {ad : Nat → Nat} {h0 : Hp} {cs : Nat → Nat → Int32} {pm : Nat → Nat → Nat} (L : Lay n ad h0) {Q : Nat → Option Value → Hp → Prop} {x1 x2 x3 x4 : Int32} (H : (((cs (gMo 1) 4) ≤ x4 → Q 0 (some (.int x3)) (HN h0 ad cs pm)) ∧ (¬ (cs (gMo 1) 4) ≤ x4 → CKi mX9_loanAt 0 0 0 [some (.int x4)] (HN h0 ad cs pm) (fun v h' => Wm mX9_lentRights 3 0 0 Q 26 [some (.ref (ad (gMo 0))), some (.int x1), some (.int x2), none, some (.int x4)] [.int v, .ref (ad (gMo 1)), .int x3] h' 0 0)))) : Wm mX9_lentRights 3 0 0 Q 5 [some (.ref (ad (gMo 0))), some (.int x1), some (.int x2), some (.int x3), some (.int x4)] [] (HN h0 ad cs pm) 0 0 := by
  refine rl_iload dX9_lentRights_5 rfl ?_
  refine rl_aload_n dX9_lentRights_7 rfl rfl ?_
  refine rt_getP (k := 1) cfX9 dX9_lentRights_8 flX9_7 (by decide) rfl (lMo0 L) (rMo1 L) naMo ?_
  refine rl_iconst (v := nI 4) dX9_lentRights_11 (by decide) ?_
  refine rt_iald (j := 4) dX9_lentRights_12 (lMo1 L) nzMo rfl (by decide) (by decide) ?_
  refine rl_icmp_ge (tgt := 67) dX9_lentRights_13 (by decide) (fun c_1 => ?_) (fun c_1 => ?_)
  · have H := H.1 c_1
    refine rl_iload_n dX9_lentRights_67 rfl rfl ?_
    exact rl_iret dX9_lentRights_68 rfl (Nat.le_refl 0) (Nat.le_refl 0) H
  · have H := H.2 c_1
    refine rl_iload_n dX9_lentRights_16 rfl rfl ?_
    refine rl_aload_n dX9_lentRights_17 rfl rfl ?_
    refine rt_getP (k := 1) cfX9 dX9_lentRights_18 flX9_7 (by decide) rfl (lMo0 L) (rMo1 L) naMo ?_
    refine rl_iload dX9_lentRights_21 rfl ?_
    exact rl_callS (As := [.int x4]) (rest := [.ref (ad (gMo 1)), .int x3]) mfX9_loanAt dX9_lentRights_23 lkX9_60 (by decide) (Nat.le_of_ble_eq_true rfl) (Nat.le_refl _) (Nat.le_refl _) rfl (Nat.le_of_ble_eq_true rfl) rfl rfl (fun Qc k => H Qc (fun v h' w => k (some (.int v)) h' (rl_wk (L' := [some (.ref (ad (gMo 0))), some (.int x1), some (.int x2), none, some (.int x4)]) ⟨rfl, ⟨rfl, ⟨rfl, ⟨rfl, trivial⟩⟩⟩⟩ w)))
theorem tX9_lentRights_26 {n : Nat} {ad : Nat → Nat} {h0 : Hp} {cs : Nat → Nat → Int32} {pm : Nat → Nat → Nat} (L : Lay n ad h0) {Q : Nat → Option Value → Hp → Prop} {x1 x2 x4 xs0 xs2 : Int32} (H : (∃ j_1 : Nat, xs2 + (nI 1) = nI j_1 ∧ j_1 < 2400 ∧ (((¬ (cs (gMo 1) j_1) = x1 → Wm mX9_lentRights 3 0 0 Q 5 [some (.ref (ad (gMo 0))), some (.int x1), some (.int x2), some (.int (xs0 + (nI 0))), some (.int (x4 + nI 1))] [] (HN h0 ad cs pm) 0 0) ∧ ((cs (gMo 1) j_1) = x1 → CKi mX9_loanAt 0 0 0 [some (.int x4)] (HN h0 ad cs pm) (fun v h' => Wm mX9_lentRights 3 0 0 Q 42 [some (.ref (ad (gMo 0))), some (.int x1), some (.int x2), none, some (.int x4)] [.int v, .ref (ad (gMo 1)), .int xs0] h' 0 0)))))) : Wm mX9_lentRights 3 0 0 Q 26 [some (.ref (ad (gMo 0))), some (.int x1), some (.int x2), none, some (.int x4)] [.int xs2, .ref (ad (gMo 1)), .int xs0] (HN h0 ad cs pm) 0 0 := by
  refine rl_iconst (v := nI 1) dX9_lentRights_26 (by decide) ?_
  refine rl_iadd dX9_lentRights_27 ?_
  obtain ⟨j_1, e_2, b_3, H⟩ := H
  refine rt_iald (j := j_1) dX9_lentRights_28 (lMo1 L) nzMo e_2 b_3 (by decide) ?_
  refine rl_iload_n dX9_lentRights_29 rfl rfl ?_
  refine rl_icmp_ne (tgt := 58) dX9_lentRights_30 (by decide) (fun c_4 => ?_) (fun c_4 => ?_)
  · have H := H.1 c_4
    refine rl_iconst (v := nI 0) dX9_lentRights_58 (by decide) ?_
    refine rl_iadd dX9_lentRights_59 ?_
    refine rl_istore_n (L' := [some (.ref (ad (gMo 0))), some (.int x1), some (.int x2), some (.int (xs0 + (nI 0))), some (.int x4)]) dX9_lentRights_60 rfl (Nat.le_of_ble_eq_true rfl) rfl ?_
    refine rl_iinc (v := x4 + nI 1) (L' := [some (.ref (ad (gMo 0))), some (.int x1), some (.int x2), some (.int (xs0 + (nI 0))), some (.int (x4 + nI 1))]) dX9_lentRights_61 rfl (congrArg (fun z => x4 + z) (by decide)) (Nat.le_of_ble_eq_true rfl) rfl ?_
    refine rl_goto (tgt := 5) dX9_lentRights_64 (by decide) ?_
    exact H
  · have H := H.2 c_4
    refine rl_aload_n dX9_lentRights_33 rfl rfl ?_
    refine rt_getP (k := 1) cfX9 dX9_lentRights_34 flX9_7 (by decide) rfl (lMo0 L) (rMo1 L) naMo ?_
    refine rl_iload dX9_lentRights_37 rfl ?_
    exact rl_callS (As := [.int x4]) (rest := [.ref (ad (gMo 1)), .int xs0]) mfX9_loanAt dX9_lentRights_39 lkX9_60 (by decide) (Nat.le_of_ble_eq_true rfl) (Nat.le_refl _) (Nat.le_refl _) rfl (Nat.le_of_ble_eq_true rfl) rfl rfl (fun Qc k => H Qc (fun v h' w => k (some (.int v)) h' w))
theorem tX9_lentRights_42 {n : Nat} {ad : Nat → Nat} {h0 : Hp} {cs : Nat → Nat → Int32} {pm : Nat → Nat → Nat} (L : Lay n ad h0) {Q : Nat → Option Value → Hp → Prop} {x1 x2 x4 xs0 xs2 : Int32} (H : (∃ j_1 : Nat, xs2 + (nI 2) = nI j_1 ∧ j_1 < 2400 ∧ (((¬ (cs (gMo 1) j_1) = x2 → Wm mX9_lentRights 3 0 0 Q 5 [some (.ref (ad (gMo 0))), some (.int x1), some (.int x2), some (.int (xs0 + (nI 0))), some (.int (x4 + nI 1))] [] (HN h0 ad cs pm) 0 0) ∧ ((cs (gMo 1) j_1) = x2 → CKi mX9_restOf 2 0 0 [some (.ref (ad (gMo 0))), some (.int x4), none] (HN h0 ad cs pm) (fun v h' => Wm mX9_lentRights 3 0 0 Q 55 [some (.ref (ad (gMo 0))), some (.int x1), some (.int x2), none, some (.int x4)] [.int v, .int xs0] h' 0 0)))))) : Wm mX9_lentRights 3 0 0 Q 42 [some (.ref (ad (gMo 0))), some (.int x1), some (.int x2), none, some (.int x4)] [.int xs2, .ref (ad (gMo 1)), .int xs0] (HN h0 ad cs pm) 0 0 := by
  refine rl_iconst (v := nI 2) dX9_lentRights_42 (by decide) ?_
  refine rl_iadd dX9_lentRights_43 ?_
  obtain ⟨j_1, e_2, b_3, H⟩ := H
  refine rt_iald (j := j_1) dX9_lentRights_44 (lMo1 L) nzMo e_2 b_3 (by decide) ?_
  refine rl_iload_n dX9_lentRights_45 rfl rfl ?_
  refine rl_icmp_ne (tgt := 58) dX9_lentRights_46 (by decide) (fun c_4 => ?_) (fun c_4 => ?_)
  · have H := H.1 c_4
    refine rl_iconst (v := nI 0) dX9_lentRights_58 (by decide) ?_
    refine rl_iadd dX9_lentRights_59 ?_
    refine rl_istore_n (L' := [some (.ref (ad (gMo 0))), some (.int x1), some (.int x2), some (.int (xs0 + (nI 0))), some (.int x4)]) dX9_lentRights_60 rfl (Nat.le_of_ble_eq_true rfl) rfl ?_
    refine rl_iinc (v := x4 + nI 1) (L' := [some (.ref (ad (gMo 0))), some (.int x1), some (.int x2), some (.int (xs0 + (nI 0))), some (.int (x4 + nI 1))]) dX9_lentRights_61 rfl (congrArg (fun z => x4 + z) (by decide)) (Nat.le_of_ble_eq_true rfl) rfl ?_
    refine rl_goto (tgt := 5) dX9_lentRights_64 (by decide) ?_
    exact H
  · have H := H.2 c_4
    refine rl_aload_n dX9_lentRights_49 rfl rfl ?_
    refine rl_iload dX9_lentRights_50 rfl ?_
    exact rl_callV (As := [.int x4]) (rest := [.int xs0]) mfX9_restOf dX9_lentRights_52 lkX9_76 (lMo0 L).K (by decide) (Nat.le_of_ble_eq_true rfl) (Nat.le_refl _) (Nat.le_refl _) rfl (Nat.le_of_ble_eq_true rfl) rfl rfl (fun Qc k => H Qc (fun v h' w => k (some (.int v)) h' w))
theorem tX9_lentRights_55 {n : Nat} {ad : Nat → Nat} {h0 : Hp} {cs : Nat → Nat → Int32} {pm : Nat → Nat → Nat} (L : Lay n ad h0) {Q : Nat → Option Value → Hp → Prop} {x1 x2 x4 xs0 xs1 : Int32} (H : Wm mX9_lentRights 3 0 0 Q 5 [some (.ref (ad (gMo 0))), some (.int x1), some (.int x2), some (.int (xs0 + xs1)), some (.int (x4 + nI 1))] [] (HN h0 ad cs pm) 0 0) : Wm mX9_lentRights 3 0 0 Q 55 [some (.ref (ad (gMo 0))), some (.int x1), some (.int x2), none, some (.int x4)] [.int xs1, .int xs0] (HN h0 ad cs pm) 0 0 := by
  refine rl_goto (tgt := 59) dX9_lentRights_55 (by decide) ?_
  refine rl_iadd dX9_lentRights_59 ?_
  refine rl_istore_n (L' := [some (.ref (ad (gMo 0))), some (.int x1), some (.int x2), some (.int (xs0 + xs1)), some (.int x4)]) dX9_lentRights_60 rfl (Nat.le_of_ble_eq_true rfl) rfl ?_
  refine rl_iinc (v := x4 + nI 1) (L' := [some (.ref (ad (gMo 0))), some (.int x1), some (.int x2), some (.int (xs0 + xs1)), some (.int (x4 + nI 1))]) dX9_lentRights_61 rfl (congrArg (fun z => x4 + z) (by decide)) (Nat.le_of_ble_eq_true rfl) rfl ?_
  refine rl_goto (tgt := 5) dX9_lentRights_64 (by decide) ?_
  exact H
theorem tX9_restOf_0 {n : Nat} {ad : Nat → Nat} {h0 : Hp} {cs : Nat → Nat → Int32} {pm : Nat → Nat → Nat} (L : Lay n ad h0) {Q : Nat → Option Value → Hp → Prop} {x1 : Int32} (H : CKi mX9_loanAt 0 0 0 [some (.int x1)] (HN h0 ad cs pm) (fun v h' => Wm mX9_restOf 2 0 0 Q 4 [some (.ref (ad (gMo 0))), some (.int x1), none] [.int v] h' 0 0)) : Wm mX9_restOf 2 0 0 Q 0 [some (.ref (ad (gMo 0))), some (.int x1), none] [] (HN h0 ad cs pm) 0 0 := by
  refine rl_iload_n dX9_restOf_0 rfl rfl ?_
  exact rl_callS (As := [.int x1]) (rest := []) mfX9_loanAt dX9_restOf_1 lkX9_60 (by decide) (Nat.le_of_ble_eq_true rfl) (Nat.le_refl _) (Nat.le_refl _) rfl (Nat.le_of_ble_eq_true rfl) rfl rfl (fun Qc k => H Qc (fun v h' w => k (some (.int v)) h' w))
theorem tX9_restOf_4 {n : Nat} {ad : Nat → Nat} {h0 : Hp} {cs : Nat → Nat → Int32} {pm : Nat → Nat → Nat} (L : Lay n ad h0) {Q : Nat → Option Value → Hp → Prop} {x1 xs0 : Int32} (H : CKi mX9_isKnown 1 0 0 [some (.ref (ad (gMo 0))), some (.int x1), none] (HN h0 ad cs pm) (fun v h' => Wm mX9_restOf 2 0 0 Q 10 [some (.ref (ad (gMo 0))), some (.int x1), some (.int xs0)] [.int v] h' 0 0)) : Wm mX9_restOf 2 0 0 Q 4 [some (.ref (ad (gMo 0))), some (.int x1), none] [.int xs0] (HN h0 ad cs pm) 0 0 := by
  refine rl_istore_n (L' := [some (.ref (ad (gMo 0))), some (.int x1), some (.int xs0)]) dX9_restOf_4 rfl (Nat.le_of_ble_eq_true rfl) rfl ?_
  refine rl_aload_n dX9_restOf_5 rfl rfl ?_
  refine rl_iload_n dX9_restOf_6 rfl rfl ?_
  exact rl_callV (As := [.int x1]) (rest := []) mfX9_isKnown dX9_restOf_7 lkX9_66 (lMo0 L).K (by decide) (Nat.le_of_ble_eq_true rfl) (Nat.le_refl _) (Nat.le_refl _) rfl (Nat.le_of_ble_eq_true rfl) rfl rfl (fun Qc k => H Qc (fun v h' w => k (some (.int v)) h' w))
theorem tX9_restOf_10 {n : Nat} {ad : Nat → Nat} {h0 : Hp} {cs : Nat → Nat → Int32} {pm : Nat → Nat → Nat} (L : Lay n ad h0) {Q : Nat → Option Value → Hp → Prop} {x1 x2 xs0 : Int32} (H : ((xs0 = 0 → Q 0 (some (.int (nI 0))) (HN h0 ad cs pm)) ∧ (¬ xs0 = 0 → (∃ j_2 : Nat, x2 + (nI 4) = nI j_2 ∧ j_2 < 2400 ∧ ((((cs (gMo 1) j_2) ≤ (cs (gMo 1) 0) → Q 0 (some (.int (nI 0))) (HN h0 ad cs pm)) ∧ (¬ (cs (gMo 1) j_2) ≤ (cs (gMo 1) 0) → (∃ j_6 : Nat, x2 + (nI 3) = nI j_6 ∧ j_6 < 2400 ∧ (∃ j_9 : Nat, x2 + (nI 1) = nI j_9 ∧ j_9 < 2400 ∧ (CKi mX9_usedOf 1 0 0 [some (.ref (ad (gMo 0))), some (.int (cs (gMo 1) j_9)), some (.int x1)] (HN h0 ad cs pm) (fun v h' => Wm mX9_restOf 2 0 0 Q 51 [none, none, none] [.int v, .int (cs (gMo 1) j_6)] h' 0 0))))))))))) : Wm mX9_restOf 2 0 0 Q 10 [some (.ref (ad (gMo 0))), some (.int x1), some (.int x2)] [.int xs0] (HN h0 ad cs pm) 0 0 := by
  refine rl_if_eq (tgt := 55) dX9_restOf_10 (by decide) (fun c_1 => ?_) (fun c_1 => ?_)
  · have H := H.1 c_1
    refine rl_iconst (v := nI 0) dX9_restOf_55 (by decide) ?_
    exact rl_iret dX9_restOf_56 rfl (Nat.le_refl 0) (Nat.le_refl 0) H
  · have H := H.2 c_1
    refine rl_aload_n dX9_restOf_13 rfl rfl ?_
    refine rt_getP (k := 1) cfX9 dX9_restOf_14 flX9_7 (by decide) rfl (lMo0 L) (rMo1 L) naMo ?_
    refine rl_iconst (v := nI 0) dX9_restOf_17 (by decide) ?_
    refine rt_iald (j := 0) dX9_restOf_18 (lMo1 L) nzMo rfl (by decide) (by decide) ?_
    refine rl_aload_n dX9_restOf_19 rfl rfl ?_
    refine rt_getP (k := 1) cfX9 dX9_restOf_20 flX9_7 (by decide) rfl (lMo0 L) (rMo1 L) naMo ?_
    refine rl_iload_n dX9_restOf_23 rfl rfl ?_
    refine rl_iconst (v := nI 4) dX9_restOf_24 (by decide) ?_
    refine rl_iadd dX9_restOf_25 ?_
    obtain ⟨j_2, e_3, b_4, H⟩ := H
    refine rt_iald (j := j_2) dX9_restOf_26 (lMo1 L) nzMo e_3 b_4 (by decide) ?_
    refine rl_icmp_ge (tgt := 55) dX9_restOf_27 (by decide) (fun c_5 => ?_) (fun c_5 => ?_)
    · have H := H.1 c_5
      refine rl_iconst (v := nI 0) dX9_restOf_55 (by decide) ?_
      exact rl_iret dX9_restOf_56 rfl (Nat.le_refl 0) (Nat.le_refl 0) H
    · have H := H.2 c_5
      refine rl_aload_n dX9_restOf_30 rfl rfl ?_
      refine rt_getP (k := 1) cfX9 dX9_restOf_31 flX9_7 (by decide) rfl (lMo0 L) (rMo1 L) naMo ?_
      refine rl_iload_n dX9_restOf_34 rfl rfl ?_
      refine rl_iconst (v := nI 3) dX9_restOf_35 (by decide) ?_
      refine rl_iadd dX9_restOf_36 ?_
      obtain ⟨j_6, e_7, b_8, H⟩ := H
      refine rt_iald (j := j_6) dX9_restOf_37 (lMo1 L) nzMo e_7 b_8 (by decide) ?_
      refine rl_aload_n dX9_restOf_38 rfl rfl ?_
      refine rl_aload_n dX9_restOf_39 rfl rfl ?_
      refine rt_getP (k := 1) cfX9 dX9_restOf_40 flX9_7 (by decide) rfl (lMo0 L) (rMo1 L) naMo ?_
      refine rl_iload_n dX9_restOf_43 rfl rfl ?_
      refine rl_iconst (v := nI 1) dX9_restOf_44 (by decide) ?_
      refine rl_iadd dX9_restOf_45 ?_
      obtain ⟨j_9, e_10, b_11, H⟩ := H
      refine rt_iald (j := j_9) dX9_restOf_46 (lMo1 L) nzMo e_10 b_11 (by decide) ?_
      refine rl_iload_n dX9_restOf_47 rfl rfl ?_
      exact rl_callV (As := [.int (cs (gMo 1) j_9), .int x1]) (rest := [.int (cs (gMo 1) j_6)]) mfX9_usedOf dX9_restOf_48 lkX9_70 (lMo0 L).K (by decide) (Nat.le_of_ble_eq_true rfl) (Nat.le_refl _) (Nat.le_refl _) rfl (Nat.le_of_ble_eq_true rfl) rfl rfl (fun Qc k => H Qc (fun v h' w => k (some (.int v)) h' (rl_wk (L' := [none, none, none]) trivial w)))
theorem tX9_restOf_51 {n : Nat} {ad : Nat → Nat} {h0 : Hp} {cs : Nat → Nat → Int32} {pm : Nat → Nat → Nat} (L : Lay n ad h0) {Q : Nat → Option Value → Hp → Prop} {xs0 xs1 : Int32} (H : Q 0 (some (.int (xs0 - xs1))) (HN h0 ad cs pm)) : Wm mX9_restOf 2 0 0 Q 51 [none, none, none] [.int xs1, .int xs0] (HN h0 ad cs pm) 0 0 := by
  refine rl_isub dX9_restOf_51 ?_
  refine rl_goto (tgt := 56) dX9_restOf_52 (by decide) ?_
  exact rl_iret dX9_restOf_56 rfl (Nat.le_refl 0) (Nat.le_refl 0) H
theorem tX9_isKnown_0 {n : Nat} {ad : Nat → Nat} {h0 : Hp} {cs : Nat → Nat → Int32} {pm : Nat → Nat → Nat} (L : Lay n ad h0) {Q : Nat → Option Value → Hp → Prop} {x1 : Int32} (H : CKi mX9_loanAt 0 0 0 [some (.int x1)] (HN h0 ad cs pm) (fun v h' => Wm mX9_isKnown 1 0 0 Q 4 [some (.ref (ad (gMo 0))), some (.int x1), none] [.int v] h' 0 0)) : Wm mX9_isKnown 1 0 0 Q 0 [some (.ref (ad (gMo 0))), some (.int x1), none] [] (HN h0 ad cs pm) 0 0 := by
  refine rl_iload_n dX9_isKnown_0 rfl rfl ?_
  exact rl_callS (As := [.int x1]) (rest := []) mfX9_loanAt dX9_isKnown_1 lkX9_60 (by decide) (Nat.le_of_ble_eq_true rfl) (Nat.le_refl _) (Nat.le_refl _) rfl (Nat.le_of_ble_eq_true rfl) rfl rfl (fun Qc k => H Qc (fun v h' w => k (some (.int v)) h' w))
theorem tX9_isKnown_4 {n : Nat} {ad : Nat → Nat} {h0 : Hp} {cs : Nat → Nat → Int32} {pm : Nat → Nat → Nat} (L : Lay n ad h0) {Q : Nat → Option Value → Hp → Prop} {x1 xs0 : Int32} (H : (∃ j_1 : Nat, xs0 + (nI 1) = nI j_1 ∧ j_1 < 2400 ∧ (∃ j_4 : Nat, xs0 = nI j_4 ∧ j_4 < 2400 ∧ (CKi mX9_record 0 0 0 [some (.int (cs (gMo 1) j_1)), some (.int (cs (gMo 1) j_4))] (HN h0 ad cs pm) (fun v h' => Wm mX9_isKnown 1 0 0 Q 26 [none, some (.int x1), none] [.int v, .ref (ad (gMo 1))] h' 0 0))))) : Wm mX9_isKnown 1 0 0 Q 4 [some (.ref (ad (gMo 0))), some (.int x1), none] [.int xs0] (HN h0 ad cs pm) 0 0 := by
  refine rl_istore_n (L' := [some (.ref (ad (gMo 0))), some (.int x1), some (.int xs0)]) dX9_isKnown_4 rfl (Nat.le_of_ble_eq_true rfl) rfl ?_
  refine rl_aload_n dX9_isKnown_5 rfl rfl ?_
  refine rt_getP (k := 1) cfX9 dX9_isKnown_6 flX9_7 (by decide) rfl (lMo0 L) (rMo1 L) naMo ?_
  refine rl_aload_n dX9_isKnown_9 rfl rfl ?_
  refine rt_getP (k := 1) cfX9 dX9_isKnown_10 flX9_7 (by decide) rfl (lMo0 L) (rMo1 L) naMo ?_
  refine rl_iload_n dX9_isKnown_13 rfl rfl ?_
  refine rl_iconst (v := nI 1) dX9_isKnown_14 (by decide) ?_
  refine rl_iadd dX9_isKnown_15 ?_
  obtain ⟨j_1, e_2, b_3, H⟩ := H
  refine rt_iald (j := j_1) dX9_isKnown_16 (lMo1 L) nzMo e_2 b_3 (by decide) ?_
  refine rl_aload_n dX9_isKnown_17 rfl rfl ?_
  refine rt_getP (k := 1) cfX9 dX9_isKnown_18 flX9_7 (by decide) rfl (lMo0 L) (rMo1 L) naMo ?_
  refine rl_iload_n dX9_isKnown_21 rfl rfl ?_
  obtain ⟨j_4, e_5, b_6, H⟩ := H
  refine rt_iald (j := j_4) dX9_isKnown_22 (lMo1 L) nzMo e_5 b_6 (by decide) ?_
  exact rl_callS (As := [.int (cs (gMo 1) j_1), .int (cs (gMo 1) j_4)]) (rest := [.ref (ad (gMo 1))]) mfX9_record dX9_isKnown_23 lkX9_52 (by decide) (Nat.le_of_ble_eq_true rfl) (Nat.le_refl _) (Nat.le_refl _) rfl (Nat.le_of_ble_eq_true rfl) rfl rfl (fun Qc k => H Qc (fun v h' w => k (some (.int v)) h' (rl_wk (L' := [none, some (.int x1), none]) ⟨rfl, trivial⟩ w)))
theorem tX9_isKnown_26 {n : Nat} {ad : Nat → Nat} {h0 : Hp} {cs : Nat → Nat → Int32} {pm : Nat → Nat → Nat} (L : Lay n ad h0) {Q : Nat → Option Value → Hp → Prop} {x1 xs1 : Int32} (H : (∃ j_1 : Nat, xs1 + (nI 16) = nI j_1 ∧ j_1 < 2400 ∧ (((¬ (((cs (gMo 1) j_1) >>> (x1 &&& 31)) &&& (nI 1)) = (nI 1) → Q 0 (some (.int (nI 0))) (HN h0 ad cs pm)) ∧ ((((cs (gMo 1) j_1) >>> (x1 &&& 31)) &&& (nI 1)) = (nI 1) → Q 0 (some (.int (nI 1))) (HN h0 ad cs pm)))))) : Wm mX9_isKnown 1 0 0 Q 26 [none, some (.int x1), none] [.int xs1, .ref (ad (gMo 1))] (HN h0 ad cs pm) 0 0 := by
  refine rl_bipush (v := nI 16) dX9_isKnown_26 (by decide) ?_
  refine rl_iadd dX9_isKnown_28 ?_
  obtain ⟨j_1, e_2, b_3, H⟩ := H
  refine rt_iald (j := j_1) dX9_isKnown_29 (lMo1 L) nzMo e_2 b_3 (by decide) ?_
  refine rl_iload_n dX9_isKnown_30 rfl rfl ?_
  refine rl_ishr dX9_isKnown_31 ?_
  refine rl_iconst (v := nI 1) dX9_isKnown_32 (by decide) ?_
  refine rl_iand dX9_isKnown_33 ?_
  refine rl_iconst (v := nI 1) dX9_isKnown_34 (by decide) ?_
  refine rl_icmp_ne (tgt := 42) dX9_isKnown_35 (by decide) (fun c_4 => ?_) (fun c_4 => ?_)
  · have H := H.1 c_4
    refine rl_iconst (v := nI 0) dX9_isKnown_42 (by decide) ?_
    exact rl_zret dX9_isKnown_43 rfl rfl (Nat.le_refl 0) (Nat.le_refl 0) H
  · have H := H.2 c_4
    refine rl_iconst (v := nI 1) dX9_isKnown_38 (by decide) ?_
    refine rl_goto (tgt := 43) dX9_isKnown_39 (by decide) ?_
    exact rl_zret dX9_isKnown_43 rfl rfl (Nat.le_refl 0) (Nat.le_refl 0) H
theorem tX9_changed_0 {n : Nat} {ad : Nat → Nat} {h0 : Hp} {cs : Nat → Nat → Int32} {pm : Nat → Nat → Nat} (L : Lay n ad h0) {Q : Nat → Option Value → Hp → Prop} {x1 : Int32} (H : CKi mX9_mineAt 1 0 0 [some (.ref (ad (gMo 0))), some (.int x1)] (HN h0 ad cs pm) (fun v h' => Wm mX9_changed 2 0 0 Q 9 [none, none] [.int v, .ref (ad (gMo 1))] h' 0 0)) : Wm mX9_changed 2 0 0 Q 0 [some (.ref (ad (gMo 0))), some (.int x1)] [] (HN h0 ad cs pm) 0 0 := by
  refine rl_aload_n dX9_changed_0 rfl rfl ?_
  refine rt_getP (k := 1) cfX9 dX9_changed_1 flX9_7 (by decide) rfl (lMo0 L) (rMo1 L) naMo ?_
  refine rl_aload_n dX9_changed_4 rfl rfl ?_
  refine rl_iload_n dX9_changed_5 rfl rfl ?_
  exact rl_callV (As := [.int x1]) (rest := [.ref (ad (gMo 1))]) mfX9_mineAt dX9_changed_6 lkX9_56 (lMo0 L).K (by decide) (Nat.le_of_ble_eq_true rfl) (Nat.le_refl _) (Nat.le_refl _) rfl (Nat.le_of_ble_eq_true rfl) rfl rfl (fun Qc k => H Qc (fun v h' w => k (some (.int v)) h' (rl_wk (L' := [none, none]) trivial w)))
theorem tX9_changed_9 {n : Nat} {ad : Nat → Nat} {h0 : Hp} {cs : Nat → Nat → Int32} {pm : Nat → Nat → Nat} (L : Lay n ad h0) {Q : Nat → Option Value → Hp → Prop} {xs1 : Int32} (H : (∃ j_1 : Nat, xs1 + (nI 0) = nI j_1 ∧ j_1 < 2400 ∧ (Q 0 none (HN h0 ad (up2 cs (gMo 1) j_1 ((cs (gMo 1) j_1) + (nI 1))) pm)))) : Wm mX9_changed 2 0 0 Q 9 [none, none] [.int xs1, .ref (ad (gMo 1))] (HN h0 ad cs pm) 0 0 := by
  refine rl_iconst (v := nI 0) dX9_changed_9 (by decide) ?_
  refine rl_iadd dX9_changed_10 ?_
  refine rl_dup2 dX9_changed_11 rfl rfl ?_
  obtain ⟨j_1, e_2, b_3, H⟩ := H
  refine rt_iald (j := j_1) dX9_changed_12 (lMo1 L) nzMo e_2 b_3 (by decide) ?_
  refine rl_iconst (v := nI 1) dX9_changed_13 (by decide) ?_
  refine rl_iadd dX9_changed_14 ?_
  refine rt_iast (j := j_1) L.2.1 dX9_changed_15 (lMo1 L) nzMo e_2 b_3 (by decide) ?_
  exact rl_vret dX9_changed_16 rfl (Nat.le_refl 0) (Nat.le_refl 0) H
theorem tX9_firstLoan_0 {n : Nat} {ad : Nat → Nat} {h0 : Hp} {cs : Nat → Nat → Int32} {pm : Nat → Nat → Nat} (L : Lay n ad h0) {Q : Nat → Option Value → Hp → Prop} {x1 x2 : Int32} (H : Wm mX9_firstLoan 3 0 0 Q 5 [some (.ref (ad (gMo 0))), some (.int x1), some (.int x2), some (.int (-1)), some (.int (nI 0)), none, none] [] (HN h0 ad cs pm) 0 0) : Wm mX9_firstLoan 3 0 0 Q 0 [some (.ref (ad (gMo 0))), some (.int x1), some (.int x2), none, none, none, none] [] (HN h0 ad cs pm) 0 0 := by
  refine rl_iconst (v := -1) dX9_firstLoan_0 (by decide) ?_
  refine rl_istore_n (L' := [some (.ref (ad (gMo 0))), some (.int x1), some (.int x2), some (.int (-1)), none, none, none]) dX9_firstLoan_1 rfl (Nat.le_of_ble_eq_true rfl) rfl ?_
  refine rl_iconst (v := nI 0) dX9_firstLoan_2 (by decide) ?_
  refine rl_istore (L' := [some (.ref (ad (gMo 0))), some (.int x1), some (.int x2), some (.int (-1)), some (.int (nI 0)), none, none]) dX9_firstLoan_3 (Nat.le_of_ble_eq_true rfl) rfl ?_
  exact H
theorem tX9_firstLoan_5 {n : Nat} {ad : Nat → Nat} {h0 : Hp} {cs : Nat → Nat → Int32} {pm : Nat → Nat → Nat} (L : Lay n ad h0) {Q : Nat → Option Value → Hp → Prop} {x1 x2 x3 x4 : Int32} (H : (((cs (gMo 1) 4) ≤ x4 → Q 0 (some (.int x3)) (HN h0 ad cs pm)) ∧ (¬ (cs (gMo 1) 4) ≤ x4 → CKi mX9_loanAt 0 0 0 [some (.int x4)] (HN h0 ad cs pm) (fun v h' => Wm mX9_firstLoan 3 0 0 Q 21 [some (.ref (ad (gMo 0))), some (.int x1), some (.int x2), some (.int x3), some (.int x4), none, none] [.int v] h' 0 0)))) : Wm mX9_firstLoan 3 0 0 Q 5 [some (.ref (ad (gMo 0))), some (.int x1), some (.int x2), some (.int x3), some (.int x4), none, none] [] (HN h0 ad cs pm) 0 0 := by
  refine rl_iload dX9_firstLoan_5 rfl ?_
  refine rl_aload_n dX9_firstLoan_7 rfl rfl ?_
  refine rt_getP (k := 1) cfX9 dX9_firstLoan_8 flX9_7 (by decide) rfl (lMo0 L) (rMo1 L) naMo ?_
  refine rl_iconst (v := nI 4) dX9_firstLoan_11 (by decide) ?_
  refine rt_iald (j := 4) dX9_firstLoan_12 (lMo1 L) nzMo rfl (by decide) (by decide) ?_
  refine rl_icmp_ge (tgt := 110) dX9_firstLoan_13 (by decide) (fun c_1 => ?_) (fun c_1 => ?_)
  · have H := H.1 c_1
    refine rl_iload_n dX9_firstLoan_110 rfl rfl ?_
    exact rl_iret dX9_firstLoan_111 rfl (Nat.le_refl 0) (Nat.le_refl 0) H
  · have H := H.2 c_1
    refine rl_iload dX9_firstLoan_16 rfl ?_
    exact rl_callS (As := [.int x4]) (rest := []) mfX9_loanAt dX9_firstLoan_18 lkX9_60 (by decide) (Nat.le_of_ble_eq_true rfl) (Nat.le_refl _) (Nat.le_refl _) rfl (Nat.le_of_ble_eq_true rfl) rfl rfl (fun Qc k => H Qc (fun v h' w => k (some (.int v)) h' w))
theorem tX9_firstLoan_21 {n : Nat} {ad : Nat → Nat} {h0 : Hp} {cs : Nat → Nat → Int32} {pm : Nat → Nat → Nat} (L : Lay n ad h0) {Q : Nat → Option Value → Hp → Prop} {x1 x2 x3 x4 xs0 : Int32} (H : (∃ j_1 : Nat, xs0 + (nI 1) = nI j_1 ∧ j_1 < 2400 ∧ (((¬ (cs (gMo 1) j_1) = x1 → Wm mX9_firstLoan 3 0 0 Q 62 [some (.ref (ad (gMo 0))), some (.int x1), some (.int x2), some (.int x3), some (.int x4), some (.int xs0), none] [] (HN h0 ad cs pm) 0 0) ∧ ((cs (gMo 1) j_1) = x1 → (∃ j_5 : Nat, xs0 + (nI 2) = nI j_5 ∧ j_5 < 2400 ∧ (((¬ (cs (gMo 1) j_5) = x2 → Wm mX9_firstLoan 3 0 0 Q 62 [some (.ref (ad (gMo 0))), some (.int x1), some (.int x2), some (.int x3), some (.int x4), some (.int xs0), none] [] (HN h0 ad cs pm) 0 0) ∧ ((cs (gMo 1) j_5) = x2 → CKi mX9_restOf 2 0 0 [some (.ref (ad (gMo 0))), some (.int x4), none] (HN h0 ad cs pm) (fun v h' => Wm mX9_firstLoan 3 0 0 Q 55 [some (.ref (ad (gMo 0))), some (.int x1), some (.int x2), some (.int x3), some (.int x4), some (.int xs0), none] [.int v] h' 0 0)))))))))) : Wm mX9_firstLoan 3 0 0 Q 21 [some (.ref (ad (gMo 0))), some (.int x1), some (.int x2), some (.int x3), some (.int x4), none, none] [.int xs0] (HN h0 ad cs pm) 0 0 := by
  refine rl_istore (L' := [some (.ref (ad (gMo 0))), some (.int x1), some (.int x2), some (.int x3), some (.int x4), some (.int xs0), none]) dX9_firstLoan_21 (Nat.le_of_ble_eq_true rfl) rfl ?_
  refine rl_aload_n dX9_firstLoan_23 rfl rfl ?_
  refine rt_getP (k := 1) cfX9 dX9_firstLoan_24 flX9_7 (by decide) rfl (lMo0 L) (rMo1 L) naMo ?_
  refine rl_iload dX9_firstLoan_27 rfl ?_
  refine rl_iconst (v := nI 1) dX9_firstLoan_29 (by decide) ?_
  refine rl_iadd dX9_firstLoan_30 ?_
  obtain ⟨j_1, e_2, b_3, H⟩ := H
  refine rt_iald (j := j_1) dX9_firstLoan_31 (lMo1 L) nzMo e_2 b_3 (by decide) ?_
  refine rl_iload_n dX9_firstLoan_32 rfl rfl ?_
  refine rl_icmp_ne (tgt := 62) dX9_firstLoan_33 (by decide) (fun c_4 => ?_) (fun c_4 => ?_)
  · have H := H.1 c_4
    exact H
  · have H := H.2 c_4
    refine rl_aload_n dX9_firstLoan_36 rfl rfl ?_
    refine rt_getP (k := 1) cfX9 dX9_firstLoan_37 flX9_7 (by decide) rfl (lMo0 L) (rMo1 L) naMo ?_
    refine rl_iload dX9_firstLoan_40 rfl ?_
    refine rl_iconst (v := nI 2) dX9_firstLoan_42 (by decide) ?_
    refine rl_iadd dX9_firstLoan_43 ?_
    obtain ⟨j_5, e_6, b_7, H⟩ := H
    refine rt_iald (j := j_5) dX9_firstLoan_44 (lMo1 L) nzMo e_6 b_7 (by decide) ?_
    refine rl_iload_n dX9_firstLoan_45 rfl rfl ?_
    refine rl_icmp_ne (tgt := 62) dX9_firstLoan_46 (by decide) (fun c_8 => ?_) (fun c_8 => ?_)
    · have H := H.1 c_8
      exact H
    · have H := H.2 c_8
      refine rl_aload_n dX9_firstLoan_49 rfl rfl ?_
      refine rl_iload dX9_firstLoan_50 rfl ?_
      exact rl_callV (As := [.int x4]) (rest := []) mfX9_restOf dX9_firstLoan_52 lkX9_76 (lMo0 L).K (by decide) (Nat.le_of_ble_eq_true rfl) (Nat.le_refl _) (Nat.le_refl _) rfl (Nat.le_of_ble_eq_true rfl) rfl rfl (fun Qc k => H Qc (fun v h' w => k (some (.int v)) h' w))
theorem tX9_firstLoan_55 {n : Nat} {ad : Nat → Nat} {h0 : Hp} {cs : Nat → Nat → Int32} {pm : Nat → Nat → Nat} (L : Lay n ad h0) {Q : Nat → Option Value → Hp → Prop} {x1 x2 x3 x4 x5 xs0 : Int32} (H : ((xs0 ≤ 0 → Wm mX9_firstLoan 3 0 0 Q 62 [some (.ref (ad (gMo 0))), some (.int x1), some (.int x2), some (.int x3), some (.int x4), some (.int x5), none] [] (HN h0 ad cs pm) 0 0) ∧ (¬ xs0 ≤ 0 → ((x3 < 0 → Wm mX9_firstLoan 3 0 0 Q 97 [some (.ref (ad (gMo 0))), some (.int x1), some (.int x2), none, some (.int x4), none, none] [] (HN h0 ad cs pm) 0 0) ∧ (¬ x3 < 0 → (∃ j_3 : Nat, x5 + (nI 4) = nI j_3 ∧ j_3 < 2400 ∧ (CKi mX9_loanAt 0 0 0 [some (.int x3)] (HN h0 ad cs pm) (fun v h' => Wm mX9_firstLoan 3 0 0 Q 91 [some (.ref (ad (gMo 0))), some (.int x1), some (.int x2), some (.int x3), some (.int x4), none, none] [.int v, .ref (ad (gMo 1)), .int (cs (gMo 1) j_3)] h' 0 0)))))))) : Wm mX9_firstLoan 3 0 0 Q 55 [some (.ref (ad (gMo 0))), some (.int x1), some (.int x2), some (.int x3), some (.int x4), some (.int x5), none] [.int xs0] (HN h0 ad cs pm) 0 0 := by
  refine rl_if_le (tgt := 62) dX9_firstLoan_55 (by decide) (fun c_1 => ?_) (fun c_1 => ?_)
  · have H := H.1 c_1
    exact H
  · have H := H.2 c_1
    refine rl_iconst (v := nI 1) dX9_firstLoan_58 (by decide) ?_
    refine rl_goto (tgt := 63) dX9_firstLoan_59 (by decide) ?_
    refine rl_istore (L' := [some (.ref (ad (gMo 0))), some (.int x1), some (.int x2), some (.int x3), some (.int x4), some (.int x5), some (.int (nI 1))]) dX9_firstLoan_63 (Nat.le_of_ble_eq_true rfl) rfl ?_
    refine rl_iload dX9_firstLoan_65 rfl ?_
    refine rl_if_eq (tgt := 102) dX9_firstLoan_67 (by decide) (fun q => absurd q (by decide)) (fun _ => ?_)
    refine rl_iload_n dX9_firstLoan_70 rfl rfl ?_
    refine rl_if_lt (tgt := 97) dX9_firstLoan_71 (by decide) (fun c_2 => ?_) (fun c_2 => ?_)
    · have H := H.1 c_2
      refine rl_wk (L' := [some (.ref (ad (gMo 0))), some (.int x1), some (.int x2), none, some (.int x4), none, none]) ⟨rfl, ⟨rfl, ⟨rfl, ⟨rfl, trivial⟩⟩⟩⟩ ?_
      exact H
    · have H := H.2 c_2
      refine rl_aload_n dX9_firstLoan_74 rfl rfl ?_
      refine rt_getP (k := 1) cfX9 dX9_firstLoan_75 flX9_7 (by decide) rfl (lMo0 L) (rMo1 L) naMo ?_
      refine rl_iload dX9_firstLoan_78 rfl ?_
      refine rl_iconst (v := nI 4) dX9_firstLoan_80 (by decide) ?_
      refine rl_iadd dX9_firstLoan_81 ?_
      obtain ⟨j_3, e_4, b_5, H⟩ := H
      refine rt_iald (j := j_3) dX9_firstLoan_82 (lMo1 L) nzMo e_4 b_5 (by decide) ?_
      refine rl_aload_n dX9_firstLoan_83 rfl rfl ?_
      refine rt_getP (k := 1) cfX9 dX9_firstLoan_84 flX9_7 (by decide) rfl (lMo0 L) (rMo1 L) naMo ?_
      refine rl_iload_n dX9_firstLoan_87 rfl rfl ?_
      exact rl_callS (As := [.int x3]) (rest := [.ref (ad (gMo 1)), .int (cs (gMo 1) j_3)]) mfX9_loanAt dX9_firstLoan_88 lkX9_60 (by decide) (Nat.le_of_ble_eq_true rfl) (Nat.le_refl _) (Nat.le_refl _) rfl (Nat.le_of_ble_eq_true rfl) rfl rfl (fun Qc k => H Qc (fun v h' w => k (some (.int v)) h' (rl_wk (L' := [some (.ref (ad (gMo 0))), some (.int x1), some (.int x2), some (.int x3), some (.int x4), none, none]) ⟨rfl, ⟨rfl, ⟨rfl, ⟨rfl, ⟨rfl, trivial⟩⟩⟩⟩⟩ w)))
theorem tX9_firstLoan_62 {n : Nat} {ad : Nat → Nat} {h0 : Hp} {cs : Nat → Nat → Int32} {pm : Nat → Nat → Nat} (L : Lay n ad h0) {Q : Nat → Option Value → Hp → Prop} {x1 x2 x3 x4 x5 : Int32} (H : Wm mX9_firstLoan 3 0 0 Q 102 [some (.ref (ad (gMo 0))), some (.int x1), some (.int x2), some (.int x3), some (.int x4), none, none] [] (HN h0 ad cs pm) 0 0) : Wm mX9_firstLoan 3 0 0 Q 62 [some (.ref (ad (gMo 0))), some (.int x1), some (.int x2), some (.int x3), some (.int x4), some (.int x5), none] [] (HN h0 ad cs pm) 0 0 := by
  refine rl_iconst (v := nI 0) dX9_firstLoan_62 (by decide) ?_
  refine rl_istore (L' := [some (.ref (ad (gMo 0))), some (.int x1), some (.int x2), some (.int x3), some (.int x4), some (.int x5), some (.int (nI 0))]) dX9_firstLoan_63 (Nat.le_of_ble_eq_true rfl) rfl ?_
  refine rl_iload dX9_firstLoan_65 rfl ?_
  refine rl_if_eq (tgt := 102) dX9_firstLoan_67 (by decide) (fun _ => ?_) (fun q => absurd q (by decide))
  refine rl_wk (L' := [some (.ref (ad (gMo 0))), some (.int x1), some (.int x2), some (.int x3), some (.int x4), none, none]) ⟨rfl, ⟨rfl, ⟨rfl, ⟨rfl, ⟨rfl, trivial⟩⟩⟩⟩⟩ ?_
  exact H
theorem tX9_firstLoan_91 {n : Nat} {ad : Nat → Nat} {h0 : Hp} {cs : Nat → Nat → Int32} {pm : Nat → Nat → Nat} (L : Lay n ad h0) {Q : Nat → Option Value → Hp → Prop} {x1 x2 x3 x4 xs0 xs2 : Int32} (H : (∃ j_1 : Nat, xs2 + (nI 4) = nI j_1 ∧ j_1 < 2400 ∧ ((((cs (gMo 1) j_1) ≤ xs0 → Wm mX9_firstLoan 3 0 0 Q 102 [some (.ref (ad (gMo 0))), some (.int x1), some (.int x2), some (.int x3), some (.int x4), none, none] [] (HN h0 ad cs pm) 0 0) ∧ (¬ (cs (gMo 1) j_1) ≤ xs0 → Wm mX9_firstLoan 3 0 0 Q 97 [some (.ref (ad (gMo 0))), some (.int x1), some (.int x2), none, some (.int x4), none, none] [] (HN h0 ad cs pm) 0 0))))) : Wm mX9_firstLoan 3 0 0 Q 91 [some (.ref (ad (gMo 0))), some (.int x1), some (.int x2), some (.int x3), some (.int x4), none, none] [.int xs2, .ref (ad (gMo 1)), .int xs0] (HN h0 ad cs pm) 0 0 := by
  refine rl_iconst (v := nI 4) dX9_firstLoan_91 (by decide) ?_
  refine rl_iadd dX9_firstLoan_92 ?_
  obtain ⟨j_1, e_2, b_3, H⟩ := H
  refine rt_iald (j := j_1) dX9_firstLoan_93 (lMo1 L) nzMo e_2 b_3 (by decide) ?_
  refine rl_icmp_ge (tgt := 102) dX9_firstLoan_94 (by decide) (fun c_4 => ?_) (fun c_4 => ?_)
  · have H := H.1 c_4
    exact H
  · have H := H.2 c_4
    refine rl_wk (L' := [some (.ref (ad (gMo 0))), some (.int x1), some (.int x2), none, some (.int x4), none, none]) ⟨rfl, ⟨rfl, ⟨rfl, ⟨rfl, trivial⟩⟩⟩⟩ ?_
    exact H
theorem tX9_firstLoan_97 {n : Nat} {ad : Nat → Nat} {h0 : Hp} {cs : Nat → Nat → Int32} {pm : Nat → Nat → Nat} (L : Lay n ad h0) {Q : Nat → Option Value → Hp → Prop} {x1 x2 x4 : Int32} (H : Wm mX9_firstLoan 3 0 0 Q 5 [some (.ref (ad (gMo 0))), some (.int x1), some (.int x2), some (.int x4), some (.int (x4 + nI 1)), none, none] [] (HN h0 ad cs pm) 0 0) : Wm mX9_firstLoan 3 0 0 Q 97 [some (.ref (ad (gMo 0))), some (.int x1), some (.int x2), none, some (.int x4), none, none] [] (HN h0 ad cs pm) 0 0 := by
  refine rl_iload dX9_firstLoan_97 rfl ?_
  refine rl_goto (tgt := 103) dX9_firstLoan_99 (by decide) ?_
  refine rl_istore_n (L' := [some (.ref (ad (gMo 0))), some (.int x1), some (.int x2), some (.int x4), some (.int x4), none, none]) dX9_firstLoan_103 rfl (Nat.le_of_ble_eq_true rfl) rfl ?_
  refine rl_iinc (v := x4 + nI 1) (L' := [some (.ref (ad (gMo 0))), some (.int x1), some (.int x2), some (.int x4), some (.int (x4 + nI 1)), none, none]) dX9_firstLoan_104 rfl (congrArg (fun z => x4 + z) (by decide)) (Nat.le_of_ble_eq_true rfl) rfl ?_
  refine rl_goto (tgt := 5) dX9_firstLoan_107 (by decide) ?_
  exact H
theorem tX9_firstLoan_102 {n : Nat} {ad : Nat → Nat} {h0 : Hp} {cs : Nat → Nat → Int32} {pm : Nat → Nat → Nat} (L : Lay n ad h0) {Q : Nat → Option Value → Hp → Prop} {x1 x2 x3 x4 : Int32} (H : Wm mX9_firstLoan 3 0 0 Q 5 [some (.ref (ad (gMo 0))), some (.int x1), some (.int x2), some (.int x3), some (.int (x4 + nI 1)), none, none] [] (HN h0 ad cs pm) 0 0) : Wm mX9_firstLoan 3 0 0 Q 102 [some (.ref (ad (gMo 0))), some (.int x1), some (.int x2), some (.int x3), some (.int x4), none, none] [] (HN h0 ad cs pm) 0 0 := by
  refine rl_iload_n dX9_firstLoan_102 rfl rfl ?_
  refine rl_istore_n (L' := [some (.ref (ad (gMo 0))), some (.int x1), some (.int x2), some (.int x3), some (.int x4), none, none]) dX9_firstLoan_103 rfl (Nat.le_of_ble_eq_true rfl) rfl ?_
  refine rl_iinc (v := x4 + nI 1) (L' := [some (.ref (ad (gMo 0))), some (.int x1), some (.int x2), some (.int x3), some (.int (x4 + nI 1)), none, none]) dX9_firstLoan_104 rfl (congrArg (fun z => x4 + z) (by decide)) (Nat.le_of_ble_eq_true rfl) rfl ?_
  refine rl_goto (tgt := 5) dX9_firstLoan_107 (by decide) ?_
  exact H
theorem tX9_decrease_0 {n : Nat} {ad : Nat → Nat} {h0 : Hp} {cs : Nat → Nat → Int32} {pm : Nat → Nat → Nat} (L : Lay n ad h0) {Q : Nat → Option Value → Hp → Prop} {x1 x2 : Int32} (H : CKi mX9_change 6 0 0 [some (.ref (ad (gMo 0))), some (.int x1), some (.int (nI 1)), some (.int x2)] (HN h0 ad cs pm) (fun v h' => Wm mX9_decrease 7 0 0 Q 7 [none, none, none] [.int v] h' 0 0)) : Wm mX9_decrease 7 0 0 Q 0 [some (.ref (ad (gMo 0))), some (.int x1), some (.int x2)] [] (HN h0 ad cs pm) 0 0 := by
  refine rl_aload_n dX9_decrease_0 rfl rfl ?_
  refine rl_iload_n dX9_decrease_1 rfl rfl ?_
  refine rl_iconst (v := nI 1) dX9_decrease_2 (by decide) ?_
  refine rl_iload_n dX9_decrease_3 rfl rfl ?_
  exact rl_callV (As := [.int x1, .int (nI 1), .int x2]) (rest := []) mfX9_change dX9_decrease_4 lkX9_112 (lMo0 L).K (by decide) (Nat.le_of_ble_eq_true rfl) (Nat.le_refl _) (Nat.le_refl _) rfl (Nat.le_of_ble_eq_true rfl) rfl rfl (fun Qc k => H Qc (fun v h' w => k (some (.int v)) h' (rl_wk (L' := [none, none, none]) trivial w)))
theorem tX9_decrease_7 {n : Nat} {ad : Nat → Nat} {h0 : Hp} {cs : Nat → Nat → Int32} {pm : Nat → Nat → Nat} (L : Lay n ad h0) {Q : Nat → Option Value → Hp → Prop} {xs0 : Int32} (H : narrow .boolean (.int xs0) = .int xs0 ∧ Q 0 (some (.int xs0)) (HN h0 ad cs pm)) : Wm mX9_decrease 7 0 0 Q 7 [none, none, none] [.int xs0] (HN h0 ad cs pm) 0 0 := by
  obtain ⟨o_1, H⟩ := H
  exact rl_zret dX9_decrease_7 rfl o_1 (Nat.le_refl 0) (Nat.le_refl 0) H
theorem tX9_transfer_0 {n : Nat} {ad : Nat → Nat} {h0 : Hp} {cs : Nat → Nat → Int32} {pm : Nat → Nat → Nat} (L : Lay n ad h0) {Q : Nat → Option Value → Hp → Prop} {x1 x2 x3 x4 : Int32} (H : CKi mX9_in 0 0 0 [some (.int x4), some (.int (nI 1)), some (.int (nI 999))] (HN h0 ad cs pm) (fun v h' => Wm mX9_transfer 4 0 0 Q 14 [some (.ref (ad (gMo 0))), some (.int x1), some (.int x2), some (.int x3), some (.int x4)] [.int v, .int x3, .int x2, .int x1, .ref (ad (gMo 0)), .ref (ad (gMo 0))] h' 0 0)) : Wm mX9_transfer 4 0 0 Q 0 [some (.ref (ad (gMo 0))), some (.int x1), some (.int x2), some (.int x3), some (.int x4)] [] (HN h0 ad cs pm) 0 0 := by
  refine rl_aload_n dX9_transfer_0 rfl rfl ?_
  refine rl_aload_n dX9_transfer_1 rfl rfl ?_
  refine rl_iload_n dX9_transfer_2 rfl rfl ?_
  refine rl_iload_n dX9_transfer_3 rfl rfl ?_
  refine rl_iload_n dX9_transfer_4 rfl rfl ?_
  refine rl_iload dX9_transfer_5 rfl ?_
  refine rl_iconst (v := nI 1) dX9_transfer_7 (by decide) ?_
  refine rl_sipush (v := nI 999) dX9_transfer_8 (by decide) ?_
  exact rl_callS (As := [.int x4, .int (nI 1), .int (nI 999)]) (rest := [.int x3, .int x2, .int x1, .ref (ad (gMo 0)), .ref (ad (gMo 0))]) mfX9_in dX9_transfer_11 lkX9_48 (by decide) (Nat.le_of_ble_eq_true rfl) (Nat.le_refl _) (Nat.le_refl _) rfl (Nat.le_of_ble_eq_true rfl) rfl rfl (fun Qc k => H Qc (fun v h' w => k (some (.int v)) h' w))
theorem tX9_transfer_14 {n : Nat} {ad : Nat → Nat} {h0 : Hp} {cs : Nat → Nat → Int32} {pm : Nat → Nat → Nat} (L : Lay n ad h0) {Q : Nat → Option Value → Hp → Prop} {x1 x2 x3 x4 xs2 xs3 xs4 xs5 : Int32} (H : CKi mX9_wrongPair 2 0 0 [some (.ref (ad (gMo 0))), some (.int xs2), some (.int xs3), some (.int xs4), some (.int xs5)] (HN h0 ad cs pm) (fun v h' => Wm mX9_transfer 4 0 0 Q 17 [some (.ref (ad (gMo 0))), some (.int x1), some (.int x2), some (.int x3), some (.int x4)] [.int v, .ref (ad (gMo 0))] h' 0 0)) : Wm mX9_transfer 4 0 0 Q 14 [some (.ref (ad (gMo 0))), some (.int x1), some (.int x2), some (.int x3), some (.int x4)] [.int xs5, .int xs4, .int xs3, .int xs2, .ref (ad (gMo 0)), .ref (ad (gMo 0))] (HN h0 ad cs pm) 0 0 := by
  exact rl_callV (As := [.int xs2, .int xs3, .int xs4, .int xs5]) (rest := [.ref (ad (gMo 0))]) mfX9_wrongPair dX9_transfer_14 lkX9_115 (lMo0 L).K (by decide) (Nat.le_of_ble_eq_true rfl) (Nat.le_refl _) (Nat.le_refl _) rfl (Nat.le_of_ble_eq_true rfl) rfl rfl (fun Qc k => H Qc (fun v h' w => k (some (.int v)) h' w))
theorem tX9_transfer_17 {n : Nat} {ad : Nat → Nat} {h0 : Hp} {cs : Nat → Nat → Int32} {pm : Nat → Nat → Nat} (L : Lay n ad h0) {Q : Nat → Option Value → Hp → Prop} {x1 x2 x3 x4 xs1 : Int32} (H : ((¬ xs1 = 0 → Wm mX9_transfer 4 0 0 Q 43 [some (.ref (ad (gMo 0))), some (.int x1), some (.int x2), some (.int x3), some (.int x4)] [] (HN h0 ad (up2 cs (gMo 0) 7 xs1) pm) 0 0) ∧ (xs1 = 0 → CKi mX9_ownRights 3 0 0 [some (.ref (ad (gMo 0))), some (.int x2), some (.int x1), none, none, none, none, none] (HN h0 ad (up2 cs (gMo 0) 7 xs1) pm) (fun v h' => Wm mX9_transfer 4 0 0 Q 33 [some (.ref (ad (gMo 0))), some (.int x1), some (.int x2), some (.int x3), some (.int x4)] [.int v] h' 0 0)))) : Wm mX9_transfer 4 0 0 Q 17 [some (.ref (ad (gMo 0))), some (.int x1), some (.int x2), some (.int x3), some (.int x4)] [.int xs1, .ref (ad (gMo 0))] (HN h0 ad cs pm) 0 0 := by
  refine rt_putI (k := 7) L.2.1 cfX9 dX9_transfer_17 flX9_42 (by decide) rfl (lMo0 L) nzMo (Or.inl rfl) ?_
  refine rl_aload_n dX9_transfer_20 rfl rfl ?_
  refine rt_getIv (x := xs1) (k := 7) cfX9 dX9_transfer_21 flX9_42 (by decide) rfl (lMo0 L) nzMo (up2_s) ?_
  refine rl_if_ne (tgt := 43) dX9_transfer_24 (by decide) (fun c_1 => ?_) (fun c_1 => ?_)
  · have H := H.1 c_1
    exact H
  · have H := H.2 c_1
    refine rl_aload_n dX9_transfer_27 rfl rfl ?_
    refine rl_iload_n dX9_transfer_28 rfl rfl ?_
    refine rl_iload_n dX9_transfer_29 rfl rfl ?_
    exact rl_callV (As := [.int x2, .int x1]) (rest := []) mfX9_ownRights dX9_transfer_30 lkX9_79 (lMo0 L).K (by decide) (Nat.le_of_ble_eq_true rfl) (Nat.le_refl _) (Nat.le_refl _) rfl (Nat.le_of_ble_eq_true rfl) rfl rfl (fun Qc k => H Qc (fun v h' w => k (some (.int v)) h' w))
theorem tX9_transfer_33 {n : Nat} {ad : Nat → Nat} {h0 : Hp} {cs : Nat → Nat → Int32} {pm : Nat → Nat → Nat} (L : Lay n ad h0) {Q : Nat → Option Value → Hp → Prop} {x1 x2 x3 x4 xs0 : Int32} (H : ((x4 ≤ xs0 → Wm mX9_transfer 4 0 0 Q 43 [some (.ref (ad (gMo 0))), some (.int x1), some (.int x2), some (.int x3), some (.int x4)] [] (HN h0 ad cs pm) 0 0) ∧ (¬ x4 ≤ xs0 → Wm mX9_transfer 4 0 0 Q 43 [some (.ref (ad (gMo 0))), some (.int x1), some (.int x2), some (.int x3), some (.int x4)] [] (HN h0 ad (up2 cs (gMo 0) 7 (nI 3)) pm) 0 0))) : Wm mX9_transfer 4 0 0 Q 33 [some (.ref (ad (gMo 0))), some (.int x1), some (.int x2), some (.int x3), some (.int x4)] [.int xs0] (HN h0 ad cs pm) 0 0 := by
  refine rl_iload dX9_transfer_33 rfl ?_
  refine rl_icmp_ge (tgt := 43) dX9_transfer_35 (by decide) (fun c_1 => ?_) (fun c_1 => ?_)
  · have H := H.1 c_1
    exact H
  · have H := H.2 c_1
    refine rl_aload_n dX9_transfer_38 rfl rfl ?_
    refine rl_iconst (v := nI 3) dX9_transfer_39 (by decide) ?_
    refine rt_putI (k := 7) L.2.1 cfX9 dX9_transfer_40 flX9_42 (by decide) rfl (lMo0 L) nzMo (Or.inl rfl) ?_
    exact H
theorem tX9_transfer_43 {n : Nat} {ad : Nat → Nat} {h0 : Hp} {cs : Nat → Nat → Int32} {pm : Nat → Nat → Nat} (L : Lay n ad h0) {Q : Nat → Option Value → Hp → Prop} {x1 x2 x3 x4 : Int32} (H : (((cs (gMo 0) 7) = 0 → CKv mX9_act 0 0 0 [some (.ref (ad (gMo 0))), none] (HN h0 ad cs pm) (fun h' => Wm mX9_transfer 4 0 0 Q 56 [some (.ref (ad (gMo 0))), some (.int x1), some (.int x2), some (.int x3), some (.int x4)] [] h' 0 0)) ∧ (¬ (cs (gMo 0) 7) = 0 → Q 0 (some (.int (nI 0))) (HN h0 ad cs pm)))) : Wm mX9_transfer 4 0 0 Q 43 [some (.ref (ad (gMo 0))), some (.int x1), some (.int x2), some (.int x3), some (.int x4)] [] (HN h0 ad cs pm) 0 0 := by
  refine rl_aload_n dX9_transfer_43 rfl rfl ?_
  refine rt_getI (k := 7) cfX9 dX9_transfer_44 flX9_42 (by decide) rfl (lMo0 L) nzMo ?_
  refine rl_if_eq (tgt := 52) dX9_transfer_47 (by decide) (fun c_1 => ?_) (fun c_1 => ?_)
  · have H := H.1 c_1
    refine rl_aload_n dX9_transfer_52 rfl rfl ?_
    exact rl_callV (As := []) (rest := []) mfX9_act dX9_transfer_53 lkX9_99 (lMo0 L).K (by decide) (Nat.le_of_ble_eq_true rfl) (Nat.le_refl _) (Nat.le_refl _) rfl (Nat.le_of_ble_eq_true rfl) rfl rfl (fun Qc k => H Qc (fun h' w => k none h' w))
  · have H := H.2 c_1
    refine rl_iconst (v := nI 0) dX9_transfer_50 (by decide) ?_
    exact rl_iret dX9_transfer_51 rfl (Nat.le_refl 0) (Nat.le_refl 0) H
theorem tX9_transfer_56 {n : Nat} {ad : Nat → Nat} {h0 : Hp} {cs : Nat → Nat → Int32} {pm : Nat → Nat → Nat} (L : Lay n ad h0) {Q : Nat → Option Value → Hp → Prop} {x1 x2 x3 x4 : Int32} (H : CKv mX9_gives 3 0 0 [some (.ref (ad (gMo 0))), some (.int x1), some (.int x2), some (.int x3), some (.int x4)] (HN h0 ad cs pm) (fun h' => Wm mX9_transfer 4 0 0 Q 65 [some (.ref (ad (gMo 0))), some (.int x1), some (.int x2), none, none] [] h' 0 0)) : Wm mX9_transfer 4 0 0 Q 56 [some (.ref (ad (gMo 0))), some (.int x1), some (.int x2), some (.int x3), some (.int x4)] [] (HN h0 ad cs pm) 0 0 := by
  refine rl_aload_n dX9_transfer_56 rfl rfl ?_
  refine rl_iload_n dX9_transfer_57 rfl rfl ?_
  refine rl_iload_n dX9_transfer_58 rfl rfl ?_
  refine rl_iload_n dX9_transfer_59 rfl rfl ?_
  refine rl_iload dX9_transfer_60 rfl ?_
  exact rl_callV (As := [.int x1, .int x2, .int x3, .int x4]) (rest := []) mfX9_gives dX9_transfer_62 lkX9_119 (lMo0 L).K (by decide) (Nat.le_of_ble_eq_true rfl) (Nat.le_refl _) (Nat.le_refl _) rfl (Nat.le_of_ble_eq_true rfl) rfl rfl (fun Qc k => H Qc (fun h' w => k none h' (rl_wk (L' := [some (.ref (ad (gMo 0))), some (.int x1), some (.int x2), none, none]) ⟨rfl, ⟨rfl, ⟨rfl, trivial⟩⟩⟩ w)))
theorem tX9_transfer_65 {n : Nat} {ad : Nat → Nat} {h0 : Hp} {cs : Nat → Nat → Int32} {pm : Nat → Nat → Nat} (L : Lay n ad h0) {Q : Nat → Option Value → Hp → Prop} {x1 x2 : Int32} (H : CKi mX9_ownRights 3 0 0 [some (.ref (ad (gMo 0))), some (.int x2), some (.int x1), none, none, none, none, none] (HN h0 ad cs pm) (fun v h' => Wm mX9_transfer 4 0 0 Q 71 [none, none, none, none, none] [.int v] h' 0 0)) : Wm mX9_transfer 4 0 0 Q 65 [some (.ref (ad (gMo 0))), some (.int x1), some (.int x2), none, none] [] (HN h0 ad cs pm) 0 0 := by
  refine rl_aload_n dX9_transfer_65 rfl rfl ?_
  refine rl_iload_n dX9_transfer_66 rfl rfl ?_
  refine rl_iload_n dX9_transfer_67 rfl rfl ?_
  exact rl_callV (As := [.int x2, .int x1]) (rest := []) mfX9_ownRights dX9_transfer_68 lkX9_79 (lMo0 L).K (by decide) (Nat.le_of_ble_eq_true rfl) (Nat.le_refl _) (Nat.le_refl _) rfl (Nat.le_of_ble_eq_true rfl) rfl rfl (fun Qc k => H Qc (fun v h' w => k (some (.int v)) h' (rl_wk (L' := [none, none, none, none, none]) trivial w)))
theorem tX9_transfer_71 {n : Nat} {ad : Nat → Nat} {h0 : Hp} {cs : Nat → Nat → Int32} {pm : Nat → Nat → Nat} (L : Lay n ad h0) {Q : Nat → Option Value → Hp → Prop} {xs0 : Int32} (H : Q 0 (some (.int xs0)) (HN h0 ad cs pm)) : Wm mX9_transfer 4 0 0 Q 71 [none, none, none, none, none] [.int xs0] (HN h0 ad cs pm) 0 0 := by
  exact rl_iret dX9_transfer_71 rfl (Nat.le_refl 0) (Nat.le_refl 0) H
theorem tX9_wrongPair_0 {n : Nat} {ad : Nat → Nat} {h0 : Hp} {cs : Nat → Nat → Int32} {pm : Nat → Nat → Nat} (L : Lay n ad h0) {Q : Nat → Option Value → Hp → Prop} {x1 x2 x3 x4 : Int32} (H : CKi mX9_isSite 1 0 0 [some (.ref (ad (gMo 0))), some (.int x2)] (HN h0 ad cs pm) (fun v h' => Wm mX9_wrongPair 2 0 0 Q 5 [some (.ref (ad (gMo 0))), some (.int x1), some (.int x2), some (.int x3), some (.int x4)] [.int v] h' 0 0)) : Wm mX9_wrongPair 2 0 0 Q 0 [some (.ref (ad (gMo 0))), some (.int x1), some (.int x2), some (.int x3), some (.int x4)] [] (HN h0 ad cs pm) 0 0 := by
  refine rl_aload_n dX9_wrongPair_0 rfl rfl ?_
  refine rl_iload_n dX9_wrongPair_1 rfl rfl ?_
  exact rl_callV (As := [.int x2]) (rest := []) mfX9_isSite dX9_wrongPair_2 lkX9_96 (lMo0 L).K (by decide) (Nat.le_of_ble_eq_true rfl) (Nat.le_refl _) (Nat.le_refl _) rfl (Nat.le_of_ble_eq_true rfl) rfl rfl (fun Qc k => H Qc (fun v h' w => k (some (.int v)) h' w))
theorem tX9_wrongPair_5 {n : Nat} {ad : Nat → Nat} {h0 : Hp} {cs : Nat → Nat → Int32} {pm : Nat → Nat → Nat} (L : Lay n ad h0) {Q : Nat → Option Value → Hp → Prop} {x1 x2 x3 x4 xs0 : Int32} (H : ((xs0 = 0 → Q 0 (some (.int (nI 1))) (HN h0 ad cs pm)) ∧ (¬ xs0 = 0 → CKi mX9_isSite 1 0 0 [some (.ref (ad (gMo 0))), some (.int x3)] (HN h0 ad cs pm) (fun v h' => Wm mX9_wrongPair 2 0 0 Q 13 [none, some (.int x1), some (.int x2), some (.int x3), some (.int x4)] [.int v] h' 0 0)))) : Wm mX9_wrongPair 2 0 0 Q 5 [some (.ref (ad (gMo 0))), some (.int x1), some (.int x2), some (.int x3), some (.int x4)] [.int xs0] (HN h0 ad cs pm) 0 0 := by
  refine rl_if_eq (tgt := 25) dX9_wrongPair_5 (by decide) (fun c_1 => ?_) (fun c_1 => ?_)
  · have H := H.1 c_1
    refine rl_iconst (v := nI 1) dX9_wrongPair_25 (by decide) ?_
    refine rl_goto (tgt := 44) dX9_wrongPair_26 (by decide) ?_
    exact rl_iret dX9_wrongPair_44 rfl (Nat.le_refl 0) (Nat.le_refl 0) H
  · have H := H.2 c_1
    refine rl_aload_n dX9_wrongPair_8 rfl rfl ?_
    refine rl_iload_n dX9_wrongPair_9 rfl rfl ?_
    exact rl_callV (As := [.int x3]) (rest := []) mfX9_isSite dX9_wrongPair_10 lkX9_96 (lMo0 L).K (by decide) (Nat.le_of_ble_eq_true rfl) (Nat.le_refl _) (Nat.le_refl _) rfl (Nat.le_of_ble_eq_true rfl) rfl rfl (fun Qc k => H Qc (fun v h' w => k (some (.int v)) h' (rl_wk (L' := [none, some (.int x1), some (.int x2), some (.int x3), some (.int x4)]) ⟨rfl, ⟨rfl, ⟨rfl, ⟨rfl, trivial⟩⟩⟩⟩ w)))
theorem tX9_wrongPair_13 {n : Nat} {ad : Nat → Nat} {h0 : Hp} {cs : Nat → Nat → Int32} {pm : Nat → Nat → Nat} (L : Lay n ad h0) {Q : Nat → Option Value → Hp → Prop} {x1 x2 x3 x4 xs0 : Int32} (H : ((xs0 = 0 → Q 0 (some (.int (nI 1))) (HN h0 ad cs pm)) ∧ (¬ xs0 = 0 → CKi mX9_in 0 0 0 [some (.int x1), some (.int (nI 0)), some (.int (nI 1))] (HN h0 ad cs pm) (fun v h' => Wm mX9_wrongPair 2 0 0 Q 22 [none, none, some (.int x2), some (.int x3), some (.int x4)] [.int v] h' 0 0)))) : Wm mX9_wrongPair 2 0 0 Q 13 [none, some (.int x1), some (.int x2), some (.int x3), some (.int x4)] [.int xs0] (HN h0 ad cs pm) 0 0 := by
  refine rl_if_eq (tgt := 25) dX9_wrongPair_13 (by decide) (fun c_1 => ?_) (fun c_1 => ?_)
  · have H := H.1 c_1
    refine rl_iconst (v := nI 1) dX9_wrongPair_25 (by decide) ?_
    refine rl_goto (tgt := 44) dX9_wrongPair_26 (by decide) ?_
    exact rl_iret dX9_wrongPair_44 rfl (Nat.le_refl 0) (Nat.le_refl 0) H
  · have H := H.2 c_1
    refine rl_iload_n dX9_wrongPair_16 rfl rfl ?_
    refine rl_iconst (v := nI 0) dX9_wrongPair_17 (by decide) ?_
    refine rl_iconst (v := nI 1) dX9_wrongPair_18 (by decide) ?_
    exact rl_callS (As := [.int x1, .int (nI 0), .int (nI 1)]) (rest := []) mfX9_in dX9_wrongPair_19 lkX9_48 (by decide) (Nat.le_of_ble_eq_true rfl) (Nat.le_refl _) (Nat.le_refl _) rfl (Nat.le_of_ble_eq_true rfl) rfl rfl (fun Qc k => H Qc (fun v h' w => k (some (.int v)) h' (rl_wk (L' := [none, none, some (.int x2), some (.int x3), some (.int x4)]) ⟨rfl, ⟨rfl, ⟨rfl, trivial⟩⟩⟩ w)))
theorem tX9_wrongPair_22 {n : Nat} {ad : Nat → Nat} {h0 : Hp} {cs : Nat → Nat → Int32} {pm : Nat → Nat → Nat} (L : Lay n ad h0) {Q : Nat → Option Value → Hp → Prop} {x2 x3 x4 xs0 : Int32} (H : ((¬ xs0 = 0 → ((x2 = x3 → Q 0 (some (.int (nI 2))) (HN h0 ad cs pm)) ∧ (¬ x2 = x3 → ((¬ x4 = 0 → Q 0 (some (.int (nI 0))) (HN h0 ad cs pm)) ∧ (x4 = 0 → Q 0 (some (.int (nI 2))) (HN h0 ad cs pm)))))) ∧ (xs0 = 0 → Q 0 (some (.int (nI 1))) (HN h0 ad cs pm)))) : Wm mX9_wrongPair 2 0 0 Q 22 [none, none, some (.int x2), some (.int x3), some (.int x4)] [.int xs0] (HN h0 ad cs pm) 0 0 := by
  refine rl_if_ne (tgt := 29) dX9_wrongPair_22 (by decide) (fun c_1 => ?_) (fun c_1 => ?_)
  · have H := H.1 c_1
    refine rl_iload_n dX9_wrongPair_29 rfl rfl ?_
    refine rl_iload_n dX9_wrongPair_30 rfl rfl ?_
    refine rl_icmp_eq (tgt := 39) dX9_wrongPair_31 (by decide) (fun c_2 => ?_) (fun c_2 => ?_)
    · have H := H.1 c_2
      refine rl_iconst (v := nI 2) dX9_wrongPair_39 (by decide) ?_
      refine rl_goto (tgt := 44) dX9_wrongPair_40 (by decide) ?_
      exact rl_iret dX9_wrongPair_44 rfl (Nat.le_refl 0) (Nat.le_refl 0) H
    · have H := H.2 c_2
      refine rl_iload dX9_wrongPair_34 rfl ?_
      refine rl_if_ne (tgt := 43) dX9_wrongPair_36 (by decide) (fun c_3 => ?_) (fun c_3 => ?_)
      · have H := H.1 c_3
        refine rl_iconst (v := nI 0) dX9_wrongPair_43 (by decide) ?_
        exact rl_iret dX9_wrongPair_44 rfl (Nat.le_refl 0) (Nat.le_refl 0) H
      · have H := H.2 c_3
        refine rl_iconst (v := nI 2) dX9_wrongPair_39 (by decide) ?_
        refine rl_goto (tgt := 44) dX9_wrongPair_40 (by decide) ?_
        exact rl_iret dX9_wrongPair_44 rfl (Nat.le_refl 0) (Nat.le_refl 0) H
  · have H := H.2 c_1
    refine rl_iconst (v := nI 1) dX9_wrongPair_25 (by decide) ?_
    refine rl_goto (tgt := 44) dX9_wrongPair_26 (by decide) ?_
    exact rl_iret dX9_wrongPair_44 rfl (Nat.le_refl 0) (Nat.le_refl 0) H
theorem tX9_gives_0 {n : Nat} {ad : Nat → Nat} {h0 : Hp} {cs : Nat → Nat → Int32} {pm : Nat → Nat → Nat} (L : Lay n ad h0) {Q : Nat → Option Value → Hp → Prop} {x1 x2 x3 x4 : Int32} (H : CKi mX9_mineAt 1 0 0 [some (.ref (ad (gMo 0))), some (.int x2)] (HN h0 ad cs pm) (fun v h' => Wm mX9_gives 3 0 0 Q 9 [some (.ref (ad (gMo 0))), some (.int x1), some (.int x2), some (.int x3), some (.int x4)] [.int v, .ref (ad (gMo 1))] h' 0 0)) : Wm mX9_gives 3 0 0 Q 0 [some (.ref (ad (gMo 0))), some (.int x1), some (.int x2), some (.int x3), some (.int x4)] [] (HN h0 ad cs pm) 0 0 := by
  refine rl_aload_n dX9_gives_0 rfl rfl ?_
  refine rt_getP (k := 1) cfX9 dX9_gives_1 flX9_7 (by decide) rfl (lMo0 L) (rMo1 L) naMo ?_
  refine rl_aload_n dX9_gives_4 rfl rfl ?_
  refine rl_iload_n dX9_gives_5 rfl rfl ?_
  exact rl_callV (As := [.int x2]) (rest := [.ref (ad (gMo 1))]) mfX9_mineAt dX9_gives_6 lkX9_56 (lMo0 L).K (by decide) (Nat.le_of_ble_eq_true rfl) (Nat.le_refl _) (Nat.le_refl _) rfl (Nat.le_of_ble_eq_true rfl) rfl rfl (fun Qc k => H Qc (fun v h' w => k (some (.int v)) h' w))
theorem tX9_gives_9 {n : Nat} {ad : Nat → Nat} {h0 : Hp} {cs : Nat → Nat → Int32} {pm : Nat → Nat → Nat} (L : Lay n ad h0) {Q : Nat → Option Value → Hp → Prop} {x1 x2 x3 x4 xs1 : Int32} (H : (∃ j_1 : Nat, ((xs1 + (nI 4)) + ((nI 5) * x1)) + x3 = nI j_1 ∧ j_1 < 2400 ∧ (CKv mX9_changed 2 0 0 [some (.ref (ad (gMo 0))), some (.int x2)] (HN h0 ad (up2 cs (gMo 1) j_1 ((cs (gMo 1) j_1) + x4)) pm) (fun h' => Wm mX9_gives 3 0 0 Q 28 [none, none, none, none, none] [] h' 0 0)))) : Wm mX9_gives 3 0 0 Q 9 [some (.ref (ad (gMo 0))), some (.int x1), some (.int x2), some (.int x3), some (.int x4)] [.int xs1, .ref (ad (gMo 1))] (HN h0 ad cs pm) 0 0 := by
  refine rl_iconst (v := nI 4) dX9_gives_9 (by decide) ?_
  refine rl_iadd dX9_gives_10 ?_
  refine rl_iconst (v := nI 5) dX9_gives_11 (by decide) ?_
  refine rl_iload_n dX9_gives_12 rfl rfl ?_
  refine rl_imul dX9_gives_13 ?_
  refine rl_iadd dX9_gives_14 ?_
  refine rl_iload_n dX9_gives_15 rfl rfl ?_
  refine rl_iadd dX9_gives_16 ?_
  refine rl_dup2 dX9_gives_17 rfl rfl ?_
  obtain ⟨j_1, e_2, b_3, H⟩ := H
  refine rt_iald (j := j_1) dX9_gives_18 (lMo1 L) nzMo e_2 b_3 (by decide) ?_
  refine rl_iload dX9_gives_19 rfl ?_
  refine rl_iadd dX9_gives_21 ?_
  refine rt_iast (j := j_1) L.2.1 dX9_gives_22 (lMo1 L) nzMo e_2 b_3 (by decide) ?_
  refine rl_aload_n dX9_gives_23 rfl rfl ?_
  refine rl_iload_n dX9_gives_24 rfl rfl ?_
  exact rl_callV (As := [.int x2]) (rest := []) mfX9_changed dX9_gives_25 lkX9_89 (lMo0 L).K (by decide) (Nat.le_of_ble_eq_true rfl) (Nat.le_refl _) (Nat.le_refl _) rfl (Nat.le_of_ble_eq_true rfl) rfl rfl (fun Qc k => H Qc (fun h' w => k none h' (rl_wk (L' := [none, none, none, none, none]) trivial w)))
theorem tX9_gives_28 {n : Nat} {ad : Nat → Nat} {h0 : Hp} {cs : Nat → Nat → Int32} {pm : Nat → Nat → Nat} (L : Lay n ad h0) {Q : Nat → Option Value → Hp → Prop}  (H : Q 0 none (HN h0 ad cs pm)) : Wm mX9_gives 3 0 0 Q 28 [none, none, none, none, none] [] (HN h0 ad cs pm) 0 0 := by
  exact rl_vret dX9_gives_28 rfl (Nat.le_refl 0) (Nat.le_refl 0) H
theorem tX9_lend_0 {n : Nat} {ad : Nat → Nat} {h0 : Hp} {cs : Nat → Nat → Int32} {pm : Nat → Nat → Nat} (L : Lay n ad h0) {Q : Nat → Option Value → Hp → Prop} {x1 x2 x3 x4 x5 : Int32} (H : CKi mX9_in 0 0 0 [some (.int x4), some (.int (nI 1)), some (.int (nI 999))] (HN h0 ad cs pm) (fun v h' => Wm mX9_lend 4 0 0 Q 14 [some (.ref (ad (gMo 0))), some (.int x1), some (.int x2), some (.int x3), some (.int x4), some (.int x5), none, none] [.int v, .int x3, .int x2, .int x1, .ref (ad (gMo 0)), .ref (ad (gMo 0))] h' 0 0)) : Wm mX9_lend 4 0 0 Q 0 [some (.ref (ad (gMo 0))), some (.int x1), some (.int x2), some (.int x3), some (.int x4), some (.int x5), none, none] [] (HN h0 ad cs pm) 0 0 := by
  refine rl_aload_n dX9_lend_0 rfl rfl ?_
  refine rl_aload_n dX9_lend_1 rfl rfl ?_
  refine rl_iload_n dX9_lend_2 rfl rfl ?_
  refine rl_iload_n dX9_lend_3 rfl rfl ?_
  refine rl_iload_n dX9_lend_4 rfl rfl ?_
  refine rl_iload dX9_lend_5 rfl ?_
  refine rl_iconst (v := nI 1) dX9_lend_7 (by decide) ?_
  refine rl_sipush (v := nI 999) dX9_lend_8 (by decide) ?_
  exact rl_callS (As := [.int x4, .int (nI 1), .int (nI 999)]) (rest := [.int x3, .int x2, .int x1, .ref (ad (gMo 0)), .ref (ad (gMo 0))]) mfX9_in dX9_lend_11 lkX9_48 (by decide) (Nat.le_of_ble_eq_true rfl) (Nat.le_refl _) (Nat.le_refl _) rfl (Nat.le_of_ble_eq_true rfl) rfl rfl (fun Qc k => H Qc (fun v h' w => k (some (.int v)) h' w))
theorem tX9_lend_14 {n : Nat} {ad : Nat → Nat} {h0 : Hp} {cs : Nat → Nat → Int32} {pm : Nat → Nat → Nat} (L : Lay n ad h0) {Q : Nat → Option Value → Hp → Prop} {x1 x2 x3 x4 x5 xs2 xs3 xs4 xs5 : Int32} (H : ((xs5 = 0 → CKi mX9_wrongPair 2 0 0 [some (.ref (ad (gMo 0))), some (.int xs2), some (.int xs3), some (.int xs4), some (.int (nI 0))] (HN h0 ad cs pm) (fun v h' => Wm mX9_lend 4 0 0 Q 37 [some (.ref (ad (gMo 0))), some (.int x1), some (.int x2), some (.int x3), some (.int x4), some (.int x5), none, none] [.int v, .ref (ad (gMo 0))] h' 0 0)) ∧ (¬ xs5 = 0 → CKi mX9_in 0 0 0 [some (.int x5), some (.int (nI 1)), some (.int (nI 1000))] (HN h0 ad cs pm) (fun v h' => Wm mX9_lend 4 0 0 Q 26 [some (.ref (ad (gMo 0))), some (.int x1), some (.int x2), some (.int x3), some (.int x4), some (.int x5), none, none] [.int v, .int xs4, .int xs3, .int xs2, .ref (ad (gMo 0)), .ref (ad (gMo 0))] h' 0 0)))) : Wm mX9_lend 4 0 0 Q 14 [some (.ref (ad (gMo 0))), some (.int x1), some (.int x2), some (.int x3), some (.int x4), some (.int x5), none, none] [.int xs5, .int xs4, .int xs3, .int xs2, .ref (ad (gMo 0)), .ref (ad (gMo 0))] (HN h0 ad cs pm) 0 0 := by
  refine rl_if_eq (tgt := 33) dX9_lend_14 (by decide) (fun c_1 => ?_) (fun c_1 => ?_)
  · have H := H.1 c_1
    refine rl_iconst (v := nI 0) dX9_lend_33 (by decide) ?_
    exact rl_callV (As := [.int xs2, .int xs3, .int xs4, .int (nI 0)]) (rest := [.ref (ad (gMo 0))]) mfX9_wrongPair dX9_lend_34 lkX9_115 (lMo0 L).K (by decide) (Nat.le_of_ble_eq_true rfl) (Nat.le_refl _) (Nat.le_refl _) rfl (Nat.le_of_ble_eq_true rfl) rfl rfl (fun Qc k => H Qc (fun v h' w => k (some (.int v)) h' w))
  · have H := H.2 c_1
    refine rl_iload dX9_lend_17 rfl ?_
    refine rl_iconst (v := nI 1) dX9_lend_19 (by decide) ?_
    refine rl_sipush (v := nI 1000) dX9_lend_20 (by decide) ?_
    exact rl_callS (As := [.int x5, .int (nI 1), .int (nI 1000)]) (rest := [.int xs4, .int xs3, .int xs2, .ref (ad (gMo 0)), .ref (ad (gMo 0))]) mfX9_in dX9_lend_23 lkX9_48 (by decide) (Nat.le_of_ble_eq_true rfl) (Nat.le_refl _) (Nat.le_refl _) rfl (Nat.le_of_ble_eq_true rfl) rfl rfl (fun Qc k => H Qc (fun v h' w => k (some (.int v)) h' w))
theorem tX9_lend_26 {n : Nat} {ad : Nat → Nat} {h0 : Hp} {cs : Nat → Nat → Int32} {pm : Nat → Nat → Nat} (L : Lay n ad h0) {Q : Nat → Option Value → Hp → Prop} {x1 x2 x3 x4 x5 xs2 xs3 xs4 xs5 : Int32} (H : ((xs5 = 0 → CKi mX9_wrongPair 2 0 0 [some (.ref (ad (gMo 0))), some (.int xs2), some (.int xs3), some (.int xs4), some (.int (nI 0))] (HN h0 ad cs pm) (fun v h' => Wm mX9_lend 4 0 0 Q 37 [some (.ref (ad (gMo 0))), some (.int x1), some (.int x2), some (.int x3), some (.int x4), some (.int x5), none, none] [.int v, .ref (ad (gMo 0))] h' 0 0)) ∧ (¬ xs5 = 0 → CKi mX9_wrongPair 2 0 0 [some (.ref (ad (gMo 0))), some (.int xs2), some (.int xs3), some (.int xs4), some (.int (nI 1))] (HN h0 ad cs pm) (fun v h' => Wm mX9_lend 4 0 0 Q 37 [some (.ref (ad (gMo 0))), some (.int x1), some (.int x2), some (.int x3), some (.int x4), some (.int x5), none, none] [.int v, .ref (ad (gMo 0))] h' 0 0)))) : Wm mX9_lend 4 0 0 Q 26 [some (.ref (ad (gMo 0))), some (.int x1), some (.int x2), some (.int x3), some (.int x4), some (.int x5), none, none] [.int xs5, .int xs4, .int xs3, .int xs2, .ref (ad (gMo 0)), .ref (ad (gMo 0))] (HN h0 ad cs pm) 0 0 := by
  refine rl_if_eq (tgt := 33) dX9_lend_26 (by decide) (fun c_1 => ?_) (fun c_1 => ?_)
  · have H := H.1 c_1
    refine rl_iconst (v := nI 0) dX9_lend_33 (by decide) ?_
    exact rl_callV (As := [.int xs2, .int xs3, .int xs4, .int (nI 0)]) (rest := [.ref (ad (gMo 0))]) mfX9_wrongPair dX9_lend_34 lkX9_115 (lMo0 L).K (by decide) (Nat.le_of_ble_eq_true rfl) (Nat.le_refl _) (Nat.le_refl _) rfl (Nat.le_of_ble_eq_true rfl) rfl rfl (fun Qc k => H Qc (fun v h' w => k (some (.int v)) h' w))
  · have H := H.2 c_1
    refine rl_iconst (v := nI 1) dX9_lend_29 (by decide) ?_
    refine rl_goto (tgt := 34) dX9_lend_30 (by decide) ?_
    exact rl_callV (As := [.int xs2, .int xs3, .int xs4, .int (nI 1)]) (rest := [.ref (ad (gMo 0))]) mfX9_wrongPair dX9_lend_34 lkX9_115 (lMo0 L).K (by decide) (Nat.le_of_ble_eq_true rfl) (Nat.le_refl _) (Nat.le_refl _) rfl (Nat.le_of_ble_eq_true rfl) rfl rfl (fun Qc k => H Qc (fun v h' w => k (some (.int v)) h' w))
theorem tX9_lend_37 {n : Nat} {ad : Nat → Nat} {h0 : Hp} {cs : Nat → Nat → Int32} {pm : Nat → Nat → Nat} (L : Lay n ad h0) {Q : Nat → Option Value → Hp → Prop} {x1 x2 x3 x4 x5 xs1 : Int32} (H : ((¬ xs1 = 0 → Wm mX9_lend 4 0 0 Q 74 [some (.ref (ad (gMo 0))), some (.int x1), some (.int x2), some (.int x3), some (.int x4), some (.int x5), none, none] [] (HN h0 ad (up2 cs (gMo 0) 7 xs1) pm) 0 0) ∧ (xs1 = 0 → (((cs (gMo 1) 4) = (nI 10) → Wm mX9_lend 4 0 0 Q 69 [some (.ref (ad (gMo 0))), some (.int x1), some (.int x2), some (.int x3), some (.int x4), some (.int x5), none, none] [] (HN h0 ad (up2 cs (gMo 0) 7 xs1) pm) 0 0) ∧ (¬ (cs (gMo 1) 4) = (nI 10) → CKi mX9_ownRights 3 0 0 [some (.ref (ad (gMo 0))), some (.int x2), some (.int x1), none, none, none, none, none] (HN h0 ad (up2 cs (gMo 0) 7 xs1) pm) (fun v h' => Wm mX9_lend 4 0 0 Q 64 [some (.ref (ad (gMo 0))), some (.int x1), some (.int x2), some (.int x3), some (.int x4), some (.int x5), none, none] [.int v] h' 0 0)))))) : Wm mX9_lend 4 0 0 Q 37 [some (.ref (ad (gMo 0))), some (.int x1), some (.int x2), some (.int x3), some (.int x4), some (.int x5), none, none] [.int xs1, .ref (ad (gMo 0))] (HN h0 ad cs pm) 0 0 := by
  refine rt_putI (k := 7) L.2.1 cfX9 dX9_lend_37 flX9_42 (by decide) rfl (lMo0 L) nzMo (Or.inl rfl) ?_
  refine rl_aload_n dX9_lend_40 rfl rfl ?_
  refine rt_getIv (x := xs1) (k := 7) cfX9 dX9_lend_41 flX9_42 (by decide) rfl (lMo0 L) nzMo (up2_s) ?_
  refine rl_if_ne (tgt := 74) dX9_lend_44 (by decide) (fun c_1 => ?_) (fun c_1 => ?_)
  · have H := H.1 c_1
    exact H
  · have H := H.2 c_1
    refine rl_aload_n dX9_lend_47 rfl rfl ?_
    refine rt_getP (k := 1) cfX9 dX9_lend_48 flX9_7 (by decide) rfl (lMo0 L) (rMo1 L) naMo ?_
    refine rl_iconst (v := nI 4) dX9_lend_51 (by decide) ?_
    refine rt_ialdv (y := cs (gMo 1) 4) (j := 4) dX9_lend_52 (lMo1 L) nzMo rfl (by decide) (by decide) ((up2_k (by decide)).trans (rfl)) ?_
    refine rl_bipush (v := nI 10) dX9_lend_53 (by decide) ?_
    refine rl_icmp_eq (tgt := 69) dX9_lend_55 (by decide) (fun c_2 => ?_) (fun c_2 => ?_)
    · have H := H.1 c_2
      exact H
    · have H := H.2 c_2
      refine rl_aload_n dX9_lend_58 rfl rfl ?_
      refine rl_iload_n dX9_lend_59 rfl rfl ?_
      refine rl_iload_n dX9_lend_60 rfl rfl ?_
      exact rl_callV (As := [.int x2, .int x1]) (rest := []) mfX9_ownRights dX9_lend_61 lkX9_79 (lMo0 L).K (by decide) (Nat.le_of_ble_eq_true rfl) (Nat.le_refl _) (Nat.le_refl _) rfl (Nat.le_of_ble_eq_true rfl) rfl rfl (fun Qc k => H Qc (fun v h' w => k (some (.int v)) h' w))
theorem tX9_lend_64 {n : Nat} {ad : Nat → Nat} {h0 : Hp} {cs : Nat → Nat → Int32} {pm : Nat → Nat → Nat} (L : Lay n ad h0) {Q : Nat → Option Value → Hp → Prop} {x1 x2 x3 x4 x5 xs0 : Int32} (H : ((x4 ≤ xs0 → Wm mX9_lend 4 0 0 Q 74 [some (.ref (ad (gMo 0))), some (.int x1), some (.int x2), some (.int x3), some (.int x4), some (.int x5), none, none] [] (HN h0 ad cs pm) 0 0) ∧ (¬ x4 ≤ xs0 → Wm mX9_lend 4 0 0 Q 69 [some (.ref (ad (gMo 0))), some (.int x1), some (.int x2), some (.int x3), some (.int x4), some (.int x5), none, none] [] (HN h0 ad cs pm) 0 0))) : Wm mX9_lend 4 0 0 Q 64 [some (.ref (ad (gMo 0))), some (.int x1), some (.int x2), some (.int x3), some (.int x4), some (.int x5), none, none] [.int xs0] (HN h0 ad cs pm) 0 0 := by
  refine rl_iload dX9_lend_64 rfl ?_
  refine rl_icmp_ge (tgt := 74) dX9_lend_66 (by decide) (fun c_1 => ?_) (fun c_1 => ?_)
  · have H := H.1 c_1
    exact H
  · have H := H.2 c_1
    exact H
theorem tX9_lend_69 {n : Nat} {ad : Nat → Nat} {h0 : Hp} {cs : Nat → Nat → Int32} {pm : Nat → Nat → Nat} (L : Lay n ad h0) {Q : Nat → Option Value → Hp → Prop} {x1 x2 x3 x4 x5 : Int32} (H : Wm mX9_lend 4 0 0 Q 74 [some (.ref (ad (gMo 0))), some (.int x1), some (.int x2), some (.int x3), some (.int x4), some (.int x5), none, none] [] (HN h0 ad (up2 cs (gMo 0) 7 (nI 3)) pm) 0 0) : Wm mX9_lend 4 0 0 Q 69 [some (.ref (ad (gMo 0))), some (.int x1), some (.int x2), some (.int x3), some (.int x4), some (.int x5), none, none] [] (HN h0 ad cs pm) 0 0 := by
  refine rl_aload_n dX9_lend_69 rfl rfl ?_
  refine rl_iconst (v := nI 3) dX9_lend_70 (by decide) ?_
  refine rt_putI (k := 7) L.2.1 cfX9 dX9_lend_71 flX9_42 (by decide) rfl (lMo0 L) nzMo (Or.inl rfl) ?_
  exact H
theorem tX9_lend_74 {n : Nat} {ad : Nat → Nat} {h0 : Hp} {cs : Nat → Nat → Int32} {pm : Nat → Nat → Nat} (L : Lay n ad h0) {Q : Nat → Option Value → Hp → Prop} {x1 x2 x3 x4 x5 : Int32} (H : (((cs (gMo 0) 7) = 0 → CKv mX9_act 0 0 0 [some (.ref (ad (gMo 0))), none] (HN h0 ad cs pm) (fun h' => Wm mX9_lend 4 0 0 Q 87 [some (.ref (ad (gMo 0))), some (.int x1), some (.int x2), some (.int x3), some (.int x4), some (.int x5), none, none] [] h' 0 0)) ∧ (¬ (cs (gMo 0) 7) = 0 → Q 0 (some (.int (nI 0))) (HN h0 ad cs pm)))) : Wm mX9_lend 4 0 0 Q 74 [some (.ref (ad (gMo 0))), some (.int x1), some (.int x2), some (.int x3), some (.int x4), some (.int x5), none, none] [] (HN h0 ad cs pm) 0 0 := by
  refine rl_aload_n dX9_lend_74 rfl rfl ?_
  refine rt_getI (k := 7) cfX9 dX9_lend_75 flX9_42 (by decide) rfl (lMo0 L) nzMo ?_
  refine rl_if_eq (tgt := 83) dX9_lend_78 (by decide) (fun c_1 => ?_) (fun c_1 => ?_)
  · have H := H.1 c_1
    refine rl_aload_n dX9_lend_83 rfl rfl ?_
    exact rl_callV (As := []) (rest := []) mfX9_act dX9_lend_84 lkX9_99 (lMo0 L).K (by decide) (Nat.le_of_ble_eq_true rfl) (Nat.le_refl _) (Nat.le_refl _) rfl (Nat.le_of_ble_eq_true rfl) rfl rfl (fun Qc k => H Qc (fun h' w => k none h' w))
  · have H := H.2 c_1
    refine rl_iconst (v := nI 0) dX9_lend_81 (by decide) ?_
    exact rl_iret dX9_lend_82 rfl (Nat.le_refl 0) (Nat.le_refl 0) H
theorem tX9_lend_87 {n : Nat} {ad : Nat → Nat} {h0 : Hp} {cs : Nat → Nat → Int32} {pm : Nat → Nat → Nat} (L : Lay n ad h0) {Q : Nat → Option Value → Hp → Prop} {x1 x2 x3 x4 x5 : Int32} (H : CKi mX9_loanAt 0 0 0 [some (.int (cs (gMo 1) 4))] (HN h0 ad cs pm) (fun v h' => Wm mX9_lend 4 0 0 Q 100 [some (.ref (ad (gMo 0))), some (.int x1), some (.int x2), some (.int x3), some (.int x4), some (.int x5), some (.int (cs (gMo 1) 4)), none] [.int v] h' 0 0)) : Wm mX9_lend 4 0 0 Q 87 [some (.ref (ad (gMo 0))), some (.int x1), some (.int x2), some (.int x3), some (.int x4), some (.int x5), none, none] [] (HN h0 ad cs pm) 0 0 := by
  refine rl_aload_n dX9_lend_87 rfl rfl ?_
  refine rt_getP (k := 1) cfX9 dX9_lend_88 flX9_7 (by decide) rfl (lMo0 L) (rMo1 L) naMo ?_
  refine rl_iconst (v := nI 4) dX9_lend_91 (by decide) ?_
  refine rt_iald (j := 4) dX9_lend_92 (lMo1 L) nzMo rfl (by decide) (by decide) ?_
  refine rl_istore (L' := [some (.ref (ad (gMo 0))), some (.int x1), some (.int x2), some (.int x3), some (.int x4), some (.int x5), some (.int (cs (gMo 1) 4)), none]) dX9_lend_93 (Nat.le_of_ble_eq_true rfl) rfl ?_
  refine rl_iload dX9_lend_95 rfl ?_
  exact rl_callS (As := [.int (cs (gMo 1) 4)]) (rest := []) mfX9_loanAt dX9_lend_97 lkX9_60 (by decide) (Nat.le_of_ble_eq_true rfl) (Nat.le_refl _) (Nat.le_refl _) rfl (Nat.le_of_ble_eq_true rfl) rfl rfl (fun Qc k => H Qc (fun v h' w => k (some (.int v)) h' w))
theorem tX9_lend_100 {n : Nat} {ad : Nat → Nat} {h0 : Hp} {cs : Nat → Nat → Int32} {pm : Nat → Nat → Nat} (L : Lay n ad h0) {Q : Nat → Option Value → Hp → Prop} {x1 x2 x3 x4 x5 x6 xs0 : Int32} (H : (∃ j_1 : Nat, xs0 = nI j_1 ∧ j_1 < 2400 ∧ (∃ j_4 : Nat, xs0 + (nI 1) = nI j_4 ∧ j_4 < 2400 ∧ (∃ j_7 : Nat, xs0 + (nI 2) = nI j_7 ∧ j_7 < 2400 ∧ (∃ j_10 : Nat, xs0 + (nI 3) = nI j_10 ∧ j_10 < 2400 ∧ (∃ j_13 : Nat, xs0 + (nI 4) = nI j_13 ∧ j_13 < 2400 ∧ (CKi mX9_mineAt 1 0 0 [some (.ref (ad (gMo 0))), some (.int x2)] (HN h0 ad (up2 (up2 (up2 (up2 (up2 cs (gMo 1) j_1 x2) (gMo 1) j_4 x3) (gMo 1) j_7 x1) (gMo 1) j_10 x4) (gMo 1) j_13 (((up2 (up2 (up2 (up2 cs (gMo 1) j_1 x2) (gMo 1) j_4 x3) (gMo 1) j_7 x1) (gMo 1) j_10 x4) (gMo 1) 0) + x5)) pm) (fun v h' => Wm mX9_lend 4 0 0 Q 168 [some (.ref (ad (gMo 0))), none, some (.int x2), none, none, none, some (.int x6), none] [.int v, .ref (ad (gMo 1))] h' 0 0)))))))) : Wm mX9_lend 4 0 0 Q 100 [some (.ref (ad (gMo 0))), some (.int x1), some (.int x2), some (.int x3), some (.int x4), some (.int x5), some (.int x6), none] [.int xs0] (HN h0 ad cs pm) 0 0 := by
  refine rl_istore (L' := [some (.ref (ad (gMo 0))), some (.int x1), some (.int x2), some (.int x3), some (.int x4), some (.int x5), some (.int x6), some (.int xs0)]) dX9_lend_100 (Nat.le_of_ble_eq_true rfl) rfl ?_
  refine rl_aload_n dX9_lend_102 rfl rfl ?_
  refine rt_getP (k := 1) cfX9 dX9_lend_103 flX9_7 (by decide) rfl (lMo0 L) (rMo1 L) naMo ?_
  refine rl_iload dX9_lend_106 rfl ?_
  refine rl_iload_n dX9_lend_108 rfl rfl ?_
  obtain ⟨j_1, e_2, b_3, H⟩ := H
  refine rt_iast (j := j_1) L.2.1 dX9_lend_109 (lMo1 L) nzMo e_2 b_3 (by decide) ?_
  refine rl_aload_n dX9_lend_110 rfl rfl ?_
  refine rt_getP (k := 1) cfX9 dX9_lend_111 flX9_7 (by decide) rfl (lMo0 L) (rMo1 L) naMo ?_
  refine rl_iload dX9_lend_114 rfl ?_
  refine rl_iconst (v := nI 1) dX9_lend_116 (by decide) ?_
  refine rl_iadd dX9_lend_117 ?_
  refine rl_iload_n dX9_lend_118 rfl rfl ?_
  obtain ⟨j_4, e_5, b_6, H⟩ := H
  refine rt_iast (j := j_4) L.2.1 dX9_lend_119 (lMo1 L) nzMo e_5 b_6 (by decide) ?_
  refine rl_aload_n dX9_lend_120 rfl rfl ?_
  refine rt_getP (k := 1) cfX9 dX9_lend_121 flX9_7 (by decide) rfl (lMo0 L) (rMo1 L) naMo ?_
  refine rl_iload dX9_lend_124 rfl ?_
  refine rl_iconst (v := nI 2) dX9_lend_126 (by decide) ?_
  refine rl_iadd dX9_lend_127 ?_
  refine rl_iload_n dX9_lend_128 rfl rfl ?_
  obtain ⟨j_7, e_8, b_9, H⟩ := H
  refine rt_iast (j := j_7) L.2.1 dX9_lend_129 (lMo1 L) nzMo e_8 b_9 (by decide) ?_
  refine rl_aload_n dX9_lend_130 rfl rfl ?_
  refine rt_getP (k := 1) cfX9 dX9_lend_131 flX9_7 (by decide) rfl (lMo0 L) (rMo1 L) naMo ?_
  refine rl_iload dX9_lend_134 rfl ?_
  refine rl_iconst (v := nI 3) dX9_lend_136 (by decide) ?_
  refine rl_iadd dX9_lend_137 ?_
  refine rl_iload dX9_lend_138 rfl ?_
  obtain ⟨j_10, e_11, b_12, H⟩ := H
  refine rt_iast (j := j_10) L.2.1 dX9_lend_140 (lMo1 L) nzMo e_11 b_12 (by decide) ?_
  refine rl_aload_n dX9_lend_141 rfl rfl ?_
  refine rt_getP (k := 1) cfX9 dX9_lend_142 flX9_7 (by decide) rfl (lMo0 L) (rMo1 L) naMo ?_
  refine rl_iload dX9_lend_145 rfl ?_
  refine rl_iconst (v := nI 4) dX9_lend_147 (by decide) ?_
  refine rl_iadd dX9_lend_148 ?_
  refine rl_aload_n dX9_lend_149 rfl rfl ?_
  refine rt_getP (k := 1) cfX9 dX9_lend_150 flX9_7 (by decide) rfl (lMo0 L) (rMo1 L) naMo ?_
  refine rl_iconst (v := nI 0) dX9_lend_153 (by decide) ?_
  refine rt_iald (j := 0) dX9_lend_154 (lMo1 L) nzMo rfl (by decide) (by decide) ?_
  refine rl_iload dX9_lend_155 rfl ?_
  refine rl_iadd dX9_lend_157 ?_
  obtain ⟨j_13, e_14, b_15, H⟩ := H
  refine rt_iast (j := j_13) L.2.1 dX9_lend_158 (lMo1 L) nzMo e_14 b_15 (by decide) ?_
  refine rl_aload_n dX9_lend_159 rfl rfl ?_
  refine rt_getP (k := 1) cfX9 dX9_lend_160 flX9_7 (by decide) rfl (lMo0 L) (rMo1 L) naMo ?_
  refine rl_aload_n dX9_lend_163 rfl rfl ?_
  refine rl_iload_n dX9_lend_164 rfl rfl ?_
  exact rl_callV (As := [.int x2]) (rest := [.ref (ad (gMo 1))]) mfX9_mineAt dX9_lend_165 lkX9_56 (lMo0 L).K (by decide) (Nat.le_of_ble_eq_true rfl) (Nat.le_refl _) (Nat.le_refl _) rfl (Nat.le_of_ble_eq_true rfl) rfl rfl (fun Qc k => H Qc (fun v h' w => k (some (.int v)) h' (rl_wk (L' := [some (.ref (ad (gMo 0))), none, some (.int x2), none, none, none, some (.int x6), none]) ⟨rfl, ⟨rfl, ⟨rfl, trivial⟩⟩⟩ w)))
theorem tX9_lend_168 {n : Nat} {ad : Nat → Nat} {h0 : Hp} {cs : Nat → Nat → Int32} {pm : Nat → Nat → Nat} (L : Lay n ad h0) {Q : Nat → Option Value → Hp → Prop} {x2 x6 xs1 : Int32} (H : (∃ j_1 : Nat, xs1 + (nI 16) = nI j_1 ∧ j_1 < 2400 ∧ (CKv mX9_changed 2 0 0 [some (.ref (ad (gMo 0))), some (.int x2)] (HN h0 ad (up2 (up2 cs (gMo 1) j_1 ((cs (gMo 1) j_1) ||| ((nI 1) <<< (x6 &&& 31)))) (gMo 1) 4 (((up2 cs (gMo 1) j_1 ((cs (gMo 1) j_1) ||| ((nI 1) <<< (x6 &&& 31)))) (gMo 1) 4) + (nI 1))) pm) (fun h' => Wm mX9_lend 4 0 0 Q 194 [none, none, none, none, none, none, some (.int x6), none] [] h' 0 0)))) : Wm mX9_lend 4 0 0 Q 168 [some (.ref (ad (gMo 0))), none, some (.int x2), none, none, none, some (.int x6), none] [.int xs1, .ref (ad (gMo 1))] (HN h0 ad cs pm) 0 0 := by
  refine rl_bipush (v := nI 16) dX9_lend_168 (by decide) ?_
  refine rl_iadd dX9_lend_170 ?_
  refine rl_dup2 dX9_lend_171 rfl rfl ?_
  obtain ⟨j_1, e_2, b_3, H⟩ := H
  refine rt_iald (j := j_1) dX9_lend_172 (lMo1 L) nzMo e_2 b_3 (by decide) ?_
  refine rl_iconst (v := nI 1) dX9_lend_173 (by decide) ?_
  refine rl_iload dX9_lend_174 rfl ?_
  refine rl_ishl dX9_lend_176 ?_
  refine rl_ior dX9_lend_177 ?_
  refine rt_iast (j := j_1) L.2.1 dX9_lend_178 (lMo1 L) nzMo e_2 b_3 (by decide) ?_
  refine rl_aload_n dX9_lend_179 rfl rfl ?_
  refine rt_getP (k := 1) cfX9 dX9_lend_180 flX9_7 (by decide) rfl (lMo0 L) (rMo1 L) naMo ?_
  refine rl_iconst (v := nI 4) dX9_lend_183 (by decide) ?_
  refine rl_dup2 dX9_lend_184 rfl rfl ?_
  refine rt_iald (j := 4) dX9_lend_185 (lMo1 L) nzMo rfl (by decide) (by decide) ?_
  refine rl_iconst (v := nI 1) dX9_lend_186 (by decide) ?_
  refine rl_iadd dX9_lend_187 ?_
  refine rt_iast (j := 4) L.2.1 dX9_lend_188 (lMo1 L) nzMo rfl (by decide) (by decide) ?_
  refine rl_aload_n dX9_lend_189 rfl rfl ?_
  refine rl_iload_n dX9_lend_190 rfl rfl ?_
  exact rl_callV (As := [.int x2]) (rest := []) mfX9_changed dX9_lend_191 lkX9_89 (lMo0 L).K (by decide) (Nat.le_of_ble_eq_true rfl) (Nat.le_refl _) (Nat.le_refl _) rfl (Nat.le_of_ble_eq_true rfl) rfl rfl (fun Qc k => H Qc (fun h' w => k none h' (rl_wk (L' := [none, none, none, none, none, none, some (.int x6), none]) ⟨rfl, trivial⟩ w)))
theorem tX9_lend_194 {n : Nat} {ad : Nat → Nat} {h0 : Hp} {cs : Nat → Nat → Int32} {pm : Nat → Nat → Nat} (L : Lay n ad h0) {Q : Nat → Option Value → Hp → Prop} {x6 : Int32} (H : Q 0 (some (.int x6)) (HN h0 ad cs pm)) : Wm mX9_lend 4 0 0 Q 194 [none, none, none, none, none, none, some (.int x6), none] [] (HN h0 ad cs pm) 0 0 := by
  refine rl_iload dX9_lend_194 rfl ?_
  exact rl_iret dX9_lend_196 rfl (Nat.le_refl 0) (Nat.le_refl 0) H
theorem tX9_rebalance_0 {n : Nat} {ad : Nat → Nat} {h0 : Hp} {cs : Nat → Nat → Int32} {pm : Nat → Nat → Nat} (L : Lay n ad h0) {Q : Nat → Option Value → Hp → Prop} {x1 x2 : Int32} (H : CKi mX9_isSite 1 0 0 [some (.ref (ad (gMo 0))), some (.int x1)] (HN h0 ad cs pm) (fun v h' => Wm mX9_rebalance 4 0 0 Q 6 [some (.ref (ad (gMo 0))), some (.int x1), some (.int x2), none, none, none, none, none, none, none] [.int v, .ref (ad (gMo 0))] h' 0 0)) : Wm mX9_rebalance 4 0 0 Q 0 [some (.ref (ad (gMo 0))), some (.int x1), some (.int x2), none, none, none, none, none, none, none] [] (HN h0 ad cs pm) 0 0 := by
  refine rl_aload_n dX9_rebalance_0 rfl rfl ?_
  refine rl_aload_n dX9_rebalance_1 rfl rfl ?_
  refine rl_iload_n dX9_rebalance_2 rfl rfl ?_
  exact rl_callV (As := [.int x1]) (rest := [.ref (ad (gMo 0))]) mfX9_isSite dX9_rebalance_3 lkX9_96 (lMo0 L).K (by decide) (Nat.le_of_ble_eq_true rfl) (Nat.le_refl _) (Nat.le_refl _) rfl (Nat.le_of_ble_eq_true rfl) rfl rfl (fun Qc k => H Qc (fun v h' w => k (some (.int v)) h' w))
theorem tX9_rebalance_6 {n : Nat} {ad : Nat → Nat} {h0 : Hp} {cs : Nat → Nat → Int32} {pm : Nat → Nat → Nat} (L : Lay n ad h0) {Q : Nat → Option Value → Hp → Prop} {x1 x2 xs1 : Int32} (H : ((xs1 = 0 → Q 0 (some (.int (nI 0))) (HN h0 ad (up2 cs (gMo 0) 7 (nI 1)) pm)) ∧ (¬ xs1 = 0 → CKi mX9_in 0 0 0 [some (.int x2), some (.int (nI 0)), some (.int (nI 1))] (HN h0 ad cs pm) (fun v h' => Wm mX9_rebalance 4 0 0 Q 15 [some (.ref (ad (gMo 0))), some (.int x1), some (.int x2), none, none, none, none, none, none, none] [.int v, .ref (ad (gMo 0))] h' 0 0)))) : Wm mX9_rebalance 4 0 0 Q 6 [some (.ref (ad (gMo 0))), some (.int x1), some (.int x2), none, none, none, none, none, none, none] [.int xs1, .ref (ad (gMo 0))] (HN h0 ad cs pm) 0 0 := by
  refine rl_if_eq (tgt := 22) dX9_rebalance_6 (by decide) (fun c_1 => ?_) (fun c_1 => ?_)
  · have H := H.1 c_1
    refine rl_iconst (v := nI 1) dX9_rebalance_22 (by decide) ?_
    refine rt_putI (k := 7) L.2.1 cfX9 dX9_rebalance_23 flX9_42 (by decide) rfl (lMo0 L) nzMo (Or.inl rfl) ?_
    refine rl_aload_n dX9_rebalance_26 rfl rfl ?_
    refine rt_getIv (x := nI 1) (k := 7) cfX9 dX9_rebalance_27 flX9_42 (by decide) rfl (lMo0 L) nzMo (up2_s) ?_
    refine rl_if_eq (tgt := 35) dX9_rebalance_30 (by decide) (fun q => absurd q (by decide)) (fun _ => ?_)
    refine rl_iconst (v := nI 0) dX9_rebalance_33 (by decide) ?_
    exact rl_iret dX9_rebalance_34 rfl (Nat.le_refl 0) (Nat.le_refl 0) H
  · have H := H.2 c_1
    refine rl_iload_n dX9_rebalance_9 rfl rfl ?_
    refine rl_iconst (v := nI 0) dX9_rebalance_10 (by decide) ?_
    refine rl_iconst (v := nI 1) dX9_rebalance_11 (by decide) ?_
    exact rl_callS (As := [.int x2, .int (nI 0), .int (nI 1)]) (rest := [.ref (ad (gMo 0))]) mfX9_in dX9_rebalance_12 lkX9_48 (by decide) (Nat.le_of_ble_eq_true rfl) (Nat.le_refl _) (Nat.le_refl _) rfl (Nat.le_of_ble_eq_true rfl) rfl rfl (fun Qc k => H Qc (fun v h' w => k (some (.int v)) h' w))
theorem tX9_rebalance_15 {n : Nat} {ad : Nat → Nat} {h0 : Hp} {cs : Nat → Nat → Int32} {pm : Nat → Nat → Nat} (L : Lay n ad h0) {Q : Nat → Option Value → Hp → Prop} {x1 x2 xs1 : Int32} (H : ((xs1 = 0 → Q 0 (some (.int (nI 0))) (HN h0 ad (up2 cs (gMo 0) 7 (nI 1)) pm)) ∧ (¬ xs1 = 0 → Wm mX9_rebalance 4 0 0 Q 40 [some (.ref (ad (gMo 0))), some (.int x1), some (.int x2), some (.long 0), none, some (.int (nI 0)), none, none, none, none] [] (HN h0 ad (up2 cs (gMo 0) 7 (nI 0)) pm) 0 0))) : Wm mX9_rebalance 4 0 0 Q 15 [some (.ref (ad (gMo 0))), some (.int x1), some (.int x2), none, none, none, none, none, none, none] [.int xs1, .ref (ad (gMo 0))] (HN h0 ad cs pm) 0 0 := by
  refine rl_if_eq (tgt := 22) dX9_rebalance_15 (by decide) (fun c_1 => ?_) (fun c_1 => ?_)
  · have H := H.1 c_1
    refine rl_iconst (v := nI 1) dX9_rebalance_22 (by decide) ?_
    refine rt_putI (k := 7) L.2.1 cfX9 dX9_rebalance_23 flX9_42 (by decide) rfl (lMo0 L) nzMo (Or.inl rfl) ?_
    refine rl_aload_n dX9_rebalance_26 rfl rfl ?_
    refine rt_getIv (x := nI 1) (k := 7) cfX9 dX9_rebalance_27 flX9_42 (by decide) rfl (lMo0 L) nzMo (up2_s) ?_
    refine rl_if_eq (tgt := 35) dX9_rebalance_30 (by decide) (fun q => absurd q (by decide)) (fun _ => ?_)
    refine rl_iconst (v := nI 0) dX9_rebalance_33 (by decide) ?_
    exact rl_iret dX9_rebalance_34 rfl (Nat.le_refl 0) (Nat.le_refl 0) H
  · have H := H.2 c_1
    refine rl_iconst (v := nI 0) dX9_rebalance_18 (by decide) ?_
    refine rl_goto (tgt := 23) dX9_rebalance_19 (by decide) ?_
    refine rt_putI (k := 7) L.2.1 cfX9 dX9_rebalance_23 flX9_42 (by decide) rfl (lMo0 L) nzMo (Or.inl rfl) ?_
    refine rl_aload_n dX9_rebalance_26 rfl rfl ?_
    refine rt_getIv (x := nI 0) (k := 7) cfX9 dX9_rebalance_27 flX9_42 (by decide) rfl (lMo0 L) nzMo (up2_s) ?_
    refine rl_if_eq (tgt := 35) dX9_rebalance_30 (by decide) (fun _ => ?_) (fun q => absurd q (by decide))
    refine rl_lconst (v := 0) dX9_rebalance_35 rfl ?_
    refine rl_lstore_n (L' := [some (.ref (ad (gMo 0))), some (.int x1), some (.int x2), some (.long 0), none, none, none, none, none, none]) dX9_rebalance_36 rfl (Nat.le_of_ble_eq_true rfl) rfl ?_
    refine rl_iconst (v := nI 0) dX9_rebalance_37 (by decide) ?_
    refine rl_istore (L' := [some (.ref (ad (gMo 0))), some (.int x1), some (.int x2), some (.long 0), none, some (.int (nI 0)), none, none, none, none]) dX9_rebalance_38 (Nat.le_of_ble_eq_true rfl) rfl ?_
    exact H
theorem tX9_rebalance_40 {n : Nat} {ad : Nat → Nat} {h0 : Hp} {cs : Nat → Nat → Int32} {pm : Nat → Nat → Nat} (L : Lay n ad h0) {Q : Nat → Option Value → Hp → Prop} {x1 x2 x5 : Int32} {j3 : Int64} (H : (((cs (gMo 0) 0) ≤ x5 → CKi mX9_ownRights 3 0 0 [some (.ref (ad (gMo 0))), some (.int x1), some (.int x2), none, none, none, none, none] (HN h0 ad cs pm) (fun v h' => Wm mX9_rebalance 4 0 0 Q 81 [some (.ref (ad (gMo 0))), some (.int x1), some (.int x2), some (.long j3), none, none, none, none, none, none] [.int v] h' 0 0)) ∧ (¬ (cs (gMo 0) 0) ≤ x5 → CKi mX9_record 0 0 0 [some (.int x1), some (.int x5)] (HN h0 ad cs pm) (fun v h' => Wm mX9_rebalance 4 0 0 Q 60 [some (.ref (ad (gMo 0))), some (.int x1), some (.int x2), none, none, some (.int x5), none, none, none, none] [.int v, .ref (ad (gMo 1)), .long j3] h' 0 0)))) : Wm mX9_rebalance 4 0 0 Q 40 [some (.ref (ad (gMo 0))), some (.int x1), some (.int x2), some (.long j3), none, some (.int x5), none, none, none, none] [] (HN h0 ad cs pm) 0 0 := by
  refine rl_iload dX9_rebalance_40 rfl ?_
  refine rl_aload_n dX9_rebalance_42 rfl rfl ?_
  refine rt_getI (k := 0) cfX9 dX9_rebalance_43 flX9_34 (by decide) rfl (lMo0 L) nzMo ?_
  refine rl_icmp_ge (tgt := 75) dX9_rebalance_46 (by decide) (fun c_1 => ?_) (fun c_1 => ?_)
  · have H := H.1 c_1
    refine rl_aload_n dX9_rebalance_75 rfl rfl ?_
    refine rl_iload_n dX9_rebalance_76 rfl rfl ?_
    refine rl_iload_n dX9_rebalance_77 rfl rfl ?_
    exact rl_callV (As := [.int x1, .int x2]) (rest := []) mfX9_ownRights dX9_rebalance_78 lkX9_79 (lMo0 L).K (by decide) (Nat.le_of_ble_eq_true rfl) (Nat.le_refl _) (Nat.le_refl _) rfl (Nat.le_of_ble_eq_true rfl) rfl rfl (fun Qc k => H Qc (fun v h' w => k (some (.int v)) h' (rl_wk (L' := [some (.ref (ad (gMo 0))), some (.int x1), some (.int x2), some (.long j3), none, none, none, none, none, none]) ⟨rfl, ⟨rfl, ⟨rfl, ⟨rfl, trivial⟩⟩⟩⟩ w)))
  · have H := H.2 c_1
    refine rl_lload_n dX9_rebalance_49 rfl rfl ?_
    refine rl_aload_n dX9_rebalance_50 rfl rfl ?_
    refine rt_getP (k := 1) cfX9 dX9_rebalance_51 flX9_7 (by decide) rfl (lMo0 L) (rMo1 L) naMo ?_
    refine rl_iload_n dX9_rebalance_54 rfl rfl ?_
    refine rl_iload dX9_rebalance_55 rfl ?_
    exact rl_callS (As := [.int x1, .int x5]) (rest := [.ref (ad (gMo 1)), .long j3]) mfX9_record dX9_rebalance_57 lkX9_52 (by decide) (Nat.le_of_ble_eq_true rfl) (Nat.le_refl _) (Nat.le_refl _) rfl (Nat.le_of_ble_eq_true rfl) rfl rfl (fun Qc k => H Qc (fun v h' w => k (some (.int v)) h' (rl_wk (L' := [some (.ref (ad (gMo 0))), some (.int x1), some (.int x2), none, none, some (.int x5), none, none, none, none]) ⟨rfl, ⟨rfl, ⟨rfl, ⟨rfl, trivial⟩⟩⟩⟩ w)))
theorem tX9_rebalance_60 {n : Nat} {ad : Nat → Nat} {h0 : Hp} {cs : Nat → Nat → Int32} {pm : Nat → Nat → Nat} (L : Lay n ad h0) {Q : Nat → Option Value → Hp → Prop} {x1 x2 x5 xs2 : Int32} {js0 : Int64} (H : (∃ j_1 : Nat, (xs2 + (nI 14)) + x2 = nI j_1 ∧ j_1 < 2400 ∧ (Wm mX9_rebalance 4 0 0 Q 40 [some (.ref (ad (gMo 0))), some (.int x1), some (.int x2), some (.long (js0 + ((cs (gMo 1) j_1).toInt64))), none, some (.int (x5 + nI 1)), none, none, none, none] [] (HN h0 ad cs pm) 0 0))) : Wm mX9_rebalance 4 0 0 Q 60 [some (.ref (ad (gMo 0))), some (.int x1), some (.int x2), none, none, some (.int x5), none, none, none, none] [.int xs2, .ref (ad (gMo 1)), .long js0] (HN h0 ad cs pm) 0 0 := by
  refine rl_bipush (v := nI 14) dX9_rebalance_60 (by decide) ?_
  refine rl_iadd dX9_rebalance_62 ?_
  refine rl_iload_n dX9_rebalance_63 rfl rfl ?_
  refine rl_iadd dX9_rebalance_64 ?_
  obtain ⟨j_1, e_2, b_3, H⟩ := H
  refine rt_iald (j := j_1) dX9_rebalance_65 (lMo1 L) nzMo e_2 b_3 (by decide) ?_
  refine rl_i2l dX9_rebalance_66 ?_
  refine rl_ladd dX9_rebalance_67 ?_
  refine rl_lstore_n (L' := [some (.ref (ad (gMo 0))), some (.int x1), some (.int x2), some (.long (js0 + ((cs (gMo 1) j_1).toInt64))), none, some (.int x5), none, none, none, none]) dX9_rebalance_68 rfl (Nat.le_of_ble_eq_true rfl) rfl ?_
  refine rl_iinc (v := x5 + nI 1) (L' := [some (.ref (ad (gMo 0))), some (.int x1), some (.int x2), some (.long (js0 + ((cs (gMo 1) j_1).toInt64))), none, some (.int (x5 + nI 1)), none, none, none, none]) dX9_rebalance_69 rfl (congrArg (fun z => x5 + z) (by decide)) (Nat.le_of_ble_eq_true rfl) rfl ?_
  refine rl_goto (tgt := 40) dX9_rebalance_72 (by decide) ?_
  exact H
theorem tX9_rebalance_81 {n : Nat} {ad : Nat → Nat} {h0 : Hp} {cs : Nat → Nat → Int32} {pm : Nat → Nat → Nat} (L : Lay n ad h0) {Q : Nat → Option Value → Hp → Prop} {x1 x2 xs0 : Int32} {j3 : Int64} (H : Wm mX9_rebalance 4 0 0 Q 90 [some (.ref (ad (gMo 0))), some (.int x1), some (.int x2), some (.long j3), none, some (.long ((xs0).toInt64)), none, some (.int (nI 0)), some (.int (nI 0)), none] [] (HN h0 ad cs pm) 0 0) : Wm mX9_rebalance 4 0 0 Q 81 [some (.ref (ad (gMo 0))), some (.int x1), some (.int x2), some (.long j3), none, none, none, none, none, none] [.int xs0] (HN h0 ad cs pm) 0 0 := by
  refine rl_i2l dX9_rebalance_81 ?_
  refine rl_lstore (L' := [some (.ref (ad (gMo 0))), some (.int x1), some (.int x2), some (.long j3), none, some (.long ((xs0).toInt64)), none, none, none, none]) dX9_rebalance_82 (Nat.le_of_ble_eq_true rfl) rfl ?_
  refine rl_iconst (v := nI 0) dX9_rebalance_84 (by decide) ?_
  refine rl_istore (L' := [some (.ref (ad (gMo 0))), some (.int x1), some (.int x2), some (.long j3), none, some (.long ((xs0).toInt64)), none, some (.int (nI 0)), none, none]) dX9_rebalance_85 (Nat.le_of_ble_eq_true rfl) rfl ?_
  refine rl_iconst (v := nI 0) dX9_rebalance_87 (by decide) ?_
  refine rl_istore (L' := [some (.ref (ad (gMo 0))), some (.int x1), some (.int x2), some (.long j3), none, some (.long ((xs0).toInt64)), none, some (.int (nI 0)), some (.int (nI 0)), none]) dX9_rebalance_88 (Nat.le_of_ble_eq_true rfl) rfl ?_
  exact H
theorem tX9_rebalance_90 {n : Nat} {ad : Nat → Nat} {h0 : Hp} {cs : Nat → Nat → Int32} {pm : Nat → Nat → Nat} (L : Lay n ad h0) {Q : Nat → Option Value → Hp → Prop} {x1 x2 x7 x8 : Int32} {j3 j5 : Int64} (H : (((cs (gMo 0) 0) ≤ x8 → Q 0 (some (.int x7)) (HN h0 ad cs pm)) ∧ (¬ (cs (gMo 0) 0) ≤ x8 → (((lg_cmp j3 0) ≤ 0 → Q 0 (some (.int x7)) (HN h0 ad cs pm)) ∧ (¬ (lg_cmp j3 0) ≤ 0 → ((¬ x8 = x1 → CKi mX9_record 0 0 0 [some (.int x1), some (.int x8)] (HN h0 ad cs pm) (fun v h' => Wm mX9_rebalance 4 0 0 Q 127 [some (.ref (ad (gMo 0))), some (.int x1), some (.int x2), some (.long j3), none, some (.long j5), none, some (.int x7), some (.int x8), none] [.int v, .ref (ad (gMo 1)), .long j5] h' 0 0)) ∧ (x8 = x1 → (((nI 0) ≤ 0 → Wm mX9_rebalance 4 0 0 Q 154 [some (.ref (ad (gMo 0))), some (.int x1), some (.int x2), some (.long j3), none, some (.long j5), none, some (.int x7), some (.int x8), some (.int (nI 0))] [] (HN h0 ad cs pm) 0 0) ∧ (¬ (nI 0) ≤ 0 → ((¬ x7 = 0 → Wm mX9_rebalance 4 0 0 Q 154 [some (.ref (ad (gMo 0))), some (.int x1), some (.int x2), some (.long j3), none, some (.long j5), none, some (.int x7), some (.int x8), some (.int (nI 0))] [] (HN h0 ad cs pm) 0 0) ∧ (x7 = 0 → CKv mX9_act 0 0 0 [some (.ref (ad (gMo 0))), none] (HN h0 ad cs pm) (fun h' => Wm mX9_rebalance 4 0 0 Q 154 [some (.ref (ad (gMo 0))), some (.int x1), some (.int x2), some (.long j3), none, some (.long j5), none, some (.int x7), some (.int x8), some (.int (nI 0))] [] h' 0 0)))))))))))) : Wm mX9_rebalance 4 0 0 Q 90 [some (.ref (ad (gMo 0))), some (.int x1), some (.int x2), some (.long j3), none, some (.long j5), none, some (.int x7), some (.int x8), none] [] (HN h0 ad cs pm) 0 0 := by
  refine rl_iload dX9_rebalance_90 rfl ?_
  refine rl_aload_n dX9_rebalance_92 rfl rfl ?_
  refine rt_getI (k := 0) cfX9 dX9_rebalance_93 flX9_34 (by decide) rfl (lMo0 L) nzMo ?_
  refine rl_icmp_ge (tgt := 182) dX9_rebalance_96 (by decide) (fun c_1 => ?_) (fun c_1 => ?_)
  · have H := H.1 c_1
    refine rl_iload dX9_rebalance_182 rfl ?_
    exact rl_iret dX9_rebalance_184 rfl (Nat.le_refl 0) (Nat.le_refl 0) H
  · have H := H.2 c_1
    refine rl_lload_n dX9_rebalance_99 rfl rfl ?_
    refine rl_lconst (v := 0) dX9_rebalance_100 rfl ?_
    refine rl_lcmp dX9_rebalance_101 ?_
    refine rl_if_le (tgt := 182) dX9_rebalance_102 (by decide) (fun c_2 => ?_) (fun c_2 => ?_)
    · have H := H.1 c_2
      refine rl_iload dX9_rebalance_182 rfl ?_
      exact rl_iret dX9_rebalance_184 rfl (Nat.le_refl 0) (Nat.le_refl 0) H
    · have H := H.2 c_2
      refine rl_iload dX9_rebalance_105 rfl ?_
      refine rl_iload_n dX9_rebalance_107 rfl rfl ?_
      refine rl_icmp_ne (tgt := 115) dX9_rebalance_108 (by decide) (fun c_3 => ?_) (fun c_3 => ?_)
      · have H := H.1 c_3
        refine rl_lload dX9_rebalance_115 rfl ?_
        refine rl_aload_n dX9_rebalance_117 rfl rfl ?_
        refine rt_getP (k := 1) cfX9 dX9_rebalance_118 flX9_7 (by decide) rfl (lMo0 L) (rMo1 L) naMo ?_
        refine rl_iload_n dX9_rebalance_121 rfl rfl ?_
        refine rl_iload dX9_rebalance_122 rfl ?_
        exact rl_callS (As := [.int x1, .int x8]) (rest := [.ref (ad (gMo 1)), .long j5]) mfX9_record dX9_rebalance_124 lkX9_52 (by decide) (Nat.le_of_ble_eq_true rfl) (Nat.le_refl _) (Nat.le_refl _) rfl (Nat.le_of_ble_eq_true rfl) rfl rfl (fun Qc k => H Qc (fun v h' w => k (some (.int v)) h' w))
      · have H := H.2 c_3
        refine rl_iconst (v := nI 0) dX9_rebalance_111 (by decide) ?_
        refine rl_goto (tgt := 138) dX9_rebalance_112 (by decide) ?_
        refine rl_istore (L' := [some (.ref (ad (gMo 0))), some (.int x1), some (.int x2), some (.long j3), none, some (.long j5), none, some (.int x7), some (.int x8), some (.int (nI 0))]) dX9_rebalance_138 (Nat.le_of_ble_eq_true rfl) rfl ?_
        refine rl_iload dX9_rebalance_140 rfl ?_
        refine rl_if_le (tgt := 154) dX9_rebalance_142 (by decide) (fun c_4 => ?_) (fun c_4 => ?_)
        · have H := H.1 c_4
          exact H
        · have H := H.2 c_4
          refine rl_iload dX9_rebalance_145 rfl ?_
          refine rl_if_ne (tgt := 154) dX9_rebalance_147 (by decide) (fun c_5 => ?_) (fun c_5 => ?_)
          · have H := H.1 c_5
            exact H
          · have H := H.2 c_5
            refine rl_aload_n dX9_rebalance_150 rfl rfl ?_
            exact rl_callV (As := []) (rest := []) mfX9_act dX9_rebalance_151 lkX9_99 (lMo0 L).K (by decide) (Nat.le_of_ble_eq_true rfl) (Nat.le_refl _) (Nat.le_refl _) rfl (Nat.le_of_ble_eq_true rfl) rfl rfl (fun Qc k => H Qc (fun h' w => k none h' w))
theorem tX9_rebalance_127 {n : Nat} {ad : Nat → Nat} {h0 : Hp} {cs : Nat → Nat → Int32} {pm : Nat → Nat → Nat} (L : Lay n ad h0) {Q : Nat → Option Value → Hp → Prop} {x1 x2 x7 x8 xs2 : Int32} {j3 j5 js0 : Int64} (H : (∃ j_1 : Nat, (xs2 + (nI 14)) + x2 = nI j_1 ∧ j_1 < 2400 ∧ (¬ j3 = 0 ∧ (((((js0 * ((cs (gMo 1) j_1).toInt64)) / j3).toInt32) ≤ 0 → Wm mX9_rebalance 4 0 0 Q 154 [some (.ref (ad (gMo 0))), some (.int x1), some (.int x2), some (.long j3), none, some (.long j5), none, some (.int x7), some (.int x8), some (.int (((js0 * ((cs (gMo 1) j_1).toInt64)) / j3).toInt32))] [] (HN h0 ad cs pm) 0 0) ∧ (¬ (((js0 * ((cs (gMo 1) j_1).toInt64)) / j3).toInt32) ≤ 0 → ((¬ x7 = 0 → Wm mX9_rebalance 4 0 0 Q 154 [some (.ref (ad (gMo 0))), some (.int x1), some (.int x2), some (.long j3), none, some (.long j5), none, some (.int x7), some (.int x8), some (.int (((js0 * ((cs (gMo 1) j_1).toInt64)) / j3).toInt32))] [] (HN h0 ad cs pm) 0 0) ∧ (x7 = 0 → CKv mX9_act 0 0 0 [some (.ref (ad (gMo 0))), none] (HN h0 ad cs pm) (fun h' => Wm mX9_rebalance 4 0 0 Q 154 [some (.ref (ad (gMo 0))), some (.int x1), some (.int x2), some (.long j3), none, some (.long j5), none, some (.int x7), some (.int x8), some (.int (((js0 * ((cs (gMo 1) j_1).toInt64)) / j3).toInt32))] [] h' 0 0)))))))) : Wm mX9_rebalance 4 0 0 Q 127 [some (.ref (ad (gMo 0))), some (.int x1), some (.int x2), some (.long j3), none, some (.long j5), none, some (.int x7), some (.int x8), none] [.int xs2, .ref (ad (gMo 1)), .long js0] (HN h0 ad cs pm) 0 0 := by
  refine rl_bipush (v := nI 14) dX9_rebalance_127 (by decide) ?_
  refine rl_iadd dX9_rebalance_129 ?_
  refine rl_iload_n dX9_rebalance_130 rfl rfl ?_
  refine rl_iadd dX9_rebalance_131 ?_
  obtain ⟨j_1, e_2, b_3, H⟩ := H
  refine rt_iald (j := j_1) dX9_rebalance_132 (lMo1 L) nzMo e_2 b_3 (by decide) ?_
  refine rl_i2l dX9_rebalance_133 ?_
  refine rl_lmul dX9_rebalance_134 ?_
  refine rl_lload_n dX9_rebalance_135 rfl rfl ?_
  obtain ⟨o_4, H⟩ := H
  refine rl_ldiv dX9_rebalance_136 o_4 ?_
  refine rl_l2i dX9_rebalance_137 ?_
  refine rl_istore (L' := [some (.ref (ad (gMo 0))), some (.int x1), some (.int x2), some (.long j3), none, some (.long j5), none, some (.int x7), some (.int x8), some (.int (((js0 * ((cs (gMo 1) j_1).toInt64)) / j3).toInt32))]) dX9_rebalance_138 (Nat.le_of_ble_eq_true rfl) rfl ?_
  refine rl_iload dX9_rebalance_140 rfl ?_
  refine rl_if_le (tgt := 154) dX9_rebalance_142 (by decide) (fun c_5 => ?_) (fun c_5 => ?_)
  · have H := H.1 c_5
    exact H
  · have H := H.2 c_5
    refine rl_iload dX9_rebalance_145 rfl ?_
    refine rl_if_ne (tgt := 154) dX9_rebalance_147 (by decide) (fun c_6 => ?_) (fun c_6 => ?_)
    · have H := H.1 c_6
      exact H
    · have H := H.2 c_6
      refine rl_aload_n dX9_rebalance_150 rfl rfl ?_
      exact rl_callV (As := []) (rest := []) mfX9_act dX9_rebalance_151 lkX9_99 (lMo0 L).K (by decide) (Nat.le_of_ble_eq_true rfl) (Nat.le_refl _) (Nat.le_refl _) rfl (Nat.le_of_ble_eq_true rfl) rfl rfl (fun Qc k => H Qc (fun h' w => k none h' w))
theorem tX9_rebalance_154 {n : Nat} {ad : Nat → Nat} {h0 : Hp} {cs : Nat → Nat → Int32} {pm : Nat → Nat → Nat} (L : Lay n ad h0) {Q : Nat → Option Value → Hp → Prop} {x1 x2 x7 x8 x9 : Int32} {j3 j5 : Int64} (H : ((x9 ≤ 0 → Wm mX9_rebalance 4 0 0 Q 176 [some (.ref (ad (gMo 0))), some (.int x1), some (.int x2), some (.long j3), none, some (.long j5), none, some (.int x7), some (.int x8), none] [] (HN h0 ad cs pm) 0 0) ∧ (¬ x9 ≤ 0 → CKv mX9_gives 3 0 0 [some (.ref (ad (gMo 0))), some (.int x2), some (.int x1), some (.int x8), some (.int x9)] (HN h0 ad cs pm) (fun h' => Wm mX9_rebalance 4 0 0 Q 169 [some (.ref (ad (gMo 0))), some (.int x1), some (.int x2), some (.long j3), none, some (.long j5), none, some (.int x7), some (.int x8), some (.int x9)] [] h' 0 0)))) : Wm mX9_rebalance 4 0 0 Q 154 [some (.ref (ad (gMo 0))), some (.int x1), some (.int x2), some (.long j3), none, some (.long j5), none, some (.int x7), some (.int x8), some (.int x9)] [] (HN h0 ad cs pm) 0 0 := by
  refine rl_iload dX9_rebalance_154 rfl ?_
  refine rl_if_le (tgt := 176) dX9_rebalance_156 (by decide) (fun c_1 => ?_) (fun c_1 => ?_)
  · have H := H.1 c_1
    refine rl_wk (L' := [some (.ref (ad (gMo 0))), some (.int x1), some (.int x2), some (.long j3), none, some (.long j5), none, some (.int x7), some (.int x8), none]) ⟨rfl, ⟨rfl, ⟨rfl, ⟨rfl, ⟨rfl, ⟨rfl, ⟨rfl, trivial⟩⟩⟩⟩⟩⟩⟩ ?_
    exact H
  · have H := H.2 c_1
    refine rl_aload_n dX9_rebalance_159 rfl rfl ?_
    refine rl_iload_n dX9_rebalance_160 rfl rfl ?_
    refine rl_iload_n dX9_rebalance_161 rfl rfl ?_
    refine rl_iload dX9_rebalance_162 rfl ?_
    refine rl_iload dX9_rebalance_164 rfl ?_
    exact rl_callV (As := [.int x2, .int x1, .int x8, .int x9]) (rest := []) mfX9_gives dX9_rebalance_166 lkX9_119 (lMo0 L).K (by decide) (Nat.le_of_ble_eq_true rfl) (Nat.le_refl _) (Nat.le_refl _) rfl (Nat.le_of_ble_eq_true rfl) rfl rfl (fun Qc k => H Qc (fun h' w => k none h' w))
theorem tX9_rebalance_169 {n : Nat} {ad : Nat → Nat} {h0 : Hp} {cs : Nat → Nat → Int32} {pm : Nat → Nat → Nat} (L : Lay n ad h0) {Q : Nat → Option Value → Hp → Prop} {x1 x2 x7 x8 x9 : Int32} {j3 j5 : Int64} (H : Wm mX9_rebalance 4 0 0 Q 176 [some (.ref (ad (gMo 0))), some (.int x1), some (.int x2), some (.long j3), none, some (.long j5), none, some (.int (x7 + x9)), some (.int x8), none] [] (HN h0 ad cs pm) 0 0) : Wm mX9_rebalance 4 0 0 Q 169 [some (.ref (ad (gMo 0))), some (.int x1), some (.int x2), some (.long j3), none, some (.long j5), none, some (.int x7), some (.int x8), some (.int x9)] [] (HN h0 ad cs pm) 0 0 := by
  refine rl_iload dX9_rebalance_169 rfl ?_
  refine rl_iload dX9_rebalance_171 rfl ?_
  refine rl_iadd dX9_rebalance_173 ?_
  refine rl_istore (L' := [some (.ref (ad (gMo 0))), some (.int x1), some (.int x2), some (.long j3), none, some (.long j5), none, some (.int (x7 + x9)), some (.int x8), some (.int x9)]) dX9_rebalance_174 (Nat.le_of_ble_eq_true rfl) rfl ?_
  refine rl_wk (L' := [some (.ref (ad (gMo 0))), some (.int x1), some (.int x2), some (.long j3), none, some (.long j5), none, some (.int (x7 + x9)), some (.int x8), none]) ⟨rfl, ⟨rfl, ⟨rfl, ⟨rfl, ⟨rfl, ⟨rfl, ⟨rfl, trivial⟩⟩⟩⟩⟩⟩⟩ ?_
  exact H
theorem tX9_rebalance_176 {n : Nat} {ad : Nat → Nat} {h0 : Hp} {cs : Nat → Nat → Int32} {pm : Nat → Nat → Nat} (L : Lay n ad h0) {Q : Nat → Option Value → Hp → Prop} {x1 x2 x7 x8 : Int32} {j3 j5 : Int64} (H : Wm mX9_rebalance 4 0 0 Q 90 [some (.ref (ad (gMo 0))), some (.int x1), some (.int x2), some (.long j3), none, some (.long j5), none, some (.int x7), some (.int (x8 + nI 1)), none] [] (HN h0 ad cs pm) 0 0) : Wm mX9_rebalance 4 0 0 Q 176 [some (.ref (ad (gMo 0))), some (.int x1), some (.int x2), some (.long j3), none, some (.long j5), none, some (.int x7), some (.int x8), none] [] (HN h0 ad cs pm) 0 0 := by
  refine rl_iinc (v := x8 + nI 1) (L' := [some (.ref (ad (gMo 0))), some (.int x1), some (.int x2), some (.long j3), none, some (.long j5), none, some (.int x7), some (.int (x8 + nI 1)), none]) dX9_rebalance_176 rfl (congrArg (fun z => x8 + z) (by decide)) (Nat.le_of_ble_eq_true rfl) rfl ?_
  refine rl_goto (tgt := 90) dX9_rebalance_179 (by decide) ?_
  exact H
theorem tX9_pass_0 {n : Nat} {ad : Nat → Nat} {h0 : Hp} {cs : Nat → Nat → Int32} {pm : Nat → Nat → Nat} (L : Lay n ad h0) {Q : Nat → Option Value → Hp → Prop} {x1 : Int32} (H : CKi mX9_in 0 0 0 [some (.int x1), some (.int (nI 1)), some (.int (nI 1000))] (HN h0 ad cs pm) (fun v h' => Wm mX9_pass 1 0 0 Q 9 [some (.ref (ad (gMo 0))), some (.int x1)] [.int v, .ref (ad (gMo 0))] h' 0 0)) : Wm mX9_pass 1 0 0 Q 0 [some (.ref (ad (gMo 0))), some (.int x1)] [] (HN h0 ad cs pm) 0 0 := by
  refine rl_aload_n dX9_pass_0 rfl rfl ?_
  refine rl_iload_n dX9_pass_1 rfl rfl ?_
  refine rl_iconst (v := nI 1) dX9_pass_2 (by decide) ?_
  refine rl_sipush (v := nI 1000) dX9_pass_3 (by decide) ?_
  exact rl_callS (As := [.int x1, .int (nI 1), .int (nI 1000)]) (rest := [.ref (ad (gMo 0))]) mfX9_in dX9_pass_6 lkX9_48 (by decide) (Nat.le_of_ble_eq_true rfl) (Nat.le_refl _) (Nat.le_refl _) rfl (Nat.le_of_ble_eq_true rfl) rfl rfl (fun Qc k => H Qc (fun v h' w => k (some (.int v)) h' w))
theorem tX9_pass_9 {n : Nat} {ad : Nat → Nat} {h0 : Hp} {cs : Nat → Nat → Int32} {pm : Nat → Nat → Nat} (L : Lay n ad h0) {Q : Nat → Option Value → Hp → Prop} {x1 xs1 : Int32} (H : ((¬ xs1 = 0 → ((((cs (gMo 1) 0) + x1) ≤ (nI 1000000) → CKv mX9_act 0 0 0 [some (.ref (ad (gMo 0))), none] (HN h0 ad (up2 cs (gMo 0) 7 (nI 0)) pm) (fun h' => Wm mX9_pass 1 0 0 Q 50 [some (.ref (ad (gMo 0))), some (.int x1)] [] h' 0 0)) ∧ (¬ ((cs (gMo 1) 0) + x1) ≤ (nI 1000000) → Q 0 (some (.int (nI 0))) (HN h0 ad (up2 cs (gMo 0) 7 (nI 2)) pm)))) ∧ (xs1 = 0 → Q 0 (some (.int (nI 0))) (HN h0 ad (up2 cs (gMo 0) 7 (nI 1)) pm)))) : Wm mX9_pass 1 0 0 Q 9 [some (.ref (ad (gMo 0))), some (.int x1)] [.int xs1, .ref (ad (gMo 0))] (HN h0 ad cs pm) 0 0 := by
  refine rl_if_ne (tgt := 16) dX9_pass_9 (by decide) (fun c_1 => ?_) (fun c_1 => ?_)
  · have H := H.1 c_1
    refine rl_aload_n dX9_pass_16 rfl rfl ?_
    refine rt_getP (k := 1) cfX9 dX9_pass_17 flX9_7 (by decide) rfl (lMo0 L) (rMo1 L) naMo ?_
    refine rl_iconst (v := nI 0) dX9_pass_20 (by decide) ?_
    refine rt_iald (j := 0) dX9_pass_21 (lMo1 L) nzMo rfl (by decide) (by decide) ?_
    refine rl_iload_n dX9_pass_22 rfl rfl ?_
    refine rl_iadd dX9_pass_23 ?_
    refine rl_ldc (v := nI 1000000) dX9_pass_24 kcX9_123 ?_
    refine rl_icmp_le (tgt := 33) dX9_pass_26 (by decide) (fun c_2 => ?_) (fun c_2 => ?_)
    · have H := H.1 c_2
      refine rl_iconst (v := nI 0) dX9_pass_33 (by decide) ?_
      refine rt_putI (k := 7) L.2.1 cfX9 dX9_pass_34 flX9_42 (by decide) rfl (lMo0 L) nzMo (Or.inl rfl) ?_
      refine rl_aload_n dX9_pass_37 rfl rfl ?_
      refine rt_getIv (x := nI 0) (k := 7) cfX9 dX9_pass_38 flX9_42 (by decide) rfl (lMo0 L) nzMo (up2_s) ?_
      refine rl_if_eq (tgt := 46) dX9_pass_41 (by decide) (fun _ => ?_) (fun q => absurd q (by decide))
      refine rl_aload_n dX9_pass_46 rfl rfl ?_
      exact rl_callV (As := []) (rest := []) mfX9_act dX9_pass_47 lkX9_99 (lMo0 L).K (by decide) (Nat.le_of_ble_eq_true rfl) (Nat.le_refl _) (Nat.le_refl _) rfl (Nat.le_of_ble_eq_true rfl) rfl rfl (fun Qc k => H Qc (fun h' w => k none h' w))
    · have H := H.2 c_2
      refine rl_iconst (v := nI 2) dX9_pass_29 (by decide) ?_
      refine rl_goto (tgt := 34) dX9_pass_30 (by decide) ?_
      refine rt_putI (k := 7) L.2.1 cfX9 dX9_pass_34 flX9_42 (by decide) rfl (lMo0 L) nzMo (Or.inl rfl) ?_
      refine rl_aload_n dX9_pass_37 rfl rfl ?_
      refine rt_getIv (x := nI 2) (k := 7) cfX9 dX9_pass_38 flX9_42 (by decide) rfl (lMo0 L) nzMo (up2_s) ?_
      refine rl_if_eq (tgt := 46) dX9_pass_41 (by decide) (fun q => absurd q (by decide)) (fun _ => ?_)
      refine rl_iconst (v := nI 0) dX9_pass_44 (by decide) ?_
      exact rl_iret dX9_pass_45 rfl (Nat.le_refl 0) (Nat.le_refl 0) H
  · have H := H.2 c_1
    refine rl_iconst (v := nI 1) dX9_pass_12 (by decide) ?_
    refine rl_goto (tgt := 34) dX9_pass_13 (by decide) ?_
    refine rt_putI (k := 7) L.2.1 cfX9 dX9_pass_34 flX9_42 (by decide) rfl (lMo0 L) nzMo (Or.inl rfl) ?_
    refine rl_aload_n dX9_pass_37 rfl rfl ?_
    refine rt_getIv (x := nI 1) (k := 7) cfX9 dX9_pass_38 flX9_42 (by decide) rfl (lMo0 L) nzMo (up2_s) ?_
    refine rl_if_eq (tgt := 46) dX9_pass_41 (by decide) (fun q => absurd q (by decide)) (fun _ => ?_)
    refine rl_iconst (v := nI 0) dX9_pass_44 (by decide) ?_
    exact rl_iret dX9_pass_45 rfl (Nat.le_refl 0) (Nat.le_refl 0) H
theorem tX9_pass_50 {n : Nat} {ad : Nat → Nat} {h0 : Hp} {cs : Nat → Nat → Int32} {pm : Nat → Nat → Nat} (L : Lay n ad h0) {Q : Nat → Option Value → Hp → Prop} {x1 : Int32} (H : Q 0 (some (.int ((cs (gMo 1) 0) + x1))) (HN h0 ad (up2 cs (gMo 1) 0 ((cs (gMo 1) 0) + x1)) pm)) : Wm mX9_pass 1 0 0 Q 50 [some (.ref (ad (gMo 0))), some (.int x1)] [] (HN h0 ad cs pm) 0 0 := by
  refine rl_aload_n dX9_pass_50 rfl rfl ?_
  refine rt_getP (k := 1) cfX9 dX9_pass_51 flX9_7 (by decide) rfl (lMo0 L) (rMo1 L) naMo ?_
  refine rl_iconst (v := nI 0) dX9_pass_54 (by decide) ?_
  refine rl_dup2 dX9_pass_55 rfl rfl ?_
  refine rt_iald (j := 0) dX9_pass_56 (lMo1 L) nzMo rfl (by decide) (by decide) ?_
  refine rl_iload_n dX9_pass_57 rfl rfl ?_
  refine rl_iadd dX9_pass_58 ?_
  refine rt_iast (j := 0) L.2.1 dX9_pass_59 (lMo1 L) nzMo rfl (by decide) (by decide) ?_
  refine rl_aload_n dX9_pass_60 rfl rfl ?_
  refine rt_getP (k := 1) cfX9 dX9_pass_61 flX9_7 (by decide) rfl (lMo0 L) (rMo1 L) naMo ?_
  refine rl_iconst (v := nI 0) dX9_pass_64 (by decide) ?_
  refine rt_ialdv (y := (cs (gMo 1) 0) + x1) (j := 0) dX9_pass_65 (lMo1 L) nzMo rfl (by decide) (by decide) (up2_s) ?_
  exact rl_iret dX9_pass_66 rfl (Nat.le_refl 0) (Nat.le_refl 0) H
theorem tX9_send_0 {n : Nat} {ad : Nat → Nat} {h0 : Hp} {cs : Nat → Nat → Int32} {pm : Nat → Nat → Nat} (L : Lay n ad h0) {Q : Nat → Option Value → Hp → Prop} {x1 x2 : Int32} (H : CKi mX9_isSite 1 0 0 [some (.ref (ad (gMo 0))), some (.int x1)] (HN h0 ad cs pm) (fun v h' => Wm mX9_send 3 0 0 Q 6 [some (.ref (ad (gMo 0))), some (.int x1), some (.int x2)] [.int v, .ref (ad (gMo 0))] h' 0 0)) : Wm mX9_send 3 0 0 Q 0 [some (.ref (ad (gMo 0))), some (.int x1), some (.int x2)] [] (HN h0 ad cs pm) 0 0 := by
  refine rl_aload_n dX9_send_0 rfl rfl ?_
  refine rl_aload_n dX9_send_1 rfl rfl ?_
  refine rl_iload_n dX9_send_2 rfl rfl ?_
  exact rl_callV (As := [.int x1]) (rest := [.ref (ad (gMo 0))]) mfX9_isSite dX9_send_3 lkX9_96 (lMo0 L).K (by decide) (Nat.le_of_ble_eq_true rfl) (Nat.le_refl _) (Nat.le_refl _) rfl (Nat.le_of_ble_eq_true rfl) rfl rfl (fun Qc k => H Qc (fun v h' w => k (some (.int v)) h' w))
theorem tX9_send_6 {n : Nat} {ad : Nat → Nat} {h0 : Hp} {cs : Nat → Nat → Int32} {pm : Nat → Nat → Nat} (L : Lay n ad h0) {Q : Nat → Option Value → Hp → Prop} {x1 x2 xs1 : Int32} (H : ((xs1 = 0 → Q 0 (some (.int (nI 0))) (HN h0 ad (up2 cs (gMo 0) 7 (nI 1)) pm)) ∧ (¬ xs1 = 0 → CKi mX9_isSite 1 0 0 [some (.ref (ad (gMo 0))), some (.int x2)] (HN h0 ad cs pm) (fun v h' => Wm mX9_send 3 0 0 Q 14 [some (.ref (ad (gMo 0))), some (.int x1), some (.int x2)] [.int v, .ref (ad (gMo 0))] h' 0 0)))) : Wm mX9_send 3 0 0 Q 6 [some (.ref (ad (gMo 0))), some (.int x1), some (.int x2)] [.int xs1, .ref (ad (gMo 0))] (HN h0 ad cs pm) 0 0 := by
  refine rl_if_eq (tgt := 17) dX9_send_6 (by decide) (fun c_1 => ?_) (fun c_1 => ?_)
  · have H := H.1 c_1
    refine rl_iconst (v := nI 1) dX9_send_17 (by decide) ?_
    refine rl_goto (tgt := 46) dX9_send_18 (by decide) ?_
    refine rt_putI (k := 7) L.2.1 cfX9 dX9_send_46 flX9_42 (by decide) rfl (lMo0 L) nzMo (Or.inl rfl) ?_
    refine rl_aload_n dX9_send_49 rfl rfl ?_
    refine rt_getIv (x := nI 1) (k := 7) cfX9 dX9_send_50 flX9_42 (by decide) rfl (lMo0 L) nzMo (up2_s) ?_
    refine rl_if_eq (tgt := 58) dX9_send_53 (by decide) (fun q => absurd q (by decide)) (fun _ => ?_)
    refine rl_iconst (v := nI 0) dX9_send_56 (by decide) ?_
    exact rl_iret dX9_send_57 rfl (Nat.le_refl 0) (Nat.le_refl 0) H
  · have H := H.2 c_1
    refine rl_aload_n dX9_send_9 rfl rfl ?_
    refine rl_iload_n dX9_send_10 rfl rfl ?_
    exact rl_callV (As := [.int x2]) (rest := [.ref (ad (gMo 0))]) mfX9_isSite dX9_send_11 lkX9_96 (lMo0 L).K (by decide) (Nat.le_of_ble_eq_true rfl) (Nat.le_refl _) (Nat.le_refl _) rfl (Nat.le_of_ble_eq_true rfl) rfl rfl (fun Qc k => H Qc (fun v h' w => k (some (.int v)) h' w))
theorem tX9_send_14 {n : Nat} {ad : Nat → Nat} {h0 : Hp} {cs : Nat → Nat → Int32} {pm : Nat → Nat → Nat} (L : Lay n ad h0) {Q : Nat → Option Value → Hp → Prop} {x1 x2 xs1 : Int32} (H : ((¬ xs1 = 0 → ((¬ x1 = x2 → ((¬ (cs (gMo 1) 5) = (nI 8) → CKv mX9_act 0 0 0 [some (.ref (ad (gMo 0))), none] (HN h0 ad (up2 cs (gMo 0) 7 (nI 0)) pm) (fun h' => Wm mX9_send 3 0 0 Q 62 [some (.ref (ad (gMo 0))), some (.int x1), some (.int x2)] [] h' 0 0)) ∧ ((cs (gMo 1) 5) = (nI 8) → Q 0 (some (.int (nI 0))) (HN h0 ad (up2 cs (gMo 0) 7 (nI 3)) pm)))) ∧ (x1 = x2 → Q 0 (some (.int (nI 0))) (HN h0 ad (up2 cs (gMo 0) 7 (nI 2)) pm)))) ∧ (xs1 = 0 → Q 0 (some (.int (nI 0))) (HN h0 ad (up2 cs (gMo 0) 7 (nI 1)) pm)))) : Wm mX9_send 3 0 0 Q 14 [some (.ref (ad (gMo 0))), some (.int x1), some (.int x2)] [.int xs1, .ref (ad (gMo 0))] (HN h0 ad cs pm) 0 0 := by
  refine rl_if_ne (tgt := 21) dX9_send_14 (by decide) (fun c_1 => ?_) (fun c_1 => ?_)
  · have H := H.1 c_1
    refine rl_iload_n dX9_send_21 rfl rfl ?_
    refine rl_iload_n dX9_send_22 rfl rfl ?_
    refine rl_icmp_ne (tgt := 30) dX9_send_23 (by decide) (fun c_2 => ?_) (fun c_2 => ?_)
    · have H := H.1 c_2
      refine rl_aload_n dX9_send_30 rfl rfl ?_
      refine rt_getP (k := 1) cfX9 dX9_send_31 flX9_7 (by decide) rfl (lMo0 L) (rMo1 L) naMo ?_
      refine rl_iconst (v := nI 5) dX9_send_34 (by decide) ?_
      refine rt_iald (j := 5) dX9_send_35 (lMo1 L) nzMo rfl (by decide) (by decide) ?_
      refine rl_bipush (v := nI 8) dX9_send_36 (by decide) ?_
      refine rl_icmp_ne (tgt := 45) dX9_send_38 (by decide) (fun c_3 => ?_) (fun c_3 => ?_)
      · have H := H.1 c_3
        refine rl_iconst (v := nI 0) dX9_send_45 (by decide) ?_
        refine rt_putI (k := 7) L.2.1 cfX9 dX9_send_46 flX9_42 (by decide) rfl (lMo0 L) nzMo (Or.inl rfl) ?_
        refine rl_aload_n dX9_send_49 rfl rfl ?_
        refine rt_getIv (x := nI 0) (k := 7) cfX9 dX9_send_50 flX9_42 (by decide) rfl (lMo0 L) nzMo (up2_s) ?_
        refine rl_if_eq (tgt := 58) dX9_send_53 (by decide) (fun _ => ?_) (fun q => absurd q (by decide))
        refine rl_aload_n dX9_send_58 rfl rfl ?_
        exact rl_callV (As := []) (rest := []) mfX9_act dX9_send_59 lkX9_99 (lMo0 L).K (by decide) (Nat.le_of_ble_eq_true rfl) (Nat.le_refl _) (Nat.le_refl _) rfl (Nat.le_of_ble_eq_true rfl) rfl rfl (fun Qc k => H Qc (fun h' w => k none h' w))
      · have H := H.2 c_3
        refine rl_iconst (v := nI 3) dX9_send_41 (by decide) ?_
        refine rl_goto (tgt := 46) dX9_send_42 (by decide) ?_
        refine rt_putI (k := 7) L.2.1 cfX9 dX9_send_46 flX9_42 (by decide) rfl (lMo0 L) nzMo (Or.inl rfl) ?_
        refine rl_aload_n dX9_send_49 rfl rfl ?_
        refine rt_getIv (x := nI 3) (k := 7) cfX9 dX9_send_50 flX9_42 (by decide) rfl (lMo0 L) nzMo (up2_s) ?_
        refine rl_if_eq (tgt := 58) dX9_send_53 (by decide) (fun q => absurd q (by decide)) (fun _ => ?_)
        refine rl_iconst (v := nI 0) dX9_send_56 (by decide) ?_
        exact rl_iret dX9_send_57 rfl (Nat.le_refl 0) (Nat.le_refl 0) H
    · have H := H.2 c_2
      refine rl_iconst (v := nI 2) dX9_send_26 (by decide) ?_
      refine rl_goto (tgt := 46) dX9_send_27 (by decide) ?_
      refine rt_putI (k := 7) L.2.1 cfX9 dX9_send_46 flX9_42 (by decide) rfl (lMo0 L) nzMo (Or.inl rfl) ?_
      refine rl_aload_n dX9_send_49 rfl rfl ?_
      refine rt_getIv (x := nI 2) (k := 7) cfX9 dX9_send_50 flX9_42 (by decide) rfl (lMo0 L) nzMo (up2_s) ?_
      refine rl_if_eq (tgt := 58) dX9_send_53 (by decide) (fun q => absurd q (by decide)) (fun _ => ?_)
      refine rl_iconst (v := nI 0) dX9_send_56 (by decide) ?_
      exact rl_iret dX9_send_57 rfl (Nat.le_refl 0) (Nat.le_refl 0) H
  · have H := H.2 c_1
    refine rl_iconst (v := nI 1) dX9_send_17 (by decide) ?_
    refine rl_goto (tgt := 46) dX9_send_18 (by decide) ?_
    refine rt_putI (k := 7) L.2.1 cfX9 dX9_send_46 flX9_42 (by decide) rfl (lMo0 L) nzMo (Or.inl rfl) ?_
    refine rl_aload_n dX9_send_49 rfl rfl ?_
    refine rt_getIv (x := nI 1) (k := 7) cfX9 dX9_send_50 flX9_42 (by decide) rfl (lMo0 L) nzMo (up2_s) ?_
    refine rl_if_eq (tgt := 58) dX9_send_53 (by decide) (fun q => absurd q (by decide)) (fun _ => ?_)
    refine rl_iconst (v := nI 0) dX9_send_56 (by decide) ?_
    exact rl_iret dX9_send_57 rfl (Nat.le_refl 0) (Nat.le_refl 0) H
theorem tX9_send_62 {n : Nat} {ad : Nat → Nat} {h0 : Hp} {cs : Nat → Nat → Int32} {pm : Nat → Nat → Nat} (L : Lay n ad h0) {Q : Nat → Option Value → Hp → Prop} {x1 x2 : Int32} (H : CKv mX9_writes 2 0 0 [some (.ref (ad (gMo 0))), some (.int (cs (gMo 1) 5)), some (.int x1), some (.int x2), none, none, none] (HN h0 ad cs pm) (fun h' => Wm mX9_send 3 0 0 Q 74 [some (.ref (ad (gMo 0))), none, none] [] h' 0 0)) : Wm mX9_send 3 0 0 Q 62 [some (.ref (ad (gMo 0))), some (.int x1), some (.int x2)] [] (HN h0 ad cs pm) 0 0 := by
  refine rl_aload_n dX9_send_62 rfl rfl ?_
  refine rl_aload_n dX9_send_63 rfl rfl ?_
  refine rt_getP (k := 1) cfX9 dX9_send_64 flX9_7 (by decide) rfl (lMo0 L) (rMo1 L) naMo ?_
  refine rl_iconst (v := nI 5) dX9_send_67 (by decide) ?_
  refine rt_iald (j := 5) dX9_send_68 (lMo1 L) nzMo rfl (by decide) (by decide) ?_
  refine rl_iload_n dX9_send_69 rfl rfl ?_
  refine rl_iload_n dX9_send_70 rfl rfl ?_
  exact rl_callV (As := [.int (cs (gMo 1) 5), .int x1, .int x2]) (rest := []) mfX9_writes dX9_send_71 lkX9_127 (lMo0 L).K (by decide) (Nat.le_of_ble_eq_true rfl) (Nat.le_refl _) (Nat.le_refl _) rfl (Nat.le_of_ble_eq_true rfl) rfl rfl (fun Qc k => H Qc (fun h' w => k none h' (rl_wk (L' := [some (.ref (ad (gMo 0))), none, none]) ⟨rfl, trivial⟩ w)))
theorem tX9_send_74 {n : Nat} {ad : Nat → Nat} {h0 : Hp} {cs : Nat → Nat → Int32} {pm : Nat → Nat → Nat} (L : Lay n ad h0) {Q : Nat → Option Value → Hp → Prop}  (H : Q 0 (some (.int (((cs (gMo 1) 5) + (nI 1)) - (nI 1)))) (HN h0 ad (up2 cs (gMo 1) 5 ((cs (gMo 1) 5) + (nI 1))) pm)) : Wm mX9_send 3 0 0 Q 74 [some (.ref (ad (gMo 0))), none, none] [] (HN h0 ad cs pm) 0 0 := by
  refine rl_aload_n dX9_send_74 rfl rfl ?_
  refine rt_getP (k := 1) cfX9 dX9_send_75 flX9_7 (by decide) rfl (lMo0 L) (rMo1 L) naMo ?_
  refine rl_iconst (v := nI 5) dX9_send_78 (by decide) ?_
  refine rl_dup2 dX9_send_79 rfl rfl ?_
  refine rt_iald (j := 5) dX9_send_80 (lMo1 L) nzMo rfl (by decide) (by decide) ?_
  refine rl_iconst (v := nI 1) dX9_send_81 (by decide) ?_
  refine rl_iadd dX9_send_82 ?_
  refine rt_iast (j := 5) L.2.1 dX9_send_83 (lMo1 L) nzMo rfl (by decide) (by decide) ?_
  refine rl_aload_n dX9_send_84 rfl rfl ?_
  refine rt_getP (k := 1) cfX9 dX9_send_85 flX9_7 (by decide) rfl (lMo0 L) (rMo1 L) naMo ?_
  refine rl_iconst (v := nI 5) dX9_send_88 (by decide) ?_
  refine rt_ialdv (y := (cs (gMo 1) 5) + (nI 1)) (j := 5) dX9_send_89 (lMo1 L) nzMo rfl (by decide) (by decide) (up2_s) ?_
  refine rl_iconst (v := nI 1) dX9_send_90 (by decide) ?_
  refine rl_isub dX9_send_91 ?_
  exact rl_iret dX9_send_92 rfl (Nat.le_refl 0) (Nat.le_refl 0) H
theorem tX9_writes_0 {n : Nat} {ad : Nat → Nat} {h0 : Hp} {cs : Nat → Nat → Int32} {pm : Nat → Nat → Nat} (L : Lay n ad h0) {Q : Nat → Option Value → Hp → Prop} {x1 x2 x3 : Int32} (H : CKi mX9_messageAt 0 0 0 [some (.int x1)] (HN h0 ad cs pm) (fun v h' => Wm mX9_writes 2 0 0 Q 4 [some (.ref (ad (gMo 0))), none, some (.int x2), some (.int x3), none, none, none] [.int v] h' 0 0)) : Wm mX9_writes 2 0 0 Q 0 [some (.ref (ad (gMo 0))), some (.int x1), some (.int x2), some (.int x3), none, none, none] [] (HN h0 ad cs pm) 0 0 := by
  refine rl_iload_n dX9_writes_0 rfl rfl ?_
  exact rl_callS (As := [.int x1]) (rest := []) mfX9_messageAt dX9_writes_1 lkX9_124 (by decide) (Nat.le_of_ble_eq_true rfl) (Nat.le_refl _) (Nat.le_refl _) rfl (Nat.le_of_ble_eq_true rfl) rfl rfl (fun Qc k => H Qc (fun v h' w => k (some (.int v)) h' (rl_wk (L' := [some (.ref (ad (gMo 0))), none, some (.int x2), some (.int x3), none, none, none]) ⟨rfl, ⟨rfl, ⟨rfl, trivial⟩⟩⟩ w)))
theorem tX9_writes_4 {n : Nat} {ad : Nat → Nat} {h0 : Hp} {cs : Nat → Nat → Int32} {pm : Nat → Nat → Nat} (L : Lay n ad h0) {Q : Nat → Option Value → Hp → Prop} {x2 x3 xs0 : Int32} (H : (∃ j_1 : Nat, xs0 = nI j_1 ∧ j_1 < 2400 ∧ (∃ j_4 : Nat, xs0 + (nI 1) = nI j_4 ∧ j_4 < 2400 ∧ (∃ j_7 : Nat, xs0 + (nI 2) = nI j_7 ∧ j_7 < 2400 ∧ (Wm mX9_writes 2 0 0 Q 42 [some (.ref (ad (gMo 0))), none, some (.int x2), none, some (.int xs0), some (.int (nI 0)), none] [] (HN h0 ad (up2 (up2 (up2 cs (gMo 1) j_1 x2) (gMo 1) j_4 x3) (gMo 1) j_7 ((up2 (up2 cs (gMo 1) j_1 x2) (gMo 1) j_4 x3) (gMo 1) 0)) pm) 0 0))))) : Wm mX9_writes 2 0 0 Q 4 [some (.ref (ad (gMo 0))), none, some (.int x2), some (.int x3), none, none, none] [.int xs0] (HN h0 ad cs pm) 0 0 := by
  refine rl_istore (L' := [some (.ref (ad (gMo 0))), none, some (.int x2), some (.int x3), some (.int xs0), none, none]) dX9_writes_4 (Nat.le_of_ble_eq_true rfl) rfl ?_
  refine rl_aload_n dX9_writes_6 rfl rfl ?_
  refine rt_getP (k := 1) cfX9 dX9_writes_7 flX9_7 (by decide) rfl (lMo0 L) (rMo1 L) naMo ?_
  refine rl_iload dX9_writes_10 rfl ?_
  refine rl_iload_n dX9_writes_12 rfl rfl ?_
  obtain ⟨j_1, e_2, b_3, H⟩ := H
  refine rt_iast (j := j_1) L.2.1 dX9_writes_13 (lMo1 L) nzMo e_2 b_3 (by decide) ?_
  refine rl_aload_n dX9_writes_14 rfl rfl ?_
  refine rt_getP (k := 1) cfX9 dX9_writes_15 flX9_7 (by decide) rfl (lMo0 L) (rMo1 L) naMo ?_
  refine rl_iload dX9_writes_18 rfl ?_
  refine rl_iconst (v := nI 1) dX9_writes_20 (by decide) ?_
  refine rl_iadd dX9_writes_21 ?_
  refine rl_iload_n dX9_writes_22 rfl rfl ?_
  obtain ⟨j_4, e_5, b_6, H⟩ := H
  refine rt_iast (j := j_4) L.2.1 dX9_writes_23 (lMo1 L) nzMo e_5 b_6 (by decide) ?_
  refine rl_aload_n dX9_writes_24 rfl rfl ?_
  refine rt_getP (k := 1) cfX9 dX9_writes_25 flX9_7 (by decide) rfl (lMo0 L) (rMo1 L) naMo ?_
  refine rl_iload dX9_writes_28 rfl ?_
  refine rl_iconst (v := nI 2) dX9_writes_30 (by decide) ?_
  refine rl_iadd dX9_writes_31 ?_
  refine rl_aload_n dX9_writes_32 rfl rfl ?_
  refine rt_getP (k := 1) cfX9 dX9_writes_33 flX9_7 (by decide) rfl (lMo0 L) (rMo1 L) naMo ?_
  refine rl_iconst (v := nI 0) dX9_writes_36 (by decide) ?_
  refine rt_iald (j := 0) dX9_writes_37 (lMo1 L) nzMo rfl (by decide) (by decide) ?_
  obtain ⟨j_7, e_8, b_9, H⟩ := H
  refine rt_iast (j := j_7) L.2.1 dX9_writes_38 (lMo1 L) nzMo e_8 b_9 (by decide) ?_
  refine rl_iconst (v := nI 0) dX9_writes_39 (by decide) ?_
  refine rl_istore (L' := [some (.ref (ad (gMo 0))), none, some (.int x2), some (.int x3), some (.int xs0), some (.int (nI 0)), none]) dX9_writes_40 (Nat.le_of_ble_eq_true rfl) rfl ?_
  refine rl_wk (L' := [some (.ref (ad (gMo 0))), none, some (.int x2), none, some (.int xs0), some (.int (nI 0)), none]) ⟨rfl, ⟨rfl, ⟨rfl, ⟨rfl, trivial⟩⟩⟩⟩ ?_
  exact H
theorem tX9_writes_42 {n : Nat} {ad : Nat → Nat} {h0 : Hp} {cs : Nat → Nat → Int32} {pm : Nat → Nat → Nat} (L : Lay n ad h0) {Q : Nat → Option Value → Hp → Prop} {x2 x4 x5 : Int32} (H : (((cs (gMo 0) 0) ≤ x5 → Q 0 none (HN h0 ad cs pm)) ∧ (¬ (cs (gMo 0) 0) ≤ x5 → Wm mX9_writes 2 0 0 Q 54 [some (.ref (ad (gMo 0))), none, some (.int x2), none, some (.int x4), some (.int x5), some (.int (nI 0))] [] (HN h0 ad cs pm) 0 0))) : Wm mX9_writes 2 0 0 Q 42 [some (.ref (ad (gMo 0))), none, some (.int x2), none, some (.int x4), some (.int x5), none] [] (HN h0 ad cs pm) 0 0 := by
  refine rl_iload dX9_writes_42 rfl ?_
  refine rl_aload_n dX9_writes_44 rfl rfl ?_
  refine rt_getI (k := 0) cfX9 dX9_writes_45 flX9_34 (by decide) rfl (lMo0 L) nzMo ?_
  refine rl_icmp_ge (tgt := 129) dX9_writes_48 (by decide) (fun c_1 => ?_) (fun c_1 => ?_)
  · have H := H.1 c_1
    exact rl_vret dX9_writes_129 rfl (Nat.le_refl 0) (Nat.le_refl 0) H
  · have H := H.2 c_1
    refine rl_iconst (v := nI 0) dX9_writes_51 (by decide) ?_
    refine rl_istore (L' := [some (.ref (ad (gMo 0))), none, some (.int x2), none, some (.int x4), some (.int x5), some (.int (nI 0))]) dX9_writes_52 (Nat.le_of_ble_eq_true rfl) rfl ?_
    exact H
theorem tX9_writes_54 {n : Nat} {ad : Nat → Nat} {h0 : Hp} {cs : Nat → Nat → Int32} {pm : Nat → Nat → Nat} (L : Lay n ad h0) {Q : Nat → Option Value → Hp → Prop} {x2 x4 x5 x6 : Int32} (H : (((nI 30) ≤ x6 → CKi mX9_timeOf 1 0 0 [some (.ref (ad (gMo 0))), some (.int x2), some (.int x5)] (HN h0 ad cs pm) (fun v h' => Wm mX9_writes 2 0 0 Q 122 [some (.ref (ad (gMo 0))), none, some (.int x2), none, some (.int x4), some (.int x5), none] [.int v, .int (((x4 + (nI 3)) + ((nI 30) * x5)) + (nI 1)), .ref (ad (gMo 1))] h' 0 0)) ∧ (¬ (nI 30) ≤ x6 → CKi mX9_record 0 0 0 [some (.int x2), some (.int x5)] (HN h0 ad cs pm) (fun v h' => Wm mX9_writes 2 0 0 Q 88 [some (.ref (ad (gMo 0))), none, some (.int x2), none, some (.int x4), some (.int x5), some (.int x6)] [.int v, .ref (ad (gMo 1)), .int (((x4 + (nI 3)) + ((nI 30) * x5)) + x6), .ref (ad (gMo 1))] h' 0 0)))) : Wm mX9_writes 2 0 0 Q 54 [some (.ref (ad (gMo 0))), none, some (.int x2), none, some (.int x4), some (.int x5), some (.int x6)] [] (HN h0 ad cs pm) 0 0 := by
  refine rl_iload dX9_writes_54 rfl ?_
  refine rl_bipush (v := nI 30) dX9_writes_56 (by decide) ?_
  refine rl_icmp_ge (tgt := 99) dX9_writes_58 (by decide) (fun c_1 => ?_) (fun c_1 => ?_)
  · have H := H.1 c_1
    refine rl_aload_n dX9_writes_99 rfl rfl ?_
    refine rt_getP (k := 1) cfX9 dX9_writes_100 flX9_7 (by decide) rfl (lMo0 L) (rMo1 L) naMo ?_
    refine rl_iload dX9_writes_103 rfl ?_
    refine rl_iconst (v := nI 3) dX9_writes_105 (by decide) ?_
    refine rl_iadd dX9_writes_106 ?_
    refine rl_bipush (v := nI 30) dX9_writes_107 (by decide) ?_
    refine rl_iload dX9_writes_109 rfl ?_
    refine rl_imul dX9_writes_111 ?_
    refine rl_iadd dX9_writes_112 ?_
    refine rl_iconst (v := nI 1) dX9_writes_113 (by decide) ?_
    refine rl_iadd dX9_writes_114 ?_
    refine rl_aload_n dX9_writes_115 rfl rfl ?_
    refine rl_iload_n dX9_writes_116 rfl rfl ?_
    refine rl_iload dX9_writes_117 rfl ?_
    exact rl_callV (As := [.int x2, .int x5]) (rest := [.int (((x4 + (nI 3)) + ((nI 30) * x5)) + (nI 1)), .ref (ad (gMo 1))]) mfX9_timeOf dX9_writes_119 lkX9_63 (lMo0 L).K (by decide) (Nat.le_of_ble_eq_true rfl) (Nat.le_refl _) (Nat.le_refl _) rfl (Nat.le_of_ble_eq_true rfl) rfl rfl (fun Qc k => H Qc (fun v h' w => k (some (.int v)) h' (rl_wk (L' := [some (.ref (ad (gMo 0))), none, some (.int x2), none, some (.int x4), some (.int x5), none]) ⟨rfl, ⟨rfl, ⟨rfl, ⟨rfl, trivial⟩⟩⟩⟩ w)))
  · have H := H.2 c_1
    refine rl_aload_n dX9_writes_61 rfl rfl ?_
    refine rt_getP (k := 1) cfX9 dX9_writes_62 flX9_7 (by decide) rfl (lMo0 L) (rMo1 L) naMo ?_
    refine rl_iload dX9_writes_65 rfl ?_
    refine rl_iconst (v := nI 3) dX9_writes_67 (by decide) ?_
    refine rl_iadd dX9_writes_68 ?_
    refine rl_bipush (v := nI 30) dX9_writes_69 (by decide) ?_
    refine rl_iload dX9_writes_71 rfl ?_
    refine rl_imul dX9_writes_73 ?_
    refine rl_iadd dX9_writes_74 ?_
    refine rl_iload dX9_writes_75 rfl ?_
    refine rl_iadd dX9_writes_77 ?_
    refine rl_aload_n dX9_writes_78 rfl rfl ?_
    refine rt_getP (k := 1) cfX9 dX9_writes_79 flX9_7 (by decide) rfl (lMo0 L) (rMo1 L) naMo ?_
    refine rl_iload_n dX9_writes_82 rfl rfl ?_
    refine rl_iload dX9_writes_83 rfl ?_
    exact rl_callS (As := [.int x2, .int x5]) (rest := [.ref (ad (gMo 1)), .int (((x4 + (nI 3)) + ((nI 30) * x5)) + x6), .ref (ad (gMo 1))]) mfX9_record dX9_writes_85 lkX9_52 (by decide) (Nat.le_of_ble_eq_true rfl) (Nat.le_refl _) (Nat.le_refl _) rfl (Nat.le_of_ble_eq_true rfl) rfl rfl (fun Qc k => H Qc (fun v h' w => k (some (.int v)) h' w))
theorem tX9_writes_88 {n : Nat} {ad : Nat → Nat} {h0 : Hp} {cs : Nat → Nat → Int32} {pm : Nat → Nat → Nat} (L : Lay n ad h0) {Q : Nat → Option Value → Hp → Prop} {x2 x4 x5 x6 xs1 xs3 : Int32} (H : (∃ j_1 : Nat, xs3 + x6 = nI j_1 ∧ j_1 < 2400 ∧ (∃ j_4 : Nat, xs1 = nI j_4 ∧ j_4 < 2400 ∧ (Wm mX9_writes 2 0 0 Q 54 [some (.ref (ad (gMo 0))), none, some (.int x2), none, some (.int x4), some (.int x5), some (.int (x6 + nI 1))] [] (HN h0 ad (up2 cs (gMo 1) j_4 (cs (gMo 1) j_1)) pm) 0 0)))) : Wm mX9_writes 2 0 0 Q 88 [some (.ref (ad (gMo 0))), none, some (.int x2), none, some (.int x4), some (.int x5), some (.int x6)] [.int xs3, .ref (ad (gMo 1)), .int xs1, .ref (ad (gMo 1))] (HN h0 ad cs pm) 0 0 := by
  refine rl_iload dX9_writes_88 rfl ?_
  refine rl_iadd dX9_writes_90 ?_
  obtain ⟨j_1, e_2, b_3, H⟩ := H
  refine rt_iald (j := j_1) dX9_writes_91 (lMo1 L) nzMo e_2 b_3 (by decide) ?_
  obtain ⟨j_4, e_5, b_6, H⟩ := H
  refine rt_iast (j := j_4) L.2.1 dX9_writes_92 (lMo1 L) nzMo e_5 b_6 (by decide) ?_
  refine rl_iinc (v := x6 + nI 1) (L' := [some (.ref (ad (gMo 0))), none, some (.int x2), none, some (.int x4), some (.int x5), some (.int (x6 + nI 1))]) dX9_writes_93 rfl (congrArg (fun z => x6 + z) (by decide)) (Nat.le_of_ble_eq_true rfl) rfl ?_
  refine rl_goto (tgt := 54) dX9_writes_96 (by decide) ?_
  exact H
theorem tX9_writes_122 {n : Nat} {ad : Nat → Nat} {h0 : Hp} {cs : Nat → Nat → Int32} {pm : Nat → Nat → Nat} (L : Lay n ad h0) {Q : Nat → Option Value → Hp → Prop} {x2 x4 x5 xs1 xs2 : Int32} (H : (∃ j_1 : Nat, xs1 = nI j_1 ∧ j_1 < 2400 ∧ (Wm mX9_writes 2 0 0 Q 42 [some (.ref (ad (gMo 0))), none, some (.int x2), none, some (.int x4), some (.int (x5 + nI 1)), none] [] (HN h0 ad (up2 cs (gMo 1) j_1 xs2) pm) 0 0))) : Wm mX9_writes 2 0 0 Q 122 [some (.ref (ad (gMo 0))), none, some (.int x2), none, some (.int x4), some (.int x5), none] [.int xs2, .int xs1, .ref (ad (gMo 1))] (HN h0 ad cs pm) 0 0 := by
  obtain ⟨j_1, e_2, b_3, H⟩ := H
  refine rt_iast (j := j_1) L.2.1 dX9_writes_122 (lMo1 L) nzMo e_2 b_3 (by decide) ?_
  refine rl_iinc (v := x5 + nI 1) (L' := [some (.ref (ad (gMo 0))), none, some (.int x2), none, some (.int x4), some (.int (x5 + nI 1)), none]) dX9_writes_123 rfl (congrArg (fun z => x5 + z) (by decide)) (Nat.le_of_ble_eq_true rfl) rfl ?_
  refine rl_goto (tgt := 42) dX9_writes_126 (by decide) ?_
  exact H
theorem tX9_messageAt_0 {n : Nat} {ad : Nat → Nat} {h0 : Hp} {cs : Nat → Nat → Int32} {pm : Nat → Nat → Nat} (L : Lay n ad h0) {Q : Nat → Option Value → Hp → Prop} {x0 : Int32} (H : Q 0 (some (.int ((nI 900) + ((nI 160) * x0)))) (HN h0 ad cs pm)) : Wm mX9_messageAt 0 0 0 Q 0 [some (.int x0)] [] (HN h0 ad cs pm) 0 0 := by
  refine rl_sipush (v := nI 900) dX9_messageAt_0 (by decide) ?_
  refine rl_sipush (v := nI 160) dX9_messageAt_3 (by decide) ?_
  refine rl_iload_n dX9_messageAt_6 rfl rfl ?_
  refine rl_imul dX9_messageAt_7 ?_
  refine rl_iadd dX9_messageAt_8 ?_
  exact rl_iret dX9_messageAt_9 rfl (Nat.le_refl 0) (Nat.le_refl 0) H
theorem tX9_deliver_0 {n : Nat} {ad : Nat → Nat} {h0 : Hp} {cs : Nat → Nat → Int32} {pm : Nat → Nat → Nat} (L : Lay n ad h0) {Q : Nat → Option Value → Hp → Prop} {x1 : Int32} (H : CKi mX9_isMessage 1 0 0 [some (.ref (ad (gMo 0))), some (.int x1)] (HN h0 ad cs pm) (fun v h' => Wm mX9_deliver 2 0 0 Q 6 [some (.ref (ad (gMo 0))), some (.int x1), none] [.int v, .ref (ad (gMo 0))] h' 0 0)) : Wm mX9_deliver 2 0 0 Q 0 [some (.ref (ad (gMo 0))), some (.int x1), none] [] (HN h0 ad cs pm) 0 0 := by
  refine rl_aload_n dX9_deliver_0 rfl rfl ?_
  refine rl_aload_n dX9_deliver_1 rfl rfl ?_
  refine rl_iload_n dX9_deliver_2 rfl rfl ?_
  exact rl_callV (As := [.int x1]) (rest := [.ref (ad (gMo 0))]) mfX9_isMessage dX9_deliver_3 lkX9_130 (lMo0 L).K (by decide) (Nat.le_of_ble_eq_true rfl) (Nat.le_refl _) (Nat.le_refl _) rfl (Nat.le_of_ble_eq_true rfl) rfl rfl (fun Qc k => H Qc (fun v h' w => k (some (.int v)) h' w))
theorem tX9_deliver_6 {n : Nat} {ad : Nat → Nat} {h0 : Hp} {cs : Nat → Nat → Int32} {pm : Nat → Nat → Nat} (L : Lay n ad h0) {Q : Nat → Option Value → Hp → Prop} {x1 xs1 : Int32} (H : ((xs1 = 0 → Q 0 (some (.int (nI 0))) (HN h0 ad (up2 cs (gMo 0) 7 (nI 1)) pm)) ∧ (¬ xs1 = 0 → CKv mX9_act 0 0 0 [some (.ref (ad (gMo 0))), none] (HN h0 ad (up2 cs (gMo 0) 7 (nI 0)) pm) (fun h' => Wm mX9_deliver 2 0 0 Q 30 [some (.ref (ad (gMo 0))), some (.int x1), none] [] h' 0 0)))) : Wm mX9_deliver 2 0 0 Q 6 [some (.ref (ad (gMo 0))), some (.int x1), none] [.int xs1, .ref (ad (gMo 0))] (HN h0 ad cs pm) 0 0 := by
  refine rl_if_eq (tgt := 13) dX9_deliver_6 (by decide) (fun c_1 => ?_) (fun c_1 => ?_)
  · have H := H.1 c_1
    refine rl_iconst (v := nI 1) dX9_deliver_13 (by decide) ?_
    refine rt_putI (k := 7) L.2.1 cfX9 dX9_deliver_14 flX9_42 (by decide) rfl (lMo0 L) nzMo (Or.inl rfl) ?_
    refine rl_aload_n dX9_deliver_17 rfl rfl ?_
    refine rt_getIv (x := nI 1) (k := 7) cfX9 dX9_deliver_18 flX9_42 (by decide) rfl (lMo0 L) nzMo (up2_s) ?_
    refine rl_if_eq (tgt := 26) dX9_deliver_21 (by decide) (fun q => absurd q (by decide)) (fun _ => ?_)
    refine rl_iconst (v := nI 0) dX9_deliver_24 (by decide) ?_
    exact rl_iret dX9_deliver_25 rfl (Nat.le_refl 0) (Nat.le_refl 0) H
  · have H := H.2 c_1
    refine rl_iconst (v := nI 0) dX9_deliver_9 (by decide) ?_
    refine rl_goto (tgt := 14) dX9_deliver_10 (by decide) ?_
    refine rt_putI (k := 7) L.2.1 cfX9 dX9_deliver_14 flX9_42 (by decide) rfl (lMo0 L) nzMo (Or.inl rfl) ?_
    refine rl_aload_n dX9_deliver_17 rfl rfl ?_
    refine rt_getIv (x := nI 0) (k := 7) cfX9 dX9_deliver_18 flX9_42 (by decide) rfl (lMo0 L) nzMo (up2_s) ?_
    refine rl_if_eq (tgt := 26) dX9_deliver_21 (by decide) (fun _ => ?_) (fun q => absurd q (by decide))
    refine rl_aload_n dX9_deliver_26 rfl rfl ?_
    exact rl_callV (As := []) (rest := []) mfX9_act dX9_deliver_27 lkX9_99 (lMo0 L).K (by decide) (Nat.le_of_ble_eq_true rfl) (Nat.le_refl _) (Nat.le_refl _) rfl (Nat.le_of_ble_eq_true rfl) rfl rfl (fun Qc k => H Qc (fun h' w => k none h' w))
theorem tX9_deliver_30 {n : Nat} {ad : Nat → Nat} {h0 : Hp} {cs : Nat → Nat → Int32} {pm : Nat → Nat → Nat} (L : Lay n ad h0) {Q : Nat → Option Value → Hp → Prop} {x1 : Int32} (H : CKi mX9_arrives 1 0 0 [some (.ref (ad (gMo 0))), some (.int x1), none, none, none, none, none, none, none, none] (HN h0 ad cs pm) (fun v h' => Wm mX9_deliver 2 0 0 Q 35 [some (.ref (ad (gMo 0))), some (.int x1), none] [.int v] h' 0 0)) : Wm mX9_deliver 2 0 0 Q 30 [some (.ref (ad (gMo 0))), some (.int x1), none] [] (HN h0 ad cs pm) 0 0 := by
  refine rl_aload_n dX9_deliver_30 rfl rfl ?_
  refine rl_iload_n dX9_deliver_31 rfl rfl ?_
  exact rl_callV (As := [.int x1]) (rest := []) mfX9_arrives dX9_deliver_32 lkX9_133 (lMo0 L).K (by decide) (Nat.le_of_ble_eq_true rfl) (Nat.le_refl _) (Nat.le_refl _) rfl (Nat.le_of_ble_eq_true rfl) rfl rfl (fun Qc k => H Qc (fun v h' w => k (some (.int v)) h' w))
theorem tX9_deliver_35 {n : Nat} {ad : Nat → Nat} {h0 : Hp} {cs : Nat → Nat → Int32} {pm : Nat → Nat → Nat} (L : Lay n ad h0) {Q : Nat → Option Value → Hp → Prop} {x1 xs0 : Int32} (H : CKv mX9_goes 1 0 0 [some (.ref (ad (gMo 0))), some (.int x1), none] (HN h0 ad cs pm) (fun h' => Wm mX9_deliver 2 0 0 Q 41 [none, none, some (.int xs0)] [] h' 0 0)) : Wm mX9_deliver 2 0 0 Q 35 [some (.ref (ad (gMo 0))), some (.int x1), none] [.int xs0] (HN h0 ad cs pm) 0 0 := by
  refine rl_istore_n (L' := [some (.ref (ad (gMo 0))), some (.int x1), some (.int xs0)]) dX9_deliver_35 rfl (Nat.le_of_ble_eq_true rfl) rfl ?_
  refine rl_aload_n dX9_deliver_36 rfl rfl ?_
  refine rl_iload_n dX9_deliver_37 rfl rfl ?_
  exact rl_callV (As := [.int x1]) (rest := []) mfX9_goes dX9_deliver_38 lkX9_136 (lMo0 L).K (by decide) (Nat.le_of_ble_eq_true rfl) (Nat.le_refl _) (Nat.le_refl _) rfl (Nat.le_of_ble_eq_true rfl) rfl rfl (fun Qc k => H Qc (fun h' w => k none h' (rl_wk (L' := [none, none, some (.int xs0)]) ⟨rfl, trivial⟩ w)))
theorem tX9_deliver_41 {n : Nat} {ad : Nat → Nat} {h0 : Hp} {cs : Nat → Nat → Int32} {pm : Nat → Nat → Nat} (L : Lay n ad h0) {Q : Nat → Option Value → Hp → Prop} {x2 : Int32} (H : Q 0 (some (.int x2)) (HN h0 ad cs pm)) : Wm mX9_deliver 2 0 0 Q 41 [none, none, some (.int x2)] [] (HN h0 ad cs pm) 0 0 := by
  refine rl_iload_n dX9_deliver_41 rfl rfl ?_
  exact rl_iret dX9_deliver_42 rfl (Nat.le_refl 0) (Nat.le_refl 0) H
theorem tX9_isMessage_0 {n : Nat} {ad : Nat → Nat} {h0 : Hp} {cs : Nat → Nat → Int32} {pm : Nat → Nat → Nat} (L : Lay n ad h0) {Q : Nat → Option Value → Hp → Prop} {x1 : Int32} (H : CKi mX9_in 0 0 0 [some (.int x1), some (.int (nI 0)), some (.int ((cs (gMo 1) 5) - (nI 1)))] (HN h0 ad cs pm) (fun v h' => Wm mX9_isMessage 1 0 0 Q 13 [none, none] [.int v] h' 0 0)) : Wm mX9_isMessage 1 0 0 Q 0 [some (.ref (ad (gMo 0))), some (.int x1)] [] (HN h0 ad cs pm) 0 0 := by
  refine rl_iload_n dX9_isMessage_0 rfl rfl ?_
  refine rl_iconst (v := nI 0) dX9_isMessage_1 (by decide) ?_
  refine rl_aload_n dX9_isMessage_2 rfl rfl ?_
  refine rt_getP (k := 1) cfX9 dX9_isMessage_3 flX9_7 (by decide) rfl (lMo0 L) (rMo1 L) naMo ?_
  refine rl_iconst (v := nI 5) dX9_isMessage_6 (by decide) ?_
  refine rt_iald (j := 5) dX9_isMessage_7 (lMo1 L) nzMo rfl (by decide) (by decide) ?_
  refine rl_iconst (v := nI 1) dX9_isMessage_8 (by decide) ?_
  refine rl_isub dX9_isMessage_9 ?_
  exact rl_callS (As := [.int x1, .int (nI 0), .int ((cs (gMo 1) 5) - (nI 1))]) (rest := []) mfX9_in dX9_isMessage_10 lkX9_48 (by decide) (Nat.le_of_ble_eq_true rfl) (Nat.le_refl _) (Nat.le_refl _) rfl (Nat.le_of_ble_eq_true rfl) rfl rfl (fun Qc k => H Qc (fun v h' w => k (some (.int v)) h' (rl_wk (L' := [none, none]) trivial w)))
theorem tX9_isMessage_13 {n : Nat} {ad : Nat → Nat} {h0 : Hp} {cs : Nat → Nat → Int32} {pm : Nat → Nat → Nat} (L : Lay n ad h0) {Q : Nat → Option Value → Hp → Prop} {xs0 : Int32} (H : narrow .boolean (.int xs0) = .int xs0 ∧ Q 0 (some (.int xs0)) (HN h0 ad cs pm)) : Wm mX9_isMessage 1 0 0 Q 13 [none, none] [.int xs0] (HN h0 ad cs pm) 0 0 := by
  obtain ⟨o_1, H⟩ := H
  exact rl_zret dX9_isMessage_13 rfl o_1 (Nat.le_refl 0) (Nat.le_refl 0) H
theorem tX9_arrives_0 {n : Nat} {ad : Nat → Nat} {h0 : Hp} {cs : Nat → Nat → Int32} {pm : Nat → Nat → Nat} (L : Lay n ad h0) {Q : Nat → Option Value → Hp → Prop} {x1 : Int32} (H : CKi mX9_messageAt 0 0 0 [some (.int x1)] (HN h0 ad cs pm) (fun v h' => Wm mX9_arrives 1 0 0 Q 4 [some (.ref (ad (gMo 0))), none, none, none, none, none, none, none, none, none] [.int v] h' 0 0)) : Wm mX9_arrives 1 0 0 Q 0 [some (.ref (ad (gMo 0))), some (.int x1), none, none, none, none, none, none, none, none] [] (HN h0 ad cs pm) 0 0 := by
  refine rl_iload_n dX9_arrives_0 rfl rfl ?_
  exact rl_callS (As := [.int x1]) (rest := []) mfX9_messageAt dX9_arrives_1 lkX9_124 (by decide) (Nat.le_of_ble_eq_true rfl) (Nat.le_refl _) (Nat.le_refl _) rfl (Nat.le_of_ble_eq_true rfl) rfl rfl (fun Qc k => H Qc (fun v h' w => k (some (.int v)) h' (rl_wk (L' := [some (.ref (ad (gMo 0))), none, none, none, none, none, none, none, none, none]) ⟨rfl, trivial⟩ w)))
theorem tX9_arrives_4 {n : Nat} {ad : Nat → Nat} {h0 : Hp} {cs : Nat → Nat → Int32} {pm : Nat → Nat → Nat} (L : Lay n ad h0) {Q : Nat → Option Value → Hp → Prop} {xs0 : Int32} (H : (∃ j_1 : Nat, xs0 + (nI 1) = nI j_1 ∧ j_1 < 2400 ∧ (Wm mX9_arrives 1 0 0 Q 20 [some (.ref (ad (gMo 0))), none, some (.int xs0), some (.int (cs (gMo 1) j_1)), some (.int (nI 0)), some (.int (nI 0)), none, none, none, none] [] (HN h0 ad cs pm) 0 0))) : Wm mX9_arrives 1 0 0 Q 4 [some (.ref (ad (gMo 0))), none, none, none, none, none, none, none, none, none] [.int xs0] (HN h0 ad cs pm) 0 0 := by
  refine rl_istore_n (L' := [some (.ref (ad (gMo 0))), none, some (.int xs0), none, none, none, none, none, none, none]) dX9_arrives_4 rfl (Nat.le_of_ble_eq_true rfl) rfl ?_
  refine rl_aload_n dX9_arrives_5 rfl rfl ?_
  refine rt_getP (k := 1) cfX9 dX9_arrives_6 flX9_7 (by decide) rfl (lMo0 L) (rMo1 L) naMo ?_
  refine rl_iload_n dX9_arrives_9 rfl rfl ?_
  refine rl_iconst (v := nI 1) dX9_arrives_10 (by decide) ?_
  refine rl_iadd dX9_arrives_11 ?_
  obtain ⟨j_1, e_2, b_3, H⟩ := H
  refine rt_iald (j := j_1) dX9_arrives_12 (lMo1 L) nzMo e_2 b_3 (by decide) ?_
  refine rl_istore_n (L' := [some (.ref (ad (gMo 0))), none, some (.int xs0), some (.int (cs (gMo 1) j_1)), none, none, none, none, none, none]) dX9_arrives_13 rfl (Nat.le_of_ble_eq_true rfl) rfl ?_
  refine rl_iconst (v := nI 0) dX9_arrives_14 (by decide) ?_
  refine rl_istore (L' := [some (.ref (ad (gMo 0))), none, some (.int xs0), some (.int (cs (gMo 1) j_1)), some (.int (nI 0)), none, none, none, none, none]) dX9_arrives_15 (Nat.le_of_ble_eq_true rfl) rfl ?_
  refine rl_iconst (v := nI 0) dX9_arrives_17 (by decide) ?_
  refine rl_istore (L' := [some (.ref (ad (gMo 0))), none, some (.int xs0), some (.int (cs (gMo 1) j_1)), some (.int (nI 0)), some (.int (nI 0)), none, none, none, none]) dX9_arrives_18 (Nat.le_of_ble_eq_true rfl) rfl ?_
  exact H
theorem tX9_arrives_20 {n : Nat} {ad : Nat → Nat} {h0 : Hp} {cs : Nat → Nat → Int32} {pm : Nat → Nat → Nat} (L : Lay n ad h0) {Q : Nat → Option Value → Hp → Prop} {x2 x3 x4 x5 : Int32} (H : (((cs (gMo 0) 0) ≤ x5 → Q 0 (some (.int x4)) (HN h0 ad cs pm)) ∧ (¬ (cs (gMo 0) 0) ≤ x5 → CKi mX9_record 0 0 0 [some (.int x3), some (.int x5)] (HN h0 ad cs pm) (fun v h' => Wm mX9_arrives 1 0 0 Q 46 [some (.ref (ad (gMo 0))), none, some (.int x2), some (.int x3), some (.int x4), some (.int x5), some (.int ((x2 + (nI 3)) + ((nI 30) * x5))), none, none, none] [.int v] h' 0 0)))) : Wm mX9_arrives 1 0 0 Q 20 [some (.ref (ad (gMo 0))), none, some (.int x2), some (.int x3), some (.int x4), some (.int x5), none, none, none, none] [] (HN h0 ad cs pm) 0 0 := by
  refine rl_iload dX9_arrives_20 rfl ?_
  refine rl_aload_n dX9_arrives_22 rfl rfl ?_
  refine rt_getI (k := 0) cfX9 dX9_arrives_23 flX9_34 (by decide) rfl (lMo0 L) nzMo ?_
  refine rl_icmp_ge (tgt := 174) dX9_arrives_26 (by decide) (fun c_1 => ?_) (fun c_1 => ?_)
  · have H := H.1 c_1
    refine rl_iload dX9_arrives_174 rfl ?_
    exact rl_iret dX9_arrives_176 rfl (Nat.le_refl 0) (Nat.le_refl 0) H
  · have H := H.2 c_1
    refine rl_iload_n dX9_arrives_29 rfl rfl ?_
    refine rl_iconst (v := nI 3) dX9_arrives_30 (by decide) ?_
    refine rl_iadd dX9_arrives_31 ?_
    refine rl_bipush (v := nI 30) dX9_arrives_32 (by decide) ?_
    refine rl_iload dX9_arrives_34 rfl ?_
    refine rl_imul dX9_arrives_36 ?_
    refine rl_iadd dX9_arrives_37 ?_
    refine rl_istore (L' := [some (.ref (ad (gMo 0))), none, some (.int x2), some (.int x3), some (.int x4), some (.int x5), some (.int ((x2 + (nI 3)) + ((nI 30) * x5))), none, none, none]) dX9_arrives_38 (Nat.le_of_ble_eq_true rfl) rfl ?_
    refine rl_iload_n dX9_arrives_40 rfl rfl ?_
    refine rl_iload dX9_arrives_41 rfl ?_
    exact rl_callS (As := [.int x3, .int x5]) (rest := []) mfX9_record dX9_arrives_43 lkX9_52 (by decide) (Nat.le_of_ble_eq_true rfl) (Nat.le_refl _) (Nat.le_refl _) rfl (Nat.le_of_ble_eq_true rfl) rfl rfl (fun Qc k => H Qc (fun v h' w => k (some (.int v)) h' w))
theorem tX9_arrives_46 {n : Nat} {ad : Nat → Nat} {h0 : Hp} {cs : Nat → Nat → Int32} {pm : Nat → Nat → Nat} (L : Lay n ad h0) {Q : Nat → Option Value → Hp → Prop} {x2 x3 x4 x5 x6 xs0 : Int32} (H : (∃ j_1 : Nat, xs0 + (nI 0) = nI j_1 ∧ j_1 < 2400 ∧ (∃ j_4 : Nat, x6 + (nI 0) = nI j_4 ∧ j_4 < 2400 ∧ ((((cs (gMo 1) j_1) < (cs (gMo 1) j_4) → Wm mX9_arrives 1 0 0 Q 111 [some (.ref (ad (gMo 0))), none, some (.int x2), some (.int x3), some (.int x4), some (.int x5), some (.int x6), some (.int xs0), none, none] [] (HN h0 ad cs pm) 0 0) ∧ (¬ (cs (gMo 1) j_1) < (cs (gMo 1) j_4) → ((¬ (cs (gMo 1) j_1) = (cs (gMo 1) j_4) → Wm mX9_arrives 1 0 0 Q 115 [some (.ref (ad (gMo 0))), none, some (.int x2), some (.int x3), some (.int x4), some (.int x5), some (.int x6), some (.int xs0), none, none] [] (HN h0 ad cs pm) 0 0) ∧ ((cs (gMo 1) j_1) = (cs (gMo 1) j_4) → (∃ j_9 : Nat, xs0 + (nI 1) = nI j_9 ∧ j_9 < 2400 ∧ (∃ j_12 : Nat, x6 + (nI 1) = nI j_12 ∧ j_12 < 2400 ∧ ((((cs (gMo 1) j_12) ≤ (cs (gMo 1) j_9) → Wm mX9_arrives 1 0 0 Q 115 [some (.ref (ad (gMo 0))), none, some (.int x2), some (.int x3), some (.int x4), some (.int x5), some (.int x6), some (.int xs0), none, none] [] (HN h0 ad cs pm) 0 0) ∧ (¬ (cs (gMo 1) j_12) ≤ (cs (gMo 1) j_9) → Wm mX9_arrives 1 0 0 Q 111 [some (.ref (ad (gMo 0))), none, some (.int x2), some (.int x3), some (.int x4), some (.int x5), some (.int x6), some (.int xs0), none, none] [] (HN h0 ad cs pm) 0 0))))))))))))) : Wm mX9_arrives 1 0 0 Q 46 [some (.ref (ad (gMo 0))), none, some (.int x2), some (.int x3), some (.int x4), some (.int x5), some (.int x6), none, none, none] [.int xs0] (HN h0 ad cs pm) 0 0 := by
  refine rl_istore (L' := [some (.ref (ad (gMo 0))), none, some (.int x2), some (.int x3), some (.int x4), some (.int x5), some (.int x6), some (.int xs0), none, none]) dX9_arrives_46 (Nat.le_of_ble_eq_true rfl) rfl ?_
  refine rl_aload_n dX9_arrives_48 rfl rfl ?_
  refine rt_getP (k := 1) cfX9 dX9_arrives_49 flX9_7 (by decide) rfl (lMo0 L) (rMo1 L) naMo ?_
  refine rl_iload dX9_arrives_52 rfl ?_
  refine rl_iconst (v := nI 0) dX9_arrives_54 (by decide) ?_
  refine rl_iadd dX9_arrives_55 ?_
  obtain ⟨j_1, e_2, b_3, H⟩ := H
  refine rt_iald (j := j_1) dX9_arrives_56 (lMo1 L) nzMo e_2 b_3 (by decide) ?_
  refine rl_aload_n dX9_arrives_57 rfl rfl ?_
  refine rt_getP (k := 1) cfX9 dX9_arrives_58 flX9_7 (by decide) rfl (lMo0 L) (rMo1 L) naMo ?_
  refine rl_iload dX9_arrives_61 rfl ?_
  refine rl_iconst (v := nI 0) dX9_arrives_63 (by decide) ?_
  refine rl_iadd dX9_arrives_64 ?_
  obtain ⟨j_4, e_5, b_6, H⟩ := H
  refine rt_iald (j := j_4) dX9_arrives_65 (lMo1 L) nzMo e_5 b_6 (by decide) ?_
  refine rl_icmp_lt (tgt := 111) dX9_arrives_66 (by decide) (fun c_7 => ?_) (fun c_7 => ?_)
  · have H := H.1 c_7
    exact H
  · have H := H.2 c_7
    refine rl_aload_n dX9_arrives_69 rfl rfl ?_
    refine rt_getP (k := 1) cfX9 dX9_arrives_70 flX9_7 (by decide) rfl (lMo0 L) (rMo1 L) naMo ?_
    refine rl_iload dX9_arrives_73 rfl ?_
    refine rl_iconst (v := nI 0) dX9_arrives_75 (by decide) ?_
    refine rl_iadd dX9_arrives_76 ?_
    refine rt_iald (j := j_1) dX9_arrives_77 (lMo1 L) nzMo e_2 b_3 (by decide) ?_
    refine rl_aload_n dX9_arrives_78 rfl rfl ?_
    refine rt_getP (k := 1) cfX9 dX9_arrives_79 flX9_7 (by decide) rfl (lMo0 L) (rMo1 L) naMo ?_
    refine rl_iload dX9_arrives_82 rfl ?_
    refine rl_iconst (v := nI 0) dX9_arrives_84 (by decide) ?_
    refine rl_iadd dX9_arrives_85 ?_
    refine rt_iald (j := j_4) dX9_arrives_86 (lMo1 L) nzMo e_5 b_6 (by decide) ?_
    refine rl_icmp_ne (tgt := 115) dX9_arrives_87 (by decide) (fun c_8 => ?_) (fun c_8 => ?_)
    · have H := H.1 c_8
      exact H
    · have H := H.2 c_8
      refine rl_aload_n dX9_arrives_90 rfl rfl ?_
      refine rt_getP (k := 1) cfX9 dX9_arrives_91 flX9_7 (by decide) rfl (lMo0 L) (rMo1 L) naMo ?_
      refine rl_iload dX9_arrives_94 rfl ?_
      refine rl_iconst (v := nI 1) dX9_arrives_96 (by decide) ?_
      refine rl_iadd dX9_arrives_97 ?_
      obtain ⟨j_9, e_10, b_11, H⟩ := H
      refine rt_iald (j := j_9) dX9_arrives_98 (lMo1 L) nzMo e_10 b_11 (by decide) ?_
      refine rl_aload_n dX9_arrives_99 rfl rfl ?_
      refine rt_getP (k := 1) cfX9 dX9_arrives_100 flX9_7 (by decide) rfl (lMo0 L) (rMo1 L) naMo ?_
      refine rl_iload dX9_arrives_103 rfl ?_
      refine rl_iconst (v := nI 1) dX9_arrives_105 (by decide) ?_
      refine rl_iadd dX9_arrives_106 ?_
      obtain ⟨j_12, e_13, b_14, H⟩ := H
      refine rt_iald (j := j_12) dX9_arrives_107 (lMo1 L) nzMo e_13 b_14 (by decide) ?_
      refine rl_icmp_ge (tgt := 115) dX9_arrives_108 (by decide) (fun c_15 => ?_) (fun c_15 => ?_)
      · have H := H.1 c_15
        exact H
      · have H := H.2 c_15
        exact H
theorem tX9_arrives_111 {n : Nat} {ad : Nat → Nat} {h0 : Hp} {cs : Nat → Nat → Int32} {pm : Nat → Nat → Nat} (L : Lay n ad h0) {Q : Nat → Option Value → Hp → Prop} {x2 x3 x4 x5 x6 x7 : Int32} (H : ((x5 = x3 → Wm mX9_arrives 1 0 0 Q 168 [some (.ref (ad (gMo 0))), none, some (.int x2), some (.int x3), some (.int x4), some (.int x5), none, none, none, none] [] (HN h0 ad cs pm) 0 0) ∧ (¬ x5 = x3 → Wm mX9_arrives 1 0 0 Q 135 [some (.ref (ad (gMo 0))), none, some (.int x2), some (.int x3), some (.int (x4 + nI 1)), some (.int x5), some (.int x6), some (.int x7), none, some (.int (nI 0))] [] (HN h0 ad cs pm) 0 0))) : Wm mX9_arrives 1 0 0 Q 111 [some (.ref (ad (gMo 0))), none, some (.int x2), some (.int x3), some (.int x4), some (.int x5), some (.int x6), some (.int x7), none, none] [] (HN h0 ad cs pm) 0 0 := by
  refine rl_iconst (v := nI 1) dX9_arrives_111 (by decide) ?_
  refine rl_goto (tgt := 116) dX9_arrives_112 (by decide) ?_
  refine rl_istore (L' := [some (.ref (ad (gMo 0))), none, some (.int x2), some (.int x3), some (.int x4), some (.int x5), some (.int x6), some (.int x7), some (.int (nI 1)), none]) dX9_arrives_116 (Nat.le_of_ble_eq_true rfl) rfl ?_
  refine rl_iload dX9_arrives_118 rfl ?_
  refine rl_iload_n dX9_arrives_120 rfl rfl ?_
  refine rl_icmp_eq (tgt := 168) dX9_arrives_121 (by decide) (fun c_1 => ?_) (fun c_1 => ?_)
  · have H := H.1 c_1
    refine rl_wk (L' := [some (.ref (ad (gMo 0))), none, some (.int x2), some (.int x3), some (.int x4), some (.int x5), none, none, none, none]) ⟨rfl, ⟨rfl, ⟨rfl, ⟨rfl, ⟨rfl, trivial⟩⟩⟩⟩⟩ ?_
    exact H
  · have H := H.2 c_1
    refine rl_iload dX9_arrives_124 rfl ?_
    refine rl_if_eq (tgt := 168) dX9_arrives_126 (by decide) (fun q => absurd q (by decide)) (fun _ => ?_)
    refine rl_iinc (v := x4 + nI 1) (L' := [some (.ref (ad (gMo 0))), none, some (.int x2), some (.int x3), some (.int (x4 + nI 1)), some (.int x5), some (.int x6), some (.int x7), some (.int (nI 1)), none]) dX9_arrives_129 rfl (congrArg (fun z => x4 + z) (by decide)) (Nat.le_of_ble_eq_true rfl) rfl ?_
    refine rl_iconst (v := nI 0) dX9_arrives_132 (by decide) ?_
    refine rl_istore (L' := [some (.ref (ad (gMo 0))), none, some (.int x2), some (.int x3), some (.int (x4 + nI 1)), some (.int x5), some (.int x6), some (.int x7), some (.int (nI 1)), some (.int (nI 0))]) dX9_arrives_133 (Nat.le_of_ble_eq_true rfl) rfl ?_
    refine rl_wk (L' := [some (.ref (ad (gMo 0))), none, some (.int x2), some (.int x3), some (.int (x4 + nI 1)), some (.int x5), some (.int x6), some (.int x7), none, some (.int (nI 0))]) ⟨rfl, ⟨rfl, ⟨rfl, ⟨rfl, ⟨rfl, ⟨rfl, ⟨rfl, ⟨rfl, trivial⟩⟩⟩⟩⟩⟩⟩⟩ ?_
    exact H
theorem tX9_arrives_115 {n : Nat} {ad : Nat → Nat} {h0 : Hp} {cs : Nat → Nat → Int32} {pm : Nat → Nat → Nat} (L : Lay n ad h0) {Q : Nat → Option Value → Hp → Prop} {x2 x3 x4 x5 x6 x7 : Int32} (H : ((x5 = x3 → Wm mX9_arrives 1 0 0 Q 168 [some (.ref (ad (gMo 0))), none, some (.int x2), some (.int x3), some (.int x4), some (.int x5), none, none, none, none] [] (HN h0 ad cs pm) 0 0) ∧ (¬ x5 = x3 → Wm mX9_arrives 1 0 0 Q 168 [some (.ref (ad (gMo 0))), none, some (.int x2), some (.int x3), some (.int x4), some (.int x5), none, none, none, none] [] (HN h0 ad cs pm) 0 0))) : Wm mX9_arrives 1 0 0 Q 115 [some (.ref (ad (gMo 0))), none, some (.int x2), some (.int x3), some (.int x4), some (.int x5), some (.int x6), some (.int x7), none, none] [] (HN h0 ad cs pm) 0 0 := by
  refine rl_iconst (v := nI 0) dX9_arrives_115 (by decide) ?_
  refine rl_istore (L' := [some (.ref (ad (gMo 0))), none, some (.int x2), some (.int x3), some (.int x4), some (.int x5), some (.int x6), some (.int x7), some (.int (nI 0)), none]) dX9_arrives_116 (Nat.le_of_ble_eq_true rfl) rfl ?_
  refine rl_iload dX9_arrives_118 rfl ?_
  refine rl_iload_n dX9_arrives_120 rfl rfl ?_
  refine rl_icmp_eq (tgt := 168) dX9_arrives_121 (by decide) (fun c_1 => ?_) (fun c_1 => ?_)
  · have H := H.1 c_1
    refine rl_wk (L' := [some (.ref (ad (gMo 0))), none, some (.int x2), some (.int x3), some (.int x4), some (.int x5), none, none, none, none]) ⟨rfl, ⟨rfl, ⟨rfl, ⟨rfl, ⟨rfl, trivial⟩⟩⟩⟩⟩ ?_
    exact H
  · have H := H.2 c_1
    refine rl_iload dX9_arrives_124 rfl ?_
    refine rl_if_eq (tgt := 168) dX9_arrives_126 (by decide) (fun _ => ?_) (fun q => absurd q (by decide))
    refine rl_wk (L' := [some (.ref (ad (gMo 0))), none, some (.int x2), some (.int x3), some (.int x4), some (.int x5), none, none, none, none]) ⟨rfl, ⟨rfl, ⟨rfl, ⟨rfl, ⟨rfl, trivial⟩⟩⟩⟩⟩ ?_
    exact H
theorem tX9_arrives_135 {n : Nat} {ad : Nat → Nat} {h0 : Hp} {cs : Nat → Nat → Int32} {pm : Nat → Nat → Nat} (L : Lay n ad h0) {Q : Nat → Option Value → Hp → Prop} {x2 x3 x4 x5 x6 x7 x9 : Int32} (H : (((nI 30) ≤ x9 → Wm mX9_arrives 1 0 0 Q 168 [some (.ref (ad (gMo 0))), none, some (.int x2), some (.int x3), some (.int x4), some (.int x5), none, none, none, none] [] (HN h0 ad cs pm) 0 0) ∧ (¬ (nI 30) ≤ x9 → (∃ j_2 : Nat, x6 + x9 = nI j_2 ∧ j_2 < 2400 ∧ (∃ j_5 : Nat, x7 + x9 = nI j_5 ∧ j_5 < 2400 ∧ (Wm mX9_arrives 1 0 0 Q 135 [some (.ref (ad (gMo 0))), none, some (.int x2), some (.int x3), some (.int x4), some (.int x5), some (.int x6), some (.int x7), none, some (.int (x9 + nI 1))] [] (HN h0 ad (up2 cs (gMo 1) j_5 (cs (gMo 1) j_2)) pm) 0 0)))))) : Wm mX9_arrives 1 0 0 Q 135 [some (.ref (ad (gMo 0))), none, some (.int x2), some (.int x3), some (.int x4), some (.int x5), some (.int x6), some (.int x7), none, some (.int x9)] [] (HN h0 ad cs pm) 0 0 := by
  refine rl_iload dX9_arrives_135 rfl ?_
  refine rl_bipush (v := nI 30) dX9_arrives_137 (by decide) ?_
  refine rl_icmp_ge (tgt := 168) dX9_arrives_139 (by decide) (fun c_1 => ?_) (fun c_1 => ?_)
  · have H := H.1 c_1
    refine rl_wk (L' := [some (.ref (ad (gMo 0))), none, some (.int x2), some (.int x3), some (.int x4), some (.int x5), none, none, none, none]) ⟨rfl, ⟨rfl, ⟨rfl, ⟨rfl, ⟨rfl, trivial⟩⟩⟩⟩⟩ ?_
    exact H
  · have H := H.2 c_1
    refine rl_aload_n dX9_arrives_142 rfl rfl ?_
    refine rt_getP (k := 1) cfX9 dX9_arrives_143 flX9_7 (by decide) rfl (lMo0 L) (rMo1 L) naMo ?_
    refine rl_iload dX9_arrives_146 rfl ?_
    refine rl_iload dX9_arrives_148 rfl ?_
    refine rl_iadd dX9_arrives_150 ?_
    refine rl_aload_n dX9_arrives_151 rfl rfl ?_
    refine rt_getP (k := 1) cfX9 dX9_arrives_152 flX9_7 (by decide) rfl (lMo0 L) (rMo1 L) naMo ?_
    refine rl_iload dX9_arrives_155 rfl ?_
    refine rl_iload dX9_arrives_157 rfl ?_
    refine rl_iadd dX9_arrives_159 ?_
    obtain ⟨j_2, e_3, b_4, H⟩ := H
    refine rt_iald (j := j_2) dX9_arrives_160 (lMo1 L) nzMo e_3 b_4 (by decide) ?_
    obtain ⟨j_5, e_6, b_7, H⟩ := H
    refine rt_iast (j := j_5) L.2.1 dX9_arrives_161 (lMo1 L) nzMo e_6 b_7 (by decide) ?_
    refine rl_iinc (v := x9 + nI 1) (L' := [some (.ref (ad (gMo 0))), none, some (.int x2), some (.int x3), some (.int x4), some (.int x5), some (.int x6), some (.int x7), none, some (.int (x9 + nI 1))]) dX9_arrives_162 rfl (congrArg (fun z => x9 + z) (by decide)) (Nat.le_of_ble_eq_true rfl) rfl ?_
    refine rl_goto (tgt := 135) dX9_arrives_165 (by decide) ?_
    exact H
theorem tX9_arrives_168 {n : Nat} {ad : Nat → Nat} {h0 : Hp} {cs : Nat → Nat → Int32} {pm : Nat → Nat → Nat} (L : Lay n ad h0) {Q : Nat → Option Value → Hp → Prop} {x2 x3 x4 x5 : Int32} (H : Wm mX9_arrives 1 0 0 Q 20 [some (.ref (ad (gMo 0))), none, some (.int x2), some (.int x3), some (.int x4), some (.int (x5 + nI 1)), none, none, none, none] [] (HN h0 ad cs pm) 0 0) : Wm mX9_arrives 1 0 0 Q 168 [some (.ref (ad (gMo 0))), none, some (.int x2), some (.int x3), some (.int x4), some (.int x5), none, none, none, none] [] (HN h0 ad cs pm) 0 0 := by
  refine rl_iinc (v := x5 + nI 1) (L' := [some (.ref (ad (gMo 0))), none, some (.int x2), some (.int x3), some (.int x4), some (.int (x5 + nI 1)), none, none, none, none]) dX9_arrives_168 rfl (congrArg (fun z => x5 + z) (by decide)) (Nat.le_of_ble_eq_true rfl) rfl ?_
  refine rl_goto (tgt := 20) dX9_arrives_171 (by decide) ?_
  exact H
theorem tX9_goes_0 {n : Nat} {ad : Nat → Nat} {h0 : Hp} {cs : Nat → Nat → Int32} {pm : Nat → Nat → Nat} (L : Lay n ad h0) {Q : Nat → Option Value → Hp → Prop} {x1 : Int32} (H : CKi mX9_messageAt 0 0 0 [some (.int x1)] (HN h0 ad (up2 cs (gMo 1) 5 ((cs (gMo 1) 5) - (nI 1))) pm) (fun v h' => Wm mX9_goes 1 0 0 Q 14 [some (.ref (ad (gMo 0))), none, none] [.int v] h' 0 0)) : Wm mX9_goes 1 0 0 Q 0 [some (.ref (ad (gMo 0))), some (.int x1), none] [] (HN h0 ad cs pm) 0 0 := by
  refine rl_aload_n dX9_goes_0 rfl rfl ?_
  refine rt_getP (k := 1) cfX9 dX9_goes_1 flX9_7 (by decide) rfl (lMo0 L) (rMo1 L) naMo ?_
  refine rl_iconst (v := nI 5) dX9_goes_4 (by decide) ?_
  refine rl_dup2 dX9_goes_5 rfl rfl ?_
  refine rt_iald (j := 5) dX9_goes_6 (lMo1 L) nzMo rfl (by decide) (by decide) ?_
  refine rl_iconst (v := nI 1) dX9_goes_7 (by decide) ?_
  refine rl_isub dX9_goes_8 ?_
  refine rt_iast (j := 5) L.2.1 dX9_goes_9 (lMo1 L) nzMo rfl (by decide) (by decide) ?_
  refine rl_iload_n dX9_goes_10 rfl rfl ?_
  exact rl_callS (As := [.int x1]) (rest := []) mfX9_messageAt dX9_goes_11 lkX9_124 (by decide) (Nat.le_of_ble_eq_true rfl) (Nat.le_refl _) (Nat.le_refl _) rfl (Nat.le_of_ble_eq_true rfl) rfl rfl (fun Qc k => H Qc (fun v h' w => k (some (.int v)) h' (rl_wk (L' := [some (.ref (ad (gMo 0))), none, none]) ⟨rfl, trivial⟩ w)))
theorem tX9_goes_14 {n : Nat} {ad : Nat → Nat} {h0 : Hp} {cs : Nat → Nat → Int32} {pm : Nat → Nat → Nat} (L : Lay n ad h0) {Q : Nat → Option Value → Hp → Prop} {xs0 : Int32} (H : Wm mX9_goes 1 0 0 Q 15 [some (.ref (ad (gMo 0))), none, some (.int xs0)] [] (HN h0 ad cs pm) 0 0) : Wm mX9_goes 1 0 0 Q 14 [some (.ref (ad (gMo 0))), none, none] [.int xs0] (HN h0 ad cs pm) 0 0 := by
  refine rl_istore_n (L' := [some (.ref (ad (gMo 0))), none, some (.int xs0)]) dX9_goes_14 rfl (Nat.le_of_ble_eq_true rfl) rfl ?_
  exact H
theorem tX9_goes_15 {n : Nat} {ad : Nat → Nat} {h0 : Hp} {cs : Nat → Nat → Int32} {pm : Nat → Nat → Nat} (L : Lay n ad h0) {Q : Nat → Option Value → Hp → Prop} {x2 : Int32} (H : CKi mX9_messageAt 0 0 0 [some (.int (cs (gMo 1) 5))] (HN h0 ad cs pm) (fun v h' => Wm mX9_goes 1 0 0 Q 25 [some (.ref (ad (gMo 0))), none, some (.int x2)] [.int v, .int x2] h' 0 0)) : Wm mX9_goes 1 0 0 Q 15 [some (.ref (ad (gMo 0))), none, some (.int x2)] [] (HN h0 ad cs pm) 0 0 := by
  refine rl_iload_n dX9_goes_15 rfl rfl ?_
  refine rl_aload_n dX9_goes_16 rfl rfl ?_
  refine rt_getP (k := 1) cfX9 dX9_goes_17 flX9_7 (by decide) rfl (lMo0 L) (rMo1 L) naMo ?_
  refine rl_iconst (v := nI 5) dX9_goes_20 (by decide) ?_
  refine rt_iald (j := 5) dX9_goes_21 (lMo1 L) nzMo rfl (by decide) (by decide) ?_
  exact rl_callS (As := [.int (cs (gMo 1) 5)]) (rest := [.int x2]) mfX9_messageAt dX9_goes_22 lkX9_124 (by decide) (Nat.le_of_ble_eq_true rfl) (Nat.le_refl _) (Nat.le_refl _) rfl (Nat.le_of_ble_eq_true rfl) rfl rfl (fun Qc k => H Qc (fun v h' w => k (some (.int v)) h' w))
theorem tX9_goes_25 {n : Nat} {ad : Nat → Nat} {h0 : Hp} {cs : Nat → Nat → Int32} {pm : Nat → Nat → Nat} (L : Lay n ad h0) {Q : Nat → Option Value → Hp → Prop} {x2 xs0 xs1 : Int32} (H : ((xs1 ≤ xs0 → Q 0 none (HN h0 ad cs pm)) ∧ (¬ xs1 ≤ xs0 → (∃ j_2 : Nat, x2 + (nI 160) = nI j_2 ∧ j_2 < 2400 ∧ (∃ j_5 : Nat, x2 = nI j_5 ∧ j_5 < 2400 ∧ (Wm mX9_goes 1 0 0 Q 15 [some (.ref (ad (gMo 0))), none, some (.int (x2 + nI 1))] [] (HN h0 ad (up2 cs (gMo 1) j_5 (cs (gMo 1) j_2)) pm) 0 0)))))) : Wm mX9_goes 1 0 0 Q 25 [some (.ref (ad (gMo 0))), none, some (.int x2)] [.int xs1, .int xs0] (HN h0 ad cs pm) 0 0 := by
  refine rl_icmp_ge (tgt := 50) dX9_goes_25 (by decide) (fun c_1 => ?_) (fun c_1 => ?_)
  · have H := H.1 c_1
    exact rl_vret dX9_goes_50 rfl (Nat.le_refl 0) (Nat.le_refl 0) H
  · have H := H.2 c_1
    refine rl_aload_n dX9_goes_28 rfl rfl ?_
    refine rt_getP (k := 1) cfX9 dX9_goes_29 flX9_7 (by decide) rfl (lMo0 L) (rMo1 L) naMo ?_
    refine rl_iload_n dX9_goes_32 rfl rfl ?_
    refine rl_aload_n dX9_goes_33 rfl rfl ?_
    refine rt_getP (k := 1) cfX9 dX9_goes_34 flX9_7 (by decide) rfl (lMo0 L) (rMo1 L) naMo ?_
    refine rl_iload_n dX9_goes_37 rfl rfl ?_
    refine rl_sipush (v := nI 160) dX9_goes_38 (by decide) ?_
    refine rl_iadd dX9_goes_41 ?_
    obtain ⟨j_2, e_3, b_4, H⟩ := H
    refine rt_iald (j := j_2) dX9_goes_42 (lMo1 L) nzMo e_3 b_4 (by decide) ?_
    obtain ⟨j_5, e_6, b_7, H⟩ := H
    refine rt_iast (j := j_5) L.2.1 dX9_goes_43 (lMo1 L) nzMo e_6 b_7 (by decide) ?_
    refine rl_iinc (v := x2 + nI 1) (L' := [some (.ref (ad (gMo 0))), none, some (.int (x2 + nI 1))]) dX9_goes_44 rfl (congrArg (fun z => x2 + z) (by decide)) (Nat.le_of_ble_eq_true rfl) rfl ?_
    refine rl_goto (tgt := 15) dX9_goes_47 (by decide) ?_
    exact H
theorem tX9_lose_0 {n : Nat} {ad : Nat → Nat} {h0 : Hp} {cs : Nat → Nat → Int32} {pm : Nat → Nat → Nat} (L : Lay n ad h0) {Q : Nat → Option Value → Hp → Prop} {x1 : Int32} (H : CKi mX9_isMessage 1 0 0 [some (.ref (ad (gMo 0))), some (.int x1)] (HN h0 ad cs pm) (fun v h' => Wm mX9_lose 2 0 0 Q 6 [some (.ref (ad (gMo 0))), some (.int x1)] [.int v, .ref (ad (gMo 0))] h' 0 0)) : Wm mX9_lose 2 0 0 Q 0 [some (.ref (ad (gMo 0))), some (.int x1)] [] (HN h0 ad cs pm) 0 0 := by
  refine rl_aload_n dX9_lose_0 rfl rfl ?_
  refine rl_aload_n dX9_lose_1 rfl rfl ?_
  refine rl_iload_n dX9_lose_2 rfl rfl ?_
  exact rl_callV (As := [.int x1]) (rest := [.ref (ad (gMo 0))]) mfX9_isMessage dX9_lose_3 lkX9_130 (lMo0 L).K (by decide) (Nat.le_of_ble_eq_true rfl) (Nat.le_refl _) (Nat.le_refl _) rfl (Nat.le_of_ble_eq_true rfl) rfl rfl (fun Qc k => H Qc (fun v h' w => k (some (.int v)) h' w))
theorem tX9_lose_6 {n : Nat} {ad : Nat → Nat} {h0 : Hp} {cs : Nat → Nat → Int32} {pm : Nat → Nat → Nat} (L : Lay n ad h0) {Q : Nat → Option Value → Hp → Prop} {x1 xs1 : Int32} (H : ((xs1 = 0 → Q 0 (some (.int (nI 0))) (HN h0 ad (up2 cs (gMo 0) 7 (nI 1)) pm)) ∧ (¬ xs1 = 0 → CKv mX9_act 0 0 0 [some (.ref (ad (gMo 0))), none] (HN h0 ad (up2 cs (gMo 0) 7 (nI 0)) pm) (fun h' => Wm mX9_lose 2 0 0 Q 30 [some (.ref (ad (gMo 0))), some (.int x1)] [] h' 0 0)))) : Wm mX9_lose 2 0 0 Q 6 [some (.ref (ad (gMo 0))), some (.int x1)] [.int xs1, .ref (ad (gMo 0))] (HN h0 ad cs pm) 0 0 := by
  refine rl_if_eq (tgt := 13) dX9_lose_6 (by decide) (fun c_1 => ?_) (fun c_1 => ?_)
  · have H := H.1 c_1
    refine rl_iconst (v := nI 1) dX9_lose_13 (by decide) ?_
    refine rt_putI (k := 7) L.2.1 cfX9 dX9_lose_14 flX9_42 (by decide) rfl (lMo0 L) nzMo (Or.inl rfl) ?_
    refine rl_aload_n dX9_lose_17 rfl rfl ?_
    refine rt_getIv (x := nI 1) (k := 7) cfX9 dX9_lose_18 flX9_42 (by decide) rfl (lMo0 L) nzMo (up2_s) ?_
    refine rl_if_eq (tgt := 26) dX9_lose_21 (by decide) (fun q => absurd q (by decide)) (fun _ => ?_)
    refine rl_iconst (v := nI 0) dX9_lose_24 (by decide) ?_
    exact rl_iret dX9_lose_25 rfl (Nat.le_refl 0) (Nat.le_refl 0) H
  · have H := H.2 c_1
    refine rl_iconst (v := nI 0) dX9_lose_9 (by decide) ?_
    refine rl_goto (tgt := 14) dX9_lose_10 (by decide) ?_
    refine rt_putI (k := 7) L.2.1 cfX9 dX9_lose_14 flX9_42 (by decide) rfl (lMo0 L) nzMo (Or.inl rfl) ?_
    refine rl_aload_n dX9_lose_17 rfl rfl ?_
    refine rt_getIv (x := nI 0) (k := 7) cfX9 dX9_lose_18 flX9_42 (by decide) rfl (lMo0 L) nzMo (up2_s) ?_
    refine rl_if_eq (tgt := 26) dX9_lose_21 (by decide) (fun _ => ?_) (fun q => absurd q (by decide))
    refine rl_aload_n dX9_lose_26 rfl rfl ?_
    exact rl_callV (As := []) (rest := []) mfX9_act dX9_lose_27 lkX9_99 (lMo0 L).K (by decide) (Nat.le_of_ble_eq_true rfl) (Nat.le_refl _) (Nat.le_refl _) rfl (Nat.le_of_ble_eq_true rfl) rfl rfl (fun Qc k => H Qc (fun h' w => k none h' w))
theorem tX9_lose_30 {n : Nat} {ad : Nat → Nat} {h0 : Hp} {cs : Nat → Nat → Int32} {pm : Nat → Nat → Nat} (L : Lay n ad h0) {Q : Nat → Option Value → Hp → Prop} {x1 : Int32} (H : CKv mX9_goes 1 0 0 [some (.ref (ad (gMo 0))), some (.int x1), none] (HN h0 ad cs pm) (fun h' => Wm mX9_lose 2 0 0 Q 35 [some (.ref (ad (gMo 0))), none] [] h' 0 0)) : Wm mX9_lose 2 0 0 Q 30 [some (.ref (ad (gMo 0))), some (.int x1)] [] (HN h0 ad cs pm) 0 0 := by
  refine rl_aload_n dX9_lose_30 rfl rfl ?_
  refine rl_iload_n dX9_lose_31 rfl rfl ?_
  exact rl_callV (As := [.int x1]) (rest := []) mfX9_goes dX9_lose_32 lkX9_136 (lMo0 L).K (by decide) (Nat.le_of_ble_eq_true rfl) (Nat.le_refl _) (Nat.le_refl _) rfl (Nat.le_of_ble_eq_true rfl) rfl rfl (fun Qc k => H Qc (fun h' w => k none h' (rl_wk (L' := [some (.ref (ad (gMo 0))), none]) ⟨rfl, trivial⟩ w)))
theorem tX9_lose_35 {n : Nat} {ad : Nat → Nat} {h0 : Hp} {cs : Nat → Nat → Int32} {pm : Nat → Nat → Nat} (L : Lay n ad h0) {Q : Nat → Option Value → Hp → Prop}  (H : Q 0 (some (.int (cs (gMo 1) 5))) (HN h0 ad cs pm)) : Wm mX9_lose 2 0 0 Q 35 [some (.ref (ad (gMo 0))), none] [] (HN h0 ad cs pm) 0 0 := by
  refine rl_aload_n dX9_lose_35 rfl rfl ?_
  refine rt_getP (k := 1) cfX9 dX9_lose_36 flX9_7 (by decide) rfl (lMo0 L) (rMo1 L) naMo ?_
  refine rl_iconst (v := nI 5) dX9_lose_39 (by decide) ?_
  refine rt_iald (j := 5) dX9_lose_40 (lMo1 L) nzMo rfl (by decide) (by decide) ?_
  exact rl_iret dX9_lose_41 rfl (Nat.le_refl 0) (Nat.le_refl 0) H
theorem tX9_repeat_0 {n : Nat} {ad : Nat → Nat} {h0 : Hp} {cs : Nat → Nat → Int32} {pm : Nat → Nat → Nat} (L : Lay n ad h0) {Q : Nat → Option Value → Hp → Prop} {x1 : Int32} (H : CKi mX9_isMessage 1 0 0 [some (.ref (ad (gMo 0))), some (.int x1)] (HN h0 ad cs pm) (fun v h' => Wm mX9_repeat 2 0 0 Q 6 [some (.ref (ad (gMo 0))), some (.int x1), none] [.int v, .ref (ad (gMo 0))] h' 0 0)) : Wm mX9_repeat 2 0 0 Q 0 [some (.ref (ad (gMo 0))), some (.int x1), none] [] (HN h0 ad cs pm) 0 0 := by
  refine rl_aload_n dX9_repeat_0 rfl rfl ?_
  refine rl_aload_n dX9_repeat_1 rfl rfl ?_
  refine rl_iload_n dX9_repeat_2 rfl rfl ?_
  exact rl_callV (As := [.int x1]) (rest := [.ref (ad (gMo 0))]) mfX9_isMessage dX9_repeat_3 lkX9_130 (lMo0 L).K (by decide) (Nat.le_of_ble_eq_true rfl) (Nat.le_refl _) (Nat.le_refl _) rfl (Nat.le_of_ble_eq_true rfl) rfl rfl (fun Qc k => H Qc (fun v h' w => k (some (.int v)) h' w))
theorem tX9_repeat_6 {n : Nat} {ad : Nat → Nat} {h0 : Hp} {cs : Nat → Nat → Int32} {pm : Nat → Nat → Nat} (L : Lay n ad h0) {Q : Nat → Option Value → Hp → Prop} {x1 xs1 : Int32} (H : ((¬ xs1 = 0 → ((¬ (cs (gMo 1) 5) = (nI 8) → CKv mX9_act 0 0 0 [some (.ref (ad (gMo 0))), none] (HN h0 ad (up2 cs (gMo 0) 7 (nI 0)) pm) (fun h' => Wm mX9_repeat 2 0 0 Q 45 [some (.ref (ad (gMo 0))), some (.int x1), none] [] h' 0 0)) ∧ ((cs (gMo 1) 5) = (nI 8) → Q 0 (some (.int (nI 0))) (HN h0 ad (up2 cs (gMo 0) 7 (nI 2)) pm)))) ∧ (xs1 = 0 → Q 0 (some (.int (nI 0))) (HN h0 ad (up2 cs (gMo 0) 7 (nI 1)) pm)))) : Wm mX9_repeat 2 0 0 Q 6 [some (.ref (ad (gMo 0))), some (.int x1), none] [.int xs1, .ref (ad (gMo 0))] (HN h0 ad cs pm) 0 0 := by
  refine rl_if_ne (tgt := 13) dX9_repeat_6 (by decide) (fun c_1 => ?_) (fun c_1 => ?_)
  · have H := H.1 c_1
    refine rl_aload_n dX9_repeat_13 rfl rfl ?_
    refine rt_getP (k := 1) cfX9 dX9_repeat_14 flX9_7 (by decide) rfl (lMo0 L) (rMo1 L) naMo ?_
    refine rl_iconst (v := nI 5) dX9_repeat_17 (by decide) ?_
    refine rt_iald (j := 5) dX9_repeat_18 (lMo1 L) nzMo rfl (by decide) (by decide) ?_
    refine rl_bipush (v := nI 8) dX9_repeat_19 (by decide) ?_
    refine rl_icmp_ne (tgt := 28) dX9_repeat_21 (by decide) (fun c_2 => ?_) (fun c_2 => ?_)
    · have H := H.1 c_2
      refine rl_iconst (v := nI 0) dX9_repeat_28 (by decide) ?_
      refine rt_putI (k := 7) L.2.1 cfX9 dX9_repeat_29 flX9_42 (by decide) rfl (lMo0 L) nzMo (Or.inl rfl) ?_
      refine rl_aload_n dX9_repeat_32 rfl rfl ?_
      refine rt_getIv (x := nI 0) (k := 7) cfX9 dX9_repeat_33 flX9_42 (by decide) rfl (lMo0 L) nzMo (up2_s) ?_
      refine rl_if_eq (tgt := 41) dX9_repeat_36 (by decide) (fun _ => ?_) (fun q => absurd q (by decide))
      refine rl_aload_n dX9_repeat_41 rfl rfl ?_
      exact rl_callV (As := []) (rest := []) mfX9_act dX9_repeat_42 lkX9_99 (lMo0 L).K (by decide) (Nat.le_of_ble_eq_true rfl) (Nat.le_refl _) (Nat.le_refl _) rfl (Nat.le_of_ble_eq_true rfl) rfl rfl (fun Qc k => H Qc (fun h' w => k none h' w))
    · have H := H.2 c_2
      refine rl_iconst (v := nI 2) dX9_repeat_24 (by decide) ?_
      refine rl_goto (tgt := 29) dX9_repeat_25 (by decide) ?_
      refine rt_putI (k := 7) L.2.1 cfX9 dX9_repeat_29 flX9_42 (by decide) rfl (lMo0 L) nzMo (Or.inl rfl) ?_
      refine rl_aload_n dX9_repeat_32 rfl rfl ?_
      refine rt_getIv (x := nI 2) (k := 7) cfX9 dX9_repeat_33 flX9_42 (by decide) rfl (lMo0 L) nzMo (up2_s) ?_
      refine rl_if_eq (tgt := 41) dX9_repeat_36 (by decide) (fun q => absurd q (by decide)) (fun _ => ?_)
      refine rl_iconst (v := nI 0) dX9_repeat_39 (by decide) ?_
      exact rl_iret dX9_repeat_40 rfl (Nat.le_refl 0) (Nat.le_refl 0) H
  · have H := H.2 c_1
    refine rl_iconst (v := nI 1) dX9_repeat_9 (by decide) ?_
    refine rl_goto (tgt := 29) dX9_repeat_10 (by decide) ?_
    refine rt_putI (k := 7) L.2.1 cfX9 dX9_repeat_29 flX9_42 (by decide) rfl (lMo0 L) nzMo (Or.inl rfl) ?_
    refine rl_aload_n dX9_repeat_32 rfl rfl ?_
    refine rt_getIv (x := nI 1) (k := 7) cfX9 dX9_repeat_33 flX9_42 (by decide) rfl (lMo0 L) nzMo (up2_s) ?_
    refine rl_if_eq (tgt := 41) dX9_repeat_36 (by decide) (fun q => absurd q (by decide)) (fun _ => ?_)
    refine rl_iconst (v := nI 0) dX9_repeat_39 (by decide) ?_
    exact rl_iret dX9_repeat_40 rfl (Nat.le_refl 0) (Nat.le_refl 0) H
theorem tX9_repeat_45 {n : Nat} {ad : Nat → Nat} {h0 : Hp} {cs : Nat → Nat → Int32} {pm : Nat → Nat → Nat} (L : Lay n ad h0) {Q : Nat → Option Value → Hp → Prop} {x1 : Int32} (H : Wm mX9_repeat 2 0 0 Q 47 [some (.ref (ad (gMo 0))), some (.int x1), some (.int (nI 0))] [] (HN h0 ad cs pm) 0 0) : Wm mX9_repeat 2 0 0 Q 45 [some (.ref (ad (gMo 0))), some (.int x1), none] [] (HN h0 ad cs pm) 0 0 := by
  refine rl_iconst (v := nI 0) dX9_repeat_45 (by decide) ?_
  refine rl_istore_n (L' := [some (.ref (ad (gMo 0))), some (.int x1), some (.int (nI 0))]) dX9_repeat_46 rfl (Nat.le_of_ble_eq_true rfl) rfl ?_
  exact H
theorem tX9_repeat_47 {n : Nat} {ad : Nat → Nat} {h0 : Hp} {cs : Nat → Nat → Int32} {pm : Nat → Nat → Nat} (L : Lay n ad h0) {Q : Nat → Option Value → Hp → Prop} {x1 x2 : Int32} (H : (((nI 160) ≤ x2 → Q 0 (some (.int (((cs (gMo 1) 5) + (nI 1)) - (nI 1)))) (HN h0 ad (up2 cs (gMo 1) 5 ((cs (gMo 1) 5) + (nI 1))) pm)) ∧ (¬ (nI 160) ≤ x2 → CKi mX9_messageAt 0 0 0 [some (.int (cs (gMo 1) 5))] (HN h0 ad cs pm) (fun v h' => Wm mX9_repeat 2 0 0 Q 67 [some (.ref (ad (gMo 0))), some (.int x1), some (.int x2)] [.int v, .ref (ad (gMo 1))] h' 0 0)))) : Wm mX9_repeat 2 0 0 Q 47 [some (.ref (ad (gMo 0))), some (.int x1), some (.int x2)] [] (HN h0 ad cs pm) 0 0 := by
  refine rl_iload_n dX9_repeat_47 rfl rfl ?_
  refine rl_sipush (v := nI 160) dX9_repeat_48 (by decide) ?_
  refine rl_icmp_ge (tgt := 87) dX9_repeat_51 (by decide) (fun c_1 => ?_) (fun c_1 => ?_)
  · have H := H.1 c_1
    refine rl_aload_n dX9_repeat_87 rfl rfl ?_
    refine rt_getP (k := 1) cfX9 dX9_repeat_88 flX9_7 (by decide) rfl (lMo0 L) (rMo1 L) naMo ?_
    refine rl_iconst (v := nI 5) dX9_repeat_91 (by decide) ?_
    refine rl_dup2 dX9_repeat_92 rfl rfl ?_
    refine rt_iald (j := 5) dX9_repeat_93 (lMo1 L) nzMo rfl (by decide) (by decide) ?_
    refine rl_iconst (v := nI 1) dX9_repeat_94 (by decide) ?_
    refine rl_iadd dX9_repeat_95 ?_
    refine rt_iast (j := 5) L.2.1 dX9_repeat_96 (lMo1 L) nzMo rfl (by decide) (by decide) ?_
    refine rl_aload_n dX9_repeat_97 rfl rfl ?_
    refine rt_getP (k := 1) cfX9 dX9_repeat_98 flX9_7 (by decide) rfl (lMo0 L) (rMo1 L) naMo ?_
    refine rl_iconst (v := nI 5) dX9_repeat_101 (by decide) ?_
    refine rt_ialdv (y := (cs (gMo 1) 5) + (nI 1)) (j := 5) dX9_repeat_102 (lMo1 L) nzMo rfl (by decide) (by decide) (up2_s) ?_
    refine rl_iconst (v := nI 1) dX9_repeat_103 (by decide) ?_
    refine rl_isub dX9_repeat_104 ?_
    exact rl_iret dX9_repeat_105 rfl (Nat.le_refl 0) (Nat.le_refl 0) H
  · have H := H.2 c_1
    refine rl_aload_n dX9_repeat_54 rfl rfl ?_
    refine rt_getP (k := 1) cfX9 dX9_repeat_55 flX9_7 (by decide) rfl (lMo0 L) (rMo1 L) naMo ?_
    refine rl_aload_n dX9_repeat_58 rfl rfl ?_
    refine rt_getP (k := 1) cfX9 dX9_repeat_59 flX9_7 (by decide) rfl (lMo0 L) (rMo1 L) naMo ?_
    refine rl_iconst (v := nI 5) dX9_repeat_62 (by decide) ?_
    refine rt_iald (j := 5) dX9_repeat_63 (lMo1 L) nzMo rfl (by decide) (by decide) ?_
    exact rl_callS (As := [.int (cs (gMo 1) 5)]) (rest := [.ref (ad (gMo 1))]) mfX9_messageAt dX9_repeat_64 lkX9_124 (by decide) (Nat.le_of_ble_eq_true rfl) (Nat.le_refl _) (Nat.le_refl _) rfl (Nat.le_of_ble_eq_true rfl) rfl rfl (fun Qc k => H Qc (fun v h' w => k (some (.int v)) h' w))
theorem tX9_repeat_67 {n : Nat} {ad : Nat → Nat} {h0 : Hp} {cs : Nat → Nat → Int32} {pm : Nat → Nat → Nat} (L : Lay n ad h0) {Q : Nat → Option Value → Hp → Prop} {x1 x2 xs1 : Int32} (H : CKi mX9_messageAt 0 0 0 [some (.int x1)] (HN h0 ad cs pm) (fun v h' => Wm mX9_repeat 2 0 0 Q 77 [some (.ref (ad (gMo 0))), some (.int x1), some (.int x2)] [.int v, .ref (ad (gMo 1)), .int (xs1 + x2), .ref (ad (gMo 1))] h' 0 0)) : Wm mX9_repeat 2 0 0 Q 67 [some (.ref (ad (gMo 0))), some (.int x1), some (.int x2)] [.int xs1, .ref (ad (gMo 1))] (HN h0 ad cs pm) 0 0 := by
  refine rl_iload_n dX9_repeat_67 rfl rfl ?_
  refine rl_iadd dX9_repeat_68 ?_
  refine rl_aload_n dX9_repeat_69 rfl rfl ?_
  refine rt_getP (k := 1) cfX9 dX9_repeat_70 flX9_7 (by decide) rfl (lMo0 L) (rMo1 L) naMo ?_
  refine rl_iload_n dX9_repeat_73 rfl rfl ?_
  exact rl_callS (As := [.int x1]) (rest := [.ref (ad (gMo 1)), .int (xs1 + x2), .ref (ad (gMo 1))]) mfX9_messageAt dX9_repeat_74 lkX9_124 (by decide) (Nat.le_of_ble_eq_true rfl) (Nat.le_refl _) (Nat.le_refl _) rfl (Nat.le_of_ble_eq_true rfl) rfl rfl (fun Qc k => H Qc (fun v h' w => k (some (.int v)) h' w))
theorem tX9_repeat_77 {n : Nat} {ad : Nat → Nat} {h0 : Hp} {cs : Nat → Nat → Int32} {pm : Nat → Nat → Nat} (L : Lay n ad h0) {Q : Nat → Option Value → Hp → Prop} {x1 x2 xs1 xs3 : Int32} (H : (∃ j_1 : Nat, xs3 + x2 = nI j_1 ∧ j_1 < 2400 ∧ (∃ j_4 : Nat, xs1 = nI j_4 ∧ j_4 < 2400 ∧ (Wm mX9_repeat 2 0 0 Q 47 [some (.ref (ad (gMo 0))), some (.int x1), some (.int (x2 + nI 1))] [] (HN h0 ad (up2 cs (gMo 1) j_4 (cs (gMo 1) j_1)) pm) 0 0)))) : Wm mX9_repeat 2 0 0 Q 77 [some (.ref (ad (gMo 0))), some (.int x1), some (.int x2)] [.int xs3, .ref (ad (gMo 1)), .int xs1, .ref (ad (gMo 1))] (HN h0 ad cs pm) 0 0 := by
  refine rl_iload_n dX9_repeat_77 rfl rfl ?_
  refine rl_iadd dX9_repeat_78 ?_
  obtain ⟨j_1, e_2, b_3, H⟩ := H
  refine rt_iald (j := j_1) dX9_repeat_79 (lMo1 L) nzMo e_2 b_3 (by decide) ?_
  obtain ⟨j_4, e_5, b_6, H⟩ := H
  refine rt_iast (j := j_4) L.2.1 dX9_repeat_80 (lMo1 L) nzMo e_5 b_6 (by decide) ?_
  refine rl_iinc (v := x2 + nI 1) (L' := [some (.ref (ad (gMo 0))), some (.int x1), some (.int (x2 + nI 1))]) dX9_repeat_81 rfl (congrArg (fun z => x2 + z) (by decide)) (Nat.le_of_ble_eq_true rfl) rfl ?_
  refine rl_goto (tgt := 47) dX9_repeat_84 (by decide) ?_
  exact H
theorem tX9_messages_0 {n : Nat} {ad : Nat → Nat} {h0 : Hp} {cs : Nat → Nat → Int32} {pm : Nat → Nat → Nat} (L : Lay n ad h0) {Q : Nat → Option Value → Hp → Prop}  (H : Q 0 (some (.int (cs (gMo 1) 5))) (HN h0 ad (up2 cs (gMo 0) 7 (nI 0)) pm)) : Wm mX9_messages 0 0 0 Q 0 [some (.ref (ad (gMo 0)))] [] (HN h0 ad cs pm) 0 0 := by
  refine rl_aload_n dX9_messages_0 rfl rfl ?_
  refine rl_iconst (v := nI 0) dX9_messages_1 (by decide) ?_
  refine rt_putI (k := 7) L.2.1 cfX9 dX9_messages_2 flX9_42 (by decide) rfl (lMo0 L) nzMo (Or.inl rfl) ?_
  refine rl_aload_n dX9_messages_5 rfl rfl ?_
  refine rt_getP (k := 1) cfX9 dX9_messages_6 flX9_7 (by decide) rfl (lMo0 L) (rMo1 L) naMo ?_
  refine rl_iconst (v := nI 5) dX9_messages_9 (by decide) ?_
  refine rt_ialdv (y := cs (gMo 1) 5) (j := 5) dX9_messages_10 (lMo1 L) nzMo rfl (by decide) (by decide) ((up2_k (by decide)).trans (rfl)) ?_
  exact rl_iret dX9_messages_11 rfl (Nat.le_refl 0) (Nat.le_refl 0) H
theorem tX9_message_0 {n : Nat} {ad : Nat → Nat} {h0 : Hp} {cs : Nat → Nat → Int32} {pm : Nat → Nat → Nat} (L : Lay n ad h0) {Q : Nat → Option Value → Hp → Prop} {x1 x2 : Int32} (H : CKi mX9_isMessage 1 0 0 [some (.ref (ad (gMo 0))), some (.int x1)] (HN h0 ad cs pm) (fun v h' => Wm mX9_message 2 0 0 Q 6 [some (.ref (ad (gMo 0))), some (.int x1), some (.int x2)] [.int v, .ref (ad (gMo 0))] h' 0 0)) : Wm mX9_message 2 0 0 Q 0 [some (.ref (ad (gMo 0))), some (.int x1), some (.int x2)] [] (HN h0 ad cs pm) 0 0 := by
  refine rl_aload_n dX9_message_0 rfl rfl ?_
  refine rl_aload_n dX9_message_1 rfl rfl ?_
  refine rl_iload_n dX9_message_2 rfl rfl ?_
  exact rl_callV (As := [.int x1]) (rest := [.ref (ad (gMo 0))]) mfX9_isMessage dX9_message_3 lkX9_130 (lMo0 L).K (by decide) (Nat.le_of_ble_eq_true rfl) (Nat.le_refl _) (Nat.le_refl _) rfl (Nat.le_of_ble_eq_true rfl) rfl rfl (fun Qc k => H Qc (fun v h' w => k (some (.int v)) h' w))
theorem tX9_message_6 {n : Nat} {ad : Nat → Nat} {h0 : Hp} {cs : Nat → Nat → Int32} {pm : Nat → Nat → Nat} (L : Lay n ad h0) {Q : Nat → Option Value → Hp → Prop} {x1 x2 xs1 : Int32} (H : ((xs1 = 0 → Q 0 (some (.int (nI 0))) (HN h0 ad (up2 cs (gMo 0) 7 (nI 1)) pm)) ∧ (¬ xs1 = 0 → CKi mX9_in 0 0 0 [some (.int x2), some (.int (nI 0)), some (.int (nI 2))] (HN h0 ad cs pm) (fun v h' => Wm mX9_message 2 0 0 Q 15 [some (.ref (ad (gMo 0))), some (.int x1), some (.int x2)] [.int v, .ref (ad (gMo 0))] h' 0 0)))) : Wm mX9_message 2 0 0 Q 6 [some (.ref (ad (gMo 0))), some (.int x1), some (.int x2)] [.int xs1, .ref (ad (gMo 0))] (HN h0 ad cs pm) 0 0 := by
  refine rl_if_eq (tgt := 22) dX9_message_6 (by decide) (fun c_1 => ?_) (fun c_1 => ?_)
  · have H := H.1 c_1
    refine rl_iconst (v := nI 1) dX9_message_22 (by decide) ?_
    refine rt_putI (k := 7) L.2.1 cfX9 dX9_message_23 flX9_42 (by decide) rfl (lMo0 L) nzMo (Or.inl rfl) ?_
    refine rl_aload_n dX9_message_26 rfl rfl ?_
    refine rt_getIv (x := nI 1) (k := 7) cfX9 dX9_message_27 flX9_42 (by decide) rfl (lMo0 L) nzMo (up2_s) ?_
    refine rl_if_ne (tgt := 47) dX9_message_30 (by decide) (fun _ => ?_) (fun q => absurd q (by decide))
    refine rl_iconst (v := nI 0) dX9_message_47 (by decide) ?_
    exact rl_iret dX9_message_48 rfl (Nat.le_refl 0) (Nat.le_refl 0) H
  · have H := H.2 c_1
    refine rl_iload_n dX9_message_9 rfl rfl ?_
    refine rl_iconst (v := nI 0) dX9_message_10 (by decide) ?_
    refine rl_iconst (v := nI 2) dX9_message_11 (by decide) ?_
    exact rl_callS (As := [.int x2, .int (nI 0), .int (nI 2)]) (rest := [.ref (ad (gMo 0))]) mfX9_in dX9_message_12 lkX9_48 (by decide) (Nat.le_of_ble_eq_true rfl) (Nat.le_refl _) (Nat.le_refl _) rfl (Nat.le_of_ble_eq_true rfl) rfl rfl (fun Qc k => H Qc (fun v h' w => k (some (.int v)) h' w))
theorem tX9_message_15 {n : Nat} {ad : Nat → Nat} {h0 : Hp} {cs : Nat → Nat → Int32} {pm : Nat → Nat → Nat} (L : Lay n ad h0) {Q : Nat → Option Value → Hp → Prop} {x1 x2 xs1 : Int32} (H : ((xs1 = 0 → Q 0 (some (.int (nI 0))) (HN h0 ad (up2 cs (gMo 0) 7 (nI 1)) pm)) ∧ (¬ xs1 = 0 → CKi mX9_messageAt 0 0 0 [some (.int x1)] (HN h0 ad (up2 cs (gMo 0) 7 (nI 0)) pm) (fun v h' => Wm mX9_message 2 0 0 Q 41 [none, none, some (.int x2)] [.int v, .ref (ad (gMo 1))] h' 0 0)))) : Wm mX9_message 2 0 0 Q 15 [some (.ref (ad (gMo 0))), some (.int x1), some (.int x2)] [.int xs1, .ref (ad (gMo 0))] (HN h0 ad cs pm) 0 0 := by
  refine rl_if_eq (tgt := 22) dX9_message_15 (by decide) (fun c_1 => ?_) (fun c_1 => ?_)
  · have H := H.1 c_1
    refine rl_iconst (v := nI 1) dX9_message_22 (by decide) ?_
    refine rt_putI (k := 7) L.2.1 cfX9 dX9_message_23 flX9_42 (by decide) rfl (lMo0 L) nzMo (Or.inl rfl) ?_
    refine rl_aload_n dX9_message_26 rfl rfl ?_
    refine rt_getIv (x := nI 1) (k := 7) cfX9 dX9_message_27 flX9_42 (by decide) rfl (lMo0 L) nzMo (up2_s) ?_
    refine rl_if_ne (tgt := 47) dX9_message_30 (by decide) (fun _ => ?_) (fun q => absurd q (by decide))
    refine rl_iconst (v := nI 0) dX9_message_47 (by decide) ?_
    exact rl_iret dX9_message_48 rfl (Nat.le_refl 0) (Nat.le_refl 0) H
  · have H := H.2 c_1
    refine rl_iconst (v := nI 0) dX9_message_18 (by decide) ?_
    refine rl_goto (tgt := 23) dX9_message_19 (by decide) ?_
    refine rt_putI (k := 7) L.2.1 cfX9 dX9_message_23 flX9_42 (by decide) rfl (lMo0 L) nzMo (Or.inl rfl) ?_
    refine rl_aload_n dX9_message_26 rfl rfl ?_
    refine rt_getIv (x := nI 0) (k := 7) cfX9 dX9_message_27 flX9_42 (by decide) rfl (lMo0 L) nzMo (up2_s) ?_
    refine rl_if_ne (tgt := 47) dX9_message_30 (by decide) (fun q => absurd q (by decide)) (fun _ => ?_)
    refine rl_aload_n dX9_message_33 rfl rfl ?_
    refine rt_getP (k := 1) cfX9 dX9_message_34 flX9_7 (by decide) rfl (lMo0 L) (rMo1 L) naMo ?_
    refine rl_iload_n dX9_message_37 rfl rfl ?_
    exact rl_callS (As := [.int x1]) (rest := [.ref (ad (gMo 1))]) mfX9_messageAt dX9_message_38 lkX9_124 (by decide) (Nat.le_of_ble_eq_true rfl) (Nat.le_refl _) (Nat.le_refl _) rfl (Nat.le_of_ble_eq_true rfl) rfl rfl (fun Qc k => H Qc (fun v h' w => k (some (.int v)) h' (rl_wk (L' := [none, none, some (.int x2)]) ⟨rfl, trivial⟩ w)))
theorem tX9_message_41 {n : Nat} {ad : Nat → Nat} {h0 : Hp} {cs : Nat → Nat → Int32} {pm : Nat → Nat → Nat} (L : Lay n ad h0) {Q : Nat → Option Value → Hp → Prop} {x2 xs1 : Int32} (H : (∃ j_1 : Nat, xs1 + x2 = nI j_1 ∧ j_1 < 2400 ∧ (Q 0 (some (.int (cs (gMo 1) j_1))) (HN h0 ad cs pm)))) : Wm mX9_message 2 0 0 Q 41 [none, none, some (.int x2)] [.int xs1, .ref (ad (gMo 1))] (HN h0 ad cs pm) 0 0 := by
  refine rl_iload_n dX9_message_41 rfl rfl ?_
  refine rl_iadd dX9_message_42 ?_
  obtain ⟨j_1, e_2, b_3, H⟩ := H
  refine rt_iald (j := j_1) dX9_message_43 (lMo1 L) nzMo e_2 b_3 (by decide) ?_
  refine rl_goto (tgt := 48) dX9_message_44 (by decide) ?_
  exact rl_iret dX9_message_48 rfl (Nat.le_refl 0) (Nat.le_refl 0) H
theorem tX9_time_0 {n : Nat} {ad : Nat → Nat} {h0 : Hp} {cs : Nat → Nat → Int32} {pm : Nat → Nat → Nat} (L : Lay n ad h0) {Q : Nat → Option Value → Hp → Prop}  (H : Q 0 (some (.int (cs (gMo 1) 0))) (HN h0 ad (up2 cs (gMo 0) 7 (nI 0)) pm)) : Wm mX9_time 0 0 0 Q 0 [some (.ref (ad (gMo 0)))] [] (HN h0 ad cs pm) 0 0 := by
  refine rl_aload_n dX9_time_0 rfl rfl ?_
  refine rl_iconst (v := nI 0) dX9_time_1 (by decide) ?_
  refine rt_putI (k := 7) L.2.1 cfX9 dX9_time_2 flX9_42 (by decide) rfl (lMo0 L) nzMo (Or.inl rfl) ?_
  refine rl_aload_n dX9_time_5 rfl rfl ?_
  refine rt_getP (k := 1) cfX9 dX9_time_6 flX9_7 (by decide) rfl (lMo0 L) (rMo1 L) naMo ?_
  refine rl_iconst (v := nI 0) dX9_time_9 (by decide) ?_
  refine rt_ialdv (y := cs (gMo 1) 0) (j := 0) dX9_time_10 (lMo1 L) nzMo rfl (by decide) (by decide) ((up2_k (by decide)).trans (rfl)) ?_
  exact rl_iret dX9_time_11 rfl (Nat.le_refl 0) (Nat.le_refl 0) H
theorem tX9_value_0 {n : Nat} {ad : Nat → Nat} {h0 : Hp} {cs : Nat → Nat → Int32} {pm : Nat → Nat → Nat} (L : Lay n ad h0) {Q : Nat → Option Value → Hp → Prop}  (H : CKi mX9_valueNow 2 0 0 [some (.ref (ad (gMo 0))), none, none] (HN h0 ad (up2 cs (gMo 0) 7 (nI 0)) pm) (fun v h' => Wm mX9_value 3 0 0 Q 9 [none] [.int v] h' 0 0)) : Wm mX9_value 3 0 0 Q 0 [some (.ref (ad (gMo 0)))] [] (HN h0 ad cs pm) 0 0 := by
  refine rl_aload_n dX9_value_0 rfl rfl ?_
  refine rl_iconst (v := nI 0) dX9_value_1 (by decide) ?_
  refine rt_putI (k := 7) L.2.1 cfX9 dX9_value_2 flX9_42 (by decide) rfl (lMo0 L) nzMo (Or.inl rfl) ?_
  refine rl_aload_n dX9_value_5 rfl rfl ?_
  exact rl_callV (As := []) (rest := []) mfX9_valueNow dX9_value_6 lkX9_108 (lMo0 L).K (by decide) (Nat.le_of_ble_eq_true rfl) (Nat.le_refl _) (Nat.le_refl _) rfl (Nat.le_of_ble_eq_true rfl) rfl rfl (fun Qc k => H Qc (fun v h' w => k (some (.int v)) h' (rl_wk (L' := [none]) trivial w)))
theorem tX9_value_9 {n : Nat} {ad : Nat → Nat} {h0 : Hp} {cs : Nat → Nat → Int32} {pm : Nat → Nat → Nat} (L : Lay n ad h0) {Q : Nat → Option Value → Hp → Prop} {xs0 : Int32} (H : Q 0 (some (.int xs0)) (HN h0 ad cs pm)) : Wm mX9_value 3 0 0 Q 9 [none] [.int xs0] (HN h0 ad cs pm) 0 0 := by
  exact rl_iret dX9_value_9 rfl (Nat.le_refl 0) (Nat.le_refl 0) H
theorem tX9_known_0 {n : Nat} {ad : Nat → Nat} {h0 : Hp} {cs : Nat → Nat → Int32} {pm : Nat → Nat → Nat} (L : Lay n ad h0) {Q : Nat → Option Value → Hp → Prop} {x1 : Int32} (H : CKi mX9_isSite 1 0 0 [some (.ref (ad (gMo 0))), some (.int x1)] (HN h0 ad cs pm) (fun v h' => Wm mX9_known 2 0 0 Q 6 [some (.ref (ad (gMo 0))), some (.int x1)] [.int v, .ref (ad (gMo 0))] h' 0 0)) : Wm mX9_known 2 0 0 Q 0 [some (.ref (ad (gMo 0))), some (.int x1)] [] (HN h0 ad cs pm) 0 0 := by
  refine rl_aload_n dX9_known_0 rfl rfl ?_
  refine rl_aload_n dX9_known_1 rfl rfl ?_
  refine rl_iload_n dX9_known_2 rfl rfl ?_
  exact rl_callV (As := [.int x1]) (rest := [.ref (ad (gMo 0))]) mfX9_isSite dX9_known_3 lkX9_96 (lMo0 L).K (by decide) (Nat.le_of_ble_eq_true rfl) (Nat.le_refl _) (Nat.le_refl _) rfl (Nat.le_of_ble_eq_true rfl) rfl rfl (fun Qc k => H Qc (fun v h' w => k (some (.int v)) h' w))
theorem tX9_known_6 {n : Nat} {ad : Nat → Nat} {h0 : Hp} {cs : Nat → Nat → Int32} {pm : Nat → Nat → Nat} (L : Lay n ad h0) {Q : Nat → Option Value → Hp → Prop} {x1 xs1 : Int32} (H : ((xs1 = 0 → Q 0 (some (.int (nI 0))) (HN h0 ad (up2 cs (gMo 0) 7 (nI 1)) pm)) ∧ (¬ xs1 = 0 → CKi mX9_knownBy 1 0 0 [some (.ref (ad (gMo 0))), some (.int x1), none, none] (HN h0 ad (up2 cs (gMo 0) 7 (nI 0)) pm) (fun v h' => Wm mX9_known 2 0 0 Q 29 [none, none] [.int v] h' 0 0)))) : Wm mX9_known 2 0 0 Q 6 [some (.ref (ad (gMo 0))), some (.int x1)] [.int xs1, .ref (ad (gMo 0))] (HN h0 ad cs pm) 0 0 := by
  refine rl_if_eq (tgt := 13) dX9_known_6 (by decide) (fun c_1 => ?_) (fun c_1 => ?_)
  · have H := H.1 c_1
    refine rl_iconst (v := nI 1) dX9_known_13 (by decide) ?_
    refine rt_putI (k := 7) L.2.1 cfX9 dX9_known_14 flX9_42 (by decide) rfl (lMo0 L) nzMo (Or.inl rfl) ?_
    refine rl_aload_n dX9_known_17 rfl rfl ?_
    refine rt_getIv (x := nI 1) (k := 7) cfX9 dX9_known_18 flX9_42 (by decide) rfl (lMo0 L) nzMo (up2_s) ?_
    refine rl_if_ne (tgt := 32) dX9_known_21 (by decide) (fun _ => ?_) (fun q => absurd q (by decide))
    refine rl_iconst (v := nI 0) dX9_known_32 (by decide) ?_
    exact rl_iret dX9_known_33 rfl (Nat.le_refl 0) (Nat.le_refl 0) H
  · have H := H.2 c_1
    refine rl_iconst (v := nI 0) dX9_known_9 (by decide) ?_
    refine rl_goto (tgt := 14) dX9_known_10 (by decide) ?_
    refine rt_putI (k := 7) L.2.1 cfX9 dX9_known_14 flX9_42 (by decide) rfl (lMo0 L) nzMo (Or.inl rfl) ?_
    refine rl_aload_n dX9_known_17 rfl rfl ?_
    refine rt_getIv (x := nI 0) (k := 7) cfX9 dX9_known_18 flX9_42 (by decide) rfl (lMo0 L) nzMo (up2_s) ?_
    refine rl_if_ne (tgt := 32) dX9_known_21 (by decide) (fun q => absurd q (by decide)) (fun _ => ?_)
    refine rl_aload_n dX9_known_24 rfl rfl ?_
    refine rl_iload_n dX9_known_25 rfl rfl ?_
    exact rl_callV (As := [.int x1]) (rest := []) mfX9_knownBy dX9_known_26 lkX9_139 (lMo0 L).K (by decide) (Nat.le_of_ble_eq_true rfl) (Nat.le_refl _) (Nat.le_refl _) rfl (Nat.le_of_ble_eq_true rfl) rfl rfl (fun Qc k => H Qc (fun v h' w => k (some (.int v)) h' (rl_wk (L' := [none, none]) trivial w)))
theorem tX9_known_29 {n : Nat} {ad : Nat → Nat} {h0 : Hp} {cs : Nat → Nat → Int32} {pm : Nat → Nat → Nat} (L : Lay n ad h0) {Q : Nat → Option Value → Hp → Prop} {xs0 : Int32} (H : Q 0 (some (.int xs0)) (HN h0 ad cs pm)) : Wm mX9_known 2 0 0 Q 29 [none, none] [.int xs0] (HN h0 ad cs pm) 0 0 := by
  refine rl_goto (tgt := 33) dX9_known_29 (by decide) ?_
  exact rl_iret dX9_known_33 rfl (Nat.le_refl 0) (Nat.le_refl 0) H
theorem tX9_knownBy_0 {n : Nat} {ad : Nat → Nat} {h0 : Hp} {cs : Nat → Nat → Int32} {pm : Nat → Nat → Nat} (L : Lay n ad h0) {Q : Nat → Option Value → Hp → Prop} {x1 : Int32} (H : Wm mX9_knownBy 1 0 0 Q 9 [some (.ref (ad (gMo 0))), some (.int x1), some (.int (cs (gMo 1) 3)), some (.int (nI 0))] [] (HN h0 ad cs pm) 0 0) : Wm mX9_knownBy 1 0 0 Q 0 [some (.ref (ad (gMo 0))), some (.int x1), none, none] [] (HN h0 ad cs pm) 0 0 := by
  refine rl_aload_n dX9_knownBy_0 rfl rfl ?_
  refine rt_getP (k := 1) cfX9 dX9_knownBy_1 flX9_7 (by decide) rfl (lMo0 L) (rMo1 L) naMo ?_
  refine rl_iconst (v := nI 3) dX9_knownBy_4 (by decide) ?_
  refine rt_iald (j := 3) dX9_knownBy_5 (lMo1 L) nzMo rfl (by decide) (by decide) ?_
  refine rl_istore_n (L' := [some (.ref (ad (gMo 0))), some (.int x1), some (.int (cs (gMo 1) 3)), none]) dX9_knownBy_6 rfl (Nat.le_of_ble_eq_true rfl) rfl ?_
  refine rl_iconst (v := nI 0) dX9_knownBy_7 (by decide) ?_
  refine rl_istore_n (L' := [some (.ref (ad (gMo 0))), some (.int x1), some (.int (cs (gMo 1) 3)), some (.int (nI 0))]) dX9_knownBy_8 rfl (Nat.le_of_ble_eq_true rfl) rfl ?_
  exact H
theorem tX9_knownBy_9 {n : Nat} {ad : Nat → Nat} {h0 : Hp} {cs : Nat → Nat → Int32} {pm : Nat → Nat → Nat} (L : Lay n ad h0) {Q : Nat → Option Value → Hp → Prop} {x1 x2 x3 : Int32} (H : (((cs (gMo 0) 0) ≤ x3 → Q 0 (some (.int x2)) (HN h0 ad cs pm)) ∧ (¬ (cs (gMo 0) 0) ≤ x3 → CKi mX9_record 0 0 0 [some (.int x1), some (.int x3)] (HN h0 ad cs pm) (fun v h' => Wm mX9_knownBy 1 0 0 Q 27 [some (.ref (ad (gMo 0))), some (.int x1), none, some (.int x3)] [.int v, .ref (ad (gMo 1)), .int x2] h' 0 0)))) : Wm mX9_knownBy 1 0 0 Q 9 [some (.ref (ad (gMo 0))), some (.int x1), some (.int x2), some (.int x3)] [] (HN h0 ad cs pm) 0 0 := by
  refine rl_iload_n dX9_knownBy_9 rfl rfl ?_
  refine rl_aload_n dX9_knownBy_10 rfl rfl ?_
  refine rt_getI (k := 0) cfX9 dX9_knownBy_11 flX9_34 (by decide) rfl (lMo0 L) nzMo ?_
  refine rl_icmp_ge (tgt := 51) dX9_knownBy_14 (by decide) (fun c_1 => ?_) (fun c_1 => ?_)
  · have H := H.1 c_1
    refine rl_iload_n dX9_knownBy_51 rfl rfl ?_
    exact rl_iret dX9_knownBy_52 rfl (Nat.le_refl 0) (Nat.le_refl 0) H
  · have H := H.2 c_1
    refine rl_iload_n dX9_knownBy_17 rfl rfl ?_
    refine rl_aload_n dX9_knownBy_18 rfl rfl ?_
    refine rt_getP (k := 1) cfX9 dX9_knownBy_19 flX9_7 (by decide) rfl (lMo0 L) (rMo1 L) naMo ?_
    refine rl_iload_n dX9_knownBy_22 rfl rfl ?_
    refine rl_iload_n dX9_knownBy_23 rfl rfl ?_
    exact rl_callS (As := [.int x1, .int x3]) (rest := [.ref (ad (gMo 1)), .int x2]) mfX9_record dX9_knownBy_24 lkX9_52 (by decide) (Nat.le_of_ble_eq_true rfl) (Nat.le_refl _) (Nat.le_refl _) rfl (Nat.le_of_ble_eq_true rfl) rfl rfl (fun Qc k => H Qc (fun v h' w => k (some (.int v)) h' (rl_wk (L' := [some (.ref (ad (gMo 0))), some (.int x1), none, some (.int x3)]) ⟨rfl, ⟨rfl, ⟨rfl, trivial⟩⟩⟩ w)))
theorem tX9_knownBy_27 {n : Nat} {ad : Nat → Nat} {h0 : Hp} {cs : Nat → Nat → Int32} {pm : Nat → Nat → Nat} (L : Lay n ad h0) {Q : Nat → Option Value → Hp → Prop} {x1 x3 xs0 xs2 : Int32} (H : (∃ j_1 : Nat, xs2 + (nI 2) = nI j_1 ∧ j_1 < 2400 ∧ (CKi mX9_record 0 0 0 [some (.int x1), some (.int x3)] (HN h0 ad cs pm) (fun v h' => Wm mX9_knownBy 1 0 0 Q 39 [some (.ref (ad (gMo 0))), some (.int x1), none, some (.int x3)] [.int v, .ref (ad (gMo 1)), .int (cs (gMo 1) j_1), .int xs0] h' 0 0)))) : Wm mX9_knownBy 1 0 0 Q 27 [some (.ref (ad (gMo 0))), some (.int x1), none, some (.int x3)] [.int xs2, .ref (ad (gMo 1)), .int xs0] (HN h0 ad cs pm) 0 0 := by
  refine rl_iconst (v := nI 2) dX9_knownBy_27 (by decide) ?_
  refine rl_iadd dX9_knownBy_28 ?_
  obtain ⟨j_1, e_2, b_3, H⟩ := H
  refine rt_iald (j := j_1) dX9_knownBy_29 (lMo1 L) nzMo e_2 b_3 (by decide) ?_
  refine rl_aload_n dX9_knownBy_30 rfl rfl ?_
  refine rt_getP (k := 1) cfX9 dX9_knownBy_31 flX9_7 (by decide) rfl (lMo0 L) (rMo1 L) naMo ?_
  refine rl_iload_n dX9_knownBy_34 rfl rfl ?_
  refine rl_iload_n dX9_knownBy_35 rfl rfl ?_
  exact rl_callS (As := [.int x1, .int x3]) (rest := [.ref (ad (gMo 1)), .int (cs (gMo 1) j_1), .int xs0]) mfX9_record dX9_knownBy_36 lkX9_52 (by decide) (Nat.le_of_ble_eq_true rfl) (Nat.le_refl _) (Nat.le_refl _) rfl (Nat.le_of_ble_eq_true rfl) rfl rfl (fun Qc k => H Qc (fun v h' w => k (some (.int v)) h' w))
theorem tX9_knownBy_39 {n : Nat} {ad : Nat → Nat} {h0 : Hp} {cs : Nat → Nat → Int32} {pm : Nat → Nat → Nat} (L : Lay n ad h0) {Q : Nat → Option Value → Hp → Prop} {x1 x3 xs0 xs1 xs3 : Int32} (H : (∃ j_1 : Nat, xs3 + (nI 3) = nI j_1 ∧ j_1 < 2400 ∧ (Wm mX9_knownBy 1 0 0 Q 9 [some (.ref (ad (gMo 0))), some (.int x1), some (.int (xs0 + (xs1 - (cs (gMo 1) j_1)))), some (.int (x3 + nI 1))] [] (HN h0 ad cs pm) 0 0))) : Wm mX9_knownBy 1 0 0 Q 39 [some (.ref (ad (gMo 0))), some (.int x1), none, some (.int x3)] [.int xs3, .ref (ad (gMo 1)), .int xs1, .int xs0] (HN h0 ad cs pm) 0 0 := by
  refine rl_iconst (v := nI 3) dX9_knownBy_39 (by decide) ?_
  refine rl_iadd dX9_knownBy_40 ?_
  obtain ⟨j_1, e_2, b_3, H⟩ := H
  refine rt_iald (j := j_1) dX9_knownBy_41 (lMo1 L) nzMo e_2 b_3 (by decide) ?_
  refine rl_isub dX9_knownBy_42 ?_
  refine rl_iadd dX9_knownBy_43 ?_
  refine rl_istore_n (L' := [some (.ref (ad (gMo 0))), some (.int x1), some (.int (xs0 + (xs1 - (cs (gMo 1) j_1)))), some (.int x3)]) dX9_knownBy_44 rfl (Nat.le_of_ble_eq_true rfl) rfl ?_
  refine rl_iinc (v := x3 + nI 1) (L' := [some (.ref (ad (gMo 0))), some (.int x1), some (.int (xs0 + (xs1 - (cs (gMo 1) j_1)))), some (.int (x3 + nI 1))]) dX9_knownBy_45 rfl (congrArg (fun z => x3 + z) (by decide)) (Nat.le_of_ble_eq_true rfl) rfl ?_
  refine rl_goto (tgt := 9) dX9_knownBy_48 (by decide) ?_
  exact H
theorem tX9_own_0 {n : Nat} {ad : Nat → Nat} {h0 : Hp} {cs : Nat → Nat → Int32} {pm : Nat → Nat → Nat} (L : Lay n ad h0) {Q : Nat → Option Value → Hp → Prop} {x1 x2 : Int32} (H : CKi mX9_isWrong 2 0 0 [some (.ref (ad (gMo 0))), some (.int x1), some (.int x2)] (HN h0 ad cs pm) (fun v h' => Wm mX9_own 4 0 0 Q 6 [some (.ref (ad (gMo 0))), some (.int x1), some (.int x2)] [.int v] h' 0 0)) : Wm mX9_own 4 0 0 Q 0 [some (.ref (ad (gMo 0))), some (.int x1), some (.int x2)] [] (HN h0 ad cs pm) 0 0 := by
  refine rl_aload_n dX9_own_0 rfl rfl ?_
  refine rl_iload_n dX9_own_1 rfl rfl ?_
  refine rl_iload_n dX9_own_2 rfl rfl ?_
  exact rl_callV (As := [.int x1, .int x2]) (rest := []) mfX9_isWrong dX9_own_3 lkX9_142 (lMo0 L).K (by decide) (Nat.le_of_ble_eq_true rfl) (Nat.le_refl _) (Nat.le_refl _) rfl (Nat.le_of_ble_eq_true rfl) rfl rfl (fun Qc k => H Qc (fun v h' w => k (some (.int v)) h' w))
theorem tX9_own_6 {n : Nat} {ad : Nat → Nat} {h0 : Hp} {cs : Nat → Nat → Int32} {pm : Nat → Nat → Nat} (L : Lay n ad h0) {Q : Nat → Option Value → Hp → Prop} {x1 x2 xs0 : Int32} (H : ((xs0 = 0 → CKi mX9_ownRights 3 0 0 [some (.ref (ad (gMo 0))), some (.int x1), some (.int x2), none, none, none, none, none] (HN h0 ad cs pm) (fun v h' => Wm mX9_own 4 0 0 Q 19 [none, none, none] [.int v] h' 0 0)) ∧ (¬ xs0 = 0 → Wm mX9_own 4 0 0 Q 19 [none, none, none] [.int (nI 0)] (HN h0 ad cs pm) 0 0))) : Wm mX9_own 4 0 0 Q 6 [some (.ref (ad (gMo 0))), some (.int x1), some (.int x2)] [.int xs0] (HN h0 ad cs pm) 0 0 := by
  refine rl_if_eq (tgt := 13) dX9_own_6 (by decide) (fun c_1 => ?_) (fun c_1 => ?_)
  · have H := H.1 c_1
    refine rl_aload_n dX9_own_13 rfl rfl ?_
    refine rl_iload_n dX9_own_14 rfl rfl ?_
    refine rl_iload_n dX9_own_15 rfl rfl ?_
    exact rl_callV (As := [.int x1, .int x2]) (rest := []) mfX9_ownRights dX9_own_16 lkX9_79 (lMo0 L).K (by decide) (Nat.le_of_ble_eq_true rfl) (Nat.le_refl _) (Nat.le_refl _) rfl (Nat.le_of_ble_eq_true rfl) rfl rfl (fun Qc k => H Qc (fun v h' w => k (some (.int v)) h' (rl_wk (L' := [none, none, none]) trivial w)))
  · have H := H.2 c_1
    refine rl_iconst (v := nI 0) dX9_own_9 (by decide) ?_
    refine rl_goto (tgt := 19) dX9_own_10 (by decide) ?_
    refine rl_wk (L' := [none, none, none]) trivial ?_
    exact H
theorem tX9_own_19 {n : Nat} {ad : Nat → Nat} {h0 : Hp} {cs : Nat → Nat → Int32} {pm : Nat → Nat → Nat} (L : Lay n ad h0) {Q : Nat → Option Value → Hp → Prop} {xs0 : Int32} (H : Q 0 (some (.int xs0)) (HN h0 ad cs pm)) : Wm mX9_own 4 0 0 Q 19 [none, none, none] [.int xs0] (HN h0 ad cs pm) 0 0 := by
  exact rl_iret dX9_own_19 rfl (Nat.le_refl 0) (Nat.le_refl 0) H
theorem tX9_isWrong_0 {n : Nat} {ad : Nat → Nat} {h0 : Hp} {cs : Nat → Nat → Int32} {pm : Nat → Nat → Nat} (L : Lay n ad h0) {Q : Nat → Option Value → Hp → Prop} {x1 x2 : Int32} (H : CKi mX9_isSite 1 0 0 [some (.ref (ad (gMo 0))), some (.int x1)] (HN h0 ad cs pm) (fun v h' => Wm mX9_isWrong 2 0 0 Q 6 [some (.ref (ad (gMo 0))), none, some (.int x2)] [.int v, .ref (ad (gMo 0))] h' 0 0)) : Wm mX9_isWrong 2 0 0 Q 0 [some (.ref (ad (gMo 0))), some (.int x1), some (.int x2)] [] (HN h0 ad cs pm) 0 0 := by
  refine rl_aload_n dX9_isWrong_0 rfl rfl ?_
  refine rl_aload_n dX9_isWrong_1 rfl rfl ?_
  refine rl_iload_n dX9_isWrong_2 rfl rfl ?_
  exact rl_callV (As := [.int x1]) (rest := [.ref (ad (gMo 0))]) mfX9_isSite dX9_isWrong_3 lkX9_96 (lMo0 L).K (by decide) (Nat.le_of_ble_eq_true rfl) (Nat.le_refl _) (Nat.le_refl _) rfl (Nat.le_of_ble_eq_true rfl) rfl rfl (fun Qc k => H Qc (fun v h' w => k (some (.int v)) h' (rl_wk (L' := [some (.ref (ad (gMo 0))), none, some (.int x2)]) ⟨rfl, ⟨rfl, trivial⟩⟩ w)))
theorem tX9_isWrong_6 {n : Nat} {ad : Nat → Nat} {h0 : Hp} {cs : Nat → Nat → Int32} {pm : Nat → Nat → Nat} (L : Lay n ad h0) {Q : Nat → Option Value → Hp → Prop} {x2 xs1 : Int32} (H : ((xs1 = 0 → Q 0 (some (.int (nI 1))) (HN h0 ad (up2 cs (gMo 0) 7 (nI 1)) pm)) ∧ (¬ xs1 = 0 → CKi mX9_in 0 0 0 [some (.int x2), some (.int (nI 0)), some (.int (nI 1))] (HN h0 ad cs pm) (fun v h' => Wm mX9_isWrong 2 0 0 Q 15 [some (.ref (ad (gMo 0))), none, none] [.int v, .ref (ad (gMo 0))] h' 0 0)))) : Wm mX9_isWrong 2 0 0 Q 6 [some (.ref (ad (gMo 0))), none, some (.int x2)] [.int xs1, .ref (ad (gMo 0))] (HN h0 ad cs pm) 0 0 := by
  refine rl_if_eq (tgt := 22) dX9_isWrong_6 (by decide) (fun c_1 => ?_) (fun c_1 => ?_)
  · have H := H.1 c_1
    refine rl_iconst (v := nI 1) dX9_isWrong_22 (by decide) ?_
    refine rt_putI (k := 7) L.2.1 cfX9 dX9_isWrong_23 flX9_42 (by decide) rfl (lMo0 L) nzMo (Or.inl rfl) ?_
    refine rl_aload_n dX9_isWrong_26 rfl rfl ?_
    refine rt_getIv (x := nI 1) (k := 7) cfX9 dX9_isWrong_27 flX9_42 (by decide) rfl (lMo0 L) nzMo (up2_s) ?_
    refine rl_if_eq (tgt := 37) dX9_isWrong_30 (by decide) (fun q => absurd q (by decide)) (fun _ => ?_)
    refine rl_iconst (v := nI 1) dX9_isWrong_33 (by decide) ?_
    refine rl_goto (tgt := 38) dX9_isWrong_34 (by decide) ?_
    exact rl_zret dX9_isWrong_38 rfl rfl (Nat.le_refl 0) (Nat.le_refl 0) H
  · have H := H.2 c_1
    refine rl_iload_n dX9_isWrong_9 rfl rfl ?_
    refine rl_iconst (v := nI 0) dX9_isWrong_10 (by decide) ?_
    refine rl_iconst (v := nI 1) dX9_isWrong_11 (by decide) ?_
    exact rl_callS (As := [.int x2, .int (nI 0), .int (nI 1)]) (rest := [.ref (ad (gMo 0))]) mfX9_in dX9_isWrong_12 lkX9_48 (by decide) (Nat.le_of_ble_eq_true rfl) (Nat.le_refl _) (Nat.le_refl _) rfl (Nat.le_of_ble_eq_true rfl) rfl rfl (fun Qc k => H Qc (fun v h' w => k (some (.int v)) h' (rl_wk (L' := [some (.ref (ad (gMo 0))), none, none]) ⟨rfl, trivial⟩ w)))
theorem tX9_isWrong_15 {n : Nat} {ad : Nat → Nat} {h0 : Hp} {cs : Nat → Nat → Int32} {pm : Nat → Nat → Nat} (L : Lay n ad h0) {Q : Nat → Option Value → Hp → Prop} {xs1 : Int32} (H : ((xs1 = 0 → Q 0 (some (.int (nI 1))) (HN h0 ad (up2 cs (gMo 0) 7 (nI 1)) pm)) ∧ (¬ xs1 = 0 → Q 0 (some (.int (nI 0))) (HN h0 ad (up2 cs (gMo 0) 7 (nI 0)) pm)))) : Wm mX9_isWrong 2 0 0 Q 15 [some (.ref (ad (gMo 0))), none, none] [.int xs1, .ref (ad (gMo 0))] (HN h0 ad cs pm) 0 0 := by
  refine rl_if_eq (tgt := 22) dX9_isWrong_15 (by decide) (fun c_1 => ?_) (fun c_1 => ?_)
  · have H := H.1 c_1
    refine rl_iconst (v := nI 1) dX9_isWrong_22 (by decide) ?_
    refine rt_putI (k := 7) L.2.1 cfX9 dX9_isWrong_23 flX9_42 (by decide) rfl (lMo0 L) nzMo (Or.inl rfl) ?_
    refine rl_aload_n dX9_isWrong_26 rfl rfl ?_
    refine rt_getIv (x := nI 1) (k := 7) cfX9 dX9_isWrong_27 flX9_42 (by decide) rfl (lMo0 L) nzMo (up2_s) ?_
    refine rl_if_eq (tgt := 37) dX9_isWrong_30 (by decide) (fun q => absurd q (by decide)) (fun _ => ?_)
    refine rl_iconst (v := nI 1) dX9_isWrong_33 (by decide) ?_
    refine rl_goto (tgt := 38) dX9_isWrong_34 (by decide) ?_
    exact rl_zret dX9_isWrong_38 rfl rfl (Nat.le_refl 0) (Nat.le_refl 0) H
  · have H := H.2 c_1
    refine rl_iconst (v := nI 0) dX9_isWrong_18 (by decide) ?_
    refine rl_goto (tgt := 23) dX9_isWrong_19 (by decide) ?_
    refine rt_putI (k := 7) L.2.1 cfX9 dX9_isWrong_23 flX9_42 (by decide) rfl (lMo0 L) nzMo (Or.inl rfl) ?_
    refine rl_aload_n dX9_isWrong_26 rfl rfl ?_
    refine rt_getIv (x := nI 0) (k := 7) cfX9 dX9_isWrong_27 flX9_42 (by decide) rfl (lMo0 L) nzMo (up2_s) ?_
    refine rl_if_eq (tgt := 37) dX9_isWrong_30 (by decide) (fun _ => ?_) (fun q => absurd q (by decide))
    refine rl_iconst (v := nI 0) dX9_isWrong_37 (by decide) ?_
    exact rl_zret dX9_isWrong_38 rfl rfl (Nat.le_refl 0) (Nat.le_refl 0) H
theorem tX9_available_0 {n : Nat} {ad : Nat → Nat} {h0 : Hp} {cs : Nat → Nat → Int32} {pm : Nat → Nat → Nat} (L : Lay n ad h0) {Q : Nat → Option Value → Hp → Prop} {x1 x2 : Int32} (H : CKi mX9_isWrong 2 0 0 [some (.ref (ad (gMo 0))), some (.int x1), some (.int x2)] (HN h0 ad cs pm) (fun v h' => Wm mX9_available 5 0 0 Q 6 [some (.ref (ad (gMo 0))), some (.int x1), some (.int x2)] [.int v] h' 0 0)) : Wm mX9_available 5 0 0 Q 0 [some (.ref (ad (gMo 0))), some (.int x1), some (.int x2)] [] (HN h0 ad cs pm) 0 0 := by
  refine rl_aload_n dX9_available_0 rfl rfl ?_
  refine rl_iload_n dX9_available_1 rfl rfl ?_
  refine rl_iload_n dX9_available_2 rfl rfl ?_
  exact rl_callV (As := [.int x1, .int x2]) (rest := []) mfX9_isWrong dX9_available_3 lkX9_142 (lMo0 L).K (by decide) (Nat.le_of_ble_eq_true rfl) (Nat.le_refl _) (Nat.le_refl _) rfl (Nat.le_of_ble_eq_true rfl) rfl rfl (fun Qc k => H Qc (fun v h' w => k (some (.int v)) h' w))
theorem tX9_available_6 {n : Nat} {ad : Nat → Nat} {h0 : Hp} {cs : Nat → Nat → Int32} {pm : Nat → Nat → Nat} (L : Lay n ad h0) {Q : Nat → Option Value → Hp → Prop} {x1 x2 xs0 : Int32} (H : ((xs0 = 0 → CKi mX9_allRights 4 0 0 [some (.ref (ad (gMo 0))), some (.int x1), some (.int x2)] (HN h0 ad cs pm) (fun v h' => Wm mX9_available 5 0 0 Q 19 [none, none, none] [.int v] h' 0 0)) ∧ (¬ xs0 = 0 → Wm mX9_available 5 0 0 Q 19 [none, none, none] [.int (nI 0)] (HN h0 ad cs pm) 0 0))) : Wm mX9_available 5 0 0 Q 6 [some (.ref (ad (gMo 0))), some (.int x1), some (.int x2)] [.int xs0] (HN h0 ad cs pm) 0 0 := by
  refine rl_if_eq (tgt := 13) dX9_available_6 (by decide) (fun c_1 => ?_) (fun c_1 => ?_)
  · have H := H.1 c_1
    refine rl_aload_n dX9_available_13 rfl rfl ?_
    refine rl_iload_n dX9_available_14 rfl rfl ?_
    refine rl_iload_n dX9_available_15 rfl rfl ?_
    exact rl_callV (As := [.int x1, .int x2]) (rest := []) mfX9_allRights dX9_available_16 lkX9_85 (lMo0 L).K (by decide) (Nat.le_of_ble_eq_true rfl) (Nat.le_refl _) (Nat.le_refl _) rfl (Nat.le_of_ble_eq_true rfl) rfl rfl (fun Qc k => H Qc (fun v h' w => k (some (.int v)) h' (rl_wk (L' := [none, none, none]) trivial w)))
  · have H := H.2 c_1
    refine rl_iconst (v := nI 0) dX9_available_9 (by decide) ?_
    refine rl_goto (tgt := 19) dX9_available_10 (by decide) ?_
    refine rl_wk (L' := [none, none, none]) trivial ?_
    exact H
theorem tX9_available_19 {n : Nat} {ad : Nat → Nat} {h0 : Hp} {cs : Nat → Nat → Int32} {pm : Nat → Nat → Nat} (L : Lay n ad h0) {Q : Nat → Option Value → Hp → Prop} {xs0 : Int32} (H : Q 0 (some (.int xs0)) (HN h0 ad cs pm)) : Wm mX9_available 5 0 0 Q 19 [none, none, none] [.int xs0] (HN h0 ad cs pm) 0 0 := by
  exact rl_iret dX9_available_19 rfl (Nat.le_refl 0) (Nat.le_refl 0) H
theorem tX9_dormant_0 {n : Nat} {ad : Nat → Nat} {h0 : Hp} {cs : Nat → Nat → Int32} {pm : Nat → Nat → Nat} (L : Lay n ad h0) {Q : Nat → Option Value → Hp → Prop} {x1 : Int32} (H : CKi mX9_in 0 0 0 [some (.int x1), some (.int (nI 0)), some (.int (nI 1))] (HN h0 ad cs pm) (fun v h' => Wm mX9_dormant 5 0 0 Q 7 [some (.ref (ad (gMo 0))), some (.int x1), none, none] [.int v, .ref (ad (gMo 0))] h' 0 0)) : Wm mX9_dormant 5 0 0 Q 0 [some (.ref (ad (gMo 0))), some (.int x1), none, none] [] (HN h0 ad cs pm) 0 0 := by
  refine rl_aload_n dX9_dormant_0 rfl rfl ?_
  refine rl_iload_n dX9_dormant_1 rfl rfl ?_
  refine rl_iconst (v := nI 0) dX9_dormant_2 (by decide) ?_
  refine rl_iconst (v := nI 1) dX9_dormant_3 (by decide) ?_
  exact rl_callS (As := [.int x1, .int (nI 0), .int (nI 1)]) (rest := [.ref (ad (gMo 0))]) mfX9_in dX9_dormant_4 lkX9_48 (by decide) (Nat.le_of_ble_eq_true rfl) (Nat.le_refl _) (Nat.le_refl _) rfl (Nat.le_of_ble_eq_true rfl) rfl rfl (fun Qc k => H Qc (fun v h' w => k (some (.int v)) h' w))
theorem tX9_dormant_7 {n : Nat} {ad : Nat → Nat} {h0 : Hp} {cs : Nat → Nat → Int32} {pm : Nat → Nat → Nat} (L : Lay n ad h0) {Q : Nat → Option Value → Hp → Prop} {x1 xs1 : Int32} (H : ((xs1 = 0 → Q 0 (some (.int (nI 0))) (HN h0 ad (up2 cs (gMo 0) 7 (nI 1)) pm)) ∧ (¬ xs1 = 0 → ((¬ x1 = 0 → CKi mX9_valueNow 2 0 0 [some (.ref (ad (gMo 0))), none, none] (HN h0 ad (up2 cs (gMo 0) 7 (nI 0)) pm) (fun v h' => Wm mX9_dormant 5 0 0 Q 49 [some (.ref (ad (gMo 0))), some (.int x1), none, none] [.int v] h' 0 0)) ∧ (x1 = 0 → CKi mX9_valueNow 2 0 0 [some (.ref (ad (gMo 0))), none, none] (HN h0 ad (up2 cs (gMo 0) 7 (nI 0)) pm) (fun v h' => Wm mX9_dormant 5 0 0 Q 41 [some (.ref (ad (gMo 0))), some (.int x1), none, none] [.int v, .int (cs (gMo 1) 2)] h' 0 0)))))) : Wm mX9_dormant 5 0 0 Q 7 [some (.ref (ad (gMo 0))), some (.int x1), none, none] [.int xs1, .ref (ad (gMo 0))] (HN h0 ad cs pm) 0 0 := by
  refine rl_if_eq (tgt := 14) dX9_dormant_7 (by decide) (fun c_1 => ?_) (fun c_1 => ?_)
  · have H := H.1 c_1
    refine rl_iconst (v := nI 1) dX9_dormant_14 (by decide) ?_
    refine rt_putI (k := 7) L.2.1 cfX9 dX9_dormant_15 flX9_42 (by decide) rfl (lMo0 L) nzMo (Or.inl rfl) ?_
    refine rl_aload_n dX9_dormant_18 rfl rfl ?_
    refine rt_getIv (x := nI 1) (k := 7) cfX9 dX9_dormant_19 flX9_42 (by decide) rfl (lMo0 L) nzMo (up2_s) ?_
    refine rl_if_eq (tgt := 27) dX9_dormant_22 (by decide) (fun q => absurd q (by decide)) (fun _ => ?_)
    refine rl_iconst (v := nI 0) dX9_dormant_25 (by decide) ?_
    exact rl_iret dX9_dormant_26 rfl (Nat.le_refl 0) (Nat.le_refl 0) H
  · have H := H.2 c_1
    refine rl_iconst (v := nI 0) dX9_dormant_10 (by decide) ?_
    refine rl_goto (tgt := 15) dX9_dormant_11 (by decide) ?_
    refine rt_putI (k := 7) L.2.1 cfX9 dX9_dormant_15 flX9_42 (by decide) rfl (lMo0 L) nzMo (Or.inl rfl) ?_
    refine rl_aload_n dX9_dormant_18 rfl rfl ?_
    refine rt_getIv (x := nI 0) (k := 7) cfX9 dX9_dormant_19 flX9_42 (by decide) rfl (lMo0 L) nzMo (up2_s) ?_
    refine rl_if_eq (tgt := 27) dX9_dormant_22 (by decide) (fun _ => ?_) (fun q => absurd q (by decide))
    refine rl_iload_n dX9_dormant_27 rfl rfl ?_
    refine rl_if_ne (tgt := 45) dX9_dormant_28 (by decide) (fun c_2 => ?_) (fun c_2 => ?_)
    · have H := H.1 c_2
      refine rl_aload_n dX9_dormant_45 rfl rfl ?_
      exact rl_callV (As := []) (rest := []) mfX9_valueNow dX9_dormant_46 lkX9_108 (lMo0 L).K (by decide) (Nat.le_of_ble_eq_true rfl) (Nat.le_refl _) (Nat.le_refl _) rfl (Nat.le_of_ble_eq_true rfl) rfl rfl (fun Qc k => H Qc (fun v h' w => k (some (.int v)) h' w))
    · have H := H.2 c_2
      refine rl_aload_n dX9_dormant_31 rfl rfl ?_
      refine rt_getP (k := 1) cfX9 dX9_dormant_32 flX9_7 (by decide) rfl (lMo0 L) (rMo1 L) naMo ?_
      refine rl_iconst (v := nI 2) dX9_dormant_35 (by decide) ?_
      refine rt_ialdv (y := cs (gMo 1) 2) (j := 2) dX9_dormant_36 (lMo1 L) nzMo rfl (by decide) (by decide) ((up2_k (by decide)).trans (rfl)) ?_
      refine rl_aload_n dX9_dormant_37 rfl rfl ?_
      exact rl_callV (As := []) (rest := [.int (cs (gMo 1) 2)]) mfX9_valueNow dX9_dormant_38 lkX9_108 (lMo0 L).K (by decide) (Nat.le_of_ble_eq_true rfl) (Nat.le_refl _) (Nat.le_refl _) rfl (Nat.le_of_ble_eq_true rfl) rfl rfl (fun Qc k => H Qc (fun v h' w => k (some (.int v)) h' w))
theorem tX9_dormant_41 {n : Nat} {ad : Nat → Nat} {h0 : Hp} {cs : Nat → Nat → Int32} {pm : Nat → Nat → Nat} (L : Lay n ad h0) {Q : Nat → Option Value → Hp → Prop} {x1 xs0 xs1 : Int32} (H : Wm mX9_dormant 5 0 0 Q 59 [some (.ref (ad (gMo 0))), some (.int x1), some (.int (xs0 - xs1)), some (.int (nI 0))] [] (HN h0 ad cs pm) 0 0) : Wm mX9_dormant 5 0 0 Q 41 [some (.ref (ad (gMo 0))), some (.int x1), none, none] [.int xs1, .int xs0] (HN h0 ad cs pm) 0 0 := by
  refine rl_isub dX9_dormant_41 ?_
  refine rl_goto (tgt := 56) dX9_dormant_42 (by decide) ?_
  refine rl_istore_n (L' := [some (.ref (ad (gMo 0))), some (.int x1), some (.int (xs0 - xs1)), none]) dX9_dormant_56 rfl (Nat.le_of_ble_eq_true rfl) rfl ?_
  refine rl_iconst (v := nI 0) dX9_dormant_57 (by decide) ?_
  refine rl_istore_n (L' := [some (.ref (ad (gMo 0))), some (.int x1), some (.int (xs0 - xs1)), some (.int (nI 0))]) dX9_dormant_58 rfl (Nat.le_of_ble_eq_true rfl) rfl ?_
  exact H
theorem tX9_dormant_49 {n : Nat} {ad : Nat → Nat} {h0 : Hp} {cs : Nat → Nat → Int32} {pm : Nat → Nat → Nat} (L : Lay n ad h0) {Q : Nat → Option Value → Hp → Prop} {x1 xs0 : Int32} (H : Wm mX9_dormant 5 0 0 Q 59 [some (.ref (ad (gMo 0))), some (.int x1), some (.int (xs0 - (cs (gMo 1) 1))), some (.int (nI 0))] [] (HN h0 ad cs pm) 0 0) : Wm mX9_dormant 5 0 0 Q 49 [some (.ref (ad (gMo 0))), some (.int x1), none, none] [.int xs0] (HN h0 ad cs pm) 0 0 := by
  refine rl_aload_n dX9_dormant_49 rfl rfl ?_
  refine rt_getP (k := 1) cfX9 dX9_dormant_50 flX9_7 (by decide) rfl (lMo0 L) (rMo1 L) naMo ?_
  refine rl_iconst (v := nI 1) dX9_dormant_53 (by decide) ?_
  refine rt_iald (j := 1) dX9_dormant_54 (lMo1 L) nzMo rfl (by decide) (by decide) ?_
  refine rl_isub dX9_dormant_55 ?_
  refine rl_istore_n (L' := [some (.ref (ad (gMo 0))), some (.int x1), some (.int (xs0 - (cs (gMo 1) 1))), none]) dX9_dormant_56 rfl (Nat.le_of_ble_eq_true rfl) rfl ?_
  refine rl_iconst (v := nI 0) dX9_dormant_57 (by decide) ?_
  refine rl_istore_n (L' := [some (.ref (ad (gMo 0))), some (.int x1), some (.int (xs0 - (cs (gMo 1) 1))), some (.int (nI 0))]) dX9_dormant_58 rfl (Nat.le_of_ble_eq_true rfl) rfl ?_
  exact H
theorem tX9_dormant_59 {n : Nat} {ad : Nat → Nat} {h0 : Hp} {cs : Nat → Nat → Int32} {pm : Nat → Nat → Nat} (L : Lay n ad h0) {Q : Nat → Option Value → Hp → Prop} {x1 x2 x3 : Int32} (H : (((cs (gMo 0) 0) ≤ x3 → Q 0 (some (.int x2)) (HN h0 ad cs pm)) ∧ (¬ (cs (gMo 0) 0) ≤ x3 → CKi mX9_allRights 4 0 0 [some (.ref (ad (gMo 0))), some (.int x3), some (.int x1)] (HN h0 ad cs pm) (fun v h' => Wm mX9_dormant 5 0 0 Q 74 [some (.ref (ad (gMo 0))), some (.int x1), none, some (.int x3)] [.int v, .int x2] h' 0 0)))) : Wm mX9_dormant 5 0 0 Q 59 [some (.ref (ad (gMo 0))), some (.int x1), some (.int x2), some (.int x3)] [] (HN h0 ad cs pm) 0 0 := by
  refine rl_iload_n dX9_dormant_59 rfl rfl ?_
  refine rl_aload_n dX9_dormant_60 rfl rfl ?_
  refine rt_getI (k := 0) cfX9 dX9_dormant_61 flX9_34 (by decide) rfl (lMo0 L) nzMo ?_
  refine rl_icmp_ge (tgt := 82) dX9_dormant_64 (by decide) (fun c_1 => ?_) (fun c_1 => ?_)
  · have H := H.1 c_1
    refine rl_iload_n dX9_dormant_82 rfl rfl ?_
    exact rl_iret dX9_dormant_83 rfl (Nat.le_refl 0) (Nat.le_refl 0) H
  · have H := H.2 c_1
    refine rl_iload_n dX9_dormant_67 rfl rfl ?_
    refine rl_aload_n dX9_dormant_68 rfl rfl ?_
    refine rl_iload_n dX9_dormant_69 rfl rfl ?_
    refine rl_iload_n dX9_dormant_70 rfl rfl ?_
    exact rl_callV (As := [.int x3, .int x1]) (rest := [.int x2]) mfX9_allRights dX9_dormant_71 lkX9_85 (lMo0 L).K (by decide) (Nat.le_of_ble_eq_true rfl) (Nat.le_refl _) (Nat.le_refl _) rfl (Nat.le_of_ble_eq_true rfl) rfl rfl (fun Qc k => H Qc (fun v h' w => k (some (.int v)) h' (rl_wk (L' := [some (.ref (ad (gMo 0))), some (.int x1), none, some (.int x3)]) ⟨rfl, ⟨rfl, ⟨rfl, trivial⟩⟩⟩ w)))
theorem tX9_dormant_74 {n : Nat} {ad : Nat → Nat} {h0 : Hp} {cs : Nat → Nat → Int32} {pm : Nat → Nat → Nat} (L : Lay n ad h0) {Q : Nat → Option Value → Hp → Prop} {x1 x3 xs0 xs1 : Int32} (H : Wm mX9_dormant 5 0 0 Q 59 [some (.ref (ad (gMo 0))), some (.int x1), some (.int (xs0 - xs1)), some (.int (x3 + nI 1))] [] (HN h0 ad cs pm) 0 0) : Wm mX9_dormant 5 0 0 Q 74 [some (.ref (ad (gMo 0))), some (.int x1), none, some (.int x3)] [.int xs1, .int xs0] (HN h0 ad cs pm) 0 0 := by
  refine rl_isub dX9_dormant_74 ?_
  refine rl_istore_n (L' := [some (.ref (ad (gMo 0))), some (.int x1), some (.int (xs0 - xs1)), some (.int x3)]) dX9_dormant_75 rfl (Nat.le_of_ble_eq_true rfl) rfl ?_
  refine rl_iinc (v := x3 + nI 1) (L' := [some (.ref (ad (gMo 0))), some (.int x1), some (.int (xs0 - xs1)), some (.int (x3 + nI 1))]) dX9_dormant_76 rfl (congrArg (fun z => x3 + z) (by decide)) (Nat.le_of_ble_eq_true rfl) rfl ?_
  refine rl_goto (tgt := 59) dX9_dormant_79 (by decide) ?_
  exact H
theorem tX9_demand_0 {n : Nat} {ad : Nat → Nat} {h0 : Hp} {cs : Nat → Nat → Int32} {pm : Nat → Nat → Nat} (L : Lay n ad h0) {Q : Nat → Option Value → Hp → Prop} {x1 x2 x3 : Int32} (H : CKi mX9_isSite 1 0 0 [some (.ref (ad (gMo 0))), some (.int x1)] (HN h0 ad cs pm) (fun v h' => Wm mX9_demand 2 0 0 Q 6 [some (.ref (ad (gMo 0))), some (.int x1), some (.int x2), some (.int x3)] [.int v, .ref (ad (gMo 0))] h' 0 0)) : Wm mX9_demand 2 0 0 Q 0 [some (.ref (ad (gMo 0))), some (.int x1), some (.int x2), some (.int x3)] [] (HN h0 ad cs pm) 0 0 := by
  refine rl_aload_n dX9_demand_0 rfl rfl ?_
  refine rl_aload_n dX9_demand_1 rfl rfl ?_
  refine rl_iload_n dX9_demand_2 rfl rfl ?_
  exact rl_callV (As := [.int x1]) (rest := [.ref (ad (gMo 0))]) mfX9_isSite dX9_demand_3 lkX9_96 (lMo0 L).K (by decide) (Nat.le_of_ble_eq_true rfl) (Nat.le_refl _) (Nat.le_refl _) rfl (Nat.le_of_ble_eq_true rfl) rfl rfl (fun Qc k => H Qc (fun v h' w => k (some (.int v)) h' w))
theorem tX9_demand_6 {n : Nat} {ad : Nat → Nat} {h0 : Hp} {cs : Nat → Nat → Int32} {pm : Nat → Nat → Nat} (L : Lay n ad h0) {Q : Nat → Option Value → Hp → Prop} {x1 x2 x3 xs1 : Int32} (H : ((xs1 = 0 → Q 0 (some (.int (nI 0))) (HN h0 ad (up2 cs (gMo 0) 7 (nI 1)) pm)) ∧ (¬ xs1 = 0 → CKi mX9_isSite 1 0 0 [some (.ref (ad (gMo 0))), some (.int x2)] (HN h0 ad cs pm) (fun v h' => Wm mX9_demand 2 0 0 Q 14 [some (.ref (ad (gMo 0))), some (.int x1), some (.int x2), some (.int x3)] [.int v, .ref (ad (gMo 0))] h' 0 0)))) : Wm mX9_demand 2 0 0 Q 6 [some (.ref (ad (gMo 0))), some (.int x1), some (.int x2), some (.int x3)] [.int xs1, .ref (ad (gMo 0))] (HN h0 ad cs pm) 0 0 := by
  refine rl_if_eq (tgt := 30) dX9_demand_6 (by decide) (fun c_1 => ?_) (fun c_1 => ?_)
  · have H := H.1 c_1
    refine rl_iconst (v := nI 1) dX9_demand_30 (by decide) ?_
    refine rt_putI (k := 7) L.2.1 cfX9 dX9_demand_31 flX9_42 (by decide) rfl (lMo0 L) nzMo (Or.inl rfl) ?_
    refine rl_aload_n dX9_demand_34 rfl rfl ?_
    refine rt_getIv (x := nI 1) (k := 7) cfX9 dX9_demand_35 flX9_42 (by decide) rfl (lMo0 L) nzMo (up2_s) ?_
    refine rl_if_ne (tgt := 59) dX9_demand_38 (by decide) (fun _ => ?_) (fun q => absurd q (by decide))
    refine rl_iconst (v := nI 0) dX9_demand_59 (by decide) ?_
    exact rl_iret dX9_demand_60 rfl (Nat.le_refl 0) (Nat.le_refl 0) H
  · have H := H.2 c_1
    refine rl_aload_n dX9_demand_9 rfl rfl ?_
    refine rl_iload_n dX9_demand_10 rfl rfl ?_
    exact rl_callV (As := [.int x2]) (rest := [.ref (ad (gMo 0))]) mfX9_isSite dX9_demand_11 lkX9_96 (lMo0 L).K (by decide) (Nat.le_of_ble_eq_true rfl) (Nat.le_refl _) (Nat.le_refl _) rfl (Nat.le_of_ble_eq_true rfl) rfl rfl (fun Qc k => H Qc (fun v h' w => k (some (.int v)) h' w))
theorem tX9_demand_14 {n : Nat} {ad : Nat → Nat} {h0 : Hp} {cs : Nat → Nat → Int32} {pm : Nat → Nat → Nat} (L : Lay n ad h0) {Q : Nat → Option Value → Hp → Prop} {x1 x2 x3 xs1 : Int32} (H : ((xs1 = 0 → Q 0 (some (.int (nI 0))) (HN h0 ad (up2 cs (gMo 0) 7 (nI 1)) pm)) ∧ (¬ xs1 = 0 → CKi mX9_in 0 0 0 [some (.int x3), some (.int (nI 0)), some (.int (nI 1))] (HN h0 ad cs pm) (fun v h' => Wm mX9_demand 2 0 0 Q 23 [some (.ref (ad (gMo 0))), some (.int x1), some (.int x2), some (.int x3)] [.int v, .ref (ad (gMo 0))] h' 0 0)))) : Wm mX9_demand 2 0 0 Q 14 [some (.ref (ad (gMo 0))), some (.int x1), some (.int x2), some (.int x3)] [.int xs1, .ref (ad (gMo 0))] (HN h0 ad cs pm) 0 0 := by
  refine rl_if_eq (tgt := 30) dX9_demand_14 (by decide) (fun c_1 => ?_) (fun c_1 => ?_)
  · have H := H.1 c_1
    refine rl_iconst (v := nI 1) dX9_demand_30 (by decide) ?_
    refine rt_putI (k := 7) L.2.1 cfX9 dX9_demand_31 flX9_42 (by decide) rfl (lMo0 L) nzMo (Or.inl rfl) ?_
    refine rl_aload_n dX9_demand_34 rfl rfl ?_
    refine rt_getIv (x := nI 1) (k := 7) cfX9 dX9_demand_35 flX9_42 (by decide) rfl (lMo0 L) nzMo (up2_s) ?_
    refine rl_if_ne (tgt := 59) dX9_demand_38 (by decide) (fun _ => ?_) (fun q => absurd q (by decide))
    refine rl_iconst (v := nI 0) dX9_demand_59 (by decide) ?_
    exact rl_iret dX9_demand_60 rfl (Nat.le_refl 0) (Nat.le_refl 0) H
  · have H := H.2 c_1
    refine rl_iload_n dX9_demand_17 rfl rfl ?_
    refine rl_iconst (v := nI 0) dX9_demand_18 (by decide) ?_
    refine rl_iconst (v := nI 1) dX9_demand_19 (by decide) ?_
    exact rl_callS (As := [.int x3, .int (nI 0), .int (nI 1)]) (rest := [.ref (ad (gMo 0))]) mfX9_in dX9_demand_20 lkX9_48 (by decide) (Nat.le_of_ble_eq_true rfl) (Nat.le_refl _) (Nat.le_refl _) rfl (Nat.le_of_ble_eq_true rfl) rfl rfl (fun Qc k => H Qc (fun v h' w => k (some (.int v)) h' w))
theorem tX9_demand_23 {n : Nat} {ad : Nat → Nat} {h0 : Hp} {cs : Nat → Nat → Int32} {pm : Nat → Nat → Nat} (L : Lay n ad h0) {Q : Nat → Option Value → Hp → Prop} {x1 x2 x3 xs1 : Int32} (H : ((xs1 = 0 → Q 0 (some (.int (nI 0))) (HN h0 ad (up2 cs (gMo 0) 7 (nI 1)) pm)) ∧ (¬ xs1 = 0 → CKi mX9_record 0 0 0 [some (.int x1), some (.int x2)] (HN h0 ad (up2 cs (gMo 0) 7 (nI 0)) pm) (fun v h' => Wm mX9_demand 2 0 0 Q 50 [none, none, none, some (.int x3)] [.int v, .ref (ad (gMo 1))] h' 0 0)))) : Wm mX9_demand 2 0 0 Q 23 [some (.ref (ad (gMo 0))), some (.int x1), some (.int x2), some (.int x3)] [.int xs1, .ref (ad (gMo 0))] (HN h0 ad cs pm) 0 0 := by
  refine rl_if_eq (tgt := 30) dX9_demand_23 (by decide) (fun c_1 => ?_) (fun c_1 => ?_)
  · have H := H.1 c_1
    refine rl_iconst (v := nI 1) dX9_demand_30 (by decide) ?_
    refine rt_putI (k := 7) L.2.1 cfX9 dX9_demand_31 flX9_42 (by decide) rfl (lMo0 L) nzMo (Or.inl rfl) ?_
    refine rl_aload_n dX9_demand_34 rfl rfl ?_
    refine rt_getIv (x := nI 1) (k := 7) cfX9 dX9_demand_35 flX9_42 (by decide) rfl (lMo0 L) nzMo (up2_s) ?_
    refine rl_if_ne (tgt := 59) dX9_demand_38 (by decide) (fun _ => ?_) (fun q => absurd q (by decide))
    refine rl_iconst (v := nI 0) dX9_demand_59 (by decide) ?_
    exact rl_iret dX9_demand_60 rfl (Nat.le_refl 0) (Nat.le_refl 0) H
  · have H := H.2 c_1
    refine rl_iconst (v := nI 0) dX9_demand_26 (by decide) ?_
    refine rl_goto (tgt := 31) dX9_demand_27 (by decide) ?_
    refine rt_putI (k := 7) L.2.1 cfX9 dX9_demand_31 flX9_42 (by decide) rfl (lMo0 L) nzMo (Or.inl rfl) ?_
    refine rl_aload_n dX9_demand_34 rfl rfl ?_
    refine rt_getIv (x := nI 0) (k := 7) cfX9 dX9_demand_35 flX9_42 (by decide) rfl (lMo0 L) nzMo (up2_s) ?_
    refine rl_if_ne (tgt := 59) dX9_demand_38 (by decide) (fun q => absurd q (by decide)) (fun _ => ?_)
    refine rl_aload_n dX9_demand_41 rfl rfl ?_
    refine rt_getP (k := 1) cfX9 dX9_demand_42 flX9_7 (by decide) rfl (lMo0 L) (rMo1 L) naMo ?_
    refine rl_iload_n dX9_demand_45 rfl rfl ?_
    refine rl_iload_n dX9_demand_46 rfl rfl ?_
    exact rl_callS (As := [.int x1, .int x2]) (rest := [.ref (ad (gMo 1))]) mfX9_record dX9_demand_47 lkX9_52 (by decide) (Nat.le_of_ble_eq_true rfl) (Nat.le_refl _) (Nat.le_refl _) rfl (Nat.le_of_ble_eq_true rfl) rfl rfl (fun Qc k => H Qc (fun v h' w => k (some (.int v)) h' (rl_wk (L' := [none, none, none, some (.int x3)]) ⟨rfl, trivial⟩ w)))
theorem tX9_demand_50 {n : Nat} {ad : Nat → Nat} {h0 : Hp} {cs : Nat → Nat → Int32} {pm : Nat → Nat → Nat} (L : Lay n ad h0) {Q : Nat → Option Value → Hp → Prop} {x3 xs1 : Int32} (H : (∃ j_1 : Nat, (xs1 + (nI 14)) + x3 = nI j_1 ∧ j_1 < 2400 ∧ (Q 0 (some (.int (cs (gMo 1) j_1))) (HN h0 ad cs pm)))) : Wm mX9_demand 2 0 0 Q 50 [none, none, none, some (.int x3)] [.int xs1, .ref (ad (gMo 1))] (HN h0 ad cs pm) 0 0 := by
  refine rl_bipush (v := nI 14) dX9_demand_50 (by decide) ?_
  refine rl_iadd dX9_demand_52 ?_
  refine rl_iload_n dX9_demand_53 rfl rfl ?_
  refine rl_iadd dX9_demand_54 ?_
  obtain ⟨j_1, e_2, b_3, H⟩ := H
  refine rt_iald (j := j_1) dX9_demand_55 (lMo1 L) nzMo e_2 b_3 (by decide) ?_
  refine rl_goto (tgt := 60) dX9_demand_56 (by decide) ?_
  exact rl_iret dX9_demand_60 rfl (Nat.le_refl 0) (Nat.le_refl 0) H
theorem tX9_version_0 {n : Nat} {ad : Nat → Nat} {h0 : Hp} {cs : Nat → Nat → Int32} {pm : Nat → Nat → Nat} (L : Lay n ad h0) {Q : Nat → Option Value → Hp → Prop} {x1 x2 : Int32} (H : CKi mX9_isTwo 2 0 0 [some (.ref (ad (gMo 0))), some (.int x1), some (.int x2)] (HN h0 ad cs pm) (fun v h' => Wm mX9_version 3 0 0 Q 6 [some (.ref (ad (gMo 0))), some (.int x1), some (.int x2)] [.int v] h' 0 0)) : Wm mX9_version 3 0 0 Q 0 [some (.ref (ad (gMo 0))), some (.int x1), some (.int x2)] [] (HN h0 ad cs pm) 0 0 := by
  refine rl_aload_n dX9_version_0 rfl rfl ?_
  refine rl_iload_n dX9_version_1 rfl rfl ?_
  refine rl_iload_n dX9_version_2 rfl rfl ?_
  exact rl_callV (As := [.int x1, .int x2]) (rest := []) mfX9_isTwo dX9_version_3 lkX9_146 (lMo0 L).K (by decide) (Nat.le_of_ble_eq_true rfl) (Nat.le_refl _) (Nat.le_refl _) rfl (Nat.le_of_ble_eq_true rfl) rfl rfl (fun Qc k => H Qc (fun v h' w => k (some (.int v)) h' w))
theorem tX9_version_6 {n : Nat} {ad : Nat → Nat} {h0 : Hp} {cs : Nat → Nat → Int32} {pm : Nat → Nat → Nat} (L : Lay n ad h0) {Q : Nat → Option Value → Hp → Prop} {x1 x2 xs0 : Int32} (H : ((xs0 = 0 → Q 0 (some (.int (nI 0))) (HN h0 ad cs pm)) ∧ (¬ xs0 = 0 → CKi mX9_record 0 0 0 [some (.int x1), some (.int x2)] (HN h0 ad cs pm) (fun v h' => Wm mX9_version 3 0 0 Q 18 [none, none, none] [.int v, .ref (ad (gMo 1))] h' 0 0)))) : Wm mX9_version 3 0 0 Q 6 [some (.ref (ad (gMo 0))), some (.int x1), some (.int x2)] [.int xs0] (HN h0 ad cs pm) 0 0 := by
  refine rl_if_eq (tgt := 24) dX9_version_6 (by decide) (fun c_1 => ?_) (fun c_1 => ?_)
  · have H := H.1 c_1
    refine rl_iconst (v := nI 0) dX9_version_24 (by decide) ?_
    exact rl_iret dX9_version_25 rfl (Nat.le_refl 0) (Nat.le_refl 0) H
  · have H := H.2 c_1
    refine rl_aload_n dX9_version_9 rfl rfl ?_
    refine rt_getP (k := 1) cfX9 dX9_version_10 flX9_7 (by decide) rfl (lMo0 L) (rMo1 L) naMo ?_
    refine rl_iload_n dX9_version_13 rfl rfl ?_
    refine rl_iload_n dX9_version_14 rfl rfl ?_
    exact rl_callS (As := [.int x1, .int x2]) (rest := [.ref (ad (gMo 1))]) mfX9_record dX9_version_15 lkX9_52 (by decide) (Nat.le_of_ble_eq_true rfl) (Nat.le_refl _) (Nat.le_refl _) rfl (Nat.le_of_ble_eq_true rfl) rfl rfl (fun Qc k => H Qc (fun v h' w => k (some (.int v)) h' (rl_wk (L' := [none, none, none]) trivial w)))
theorem tX9_version_18 {n : Nat} {ad : Nat → Nat} {h0 : Hp} {cs : Nat → Nat → Int32} {pm : Nat → Nat → Nat} (L : Lay n ad h0) {Q : Nat → Option Value → Hp → Prop} {xs1 : Int32} (H : (∃ j_1 : Nat, xs1 + (nI 0) = nI j_1 ∧ j_1 < 2400 ∧ (Q 0 (some (.int (cs (gMo 1) j_1))) (HN h0 ad cs pm)))) : Wm mX9_version 3 0 0 Q 18 [none, none, none] [.int xs1, .ref (ad (gMo 1))] (HN h0 ad cs pm) 0 0 := by
  refine rl_iconst (v := nI 0) dX9_version_18 (by decide) ?_
  refine rl_iadd dX9_version_19 ?_
  obtain ⟨j_1, e_2, b_3, H⟩ := H
  refine rt_iald (j := j_1) dX9_version_20 (lMo1 L) nzMo e_2 b_3 (by decide) ?_
  refine rl_goto (tgt := 25) dX9_version_21 (by decide) ?_
  exact rl_iret dX9_version_25 rfl (Nat.le_refl 0) (Nat.le_refl 0) H
theorem tX9_isTwo_0 {n : Nat} {ad : Nat → Nat} {h0 : Hp} {cs : Nat → Nat → Int32} {pm : Nat → Nat → Nat} (L : Lay n ad h0) {Q : Nat → Option Value → Hp → Prop} {x1 x2 : Int32} (H : CKi mX9_isSite 1 0 0 [some (.ref (ad (gMo 0))), some (.int x1)] (HN h0 ad cs pm) (fun v h' => Wm mX9_isTwo 2 0 0 Q 6 [some (.ref (ad (gMo 0))), none, some (.int x2)] [.int v, .ref (ad (gMo 0))] h' 0 0)) : Wm mX9_isTwo 2 0 0 Q 0 [some (.ref (ad (gMo 0))), some (.int x1), some (.int x2)] [] (HN h0 ad cs pm) 0 0 := by
  refine rl_aload_n dX9_isTwo_0 rfl rfl ?_
  refine rl_aload_n dX9_isTwo_1 rfl rfl ?_
  refine rl_iload_n dX9_isTwo_2 rfl rfl ?_
  exact rl_callV (As := [.int x1]) (rest := [.ref (ad (gMo 0))]) mfX9_isSite dX9_isTwo_3 lkX9_96 (lMo0 L).K (by decide) (Nat.le_of_ble_eq_true rfl) (Nat.le_refl _) (Nat.le_refl _) rfl (Nat.le_of_ble_eq_true rfl) rfl rfl (fun Qc k => H Qc (fun v h' w => k (some (.int v)) h' (rl_wk (L' := [some (.ref (ad (gMo 0))), none, some (.int x2)]) ⟨rfl, ⟨rfl, trivial⟩⟩ w)))
theorem tX9_isTwo_6 {n : Nat} {ad : Nat → Nat} {h0 : Hp} {cs : Nat → Nat → Int32} {pm : Nat → Nat → Nat} (L : Lay n ad h0) {Q : Nat → Option Value → Hp → Prop} {x2 xs1 : Int32} (H : ((xs1 = 0 → Q 0 (some (.int (nI 0))) (HN h0 ad (up2 cs (gMo 0) 7 (nI 1)) pm)) ∧ (¬ xs1 = 0 → CKi mX9_isSite 1 0 0 [some (.ref (ad (gMo 0))), some (.int x2)] (HN h0 ad cs pm) (fun v h' => Wm mX9_isTwo 2 0 0 Q 14 [some (.ref (ad (gMo 0))), none, none] [.int v, .ref (ad (gMo 0))] h' 0 0)))) : Wm mX9_isTwo 2 0 0 Q 6 [some (.ref (ad (gMo 0))), none, some (.int x2)] [.int xs1, .ref (ad (gMo 0))] (HN h0 ad cs pm) 0 0 := by
  refine rl_if_eq (tgt := 21) dX9_isTwo_6 (by decide) (fun c_1 => ?_) (fun c_1 => ?_)
  · have H := H.1 c_1
    refine rl_iconst (v := nI 1) dX9_isTwo_21 (by decide) ?_
    refine rt_putI (k := 7) L.2.1 cfX9 dX9_isTwo_22 flX9_42 (by decide) rfl (lMo0 L) nzMo (Or.inl rfl) ?_
    refine rl_aload_n dX9_isTwo_25 rfl rfl ?_
    refine rt_getIv (x := nI 1) (k := 7) cfX9 dX9_isTwo_26 flX9_42 (by decide) rfl (lMo0 L) nzMo (up2_s) ?_
    refine rl_if_ne (tgt := 36) dX9_isTwo_29 (by decide) (fun _ => ?_) (fun q => absurd q (by decide))
    refine rl_iconst (v := nI 0) dX9_isTwo_36 (by decide) ?_
    exact rl_zret dX9_isTwo_37 rfl rfl (Nat.le_refl 0) (Nat.le_refl 0) H
  · have H := H.2 c_1
    refine rl_aload_n dX9_isTwo_9 rfl rfl ?_
    refine rl_iload_n dX9_isTwo_10 rfl rfl ?_
    exact rl_callV (As := [.int x2]) (rest := [.ref (ad (gMo 0))]) mfX9_isSite dX9_isTwo_11 lkX9_96 (lMo0 L).K (by decide) (Nat.le_of_ble_eq_true rfl) (Nat.le_refl _) (Nat.le_refl _) rfl (Nat.le_of_ble_eq_true rfl) rfl rfl (fun Qc k => H Qc (fun v h' w => k (some (.int v)) h' (rl_wk (L' := [some (.ref (ad (gMo 0))), none, none]) ⟨rfl, trivial⟩ w)))
theorem tX9_isTwo_14 {n : Nat} {ad : Nat → Nat} {h0 : Hp} {cs : Nat → Nat → Int32} {pm : Nat → Nat → Nat} (L : Lay n ad h0) {Q : Nat → Option Value → Hp → Prop} {xs1 : Int32} (H : ((xs1 = 0 → Q 0 (some (.int (nI 0))) (HN h0 ad (up2 cs (gMo 0) 7 (nI 1)) pm)) ∧ (¬ xs1 = 0 → Q 0 (some (.int (nI 1))) (HN h0 ad (up2 cs (gMo 0) 7 (nI 0)) pm)))) : Wm mX9_isTwo 2 0 0 Q 14 [some (.ref (ad (gMo 0))), none, none] [.int xs1, .ref (ad (gMo 0))] (HN h0 ad cs pm) 0 0 := by
  refine rl_if_eq (tgt := 21) dX9_isTwo_14 (by decide) (fun c_1 => ?_) (fun c_1 => ?_)
  · have H := H.1 c_1
    refine rl_iconst (v := nI 1) dX9_isTwo_21 (by decide) ?_
    refine rt_putI (k := 7) L.2.1 cfX9 dX9_isTwo_22 flX9_42 (by decide) rfl (lMo0 L) nzMo (Or.inl rfl) ?_
    refine rl_aload_n dX9_isTwo_25 rfl rfl ?_
    refine rt_getIv (x := nI 1) (k := 7) cfX9 dX9_isTwo_26 flX9_42 (by decide) rfl (lMo0 L) nzMo (up2_s) ?_
    refine rl_if_ne (tgt := 36) dX9_isTwo_29 (by decide) (fun _ => ?_) (fun q => absurd q (by decide))
    refine rl_iconst (v := nI 0) dX9_isTwo_36 (by decide) ?_
    exact rl_zret dX9_isTwo_37 rfl rfl (Nat.le_refl 0) (Nat.le_refl 0) H
  · have H := H.2 c_1
    refine rl_iconst (v := nI 0) dX9_isTwo_17 (by decide) ?_
    refine rl_goto (tgt := 22) dX9_isTwo_18 (by decide) ?_
    refine rt_putI (k := 7) L.2.1 cfX9 dX9_isTwo_22 flX9_42 (by decide) rfl (lMo0 L) nzMo (Or.inl rfl) ?_
    refine rl_aload_n dX9_isTwo_25 rfl rfl ?_
    refine rt_getIv (x := nI 0) (k := 7) cfX9 dX9_isTwo_26 flX9_42 (by decide) rfl (lMo0 L) nzMo (up2_s) ?_
    refine rl_if_ne (tgt := 36) dX9_isTwo_29 (by decide) (fun q => absurd q (by decide)) (fun _ => ?_)
    refine rl_iconst (v := nI 1) dX9_isTwo_32 (by decide) ?_
    refine rl_goto (tgt := 37) dX9_isTwo_33 (by decide) ?_
    exact rl_zret dX9_isTwo_37 rfl rfl (Nat.le_refl 0) (Nat.le_refl 0) H
theorem tX9_copyTime_0 {n : Nat} {ad : Nat → Nat} {h0 : Hp} {cs : Nat → Nat → Int32} {pm : Nat → Nat → Nat} (L : Lay n ad h0) {Q : Nat → Option Value → Hp → Prop} {x1 x2 : Int32} (H : CKi mX9_isTwo 2 0 0 [some (.ref (ad (gMo 0))), some (.int x1), some (.int x2)] (HN h0 ad cs pm) (fun v h' => Wm mX9_copyTime 3 0 0 Q 6 [some (.ref (ad (gMo 0))), some (.int x1), some (.int x2)] [.int v] h' 0 0)) : Wm mX9_copyTime 3 0 0 Q 0 [some (.ref (ad (gMo 0))), some (.int x1), some (.int x2)] [] (HN h0 ad cs pm) 0 0 := by
  refine rl_aload_n dX9_copyTime_0 rfl rfl ?_
  refine rl_iload_n dX9_copyTime_1 rfl rfl ?_
  refine rl_iload_n dX9_copyTime_2 rfl rfl ?_
  exact rl_callV (As := [.int x1, .int x2]) (rest := []) mfX9_isTwo dX9_copyTime_3 lkX9_146 (lMo0 L).K (by decide) (Nat.le_of_ble_eq_true rfl) (Nat.le_refl _) (Nat.le_refl _) rfl (Nat.le_of_ble_eq_true rfl) rfl rfl (fun Qc k => H Qc (fun v h' w => k (some (.int v)) h' w))
theorem tX9_copyTime_6 {n : Nat} {ad : Nat → Nat} {h0 : Hp} {cs : Nat → Nat → Int32} {pm : Nat → Nat → Nat} (L : Lay n ad h0) {Q : Nat → Option Value → Hp → Prop} {x1 x2 xs0 : Int32} (H : ((xs0 = 0 → Q 0 (some (.int (nI 0))) (HN h0 ad cs pm)) ∧ (¬ xs0 = 0 → CKi mX9_timeOf 1 0 0 [some (.ref (ad (gMo 0))), some (.int x1), some (.int x2)] (HN h0 ad cs pm) (fun v h' => Wm mX9_copyTime 3 0 0 Q 15 [none, none, none] [.int v] h' 0 0)))) : Wm mX9_copyTime 3 0 0 Q 6 [some (.ref (ad (gMo 0))), some (.int x1), some (.int x2)] [.int xs0] (HN h0 ad cs pm) 0 0 := by
  refine rl_if_eq (tgt := 18) dX9_copyTime_6 (by decide) (fun c_1 => ?_) (fun c_1 => ?_)
  · have H := H.1 c_1
    refine rl_iconst (v := nI 0) dX9_copyTime_18 (by decide) ?_
    exact rl_iret dX9_copyTime_19 rfl (Nat.le_refl 0) (Nat.le_refl 0) H
  · have H := H.2 c_1
    refine rl_aload_n dX9_copyTime_9 rfl rfl ?_
    refine rl_iload_n dX9_copyTime_10 rfl rfl ?_
    refine rl_iload_n dX9_copyTime_11 rfl rfl ?_
    exact rl_callV (As := [.int x1, .int x2]) (rest := []) mfX9_timeOf dX9_copyTime_12 lkX9_63 (lMo0 L).K (by decide) (Nat.le_of_ble_eq_true rfl) (Nat.le_refl _) (Nat.le_refl _) rfl (Nat.le_of_ble_eq_true rfl) rfl rfl (fun Qc k => H Qc (fun v h' w => k (some (.int v)) h' (rl_wk (L' := [none, none, none]) trivial w)))
theorem tX9_copyTime_15 {n : Nat} {ad : Nat → Nat} {h0 : Hp} {cs : Nat → Nat → Int32} {pm : Nat → Nat → Nat} (L : Lay n ad h0) {Q : Nat → Option Value → Hp → Prop} {xs0 : Int32} (H : Q 0 (some (.int xs0)) (HN h0 ad cs pm)) : Wm mX9_copyTime 3 0 0 Q 15 [none, none, none] [.int xs0] (HN h0 ad cs pm) 0 0 := by
  refine rl_goto (tgt := 19) dX9_copyTime_15 (by decide) ?_
  exact rl_iret dX9_copyTime_19 rfl (Nat.le_refl 0) (Nat.le_refl 0) H
theorem tX9_loans_0 {n : Nat} {ad : Nat → Nat} {h0 : Hp} {cs : Nat → Nat → Int32} {pm : Nat → Nat → Nat} (L : Lay n ad h0) {Q : Nat → Option Value → Hp → Prop}  (H : Q 0 (some (.int (cs (gMo 1) 4))) (HN h0 ad (up2 cs (gMo 0) 7 (nI 0)) pm)) : Wm mX9_loans 0 0 0 Q 0 [some (.ref (ad (gMo 0)))] [] (HN h0 ad cs pm) 0 0 := by
  refine rl_aload_n dX9_loans_0 rfl rfl ?_
  refine rl_iconst (v := nI 0) dX9_loans_1 (by decide) ?_
  refine rt_putI (k := 7) L.2.1 cfX9 dX9_loans_2 flX9_42 (by decide) rfl (lMo0 L) nzMo (Or.inl rfl) ?_
  refine rl_aload_n dX9_loans_5 rfl rfl ?_
  refine rt_getP (k := 1) cfX9 dX9_loans_6 flX9_7 (by decide) rfl (lMo0 L) (rMo1 L) naMo ?_
  refine rl_iconst (v := nI 4) dX9_loans_9 (by decide) ?_
  refine rt_ialdv (y := cs (gMo 1) 4) (j := 4) dX9_loans_10 (lMo1 L) nzMo rfl (by decide) (by decide) ((up2_k (by decide)).trans (rfl)) ?_
  exact rl_iret dX9_loans_11 rfl (Nat.le_refl 0) (Nat.le_refl 0) H
theorem tX9_loan_0 {n : Nat} {ad : Nat → Nat} {h0 : Hp} {cs : Nat → Nat → Int32} {pm : Nat → Nat → Nat} (L : Lay n ad h0) {Q : Nat → Option Value → Hp → Prop} {x1 x2 : Int32} (H : CKi mX9_in 0 0 0 [some (.int x1), some (.int (nI 0)), some (.int ((cs (gMo 1) 4) - (nI 1)))] (HN h0 ad cs pm) (fun v h' => Wm mX9_loan 4 0 0 Q 14 [some (.ref (ad (gMo 0))), some (.int x1), some (.int x2)] [.int v, .ref (ad (gMo 0))] h' 0 0)) : Wm mX9_loan 4 0 0 Q 0 [some (.ref (ad (gMo 0))), some (.int x1), some (.int x2)] [] (HN h0 ad cs pm) 0 0 := by
  refine rl_aload_n dX9_loan_0 rfl rfl ?_
  refine rl_iload_n dX9_loan_1 rfl rfl ?_
  refine rl_iconst (v := nI 0) dX9_loan_2 (by decide) ?_
  refine rl_aload_n dX9_loan_3 rfl rfl ?_
  refine rt_getP (k := 1) cfX9 dX9_loan_4 flX9_7 (by decide) rfl (lMo0 L) (rMo1 L) naMo ?_
  refine rl_iconst (v := nI 4) dX9_loan_7 (by decide) ?_
  refine rt_iald (j := 4) dX9_loan_8 (lMo1 L) nzMo rfl (by decide) (by decide) ?_
  refine rl_iconst (v := nI 1) dX9_loan_9 (by decide) ?_
  refine rl_isub dX9_loan_10 ?_
  exact rl_callS (As := [.int x1, .int (nI 0), .int ((cs (gMo 1) 4) - (nI 1))]) (rest := [.ref (ad (gMo 0))]) mfX9_in dX9_loan_11 lkX9_48 (by decide) (Nat.le_of_ble_eq_true rfl) (Nat.le_refl _) (Nat.le_refl _) rfl (Nat.le_of_ble_eq_true rfl) rfl rfl (fun Qc k => H Qc (fun v h' w => k (some (.int v)) h' w))
theorem tX9_loan_14 {n : Nat} {ad : Nat → Nat} {h0 : Hp} {cs : Nat → Nat → Int32} {pm : Nat → Nat → Nat} (L : Lay n ad h0) {Q : Nat → Option Value → Hp → Prop} {x1 x2 xs1 : Int32} (H : ((xs1 = 0 → Q 0 (some (.int (nI 0))) (HN h0 ad (up2 cs (gMo 0) 7 (nI 1)) pm)) ∧ (¬ xs1 = 0 → CKi mX9_in 0 0 0 [some (.int x2), some (.int (nI 0)), some (.int (nI 7))] (HN h0 ad cs pm) (fun v h' => Wm mX9_loan 4 0 0 Q 24 [some (.ref (ad (gMo 0))), some (.int x1), some (.int x2)] [.int v, .ref (ad (gMo 0))] h' 0 0)))) : Wm mX9_loan 4 0 0 Q 14 [some (.ref (ad (gMo 0))), some (.int x1), some (.int x2)] [.int xs1, .ref (ad (gMo 0))] (HN h0 ad cs pm) 0 0 := by
  refine rl_if_eq (tgt := 31) dX9_loan_14 (by decide) (fun c_1 => ?_) (fun c_1 => ?_)
  · have H := H.1 c_1
    refine rl_iconst (v := nI 1) dX9_loan_31 (by decide) ?_
    refine rt_putI (k := 7) L.2.1 cfX9 dX9_loan_32 flX9_42 (by decide) rfl (lMo0 L) nzMo (Or.inl rfl) ?_
    refine rl_aload_n dX9_loan_35 rfl rfl ?_
    refine rt_getIv (x := nI 1) (k := 7) cfX9 dX9_loan_36 flX9_42 (by decide) rfl (lMo0 L) nzMo (up2_s) ?_
    refine rl_if_ne (tgt := 51) dX9_loan_39 (by decide) (fun _ => ?_) (fun q => absurd q (by decide))
    refine rl_iconst (v := nI 0) dX9_loan_51 (by decide) ?_
    exact rl_iret dX9_loan_52 rfl (Nat.le_refl 0) (Nat.le_refl 0) H
  · have H := H.2 c_1
    refine rl_iload_n dX9_loan_17 rfl rfl ?_
    refine rl_iconst (v := nI 0) dX9_loan_18 (by decide) ?_
    refine rl_bipush (v := nI 7) dX9_loan_19 (by decide) ?_
    exact rl_callS (As := [.int x2, .int (nI 0), .int (nI 7)]) (rest := [.ref (ad (gMo 0))]) mfX9_in dX9_loan_21 lkX9_48 (by decide) (Nat.le_of_ble_eq_true rfl) (Nat.le_refl _) (Nat.le_refl _) rfl (Nat.le_of_ble_eq_true rfl) rfl rfl (fun Qc k => H Qc (fun v h' w => k (some (.int v)) h' w))
theorem tX9_loan_24 {n : Nat} {ad : Nat → Nat} {h0 : Hp} {cs : Nat → Nat → Int32} {pm : Nat → Nat → Nat} (L : Lay n ad h0) {Q : Nat → Option Value → Hp → Prop} {x1 x2 xs1 : Int32} (H : ((xs1 = 0 → Q 0 (some (.int (nI 0))) (HN h0 ad (up2 cs (gMo 0) 7 (nI 1)) pm)) ∧ (¬ xs1 = 0 → CKi mX9_ofLoan 3 0 0 [some (.ref (ad (gMo 0))), some (.int x1), some (.int x2), none] (HN h0 ad (up2 cs (gMo 0) 7 (nI 0)) pm) (fun v h' => Wm mX9_loan 4 0 0 Q 48 [none, none, none] [.int v] h' 0 0)))) : Wm mX9_loan 4 0 0 Q 24 [some (.ref (ad (gMo 0))), some (.int x1), some (.int x2)] [.int xs1, .ref (ad (gMo 0))] (HN h0 ad cs pm) 0 0 := by
  refine rl_if_eq (tgt := 31) dX9_loan_24 (by decide) (fun c_1 => ?_) (fun c_1 => ?_)
  · have H := H.1 c_1
    refine rl_iconst (v := nI 1) dX9_loan_31 (by decide) ?_
    refine rt_putI (k := 7) L.2.1 cfX9 dX9_loan_32 flX9_42 (by decide) rfl (lMo0 L) nzMo (Or.inl rfl) ?_
    refine rl_aload_n dX9_loan_35 rfl rfl ?_
    refine rt_getIv (x := nI 1) (k := 7) cfX9 dX9_loan_36 flX9_42 (by decide) rfl (lMo0 L) nzMo (up2_s) ?_
    refine rl_if_ne (tgt := 51) dX9_loan_39 (by decide) (fun _ => ?_) (fun q => absurd q (by decide))
    refine rl_iconst (v := nI 0) dX9_loan_51 (by decide) ?_
    exact rl_iret dX9_loan_52 rfl (Nat.le_refl 0) (Nat.le_refl 0) H
  · have H := H.2 c_1
    refine rl_iconst (v := nI 0) dX9_loan_27 (by decide) ?_
    refine rl_goto (tgt := 32) dX9_loan_28 (by decide) ?_
    refine rt_putI (k := 7) L.2.1 cfX9 dX9_loan_32 flX9_42 (by decide) rfl (lMo0 L) nzMo (Or.inl rfl) ?_
    refine rl_aload_n dX9_loan_35 rfl rfl ?_
    refine rt_getIv (x := nI 0) (k := 7) cfX9 dX9_loan_36 flX9_42 (by decide) rfl (lMo0 L) nzMo (up2_s) ?_
    refine rl_if_ne (tgt := 51) dX9_loan_39 (by decide) (fun q => absurd q (by decide)) (fun _ => ?_)
    refine rl_aload_n dX9_loan_42 rfl rfl ?_
    refine rl_iload_n dX9_loan_43 rfl rfl ?_
    refine rl_iload_n dX9_loan_44 rfl rfl ?_
    exact rl_callV (As := [.int x1, .int x2]) (rest := []) mfX9_ofLoan dX9_loan_45 lkX9_149 (lMo0 L).K (by decide) (Nat.le_of_ble_eq_true rfl) (Nat.le_refl _) (Nat.le_refl _) rfl (Nat.le_of_ble_eq_true rfl) rfl rfl (fun Qc k => H Qc (fun v h' w => k (some (.int v)) h' (rl_wk (L' := [none, none, none]) trivial w)))
theorem tX9_loan_48 {n : Nat} {ad : Nat → Nat} {h0 : Hp} {cs : Nat → Nat → Int32} {pm : Nat → Nat → Nat} (L : Lay n ad h0) {Q : Nat → Option Value → Hp → Prop} {xs0 : Int32} (H : Q 0 (some (.int xs0)) (HN h0 ad cs pm)) : Wm mX9_loan 4 0 0 Q 48 [none, none, none] [.int xs0] (HN h0 ad cs pm) 0 0 := by
  refine rl_goto (tgt := 52) dX9_loan_48 (by decide) ?_
  exact rl_iret dX9_loan_52 rfl (Nat.le_refl 0) (Nat.le_refl 0) H
theorem tX9_ofLoan_0 {n : Nat} {ad : Nat → Nat} {h0 : Hp} {cs : Nat → Nat → Int32} {pm : Nat → Nat → Nat} (L : Lay n ad h0) {Q : Nat → Option Value → Hp → Prop} {x1 x2 : Int32} (H : CKi mX9_loanAt 0 0 0 [some (.int x1)] (HN h0 ad cs pm) (fun v h' => Wm mX9_ofLoan 3 0 0 Q 4 [some (.ref (ad (gMo 0))), some (.int x1), some (.int x2), none] [.int v] h' 0 0)) : Wm mX9_ofLoan 3 0 0 Q 0 [some (.ref (ad (gMo 0))), some (.int x1), some (.int x2), none] [] (HN h0 ad cs pm) 0 0 := by
  refine rl_iload_n dX9_ofLoan_0 rfl rfl ?_
  exact rl_callS (As := [.int x1]) (rest := []) mfX9_loanAt dX9_ofLoan_1 lkX9_60 (by decide) (Nat.le_of_ble_eq_true rfl) (Nat.le_refl _) (Nat.le_refl _) rfl (Nat.le_of_ble_eq_true rfl) rfl rfl (fun Qc k => H Qc (fun v h' w => k (some (.int v)) h' w))
theorem tX9_ofLoan_4 {n : Nat} {ad : Nat → Nat} {h0 : Hp} {cs : Nat → Nat → Int32} {pm : Nat → Nat → Nat} (L : Lay n ad h0) {Q : Nat → Option Value → Hp → Prop} {x1 x2 xs0 : Int32} (H : (((nI 5) ≤ x2 → ((¬ x2 = (nI 5) → ((¬ x2 = (nI 6) → CKi mX9_isBack 2 0 0 [some (.ref (ad (gMo 0))), some (.int x1), none] (HN h0 ad cs pm) (fun v h' => Wm mX9_ofLoan 3 0 0 Q 61 [none, none, none, none] [.int v] h' 0 0)) ∧ (x2 = (nI 6) → CKi mX9_restOf 2 0 0 [some (.ref (ad (gMo 0))), some (.int x1), none] (HN h0 ad cs pm) (fun v h' => Wm mX9_ofLoan 3 0 0 Q 53 [none, none, none, none] [.int v] h' 0 0)))) ∧ (x2 = (nI 5) → (∃ j_4 : Nat, xs0 + (nI 1) = nI j_4 ∧ j_4 < 2400 ∧ (CKi mX9_usedOf 1 0 0 [some (.ref (ad (gMo 0))), some (.int (cs (gMo 1) j_4)), some (.int x1)] (HN h0 ad cs pm) (fun v h' => Wm mX9_ofLoan 3 0 0 Q 39 [none, none, none, none] [.int v] h' 0 0)))))) ∧ (¬ (nI 5) ≤ x2 → (∃ j_7 : Nat, xs0 + x2 = nI j_7 ∧ j_7 < 2400 ∧ (Q 0 (some (.int (cs (gMo 1) j_7))) (HN h0 ad cs pm)))))) : Wm mX9_ofLoan 3 0 0 Q 4 [some (.ref (ad (gMo 0))), some (.int x1), some (.int x2), none] [.int xs0] (HN h0 ad cs pm) 0 0 := by
  refine rl_istore_n (L' := [some (.ref (ad (gMo 0))), some (.int x1), some (.int x2), some (.int xs0)]) dX9_ofLoan_4 rfl (Nat.le_of_ble_eq_true rfl) rfl ?_
  refine rl_iload_n dX9_ofLoan_5 rfl rfl ?_
  refine rl_iconst (v := nI 5) dX9_ofLoan_6 (by decide) ?_
  refine rl_icmp_ge (tgt := 21) dX9_ofLoan_7 (by decide) (fun c_1 => ?_) (fun c_1 => ?_)
  · have H := H.1 c_1
    refine rl_iload_n dX9_ofLoan_21 rfl rfl ?_
    refine rl_iconst (v := nI 5) dX9_ofLoan_22 (by decide) ?_
    refine rl_icmp_ne (tgt := 42) dX9_ofLoan_23 (by decide) (fun c_2 => ?_) (fun c_2 => ?_)
    · have H := H.1 c_2
      refine rl_iload_n dX9_ofLoan_42 rfl rfl ?_
      refine rl_bipush (v := nI 6) dX9_ofLoan_43 (by decide) ?_
      refine rl_icmp_ne (tgt := 56) dX9_ofLoan_45 (by decide) (fun c_3 => ?_) (fun c_3 => ?_)
      · have H := H.1 c_3
        refine rl_aload_n dX9_ofLoan_56 rfl rfl ?_
        refine rl_iload_n dX9_ofLoan_57 rfl rfl ?_
        exact rl_callV (As := [.int x1]) (rest := []) mfX9_isBack dX9_ofLoan_58 lkX9_73 (lMo0 L).K (by decide) (Nat.le_of_ble_eq_true rfl) (Nat.le_refl _) (Nat.le_refl _) rfl (Nat.le_of_ble_eq_true rfl) rfl rfl (fun Qc k => H Qc (fun v h' w => k (some (.int v)) h' (rl_wk (L' := [none, none, none, none]) trivial w)))
      · have H := H.2 c_3
        refine rl_aload_n dX9_ofLoan_48 rfl rfl ?_
        refine rl_iload_n dX9_ofLoan_49 rfl rfl ?_
        exact rl_callV (As := [.int x1]) (rest := []) mfX9_restOf dX9_ofLoan_50 lkX9_76 (lMo0 L).K (by decide) (Nat.le_of_ble_eq_true rfl) (Nat.le_refl _) (Nat.le_refl _) rfl (Nat.le_of_ble_eq_true rfl) rfl rfl (fun Qc k => H Qc (fun v h' w => k (some (.int v)) h' (rl_wk (L' := [none, none, none, none]) trivial w)))
    · have H := H.2 c_2
      refine rl_aload_n dX9_ofLoan_26 rfl rfl ?_
      refine rl_aload_n dX9_ofLoan_27 rfl rfl ?_
      refine rt_getP (k := 1) cfX9 dX9_ofLoan_28 flX9_7 (by decide) rfl (lMo0 L) (rMo1 L) naMo ?_
      refine rl_iload_n dX9_ofLoan_31 rfl rfl ?_
      refine rl_iconst (v := nI 1) dX9_ofLoan_32 (by decide) ?_
      refine rl_iadd dX9_ofLoan_33 ?_
      obtain ⟨j_4, e_5, b_6, H⟩ := H
      refine rt_iald (j := j_4) dX9_ofLoan_34 (lMo1 L) nzMo e_5 b_6 (by decide) ?_
      refine rl_iload_n dX9_ofLoan_35 rfl rfl ?_
      exact rl_callV (As := [.int (cs (gMo 1) j_4), .int x1]) (rest := []) mfX9_usedOf dX9_ofLoan_36 lkX9_70 (lMo0 L).K (by decide) (Nat.le_of_ble_eq_true rfl) (Nat.le_refl _) (Nat.le_refl _) rfl (Nat.le_of_ble_eq_true rfl) rfl rfl (fun Qc k => H Qc (fun v h' w => k (some (.int v)) h' (rl_wk (L' := [none, none, none, none]) trivial w)))
  · have H := H.2 c_1
    refine rl_aload_n dX9_ofLoan_10 rfl rfl ?_
    refine rt_getP (k := 1) cfX9 dX9_ofLoan_11 flX9_7 (by decide) rfl (lMo0 L) (rMo1 L) naMo ?_
    refine rl_iload_n dX9_ofLoan_14 rfl rfl ?_
    refine rl_iload_n dX9_ofLoan_15 rfl rfl ?_
    refine rl_iadd dX9_ofLoan_16 ?_
    obtain ⟨j_7, e_8, b_9, H⟩ := H
    refine rt_iald (j := j_7) dX9_ofLoan_17 (lMo1 L) nzMo e_8 b_9 (by decide) ?_
    refine rl_goto (tgt := 69) dX9_ofLoan_18 (by decide) ?_
    exact rl_iret dX9_ofLoan_69 rfl (Nat.le_refl 0) (Nat.le_refl 0) H
theorem tX9_ofLoan_39 {n : Nat} {ad : Nat → Nat} {h0 : Hp} {cs : Nat → Nat → Int32} {pm : Nat → Nat → Nat} (L : Lay n ad h0) {Q : Nat → Option Value → Hp → Prop} {xs0 : Int32} (H : Q 0 (some (.int xs0)) (HN h0 ad cs pm)) : Wm mX9_ofLoan 3 0 0 Q 39 [none, none, none, none] [.int xs0] (HN h0 ad cs pm) 0 0 := by
  refine rl_goto (tgt := 69) dX9_ofLoan_39 (by decide) ?_
  exact rl_iret dX9_ofLoan_69 rfl (Nat.le_refl 0) (Nat.le_refl 0) H
theorem tX9_ofLoan_53 {n : Nat} {ad : Nat → Nat} {h0 : Hp} {cs : Nat → Nat → Int32} {pm : Nat → Nat → Nat} (L : Lay n ad h0) {Q : Nat → Option Value → Hp → Prop} {xs0 : Int32} (H : Q 0 (some (.int xs0)) (HN h0 ad cs pm)) : Wm mX9_ofLoan 3 0 0 Q 53 [none, none, none, none] [.int xs0] (HN h0 ad cs pm) 0 0 := by
  refine rl_goto (tgt := 69) dX9_ofLoan_53 (by decide) ?_
  exact rl_iret dX9_ofLoan_69 rfl (Nat.le_refl 0) (Nat.le_refl 0) H
theorem tX9_ofLoan_61 {n : Nat} {ad : Nat → Nat} {h0 : Hp} {cs : Nat → Nat → Int32} {pm : Nat → Nat → Nat} (L : Lay n ad h0) {Q : Nat → Option Value → Hp → Prop} {xs0 : Int32} (H : ((xs0 = 0 → Q 0 (some (.int (nI 0))) (HN h0 ad cs pm)) ∧ (¬ xs0 = 0 → Q 0 (some (.int (nI 1))) (HN h0 ad cs pm)))) : Wm mX9_ofLoan 3 0 0 Q 61 [none, none, none, none] [.int xs0] (HN h0 ad cs pm) 0 0 := by
  refine rl_if_eq (tgt := 68) dX9_ofLoan_61 (by decide) (fun c_1 => ?_) (fun c_1 => ?_)
  · have H := H.1 c_1
    refine rl_iconst (v := nI 0) dX9_ofLoan_68 (by decide) ?_
    exact rl_iret dX9_ofLoan_69 rfl (Nat.le_refl 0) (Nat.le_refl 0) H
  · have H := H.2 c_1
    refine rl_iconst (v := nI 1) dX9_ofLoan_64 (by decide) ?_
    refine rl_goto (tgt := 69) dX9_ofLoan_65 (by decide) ?_
    exact rl_iret dX9_ofLoan_69 rfl (Nat.le_refl 0) (Nat.le_refl 0) H
theorem tX9_helpers_0 {n : Nat} {ad : Nat → Nat} {h0 : Hp} {cs : Nat → Nat → Int32} {pm : Nat → Nat → Nat} (L : Lay n ad h0) {Q : Nat → Option Value → Hp → Prop} {x1 x2 x3 : Int32} (H : CKi mX9_isSite 1 0 0 [some (.ref (ad (gMo 0))), some (.int x1)] (HN h0 ad cs pm) (fun v h' => Wm mX9_helpers 5 0 0 Q 6 [some (.ref (ad (gMo 0))), some (.int x1), some (.int x2), some (.int x3), none, none, none, none, none, none] [.int v, .ref (ad (gMo 0))] h' 0 0)) : Wm mX9_helpers 5 0 0 Q 0 [some (.ref (ad (gMo 0))), some (.int x1), some (.int x2), some (.int x3), none, none, none, none, none, none] [] (HN h0 ad cs pm) 0 0 := by
  refine rl_aload_n dX9_helpers_0 rfl rfl ?_
  refine rl_aload_n dX9_helpers_1 rfl rfl ?_
  refine rl_iload_n dX9_helpers_2 rfl rfl ?_
  exact rl_callV (As := [.int x1]) (rest := [.ref (ad (gMo 0))]) mfX9_isSite dX9_helpers_3 lkX9_96 (lMo0 L).K (by decide) (Nat.le_of_ble_eq_true rfl) (Nat.le_refl _) (Nat.le_refl _) rfl (Nat.le_of_ble_eq_true rfl) rfl rfl (fun Qc k => H Qc (fun v h' w => k (some (.int v)) h' w))
theorem tX9_helpers_6 {n : Nat} {ad : Nat → Nat} {h0 : Hp} {cs : Nat → Nat → Int32} {pm : Nat → Nat → Nat} (L : Lay n ad h0) {Q : Nat → Option Value → Hp → Prop} {x1 x2 x3 xs1 : Int32} (H : ((xs1 = 0 → Q 0 (some (.int (nI 0))) (HN h0 ad (up2 cs (gMo 0) 7 (nI 1)) pm)) ∧ (¬ xs1 = 0 → CKi mX9_in 0 0 0 [some (.int x2), some (.int (nI 0)), some (.int (nI 1))] (HN h0 ad cs pm) (fun v h' => Wm mX9_helpers 5 0 0 Q 15 [some (.ref (ad (gMo 0))), some (.int x1), some (.int x2), some (.int x3), none, none, none, none, none, none] [.int v, .ref (ad (gMo 0))] h' 0 0)))) : Wm mX9_helpers 5 0 0 Q 6 [some (.ref (ad (gMo 0))), some (.int x1), some (.int x2), some (.int x3), none, none, none, none, none, none] [.int xs1, .ref (ad (gMo 0))] (HN h0 ad cs pm) 0 0 := by
  refine rl_if_eq (tgt := 18) dX9_helpers_6 (by decide) (fun c_1 => ?_) (fun c_1 => ?_)
  · have H := H.1 c_1
    refine rl_iconst (v := nI 1) dX9_helpers_18 (by decide) ?_
    refine rl_goto (tgt := 38) dX9_helpers_19 (by decide) ?_
    refine rt_putI (k := 7) L.2.1 cfX9 dX9_helpers_38 flX9_42 (by decide) rfl (lMo0 L) nzMo (Or.inl rfl) ?_
    refine rl_aload_n dX9_helpers_41 rfl rfl ?_
    refine rt_getIv (x := nI 1) (k := 7) cfX9 dX9_helpers_42 flX9_42 (by decide) rfl (lMo0 L) nzMo (up2_s) ?_
    refine rl_if_eq (tgt := 50) dX9_helpers_45 (by decide) (fun q => absurd q (by decide)) (fun _ => ?_)
    refine rl_iconst (v := nI 0) dX9_helpers_48 (by decide) ?_
    exact rl_iret dX9_helpers_49 rfl (Nat.le_refl 0) (Nat.le_refl 0) H
  · have H := H.2 c_1
    refine rl_iload_n dX9_helpers_9 rfl rfl ?_
    refine rl_iconst (v := nI 0) dX9_helpers_10 (by decide) ?_
    refine rl_iconst (v := nI 1) dX9_helpers_11 (by decide) ?_
    exact rl_callS (As := [.int x2, .int (nI 0), .int (nI 1)]) (rest := [.ref (ad (gMo 0))]) mfX9_in dX9_helpers_12 lkX9_48 (by decide) (Nat.le_of_ble_eq_true rfl) (Nat.le_refl _) (Nat.le_refl _) rfl (Nat.le_of_ble_eq_true rfl) rfl rfl (fun Qc k => H Qc (fun v h' w => k (some (.int v)) h' w))
theorem tX9_helpers_15 {n : Nat} {ad : Nat → Nat} {h0 : Hp} {cs : Nat → Nat → Int32} {pm : Nat → Nat → Nat} (L : Lay n ad h0) {Q : Nat → Option Value → Hp → Prop} {x1 x2 x3 xs1 : Int32} (H : ((¬ xs1 = 0 → CKi mX9_in 0 0 0 [some (.int x3), some (.int (nI 0)), some (.int (nI 30000))] (HN h0 ad cs pm) (fun v h' => Wm mX9_helpers 5 0 0 Q 30 [some (.ref (ad (gMo 0))), some (.int x1), some (.int x2), some (.int x3), none, none, none, none, none, none] [.int v, .ref (ad (gMo 0))] h' 0 0)) ∧ (xs1 = 0 → Q 0 (some (.int (nI 0))) (HN h0 ad (up2 cs (gMo 0) 7 (nI 1)) pm)))) : Wm mX9_helpers 5 0 0 Q 15 [some (.ref (ad (gMo 0))), some (.int x1), some (.int x2), some (.int x3), none, none, none, none, none, none] [.int xs1, .ref (ad (gMo 0))] (HN h0 ad cs pm) 0 0 := by
  refine rl_if_ne (tgt := 22) dX9_helpers_15 (by decide) (fun c_1 => ?_) (fun c_1 => ?_)
  · have H := H.1 c_1
    refine rl_iload_n dX9_helpers_22 rfl rfl ?_
    refine rl_iconst (v := nI 0) dX9_helpers_23 (by decide) ?_
    refine rl_sipush (v := nI 30000) dX9_helpers_24 (by decide) ?_
    exact rl_callS (As := [.int x3, .int (nI 0), .int (nI 30000)]) (rest := [.ref (ad (gMo 0))]) mfX9_in dX9_helpers_27 lkX9_48 (by decide) (Nat.le_of_ble_eq_true rfl) (Nat.le_refl _) (Nat.le_refl _) rfl (Nat.le_of_ble_eq_true rfl) rfl rfl (fun Qc k => H Qc (fun v h' w => k (some (.int v)) h' w))
  · have H := H.2 c_1
    refine rl_iconst (v := nI 1) dX9_helpers_18 (by decide) ?_
    refine rl_goto (tgt := 38) dX9_helpers_19 (by decide) ?_
    refine rt_putI (k := 7) L.2.1 cfX9 dX9_helpers_38 flX9_42 (by decide) rfl (lMo0 L) nzMo (Or.inl rfl) ?_
    refine rl_aload_n dX9_helpers_41 rfl rfl ?_
    refine rt_getIv (x := nI 1) (k := 7) cfX9 dX9_helpers_42 flX9_42 (by decide) rfl (lMo0 L) nzMo (up2_s) ?_
    refine rl_if_eq (tgt := 50) dX9_helpers_45 (by decide) (fun q => absurd q (by decide)) (fun _ => ?_)
    refine rl_iconst (v := nI 0) dX9_helpers_48 (by decide) ?_
    exact rl_iret dX9_helpers_49 rfl (Nat.le_refl 0) (Nat.le_refl 0) H
theorem tX9_helpers_30 {n : Nat} {ad : Nat → Nat} {h0 : Hp} {cs : Nat → Nat → Int32} {pm : Nat → Nat → Nat} (L : Lay n ad h0) {Q : Nat → Option Value → Hp → Prop} {x1 x2 x3 xs1 : Int32} (H : ((¬ xs1 = 0 → CKi mX9_allRights 4 0 0 [some (.ref (ad (gMo 0))), some (.int x1), some (.int x2)] (HN h0 ad (up2 cs (gMo 0) 7 (nI 0)) pm) (fun v h' => Wm mX9_helpers 5 0 0 Q 56 [some (.ref (ad (gMo 0))), some (.int x1), some (.int x2), some (.int x3), none, none, none, none, none, none] [.int v] h' 0 0)) ∧ (xs1 = 0 → Q 0 (some (.int (nI 0))) (HN h0 ad (up2 cs (gMo 0) 7 (nI 2)) pm)))) : Wm mX9_helpers 5 0 0 Q 30 [some (.ref (ad (gMo 0))), some (.int x1), some (.int x2), some (.int x3), none, none, none, none, none, none] [.int xs1, .ref (ad (gMo 0))] (HN h0 ad cs pm) 0 0 := by
  refine rl_if_ne (tgt := 37) dX9_helpers_30 (by decide) (fun c_1 => ?_) (fun c_1 => ?_)
  · have H := H.1 c_1
    refine rl_iconst (v := nI 0) dX9_helpers_37 (by decide) ?_
    refine rt_putI (k := 7) L.2.1 cfX9 dX9_helpers_38 flX9_42 (by decide) rfl (lMo0 L) nzMo (Or.inl rfl) ?_
    refine rl_aload_n dX9_helpers_41 rfl rfl ?_
    refine rt_getIv (x := nI 0) (k := 7) cfX9 dX9_helpers_42 flX9_42 (by decide) rfl (lMo0 L) nzMo (up2_s) ?_
    refine rl_if_eq (tgt := 50) dX9_helpers_45 (by decide) (fun _ => ?_) (fun q => absurd q (by decide))
    refine rl_aload_n dX9_helpers_50 rfl rfl ?_
    refine rl_iload_n dX9_helpers_51 rfl rfl ?_
    refine rl_iload_n dX9_helpers_52 rfl rfl ?_
    exact rl_callV (As := [.int x1, .int x2]) (rest := []) mfX9_allRights dX9_helpers_53 lkX9_85 (lMo0 L).K (by decide) (Nat.le_of_ble_eq_true rfl) (Nat.le_refl _) (Nat.le_refl _) rfl (Nat.le_of_ble_eq_true rfl) rfl rfl (fun Qc k => H Qc (fun v h' w => k (some (.int v)) h' w))
  · have H := H.2 c_1
    refine rl_iconst (v := nI 2) dX9_helpers_33 (by decide) ?_
    refine rl_goto (tgt := 38) dX9_helpers_34 (by decide) ?_
    refine rt_putI (k := 7) L.2.1 cfX9 dX9_helpers_38 flX9_42 (by decide) rfl (lMo0 L) nzMo (Or.inl rfl) ?_
    refine rl_aload_n dX9_helpers_41 rfl rfl ?_
    refine rt_getIv (x := nI 2) (k := 7) cfX9 dX9_helpers_42 flX9_42 (by decide) rfl (lMo0 L) nzMo (up2_s) ?_
    refine rl_if_eq (tgt := 50) dX9_helpers_45 (by decide) (fun q => absurd q (by decide)) (fun _ => ?_)
    refine rl_iconst (v := nI 0) dX9_helpers_48 (by decide) ?_
    exact rl_iret dX9_helpers_49 rfl (Nat.le_refl 0) (Nat.le_refl 0) H
theorem tX9_helpers_56 {n : Nat} {ad : Nat → Nat} {h0 : Hp} {cs : Nat → Nat → Int32} {pm : Nat → Nat → Nat} (L : Lay n ad h0) {Q : Nat → Option Value → Hp → Prop} {x1 x2 x3 xs0 : Int32} (H : Wm mX9_helpers 5 0 0 Q 66 [some (.ref (ad (gMo 0))), none, some (.int x2), some (.int x3), some (.int xs0), some (.int ((nI 1) <<< (x1 &&& 31))), some (.int (nI 0)), none, none, none] [] (HN h0 ad cs pm) 0 0) : Wm mX9_helpers 5 0 0 Q 56 [some (.ref (ad (gMo 0))), some (.int x1), some (.int x2), some (.int x3), none, none, none, none, none, none] [.int xs0] (HN h0 ad cs pm) 0 0 := by
  refine rl_istore (L' := [some (.ref (ad (gMo 0))), some (.int x1), some (.int x2), some (.int x3), some (.int xs0), none, none, none, none, none]) dX9_helpers_56 (Nat.le_of_ble_eq_true rfl) rfl ?_
  refine rl_iconst (v := nI 1) dX9_helpers_58 (by decide) ?_
  refine rl_iload_n dX9_helpers_59 rfl rfl ?_
  refine rl_ishl dX9_helpers_60 ?_
  refine rl_istore (L' := [some (.ref (ad (gMo 0))), some (.int x1), some (.int x2), some (.int x3), some (.int xs0), some (.int ((nI 1) <<< (x1 &&& 31))), none, none, none, none]) dX9_helpers_61 (Nat.le_of_ble_eq_true rfl) rfl ?_
  refine rl_iconst (v := nI 0) dX9_helpers_63 (by decide) ?_
  refine rl_istore (L' := [some (.ref (ad (gMo 0))), some (.int x1), some (.int x2), some (.int x3), some (.int xs0), some (.int ((nI 1) <<< (x1 &&& 31))), some (.int (nI 0)), none, none, none]) dX9_helpers_64 (Nat.le_of_ble_eq_true rfl) rfl ?_
  refine rl_wk (L' := [some (.ref (ad (gMo 0))), none, some (.int x2), some (.int x3), some (.int xs0), some (.int ((nI 1) <<< (x1 &&& 31))), some (.int (nI 0)), none, none, none]) ⟨rfl, ⟨rfl, ⟨rfl, ⟨rfl, ⟨rfl, ⟨rfl, trivial⟩⟩⟩⟩⟩⟩ ?_
  exact H
theorem tX9_helpers_66 {n : Nat} {ad : Nat → Nat} {h0 : Hp} {cs : Nat → Nat → Int32} {pm : Nat → Nat → Nat} (L : Lay n ad h0) {Q : Nat → Option Value → Hp → Prop} {x2 x3 x4 x5 x6 : Int32} (H : (((cs (gMo 0) 0) ≤ x6 → Q 0 (some (.int (-1))) (HN h0 ad cs pm)) ∧ (¬ (cs (gMo 0) 0) ≤ x6 → ((x4 < x3 → Wm mX9_helpers 5 0 0 Q 90 [some (.ref (ad (gMo 0))), none, some (.int x2), some (.int x3), some (.int x4), some (.int x5), some (.int x6), some (.int (-1)), some (.int (nI 0)), none] [] (HN h0 ad cs pm) 0 0) ∧ (¬ x4 < x3 → Q 0 (some (.int x6)) (HN h0 ad cs pm)))))) : Wm mX9_helpers 5 0 0 Q 66 [some (.ref (ad (gMo 0))), none, some (.int x2), some (.int x3), some (.int x4), some (.int x5), some (.int x6), none, none, none] [] (HN h0 ad cs pm) 0 0 := by
  refine rl_iload dX9_helpers_66 rfl ?_
  refine rl_aload_n dX9_helpers_68 rfl rfl ?_
  refine rt_getI (k := 0) cfX9 dX9_helpers_69 flX9_34 (by decide) rfl (lMo0 L) nzMo ?_
  refine rl_icmp_ge (tgt := 203) dX9_helpers_72 (by decide) (fun c_1 => ?_) (fun c_1 => ?_)
  · have H := H.1 c_1
    refine rl_iconst (v := -1) dX9_helpers_203 (by decide) ?_
    exact rl_iret dX9_helpers_204 rfl (Nat.le_refl 0) (Nat.le_refl 0) H
  · have H := H.2 c_1
    refine rl_iload dX9_helpers_75 rfl ?_
    refine rl_iload_n dX9_helpers_77 rfl rfl ?_
    refine rl_icmp_lt (tgt := 84) dX9_helpers_78 (by decide) (fun c_2 => ?_) (fun c_2 => ?_)
    · have H := H.1 c_2
      refine rl_iconst (v := -1) dX9_helpers_84 (by decide) ?_
      refine rl_istore (L' := [some (.ref (ad (gMo 0))), none, some (.int x2), some (.int x3), some (.int x4), some (.int x5), some (.int x6), some (.int (-1)), none, none]) dX9_helpers_85 (Nat.le_of_ble_eq_true rfl) rfl ?_
      refine rl_iconst (v := nI 0) dX9_helpers_87 (by decide) ?_
      refine rl_istore (L' := [some (.ref (ad (gMo 0))), none, some (.int x2), some (.int x3), some (.int x4), some (.int x5), some (.int x6), some (.int (-1)), some (.int (nI 0)), none]) dX9_helpers_88 (Nat.le_of_ble_eq_true rfl) rfl ?_
      exact H
    · have H := H.2 c_2
      refine rl_iload dX9_helpers_81 rfl ?_
      exact rl_iret dX9_helpers_83 rfl (Nat.le_refl 0) (Nat.le_refl 0) H
theorem tX9_helpers_90 {n : Nat} {ad : Nat → Nat} {h0 : Hp} {cs : Nat → Nat → Int32} {pm : Nat → Nat → Nat} (L : Lay n ad h0) {Q : Nat → Option Value → Hp → Prop} {x2 x3 x4 x5 x6 x7 x8 : Int32} (H : (((cs (gMo 0) 0) ≤ x8 → ((0 ≤ x7 → CKi mX9_ownRights 3 0 0 [some (.ref (ad (gMo 0))), some (.int x7), some (.int x2), none, none, none, none, none] (HN h0 ad cs pm) (fun v h' => Wm mX9_helpers 5 0 0 Q 176 [some (.ref (ad (gMo 0))), none, some (.int x2), some (.int x3), none, some (.int x5), some (.int x6), some (.int x7), none, none] [.int v, .int x4] h' 0 0)) ∧ (¬ 0 ≤ x7 → Wm mX9_helpers 5 0 0 Q 176 [some (.ref (ad (gMo 0))), none, some (.int x2), some (.int x3), none, some (.int x5), some (.int x6), some (.int x7), none, none] [.int (nI 0), .int x4] (HN h0 ad cs pm) 0 0))) ∧ (¬ (cs (gMo 0) 0) ≤ x8 → ((¬ ((x5 >>> (x8 &&& 31)) &&& (nI 1)) = 0 → Wm mX9_helpers 5 0 0 Q 148 [some (.ref (ad (gMo 0))), none, some (.int x2), some (.int x3), some (.int x4), some (.int x5), some (.int x6), some (.int x7), some (.int x8), none] [] (HN h0 ad cs pm) 0 0) ∧ (((x5 >>> (x8 &&& 31)) &&& (nI 1)) = 0 → ((x7 < 0 → Wm mX9_helpers 5 0 0 Q 143 [some (.ref (ad (gMo 0))), none, some (.int x2), some (.int x3), some (.int x4), some (.int x5), some (.int x6), none, some (.int x8), none] [] (HN h0 ad cs pm) 0 0) ∧ (¬ x7 < 0 → CKi mX9_ownRights 3 0 0 [some (.ref (ad (gMo 0))), some (.int x8), some (.int x2), none, none, none, none, none] (HN h0 ad cs pm) (fun v h' => Wm mX9_helpers 5 0 0 Q 133 [some (.ref (ad (gMo 0))), none, some (.int x2), some (.int x3), some (.int x4), some (.int x5), some (.int x6), some (.int x7), some (.int x8), none] [.int v] h' 0 0)))))))) : Wm mX9_helpers 5 0 0 Q 90 [some (.ref (ad (gMo 0))), none, some (.int x2), some (.int x3), some (.int x4), some (.int x5), some (.int x6), some (.int x7), some (.int x8), none] [] (HN h0 ad cs pm) 0 0 := by
  refine rl_iload dX9_helpers_90 rfl ?_
  refine rl_aload_n dX9_helpers_92 rfl rfl ?_
  refine rt_getI (k := 0) cfX9 dX9_helpers_93 flX9_34 (by decide) rfl (lMo0 L) nzMo ?_
  refine rl_icmp_ge (tgt := 158) dX9_helpers_96 (by decide) (fun c_1 => ?_) (fun c_1 => ?_)
  · have H := H.1 c_1
    refine rl_iload dX9_helpers_158 rfl ?_
    refine rl_iload dX9_helpers_160 rfl ?_
    refine rl_if_ge (tgt := 169) dX9_helpers_162 (by decide) (fun c_2 => ?_) (fun c_2 => ?_)
    · have H := H.1 c_2
      refine rl_aload_n dX9_helpers_169 rfl rfl ?_
      refine rl_iload dX9_helpers_170 rfl ?_
      refine rl_iload_n dX9_helpers_172 rfl rfl ?_
      exact rl_callV (As := [.int x7, .int x2]) (rest := [.int x4]) mfX9_ownRights dX9_helpers_173 lkX9_79 (lMo0 L).K (by decide) (Nat.le_of_ble_eq_true rfl) (Nat.le_refl _) (Nat.le_refl _) rfl (Nat.le_of_ble_eq_true rfl) rfl rfl (fun Qc k => H Qc (fun v h' w => k (some (.int v)) h' (rl_wk (L' := [some (.ref (ad (gMo 0))), none, some (.int x2), some (.int x3), none, some (.int x5), some (.int x6), some (.int x7), none, none]) ⟨rfl, ⟨rfl, ⟨rfl, ⟨rfl, ⟨rfl, ⟨rfl, trivial⟩⟩⟩⟩⟩⟩ w)))
    · have H := H.2 c_2
      refine rl_iconst (v := nI 0) dX9_helpers_165 (by decide) ?_
      refine rl_goto (tgt := 176) dX9_helpers_166 (by decide) ?_
      refine rl_wk (L' := [some (.ref (ad (gMo 0))), none, some (.int x2), some (.int x3), none, some (.int x5), some (.int x6), some (.int x7), none, none]) ⟨rfl, ⟨rfl, ⟨rfl, ⟨rfl, ⟨rfl, ⟨rfl, trivial⟩⟩⟩⟩⟩⟩ ?_
      exact H
  · have H := H.2 c_1
    refine rl_iload dX9_helpers_99 rfl ?_
    refine rl_iload dX9_helpers_101 rfl ?_
    refine rl_ishr dX9_helpers_103 ?_
    refine rl_iconst (v := nI 1) dX9_helpers_104 (by decide) ?_
    refine rl_iand dX9_helpers_105 ?_
    refine rl_if_ne (tgt := 113) dX9_helpers_106 (by decide) (fun c_3 => ?_) (fun c_3 => ?_)
    · have H := H.1 c_3
      refine rl_iconst (v := nI 0) dX9_helpers_113 (by decide) ?_
      refine rl_istore (L' := [some (.ref (ad (gMo 0))), none, some (.int x2), some (.int x3), some (.int x4), some (.int x5), some (.int x6), some (.int x7), some (.int x8), some (.int (nI 0))]) dX9_helpers_114 (Nat.le_of_ble_eq_true rfl) rfl ?_
      refine rl_iload dX9_helpers_116 rfl ?_
      refine rl_if_eq (tgt := 148) dX9_helpers_118 (by decide) (fun _ => ?_) (fun q => absurd q (by decide))
      refine rl_wk (L' := [some (.ref (ad (gMo 0))), none, some (.int x2), some (.int x3), some (.int x4), some (.int x5), some (.int x6), some (.int x7), some (.int x8), none]) ⟨rfl, ⟨rfl, ⟨rfl, ⟨rfl, ⟨rfl, ⟨rfl, ⟨rfl, ⟨rfl, trivial⟩⟩⟩⟩⟩⟩⟩⟩ ?_
      exact H
    · have H := H.2 c_3
      refine rl_iconst (v := nI 1) dX9_helpers_109 (by decide) ?_
      refine rl_goto (tgt := 114) dX9_helpers_110 (by decide) ?_
      refine rl_istore (L' := [some (.ref (ad (gMo 0))), none, some (.int x2), some (.int x3), some (.int x4), some (.int x5), some (.int x6), some (.int x7), some (.int x8), some (.int (nI 1))]) dX9_helpers_114 (Nat.le_of_ble_eq_true rfl) rfl ?_
      refine rl_iload dX9_helpers_116 rfl ?_
      refine rl_if_eq (tgt := 148) dX9_helpers_118 (by decide) (fun q => absurd q (by decide)) (fun _ => ?_)
      refine rl_iload dX9_helpers_121 rfl ?_
      refine rl_if_lt (tgt := 143) dX9_helpers_123 (by decide) (fun c_4 => ?_) (fun c_4 => ?_)
      · have H := H.1 c_4
        refine rl_wk (L' := [some (.ref (ad (gMo 0))), none, some (.int x2), some (.int x3), some (.int x4), some (.int x5), some (.int x6), none, some (.int x8), none]) ⟨rfl, ⟨rfl, ⟨rfl, ⟨rfl, ⟨rfl, ⟨rfl, ⟨rfl, trivial⟩⟩⟩⟩⟩⟩⟩ ?_
        exact H
      · have H := H.2 c_4
        refine rl_aload_n dX9_helpers_126 rfl rfl ?_
        refine rl_iload dX9_helpers_127 rfl ?_
        refine rl_iload_n dX9_helpers_129 rfl rfl ?_
        exact rl_callV (As := [.int x8, .int x2]) (rest := []) mfX9_ownRights dX9_helpers_130 lkX9_79 (lMo0 L).K (by decide) (Nat.le_of_ble_eq_true rfl) (Nat.le_refl _) (Nat.le_refl _) rfl (Nat.le_of_ble_eq_true rfl) rfl rfl (fun Qc k => H Qc (fun v h' w => k (some (.int v)) h' (rl_wk (L' := [some (.ref (ad (gMo 0))), none, some (.int x2), some (.int x3), some (.int x4), some (.int x5), some (.int x6), some (.int x7), some (.int x8), none]) ⟨rfl, ⟨rfl, ⟨rfl, ⟨rfl, ⟨rfl, ⟨rfl, ⟨rfl, ⟨rfl, trivial⟩⟩⟩⟩⟩⟩⟩⟩ w)))
theorem tX9_helpers_133 {n : Nat} {ad : Nat → Nat} {h0 : Hp} {cs : Nat → Nat → Int32} {pm : Nat → Nat → Nat} (L : Lay n ad h0) {Q : Nat → Option Value → Hp → Prop} {x2 x3 x4 x5 x6 x7 x8 xs0 : Int32} (H : CKi mX9_ownRights 3 0 0 [some (.ref (ad (gMo 0))), some (.int x7), some (.int x2), none, none, none, none, none] (HN h0 ad cs pm) (fun v h' => Wm mX9_helpers 5 0 0 Q 140 [some (.ref (ad (gMo 0))), none, some (.int x2), some (.int x3), some (.int x4), some (.int x5), some (.int x6), some (.int x7), some (.int x8), none] [.int v, .int xs0] h' 0 0)) : Wm mX9_helpers 5 0 0 Q 133 [some (.ref (ad (gMo 0))), none, some (.int x2), some (.int x3), some (.int x4), some (.int x5), some (.int x6), some (.int x7), some (.int x8), none] [.int xs0] (HN h0 ad cs pm) 0 0 := by
  refine rl_aload_n dX9_helpers_133 rfl rfl ?_
  refine rl_iload dX9_helpers_134 rfl ?_
  refine rl_iload_n dX9_helpers_136 rfl rfl ?_
  exact rl_callV (As := [.int x7, .int x2]) (rest := [.int xs0]) mfX9_ownRights dX9_helpers_137 lkX9_79 (lMo0 L).K (by decide) (Nat.le_of_ble_eq_true rfl) (Nat.le_refl _) (Nat.le_refl _) rfl (Nat.le_of_ble_eq_true rfl) rfl rfl (fun Qc k => H Qc (fun v h' w => k (some (.int v)) h' w))
theorem tX9_helpers_140 {n : Nat} {ad : Nat → Nat} {h0 : Hp} {cs : Nat → Nat → Int32} {pm : Nat → Nat → Nat} (L : Lay n ad h0) {Q : Nat → Option Value → Hp → Prop} {x2 x3 x4 x5 x6 x7 x8 xs0 xs1 : Int32} (H : ((xs0 ≤ xs1 → Wm mX9_helpers 5 0 0 Q 148 [some (.ref (ad (gMo 0))), none, some (.int x2), some (.int x3), some (.int x4), some (.int x5), some (.int x6), some (.int x7), some (.int x8), none] [] (HN h0 ad cs pm) 0 0) ∧ (¬ xs0 ≤ xs1 → Wm mX9_helpers 5 0 0 Q 143 [some (.ref (ad (gMo 0))), none, some (.int x2), some (.int x3), some (.int x4), some (.int x5), some (.int x6), none, some (.int x8), none] [] (HN h0 ad cs pm) 0 0))) : Wm mX9_helpers 5 0 0 Q 140 [some (.ref (ad (gMo 0))), none, some (.int x2), some (.int x3), some (.int x4), some (.int x5), some (.int x6), some (.int x7), some (.int x8), none] [.int xs1, .int xs0] (HN h0 ad cs pm) 0 0 := by
  refine rl_icmp_le (tgt := 148) dX9_helpers_140 (by decide) (fun c_1 => ?_) (fun c_1 => ?_)
  · have H := H.1 c_1
    exact H
  · have H := H.2 c_1
    refine rl_wk (L' := [some (.ref (ad (gMo 0))), none, some (.int x2), some (.int x3), some (.int x4), some (.int x5), some (.int x6), none, some (.int x8), none]) ⟨rfl, ⟨rfl, ⟨rfl, ⟨rfl, ⟨rfl, ⟨rfl, ⟨rfl, trivial⟩⟩⟩⟩⟩⟩⟩ ?_
    exact H
theorem tX9_helpers_143 {n : Nat} {ad : Nat → Nat} {h0 : Hp} {cs : Nat → Nat → Int32} {pm : Nat → Nat → Nat} (L : Lay n ad h0) {Q : Nat → Option Value → Hp → Prop} {x2 x3 x4 x5 x6 x8 : Int32} (H : Wm mX9_helpers 5 0 0 Q 90 [some (.ref (ad (gMo 0))), none, some (.int x2), some (.int x3), some (.int x4), some (.int x5), some (.int x6), some (.int x8), some (.int (x8 + nI 1)), none] [] (HN h0 ad cs pm) 0 0) : Wm mX9_helpers 5 0 0 Q 143 [some (.ref (ad (gMo 0))), none, some (.int x2), some (.int x3), some (.int x4), some (.int x5), some (.int x6), none, some (.int x8), none] [] (HN h0 ad cs pm) 0 0 := by
  refine rl_iload dX9_helpers_143 rfl ?_
  refine rl_goto (tgt := 150) dX9_helpers_145 (by decide) ?_
  refine rl_istore (L' := [some (.ref (ad (gMo 0))), none, some (.int x2), some (.int x3), some (.int x4), some (.int x5), some (.int x6), some (.int x8), some (.int x8), none]) dX9_helpers_150 (Nat.le_of_ble_eq_true rfl) rfl ?_
  refine rl_iinc (v := x8 + nI 1) (L' := [some (.ref (ad (gMo 0))), none, some (.int x2), some (.int x3), some (.int x4), some (.int x5), some (.int x6), some (.int x8), some (.int (x8 + nI 1)), none]) dX9_helpers_152 rfl (congrArg (fun z => x8 + z) (by decide)) (Nat.le_of_ble_eq_true rfl) rfl ?_
  refine rl_goto (tgt := 90) dX9_helpers_155 (by decide) ?_
  exact H
theorem tX9_helpers_148 {n : Nat} {ad : Nat → Nat} {h0 : Hp} {cs : Nat → Nat → Int32} {pm : Nat → Nat → Nat} (L : Lay n ad h0) {Q : Nat → Option Value → Hp → Prop} {x2 x3 x4 x5 x6 x7 x8 : Int32} (H : Wm mX9_helpers 5 0 0 Q 90 [some (.ref (ad (gMo 0))), none, some (.int x2), some (.int x3), some (.int x4), some (.int x5), some (.int x6), some (.int x7), some (.int (x8 + nI 1)), none] [] (HN h0 ad cs pm) 0 0) : Wm mX9_helpers 5 0 0 Q 148 [some (.ref (ad (gMo 0))), none, some (.int x2), some (.int x3), some (.int x4), some (.int x5), some (.int x6), some (.int x7), some (.int x8), none] [] (HN h0 ad cs pm) 0 0 := by
  refine rl_iload dX9_helpers_148 rfl ?_
  refine rl_istore (L' := [some (.ref (ad (gMo 0))), none, some (.int x2), some (.int x3), some (.int x4), some (.int x5), some (.int x6), some (.int x7), some (.int x8), none]) dX9_helpers_150 (Nat.le_of_ble_eq_true rfl) rfl ?_
  refine rl_iinc (v := x8 + nI 1) (L' := [some (.ref (ad (gMo 0))), none, some (.int x2), some (.int x3), some (.int x4), some (.int x5), some (.int x6), some (.int x7), some (.int (x8 + nI 1)), none]) dX9_helpers_152 rfl (congrArg (fun z => x8 + z) (by decide)) (Nat.le_of_ble_eq_true rfl) rfl ?_
  refine rl_goto (tgt := 90) dX9_helpers_155 (by decide) ?_
  exact H
theorem tX9_helpers_176 {n : Nat} {ad : Nat → Nat} {h0 : Hp} {cs : Nat → Nat → Int32} {pm : Nat → Nat → Nat} (L : Lay n ad h0) {Q : Nat → Option Value → Hp → Prop} {x2 x3 x5 x6 x7 xs0 xs1 : Int32} (H : ((0 ≤ x7 → Wm mX9_helpers 5 0 0 Q 66 [some (.ref (ad (gMo 0))), none, some (.int x2), some (.int x3), some (.int (xs0 + xs1)), some (.int (x5 ||| ((nI 1) <<< (x7 &&& 31)))), some (.int (x6 + nI 1)), none, none, none] [] (HN h0 ad cs pm) 0 0) ∧ (¬ 0 ≤ x7 → Wm mX9_helpers 5 0 0 Q 66 [some (.ref (ad (gMo 0))), none, some (.int x2), some (.int x3), some (.int (xs0 + xs1)), some (.int (x5 ||| (nI 0))), some (.int (x6 + nI 1)), none, none, none] [] (HN h0 ad cs pm) 0 0))) : Wm mX9_helpers 5 0 0 Q 176 [some (.ref (ad (gMo 0))), none, some (.int x2), some (.int x3), none, some (.int x5), some (.int x6), some (.int x7), none, none] [.int xs1, .int xs0] (HN h0 ad cs pm) 0 0 := by
  refine rl_iadd dX9_helpers_176 ?_
  refine rl_istore (L' := [some (.ref (ad (gMo 0))), none, some (.int x2), some (.int x3), some (.int (xs0 + xs1)), some (.int x5), some (.int x6), some (.int x7), none, none]) dX9_helpers_177 (Nat.le_of_ble_eq_true rfl) rfl ?_
  refine rl_iload dX9_helpers_179 rfl ?_
  refine rl_iload dX9_helpers_181 rfl ?_
  refine rl_if_ge (tgt := 190) dX9_helpers_183 (by decide) (fun c_1 => ?_) (fun c_1 => ?_)
  · have H := H.1 c_1
    refine rl_iconst (v := nI 1) dX9_helpers_190 (by decide) ?_
    refine rl_iload dX9_helpers_191 rfl ?_
    refine rl_ishl dX9_helpers_193 ?_
    refine rl_ior dX9_helpers_194 ?_
    refine rl_istore (L' := [some (.ref (ad (gMo 0))), none, some (.int x2), some (.int x3), some (.int (xs0 + xs1)), some (.int (x5 ||| ((nI 1) <<< (x7 &&& 31)))), some (.int x6), some (.int x7), none, none]) dX9_helpers_195 (Nat.le_of_ble_eq_true rfl) rfl ?_
    refine rl_iinc (v := x6 + nI 1) (L' := [some (.ref (ad (gMo 0))), none, some (.int x2), some (.int x3), some (.int (xs0 + xs1)), some (.int (x5 ||| ((nI 1) <<< (x7 &&& 31)))), some (.int (x6 + nI 1)), some (.int x7), none, none]) dX9_helpers_197 rfl (congrArg (fun z => x6 + z) (by decide)) (Nat.le_of_ble_eq_true rfl) rfl ?_
    refine rl_goto (tgt := 66) dX9_helpers_200 (by decide) ?_
    refine rl_wk (L' := [some (.ref (ad (gMo 0))), none, some (.int x2), some (.int x3), some (.int (xs0 + xs1)), some (.int (x5 ||| ((nI 1) <<< (x7 &&& 31)))), some (.int (x6 + nI 1)), none, none, none]) ⟨rfl, ⟨rfl, ⟨rfl, ⟨rfl, ⟨rfl, ⟨rfl, trivial⟩⟩⟩⟩⟩⟩ ?_
    exact H
  · have H := H.2 c_1
    refine rl_iconst (v := nI 0) dX9_helpers_186 (by decide) ?_
    refine rl_goto (tgt := 194) dX9_helpers_187 (by decide) ?_
    refine rl_ior dX9_helpers_194 ?_
    refine rl_istore (L' := [some (.ref (ad (gMo 0))), none, some (.int x2), some (.int x3), some (.int (xs0 + xs1)), some (.int (x5 ||| (nI 0))), some (.int x6), some (.int x7), none, none]) dX9_helpers_195 (Nat.le_of_ble_eq_true rfl) rfl ?_
    refine rl_iinc (v := x6 + nI 1) (L' := [some (.ref (ad (gMo 0))), none, some (.int x2), some (.int x3), some (.int (xs0 + xs1)), some (.int (x5 ||| (nI 0))), some (.int (x6 + nI 1)), some (.int x7), none, none]) dX9_helpers_197 rfl (congrArg (fun z => x6 + z) (by decide)) (Nat.le_of_ble_eq_true rfl) rfl ?_
    refine rl_goto (tgt := 66) dX9_helpers_200 (by decide) ?_
    refine rl_wk (L' := [some (.ref (ad (gMo 0))), none, some (.int x2), some (.int x3), some (.int (xs0 + xs1)), some (.int (x5 ||| (nI 0))), some (.int (x6 + nI 1)), none, none, none]) ⟨rfl, ⟨rfl, ⟨rfl, ⟨rfl, ⟨rfl, ⟨rfl, trivial⟩⟩⟩⟩⟩⟩ ?_
    exact H
theorem tX9_type_0 {n : Nat} {ad : Nat → Nat} {h0 : Hp} {cs : Nat → Nat → Int32} {pm : Nat → Nat → Nat} (L : Lay n ad h0) {Q : Nat → Option Value → Hp → Prop} {x1 : Int32} (H : CKi mX9_in 0 0 0 [some (.int x1), some (.int (nI 32)), some (.int (nI 126))] (HN h0 ad (up2 cs (gMo 0) 7 (nI 0)) pm) (fun v h' => Wm mX9_type 1 0 0 Q 13 [some (.ref (ad (gMo 0))), some (.int x1)] [.int v] h' 0 0)) : Wm mX9_type 1 0 0 Q 0 [some (.ref (ad (gMo 0))), some (.int x1)] [] (HN h0 ad cs pm) 0 0 := by
  refine rl_aload_n dX9_type_0 rfl rfl ?_
  refine rl_iconst (v := nI 0) dX9_type_1 (by decide) ?_
  refine rt_putI (k := 7) L.2.1 cfX9 dX9_type_2 flX9_42 (by decide) rfl (lMo0 L) nzMo (Or.inl rfl) ?_
  refine rl_iload_n dX9_type_5 rfl rfl ?_
  refine rl_bipush (v := nI 32) dX9_type_6 (by decide) ?_
  refine rl_bipush (v := nI 126) dX9_type_8 (by decide) ?_
  exact rl_callS (As := [.int x1, .int (nI 32), .int (nI 126)]) (rest := []) mfX9_in dX9_type_10 lkX9_48 (by decide) (Nat.le_of_ble_eq_true rfl) (Nat.le_refl _) (Nat.le_refl _) rfl (Nat.le_of_ble_eq_true rfl) rfl rfl (fun Qc k => H Qc (fun v h' w => k (some (.int v)) h' w))
theorem tX9_type_13 {n : Nat} {ad : Nat → Nat} {h0 : Hp} {cs : Nat → Nat → Int32} {pm : Nat → Nat → Nat} (L : Lay n ad h0) {Q : Nat → Option Value → Hp → Prop} {x1 xs0 : Int32} (H : ((¬ xs0 = 0 → ((¬ (cs (gMo 0) 6) = (nI 60) → (∃ j_3 : Nat, cs (gMo 0) 6 = nI j_3 ∧ j_3 < 60 ∧ (Q 0 (some (.int ((cs (gMo 0) 6) + (nI 1)))) (HN h0 ad (up2 (up2 cs (gMo 4) j_3 x1) (gMo 0) 6 ((cs (gMo 0) 6) + (nI 1))) pm)))) ∧ ((cs (gMo 0) 6) = (nI 60) → CKi mX9_fails 0 0 0 [some (.ref (ad (gMo 0))), some (.int (nI 2))] (HN h0 ad cs pm) (fun v h' => Wm mX9_type 1 0 0 Q 36 [none, none] [.int v] h' 0 0)))) ∧ (xs0 = 0 → CKi mX9_fails 0 0 0 [some (.ref (ad (gMo 0))), some (.int (nI 1))] (HN h0 ad cs pm) (fun v h' => Wm mX9_type 1 0 0 Q 21 [none, none] [.int v] h' 0 0)))) : Wm mX9_type 1 0 0 Q 13 [some (.ref (ad (gMo 0))), some (.int x1)] [.int xs0] (HN h0 ad cs pm) 0 0 := by
  refine rl_if_ne (tgt := 22) dX9_type_13 (by decide) (fun c_1 => ?_) (fun c_1 => ?_)
  · have H := H.1 c_1
    refine rl_aload_n dX9_type_22 rfl rfl ?_
    refine rt_getI (k := 6) cfX9 dX9_type_23 flX9_152 (by decide) rfl (lMo0 L) nzMo ?_
    refine rl_bipush (v := nI 60) dX9_type_26 (by decide) ?_
    refine rl_icmp_ne (tgt := 37) dX9_type_28 (by decide) (fun c_2 => ?_) (fun c_2 => ?_)
    · have H := H.1 c_2
      refine rl_aload_n dX9_type_37 rfl rfl ?_
      refine rt_getP (k := 5) cfX9 dX9_type_38 flX9_19 (by decide) rfl (lMo0 L) (rMo5 L) naMo ?_
      refine rl_aload_n dX9_type_41 rfl rfl ?_
      refine rt_getI (k := 6) cfX9 dX9_type_42 flX9_152 (by decide) rfl (lMo0 L) nzMo ?_
      refine rl_iload_n dX9_type_45 rfl rfl ?_
      obtain ⟨j_3, e_4, b_5, H⟩ := H
      refine rt_iast (j := j_3) L.2.1 dX9_type_46 (lMo4 L) nzMo e_4 b_5 (by decide) ?_
      refine rl_aload_n dX9_type_47 rfl rfl ?_
      refine rl_dup dX9_type_48 rfl ?_
      refine rt_getIv (x := cs (gMo 0) 6) (k := 6) cfX9 dX9_type_49 flX9_152 (by decide) rfl (lMo0 L) nzMo ((up2_a (by decide)).trans (rfl)) ?_
      refine rl_iconst (v := nI 1) dX9_type_52 (by decide) ?_
      refine rl_iadd dX9_type_53 ?_
      refine rt_putI (k := 6) L.2.1 cfX9 dX9_type_54 flX9_152 (by decide) rfl (lMo0 L) nzMo (Or.inl rfl) ?_
      refine rl_aload_n dX9_type_57 rfl rfl ?_
      refine rt_getIv (x := (cs (gMo 0) 6) + (nI 1)) (k := 6) cfX9 dX9_type_58 flX9_152 (by decide) rfl (lMo0 L) nzMo (up2_s) ?_
      exact rl_iret dX9_type_61 rfl (Nat.le_refl 0) (Nat.le_refl 0) H
    · have H := H.2 c_2
      refine rl_aload_n dX9_type_31 rfl rfl ?_
      refine rl_iconst (v := nI 2) dX9_type_32 (by decide) ?_
      exact rl_callV (As := [.int (nI 2)]) (rest := []) mfX9_fails dX9_type_33 lkX9_105 (lMo0 L).K (by decide) (Nat.le_of_ble_eq_true rfl) (Nat.le_refl _) (Nat.le_refl _) rfl (Nat.le_of_ble_eq_true rfl) rfl rfl (fun Qc k => H Qc (fun v h' w => k (some (.int v)) h' (rl_wk (L' := [none, none]) trivial w)))
  · have H := H.2 c_1
    refine rl_aload_n dX9_type_16 rfl rfl ?_
    refine rl_iconst (v := nI 1) dX9_type_17 (by decide) ?_
    exact rl_callV (As := [.int (nI 1)]) (rest := []) mfX9_fails dX9_type_18 lkX9_105 (lMo0 L).K (by decide) (Nat.le_of_ble_eq_true rfl) (Nat.le_refl _) (Nat.le_refl _) rfl (Nat.le_of_ble_eq_true rfl) rfl rfl (fun Qc k => H Qc (fun v h' w => k (some (.int v)) h' (rl_wk (L' := [none, none]) trivial w)))
theorem tX9_type_21 {n : Nat} {ad : Nat → Nat} {h0 : Hp} {cs : Nat → Nat → Int32} {pm : Nat → Nat → Nat} (L : Lay n ad h0) {Q : Nat → Option Value → Hp → Prop} {xs0 : Int32} (H : Q 0 (some (.int xs0)) (HN h0 ad cs pm)) : Wm mX9_type 1 0 0 Q 21 [none, none] [.int xs0] (HN h0 ad cs pm) 0 0 := by
  exact rl_iret dX9_type_21 rfl (Nat.le_refl 0) (Nat.le_refl 0) H
theorem tX9_type_36 {n : Nat} {ad : Nat → Nat} {h0 : Hp} {cs : Nat → Nat → Int32} {pm : Nat → Nat → Nat} (L : Lay n ad h0) {Q : Nat → Option Value → Hp → Prop} {xs0 : Int32} (H : Q 0 (some (.int xs0)) (HN h0 ad cs pm)) : Wm mX9_type 1 0 0 Q 36 [none, none] [.int xs0] (HN h0 ad cs pm) 0 0 := by
  exact rl_iret dX9_type_36 rfl (Nat.le_refl 0) (Nat.le_refl 0) H
theorem tX9_clearText_0 {n : Nat} {ad : Nat → Nat} {h0 : Hp} {cs : Nat → Nat → Int32} {pm : Nat → Nat → Nat} (L : Lay n ad h0) {Q : Nat → Option Value → Hp → Prop}  (H : Q 0 (some (.int (cs (gMo 0) 6))) (HN h0 ad (up2 (up2 cs (gMo 0) 7 (nI 0)) (gMo 0) 6 (nI 0)) pm)) : Wm mX9_clearText 0 0 0 Q 0 [some (.ref (ad (gMo 0))), none] [] (HN h0 ad cs pm) 0 0 := by
  refine rl_aload_n dX9_clearText_0 rfl rfl ?_
  refine rl_iconst (v := nI 0) dX9_clearText_1 (by decide) ?_
  refine rt_putI (k := 7) L.2.1 cfX9 dX9_clearText_2 flX9_42 (by decide) rfl (lMo0 L) nzMo (Or.inl rfl) ?_
  refine rl_aload_n dX9_clearText_5 rfl rfl ?_
  refine rt_getIv (x := cs (gMo 0) 6) (k := 6) cfX9 dX9_clearText_6 flX9_152 (by decide) rfl (lMo0 L) nzMo ((up2_k (by decide)).trans (rfl)) ?_
  refine rl_istore_n (L' := [some (.ref (ad (gMo 0))), some (.int (cs (gMo 0) 6))]) dX9_clearText_9 rfl (Nat.le_of_ble_eq_true rfl) rfl ?_
  refine rl_aload_n dX9_clearText_10 rfl rfl ?_
  refine rl_iconst (v := nI 0) dX9_clearText_11 (by decide) ?_
  refine rt_putI (k := 6) L.2.1 cfX9 dX9_clearText_12 flX9_152 (by decide) rfl (lMo0 L) nzMo (Or.inl rfl) ?_
  refine rl_iload_n dX9_clearText_15 rfl rfl ?_
  exact rl_iret dX9_clearText_16 rfl (Nat.le_refl 0) (Nat.le_refl 0) H
theorem tX9_runScript_0 {n : Nat} {ad : Nat → Nat} {h0 : Hp} {cs : Nat → Nat → Int32} {pm : Nat → Nat → Nat} (L : Lay n ad h0) {Q : Nat → Option Value → Hp → Prop}  (H : CKi mX9_readsScript 3 0 0 [some (.ref (ad (gMo 0))), none] (HN h0 ad (up2 cs (gMo 0) 7 (nI 0)) pm) (fun v h' => Wm mX9_runScript 7 0 0 Q 9 [some (.ref (ad (gMo 0))), none, none] [.int v] h' 0 0)) : Wm mX9_runScript 7 0 0 Q 0 [some (.ref (ad (gMo 0))), none, none] [] (HN h0 ad cs pm) 0 0 := by
  refine rl_aload_n dX9_runScript_0 rfl rfl ?_
  refine rl_iconst (v := nI 0) dX9_runScript_1 (by decide) ?_
  refine rt_putI (k := 7) L.2.1 cfX9 dX9_runScript_2 flX9_42 (by decide) rfl (lMo0 L) nzMo (Or.inl rfl) ?_
  refine rl_aload_n dX9_runScript_5 rfl rfl ?_
  exact rl_callV (As := []) (rest := []) mfX9_readsScript dX9_runScript_6 lkX9_183 (lMo0 L).K (by decide) (Nat.le_of_ble_eq_true rfl) (Nat.le_refl _) (Nat.le_refl _) rfl (Nat.le_of_ble_eq_true rfl) rfl rfl (fun Qc k => H Qc (fun v h' w => k (some (.int v)) h' w))
theorem tX9_runScript_9 {n : Nat} {ad : Nat → Nat} {h0 : Hp} {cs : Nat → Nat → Int32} {pm : Nat → Nat → Nat} (L : Lay n ad h0) {Q : Nat → Option Value → Hp → Prop} {xs0 : Int32} (H : ((¬ xs0 = 0 → Wm mX9_runScript 7 0 0 Q 21 [some (.ref (ad (gMo 0))), some (.int (nI 0)), none] [] (HN h0 ad cs pm) 0 0) ∧ (xs0 = 0 → Q 0 (some (.int ((-1) - (cs (gMo 0) 8)))) (HN h0 ad cs pm)))) : Wm mX9_runScript 7 0 0 Q 9 [some (.ref (ad (gMo 0))), none, none] [.int xs0] (HN h0 ad cs pm) 0 0 := by
  refine rl_if_ne (tgt := 19) dX9_runScript_9 (by decide) (fun c_1 => ?_) (fun c_1 => ?_)
  · have H := H.1 c_1
    refine rl_iconst (v := nI 0) dX9_runScript_19 (by decide) ?_
    refine rl_istore_n (L' := [some (.ref (ad (gMo 0))), some (.int (nI 0)), none]) dX9_runScript_20 rfl (Nat.le_of_ble_eq_true rfl) rfl ?_
    exact H
  · have H := H.2 c_1
    refine rl_iconst (v := -1) dX9_runScript_12 (by decide) ?_
    refine rl_aload_n dX9_runScript_13 rfl rfl ?_
    refine rt_getI (k := 8) cfX9 dX9_runScript_14 flX9_155 (by decide) rfl (lMo0 L) nzMo ?_
    refine rl_isub dX9_runScript_17 ?_
    exact rl_iret dX9_runScript_18 rfl (Nat.le_refl 0) (Nat.le_refl 0) H
theorem tX9_runScript_21 {n : Nat} {ad : Nat → Nat} {h0 : Hp} {cs : Nat → Nat → Int32} {pm : Nat → Nat → Nat} (L : Lay n ad h0) {Q : Nat → Option Value → Hp → Prop} {x1 : Int32} (H : (((nI 2400) ≤ x1 → Wm mX9_runScript 7 0 0 Q 48 [some (.ref (ad (gMo 0))), some (.int (nI 0)), none] [] (HN h0 ad cs pm) 0 0) ∧ (¬ (nI 2400) ≤ x1 → (∃ j_2 : Nat, x1 = nI j_2 ∧ j_2 < 2400 ∧ (Wm mX9_runScript 7 0 0 Q 21 [some (.ref (ad (gMo 0))), some (.int (x1 + nI 1)), none] [] (HN h0 ad (up2 cs (gMo 3) j_2 (cs (gMo 1) j_2)) pm) 0 0))))) : Wm mX9_runScript 7 0 0 Q 21 [some (.ref (ad (gMo 0))), some (.int x1), none] [] (HN h0 ad cs pm) 0 0 := by
  refine rl_iload_n dX9_runScript_21 rfl rfl ?_
  refine rl_sipush (v := nI 2400) dX9_runScript_22 (by decide) ?_
  refine rl_icmp_ge (tgt := 46) dX9_runScript_25 (by decide) (fun c_1 => ?_) (fun c_1 => ?_)
  · have H := H.1 c_1
    refine rl_iconst (v := nI 0) dX9_runScript_46 (by decide) ?_
    refine rl_istore_n (L' := [some (.ref (ad (gMo 0))), some (.int (nI 0)), none]) dX9_runScript_47 rfl (Nat.le_of_ble_eq_true rfl) rfl ?_
    exact H
  · have H := H.2 c_1
    refine rl_aload_n dX9_runScript_28 rfl rfl ?_
    refine rt_getP (k := 3) cfX9 dX9_runScript_29 flX9_16 (by decide) rfl (lMo0 L) (rMo3 L) naMo ?_
    refine rl_iload_n dX9_runScript_32 rfl rfl ?_
    refine rl_aload_n dX9_runScript_33 rfl rfl ?_
    refine rt_getP (k := 1) cfX9 dX9_runScript_34 flX9_7 (by decide) rfl (lMo0 L) (rMo1 L) naMo ?_
    refine rl_iload_n dX9_runScript_37 rfl rfl ?_
    obtain ⟨j_2, e_3, b_4, H⟩ := H
    refine rt_iald (j := j_2) dX9_runScript_38 (lMo1 L) nzMo e_3 b_4 (by decide) ?_
    refine rt_iast (j := j_2) L.2.1 dX9_runScript_39 (lMo3 L) nzMo e_3 b_4 (by decide) ?_
    refine rl_iinc (v := x1 + nI 1) (L' := [some (.ref (ad (gMo 0))), some (.int (x1 + nI 1)), none]) dX9_runScript_40 rfl (congrArg (fun z => x1 + z) (by decide)) (Nat.le_of_ble_eq_true rfl) rfl ?_
    refine rl_goto (tgt := 21) dX9_runScript_43 (by decide) ?_
    exact H
theorem tX9_runScript_48 {n : Nat} {ad : Nat → Nat} {h0 : Hp} {cs : Nat → Nat → Int32} {pm : Nat → Nat → Nat} (L : Lay n ad h0) {Q : Nat → Option Value → Hp → Prop} {x1 : Int32} (H : (((cs (gMo 0) 9) ≤ x1 → CKv mX9_keepsAside 1 0 0 [some (.ref (ad (gMo 0))), none] (HN h0 ad cs pm) (fun h' => Wm mX9_runScript 7 0 0 Q 107 [some (.ref (ad (gMo 0))), none, none] [] h' 0 0)) ∧ (¬ (cs (gMo 0) 9) ≤ x1 → CKi mX9_does 6 0 0 [some (.ref (ad (gMo 0))), some (.int x1), none, none, none, none, none] (HN h0 ad cs pm) (fun v h' => Wm mX9_runScript 7 0 0 Q 61 [some (.ref (ad (gMo 0))), some (.int x1), none] [.int v] h' 0 0)))) : Wm mX9_runScript 7 0 0 Q 48 [some (.ref (ad (gMo 0))), some (.int x1), none] [] (HN h0 ad cs pm) 0 0 := by
  refine rl_iload_n dX9_runScript_48 rfl rfl ?_
  refine rl_aload_n dX9_runScript_49 rfl rfl ?_
  refine rt_getI (k := 9) cfX9 dX9_runScript_50 flX9_164 (by decide) rfl (lMo0 L) nzMo ?_
  refine rl_icmp_ge (tgt := 103) dX9_runScript_53 (by decide) (fun c_1 => ?_) (fun c_1 => ?_)
  · have H := H.1 c_1
    refine rl_aload_n dX9_runScript_103 rfl rfl ?_
    exact rl_callV (As := []) (rest := []) mfX9_keepsAside dX9_runScript_104 lkX9_189 (lMo0 L).K (by decide) (Nat.le_of_ble_eq_true rfl) (Nat.le_refl _) (Nat.le_refl _) rfl (Nat.le_of_ble_eq_true rfl) rfl rfl (fun Qc k => H Qc (fun h' w => k none h' (rl_wk (L' := [some (.ref (ad (gMo 0))), none, none]) ⟨rfl, trivial⟩ w)))
  · have H := H.2 c_1
    refine rl_aload_n dX9_runScript_56 rfl rfl ?_
    refine rl_iload_n dX9_runScript_57 rfl rfl ?_
    exact rl_callV (As := [.int x1]) (rest := []) mfX9_does dX9_runScript_58 lkX9_186 (lMo0 L).K (by decide) (Nat.le_of_ble_eq_true rfl) (Nat.le_refl _) (Nat.le_refl _) rfl (Nat.le_of_ble_eq_true rfl) rfl rfl (fun Qc k => H Qc (fun v h' w => k (some (.int v)) h' w))
theorem tX9_runScript_61 {n : Nat} {ad : Nat → Nat} {h0 : Hp} {cs : Nat → Nat → Int32} {pm : Nat → Nat → Nat} (L : Lay n ad h0) {Q : Nat → Option Value → Hp → Prop} {x1 xs0 : Int32} (H : ((¬ xs0 = 0 → Wm mX9_runScript 7 0 0 Q 48 [some (.ref (ad (gMo 0))), some (.int (x1 + nI 1)), none] [] (HN h0 ad cs pm) 0 0) ∧ (xs0 = 0 → Wm mX9_runScript 7 0 0 Q 66 [some (.ref (ad (gMo 0))), some (.int x1), some (.int (nI 0))] [] (HN h0 ad cs pm) 0 0))) : Wm mX9_runScript 7 0 0 Q 61 [some (.ref (ad (gMo 0))), some (.int x1), none] [.int xs0] (HN h0 ad cs pm) 0 0 := by
  refine rl_if_ne (tgt := 97) dX9_runScript_61 (by decide) (fun c_1 => ?_) (fun c_1 => ?_)
  · have H := H.1 c_1
    refine rl_iinc (v := x1 + nI 1) (L' := [some (.ref (ad (gMo 0))), some (.int (x1 + nI 1)), none]) dX9_runScript_97 rfl (congrArg (fun z => x1 + z) (by decide)) (Nat.le_of_ble_eq_true rfl) rfl ?_
    refine rl_goto (tgt := 48) dX9_runScript_100 (by decide) ?_
    exact H
  · have H := H.2 c_1
    refine rl_iconst (v := nI 0) dX9_runScript_64 (by decide) ?_
    refine rl_istore_n (L' := [some (.ref (ad (gMo 0))), some (.int x1), some (.int (nI 0))]) dX9_runScript_65 rfl (Nat.le_of_ble_eq_true rfl) rfl ?_
    exact H
theorem tX9_runScript_66 {n : Nat} {ad : Nat → Nat} {h0 : Hp} {cs : Nat → Nat → Int32} {pm : Nat → Nat → Nat} (L : Lay n ad h0) {Q : Nat → Option Value → Hp → Prop} {x1 x2 : Int32} (H : (((nI 2400) ≤ x2 → Q 0 (some (.int ((-1000) - x1))) (HN h0 ad cs pm)) ∧ (¬ (nI 2400) ≤ x2 → (∃ j_2 : Nat, x2 = nI j_2 ∧ j_2 < 2400 ∧ (Wm mX9_runScript 7 0 0 Q 66 [some (.ref (ad (gMo 0))), some (.int x1), some (.int (x2 + nI 1))] [] (HN h0 ad (up2 cs (gMo 1) j_2 (cs (gMo 3) j_2)) pm) 0 0))))) : Wm mX9_runScript 7 0 0 Q 66 [some (.ref (ad (gMo 0))), some (.int x1), some (.int x2)] [] (HN h0 ad cs pm) 0 0 := by
  refine rl_iload_n dX9_runScript_66 rfl rfl ?_
  refine rl_sipush (v := nI 2400) dX9_runScript_67 (by decide) ?_
  refine rl_icmp_ge (tgt := 91) dX9_runScript_70 (by decide) (fun c_1 => ?_) (fun c_1 => ?_)
  · have H := H.1 c_1
    refine rl_sipush (v := -1000) dX9_runScript_91 (by decide) ?_
    refine rl_iload_n dX9_runScript_94 rfl rfl ?_
    refine rl_isub dX9_runScript_95 ?_
    exact rl_iret dX9_runScript_96 rfl (Nat.le_refl 0) (Nat.le_refl 0) H
  · have H := H.2 c_1
    refine rl_aload_n dX9_runScript_73 rfl rfl ?_
    refine rt_getP (k := 1) cfX9 dX9_runScript_74 flX9_7 (by decide) rfl (lMo0 L) (rMo1 L) naMo ?_
    refine rl_iload_n dX9_runScript_77 rfl rfl ?_
    refine rl_aload_n dX9_runScript_78 rfl rfl ?_
    refine rt_getP (k := 3) cfX9 dX9_runScript_79 flX9_16 (by decide) rfl (lMo0 L) (rMo3 L) naMo ?_
    refine rl_iload_n dX9_runScript_82 rfl rfl ?_
    obtain ⟨j_2, e_3, b_4, H⟩ := H
    refine rt_iald (j := j_2) dX9_runScript_83 (lMo3 L) nzMo e_3 b_4 (by decide) ?_
    refine rt_iast (j := j_2) L.2.1 dX9_runScript_84 (lMo1 L) nzMo e_3 b_4 (by decide) ?_
    refine rl_iinc (v := x2 + nI 1) (L' := [some (.ref (ad (gMo 0))), some (.int x1), some (.int (x2 + nI 1))]) dX9_runScript_85 rfl (congrArg (fun z => x2 + z) (by decide)) (Nat.le_of_ble_eq_true rfl) rfl ?_
    refine rl_goto (tgt := 66) dX9_runScript_88 (by decide) ?_
    exact H
theorem tX9_runScript_107 {n : Nat} {ad : Nat → Nat} {h0 : Hp} {cs : Nat → Nat → Int32} {pm : Nat → Nat → Nat} (L : Lay n ad h0) {Q : Nat → Option Value → Hp → Prop}  (H : Q 0 (some (.int (cs (gMo 0) 9))) (HN h0 ad (up2 cs (gMo 0) 6 (nI 0)) pm)) : Wm mX9_runScript 7 0 0 Q 107 [some (.ref (ad (gMo 0))), none, none] [] (HN h0 ad cs pm) 0 0 := by
  refine rl_aload_n dX9_runScript_107 rfl rfl ?_
  refine rl_iconst (v := nI 0) dX9_runScript_108 (by decide) ?_
  refine rt_putI (k := 6) L.2.1 cfX9 dX9_runScript_109 flX9_152 (by decide) rfl (lMo0 L) nzMo (Or.inl rfl) ?_
  refine rl_aload_n dX9_runScript_112 rfl rfl ?_
  refine rt_getIv (x := cs (gMo 0) 9) (k := 9) cfX9 dX9_runScript_113 flX9_164 (by decide) rfl (lMo0 L) nzMo ((up2_k (by decide)).trans (rfl)) ?_
  exact rl_iret dX9_runScript_116 rfl (Nat.le_refl 0) (Nat.le_refl 0) H
theorem tX9_readsScript_0 {n : Nat} {ad : Nat → Nat} {h0 : Hp} {cs : Nat → Nat → Int32} {pm : Nat → Nat → Nat} (L : Lay n ad h0) {Q : Nat → Option Value → Hp → Prop}  (H : Wm mX9_readsScript 3 0 0 Q 12 [some (.ref (ad (gMo 0))), some (.int (nI 1))] [] (HN h0 ad (up2 (up2 cs (gMo 0) 8 (nI 0)) (gMo 0) 9 (nI 0)) pm) 0 0) : Wm mX9_readsScript 3 0 0 Q 0 [some (.ref (ad (gMo 0))), none] [] (HN h0 ad cs pm) 0 0 := by
  refine rl_aload_n dX9_readsScript_0 rfl rfl ?_
  refine rl_iconst (v := nI 0) dX9_readsScript_1 (by decide) ?_
  refine rt_putI (k := 8) L.2.1 cfX9 dX9_readsScript_2 flX9_155 (by decide) rfl (lMo0 L) nzMo (Or.inl rfl) ?_
  refine rl_aload_n dX9_readsScript_5 rfl rfl ?_
  refine rl_iconst (v := nI 0) dX9_readsScript_6 (by decide) ?_
  refine rt_putI (k := 9) L.2.1 cfX9 dX9_readsScript_7 flX9_164 (by decide) rfl (lMo0 L) nzMo (Or.inl rfl) ?_
  refine rl_iconst (v := nI 1) dX9_readsScript_10 (by decide) ?_
  refine rl_istore_n (L' := [some (.ref (ad (gMo 0))), some (.int (nI 1))]) dX9_readsScript_11 rfl (Nat.le_of_ble_eq_true rfl) rfl ?_
  exact H
theorem tX9_readsScript_12 {n : Nat} {ad : Nat → Nat} {h0 : Hp} {cs : Nat → Nat → Int32} {pm : Nat → Nat → Nat} (L : Lay n ad h0) {Q : Nat → Option Value → Hp → Prop} {x1 : Int32} (H : ((x1 = 0 → ((¬ (cs (gMo 0) 8) = (cs (gMo 0) 6) → Q 0 (some (.int (nI 0))) (HN h0 ad cs pm)) ∧ ((cs (gMo 0) 8) = (cs (gMo 0) 6) → Q 0 (some (.int (nI 1))) (HN h0 ad cs pm)))) ∧ (¬ x1 = 0 → CKi mX9_readsCommand 2 0 0 [some (.ref (ad (gMo 0))), none, none] (HN h0 ad cs pm) (fun v h' => Wm mX9_readsScript 3 0 0 Q 20 [some (.ref (ad (gMo 0))), none] [.int v] h' 0 0)))) : Wm mX9_readsScript 3 0 0 Q 12 [some (.ref (ad (gMo 0))), some (.int x1)] [] (HN h0 ad cs pm) 0 0 := by
  refine rl_iload_n dX9_readsScript_12 rfl rfl ?_
  refine rl_if_eq (tgt := 45) dX9_readsScript_13 (by decide) (fun c_1 => ?_) (fun c_1 => ?_)
  · have H := H.1 c_1
    refine rl_aload_n dX9_readsScript_45 rfl rfl ?_
    refine rt_getI (k := 8) cfX9 dX9_readsScript_46 flX9_155 (by decide) rfl (lMo0 L) nzMo ?_
    refine rl_aload_n dX9_readsScript_49 rfl rfl ?_
    refine rt_getI (k := 6) cfX9 dX9_readsScript_50 flX9_152 (by decide) rfl (lMo0 L) nzMo ?_
    refine rl_icmp_ne (tgt := 60) dX9_readsScript_53 (by decide) (fun c_2 => ?_) (fun c_2 => ?_)
    · have H := H.1 c_2
      refine rl_iconst (v := nI 0) dX9_readsScript_60 (by decide) ?_
      exact rl_zret dX9_readsScript_61 rfl rfl (Nat.le_refl 0) (Nat.le_refl 0) H
    · have H := H.2 c_2
      refine rl_iconst (v := nI 1) dX9_readsScript_56 (by decide) ?_
      refine rl_goto (tgt := 61) dX9_readsScript_57 (by decide) ?_
      exact rl_zret dX9_readsScript_61 rfl rfl (Nat.le_refl 0) (Nat.le_refl 0) H
  · have H := H.2 c_1
    refine rl_aload_n dX9_readsScript_16 rfl rfl ?_
    exact rl_callV (As := []) (rest := []) mfX9_readsCommand dX9_readsScript_17 lkX9_177 (lMo0 L).K (by decide) (Nat.le_of_ble_eq_true rfl) (Nat.le_refl _) (Nat.le_refl _) rfl (Nat.le_of_ble_eq_true rfl) rfl rfl (fun Qc k => H Qc (fun v h' w => k (some (.int v)) h' (rl_wk (L' := [some (.ref (ad (gMo 0))), none]) ⟨rfl, trivial⟩ w)))
theorem tX9_readsScript_20 {n : Nat} {ad : Nat → Nat} {h0 : Hp} {cs : Nat → Nat → Int32} {pm : Nat → Nat → Nat} (L : Lay n ad h0) {Q : Nat → Option Value → Hp → Prop} {xs0 : Int32} (H : ((¬ xs0 = 0 → CKi mX9_takes 1 0 0 [some (.ref (ad (gMo 0))), some (.int (nI 59)), none] (HN h0 ad (up2 cs (gMo 0) 9 ((cs (gMo 0) 9) + (nI 1))) pm) (fun v h' => Wm mX9_readsScript 3 0 0 Q 41 [some (.ref (ad (gMo 0))), none] [.int v] h' 0 0)) ∧ (xs0 = 0 → Q 0 (some (.int (nI 0))) (HN h0 ad cs pm)))) : Wm mX9_readsScript 3 0 0 Q 20 [some (.ref (ad (gMo 0))), none] [.int xs0] (HN h0 ad cs pm) 0 0 := by
  refine rl_if_ne (tgt := 25) dX9_readsScript_20 (by decide) (fun c_1 => ?_) (fun c_1 => ?_)
  · have H := H.1 c_1
    refine rl_aload_n dX9_readsScript_25 rfl rfl ?_
    refine rl_dup dX9_readsScript_26 rfl ?_
    refine rt_getI (k := 9) cfX9 dX9_readsScript_27 flX9_164 (by decide) rfl (lMo0 L) nzMo ?_
    refine rl_iconst (v := nI 1) dX9_readsScript_30 (by decide) ?_
    refine rl_iadd dX9_readsScript_31 ?_
    refine rt_putI (k := 9) L.2.1 cfX9 dX9_readsScript_32 flX9_164 (by decide) rfl (lMo0 L) nzMo (Or.inl rfl) ?_
    refine rl_aload_n dX9_readsScript_35 rfl rfl ?_
    refine rl_bipush (v := nI 59) dX9_readsScript_36 (by decide) ?_
    exact rl_callV (As := [.int (nI 59)]) (rest := []) mfX9_takes dX9_readsScript_38 lkX9_174 (lMo0 L).K (by decide) (Nat.le_of_ble_eq_true rfl) (Nat.le_refl _) (Nat.le_refl _) rfl (Nat.le_of_ble_eq_true rfl) rfl rfl (fun Qc k => H Qc (fun v h' w => k (some (.int v)) h' w))
  · have H := H.2 c_1
    refine rl_iconst (v := nI 0) dX9_readsScript_23 (by decide) ?_
    exact rl_zret dX9_readsScript_24 rfl rfl (Nat.le_refl 0) (Nat.le_refl 0) H
theorem tX9_readsScript_41 {n : Nat} {ad : Nat → Nat} {h0 : Hp} {cs : Nat → Nat → Int32} {pm : Nat → Nat → Nat} (L : Lay n ad h0) {Q : Nat → Option Value → Hp → Prop} {xs0 : Int32} (H : Wm mX9_readsScript 3 0 0 Q 12 [some (.ref (ad (gMo 0))), some (.int xs0)] [] (HN h0 ad cs pm) 0 0) : Wm mX9_readsScript 3 0 0 Q 41 [some (.ref (ad (gMo 0))), none] [.int xs0] (HN h0 ad cs pm) 0 0 := by
  refine rl_istore_n (L' := [some (.ref (ad (gMo 0))), some (.int xs0)]) dX9_readsScript_41 rfl (Nat.le_of_ble_eq_true rfl) rfl ?_
  refine rl_goto (tgt := 12) dX9_readsScript_42 (by decide) ?_
  exact H
theorem tX9_readsCommand_0 {n : Nat} {ad : Nat → Nat} {h0 : Hp} {cs : Nat → Nat → Int32} {pm : Nat → Nat → Nat} (L : Lay n ad h0) {Q : Nat → Option Value → Hp → Prop}  (H : CKi mX9_sign 0 0 0 [some (.ref (ad (gMo 0)))] (HN h0 ad cs pm) (fun v h' => Wm mX9_readsCommand 2 0 0 Q 4 [some (.ref (ad (gMo 0))), none, none] [.int v] h' 0 0)) : Wm mX9_readsCommand 2 0 0 Q 0 [some (.ref (ad (gMo 0))), none, none] [] (HN h0 ad cs pm) 0 0 := by
  refine rl_aload_n dX9_readsCommand_0 rfl rfl ?_
  exact rl_callV (As := []) (rest := []) mfX9_sign dX9_readsCommand_1 lkX9_158 (lMo0 L).K (by decide) (Nat.le_of_ble_eq_true rfl) (Nat.le_refl _) (Nat.le_refl _) rfl (Nat.le_of_ble_eq_true rfl) rfl rfl (fun Qc k => H Qc (fun v h' w => k (some (.int v)) h' w))
theorem tX9_readsCommand_4 {n : Nat} {ad : Nat → Nat} {h0 : Hp} {cs : Nat → Nat → Int32} {pm : Nat → Nat → Nat} (L : Lay n ad h0) {Q : Nat → Option Value → Hp → Prop} {xs0 : Int32} (H : ((xs0 = (nI 43) → Wm mX9_readsCommand 2 0 0 Q 41 [some (.ref (ad (gMo 0))), some (.int xs0), none] [] (HN h0 ad cs pm) 0 0) ∧ (¬ xs0 = (nI 43) → ((xs0 = (nI 45) → Wm mX9_readsCommand 2 0 0 Q 41 [some (.ref (ad (gMo 0))), some (.int xs0), none] [] (HN h0 ad cs pm) 0 0) ∧ (¬ xs0 = (nI 45) → ((xs0 = (nI 117) → Wm mX9_readsCommand 2 0 0 Q 41 [some (.ref (ad (gMo 0))), some (.int xs0), none] [] (HN h0 ad cs pm) 0 0) ∧ (¬ xs0 = (nI 117) → ((xs0 = (nI 100) → Wm mX9_readsCommand 2 0 0 Q 41 [some (.ref (ad (gMo 0))), some (.int xs0), none] [] (HN h0 ad cs pm) 0 0) ∧ (¬ xs0 = (nI 100) → ((xs0 = (nI 109) → Wm mX9_readsCommand 2 0 0 Q 41 [some (.ref (ad (gMo 0))), some (.int xs0), none] [] (HN h0 ad cs pm) 0 0) ∧ (¬ xs0 = (nI 109) → ((¬ xs0 = (nI 116) → Q 0 (some (.int (nI 0))) (HN h0 ad cs pm)) ∧ (xs0 = (nI 116) → Wm mX9_readsCommand 2 0 0 Q 41 [some (.ref (ad (gMo 0))), some (.int xs0), none] [] (HN h0 ad cs pm) 0 0))))))))))))) : Wm mX9_readsCommand 2 0 0 Q 4 [some (.ref (ad (gMo 0))), none, none] [.int xs0] (HN h0 ad cs pm) 0 0 := by
  refine rl_istore_n (L' := [some (.ref (ad (gMo 0))), some (.int xs0), none]) dX9_readsCommand_4 rfl (Nat.le_of_ble_eq_true rfl) rfl ?_
  refine rl_iload_n dX9_readsCommand_5 rfl rfl ?_
  refine rl_bipush (v := nI 43) dX9_readsCommand_6 (by decide) ?_
  refine rl_icmp_eq (tgt := 41) dX9_readsCommand_8 (by decide) (fun c_1 => ?_) (fun c_1 => ?_)
  · have H := H.1 c_1
    exact H
  · have H := H.2 c_1
    refine rl_iload_n dX9_readsCommand_11 rfl rfl ?_
    refine rl_bipush (v := nI 45) dX9_readsCommand_12 (by decide) ?_
    refine rl_icmp_eq (tgt := 41) dX9_readsCommand_14 (by decide) (fun c_2 => ?_) (fun c_2 => ?_)
    · have H := H.1 c_2
      exact H
    · have H := H.2 c_2
      refine rl_iload_n dX9_readsCommand_17 rfl rfl ?_
      refine rl_bipush (v := nI 117) dX9_readsCommand_18 (by decide) ?_
      refine rl_icmp_eq (tgt := 41) dX9_readsCommand_20 (by decide) (fun c_3 => ?_) (fun c_3 => ?_)
      · have H := H.1 c_3
        exact H
      · have H := H.2 c_3
        refine rl_iload_n dX9_readsCommand_23 rfl rfl ?_
        refine rl_bipush (v := nI 100) dX9_readsCommand_24 (by decide) ?_
        refine rl_icmp_eq (tgt := 41) dX9_readsCommand_26 (by decide) (fun c_4 => ?_) (fun c_4 => ?_)
        · have H := H.1 c_4
          exact H
        · have H := H.2 c_4
          refine rl_iload_n dX9_readsCommand_29 rfl rfl ?_
          refine rl_bipush (v := nI 109) dX9_readsCommand_30 (by decide) ?_
          refine rl_icmp_eq (tgt := 41) dX9_readsCommand_32 (by decide) (fun c_5 => ?_) (fun c_5 => ?_)
          · have H := H.1 c_5
            exact H
          · have H := H.2 c_5
            refine rl_iload_n dX9_readsCommand_35 rfl rfl ?_
            refine rl_bipush (v := nI 116) dX9_readsCommand_36 (by decide) ?_
            refine rl_icmp_ne (tgt := 45) dX9_readsCommand_38 (by decide) (fun c_6 => ?_) (fun c_6 => ?_)
            · have H := H.1 c_6
              refine rl_iconst (v := nI 0) dX9_readsCommand_45 (by decide) ?_
              refine rl_istore_n (L' := [some (.ref (ad (gMo 0))), some (.int xs0), some (.int (nI 0))]) dX9_readsCommand_46 rfl (Nat.le_of_ble_eq_true rfl) rfl ?_
              refine rl_iload_n dX9_readsCommand_47 rfl rfl ?_
              refine rl_if_ne (tgt := 53) dX9_readsCommand_48 (by decide) (fun q => absurd q (by decide)) (fun _ => ?_)
              refine rl_iconst (v := nI 0) dX9_readsCommand_51 (by decide) ?_
              exact rl_zret dX9_readsCommand_52 rfl rfl (Nat.le_refl 0) (Nat.le_refl 0) H
            · have H := H.2 c_6
              exact H
theorem tX9_readsCommand_41 {n : Nat} {ad : Nat → Nat} {h0 : Hp} {cs : Nat → Nat → Int32} {pm : Nat → Nat → Nat} (L : Lay n ad h0) {Q : Nat → Option Value → Hp → Prop} {x1 : Int32} (H : (∃ j_1 : Nat, cs (gMo 0) 9 = nI j_1 ∧ j_1 < 60 ∧ (((¬ x1 = (nI 116) → CKi mX9_readsSite 1 0 0 [some (.ref (ad (gMo 0))), none] (HN h0 ad (up2 (up2 cs (gMo 5) j_1 x1) (gMo 0) 8 ((cs (gMo 0) 8) + (nI 1))) pm) (fun v h' => Wm mX9_readsCommand 2 0 0 Q 88 [some (.ref (ad (gMo 0))), some (.int x1), none] [.int v] h' 0 0)) ∧ (x1 = (nI 116) → CKi mX9_readsNumber 1 0 0 [some (.ref (ad (gMo 0))), none, none] (HN h0 ad (up2 (up2 cs (gMo 5) j_1 x1) (gMo 0) 8 ((cs (gMo 0) 8) + (nI 1))) pm) (fun v h' => Wm mX9_readsCommand 2 0 0 Q 83 [none, none, none] [.int v] h' 0 0)))))) : Wm mX9_readsCommand 2 0 0 Q 41 [some (.ref (ad (gMo 0))), some (.int x1), none] [] (HN h0 ad cs pm) 0 0 := by
  refine rl_iconst (v := nI 1) dX9_readsCommand_41 (by decide) ?_
  refine rl_goto (tgt := 46) dX9_readsCommand_42 (by decide) ?_
  refine rl_istore_n (L' := [some (.ref (ad (gMo 0))), some (.int x1), some (.int (nI 1))]) dX9_readsCommand_46 rfl (Nat.le_of_ble_eq_true rfl) rfl ?_
  refine rl_iload_n dX9_readsCommand_47 rfl rfl ?_
  refine rl_if_ne (tgt := 53) dX9_readsCommand_48 (by decide) (fun _ => ?_) (fun q => absurd q (by decide))
  refine rl_aload_n dX9_readsCommand_53 rfl rfl ?_
  refine rt_getP (k := 10) cfX9 dX9_readsCommand_54 flX9_22 (by decide) rfl (lMo0 L) (rMo10 L) naMo ?_
  refine rl_aload_n dX9_readsCommand_57 rfl rfl ?_
  refine rt_getI (k := 9) cfX9 dX9_readsCommand_58 flX9_164 (by decide) rfl (lMo0 L) nzMo ?_
  refine rl_iload_n dX9_readsCommand_61 rfl rfl ?_
  obtain ⟨j_1, e_2, b_3, H⟩ := H
  refine rt_iast (j := j_1) L.2.1 dX9_readsCommand_62 (lMo5 L) nzMo e_2 b_3 (by decide) ?_
  refine rl_aload_n dX9_readsCommand_63 rfl rfl ?_
  refine rl_dup dX9_readsCommand_64 rfl ?_
  refine rt_getIv (x := cs (gMo 0) 8) (k := 8) cfX9 dX9_readsCommand_65 flX9_155 (by decide) rfl (lMo0 L) nzMo ((up2_a (by decide)).trans (rfl)) ?_
  refine rl_iconst (v := nI 1) dX9_readsCommand_68 (by decide) ?_
  refine rl_iadd dX9_readsCommand_69 ?_
  refine rt_putI (k := 8) L.2.1 cfX9 dX9_readsCommand_70 flX9_155 (by decide) rfl (lMo0 L) nzMo (Or.inl rfl) ?_
  refine rl_iload_n dX9_readsCommand_73 rfl rfl ?_
  refine rl_bipush (v := nI 116) dX9_readsCommand_74 (by decide) ?_
  refine rl_icmp_ne (tgt := 84) dX9_readsCommand_76 (by decide) (fun c_4 => ?_) (fun c_4 => ?_)
  · have H := H.1 c_4
    refine rl_aload_n dX9_readsCommand_84 rfl rfl ?_
    exact rl_callV (As := []) (rest := []) mfX9_readsSite dX9_readsCommand_85 lkX9_171 (lMo0 L).K (by decide) (Nat.le_of_ble_eq_true rfl) (Nat.le_refl _) (Nat.le_refl _) rfl (Nat.le_of_ble_eq_true rfl) rfl rfl (fun Qc k => H Qc (fun v h' w => k (some (.int v)) h' (rl_wk (L' := [some (.ref (ad (gMo 0))), some (.int x1), none]) ⟨rfl, ⟨rfl, trivial⟩⟩ w)))
  · have H := H.2 c_4
    refine rl_aload_n dX9_readsCommand_79 rfl rfl ?_
    exact rl_callV (As := []) (rest := []) mfX9_readsNumber dX9_readsCommand_80 lkX9_167 (lMo0 L).K (by decide) (Nat.le_of_ble_eq_true rfl) (Nat.le_refl _) (Nat.le_refl _) rfl (Nat.le_of_ble_eq_true rfl) rfl rfl (fun Qc k => H Qc (fun v h' w => k (some (.int v)) h' (rl_wk (L' := [none, none, none]) trivial w)))
theorem tX9_readsCommand_83 {n : Nat} {ad : Nat → Nat} {h0 : Hp} {cs : Nat → Nat → Int32} {pm : Nat → Nat → Nat} (L : Lay n ad h0) {Q : Nat → Option Value → Hp → Prop} {xs0 : Int32} (H : narrow .boolean (.int xs0) = .int xs0 ∧ Q 0 (some (.int xs0)) (HN h0 ad cs pm)) : Wm mX9_readsCommand 2 0 0 Q 83 [none, none, none] [.int xs0] (HN h0 ad cs pm) 0 0 := by
  obtain ⟨o_1, H⟩ := H
  exact rl_zret dX9_readsCommand_83 rfl o_1 (Nat.le_refl 0) (Nat.le_refl 0) H
theorem tX9_readsCommand_88 {n : Nat} {ad : Nat → Nat} {h0 : Hp} {cs : Nat → Nat → Int32} {pm : Nat → Nat → Nat} (L : Lay n ad h0) {Q : Nat → Option Value → Hp → Prop} {x1 xs0 : Int32} (H : ((¬ xs0 = 0 → (∃ j_2 : Nat, cs (gMo 0) 9 = nI j_2 ∧ j_2 < 60 ∧ (((x1 = (nI 117) → Wm mX9_readsCommand 2 0 0 Q 124 [some (.ref (ad (gMo 0))), some (.int x1), none] [] (HN h0 ad (up2 cs (gMo 6) j_2 (cs (gMo 0) 14)) pm) 0 0) ∧ (¬ x1 = (nI 117) → ((x1 = (nI 100) → Wm mX9_readsCommand 2 0 0 Q 124 [some (.ref (ad (gMo 0))), some (.int x1), none] [] (HN h0 ad (up2 cs (gMo 6) j_2 (cs (gMo 0) 14)) pm) 0 0) ∧ (¬ x1 = (nI 100) → ((¬ x1 = (nI 109) → Wm mX9_readsCommand 2 0 0 Q 155 [some (.ref (ad (gMo 0))), some (.int x1), none] [] (HN h0 ad (up2 cs (gMo 6) j_2 (cs (gMo 0) 14)) pm) 0 0) ∧ (x1 = (nI 109) → Wm mX9_readsCommand 2 0 0 Q 124 [some (.ref (ad (gMo 0))), some (.int x1), none] [] (HN h0 ad (up2 cs (gMo 6) j_2 (cs (gMo 0) 14)) pm) 0 0))))))))) ∧ (xs0 = 0 → Q 0 (some (.int (nI 0))) (HN h0 ad cs pm)))) : Wm mX9_readsCommand 2 0 0 Q 88 [some (.ref (ad (gMo 0))), some (.int x1), none] [.int xs0] (HN h0 ad cs pm) 0 0 := by
  refine rl_if_ne (tgt := 93) dX9_readsCommand_88 (by decide) (fun c_1 => ?_) (fun c_1 => ?_)
  · have H := H.1 c_1
    refine rl_aload_n dX9_readsCommand_93 rfl rfl ?_
    refine rt_getP (k := 11) cfX9 dX9_readsCommand_94 flX9_25 (by decide) rfl (lMo0 L) (rMo11 L) naMo ?_
    refine rl_aload_n dX9_readsCommand_97 rfl rfl ?_
    refine rt_getI (k := 9) cfX9 dX9_readsCommand_98 flX9_164 (by decide) rfl (lMo0 L) nzMo ?_
    refine rl_aload_n dX9_readsCommand_101 rfl rfl ?_
    refine rt_getI (k := 14) cfX9 dX9_readsCommand_102 flX9_161 (by decide) rfl (lMo0 L) nzMo ?_
    obtain ⟨j_2, e_3, b_4, H⟩ := H
    refine rt_iast (j := j_2) L.2.1 dX9_readsCommand_105 (lMo6 L) nzMo e_3 b_4 (by decide) ?_
    refine rl_iload_n dX9_readsCommand_106 rfl rfl ?_
    refine rl_bipush (v := nI 117) dX9_readsCommand_107 (by decide) ?_
    refine rl_icmp_eq (tgt := 124) dX9_readsCommand_109 (by decide) (fun c_5 => ?_) (fun c_5 => ?_)
    · have H := H.1 c_5
      exact H
    · have H := H.2 c_5
      refine rl_iload_n dX9_readsCommand_112 rfl rfl ?_
      refine rl_bipush (v := nI 100) dX9_readsCommand_113 (by decide) ?_
      refine rl_icmp_eq (tgt := 124) dX9_readsCommand_115 (by decide) (fun c_6 => ?_) (fun c_6 => ?_)
      · have H := H.1 c_6
        exact H
      · have H := H.2 c_6
        refine rl_iload_n dX9_readsCommand_118 rfl rfl ?_
        refine rl_bipush (v := nI 109) dX9_readsCommand_119 (by decide) ?_
        refine rl_icmp_ne (tgt := 155) dX9_readsCommand_121 (by decide) (fun c_7 => ?_) (fun c_7 => ?_)
        · have H := H.1 c_7
          exact H
        · have H := H.2 c_7
          exact H
  · have H := H.2 c_1
    refine rl_iconst (v := nI 0) dX9_readsCommand_91 (by decide) ?_
    exact rl_zret dX9_readsCommand_92 rfl rfl (Nat.le_refl 0) (Nat.le_refl 0) H
theorem tX9_readsCommand_124 {n : Nat} {ad : Nat → Nat} {h0 : Hp} {cs : Nat → Nat → Int32} {pm : Nat → Nat → Nat} (L : Lay n ad h0) {Q : Nat → Option Value → Hp → Prop} {x1 : Int32} (H : CKi mX9_takes 1 0 0 [some (.ref (ad (gMo 0))), some (.int (nI 62)), none] (HN h0 ad cs pm) (fun v h' => Wm mX9_readsCommand 2 0 0 Q 130 [some (.ref (ad (gMo 0))), some (.int x1), none] [.int v] h' 0 0)) : Wm mX9_readsCommand 2 0 0 Q 124 [some (.ref (ad (gMo 0))), some (.int x1), none] [] (HN h0 ad cs pm) 0 0 := by
  refine rl_aload_n dX9_readsCommand_124 rfl rfl ?_
  refine rl_bipush (v := nI 62) dX9_readsCommand_125 (by decide) ?_
  exact rl_callV (As := [.int (nI 62)]) (rest := []) mfX9_takes dX9_readsCommand_127 lkX9_174 (lMo0 L).K (by decide) (Nat.le_of_ble_eq_true rfl) (Nat.le_refl _) (Nat.le_refl _) rfl (Nat.le_of_ble_eq_true rfl) rfl rfl (fun Qc k => H Qc (fun v h' w => k (some (.int v)) h' w))
theorem tX9_readsCommand_130 {n : Nat} {ad : Nat → Nat} {h0 : Hp} {cs : Nat → Nat → Int32} {pm : Nat → Nat → Nat} (L : Lay n ad h0) {Q : Nat → Option Value → Hp → Prop} {x1 xs0 : Int32} (H : ((xs0 = 0 → Q 0 (some (.int (nI 0))) (HN h0 ad cs pm)) ∧ (¬ xs0 = 0 → CKi mX9_readsSite 1 0 0 [some (.ref (ad (gMo 0))), none] (HN h0 ad cs pm) (fun v h' => Wm mX9_readsCommand 2 0 0 Q 137 [some (.ref (ad (gMo 0))), some (.int x1), none] [.int v] h' 0 0)))) : Wm mX9_readsCommand 2 0 0 Q 130 [some (.ref (ad (gMo 0))), some (.int x1), none] [.int xs0] (HN h0 ad cs pm) 0 0 := by
  refine rl_if_eq (tgt := 140) dX9_readsCommand_130 (by decide) (fun c_1 => ?_) (fun c_1 => ?_)
  · have H := H.1 c_1
    refine rl_iconst (v := nI 0) dX9_readsCommand_140 (by decide) ?_
    exact rl_zret dX9_readsCommand_141 rfl rfl (Nat.le_refl 0) (Nat.le_refl 0) H
  · have H := H.2 c_1
    refine rl_aload_n dX9_readsCommand_133 rfl rfl ?_
    exact rl_callV (As := []) (rest := []) mfX9_readsSite dX9_readsCommand_134 lkX9_171 (lMo0 L).K (by decide) (Nat.le_of_ble_eq_true rfl) (Nat.le_refl _) (Nat.le_refl _) rfl (Nat.le_of_ble_eq_true rfl) rfl rfl (fun Qc k => H Qc (fun v h' w => k (some (.int v)) h' w))
theorem tX9_readsCommand_137 {n : Nat} {ad : Nat → Nat} {h0 : Hp} {cs : Nat → Nat → Int32} {pm : Nat → Nat → Nat} (L : Lay n ad h0) {Q : Nat → Option Value → Hp → Prop} {x1 xs0 : Int32} (H : ((¬ xs0 = 0 → (∃ j_2 : Nat, cs (gMo 0) 9 = nI j_2 ∧ j_2 < 60 ∧ (Wm mX9_readsCommand 2 0 0 Q 155 [some (.ref (ad (gMo 0))), some (.int x1), none] [] (HN h0 ad (up2 cs (gMo 7) j_2 (cs (gMo 0) 14)) pm) 0 0))) ∧ (xs0 = 0 → Q 0 (some (.int (nI 0))) (HN h0 ad cs pm)))) : Wm mX9_readsCommand 2 0 0 Q 137 [some (.ref (ad (gMo 0))), some (.int x1), none] [.int xs0] (HN h0 ad cs pm) 0 0 := by
  refine rl_if_ne (tgt := 142) dX9_readsCommand_137 (by decide) (fun c_1 => ?_) (fun c_1 => ?_)
  · have H := H.1 c_1
    refine rl_aload_n dX9_readsCommand_142 rfl rfl ?_
    refine rt_getP (k := 12) cfX9 dX9_readsCommand_143 flX9_28 (by decide) rfl (lMo0 L) (rMo12 L) naMo ?_
    refine rl_aload_n dX9_readsCommand_146 rfl rfl ?_
    refine rt_getI (k := 9) cfX9 dX9_readsCommand_147 flX9_164 (by decide) rfl (lMo0 L) nzMo ?_
    refine rl_aload_n dX9_readsCommand_150 rfl rfl ?_
    refine rt_getI (k := 14) cfX9 dX9_readsCommand_151 flX9_161 (by decide) rfl (lMo0 L) nzMo ?_
    obtain ⟨j_2, e_3, b_4, H⟩ := H
    refine rt_iast (j := j_2) L.2.1 dX9_readsCommand_154 (lMo7 L) nzMo e_3 b_4 (by decide) ?_
    exact H
  · have H := H.2 c_1
    refine rl_iconst (v := nI 0) dX9_readsCommand_140 (by decide) ?_
    exact rl_zret dX9_readsCommand_141 rfl rfl (Nat.le_refl 0) (Nat.le_refl 0) H
theorem tX9_readsCommand_155 {n : Nat} {ad : Nat → Nat} {h0 : Hp} {cs : Nat → Nat → Int32} {pm : Nat → Nat → Nat} (L : Lay n ad h0) {Q : Nat → Option Value → Hp → Prop} {x1 : Int32} (H : ((x1 = (nI 109) → Q 0 (some (.int (nI 1))) (HN h0 ad cs pm)) ∧ (¬ x1 = (nI 109) → CKi mX9_takes 1 0 0 [some (.ref (ad (gMo 0))), some (.int (nI 58)), none] (HN h0 ad cs pm) (fun v h' => Wm mX9_readsCommand 2 0 0 Q 167 [some (.ref (ad (gMo 0))), none, none] [.int v] h' 0 0)))) : Wm mX9_readsCommand 2 0 0 Q 155 [some (.ref (ad (gMo 0))), some (.int x1), none] [] (HN h0 ad cs pm) 0 0 := by
  refine rl_iload_n dX9_readsCommand_155 rfl rfl ?_
  refine rl_bipush (v := nI 109) dX9_readsCommand_156 (by decide) ?_
  refine rl_icmp_eq (tgt := 177) dX9_readsCommand_158 (by decide) (fun c_1 => ?_) (fun c_1 => ?_)
  · have H := H.1 c_1
    refine rl_iconst (v := nI 1) dX9_readsCommand_177 (by decide) ?_
    refine rl_goto (tgt := 182) dX9_readsCommand_178 (by decide) ?_
    exact rl_zret dX9_readsCommand_182 rfl rfl (Nat.le_refl 0) (Nat.le_refl 0) H
  · have H := H.2 c_1
    refine rl_aload_n dX9_readsCommand_161 rfl rfl ?_
    refine rl_bipush (v := nI 58) dX9_readsCommand_162 (by decide) ?_
    exact rl_callV (As := [.int (nI 58)]) (rest := []) mfX9_takes dX9_readsCommand_164 lkX9_174 (lMo0 L).K (by decide) (Nat.le_of_ble_eq_true rfl) (Nat.le_refl _) (Nat.le_refl _) rfl (Nat.le_of_ble_eq_true rfl) rfl rfl (fun Qc k => H Qc (fun v h' w => k (some (.int v)) h' (rl_wk (L' := [some (.ref (ad (gMo 0))), none, none]) ⟨rfl, trivial⟩ w)))
theorem tX9_readsCommand_167 {n : Nat} {ad : Nat → Nat} {h0 : Hp} {cs : Nat → Nat → Int32} {pm : Nat → Nat → Nat} (L : Lay n ad h0) {Q : Nat → Option Value → Hp → Prop} {xs0 : Int32} (H : ((xs0 = 0 → Q 0 (some (.int (nI 0))) (HN h0 ad cs pm)) ∧ (¬ xs0 = 0 → CKi mX9_readsNumber 1 0 0 [some (.ref (ad (gMo 0))), none, none] (HN h0 ad cs pm) (fun v h' => Wm mX9_readsCommand 2 0 0 Q 174 [none, none, none] [.int v] h' 0 0)))) : Wm mX9_readsCommand 2 0 0 Q 167 [some (.ref (ad (gMo 0))), none, none] [.int xs0] (HN h0 ad cs pm) 0 0 := by
  refine rl_if_eq (tgt := 181) dX9_readsCommand_167 (by decide) (fun c_1 => ?_) (fun c_1 => ?_)
  · have H := H.1 c_1
    refine rl_iconst (v := nI 0) dX9_readsCommand_181 (by decide) ?_
    exact rl_zret dX9_readsCommand_182 rfl rfl (Nat.le_refl 0) (Nat.le_refl 0) H
  · have H := H.2 c_1
    refine rl_aload_n dX9_readsCommand_170 rfl rfl ?_
    exact rl_callV (As := []) (rest := []) mfX9_readsNumber dX9_readsCommand_171 lkX9_167 (lMo0 L).K (by decide) (Nat.le_of_ble_eq_true rfl) (Nat.le_refl _) (Nat.le_refl _) rfl (Nat.le_of_ble_eq_true rfl) rfl rfl (fun Qc k => H Qc (fun v h' w => k (some (.int v)) h' (rl_wk (L' := [none, none, none]) trivial w)))
theorem tX9_readsCommand_174 {n : Nat} {ad : Nat → Nat} {h0 : Hp} {cs : Nat → Nat → Int32} {pm : Nat → Nat → Nat} (L : Lay n ad h0) {Q : Nat → Option Value → Hp → Prop} {xs0 : Int32} (H : ((xs0 = 0 → Q 0 (some (.int (nI 0))) (HN h0 ad cs pm)) ∧ (¬ xs0 = 0 → Q 0 (some (.int (nI 1))) (HN h0 ad cs pm)))) : Wm mX9_readsCommand 2 0 0 Q 174 [none, none, none] [.int xs0] (HN h0 ad cs pm) 0 0 := by
  refine rl_if_eq (tgt := 181) dX9_readsCommand_174 (by decide) (fun c_1 => ?_) (fun c_1 => ?_)
  · have H := H.1 c_1
    refine rl_iconst (v := nI 0) dX9_readsCommand_181 (by decide) ?_
    exact rl_zret dX9_readsCommand_182 rfl rfl (Nat.le_refl 0) (Nat.le_refl 0) H
  · have H := H.2 c_1
    refine rl_iconst (v := nI 1) dX9_readsCommand_177 (by decide) ?_
    refine rl_goto (tgt := 182) dX9_readsCommand_178 (by decide) ?_
    exact rl_zret dX9_readsCommand_182 rfl rfl (Nat.le_refl 0) (Nat.le_refl 0) H
theorem tX9_sign_0 {n : Nat} {ad : Nat → Nat} {h0 : Hp} {cs : Nat → Nat → Int32} {pm : Nat → Nat → Nat} (L : Lay n ad h0) {Q : Nat → Option Value → Hp → Prop}  (H : (((cs (gMo 0) 6) ≤ (cs (gMo 0) 8) → Q 0 (some (.int (-1))) (HN h0 ad cs pm)) ∧ (¬ (cs (gMo 0) 6) ≤ (cs (gMo 0) 8) → (∃ j_2 : Nat, cs (gMo 0) 8 = nI j_2 ∧ j_2 < 60 ∧ (Q 0 (some (.int (cs (gMo 4) j_2))) (HN h0 ad cs pm)))))) : Wm mX9_sign 0 0 0 Q 0 [some (.ref (ad (gMo 0)))] [] (HN h0 ad cs pm) 0 0 := by
  refine rl_aload_n dX9_sign_0 rfl rfl ?_
  refine rt_getI (k := 8) cfX9 dX9_sign_1 flX9_155 (by decide) rfl (lMo0 L) nzMo ?_
  refine rl_aload_n dX9_sign_4 rfl rfl ?_
  refine rt_getI (k := 6) cfX9 dX9_sign_5 flX9_152 (by decide) rfl (lMo0 L) nzMo ?_
  refine rl_icmp_ge (tgt := 23) dX9_sign_8 (by decide) (fun c_1 => ?_) (fun c_1 => ?_)
  · have H := H.1 c_1
    refine rl_iconst (v := -1) dX9_sign_23 (by decide) ?_
    exact rl_iret dX9_sign_24 rfl (Nat.le_refl 0) (Nat.le_refl 0) H
  · have H := H.2 c_1
    refine rl_aload_n dX9_sign_11 rfl rfl ?_
    refine rt_getP (k := 5) cfX9 dX9_sign_12 flX9_19 (by decide) rfl (lMo0 L) (rMo5 L) naMo ?_
    refine rl_aload_n dX9_sign_15 rfl rfl ?_
    refine rt_getI (k := 8) cfX9 dX9_sign_16 flX9_155 (by decide) rfl (lMo0 L) nzMo ?_
    obtain ⟨j_2, e_3, b_4, H⟩ := H
    refine rt_iald (j := j_2) dX9_sign_19 (lMo4 L) nzMo e_3 b_4 (by decide) ?_
    refine rl_goto (tgt := 24) dX9_sign_20 (by decide) ?_
    exact rl_iret dX9_sign_24 rfl (Nat.le_refl 0) (Nat.le_refl 0) H
theorem tX9_readsNumber_0 {n : Nat} {ad : Nat → Nat} {h0 : Hp} {cs : Nat → Nat → Int32} {pm : Nat → Nat → Nat} (L : Lay n ad h0) {Q : Nat → Option Value → Hp → Prop}  (H : Wm mX9_readsNumber 1 0 0 Q 7 [some (.ref (ad (gMo 0))), some (.int (cs (gMo 0) 8)), some (.int (nI 0))] [] (HN h0 ad cs pm) 0 0) : Wm mX9_readsNumber 1 0 0 Q 0 [some (.ref (ad (gMo 0))), none, none] [] (HN h0 ad cs pm) 0 0 := by
  refine rl_aload_n dX9_readsNumber_0 rfl rfl ?_
  refine rt_getI (k := 8) cfX9 dX9_readsNumber_1 flX9_155 (by decide) rfl (lMo0 L) nzMo ?_
  refine rl_istore_n (L' := [some (.ref (ad (gMo 0))), some (.int (cs (gMo 0) 8)), none]) dX9_readsNumber_4 rfl (Nat.le_of_ble_eq_true rfl) rfl ?_
  refine rl_iconst (v := nI 0) dX9_readsNumber_5 (by decide) ?_
  refine rl_istore_n (L' := [some (.ref (ad (gMo 0))), some (.int (cs (gMo 0) 8)), some (.int (nI 0))]) dX9_readsNumber_6 rfl (Nat.le_of_ble_eq_true rfl) rfl ?_
  exact H
theorem tX9_readsNumber_7 {n : Nat} {ad : Nat → Nat} {h0 : Hp} {cs : Nat → Nat → Int32} {pm : Nat → Nat → Nat} (L : Lay n ad h0) {Q : Nat → Option Value → Hp → Prop} {x1 x2 : Int32} (H : CKi mX9_sign 0 0 0 [some (.ref (ad (gMo 0)))] (HN h0 ad cs pm) (fun v h' => Wm mX9_readsNumber 1 0 0 Q 11 [some (.ref (ad (gMo 0))), some (.int x1), some (.int x2)] [.int v] h' 0 0)) : Wm mX9_readsNumber 1 0 0 Q 7 [some (.ref (ad (gMo 0))), some (.int x1), some (.int x2)] [] (HN h0 ad cs pm) 0 0 := by
  refine rl_aload_n dX9_readsNumber_7 rfl rfl ?_
  exact rl_callV (As := []) (rest := []) mfX9_sign dX9_readsNumber_8 lkX9_158 (lMo0 L).K (by decide) (Nat.le_of_ble_eq_true rfl) (Nat.le_refl _) (Nat.le_refl _) rfl (Nat.le_of_ble_eq_true rfl) rfl rfl (fun Qc k => H Qc (fun v h' w => k (some (.int v)) h' w))
theorem tX9_readsNumber_11 {n : Nat} {ad : Nat → Nat} {h0 : Hp} {cs : Nat → Nat → Int32} {pm : Nat → Nat → Nat} (L : Lay n ad h0) {Q : Nat → Option Value → Hp → Prop} {x1 x2 xs0 : Int32} (H : CKi mX9_in 0 0 0 [some (.int xs0), some (.int (nI 48)), some (.int (nI 57))] (HN h0 ad cs pm) (fun v h' => Wm mX9_readsNumber 1 0 0 Q 18 [some (.ref (ad (gMo 0))), some (.int x1), some (.int x2)] [.int v] h' 0 0)) : Wm mX9_readsNumber 1 0 0 Q 11 [some (.ref (ad (gMo 0))), some (.int x1), some (.int x2)] [.int xs0] (HN h0 ad cs pm) 0 0 := by
  refine rl_bipush (v := nI 48) dX9_readsNumber_11 (by decide) ?_
  refine rl_bipush (v := nI 57) dX9_readsNumber_13 (by decide) ?_
  exact rl_callS (As := [.int xs0, .int (nI 48), .int (nI 57)]) (rest := []) mfX9_in dX9_readsNumber_15 lkX9_48 (by decide) (Nat.le_of_ble_eq_true rfl) (Nat.le_refl _) (Nat.le_refl _) rfl (Nat.le_of_ble_eq_true rfl) rfl rfl (fun Qc k => H Qc (fun v h' w => k (some (.int v)) h' w))
theorem tX9_readsNumber_18 {n : Nat} {ad : Nat → Nat} {h0 : Hp} {cs : Nat → Nat → Int32} {pm : Nat → Nat → Nat} (L : Lay n ad h0) {Q : Nat → Option Value → Hp → Prop} {x1 x2 xs0 : Int32} (H : ((xs0 = 0 → Wm mX9_readsNumber 1 0 0 Q 57 [some (.ref (ad (gMo 0))), some (.int x1), some (.int x2)] [] (HN h0 ad cs pm) 0 0) ∧ (¬ xs0 = 0 → (((nI 3) ≤ ((cs (gMo 0) 8) - x1) → Wm mX9_readsNumber 1 0 0 Q 57 [some (.ref (ad (gMo 0))), some (.int x1), some (.int x2)] [] (HN h0 ad cs pm) 0 0) ∧ (¬ (nI 3) ≤ ((cs (gMo 0) 8) - x1) → CKi mX9_sign 0 0 0 [some (.ref (ad (gMo 0)))] (HN h0 ad cs pm) (fun v h' => Wm mX9_readsNumber 1 0 0 Q 39 [some (.ref (ad (gMo 0))), some (.int x1), none] [.int v, .int ((nI 10) * x2)] h' 0 0)))))) : Wm mX9_readsNumber 1 0 0 Q 18 [some (.ref (ad (gMo 0))), some (.int x1), some (.int x2)] [.int xs0] (HN h0 ad cs pm) 0 0 := by
  refine rl_if_eq (tgt := 57) dX9_readsNumber_18 (by decide) (fun c_1 => ?_) (fun c_1 => ?_)
  · have H := H.1 c_1
    exact H
  · have H := H.2 c_1
    refine rl_aload_n dX9_readsNumber_21 rfl rfl ?_
    refine rt_getI (k := 8) cfX9 dX9_readsNumber_22 flX9_155 (by decide) rfl (lMo0 L) nzMo ?_
    refine rl_iload_n dX9_readsNumber_25 rfl rfl ?_
    refine rl_isub dX9_readsNumber_26 ?_
    refine rl_iconst (v := nI 3) dX9_readsNumber_27 (by decide) ?_
    refine rl_icmp_ge (tgt := 57) dX9_readsNumber_28 (by decide) (fun c_2 => ?_) (fun c_2 => ?_)
    · have H := H.1 c_2
      exact H
    · have H := H.2 c_2
      refine rl_bipush (v := nI 10) dX9_readsNumber_31 (by decide) ?_
      refine rl_iload_n dX9_readsNumber_33 rfl rfl ?_
      refine rl_imul dX9_readsNumber_34 ?_
      refine rl_aload_n dX9_readsNumber_35 rfl rfl ?_
      exact rl_callV (As := []) (rest := [.int ((nI 10) * x2)]) mfX9_sign dX9_readsNumber_36 lkX9_158 (lMo0 L).K (by decide) (Nat.le_of_ble_eq_true rfl) (Nat.le_refl _) (Nat.le_refl _) rfl (Nat.le_of_ble_eq_true rfl) rfl rfl (fun Qc k => H Qc (fun v h' w => k (some (.int v)) h' (rl_wk (L' := [some (.ref (ad (gMo 0))), some (.int x1), none]) ⟨rfl, ⟨rfl, trivial⟩⟩ w)))
theorem tX9_readsNumber_39 {n : Nat} {ad : Nat → Nat} {h0 : Hp} {cs : Nat → Nat → Int32} {pm : Nat → Nat → Nat} (L : Lay n ad h0) {Q : Nat → Option Value → Hp → Prop} {x1 xs0 xs1 : Int32} (H : Wm mX9_readsNumber 1 0 0 Q 7 [some (.ref (ad (gMo 0))), some (.int x1), some (.int ((xs0 + xs1) - (nI 48)))] [] (HN h0 ad (up2 cs (gMo 0) 8 ((cs (gMo 0) 8) + (nI 1))) pm) 0 0) : Wm mX9_readsNumber 1 0 0 Q 39 [some (.ref (ad (gMo 0))), some (.int x1), none] [.int xs1, .int xs0] (HN h0 ad cs pm) 0 0 := by
  refine rl_iadd dX9_readsNumber_39 ?_
  refine rl_bipush (v := nI 48) dX9_readsNumber_40 (by decide) ?_
  refine rl_isub dX9_readsNumber_42 ?_
  refine rl_istore_n (L' := [some (.ref (ad (gMo 0))), some (.int x1), some (.int ((xs0 + xs1) - (nI 48)))]) dX9_readsNumber_43 rfl (Nat.le_of_ble_eq_true rfl) rfl ?_
  refine rl_aload_n dX9_readsNumber_44 rfl rfl ?_
  refine rl_dup dX9_readsNumber_45 rfl ?_
  refine rt_getI (k := 8) cfX9 dX9_readsNumber_46 flX9_155 (by decide) rfl (lMo0 L) nzMo ?_
  refine rl_iconst (v := nI 1) dX9_readsNumber_49 (by decide) ?_
  refine rl_iadd dX9_readsNumber_50 ?_
  refine rt_putI (k := 8) L.2.1 cfX9 dX9_readsNumber_51 flX9_155 (by decide) rfl (lMo0 L) nzMo (Or.inl rfl) ?_
  refine rl_goto (tgt := 7) dX9_readsNumber_54 (by decide) ?_
  exact H
theorem tX9_readsNumber_57 {n : Nat} {ad : Nat → Nat} {h0 : Hp} {cs : Nat → Nat → Int32} {pm : Nat → Nat → Nat} (L : Lay n ad h0) {Q : Nat → Option Value → Hp → Prop} {x1 x2 : Int32} (H : (∃ j_1 : Nat, cs (gMo 0) 9 = nI j_1 ∧ j_1 < 60 ∧ ((((cs (gMo 0) 8) ≤ x1 → Q 0 (some (.int (nI 0))) (HN h0 ad (up2 cs (gMo 8) j_1 x2) pm)) ∧ (¬ (cs (gMo 0) 8) ≤ x1 → Q 0 (some (.int (nI 1))) (HN h0 ad (up2 cs (gMo 8) j_1 x2) pm)))))) : Wm mX9_readsNumber 1 0 0 Q 57 [some (.ref (ad (gMo 0))), some (.int x1), some (.int x2)] [] (HN h0 ad cs pm) 0 0 := by
  refine rl_aload_n dX9_readsNumber_57 rfl rfl ?_
  refine rt_getP (k := 13) cfX9 dX9_readsNumber_58 flX9_31 (by decide) rfl (lMo0 L) (rMo13 L) naMo ?_
  refine rl_aload_n dX9_readsNumber_61 rfl rfl ?_
  refine rt_getI (k := 9) cfX9 dX9_readsNumber_62 flX9_164 (by decide) rfl (lMo0 L) nzMo ?_
  refine rl_iload_n dX9_readsNumber_65 rfl rfl ?_
  obtain ⟨j_1, e_2, b_3, H⟩ := H
  refine rt_iast (j := j_1) L.2.1 dX9_readsNumber_66 (lMo8 L) nzMo e_2 b_3 (by decide) ?_
  refine rl_aload_n dX9_readsNumber_67 rfl rfl ?_
  refine rt_getIv (x := cs (gMo 0) 8) (k := 8) cfX9 dX9_readsNumber_68 flX9_155 (by decide) rfl (lMo0 L) nzMo ((up2_a (by decide)).trans (rfl)) ?_
  refine rl_iload_n dX9_readsNumber_71 rfl rfl ?_
  refine rl_icmp_le (tgt := 79) dX9_readsNumber_72 (by decide) (fun c_4 => ?_) (fun c_4 => ?_)
  · have H := H.1 c_4
    refine rl_iconst (v := nI 0) dX9_readsNumber_79 (by decide) ?_
    exact rl_zret dX9_readsNumber_80 rfl rfl (Nat.le_refl 0) (Nat.le_refl 0) H
  · have H := H.2 c_4
    refine rl_iconst (v := nI 1) dX9_readsNumber_75 (by decide) ?_
    refine rl_goto (tgt := 80) dX9_readsNumber_76 (by decide) ?_
    exact rl_zret dX9_readsNumber_80 rfl rfl (Nat.le_refl 0) (Nat.le_refl 0) H
theorem tX9_readsSite_0 {n : Nat} {ad : Nat → Nat} {h0 : Hp} {cs : Nat → Nat → Int32} {pm : Nat → Nat → Nat} (L : Lay n ad h0) {Q : Nat → Option Value → Hp → Prop}  (H : CKi mX9_sign 0 0 0 [some (.ref (ad (gMo 0)))] (HN h0 ad cs pm) (fun v h' => Wm mX9_readsSite 1 0 0 Q 4 [some (.ref (ad (gMo 0))), none] [.int v] h' 0 0)) : Wm mX9_readsSite 1 0 0 Q 0 [some (.ref (ad (gMo 0))), none] [] (HN h0 ad cs pm) 0 0 := by
  refine rl_aload_n dX9_readsSite_0 rfl rfl ?_
  exact rl_callV (As := []) (rest := []) mfX9_sign dX9_readsSite_1 lkX9_158 (lMo0 L).K (by decide) (Nat.le_of_ble_eq_true rfl) (Nat.le_refl _) (Nat.le_refl _) rfl (Nat.le_of_ble_eq_true rfl) rfl rfl (fun Qc k => H Qc (fun v h' w => k (some (.int v)) h' w))
theorem tX9_readsSite_4 {n : Nat} {ad : Nat → Nat} {h0 : Hp} {cs : Nat → Nat → Int32} {pm : Nat → Nat → Nat} (L : Lay n ad h0) {Q : Nat → Option Value → Hp → Prop} {xs0 : Int32} (H : CKi mX9_in 0 0 0 [some (.int xs0), some (.int (nI 48)), some (.int (nI 57))] (HN h0 ad cs pm) (fun v h' => Wm mX9_readsSite 1 0 0 Q 11 [some (.ref (ad (gMo 0))), none] [.int v] h' 0 0)) : Wm mX9_readsSite 1 0 0 Q 4 [some (.ref (ad (gMo 0))), none] [.int xs0] (HN h0 ad cs pm) 0 0 := by
  refine rl_bipush (v := nI 48) dX9_readsSite_4 (by decide) ?_
  refine rl_bipush (v := nI 57) dX9_readsSite_6 (by decide) ?_
  exact rl_callS (As := [.int xs0, .int (nI 48), .int (nI 57)]) (rest := []) mfX9_in dX9_readsSite_8 lkX9_48 (by decide) (Nat.le_of_ble_eq_true rfl) (Nat.le_refl _) (Nat.le_refl _) rfl (Nat.le_of_ble_eq_true rfl) rfl rfl (fun Qc k => H Qc (fun v h' w => k (some (.int v)) h' w))
theorem tX9_readsSite_11 {n : Nat} {ad : Nat → Nat} {h0 : Hp} {cs : Nat → Nat → Int32} {pm : Nat → Nat → Nat} (L : Lay n ad h0) {Q : Nat → Option Value → Hp → Prop} {xs0 : Int32} (H : ((xs0 = 0 → ((xs0 = 0 → narrow .boolean (.int xs0) = .int xs0 ∧ Q 0 (some (.int xs0)) (HN h0 ad (up2 (up2 cs (gMo 0) 14 (nI 0)) (gMo 0) 8 ((cs (gMo 0) 8) + (nI 0))) pm)) ∧ (¬ xs0 = 0 → narrow .boolean (.int xs0) = .int xs0 ∧ Q 0 (some (.int xs0)) (HN h0 ad (up2 (up2 cs (gMo 0) 14 (nI 0)) (gMo 0) 8 ((cs (gMo 0) 8) + (nI 1))) pm)))) ∧ (¬ xs0 = 0 → CKi mX9_sign 0 0 0 [some (.ref (ad (gMo 0)))] (HN h0 ad cs pm) (fun v h' => Wm mX9_readsSite 1 0 0 Q 21 [some (.ref (ad (gMo 0))), some (.int xs0)] [.int v, .ref (ad (gMo 0))] h' 0 0)))) : Wm mX9_readsSite 1 0 0 Q 11 [some (.ref (ad (gMo 0))), none] [.int xs0] (HN h0 ad cs pm) 0 0 := by
  refine rl_istore_n (L' := [some (.ref (ad (gMo 0))), some (.int xs0)]) dX9_readsSite_11 rfl (Nat.le_of_ble_eq_true rfl) rfl ?_
  refine rl_aload_n dX9_readsSite_12 rfl rfl ?_
  refine rl_iload_n dX9_readsSite_13 rfl rfl ?_
  refine rl_if_eq (tgt := 27) dX9_readsSite_14 (by decide) (fun c_1 => ?_) (fun c_1 => ?_)
  · have H := H.1 c_1
    refine rl_iconst (v := nI 0) dX9_readsSite_27 (by decide) ?_
    refine rt_putI (k := 14) L.2.1 cfX9 dX9_readsSite_28 flX9_161 (by decide) rfl (lMo0 L) nzMo (Or.inl rfl) ?_
    refine rl_aload_n dX9_readsSite_31 rfl rfl ?_
    refine rl_dup dX9_readsSite_32 rfl ?_
    refine rt_getIv (x := cs (gMo 0) 8) (k := 8) cfX9 dX9_readsSite_33 flX9_155 (by decide) rfl (lMo0 L) nzMo ((up2_k (by decide)).trans (rfl)) ?_
    refine rl_iload_n dX9_readsSite_36 rfl rfl ?_
    refine rl_if_eq (tgt := 44) dX9_readsSite_37 (by decide) (fun c_2 => ?_) (fun c_2 => ?_)
    · have H := H.1 c_2
      refine rl_iconst (v := nI 0) dX9_readsSite_44 (by decide) ?_
      refine rl_iadd dX9_readsSite_45 ?_
      refine rt_putI (k := 8) L.2.1 cfX9 dX9_readsSite_46 flX9_155 (by decide) rfl (lMo0 L) nzMo (Or.inl rfl) ?_
      refine rl_iload_n dX9_readsSite_49 rfl rfl ?_
      obtain ⟨o_3, H⟩ := H
      exact rl_zret dX9_readsSite_50 rfl o_3 (Nat.le_refl 0) (Nat.le_refl 0) H
    · have H := H.2 c_2
      refine rl_iconst (v := nI 1) dX9_readsSite_40 (by decide) ?_
      refine rl_goto (tgt := 45) dX9_readsSite_41 (by decide) ?_
      refine rl_iadd dX9_readsSite_45 ?_
      refine rt_putI (k := 8) L.2.1 cfX9 dX9_readsSite_46 flX9_155 (by decide) rfl (lMo0 L) nzMo (Or.inl rfl) ?_
      refine rl_iload_n dX9_readsSite_49 rfl rfl ?_
      obtain ⟨o_4, H⟩ := H
      exact rl_zret dX9_readsSite_50 rfl o_4 (Nat.le_refl 0) (Nat.le_refl 0) H
  · have H := H.2 c_1
    refine rl_aload_n dX9_readsSite_17 rfl rfl ?_
    exact rl_callV (As := []) (rest := [.ref (ad (gMo 0))]) mfX9_sign dX9_readsSite_18 lkX9_158 (lMo0 L).K (by decide) (Nat.le_of_ble_eq_true rfl) (Nat.le_refl _) (Nat.le_refl _) rfl (Nat.le_of_ble_eq_true rfl) rfl rfl (fun Qc k => H Qc (fun v h' w => k (some (.int v)) h' w))
theorem tX9_readsSite_21 {n : Nat} {ad : Nat → Nat} {h0 : Hp} {cs : Nat → Nat → Int32} {pm : Nat → Nat → Nat} (L : Lay n ad h0) {Q : Nat → Option Value → Hp → Prop} {x1 xs1 : Int32} (H : ((x1 = 0 → narrow .boolean (.int x1) = .int x1 ∧ Q 0 (some (.int x1)) (HN h0 ad (up2 (up2 cs (gMo 0) 14 (xs1 - (nI 48))) (gMo 0) 8 ((cs (gMo 0) 8) + (nI 0))) pm)) ∧ (¬ x1 = 0 → narrow .boolean (.int x1) = .int x1 ∧ Q 0 (some (.int x1)) (HN h0 ad (up2 (up2 cs (gMo 0) 14 (xs1 - (nI 48))) (gMo 0) 8 ((cs (gMo 0) 8) + (nI 1))) pm)))) : Wm mX9_readsSite 1 0 0 Q 21 [some (.ref (ad (gMo 0))), some (.int x1)] [.int xs1, .ref (ad (gMo 0))] (HN h0 ad cs pm) 0 0 := by
  refine rl_bipush (v := nI 48) dX9_readsSite_21 (by decide) ?_
  refine rl_isub dX9_readsSite_23 ?_
  refine rl_goto (tgt := 28) dX9_readsSite_24 (by decide) ?_
  refine rt_putI (k := 14) L.2.1 cfX9 dX9_readsSite_28 flX9_161 (by decide) rfl (lMo0 L) nzMo (Or.inl rfl) ?_
  refine rl_aload_n dX9_readsSite_31 rfl rfl ?_
  refine rl_dup dX9_readsSite_32 rfl ?_
  refine rt_getIv (x := cs (gMo 0) 8) (k := 8) cfX9 dX9_readsSite_33 flX9_155 (by decide) rfl (lMo0 L) nzMo ((up2_k (by decide)).trans (rfl)) ?_
  refine rl_iload_n dX9_readsSite_36 rfl rfl ?_
  refine rl_if_eq (tgt := 44) dX9_readsSite_37 (by decide) (fun c_1 => ?_) (fun c_1 => ?_)
  · have H := H.1 c_1
    refine rl_iconst (v := nI 0) dX9_readsSite_44 (by decide) ?_
    refine rl_iadd dX9_readsSite_45 ?_
    refine rt_putI (k := 8) L.2.1 cfX9 dX9_readsSite_46 flX9_155 (by decide) rfl (lMo0 L) nzMo (Or.inl rfl) ?_
    refine rl_iload_n dX9_readsSite_49 rfl rfl ?_
    obtain ⟨o_2, H⟩ := H
    exact rl_zret dX9_readsSite_50 rfl o_2 (Nat.le_refl 0) (Nat.le_refl 0) H
  · have H := H.2 c_1
    refine rl_iconst (v := nI 1) dX9_readsSite_40 (by decide) ?_
    refine rl_goto (tgt := 45) dX9_readsSite_41 (by decide) ?_
    refine rl_iadd dX9_readsSite_45 ?_
    refine rt_putI (k := 8) L.2.1 cfX9 dX9_readsSite_46 flX9_155 (by decide) rfl (lMo0 L) nzMo (Or.inl rfl) ?_
    refine rl_iload_n dX9_readsSite_49 rfl rfl ?_
    obtain ⟨o_3, H⟩ := H
    exact rl_zret dX9_readsSite_50 rfl o_3 (Nat.le_refl 0) (Nat.le_refl 0) H
theorem tX9_takes_0 {n : Nat} {ad : Nat → Nat} {h0 : Hp} {cs : Nat → Nat → Int32} {pm : Nat → Nat → Nat} (L : Lay n ad h0) {Q : Nat → Option Value → Hp → Prop} {x1 : Int32} (H : CKi mX9_sign 0 0 0 [some (.ref (ad (gMo 0)))] (HN h0 ad cs pm) (fun v h' => Wm mX9_takes 1 0 0 Q 4 [some (.ref (ad (gMo 0))), some (.int x1), none] [.int v] h' 0 0)) : Wm mX9_takes 1 0 0 Q 0 [some (.ref (ad (gMo 0))), some (.int x1), none] [] (HN h0 ad cs pm) 0 0 := by
  refine rl_aload_n dX9_takes_0 rfl rfl ?_
  exact rl_callV (As := []) (rest := []) mfX9_sign dX9_takes_1 lkX9_158 (lMo0 L).K (by decide) (Nat.le_of_ble_eq_true rfl) (Nat.le_refl _) (Nat.le_refl _) rfl (Nat.le_of_ble_eq_true rfl) rfl rfl (fun Qc k => H Qc (fun v h' w => k (some (.int v)) h' w))
theorem tX9_takes_4 {n : Nat} {ad : Nat → Nat} {h0 : Hp} {cs : Nat → Nat → Int32} {pm : Nat → Nat → Nat} (L : Lay n ad h0) {Q : Nat → Option Value → Hp → Prop} {x1 xs0 : Int32} (H : ((¬ xs0 = x1 → Q 0 (some (.int (nI 0))) (HN h0 ad (up2 cs (gMo 0) 8 ((cs (gMo 0) 8) + (nI 0))) pm)) ∧ (xs0 = x1 → Q 0 (some (.int (nI 1))) (HN h0 ad (up2 cs (gMo 0) 8 ((cs (gMo 0) 8) + (nI 1))) pm)))) : Wm mX9_takes 1 0 0 Q 4 [some (.ref (ad (gMo 0))), some (.int x1), none] [.int xs0] (HN h0 ad cs pm) 0 0 := by
  refine rl_iload_n dX9_takes_4 rfl rfl ?_
  refine rl_icmp_ne (tgt := 12) dX9_takes_5 (by decide) (fun c_1 => ?_) (fun c_1 => ?_)
  · have H := H.1 c_1
    refine rl_iconst (v := nI 0) dX9_takes_12 (by decide) ?_
    refine rl_istore_n (L' := [some (.ref (ad (gMo 0))), some (.int x1), some (.int (nI 0))]) dX9_takes_13 rfl (Nat.le_of_ble_eq_true rfl) rfl ?_
    refine rl_aload_n dX9_takes_14 rfl rfl ?_
    refine rl_dup dX9_takes_15 rfl ?_
    refine rt_getI (k := 8) cfX9 dX9_takes_16 flX9_155 (by decide) rfl (lMo0 L) nzMo ?_
    refine rl_iload_n dX9_takes_19 rfl rfl ?_
    refine rl_if_eq (tgt := 27) dX9_takes_20 (by decide) (fun _ => ?_) (fun q => absurd q (by decide))
    refine rl_iconst (v := nI 0) dX9_takes_27 (by decide) ?_
    refine rl_iadd dX9_takes_28 ?_
    refine rt_putI (k := 8) L.2.1 cfX9 dX9_takes_29 flX9_155 (by decide) rfl (lMo0 L) nzMo (Or.inl rfl) ?_
    refine rl_iload_n dX9_takes_32 rfl rfl ?_
    exact rl_zret dX9_takes_33 rfl rfl (Nat.le_refl 0) (Nat.le_refl 0) H
  · have H := H.2 c_1
    refine rl_iconst (v := nI 1) dX9_takes_8 (by decide) ?_
    refine rl_goto (tgt := 13) dX9_takes_9 (by decide) ?_
    refine rl_istore_n (L' := [some (.ref (ad (gMo 0))), some (.int x1), some (.int (nI 1))]) dX9_takes_13 rfl (Nat.le_of_ble_eq_true rfl) rfl ?_
    refine rl_aload_n dX9_takes_14 rfl rfl ?_
    refine rl_dup dX9_takes_15 rfl ?_
    refine rt_getI (k := 8) cfX9 dX9_takes_16 flX9_155 (by decide) rfl (lMo0 L) nzMo ?_
    refine rl_iload_n dX9_takes_19 rfl rfl ?_
    refine rl_if_eq (tgt := 27) dX9_takes_20 (by decide) (fun q => absurd q (by decide)) (fun _ => ?_)
    refine rl_iconst (v := nI 1) dX9_takes_23 (by decide) ?_
    refine rl_goto (tgt := 28) dX9_takes_24 (by decide) ?_
    refine rl_iadd dX9_takes_28 ?_
    refine rt_putI (k := 8) L.2.1 cfX9 dX9_takes_29 flX9_155 (by decide) rfl (lMo0 L) nzMo (Or.inl rfl) ?_
    refine rl_iload_n dX9_takes_32 rfl rfl ?_
    exact rl_zret dX9_takes_33 rfl rfl (Nat.le_refl 0) (Nat.le_refl 0) H
theorem tX9_does_0 {n : Nat} {ad : Nat → Nat} {h0 : Hp} {cs : Nat → Nat → Int32} {pm : Nat → Nat → Nat} (L : Lay n ad h0) {Q : Nat → Option Value → Hp → Prop} {x1 : Int32} (H : (∃ j_1 : Nat, x1 = nI j_1 ∧ j_1 < 60 ∧ (((¬ (cs (gMo 5) j_1) = (nI 116) → (((cs (gMo 5) j_1) = (nI 43) → Wm mX9_does 6 0 0 Q 88 [some (.ref (ad (gMo 0))), none, some (.int (cs (gMo 5) j_1)), some (.int (cs (gMo 6) j_1)), none, some (.int (cs (gMo 8) j_1)), none] [] (HN h0 ad cs pm) 0 0) ∧ (¬ (cs (gMo 5) j_1) = (nI 43) → ((¬ (cs (gMo 5) j_1) = (nI 45) → CKi mX9_isSite 1 0 0 [some (.ref (ad (gMo 0))), some (.int (cs (gMo 6) j_1))] (HN h0 ad cs pm) (fun v h' => Wm mX9_does 6 0 0 Q 140 [some (.ref (ad (gMo 0))), none, some (.int (cs (gMo 5) j_1)), some (.int (cs (gMo 6) j_1)), some (.int (cs (gMo 7) j_1)), some (.int (cs (gMo 8) j_1)), none] [.int v] h' 0 0)) ∧ ((cs (gMo 5) j_1) = (nI 45) → Wm mX9_does 6 0 0 Q 88 [some (.ref (ad (gMo 0))), none, some (.int (cs (gMo 5) j_1)), some (.int (cs (gMo 6) j_1)), none, some (.int (cs (gMo 8) j_1)), none] [] (HN h0 ad cs pm) 0 0))))) ∧ ((cs (gMo 5) j_1) = (nI 116) → CKi mX9_in 0 0 0 [some (.int (cs (gMo 8) j_1)), some (.int (nI 1)), some (.int (nI 999))] (HN h0 ad (up2 cs (gMo 1) 0 ((cs (gMo 1) 0) + (cs (gMo 8) j_1))) pm) (fun v h' => Wm mX9_does 6 0 0 Q 56 [some (.ref (ad (gMo 0))), none, none, none, none, none, none] [.int v] h' 0 0)))))) : Wm mX9_does 6 0 0 Q 0 [some (.ref (ad (gMo 0))), some (.int x1), none, none, none, none, none] [] (HN h0 ad cs pm) 0 0 := by
  refine rl_aload_n dX9_does_0 rfl rfl ?_
  refine rt_getP (k := 10) cfX9 dX9_does_1 flX9_22 (by decide) rfl (lMo0 L) (rMo10 L) naMo ?_
  refine rl_iload_n dX9_does_4 rfl rfl ?_
  obtain ⟨j_1, e_2, b_3, H⟩ := H
  refine rt_iald (j := j_1) dX9_does_5 (lMo5 L) nzMo e_2 b_3 (by decide) ?_
  refine rl_istore_n (L' := [some (.ref (ad (gMo 0))), some (.int x1), some (.int (cs (gMo 5) j_1)), none, none, none, none]) dX9_does_6 rfl (Nat.le_of_ble_eq_true rfl) rfl ?_
  refine rl_aload_n dX9_does_7 rfl rfl ?_
  refine rt_getP (k := 11) cfX9 dX9_does_8 flX9_25 (by decide) rfl (lMo0 L) (rMo11 L) naMo ?_
  refine rl_iload_n dX9_does_11 rfl rfl ?_
  refine rt_iald (j := j_1) dX9_does_12 (lMo6 L) nzMo e_2 b_3 (by decide) ?_
  refine rl_istore_n (L' := [some (.ref (ad (gMo 0))), some (.int x1), some (.int (cs (gMo 5) j_1)), some (.int (cs (gMo 6) j_1)), none, none, none]) dX9_does_13 rfl (Nat.le_of_ble_eq_true rfl) rfl ?_
  refine rl_aload_n dX9_does_14 rfl rfl ?_
  refine rt_getP (k := 12) cfX9 dX9_does_15 flX9_28 (by decide) rfl (lMo0 L) (rMo12 L) naMo ?_
  refine rl_iload_n dX9_does_18 rfl rfl ?_
  refine rt_iald (j := j_1) dX9_does_19 (lMo7 L) nzMo e_2 b_3 (by decide) ?_
  refine rl_istore (L' := [some (.ref (ad (gMo 0))), some (.int x1), some (.int (cs (gMo 5) j_1)), some (.int (cs (gMo 6) j_1)), some (.int (cs (gMo 7) j_1)), none, none]) dX9_does_20 (Nat.le_of_ble_eq_true rfl) rfl ?_
  refine rl_aload_n dX9_does_22 rfl rfl ?_
  refine rt_getP (k := 13) cfX9 dX9_does_23 flX9_31 (by decide) rfl (lMo0 L) (rMo13 L) naMo ?_
  refine rl_iload_n dX9_does_26 rfl rfl ?_
  refine rt_iald (j := j_1) dX9_does_27 (lMo8 L) nzMo e_2 b_3 (by decide) ?_
  refine rl_istore (L' := [some (.ref (ad (gMo 0))), some (.int x1), some (.int (cs (gMo 5) j_1)), some (.int (cs (gMo 6) j_1)), some (.int (cs (gMo 7) j_1)), some (.int (cs (gMo 8) j_1)), none]) dX9_does_28 (Nat.le_of_ble_eq_true rfl) rfl ?_
  refine rl_iload_n dX9_does_30 rfl rfl ?_
  refine rl_bipush (v := nI 116) dX9_does_31 (by decide) ?_
  refine rl_icmp_ne (tgt := 76) dX9_does_33 (by decide) (fun c_4 => ?_) (fun c_4 => ?_)
  · have H := H.1 c_4
    refine rl_iload_n dX9_does_76 rfl rfl ?_
    refine rl_bipush (v := nI 43) dX9_does_77 (by decide) ?_
    refine rl_icmp_eq (tgt := 88) dX9_does_79 (by decide) (fun c_5 => ?_) (fun c_5 => ?_)
    · have H := H.1 c_5
      refine rl_wk (L' := [some (.ref (ad (gMo 0))), none, some (.int (cs (gMo 5) j_1)), some (.int (cs (gMo 6) j_1)), none, some (.int (cs (gMo 8) j_1)), none]) ⟨rfl, ⟨rfl, ⟨rfl, ⟨rfl, trivial⟩⟩⟩⟩ ?_
      exact H
    · have H := H.2 c_5
      refine rl_iload_n dX9_does_82 rfl rfl ?_
      refine rl_bipush (v := nI 45) dX9_does_83 (by decide) ?_
      refine rl_icmp_ne (tgt := 135) dX9_does_85 (by decide) (fun c_6 => ?_) (fun c_6 => ?_)
      · have H := H.1 c_6
        refine rl_aload_n dX9_does_135 rfl rfl ?_
        refine rl_iload_n dX9_does_136 rfl rfl ?_
        exact rl_callV (As := [.int (cs (gMo 6) j_1)]) (rest := []) mfX9_isSite dX9_does_137 lkX9_96 (lMo0 L).K (by decide) (Nat.le_of_ble_eq_true rfl) (Nat.le_refl _) (Nat.le_refl _) rfl (Nat.le_of_ble_eq_true rfl) rfl rfl (fun Qc k => H Qc (fun v h' w => k (some (.int v)) h' (rl_wk (L' := [some (.ref (ad (gMo 0))), none, some (.int (cs (gMo 5) j_1)), some (.int (cs (gMo 6) j_1)), some (.int (cs (gMo 7) j_1)), some (.int (cs (gMo 8) j_1)), none]) ⟨rfl, ⟨rfl, ⟨rfl, ⟨rfl, ⟨rfl, trivial⟩⟩⟩⟩⟩ w)))
      · have H := H.2 c_6
        refine rl_wk (L' := [some (.ref (ad (gMo 0))), none, some (.int (cs (gMo 5) j_1)), some (.int (cs (gMo 6) j_1)), none, some (.int (cs (gMo 8) j_1)), none]) ⟨rfl, ⟨rfl, ⟨rfl, ⟨rfl, trivial⟩⟩⟩⟩ ?_
        exact H
  · have H := H.2 c_4
    refine rl_aload_n dX9_does_36 rfl rfl ?_
    refine rt_getP (k := 1) cfX9 dX9_does_37 flX9_7 (by decide) rfl (lMo0 L) (rMo1 L) naMo ?_
    refine rl_iconst (v := nI 0) dX9_does_40 (by decide) ?_
    refine rl_dup2 dX9_does_41 rfl rfl ?_
    refine rt_iald (j := 0) dX9_does_42 (lMo1 L) nzMo rfl (by decide) (by decide) ?_
    refine rl_iload dX9_does_43 rfl ?_
    refine rl_iadd dX9_does_45 ?_
    refine rt_iast (j := 0) L.2.1 dX9_does_46 (lMo1 L) nzMo rfl (by decide) (by decide) ?_
    refine rl_iload dX9_does_47 rfl ?_
    refine rl_iconst (v := nI 1) dX9_does_49 (by decide) ?_
    refine rl_sipush (v := nI 999) dX9_does_50 (by decide) ?_
    exact rl_callS (As := [.int (cs (gMo 8) j_1), .int (nI 1), .int (nI 999)]) (rest := []) mfX9_in dX9_does_53 lkX9_48 (by decide) (Nat.le_of_ble_eq_true rfl) (Nat.le_refl _) (Nat.le_refl _) rfl (Nat.le_of_ble_eq_true rfl) rfl rfl (fun Qc k => H Qc (fun v h' w => k (some (.int v)) h' (rl_wk (L' := [some (.ref (ad (gMo 0))), none, none, none, none, none, none]) ⟨rfl, trivial⟩ w)))
theorem tX9_does_56 {n : Nat} {ad : Nat → Nat} {h0 : Hp} {cs : Nat → Nat → Int32} {pm : Nat → Nat → Nat} (L : Lay n ad h0) {Q : Nat → Option Value → Hp → Prop} {xs0 : Int32} (H : ((xs0 = 0 → Q 0 (some (.int (nI 0))) (HN h0 ad cs pm)) ∧ (¬ xs0 = 0 → (((nI 1000000) < (cs (gMo 1) 0) → Q 0 (some (.int (nI 0))) (HN h0 ad cs pm)) ∧ (¬ (nI 1000000) < (cs (gMo 1) 0) → Q 0 (some (.int (nI 1))) (HN h0 ad cs pm)))))) : Wm mX9_does 6 0 0 Q 56 [some (.ref (ad (gMo 0))), none, none, none, none, none, none] [.int xs0] (HN h0 ad cs pm) 0 0 := by
  refine rl_if_eq (tgt := 74) dX9_does_56 (by decide) (fun c_1 => ?_) (fun c_1 => ?_)
  · have H := H.1 c_1
    refine rl_iconst (v := nI 0) dX9_does_74 (by decide) ?_
    exact rl_zret dX9_does_75 rfl rfl (Nat.le_refl 0) (Nat.le_refl 0) H
  · have H := H.2 c_1
    refine rl_aload_n dX9_does_59 rfl rfl ?_
    refine rt_getP (k := 1) cfX9 dX9_does_60 flX9_7 (by decide) rfl (lMo0 L) (rMo1 L) naMo ?_
    refine rl_iconst (v := nI 0) dX9_does_63 (by decide) ?_
    refine rt_iald (j := 0) dX9_does_64 (lMo1 L) nzMo rfl (by decide) (by decide) ?_
    refine rl_ldc (v := nI 1000000) dX9_does_65 kcX9_123 ?_
    refine rl_icmp_gt (tgt := 74) dX9_does_67 (by decide) (fun c_2 => ?_) (fun c_2 => ?_)
    · have H := H.1 c_2
      refine rl_iconst (v := nI 0) dX9_does_74 (by decide) ?_
      exact rl_zret dX9_does_75 rfl rfl (Nat.le_refl 0) (Nat.le_refl 0) H
    · have H := H.2 c_2
      refine rl_iconst (v := nI 1) dX9_does_70 (by decide) ?_
      refine rl_goto (tgt := 75) dX9_does_71 (by decide) ?_
      exact rl_zret dX9_does_75 rfl rfl (Nat.le_refl 0) (Nat.le_refl 0) H
theorem tX9_does_88 {n : Nat} {ad : Nat → Nat} {h0 : Hp} {cs : Nat → Nat → Int32} {pm : Nat → Nat → Nat} (L : Lay n ad h0) {Q : Nat → Option Value → Hp → Prop} {x2 x3 x5 : Int32} (H : CKi mX9_isSite 1 0 0 [some (.ref (ad (gMo 0))), some (.int x3)] (HN h0 ad cs pm) (fun v h' => Wm mX9_does 6 0 0 Q 93 [some (.ref (ad (gMo 0))), none, some (.int x2), some (.int x3), none, some (.int x5), none] [.int v] h' 0 0)) : Wm mX9_does 6 0 0 Q 88 [some (.ref (ad (gMo 0))), none, some (.int x2), some (.int x3), none, some (.int x5), none] [] (HN h0 ad cs pm) 0 0 := by
  refine rl_aload_n dX9_does_88 rfl rfl ?_
  refine rl_iload_n dX9_does_89 rfl rfl ?_
  exact rl_callV (As := [.int x3]) (rest := []) mfX9_isSite dX9_does_90 lkX9_96 (lMo0 L).K (by decide) (Nat.le_of_ble_eq_true rfl) (Nat.le_refl _) (Nat.le_refl _) rfl (Nat.le_of_ble_eq_true rfl) rfl rfl (fun Qc k => H Qc (fun v h' w => k (some (.int v)) h' w))
theorem tX9_does_93 {n : Nat} {ad : Nat → Nat} {h0 : Hp} {cs : Nat → Nat → Int32} {pm : Nat → Nat → Nat} (L : Lay n ad h0) {Q : Nat → Option Value → Hp → Prop} {x2 x3 x5 xs0 : Int32} (H : ((xs0 = 0 → Q 0 (some (.int (nI 0))) (HN h0 ad cs pm)) ∧ (¬ xs0 = 0 → CKi mX9_in 0 0 0 [some (.int x5), some (.int (nI 1)), some (.int (nI 999))] (HN h0 ad cs pm) (fun v h' => Wm mX9_does 6 0 0 Q 105 [some (.ref (ad (gMo 0))), none, some (.int x2), some (.int x3), none, some (.int x5), none] [.int v] h' 0 0)))) : Wm mX9_does 6 0 0 Q 93 [some (.ref (ad (gMo 0))), none, some (.int x2), some (.int x3), none, some (.int x5), none] [.int xs0] (HN h0 ad cs pm) 0 0 := by
  refine rl_if_eq (tgt := 133) dX9_does_93 (by decide) (fun c_1 => ?_) (fun c_1 => ?_)
  · have H := H.1 c_1
    refine rl_iconst (v := nI 0) dX9_does_133 (by decide) ?_
    exact rl_zret dX9_does_134 rfl rfl (Nat.le_refl 0) (Nat.le_refl 0) H
  · have H := H.2 c_1
    refine rl_iload dX9_does_96 rfl ?_
    refine rl_iconst (v := nI 1) dX9_does_98 (by decide) ?_
    refine rl_sipush (v := nI 999) dX9_does_99 (by decide) ?_
    exact rl_callS (As := [.int x5, .int (nI 1), .int (nI 999)]) (rest := []) mfX9_in dX9_does_102 lkX9_48 (by decide) (Nat.le_of_ble_eq_true rfl) (Nat.le_refl _) (Nat.le_refl _) rfl (Nat.le_of_ble_eq_true rfl) rfl rfl (fun Qc k => H Qc (fun v h' w => k (some (.int v)) h' w))
theorem tX9_does_105 {n : Nat} {ad : Nat → Nat} {h0 : Hp} {cs : Nat → Nat → Int32} {pm : Nat → Nat → Nat} (L : Lay n ad h0) {Q : Nat → Option Value → Hp → Prop} {x2 x3 x5 xs0 : Int32} (H : ((xs0 = 0 → Q 0 (some (.int (nI 0))) (HN h0 ad cs pm)) ∧ (¬ xs0 = 0 → ((¬ x2 = (nI 43) → CKi mX9_uses 5 0 0 [some (.ref (ad (gMo 0))), some (.int x3), some (.int (nI 1)), some (.int x5), none, none, none, none] (HN h0 ad cs pm) (fun v h' => Wm mX9_does 6 0 0 Q 126 [none, none, none, none, none, none, none] [.int v] h' 0 0)) ∧ (x2 = (nI 43) → CKi mX9_uses 5 0 0 [some (.ref (ad (gMo 0))), some (.int x3), some (.int (nI 0)), some (.int x5), none, none, none, none] (HN h0 ad cs pm) (fun v h' => Wm mX9_does 6 0 0 Q 126 [none, none, none, none, none, none, none] [.int v] h' 0 0)))))) : Wm mX9_does 6 0 0 Q 105 [some (.ref (ad (gMo 0))), none, some (.int x2), some (.int x3), none, some (.int x5), none] [.int xs0] (HN h0 ad cs pm) 0 0 := by
  refine rl_if_eq (tgt := 133) dX9_does_105 (by decide) (fun c_1 => ?_) (fun c_1 => ?_)
  · have H := H.1 c_1
    refine rl_iconst (v := nI 0) dX9_does_133 (by decide) ?_
    exact rl_zret dX9_does_134 rfl rfl (Nat.le_refl 0) (Nat.le_refl 0) H
  · have H := H.2 c_1
    refine rl_aload_n dX9_does_108 rfl rfl ?_
    refine rl_iload_n dX9_does_109 rfl rfl ?_
    refine rl_iload_n dX9_does_110 rfl rfl ?_
    refine rl_bipush (v := nI 43) dX9_does_111 (by decide) ?_
    refine rl_icmp_ne (tgt := 120) dX9_does_113 (by decide) (fun c_2 => ?_) (fun c_2 => ?_)
    · have H := H.1 c_2
      refine rl_iconst (v := nI 1) dX9_does_120 (by decide) ?_
      refine rl_iload dX9_does_121 rfl ?_
      exact rl_callV (As := [.int x3, .int (nI 1), .int x5]) (rest := []) mfX9_uses dX9_does_123 lkX9_102 (lMo0 L).K (by decide) (Nat.le_of_ble_eq_true rfl) (Nat.le_refl _) (Nat.le_refl _) rfl (Nat.le_of_ble_eq_true rfl) rfl rfl (fun Qc k => H Qc (fun v h' w => k (some (.int v)) h' (rl_wk (L' := [none, none, none, none, none, none, none]) trivial w)))
    · have H := H.2 c_2
      refine rl_iconst (v := nI 0) dX9_does_116 (by decide) ?_
      refine rl_goto (tgt := 121) dX9_does_117 (by decide) ?_
      refine rl_iload dX9_does_121 rfl ?_
      exact rl_callV (As := [.int x3, .int (nI 0), .int x5]) (rest := []) mfX9_uses dX9_does_123 lkX9_102 (lMo0 L).K (by decide) (Nat.le_of_ble_eq_true rfl) (Nat.le_refl _) (Nat.le_refl _) rfl (Nat.le_of_ble_eq_true rfl) rfl rfl (fun Qc k => H Qc (fun v h' w => k (some (.int v)) h' (rl_wk (L' := [none, none, none, none, none, none, none]) trivial w)))
theorem tX9_does_126 {n : Nat} {ad : Nat → Nat} {h0 : Hp} {cs : Nat → Nat → Int32} {pm : Nat → Nat → Nat} (L : Lay n ad h0) {Q : Nat → Option Value → Hp → Prop} {xs0 : Int32} (H : ((xs0 = 0 → Q 0 (some (.int (nI 0))) (HN h0 ad cs pm)) ∧ (¬ xs0 = 0 → Q 0 (some (.int (nI 1))) (HN h0 ad cs pm)))) : Wm mX9_does 6 0 0 Q 126 [none, none, none, none, none, none, none] [.int xs0] (HN h0 ad cs pm) 0 0 := by
  refine rl_if_eq (tgt := 133) dX9_does_126 (by decide) (fun c_1 => ?_) (fun c_1 => ?_)
  · have H := H.1 c_1
    refine rl_iconst (v := nI 0) dX9_does_133 (by decide) ?_
    exact rl_zret dX9_does_134 rfl rfl (Nat.le_refl 0) (Nat.le_refl 0) H
  · have H := H.2 c_1
    refine rl_iconst (v := nI 1) dX9_does_129 (by decide) ?_
    refine rl_goto (tgt := 134) dX9_does_130 (by decide) ?_
    exact rl_zret dX9_does_134 rfl rfl (Nat.le_refl 0) (Nat.le_refl 0) H
theorem tX9_does_140 {n : Nat} {ad : Nat → Nat} {h0 : Hp} {cs : Nat → Nat → Int32} {pm : Nat → Nat → Nat} (L : Lay n ad h0) {Q : Nat → Option Value → Hp → Prop} {x2 x3 x4 x5 xs0 : Int32} (H : ((xs0 = 0 → Q 0 (some (.int (nI 0))) (HN h0 ad cs pm)) ∧ (¬ xs0 = 0 → CKi mX9_isSite 1 0 0 [some (.ref (ad (gMo 0))), some (.int x4)] (HN h0 ad cs pm) (fun v h' => Wm mX9_does 6 0 0 Q 149 [some (.ref (ad (gMo 0))), none, some (.int x2), some (.int x3), some (.int x4), some (.int x5), none] [.int v] h' 0 0)))) : Wm mX9_does 6 0 0 Q 140 [some (.ref (ad (gMo 0))), none, some (.int x2), some (.int x3), some (.int x4), some (.int x5), none] [.int xs0] (HN h0 ad cs pm) 0 0 := by
  refine rl_if_eq (tgt := 158) dX9_does_140 (by decide) (fun c_1 => ?_) (fun c_1 => ?_)
  · have H := H.1 c_1
    refine rl_iconst (v := nI 0) dX9_does_158 (by decide) ?_
    exact rl_zret dX9_does_159 rfl rfl (Nat.le_refl 0) (Nat.le_refl 0) H
  · have H := H.2 c_1
    refine rl_aload_n dX9_does_143 rfl rfl ?_
    refine rl_iload dX9_does_144 rfl ?_
    exact rl_callV (As := [.int x4]) (rest := []) mfX9_isSite dX9_does_146 lkX9_96 (lMo0 L).K (by decide) (Nat.le_of_ble_eq_true rfl) (Nat.le_refl _) (Nat.le_refl _) rfl (Nat.le_of_ble_eq_true rfl) rfl rfl (fun Qc k => H Qc (fun v h' w => k (some (.int v)) h' w))
theorem tX9_does_149 {n : Nat} {ad : Nat → Nat} {h0 : Hp} {cs : Nat → Nat → Int32} {pm : Nat → Nat → Nat} (L : Lay n ad h0) {Q : Nat → Option Value → Hp → Prop} {x2 x3 x4 x5 xs0 : Int32} (H : ((xs0 = 0 → Q 0 (some (.int (nI 0))) (HN h0 ad cs pm)) ∧ (¬ xs0 = 0 → ((¬ x3 = x4 → ((¬ x2 = (nI 109) → ((¬ x2 = (nI 117) → ((x5 < (nI 1) → Q 0 (some (.int (nI 0))) (HN h0 ad cs pm)) ∧ (¬ x5 < (nI 1) → CKi mX9_ownRights 3 0 0 [some (.ref (ad (gMo 0))), some (.int x3), some (.int (nI 1)), none, none, none, none, none] (HN h0 ad cs pm) (fun v h' => Wm mX9_does 6 0 0 Q 219 [some (.ref (ad (gMo 0))), none, none, some (.int x3), some (.int x4), some (.int x5), some (.int (nI 1))] [.int v] h' 0 0)))) ∧ (x2 = (nI 117) → ((x5 < (nI 1) → Q 0 (some (.int (nI 0))) (HN h0 ad cs pm)) ∧ (¬ x5 < (nI 1) → CKi mX9_ownRights 3 0 0 [some (.ref (ad (gMo 0))), some (.int x3), some (.int (nI 0)), none, none, none, none, none] (HN h0 ad cs pm) (fun v h' => Wm mX9_does 6 0 0 Q 219 [some (.ref (ad (gMo 0))), none, none, some (.int x3), some (.int x4), some (.int x5), some (.int (nI 0))] [.int v] h' 0 0)))))) ∧ (x2 = (nI 109) → (((nI 8) ≤ (cs (gMo 1) 5) → Q 0 (some (.int (nI 0))) (HN h0 ad cs pm)) ∧ (¬ (nI 8) ≤ (cs (gMo 1) 5) → CKi mX9_passesOn 3 0 0 [some (.ref (ad (gMo 0))), some (.int x3), some (.int x4), none] (HN h0 ad cs pm) (fun v h' => Wm mX9_does 6 0 0 Q 184 [none, none, none, none, none, none, none] [.int v] h' 0 0)))))) ∧ (x3 = x4 → Q 0 (some (.int (nI 0))) (HN h0 ad cs pm)))))) : Wm mX9_does 6 0 0 Q 149 [some (.ref (ad (gMo 0))), none, some (.int x2), some (.int x3), some (.int x4), some (.int x5), none] [.int xs0] (HN h0 ad cs pm) 0 0 := by
  refine rl_if_eq (tgt := 158) dX9_does_149 (by decide) (fun c_1 => ?_) (fun c_1 => ?_)
  · have H := H.1 c_1
    refine rl_iconst (v := nI 0) dX9_does_158 (by decide) ?_
    exact rl_zret dX9_does_159 rfl rfl (Nat.le_refl 0) (Nat.le_refl 0) H
  · have H := H.2 c_1
    refine rl_iload_n dX9_does_152 rfl rfl ?_
    refine rl_iload dX9_does_153 rfl ?_
    refine rl_icmp_ne (tgt := 160) dX9_does_155 (by decide) (fun c_2 => ?_) (fun c_2 => ?_)
    · have H := H.1 c_2
      refine rl_iload_n dX9_does_160 rfl rfl ?_
      refine rl_bipush (v := nI 109) dX9_does_161 (by decide) ?_
      refine rl_icmp_ne (tgt := 193) dX9_does_163 (by decide) (fun c_3 => ?_) (fun c_3 => ?_)
      · have H := H.1 c_3
        refine rl_iload_n dX9_does_193 rfl rfl ?_
        refine rl_bipush (v := nI 117) dX9_does_194 (by decide) ?_
        refine rl_icmp_ne (tgt := 203) dX9_does_196 (by decide) (fun c_4 => ?_) (fun c_4 => ?_)
        · have H := H.1 c_4
          refine rl_iconst (v := nI 1) dX9_does_203 (by decide) ?_
          refine rl_istore (L' := [some (.ref (ad (gMo 0))), none, some (.int x2), some (.int x3), some (.int x4), some (.int x5), some (.int (nI 1))]) dX9_does_204 (Nat.le_of_ble_eq_true rfl) rfl ?_
          refine rl_iload dX9_does_206 rfl ?_
          refine rl_iconst (v := nI 1) dX9_does_208 (by decide) ?_
          refine rl_icmp_lt (tgt := 224) dX9_does_209 (by decide) (fun c_5 => ?_) (fun c_5 => ?_)
          · have H := H.1 c_5
            refine rl_iconst (v := nI 0) dX9_does_224 (by decide) ?_
            exact rl_zret dX9_does_225 rfl rfl (Nat.le_refl 0) (Nat.le_refl 0) H
          · have H := H.2 c_5
            refine rl_aload_n dX9_does_212 rfl rfl ?_
            refine rl_iload_n dX9_does_213 rfl rfl ?_
            refine rl_iload dX9_does_214 rfl ?_
            exact rl_callV (As := [.int x3, .int (nI 1)]) (rest := []) mfX9_ownRights dX9_does_216 lkX9_79 (lMo0 L).K (by decide) (Nat.le_of_ble_eq_true rfl) (Nat.le_refl _) (Nat.le_refl _) rfl (Nat.le_of_ble_eq_true rfl) rfl rfl (fun Qc k => H Qc (fun v h' w => k (some (.int v)) h' (rl_wk (L' := [some (.ref (ad (gMo 0))), none, none, some (.int x3), some (.int x4), some (.int x5), some (.int (nI 1))]) ⟨rfl, ⟨rfl, ⟨rfl, ⟨rfl, ⟨rfl, trivial⟩⟩⟩⟩⟩ w)))
        · have H := H.2 c_4
          refine rl_iconst (v := nI 0) dX9_does_199 (by decide) ?_
          refine rl_goto (tgt := 204) dX9_does_200 (by decide) ?_
          refine rl_istore (L' := [some (.ref (ad (gMo 0))), none, some (.int x2), some (.int x3), some (.int x4), some (.int x5), some (.int (nI 0))]) dX9_does_204 (Nat.le_of_ble_eq_true rfl) rfl ?_
          refine rl_iload dX9_does_206 rfl ?_
          refine rl_iconst (v := nI 1) dX9_does_208 (by decide) ?_
          refine rl_icmp_lt (tgt := 224) dX9_does_209 (by decide) (fun c_6 => ?_) (fun c_6 => ?_)
          · have H := H.1 c_6
            refine rl_iconst (v := nI 0) dX9_does_224 (by decide) ?_
            exact rl_zret dX9_does_225 rfl rfl (Nat.le_refl 0) (Nat.le_refl 0) H
          · have H := H.2 c_6
            refine rl_aload_n dX9_does_212 rfl rfl ?_
            refine rl_iload_n dX9_does_213 rfl rfl ?_
            refine rl_iload dX9_does_214 rfl ?_
            exact rl_callV (As := [.int x3, .int (nI 0)]) (rest := []) mfX9_ownRights dX9_does_216 lkX9_79 (lMo0 L).K (by decide) (Nat.le_of_ble_eq_true rfl) (Nat.le_refl _) (Nat.le_refl _) rfl (Nat.le_of_ble_eq_true rfl) rfl rfl (fun Qc k => H Qc (fun v h' w => k (some (.int v)) h' (rl_wk (L' := [some (.ref (ad (gMo 0))), none, none, some (.int x3), some (.int x4), some (.int x5), some (.int (nI 0))]) ⟨rfl, ⟨rfl, ⟨rfl, ⟨rfl, ⟨rfl, trivial⟩⟩⟩⟩⟩ w)))
      · have H := H.2 c_3
        refine rl_aload_n dX9_does_166 rfl rfl ?_
        refine rt_getP (k := 1) cfX9 dX9_does_167 flX9_7 (by decide) rfl (lMo0 L) (rMo1 L) naMo ?_
        refine rl_iconst (v := nI 5) dX9_does_170 (by decide) ?_
        refine rt_iald (j := 5) dX9_does_171 (lMo1 L) nzMo rfl (by decide) (by decide) ?_
        refine rl_bipush (v := nI 8) dX9_does_172 (by decide) ?_
        refine rl_icmp_ge (tgt := 191) dX9_does_174 (by decide) (fun c_7 => ?_) (fun c_7 => ?_)
        · have H := H.1 c_7
          refine rl_iconst (v := nI 0) dX9_does_191 (by decide) ?_
          exact rl_zret dX9_does_192 rfl rfl (Nat.le_refl 0) (Nat.le_refl 0) H
        · have H := H.2 c_7
          refine rl_aload_n dX9_does_177 rfl rfl ?_
          refine rl_iload_n dX9_does_178 rfl rfl ?_
          refine rl_iload dX9_does_179 rfl ?_
          exact rl_callV (As := [.int x3, .int x4]) (rest := []) mfX9_passesOn dX9_does_181 lkX9_180 (lMo0 L).K (by decide) (Nat.le_of_ble_eq_true rfl) (Nat.le_refl _) (Nat.le_refl _) rfl (Nat.le_of_ble_eq_true rfl) rfl rfl (fun Qc k => H Qc (fun v h' w => k (some (.int v)) h' (rl_wk (L' := [none, none, none, none, none, none, none]) trivial w)))
    · have H := H.2 c_2
      refine rl_iconst (v := nI 0) dX9_does_158 (by decide) ?_
      exact rl_zret dX9_does_159 rfl rfl (Nat.le_refl 0) (Nat.le_refl 0) H
theorem tX9_does_184 {n : Nat} {ad : Nat → Nat} {h0 : Hp} {cs : Nat → Nat → Int32} {pm : Nat → Nat → Nat} (L : Lay n ad h0) {Q : Nat → Option Value → Hp → Prop} {xs0 : Int32} (H : ((xs0 = 0 → Q 0 (some (.int (nI 0))) (HN h0 ad cs pm)) ∧ (¬ xs0 = 0 → Q 0 (some (.int (nI 1))) (HN h0 ad cs pm)))) : Wm mX9_does 6 0 0 Q 184 [none, none, none, none, none, none, none] [.int xs0] (HN h0 ad cs pm) 0 0 := by
  refine rl_if_eq (tgt := 191) dX9_does_184 (by decide) (fun c_1 => ?_) (fun c_1 => ?_)
  · have H := H.1 c_1
    refine rl_iconst (v := nI 0) dX9_does_191 (by decide) ?_
    exact rl_zret dX9_does_192 rfl rfl (Nat.le_refl 0) (Nat.le_refl 0) H
  · have H := H.2 c_1
    refine rl_iconst (v := nI 1) dX9_does_187 (by decide) ?_
    refine rl_goto (tgt := 192) dX9_does_188 (by decide) ?_
    exact rl_zret dX9_does_192 rfl rfl (Nat.le_refl 0) (Nat.le_refl 0) H
theorem tX9_does_219 {n : Nat} {ad : Nat → Nat} {h0 : Hp} {cs : Nat → Nat → Int32} {pm : Nat → Nat → Nat} (L : Lay n ad h0) {Q : Nat → Option Value → Hp → Prop} {x3 x4 x5 x6 xs0 : Int32} (H : ((x5 ≤ xs0 → CKv mX9_gives 3 0 0 [some (.ref (ad (gMo 0))), some (.int x6), some (.int x3), some (.int x4), some (.int x5)] (HN h0 ad cs pm) (fun h' => Wm mX9_does 6 0 0 Q 237 [none, none, none, none, none, none, none] [] h' 0 0)) ∧ (¬ x5 ≤ xs0 → Q 0 (some (.int (nI 0))) (HN h0 ad cs pm)))) : Wm mX9_does 6 0 0 Q 219 [some (.ref (ad (gMo 0))), none, none, some (.int x3), some (.int x4), some (.int x5), some (.int x6)] [.int xs0] (HN h0 ad cs pm) 0 0 := by
  refine rl_iload dX9_does_219 rfl ?_
  refine rl_icmp_ge (tgt := 226) dX9_does_221 (by decide) (fun c_1 => ?_) (fun c_1 => ?_)
  · have H := H.1 c_1
    refine rl_aload_n dX9_does_226 rfl rfl ?_
    refine rl_iload dX9_does_227 rfl ?_
    refine rl_iload_n dX9_does_229 rfl rfl ?_
    refine rl_iload dX9_does_230 rfl ?_
    refine rl_iload dX9_does_232 rfl ?_
    exact rl_callV (As := [.int x6, .int x3, .int x4, .int x5]) (rest := []) mfX9_gives dX9_does_234 lkX9_119 (lMo0 L).K (by decide) (Nat.le_of_ble_eq_true rfl) (Nat.le_refl _) (Nat.le_refl _) rfl (Nat.le_of_ble_eq_true rfl) rfl rfl (fun Qc k => H Qc (fun h' w => k none h' (rl_wk (L' := [none, none, none, none, none, none, none]) trivial w)))
  · have H := H.2 c_1
    refine rl_iconst (v := nI 0) dX9_does_224 (by decide) ?_
    exact rl_zret dX9_does_225 rfl rfl (Nat.le_refl 0) (Nat.le_refl 0) H
theorem tX9_does_237 {n : Nat} {ad : Nat → Nat} {h0 : Hp} {cs : Nat → Nat → Int32} {pm : Nat → Nat → Nat} (L : Lay n ad h0) {Q : Nat → Option Value → Hp → Prop}  (H : Q 0 (some (.int (nI 1))) (HN h0 ad cs pm)) : Wm mX9_does 6 0 0 Q 237 [none, none, none, none, none, none, none] [] (HN h0 ad cs pm) 0 0 := by
  refine rl_iconst (v := nI 1) dX9_does_237 (by decide) ?_
  exact rl_zret dX9_does_238 rfl rfl (Nat.le_refl 0) (Nat.le_refl 0) H
theorem tX9_passesOn_0 {n : Nat} {ad : Nat → Nat} {h0 : Hp} {cs : Nat → Nat → Int32} {pm : Nat → Nat → Nat} (L : Lay n ad h0) {Q : Nat → Option Value → Hp → Prop} {x1 x2 : Int32} (H : CKv mX9_writes 2 0 0 [some (.ref (ad (gMo 0))), some (.int (cs (gMo 1) 5)), some (.int x1), some (.int x2), none, none, none] (HN h0 ad cs pm) (fun h' => Wm mX9_passesOn 3 0 0 Q 12 [some (.ref (ad (gMo 0))), none, none, none] [] h' 0 0)) : Wm mX9_passesOn 3 0 0 Q 0 [some (.ref (ad (gMo 0))), some (.int x1), some (.int x2), none] [] (HN h0 ad cs pm) 0 0 := by
  refine rl_aload_n dX9_passesOn_0 rfl rfl ?_
  refine rl_aload_n dX9_passesOn_1 rfl rfl ?_
  refine rt_getP (k := 1) cfX9 dX9_passesOn_2 flX9_7 (by decide) rfl (lMo0 L) (rMo1 L) naMo ?_
  refine rl_iconst (v := nI 5) dX9_passesOn_5 (by decide) ?_
  refine rt_iald (j := 5) dX9_passesOn_6 (lMo1 L) nzMo rfl (by decide) (by decide) ?_
  refine rl_iload_n dX9_passesOn_7 rfl rfl ?_
  refine rl_iload_n dX9_passesOn_8 rfl rfl ?_
  exact rl_callV (As := [.int (cs (gMo 1) 5), .int x1, .int x2]) (rest := []) mfX9_writes dX9_passesOn_9 lkX9_127 (lMo0 L).K (by decide) (Nat.le_of_ble_eq_true rfl) (Nat.le_refl _) (Nat.le_refl _) rfl (Nat.le_of_ble_eq_true rfl) rfl rfl (fun Qc k => H Qc (fun h' w => k none h' (rl_wk (L' := [some (.ref (ad (gMo 0))), none, none, none]) ⟨rfl, trivial⟩ w)))
theorem tX9_passesOn_12 {n : Nat} {ad : Nat → Nat} {h0 : Hp} {cs : Nat → Nat → Int32} {pm : Nat → Nat → Nat} (L : Lay n ad h0) {Q : Nat → Option Value → Hp → Prop}  (H : CKi mX9_arrives 1 0 0 [some (.ref (ad (gMo 0))), some (.int (cs (gMo 1) 5)), none, none, none, none, none, none, none, none] (HN h0 ad cs pm) (fun v h' => Wm mX9_passesOn 3 0 0 Q 22 [none, none, none, none] [.int v] h' 0 0)) : Wm mX9_passesOn 3 0 0 Q 12 [some (.ref (ad (gMo 0))), none, none, none] [] (HN h0 ad cs pm) 0 0 := by
  refine rl_aload_n dX9_passesOn_12 rfl rfl ?_
  refine rl_aload_n dX9_passesOn_13 rfl rfl ?_
  refine rt_getP (k := 1) cfX9 dX9_passesOn_14 flX9_7 (by decide) rfl (lMo0 L) (rMo1 L) naMo ?_
  refine rl_iconst (v := nI 5) dX9_passesOn_17 (by decide) ?_
  refine rt_iald (j := 5) dX9_passesOn_18 (lMo1 L) nzMo rfl (by decide) (by decide) ?_
  exact rl_callV (As := [.int (cs (gMo 1) 5)]) (rest := []) mfX9_arrives dX9_passesOn_19 lkX9_133 (lMo0 L).K (by decide) (Nat.le_of_ble_eq_true rfl) (Nat.le_refl _) (Nat.le_refl _) rfl (Nat.le_of_ble_eq_true rfl) rfl rfl (fun Qc k => H Qc (fun v h' w => k (some (.int v)) h' (rl_wk (L' := [none, none, none, none]) trivial w)))
theorem tX9_passesOn_22 {n : Nat} {ad : Nat → Nat} {h0 : Hp} {cs : Nat → Nat → Int32} {pm : Nat → Nat → Nat} (L : Lay n ad h0) {Q : Nat → Option Value → Hp → Prop} {xs0 : Int32} (H : ((xs0 < 0 → Q 0 (some (.int (nI 0))) (HN h0 ad cs pm)) ∧ (¬ xs0 < 0 → Q 0 (some (.int (nI 1))) (HN h0 ad cs pm)))) : Wm mX9_passesOn 3 0 0 Q 22 [none, none, none, none] [.int xs0] (HN h0 ad cs pm) 0 0 := by
  refine rl_istore_n (L' := [none, none, none, some (.int xs0)]) dX9_passesOn_22 rfl (Nat.le_of_ble_eq_true rfl) rfl ?_
  refine rl_iload_n dX9_passesOn_23 rfl rfl ?_
  refine rl_if_lt (tgt := 31) dX9_passesOn_24 (by decide) (fun c_1 => ?_) (fun c_1 => ?_)
  · have H := H.1 c_1
    refine rl_iconst (v := nI 0) dX9_passesOn_31 (by decide) ?_
    exact rl_zret dX9_passesOn_32 rfl rfl (Nat.le_refl 0) (Nat.le_refl 0) H
  · have H := H.2 c_1
    refine rl_iconst (v := nI 1) dX9_passesOn_27 (by decide) ?_
    refine rl_goto (tgt := 32) dX9_passesOn_28 (by decide) ?_
    exact rl_zret dX9_passesOn_32 rfl rfl (Nat.le_refl 0) (Nat.le_refl 0) H
theorem tX9_keepsAside_0 {n : Nat} {ad : Nat → Nat} {h0 : Hp} {cs : Nat → Nat → Int32} {pm : Nat → Nat → Nat} (L : Lay n ad h0) {Q : Nat → Option Value → Hp → Prop}  (H : CKv mX9_act 0 0 0 [some (.ref (ad (gMo 0))), none] (HN h0 ad cs pm) (fun h' => Wm mX9_keepsAside 1 0 0 Q 4 [some (.ref (ad (gMo 0))), none] [] h' 0 0)) : Wm mX9_keepsAside 1 0 0 Q 0 [some (.ref (ad (gMo 0))), none] [] (HN h0 ad cs pm) 0 0 := by
  refine rl_aload_n dX9_keepsAside_0 rfl rfl ?_
  exact rl_callV (As := []) (rest := []) mfX9_act dX9_keepsAside_1 lkX9_99 (lMo0 L).K (by decide) (Nat.le_of_ble_eq_true rfl) (Nat.le_refl _) (Nat.le_refl _) rfl (Nat.le_of_ble_eq_true rfl) rfl rfl (fun Qc k => H Qc (fun h' w => k none h' w))
theorem tX9_keepsAside_4 {n : Nat} {ad : Nat → Nat} {h0 : Hp} {cs : Nat → Nat → Int32} {pm : Nat → Nat → Nat} (L : Lay n ad h0) {Q : Nat → Option Value → Hp → Prop}  (H : Wm mX9_keepsAside 1 0 0 Q 6 [some (.ref (ad (gMo 0))), some (.int (nI 0))] [] (HN h0 ad cs pm) 0 0) : Wm mX9_keepsAside 1 0 0 Q 4 [some (.ref (ad (gMo 0))), none] [] (HN h0 ad cs pm) 0 0 := by
  refine rl_iconst (v := nI 0) dX9_keepsAside_4 (by decide) ?_
  refine rl_istore_n (L' := [some (.ref (ad (gMo 0))), some (.int (nI 0))]) dX9_keepsAside_5 rfl (Nat.le_of_ble_eq_true rfl) rfl ?_
  exact H
theorem tX9_keepsAside_6 {n : Nat} {ad : Nat → Nat} {h0 : Hp} {cs : Nat → Nat → Int32} {pm : Nat → Nat → Nat} (L : Lay n ad h0) {Q : Nat → Option Value → Hp → Prop} {x1 : Int32} (H : (((nI 2400) ≤ x1 → Q 0 none (HN h0 ad cs pm)) ∧ (¬ (nI 2400) ≤ x1 → (∃ j_2 : Nat, x1 = nI j_2 ∧ j_2 < 2400 ∧ (∃ j_5 : Nat, ((nI 2400) * ((cs (gMo 0) 4) - (nI 1))) + x1 = nI j_5 ∧ j_5 < 12000 ∧ (Wm mX9_keepsAside 1 0 0 Q 6 [some (.ref (ad (gMo 0))), some (.int (x1 + nI 1))] [] (HN h0 ad (up2 cs (gMo 2) j_5 (cs (gMo 3) j_2)) pm) 0 0)))))) : Wm mX9_keepsAside 1 0 0 Q 6 [some (.ref (ad (gMo 0))), some (.int x1)] [] (HN h0 ad cs pm) 0 0 := by
  refine rl_iload_n dX9_keepsAside_6 rfl rfl ?_
  refine rl_sipush (v := nI 2400) dX9_keepsAside_7 (by decide) ?_
  refine rl_icmp_ge (tgt := 42) dX9_keepsAside_10 (by decide) (fun c_1 => ?_) (fun c_1 => ?_)
  · have H := H.1 c_1
    exact rl_vret dX9_keepsAside_42 rfl (Nat.le_refl 0) (Nat.le_refl 0) H
  · have H := H.2 c_1
    refine rl_aload_n dX9_keepsAside_13 rfl rfl ?_
    refine rt_getP (k := 2) cfX9 dX9_keepsAside_14 flX9_13 (by decide) rfl (lMo0 L) (rMo2 L) naMo ?_
    refine rl_sipush (v := nI 2400) dX9_keepsAside_17 (by decide) ?_
    refine rl_aload_n dX9_keepsAside_20 rfl rfl ?_
    refine rt_getI (k := 4) cfX9 dX9_keepsAside_21 flX9_45 (by decide) rfl (lMo0 L) nzMo ?_
    refine rl_iconst (v := nI 1) dX9_keepsAside_24 (by decide) ?_
    refine rl_isub dX9_keepsAside_25 ?_
    refine rl_imul dX9_keepsAside_26 ?_
    refine rl_iload_n dX9_keepsAside_27 rfl rfl ?_
    refine rl_iadd dX9_keepsAside_28 ?_
    refine rl_aload_n dX9_keepsAside_29 rfl rfl ?_
    refine rt_getP (k := 3) cfX9 dX9_keepsAside_30 flX9_16 (by decide) rfl (lMo0 L) (rMo3 L) naMo ?_
    refine rl_iload_n dX9_keepsAside_33 rfl rfl ?_
    obtain ⟨j_2, e_3, b_4, H⟩ := H
    refine rt_iald (j := j_2) dX9_keepsAside_34 (lMo3 L) nzMo e_3 b_4 (by decide) ?_
    obtain ⟨j_5, e_6, b_7, H⟩ := H
    refine rt_iast (j := j_5) L.2.1 dX9_keepsAside_35 (lMo2 L) nzMo e_6 b_7 (by decide) ?_
    refine rl_iinc (v := x1 + nI 1) (L' := [some (.ref (ad (gMo 0))), some (.int (x1 + nI 1))]) dX9_keepsAside_36 rfl (congrArg (fun z => x1 + z) (by decide)) (Nat.le_of_ble_eq_true rfl) rfl ?_
    refine rl_goto (tgt := 6) dX9_keepsAside_39 (by decide) ?_
    exact H
theorem tX9_undo_0 {n : Nat} {ad : Nat → Nat} {h0 : Hp} {cs : Nat → Nat → Int32} {pm : Nat → Nat → Nat} (L : Lay n ad h0) {Q : Nat → Option Value → Hp → Prop}  (H : ((¬ (cs (gMo 0) 4) = 0 → Wm mX9_undo 1 0 0 Q 30 [some (.ref (ad (gMo 0))), some (.int (nI 0))] [] (HN h0 ad (up2 (up2 cs (gMo 0) 7 (nI 0)) (gMo 0) 4 ((cs (gMo 0) 4) - (nI 1))) pm) 0 0) ∧ ((cs (gMo 0) 4) = 0 → CKi mX9_fails 0 0 0 [some (.ref (ad (gMo 0))), some (.int (nI 1))] (HN h0 ad (up2 cs (gMo 0) 7 (nI 0)) pm) (fun v h' => Wm mX9_undo 1 0 0 Q 17 [none, none] [.int v] h' 0 0)))) : Wm mX9_undo 1 0 0 Q 0 [some (.ref (ad (gMo 0))), none] [] (HN h0 ad cs pm) 0 0 := by
  refine rl_aload_n dX9_undo_0 rfl rfl ?_
  refine rl_iconst (v := nI 0) dX9_undo_1 (by decide) ?_
  refine rt_putI (k := 7) L.2.1 cfX9 dX9_undo_2 flX9_42 (by decide) rfl (lMo0 L) nzMo (Or.inl rfl) ?_
  refine rl_aload_n dX9_undo_5 rfl rfl ?_
  refine rt_getIv (x := cs (gMo 0) 4) (k := 4) cfX9 dX9_undo_6 flX9_45 (by decide) rfl (lMo0 L) nzMo ((up2_k (by decide)).trans (rfl)) ?_
  refine rl_if_ne (tgt := 18) dX9_undo_9 (by decide) (fun c_1 => ?_) (fun c_1 => ?_)
  · have H := H.1 c_1
    refine rl_aload_n dX9_undo_18 rfl rfl ?_
    refine rl_dup dX9_undo_19 rfl ?_
    refine rt_getIv (x := cs (gMo 0) 4) (k := 4) cfX9 dX9_undo_20 flX9_45 (by decide) rfl (lMo0 L) nzMo ((up2_k (by decide)).trans (rfl)) ?_
    refine rl_iconst (v := nI 1) dX9_undo_23 (by decide) ?_
    refine rl_isub dX9_undo_24 ?_
    refine rt_putI (k := 4) L.2.1 cfX9 dX9_undo_25 flX9_45 (by decide) rfl (lMo0 L) nzMo (Or.inl rfl) ?_
    refine rl_iconst (v := nI 0) dX9_undo_28 (by decide) ?_
    refine rl_istore_n (L' := [some (.ref (ad (gMo 0))), some (.int (nI 0))]) dX9_undo_29 rfl (Nat.le_of_ble_eq_true rfl) rfl ?_
    exact H
  · have H := H.2 c_1
    refine rl_aload_n dX9_undo_12 rfl rfl ?_
    refine rl_iconst (v := nI 1) dX9_undo_13 (by decide) ?_
    exact rl_callV (As := [.int (nI 1)]) (rest := []) mfX9_fails dX9_undo_14 lkX9_105 (lMo0 L).K (by decide) (Nat.le_of_ble_eq_true rfl) (Nat.le_refl _) (Nat.le_refl _) rfl (Nat.le_of_ble_eq_true rfl) rfl rfl (fun Qc k => H Qc (fun v h' w => k (some (.int v)) h' (rl_wk (L' := [none, none]) trivial w)))
theorem tX9_undo_17 {n : Nat} {ad : Nat → Nat} {h0 : Hp} {cs : Nat → Nat → Int32} {pm : Nat → Nat → Nat} (L : Lay n ad h0) {Q : Nat → Option Value → Hp → Prop} {xs0 : Int32} (H : Q 0 (some (.int xs0)) (HN h0 ad cs pm)) : Wm mX9_undo 1 0 0 Q 17 [none, none] [.int xs0] (HN h0 ad cs pm) 0 0 := by
  exact rl_iret dX9_undo_17 rfl (Nat.le_refl 0) (Nat.le_refl 0) H
theorem tX9_undo_30 {n : Nat} {ad : Nat → Nat} {h0 : Hp} {cs : Nat → Nat → Int32} {pm : Nat → Nat → Nat} (L : Lay n ad h0) {Q : Nat → Option Value → Hp → Prop} {x1 : Int32} (H : (((nI 2400) ≤ x1 → Q 0 (some (.int (cs (gMo 0) 4))) (HN h0 ad cs pm)) ∧ (¬ (nI 2400) ≤ x1 → (∃ j_2 : Nat, ((nI 2400) * (cs (gMo 0) 4)) + x1 = nI j_2 ∧ j_2 < 12000 ∧ (∃ j_5 : Nat, x1 = nI j_5 ∧ j_5 < 2400 ∧ (Wm mX9_undo 1 0 0 Q 30 [some (.ref (ad (gMo 0))), some (.int (x1 + nI 1))] [] (HN h0 ad (up2 cs (gMo 1) j_5 (cs (gMo 2) j_2)) pm) 0 0)))))) : Wm mX9_undo 1 0 0 Q 30 [some (.ref (ad (gMo 0))), some (.int x1)] [] (HN h0 ad cs pm) 0 0 := by
  refine rl_iload_n dX9_undo_30 rfl rfl ?_
  refine rl_sipush (v := nI 2400) dX9_undo_31 (by decide) ?_
  refine rl_icmp_ge (tgt := 64) dX9_undo_34 (by decide) (fun c_1 => ?_) (fun c_1 => ?_)
  · have H := H.1 c_1
    refine rl_aload_n dX9_undo_64 rfl rfl ?_
    refine rt_getI (k := 4) cfX9 dX9_undo_65 flX9_45 (by decide) rfl (lMo0 L) nzMo ?_
    exact rl_iret dX9_undo_68 rfl (Nat.le_refl 0) (Nat.le_refl 0) H
  · have H := H.2 c_1
    refine rl_aload_n dX9_undo_37 rfl rfl ?_
    refine rt_getP (k := 1) cfX9 dX9_undo_38 flX9_7 (by decide) rfl (lMo0 L) (rMo1 L) naMo ?_
    refine rl_iload_n dX9_undo_41 rfl rfl ?_
    refine rl_aload_n dX9_undo_42 rfl rfl ?_
    refine rt_getP (k := 2) cfX9 dX9_undo_43 flX9_13 (by decide) rfl (lMo0 L) (rMo2 L) naMo ?_
    refine rl_sipush (v := nI 2400) dX9_undo_46 (by decide) ?_
    refine rl_aload_n dX9_undo_49 rfl rfl ?_
    refine rt_getI (k := 4) cfX9 dX9_undo_50 flX9_45 (by decide) rfl (lMo0 L) nzMo ?_
    refine rl_imul dX9_undo_53 ?_
    refine rl_iload_n dX9_undo_54 rfl rfl ?_
    refine rl_iadd dX9_undo_55 ?_
    obtain ⟨j_2, e_3, b_4, H⟩ := H
    refine rt_iald (j := j_2) dX9_undo_56 (lMo2 L) nzMo e_3 b_4 (by decide) ?_
    obtain ⟨j_5, e_6, b_7, H⟩ := H
    refine rt_iast (j := j_5) L.2.1 dX9_undo_57 (lMo1 L) nzMo e_6 b_7 (by decide) ?_
    refine rl_iinc (v := x1 + nI 1) (L' := [some (.ref (ad (gMo 0))), some (.int (x1 + nI 1))]) dX9_undo_58 rfl (congrArg (fun z => x1 + z) (by decide)) (Nat.le_of_ble_eq_true rfl) rfl ?_
    refine rl_goto (tgt := 30) dX9_undo_61 (by decide) ?_
    exact H
theorem tX9_fingerprint_0 {n : Nat} {ad : Nat → Nat} {h0 : Hp} {cs : Nat → Nat → Int32} {pm : Nat → Nat → Nat} (L : Lay n ad h0) {Q : Nat → Option Value → Hp → Prop}  (H : CKi mX9_valueNow 2 0 0 [some (.ref (ad (gMo 0))), none, none] (HN h0 ad (up2 cs (gMo 0) 7 (nI 0)) pm) (fun v h' => Wm mX9_fingerprint 5 0 0 Q 27 [some (.ref (ad (gMo 0))), none, none, none, none] [.int v, .long (31 * (2201 + ((cs (gMo 1) 0).toInt64))), .long 31] h' 0 0)) : Wm mX9_fingerprint 5 0 0 Q 0 [some (.ref (ad (gMo 0))), none, none, none, none] [] (HN h0 ad cs pm) 0 0 := by
  refine rl_aload_n dX9_fingerprint_0 rfl rfl ?_
  refine rl_iconst (v := nI 0) dX9_fingerprint_1 (by decide) ?_
  refine rt_putI (k := 7) L.2.1 cfX9 dX9_fingerprint_2 flX9_42 (by decide) rfl (lMo0 L) nzMo (Or.inl rfl) ?_
  refine rl_ldc2 (v := 31) dX9_fingerprint_5 kcX9_192 ?_
  refine rl_ldc2 (v := 31) dX9_fingerprint_8 kcX9_192 ?_
  refine rl_ldc2 (v := 2201) dX9_fingerprint_11 kcX9_194 ?_
  refine rl_aload_n dX9_fingerprint_14 rfl rfl ?_
  refine rt_getP (k := 1) cfX9 dX9_fingerprint_15 flX9_7 (by decide) rfl (lMo0 L) (rMo1 L) naMo ?_
  refine rl_iconst (v := nI 0) dX9_fingerprint_18 (by decide) ?_
  refine rt_ialdv (y := cs (gMo 1) 0) (j := 0) dX9_fingerprint_19 (lMo1 L) nzMo rfl (by decide) (by decide) ((up2_k (by decide)).trans (rfl)) ?_
  refine rl_i2l dX9_fingerprint_20 ?_
  refine rl_ladd dX9_fingerprint_21 ?_
  refine rl_lmul dX9_fingerprint_22 ?_
  refine rl_aload_n dX9_fingerprint_23 rfl rfl ?_
  exact rl_callV (As := []) (rest := [.long (31 * (2201 + ((cs (gMo 1) 0).toInt64))), .long 31]) mfX9_valueNow dX9_fingerprint_24 lkX9_108 (lMo0 L).K (by decide) (Nat.le_of_ble_eq_true rfl) (Nat.le_refl _) (Nat.le_refl _) rfl (Nat.le_of_ble_eq_true rfl) rfl rfl (fun Qc k => H Qc (fun v h' w => k (some (.int v)) h' w))
theorem tX9_fingerprint_27 {n : Nat} {ad : Nat → Nat} {h0 : Hp} {cs : Nat → Nat → Int32} {pm : Nat → Nat → Nat} (L : Lay n ad h0) {Q : Nat → Option Value → Hp → Prop} {xs2 : Int32} {js0 js1 : Int64} (H : Wm mX9_fingerprint 5 0 0 Q 55 [some (.ref (ad (gMo 0))), some (.long ((31 * ((js0 * (js1 + ((xs2).toInt64))) + ((cs (gMo 1) 4).toInt64))) + ((cs (gMo 1) 5).toInt64))), none, some (.int (nI 0)), none] [] (HN h0 ad cs pm) 0 0) : Wm mX9_fingerprint 5 0 0 Q 27 [some (.ref (ad (gMo 0))), none, none, none, none] [.int xs2, .long js1, .long js0] (HN h0 ad cs pm) 0 0 := by
  refine rl_i2l dX9_fingerprint_27 ?_
  refine rl_ladd dX9_fingerprint_28 ?_
  refine rl_lmul dX9_fingerprint_29 ?_
  refine rl_aload_n dX9_fingerprint_30 rfl rfl ?_
  refine rt_getP (k := 1) cfX9 dX9_fingerprint_31 flX9_7 (by decide) rfl (lMo0 L) (rMo1 L) naMo ?_
  refine rl_iconst (v := nI 4) dX9_fingerprint_34 (by decide) ?_
  refine rt_iald (j := 4) dX9_fingerprint_35 (lMo1 L) nzMo rfl (by decide) (by decide) ?_
  refine rl_i2l dX9_fingerprint_36 ?_
  refine rl_ladd dX9_fingerprint_37 ?_
  refine rl_lstore_n (L' := [some (.ref (ad (gMo 0))), some (.long ((js0 * (js1 + ((xs2).toInt64))) + ((cs (gMo 1) 4).toInt64))), none, none, none]) dX9_fingerprint_38 rfl (Nat.le_of_ble_eq_true rfl) rfl ?_
  refine rl_ldc2 (v := 31) dX9_fingerprint_39 kcX9_192 ?_
  refine rl_lload_n dX9_fingerprint_42 rfl rfl ?_
  refine rl_lmul dX9_fingerprint_43 ?_
  refine rl_aload_n dX9_fingerprint_44 rfl rfl ?_
  refine rt_getP (k := 1) cfX9 dX9_fingerprint_45 flX9_7 (by decide) rfl (lMo0 L) (rMo1 L) naMo ?_
  refine rl_iconst (v := nI 5) dX9_fingerprint_48 (by decide) ?_
  refine rt_iald (j := 5) dX9_fingerprint_49 (lMo1 L) nzMo rfl (by decide) (by decide) ?_
  refine rl_i2l dX9_fingerprint_50 ?_
  refine rl_ladd dX9_fingerprint_51 ?_
  refine rl_lstore_n (L' := [some (.ref (ad (gMo 0))), some (.long ((31 * ((js0 * (js1 + ((xs2).toInt64))) + ((cs (gMo 1) 4).toInt64))) + ((cs (gMo 1) 5).toInt64))), none, none, none]) dX9_fingerprint_52 rfl (Nat.le_of_ble_eq_true rfl) rfl ?_
  refine rl_iconst (v := nI 0) dX9_fingerprint_53 (by decide) ?_
  refine rl_istore_n (L' := [some (.ref (ad (gMo 0))), some (.long ((31 * ((js0 * (js1 + ((xs2).toInt64))) + ((cs (gMo 1) 4).toInt64))) + ((cs (gMo 1) 5).toInt64))), none, some (.int (nI 0)), none]) dX9_fingerprint_54 rfl (Nat.le_of_ble_eq_true rfl) rfl ?_
  exact H
theorem tX9_fingerprint_55 {n : Nat} {ad : Nat → Nat} {h0 : Hp} {cs : Nat → Nat → Int32} {pm : Nat → Nat → Nat} (L : Lay n ad h0) {Q : Nat → Option Value → Hp → Prop} {x3 : Int32} {j1 : Int64} (H : (((cs (gMo 0) 0) ≤ x3 → Wm mX9_fingerprint 5 0 0 Q 183 [some (.ref (ad (gMo 0))), some (.long j1), none, some (.int (nI 0)), none] [] (HN h0 ad cs pm) 0 0) ∧ (¬ (cs (gMo 0) 0) ≤ x3 → Wm mX9_fingerprint 5 0 0 Q 66 [some (.ref (ad (gMo 0))), some (.long j1), none, some (.int x3), some (.int (nI 0))] [] (HN h0 ad cs pm) 0 0))) : Wm mX9_fingerprint 5 0 0 Q 55 [some (.ref (ad (gMo 0))), some (.long j1), none, some (.int x3), none] [] (HN h0 ad cs pm) 0 0 := by
  refine rl_iload_n dX9_fingerprint_55 rfl rfl ?_
  refine rl_aload_n dX9_fingerprint_56 rfl rfl ?_
  refine rt_getI (k := 0) cfX9 dX9_fingerprint_57 flX9_34 (by decide) rfl (lMo0 L) nzMo ?_
  refine rl_icmp_ge (tgt := 181) dX9_fingerprint_60 (by decide) (fun c_1 => ?_) (fun c_1 => ?_)
  · have H := H.1 c_1
    refine rl_iconst (v := nI 0) dX9_fingerprint_181 (by decide) ?_
    refine rl_istore_n (L' := [some (.ref (ad (gMo 0))), some (.long j1), none, some (.int (nI 0)), none]) dX9_fingerprint_182 rfl (Nat.le_of_ble_eq_true rfl) rfl ?_
    exact H
  · have H := H.2 c_1
    refine rl_iconst (v := nI 0) dX9_fingerprint_63 (by decide) ?_
    refine rl_istore (L' := [some (.ref (ad (gMo 0))), some (.long j1), none, some (.int x3), some (.int (nI 0))]) dX9_fingerprint_64 (Nat.le_of_ble_eq_true rfl) rfl ?_
    exact H
theorem tX9_fingerprint_66 {n : Nat} {ad : Nat → Nat} {h0 : Hp} {cs : Nat → Nat → Int32} {pm : Nat → Nat → Nat} (L : Lay n ad h0) {Q : Nat → Option Value → Hp → Prop} {x3 x4 : Int32} {j1 : Int64} (H : (((nI 2) ≤ x4 → CKi mX9_knownBy 1 0 0 [some (.ref (ad (gMo 0))), some (.int x3), none, none] (HN h0 ad cs pm) (fun v h' => Wm mX9_fingerprint 5 0 0 Q 118 [some (.ref (ad (gMo 0))), none, none, some (.int x3), none] [.int v, .long (31 * j1)] h' 0 0)) ∧ (¬ (nI 2) ≤ x4 → CKi mX9_ownRights 3 0 0 [some (.ref (ad (gMo 0))), some (.int x3), some (.int x4), none, none, none, none, none] (HN h0 ad cs pm) (fun v h' => Wm mX9_fingerprint 5 0 0 Q 84 [some (.ref (ad (gMo 0))), none, none, some (.int x3), some (.int x4)] [.int v, .long (31 * j1)] h' 0 0)))) : Wm mX9_fingerprint 5 0 0 Q 66 [some (.ref (ad (gMo 0))), some (.long j1), none, some (.int x3), some (.int x4)] [] (HN h0 ad cs pm) 0 0 := by
  refine rl_iload dX9_fingerprint_66 rfl ?_
  refine rl_iconst (v := nI 2) dX9_fingerprint_68 (by decide) ?_
  refine rl_icmp_ge (tgt := 108) dX9_fingerprint_69 (by decide) (fun c_1 => ?_) (fun c_1 => ?_)
  · have H := H.1 c_1
    refine rl_ldc2 (v := 31) dX9_fingerprint_108 kcX9_192 ?_
    refine rl_lload_n dX9_fingerprint_111 rfl rfl ?_
    refine rl_lmul dX9_fingerprint_112 ?_
    refine rl_aload_n dX9_fingerprint_113 rfl rfl ?_
    refine rl_iload_n dX9_fingerprint_114 rfl rfl ?_
    exact rl_callV (As := [.int x3]) (rest := [.long (31 * j1)]) mfX9_knownBy dX9_fingerprint_115 lkX9_139 (lMo0 L).K (by decide) (Nat.le_of_ble_eq_true rfl) (Nat.le_refl _) (Nat.le_refl _) rfl (Nat.le_of_ble_eq_true rfl) rfl rfl (fun Qc k => H Qc (fun v h' w => k (some (.int v)) h' (rl_wk (L' := [some (.ref (ad (gMo 0))), none, none, some (.int x3), none]) ⟨rfl, ⟨rfl, trivial⟩⟩ w)))
  · have H := H.2 c_1
    refine rl_ldc2 (v := 31) dX9_fingerprint_72 kcX9_192 ?_
    refine rl_lload_n dX9_fingerprint_75 rfl rfl ?_
    refine rl_lmul dX9_fingerprint_76 ?_
    refine rl_aload_n dX9_fingerprint_77 rfl rfl ?_
    refine rl_iload_n dX9_fingerprint_78 rfl rfl ?_
    refine rl_iload dX9_fingerprint_79 rfl ?_
    exact rl_callV (As := [.int x3, .int x4]) (rest := [.long (31 * j1)]) mfX9_ownRights dX9_fingerprint_81 lkX9_79 (lMo0 L).K (by decide) (Nat.le_of_ble_eq_true rfl) (Nat.le_refl _) (Nat.le_refl _) rfl (Nat.le_of_ble_eq_true rfl) rfl rfl (fun Qc k => H Qc (fun v h' w => k (some (.int v)) h' (rl_wk (L' := [some (.ref (ad (gMo 0))), none, none, some (.int x3), some (.int x4)]) ⟨rfl, ⟨rfl, ⟨rfl, trivial⟩⟩⟩ w)))
theorem tX9_fingerprint_84 {n : Nat} {ad : Nat → Nat} {h0 : Hp} {cs : Nat → Nat → Int32} {pm : Nat → Nat → Nat} (L : Lay n ad h0) {Q : Nat → Option Value → Hp → Prop} {x3 x4 xs1 : Int32} {js0 : Int64} (H : CKi mX9_allRights 4 0 0 [some (.ref (ad (gMo 0))), some (.int x3), some (.int x4)] (HN h0 ad cs pm) (fun v h' => Wm mX9_fingerprint 5 0 0 Q 99 [some (.ref (ad (gMo 0))), none, none, some (.int x3), some (.int x4)] [.int v, .long (31 * (js0 + ((xs1).toInt64)))] h' 0 0)) : Wm mX9_fingerprint 5 0 0 Q 84 [some (.ref (ad (gMo 0))), none, none, some (.int x3), some (.int x4)] [.int xs1, .long js0] (HN h0 ad cs pm) 0 0 := by
  refine rl_i2l dX9_fingerprint_84 ?_
  refine rl_ladd dX9_fingerprint_85 ?_
  refine rl_lstore_n (L' := [some (.ref (ad (gMo 0))), some (.long (js0 + ((xs1).toInt64))), none, some (.int x3), some (.int x4)]) dX9_fingerprint_86 rfl (Nat.le_of_ble_eq_true rfl) rfl ?_
  refine rl_ldc2 (v := 31) dX9_fingerprint_87 kcX9_192 ?_
  refine rl_lload_n dX9_fingerprint_90 rfl rfl ?_
  refine rl_lmul dX9_fingerprint_91 ?_
  refine rl_aload_n dX9_fingerprint_92 rfl rfl ?_
  refine rl_iload_n dX9_fingerprint_93 rfl rfl ?_
  refine rl_iload dX9_fingerprint_94 rfl ?_
  exact rl_callV (As := [.int x3, .int x4]) (rest := [.long (31 * (js0 + ((xs1).toInt64)))]) mfX9_allRights dX9_fingerprint_96 lkX9_85 (lMo0 L).K (by decide) (Nat.le_of_ble_eq_true rfl) (Nat.le_refl _) (Nat.le_refl _) rfl (Nat.le_of_ble_eq_true rfl) rfl rfl (fun Qc k => H Qc (fun v h' w => k (some (.int v)) h' (rl_wk (L' := [some (.ref (ad (gMo 0))), none, none, some (.int x3), some (.int x4)]) ⟨rfl, ⟨rfl, ⟨rfl, trivial⟩⟩⟩ w)))
theorem tX9_fingerprint_99 {n : Nat} {ad : Nat → Nat} {h0 : Hp} {cs : Nat → Nat → Int32} {pm : Nat → Nat → Nat} (L : Lay n ad h0) {Q : Nat → Option Value → Hp → Prop} {x3 x4 xs1 : Int32} {js0 : Int64} (H : Wm mX9_fingerprint 5 0 0 Q 66 [some (.ref (ad (gMo 0))), some (.long (js0 + ((xs1).toInt64))), none, some (.int x3), some (.int (x4 + nI 1))] [] (HN h0 ad cs pm) 0 0) : Wm mX9_fingerprint 5 0 0 Q 99 [some (.ref (ad (gMo 0))), none, none, some (.int x3), some (.int x4)] [.int xs1, .long js0] (HN h0 ad cs pm) 0 0 := by
  refine rl_i2l dX9_fingerprint_99 ?_
  refine rl_ladd dX9_fingerprint_100 ?_
  refine rl_lstore_n (L' := [some (.ref (ad (gMo 0))), some (.long (js0 + ((xs1).toInt64))), none, some (.int x3), some (.int x4)]) dX9_fingerprint_101 rfl (Nat.le_of_ble_eq_true rfl) rfl ?_
  refine rl_iinc (v := x4 + nI 1) (L' := [some (.ref (ad (gMo 0))), some (.long (js0 + ((xs1).toInt64))), none, some (.int x3), some (.int (x4 + nI 1))]) dX9_fingerprint_102 rfl (congrArg (fun z => x4 + z) (by decide)) (Nat.le_of_ble_eq_true rfl) rfl ?_
  refine rl_goto (tgt := 66) dX9_fingerprint_105 (by decide) ?_
  exact H
theorem tX9_fingerprint_118 {n : Nat} {ad : Nat → Nat} {h0 : Hp} {cs : Nat → Nat → Int32} {pm : Nat → Nat → Nat} (L : Lay n ad h0) {Q : Nat → Option Value → Hp → Prop} {x3 xs1 : Int32} {js0 : Int64} (H : Wm mX9_fingerprint 5 0 0 Q 124 [some (.ref (ad (gMo 0))), some (.long (js0 + ((xs1).toInt64))), none, some (.int x3), some (.int (nI 0))] [] (HN h0 ad cs pm) 0 0) : Wm mX9_fingerprint 5 0 0 Q 118 [some (.ref (ad (gMo 0))), none, none, some (.int x3), none] [.int xs1, .long js0] (HN h0 ad cs pm) 0 0 := by
  refine rl_i2l dX9_fingerprint_118 ?_
  refine rl_ladd dX9_fingerprint_119 ?_
  refine rl_lstore_n (L' := [some (.ref (ad (gMo 0))), some (.long (js0 + ((xs1).toInt64))), none, some (.int x3), none]) dX9_fingerprint_120 rfl (Nat.le_of_ble_eq_true rfl) rfl ?_
  refine rl_iconst (v := nI 0) dX9_fingerprint_121 (by decide) ?_
  refine rl_istore (L' := [some (.ref (ad (gMo 0))), some (.long (js0 + ((xs1).toInt64))), none, some (.int x3), some (.int (nI 0))]) dX9_fingerprint_122 (Nat.le_of_ble_eq_true rfl) rfl ?_
  exact H
theorem tX9_fingerprint_124 {n : Nat} {ad : Nat → Nat} {h0 : Hp} {cs : Nat → Nat → Int32} {pm : Nat → Nat → Nat} (L : Lay n ad h0) {Q : Nat → Option Value → Hp → Prop} {x3 x4 : Int32} {j1 : Int64} (H : (((cs (gMo 0) 0) ≤ x4 → Wm mX9_fingerprint 5 0 0 Q 55 [some (.ref (ad (gMo 0))), some (.long j1), none, some (.int (x3 + nI 1)), none] [] (HN h0 ad cs pm) 0 0) ∧ (¬ (cs (gMo 0) 0) ≤ x4 → CKi mX9_record 0 0 0 [some (.int x3), some (.int x4)] (HN h0 ad cs pm) (fun v h' => Wm mX9_fingerprint 5 0 0 Q 148 [some (.ref (ad (gMo 0))), none, none, some (.int x3), some (.int x4)] [.int v, .ref (ad (gMo 1)), .long (31 * j1)] h' 0 0)))) : Wm mX9_fingerprint 5 0 0 Q 124 [some (.ref (ad (gMo 0))), some (.long j1), none, some (.int x3), some (.int x4)] [] (HN h0 ad cs pm) 0 0 := by
  refine rl_iload dX9_fingerprint_124 rfl ?_
  refine rl_aload_n dX9_fingerprint_126 rfl rfl ?_
  refine rt_getI (k := 0) cfX9 dX9_fingerprint_127 flX9_34 (by decide) rfl (lMo0 L) nzMo ?_
  refine rl_icmp_ge (tgt := 175) dX9_fingerprint_130 (by decide) (fun c_1 => ?_) (fun c_1 => ?_)
  · have H := H.1 c_1
    refine rl_iinc (v := x3 + nI 1) (L' := [some (.ref (ad (gMo 0))), some (.long j1), none, some (.int (x3 + nI 1)), some (.int x4)]) dX9_fingerprint_175 rfl (congrArg (fun z => x3 + z) (by decide)) (Nat.le_of_ble_eq_true rfl) rfl ?_
    refine rl_goto (tgt := 55) dX9_fingerprint_178 (by decide) ?_
    refine rl_wk (L' := [some (.ref (ad (gMo 0))), some (.long j1), none, some (.int (x3 + nI 1)), none]) ⟨rfl, ⟨rfl, ⟨rfl, trivial⟩⟩⟩ ?_
    exact H
  · have H := H.2 c_1
    refine rl_ldc2 (v := 31) dX9_fingerprint_133 kcX9_192 ?_
    refine rl_lload_n dX9_fingerprint_136 rfl rfl ?_
    refine rl_lmul dX9_fingerprint_137 ?_
    refine rl_aload_n dX9_fingerprint_138 rfl rfl ?_
    refine rt_getP (k := 1) cfX9 dX9_fingerprint_139 flX9_7 (by decide) rfl (lMo0 L) (rMo1 L) naMo ?_
    refine rl_iload_n dX9_fingerprint_142 rfl rfl ?_
    refine rl_iload dX9_fingerprint_143 rfl ?_
    exact rl_callS (As := [.int x3, .int x4]) (rest := [.ref (ad (gMo 1)), .long (31 * j1)]) mfX9_record dX9_fingerprint_145 lkX9_52 (by decide) (Nat.le_of_ble_eq_true rfl) (Nat.le_refl _) (Nat.le_refl _) rfl (Nat.le_of_ble_eq_true rfl) rfl rfl (fun Qc k => H Qc (fun v h' w => k (some (.int v)) h' (rl_wk (L' := [some (.ref (ad (gMo 0))), none, none, some (.int x3), some (.int x4)]) ⟨rfl, ⟨rfl, ⟨rfl, trivial⟩⟩⟩ w)))
theorem tX9_fingerprint_148 {n : Nat} {ad : Nat → Nat} {h0 : Hp} {cs : Nat → Nat → Int32} {pm : Nat → Nat → Nat} (L : Lay n ad h0) {Q : Nat → Option Value → Hp → Prop} {x3 x4 xs2 : Int32} {js0 : Int64} (H : (∃ j_1 : Nat, xs2 + (nI 0) = nI j_1 ∧ j_1 < 2400 ∧ (CKi mX9_timeOf 1 0 0 [some (.ref (ad (gMo 0))), some (.int x3), some (.int x4)] (HN h0 ad cs pm) (fun v h' => Wm mX9_fingerprint 5 0 0 Q 166 [some (.ref (ad (gMo 0))), none, none, some (.int x3), some (.int x4)] [.int v, .long (31 * (js0 + ((cs (gMo 1) j_1).toInt64)))] h' 0 0)))) : Wm mX9_fingerprint 5 0 0 Q 148 [some (.ref (ad (gMo 0))), none, none, some (.int x3), some (.int x4)] [.int xs2, .ref (ad (gMo 1)), .long js0] (HN h0 ad cs pm) 0 0 := by
  refine rl_iconst (v := nI 0) dX9_fingerprint_148 (by decide) ?_
  refine rl_iadd dX9_fingerprint_149 ?_
  obtain ⟨j_1, e_2, b_3, H⟩ := H
  refine rt_iald (j := j_1) dX9_fingerprint_150 (lMo1 L) nzMo e_2 b_3 (by decide) ?_
  refine rl_i2l dX9_fingerprint_151 ?_
  refine rl_ladd dX9_fingerprint_152 ?_
  refine rl_lstore_n (L' := [some (.ref (ad (gMo 0))), some (.long (js0 + ((cs (gMo 1) j_1).toInt64))), none, some (.int x3), some (.int x4)]) dX9_fingerprint_153 rfl (Nat.le_of_ble_eq_true rfl) rfl ?_
  refine rl_ldc2 (v := 31) dX9_fingerprint_154 kcX9_192 ?_
  refine rl_lload_n dX9_fingerprint_157 rfl rfl ?_
  refine rl_lmul dX9_fingerprint_158 ?_
  refine rl_aload_n dX9_fingerprint_159 rfl rfl ?_
  refine rl_iload_n dX9_fingerprint_160 rfl rfl ?_
  refine rl_iload dX9_fingerprint_161 rfl ?_
  exact rl_callV (As := [.int x3, .int x4]) (rest := [.long (31 * (js0 + ((cs (gMo 1) j_1).toInt64)))]) mfX9_timeOf dX9_fingerprint_163 lkX9_63 (lMo0 L).K (by decide) (Nat.le_of_ble_eq_true rfl) (Nat.le_refl _) (Nat.le_refl _) rfl (Nat.le_of_ble_eq_true rfl) rfl rfl (fun Qc k => H Qc (fun v h' w => k (some (.int v)) h' (rl_wk (L' := [some (.ref (ad (gMo 0))), none, none, some (.int x3), some (.int x4)]) ⟨rfl, ⟨rfl, ⟨rfl, trivial⟩⟩⟩ w)))
theorem tX9_fingerprint_166 {n : Nat} {ad : Nat → Nat} {h0 : Hp} {cs : Nat → Nat → Int32} {pm : Nat → Nat → Nat} (L : Lay n ad h0) {Q : Nat → Option Value → Hp → Prop} {x3 x4 xs1 : Int32} {js0 : Int64} (H : Wm mX9_fingerprint 5 0 0 Q 124 [some (.ref (ad (gMo 0))), some (.long (js0 + ((xs1).toInt64))), none, some (.int x3), some (.int (x4 + nI 1))] [] (HN h0 ad cs pm) 0 0) : Wm mX9_fingerprint 5 0 0 Q 166 [some (.ref (ad (gMo 0))), none, none, some (.int x3), some (.int x4)] [.int xs1, .long js0] (HN h0 ad cs pm) 0 0 := by
  refine rl_i2l dX9_fingerprint_166 ?_
  refine rl_ladd dX9_fingerprint_167 ?_
  refine rl_lstore_n (L' := [some (.ref (ad (gMo 0))), some (.long (js0 + ((xs1).toInt64))), none, some (.int x3), some (.int x4)]) dX9_fingerprint_168 rfl (Nat.le_of_ble_eq_true rfl) rfl ?_
  refine rl_iinc (v := x4 + nI 1) (L' := [some (.ref (ad (gMo 0))), some (.long (js0 + ((xs1).toInt64))), none, some (.int x3), some (.int (x4 + nI 1))]) dX9_fingerprint_169 rfl (congrArg (fun z => x4 + z) (by decide)) (Nat.le_of_ble_eq_true rfl) rfl ?_
  refine rl_goto (tgt := 124) dX9_fingerprint_172 (by decide) ?_
  exact H
theorem tX9_fingerprint_183 {n : Nat} {ad : Nat → Nat} {h0 : Hp} {cs : Nat → Nat → Int32} {pm : Nat → Nat → Nat} (L : Lay n ad h0) {Q : Nat → Option Value → Hp → Prop} {x3 : Int32} {j1 : Int64} (H : (((cs (gMo 1) 4) ≤ x3 → Q 0 (some (.long j1)) (HN h0 ad cs pm)) ∧ (¬ (cs (gMo 1) 4) ≤ x3 → Wm mX9_fingerprint 5 0 0 Q 196 [some (.ref (ad (gMo 0))), some (.long j1), none, some (.int x3), some (.int (nI 5))] [] (HN h0 ad cs pm) 0 0))) : Wm mX9_fingerprint 5 0 0 Q 183 [some (.ref (ad (gMo 0))), some (.long j1), none, some (.int x3), none] [] (HN h0 ad cs pm) 0 0 := by
  refine rl_iload_n dX9_fingerprint_183 rfl rfl ?_
  refine rl_aload_n dX9_fingerprint_184 rfl rfl ?_
  refine rt_getP (k := 1) cfX9 dX9_fingerprint_185 flX9_7 (by decide) rfl (lMo0 L) (rMo1 L) naMo ?_
  refine rl_iconst (v := nI 4) dX9_fingerprint_188 (by decide) ?_
  refine rt_iald (j := 4) dX9_fingerprint_189 (lMo1 L) nzMo rfl (by decide) (by decide) ?_
  refine rl_icmp_ge (tgt := 230) dX9_fingerprint_190 (by decide) (fun c_1 => ?_) (fun c_1 => ?_)
  · have H := H.1 c_1
    refine rl_lload_n dX9_fingerprint_230 rfl rfl ?_
    exact rl_lret dX9_fingerprint_231 rfl (Nat.le_refl 0) (Nat.le_refl 0) H
  · have H := H.2 c_1
    refine rl_iconst (v := nI 5) dX9_fingerprint_193 (by decide) ?_
    refine rl_istore (L' := [some (.ref (ad (gMo 0))), some (.long j1), none, some (.int x3), some (.int (nI 5))]) dX9_fingerprint_194 (Nat.le_of_ble_eq_true rfl) rfl ?_
    exact H
theorem tX9_fingerprint_196 {n : Nat} {ad : Nat → Nat} {h0 : Hp} {cs : Nat → Nat → Int32} {pm : Nat → Nat → Nat} (L : Lay n ad h0) {Q : Nat → Option Value → Hp → Prop} {x3 x4 : Int32} {j1 : Int64} (H : (((nI 8) ≤ x4 → Wm mX9_fingerprint 5 0 0 Q 183 [some (.ref (ad (gMo 0))), some (.long j1), none, some (.int (x3 + nI 1)), none] [] (HN h0 ad cs pm) 0 0) ∧ (¬ (nI 8) ≤ x4 → CKi mX9_ofLoan 3 0 0 [some (.ref (ad (gMo 0))), some (.int x3), some (.int x4), none] (HN h0 ad cs pm) (fun v h' => Wm mX9_fingerprint 5 0 0 Q 215 [some (.ref (ad (gMo 0))), none, none, some (.int x3), some (.int x4)] [.int v, .long (31 * j1)] h' 0 0)))) : Wm mX9_fingerprint 5 0 0 Q 196 [some (.ref (ad (gMo 0))), some (.long j1), none, some (.int x3), some (.int x4)] [] (HN h0 ad cs pm) 0 0 := by
  refine rl_iload dX9_fingerprint_196 rfl ?_
  refine rl_bipush (v := nI 8) dX9_fingerprint_198 (by decide) ?_
  refine rl_icmp_ge (tgt := 224) dX9_fingerprint_200 (by decide) (fun c_1 => ?_) (fun c_1 => ?_)
  · have H := H.1 c_1
    refine rl_iinc (v := x3 + nI 1) (L' := [some (.ref (ad (gMo 0))), some (.long j1), none, some (.int (x3 + nI 1)), some (.int x4)]) dX9_fingerprint_224 rfl (congrArg (fun z => x3 + z) (by decide)) (Nat.le_of_ble_eq_true rfl) rfl ?_
    refine rl_goto (tgt := 183) dX9_fingerprint_227 (by decide) ?_
    refine rl_wk (L' := [some (.ref (ad (gMo 0))), some (.long j1), none, some (.int (x3 + nI 1)), none]) ⟨rfl, ⟨rfl, ⟨rfl, trivial⟩⟩⟩ ?_
    exact H
  · have H := H.2 c_1
    refine rl_ldc2 (v := 31) dX9_fingerprint_203 kcX9_192 ?_
    refine rl_lload_n dX9_fingerprint_206 rfl rfl ?_
    refine rl_lmul dX9_fingerprint_207 ?_
    refine rl_aload_n dX9_fingerprint_208 rfl rfl ?_
    refine rl_iload_n dX9_fingerprint_209 rfl rfl ?_
    refine rl_iload dX9_fingerprint_210 rfl ?_
    exact rl_callV (As := [.int x3, .int x4]) (rest := [.long (31 * j1)]) mfX9_ofLoan dX9_fingerprint_212 lkX9_149 (lMo0 L).K (by decide) (Nat.le_of_ble_eq_true rfl) (Nat.le_refl _) (Nat.le_refl _) rfl (Nat.le_of_ble_eq_true rfl) rfl rfl (fun Qc k => H Qc (fun v h' w => k (some (.int v)) h' (rl_wk (L' := [some (.ref (ad (gMo 0))), none, none, some (.int x3), some (.int x4)]) ⟨rfl, ⟨rfl, ⟨rfl, trivial⟩⟩⟩ w)))
theorem tX9_fingerprint_215 {n : Nat} {ad : Nat → Nat} {h0 : Hp} {cs : Nat → Nat → Int32} {pm : Nat → Nat → Nat} (L : Lay n ad h0) {Q : Nat → Option Value → Hp → Prop} {x3 x4 xs1 : Int32} {js0 : Int64} (H : Wm mX9_fingerprint 5 0 0 Q 196 [some (.ref (ad (gMo 0))), some (.long (js0 + ((xs1).toInt64))), none, some (.int x3), some (.int (x4 + nI 1))] [] (HN h0 ad cs pm) 0 0) : Wm mX9_fingerprint 5 0 0 Q 215 [some (.ref (ad (gMo 0))), none, none, some (.int x3), some (.int x4)] [.int xs1, .long js0] (HN h0 ad cs pm) 0 0 := by
  refine rl_i2l dX9_fingerprint_215 ?_
  refine rl_ladd dX9_fingerprint_216 ?_
  refine rl_lstore_n (L' := [some (.ref (ad (gMo 0))), some (.long (js0 + ((xs1).toInt64))), none, some (.int x3), some (.int x4)]) dX9_fingerprint_217 rfl (Nat.le_of_ble_eq_true rfl) rfl ?_
  refine rl_iinc (v := x4 + nI 1) (L' := [some (.ref (ad (gMo 0))), some (.long (js0 + ((xs1).toInt64))), none, some (.int x3), some (.int (x4 + nI 1))]) dX9_fingerprint_218 rfl (congrArg (fun z => x4 + z) (by decide)) (Nat.le_of_ble_eq_true rfl) rfl ?_
  refine rl_goto (tgt := 196) dX9_fingerprint_221 (by decide) ?_
  exact H
