/-! THE CLASS: a script's commands are run -/
def NmK (r : Bool × Nat × Int32 × Int32 × Int32 × Int32) : Prop := r.2.2.1 ≠ nI 109 → ∃ w, w < 1000 ∧ r.2.2.2.2.2 = nI w
/-- the time can be tested either way -/
def TmK (v : Nat → Int32) : Prop := ∀ x, inB x (nI 1) (nI 1000) = true → (v 0 ≤ nI 1000000 - x ↔ v 0 + x ≤ nI 1000000)
section CY
variable {n lc mc c ol ty i : Nat} {ad : Nat → Nat} {h0 : Hp} {cs cs' : Nat → Nat → Int32} {pm pm' : Nat → Nat → Nat} {v p tx : Nat → Int32}
theorem dg_n {x : Int32} (h : dgB x = true) : ∃ d, d < 10 ∧ x = nI (48 + d) := by
  rw [dgB, inB_t] at h
  have h0 : ¬ x < 0 := Int32.not_lt.mpr (Int32.le_trans (by decide : (0 : Int32) ≤ nI 48) h.1)
  obtain ⟨j, hj, e⟩ := nI_of2 (M := nI 57) (n := 57) (nI_toInt (by omega)) h0 h.2
  have h1 := h.1
  rw [e, nI_leI (by omega) (by omega)] at h1
  exact ⟨j - 48, by omega, by rw [e]; congr 1; omega⟩
theorem nmR_n : ∀ (g i a : Nat), ∃ b, (nmR tx ty g i (nI a)).2 = nI b ∧ b < (a + 1) * 10 ^ g
  | 0, i, a => ⟨a, rfl, by simp⟩
  | g + 1, i, a => by
    unfold nmR
    split
    · next h =>
      obtain ⟨d, hd, e⟩ := dg_n h
      rw [e, show nI 10 * nI a + nI (48 + d) - nI 48 = nI (10 * a + d) by
        rw [pk_mul, nI_add, pk_sub (by omega)]; congr 1; omega]
      obtain ⟨b, hb, hl⟩ := nmR_n g (i + 1) (10 * a + d)
      refine ⟨b, hb, Nat.lt_of_lt_of_le hl ?_⟩
      rw [Nat.pow_succ, Nat.mul_comm (10 ^ g) 10, ← Nat.mul_assoc]
      exact Nat.mul_le_mul_right _ (by omega)
    · exact ⟨a, rfl, Nat.lt_of_lt_of_le (Nat.lt_succ_self a) (Nat.le_mul_of_pos_right _ (Nat.pow_pos (by omega)))⟩
theorem pC_num (h : (pC tx ty i).1 = true) : NmK (pC tx ty i) := by
  intro h9
  have hn : ∀ i, ∃ a, a < 1000 ∧ (nmR tx ty 3 i (nI 0)).2 = nI a := fun i => by
    obtain ⟨b, h1, h2⟩ := nmR_n (tx := tx) (ty := ty) 3 i 0
    exact ⟨b, by omega, h1⟩
  revert h h9
  unfold pC
  repeat' split
  all_goals intro h h9
  all_goals first
    | exact absurd h Bool.false_ne_true
    | exact hn _
    | exact absurd (by assumption) h9
theorem pS_le : ∀ (g ci : Nat), (pS tx ty g ci).2.2 ≤ ci + g ∧ ((pS tx ty g ci).1 = true → ∀ j, ci ≤ j → j < (pS tx ty g ci).2.2 → (pC tx ty (stp tx ty j)).1 = true)
  | 0, ci => ⟨Nat.le_refl _, fun h => absurd h Bool.false_ne_true⟩
  | g + 1, ci => by
    unfold pS
    split
    · exact ⟨Nat.le_add_right _ _, fun h => absurd h Bool.false_ne_true⟩
    · next h1 =>
      have h1' : (pC tx ty (stp tx ty ci)).1 = true := by simpa using h1
      split
      · obtain ⟨a, b⟩ := pS_le g (ci + 1)
        refine ⟨by omega, fun e j h3 h4 => ?_⟩
        by_cases e2 : j = ci
        · rw [e2]; exact h1'
        · exact b e j (by omega) h4
      · refine ⟨by show ci + 1 ≤ ci + (g + 1); omega, fun e j h3 h4 => ?_⟩
        have h5 : j < ci + 1 := h4
        rw [show j = ci by omega]
        exact h1'
theorem inB_w {w : Nat} (hw : w < 1000) : inB (nI w) (nI 1) (nI 999) = true ↔ ¬ nI w < nI 1 := by
  rw [inB_t, nI_leI (by omega) (by omega), nI_leI (by omega) (by omega), nI_ltI (by omega) (by omega)]
  omega
theorem inB_w2 {w : Nat} (hw : w < 1000) : inB (nI w) (nI 1) (nI 1000) = inB (nI w) (nI 1) (nI 999) := by
  rw [Bool.eq_iff_iff, inB_t, inB_t, nI_leI (by omega) (by omega), nI_leI (by omega) (by omega), nI_leI (by omega) (by omega)]
  omega
theorem trF_iff {k w : Nat} {a b : Int32} (hk : k < 2) (hw : w < 1000) : trF n lc v (nI k) a b (nI w) (inB (nI w) (nI 1) (nI 999)) = 0 ↔ siB n a = true ∧ siB n b = true ∧ ¬ a = b ∧ ¬ nI w < nI 1 ∧ nI w ≤ own n lc v (ixI a) k := by
  have hki : kiB (nI k) = true := by rw [kiB, inB_t]; exact ⟨nI_le (by omega) (by omega), nI_le (by omega) (by omega)⟩
  have hix : ixI (nI k) = k := ixI_n (by omega)
  constructor
  · intro h
    obtain ⟨h1, h2⟩ := trF_0 h
    rw [hix] at h2
    unfold wpF at h1
    split at h1
    · omega
    · next g1 =>
      split at h1
      · omega
      · next g2 =>
        refine ⟨?_, ?_, fun e => g2 (Or.inl e), ?_, Int32.not_lt.mp h2⟩
        · cases e : siB n a with
          | true => rfl
          | false => exact absurd (Or.inl e) g1
        · cases e : siB n b with
          | true => rfl
          | false => exact absurd (Or.inr (Or.inl e)) g1
        · rw [← inB_w hw]
          cases e : inB (nI w) (nI 1) (nI 999) with
          | true => rfl
          | false => exact absurd (Or.inr e) g2
  · intro ⟨e1, e2, e3, e4, e5⟩
    rw [← inB_w hw] at e4
    rw [trF, show wpF n (nI k) a b (inB (nI w) (nI 1) (nI 999)) = 0 by
      rw [wpF, if_neg (by rw [e1, e2, hki]; simp), if_neg (by rw [e4]; simp [e3])], if_pos rfl, hix, if_neg (Int32.not_lt.mpr e5)]
theorem nI_z {w : Nat} (h : w < 100000) : nI w = 0 ↔ w = 0 := by rw [← nIz, nI_inj5 h (by omega)]
theorem c8_runTransfer (L : Lay n ad h0) (hE : cs gEc 0 = nI n) (h0' : S0 n cs pm 0) (hR : SR n lc mc cs pm 0 v) (hw : WL n lc v) (hi : i < 30) {k : Nat} (hk : k < 2) {a b x : Int32} (h1 : cs (gCm i) 1 = a) (h2 : cs (gCm i) 2 = b) (h3 : cs (gCm i) 3 = x) {X : Int32 → Hp → Prop} (q0 : ∀ s t, s < n → t < n → a = nI s → b = nI t → trF n lc v (nI k) a b x (inB x (nI 1) (nI 999)) = 0 → ∀ cs', FrS 0 cs cs' → S0 n cs' pm 0 → SR n lc mc cs' pm 0 (givV v k s t x) → X (nI 1) (HN h0 ad cs' pm)) (q1 : trF n lc v (nI k) a b x (inB x (nI 1) (nI 999)) ≠ 0 → X (nI 0) (HN h0 ad cs pm)) : CKi mX8_runTransfer 4 0 0 [some (.ref (ad gEc)), some (.int (nI k)), some (.ref (ad (gCm i)))] (HN h0 ad cs pm) X := by
  intro Qc kq
  have hb := L.1
  refine tX8_runTransfer_0 L ⟨hi, ?_⟩
  rw [h1, h2, h3]
  have hl := trF_lt (n := n) (lc := lc) (v := v) (k := nI k) (a := a) (b := b) (x := x) (r := inB x (nI 1) (nI 999))
  refine c8_transferFault L hE h0' hR hw (tX8_runTransfer_17 L ?_)
  rw [nI_z (by omega)]
  refine ⟨fun c => ⟨hi, ?_⟩, fun c => kq _ _ (q1 c)⟩
  rw [h1, h2, h3]
  obtain ⟨k', s, t, hk', hs, ht, hst, e1, rfl, rfl, hx⟩ := wpF_0 (by omega) (trF_0 c).1
  exact c6_give L h0' hR hs ht hk (fun E hFE hSE hRE => tX8_runTransfer_42 L (kq _ _ (q0 s t hs ht rfl rfl c E hFE hSE hRE)))
theorem arV_5 {w : Nat → Int32} {y : Int32} {m t j : Nat} (hj : j ≠ 5) : arV (upd w 5 y) m t n j = arV w m t n j := by
  have hr : ∀ o, rpB (upd w 5 y) m t o = rpB w m t o := by
    intro o
    have g1 := rcA_ge t o
    have g2 := mgA_ge m
    unfold rpB
    rw [upd_ne (by omega), upd_ne (by omega), upd_ne (by omega), upd_ne (by omega)]
  unfold arV
  rw [hr]
  split
  · rw [upd_ne (by have := mgA_ge m; omega)]
  · rw [upd_ne hj]
theorem go_ar {w : Nat → Int32} {y : Int32} {t : Nat} (h5 : w 5 = nI mc) : goV (arV (upd w 5 y) mc t n) (mc + 1) mc = arV w mc t n := by
  unfold goV
  rw [Nat.add_sub_cancel, shf_0]
  funext j
  by_cases hj : j = 5
  · rw [hj, upd_eq]
    unfold arV
    rw [if_neg (by have := rcA_ge t 0; omega), h5]
  · rw [upd_ne hj, arV_5 hj]
theorem c8_runMessage (L : Lay n ad h0) (hE : cs gEc 0 = nI n) (h0' : S0 n cs pm 0) (hR : SR n lc mc cs pm 0 v) (hi : i < 30) {a b : Int32} (h1 : cs (gCm i) 1 = a) (h2 : cs (gCm i) 2 = b) {X : Int32 → Hp → Prop} (q0 : ∀ s t, s < n → t < n → s ≠ t → mc < 8 → a = nI s → b = nI t → ∀ cs' pm', FrS 0 cs cs' → (∀ k', k' ≠ 0 → pm' k' = pm k') → S0 n cs' pm' 0 → SR n lc mc cs' pm' 0 (arV (wrV v mc s (nI s) (nI t) n) mc t n) → X (nI 1) (HN h0 ad cs' pm')) (q1 : seF n mc a b ≠ 0 → X (nI 0) (HN h0 ad cs pm)) : CKi mX8_runMessage 4 0 0 [some (.ref (ad gEc)), some (.ref (ad (gCm i)))] (HN h0 ad cs pm) X := by
  intro Qc kq
  have hb := L.1
  have hm := hR.2.1.2.2.2
  refine tX8_runMessage_0 L ⟨hi, ?_⟩
  rw [h1, h2]
  have hl := seF_lt (n := n) (mc := mc) (a := a) (b := b)
  refine c8_sendFault L hE hR.1.2.2.2.2.2 hm (tX8_runMessage_12 L ?_)
  rw [nI_z (by omega)]
  refine ⟨fun c => ⟨hi, ?_⟩, fun c => kq _ _ (q1 c)⟩
  rw [h1, h2]
  obtain ⟨s, t, hs, ht, hst, h8, rfl, rfl⟩ := seF_0 (by omega) c
  refine c6_post L h0' hR (by omega) hs (fun D hFD hSD hRD => tX8_runMessage_36 L ⟨by omega, c6_handOver L hSD hRD (Nat.lt_succ_self mc) ht ?_ (fun E pm2 hFE hpE hSE hRE => tX8_runMessage_39 L (kq _ _ (q0 s t hs ht hst (by omega) rfl rfl E pm2 (hFD.trans hFE) hpE hSE ?_)))⟩)
  · have g2 := mgA_ge mc
    rw [upd_ne (by omega)]
    unfold wrV
    rw [if_neg (by omega), if_pos rfl]
  · rw [go_ar (by rw [wrV_lo (by omega)]; exact hR.2.1.2.1), Nat.add_sub_cancel] at hRE
    exact hRE
theorem c8_runPass (L : Lay n ad h0) (h0' : S0 n cs pm 0) (hR : SR n lc mc cs pm 0 v) (hi : i < 30) (hT : TmK v) {x : Int32} (h3 : cs (gCm i) 3 = x) {X : Int32 → Hp → Prop} (q0 : paF v x = 0 → ∀ cs', FrS 0 cs cs' → S0 n cs' pm 0 → SR n lc mc cs' pm 0 (upd v 0 (v 0 + x)) → X (nI 1) (HN h0 ad cs' pm)) (q1 : paF v x ≠ 0 → X (nI 0) (HN h0 ad cs pm)) : CKi mX8_runPass 2 0 0 [some (.ref (ad gEc)), some (.ref (ad (gCm i)))] (HN h0 ad cs pm) X := by
  intro Qc kq
  refine tX8_runPass_0 L ⟨hi, ?_⟩
  rw [h3]
  have hl := paF_lt (v := v) (x := x)
  refine c8_passFault L hR.1.2.2.2.1 (hT x) (tX8_runPass_8 L ?_)
  by_cases e : paF v x = 0
  · rw [if_pos e]
    refine ⟨fun _ => ⟨hi, ?_⟩, fun c => absurd rfl c⟩
    rw [h3]
    exact c6_letPass L h0' hR (fun E hFE hSE hRE => tX8_runPass_24 L (kq _ _ (q0 e E hFE hSE hRE)))
  · rw [if_neg e, nI_z (by omega)]
    exact ⟨fun c => by omega, fun _ => kq _ _ (q1 e)⟩
theorem c8_runCommand (L : Lay n ad h0) (hE : cs gEc 0 = nI n) (h0' : S0 n cs pm 0) (hR : SR n lc mc cs pm 0 v) (hw : WL n lc v) (hT : TmK v) (hi : i < 30) {r : Bool × Nat × Int32 × Int32 × Int32 × Int32} (hG : GK i cs r) (hK : isK r.2.2.1 = true) (hN : NmK r) {X : Int32 → Hp → Prop} (q0 : doB n lc mc v r = true → ∀ cs' pm', FrS 0 cs cs' → (∀ k', k' ≠ 0 → pm' k' = pm k') → S0 n cs' pm' 0 → SR n lc mc cs' pm' 0 (doV n lc mc v r) → X (nI 1) (HN h0 ad cs' pm')) (q1 : doB n lc mc v r = false → ∀ cs', FrS 0 cs cs' → S0 n cs' pm 0 → X (nI 0) (HN h0 ad cs' pm)) : CKi mX8_runCommand 5 0 0 [some (.ref (ad gEc)), some (.ref (ad (gCm i)))] (HN h0 ad cs pm) X := by
  obtain ⟨r1, r2, c, a, b, x⟩ := r
  obtain ⟨g0, g1, g2, g3⟩ := hG
  simp only at g0 g1 g2 g3 hK
  intro Qc kq
  have hb := L.1
  have hm := hR.2.1.2.2.2
  have ff : ∀ {b : Bool}, ¬ b = true → b = false := fun {b} h => by cases b; rfl; exact absurd rfl h
  have change : ∀ k, k < 2 → doB n lc mc v (r1, r2, c, a, b, x) = (siB n a && (inB x (nI 1) (nI 999) && chB n lc v (ixI a) k x)) → doV n lc mc v (r1, r2, c, a, b, x) = chV n lc v (ixI a) k x → chF n a x = 0 → ∀ P : Int32 → Hp → Prop, (∀ w E, (w = 0 → X (nI 0) (HN h0 ad E pm)) → (¬ w = 0 → X (nI 1) (HN h0 ad E pm)) → P w (HN h0 ad E pm)) → CKi mX6_change 4 0 0 [some (.ref (ad (gSt 0))), some (.int a), some (.int (nI k)), some (.int x), none, none] (HN h0 ad cs pm) P := by
    intro k hk eB eV e P hP
    obtain ⟨s, hs, rfl, hx⟩ := chF_0 (by omega) e
    rw [ixI_n (by omega), siB_n (by omega) hs, hx, Bool.true_and, Bool.true_and] at eB
    rw [ixI_n (by omega)] at eV
    refine c6_change L h0' hR hw hs hk (fun E hFE hSE hRE => hP _ _ (fun z => q1 (by rw [eB]; exact bI_z.mp z) E hFE hSE) (fun z => q0 ?_ E pm hFE (fun _ _ => rfl) hSE (by rw [eV]; exact hRE)))
    rw [eB]
    cases e2 : chB n lc v s k x with
    | true => rfl
    | false => rw [e2] at z; exact absurd rfl z
  have chNo : ∀ k, doB n lc mc v (r1, r2, c, a, b, x) = (siB n a && (inB x (nI 1) (nI 999) && chB n lc v (ixI a) k x)) → chF n a x ≠ 0 → X (nI 0) (HN h0 ad cs pm) := by
    intro k eB e
    refine q1 ?_ cs FrS.refl h0'
    rw [eB]
    unfold chF at e
    split at e
    · next h => rw [h, Bool.false_and]
    · split at e
      · next h => rw [h, Bool.false_and, Bool.and_false]
      · omega
  have chl : chF n a x < 4 := chF_lt
  have tr : ∀ k, k < 2 → c ≠ nI 109 → doB n lc mc v (r1, r2, c, a, b, x) = (siB n a && (siB n b && (decide (¬ a = b) && (decide (¬ x < nI 1) && decide (x ≤ own n lc v (ixI a) k))))) → doV n lc mc v (r1, r2, c, a, b, x) = givV v k (ixI a) (ixI b) x → cs (gCm i) 1 = a → cs (gCm i) 2 = b → cs (gCm i) 3 = x → ∀ P : Int32 → Hp → Prop, (∀ w E pm2, narrow .boolean (.int w) = .int w → X w (HN h0 ad E pm2) → P w (HN h0 ad E pm2)) → CKi mX8_runTransfer 4 0 0 [some (.ref (ad gEc)), some (.int (nI k)), some (.ref (ad (gCm i)))] (HN h0 ad cs pm) P := by
    intro k hk h9 eB eV e1 e2 e3 P hP
    obtain ⟨w, hw9, ew⟩ := hN h9
    simp only at ew
    have hiff := trF_iff (n := n) (lc := lc) (v := v) (a := a) (b := b) hk hw9
    rw [← ew] at hiff
    refine c8_runTransfer L hE h0' hR hw hi hk e1 e2 e3 (fun s t hs ht ea eb e E hFE hSE hRE => hP _ _ _ rfl (q0 ?_ E pm hFE (fun _ _ => rfl) hSE ?_)) (fun e => hP _ _ _ rfl (q1 ?_ cs FrS.refl h0'))
    · obtain ⟨f1, f2, f3, f4, f5⟩ := hiff.mp e
      rw [eB, f1, f2]
      simp only [f3, f4, f5, not_false_iff, decide_true, Bool.and_self]
    · rw [eV, ea, eb, ixI_n (by omega), ixI_n (by omega)]; exact hRE
    · refine ff (fun h => e (hiff.mpr ?_))
      rw [eB] at h
      simp only [Bool.and_eq_true, decide_eq_true_eq] at h
      exact h
  refine tX8_runCommand_0 L ⟨hi, fun e => ?_, fun e => ?_, fun e => ?_, fun e => ?_, fun e => ?_, fun e => ?_, fun e1 e2 e3 e4 e5 e6 => ?_⟩
  · rw [g0] at e
    subst e
    have eB : doB n lc mc v (r1, r2, nI 43, a, b, x) = (siB n a && (inB x (nI 1) (nI 999) && chB n lc v (ixI a) 0 x)) := by
      unfold doB; rw [if_neg (by show ¬ nI 43 = nI 116; decide), if_pos rfl]
    have eV : doV n lc mc v (r1, r2, nI 43, a, b, x) = chV n lc v (ixI a) 0 x := by
      unfold doV; rw [if_neg (by show ¬ nI 43 = nI 116; decide), if_pos rfl]
    rw [g1 (by decide), g3 (by decide)]
    refine c8_changeFault L hE (tX8_runCommand_76 L ?_)
    rw [nI_z (by omega)]
    refine ⟨fun z => kq _ _ (chNo 0 eB z), fun z => ⟨hi, ?_⟩⟩
    rw [g1 (by decide), g3 (by decide)]
    exact change 0 (by omega) eB eV z _ (fun w E f1 f2 => tX8_runCommand_95 L ⟨fun y => kq _ _ (f1 y), fun y => kq _ _ (f2 y)⟩)
  · rw [g0] at e
    subst e
    have eB : doB n lc mc v (r1, r2, nI 45, a, b, x) = (siB n a && (inB x (nI 1) (nI 999) && chB n lc v (ixI a) 1 x)) := by
      unfold doB; rw [if_neg (by show ¬ nI 45 = nI 116; decide), if_neg (by show ¬ nI 45 = nI 43; decide), if_pos rfl]
    have eV : doV n lc mc v (r1, r2, nI 45, a, b, x) = chV n lc v (ixI a) 1 x := by
      unfold doV; rw [if_neg (by show ¬ nI 45 = nI 116; decide), if_neg (by show ¬ nI 45 = nI 43; decide), if_pos rfl]
    rw [g1 (by decide), g3 (by decide)]
    refine c8_changeFault L hE (tX8_runCommand_116 L ?_)
    rw [nI_z (by omega)]
    refine ⟨fun z => kq _ _ (chNo 1 eB z), fun z => ⟨hi, ?_⟩⟩
    rw [g1 (by decide), g3 (by decide)]
    exact change 1 (by omega) eB eV z _ (fun w E f1 f2 => tX8_runCommand_135 L ⟨fun y => kq _ _ (f1 y), fun y => kq _ _ (f2 y)⟩)
  · rw [g0] at e
    subst e
    have eB : doB n lc mc v (r1, r2, nI 100, a, b, x) = (siB n a && (siB n b && (decide (¬ a = b) && (decide (¬ x < nI 1) && decide (x ≤ own n lc v (ixI a) 1))))) := by
      unfold doB
      rw [if_neg (by show ¬ nI 100 = nI 116; decide), if_neg (by show ¬ nI 100 = nI 43; decide), if_neg (by show ¬ nI 100 = nI 45; decide), if_neg (by show ¬ nI 100 = nI 109; decide), if_neg (by show ¬ nI 100 = nI 117; decide)]
    have eV : doV n lc mc v (r1, r2, nI 100, a, b, x) = givV v 1 (ixI a) (ixI b) x := by
      unfold doV
      rw [if_neg (by show ¬ nI 100 = nI 116; decide), if_neg (by show ¬ nI 100 = nI 43; decide), if_neg (by show ¬ nI 100 = nI 45; decide), if_neg (by show ¬ nI 100 = nI 109; decide), if_neg (by show ¬ nI 100 = nI 117; decide)]
    exact tr 1 (by omega) (by decide) eB eV (g1 (by decide)) (g2 (by decide)) (g3 (by decide)) _ (fun w E pm2 hw1 f => tX8_runCommand_157 L ⟨hw1, kq _ _ f⟩)
  · rw [g0] at e
    subst e
    have eB : doB n lc mc v (r1, r2, nI 109, a, b, x) = (siB n a && (siB n b && (decide (¬ a = b) && decide (mc < 8)))) := by
      unfold doB
      rw [if_neg (by show ¬ nI 109 = nI 116; decide), if_neg (by show ¬ nI 109 = nI 43; decide), if_neg (by show ¬ nI 109 = nI 45; decide), if_pos rfl]
    have eV : doV n lc mc v (r1, r2, nI 109, a, b, x) = arV (wrV v mc (ixI a) a b n) mc (ixI b) n := by
      unfold doV
      rw [if_neg (by show ¬ nI 109 = nI 116; decide), if_neg (by show ¬ nI 109 = nI 43; decide), if_neg (by show ¬ nI 109 = nI 45; decide), if_pos rfl]
    refine c8_runMessage L hE h0' hR hi (g1 (by decide)) (g2 (by decide)) (fun s t hs ht hst h8 ea eb E pm2 hFE hpE hSE hRE => tX8_runCommand_163 L ⟨rfl, kq _ _ (q0 ?_ E pm2 hFE hpE hSE ?_)⟩) (fun e => tX8_runCommand_163 L ⟨rfl, kq _ _ (q1 (ff (fun h => e ?_)) cs FrS.refl h0')⟩)
    · rw [eB, ea, eb, siB_n (by omega) hs, siB_n (by omega) ht]
      have : ¬ nI s = nI t := by rw [nI_inj5 (by omega) (by omega)]; exact hst
      simp only [this, h8, not_false_iff, decide_true, Bool.and_self]
    · rw [eV, ea, eb, ixI_n (by omega), ixI_n (by omega)]; exact hRE
    · rw [eB] at h
      simp only [Bool.and_eq_true, decide_eq_true_eq] at h
      rw [seF, if_neg (by rw [h.1, h.2.1]; simp), if_neg h.2.2.1, if_neg (by omega)]
  · rw [g0] at e
    subst e
    obtain ⟨w, hw9, ew⟩ := hN (by show nI 116 ≠ nI 109; decide)
    simp only at ew
    have eB : doB n lc mc v (r1, r2, nI 116, a, b, x) = (inB x (nI 1) (nI 999) && decide (v 0 + x ≤ nI 1000000)) := by
      unfold doB; rw [if_pos rfl]
    have eV : doV n lc mc v (r1, r2, nI 116, a, b, x) = upd v 0 (v 0 + x) := by
      unfold doV; rw [if_pos rfl]
    have ein : inB x (nI 1) (nI 1000) = inB x (nI 1) (nI 999) := by rw [ew]; exact inB_w2 hw9
    refine c8_runPass L h0' hR hi hT (g3 (by decide)) (fun e E hFE hSE hRE => tX8_runCommand_169 L ⟨rfl, kq _ _ (q0 ?_ E pm hFE (fun _ _ => rfl) hSE (by rw [eV]; exact hRE))⟩) (fun e => tX8_runCommand_169 L ⟨rfl, kq _ _ (q1 (ff (fun h => e ?_)) cs FrS.refl h0')⟩)
    · unfold paF at e
      split at e
      · omega
      · next h1 =>
        split at e
        · next h2 =>
          rw [ein] at h1
          rw [eB, show inB x (nI 1) (nI 999) = true by simpa using h1]
          simp only [h2, decide_true, Bool.and_self]
        · omega
    · rw [eB] at h
      simp only [Bool.and_eq_true, decide_eq_true_eq] at h
      rw [paF, ein, if_neg (by rw [h.1]; simp), if_pos h.2]
  · rw [g0] at e
    subst e
    have eB : doB n lc mc v (r1, r2, nI 117, a, b, x) = (siB n a && (siB n b && (decide (¬ a = b) && (decide (¬ x < nI 1) && decide (x ≤ own n lc v (ixI a) 0))))) := by
      unfold doB
      rw [if_neg (by show ¬ nI 117 = nI 116; decide), if_neg (by show ¬ nI 117 = nI 43; decide), if_neg (by show ¬ nI 117 = nI 45; decide), if_neg (by show ¬ nI 117 = nI 109; decide), if_pos rfl]
    have eV : doV n lc mc v (r1, r2, nI 117, a, b, x) = givV v 0 (ixI a) (ixI b) x := by
      unfold doV
      rw [if_neg (by show ¬ nI 117 = nI 116; decide), if_neg (by show ¬ nI 117 = nI 43; decide), if_neg (by show ¬ nI 117 = nI 45; decide), if_neg (by show ¬ nI 117 = nI 109; decide), if_pos rfl]
    exact tr 0 (by omega) (by decide) eB eV (g1 (by decide)) (g2 (by decide)) (g3 (by decide)) _ (fun w E pm2 hw1 f => tX8_runCommand_150 L ⟨hw1, kq _ _ f⟩)
  · rw [g0] at e1 e2 e3 e4 e5 e6
    exfalso
    simp [isK, e1, e2, e3, e4, e5, e6] at hK
end CY
