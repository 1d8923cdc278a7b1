/-! a whole script in the reference -/
def rnV (n lc mc : Nat) (v : Nat → Int32) (R : Nat → Bool × Nat × Int32 × Int32 × Int32 × Int32) : Nat → (Nat → Int32)
  | 0 => v
  | i + 1 => doV n lc mc (rnV n lc mc v R i) (R i)
theorem pC_kind {tx : Nat → Int32} {ty i : Nat} (h : (pC tx ty i).1 = true) : isK (pC tx ty i).2.2.1 = true := by
  unfold pC at *
  split at h
  · simp at h
  · next h1 =>
    have hK : isK (sg tx ty i) = true := by simpa using h1
    simp only [if_neg h1]
    split at h
    · next h2 => simp only [if_pos h2]; exact hK
    · next h2 =>
      simp only [if_neg h2]
      split at h
      · simp at h
      · next h3 =>
        simp only [if_neg h3]
        split at h
        · next h4 =>
          simp only [if_pos h4]
          split at h
          · simp at h
          · next h5 =>
            simp only [if_neg h5]
            split at h
            · simp at h
            · next h6 =>
              simp only [if_neg h6]
              split at h
              · next h7 => simp only [if_pos h7]; exact hK
              · next h7 =>
                simp only [if_neg h7]
                split at h
                · simp at h
                · next h8 => simp only [if_neg h8]; exact hK
        · next h4 =>
          simp only [if_neg h4]
          split at h
          · simp at h
          · next h5 => simp only [if_neg h5]; exact hK
section RL
variable {n lc mc c i ty : Nat} {ad : Nat → Nat} {h0 : Hp} {cs : Nat → Nat → Int32} {pm : Nat → Nat → Nat} {f v p : Nat → Int32}
theorem c9_keepsAside (L : Lay n ad h0) (hc : f 4 = nI c) (h5 : c ≤ 5) {a : Nat → Int32} (ha : ∀ j, j < 2400 → cs (gMo 3) j = a j) {X : Hp → Prop} (q : X (HN h0 ad (mS cs (actF c f) v (actP c a p)) pm)) : CKv mX9_keepsAside 1 0 0 [some (.ref (ad (gMo 0))), none] (HN h0 ad (mS cs f v p) pm) X := by
  intro Qc kq
  refine tX9_keepsAside_0 L (c9_act (c := c) L hc h5 (tX9_keepsAside_4 L ?_))
  have o3 : ∀ (f v p : Nat → Int32) (j : Nat), mS cs f v p (gMo 3) j = cs (gMo 3) j := fun f v p j => by rw [mS_o (by simp [gMo]) (by simp [gMo]) (by simp [gMo])]
  have hF : actF c f 4 = nI (actC c) := upd_eq
  have hC : 1 ≤ actC c ∧ actC c ≤ 5 := by unfold actC; split <;> omega
  have key : ∀ i, i ≤ 2400 → Wm mX9_keepsAside 1 0 0 Qc 6 [some (.ref (ad (gMo 0))), some (.int (nI i))] [] (HN h0 ad (mS cs (actF c f) v (ovw (actP c v p) (2400 * (actC c - 1)) a i)) pm) 0 0 := by
    refine loopU 2400 _ ?_ ?_
    · refine tX9_keepsAside_6 L ⟨fun _ => kq _ ?_, fun c => absurd (nI_le (Nat.le_refl _) (by omega)) c⟩
      have e : ovw (actP c v p) (2400 * (actC c - 1)) a 2400 = actP c a p := by
        unfold actP actC
        funext j
        by_cases h : c = 5
        · simp only [if_pos h]
          unfold ovw
          by_cases h2 : 9600 ≤ j ∧ j < 9600 + 2400
          · rw [if_pos (show 2400 * (5 - 1) ≤ j ∧ j < 2400 * (5 - 1) + 2400 by omega), if_pos h2]
          · rw [if_neg (show ¬ (2400 * (5 - 1) ≤ j ∧ j < 2400 * (5 - 1) + 2400) by omega), if_neg h2, if_neg h2]
        · simp only [if_neg h]
          rw [Nat.add_sub_cancel]
          unfold ovw
          by_cases h2 : 2400 * c ≤ j ∧ j < 2400 * c + 2400
          · rw [if_pos h2, if_pos h2]
          · rw [if_neg h2, if_neg h2, if_neg h2]
      rw [e]
      exact q
    · intro i hi ih
      refine tX9_keepsAside_6 L ⟨fun c => absurd c (nI_ge hi (by omega)), fun _ => ⟨i, rfl, hi, 2400 * (actC c - 1) + i, ?_, by omega, ?_⟩⟩
      · rw [mS_0, hF, pk_sub hC.1]; simp only [nI_add, pk_mul]
      · rw [o3, ha i hi, mS_u2, ovw_u, nI_add]
        exact ih
  have k0 := key 0 (Nat.zero_le _)
  rw [ovw_0] at k0
  exact k0
theorem c9_runScript (L : Lay n ad h0) (hn : f 0 = nI n) (hc : f 4 = nI c) (h5 : c ≤ 5) (h6 : f 6 = nI ty) (hty : ty ≤ 60)
    (hI : ∀ i, i ≤ (pS (cs (gMo 4)) ty 21 0).2.2 → (∀ j, j < i → doB n lc mc (rnV n lc mc v (fun j => pC (cs (gMo 4)) ty (stp (cs (gMo 4)) ty j)) j) (pC (cs (gMo 4)) ty (stp (cs (gMo 4)) ty j)) = true) → Rdy n lc mc (rnV n lc mc v (fun j => pC (cs (gMo 4)) ty (stp (cs (gMo 4)) ty j)) i)) {X : Int32 → Hp → Prop}
    (q0 : (pS (cs (gMo 4)) ty 21 0).1 = false → ∀ cs' f', RdG cs cs' (upd f 7 (nI 0)) f' → X (-1 - nI (pS (cs (gMo 4)) ty 21 0).2.1) (HN h0 ad (mS cs' f' v p) pm))
    (q1 : (pS (cs (gMo 4)) ty 21 0).1 = true → ∀ i, i < (pS (cs (gMo 4)) ty 21 0).2.2 → (∀ j, j < i → doB n lc mc (rnV n lc mc v (fun j => pC (cs (gMo 4)) ty (stp (cs (gMo 4)) ty j)) j) (pC (cs (gMo 4)) ty (stp (cs (gMo 4)) ty j)) = true) → doB n lc mc (rnV n lc mc v (fun j => pC (cs (gMo 4)) ty (stp (cs (gMo 4)) ty j)) i) (pC (cs (gMo 4)) ty (stp (cs (gMo 4)) ty i)) = false → ∀ cs' f' v', RdG cs cs' (upd f 7 (nI 0)) f' → (∀ j, j < 2400 → v' j = v j) → X (-1000 - nI i) (HN h0 ad (mS cs' f' v' p) pm))
    (q2 : (pS (cs (gMo 4)) ty 21 0).1 = true → (∀ j, j < (pS (cs (gMo 4)) ty 21 0).2.2 → doB n lc mc (rnV n lc mc v (fun j => pC (cs (gMo 4)) ty (stp (cs (gMo 4)) ty j)) j) (pC (cs (gMo 4)) ty (stp (cs (gMo 4)) ty j)) = true) → ∀ cs' f', RdG cs cs' (upd f 7 (nI 0)) f' → X (nI (pS (cs (gMo 4)) ty 21 0).2.2) (HN h0 ad (mS cs' (upd (actF c f') 6 (nI 0)) (rnV n lc mc v (fun j => pC (cs (gMo 4)) ty (stp (cs (gMo 4)) ty j)) (pS (cs (gMo 4)) ty 21 0).2.2) (actP c v p)) pm)) :
    CKi mX9_runScript 7 0 0 [some (.ref (ad (gMo 0))), none, none] (HN h0 ad (mS cs f v p) pm) X := by
  intro Qc kq
  generalize htx : cs (gMo 4) = tx at *
  refine tX9_runScript_0 L ?_
  rw [mS_u0]
  generalize hF : upd f 7 (nI 0) = F at *
  have hF0 : F 0 = nI n := by rw [← hF, upd_ne (by omega)]; exact hn
  have hF4 : F 4 = nI c := by rw [← hF, upd_ne (by omega)]; exact hc
  have hF6 : F 6 = nI ty := by rw [← hF, upd_ne (by omega)]; exact h6
  refine c9_readsScript L hF6 hty ?_
  rw [htx]
  intro cs1 f1 hR h3 h8 h9 hle hG
  generalize hN : (pS tx ty 21 0).2.2 = N at *
  have hR' := hR
  obtain ⟨R1, R2⟩ := hR'
  have hf0 : f1 0 = nI n := by rw [R2 0 (by omega) (by omega) (by omega)]; exact hF0
  have hf4 : f1 4 = nI c := by rw [R2 4 (by omega) (by omega) (by omega)]; exact hF4
  refine tX9_runScript_9 L ⟨fun h => ?_, fun h => ?_⟩
  · rw [bI_z] at h
    have hT : (pS tx ty 21 0).1 = true := by simpa using h
    have hG := hG hT
    have q1 := q1 hT
    have q2 := q2 hT
    have o : ∀ (d : Nat → Nat → Int32) (f v p : Nat → Int32), mS d f v p (gMo 3) = d (gMo 3) := fun d f v p => by rw [mS_o (by simp [gMo]) (by simp [gMo]) (by simp [gMo])]
    have ss : ∀ (r : Nat → Int32), seR cs1 (gMo 3) r (gMo 3) = r := fun r => by funext j; simp [seR]
    have so : ∀ (r : Nat → Int32) (g : Nat), g ≠ gMo 3 → seR cs1 (gMo 3) r g = cs1 g := fun r g hg => by funext j; simp [seR, hg]
    have sss : ∀ (r r2 : Nat → Int32), seR (seR cs1 (gMo 3) r) (gMo 3) r2 = seR cs1 (gMo 3) r2 := fun r r2 => by
      funext g j
      by_cases hg : g = gMo 3 <;> simp [seR, hg]
    have s0 : seR cs1 (gMo 3) (cs1 (gMo 3)) = cs1 := by
      funext g j
      by_cases hg : g = gMo 3 <;> simp [seR, hg]
    generalize hA : seR cs1 (gMo 3) (ovw (cs1 (gMo 3)) 0 v 2400) = cs2
    have hR2 : RdG cs cs2 F f1 := ⟨fun g hg => by rw [← hA, so _ g (by unfold gMo at *; omega)]; exact R1 g hg, R2⟩
    have hA3 : ∀ j, j < 2400 → cs2 (gMo 3) j = v j := by
      intro j hj
      rw [← hA, ss]
      unfold ovw
      rw [if_pos (by omega), Nat.sub_zero]
    have hG2 : ∀ j, j < N → GC j cs2 (pC tx ty (stp tx ty j)) := by
      intro j hj
      have := (hG j hj).2
      unfold GC at *
      rw [← hA, so _ _ (by unfold gMo; omega), so _ _ (by unfold gMo; omega), so _ _ (by unfold gMo; omega), so _ _ (by unfold gMo; omega)]
      exact this
    have run : ∀ (g i : Nat), i + g = N → (∀ j, j < i → doB n lc mc (rnV n lc mc v (fun j => pC tx ty (stp tx ty j)) j) (pC tx ty (stp tx ty j)) = true) → Wm mX9_runScript 7 0 0 Qc 48 [some (.ref (ad (gMo 0))), some (.int (nI i)), none] [] (HN h0 ad (mS cs2 f1 (rnV n lc mc v (fun j => pC tx ty (stp tx ty j)) i) p) pm) 0 0 := by
      intro g
      induction g with
      | zero =>
        intro i hi hall
        rw [Nat.add_zero] at hi
        subst hi
        refine tX9_runScript_48 L ⟨fun _ => c9_keepsAside (c := c) L hf4 h5 hA3 (tX9_runScript_107 L ?_), fun c => absurd ?_ c⟩
        · rw [mS_0, mS_u0, show actF c f1 9 = nI i by rw [actF, upd_ne (by omega)]; exact h9]
          exact kq _ _ (q2 hall cs2 f1 hR2)
        · rw [mS_0, h9]; exact nI_le (Nat.le_refl _) (by omega)
      | succ g ih =>
        intro i hi hall
        refine tX9_runScript_48 L ⟨fun c => absurd c (by rw [mS_0, h9]; exact nI_ge (by omega) (by omega)), fun _ => c9_does (r := pC tx ty (stp tx ty i)) L hf0 (hI i (by omega) hall) (by omega) (hG2 i (by omega)) (pC_kind (hG i (by omega)).1) (fun hd => ?_) (fun hd w => ?_)⟩
        · refine tX9_runScript_61 L ⟨fun _ => ?_, fun c => absurd c (by decide)⟩
          rw [nI_add]
          refine ih (i + 1) (by omega) (fun j hj => ?_)
          by_cases e : j = i
          · subst e; exact hd
          · exact hall j (by omega)
        · refine tX9_runScript_61 L ⟨fun c => absurd rfl c, fun _ => ?_⟩
          have key : ∀ x, x ≤ 2400 → Wm mX9_runScript 7 0 0 Qc 66 [some (.ref (ad (gMo 0))), some (.int (nI i)), some (.int (nI x))] [] (HN h0 ad (mS cs2 f1 (ovw w 0 v x) p) pm) 0 0 := by
            refine loopU 2400 _ ?_ ?_
            · refine tX9_runScript_66 L ⟨fun _ => kq _ _ (q1 i (by omega) hall hd cs2 f1 _ hR2 (fun j hj => ?_)), fun c => absurd (nI_le (Nat.le_refl _) (by omega)) c⟩
              unfold ovw
              rw [if_pos (by omega), Nat.sub_zero]
            · intro x hx ih2
              refine tX9_runScript_66 L ⟨fun c => absurd c (nI_ge hx (by omega)), fun _ => ⟨x, rfl, hx, ?_⟩⟩
              have e := ovw_u (p := w) (w := v) (a := 0) (i := x)
              rw [Nat.zero_add] at e
              rw [o, hA3 x hx, mS_u1, e, nI_add]
              exact ih2
          have k0 := key 0 (Nat.zero_le _)
          rw [ovw_0] at k0
          exact k0
    have cop : ∀ x, x ≤ 2400 → Wm mX9_runScript 7 0 0 Qc 21 [some (.ref (ad (gMo 0))), some (.int (nI x)), none] [] (HN h0 ad (mS (seR cs1 (gMo 3) (ovw (cs1 (gMo 3)) 0 v x)) f1 v p) pm) 0 0 := by
      refine loopU 2400 _ ?_ ?_
      · refine tX9_runScript_21 L ⟨fun _ => ?_, fun c => absurd (nI_le (Nat.le_refl _) (by omega)) c⟩
        rw [hA]
        exact run N 0 (by omega) (fun j hj => absurd hj (by omega))
      · intro x hx ih2
        refine tX9_runScript_21 L ⟨fun c => absurd c (nI_ge hx (by omega)), fun _ => ⟨x, rfl, hx, ?_⟩⟩
        have e := ovw_u (p := cs1 (gMo 3)) (w := v) (a := 0) (i := x)
        rw [Nat.zero_add] at e
        rw [mS_1, mS_uo (by simp [gMo]) (by simp [gMo]) (by simp [gMo]), up2_seR, ss, sss, e, nI_add]
        exact ih2
    have k0 := cop 0 (Nat.zero_le _)
    rw [ovw_0, s0] at k0
    exact k0
  · rw [bI_z] at h
    rw [mS_0, h8]
    exact kq _ _ (q0 h cs1 f1 hR)
end RL
