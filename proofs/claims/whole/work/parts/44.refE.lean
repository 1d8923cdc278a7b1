/-! the reference: begin, transfer, lend, pass -/
def beB (x y z : Int32) : Bool := inB x (-10000) (nI 10000) && (inB y x (nI 10000) && inB z x y)
def lnV (v : Nat → Int32) (lc k s t : Nat) (x d : Int32) : Nat → Int32 :=
  let w := upd (upd (upd (upd v (lnA lc) (nI s)) (lnA lc + 1) (nI t)) (lnA lc + 2) (nI k)) (lnA lc + 3) x
  let w2 := upd w (lnA lc + 4) (w 0 + d)
  let w3 := upd w2 (rcA s s + 16) (w2 (rcA s s + 16) ||| (nI 1 <<< (nI lc &&& 31)))
  chgV (upd w3 4 (w3 4 + nI 1)) s
/-- what forbids a transfer; with r: the amount's and the duration's ranges -/
def trF (n lc : Nat) (v : Nat → Int32) (k a b x : Int32) (r : Bool) : Nat := if wpF n k a b r = 0 then (if own n lc v (ixI a) (ixI k) < x then 3 else 0) else wpF n k a b r
def leF (n lc : Nat) (v : Nat → Int32) (k a b x : Int32) (r : Bool) : Nat := if wpF n k a b r = 0 then (if lc = 10 ∨ own n lc v (ixI a) (ixI k) < x then 3 else 0) else wpF n k a b r
def paF (v : Nat → Int32) (x : Int32) : Nat := if inB x (nI 1) (nI 1000) = false then 1 else if v 0 + x ≤ nI 1000000 then 0 else 2
theorem ixI_n {a : Nat} (h : a < 2 ^ 31) : ixI (nI a) = a := nI_clamp h
theorem wpF_0 {n : Nat} {k a b : Int32} {r : Bool} (hn : 1 ≤ n ∧ n ≤ 5) (h : wpF n k a b r = 0) : ∃ x s t, x < 2 ∧ s < n ∧ t < n ∧ s ≠ t ∧ k = nI x ∧ a = nI s ∧ b = nI t ∧ r = true := by
  unfold wpF at h
  split at h
  · omega
  · next h1 =>
    split at h
    · omega
    · next h2 =>
      obtain ⟨s, hs, rfl⟩ := siB_t hn (show siB n a = true by cases e : siB n a <;> simp_all)
      obtain ⟨t, ht, rfl⟩ := siB_t hn (show siB n b = true by cases e : siB n b <;> simp_all)
      obtain ⟨x, hx, rfl⟩ := kiB_t (show kiB k = true by cases e : kiB k <;> simp_all)
      refine ⟨x, s, t, hx, hs, ht, fun e => h2 (Or.inl (by rw [e])), rfl, rfl, rfl, by cases r <;> simp_all⟩
theorem wpF_lt {n : Nat} {k a b : Int32} {r : Bool} : wpF n k a b r < 3 := by
  unfold wpF
  split
  · omega
  · split <;> omega
section RE
variable {n lc c : Nat} {ad : Nat → Nat} {h0 : Hp} {cs : Nat → Nat → Int32} {pm : Nat → Nat → Nat} {s o l k t : Nat} {f v p : Nat → Int32}
theorem c9_increase (L : Lay n ad h0) (hn : f 0 = nI n) (hc : f 4 = nI c) (h5 : c ≤ 5) (hw : WL n lc v) {a x : Int32} (he : ∀ s, s < n → a = nI s → inB x (nI 1) (nI 999) = true → x - avl n lc v s 0 ≤ 0 → usE lc s 0 lc v x) {X : Int32 → Hp → Prop} (q0 : ∀ s, s < n → a = nI s → inB x (nI 1) (nI 999) = true → X (bI (chB n lc v s 0 x)) (HN h0 ad (mS cs (actF c (upd f 7 (nI 0))) (chV n lc v s 0 x) (actP c v p)) pm)) (q1 : chF n a x ≠ 0 → X (nI 0) (HN h0 ad (mS cs (upd f 7 (nI (chF n a x))) v p) pm)) : CKi mX9_increase 7 0 0 [some (.ref (ad (gMo 0))), some (.int a), some (.int x)] (HN h0 ad (mS cs f v p) pm) X := by
  intro Qc kq
  exact tX9_increase_0 L (c9_change L hn hc h5 hw (by omega) he (fun s hs ha hx => tX9_increase_7 L ⟨bI_nar _, kq _ _ (q0 s hs ha hx)⟩) (fun h => tX9_increase_7 L ⟨by decide, kq _ _ (q1 h)⟩))
theorem c9_decrease (L : Lay n ad h0) (hn : f 0 = nI n) (hc : f 4 = nI c) (h5 : c ≤ 5) (hw : WL n lc v) {a x : Int32} (he : ∀ s, s < n → a = nI s → inB x (nI 1) (nI 999) = true → x - avl n lc v s 1 ≤ 0 → usE lc s 1 lc v x) {X : Int32 → Hp → Prop} (q0 : ∀ s, s < n → a = nI s → inB x (nI 1) (nI 999) = true → X (bI (chB n lc v s 1 x)) (HN h0 ad (mS cs (actF c (upd f 7 (nI 0))) (chV n lc v s 1 x) (actP c v p)) pm)) (q1 : chF n a x ≠ 0 → X (nI 0) (HN h0 ad (mS cs (upd f 7 (nI (chF n a x))) v p) pm)) : CKi mX9_decrease 7 0 0 [some (.ref (ad (gMo 0))), some (.int a), some (.int x)] (HN h0 ad (mS cs f v p) pm) X := by
  intro Qc kq
  exact tX9_decrease_0 L (c9_change L hn hc h5 hw (by omega) he (fun s hs ha hx => tX9_decrease_7 L ⟨bI_nar _, kq _ _ (q0 s hs ha hx)⟩) (fun h => tX9_decrease_7 L ⟨by decide, kq _ _ (q1 h)⟩))
theorem c9_begin (L : Lay n ad h0) (hn : f 0 = nI n) {x y z : Int32} {X : Int32 → Hp → Prop} (q0 : beB x y z = true → X (valV n v) (HN h0 ad (mS cs (upd (upd f 7 (nI 0)) 4 (nI 0)) (staV v x y z) p) pm)) (q1 : beB x y z = false → X (nI 0) (HN h0 ad (mS cs (upd f 7 (nI 1)) v p) pm)) : CKi mX9_begin 3 0 0 [some (.ref (ad (gMo 0))), some (.int x), some (.int y), some (.int z), none] (HN h0 ad (mS cs f v p) pm) X := by
  intro Qc kq
  refine tX9_begin_0 L ?_
  rw [mS_u0]
  have bad : beB x y z = false → Wm mX9_begin 3 0 0 Qc 38 [some (.ref (ad (gMo 0))), none, none, none, none] [] (HN h0 ad (mS cs (upd f 7 (nI 0)) v p) pm) 0 0 := by
    intro h
    refine tX9_begin_38 L (c9_fails L (tX9_begin_43 L (kq _ _ ?_)))
    rw [upd_upd]
    exact q1 h
  refine c9_in L (tX9_begin_15 L ⟨fun h => bad ?_, fun h => c9_in L (tX9_begin_26 L ⟨fun h2 => bad ?_, fun h2 => c9_in L (tX9_begin_35 L ⟨fun h3 => ?_, fun h3 => bad ?_⟩)⟩)⟩)
  · rw [bI_z] at h; simp [beB, h]
  · rw [bI_z] at h2; simp [beB, h2]
  · rw [bI_z] at h h2 h3
    have h9 : beB x y z = true := by simp [beB, h, h2, h3]
    refine c9_valueNow L (by rw [mS_0, upd_ne (by omega)]; exact hn) (tX9_begin_48 L (c9_starts L (tX9_begin_57 L (kq _ _ ?_))))
    rw [mS_1]
    exact q0 h9
  · rw [bI_z] at h3; simp [beB, h3]
theorem c9_transfer (L : Lay n ad h0) (hn : f 0 = nI n) (hc : f 4 = nI c) (h5 : c ≤ 5) (hw : WL n lc v) {k a b x : Int32} {X : Int32 → Hp → Prop} (q0 : ∀ k' s t, k' < 2 → s < n → t < n → s ≠ t → k = nI k' → a = nI s → b = nI t → inB x (nI 1) (nI 999) = true → trF n lc v k a b x (inB x (nI 1) (nI 999)) = 0 → X (own n lc (givV v k' s t x) s k') (HN h0 ad (mS cs (actF c (upd f 7 (nI 0))) (givV v k' s t x) (actP c v p)) pm)) (q1 : trF n lc v k a b x (inB x (nI 1) (nI 999)) ≠ 0 → X (nI 0) (HN h0 ad (mS cs (upd f 7 (nI (trF n lc v k a b x (inB x (nI 1) (nI 999))))) v p) pm)) : CKi mX9_transfer 4 0 0 [some (.ref (ad (gMo 0))), some (.int k), some (.int a), some (.int b), some (.int x)] (HN h0 ad (mS cs f v p) pm) X := by
  intro Qc kq
  have hb := L.1
  have bad : ∀ w : Nat, w ≠ 0 → w < 5 → trF n lc v k a b x (inB x (nI 1) (nI 999)) = w → Wm mX9_transfer 4 0 0 Qc 43 [some (.ref (ad (gMo 0))), some (.int k), some (.int a), some (.int b), some (.int x)] [] (HN h0 ad (mS cs (upd f 7 (nI w)) v p) pm) 0 0 := by
    intro w h1 h2 h3
    rw [h3] at q1
    refine tX9_transfer_43 L ⟨fun h => ?_, fun _ => kq _ _ (q1 h1)⟩
    rw [mS_0, upd_eq] at h
    exact absurd h (nI_ne0 (by omega) (by omega))
  refine tX9_transfer_0 L (c9_in L (tX9_transfer_14 L (c9_wrongPair L (by rw [mS_0]; exact hn) (tX9_transfer_17 L ⟨fun h => ?_, fun h => ?_⟩))))
  · rw [mS_u0]
    have hl := wpF_lt (n := n) (k := k) (a := a) (b := b) (r := inB x (nI 1) (nI 999))
    have hne : wpF n k a b (inB x (nI 1) (nI 999)) ≠ 0 := fun e => h (by rw [e]; rfl)
    refine bad _ hne (by omega) ?_
    rw [trF, if_neg hne]
  · rw [mS_u0, h]
    have hl := wpF_lt (n := n) (k := k) (a := a) (b := b) (r := inB x (nI 1) (nI 999))
    have he : wpF n k a b (inB x (nI 1) (nI 999)) = 0 := by rw [← nIz, nI_inj5 (by omega) (by omega)] at h; exact h
    obtain ⟨k', s, t, hk, hs, ht, hst, rfl, rfl, rfl, hx⟩ := wpF_0 (by omega) he
    refine c9_ownRights (lc := lc) L (by rw [mS_0, upd_ne (by omega)]; exact hn) (by rw [mS_1]; exact hw) hs hk (tX9_transfer_33 L ⟨fun h2 => ?_, fun h2 => ?_⟩)
    · rw [mS_1] at h2
      have hT : trF n lc v (nI k') (nI s) (nI t) x (inB x (nI 1) (nI 999)) = 0 := by
        rw [trF, if_pos he, ixI_n (by omega), ixI_n (by omega), if_neg (Int32.not_lt.mpr h2)]
      refine tX9_transfer_43 L ⟨fun _ => ?_, fun h3 => absurd (by rw [mS_0, upd_eq]) h3⟩
      refine c9_act (c := c) L (by rw [upd_ne (by omega)]; exact hc) h5 (tX9_transfer_56 L (c9_gives L hs ht hk (tX9_transfer_65 L (c9_ownRights (lc := lc) L ?_ ?_ hs hk (tX9_transfer_71 L (kq _ _ ?_))))))
      · rw [mS_0, actF, upd_ne (by omega), upd_ne (by omega)]; exact hn
      · rw [mS_1, givV, chgV]; exact (hw.upd (by have := rcA_ge s s; omega) _).upd (rcA_ge s s) _
      · rw [mS_1]; exact q0 k' s t hk hs ht hst rfl rfl rfl hx hT
    · rw [mS_1] at h2
      rw [mS_u0, upd_upd]
      refine bad 3 (by omega) (by omega) ?_
      rw [trF, if_pos he, ixI_n (by omega), ixI_n (by omega), if_pos (Int32.not_le.mp h2)]
theorem c9_lend (L : Lay n ad h0) (hn : f 0 = nI n) (hc : f 4 = nI c) (h5 : c ≤ 5) (hw : WL n lc v) {k a b x d : Int32} {X : Int32 → Hp → Prop} (q0 : ∀ k' s t, k' < 2 → s < n → t < n → s ≠ t → k = nI k' → a = nI s → b = nI t → inB x (nI 1) (nI 999) = true → inB d (nI 1) (nI 1000) = true → leF n lc v k a b x (inB x (nI 1) (nI 999) && inB d (nI 1) (nI 1000)) = 0 → X (nI lc) (HN h0 ad (mS cs (actF c (upd f 7 (nI 0))) (lnV v lc k' s t x d) (actP c v p)) pm)) (q1 : leF n lc v k a b x (inB x (nI 1) (nI 999) && inB d (nI 1) (nI 1000)) ≠ 0 → X (nI 0) (HN h0 ad (mS cs (upd f 7 (nI (leF n lc v k a b x (inB x (nI 1) (nI 999) && inB d (nI 1) (nI 1000))))) v p) pm)) : CKi mX9_lend 4 0 0 [some (.ref (ad (gMo 0))), some (.int k), some (.int a), some (.int b), some (.int x), some (.int d), none, none] (HN h0 ad (mS cs f v p) pm) X := by
  intro Qc kq
  have hb := L.1
  have bad : ∀ w : Nat, w ≠ 0 → w < 5 → leF n lc v k a b x (inB x (nI 1) (nI 999) && inB d (nI 1) (nI 1000)) = w → Wm mX9_lend 4 0 0 Qc 74 [some (.ref (ad (gMo 0))), some (.int k), some (.int a), some (.int b), some (.int x), some (.int d), none, none] [] (HN h0 ad (mS cs (upd f 7 (nI w)) v p) pm) 0 0 := by
    intro w h1 h2 h3
    rw [h3] at q1
    refine tX9_lend_74 L ⟨fun h => ?_, fun _ => kq _ _ (q1 h1)⟩
    rw [mS_0, upd_eq] at h
    exact absurd h (nI_ne0 (by omega) (by omega))
  have bad2 : leF n lc v k a b x (inB x (nI 1) (nI 999) && inB d (nI 1) (nI 1000)) = 3 → ∀ y : Int32, Wm mX9_lend 4 0 0 Qc 69 [some (.ref (ad (gMo 0))), some (.int k), some (.int a), some (.int b), some (.int x), some (.int d), none, none] [] (HN h0 ad (mS cs (upd f 7 y) v p) pm) 0 0 := by
    intro h y
    refine tX9_lend_69 L ?_
    rw [mS_u0, upd_upd]
    exact bad 3 (by omega) (by omega) h
  have rest : Wm mX9_lend 4 0 0 Qc 37 [some (.ref (ad (gMo 0))), some (.int k), some (.int a), some (.int b), some (.int x), some (.int d), none, none] [.int (nI (wpF n k a b (inB x (nI 1) (nI 999) && inB d (nI 1) (nI 1000)))), .ref (ad (gMo 0))] (HN h0 ad (mS cs f v p) pm) 0 0 := by
    have hl := wpF_lt (n := n) (k := k) (a := a) (b := b) (r := inB x (nI 1) (nI 999) && inB d (nI 1) (nI 1000))
    refine tX9_lend_37 L ⟨fun h => ?_, fun h => ?_⟩
    · rw [mS_u0]
      have hne : wpF n k a b (inB x (nI 1) (nI 999) && inB d (nI 1) (nI 1000)) ≠ 0 := fun e => h (by rw [e]; rfl)
      refine bad _ hne (by omega) ?_
      rw [leF, if_neg hne]
    · have he : wpF n k a b (inB x (nI 1) (nI 999) && inB d (nI 1) (nI 1000)) = 0 := by rw [← nIz, nI_inj5 (by omega) (by omega)] at h; exact h
      rw [mS_u0, h, mS_1]
      obtain ⟨k', s, t, hk, hs, ht, hst, rfl, rfl, rfl, hx⟩ := wpF_0 (by omega) he
      have hw' := hw
      obtain ⟨w1, w2, w3⟩ := hw'
      rw [w1]
      refine ⟨fun h2 => bad2 ?_ _, fun h2 => ?_⟩
      · rw [nI_inj5 (by omega) (by omega)] at h2
        rw [leF, if_pos he, if_pos (Or.inl h2)]
      · rw [nI_inj5 (by omega) (by omega)] at h2
        refine c9_ownRights (lc := lc) L (by rw [mS_0, upd_ne (by omega)]; exact hn) (by rw [mS_1]; exact hw) hs hk (tX9_lend_64 L ⟨fun h3 => ?_, fun h3 => bad2 ?_ _⟩)
        · rw [mS_1] at h3
          have hT : leF n lc v (nI k') (nI s) (nI t) x (inB x (nI 1) (nI 999) && inB d (nI 1) (nI 1000)) = 0 := by
            rw [leF, if_pos he, ixI_n (by omega), ixI_n (by omega), if_neg (fun e => e.elim h2 (Int32.not_lt.mpr h3))]
          have hx2 : inB x (nI 1) (nI 999) = true ∧ inB d (nI 1) (nI 1000) = true := by simpa using hx
          refine tX9_lend_74 L ⟨fun _ => ?_, fun h4 => absurd (by rw [mS_0, upd_eq]) h4⟩
          refine c9_act (c := c) L (by rw [upd_ne (by omega)]; exact hc) h5 (tX9_lend_87 L ?_)
          rw [mS_1, w1]
          have h9 : lnA lc + 4 < 2400 := by unfold lnA; omega
          refine c9_loanAt L (tX9_lend_100 L ⟨lnA lc, rfl, by omega, lnA lc + 1, nI_add _ _, by omega, lnA lc + 2, nI_add _ _, by omega, lnA lc + 3, nI_add _ _, by omega, lnA lc + 4, nI_add _ _, by omega, ?_⟩)
          rw [mS_u1, mS_u1, mS_u1, mS_u1, mS_1, mS_u1]
          refine c9_mineAt L (tX9_lend_168 L ⟨rcA s s + 16, nI_add _ _, by unfold rcA; omega, ?_⟩)
          rw [mS_1, mS_u1, mS_1, mS_u1]
          exact c9_changed L hs (tX9_lend_194 L (kq _ _ (q0 k' s t hk hs ht hst rfl rfl rfl hx2.1 hx2.2 hT)))
        · rw [mS_1] at h3
          rw [leF, if_pos he, ixI_n (by omega), ixI_n (by omega), if_pos (Or.inr (Int32.not_le.mp h3))]
  refine tX9_lend_0 L (c9_in L (tX9_lend_14 L ⟨fun h => ?_, fun h => c9_in L (tX9_lend_26 L ⟨fun h2 => ?_, fun h2 => ?_⟩)⟩))
  · rw [bI_z] at h
    have e : (inB x (nI 1) (nI 999) && inB d (nI 1) (nI 1000)) = false := by simp [h]
    rw [e] at rest
    exact c9_wrongPair (r := false) L (by rw [mS_0]; exact hn) rest
  · rw [bI_z] at h2
    have e : (inB x (nI 1) (nI 999) && inB d (nI 1) (nI 1000)) = false := by simp [h2]
    rw [e] at rest
    exact c9_wrongPair (r := false) L (by rw [mS_0]; exact hn) rest
  · rw [bI_z] at h h2
    have e : (inB x (nI 1) (nI 999) && inB d (nI 1) (nI 1000)) = true := by simp [h, h2]
    rw [e] at rest
    exact c9_wrongPair (r := true) L (by rw [mS_0]; exact hn) rest
theorem c9_pass (L : Lay n ad h0) (hc : f 4 = nI c) (h5 : c ≤ 5) {x : Int32} {X : Int32 → Hp → Prop} (q0 : paF v x = 0 → X (v 0 + x) (HN h0 ad (mS cs (actF c (upd f 7 (nI 0))) (upd v 0 (v 0 + x)) (actP c v p)) pm)) (q1 : paF v x ≠ 0 → X (nI 0) (HN h0 ad (mS cs (upd f 7 (nI (paF v x))) v p) pm)) : CKi mX9_pass 1 0 0 [some (.ref (ad (gMo 0))), some (.int x)] (HN h0 ad (mS cs f v p) pm) X := by
  intro Qc kq
  refine tX9_pass_0 L (c9_in L (tX9_pass_9 L ⟨fun h => ⟨fun h2 => ?_, fun h2 => ?_⟩, fun h => ?_⟩))
  · rw [bI_z] at h
    rw [mS_1] at h2
    rw [mS_u0]
    refine c9_act (c := c) L (by rw [upd_ne (by omega)]; exact hc) h5 (tX9_pass_50 L ?_)
    rw [mS_1, mS_u1]
    exact kq _ _ (q0 (by rw [paF, if_neg h, if_pos h2]))
  · rw [bI_z] at h
    rw [mS_1] at h2
    rw [mS_u0]
    have e : paF v x = 2 := by rw [paF, if_neg h, if_neg h2]
    rw [e] at q1
    exact kq _ _ (q1 (by omega))
  · rw [bI_z] at h
    rw [mS_u0]
    have e : paF v x = 1 := by rw [paF, if_pos h]
    rw [e] at q1
    exact kq _ _ (q1 (by omega))
end RE
