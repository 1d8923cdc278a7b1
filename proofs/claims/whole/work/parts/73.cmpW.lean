/-! THE CLASS: transfers, loans, time, messages -/
section CW
variable {n lc mc c ol : Nat} {ad : Nat → Nat} {h0 : Hp} {cs cs' : Nat → Nat → Int32} {pm pm' : Nat → Nat → Nat} {v p : Nat → Int32}
theorem WL.giv (h : WL n lc v) {k s t : Nat} {x : Int32} : WL n lc (givV v k s t x) := (h.upd (by have := rcA_ge s s; omega) _).upd (rcA_ge s s) _
theorem trF_0 {k a b x : Int32} {r : Bool} (h : trF n lc v k a b x r = 0) : wpF n k a b r = 0 ∧ ¬ own n lc v (ixI a) (ixI k) < x := by
  unfold trF at h
  split at h
  · next e =>
    refine ⟨e, fun c => ?_⟩
    rw [if_pos c] at h
    omega
  · next e => exact absurd h e
theorem trF_lt {k a b x : Int32} {r : Bool} : trF n lc v k a b x r < 4 := by
  have := wpF_lt (n := n) (k := k) (a := a) (b := b) (r := r)
  unfold trF
  split
  · split <;> omega
  · omega
theorem leF_0 {k a b x : Int32} {r : Bool} (h : leF n lc v k a b x r = 0) : wpF n k a b r = 0 ∧ lc ≠ 10 ∧ ¬ own n lc v (ixI a) (ixI k) < x := by
  unfold leF at h
  split at h
  · next e =>
    refine ⟨e, fun c => ?_, fun c => ?_⟩
    · rw [if_pos (Or.inl c)] at h
      omega
    · rw [if_pos (Or.inr c)] at h
      omega
  · next e => exact absurd h e
theorem leF_lt {k a b x : Int32} {r : Bool} : leF n lc v k a b x r < 4 := by
  have := wpF_lt (n := n) (k := k) (a := a) (b := b) (r := r)
  unfold leF
  split
  · split <;> omega
  · omega
theorem seF_lt {a b : Int32} : seF n mc a b < 4 := by
  unfold seF
  split
  · omega
  · split
    · omega
    · split <;> omega
theorem seF_0 (hn : 1 ≤ n ∧ n ≤ 5) {a b : Int32} (h : seF n mc a b = 0) : ∃ s t, s < n ∧ t < n ∧ s ≠ t ∧ mc ≠ 8 ∧ a = nI s ∧ b = nI t := by
  unfold seF at h
  split at h
  · omega
  · next h1 =>
    split at h
    · omega
    · next h2 =>
      split at h
      · omega
      · next h3 =>
        have e1 : siB n a = true := by
          cases e : siB n a with
          | true => rfl
          | false => exact absurd (Or.inl e) h1
        have e2 : siB n b = true := by
          cases e : siB n b with
          | true => rfl
          | false => exact absurd (Or.inr e) h1
        obtain ⟨s, hs, rfl⟩ := siB_t hn e1
        obtain ⟨t, ht, rfl⟩ := siB_t hn e2
        exact ⟨s, t, hs, ht, fun e => h2 (by rw [e]), h3, rfl, rfl⟩
theorem b01 {b : Bool} (h : (if b = false then 1 else 0 : Nat) ≠ 0) : b = false := by
  cases b
  · rfl
  · exact absurd rfl h
theorem b00 {b : Bool} (h : (if b = false then 1 else 0 : Nat) = 0) : b = true := by
  cases b
  · exact absurd h (by simp)
  · rfl
theorem b02 {b : Bool} : (if b = false then 1 else 0 : Nat) < 4 := by split <;> omega
theorem c8_transfer (L : Lay n ad h0) (hE : cs gEc 0 = nI n) (hH : HS n cs pm p c ol) (hR : SR n lc mc cs pm 0 v) (hw : WL n lc v) {k a b x : Int32} {X : Int32 → Hp → Prop} {Y : Nat → Hp → Prop} (q0 : ∀ k' s t, k' < 2 → s < n → t < n → s ≠ t → k = nI k' → a = nI s → b = nI t → inB x (nI 1) (nI 999) = true → trF n lc v k a b x (inB x (nI 1) (nI 999)) = 0 → ∀ cs' ol', FrH cs cs' → HS n cs' pm (actP c v p) (actC c) ol' → SR n lc mc cs' pm 0 (givV v k' s t x) → X (own n lc (givV v k' s t x) s k') (HN h0 ad cs' pm)) (q1 : trF n lc v k a b x (inB x (nI 1) (nI 999)) ≠ 0 → ∀ z, hpZ h0 ≤ z → Y (trF n lc v k a b x (inB x (nI 1) (nI 999))) (HN (stZ h0 z) ad cs pm)) : CXi mX8_transfer 7 1 6 [some (.ref (ad gEc)), some (.int k), some (.int a), some (.int b), some (.int x)] (HN h0 ad cs pm) X Y := by
  intro Qc kq ky
  have hb := L.1
  refine tX8_transfer_0 L ⟨by omega, by omega, c8_transferFault L hE (hH.1 0 (by omega)) hR hw (tX8_transfer_9 (mcn := 1) (msn := 6) L ⟨by omega, by omega, c8_throwFor L trF_lt (fun h => ?_) (fun h z hz => ky _ _ h (q1 h z hz))⟩)⟩
  obtain ⟨k', s, t, hk, hs, ht, hst, rfl, rfl, rfl, hx⟩ := wpF_0 (by omega) (trF_0 h).1
  exact tX8_transfer_12 L ⟨by omega, by omega, c1_add L hH hR (fun D ol' hF hH2 hR2 => tX8_transfer_23 L ⟨by omega, by omega, c6_give L (hH2.1 0 (by omega)) hR2 hs ht hk (fun E hFE hSE hRE => tX8_transfer_35 L ⟨by omega, by omega, c6_ownRights L hSE hRE hw.giv hs hk (tX8_transfer_44 L ⟨by omega, by omega, kq _ _ (q0 k' s t hk hs ht hst rfl rfl rfl hx h E ol' (hF.trans (hFE.H (by omega))) (hH2.now (by omega) hFE hSE (fun _ _ => rfl)) hRE)⟩)⟩)⟩)⟩
theorem c8_lend (L : Lay n ad h0) (hE : cs gEc 0 = nI n) (hH : HS n cs pm p c ol) (hR : SR n lc mc cs pm 0 v) (hw : WL n lc v) {k a b x d : Int32} {X : Int32 → Hp → Prop} {Y : Nat → Hp → Prop} (q0 : ∀ k' s t, k' < 2 → s < n → t < n → s ≠ t → k = nI k' → a = nI s → b = nI t → inB x (nI 1) (nI 999) = true → inB d (nI 1) (nI 1000) = true → leF n lc v k a b x (inB x (nI 1) (nI 999) && inB d (nI 1) (nI 1000)) = 0 → ∀ cs' ol', FrH cs cs' → HS n cs' pm (actP c v p) (actC c) ol' → SR n (lc + 1) mc cs' pm 0 (lnV v lc k' s t x d) → X (nI lc) (HN h0 ad cs' pm)) (q1 : leF n lc v k a b x (inB x (nI 1) (nI 999) && inB d (nI 1) (nI 1000)) ≠ 0 → ∀ z, hpZ h0 ≤ z → Y (leF n lc v k a b x (inB x (nI 1) (nI 999) && inB d (nI 1) (nI 1000))) (HN (stZ h0 z) ad cs pm)) : CXi mX8_lend 7 1 6 [some (.ref (ad gEc)), some (.int k), some (.int a), some (.int b), some (.int x), some (.int d)] (HN h0 ad cs pm) X Y := by
  intro Qc kq ky
  have hb := L.1
  have hlc := hw.2.1
  refine tX8_lend_0 L ⟨by omega, by omega, c8_lendFault L hE (hH.1 0 (by omega)) hR hw (tX8_lend_11 (mcn := 1) (msn := 6) L ⟨by omega, by omega, c8_throwFor L leF_lt (fun h => ?_) (fun h z hz => ky _ _ h (q1 h z hz))⟩)⟩
  obtain ⟨h1, h2, h3⟩ := leF_0 h
  obtain ⟨k', s, t, hk, hs, ht, hst, rfl, rfl, rfl, hx⟩ := wpF_0 (by omega) h1
  rw [Bool.and_eq_true] at hx
  exact tX8_lend_14 L ⟨by omega, by omega, c1_add L hH hR (fun D ol' hF hH2 hR2 => tX8_lend_25 L ⟨by omega, by omega, c6_makeLoan L (hH2.1 0 (by omega)) hR2 (by omega) hs (fun E hFE hSE hRE => tX8_lend_39 L ⟨by omega, by omega, kq _ _ (q0 k' s t hk hs ht hst rfl rfl rfl hx.1 hx.2 h E ol' (hF.trans (hFE.H (by omega))) (hH2.now (by omega) hFE hSE (fun _ _ => rfl)) hRE)⟩)⟩)⟩
/-- what sharing out asks of a row: its sums as ints and longs, its shares as ints and longs -/
def RbOK (n lc : Nat) (v : Nat → Int32) (s k : Nat) : Prop := (dmS v s k n).toInt64 = rbA v s k n ∧ (0 < dmS v s k n ↔ ¬ lg_cmp (rbA v s k n) 0 ≤ 0) ∧ (¬ lg_cmp (rbA v s k n) 0 ≤ 0 → ∀ o, o < n → (lg_cmp (((own n lc v s k).toInt64 * (v (rcA s o + 14 + k)).toInt64) / rbA v s k n) 0 ≤ 0 ↔ (((own n lc v s k).toInt64 * (v (rcA s o + 14 + k)).toInt64) / rbA v s k n).toInt32 ≤ 0)) ∧ (∀ i, i < n → ¬ rbP v s k (own n lc v s k).toInt64 (rbA v s k n) i ≤ 0 → rbM v s k (own n lc v s k).toInt64 (rbA v s k n) (i + 1) ≠ 0) ∧ (rbM v s k (own n lc v s k).toInt64 (rbA v s k n) n ≤ 0 → rbM v s k (own n lc v s k).toInt64 (rbA v s k n) n = 0)
theorem c8_rebalance (L : Lay n ad h0) (hE : cs gEc 0 = nI n) (hH : HS n cs pm p c ol) (hR : SR n lc mc cs pm 0 v) (hw : WL n lc v) {a b : Int32} {X : Int32 → Hp → Prop} {Y : Nat → Hp → Prop} (hB : ∀ s k, s < n → k < 2 → RbOK n lc v s k) (q0 : ∀ s k, s < n → k < 2 → a = nI s → b = nI k → (lg_cmp (rbA v s k n) 0 ≤ 0 ∨ rbM v s k (own n lc v s k).toInt64 (rbA v s k n) n = 0) → ∀ cs', FrH cs cs' → HS n cs' pm p c ol → SR n lc mc cs' pm 0 v → X (nI 0) (HN h0 ad cs' pm)) (q1 : ∀ s k, s < n → k < 2 → a = nI s → b = nI k → ¬ lg_cmp (rbA v s k n) 0 ≤ 0 → rbM v s k (own n lc v s k).toInt64 (rbA v s k n) n ≠ 0 → ∀ cs' ol', FrH cs cs' → HS n cs' pm (actP c v p) (actC c) ol' → SR n lc mc cs' pm 0 (rbV v s k (own n lc v s k).toInt64 (rbA v s k n) n) → X (rbM v s k (own n lc v s k).toInt64 (rbA v s k n) n) (HN h0 ad cs' pm)) (q2 : (siB n a && kiB b) = false → ∀ z, hpZ h0 ≤ z → Y 1 (HN (stZ h0 z) ad cs pm)) : CXi mX8_rebalance 7 1 6 [some (.ref (ad gEc)), some (.int a), some (.int b), none] (HN h0 ad cs pm) X Y := by
  intro Qc kq ky
  have hb := L.1
  refine tX8_rebalance_0 L ⟨by omega, by omega, c8_siteAndKindFault L hE (tX8_rebalance_6 (mcn := 1) (msn := 6) L ⟨by omega, by omega, c8_throwFor L b02 (fun h => ?_) (fun h z hz => ky _ _ h (by rw [if_pos (b01 h)]; exact q2 (b01 h) z hz))⟩)⟩
  have h' := b00 h
  rw [Bool.and_eq_true] at h'
  obtain ⟨s, hs, rfl⟩ := siB_t (by omega) h'.1
  obtain ⟨k, hk, rfl⟩ := kiB_t h'.2
  obtain ⟨b1, b2, b3, b4, b5⟩ := hB s k hs hk
  have hpl : pl ol c < 7 := by unfold pl; omega
  have hpl0 : pl ol c ≠ 0 := by unfold pl; omega
  refine tX8_rebalance_9 L ⟨by omega, by omega, c1_save L hH hR (fun D hFD hHD hRD hRS => tX8_rebalance_20 L ⟨by omega, by omega, c6_shareOut L (hHD.1 0 (by omega)) hRD hw hs hk b1 b2 b3 (fun al => ?_) (fun al E hFE hSE hRE => ?_)⟩)⟩
  · exact tX8_rebalance_29 L ⟨fun _ => tX8_rebalance_41 L ⟨by omega, by omega, kq _ _ (q0 s k hs hk rfl rfl (Or.inl al) D (hFD.H hpl) hHD hRD)⟩, fun c => absurd (Int32.le_refl _) c⟩
  · refine tX8_rebalance_29 L ⟨fun c0 => tX8_rebalance_41 L ⟨by omega, by omega, kq _ _ ?_⟩, fun c0 => ⟨by omega, by omega, c1_keep L (hHD.now (by omega) hFE hSE (fun _ _ => rfl)) (hRS.fr (by omega) (hHD.1 _ hpl).2.2.1 (fun g hg => hFE g (by omega)) rfl) (fun G ol' hG hHG => tX8_rebalance_41 L ⟨by omega, by omega, kq _ _ ?_⟩)⟩⟩
    · have e0 := b5 c0
      have ev := rbV_z b4 n (Nat.le_refl _) e0
      rw [ev] at hRE
      rw [e0]
      exact q0 s k hs hk rfl rfl (Or.inr e0) E ((hFD.H hpl).trans (hFE.H (by omega))) (hHD.now (by omega) hFE hSE (fun _ _ => rfl)) hRE
    · exact q1 s k hs hk rfl rfl al (fun e => c0 (by rw [e]; exact Int32.le_refl _)) G ol' (((hFD.H hpl).trans (hFE.H (by omega))).trans (fun g h1 h2 => hG g h2)) hHG (hRE.fr (by omega) hSE.2.2.1 (fun g hg => hG g (gHi_k (by omega) hg)) rfl)
theorem paF_lt {x : Int32} : paF v x < 3 := by
  unfold paF
  split
  · omega
  · split <;> omega
theorem c8_pass (L : Lay n ad h0) (hH : HS n cs pm p c ol) (hR : SR n lc mc cs pm 0 v) {x : Int32} (hT : inB x (nI 1) (nI 1000) = true → (v 0 ≤ nI 1000000 - x ↔ v 0 + x ≤ nI 1000000)) {X : Int32 → Hp → Prop} {Y : Nat → Hp → Prop} (q0 : paF v x = 0 → ∀ cs' ol', FrH cs cs' → HS n cs' pm (actP c v p) (actC c) ol' → SR n lc mc cs' pm 0 (upd v 0 (v 0 + x)) → X (v 0 + x) (HN h0 ad cs' pm)) (q1 : paF v x ≠ 0 → ∀ z, hpZ h0 ≤ z → Y (paF v x + 1) (HN (stZ h0 z) ad cs pm)) : CXi mX8_pass 7 1 6 [some (.ref (ad gEc)), some (.int x)] (HN h0 ad cs pm) X Y := by
  intro Qc kq ky
  have hb := L.1
  have hl := paF_lt (v := v) (x := x)
  refine tX8_pass_0 L ⟨by omega, by omega, c8_passFault L hR.1.2.2.2.1 hT (tX8_pass_5 (mcn := 1) (msn := 6) L ⟨by omega, by omega, c8_throwFor L (by split <;> omega) (fun h => ?_) (fun h z hz => ky _ _ h ?_)⟩)⟩
  · have h' : paF v x = 0 := by
      by_cases e : paF v x = 0
      · exact e
      · rw [if_neg e] at h; omega
    refine tX8_pass_8 L ⟨by omega, by omega, c1_add L hH hR (fun D ol' hF hH2 hR2 => tX8_pass_19 L ⟨by omega, by omega, c6_letPass L (hH2.1 0 (by omega)) hR2 (fun E hFE hSE hRE => tX8_pass_27 L ⟨by omega, by omega, ?_⟩)⟩)⟩
    rw [show E (gSt 0) 4 = v 0 + x from hRE.1.2.2.2.1.trans upd_eq]
    exact kq _ _ (q0 h' E ol' (hF.trans (hFE.H (by omega))) (hH2.now (by omega) hFE hSE (fun _ _ => rfl)) hRE)
  · have h' : paF v x ≠ 0 := fun e => h (by rw [if_pos e])
    rw [if_neg h']
    exact q1 h' z hz
theorem c8_send (L : Lay n ad h0) (hE : cs gEc 0 = nI n) (hH : HS n cs pm p c ol) (hR : SR n lc mc cs pm 0 v) {a b : Int32} {X : Int32 → Hp → Prop} {Y : Nat → Hp → Prop} (q0 : ∀ s t, s < n → t < n → s ≠ t → mc < 8 → a = nI s → b = nI t → seF n mc a b = 0 → ∀ cs' ol', FrH cs cs' → HS n cs' pm (actP c v p) (actC c) ol' → SR n lc (mc + 1) cs' pm 0 (upd (wrV v mc s (nI s) (nI t) n) 5 (nI (mc + 1))) → X (nI mc) (HN h0 ad cs' pm)) (q1 : seF n mc a b ≠ 0 → ∀ z, hpZ h0 ≤ z → Y (seF n mc a b) (HN (stZ h0 z) ad cs pm)) : CXi mX8_send 7 1 6 [some (.ref (ad gEc)), some (.int a), some (.int b)] (HN h0 ad cs pm) X Y := by
  intro Qc kq ky
  have hb := L.1
  have hm := hR.2.1.2.2.2
  refine tX8_send_0 L ⟨by omega, by omega, c8_sendFault L hE hR.1.2.2.2.2.2 hm (tX8_send_6 (mcn := 1) (msn := 6) L ⟨by omega, by omega, c8_throwFor L seF_lt (fun h => ?_) (fun h z hz => ky _ _ h (q1 h z hz))⟩)⟩
  obtain ⟨s, t, hs, ht, hst, h8, rfl, rfl⟩ := seF_0 (by omega) h
  exact tX8_send_9 L ⟨by omega, by omega, c1_add L hH hR (fun D ol' hF hH2 hR2 => tX8_send_20 L ⟨by omega, by omega, c6_post L (hH2.1 0 (by omega)) hR2 (by omega) hs (fun E hFE hSE hRE => tX8_send_29 L ⟨by omega, by omega, kq _ _ (q0 s t hs ht hst (by omega) rfl rfl h E ol' (hF.trans (hFE.H (by omega))) (hH2.now (by omega) hFE hSE (fun _ _ => rfl)) hRE)⟩)⟩)⟩
theorem c8_deliver (L : Lay n ad h0) (hH : HS n cs pm p c ol) (hR : SR n lc mc cs pm 0 v) (ht : ∀ m, m < mc → ∃ t, t < n ∧ v (mgA m + 1) = nI t) {a : Int32} {X : Int32 → Hp → Prop} {Y : Nat → Hp → Prop} (q0 : ∀ m t, m < mc → t < n → v (mgA m + 1) = nI t → a = nI m → ∀ cs' pm' ol', FrH cs cs' → HS n cs' pm' (actP c v p) (actC c) ol' → SR n lc (mc - 1) cs' pm' 0 (goV (arV v m t n) mc m) → X (nI (arN v m t n)) (HN h0 ad cs' pm')) (q1 : miB mc a = false → ∀ z, hpZ h0 ≤ z → Y 1 (HN (stZ h0 z) ad cs pm)) : CXi mX8_deliver 7 1 6 [some (.ref (ad gEc)), some (.int a)] (HN h0 ad cs pm) X Y := by
  intro Qc kq ky
  have hb := L.1
  have hm := hR.2.1.2.2.2
  refine tX8_deliver_0 L ⟨by omega, by omega, c8_messageFault L hR.1.2.2.2.2.2 hm (tX8_deliver_5 (mcn := 1) (msn := 6) L ⟨by omega, by omega, c8_throwFor L b02 (fun h => ?_) (fun h z hz => ky _ _ h (by rw [if_pos (b01 h)]; exact q1 (b01 h) z hz))⟩)⟩
  obtain ⟨m, hmm, rfl⟩ := miB_t hm (b00 h)
  obtain ⟨t, htn, hv⟩ := ht m hmm
  exact tX8_deliver_8 L ⟨by omega, by omega, c1_add L hH hR (fun D ol' hF hH2 hR2 => tX8_deliver_19 L ⟨by omega, by omega, c6_handOver L (hH2.1 0 (by omega)) hR2 hmm htn hv (fun E pm2 hFE hpE hSE hRE => tX8_deliver_27 L ⟨by omega, by omega, kq _ _ (q0 m t hmm htn hv rfl E pm2 ol' (hF.trans (hFE.H (by omega))) (hH2.now (by omega) hFE hSE hpE) hRE)⟩)⟩)⟩
theorem c8_lose (L : Lay n ad h0) (hH : HS n cs pm p c ol) (hR : SR n lc mc cs pm 0 v) {a : Int32} {X : Int32 → Hp → Prop} {Y : Nat → Hp → Prop} (q0 : ∀ m, m < mc → a = nI m → ∀ cs' pm' ol', FrH cs cs' → HS n cs' pm' (actP c v p) (actC c) ol' → SR n lc (mc - 1) cs' pm' 0 (goV v mc m) → X (nI (mc - 1)) (HN h0 ad cs' pm')) (q1 : miB mc a = false → ∀ z, hpZ h0 ≤ z → Y 1 (HN (stZ h0 z) ad cs pm)) : CXi mX8_lose 7 1 6 [some (.ref (ad gEc)), some (.int a)] (HN h0 ad cs pm) X Y := by
  intro Qc kq ky
  have hb := L.1
  have hm := hR.2.1.2.2.2
  refine tX8_lose_0 L ⟨by omega, by omega, c8_messageFault L hR.1.2.2.2.2.2 hm (tX8_lose_5 (mcn := 1) (msn := 6) L ⟨by omega, by omega, c8_throwFor L b02 (fun h => ?_) (fun h z hz => ky _ _ h (by rw [if_pos (b01 h)]; exact q1 (b01 h) z hz))⟩)⟩
  obtain ⟨m, hmm, rfl⟩ := miB_t hm (b00 h)
  refine tX8_lose_8 L ⟨by omega, by omega, c1_add L hH hR (fun D ol' hF hH2 hR2 => tX8_lose_19 L ⟨by omega, by omega, c6_drop L (hH2.1 0 (by omega)) hR2 hmm (fun E pm2 hFE hpE hSE hRE => tX8_lose_27 L ⟨by omega, by omega, ?_⟩)⟩)⟩
  rw [show E (gSt 0) 6 = nI (mc - 1) from hRE.1.2.2.2.2.2]
  exact kq _ _ (q0 m hmm rfl E pm2 ol' (hF.trans (hFE.H (by omega))) (hH2.now (by omega) hFE hSE hpE) hRE)
theorem c8_repeat (L : Lay n ad h0) (hH : HS n cs pm p c ol) (hR : SR n lc mc cs pm 0 v) {a : Int32} {X : Int32 → Hp → Prop} {Y : Nat → Hp → Prop} (q0 : ∀ m, m < mc → mc < 8 → a = nI m → ∀ cs' ol', FrH cs cs' → HS n cs' pm (actP c v p) (actC c) ol' → SR n lc (mc + 1) cs' pm 0 (reV v mc m) → X (nI mc) (HN h0 ad cs' pm)) (q1 : miB mc a = false → ∀ z, hpZ h0 ≤ z → Y 1 (HN (stZ h0 z) ad cs pm)) (q2 : miB mc a = true → mc = 8 → ∀ z, hpZ h0 ≤ z → Y 3 (HN (stZ h0 z) ad cs pm)) : CXi mX8_repeat 7 2 12 [some (.ref (ad gEc)), some (.int a)] (HN h0 ad cs pm) X Y := by
  intro Qc kq ky
  have hb := L.1
  have hm := hR.2.1.2.2.2
  refine tX8_repeat_0 L ⟨by omega, by omega, c8_messageFault L hR.1.2.2.2.2.2 hm (tX8_repeat_5 (mcn := 1) (msn := 6) L ⟨by omega, by omega, c8_throwFor L b02 (fun h => ?_) (fun h z hz => ky _ _ h (by rw [if_pos (b01 h)]; exact q1 (b01 h) z hz))⟩)⟩
  have h2 := b00 h
  obtain ⟨m, hmm, rfl⟩ := miB_t hm h2
  refine tX8_repeat_8 L ?_
  rw [hR.1.2.2.2.2.2, nI_ltI (by omega) (by omega)]
  refine ⟨fun c8 => ⟨by omega, by omega, c1_add L hH hR (fun D ol' hF hH2 hR2 => tX8_repeat_41 L ⟨by omega, by omega, c6_postAgain L (hH2.1 0 (by omega)) hR2 c8 hmm (fun E hFE hSE hRE => tX8_repeat_49 L ⟨by omega, by omega, kq _ _ (q0 m hmm c8 rfl E ol' (hF.trans (hFE.H (by omega))) (hH2.now (by omega) hFE hSE (fun _ _ => rfl)) hRE)⟩)⟩)⟩, fun c8 => ⟨by omega, by omega, fun z hz => ky _ _ (by omega) (q2 h2 (by omega) z hz)⟩⟩
end CW
