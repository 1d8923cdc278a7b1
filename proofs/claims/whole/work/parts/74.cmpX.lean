/-! THE CLASS: asking, the text, undo, begin -/
section CX
variable {n lc mc c ol ty : Nat} {ad : Nat → Nat} {h0 : Hp} {cs cs' : Nat → Nat → Int32} {pm pm' : Nat → Nat → Nat} {v p : Nat → Int32}
theorem c8_sites (L : Lay n ad h0) (hE : cs gEc 0 = nI n) {X : Int32 → Hp → Prop} (q : X (nI n) (HN h0 ad cs pm)) : CKi mX8_sites 0 0 0 [some (.ref (ad gEc))] (HN h0 ad cs pm) X := by
  intro Qc kq
  refine tX8_sites_0 L ?_
  rw [hE]
  exact kq _ _ q
theorem c8_messages (L : Lay n ad h0) (hR : SR n lc mc cs pm 0 v) {X : Int32 → Hp → Prop} (q : X (nI mc) (HN h0 ad cs pm)) : CKi mX8_messages 0 0 0 [some (.ref (ad gEc))] (HN h0 ad cs pm) X := by
  intro Qc kq
  refine tX8_messages_0 L ?_
  rw [hR.1.2.2.2.2.2]
  exact kq _ _ q
theorem c8_time (L : Lay n ad h0) (hR : SR n lc mc cs pm 0 v) {X : Int32 → Hp → Prop} (q : X (v 0) (HN h0 ad cs pm)) : CKi mX8_time 0 0 0 [some (.ref (ad gEc))] (HN h0 ad cs pm) X := by
  intro Qc kq
  refine tX8_time_0 L ?_
  rw [hR.1.2.2.2.1]
  exact kq _ _ q
theorem c8_loans (L : Lay n ad h0) (hR : SR n lc mc cs pm 0 v) {X : Int32 → Hp → Prop} (q : X (nI lc) (HN h0 ad cs pm)) : CKi mX8_loans 0 0 0 [some (.ref (ad gEc))] (HN h0 ad cs pm) X := by
  intro Qc kq
  refine tX8_loans_0 L ?_
  rw [hR.1.2.2.2.2.1]
  exact kq _ _ q
theorem c8_value (L : Lay n ad h0) (h0' : S0 n cs pm 0) (hR : SR n lc mc cs pm 0 v) {X : Int32 → Hp → Prop} (q : X (valV n v) (HN h0 ad cs pm)) : CKi mX8_value 2 0 0 [some (.ref (ad gEc))] (HN h0 ad cs pm) X := by
  intro Qc kq
  exact tX8_value_0 L (c6_trueValue L h0' hR (tX8_value_7 L (kq _ _ q)))
theorem miB_I (hm : mc ≤ 100) {x : Int32} : miB mc x = true ↔ ¬ x < 0 ∧ ¬ nI mc ≤ x := by
  rw [miB, inB_t]
  constructor
  · intro h
    by_cases e0 : mc = 0
    · subst e0
      exact absurd (Int32.le_trans h.1 h.2) (by decide)
    · rw [pk_sub (by omega)] at h
      obtain ⟨j, hj, e⟩ := nI_of2 (M := nI (mc - 1)) (n := mc - 1) (nI_toInt (by omega)) (Int32.not_lt.mpr h.1) h.2
      subst e
      exact ⟨nI_pos (by omega), nI_ge (by omega) (by omega)⟩
  · intro h
    obtain ⟨j, hj, rfl⟩ := nI_of h.1
    have h2 := h.2
    rw [nI_leI (by omega) hj] at h2
    rw [pk_sub (by omega)]
    exact ⟨nI_le (Nat.zero_le _) (by omega), nI_le (by omega) (by omega)⟩
theorem miB_T (hm : mc ≤ 100) {x : Int32} (h : miB mc x = true) : ∃ m, m < mc ∧ x = nI m := by
  obtain ⟨h1, h2⟩ := (miB_I hm).mp h
  obtain ⟨j, hj, rfl⟩ := nI_of h1
  rw [nI_leI (by omega) hj] at h2
  exact ⟨j, by omega, rfl⟩
theorem miB_f (hm : mc ≤ 100) {x : Int32} (h : x < 0 ∨ nI mc ≤ x) : miB mc x = false := by
  cases e : miB mc x with
  | false => rfl
  | true =>
    obtain ⟨h1, h2⟩ := (miB_I hm).mp e
    exact absurd h (fun q => q.elim h1 h2)
theorem inB3 {x : Int32} : inB x (nI 0) (nI 2) = miB 3 x := by
  rw [miB, show nI 3 - nI 1 = nI 2 by decide]
theorem inB8 {x : Int32} : inB x (nI 0) (nI 7) = miB 8 x := by
  rw [miB, show nI 8 - nI 1 = nI 7 by decide]
theorem c8_message (L : Lay n ad h0) (h0' : S0 n cs pm 0) (hR : SR n lc mc cs pm 0 v) {a b : Int32} {X : Int32 → Hp → Prop} {Y : Nat → Hp → Prop} (q0 : ∀ m w, m < mc → w < 3 → a = nI m → b = nI w → X (v (mgA m + w)) (HN h0 ad cs pm)) (q1 : (miB mc a && inB b (nI 0) (nI 2)) = false → ∀ z, hpZ h0 ≤ z → Y 1 (HN (stZ h0 z) ad cs pm)) : CXi mX8_message 7 2 12 [some (.ref (ad gEc)), some (.int a), some (.int b)] (HN h0 ad cs pm) X Y := by
  intro Qc kq ky
  have hb := L.1
  have hm := hR.2.1.2.2.2
  rw [inB3] at q1
  refine tX8_message_0 L ⟨by omega, by omega, c8_messageFault L hR.1.2.2.2.2.2 hm (tX8_message_5 (mcn := 1) (msn := 6) L ⟨by omega, by omega, c8_throwFor L b02 (fun h => ?_) (fun h z hz => ky _ _ h (by rw [if_pos (b01 h)]; exact q1 (by rw [b01 h]; rfl) z hz))⟩)⟩
  have h2 := b00 h
  have bad : miB 3 b = false → Wm mX8_message 7 2 12 Qc 17 [none, none, none] [] (HN h0 ad cs pm) (0 + 1) (0 + 6) := fun e => tX8_message_17 L ⟨by omega, by omega, fun z hz => ky _ _ (by omega) (q1 (by rw [e, Bool.and_false]) z hz)⟩
  refine tX8_message_8 L ⟨fun c => bad (miB_f (by omega) (Or.inl c)), fun c => ⟨fun c2 => ?_, fun c2 => bad (miB_f (by omega) (Or.inr (Int32.not_lt.mp c2)))⟩⟩
  obtain ⟨m, hmm, rfl⟩ := miB_t hm h2
  have hw3 : miB 3 b = true := (miB_I (by omega)).mpr ⟨c, Int32.not_le.mpr c2⟩
  obtain ⟨w, hw, rfl⟩ := miB_T (by omega) hw3
  refine ⟨m, rfl, by omega, h0'.2.2.1 m (by omega), by omega, by omega, ?_⟩
  intro Qd kd
  have hf : ∀ x, x < 3 → cs (gMg 0 (pm 0 m)) x = v (mgA m + x) := (hR.2.2.2.2 m hmm).1
  refine tX3_fact_0 L ?_
  rw [nI_inj5 (by omega) (by omega), nI_inj5 (by omega) (by omega), hf 0 (by omega), hf 1 (by omega), hf 2 (by omega)]
  have hp := h0'.2.2.1 m (by omega)
  have fin : X (v (mgA m + w)) (HN h0 ad cs pm) := q0 m w hmm hw rfl rfl
  refine ⟨fun e => ⟨⟨by omega, hp⟩, kd _ _ (tX8_message_40 L ⟨by omega, by omega, kq _ _ ?_⟩)⟩, fun e => ⟨⟨by omega, hp⟩, kd _ _ (tX8_message_40 L ⟨by omega, by omega, kq _ _ ?_⟩)⟩, fun e e2 => ⟨⟨by omega, hp⟩, kd _ _ (tX8_message_40 L ⟨by omega, by omega, kq _ _ ?_⟩)⟩⟩
  · rw [e] at fin; exact fin
  · rw [e] at fin; exact fin
  · rw [show w = 2 by omega] at fin; exact fin
theorem c8_known (L : Lay n ad h0) (hE : cs gEc 0 = nI n) (h0' : S0 n cs pm 0) (hR : SR n lc mc cs pm 0 v) {a : Int32} {X : Int32 → Hp → Prop} {Y : Nat → Hp → Prop} (q0 : ∀ s, s < n → a = nI s → X (knwV n v s) (HN h0 ad cs pm)) (q1 : siB n a = false → ∀ z, hpZ h0 ≤ z → Y 1 (HN (stZ h0 z) ad cs pm)) : CXi mX8_known 7 1 6 [some (.ref (ad gEc)), some (.int a)] (HN h0 ad cs pm) X Y := by
  intro Qc kq ky
  have hb := L.1
  refine tX8_known_0 L ⟨by omega, by omega, c8_siteFault L hE (tX8_known_5 (mcn := 1) (msn := 6) L ⟨by omega, by omega, c8_throwFor L b02 (fun h => ?_) (fun h z hz => ky _ _ h (by rw [if_pos (b01 h)]; exact q1 (b01 h) z hz))⟩)⟩
  obtain ⟨s, hs, rfl⟩ := siB_t (by omega) (b00 h)
  exact tX8_known_8 L ⟨by omega, by omega, c6_valueKnownAt L h0' hR hs (tX8_known_16 L ⟨by omega, by omega, kq _ _ (q0 s hs rfl)⟩)⟩
theorem c8_own (L : Lay n ad h0) (hE : cs gEc 0 = nI n) (h0' : S0 n cs pm 0) (hR : SR n lc mc cs pm 0 v) (hw : WL n lc v) {a b : Int32} {X : Int32 → Hp → Prop} {Y : Nat → Hp → Prop} (q0 : ∀ s k, s < n → k < 2 → a = nI s → b = nI k → X (own n lc v s k) (HN h0 ad cs pm)) (q1 : (siB n a && kiB b) = false → ∀ z, hpZ h0 ≤ z → Y 1 (HN (stZ h0 z) ad cs pm)) : CXi mX8_own 7 1 6 [some (.ref (ad gEc)), some (.int a), some (.int b)] (HN h0 ad cs pm) X Y := by
  intro Qc kq ky
  have hb := L.1
  refine tX8_own_0 L ⟨by omega, by omega, c8_siteAndKindFault L hE (tX8_own_6 (mcn := 1) (msn := 6) L ⟨by omega, by omega, c8_throwFor L b02 (fun h => ?_) (fun h z hz => ky _ _ h (by rw [if_pos (b01 h)]; exact q1 (b01 h) z hz))⟩)⟩
  have h' := b00 h
  rw [Bool.and_eq_true] at h'
  obtain ⟨s, hs, rfl⟩ := siB_t (by omega) h'.1
  obtain ⟨k, hk, rfl⟩ := kiB_t h'.2
  exact tX8_own_9 L ⟨by omega, by omega, c6_ownRights L h0' hR hw hs hk (tX8_own_18 L ⟨by omega, by omega, kq _ _ (q0 s k hs hk rfl rfl)⟩)⟩
theorem c8_available (L : Lay n ad h0) (hE : cs gEc 0 = nI n) (h0' : S0 n cs pm 0) (hR : SR n lc mc cs pm 0 v) (hw : WL n lc v) {a b : Int32} {X : Int32 → Hp → Prop} {Y : Nat → Hp → Prop} (q0 : ∀ s k, s < n → k < 2 → a = nI s → b = nI k → X (avl n lc v s k) (HN h0 ad cs pm)) (q1 : (siB n a && kiB b) = false → ∀ z, hpZ h0 ≤ z → Y 1 (HN (stZ h0 z) ad cs pm)) : CXi mX8_available 7 1 6 [some (.ref (ad gEc)), some (.int a), some (.int b)] (HN h0 ad cs pm) X Y := by
  intro Qc kq ky
  have hb := L.1
  refine tX8_available_0 L ⟨by omega, by omega, c8_siteAndKindFault L hE (tX8_available_6 (mcn := 1) (msn := 6) L ⟨by omega, by omega, c8_throwFor L b02 (fun h => ?_) (fun h z hz => ky _ _ h (by rw [if_pos (b01 h)]; exact q1 (b01 h) z hz))⟩)⟩
  have h' := b00 h
  rw [Bool.and_eq_true] at h'
  obtain ⟨s, hs, rfl⟩ := siB_t (by omega) h'.1
  obtain ⟨k, hk, rfl⟩ := kiB_t h'.2
  exact tX8_available_9 L ⟨by omega, by omega, c6_availableRights L h0' hR hw hs hk (tX8_available_18 L ⟨by omega, by omega, kq _ _ (q0 s k hs hk rfl rfl)⟩)⟩
theorem c8_dormant (L : Lay n ad h0) (h0' : S0 n cs pm 0) (hR : SR n lc mc cs pm 0 v) (hw : WL n lc v) {b : Int32} {X : Int32 → Hp → Prop} {Y : Nat → Hp → Prop} (q0 : ∀ k, k < 2 → b = nI k → X (dorV n lc v k n) (HN h0 ad cs pm)) (q1 : kiB b = false → ∀ z, hpZ h0 ≤ z → Y 1 (HN (stZ h0 z) ad cs pm)) : CXi mX8_dormant 6 1 6 [some (.ref (ad gEc)), some (.int b)] (HN h0 ad cs pm) X Y := by
  intro Qc kq ky
  refine tX8_dormant_0 L ⟨by omega, by omega, c8_isKind L (tX8_dormant_4 L ⟨fun c => ?_, fun c => ⟨by omega, by omega, fun z hz => ky _ _ (by omega) (q1 (bI_z.mp c) z hz)⟩⟩)⟩
  have h' : kiB b = true := by
    cases e : kiB b with
    | true => rfl
    | false => exact absurd (bI_z.mpr e) c
  obtain ⟨k, hk, rfl⟩ := kiB_t h'
  exact ⟨by omega, by omega, c6_dormantRights L h0' hR hw hk (tX8_dormant_25 L ⟨by omega, by omega, kq _ _ (q0 k hk rfl)⟩)⟩
theorem c8_demand (L : Lay n ad h0) (hE : cs gEc 0 = nI n) (hR : SR n lc mc cs pm 0 v) {a b x : Int32} {X : Int32 → Hp → Prop} {Y : Nat → Hp → Prop} (q0 : ∀ s o k, s < n → o < n → k < 2 → a = nI s → b = nI o → x = nI k → X (v (rcA s o + 14 + k)) (HN h0 ad cs pm)) (q1 : (siB n a && (siB n b && kiB x)) = false → ∀ z, hpZ h0 ≤ z → Y 1 (HN (stZ h0 z) ad cs pm)) : CXi mX8_demand 7 2 12 [some (.ref (ad gEc)), some (.int a), some (.int b), some (.int x)] (HN h0 ad cs pm) X Y := by
  intro Qc kq ky
  have hb := L.1
  refine tX8_demand_0 L ⟨by omega, by omega, c8_siteAndKindFault L hE (tX8_demand_6 (mcn := 1) (msn := 6) L ⟨by omega, by omega, c8_throwFor L b02 (fun h => ?_) (fun h z hz => ky _ _ h (by
    rw [if_pos (b01 h)]
    refine q1 ?_ z hz
    have h1 := b01 h
    cases e1 : siB n a <;> cases e2 : kiB x <;> simp_all))⟩)⟩
  have h' := b00 h
  rw [Bool.and_eq_true] at h'
  refine tX8_demand_9 L ⟨by omega, by omega, c8_siteFault L hE (tX8_demand_14 (mcn := 1) (msn := 6) L ⟨by omega, by omega, c8_throwFor L b02 (fun g => ?_) (fun g z hz => ky _ _ g (by
    rw [if_pos (b01 g)]
    refine q1 ?_ z hz
    rw [b01 g, Bool.false_and, Bool.and_false]))⟩)⟩
  obtain ⟨s, hs, rfl⟩ := siB_t (by omega) h'.1
  obtain ⟨k, hk, rfl⟩ := kiB_t h'.2
  obtain ⟨o, ho, rfl⟩ := siB_t (by omega) (b00 g)
  refine tX8_demand_17 L ⟨s, rfl, hs, o, rfl, ho, k, rfl, hk, by omega, by omega, ?_⟩
  rw [hR.dm hs ho hk]
  exact kq _ _ (q0 s o k hs ho hk rfl rfl rfl)
theorem c8_version (L : Lay n ad h0) (hE : cs gEc 0 = nI n) (hR : SR n lc mc cs pm 0 v) {a b : Int32} {X : Int32 → Hp → Prop} {Y : Nat → Hp → Prop} (q0 : ∀ s o, s < n → o < n → a = nI s → b = nI o → X (v (rcA s o)) (HN h0 ad cs pm)) (q1 : (siB n a && siB n b) = false → ∀ z, hpZ h0 ≤ z → Y 1 (HN (stZ h0 z) ad cs pm)) : CXi mX8_version 7 2 12 [some (.ref (ad gEc)), some (.int a), some (.int b)] (HN h0 ad cs pm) X Y := by
  intro Qc kq ky
  have hb := L.1
  refine tX8_version_0 L ⟨by omega, by omega, c8_siteFault L hE (tX8_version_5 (mcn := 1) (msn := 6) L ⟨by omega, by omega, c8_throwFor L b02 (fun h => ?_) (fun h z hz => ky _ _ h (by
    rw [if_pos (b01 h)]
    refine q1 ?_ z hz
    rw [b01 h, Bool.false_and]))⟩)⟩
  refine tX8_version_8 L ⟨by omega, by omega, c8_siteFault L hE (tX8_version_13 (mcn := 1) (msn := 6) L ⟨by omega, by omega, c8_throwFor L b02 (fun g => ?_) (fun g z hz => ky _ _ g (by
    rw [if_pos (b01 g)]
    refine q1 ?_ z hz
    rw [b01 g, Bool.and_false]))⟩)⟩
  obtain ⟨s, hs, rfl⟩ := siB_t (by omega) (b00 h)
  obtain ⟨o, ho, rfl⟩ := siB_t (by omega) (b00 g)
  refine tX8_version_16 L ⟨s, rfl, hs, o, rfl, ho, by omega, by omega, ?_⟩
  rw [show cs (gRc 0 s o) 0 = v (rcA s o) from hR.rd hs ho (x := 0) (by omega) (by omega)]
  exact kq _ _ (q0 s o hs ho rfl rfl)
theorem c8_copyTime (L : Lay n ad h0) (hE : cs gEc 0 = nI n) (hR : SR n lc mc cs pm 0 v) {a b : Int32} {X : Int32 → Hp → Prop} {Y : Nat → Hp → Prop} (q0 : ∀ s o, s < n → o < n → a = nI s → b = nI o → X (tOf v s o) (HN h0 ad cs pm)) (q1 : (siB n a && siB n b) = false → ∀ z, hpZ h0 ≤ z → Y 1 (HN (stZ h0 z) ad cs pm)) : CXi mX8_copyTime 7 2 12 [some (.ref (ad gEc)), some (.int a), some (.int b)] (HN h0 ad cs pm) X Y := by
  intro Qc kq ky
  have hb := L.1
  refine tX8_copyTime_0 L ⟨by omega, by omega, c8_siteFault L hE (tX8_copyTime_5 (mcn := 1) (msn := 6) L ⟨by omega, by omega, c8_throwFor L b02 (fun h => ?_) (fun h z hz => ky _ _ h (by
    rw [if_pos (b01 h)]
    refine q1 ?_ z hz
    rw [b01 h, Bool.false_and]))⟩)⟩
  refine tX8_copyTime_8 L ⟨by omega, by omega, c8_siteFault L hE (tX8_copyTime_13 (mcn := 1) (msn := 6) L ⟨by omega, by omega, c8_throwFor L b02 (fun g => ?_) (fun g z hz => ky _ _ g (by
    rw [if_pos (b01 g)]
    refine q1 ?_ z hz
    rw [b01 g, Bool.and_false]))⟩)⟩
  obtain ⟨s, hs, rfl⟩ := siB_t (by omega) (b00 h)
  obtain ⟨o, ho, rfl⟩ := siB_t (by omega) (b00 g)
  refine tX8_copyTime_16 L ⟨s, rfl, hs, o, rfl, ho, by omega, by omega, ?_⟩
  rw [hR.tm hs ho]
  exact kq _ _ (q0 s o hs ho rfl rfl)
theorem c8_loan (L : Lay n ad h0) (hk0 : S0 n cs pm 0) (hR : SR n lc mc cs pm 0 v) (hw : WL n lc v) {a b : Int32} {X : Int32 → Hp → Prop} {Y : Nat → Hp → Prop} (q0 : ∀ l w, l < lc → w < 8 → a = nI l → b = nI w → X (ofL v l w) (HN h0 ad cs pm)) (q1 : (inB a (nI 0) (nI lc - nI 1) && inB b (nI 0) (nI 7)) = false → ∀ z, hpZ h0 ≤ z → Y 1 (HN (stZ h0 z) ad cs pm)) : CXi mX8_loan 6 1 6 [some (.ref (ad gEc)), some (.int a), some (.int b)] (HN h0 ad cs pm) X Y := by
  intro Qc kq ky
  have hlc := hw.2.1
  rw [inB8, ← miB] at q1
  have bad : (miB lc a && miB 8 b) = false → Wm mX8_loan 6 1 6 Qc 25 [none, none, none] [] (HN h0 ad cs pm) 0 0 := fun e => tX8_loan_25 L ⟨by omega, by omega, fun z hz => ky _ _ (by omega) (q1 e z hz)⟩
  refine tX8_loan_0 L ?_
  rw [hR.1.2.2.2.2.1]
  refine ⟨fun c => bad (by rw [miB_f (by omega) (Or.inl c), Bool.false_and]), fun c => ⟨fun c2 => bad (by rw [miB_f (by omega) (Or.inr c2), Bool.false_and]), fun c2 => ⟨fun c3 => bad (by rw [miB_f (mc := 8) (by omega) (Or.inl c3), Bool.and_false]), fun c3 => ⟨fun c4 => ?_, fun c4 => bad (by rw [miB_f (mc := 8) (by omega) (Or.inr (Int32.not_lt.mp c4)), Bool.and_false])⟩⟩⟩⟩
  obtain ⟨l, hl, rfl⟩ := miB_T (by omega) ((miB_I (by omega)).mpr ⟨c, c2⟩)
  obtain ⟨w, hw8, rfl⟩ := miB_T (mc := 8) (by omega) ((miB_I (by omega)).mpr ⟨c3, Int32.not_le.mpr c4⟩)
  exact ⟨by omega, by omega, c6_loanFact L (by omega) hR hw hl hw8 (tX8_loan_44 L ⟨by omega, by omega, kq _ _ (q0 l w hl hw8 rfl rfl)⟩)⟩
theorem c8_helpers (L : Lay n ad h0) (hE : cs gEc 0 = nI n) (h0' : S0 n cs pm 0) (hR : SR n lc mc cs pm 0 v) (hw : WL n lc v) {a b x : Int32} {X : Int32 → Hp → Prop} {Y : Nat → Hp → Prop} (q0 : ∀ s k, s < n → k < 2 → a = nI s → b = nI k → inB x (nI 0) (nI 30000) = true → X (heC n (fun o => own n lc v o k) n 0 (x - avl n lc v s k) (nI 1 <<< (nI s &&& 31))) (HN h0 ad cs pm)) (q1 : heF n a b x ≠ 0 → ∀ z, hpZ h0 ≤ z → Y (heF n a b x) (HN (stZ h0 z) ad cs pm)) : CXi mX8_helpers 7 2 12 [some (.ref (ad gEc)), some (.int a), some (.int b), some (.int x)] (HN h0 ad cs pm) X Y := by
  intro Qc kq ky
  have hb := L.1
  refine tX8_helpers_0 L ⟨by omega, by omega, c8_siteAndKindFault L hE (tX8_helpers_6 (mcn := 1) (msn := 6) L ⟨by omega, by omega, c8_throwFor L b02 (fun h => ?_) (fun h z hz => ky _ _ h (by
    rw [if_pos (b01 h)]
    have h1 := b01 h
    have e : heF n a b x = 1 := by
      rw [heF, if_pos]
      cases e1 : siB n a <;> cases e2 : kiB b <;> simp_all
    rw [e] at q1
    exact q1 (by omega) z hz))⟩)⟩
  have h' := b00 h
  rw [Bool.and_eq_true] at h'
  have bad : inB x (nI 0) (nI 30000) = false → Wm mX8_helpers 7 2 12 Qc 20 [none, none, none, none] [] (HN h0 ad cs pm) (0 + 1) (0 + 6) := by
    intro e
    have e2 : heF n a b x = 2 := by
      rw [heF, if_neg (by rw [h'.1, h'.2]; simp), if_pos e]
    rw [e2] at q1
    exact tX8_helpers_20 L ⟨by omega, by omega, fun z hz => ky _ _ (by omega) (q1 (by omega) z hz)⟩
  obtain ⟨s, hs, rfl⟩ := siB_t (by omega) h'.1
  obtain ⟨k, hk, rfl⟩ := kiB_t h'.2
  refine tX8_helpers_9 L ⟨fun c => bad ?_, fun c => ⟨fun c2 => ⟨by omega, by omega, c6_fewestHelpers L h0' hR hw hs hk (tX8_helpers_40 L ⟨by omega, by omega, kq _ _ (q0 s k hs hk rfl rfl ?_)⟩)⟩, fun c2 => bad ?_⟩⟩
  · cases e : inB x (nI 0) (nI 30000) with
    | false => rfl
    | true => rw [inB_t] at e; exact absurd e.1 (Int32.not_le.mpr c)
  · rw [inB_t]; exact ⟨Int32.not_lt.mp c, c2⟩
  · cases e : inB x (nI 0) (nI 30000) with
    | false => rfl
    | true => rw [inB_t] at e; exact absurd e.2 c2
theorem c8_type (L : Lay n ad h0) (h2 : cs gSc 2 = nI ty) (hty : ty ≤ 60) {x : Int32} {X : Int32 → Hp → Prop} {Y : Nat → Hp → Prop} (q0 : ty < 60 → inB x (nI 32) (nI 126) = true → X (nI (ty + 1)) (HN h0 ad (up2 (up2 cs gSg ty x) gSc 2 (nI (ty + 1))) pm)) (q1 : tyF ty x ≠ 0 → ∀ z, hpZ h0 ≤ z → Y (tyF ty x + 1) (HN (stZ h0 z) ad cs pm)) : CXi mX8_type 6 1 6 [some (.ref (ad gEc)), some (.int x)] (HN h0 ad cs pm) X Y := by
  intro Qc kq ky
  have bad : inB x (nI 32) (nI 126) = false → Wm mX8_type 6 1 6 Qc 12 [none, none] [] (HN h0 ad cs pm) 0 0 := by
    intro e
    rw [show tyF ty x = 1 by rw [tyF, if_pos e]] at q1
    exact tX8_type_12 L ⟨by omega, by omega, fun z hz => ky _ _ (by omega) (q1 (by omega) z hz)⟩
  refine tX8_type_0 L ?_
  rw [h2, nI_ltI (by omega) (by omega)]
  refine ⟨fun c => bad ?_, fun c => ⟨fun c2 => ?_, fun c2 => bad ?_⟩⟩
  · cases e : inB x (nI 32) (nI 126) with
    | false => rfl
    | true => rw [inB_t] at e; exact absurd e.1 (Int32.not_le.mpr c)
  · have hx : inB x (nI 32) (nI 126) = true := by rw [inB_t]; exact ⟨Int32.not_lt.mp c, c2⟩
    refine ⟨fun c3 => ⟨by omega, by omega, c4_append L h2 c3 (tX8_type_52 L ⟨by omega, by omega, ?_⟩)⟩, fun c3 => ⟨by omega, by omega, fun z hz => ky _ _ (by omega) ?_⟩⟩
    · rw [up2_s]
      exact kq _ _ (q0 c3 hx)
    · rw [show tyF ty x = 2 by rw [tyF, if_neg (by rw [hx]; simp), if_pos (by omega)]] at q1
      exact q1 (by omega) z hz
  · cases e : inB x (nI 32) (nI 126) with
    | false => rfl
    | true => rw [inB_t] at e; exact absurd e.2 c2
theorem c8_clearText (L : Lay n ad h0) (h2 : cs gSc 2 = nI ty) {X : Int32 → Hp → Prop} (q : X (nI ty) (HN h0 ad (up2 cs gSc 2 (nI 0)) pm)) : CKi mX8_clearText 0 0 0 [some (.ref (ad gEc)), none] (HN h0 ad cs pm) X := by
  intro Qc kq
  refine tX8_clearText_0 L ?_
  rw [h2]
  exact kq _ _ q
theorem c8_undo (L : Lay n ad h0) (hH : HS n cs pm p c ol) {X : Int32 → Hp → Prop} {Y : Nat → Hp → Prop} (q0 : c ≠ 0 → ∀ cs' lc mc, FrH cs cs' → HS n cs' pm p (c - 1) ol → SR n lc mc cs' pm 0 (fun i => p (2400 * (c - 1) + i)) → X (nI (c - 1)) (HN h0 ad cs' pm)) (q1 : c = 0 → ∀ z, hpZ h0 ≤ z → Y 3 (HN (stZ h0 z) ad cs pm)) : CXi mX8_undo 6 1 6 [some (.ref (ad gEc))] (HN h0 ad cs pm) X Y := by
  intro Qc kq ky
  have h5 := hH.2.2.1
  refine tX8_undo_0 L ?_
  rw [hH.2.2.2.2.1, ← nIz, nI_inj5 (by omega) (by omega)]
  refine ⟨fun c0 => ⟨by omega, by omega, c1_bringBackLatest L hH c0 (fun D lc mc hF hD hH2 hR2 => tX8_undo_31 L ⟨by omega, by omega, ?_⟩)⟩, fun c0 => ⟨by omega, by omega, fun z hz => ky _ _ (by omega) (q1 c0 z hz)⟩⟩
  rw [hD]
  exact kq _ _ (q0 c0 D lc mc hF hH2 hR2)
theorem c8_begin (L : Lay n ad h0) (hH : HS n cs pm p c ol) (hR : SR n lc mc cs pm 0 v) {x y z : Int32} {X : Int32 → Hp → Prop} {Y : Nat → Hp → Prop} (q0 : beB x y z = true → ∀ cs', FrH cs cs' → (∀ p, HS n cs' pm p 0 0) → SR n 0 0 cs' pm 0 (staV v x y z) → X (valV n v) (HN h0 ad cs' pm)) (q1 : beB x y z = false → ∀ w, hpZ h0 ≤ w → Y 2 (HN (stZ h0 w) ad cs pm)) : CXi mX8_begin 6 1 6 [some (.ref (ad gEc)), some (.int x), some (.int y), some (.int z), none, none] (HN h0 ad cs pm) X Y := by
  intro Qc kq ky
  have hb := L.1
  have bad : beB x y z = false → Wm mX8_begin 6 1 6 Qc 41 [none, none, none, none, none, none] [] (HN h0 ad cs pm) 0 0 := fun e => tX8_begin_41 L ⟨by omega, by omega, fun w hw => ky _ _ (by omega) (q1 e w hw)⟩
  have bd : ¬ (¬ x < -10000 ∧ ¬ y < x ∧ ¬ nI 10000 < y ∧ ¬ z < x ∧ z ≤ y) → beB x y z = false := by
    intro hh
    cases e : beB x y z with
    | false => rfl
    | true =>
      rw [beB, Bool.and_eq_true, Bool.and_eq_true, inB_t, inB_t, inB_t] at e
      exact absurd ⟨Int32.not_lt.mpr e.1.1, Int32.not_lt.mpr e.2.1.1, Int32.not_lt.mpr e.2.1.2, Int32.not_lt.mpr e.2.2.1, e.2.2.2⟩ hh
  refine tX8_begin_0 L ⟨fun c => tX8_begin_23 L (bad (bd (fun h => h.1 c))), fun c1 => ⟨fun c => tX8_begin_23 L (bad (bd (fun h => h.2.1 c))), fun c2 => ⟨fun c => tX8_begin_23 L (bad (bd (fun h => h.2.2.1 c))), fun c3 => ⟨fun c => bad (bd (fun h => h.2.2.2.1 c)), fun c4 => ⟨fun c5 => ⟨by omega, by omega, ?_⟩, fun c5 => bad (bd (fun h => c5 h.2.2.2.2))⟩⟩⟩⟩⟩
  have ok : beB x y z = true := by
    have d1 := Int32.not_lt.mp c1
    have d2 := Int32.not_lt.mp c2
    have d3 := Int32.not_lt.mp c3
    have d4 := Int32.not_lt.mp c4
    rw [beB, Bool.and_eq_true, Bool.and_eq_true, inB_t, inB_t, inB_t]
    exact ⟨⟨d1, Int32.le_trans d2 d3⟩, ⟨d2, d3⟩, d4, c5⟩
  refine c6_trueValue L (hH.1 0 (by omega)) hR (tX8_begin_58 L ⟨by omega, by omega, c6_beginAnew (v := v) L (hH.1 0 (by omega)) (fun D hFD hSD hRD => tX8_begin_70 L ⟨by omega, by omega, c1_forget L (fun k hk => ?_) (fun E hE hHE => tX8_begin_77 L ⟨by omega, by omega, kq _ _ (q0 ok E ((hFD.H (by omega)).trans (fun g h1 h2 => hE g h2)) hHE (hRD.fr (by omega) hSD.2.2.1 (fun g hg => hE g (gHi_k (by omega) hg)) rfl))⟩)⟩)⟩)
  by_cases e : k = 0
  · rw [e]; exact hSD
  · exact (hH.1 k hk).fr (fun g hg => hFD g (by omega)) rfl
theorem c8_mixed (L : Lay n ad h0) {j : Int64} {x : Int32} {X : Int64 → Hp → Prop} (q : X (mx j x) (HN h0 ad cs pm)) : CKl mX8_mixed 0 0 0 [some (.long j), none, some (.int x)] (HN h0 ad cs pm) X := by
  intro Qc kq
  exact tX8_mixed_0 L (kq _ _ q)
theorem c8_withSite (L : Lay n ad h0) (hE : cs gEc 0 = nI n) (h0' : S0 n cs pm 0) (hR : SR n lc mc cs pm 0 v) (hw : WL n lc v) {s : Nat} (hs : s < n) {j : Int64} {X : Int64 → Hp → Prop} (q : X (fpO v s n (mx (fpK n lc v s 2 j) (knwV n v s))) (HN h0 ad cs pm)) : CKl mX8_withSite 4 0 0 [some (.ref (ad gEc)), some (.long j), none, some (.int (nI s)), none, none, none] (HN h0 ad cs pm) X := by
  intro Qc kq
  have hb := L.1
  have key2 : ∀ o, o ≤ n → Wm mX8_withSite 4 0 0 Qc 70 [some (.ref (ad gEc)), none, none, some (.int (nI s)), some (.long (fpO v s o (mx (fpK n lc v s 2 j) (knwV n v s)))), none, some (.int (nI o))] [] (HN h0 ad cs pm) 0 0 := by
    refine loopU n _ ?_ ?_
    · exact tX8_withSite_70 L ⟨fun _ => kq _ _ q, fun c => absurd (by rw [hE]; exact Int32.le_refl _) c⟩
    · intro o ho ih
      refine tX8_withSite_70 L ⟨fun c => absurd c (by rw [hE]; exact nI_ge ho (by omega)), fun _ => ⟨s, rfl, hs, o, rfl, ho, c8_mixed L (tX8_withSite_102 L ⟨s, rfl, hs, o, rfl, ho, c8_mixed L (tX8_withSite_127 L ?_)⟩)⟩⟩
      rw [nI_add, hR.tm hs ho, show cs (gRc 0 s o) 0 = v (rcA s o) from hR.rd hs ho (x := 0) (by omega) (by omega)]
      exact ih
  have key : ∀ k, k ≤ 2 → Wm mX8_withSite 4 0 0 Qc 6 [some (.ref (ad gEc)), none, none, some (.int (nI s)), some (.long (fpK n lc v s k j)), none, some (.int (nI k))] [] (HN h0 ad cs pm) 0 0 := by
    refine loopU 2 _ ?_ ?_
    · exact tX8_withSite_6 L ⟨fun _ => c6_valueKnownAt L h0' hR hs (tX8_withSite_62 L (c8_mixed L (tX8_withSite_65 L (key2 0 (Nat.zero_le _))))), fun c => absurd (Int32.le_refl _) c⟩
    · intro k hk ih
      refine tX8_withSite_6 L ⟨fun c => absurd c (nI_ge hk (by omega)), fun _ => c6_ownRights L h0' hR hw hs hk (tX8_withSite_24 L (c8_mixed L (tX8_withSite_27 L (c6_availableRights L h0' hR hw hs hk (tX8_withSite_41 L (c8_mixed L (tX8_withSite_44 L ?_)))))))⟩
      rw [nI_add]
      exact ih
  exact tX8_withSite_0 L (key 0 (Nat.zero_le _))
theorem c8_fingerprint (L : Lay n ad h0) (hE : cs gEc 0 = nI n) (h0' : S0 n cs pm 0) (hR : SR n lc mc cs pm 0 v) (hw : WL n lc v) {X : Int64 → Hp → Prop} (q : X (fpR n lc v) (HN h0 ad cs pm)) : CKl mX8_fingerprint 5 0 0 [some (.ref (ad gEc)), none, none, none, none] (HN h0 ad cs pm) X := by
  intro Qc kq
  have hb := L.1
  have hlc := hw.2.1
  generalize hst : mx (mx (mx (mx 71 (v 0)) (valV n v)) (v 4)) (v 5) = j0
  rw [fpR, hst] at q
  have loans : ∀ l, l ≤ lc → Wm mX8_fingerprint 5 0 0 Qc 77 [some (.ref (ad gEc)), some (.long (fpL v l (fpN n lc v n j0))), none, some (.int (nI l)), none] [] (HN h0 ad cs pm) 0 0 := by
    refine loopU lc _ ?_ ?_
    · exact tX8_fingerprint_77 L ⟨fun _ => kq _ _ q, fun c => absurd (by rw [hR.1.2.2.2.2.1]; exact Int32.le_refl _) c⟩
    · intro l hl ih
      have key : ∀ w, w ≤ 3 → Wm mX8_fingerprint 5 0 0 Qc 91 [some (.ref (ad gEc)), some (.long (fpW v l w (fpL v l (fpN n lc v n j0)))), none, some (.int (nI l)), some (.int (nI (5 + w)))] [] (HN h0 ad cs pm) 0 0 := by
        refine loopU 3 _ ?_ ?_
        · refine tX8_fingerprint_91 L ⟨fun _ => ?_, fun c => absurd (nI_le (by omega) (by omega)) c⟩
          rw [nI_add]
          exact ih
        · intro w hw2 ih2
          refine tX8_fingerprint_91 L ⟨fun c => absurd c (nI_ge (by omega) (by omega)), fun _ => c6_loanFact L (by omega) hR hw hl (by omega) (tX8_fingerprint_109 L (c8_mixed L (tX8_fingerprint_112 L ?_)))⟩
          rw [nI_add]
          exact ih2
      exact tX8_fingerprint_77 L ⟨fun c => absurd c (by rw [hR.1.2.2.2.2.1]; exact nI_ge hl (by omega)), fun _ => key 0 (Nat.zero_le _)⟩
  have sites : ∀ s, s ≤ n → Wm mX8_fingerprint 5 0 0 Qc 54 [some (.ref (ad gEc)), some (.long (fpN n lc v s j0)), none, some (.int (nI s)), none] [] (HN h0 ad cs pm) 0 0 := by
    refine loopU n _ ?_ ?_
    · exact tX8_fingerprint_54 L ⟨fun _ => loans 0 (Nat.zero_le _), fun c => absurd (by rw [hE]; exact Int32.le_refl _) c⟩
    · intro s hs ih
      refine tX8_fingerprint_54 L ⟨fun c => absurd c (by rw [hE]; exact nI_ge hs (by omega)), fun _ => c8_withSite L hE h0' hR hw hs (tX8_fingerprint_68 L ?_)⟩
      rw [nI_add]
      exact ih
  refine tX8_fingerprint_0 L (c8_mixed L (tX8_fingerprint_15 L (c6_trueValue L h0' hR (tX8_fingerprint_24 L (c8_mixed L (tX8_fingerprint_27 L (c8_mixed L (tX8_fingerprint_39 L (c8_mixed L (tX8_fingerprint_51 L ?_)))))))))) 
  rw [hR.1.2.2.2.1, hR.1.2.2.2.2.1, hR.1.2.2.2.2.2, ← hR.2.1.1, ← hR.2.1.2.1, hst]
  exact sites 0 (Nat.zero_le _)
end CX
