/-! THE CLASS: what forbids a call, more -/
section CT
variable {n lc mc : Nat} {ad : Nat → Nat} {h0 : Hp} {cs : Nat → Nat → Int32} {pm : Nat → Nat → Nat} {v : Nat → Int32}
theorem c8_siteFault (L : Lay n ad h0) (hn : cs gEc 0 = nI n) {a : Int32} {X : Int32 → Hp → Prop} (q : X (nI (if siB n a = false then 1 else 0)) (HN h0 ad cs pm)) : CKi mX8_siteFault 1 0 0 [some (.ref (ad gEc)), some (.int a)] (HN h0 ad cs pm) X := by
  intro Qc kq
  refine tX8_siteFault_0 L (c8_isSite L hn (tX8_siteFault_5 L ⟨fun c => kq _ _ ?_, fun c => kq _ _ ?_⟩))
  · rw [bI_z] at c; rw [if_pos c] at q; exact q
  · rw [bI_z] at c; rw [if_neg c] at q; exact q
theorem c8_siteAndKindFault (L : Lay n ad h0) (hn : cs gEc 0 = nI n) {a b : Int32} {X : Int32 → Hp → Prop} (q : X (nI (if (siB n a && kiB b) = false then 1 else 0)) (HN h0 ad cs pm)) : CKi mX8_siteAndKindFault 1 0 0 [some (.ref (ad gEc)), some (.int a), some (.int b)] (HN h0 ad cs pm) X := by
  intro Qc kq
  refine tX8_siteAndKindFault_0 L (c8_isSite L hn (tX8_siteAndKindFault_5 L ⟨fun c => kq _ _ ?_, fun c => c8_isKind L (tX8_siteAndKindFault_12 L ⟨fun c2 => kq _ _ ?_, fun c2 => kq _ _ ?_⟩)⟩))
  · rw [bI_z] at c; rw [if_pos (by simp [c])] at q; exact q
  · rw [bI_z] at c2; rw [if_pos (by simp [c2])] at q; exact q
  · rw [bI_z] at c c2; rw [if_neg (by simp at c c2; simp [c, c2])] at q; exact q
theorem miB_i (hm : mc ≤ 8) {x : Int32} : miB mc x = true ↔ ¬ x < 0 ∧ ¬ nI mc ≤ x := by
  constructor
  · intro h
    obtain ⟨s, hs, rfl⟩ := miB_t hm h
    exact ⟨nI_pos (by omega), nI_ge hs (by omega)⟩
  · intro h
    obtain ⟨j, hj, rfl⟩ := nI_of h.1
    have h2 := h.2
    rw [nI_leI (by omega) hj] at h2
    exact miB_n hm (by omega)
theorem c8_messageFault (L : Lay n ad h0) (h6 : cs (gSt 0) 6 = nI mc) (hm : mc ≤ 8) {a : Int32} {X : Int32 → Hp → Prop} (q : X (nI (if miB mc a = false then 1 else 0)) (HN h0 ad cs pm)) : CKi mX8_messageFault 0 0 0 [some (.ref (ad gEc)), some (.int a)] (HN h0 ad cs pm) X := by
  intro Qc kq
  have hi := miB_i hm (x := a)
  refine tX8_messageFault_0 L ?_
  rw [h6]
  refine ⟨fun c => kq _ _ ?_, fun c => ⟨fun c2 => kq _ _ ?_, fun c2 => kq _ _ ?_⟩⟩
  · rw [if_pos (by cases e : miB mc a with | false => rfl | true => exact absurd c (hi.mp e).1)] at q; exact q
  · rw [if_pos (by cases e : miB mc a with | false => rfl | true => exact absurd c2 (hi.mp e).2)] at q; exact q
  · rw [if_neg (by rw [hi.mpr ⟨c, c2⟩]; simp)] at q; exact q
theorem c8_sendFault (L : Lay n ad h0) (hn : cs gEc 0 = nI n) (h6 : cs (gSt 0) 6 = nI mc) (hm : mc ≤ 8) {a b : Int32} {X : Int32 → Hp → Prop} (q : X (nI (seF n mc a b)) (HN h0 ad cs pm)) : CKi mX8_sendFault 1 0 0 [some (.ref (ad gEc)), some (.int a), some (.int b)] (HN h0 ad cs pm) X := by
  intro Qc kq
  refine tX8_sendFault_0 L (c8_isSite L hn (tX8_sendFault_5 L ⟨fun c => kq _ _ ?_, fun c => c8_isSite L hn (tX8_sendFault_13 L ?_)⟩))
  · rw [bI_z] at c; rw [seF, if_pos (Or.inl c)] at q; exact q
  · rw [bI_z] at c
    rw [h6, nI_ltI (by omega) (by omega)]
    refine ⟨fun c2 => ⟨fun c3 => ⟨fun c4 => kq _ _ ?_, fun c4 => kq _ _ ?_⟩, fun c3 => kq _ _ ?_⟩, fun c2 => kq _ _ ?_⟩
    · rw [bI_z] at c2; rw [seF, if_neg (by rintro (e | e) <;> contradiction), if_neg c3, if_neg (by omega)] at q; exact q
    · rw [bI_z] at c2; rw [seF, if_neg (by rintro (e | e) <;> contradiction), if_neg c3, if_pos (by omega)] at q; exact q
    · rw [bI_z] at c2; rw [seF, if_neg (by rintro (e | e) <;> contradiction), if_pos c3] at q; exact q
    · rw [bI_z] at c2; rw [seF, if_pos (Or.inr c2)] at q; exact q
theorem c8_transferFault (L : Lay n ad h0) (hn : cs gEc 0 = nI n) (h0' : S0 n cs pm 0) (h : SR n lc mc cs pm 0 v) (hw : WL n lc v) {k a b x : Int32} {X : Int32 → Hp → Prop} (q : X (nI (trF n lc v k a b x (inB x (nI 1) (nI 999)))) (HN h0 ad cs pm)) : CKi mX8_transferFault 3 0 0 [some (.ref (ad gEc)), some (.int k), some (.int a), some (.int b), some (.int x)] (HN h0 ad cs pm) X := by
  intro Qc kq
  have hb := L.1
  have bad : ∀ w, w ≠ 0 → wpF n k a b (inB x (nI 1) (nI 999)) = w → X (nI w) (HN h0 ad cs pm) := by
    intro w hw e
    rw [trF, e, if_neg hw] at q
    exact q
  refine tX8_transferFault_0 L (c8_isSite L hn (tX8_transferFault_5 L ⟨fun c => kq _ _ (bad 1 (by omega) ?_), fun c => c8_isSite L hn (tX8_transferFault_13 L ⟨fun c2 => kq _ _ (bad 1 (by omega) ?_), fun c2 => c8_isKind L (tX8_transferFault_20 L ⟨fun c3 => ⟨fun c4 => kq _ _ (bad 2 (by omega) ?_), fun c4 => c8_isAmount L (tX8_transferFault_35 L ⟨fun c5 => ?_, fun c5 => kq _ _ (bad 2 (by omega) ?_)⟩)⟩, fun c3 => kq _ _ (bad 1 (by omega) ?_)⟩)⟩)⟩))
  · rw [bI_z] at c; rw [wpF, if_pos (Or.inl c)]
  · rw [bI_z] at c2; rw [wpF, if_pos (Or.inr (Or.inl c2))]
  · rw [bI_z] at c c2 c3; rw [wpF, if_neg (by rintro (e | e | e) <;> contradiction), if_pos (Or.inl c4)]
  · rw [bI_z] at c c2 c3 c5
    have e0 : wpF n k a b (inB x (nI 1) (nI 999)) = 0 := by
      rw [wpF, if_neg (by rintro (e | e | e) <;> contradiction), if_neg (by rintro (e | e) <;> contradiction)]
    rw [trF, if_pos e0] at q
    obtain ⟨k', s, t, hk, hs, ht, hst, rfl, rfl, rfl, hx⟩ := wpF_0 (by omega) e0
    rw [ixI_n (by omega), ixI_n (by omega)] at q
    refine c6_ownRights L h0' h hw hs hk (tX8_transferFault_49 L ⟨fun c6 => kq _ _ ?_, fun c6 => kq _ _ ?_⟩)
    · rw [if_neg (Int32.not_lt.mpr c6)] at q; exact q
    · rw [if_pos (Int32.not_le.mp c6)] at q; exact q
  · rw [bI_z] at c c2 c3 c5; rw [wpF, if_neg (by rintro (e | e | e) <;> contradiction), if_pos (Or.inr c5)]
  · rw [bI_z] at c3; rw [wpF, if_pos (Or.inr (Or.inr c3))]
end CT
