/-! THE CLASS: what forbids a call -/
section CS
variable {n lc mc : Nat} {ad : Nat → Nat} {h0 : Hp} {cs : Nat → Nat → Int32} {pm : Nat → Nat → Nat} {v : Nat → Int32}
theorem siB_i (hn : 1 ≤ n ∧ n ≤ 5) {x : Int32} : siB n x = true ↔ ¬ x < 0 ∧ ¬ nI n ≤ x := by
  constructor
  · intro h
    obtain ⟨s, hs, rfl⟩ := siB_t hn h
    exact ⟨nI_pos (by omega), nI_ge hs (by omega)⟩
  · intro h
    obtain ⟨j, hj, rfl⟩ := nI_of h.1
    have h2 := h.2
    rw [nI_leI (by omega) hj] at h2
    exact siB_n hn (by omega)
theorem c8_isSite (L : Lay n ad h0) (hn : cs gEc 0 = nI n) {x : Int32} {X : Int32 → Hp → Prop} (q : X (bI (siB n x)) (HN h0 ad cs pm)) : CKi mX8_isSite 0 0 0 [some (.ref (ad gEc)), some (.int x)] (HN h0 ad cs pm) X := by
  intro Qc kq
  have hb := L.1
  have hi := siB_i (n := n) (by omega) (x := x)
  refine tX8_isSite_0 L ?_
  rw [hn]
  refine ⟨fun c => kq _ _ ?_, fun c => ⟨fun c2 => kq _ _ ?_, fun c2 => kq _ _ ?_⟩⟩
  · rw [show siB n x = false by cases e : siB n x with | false => rfl | true => exact absurd c (hi.mp e).1] at q; exact q
  · rw [show siB n x = false by cases e : siB n x with | false => rfl | true => exact absurd c2 (hi.mp e).2] at q; exact q
  · rw [hi.mpr ⟨c, c2⟩] at q; exact q
theorem c8_isKind (L : Lay n ad h0) {x : Int32} {X : Int32 → Hp → Prop} (q : X (bI (kiB x)) (HN h0 ad cs pm)) : CKi mX8_isKind 0 0 0 [some (.int x)] (HN h0 ad cs pm) X := by
  intro Qc kq
  refine tX8_isKind_0 L ⟨fun c => kq _ _ ?_, fun c => ⟨fun c2 => kq _ _ ?_, fun c2 => kq _ _ ?_⟩⟩
  · rw [c, show kiB 0 = true by decide] at q; exact q
  · rw [show kiB x = false by
      cases e : kiB x with
      | false => rfl
      | true =>
        obtain ⟨k, hk, rfl⟩ := kiB_t e
        have : k = 0 ∨ k = 1 := by omega
        rcases this with rfl | rfl
        · exact absurd rfl c
        · exact absurd rfl c2] at q
    exact q
  · rw [c2, show kiB (nI 1) = true by decide] at q; exact q
theorem c8_isAmount (L : Lay n ad h0) {x : Int32} {X : Int32 → Hp → Prop} (q : X (bI (inB x (nI 1) (nI 999))) (HN h0 ad cs pm)) : CKi mX8_isAmount 0 0 0 [some (.int x)] (HN h0 ad cs pm) X := by
  intro Qc kq
  refine tX8_isAmount_0 L ⟨fun c => kq _ _ ?_, fun c => ⟨fun c2 => kq _ _ ?_, fun c2 => kq _ _ ?_⟩⟩
  · rw [show inB x (nI 1) (nI 999) = false by simp [inB, c]] at q; exact q
  · rw [show inB x (nI 1) (nI 999) = false by simp [inB, c2]] at q; exact q
  · rw [show inB x (nI 1) (nI 999) = true by simp [inB, Int32.not_lt.mp c, Int32.not_lt.mp c2]] at q; exact q
theorem c8_changeFault (L : Lay n ad h0) (hn : cs gEc 0 = nI n) {a x : Int32} {X : Int32 → Hp → Prop} (q : X (nI (chF n a x)) (HN h0 ad cs pm)) : CKi mX8_changeFault 1 0 0 [some (.ref (ad gEc)), some (.int a), some (.int x)] (HN h0 ad cs pm) X := by
  intro Qc kq
  refine tX8_changeFault_0 L (c8_isSite L hn (tX8_changeFault_5 L ⟨fun c => c8_isAmount L (tX8_changeFault_14 L ⟨fun c2 => kq _ _ ?_, fun c2 => kq _ _ ?_⟩), fun c => kq _ _ ?_⟩))
  · rw [bI_z] at c c2; rw [chF, if_neg c, if_pos c2] at q; exact q
  · rw [bI_z] at c c2; rw [chF, if_neg c, if_neg c2] at q; exact q
  · rw [bI_z] at c; rw [chF, if_pos c] at q; exact q
end CS
