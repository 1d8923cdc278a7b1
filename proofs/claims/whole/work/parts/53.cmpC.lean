/-! THE CLASS: helpers -/
def moI (w : Nat → Int32) (b : Option Nat) : Int32 := match b with
  | none => nI 0
  | some b => w b
def heC (n : Nat) (w : Nat → Int32) : Nat → Nat → Int32 → Int32 → Int32
  | 0, _, _, _ => -1
  | g + 1, i, mis, tk => if 0 < mis then (match bsN w tk n with
    | none => -1
    | some b => heC n w g (i + 1) (mis - w b) (tk ||| (nI 1 <<< (nI b &&& 31)))) else nI i
theorem oI_m1 {b : Nat} (hb : b < 1000) : ¬ oI (some b) = -1 := by
  intro c4
  exact absurd (show nI b < 0 by rw [show nI b = -1 from c4]; decide) (nI_pos (by omega))
section CC
variable {n lc mc : Nat} {ad : Nat → Nat} {h0 : Hp} {cs : Nat → Nat → Int32} {pm : Nat → Nat → Nat} {k s o l t : Nat} {v : Nat → Int32}
theorem c6_richestOutside (L : Lay n ad h0) (h0' : S0 n cs pm k) (h : SR n lc mc cs pm k v) (hw : WL n lc v) (ht : t < 2) {tk : Int32} {X : Int32 → Hp → Prop} (q : X (oI (bsN (fun o => own n lc v o t) tk n)) (HN h0 ad cs pm)) : CKi mX6_richestOutside 3 0 0 [some (.ref (ad (gSt k))), some (.int tk), some (.int (nI t)), none, none, none, none] (HN h0 ad cs pm) X := by
  intro Qc kq
  have hb := L.1
  have hk := h0'.1
  have hn := h0'.2.1
  have key : ∀ i, i ≤ n → Wm mX6_richestOutside 3 0 0 Qc 8 [some (.ref (ad (gSt k))), some (.int tk), some (.int (nI t)), some (.int (oI (bsN (fun o => own n lc v o t) tk i))), some (.int (moI (fun o => own n lc v o t) (bsN (fun o => own n lc v o t) tk i))), some (.int (nI i)), none] [] (HN h0 ad cs pm) 0 0 := by
    refine loopU n _ ?_ ?_
    · exact tX6_richestOutside_8 L ⟨hk, fun _ => kq _ _ q, fun c => absurd (by rw [hn]; exact nI_le (Nat.le_refl _) (by omega)) c⟩
    · intro i hi ih
      refine tX6_richestOutside_8 L ⟨hk, fun c => absurd c (by rw [hn]; exact nI_ge hi (by omega)), fun _ => ⟨fun c => tX6_richestOutside_54 L ?_, fun c => c6_ownRights L h0' h hw hi ht ?_⟩⟩
      · rw [bsN, if_neg c] at ih
        rw [nI_add]; exact ih
      · rw [bsN, if_pos c] at ih
        cases e : bsN (fun o => own n lc v o t) tk i with
        | none =>
          rw [e] at ih
          refine tX6_richestOutside_33 L ⟨fun _ => tX6_richestOutside_47 L (tX6_richestOutside_54 L ?_), fun c2 => absurd rfl c2⟩
          rw [nI_add]; exact ih
        | some b =>
          rw [e] at ih
          have hbn := bsN_lt e
          refine tX6_richestOutside_33 L ⟨fun c2 => absurd c2 (oI_m1 (by omega)), fun _ => ⟨fun c3 => tX6_richestOutside_54 L ?_, fun c3 => tX6_richestOutside_47 L (tX6_richestOutside_54 L ?_)⟩⟩
          · simp only [show own n lc v i t ≤ own n lc v b t from c3, not_true, if_false] at ih
            rw [nI_add]; exact ih
          · simp only [show ¬ own n lc v i t ≤ own n lc v b t from c3, not_false_iff, if_true] at ih
            rw [nI_add]; exact ih
  exact tX6_richestOutside_0 L (key 0 (Nat.zero_le _))
theorem c6_fewestHelpers (L : Lay n ad h0) (h0' : S0 n cs pm k) (h : SR n lc mc cs pm k v) (hw : WL n lc v) (hs : s < n) (ht : t < 2) {x : Int32} {X : Int32 → Hp → Prop} (q : X (heC n (fun o => own n lc v o t) n 0 (x - avl n lc v s t) (nI 1 <<< (nI s &&& 31))) (HN h0 ad cs pm)) : CKi mX6_fewestHelpers 4 0 0 [some (.ref (ad (gSt k))), some (.int (nI s)), some (.int (nI t)), some (.int x), none, none, none, none] (HN h0 ad cs pm) X := by
  intro Qc kq
  have hb := L.1
  have hk := h0'.1
  have hn := h0'.2.1
  have main : ∀ (g i : Nat) (mis tk : Int32), i + g = n → X (heC n (fun o => own n lc v o t) g i mis tk) (HN h0 ad cs pm) → Wm mX6_fewestHelpers 4 0 0 Qc 18 [some (.ref (ad (gSt k))), none, some (.int (nI t)), none, some (.int mis), some (.int tk), some (.int (nI i)), none] [] (HN h0 ad cs pm) 0 0 := by
    intro g
    induction g with
    | zero =>
      intro i mis tk hi qi
      exact tX6_fewestHelpers_18 L ⟨hk, fun _ => kq _ _ qi, fun c => absurd (by rw [hn]; exact nI_le (by omega) (by omega)) c⟩
    | succ g ih =>
      intro i mis tk hi qi
      refine tX6_fewestHelpers_18 L ⟨hk, fun c => absurd c (by rw [hn]; exact nI_ge (by omega) (by omega)), fun _ => ⟨fun c => c6_richestOutside L h0' h hw ht ?_, fun c => kq _ _ ?_⟩⟩
      · rw [heC, if_pos c] at qi
        cases e : bsN (fun o => own n lc v o t) tk n with
        | none =>
          rw [e] at qi
          exact tX6_fewestHelpers_42 L ⟨fun c2 => absurd rfl c2, fun _ => kq _ _ qi⟩
        | some b =>
          rw [e] at qi
          have hbn := bsN_lt e
          refine tX6_fewestHelpers_42 L ⟨fun _ => ⟨hk, c6_ownRights L h0' h hw hbn ht (tX6_fewestHelpers_61 L ?_)⟩, fun c2 => absurd c2 (oI_m1 (by omega))⟩
          rw [nI_add]
          exact ih (i + 1) _ _ (by omega) qi
      · rw [heC, if_neg c] at qi
        exact qi
  exact tX6_fewestHelpers_0 L ⟨hk, c6_availableRights L h0' h hw hs ht (tX6_fewestHelpers_7 L (main n 0 _ _ (by omega) q))⟩
end CC
