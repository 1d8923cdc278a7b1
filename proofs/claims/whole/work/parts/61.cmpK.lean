/-! THE CLASS: rights are shared out -/
section CK
variable {n lc mc : Nat} {ad : Nat → Nat} {h0 : Hp} {cs cs' : Nat → Nat → Int32} {pm : Nat → Nat → Nat} {k k0 k1 s o l t m : Nat} {v v' : Nat → Int32}
def dmS (v : Nat → Int32) (s t : Nat) : Nat → Int32
  | 0 => nI 0
  | i + 1 => dmS v s t i + v (rcA s i + 14 + t)
theorem c6_shareOut (L : Lay n ad h0) (h0' : S0 n cs pm k) (h : SR n lc mc cs pm k v) (hw : WL n lc v) (hs : s < n) (ht : t < 2) (hS : (dmS v s t n).toInt64 = rbA v s t n) (hS2 : 0 < dmS v s t n ↔ ¬ lg_cmp (rbA v s t n) 0 ≤ 0) (hP : ¬ lg_cmp (rbA v s t n) 0 ≤ 0 → ∀ o, o < n → (lg_cmp (((own n lc v s t).toInt64 * (v (rcA s o + 14 + t)).toInt64) / rbA v s t n) 0 ≤ 0 ↔ (((own n lc v s t).toInt64 * (v (rcA s o + 14 + t)).toInt64) / rbA v s t n).toInt32 ≤ 0)) {X : Int32 → Hp → Prop} (q0 : lg_cmp (rbA v s t n) 0 ≤ 0 → X (nI 0) (HN h0 ad cs pm)) (q1 : ¬ lg_cmp (rbA v s t n) 0 ≤ 0 → ∀ cs', FrS k cs cs' → S0 n cs' pm k → SR n lc mc cs' pm k (rbV v s t (own n lc v s t).toInt64 (rbA v s t n) n) → X (rbM v s t (own n lc v s t).toInt64 (rbA v s t n) n) (HN h0 ad cs' pm)) : CKi mX6_shareOut 3 0 0 [some (.ref (ad (gSt k))), some (.int (nI s)), some (.int (nI t)), none, none, none, none, none, none, none] (HN h0 ad cs pm) X := by
  intro Qc kq
  have hb := L.1
  have hk := h0'.1
  have hn := h0'.2.1
  have sum : ∀ i, i ≤ n → Wm mX6_shareOut 3 0 0 Qc 5 [some (.ref (ad (gSt k))), some (.int (nI s)), some (.int (nI t)), some (.int (dmS v s t i)), some (.int (nI i)), none, none, none, none, none] [] (HN h0 ad cs pm) 0 0 := by
    refine loopU n _ ?_ ?_
    · refine tX6_shareOut_5 L ⟨hk, fun _ => ⟨fun c => c6_ownRights L h0' h hw hs ht (tX6_shareOut_52 L ?_), fun c => kq _ _ (q0 ?_)⟩, fun c => absurd (by rw [hn]; exact nI_le (Nat.le_refl _) (by omega)) c⟩
      · have cl := hS2.mp c
        have hP := hP cl
        have q1 := q1 cl
        generalize hR : (own n lc v s t).toInt64 = R at *
        generalize hal : rbA v s t n = al at *
        have hal0 : ¬ al = 0 := fun e => cl (by rw [e]; decide)
        have main : ∀ i, i ≤ n → ∀ d, FrS k cs d → S0 n d pm k → SR n lc mc d pm k (rbV v s t R al i) → Wm mX6_shareOut 3 0 0 Qc 61 [some (.ref (ad (gSt k))), some (.int (nI s)), some (.int (nI t)), some (.int (dmS v s t n)), some (.long R), none, some (.int (rbM v s t R al i)), some (.int (nI i)), none, none] [] (HN h0 ad d pm) 0 0 := by
          refine loopU n _ ?_ ?_
          · intro d hF hS' hR'
            exact tX6_shareOut_61 L ⟨hk, fun _ => kq _ _ (q1 d hF hS' hR'), fun c => absurd (by rw [hS'.2.1]; exact nI_le (Nat.le_refl _) (by omega)) c⟩
          · intro i hi ih d hF hS' hR'
            have skip : rbP v s t R al i ≤ 0 → Wm mX6_shareOut 3 0 0 Qc 128 [some (.ref (ad (gSt k))), some (.int (nI s)), some (.int (nI t)), some (.int (dmS v s t n)), some (.long R), none, some (.int (rbM v s t R al i)), some (.int (nI i)), none, none] [] (HN h0 ad d pm) 0 0 := by
              intro hp
              have e : rbM v s t R al (i + 1) = rbM v s t R al i := by rw [rbM, if_pos hp]
              have e2 : rbV v s t R al (i + 1) = rbV v s t R al i := by rw [rbV, if_pos hp]
              rw [e, e2] at ih
              refine tX6_shareOut_128 L ?_
              rw [nI_add]
              exact ih d hF hS' hR'
            refine tX6_shareOut_61 L ⟨hk, fun c => absurd c (by rw [hS'.2.1]; exact nI_ge hi (by omega)), fun _ => ⟨s, rfl, hs, i, rfl, hi, t, rfl, ht, by rw [hS]; exact hal0, fun c2 => skip ?_, fun c2 => ?_⟩⟩
            · rw [nI_inj5 (by omega) (by omega)] at c2
              rw [rbP, if_pos c2]; decide
            · rw [nI_inj5 (by omega) (by omega)] at c2
              have ed : d (gAr k s i 1) t = v (rcA s i + 14 + t) := by
                rw [hR'.dm hs hi ht, Nat.add_assoc, rbV_o ht c2 (by omega) (by omega) i (by omega)]
              rw [ed, hS]
              have eP : rbP v s t R al i = ((R * (v (rcA s i + 14 + t)).toInt64) / al).toInt32 := by rw [rbP, if_neg c2]
              refine ⟨fun c3 => skip (by rw [eP]; exact (hP i hi).mp c3), fun c3 => ?_⟩
              have hp : ¬ rbP v s t R al i ≤ 0 := fun e9 => c3 ((hP i hi).mpr (by rw [← eP]; exact e9))
              have e : rbM v s t R al (i + 1) = rbM v s t R al i + rbP v s t R al i := by rw [rbM, if_neg hp]
              have e2 : rbV v s t R al (i + 1) = givV (rbV v s t R al i) t s i (rbP v s t R al i) := by rw [rbV, if_neg hp]
              rw [e, e2, eP] at ih
              refine c6_give L hS' hR' hs hi ht (fun E hFE hSE hRE => tX6_shareOut_120 L (tX6_shareOut_128 L ?_))
              rw [nI_add]
              exact ih E (hF.trans hFE) hSE hRE
        exact main 0 (Nat.zero_le _) cs FrS.refl h0' h
      · exact Decidable.byContradiction (fun e => c (hS2.mpr e))
    · intro i hi ih
      refine tX6_shareOut_5 L ⟨hk, fun c => absurd c (by rw [hn]; exact nI_ge hi (by omega)), fun _ => ⟨s, rfl, hs, i, rfl, hi, t, rfl, ht, ?_⟩⟩
      rw [h.dm hs hi ht, nI_add]
      exact ih
  exact tX6_shareOut_0 L (sum 0 (Nat.zero_le _))
end CK
