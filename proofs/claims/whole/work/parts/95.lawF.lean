/-! THE LAW: its loop -/
section LF
variable {n t lc mc c ol ty a0 a3 Ln i MC MS NC NS : Nat} {ad : Nat → Nat} {cs : Nat → Nat → Int32} {pm : Nat → Nat → Nat} {xs : Nat → Int32} {Q : Nat → Option Value → Hp → Prop}
theorem RWx.up (R : RWx n t cs pm lc mc c ol ty) {t' : Nat} (ht : t ≤ t') : RW n t' cs pm := by
  obtain ⟨rE, rH, rR, rP, rS, rf, rt, rg, rx⟩ := R
  exact ⟨lc, mc, c, ol, ty, rE, rH, rR, rP.mono ht, fun j hj => by obtain ⟨a, b, h⟩ := rS j hj; exact ⟨a, b, h.mono ht⟩, rf, rt, rg, rx⟩
theorem L6 (hLn : Ln ≤ 3073) : (nI Ln - nI 6).toInt = (Ln : Int) - 6 := by
  have e1 : (nI Ln).toInt = (Ln : Int) := nI_toInt (by omega)
  have e2 : (nI 6).toInt = 6 := nI_toInt (by omega)
  rw [tI_sub (by omega) (by omega), e1, e2]
theorem law_loop (hLn : Ln ≤ 3073) (hQ : ∀ h, Q 0 (some (.int (nI 1))) h) : ∀ (d r : Nat) (h0 : Hp) (cs : Nat → Nat → Int32) (pm : Nat → Nat → Nat) (nc ns : Nat), r ≤ 600 → Lay n ad h0 → Sx h0 a0 a3 Ln xs → RW n (25 * r) cs pm → Ln < 7 + 6 * (r + d) → nc + 2 * d ≤ MC → ns + 12 * d ≤ MS → Wm mL_law 11 MC MS Q 33 [some (.ref a0), some (.ref (ad gEc)), some (.ref (ad (gMo 0))), some (.ref a3), some (.int (nI (1 + 6 * r))), none, none] [] (HN h0 ad cs pm) nc ns := by
  intro d
  induction d with
  | zero =>
    intro r h0 cs pm nc ns hr L S R hd h1 h2
    have hN : hpN (HN h0 ad cs pm) a0 = Ln := S.2.1
    refine bL_law_33 (mcn := 2) (msn := 12) ?_
    have hx : nI (hpN (HN h0 ad cs pm) a0) - nI 6 < nI (1 + 6 * r) := by
      rw [hN, Int32.lt_iff_toInt_lt, L6 hLn, nI_toInt (by omega)]
      omega
    exact ⟨S.K, fun _ => ⟨by omega, by omega, hQ _⟩, fun c => absurd hx c⟩
  | succ d ih =>
    intro r h0 cs pm nc ns hr L S R hd h1 h2
    have hN : hpN (HN h0 ad cs pm) a0 = Ln := S.2.1
    by_cases hx : Ln < 7 + 6 * r
    · refine bL_law_33 (mcn := 2) (msn := 12) ?_
      have hx' : nI (hpN (HN h0 ad cs pm) a0) - nI 6 < nI (1 + 6 * r) := by
        rw [hN, Int32.lt_iff_toInt_lt, L6 hLn, nI_toInt (by omega)]
        omega
      exact ⟨S.K, fun _ => ⟨by omega, by omega, hQ _⟩, fun c => absurd hx' c⟩
    · obtain ⟨lc, mc, c, ol, ty, R⟩ := R
      have ht : 25 * r < 80000 := by omega
      have hi : (1 + 6 * r) + 6 ≤ Ln := by omega
      have go : ∀ NC NS, NC ≤ nc + 2 → NS ≤ ns + 12 → FinL n (25 * r) ad a0 a3 Ln xs MC MS Q (nI (1 + 6 * r)) NC NS := fun NC NS g1 g2 => ⟨⟨by omega, by omega⟩, fun h0' cs' pm' L' S' R' => bL_law_1859 (by
        rw [nI_add, show 1 + 6 * r + 6 = 1 + 6 * (r + 1) by omega]
        exact ih (r + 1) h0' cs' pm' NC NS (by omega) L' S' (by rw [show 25 * (r + 1) = 25 * r + 25 by omega]; exact R') (by omega) (by omega) (by omega))⟩
      have F0 := go nc ns (by omega) (by omega)
      have F2 := go (nc + 2) (ns + 12) (by omega) (by omega)
      have v0 : vp_in (nI (1 + 6 * r)) (hpN (HN h0 ad cs pm) a0) := by
        rw [hN]
        exact pk_in (1 + 6 * r) Ln (by omega) rfl (by omega)
      have v1 := S.vi (ad := ad) (cs := cs) (pm := pm) (i := 1 + 6 * r) (k := 1) (by omega) (by omega)
      have v2 := S.vi (ad := ad) (cs := cs) (pm := pm) (i := 1 + 6 * r) (k := 2) (by omega) (by omega)
      have v3 := S.vi (ad := ad) (cs := cs) (pm := pm) (i := 1 + 6 * r) (k := 3) (by omega) (by omega)
      have v4 := S.vi (ad := ad) (cs := cs) (pm := pm) (i := 1 + 6 * r) (k := 4) (by omega) (by omega)
      have v5 := S.vi (ad := ad) (cs := cs) (pm := pm) (i := 1 + 6 * r) (k := 5) (by omega) (by omega)
      have hx' : ¬ nI (hpN (HN h0 ad cs pm) a0) - nI 6 < nI (1 + 6 * r) := by
        rw [hN, Int32.lt_iff_toInt_lt, L6 hLn, nI_toInt (by omega)]
        omega
      refine bL_law_33 (mcn := 2) (msn := 12) ?_
      rw [S.ag (k := 1) (by omega), S.ag (k := 2) (by omega), S.ag (k := 3) (by omega), S.ag (k := 4) (by omega), S.ag (k := 5) (by omega)]
      exact ⟨S.K, fun c => absurd c hx', fun _ => ⟨v0, fun _ => ⟨by omega, by omega, K18 L, op_sites L S R ht F0⟩, fun _ => ⟨v1, v2, v3, by omega, by omega, op_begin L S R ht hi hLn F2⟩, fun _ => ⟨v1, v2, by omega, by omega, op_increase L S R ht hi hLn F2⟩, fun _ => ⟨v1, v2, by omega, by omega, op_decrease L S R ht hi hLn F2⟩, fun _ => ⟨v1, v2, v3, v4, by omega, by omega, op_transfer L S R ht hi hLn F2⟩, fun _ => ⟨v1, v2, v3, v4, v5, by omega, by omega, op_lend L S R ht hi hLn F2⟩, fun _ => ⟨v1, v2, by omega, by omega, op_rebalance L S R ht hi hLn F2⟩, fun _ => ⟨v1, by omega, by omega, op_pass L S R ht hi hLn F2⟩, fun _ => ⟨v1, v2, by omega, by omega, op_send L S R ht hi hLn F2⟩, fun _ => ⟨v1, by omega, by omega, op_deliver L S R ht hi hLn F2⟩, fun _ => ⟨v1, by omega, by omega, op_lose L S R ht hi hLn F2⟩, fun _ => ⟨v1, by omega, by omega, op_repeat L S R ht hi hLn F2⟩, fun _ => ⟨by omega, by omega, K18 L, op_messages L S R ht F0⟩, fun _ => ⟨v1, v2, by omega, by omega, op_message L S R hi hLn F2⟩, fun _ => ⟨by omega, by omega, K18 L, op_time L S R ht F0⟩, fun _ => ⟨by omega, by omega, K18 L, op_value L S R ht F0⟩, fun _ => ⟨v1, by omega, by omega, op_known L S R hi hLn F2⟩, fun _ => ⟨v1, v2, by omega, by omega, op_own L S R hi hLn F2⟩, fun _ => ⟨v1, v2, by omega, by omega, op_available L S R hi hLn F2⟩, fun _ => ⟨v1, by omega, by omega, op_dormant L S R hi hLn F2⟩, fun _ => ⟨v1, v2, v3, by omega, by omega, op_demand L S R hi hLn F2⟩, fun _ => ⟨v1, v2, by omega, by omega, op_version L S R hi hLn F2⟩, fun _ => ⟨v1, v2, by omega, by omega, op_copyTime L S R hi hLn F2⟩, fun _ => ⟨by omega, by omega, K18 L, op_loans L S R ht F0⟩, fun _ => ⟨v1, v2, by omega, by omega, op_loan L S R hi hLn F2⟩, fun _ => ⟨v1, v2, v3, by omega, by omega, op_helpers L S R hi hLn F2⟩, fun _ => ⟨v1, by omega, by omega, op_type L S R ht hi hLn F2⟩, fun _ => ⟨by omega, by omega, K18 L, op_clearText L S R ht F0⟩, fun _ => ⟨by omega, by omega, K18 L, op_runScript L S R ht F0⟩, fun _ => ⟨by omega, by omega, op_undo L S R ht hi hLn F2⟩, fun _ => ⟨by omega, by omega, K18 L, op_fingerprint L S R ht F0⟩, fun _ _ _ _ _ _ _ _ _ _ _ _ _ _ _ _ _ _ _ _ _ _ _ _ _ _ _ _ _ _ _ => F0.2 _ _ _ L S (R.up (by omega))⟩⟩
end LF
