/-! the reference: messages -/
def wrV (v : Nat → Int32) (m s : Nat) (a b : Int32) (i : Nat) : Nat → Int32 := fun j => if j = mgA m then a else if j = mgA m + 1 then b else if j = mgA m + 2 then v 0 else if mgA m + 3 ≤ j ∧ j < mgA m + 3 + 30 * i then (if (j - (mgA m + 3)) % 30 = 1 then tOf v s ((j - (mgA m + 3)) / 30) else v (rcA s 0 + (j - (mgA m + 3)))) else v j
def rpB (v : Nat → Int32) (m t o : Nat) : Bool := decide (o ≠ t) && (decide (v (rcA t o) < v (mgA m + 3 + 30 * o)) || (decide (v (rcA t o) = v (mgA m + 3 + 30 * o)) && decide (v (rcA t o + 1) < v (mgA m + 3 + 30 * o + 1))))
def arV (v : Nat → Int32) (m t i : Nat) : Nat → Int32 := fun j => if (rcA t 0 ≤ j ∧ j < rcA t i) ∧ rpB v m t ((j - rcA t 0) / 30) = true then v (mgA m + 3 + (j - rcA t 0)) else v j
def arN (v : Nat → Int32) (m t : Nat) : Nat → Nat
  | 0 => 0
  | i + 1 => arN v m t i + (if rpB v m t i = true then 1 else 0)
def goV (v : Nat → Int32) (mc m : Nat) : Nat → Int32 := shf (upd v 5 (nI (mc - 1))) (mgA m) 160 (mgA (mc - 1))
def miB (mc : Nat) (x : Int32) : Bool := inB x (nI 0) (nI mc - nI 1)
theorem miB_t {mc : Nat} {x : Int32} (hm : mc ≤ 8) (h : miB mc x = true) : ∃ m, m < mc ∧ x = nI m := by
  rw [miB, inB_t] at h
  by_cases h0 : mc = 0
  · subst h0
    have h9 := Int32.le_trans h.1 h.2
    exact absurd h9 (by decide)
  · rw [pk_sub (by omega)] at h
    obtain ⟨j, hj, e⟩ := nI_of2 (M := nI (mc - 1)) (n := mc - 1) (nI_toInt (by omega)) (Int32.not_lt.mpr h.1) h.2
    exact ⟨j, by omega, e⟩
theorem miB_n {mc m : Nat} (hm : mc ≤ 8) (h : m < mc) : miB mc (nI m) = true := by
  rw [miB, inB_t, pk_sub (by omega)]
  exact ⟨nI_le (Nat.zero_le _) (by omega), nI_le (by omega) (by omega)⟩
theorem rcA_i (s i : Nat) : rcA s i = rcA s 0 + 30 * i := by unfold rcA; omega
theorem rcA_lt {s i : Nat} (hs : s < 5) (hi : i < 5) : rcA s i + 30 ≤ 900 := by unfold rcA; omega
theorem mgA_ge (m : Nat) : 900 ≤ mgA m := by unfold mgA; omega
theorem wrV_0 {v : Nat → Int32} {m s : Nat} {a b : Int32} : upd (upd (upd v (mgA m) a) (mgA m + 1) b) (mgA m + 2) (v 0) = wrV v m s a b 0 := by
  funext j
  unfold wrV
  by_cases h1 : j = mgA m
  · rw [if_pos h1, upd_ne (by omega), upd_ne (by omega), h1, upd_eq]
  · rw [if_neg h1]
    by_cases h2 : j = mgA m + 1
    · rw [if_pos h2, upd_ne (by omega), h2, upd_eq]
    · rw [if_neg h2]
      by_cases h3 : j = mgA m + 2
      · rw [if_pos h3, h3, upd_eq]
      · rw [if_neg h3, if_neg (by omega), upd_ne h3, upd_ne h2, upd_ne h1]
theorem wrV_lo {v : Nat → Int32} {m s i j : Nat} {a b : Int32} (h : j < 900) : wrV v m s a b i j = v j := by
  have := mgA_ge m
  unfold wrV
  rw [if_neg (by omega), if_neg (by omega), if_neg (by omega), if_neg (by omega)]
theorem wrV_u {v : Nat → Int32} {m s i : Nat} {a b : Int32} : upd (ovw (wrV v m s a b i) (mgA m + 3 + 30 * i) (fun k => v (rcA s i + k)) 30) (mgA m + 3 + 30 * i + 1) (tOf v s i) = wrV v m s a b (i + 1) := by
  funext j
  by_cases h : j = mgA m + 3 + 30 * i + 1
  · rw [h, upd_eq]
    unfold wrV
    rw [if_neg (by omega), if_neg (by omega), if_neg (by omega), if_pos (by omega), if_pos (by omega), show (mgA m + 3 + 30 * i + 1 - (mgA m + 3)) / 30 = i by omega]
  · rw [upd_ne h]
    unfold ovw
    by_cases h2 : mgA m + 3 + 30 * i ≤ j ∧ j < mgA m + 3 + 30 * i + 30
    · rw [if_pos h2]
      unfold wrV
      rw [if_neg (by omega), if_neg (by omega), if_neg (by omega), if_pos (by omega), if_neg (by omega)]
      have e := rcA_i s i
      exact congrArg v (show rcA s i + (j - (mgA m + 3 + 30 * i)) = rcA s 0 + (j - (mgA m + 3)) by omega)
    · rw [if_neg h2]
      unfold wrV
      by_cases h3 : mgA m + 3 ≤ j ∧ j < mgA m + 3 + 30 * i
      · rw [if_pos h3, if_pos (show mgA m + 3 ≤ j ∧ j < mgA m + 3 + 30 * (i + 1) by omega)]
      · rw [if_neg h3, if_neg (show ¬ (mgA m + 3 ≤ j ∧ j < mgA m + 3 + 30 * (i + 1)) by omega)]
theorem arV_0 {v : Nat → Int32} {m t : Nat} : arV v m t 0 = v := by
  funext j; unfold arV; rw [if_neg (by omega)]
theorem arV_hi {v : Nat → Int32} {m t i j : Nat} (h : rcA t i ≤ j) : arV v m t i j = v j := by
  unfold arV; rw [if_neg (by omega)]
theorem arV_n {v : Nat → Int32} {m t i : Nat} (h : rpB v m t i = false) : arV v m t i = arV v m t (i + 1) := by
  funext j
  unfold arV
  have e := rcA_i t i
  have e2 := rcA_i t (i + 1)
  by_cases h2 : rcA t i ≤ j ∧ j < rcA t (i + 1)
  · rw [if_neg (by omega)]
    have e3 : (j - rcA t 0) / 30 = i := by omega
    rw [e3, h, if_neg (by simp)]
  · by_cases h3 : rcA t 0 ≤ j ∧ j < rcA t i
    · simp only [h3, show rcA t 0 ≤ j ∧ j < rcA t (i + 1) by omega]
    · simp only [h3, show ¬ (rcA t 0 ≤ j ∧ j < rcA t (i + 1)) by omega]
theorem arV_u {v : Nat → Int32} {m t i : Nat} (h : rpB v m t i = true) : ovw (arV v m t i) (rcA t i) (fun k => v (mgA m + 3 + 30 * i + k)) 30 = arV v m t (i + 1) := by
  funext j
  have e := rcA_i t i
  have e2 := rcA_i t (i + 1)
  unfold ovw
  by_cases h2 : rcA t i ≤ j ∧ j < rcA t i + 30
  · rw [if_pos h2]
    unfold arV
    have e3 : (j - rcA t 0) / 30 = i := by omega
    rw [if_pos ⟨by omega, by rw [e3]; exact h⟩]
    exact congrArg v (show mgA m + 3 + 30 * i + (j - rcA t i) = mgA m + 3 + (j - rcA t 0) by omega)
  · rw [if_neg h2]
    unfold arV
    by_cases h3 : rcA t 0 ≤ j ∧ j < rcA t i
    · simp only [h3, show rcA t 0 ≤ j ∧ j < rcA t (i + 1) by omega]
    · simp only [h3, show ¬ (rcA t 0 ≤ j ∧ j < rcA t (i + 1)) by omega]
section RF
variable {n lc c mc m : Nat} {ad : Nat → Nat} {h0 : Hp} {cs : Nat → Nat → Int32} {pm : Nat → Nat → Nat} {s o l k t : Nat} {f v p : Nat → Int32}
theorem c9_writes (L : Lay n ad h0) (hn : f 0 = nI n) (hm : m < 8) (hs : s < n) {b : Int32} {X : Hp → Prop} (q : X (HN h0 ad (mS cs f (wrV v m s (nI s) b n) p) pm)) : CKv mX9_writes 2 0 0 [some (.ref (ad (gMo 0))), some (.int (nI m)), some (.int (nI s)), some (.int b), none, none, none] (HN h0 ad (mS cs f v p) pm) X := by
  intro Qc kq
  have hb := L.1
  have hmg : mgA m + 160 ≤ 2180 := by unfold mgA; omega
  have hmg2 := mgA_ge m
  have key : ∀ i, i ≤ n → Wm mX9_writes 2 0 0 Qc 42 [some (.ref (ad (gMo 0))), none, some (.int (nI s)), none, some (.int (nI (mgA m))), some (.int (nI i)), none] [] (HN h0 ad (mS cs f (wrV v m s (nI s) b i) p) pm) 0 0 := by
    refine loopU n _ ?_ ?_
    · refine tX9_writes_42 L ⟨fun _ => kq _ q, fun c => absurd ?_ c⟩
      rw [mS_0, hn]; exact nI_le (Nat.le_refl _) (by omega)
    · intro i hi ih
      have hr := rcA_lt (s := s) (i := i) (by omega) (by omega)
      have key2 : ∀ x, x ≤ 30 → Wm mX9_writes 2 0 0 Qc 54 [some (.ref (ad (gMo 0))), none, some (.int (nI s)), none, some (.int (nI (mgA m))), some (.int (nI i)), some (.int (nI x))] [] (HN h0 ad (mS cs f (ovw (wrV v m s (nI s) b i) (mgA m + 3 + 30 * i) (fun k => v (rcA s i + k)) x) p) pm) 0 0 := by
        have lo : ∀ x j, j < 900 → ovw (wrV v m s (nI s) b i) (mgA m + 3 + 30 * i) (fun k => v (rcA s i + k)) x j = v j := by
          intro x j hj
          unfold ovw
          rw [if_neg (by omega)]
          exact wrV_lo hj
        refine loopU 30 _ ?_ ?_
        · refine tX9_writes_54 L ⟨fun _ => c9_timeOf L (by omega) (by omega) (tX9_writes_122 L ⟨mgA m + 3 + 30 * i + 1, by simp only [nI_add, pk_mul], by omega, ?_⟩), fun c => absurd (nI_le (Nat.le_refl _) (by omega)) c⟩
          rw [mS_1, mS_u1, show tOf (ovw (wrV v m s (nI s) b i) (mgA m + 3 + 30 * i) (fun k => v (rcA s i + k)) 30) s i = tOf v s i by unfold tOf; rw [lo 30 0 (by omega), lo 30 _ (by omega)], wrV_u, nI_add]
          exact ih
        · intro x hx ih2
          refine tX9_writes_54 L ⟨fun c => absurd c (nI_ge hx (by omega)), fun _ => c9_record (tX9_writes_88 L ⟨rcA s i + x, nI_add _ _, by omega, mgA m + 3 + 30 * i + x, by simp only [nI_add, pk_mul], by omega, ?_⟩)⟩
          rw [mS_1, lo x _ (by omega), mS_u1, ovw_u (w := fun k => v (rcA s i + k)), nI_add]
          exact ih2
      refine tX9_writes_42 L ⟨fun c => absurd c ?_, fun _ => ?_⟩
      · rw [mS_0, hn]; exact nI_ge hi (by omega)
      · have k0 := key2 0 (Nat.zero_le _)
        rw [ovw_0] at k0
        exact k0
  refine tX9_writes_0 L (c9_messageAt L (tX9_writes_4 L ⟨mgA m, rfl, by omega, mgA m + 1, nI_add _ _, by omega, mgA m + 2, nI_add _ _, by omega, ?_⟩))
  rw [mS_u1, mS_u1, mS_1, mS_u1, upd_ne (show (0 : Nat) ≠ mgA m + 1 by omega), upd_ne (show (0 : Nat) ≠ mgA m by omega), wrV_0 (s := s)]
  exact key 0 (Nat.zero_le _)
theorem c9_arrives (L : Lay n ad h0) (hn : f 0 = nI n) (hm : m < 8) (ht : t < n) (hv : v (mgA m + 1) = nI t) {X : Int32 → Hp → Prop} (q : X (nI (arN v m t n)) (HN h0 ad (mS cs f (arV v m t n) p) pm)) : CKi mX9_arrives 1 0 0 [some (.ref (ad (gMo 0))), some (.int (nI m)), none, none, none, none, none, none, none, none] (HN h0 ad (mS cs f v p) pm) X := by
  intro Qc kq
  have hb := L.1
  have hmg : mgA m + 160 ≤ 2180 := by unfold mgA; omega
  have hmg2 := mgA_ge m
  have key : ∀ i, i ≤ n → Wm mX9_arrives 1 0 0 Qc 20 [some (.ref (ad (gMo 0))), none, some (.int (nI (mgA m))), some (.int (nI t)), some (.int (nI (arN v m t i))), some (.int (nI i)), none, none, none, none] [] (HN h0 ad (mS cs f (arV v m t i) p) pm) 0 0 := by
    refine loopU n _ ?_ ?_
    · refine tX9_arrives_20 L ⟨fun _ => kq _ _ q, fun c => absurd ?_ c⟩
      rw [mS_0, hn]; exact nI_le (Nat.le_refl _) (by omega)
    · intro i hi ih
      have hr := rcA_lt (s := t) (i := i) (by omega) (by omega)
      have rest : rpB v m t i = false → Wm mX9_arrives 1 0 0 Qc 168 [some (.ref (ad (gMo 0))), none, some (.int (nI (mgA m))), some (.int (nI t)), some (.int (nI (arN v m t i))), some (.int (nI i)), none, none, none, none] [] (HN h0 ad (mS cs f (arV v m t i) p) pm) 0 0 := by
        intro h
        refine tX9_arrives_168 L ?_
        rw [arV_n h, nI_add]
        have e : arN v m t (i + 1) = arN v m t i := by rw [arN, h]; simp
        rw [e] at ih
        exact ih
      have take : (v (rcA t i) < v (mgA m + 3 + 30 * i) ∨ (v (rcA t i) = v (mgA m + 3 + 30 * i) ∧ v (rcA t i + 1) < v (mgA m + 3 + 30 * i + 1))) → Wm mX9_arrives 1 0 0 Qc 111 [some (.ref (ad (gMo 0))), none, some (.int (nI (mgA m))), some (.int (nI t)), some (.int (nI (arN v m t i))), some (.int (nI i)), some (.int (nI (mgA m + 3 + 30 * i))), some (.int (nI (rcA t i))), none, none] [] (HN h0 ad (mS cs f (arV v m t i) p) pm) 0 0 := by
        intro h
        refine tX9_arrives_111 L ⟨fun h2 => rest ?_, fun h2 => ?_⟩
        · rw [nI_inj5 (by omega) (by omega)] at h2
          simp [rpB, h2]
        · rw [nI_inj5 (by omega) (by omega)] at h2
          have hp : rpB v m t i = true := by simp [rpB, h2, h]
          have e : arN v m t (i + 1) = arN v m t i + 1 := by rw [arN, hp]; simp
          rw [e] at ih
          have key2 : ∀ x, x ≤ 30 → Wm mX9_arrives 1 0 0 Qc 135 [some (.ref (ad (gMo 0))), none, some (.int (nI (mgA m))), some (.int (nI t)), some (.int (nI (arN v m t i + 1))), some (.int (nI i)), some (.int (nI (mgA m + 3 + 30 * i))), some (.int (nI (rcA t i))), none, some (.int (nI x))] [] (HN h0 ad (mS cs f (ovw (arV v m t i) (rcA t i) (fun k => v (mgA m + 3 + 30 * i + k)) x) p) pm) 0 0 := by
            refine loopU 30 _ ?_ ?_
            · refine tX9_arrives_135 L ⟨fun _ => tX9_arrives_168 L ?_, fun c => absurd (nI_le (Nat.le_refl _) (by omega)) c⟩
              rw [arV_u hp, nI_add]
              exact ih
            · intro x hx ih2
              refine tX9_arrives_135 L ⟨fun c => absurd c (nI_ge hx (by omega)), fun _ => ⟨mgA m + 3 + 30 * i + x, nI_add _ _, by omega, rcA t i + x, nI_add _ _, by omega, ?_⟩⟩
              rw [mS_1, mS_u1, show ovw (arV v m t i) (rcA t i) (fun k => v (mgA m + 3 + 30 * i + k)) x (mgA m + 3 + 30 * i + x) = v (mgA m + 3 + 30 * i + x) by unfold ovw; rw [if_neg (by omega)]; exact arV_hi (by omega), ovw_u (w := fun k => v (mgA m + 3 + 30 * i + k)), nI_add]
              exact ih2
          have k0 := key2 0 (Nat.zero_le _)
          rw [ovw_0] at k0
          rw [nI_add]
          exact k0
      have leave : ¬ (v (rcA t i) < v (mgA m + 3 + 30 * i) ∨ (v (rcA t i) = v (mgA m + 3 + 30 * i) ∧ v (rcA t i + 1) < v (mgA m + 3 + 30 * i + 1))) → Wm mX9_arrives 1 0 0 Qc 115 [some (.ref (ad (gMo 0))), none, some (.int (nI (mgA m))), some (.int (nI t)), some (.int (nI (arN v m t i))), some (.int (nI i)), some (.int (nI (mgA m + 3 + 30 * i))), some (.int (nI (rcA t i))), none, none] [] (HN h0 ad (mS cs f (arV v m t i) p) pm) 0 0 := by
        intro h
        have hp : rpB v m t i = false := by
          cases e : rpB v m t i with
          | false => rfl
          | true => simp [rpB] at e; exact absurd e.2 h
        exact tX9_arrives_115 L ⟨fun _ => rest hp, fun _ => rest hp⟩
      refine tX9_arrives_20 L ⟨fun c => absurd c ?_, fun _ => c9_record ?_⟩
      · rw [mS_0, hn]; exact nI_ge hi (by omega)
      · rw [show nI (mgA m) + nI 3 + nI 30 * nI i = nI (mgA m + 3 + 30 * i) by simp only [nI_add, pk_mul]]
        refine tX9_arrives_46 L ⟨rcA t i, nI_add _ _, by omega, mgA m + 3 + 30 * i, nI_add _ _, by omega, ?_⟩
        rw [mS_1, arV_hi (Nat.le_refl _), arV_hi (show rcA t i ≤ mgA m + 3 + 30 * i by omega)]
        refine ⟨fun h => take (Or.inl h), fun h => ⟨fun h2 => leave (fun e => e.elim h (fun e => h2 e.1)), fun h2 => ⟨rcA t i + 1, nI_add _ _, by omega, mgA m + 3 + 30 * i + 1, nI_add _ _, by omega, ?_⟩⟩⟩
        rw [arV_hi (show rcA t i ≤ rcA t i + 1 by omega), arV_hi (show rcA t i ≤ mgA m + 3 + 30 * i + 1 by omega)]
        exact ⟨fun h3 => leave (fun e => e.elim h (fun e => absurd e.2 (Int32.not_lt.mpr h3))), fun h3 => take (Or.inr ⟨h2, Int32.not_le.mp h3⟩)⟩
  have k0 := key 0 (Nat.zero_le _)
  rw [arV_0] at k0
  refine tX9_arrives_0 L (c9_messageAt L (tX9_arrives_4 L ⟨mgA m + 1, nI_add _ _, by omega, ?_⟩))
  rw [mS_1, hv]
  exact k0
theorem c9_goes (L : Lay n ad h0) (hv : v 5 = nI mc) (hmc : mc ≤ 8) (hm : m < mc) {X : Hp → Prop} (q : X (HN h0 ad (mS cs f (goV v mc m) p) pm)) : CKv mX9_goes 1 0 0 [some (.ref (ad (gMo 0))), some (.int (nI m)), none] (HN h0 ad (mS cs f v p) pm) X := by
  intro Qc kq
  have hmg : mgA m + 160 * (mc - 1 - m) = mgA (mc - 1) := by unfold mgA; omega
  have hmg1 : mgA (mc - 1) ≤ 2020 := by unfold mgA; omega
  have hmg2 := mgA_ge m
  refine tX9_goes_0 L ?_
  rw [mS_1, hv, pk_sub (by omega), mS_u1]
  have key : ∀ i, i ≤ 160 * (mc - 1 - m) → Wm mX9_goes 1 0 0 Qc 15 [some (.ref (ad (gMo 0))), none, some (.int (nI (mgA m + i)))] [] (HN h0 ad (mS cs f (shf (upd v 5 (nI (mc - 1))) (mgA m) 160 (mgA m + i)) p) pm) 0 0 := by
    have e5 : ∀ i, shf (upd v 5 (nI (mc - 1))) (mgA m) 160 (mgA m + i) 5 = nI (mc - 1) := by
      intro i; unfold shf; rw [if_neg (by omega), upd_eq]
    refine loopU _ _ ?_ ?_
    · refine tX9_goes_15 L ?_
      rw [mS_1, e5]
      refine c9_messageAt L (tX9_goes_25 L ⟨fun _ => kq _ ?_, fun c => absurd (nI_le (by omega) (by omega)) c⟩)
      rw [hmg]; exact q
    · intro i hi ih
      refine tX9_goes_15 L ?_
      rw [mS_1, e5]
      refine c9_messageAt L (tX9_goes_25 L ⟨fun c => absurd c (nI_ge (by omega) (by omega)), fun _ => ⟨mgA m + i + 160, nI_add _ _, by omega, mgA m + i, rfl, by omega, ?_⟩⟩)
      rw [mS_1, mS_u1, shf_u (by omega), nI_add]
      exact ih
  have k0 := key 0 (Nat.zero_le _)
  rw [Nat.add_zero, shf_0] at k0
  exact c9_messageAt L (tX9_goes_14 L k0)
def seF (n mc : Nat) (a b : Int32) : Nat := if siB n a = false ∨ siB n b = false then 1 else if a = b then 2 else if mc = 8 then 3 else 0
theorem c9_send (L : Lay n ad h0) (hn : f 0 = nI n) (hc : f 4 = nI c) (h5 : c ≤ 5) (hv : v 5 = nI mc) (hmc : mc ≤ 8) {a b : Int32} {X : Int32 → Hp → Prop} (q0 : ∀ s t, s < n → t < n → s ≠ t → mc < 8 → a = nI s → b = nI t → seF n mc a b = 0 → X (nI mc) (HN h0 ad (mS cs (actF c (upd f 7 (nI 0))) (upd (wrV v mc s (nI s) (nI t) n) 5 (nI (mc + 1))) (actP c v p)) pm)) (q1 : seF n mc a b ≠ 0 → X (nI 0) (HN h0 ad (mS cs (upd f 7 (nI (seF n mc a b))) v p) pm)) : CKi mX9_send 3 0 0 [some (.ref (ad (gMo 0))), some (.int a), some (.int b)] (HN h0 ad (mS cs f v p) pm) X := by
  intro Qc kq
  have hb := L.1
  have hn' : mS cs f v p (gMo 0) 0 = nI n := by rw [mS_0]; exact hn
  refine tX9_send_0 L (c9_isSite L hn' (tX9_send_6 L ⟨fun h => ?_, fun h => c9_isSite L hn' (tX9_send_14 L ⟨fun h2 => ⟨fun h3 => ⟨fun h4 => ?_, fun h4 => ?_⟩, fun h3 => ?_⟩, fun h2 => ?_⟩)⟩))
  · rw [bI_z] at h
    have e : seF n mc a b = 1 := by simp [seF, h]
    rw [e] at q1
    rw [mS_u0]
    exact kq _ _ (q1 (by omega))
  · rw [bI_z] at h h2
    rw [mS_1, hv, nI_inj5 (by omega) (by omega)] at h4
    have e : seF n mc a b = 0 := by rw [seF, if_neg (by rintro (e | e) <;> contradiction), if_neg h3, if_neg h4]
    obtain ⟨s, hs, rfl⟩ := siB_t (by omega) (show siB n a = true by simpa using h)
    obtain ⟨t, ht, rfl⟩ := siB_t (by omega) (show siB n b = true by simpa using h2)
    rw [mS_u0]
    refine c9_act (c := c) L (by rw [upd_ne (by omega)]; exact hc) h5 (tX9_send_62 L ?_)
    rw [mS_1, hv]
    refine c9_writes L (by rw [actF, upd_ne (by omega), upd_ne (by omega)]; exact hn) (by omega) hs (tX9_send_74 L ?_)
    rw [mS_1, wrV_lo (by omega), hv, nI_add, pk_sub (by omega), mS_u1]
    exact kq _ _ (q0 s t hs ht (fun e => h3 (by rw [e])) (by omega) rfl rfl e)
  · rw [bI_z] at h h2
    rw [mS_1, hv, nI_inj5 (by omega) (by omega)] at h4
    have e : seF n mc a b = 3 := by rw [seF, if_neg (by rintro (e | e) <;> contradiction), if_neg h3, if_pos h4]
    rw [e] at q1
    rw [mS_u0]
    exact kq _ _ (q1 (by omega))
  · rw [bI_z] at h h2
    have e : seF n mc a b = 2 := by rw [seF, if_neg (by rintro (e | e) <;> contradiction), if_pos h3]
    rw [e] at q1
    rw [mS_u0]
    exact kq _ _ (q1 (by omega))
  · rw [bI_z] at h2
    have e : seF n mc a b = 1 := by simp [seF, h2]
    rw [e] at q1
    rw [mS_u0]
    exact kq _ _ (q1 (by omega))
theorem c9_isMes (L : Lay n ad h0) (hv : v 5 = nI mc) {x : Int32} {X : Int32 → Hp → Prop} (q : X (bI (miB mc x)) (HN h0 ad (mS cs f v p) pm)) : CKi mX9_isMessage 1 0 0 [some (.ref (ad (gMo 0))), some (.int x)] (HN h0 ad (mS cs f v p) pm) X := by
  refine c9_isMessage L ?_
  rw [mS_1, hv]
  exact q
theorem c9_deliver (L : Lay n ad h0) (hn : f 0 = nI n) (hc : f 4 = nI c) (h5 : c ≤ 5) (hv : v 5 = nI mc) (hmc : mc ≤ 8) (ht : ∀ m, m < mc → ∃ t, t < n ∧ v (mgA m + 1) = nI t) {a : Int32} {X : Int32 → Hp → Prop} (q0 : ∀ m t, m < mc → t < n → v (mgA m + 1) = nI t → a = nI m → X (nI (arN v m t n)) (HN h0 ad (mS cs (actF c (upd f 7 (nI 0))) (goV (arV v m t n) mc m) (actP c v p)) pm)) (q1 : miB mc a = false → X (nI 0) (HN h0 ad (mS cs (upd f 7 (nI 1)) v p) pm)) : CKi mX9_deliver 2 0 0 [some (.ref (ad (gMo 0))), some (.int a), none] (HN h0 ad (mS cs f v p) pm) X := by
  intro Qc kq
  have hb := L.1
  refine tX9_deliver_0 L (c9_isMes L hv (tX9_deliver_6 L ⟨fun h => ?_, fun h => ?_⟩))
  · rw [bI_z] at h
    rw [mS_u0]
    exact kq _ _ (q1 h)
  · rw [bI_z] at h
    obtain ⟨m, hm, rfl⟩ := miB_t hmc (show miB mc a = true by simpa using h)
    obtain ⟨t, htn, hvt⟩ := ht m hm
    rw [mS_u0]
    refine c9_act (c := c) L (by rw [upd_ne (by omega)]; exact hc) h5 (tX9_deliver_30 L (c9_arrives L (by rw [actF, upd_ne (by omega), upd_ne (by omega)]; exact hn) (by omega) htn hvt (tX9_deliver_35 L (c9_goes L (mc := mc) ?_ hmc hm (tX9_deliver_41 L (kq _ _ (q0 m t hm htn hvt rfl)))))))
    have := rcA_ge t 0
    unfold arV
    rw [if_neg (by omega)]
    exact hv
theorem c9_lose (L : Lay n ad h0) (hc : f 4 = nI c) (h5 : c ≤ 5) (hv : v 5 = nI mc) (hmc : mc ≤ 8) {a : Int32} {X : Int32 → Hp → Prop} (q0 : ∀ m, m < mc → a = nI m → X (nI (mc - 1)) (HN h0 ad (mS cs (actF c (upd f 7 (nI 0))) (goV v mc m) (actP c v p)) pm)) (q1 : miB mc a = false → X (nI 0) (HN h0 ad (mS cs (upd f 7 (nI 1)) v p) pm)) : CKi mX9_lose 2 0 0 [some (.ref (ad (gMo 0))), some (.int a)] (HN h0 ad (mS cs f v p) pm) X := by
  intro Qc kq
  refine tX9_lose_0 L (c9_isMes L hv (tX9_lose_6 L ⟨fun h => ?_, fun h => ?_⟩))
  · rw [bI_z] at h
    rw [mS_u0]
    exact kq _ _ (q1 h)
  · rw [bI_z] at h
    obtain ⟨m, hm, rfl⟩ := miB_t hmc (show miB mc a = true by simpa using h)
    have := mgA_ge m
    rw [mS_u0]
    refine c9_act (c := c) L (by rw [upd_ne (by omega)]; exact hc) h5 (tX9_lose_30 L (c9_goes L (mc := mc) hv hmc hm (tX9_lose_35 L ?_)))
    rw [mS_1, show goV v mc m 5 = nI (mc - 1) by unfold goV shf; rw [if_neg (by omega), upd_eq]]
    exact kq _ _ (q0 m hm rfl)
def reF (mc : Nat) (a : Int32) : Nat := if miB mc a = false then 1 else if mc = 8 then 2 else 0
def reV (v : Nat → Int32) (mc m : Nat) : Nat → Int32 := upd (ovw v (mgA mc) (fun k => v (mgA m + k)) 160) 5 (nI (mc + 1))
theorem c9_repeat (L : Lay n ad h0) (hc : f 4 = nI c) (h5 : c ≤ 5) (hv : v 5 = nI mc) (hmc : mc ≤ 8) {a : Int32} {X : Int32 → Hp → Prop} (q0 : ∀ m, m < mc → mc < 8 → a = nI m → X (nI mc) (HN h0 ad (mS cs (actF c (upd f 7 (nI 0))) (reV v mc m) (actP c v p)) pm)) (q1 : reF mc a ≠ 0 → X (nI 0) (HN h0 ad (mS cs (upd f 7 (nI (reF mc a))) v p) pm)) : CKi mX9_repeat 2 0 0 [some (.ref (ad (gMo 0))), some (.int a), none] (HN h0 ad (mS cs f v p) pm) X := by
  intro Qc kq
  refine tX9_repeat_0 L (c9_isMes L hv (tX9_repeat_6 L ⟨fun h => ⟨fun h2 => ?_, fun h2 => ?_⟩, fun h => ?_⟩))
  · rw [bI_z] at h
    rw [mS_1, hv, nI_inj5 (by omega) (by omega)] at h2
    obtain ⟨m, hm, rfl⟩ := miB_t hmc (show miB mc a = true by simpa using h)
    have hmg := mgA_ge mc
    have hmg2 : mgA m + 160 ≤ mgA mc := by unfold mgA; omega
    have hmg3 : mgA mc + 160 ≤ 2400 := by unfold mgA; omega
    rw [mS_u0]
    have key : ∀ i, i ≤ 160 → Wm mX9_repeat 2 0 0 Qc 47 [some (.ref (ad (gMo 0))), some (.int (nI m)), some (.int (nI i))] [] (HN h0 ad (mS cs (actF c (upd f 7 (nI 0))) (ovw v (mgA mc) (fun k => v (mgA m + k)) i) (actP c v p)) pm) 0 0 := by
      have e5 : ∀ i, ovw v (mgA mc) (fun k => v (mgA m + k)) i 5 = nI mc := by
        intro i; unfold ovw; rw [if_neg (by omega)]; exact hv
      refine loopU _ _ ?_ ?_
      · refine tX9_repeat_47 L ⟨fun _ => ?_, fun c => absurd (nI_le (Nat.le_refl _) (by omega)) c⟩
        rw [mS_1, e5, mS_u1, nI_add, pk_sub (by omega)]
        exact kq _ _ (q0 m hm (by omega) rfl)
      · intro i hi ih
        refine tX9_repeat_47 L ⟨fun c => absurd c (nI_ge hi (by omega)), fun _ => ?_⟩
        rw [mS_1, e5]
        refine c9_messageAt L (tX9_repeat_67 L (c9_messageAt L (tX9_repeat_77 L ⟨mgA m + i, nI_add _ _, by omega, mgA mc + i, nI_add _ _, by omega, ?_⟩)))
        rw [mS_1, mS_u1, show ovw v (mgA mc) (fun k => v (mgA m + k)) i (mgA m + i) = v (mgA m + i) by unfold ovw; rw [if_neg (by omega)], ovw_u (w := fun k => v (mgA m + k)), nI_add]
        exact ih
    have k0 := key 0 (Nat.zero_le _)
    rw [ovw_0] at k0
    exact c9_act (c := c) L (by rw [upd_ne (by omega)]; exact hc) h5 (tX9_repeat_45 L k0)
  · rw [bI_z] at h
    rw [mS_1, hv, nI_inj5 (by omega) (by omega)] at h2
    have e : reF mc a = 2 := by rw [reF, if_neg h, if_pos h2]
    rw [e] at q1
    rw [mS_u0]
    exact kq _ _ (q1 (by omega))
  · rw [bI_z] at h
    have e : reF mc a = 1 := by simp only [reF, h, if_true]
    rw [e] at q1
    rw [mS_u0]
    exact kq _ _ (q1 (by omega))
end RF
