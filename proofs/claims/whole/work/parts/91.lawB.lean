/-! THE LAW: behind a call of the reference (printed by a program) -/
section LB
variable {n a0 a3 Ln kx MC MS NC NS : Nat} {ad : Nat → Nat} {h0 : Hp} {cs : Nat → Nat → Int32} {pm : Nat → Nat → Nat} {v p f xs : Nat → Int32} {Q : Nat → Option Value → Hp → Prop} {x4 b : Int32}
theorem tl_begin (L : Lay n ad h0) (S : Sx h0 a0 a3 Ln xs) (hle : NC ≤ MC ∧ NS ≤ MS) (hk : kx < 10) (hf : f 7 = nI kx) (hJ : kx = 0 → hpJ h0 a3 0 = b.toInt64) (fin : Wm mL_law 11 MC MS Q 1859 [some (.ref a0), some (.ref (ad gEc)), some (.ref (ad (gMo 0))), some (.ref a3), some (.int x4), none, none] [] (HN h0 ad (mS cs f v p) pm) NC NS) : Wm mL_law 11 MC MS Q 248 [some (.ref a0), some (.ref (ad gEc)), some (.ref (ad (gMo 0))), some (.ref a3), some (.int x4), some (.int (nI kx)), none] [.int b] (HN h0 ad (mS cs f v p) pm) NC NS := by
  refine bL_law_248 ⟨hle.1, hle.2, K19 L, c9_thrown L (bL_law_254 ⟨fun _ => ⟨fun _ => bL_law_278 fin, fun z => ⟨S.J.1, S.J.2, fun _ => bL_law_278 fin, fun c2 => absurd (lgz ?_) c2⟩⟩, fun c => absurd hf c⟩)⟩
  rw [HN_J0]
  exact hJ ((nI_z (by omega)).mp z)
theorem tl_increase (L : Lay n ad h0) (S : Sx h0 a0 a3 Ln xs) (hle : NC ≤ MC ∧ NS ≤ MS) (hk : kx < 10) (hf : f 7 = nI kx) (hJ : kx = 0 → hpJ h0 a3 0 = if b = 0 then 0 else 1) (fin : Wm mL_law 11 MC MS Q 1859 [some (.ref a0), some (.ref (ad gEc)), some (.ref (ad (gMo 0))), some (.ref a3), some (.int x4), none, none] [] (HN h0 ad (mS cs f v p) pm) NC NS) : Wm mL_law 11 MC MS Q 316 [some (.ref a0), some (.ref (ad gEc)), some (.ref (ad (gMo 0))), some (.ref a3), some (.int x4), some (.int (nI kx)), none] [.int b] (HN h0 ad (mS cs f v p) pm) NC NS := by
  refine bL_law_316 ⟨hle.1, hle.2, K19 L, c9_thrown L (bL_law_322 ⟨fun _ => ⟨fun _ => bL_law_353 fin, fun z => ⟨S.J.1, S.J.2, fun c => ⟨fun _ => bL_law_353 fin, fun c2 => absurd (lgz ?_) c2⟩, fun c => ⟨fun _ => bL_law_353 fin, fun c2 => absurd (lgz ?_) c2⟩⟩⟩, fun c => absurd hf c⟩)⟩
  · rw [HN_J0, hJ ((nI_z (by omega)).mp z), if_pos c]
  · rw [HN_J0, hJ ((nI_z (by omega)).mp z), if_neg c]
theorem tl_decrease (L : Lay n ad h0) (S : Sx h0 a0 a3 Ln xs) (hle : NC ≤ MC ∧ NS ≤ MS) (hk : kx < 10) (hf : f 7 = nI kx) (hJ : kx = 0 → hpJ h0 a3 0 = if b = 0 then 0 else 1) (fin : Wm mL_law 11 MC MS Q 1859 [some (.ref a0), some (.ref (ad gEc)), some (.ref (ad (gMo 0))), some (.ref a3), some (.int x4), none, none] [] (HN h0 ad (mS cs f v p) pm) NC NS) : Wm mL_law 11 MC MS Q 391 [some (.ref a0), some (.ref (ad gEc)), some (.ref (ad (gMo 0))), some (.ref a3), some (.int x4), some (.int (nI kx)), none] [.int b] (HN h0 ad (mS cs f v p) pm) NC NS := by
  refine bL_law_391 ⟨hle.1, hle.2, K19 L, c9_thrown L (bL_law_397 ⟨fun _ => ⟨fun _ => bL_law_428 fin, fun z => ⟨S.J.1, S.J.2, fun c => ⟨fun _ => bL_law_428 fin, fun c2 => absurd (lgz ?_) c2⟩, fun c => ⟨fun _ => bL_law_428 fin, fun c2 => absurd (lgz ?_) c2⟩⟩⟩, fun c => absurd hf c⟩)⟩
  · rw [HN_J0, hJ ((nI_z (by omega)).mp z), if_pos c]
  · rw [HN_J0, hJ ((nI_z (by omega)).mp z), if_neg c]
theorem tl_transfer (L : Lay n ad h0) (S : Sx h0 a0 a3 Ln xs) (hle : NC ≤ MC ∧ NS ≤ MS) (hk : kx < 10) (hf : f 7 = nI kx) (hJ : kx = 0 → hpJ h0 a3 0 = b.toInt64) (fin : Wm mL_law 11 MC MS Q 1859 [some (.ref a0), some (.ref (ad gEc)), some (.ref (ad (gMo 0))), some (.ref a3), some (.int x4), none, none] [] (HN h0 ad (mS cs f v p) pm) NC NS) : Wm mL_law 11 MC MS Q 490 [some (.ref a0), some (.ref (ad gEc)), some (.ref (ad (gMo 0))), some (.ref a3), some (.int x4), some (.int (nI kx)), none] [.int b] (HN h0 ad (mS cs f v p) pm) NC NS := by
  refine bL_law_490 ⟨hle.1, hle.2, K19 L, c9_thrown L (bL_law_496 ⟨fun _ => ⟨fun _ => bL_law_520 fin, fun z => ⟨S.J.1, S.J.2, fun _ => bL_law_520 fin, fun c2 => absurd (lgz ?_) c2⟩⟩, fun c => absurd hf c⟩)⟩
  rw [HN_J0]
  exact hJ ((nI_z (by omega)).mp z)
theorem tl_lend (L : Lay n ad h0) (S : Sx h0 a0 a3 Ln xs) (hle : NC ≤ MC ∧ NS ≤ MS) (hk : kx < 10) (hf : f 7 = nI kx) (hJ : kx = 0 → hpJ h0 a3 0 = b.toInt64) (fin : Wm mL_law 11 MC MS Q 1859 [some (.ref a0), some (.ref (ad gEc)), some (.ref (ad (gMo 0))), some (.ref a3), some (.int x4), none, none] [] (HN h0 ad (mS cs f v p) pm) NC NS) : Wm mL_law 11 MC MS Q 594 [some (.ref a0), some (.ref (ad gEc)), some (.ref (ad (gMo 0))), some (.ref a3), some (.int x4), some (.int (nI kx)), none] [.int b] (HN h0 ad (mS cs f v p) pm) NC NS := by
  refine bL_law_594 ⟨hle.1, hle.2, K19 L, c9_thrown L (bL_law_600 ⟨fun _ => ⟨fun _ => bL_law_624 fin, fun z => ⟨S.J.1, S.J.2, fun _ => bL_law_624 fin, fun c2 => absurd (lgz ?_) c2⟩⟩, fun c => absurd hf c⟩)⟩
  rw [HN_J0]
  exact hJ ((nI_z (by omega)).mp z)
theorem tl_rebalance (L : Lay n ad h0) (S : Sx h0 a0 a3 Ln xs) (hle : NC ≤ MC ∧ NS ≤ MS) (hk : kx < 10) (hf : f 7 = nI kx) (hJ : kx = 0 → hpJ h0 a3 0 = b.toInt64) (fin : Wm mL_law 11 MC MS Q 1859 [some (.ref a0), some (.ref (ad gEc)), some (.ref (ad (gMo 0))), some (.ref a3), some (.int x4), none, none] [] (HN h0 ad (mS cs f v p) pm) NC NS) : Wm mL_law 11 MC MS Q 662 [some (.ref a0), some (.ref (ad gEc)), some (.ref (ad (gMo 0))), some (.ref a3), some (.int x4), some (.int (nI kx)), none] [.int b] (HN h0 ad (mS cs f v p) pm) NC NS := by
  refine bL_law_662 ⟨hle.1, hle.2, K19 L, c9_thrown L (bL_law_668 ⟨fun _ => ⟨fun _ => bL_law_692 fin, fun z => ⟨S.J.1, S.J.2, fun _ => bL_law_692 fin, fun c2 => absurd (lgz ?_) c2⟩⟩, fun c => absurd hf c⟩)⟩
  rw [HN_J0]
  exact hJ ((nI_z (by omega)).mp z)
theorem tl_pass (L : Lay n ad h0) (S : Sx h0 a0 a3 Ln xs) (hle : NC ≤ MC ∧ NS ≤ MS) (hk : kx < 10) (hf : f 7 = nI kx) (hJ : kx = 0 → hpJ h0 a3 0 = b.toInt64) (fin : Wm mL_law 11 MC MS Q 1859 [some (.ref a0), some (.ref (ad gEc)), some (.ref (ad (gMo 0))), some (.ref a3), some (.int x4), none, none] [] (HN h0 ad (mS cs f v p) pm) NC NS) : Wm mL_law 11 MC MS Q 718 [some (.ref a0), some (.ref (ad gEc)), some (.ref (ad (gMo 0))), some (.ref a3), some (.int x4), some (.int (nI kx)), none] [.int b] (HN h0 ad (mS cs f v p) pm) NC NS := by
  refine bL_law_718 ⟨hle.1, hle.2, K19 L, c9_thrown L (bL_law_724 ⟨fun _ => ⟨fun _ => bL_law_748 fin, fun z => ⟨S.J.1, S.J.2, fun _ => bL_law_748 fin, fun c2 => absurd (lgz ?_) c2⟩⟩, fun c => absurd hf c⟩)⟩
  rw [HN_J0]
  exact hJ ((nI_z (by omega)).mp z)
theorem tl_send (L : Lay n ad h0) (S : Sx h0 a0 a3 Ln xs) (hle : NC ≤ MC ∧ NS ≤ MS) (hk : kx < 10) (hf : f 7 = nI kx) (hJ : kx = 0 → hpJ h0 a3 0 = b.toInt64) (fin : Wm mL_law 11 MC MS Q 1859 [some (.ref a0), some (.ref (ad gEc)), some (.ref (ad (gMo 0))), some (.ref a3), some (.int x4), none, none] [] (HN h0 ad (mS cs f v p) pm) NC NS) : Wm mL_law 11 MC MS Q 786 [some (.ref a0), some (.ref (ad gEc)), some (.ref (ad (gMo 0))), some (.ref a3), some (.int x4), some (.int (nI kx)), none] [.int b] (HN h0 ad (mS cs f v p) pm) NC NS := by
  refine bL_law_786 ⟨hle.1, hle.2, K19 L, c9_thrown L (bL_law_792 ⟨fun _ => ⟨fun _ => bL_law_816 fin, fun z => ⟨S.J.1, S.J.2, fun _ => bL_law_816 fin, fun c2 => absurd (lgz ?_) c2⟩⟩, fun c => absurd hf c⟩)⟩
  rw [HN_J0]
  exact hJ ((nI_z (by omega)).mp z)
theorem tl_deliver (L : Lay n ad h0) (S : Sx h0 a0 a3 Ln xs) (hle : NC ≤ MC ∧ NS ≤ MS) (hk : kx < 10) (hf : f 7 = nI kx) (hJ : kx = 0 → hpJ h0 a3 0 = b.toInt64) (fin : Wm mL_law 11 MC MS Q 1859 [some (.ref a0), some (.ref (ad gEc)), some (.ref (ad (gMo 0))), some (.ref a3), some (.int x4), none, none] [] (HN h0 ad (mS cs f v p) pm) NC NS) : Wm mL_law 11 MC MS Q 842 [some (.ref a0), some (.ref (ad gEc)), some (.ref (ad (gMo 0))), some (.ref a3), some (.int x4), some (.int (nI kx)), none] [.int b] (HN h0 ad (mS cs f v p) pm) NC NS := by
  refine bL_law_842 ⟨hle.1, hle.2, K19 L, c9_thrown L (bL_law_848 ⟨fun _ => ⟨fun _ => bL_law_872 fin, fun z => ⟨S.J.1, S.J.2, fun _ => bL_law_872 fin, fun c2 => absurd (lgz ?_) c2⟩⟩, fun c => absurd hf c⟩)⟩
  rw [HN_J0]
  exact hJ ((nI_z (by omega)).mp z)
theorem tl_lose (L : Lay n ad h0) (S : Sx h0 a0 a3 Ln xs) (hle : NC ≤ MC ∧ NS ≤ MS) (hk : kx < 10) (hf : f 7 = nI kx) (hJ : kx = 0 → hpJ h0 a3 0 = b.toInt64) (fin : Wm mL_law 11 MC MS Q 1859 [some (.ref a0), some (.ref (ad gEc)), some (.ref (ad (gMo 0))), some (.ref a3), some (.int x4), none, none] [] (HN h0 ad (mS cs f v p) pm) NC NS) : Wm mL_law 11 MC MS Q 898 [some (.ref a0), some (.ref (ad gEc)), some (.ref (ad (gMo 0))), some (.ref a3), some (.int x4), some (.int (nI kx)), none] [.int b] (HN h0 ad (mS cs f v p) pm) NC NS := by
  refine bL_law_898 ⟨hle.1, hle.2, K19 L, c9_thrown L (bL_law_904 ⟨fun _ => ⟨fun _ => bL_law_928 fin, fun z => ⟨S.J.1, S.J.2, fun _ => bL_law_928 fin, fun c2 => absurd (lgz ?_) c2⟩⟩, fun c => absurd hf c⟩)⟩
  rw [HN_J0]
  exact hJ ((nI_z (by omega)).mp z)
theorem tl_repeat (L : Lay n ad h0) (S : Sx h0 a0 a3 Ln xs) (hle : NC ≤ MC ∧ NS ≤ MS) (hk : kx < 10) (hf : f 7 = nI kx) (hJ : kx = 0 → hpJ h0 a3 0 = b.toInt64) (fin : Wm mL_law 11 MC MS Q 1859 [some (.ref a0), some (.ref (ad gEc)), some (.ref (ad (gMo 0))), some (.ref a3), some (.int x4), none, none] [] (HN h0 ad (mS cs f v p) pm) NC NS) : Wm mL_law 11 MC MS Q 954 [some (.ref a0), some (.ref (ad gEc)), some (.ref (ad (gMo 0))), some (.ref a3), some (.int x4), some (.int (nI kx)), none] [.int b] (HN h0 ad (mS cs f v p) pm) NC NS := by
  refine bL_law_954 ⟨hle.1, hle.2, K19 L, c9_thrown L (bL_law_960 ⟨fun _ => ⟨fun _ => bL_law_984 fin, fun z => ⟨S.J.1, S.J.2, fun _ => bL_law_984 fin, fun c2 => absurd (lgz ?_) c2⟩⟩, fun c => absurd hf c⟩)⟩
  rw [HN_J0]
  exact hJ ((nI_z (by omega)).mp z)
theorem tl_message (L : Lay n ad h0) (S : Sx h0 a0 a3 Ln xs) (hle : NC ≤ MC ∧ NS ≤ MS) (hk : kx < 10) (hf : f 7 = nI kx) (hJ : kx = 0 → hpJ h0 a3 0 = b.toInt64) (fin : Wm mL_law 11 MC MS Q 1859 [some (.ref a0), some (.ref (ad gEc)), some (.ref (ad (gMo 0))), some (.ref a3), some (.int x4), none, none] [] (HN h0 ad (mS cs f v p) pm) NC NS) : Wm mL_law 11 MC MS Q 1035 [some (.ref a0), some (.ref (ad gEc)), some (.ref (ad (gMo 0))), some (.ref a3), some (.int x4), some (.int (nI kx)), none] [.int b] (HN h0 ad (mS cs f v p) pm) NC NS := by
  refine bL_law_1035 ⟨hle.1, hle.2, K19 L, c9_thrown L (bL_law_1041 ⟨fun _ => ⟨fun _ => bL_law_1065 fin, fun z => ⟨S.J.1, S.J.2, fun _ => bL_law_1065 fin, fun c2 => absurd (lgz ?_) c2⟩⟩, fun c => absurd hf c⟩)⟩
  rw [HN_J0]
  exact hJ ((nI_z (by omega)).mp z)
theorem tl_known (L : Lay n ad h0) (S : Sx h0 a0 a3 Ln xs) (hle : NC ≤ MC ∧ NS ≤ MS) (hk : kx < 10) (hf : f 7 = nI kx) (hJ : kx = 0 → hpJ h0 a3 0 = b.toInt64) (fin : Wm mL_law 11 MC MS Q 1859 [some (.ref a0), some (.ref (ad gEc)), some (.ref (ad (gMo 0))), some (.ref a3), some (.int x4), none, none] [] (HN h0 ad (mS cs f v p) pm) NC NS) : Wm mL_law 11 MC MS Q 1117 [some (.ref a0), some (.ref (ad gEc)), some (.ref (ad (gMo 0))), some (.ref a3), some (.int x4), some (.int (nI kx)), none] [.int b] (HN h0 ad (mS cs f v p) pm) NC NS := by
  refine bL_law_1117 ⟨hle.1, hle.2, K19 L, c9_thrown L (bL_law_1123 ⟨fun _ => ⟨fun _ => bL_law_1147 fin, fun z => ⟨S.J.1, S.J.2, fun _ => bL_law_1147 fin, fun c2 => absurd (lgz ?_) c2⟩⟩, fun c => absurd hf c⟩)⟩
  rw [HN_J0]
  exact hJ ((nI_z (by omega)).mp z)
theorem tl_own (L : Lay n ad h0) (S : Sx h0 a0 a3 Ln xs) (hle : NC ≤ MC ∧ NS ≤ MS) (hk : kx < 10) (hf : f 7 = nI kx) (hJ : kx = 0 → hpJ h0 a3 0 = b.toInt64) (fin : Wm mL_law 11 MC MS Q 1859 [some (.ref a0), some (.ref (ad gEc)), some (.ref (ad (gMo 0))), some (.ref a3), some (.int x4), none, none] [] (HN h0 ad (mS cs f v p) pm) NC NS) : Wm mL_law 11 MC MS Q 1185 [some (.ref a0), some (.ref (ad gEc)), some (.ref (ad (gMo 0))), some (.ref a3), some (.int x4), some (.int (nI kx)), none] [.int b] (HN h0 ad (mS cs f v p) pm) NC NS := by
  refine bL_law_1185 ⟨hle.1, hle.2, K19 L, c9_thrown L (bL_law_1191 ⟨fun _ => ⟨fun _ => bL_law_1215 fin, fun z => ⟨S.J.1, S.J.2, fun _ => bL_law_1215 fin, fun c2 => absurd (lgz ?_) c2⟩⟩, fun c => absurd hf c⟩)⟩
  rw [HN_J0]
  exact hJ ((nI_z (by omega)).mp z)
theorem tl_available (L : Lay n ad h0) (S : Sx h0 a0 a3 Ln xs) (hle : NC ≤ MC ∧ NS ≤ MS) (hk : kx < 10) (hf : f 7 = nI kx) (hJ : kx = 0 → hpJ h0 a3 0 = b.toInt64) (fin : Wm mL_law 11 MC MS Q 1859 [some (.ref a0), some (.ref (ad gEc)), some (.ref (ad (gMo 0))), some (.ref a3), some (.int x4), none, none] [] (HN h0 ad (mS cs f v p) pm) NC NS) : Wm mL_law 11 MC MS Q 1253 [some (.ref a0), some (.ref (ad gEc)), some (.ref (ad (gMo 0))), some (.ref a3), some (.int x4), some (.int (nI kx)), none] [.int b] (HN h0 ad (mS cs f v p) pm) NC NS := by
  refine bL_law_1253 ⟨hle.1, hle.2, K19 L, c9_thrown L (bL_law_1259 ⟨fun _ => ⟨fun _ => bL_law_1283 fin, fun z => ⟨S.J.1, S.J.2, fun _ => bL_law_1283 fin, fun c2 => absurd (lgz ?_) c2⟩⟩, fun c => absurd hf c⟩)⟩
  rw [HN_J0]
  exact hJ ((nI_z (by omega)).mp z)
theorem tl_dormant (L : Lay n ad h0) (S : Sx h0 a0 a3 Ln xs) (hle : NC ≤ MC ∧ NS ≤ MS) (hk : kx < 10) (hf : f 7 = nI kx) (hJ : kx = 0 → hpJ h0 a3 0 = b.toInt64) (fin : Wm mL_law 11 MC MS Q 1859 [some (.ref a0), some (.ref (ad gEc)), some (.ref (ad (gMo 0))), some (.ref a3), some (.int x4), none, none] [] (HN h0 ad (mS cs f v p) pm) NC NS) : Wm mL_law 11 MC MS Q 1309 [some (.ref a0), some (.ref (ad gEc)), some (.ref (ad (gMo 0))), some (.ref a3), some (.int x4), some (.int (nI kx)), none] [.int b] (HN h0 ad (mS cs f v p) pm) NC NS := by
  refine bL_law_1309 ⟨hle.1, hle.2, K19 L, c9_thrown L (bL_law_1315 ⟨fun _ => ⟨fun _ => bL_law_1339 fin, fun z => ⟨S.J.1, S.J.2, fun _ => bL_law_1339 fin, fun c2 => absurd (lgz ?_) c2⟩⟩, fun c => absurd hf c⟩)⟩
  rw [HN_J0]
  exact hJ ((nI_z (by omega)).mp z)
theorem tl_demand (L : Lay n ad h0) (S : Sx h0 a0 a3 Ln xs) (hle : NC ≤ MC ∧ NS ≤ MS) (hk : kx < 10) (hf : f 7 = nI kx) (hJ : kx = 0 → hpJ h0 a3 0 = b.toInt64) (fin : Wm mL_law 11 MC MS Q 1859 [some (.ref a0), some (.ref (ad gEc)), some (.ref (ad (gMo 0))), some (.ref a3), some (.int x4), none, none] [] (HN h0 ad (mS cs f v p) pm) NC NS) : Wm mL_law 11 MC MS Q 1389 [some (.ref a0), some (.ref (ad gEc)), some (.ref (ad (gMo 0))), some (.ref a3), some (.int x4), some (.int (nI kx)), none] [.int b] (HN h0 ad (mS cs f v p) pm) NC NS := by
  refine bL_law_1389 ⟨hle.1, hle.2, K19 L, c9_thrown L (bL_law_1395 ⟨fun _ => ⟨fun _ => bL_law_1419 fin, fun z => ⟨S.J.1, S.J.2, fun _ => bL_law_1419 fin, fun c2 => absurd (lgz ?_) c2⟩⟩, fun c => absurd hf c⟩)⟩
  rw [HN_J0]
  exact hJ ((nI_z (by omega)).mp z)
theorem tl_version (L : Lay n ad h0) (S : Sx h0 a0 a3 Ln xs) (hle : NC ≤ MC ∧ NS ≤ MS) (hk : kx < 10) (hf : f 7 = nI kx) (hJ : kx = 0 → hpJ h0 a3 0 = b.toInt64) (fin : Wm mL_law 11 MC MS Q 1859 [some (.ref a0), some (.ref (ad gEc)), some (.ref (ad (gMo 0))), some (.ref a3), some (.int x4), none, none] [] (HN h0 ad (mS cs f v p) pm) NC NS) : Wm mL_law 11 MC MS Q 1457 [some (.ref a0), some (.ref (ad gEc)), some (.ref (ad (gMo 0))), some (.ref a3), some (.int x4), some (.int (nI kx)), none] [.int b] (HN h0 ad (mS cs f v p) pm) NC NS := by
  refine bL_law_1457 ⟨hle.1, hle.2, K19 L, c9_thrown L (bL_law_1463 ⟨fun _ => ⟨fun _ => bL_law_1487 fin, fun z => ⟨S.J.1, S.J.2, fun _ => bL_law_1487 fin, fun c2 => absurd (lgz ?_) c2⟩⟩, fun c => absurd hf c⟩)⟩
  rw [HN_J0]
  exact hJ ((nI_z (by omega)).mp z)
theorem tl_copyTime (L : Lay n ad h0) (S : Sx h0 a0 a3 Ln xs) (hle : NC ≤ MC ∧ NS ≤ MS) (hk : kx < 10) (hf : f 7 = nI kx) (hJ : kx = 0 → hpJ h0 a3 0 = b.toInt64) (fin : Wm mL_law 11 MC MS Q 1859 [some (.ref a0), some (.ref (ad gEc)), some (.ref (ad (gMo 0))), some (.ref a3), some (.int x4), none, none] [] (HN h0 ad (mS cs f v p) pm) NC NS) : Wm mL_law 11 MC MS Q 1525 [some (.ref a0), some (.ref (ad gEc)), some (.ref (ad (gMo 0))), some (.ref a3), some (.int x4), some (.int (nI kx)), none] [.int b] (HN h0 ad (mS cs f v p) pm) NC NS := by
  refine bL_law_1525 ⟨hle.1, hle.2, K19 L, c9_thrown L (bL_law_1531 ⟨fun _ => ⟨fun _ => bL_law_1555 fin, fun z => ⟨S.J.1, S.J.2, fun _ => bL_law_1555 fin, fun c2 => absurd (lgz ?_) c2⟩⟩, fun c => absurd hf c⟩)⟩
  rw [HN_J0]
  exact hJ ((nI_z (by omega)).mp z)
theorem tl_loan (L : Lay n ad h0) (S : Sx h0 a0 a3 Ln xs) (hle : NC ≤ MC ∧ NS ≤ MS) (hk : kx < 10) (hf : f 7 = nI kx) (hJ : kx = 0 → hpJ h0 a3 0 = b.toInt64) (fin : Wm mL_law 11 MC MS Q 1859 [some (.ref a0), some (.ref (ad gEc)), some (.ref (ad (gMo 0))), some (.ref a3), some (.int x4), none, none] [] (HN h0 ad (mS cs f v p) pm) NC NS) : Wm mL_law 11 MC MS Q 1606 [some (.ref a0), some (.ref (ad gEc)), some (.ref (ad (gMo 0))), some (.ref a3), some (.int x4), some (.int (nI kx)), none] [.int b] (HN h0 ad (mS cs f v p) pm) NC NS := by
  refine bL_law_1606 ⟨hle.1, hle.2, K19 L, c9_thrown L (bL_law_1612 ⟨fun _ => ⟨fun _ => bL_law_1636 fin, fun z => ⟨S.J.1, S.J.2, fun _ => bL_law_1636 fin, fun c2 => absurd (lgz ?_) c2⟩⟩, fun c => absurd hf c⟩)⟩
  rw [HN_J0]
  exact hJ ((nI_z (by omega)).mp z)
theorem tl_helpers (L : Lay n ad h0) (S : Sx h0 a0 a3 Ln xs) (hle : NC ≤ MC ∧ NS ≤ MS) (hk : kx < 10) (hf : f 7 = nI kx) (hJ : kx = 0 → hpJ h0 a3 0 = b.toInt64) (fin : Wm mL_law 11 MC MS Q 1859 [some (.ref a0), some (.ref (ad gEc)), some (.ref (ad (gMo 0))), some (.ref a3), some (.int x4), none, none] [] (HN h0 ad (mS cs f v p) pm) NC NS) : Wm mL_law 11 MC MS Q 1686 [some (.ref a0), some (.ref (ad gEc)), some (.ref (ad (gMo 0))), some (.ref a3), some (.int x4), some (.int (nI kx)), none] [.int b] (HN h0 ad (mS cs f v p) pm) NC NS := by
  refine bL_law_1686 ⟨hle.1, hle.2, K19 L, c9_thrown L (bL_law_1692 ⟨fun _ => ⟨fun _ => bL_law_1716 fin, fun z => ⟨S.J.1, S.J.2, fun _ => bL_law_1716 fin, fun c2 => absurd (lgz ?_) c2⟩⟩, fun c => absurd hf c⟩)⟩
  rw [HN_J0]
  exact hJ ((nI_z (by omega)).mp z)
theorem tl_type (L : Lay n ad h0) (S : Sx h0 a0 a3 Ln xs) (hle : NC ≤ MC ∧ NS ≤ MS) (hk : kx < 10) (hf : f 7 = nI kx) (hJ : kx = 0 → hpJ h0 a3 0 = b.toInt64) (fin : Wm mL_law 11 MC MS Q 1859 [some (.ref a0), some (.ref (ad gEc)), some (.ref (ad (gMo 0))), some (.ref a3), some (.int x4), none, none] [] (HN h0 ad (mS cs f v p) pm) NC NS) : Wm mL_law 11 MC MS Q 1742 [some (.ref a0), some (.ref (ad gEc)), some (.ref (ad (gMo 0))), some (.ref a3), some (.int x4), some (.int (nI kx)), none] [.int b] (HN h0 ad (mS cs f v p) pm) NC NS := by
  refine bL_law_1742 ⟨hle.1, hle.2, K19 L, c9_thrown L (bL_law_1748 ⟨fun _ => ⟨fun _ => bL_law_1772 fin, fun z => ⟨S.J.1, S.J.2, fun _ => bL_law_1772 fin, fun c2 => absurd (lgz ?_) c2⟩⟩, fun c => absurd hf c⟩)⟩
  rw [HN_J0]
  exact hJ ((nI_z (by omega)).mp z)
theorem tl_undo (L : Lay n ad h0) (S : Sx h0 a0 a3 Ln xs) (hle : NC ≤ MC ∧ NS ≤ MS) (hk : kx < 10) (hf : f 7 = nI kx) (hJ : kx = 0 → hpJ h0 a3 0 = b.toInt64) (fin : Wm mL_law 11 MC MS Q 1859 [some (.ref a0), some (.ref (ad gEc)), some (.ref (ad (gMo 0))), some (.ref a3), some (.int x4), none, none] [] (HN h0 ad (mS cs f v p) pm) NC NS) : Wm mL_law 11 MC MS Q 1812 [some (.ref a0), some (.ref (ad gEc)), some (.ref (ad (gMo 0))), some (.ref a3), some (.int x4), some (.int (nI kx)), none] [.int b] (HN h0 ad (mS cs f v p) pm) NC NS := by
  refine bL_law_1812 ⟨hle.1, hle.2, K19 L, c9_thrown L (bL_law_1818 ⟨fun _ => ⟨fun _ => bL_law_1842 fin, fun z => ⟨S.J.1, S.J.2, fun _ => bL_law_1842 fin, fun c2 => absurd (lgz ?_) c2⟩⟩, fun c => absurd hf c⟩)⟩
  rw [HN_J0]
  exact hJ ((nI_z (by omega)).mp z)
end LB
