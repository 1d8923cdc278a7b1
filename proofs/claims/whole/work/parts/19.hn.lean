theorem hnL_begin : HnOK mL_begin 7 [(2, 15)] := by
  intro q hq
  simp only [List.mem_cons, List.mem_nil_iff, or_false, List.mem_singleton] at hq
  rcases hq with rfl
  · exact ⟨(tableOf (mh mL_begin)).take 0, _, (tableOf (mh mL_begin)).drop 1, rfl, rfl, by decide, by decide, clL_13, by decide, (fun z hz => by cases hz)⟩
theorem hnL_increase : HnOK mL_increase 5 [(1, 20), (2, 24)] := by
  intro q hq
  simp only [List.mem_cons, List.mem_nil_iff, or_false, List.mem_singleton] at hq
  rcases hq with rfl | rfl
  · exact ⟨(tableOf (mh mL_increase)).take 0, _, (tableOf (mh mL_increase)).drop 1, rfl, rfl, by decide, by decide, clL_19, by decide, (fun z hz => by cases hz)⟩
  · exact ⟨(tableOf (mh mL_increase)).take 1, _, (tableOf (mh mL_increase)).drop 2, rfl, rfl, by decide, by decide, clL_13, by decide, (fun z hz => by
    have hz : z ∈ ([⟨0, 17, 20, 19⟩] : List ExceptionTableEntry) := hz
    simp only [List.mem_cons, List.mem_nil_iff, or_false, List.mem_singleton] at hz
    rcases hz with rfl
    · exact ⟨by decide, 1, clL_19, by decide, by decide⟩)⟩
theorem hnL_decrease : HnOK mL_decrease 5 [(1, 20), (2, 24)] := by
  intro q hq
  simp only [List.mem_cons, List.mem_nil_iff, or_false, List.mem_singleton] at hq
  rcases hq with rfl | rfl
  · exact ⟨(tableOf (mh mL_decrease)).take 0, _, (tableOf (mh mL_decrease)).drop 1, rfl, rfl, by decide, by decide, clL_19, by decide, (fun z hz => by cases hz)⟩
  · exact ⟨(tableOf (mh mL_decrease)).take 1, _, (tableOf (mh mL_decrease)).drop 2, rfl, rfl, by decide, by decide, clL_13, by decide, (fun z hz => by
    have hz : z ∈ ([⟨0, 17, 20, 19⟩] : List ExceptionTableEntry) := hz
    simp only [List.mem_cons, List.mem_nil_iff, or_false, List.mem_singleton] at hz
    rcases hz with rfl
    · exact ⟨by decide, 1, clL_19, by decide, by decide⟩)⟩
theorem hnL_transfer : HnOK mL_transfer 9 [(1, 17), (2, 21), (3, 25)] := by
  intro q hq
  simp only [List.mem_cons, List.mem_nil_iff, or_false, List.mem_singleton] at hq
  rcases hq with rfl | rfl | rfl
  · exact ⟨(tableOf (mh mL_transfer)).take 0, _, (tableOf (mh mL_transfer)).drop 1, rfl, rfl, by decide, by decide, clL_19, by decide, (fun z hz => by cases hz)⟩
  · exact ⟨(tableOf (mh mL_transfer)).take 1, _, (tableOf (mh mL_transfer)).drop 2, rfl, rfl, by decide, by decide, clL_13, by decide, (fun z hz => by
    have hz : z ∈ ([⟨0, 14, 17, 19⟩] : List ExceptionTableEntry) := hz
    simp only [List.mem_cons, List.mem_nil_iff, or_false, List.mem_singleton] at hz
    rcases hz with rfl
    · exact ⟨by decide, 1, clL_19, by decide, by decide⟩)⟩
  · exact ⟨(tableOf (mh mL_transfer)).take 2, _, (tableOf (mh mL_transfer)).drop 3, rfl, rfl, by decide, by decide, clL_28, by decide, (fun z hz => by
    have hz : z ∈ ([⟨0, 14, 17, 19⟩, ⟨0, 14, 21, 13⟩] : List ExceptionTableEntry) := hz
    simp only [List.mem_cons, List.mem_nil_iff, or_false, List.mem_singleton] at hz
    rcases hz with rfl | rfl
    · exact ⟨by decide, 1, clL_19, by decide, by decide⟩
    · exact ⟨by decide, 2, clL_13, by decide, by decide⟩)⟩
theorem hnL_lend : HnOK mL_lend 11 [(1, 19), (2, 23), (3, 27)] := by
  intro q hq
  simp only [List.mem_cons, List.mem_nil_iff, or_false, List.mem_singleton] at hq
  rcases hq with rfl | rfl | rfl
  · exact ⟨(tableOf (mh mL_lend)).take 0, _, (tableOf (mh mL_lend)).drop 1, rfl, rfl, by decide, by decide, clL_19, by decide, (fun z hz => by cases hz)⟩
  · exact ⟨(tableOf (mh mL_lend)).take 1, _, (tableOf (mh mL_lend)).drop 2, rfl, rfl, by decide, by decide, clL_13, by decide, (fun z hz => by
    have hz : z ∈ ([⟨0, 16, 19, 19⟩] : List ExceptionTableEntry) := hz
    simp only [List.mem_cons, List.mem_nil_iff, or_false, List.mem_singleton] at hz
    rcases hz with rfl
    · exact ⟨by decide, 1, clL_19, by decide, by decide⟩)⟩
  · exact ⟨(tableOf (mh mL_lend)).take 2, _, (tableOf (mh mL_lend)).drop 3, rfl, rfl, by decide, by decide, clL_28, by decide, (fun z hz => by
    have hz : z ∈ ([⟨0, 16, 19, 19⟩, ⟨0, 16, 23, 13⟩] : List ExceptionTableEntry) := hz
    simp only [List.mem_cons, List.mem_nil_iff, or_false, List.mem_singleton] at hz
    rcases hz with rfl | rfl
    · exact ⟨by decide, 1, clL_19, by decide, by decide⟩
    · exact ⟨by decide, 2, clL_13, by decide, by decide⟩)⟩
theorem hnL_rebalance : HnOK mL_rebalance 5 [(1, 13)] := by
  intro q hq
  simp only [List.mem_cons, List.mem_nil_iff, or_false, List.mem_singleton] at hq
  rcases hq with rfl
  · exact ⟨(tableOf (mh mL_rebalance)).take 0, _, (tableOf (mh mL_rebalance)).drop 1, rfl, rfl, by decide, by decide, clL_19, by decide, (fun z hz => by cases hz)⟩
theorem hnL_pass : HnOK mL_pass 4 [(2, 12), (3, 15)] := by
  intro q hq
  simp only [List.mem_cons, List.mem_nil_iff, or_false, List.mem_singleton] at hq
  rcases hq with rfl | rfl
  · exact ⟨(tableOf (mh mL_pass)).take 0, _, (tableOf (mh mL_pass)).drop 1, rfl, rfl, by decide, by decide, clL_13, by decide, (fun z hz => by cases hz)⟩
  · exact ⟨(tableOf (mh mL_pass)).take 1, _, (tableOf (mh mL_pass)).drop 2, rfl, rfl, by decide, by decide, clL_28, by decide, (fun z hz => by
    have hz : z ∈ ([⟨0, 9, 12, 13⟩] : List ExceptionTableEntry) := hz
    simp only [List.mem_cons, List.mem_nil_iff, or_false, List.mem_singleton] at hz
    rcases hz with rfl
    · exact ⟨by decide, 2, clL_13, by decide, by decide⟩)⟩
theorem hnL_send : HnOK mL_send 5 [(1, 13), (2, 17), (3, 21)] := by
  intro q hq
  simp only [List.mem_cons, List.mem_nil_iff, or_false, List.mem_singleton] at hq
  rcases hq with rfl | rfl | rfl
  · exact ⟨(tableOf (mh mL_send)).take 0, _, (tableOf (mh mL_send)).drop 1, rfl, rfl, by decide, by decide, clL_19, by decide, (fun z hz => by cases hz)⟩
  · exact ⟨(tableOf (mh mL_send)).take 1, _, (tableOf (mh mL_send)).drop 2, rfl, rfl, by decide, by decide, clL_13, by decide, (fun z hz => by
    have hz : z ∈ ([⟨0, 10, 13, 19⟩] : List ExceptionTableEntry) := hz
    simp only [List.mem_cons, List.mem_nil_iff, or_false, List.mem_singleton] at hz
    rcases hz with rfl
    · exact ⟨by decide, 1, clL_19, by decide, by decide⟩)⟩
  · exact ⟨(tableOf (mh mL_send)).take 2, _, (tableOf (mh mL_send)).drop 3, rfl, rfl, by decide, by decide, clL_28, by decide, (fun z hz => by
    have hz : z ∈ ([⟨0, 10, 13, 19⟩, ⟨0, 10, 17, 13⟩] : List ExceptionTableEntry) := hz
    simp only [List.mem_cons, List.mem_nil_iff, or_false, List.mem_singleton] at hz
    rcases hz with rfl | rfl
    · exact ⟨by decide, 1, clL_19, by decide, by decide⟩
    · exact ⟨by decide, 2, clL_13, by decide, by decide⟩)⟩
theorem hnL_deliver : HnOK mL_deliver 4 [(1, 12)] := by
  intro q hq
  simp only [List.mem_cons, List.mem_nil_iff, or_false, List.mem_singleton] at hq
  rcases hq with rfl
  · exact ⟨(tableOf (mh mL_deliver)).take 0, _, (tableOf (mh mL_deliver)).drop 1, rfl, rfl, by decide, by decide, clL_19, by decide, (fun z hz => by cases hz)⟩
theorem hnL_lose : HnOK mL_lose 4 [(1, 12)] := by
  intro q hq
  simp only [List.mem_cons, List.mem_nil_iff, or_false, List.mem_singleton] at hq
  rcases hq with rfl
  · exact ⟨(tableOf (mh mL_lose)).take 0, _, (tableOf (mh mL_lose)).drop 1, rfl, rfl, by decide, by decide, clL_19, by decide, (fun z hz => by cases hz)⟩
theorem hnL_repeat : HnOK mL_repeat 4 [(1, 12), (3, 15)] := by
  intro q hq
  simp only [List.mem_cons, List.mem_nil_iff, or_false, List.mem_singleton] at hq
  rcases hq with rfl | rfl
  · exact ⟨(tableOf (mh mL_repeat)).take 0, _, (tableOf (mh mL_repeat)).drop 1, rfl, rfl, by decide, by decide, clL_19, by decide, (fun z hz => by cases hz)⟩
  · exact ⟨(tableOf (mh mL_repeat)).take 1, _, (tableOf (mh mL_repeat)).drop 2, rfl, rfl, by decide, by decide, clL_28, by decide, (fun z hz => by
    have hz : z ∈ ([⟨0, 9, 12, 19⟩] : List ExceptionTableEntry) := hz
    simp only [List.mem_cons, List.mem_nil_iff, or_false, List.mem_singleton] at hz
    rcases hz with rfl
    · exact ⟨by decide, 1, clL_19, by decide, by decide⟩)⟩
theorem hnL_message : HnOK mL_message 5 [(1, 13)] := by
  intro q hq
  simp only [List.mem_cons, List.mem_nil_iff, or_false, List.mem_singleton] at hq
  rcases hq with rfl
  · exact ⟨(tableOf (mh mL_message)).take 0, _, (tableOf (mh mL_message)).drop 1, rfl, rfl, by decide, by decide, clL_19, by decide, (fun z hz => by cases hz)⟩
theorem hnL_known : HnOK mL_known 4 [(1, 12)] := by
  intro q hq
  simp only [List.mem_cons, List.mem_nil_iff, or_false, List.mem_singleton] at hq
  rcases hq with rfl
  · exact ⟨(tableOf (mh mL_known)).take 0, _, (tableOf (mh mL_known)).drop 1, rfl, rfl, by decide, by decide, clL_19, by decide, (fun z hz => by cases hz)⟩
theorem hnL_own : HnOK mL_own 5 [(1, 13)] := by
  intro q hq
  simp only [List.mem_cons, List.mem_nil_iff, or_false, List.mem_singleton] at hq
  rcases hq with rfl
  · exact ⟨(tableOf (mh mL_own)).take 0, _, (tableOf (mh mL_own)).drop 1, rfl, rfl, by decide, by decide, clL_19, by decide, (fun z hz => by cases hz)⟩
theorem hnL_available : HnOK mL_available 5 [(1, 13)] := by
  intro q hq
  simp only [List.mem_cons, List.mem_nil_iff, or_false, List.mem_singleton] at hq
  rcases hq with rfl
  · exact ⟨(tableOf (mh mL_available)).take 0, _, (tableOf (mh mL_available)).drop 1, rfl, rfl, by decide, by decide, clL_19, by decide, (fun z hz => by cases hz)⟩
theorem hnL_dormant : HnOK mL_dormant 4 [(1, 12)] := by
  intro q hq
  simp only [List.mem_cons, List.mem_nil_iff, or_false, List.mem_singleton] at hq
  rcases hq with rfl
  · exact ⟨(tableOf (mh mL_dormant)).take 0, _, (tableOf (mh mL_dormant)).drop 1, rfl, rfl, by decide, by decide, clL_19, by decide, (fun z hz => by cases hz)⟩
theorem hnL_demand : HnOK mL_demand 7 [(1, 15)] := by
  intro q hq
  simp only [List.mem_cons, List.mem_nil_iff, or_false, List.mem_singleton] at hq
  rcases hq with rfl
  · exact ⟨(tableOf (mh mL_demand)).take 0, _, (tableOf (mh mL_demand)).drop 1, rfl, rfl, by decide, by decide, clL_19, by decide, (fun z hz => by cases hz)⟩
theorem hnL_version : HnOK mL_version 5 [(1, 13)] := by
  intro q hq
  simp only [List.mem_cons, List.mem_nil_iff, or_false, List.mem_singleton] at hq
  rcases hq with rfl
  · exact ⟨(tableOf (mh mL_version)).take 0, _, (tableOf (mh mL_version)).drop 1, rfl, rfl, by decide, by decide, clL_19, by decide, (fun z hz => by cases hz)⟩
theorem hnL_copyTime : HnOK mL_copyTime 5 [(1, 13)] := by
  intro q hq
  simp only [List.mem_cons, List.mem_nil_iff, or_false, List.mem_singleton] at hq
  rcases hq with rfl
  · exact ⟨(tableOf (mh mL_copyTime)).take 0, _, (tableOf (mh mL_copyTime)).drop 1, rfl, rfl, by decide, by decide, clL_19, by decide, (fun z hz => by cases hz)⟩
theorem hnL_loan : HnOK mL_loan 5 [(1, 13)] := by
  intro q hq
  simp only [List.mem_cons, List.mem_nil_iff, or_false, List.mem_singleton] at hq
  rcases hq with rfl
  · exact ⟨(tableOf (mh mL_loan)).take 0, _, (tableOf (mh mL_loan)).drop 1, rfl, rfl, by decide, by decide, clL_19, by decide, (fun z hz => by cases hz)⟩
theorem hnL_helpers : HnOK mL_helpers 7 [(1, 15), (2, 19)] := by
  intro q hq
  simp only [List.mem_cons, List.mem_nil_iff, or_false, List.mem_singleton] at hq
  rcases hq with rfl | rfl
  · exact ⟨(tableOf (mh mL_helpers)).take 0, _, (tableOf (mh mL_helpers)).drop 1, rfl, rfl, by decide, by decide, clL_19, by decide, (fun z hz => by cases hz)⟩
  · exact ⟨(tableOf (mh mL_helpers)).take 1, _, (tableOf (mh mL_helpers)).drop 2, rfl, rfl, by decide, by decide, clL_13, by decide, (fun z hz => by
    have hz : z ∈ ([⟨0, 12, 15, 19⟩] : List ExceptionTableEntry) := hz
    simp only [List.mem_cons, List.mem_nil_iff, or_false, List.mem_singleton] at hz
    rcases hz with rfl
    · exact ⟨by decide, 1, clL_19, by decide, by decide⟩)⟩
theorem hnL_type : HnOK mL_type 4 [(2, 12), (3, 15)] := by
  intro q hq
  simp only [List.mem_cons, List.mem_nil_iff, or_false, List.mem_singleton] at hq
  rcases hq with rfl | rfl
  · exact ⟨(tableOf (mh mL_type)).take 0, _, (tableOf (mh mL_type)).drop 1, rfl, rfl, by decide, by decide, clL_13, by decide, (fun z hz => by cases hz)⟩
  · exact ⟨(tableOf (mh mL_type)).take 1, _, (tableOf (mh mL_type)).drop 2, rfl, rfl, by decide, by decide, clL_28, by decide, (fun z hz => by
    have hz : z ∈ ([⟨0, 9, 12, 13⟩] : List ExceptionTableEntry) := hz
    simp only [List.mem_cons, List.mem_nil_iff, or_false, List.mem_singleton] at hz
    rcases hz with rfl
    · exact ⟨by decide, 2, clL_13, by decide, by decide⟩)⟩
theorem hnL_undo : HnOK mL_undo 3 [(3, 11)] := by
  intro q hq
  simp only [List.mem_cons, List.mem_nil_iff, or_false, List.mem_singleton] at hq
  rcases hq with rfl
  · exact ⟨(tableOf (mh mL_undo)).take 0, _, (tableOf (mh mL_undo)).drop 1, rfl, rfl, by decide, by decide, clL_28, by decide, (fun z hz => by cases hz)⟩
