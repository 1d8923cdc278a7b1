section RO
variable {μ : Mi} {d mc ms : Nat} {Q : Nat → Option Value → Hp → Prop} {pc : Nat} {L : List (Option Value)} {st : List Value} {h : Hp} {nc ns : Nat} {idx : Nat}
theorem rl_ldcw {v : Int32} (hd : decode (mb μ) pc = .ok (.ldc_w idx, 3)) (hw : Cond.constant (mo μ) idx v ∈ tG) (k : Wm μ d mc ms Q (pc + 3) L (.int v :: st) h nc ns) : Wm μ d mc ms Q pc L st h nc ns := by
  intro p l e R s m args below meth c ok H locs ls hR hS hl
  exact lv_ldcw ok.1 ok.2.1 ok.2.2.2.2.1 (ok.2.2.2.2.2.1 _ hw) hd (k p l e R s m args below meth c ok H locs ls hR hS hl)
end RO
