/-! THE PURE SIDE: from every state that a run of at most 512 calls reaches, the next turn passes -/
theorem pLaw : ∃ Inv : Nat → STT → Prop, Inv 0 ST0 ∧ ∀ (n : Nat) (st : STT), Inv n st → n < 512 → ∀ q0 q1 q2 q3 : Int32, ∃ st' : STT, F_turn st q0 q1 q2 q3 = some st' ∧ Inv (n + 1) st' := ⟨Inv, i_first, fun n st h hN q0 q1 q2 q3 => i_turn h hN q0 q1 q2 q3⟩
