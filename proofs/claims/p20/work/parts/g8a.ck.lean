/-! the first state, computed -/
theorem ck1 : fz 60000 20000 (fun z m o => Nat.beq m 1726 && (Nat.beq o 1814 && chkA z)) = true := by decide +kernel
