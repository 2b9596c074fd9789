/-! places stand in order in each method's code -/
def pg_sorted : List (Nat × Instr × Nat × Nat × Nat) → Bool
  | [] => true
  | [_] => true
  | a :: b :: r => Nat.blt a.1 b.1 && pg_sorted (b :: r)
theorem pg_so0 : ∀ j, j < 16 → pg_sorted (pg_C0.getD j []) = true := by decide +kernel
theorem pg_so1 : ∀ j, j < 16 → pg_sorted (pg_C1.getD j []) = true := by decide +kernel
theorem pg_so2 : ∀ j, j < 16 → pg_sorted (pg_C2.getD j []) = true := by decide +kernel
theorem pg_so3 : ∀ j, j < 16 → pg_sorted (pg_C3.getD j []) = true := by decide +kernel
theorem pg_so4 : ∀ j, j < 16 → pg_sorted (pg_C4.getD j []) = true := by decide +kernel
theorem pg_so5 : ∀ j, j < 16 → pg_sorted (pg_C5.getD j []) = true := by decide +kernel
theorem pg_so6 : ∀ j, j < 16 → pg_sorted (pg_C6.getD j []) = true := by decide +kernel
theorem pg_so7 : ∀ j, j < 16 → pg_sorted (pg_C7.getD j []) = true := by decide +kernel
theorem pg_so8 : ∀ j, j < 16 → pg_sorted (pg_C8.getD j []) = true := by decide +kernel
theorem pg_so9 : ∀ j, j < 16 → pg_sorted (pg_C9.getD j []) = true := by decide +kernel
theorem pg_so10 : ∀ j, j < 16 → pg_sorted (pg_C10.getD j []) = true := by decide +kernel
theorem pg_so11 : ∀ j, j < 16 → pg_sorted (pg_C11.getD j []) = true := by decide +kernel
theorem pg_so12 : ∀ j, j < 16 → pg_sorted (pg_C12.getD j []) = true := by decide +kernel
theorem pg_so13 : ∀ j, j < 16 → pg_sorted (pg_C13.getD j []) = true := by decide +kernel
theorem pg_so14 : ∀ j, j < 16 → pg_sorted (pg_C14.getD j []) = true := by decide +kernel
theorem pg_so15 : ∀ j, j < 16 → pg_sorted (pg_C15.getD j []) = true := by decide +kernel
theorem pg_so16 : ∀ j, j < 16 → pg_sorted (pg_C16.getD j []) = true := by decide +kernel
theorem pg_so17 : ∀ j, j < 16 → pg_sorted (pg_C17.getD j []) = true := by decide +kernel
theorem pg_so18 : ∀ j, j < 16 → pg_sorted (pg_C18.getD j []) = true := by decide +kernel
theorem pg_so19 : ∀ j, j < 16 → pg_sorted (pg_C19.getD j []) = true := by decide +kernel
theorem pg_so20 : ∀ j, j < 16 → pg_sorted (pg_C20.getD j []) = true := by decide +kernel
theorem pg_so21 : ∀ j, j < 16 → pg_sorted (pg_C21.getD j []) = true := by decide +kernel
theorem pg_so22 : ∀ j, j < 16 → pg_sorted (pg_C22.getD j []) = true := by decide +kernel
theorem pg_so23 : ∀ j, j < 16 → pg_sorted (pg_C23.getD j []) = true := by decide +kernel
theorem pg_so24 : ∀ j, j < 16 → pg_sorted (pg_C24.getD j []) = true := by decide +kernel
theorem pg_srt (mi : Nat) : pg_sorted (pg_L mi) = true := by
  have hj : mi % 16 < 16 := Nat.mod_lt _ (by decide)
  unfold pg_L
  generalize mi % 16 = j at hj ⊢
  generalize mi / 16 = k
  exact match k with
  | 0 => pg_so0 j hj
  | 1 => pg_so1 j hj
  | 2 => pg_so2 j hj
  | 3 => pg_so3 j hj
  | 4 => pg_so4 j hj
  | 5 => pg_so5 j hj
  | 6 => pg_so6 j hj
  | 7 => pg_so7 j hj
  | 8 => pg_so8 j hj
  | 9 => pg_so9 j hj
  | 10 => pg_so10 j hj
  | 11 => pg_so11 j hj
  | 12 => pg_so12 j hj
  | 13 => pg_so13 j hj
  | 14 => pg_so14 j hj
  | 15 => pg_so15 j hj
  | 16 => pg_so16 j hj
  | 17 => pg_so17 j hj
  | 18 => pg_so18 j hj
  | 19 => pg_so19 j hj
  | 20 => pg_so20 j hj
  | 21 => pg_so21 j hj
  | 22 => pg_so22 j hj
  | 23 => pg_so23 j hj
  | 24 => pg_so24 j hj
  | n + 25 => rfl
