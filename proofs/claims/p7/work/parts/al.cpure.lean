/-! names first, definitions then: whole -/
def eS (b : Nat → Nat) (k : Nat) (s : px_TS) : px_TS := if hsN b k = true then tEn (yT b k) s else s
section PTL
variable {dr : Nat → Bool} {t : Nat} {b : Nat → Nat}
theorem eS_mem {k : Nat} {s : px_TS} {w : List Nat} (h : w ∈ txs s) : w ∈ txs (eS b k s) := by
  unfold eS
  split
  · show w ∈ (entL _ s.2.1).map Prod.fst
    rw [entL_fst]
    exact ent_mem.mpr (Or.inr h)
  · exact h
theorem tk1_in {k j : Nat} {s : px_TS} (h : yB b k ≠ 0 → yT b k ∈ txs s) : tk1 dr t b k (eS b j s) = eS b j (tk1 dr t b k s) := by
  unfold eS
  split
  · rw [tk1_G, tk1_G]
    exact tkG_in h
  · rfl
theorem tk1_ins {k : Nat} : ∀ (c j : Nat) (s : px_TS), (yB b k ≠ 0 → yT b k ∈ txs s) → tk1 dr t b k (itr (eS b) j c s) = itr (eS b) j c (tk1 dr t b k s) := by
  intro c
  induction c with
  | zero => intro j s _; rfl
  | succ c ih =>
    intro j s h
    rw [itr_s, itr_s, ih (j + 1) (eS b j s) (fun q => eS_mem (h q)), tk1_in h]
theorem tk1_self {k : Nat} {s : px_TS} (h1 : 1 ≤ k) (hk : k < oM b) : tk1 dr t b k (eS b k s) = tk1 dr t b k s := by
  unfold eS hsN
  by_cases c : yB b k = 0
  · rw [if_neg (show ¬ decide (1 ≤ k ∧ k < oM b ∧ yB b k ≠ 0) = true from fun q => (of_decide_eq_true q).2.2 c)]
  · rw [if_pos (decide_eq_true ⟨h1, hk, c⟩), tk1_G, tkG_self, if_neg c, tk1_G]
theorem tks_ent : ∀ (c k : Nat) (s : px_TS), 1 ≤ k → k + c ≤ oM b → itr (tk1 dr t b) k c (itr (eS b) k c s) = itr (tk1 dr t b) k c s := by
  intro c
  induction c with
  | zero => intro k s _ _; rfl
  | succ c ih =>
    intro k s h1 hk
    rw [itr_s, itr_s, itr_s, tk1_ins c (k + 1) (eS b k s) (fun q => ?_), ih (k + 1) _ (by omega) (by omega), tk1_self h1 (by omega)]
    unfold eS hsN
    rw [if_pos (decide_eq_true ⟨h1, by omega, q⟩)]
    show yT b k ∈ (entL _ s.2.1).map Prod.fst
    rw [entL_fst]
    exact ent_mem.mpr (Or.inl rfl)
theorem eS_c : ∀ (c k : Nat) (s : px_TS), itr (eS b) k c s = (s.1, itr (ec1 b) k c s.2.1, s.2.2.1, s.2.2.2) := by
  intro c
  induction c with
  | zero => intro k s; rfl
  | succ c ih =>
    intro k s
    rw [itr_s, itr_s, ih]
    unfold eS ec1
    split <;> rfl
theorem itr_add {α : Type} {g : Nat → α → α} : ∀ (c d k : Nat) (s : α), itr g k (c + d) s = itr g (k + c) d (itr g k c s) := by
  intro c
  induction c with
  | zero => intro d k s; rw [Nat.zero_add, itr_0, Nat.add_zero]
  | succ c ih =>
    intro d k s
    rw [show c + 1 + d = (c + d) + 1 by omega, itr_s, itr_s, ih, show k + 1 + c = k + (c + 1) by omega]
theorem ec_64 (h64 : oM b ≤ 64) (xs : px_NL) : itr (ec1 b) 0 64 xs = itr (ec1 b) 1 (oM b - 1) xs := by
  have hid : ∀ k, (k = 0 ∨ oM b ≤ k) → ∀ ys : px_NL, ec1 b k ys = ys := fun k hk ys => by
    unfold ec1 hsN
    rw [if_neg (show ¬ decide (1 ≤ k ∧ k < oM b ∧ yB b k ≠ 0) = true from fun q => by have := of_decide_eq_true q; omega)]
  by_cases c : oM b = 0
  · rw [c, itr_0]
    exact itr_idr 64 0 (fun j _ _ => hid j (Or.inr (by omega)) xs)
  · rw [show (64 : Nat) = 1 + ((oM b - 1) + (64 - oM b)) by omega, itr_add, itr_add]
    show itr (ec1 b) (0 + 1 + (oM b - 1)) (64 - oM b) (itr (ec1 b) (0 + 1) (oM b - 1) (ec1 b 0 xs)) = _
    rw [hid 0 (Or.inl rfl)]
    exact itr_idr _ _ (fun j h1 _ => hid j (Or.inr (by omega)) _)
/-- all names entered, then the symbols one by one -/
theorem tks_first (h64 : oM b ≤ 64) (s : px_TS) : itr (tk1 dr t b) 1 (oM b - 1) s = itr (tk1 dr t b) 1 (oM b - 1) (s.1, itr (ec1 b) 0 64 s.2.1, s.2.2.1, s.2.2.2) := by
  rw [ec_64 h64, ← eS_c]
  by_cases c : oM b = 0
  · rw [c]; rfl
  · rw [tks_ent _ _ _ (Nat.le_refl _) (by omega)]
theorem ec_mem {xs : px_NL} : ∀ (c k : Nat) (xs : px_NL), (∀ w, w ∈ xs.map Prod.fst → w ∈ (itr (ec1 b) k c xs).map Prod.fst) ∧ ∀ j, k ≤ j → j < k + c → hsN b j = true → yT b j ∈ (itr (ec1 b) k c xs).map Prod.fst := by
  intro c
  induction c with
  | zero => intro k xs; exact ⟨fun w h => h, fun j h1 h2 => by omega⟩
  | succ c ih =>
    intro k xs
    obtain ⟨i1, i2⟩ := ih (k + 1) (ec1 b k xs)
    rw [itr_s]
    refine ⟨fun w h => i1 w ?_, fun j h1 h2 hj => ?_⟩
    · unfold ec1
      split
      · rw [entL_fst]; exact ent_mem.mpr (Or.inr h)
      · exact h
    · by_cases e : j = k
      · rw [e] at hj ⊢
        refine i1 _ ?_
        unfold ec1
        rw [if_pos hj, entL_fst]
        exact ent_mem.mpr (Or.inl rfl)
      · exact i2 j (by omega) (by omega) hj
/-- behind a double nothing comes -/
theorem tk1_stop {s : px_TS} {k : Nat} (h : s.1 = 1) (hm : yB b k ≠ 0 → yT b k ∈ txs s) : tk1 dr t b k s = s := by
  unfold tk1
  by_cases c : yB b k = 0
  · rw [if_pos c]
  · rw [if_neg c, if_pos h, entL_in (hm c)]
    obtain ⟨a, xs, od, bl⟩ := s
    have h : a = 1 := h
    rw [h]
end PTL
