theorem pg_sorted_lt : ∀ (r : List (Nat × Instr × Nat × Nat × Nat)) (p : Nat × Instr × Nat × Nat × Nat), pg_sorted (p :: r) = true → ∀ x ∈ r, p.1 < x.1
  | [], _, _, x, hx => by cases hx
  | b :: r, p, h, x, hx => by
    simp only [pg_sorted, Bool.and_eq_true] at h
    have h1 : p.1 < b.1 := Nat.le_of_ble_eq_true h.1
    rcases List.mem_cons.mp hx with rfl | hx
    · exact h1
    · exact Nat.lt_trans h1 (pg_sorted_lt r b h.2 x hx)
theorem pg_sorted_tl (p : Nat × Instr × Nat × Nat × Nat) (r : List (Nat × Instr × Nat × Nat × Nat)) (h : pg_sorted (p :: r) = true) : pg_sorted r = true := by
  cases r with
  | nil => rfl
  | cons b r =>
    simp only [pg_sorted, Bool.and_eq_true] at h
    exact h.2
theorem pg_find : ∀ (pre cs : List (Nat × Instr × Nat × Nat × Nat)) (q : Nat × Instr × Nat × Nat × Nat), pg_sorted (pre ++ q :: cs) = true → (pre ++ q :: cs).find? (fun x => x.1 == q.1) = some q
  | [], cs, q, _ => by
    show (q :: cs).find? _ = _
    rw [List.find?_cons_of_pos (by simp)]
  | p :: pre, cs, q, h => by
    have h1 := pg_sorted_lt (pre ++ q :: cs) p h q (List.mem_append_right _ List.mem_cons_self)
    show (p :: (pre ++ q :: cs)).find? _ = _
    rw [List.find?_cons_of_neg (by simp; omega)]
    exact pg_find pre cs q (pg_sorted_tl _ _ h)
theorem pg_cdof {mi : Nat} {pre cs : px_Cd} {q : Nat × Instr × Nat × Nat × Nat} (h : pg_L mi = pre ++ q :: cs) : pg_cd mi q.1 = some q.2 := by
  have h1 := pg_srt mi
  rw [h] at h1
  unfold pg_cd
  rw [h, pg_find pre cs q h1]
theorem px_seek_suf (t : Nat) : ∀ L : px_Cd, (∃ pre, L = pre ++ px_seek t L) ∧ ∀ q c, px_seek t L = q :: c → q.1 = t
  | [] => ⟨⟨[], rfl⟩, fun q c h => by cases h⟩
  | p :: r => by
    unfold px_seek
    split
    · rename_i hc
      simp only [Nat.beq_eq] at hc
      exact ⟨⟨[], rfl⟩, fun q c h => by cases h; exact hc⟩
    · obtain ⟨⟨pre, h1⟩, h2⟩ := px_seek_suf t r
      exact ⟨⟨p :: pre, by rw [List.cons_append, ← h1]⟩, h2⟩
theorem px_nxt_suf {mi : Nat} {p : Nat × Instr × Nat × Nat × Nat} {cs : px_Cd} {nx : Nat} (h : ∃ pre, pg_L mi = pre ++ p :: cs) : (∃ pre, pg_L mi = pre ++ px_nxt cs nx) ∧ ∀ q c, px_nxt cs nx = q :: c → q.1 = nx := by
  obtain ⟨pre, h⟩ := h
  unfold px_nxt
  split
  · rename_i q c
    split
    · rename_i hc
      simp only [Nat.beq_eq] at hc
      exact ⟨⟨pre ++ [p], by rw [h]; simp⟩, fun q2 c2 h2 => by cases h2; exact hc⟩
    · exact ⟨⟨pg_L mi, by simp⟩, fun q2 c2 h2 => by cases h2⟩
  · exact ⟨⟨pg_L mi, by simp⟩, fun q2 c2 h2 => by cases h2⟩
theorem px_take (st : List Value) (n : Nat) : ((st.take n).reverse).reverse ++ st.drop n = st := by rw [List.reverse_reverse, List.take_append_drop]
theorem pg_wwall (mj : Nat) (h1 : 382 ≤ mj) (h2 : mj < 382 + 16) : px_MW mj := by
  have h : mj = 382 + (mj - 382) := by omega
  have h3 : mj - 382 < 16 := by omega
  rw [h]
  generalize mj - 382 = k at h3
  match k, h3 with
  | 0, _ => exact pg_ww_m_L_feed
  | 1, _ => exact pg_ww_m_L_add
  | 2, _ => exact pg_ww_m_L_drop
  | 3, _ => exact pg_ww_m_L_give
  | 4, _ => exact pg_ww_m_L_wish
  | 5, _ => exact pg_ww_m_L_named
  | 6, _ => exact pg_ww_m_L_list
  | 7, _ => exact pg_ww_m_L_sum
  | 8, _ => exact pg_ww_m_L_map
  | 9, _ => exact pg_ww_m_L_address
  | 10, _ => exact pg_ww_m_L_taken
  | 11, _ => exact pg_ww_m_L_cause
  | 12, _ => exact pg_ww_m_L_section
  | 13, _ => exact pg_ww_m_L_place
  | 14, _ => exact pg_ww_m_L_out
  | 15, _ => exact pg_ww_m_L_look
  | n + 16, h => exact absurd h (by omega)
theorem px_pos {n k mi ml : Nat} {cs : px_Cd} {lv : px_L} {st : List Value} {z : px_Sz} {x : (Option Value ⊕ Nat) × px_Sz} (h : px_ex n k mi ml cs lv st z = some x) : ∃ q c, cs = q :: c := by
  cases cs with
  | nil =>
    cases n <;> simp [px_ex] at h
  | cons q c => exact ⟨q, c, rfl⟩
