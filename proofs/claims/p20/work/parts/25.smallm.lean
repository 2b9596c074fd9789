/-! the reference's small methods, where they refuse, and where nothing is loaded -/
section SMM
variable {l : Launch} {g : px_G} {d : Nat} {ph : px_H} {m : Nat} {mf : List Value}
/-- what the reference is behind a refusal -/
def mt_set (ph : px_H) (m : Nat) (mf : List Value) (t : Nat) : px_H := ph.set m (.inr (12, mf.set 0 (.int (nI t))))
theorem s_M_taken_none {i k nf : Int32} (h0 : ph[m]? = some (.inr (12, mf))) (hl : Nat.blt 0 mf.length = true) (hf : mf[5]? = some (.int nf)) (hn : i < 0 ∨ nf ≤ i) : PW l g (d + 1) m_M_taken 0 [.ref m, .int i, .int k] [] ph (fun r ph' => r = .inl (some (.int 0)) ∧ ph' = mt_set ph m mf 1) := by
  have fin : PW l g (d + 1) m_M_taken 27 [.ref m, .int i, .int k] [.ref m] ph (fun r ph' => r = .inl (some (.int 0)) ∧ ph' = mt_set ph m mf 1) := by
    refine px_alu rfl rfl rfl ?_
    refine px_goto rfl rfl rfl ?_
    refine px_alu rfl rfl rfl ?_
    refine px_callV (As := [.int (nI 1), .int (nI 0)]) (st := []) rfl rfl h0 rfl rfl rfl rfl rfl rfl (s_throwing h0 hl) (fun _ _ q => nomatch q.1) rfl (fun r ph' q => ?_)
    obtain ⟨q1, rfl⟩ := q
    cases q1
    refine px_ifeq rfl rfl rfl (fun h => absurd h (by decide)) (fun _ => ?_)
    refine px_alu rfl rfl rfl ?_
    exact px_iret rfl (Or.inr ⟨rfl, Or.inl rfl⟩) rfl ⟨rfl, rfl⟩
  refine px_ld rfl rfl rfl rfl rfl ?_
  refine px_ld rfl rfl rfl rfl rfl ?_
  refine px_iflt rfl rfl rfl (fun _ => fin) (fun h1 => ?_)
  refine px_ld rfl rfl rfl rfl rfl ?_
  refine px_ld rfl rfl rfl rfl rfl ?_
  refine px_get rfl h0 hf rfl ?_
  exact px_icge rfl rfl rfl (fun _ => fin) (fun h2 => absurd (hn.resolve_left h1) h2)
theorem s_M_cause_none {i k nf : Int32} (h0 : ph[m]? = some (.inr (12, mf))) (hl : Nat.blt 0 mf.length = true) (hf : mf[5]? = some (.int nf)) (hn : i < 0 ∨ nf ≤ i) : PW l g (d + 1) m_M_cause 0 [.ref m, .int i, .int k, px_u] [] ph (fun r ph' => r = .inl (some (.int 0)) ∧ ph' = mt_set ph m mf 1) := by
  have fin : PW l g (d + 1) m_M_cause 43 [.ref m, .int i, .int k, px_u] [.ref m] ph (fun r ph' => r = .inl (some (.int 0)) ∧ ph' = mt_set ph m mf 1) := by
    refine px_alu rfl rfl rfl ?_
    refine px_goto rfl rfl rfl ?_
    refine px_alu rfl rfl rfl ?_
    refine px_callV (As := [.int (nI 1), .int (nI 0)]) (st := []) rfl rfl h0 rfl rfl rfl rfl rfl rfl (s_throwing h0 hl) (fun _ _ q => nomatch q.1) rfl (fun r ph' q => ?_)
    obtain ⟨q1, rfl⟩ := q
    cases q1
    refine px_ifeq rfl rfl rfl (fun h => absurd h (by decide)) (fun _ => ?_)
    refine px_alu rfl rfl rfl ?_
    exact px_iret rfl (Or.inl rfl) rfl ⟨rfl, rfl⟩
  refine px_ld rfl rfl rfl rfl rfl ?_
  refine px_ld rfl rfl rfl rfl rfl ?_
  refine px_iflt rfl rfl rfl (fun _ => fin) (fun h1 => ?_)
  refine px_ld rfl rfl rfl rfl rfl ?_
  refine px_ld rfl rfl rfl rfl rfl ?_
  refine px_get rfl h0 hf rfl ?_
  exact px_icge rfl rfl rfl (fun _ => fin) (fun h2 => absurd (hn.resolve_left h1) h2)
theorem s_M_list_none {i k nf : Int32} (h0 : ph[m]? = some (.inr (12, mf))) (hl : Nat.blt 0 mf.length = true) (hf : mf[5]? = some (.int nf)) (hn : i < 0 ∨ nf ≤ i) : PW l g (d + 1) m_M_list 0 [.ref m, .int i, .int k, px_u, px_u, px_u, px_u] [] ph (fun r ph' => r = .inl (some (.int 0)) ∧ ph' = mt_set ph m mf 1) := by
  have fin : PW l g (d + 1) m_M_list 42 [.ref m, .int i, .int k, px_u, px_u, px_u, px_u] [] ph (fun r ph' => r = .inl (some (.int 0)) ∧ ph' = mt_set ph m mf 1) := by
    refine px_alu rfl rfl rfl ?_
    refine px_goto rfl rfl rfl ?_
    refine px_st (lv' := [_, _, _, _, _, _, _]) rfl rfl rfl rfl rfl rfl rfl ?_
    refine px_ld rfl rfl rfl rfl rfl ?_
    refine px_ld rfl rfl rfl rfl rfl ?_
    refine px_ifne rfl rfl rfl (fun _ => ?_) (fun h => absurd h (by decide))
    refine px_alu rfl rfl rfl ?_
    refine px_goto rfl rfl rfl ?_
    refine px_alu rfl rfl rfl ?_
    refine px_callV (As := [.int (nI 1), .int (nI 0)]) (st := []) rfl rfl h0 rfl rfl rfl rfl rfl rfl (s_throwing h0 hl) (fun _ _ q => nomatch q.1) rfl (fun r ph' q => ?_)
    obtain ⟨q1, rfl⟩ := q
    cases q1
    refine px_ifeq rfl rfl rfl (fun h => absurd h (by decide)) (fun _ => ?_)
    refine px_alu rfl rfl rfl ?_
    exact px_iret rfl (Or.inl rfl) rfl ⟨rfl, rfl⟩
  refine px_ld rfl rfl rfl rfl rfl ?_
  refine px_iflt rfl rfl rfl (fun _ => fin) (fun h1 => ?_)
  refine px_ld rfl rfl rfl rfl rfl ?_
  refine px_ld rfl rfl rfl rfl rfl ?_
  refine px_get rfl h0 hf rfl ?_
  exact px_icge rfl rfl rfl (fun _ => fin) (fun h2 => absurd (hn.resolve_left h1) h2)
theorem s_M_sum_none {i k j nf : Int32} (h0 : ph[m]? = some (.inr (12, mf))) (hl : Nat.blt 0 mf.length = true) (hf : mf[5]? = some (.int nf)) (hn : i < 0 ∨ nf ≤ i) : PW l g (d + 1) m_M_sum 0 [.ref m, .int i, .int k, .int j, px_u, px_u, px_u, px_u, px_u] [] ph (fun r ph' => r = .inl (some (.long 0)) ∧ ph' = mt_set ph m mf 1) := by
  have fin : PW l g (d + 1) m_M_sum 42 [.ref m, .int i, .int k, .int j, px_u, px_u, px_u, px_u, px_u] [] ph (fun r ph' => r = .inl (some (.long 0)) ∧ ph' = mt_set ph m mf 1) := by
    refine px_alu rfl rfl rfl ?_
    refine px_goto rfl rfl rfl ?_
    refine px_st (lv' := [_, _, _, _, _, _, _, _, _]) rfl rfl rfl rfl rfl rfl rfl ?_
    refine px_ld rfl rfl rfl rfl rfl ?_
    refine px_ld rfl rfl rfl rfl rfl ?_
    refine px_ifne rfl rfl rfl (fun _ => ?_) (fun h => absurd h (by decide))
    refine px_alu rfl rfl rfl ?_
    refine px_goto rfl rfl rfl ?_
    refine px_alu rfl rfl rfl ?_
    refine px_callV (As := [.int (nI 1), .int (nI 0)]) (st := []) rfl rfl h0 rfl rfl rfl rfl rfl rfl (s_throwing h0 hl) (fun _ _ q => nomatch q.1) rfl (fun r ph' q => ?_)
    obtain ⟨q1, rfl⟩ := q
    cases q1
    refine px_ifeq rfl rfl rfl (fun h => absurd h (by decide)) (fun _ => ?_)
    refine px_alu rfl rfl rfl ?_
    exact px_lret rfl rfl rfl ⟨rfl, rfl⟩
  refine px_ld rfl rfl rfl rfl rfl ?_
  refine px_iflt rfl rfl rfl (fun _ => fin) (fun h1 => ?_)
  refine px_ld rfl rfl rfl rfl rfl ?_
  refine px_ld rfl rfl rfl rfl rfl ?_
  refine px_get rfl h0 hf rfl ?_
  exact px_icge rfl rfl rfl (fun _ => fin) (fun h2 => absurd (hn.resolve_left h1) h2)
theorem s_M_section_not {i k a ld : Int32} (h0 : ph[m]? = some (.inr (12, mf))) (hl : Nat.blt 0 mf.length = true) (hf : mf[13]? = some (.int a)) (hd : mf[50]? = some (.int ld)) (ha : ¬ a = 0) : PW l g (d + 1) m_M_section 0 [.ref m, .int i, .int k] [] ph (fun r ph' => r = .inl (some (.int 0)) ∧ ph' = mt_set ph m mf 1) := by
  have fin : ∀ b : Int32, PW l g (d + 1) m_M_section 39 [.ref m, .int i, .int k] [.int b, .int (nI 1), .ref m] ph (fun r ph' => r = .inl (some (.int 0)) ∧ ph' = mt_set ph m mf 1) := by
    intro b
    refine px_callV (As := [.int (nI 1), .int b]) (st := []) rfl rfl h0 rfl rfl rfl rfl rfl rfl (s_throwing h0 hl) (fun _ _ q => nomatch q.1) rfl (fun r ph' q => ?_)
    obtain ⟨q1, q2⟩ := q
    rw [show mt_t (nI 1) b = 1 from if_neg (by decide)] at q1 q2
    subst q2
    cases q1
    refine px_ifeq rfl rfl rfl (fun h => absurd h (by decide)) (fun _ => ?_)
    refine px_alu rfl rfl rfl ?_
    exact px_iret rfl (Or.inl rfl) rfl ⟨rfl, rfl⟩
  have one : PW l g (d + 1) m_M_section 34 [.ref m, .int i, .int k] [.int (nI 1), .ref m] ph (fun r ph' => r = .inl (some (.int 0)) ∧ ph' = mt_set ph m mf 1) := by
    refine px_alu rfl rfl rfl ?_
    refine px_goto rfl rfl rfl ?_
    exact fin _
  refine px_ld rfl rfl rfl rfl rfl ?_
  refine px_ld rfl rfl rfl rfl rfl ?_
  refine px_get rfl h0 hf rfl ?_
  refine px_ifeq rfl rfl rfl (fun h => absurd h ha) (fun _ => ?_)
  refine px_alu rfl rfl rfl ?_
  refine px_goto rfl rfl rfl ?_
  refine px_ld rfl rfl rfl rfl rfl ?_
  refine px_iflt rfl rfl rfl (fun _ => one) (fun _ => ?_)
  refine px_ld rfl rfl rfl rfl rfl ?_
  refine px_ld rfl rfl rfl rfl rfl ?_
  refine px_get rfl h0 hd rfl ?_
  refine px_icge rfl rfl rfl (fun _ => one) (fun _ => ?_)
  refine px_ld rfl rfl rfl rfl rfl ?_
  refine px_iflt rfl rfl rfl (fun _ => one) (fun _ => ?_)
  refine px_ld rfl rfl rfl rfl rfl ?_
  refine px_alu rfl rfl rfl ?_
  refine px_icle rfl rfl rfl (fun _ => ?_) (fun _ => one)
  refine px_alu rfl rfl rfl ?_
  exact fin _
theorem s_M_place_not {i a ld : Int32} (h0 : ph[m]? = some (.inr (12, mf))) (hl : Nat.blt 0 mf.length = true) (hf : mf[13]? = some (.int a)) (hd : mf[50]? = some (.int ld)) (ha : ¬ a = 0) : PW l g (d + 1) m_M_place 0 [.ref m, .int i] [] ph (fun r ph' => r = .inl (some (.long 0)) ∧ ph' = mt_set ph m mf 1) := by
  have fin : ∀ b : Int32, PW l g (d + 1) m_M_place 30 [.ref m, .int i] [.int b, .int (nI 1), .ref m] ph (fun r ph' => r = .inl (some (.long 0)) ∧ ph' = mt_set ph m mf 1) := by
    intro b
    refine px_callV (As := [.int (nI 1), .int b]) (st := []) rfl rfl h0 rfl rfl rfl rfl rfl rfl (s_throwing h0 hl) (fun _ _ q => nomatch q.1) rfl (fun r ph' q => ?_)
    obtain ⟨q1, q2⟩ := q
    rw [show mt_t (nI 1) b = 1 from if_neg (by decide)] at q1 q2
    subst q2
    cases q1
    refine px_ifeq rfl rfl rfl (fun h => absurd h (by decide)) (fun _ => ?_)
    refine px_alu rfl rfl rfl ?_
    exact px_lret rfl rfl rfl ⟨rfl, rfl⟩
  have one : PW l g (d + 1) m_M_place 25 [.ref m, .int i] [.int (nI 1), .ref m] ph (fun r ph' => r = .inl (some (.long 0)) ∧ ph' = mt_set ph m mf 1) := by
    refine px_alu rfl rfl rfl ?_
    refine px_goto rfl rfl rfl ?_
    exact fin _
  refine px_ld rfl rfl rfl rfl rfl ?_
  refine px_ld rfl rfl rfl rfl rfl ?_
  refine px_get rfl h0 hf rfl ?_
  refine px_ifeq rfl rfl rfl (fun h => absurd h ha) (fun _ => ?_)
  refine px_alu rfl rfl rfl ?_
  refine px_goto rfl rfl rfl ?_
  refine px_ld rfl rfl rfl rfl rfl ?_
  refine px_iflt rfl rfl rfl (fun _ => one) (fun _ => ?_)
  refine px_ld rfl rfl rfl rfl rfl ?_
  refine px_ld rfl rfl rfl rfl rfl ?_
  refine px_get rfl h0 hd rfl ?_
  refine px_iclt rfl rfl rfl (fun _ => ?_) (fun _ => one)
  refine px_alu rfl rfl rfl ?_
  exact fin _
theorem s_M_out_none {i n : Int32} (h0 : ph[m]? = some (.inr (12, mf))) (hl : Nat.blt 0 mf.length = true) (hf : mf[4]? = some (.int n)) (hn : i < 0 ∨ n ≤ i) : PW l g (d + 1) m_M_out 0 [.ref m, .int i, px_u, px_u, px_u] [] ph (fun r ph' => r = .inl (some (.long 0)) ∧ ph' = mt_set ph m mf 1) := by
  have fin : PW l g (d + 1) m_M_out 13 [.ref m, .int i, px_u, px_u, px_u] [.ref m] ph (fun r ph' => r = .inl (some (.long 0)) ∧ ph' = mt_set ph m mf 1) := by
    refine px_alu rfl rfl rfl ?_
    refine px_goto rfl rfl rfl ?_
    refine px_alu rfl rfl rfl ?_
    refine px_callV (As := [.int (nI 1), .int (nI 0)]) (st := []) rfl rfl h0 rfl rfl rfl rfl rfl rfl (s_throwing h0 hl) (fun _ _ q => nomatch q.1) rfl (fun r ph' q => ?_)
    obtain ⟨q1, rfl⟩ := q
    cases q1
    refine px_ifeq rfl rfl rfl (fun h => absurd h (by decide)) (fun _ => ?_)
    refine px_alu rfl rfl rfl ?_
    exact px_lret rfl rfl rfl ⟨rfl, rfl⟩
  refine px_ld rfl rfl rfl rfl rfl ?_
  refine px_ld rfl rfl rfl rfl rfl ?_
  refine px_iflt rfl rfl rfl (fun _ => fin) (fun h1 => ?_)
  refine px_ld rfl rfl rfl rfl rfl ?_
  refine px_ld rfl rfl rfl rfl rfl ?_
  refine px_get rfl h0 hf rfl ?_
  exact px_iclt rfl rfl rfl (fun h2 => absurd (hn.resolve_left h1) (Int32.not_le.mpr h2)) (fun _ => fin)
theorem s_M_look_none {i : Int32} (h0 : ph[m]? = some (.inr (12, mf))) (hl : Nat.blt 0 mf.length = true) (hn : i < 0 ∨ nI 18 < i) : PW l g (d + 1) m_M_look 0 [.ref m, .int i] [] ph (fun r ph' => r = .inl (some (.long 0)) ∧ ph' = mt_set ph m mf 1) := by
  have fin : PW l g (d + 1) m_M_look 11 [.ref m, .int i] [.ref m] ph (fun r ph' => r = .inl (some (.long 0)) ∧ ph' = mt_set ph m mf 1) := by
    refine px_alu rfl rfl rfl ?_
    refine px_goto rfl rfl rfl ?_
    refine px_alu rfl rfl rfl ?_
    refine px_callV (As := [.int (nI 1), .int (nI 0)]) (st := []) rfl rfl h0 rfl rfl rfl rfl rfl rfl (s_throwing h0 hl) (fun _ _ q => nomatch q.1) rfl (fun r ph' q => ?_)
    obtain ⟨q1, rfl⟩ := q
    cases q1
    refine px_ifeq rfl rfl rfl (fun h => absurd h (by decide)) (fun _ => ?_)
    refine px_alu rfl rfl rfl ?_
    exact px_lret rfl rfl rfl ⟨rfl, rfl⟩
  refine px_ld rfl rfl rfl rfl rfl ?_
  refine px_ld rfl rfl rfl rfl rfl ?_
  refine px_iflt rfl rfl rfl (fun _ => fin) (fun h1 => ?_)
  refine px_ld rfl rfl rfl rfl rfl ?_
  refine px_alu rfl rfl rfl ?_
  exact px_icle rfl rfl rfl (fun h2 => absurd (hn.resolve_left h1) (Int32.not_lt.mpr h2)) (fun _ => fin)
/-- nothing is loaded -/
theorem s_M_get {j : Nat} (hj : 0 < j) (v : Value) (hv : mf[j]? = some v) (w : Value) : (mf.set 0 w)[j]? = some v := by
  rw [List.getElem?_set_ne (by omega)]; exact hv
theorem s_M_peek_none {q : Int64} (h0 : ph[m]? = some (.inr (12, mf))) (hl : Nat.blt 0 mf.length = true) (hf : mf[102]? = some (.int 0)) : PW l g (d + 1) m_M_peek 0 [.ref m, .long q, px_u, px_u, px_u, px_u] [] ph (fun r ph' => r = .inl (some (.int (Int32.ofInt (-1)))) ∧ ph' = mt_set ph m mf 0) := by
  have hlt : m < ph.length := (List.getElem?_eq_some_iff.mp h0).1
  have h1 : (mt_set ph m mf 0)[m]? = some (.inr (12, mf.set 0 (.int (nI 0)))) := List.getElem?_set_self hlt
  refine px_ld rfl rfl rfl rfl rfl ?_
  refine px_alu rfl rfl rfl ?_
  refine px_put rfl h0 hl trivial rfl ?_
  show PW l g (d + 1) m_M_peek 5 _ _ (mt_set ph m mf 0) _
  refine px_ld rfl rfl rfl rfl rfl ?_
  refine px_ld rfl rfl rfl rfl rfl ?_
  refine px_callV (As := [.long q]) (st := []) rfl rfl h1 rfl rfl rfl rfl rfl rfl (s_rowOf_none h1 (s_M_get (by decide) _ hf _)) (fun _ _ q => nomatch q.1) rfl (fun r ph' q => ?_)
  obtain ⟨q1, rfl⟩ := q
  cases q1
  refine px_st (lv' := [_, _, _, _, _, _]) rfl rfl rfl rfl rfl rfl rfl ?_
  refine px_ld rfl rfl rfl rfl rfl ?_
  refine px_ifge rfl rfl rfl (fun h => absurd h (by decide)) (fun _ => ?_)
  refine px_alu rfl rfl rfl ?_
  exact px_iret rfl (Or.inl rfl) rfl ⟨rfl, rfl⟩
theorem s_M_flags_none {q : Int64} (h0 : ph[m]? = some (.inr (12, mf))) (hl : Nat.blt 0 mf.length = true) (hf : mf[102]? = some (.int 0)) : PW l g (d + 1) m_M_flags 0 [.ref m, .long q, px_u, px_u] [] ph (fun r ph' => r = .inl (some (.long (-1))) ∧ ph' = mt_set ph m mf 0) := by
  have hlt : m < ph.length := (List.getElem?_eq_some_iff.mp h0).1
  have h1 : (mt_set ph m mf 0)[m]? = some (.inr (12, mf.set 0 (.int (nI 0)))) := List.getElem?_set_self hlt
  refine px_ld rfl rfl rfl rfl rfl ?_
  refine px_alu rfl rfl rfl ?_
  refine px_put rfl h0 hl trivial rfl ?_
  show PW l g (d + 1) m_M_flags 5 _ _ (mt_set ph m mf 0) _
  refine px_ld rfl rfl rfl rfl rfl ?_
  refine px_ld rfl rfl rfl rfl rfl ?_
  refine px_callV (As := [.long q]) (st := []) rfl rfl h1 rfl rfl rfl rfl rfl rfl (s_rowOf_none h1 (s_M_get (by decide) _ hf _)) (fun _ _ q => nomatch q.1) rfl (fun r ph' q => ?_)
  obtain ⟨q1, rfl⟩ := q
  cases q1
  refine px_st (lv' := [_, _, _, _]) rfl rfl rfl rfl rfl rfl rfl ?_
  refine px_ld rfl rfl rfl rfl rfl ?_
  refine px_ifge rfl rfl rfl (fun h => absurd h (by decide)) (fun _ => ?_)
  refine px_ldc2 rfl rfl rfl ?_
  refine px_goto rfl rfl rfl ?_
  exact px_lret rfl rfl rfl ⟨rfl, rfl⟩
theorem s_M_near_none {q : Int64} (h0 : ph[m]? = some (.inr (12, mf))) (hl : Nat.blt 0 mf.length = true) (hf : mf[102]? = some (.int 0)) (hm : mf[44]? = some (.int 0)) : PW l g (d + 1) m_M_near 0 [.ref m, .long q, px_u, px_u, px_u, px_u] [] ph (fun r ph' => r = .inl (some (.long (-1))) ∧ ph' = mt_set ph m mf 0) := by
  have hlt : m < ph.length := (List.getElem?_eq_some_iff.mp h0).1
  have h1 : (mt_set ph m mf 0)[m]? = some (.inr (12, mf.set 0 (.int (nI 0)))) := List.getElem?_set_self hlt
  refine px_ld rfl rfl rfl rfl rfl ?_
  refine px_alu rfl rfl rfl ?_
  refine px_put rfl h0 hl trivial rfl ?_
  show PW l g (d + 1) m_M_near 5 _ _ (mt_set ph m mf 0) _
  refine px_alu rfl rfl rfl ?_
  refine px_st (lv' := [_, _, _, _, _, _]) rfl rfl rfl rfl rfl rfl rfl ?_
  refine px_alu rfl rfl rfl ?_
  refine px_st (lv' := [_, _, _, _, _, _]) rfl rfl rfl rfl rfl rfl rfl ?_
  refine px_ld rfl rfl rfl rfl rfl ?_
  refine px_ld rfl rfl rfl rfl rfl ?_
  refine px_get rfl h1 (s_M_get (by decide) _ hm _) rfl ?_
  refine px_icge rfl rfl rfl (fun _ => ?_) (fun h => absurd (by decide) h)
  refine px_ld rfl rfl rfl rfl rfl ?_
  refine px_ld rfl rfl rfl rfl rfl ?_
  refine px_callV (As := [.long q]) (st := []) rfl rfl h1 rfl rfl rfl rfl rfl rfl (s_rowOf_none h1 (s_M_get (by decide) _ hf _)) (fun _ _ q => nomatch q.1) rfl (fun r ph' q => ?_)
  obtain ⟨q1, rfl⟩ := q
  cases q1
  refine px_iflt rfl rfl rfl (fun _ => ?_) (fun h => absurd (by decide) h)
  refine px_ldc2 rfl rfl rfl ?_
  exact px_lret rfl rfl rfl ⟨rfl, rfl⟩
end SMM
