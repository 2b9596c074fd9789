/-! small methods, of class and reference: what they answer where they refuse, and where they only look -/
section SML
variable {l : Launch} {g : px_G} {d : Nat} {ph : px_H} {x m : Nat} {fs mf : List Value}
/-- no such file -/
theorem s_memberAt_null {i k nf : Int32} (h0 : ph[x]? = some (.inr (0, fs))) (hf : fs[6]? = some (.int nf)) (hn : i < 0 ∨ nf ≤ i) : PW l g d m_H_memberAt 0 [.ref x, .int i, .int k, px_u] [] ph (fun r ph' => r = .inl (some .null) ∧ ph' = ph) := by
  refine px_ld rfl rfl rfl rfl rfl ?_
  refine px_iflt rfl rfl rfl (fun h1 => ?_) (fun h1 => ?_)
  · refine px_alu rfl rfl rfl ?_
    exact px_aret rfl rfl (Or.inl ⟨_, rfl⟩) rfl rfl ⟨rfl, rfl⟩
  · refine px_ld rfl rfl rfl rfl rfl ?_
    refine px_ld rfl rfl rfl rfl rfl ?_
    refine px_get rfl h0 hf rfl ?_
    refine px_icge rfl rfl rfl (fun h2 => ?_) (fun h2 => absurd (hn.resolve_left h1) h2)
    refine px_alu rfl rfl rfl ?_
    exact px_aret rfl rfl (Or.inl ⟨_, rfl⟩) rfl rfl ⟨rfl, rfl⟩
theorem s_objectAt_null {i k nf : Int32} (h0 : ph[x]? = some (.inr (0, fs))) (hf : fs[6]? = some (.int nf)) (hn : i < 0 ∨ nf ≤ i) : PW l g (d + 1) m_H_objectAt 0 [.ref x, .int i, .int k, px_u] [] ph (fun r ph' => r = .inl (some .null) ∧ ph' = ph) := by
  refine px_ld rfl rfl rfl rfl rfl ?_
  refine px_ld rfl rfl rfl rfl rfl ?_
  refine px_ld rfl rfl rfl rfl rfl ?_
  refine px_callV (As := [.int i, .int k]) (st := []) rfl rfl h0 rfl rfl rfl rfl rfl rfl (s_memberAt_null h0 hf hn) (fun _ _ q => nomatch q.1) rfl (fun r ph' q => ?_)
  obtain ⟨q1, rfl⟩ := q
  cases q1
  refine px_st (lv' := [_, _, _, _]) rfl rfl rfl rfl rfl rfl rfl ?_
  refine px_ld rfl rfl rfl rfl rfl ?_
  refine px_ifnullN rfl rfl rfl ?_
  refine px_alu rfl rfl rfl ?_
  refine px_goto rfl rfl rfl ?_
  exact px_aret rfl rfl (Or.inl ⟨_, rfl⟩) rfl rfl ⟨rfl, rfl⟩
theorem s_taken_none {i k nf : Int32} (hfl : l.flags = flags0) (h0 : ph[x]? = some (.inr (0, fs))) (hf : fs[6]? = some (.int nf)) (hn : i < 0 ∨ nf ≤ i) (hm : ph.length < pg_MC) (hs : px_sum ph + 6 ≤ pg_MS) : PW l g (d + 6) m_H_taken 0 [.ref x, .int i, .int k, px_u] [] ph (fun r ph' => r = .inr ph.length ∧ ph' = ph ++ [.inr (15, [])]) := by
  refine px_ld rfl rfl rfl rfl rfl ?_
  refine px_ld rfl rfl rfl rfl rfl ?_
  refine px_ld rfl rfl rfl rfl rfl ?_
  refine px_callV (As := [.int i, .int k]) (st := []) rfl rfl h0 rfl rfl rfl rfl rfl rfl (s_memberAt_null h0 hf hn) (fun _ _ q => nomatch q.1) rfl (fun r ph' q => ?_)
  obtain ⟨q1, rfl⟩ := q
  cases q1
  refine px_st (lv' := [_, _, _, _]) rfl rfl rfl rfl rfl rfl rfl ?_
  refine px_ld rfl rfl rfl rfl rfl ?_
  refine px_ifnnN rfl rfl ?_
  exact px_tNSEw hfl rfl rfl rfl rfl rfl rfl rfl rfl rfl rfl hm hs rfl ⟨rfl, rfl⟩
theorem s_cause_none {i k nf : Int32} (hfl : l.flags = flags0) (h0 : ph[x]? = some (.inr (0, fs))) (hf : fs[6]? = some (.int nf)) (hn : i < 0 ∨ nf ≤ i) (hm : ph.length < pg_MC) (hs : px_sum ph + 6 ≤ pg_MS) : PW l g (d + 6) m_H_cause 0 [.ref x, .int i, .int k, px_u] [] ph (fun r ph' => r = .inr ph.length ∧ ph' = ph ++ [.inr (15, [])]) := by
  refine px_ld rfl rfl rfl rfl rfl ?_
  refine px_ld rfl rfl rfl rfl rfl ?_
  refine px_ld rfl rfl rfl rfl rfl ?_
  refine px_callV (As := [.int i, .int k]) (st := []) rfl rfl h0 rfl rfl rfl rfl rfl rfl (s_memberAt_null h0 hf hn) (fun _ _ q => nomatch q.1) rfl (fun r ph' q => ?_)
  obtain ⟨q1, rfl⟩ := q
  cases q1
  refine px_st (lv' := [_, _, _, _]) rfl rfl rfl rfl rfl rfl rfl ?_
  refine px_ld rfl rfl rfl rfl rfl ?_
  refine px_ifnnN rfl rfl ?_
  exact px_tNSEw hfl rfl rfl rfl rfl rfl rfl rfl rfl rfl rfl hm hs rfl ⟨rfl, rfl⟩
theorem s_list_none {i k nf : Int32} (hfl : l.flags = flags0) (h0 : ph[x]? = some (.inr (0, fs))) (hf : fs[6]? = some (.int nf)) (hn : i < 0 ∨ nf ≤ i) (hm : ph.length < pg_MC) (hs : px_sum ph + 6 ≤ pg_MS) : PW l g (d + 6) m_H_list 0 [.ref x, .int i, .int k, px_u] [] ph (fun r ph' => r = .inr ph.length ∧ ph' = ph ++ [.inr (15, [])]) := by
  refine px_ld rfl rfl rfl rfl rfl ?_
  refine px_ld rfl rfl rfl rfl rfl ?_
  refine px_ld rfl rfl rfl rfl rfl ?_
  refine px_callV (As := [.int i, .int k]) (st := []) rfl rfl h0 rfl rfl rfl rfl rfl rfl (s_objectAt_null (d := d + 4) h0 hf hn) (fun _ _ q => nomatch q.1) rfl (fun r ph' q => ?_)
  obtain ⟨q1, rfl⟩ := q
  cases q1
  refine px_st (lv' := [_, _, _, _]) rfl rfl rfl rfl rfl rfl rfl ?_
  refine px_ld rfl rfl rfl rfl rfl ?_
  refine px_ifnnN rfl rfl ?_
  exact px_tNSE hfl rfl rfl rfl rfl rfl rfl rfl rfl rfl rfl hm hs rfl ⟨rfl, rfl⟩
theorem s_sum_none {i k j nf : Int32} (hfl : l.flags = flags0) (h0 : ph[x]? = some (.inr (0, fs))) (hf : fs[6]? = some (.int nf)) (hn : i < 0 ∨ nf ≤ i) (hm : ph.length < pg_MC) (hs : px_sum ph + 6 ≤ pg_MS) : PW l g (d + 6) m_H_sum 0 [.ref x, .int i, .int k, .int j, px_u, px_u, px_u, px_u] [] ph (fun r ph' => r = .inr ph.length ∧ ph' = ph ++ [.inr (15, [])]) := by
  refine px_ld rfl rfl rfl rfl rfl ?_
  refine px_ld rfl rfl rfl rfl rfl ?_
  refine px_ld rfl rfl rfl rfl rfl ?_
  refine px_callV (As := [.int i, .int k]) (st := []) rfl rfl h0 rfl rfl rfl rfl rfl rfl (s_objectAt_null (d := d + 4) h0 hf hn) (fun _ _ q => nomatch q.1) rfl (fun r ph' q => ?_)
  obtain ⟨q1, rfl⟩ := q
  cases q1
  refine px_st (lv' := [_, _, _, _, _, _, _, _]) rfl rfl rfl rfl rfl rfl rfl ?_
  refine px_ld rfl rfl rfl rfl rfl ?_
  refine px_ifnullN rfl rfl rfl ?_
  exact px_tNSE hfl rfl rfl rfl rfl rfl rfl rfl rfl rfl rfl hm hs rfl ⟨rfl, rfl⟩
/-- the latest link was not done -/
theorem s_section_not {i k a : Int32} {lk : Nat} {lf : List Value} (hfl : l.flags = flags0) (h0 : ph[x]? = some (.inr (0, fs))) (h1 : fs[11]? = some (.ref lk)) (h2 : ph[lk]? = some (.inr (3, lf))) (h3 : lf[18]? = some (.int a)) (ha : ¬ a = 0) (hm : ph.length < pg_MC) (hs : px_sum ph + 6 ≤ pg_MS) : PW l g (d + 6) m_H_section 0 [.ref x, .int i, .int k, px_u] [] ph (fun r ph' => r = .inr ph.length ∧ ph' = ph ++ [.inr (14, [])]) := by
  refine px_ld rfl rfl rfl rfl rfl ?_
  refine px_get rfl h0 h1 rfl ?_
  refine px_get rfl h2 h3 rfl ?_
  refine px_ifeq rfl rfl rfl (fun h => absurd h ha) (fun _ => ?_)
  exact px_tISE hfl rfl rfl rfl rfl rfl rfl rfl rfl rfl rfl hm hs rfl ⟨rfl, rfl⟩
theorem s_place_not {i a : Int32} {lk : Nat} {lf : List Value} (hfl : l.flags = flags0) (h0 : ph[x]? = some (.inr (0, fs))) (h1 : fs[11]? = some (.ref lk)) (h2 : ph[lk]? = some (.inr (3, lf))) (h3 : lf[18]? = some (.int a)) (ha : ¬ a = 0) (hm : ph.length < pg_MC) (hs : px_sum ph + 6 ≤ pg_MS) : PW l g (d + 6) m_H_place 0 [.ref x, .int i] [] ph (fun r ph' => r = .inr ph.length ∧ ph' = ph ++ [.inr (14, [])]) := by
  refine px_ld rfl rfl rfl rfl rfl ?_
  refine px_get rfl h0 h1 rfl ?_
  refine px_get rfl h2 h3 rfl ?_
  refine px_ifeq rfl rfl rfl (fun h => absurd h ha) (fun _ => ?_)
  exact px_tISE hfl rfl rfl rfl rfl rfl rfl rfl rfl rfl rfl hm hs rfl ⟨rfl, rfl⟩
/-- OUT has no such byte -/
theorem s_out_none {i n : Int32} {u : Nat} {uf : List Value} (hfl : l.flags = flags0) (h0 : ph[x]? = some (.inr (0, fs))) (h1 : fs[1]? = some (.ref u)) (h2 : ph[u]? = some (.inr (10, uf))) (h3 : uf[1]? = some (.int n)) (hn : i < 0 ∨ n ≤ i) (hm : ph.length < pg_MC) (hs : px_sum ph + 6 ≤ pg_MS) : PW l g (d + 6) m_H_out 0 [.ref x, .int i] [] ph (fun r ph' => r = .inr ph.length ∧ ph' = ph ++ [.inr (15, [])]) := by
  refine px_ld rfl rfl rfl rfl rfl ?_
  refine px_iflt rfl rfl rfl (fun h => ?_) (fun h => ?_)
  · exact px_tNSEw hfl rfl rfl rfl rfl rfl rfl rfl rfl rfl rfl hm hs rfl ⟨rfl, rfl⟩
  · refine px_ld rfl rfl rfl rfl rfl ?_
    refine px_ld rfl rfl rfl rfl rfl ?_
    refine px_get rfl h0 h1 rfl ?_
    refine px_get rfl h2 h3 rfl ?_
    refine px_iclt rfl rfl rfl (fun h4 => absurd (hn.resolve_left h) (Int32.not_le.mpr h4)) (fun _ => ?_)
    exact px_tNSEw hfl rfl rfl rfl rfl rfl rfl rfl rfl rfl rfl hm hs rfl ⟨rfl, rfl⟩
/-- no such what -/
theorem s_look_none {i : Int32} (hfl : l.flags = flags0) (hn : i < 0 ∨ nI 18 < i) (hm : ph.length < pg_MC) (hs : px_sum ph + 6 ≤ pg_MS) : PW l g (d + 6) m_H_look 0 [.ref x, .int i] [] ph (fun r ph' => r = .inr ph.length ∧ ph' = ph ++ [.inr (13, [])]) := by
  refine px_ld rfl rfl rfl rfl rfl ?_
  refine px_iflt rfl rfl rfl (fun h => ?_) (fun h => ?_)
  · exact px_tIAEw hfl rfl rfl rfl rfl rfl rfl rfl rfl rfl rfl hm hs rfl ⟨rfl, rfl⟩
  · refine px_ld rfl rfl rfl rfl rfl ?_
    refine px_alu rfl rfl rfl ?_
    refine px_icle rfl rfl rfl (fun h4 => absurd (hn.resolve_left h) (Int32.not_lt.mpr h4)) (fun _ => ?_)
    exact px_tIAEw hfl rfl rfl rfl rfl rfl rfl rfl rfl rfl rfl hm hs rfl ⟨rfl, rfl⟩
/-- no row is loaded -/
theorem s_rowAt_none {q : Int64} {me : Nat} {ef : List Value} (h0 : ph[me]? = some (.inr (4, ef))) (h1 : ef[6]? = some (.int 0)) : PW l g d m_Memory_rowAt 0 [.ref me, .long q, px_u, px_u] [] ph (fun r ph' => r = .inl (some (.int (Int32.ofInt (-1)))) ∧ ph' = ph) := by
  refine px_alu rfl rfl rfl ?_
  refine px_st (lv' := [_, _, _, _]) rfl rfl rfl rfl rfl rfl rfl ?_
  refine px_ld rfl rfl rfl rfl rfl ?_
  refine px_ld rfl rfl rfl rfl rfl ?_
  refine px_get rfl h0 h1 rfl ?_
  refine px_icge rfl rfl rfl (fun _ => ?_) (fun h => absurd (by decide) h)
  refine px_alu rfl rfl rfl ?_
  exact px_iret rfl (Or.inl rfl) rfl ⟨rfl, rfl⟩
theorem s_peek_none {q : Int64} {me : Nat} {ef : List Value} (h0 : ph[x]? = some (.inr (0, fs))) (hme : fs[16]? = some (.ref me)) (h1 : ph[me]? = some (.inr (4, ef))) (h2 : ef[6]? = some (.int 0)) : PW l g (d + 2) m_H_peek 0 [.ref x, .long q, px_u] [] ph (fun r ph' => r = .inl (some (.int (Int32.ofInt (-1)))) ∧ ph' = ph) := by
  refine px_ld rfl rfl rfl rfl rfl ?_
  refine px_get rfl h0 hme rfl ?_
  refine px_ld rfl rfl rfl rfl rfl ?_
  refine px_callV (As := [.long q]) (st := []) rfl rfl h1 rfl rfl rfl rfl rfl rfl (Q1 := fun r ph' => r = .inl (some (.int (Int32.ofInt (-1)))) ∧ ph' = ph) ?_ (fun _ _ q => nomatch q.1) rfl (fun r ph' q => ?_)
  · refine px_ld rfl rfl rfl rfl rfl ?_
    refine px_ld rfl rfl rfl rfl rfl ?_
    refine px_callV (As := [.long q]) (st := []) rfl rfl h1 rfl rfl rfl rfl rfl rfl (s_rowAt_none h1 h2) (fun _ _ q => nomatch q.1) rfl (fun r ph' q => ?_)
    obtain ⟨q1, rfl⟩ := q
    cases q1
    refine px_st (lv' := [_, _, _, _, _, _]) rfl rfl rfl rfl rfl rfl rfl ?_
    refine px_ld rfl rfl rfl rfl rfl ?_
    refine px_ifge rfl rfl rfl (fun h => absurd h (by decide)) (fun _ => ?_)
    refine px_alu rfl rfl rfl ?_
    exact px_iret rfl (Or.inl rfl) rfl ⟨rfl, rfl⟩
  · obtain ⟨q1, rfl⟩ := q
    cases q1
    exact px_iret rfl (Or.inl rfl) rfl ⟨rfl, rfl⟩
theorem s_flags_none {q : Int64} {me : Nat} {ef : List Value} (h0 : ph[x]? = some (.inr (0, fs))) (hme : fs[16]? = some (.ref me)) (h1 : ph[me]? = some (.inr (4, ef))) (h2 : ef[6]? = some (.int 0)) : PW l g (d + 2) m_H_flags 0 [.ref x, .long q, px_u] [] ph (fun r ph' => r = .inl (some (.long (-1))) ∧ ph' = ph) := by
  refine px_ld rfl rfl rfl rfl rfl ?_
  refine px_get rfl h0 hme rfl ?_
  refine px_ld rfl rfl rfl rfl rfl ?_
  refine px_callV (As := [.long q]) (st := []) rfl rfl h1 rfl rfl rfl rfl rfl rfl (Q1 := fun r ph' => r = .inl (some (.long (-1))) ∧ ph' = ph) ?_ (fun _ _ q => nomatch q.1) rfl (fun r ph' q => ?_)
  · refine px_ld rfl rfl rfl rfl rfl ?_
    refine px_ld rfl rfl rfl rfl rfl ?_
    refine px_callV (As := [.long q]) (st := []) rfl rfl h1 rfl rfl rfl rfl rfl rfl (s_rowAt_none h1 h2) (fun _ _ q => nomatch q.1) rfl (fun r ph' q => ?_)
    obtain ⟨q1, rfl⟩ := q
    cases q1
    refine px_st (lv' := [_, _, _, _]) rfl rfl rfl rfl rfl rfl rfl ?_
    refine px_ld rfl rfl rfl rfl rfl ?_
    refine px_ifge rfl rfl rfl (fun h => absurd h (by decide)) (fun _ => ?_)
    refine px_ldc2 rfl rfl rfl ?_
    refine px_goto rfl rfl rfl ?_
    exact px_lret rfl rfl rfl ⟨rfl, rfl⟩
  · obtain ⟨q1, rfl⟩ := q
    cases q1
    exact px_lret rfl rfl rfl ⟨rfl, rfl⟩
theorem s_near_none {q : Int64} {me : Nat} {ef : List Value} (h0 : ph[x]? = some (.inr (0, fs))) (hme : fs[16]? = some (.ref me)) (h1 : ph[me]? = some (.inr (4, ef))) (h2 : ef[6]? = some (.int 0)) : PW l g (d + 1) m_H_near 0 [.ref x, .long q, px_u, px_u] [] ph (fun r ph' => r = .inl (some (.long (-1))) ∧ ph' = ph) := by
  refine px_ld rfl rfl rfl rfl rfl ?_
  refine px_get rfl h0 hme rfl ?_
  refine px_ld rfl rfl rfl rfl rfl ?_
  refine px_callV (As := [.long q]) (st := []) rfl rfl h1 rfl rfl rfl rfl rfl rfl (s_rowAt_none h1 h2) (fun _ _ q => nomatch q.1) rfl (fun r ph' q => ?_)
  obtain ⟨q1, rfl⟩ := q
  cases q1
  refine px_ifge rfl rfl rfl (fun h => absurd h (by decide)) (fun _ => ?_)
  refine px_alu rfl rfl rfl ?_
  refine px_goto rfl rfl rfl ?_
  refine px_st (lv' := [_, _, _, _]) rfl rfl rfl rfl rfl rfl rfl ?_
  refine px_ld rfl rfl rfl rfl rfl ?_
  refine px_ifge rfl rfl rfl (fun h => absurd h (by decide)) (fun _ => ?_)
  refine px_ldc2 rfl rfl rfl ?_
  exact px_lret rfl rfl rfl ⟨rfl, rfl⟩
/-! the reference -/
def mt_t (b1 b2 : Int32) : Nat := if b1 = 0 then (if b2 = 0 then 0 else 2) else 1
theorem s_throwing {b1 b2 : Int32} (h0 : ph[m]? = some (.inr (12, mf))) (hl : Nat.blt 0 mf.length = true) : PW l g d m_M_throwing 0 [.ref m, .int b1, .int b2] [] ph (fun r ph' => r = .inl (some (.int (if mt_t b1 b2 = 0 then 0 else 1))) ∧ ph' = ph.set m (.inr (12, mf.set 0 (.int (nI (mt_t b1 b2)))))) := by
  have hlt : m < ph.length := (List.getElem?_eq_some_iff.mp h0).1
  have h9 : 0 < mf.length := Nat.le_of_ble_eq_true hl
  have fin : ∀ t : Nat, t < 3 → (t = mt_t b1 b2) → PW l g d m_M_throwing 18 [.ref m, .int b1, .int b2] [.int (nI t), .ref m] ph (fun r ph' => r = .inl (some (.int (if mt_t b1 b2 = 0 then 0 else 1))) ∧ ph' = ph.set m (.inr (12, mf.set 0 (.int (nI (mt_t b1 b2)))))) := by
    intro t ht he
    refine px_put rfl h0 hl trivial rfl ?_
    refine px_ld rfl rfl rfl rfl rfl ?_
    refine px_get rfl (List.getElem?_set_self hlt) (List.getElem?_set_self h9) rfl ?_
    rw [← he]
    refine px_ifle rfl rfl rfl (fun h => ?_) (fun h => ?_)
    · have h3 : t = 0 := by
        rcases (show t = 0 ∨ t = 1 ∨ t = 2 by omega) with rfl | rfl | rfl
        · rfl
        · exact absurd h (by decide)
        · exact absurd h (by decide)
      rw [if_pos h3]
      refine px_alu rfl rfl rfl ?_
      exact px_iret rfl (Or.inr ⟨rfl, Or.inl rfl⟩) rfl ⟨rfl, rfl⟩
    · have h3 : ¬ t = 0 := by
        intro h4
        subst h4
        exact h (by decide)
      rw [if_neg h3]
      refine px_alu rfl rfl rfl ?_
      refine px_goto rfl rfl rfl ?_
      exact px_iret rfl (Or.inr ⟨rfl, Or.inr rfl⟩) rfl ⟨rfl, rfl⟩
  refine px_ld rfl rfl rfl rfl rfl ?_
  refine px_ld rfl rfl rfl rfl rfl ?_
  refine px_ifeq rfl rfl rfl (fun h1 => ?_) (fun h1 => ?_)
  · refine px_ld rfl rfl rfl rfl rfl ?_
    refine px_ifeq rfl rfl rfl (fun h2 => ?_) (fun h2 => ?_)
    · refine px_alu rfl rfl rfl ?_
      exact fin 0 (by decide) (by unfold mt_t; rw [if_pos h1, if_pos h2])
    · refine px_alu rfl rfl rfl ?_
      refine px_goto rfl rfl rfl ?_
      exact fin 2 (by decide) (by unfold mt_t; rw [if_pos h1, if_neg h2])
  · refine px_alu rfl rfl rfl ?_
    refine px_goto rfl rfl rfl ?_
    exact fin 1 (by decide) (by unfold mt_t; rw [if_neg h1])
theorem s_thrown {t : Int32} (h0 : ph[m]? = some (.inr (12, mf))) (h1 : mf[0]? = some (.int t)) : PW l g d m_M_thrown 0 [.ref m] [] ph (fun r ph' => r = .inl (some (.int t)) ∧ ph' = ph) := by
  refine px_ld rfl rfl rfl rfl rfl ?_
  refine px_get rfl h0 h1 rfl ?_
  exact px_iret rfl (Or.inl rfl) rfl ⟨rfl, rfl⟩
theorem s_rowOf_none {q : Int64} (h0 : ph[m]? = some (.inr (12, mf))) (h1 : mf[102]? = some (.int 0)) : PW l g d m_M_rowOf 0 [.ref m, .long q, px_u, px_u] [] ph (fun r ph' => r = .inl (some (.int (Int32.ofInt (-1)))) ∧ ph' = ph) := by
  refine px_alu rfl rfl rfl ?_
  refine px_st (lv' := [_, _, _, _]) rfl rfl rfl rfl rfl rfl rfl ?_
  refine px_ld rfl rfl rfl rfl rfl ?_
  refine px_ld rfl rfl rfl rfl rfl ?_
  refine px_get rfl h0 h1 rfl ?_
  refine px_icge rfl rfl rfl (fun _ => ?_) (fun h => absurd (by decide) h)
  refine px_alu rfl rfl rfl ?_
  exact px_iret rfl (Or.inl rfl) rfl ⟨rfl, rfl⟩
end SML
