/-! p1: every call on fresh objects -/
section P1
variable {l : Launch} {g : px_G} {d n m o : Nat} {z : px_Sz} {ph : px_H} {K : px_H → Prop} {fs mf : List Value}
theorem px_app {e : px_PE} {k : Nat} {c : px_PE} (h : ph[k]? = some c) : (ph ++ [e])[k]? = some c := by
  rw [List.getElem?_append_left (List.getElem?_eq_some_iff.mp h).1]; exact h
theorem px_last9 (e : px_PE) : (ph ++ [e])[ph.length]? = some e := by
  rw [List.getElem?_append_right (Nat.le_refl _), Nat.sub_self]; rfl
theorem mt_set_ne {k t : Nat} (h : k ≠ m) : (mt_set ph m mf t)[k]? = ph[k]? := List.getElem?_set_ne (Ne.symm h)
/-- the class refused with k = t, the reference refuses with t -/
theorem fr_int {mm ce t : Nat} {lvM : px_L} {k : Int32} {fo : Nat → Int64} (kk : ∀ ph3, K ph3) (hm : ph[m]? = some (.inr (12, mf))) (ho : ph[o]? = some (.inl (2, 1, .inr (.inl fo)))) (hl : Nat.blt 0 mf.length = true) (hk : k = nI t) (hk0 : ¬ k = 0)
    (hmod : PW l g d mm 0 lvM [] (ph ++ [.inr (ce, [])]) (fun r ph2 => r = .inl (some (.int 0)) ∧ ph2 = mt_set (ph ++ [.inr (ce, [])]) m mf t)) :
    ∃ k' : Int32, (.inl (some (.int k)) : Option Value ⊕ Nat) = .inl (some (.int k')) ∧ (∃ mf, (ph ++ [.inr (ce, [])])[m]? = some (.inr (12, mf))) ∧ PW l g d mm 0 lvM [] (ph ++ [.inr (ce, [])]) (fun r ph2 => ∃ b : Int32, r = .inl (some (.int b)) ∧ (∃ mf, ph2[m]? = some (.inr (12, mf))) ∧ PW l g d m_M_thrown 0 [.ref m] [] ph2 (fun r ph3 => r = .inl (some (.int k')) ∧ (∃ f, ph3[o]? = some (.inl (2, 1, .inr (.inl f))) ∧ (k' = 0 → f 0 = b.toInt64)) ∧ K ph3)) := by
  have h9 : 0 < mf.length := Nat.le_of_ble_eq_true hl
  have hne : o ≠ m := by
    intro e
    subst e
    rw [hm] at ho
    cases ho
  refine ⟨k, rfl, ⟨mf, px_app hm⟩, hmod.post (fun r ph2 q => ?_)⟩
  obtain ⟨rfl, rfl⟩ := q
  have e1 : (mt_set (ph ++ [.inr (ce, [])]) m mf t)[m]? = some (.inr (12, mf.set 0 (.int (nI t)))) := List.getElem?_set_self (List.getElem?_eq_some_iff.mp (px_app hm)).1
  refine ⟨0, rfl, ⟨_, e1⟩, (s_thrown e1 (List.getElem?_set_self h9)).post (fun r ph3 q => ?_)⟩
  obtain ⟨rfl, rfl⟩ := q
  exact ⟨by rw [hk], ⟨fo, by rw [mt_set_ne hne]; exact px_app ho, fun h => absurd h hk0⟩, kk _⟩
theorem fr_long {mm ce t : Nat} {lvM : px_L} {k : Int32} {fo : Nat → Int64} (kk : ∀ ph3, K ph3) (hm : ph[m]? = some (.inr (12, mf))) (ho : ph[o]? = some (.inl (2, 1, .inr (.inl fo)))) (hl : Nat.blt 0 mf.length = true) (hk : k = nI t) (hk0 : ¬ k = 0)
    (hmod : PW l g d mm 0 lvM [] (ph ++ [.inr (ce, [])]) (fun r ph2 => r = .inl (some (.long 0)) ∧ ph2 = mt_set (ph ++ [.inr (ce, [])]) m mf t)) :
    ∃ k' : Int32, (.inl (some (.int k)) : Option Value ⊕ Nat) = .inl (some (.int k')) ∧ (∃ mf, (ph ++ [.inr (ce, [])])[m]? = some (.inr (12, mf))) ∧ PW l g d mm 0 lvM [] (ph ++ [.inr (ce, [])]) (fun r ph2 => ∃ b : Int64, r = .inl (some (.long b)) ∧ (∃ mf, ph2[m]? = some (.inr (12, mf))) ∧ PW l g d m_M_thrown 0 [.ref m] [] ph2 (fun r ph3 => r = .inl (some (.int k')) ∧ (∃ f, ph3[o]? = some (.inl (2, 1, .inr (.inl f))) ∧ (k' = 0 → f 0 = b)) ∧ K ph3)) := by
  have h9 : 0 < mf.length := Nat.le_of_ble_eq_true hl
  have hne : o ≠ m := by
    intro e
    subst e
    rw [hm] at ho
    cases ho
  refine ⟨k, rfl, ⟨mf, px_app hm⟩, hmod.post (fun r ph2 q => ?_)⟩
  obtain ⟨rfl, rfl⟩ := q
  have e1 : (mt_set (ph ++ [.inr (ce, [])]) m mf t)[m]? = some (.inr (12, mf.set 0 (.int (nI t)))) := List.getElem?_set_self (List.getElem?_eq_some_iff.mp (px_app hm)).1
  refine ⟨0, rfl, ⟨_, e1⟩, (s_thrown e1 (List.getElem?_set_self h9)).post (fun r ph3 q => ?_)⟩
  obtain ⟨rfl, rfl⟩ := q
  exact ⟨by rw [hk], ⟨fo, by rw [mt_set_ne hne]; exact px_app ho, fun h => absurd h hk0⟩, kk _⟩
theorem fr_bool {mm ce t : Nat} {lvM : px_L} {k : Int32} {fo : Nat → Int64} (kk : ∀ ph3, K ph3) (hm : ph[m]? = some (.inr (12, mf))) (ho : ph[o]? = some (.inl (2, 1, .inr (.inl fo)))) (hl : Nat.blt 0 mf.length = true) (hk : k = nI t) (hk0 : ¬ k = 0)
    (hmod : PW l g d mm 0 lvM [] (ph ++ [.inr (ce, [])]) (fun r ph2 => r = .inl (some (.int 0)) ∧ ph2 = mt_set (ph ++ [.inr (ce, [])]) m mf t)) :
    ∃ k' : Int32, (.inl (some (.int k)) : Option Value ⊕ Nat) = .inl (some (.int k')) ∧ (∃ mf, (ph ++ [.inr (ce, [])])[m]? = some (.inr (12, mf))) ∧ PW l g d mm 0 lvM [] (ph ++ [.inr (ce, [])]) (fun r ph2 => ∃ b : Int32, r = .inl (some (.int b)) ∧ (∃ mf, ph2[m]? = some (.inr (12, mf))) ∧ PW l g d m_M_thrown 0 [.ref m] [] ph2 (fun r ph3 => r = .inl (some (.int k')) ∧ (∃ f, ph3[o]? = some (.inl (2, 1, .inr (.inl f))) ∧ (k' = 0 → f 0 = (if b = 0 then 0 else 1))) ∧ K ph3)) := by
  obtain ⟨k', h1, h2, h3⟩ := fr_int (K := K) kk hm ho hl hk hk0 hmod
  refine ⟨k', h1, h2, h3.post (fun r ph2 q => ?_)⟩
  obtain ⟨b, q1, q2, q3⟩ := q
  refine ⟨b, q1, q2, q3.post (fun r ph3 q => ?_)⟩
  obtain ⟨w1, ⟨f, w2, w3⟩, w4⟩ := q
  refine ⟨w1, ⟨f, w2, fun h => ?_⟩, w4⟩
  cases h1
  exact absurd h hk0
/-- give, with no name on the tape -/
theorem fk_g_ok {v : Int64} (hfl : l.flags = flags0) (hgk : px_gk g) (hd : 38 ≤ d) (h : fk_g n z m o = true) (hR : px_Rz z ph) (h0 : ph[0]? = some (.inr (0, fs))) (kk : ∀ ph3, K ph3) :
    PW l g (d + 8) m_L_give 0 [.ref 0, .long v, px_u, .ref o, px_u] [] ph (fun r ph1 => ∃ k : Int32, r = .inl (some (.int k)) ∧ (∃ mf, ph1[m]? = some (.inr (12, mf))) ∧ PW l g (d + 8) m_M_give 0 [.ref m, .long v, px_u, px_u, px_u, px_u, px_u] [] ph1 (fun r ph2 => ∃ b : Int32, r = .inl (some (.int b)) ∧ (∃ mf, ph2[m]? = some (.inr (12, mf))) ∧ PW l g (d + 8) m_M_thrown 0 [.ref m] [] ph2 (fun r ph3 => r = .inl (some (.int k)) ∧ (∃ f, ph3[o]? = some (.inl (2, 1, .inr (.inl f))) ∧ (k = 0 → f 0 = b.toInt64)) ∧ K ph3))) := by
  unfold fk_g at h
  split at h
  · rename_i r z1 h1
    simp only [Bool.and_eq_true, beq_iff_eq] at h
    obtain ⟨rfl, ok, i1, h⟩ := h
    split at h
    · rename_i b z2 h2
      simp only [Bool.and_eq_true, beq_iff_eq] at h
      obtain ⟨rfl, j1, j2⟩ := h
      obtain ⟨a1, a2, a3⟩ := fz_ok_of ok
      have hH : PW l g (d + 7) m_H_give 0 [.ref 0, .long v, px_u, px_u] [] ph (fun r ph' => ∃ ph1, px_Rz z1 ph1 ∧ r = .inr ph1.length ∧ ph' = ph1 ++ [.inr (13, [])]) := by
        refine px_ld rfl rfl rfl rfl rfl ?_
        refine px_callV (As := []) (st := []) rfl rfl h0 rfl rfl rfl rfl rfl rfl (px_ev hfl hgk h1 hR (show 38 ≤ d + 6 by omega) rfl) (fun _ _ q => nomatch q.1) rfl (fun r ph1 q => ?_)
        obtain ⟨q1, hR1⟩ := q
        cases q1
        refine px_st (lv' := [_, _, _, _]) rfl rfl rfl rfl rfl rfl rfl ?_
        refine px_ld rfl rfl rfl rfl rfl ?_
        refine px_ifne rfl rfl rfl (fun h => absurd rfl h) (fun _ => ?_)
        have hr := hR1
        obtain ⟨b1, b2, b3, b4⟩ := hr
        exact px_tIAE hfl rfl rfl rfl rfl rfl rfl rfl rfl rfl rfl (by omega) (by omega) rfl ⟨ph1, hR1, rfl, rfl⟩
      refine wr_give h0 (hH.post (fun r ph' q => Or.inr ?_))
      obtain ⟨ph1, hR1, rfl, rfl⟩ := q
      refine ⟨ph1.length, 13, rfl, px_last9 _, Or.inl ⟨rfl, ?_⟩⟩
      have hRx : px_Rz (fx z1 13) (ph1 ++ [.inr (13, [])]) := hR1.push a1 a2 a3 rfl
      obtain ⟨mf1, m1⟩ := fi_of i1 hRx
      refine ⟨1, rfl, ⟨mf1, m1⟩, ?_⟩
      obtain ⟨ts, hts⟩ := fany_of j1
      refine px_ld rfl rfl rfl rfl rfl ?_
      refine px_callV (As := []) (st := []) rfl rfl m1 rfl rfl rfl rfl rfl rfl (px_ev hfl hgk h2 hRx (show 38 ≤ d + 7 by omega) rfl) (fun _ _ q => nomatch q.1) rfl (fun r ph2 q => ?_)
      obtain ⟨q1, hR2⟩ := q
      cases q1
      obtain ⟨mf2, m2, m3⟩ := fg_of hts hR2
      have hl2 : 2 < mf2.length := (List.getElem?_eq_some_iff.mp m3).1
      have hlt : m < ph2.length := (List.getElem?_eq_some_iff.mp m2).1
      unfold flo at j2
      split at j2
      · rename_i fo ho
        rw [hR2.1] at ho
        have hne : o ≠ m := by
          intro e
          subst e
          rw [m2] at ho
          cases ho
        refine px_ifne rfl rfl rfl (fun h => absurd rfl h) (fun _ => ?_)
        refine px_alu rfl rfl rfl ?_
        refine px_goto rfl rfl rfl ?_
        refine px_st (lv' := [_, _, _, _, _, _, _]) rfl rfl rfl rfl rfl rfl rfl ?_
        refine px_ld rfl rfl rfl rfl rfl ?_
        refine px_ifne rfl rfl rfl (fun _ => ?_) (fun h => absurd h (by decide))
        refine px_alu rfl rfl rfl ?_
        refine px_st (lv' := [_, _, _, _, _, _, _]) rfl rfl rfl rfl rfl rfl rfl ?_
        refine px_ld rfl rfl rfl rfl rfl ?_
        refine px_get rfl m2 m3 rfl ?_
        refine px_st (lv' := [_, _, _, _, _, _, _]) rfl rfl rfl rfl rfl rfl rfl ?_
        refine px_ld rfl rfl rfl rfl rfl ?_
        refine px_alu rfl rfl rfl ?_
        refine px_put rfl m2 (Nat.ble_eq_true_of_le hl2) trivial rfl ?_
        have e3 : (ph2.set m (.inr (12, mf2.set 2 (.int (nI 0)))))[m]? = some (.inr (12, mf2.set 2 (.int (nI 0)))) := List.getElem?_set_self hlt
        have hl3 : Nat.blt 0 (mf2.set 2 (.int (nI 0))).length = true := Nat.ble_eq_true_of_le (by rw [List.length_set]; omega)
        refine px_ld rfl rfl rfl rfl rfl ?_
        refine px_ld rfl rfl rfl rfl rfl ?_
        refine px_ld rfl rfl rfl rfl rfl ?_
        refine px_callV (As := [.int (nI 1), .int (nI 0)]) (st := []) rfl rfl e3 rfl rfl rfl rfl rfl rfl (s_throwing e3 hl3) (fun _ _ q => nomatch q.1) rfl (fun r ph4 q => ?_)
        obtain ⟨q1, rfl⟩ := q
        cases q1
        refine px_ifeq rfl rfl rfl (fun h => absurd h (by decide)) (fun _ => ?_)
        refine px_alu rfl rfl rfl ?_
        have e4 : ((ph2.set m (.inr (12, mf2.set 2 (.int (nI 0))))).set m (.inr (12, (mf2.set 2 (.int (nI 0))).set 0 (.int (nI (mt_t (nI 1) (nI 0)))))))[m]? = some (.inr (12, (mf2.set 2 (.int (nI 0))).set 0 (.int (nI (mt_t (nI 1) (nI 0)))))) := List.getElem?_set_self (by rw [List.length_set]; exact hlt)
        refine px_iret rfl (Or.inl rfl) rfl ⟨0, rfl, ⟨_, e4⟩, (s_thrown e4 (List.getElem?_set_self (Nat.le_of_ble_eq_true hl3))).post (fun r ph5 q => ?_)⟩
        obtain ⟨rfl, rfl⟩ := q
        exact ⟨rfl, ⟨fo, by rw [List.getElem?_set_ne (Ne.symm hne), List.getElem?_set_ne (Ne.symm hne)]; exact ho, fun h => absurd h (by decide)⟩, kk _⟩
      · cases j2
    · cases h
  · cases h
end P1
