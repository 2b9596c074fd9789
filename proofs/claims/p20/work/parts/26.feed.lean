/-! feed, of class and reference -/
theorem px_vself {fs : List Value} {k : Nat} {v : Value} (h : fs[k]? = some v) : fs.set k v = fs := by
  apply List.ext_getElem?
  intro j
  rw [List.getElem?_set]
  by_cases hj : k = j
  · subst hj
    rw [if_pos rfl, if_pos (List.getElem?_eq_some_iff.mp h).1, h]
  · rw [if_neg hj]
theorem lw_18 {n : Int32} (h1 : ¬ n < nI 1) (h2 : n ≤ nI 8) : ∃ k, 1 ≤ k ∧ k ≤ 8 ∧ n = nI k := by
  rw [Int32.lt_iff_toInt_lt] at h1
  rw [Int32.le_iff_toInt_le] at h2
  have e1 : (nI 1).toInt = 1 := by decide
  have e8 : (nI 8).toInt = 8 := by decide
  rw [e1] at h1
  rw [e8] at h2
  have h0 : ¬ n < 0 := by
    rw [Int32.lt_iff_toInt_lt]
    have e0 : (0 : Int32).toInt = 0 := by decide
    omega
  obtain ⟨k, hk, rfl⟩ := nI_of h0
  rw [nI_toInt hk] at h1 h2
  exact ⟨k, by omega, by omega, rfl⟩
theorem rw_w_ne {ph : px_H} {a b n k : Nat} {z : (Nat → Int32) × Nat × Int32} (ha : k ≠ a) (hb : k ≠ b) : (rw_w ph a b n z)[k]? = ph[k]? := by
  unfold rw_w
  rw [List.getElem?_set_ne (Ne.symm ha), List.getElem?_set_ne (Ne.symm hb)]
theorem rw_w_len {ph : px_H} {a b n : Nat} {z : (Nat → Int32) × Nat × Int32} : (rw_w ph a b n z).length = ph.length := by
  unfold rw_w
  rw [List.length_set, List.length_set]
theorem rw_puts_sz (n : Nat) (v : Int64) : ∀ (r j : Nat) (z : (Nat → Int32) × Nat × Int32), z.2.1 + r ≤ n → (rw_puts n v j r z).2.1 = z.2.1 + r ∧ (rw_puts n v j r z).2.2 = z.2.2
  | 0, _, _, _ => ⟨rfl, rfl⟩
  | r + 1, j, z, h => by
    have e1 : rw_put1 n z (rw_by v j) = (upd z.1 z.2.1 (rw_by v j), z.2.1 + 1, z.2.2) := if_pos (by omega)
    unfold rw_puts
    rw [e1]
    have ih := rw_puts_sz n v r (j + 1) (upd z.1 z.2.1 (rw_by v j), z.2.1 + 1, z.2.2) (by show z.2.1 + 1 + r ≤ n; omega)
    exact ⟨by rw [ih.1]; show z.2.1 + 1 + r = _; omega, ih.2⟩
section FEED
variable {l : Launch} {g : px_G} {d : Nat} {ph : px_H} {x m t b : Nat} {fs mf : List Value} {f : Nat → Int32} {ov : Int32} {sz : Nat} {v : Int64}
theorem s_feed_bad {n : Int32} (hfl : l.flags = flags0) (hn : n < nI 1 ∨ nI 8 < n) (hm : ph.length < pg_MC) (hs : px_sum ph + 6 ≤ pg_MS) : PW l g (d + 6) m_H_feed 0 [.ref x, .int n, .long v, px_u] [] ph (fun r ph' => r = .inr ph.length ∧ ph' = ph ++ [.inr (13, [])]) := by
  have fin : PW l g (d + 6) m_H_feed 11 [.ref x, .int n, .long v, px_u] [] ph (fun r ph' => r = .inr ph.length ∧ ph' = ph ++ [.inr (13, [])]) :=
    px_tIAE hfl rfl rfl rfl rfl rfl rfl rfl rfl rfl rfl hm hs rfl ⟨rfl, rfl⟩
  refine px_ld rfl rfl rfl rfl rfl ?_
  refine px_alu rfl rfl rfl ?_
  refine px_iclt rfl rfl rfl (fun _ => fin) (fun h1 => ?_)
  refine px_ld rfl rfl rfl rfl rfl ?_
  refine px_alu rfl rfl rfl ?_
  exact px_icle rfl rfl rfl (fun h2 => absurd (hn.resolve_left h1) (Int32.not_lt.mpr h2)) (fun _ => fin)
theorem s_feed_good {k : Nat} (h0 : ph[x]? = some (.inr (0, fs))) (h1 : fs[0]? = some (.ref t)) (hr : rw_at ph t b 8192 f (nI sz) ov) (hk1 : 1 ≤ k) (hk : k ≤ 8) (hsz : sz + k ≤ 8192) : PW l g (d + 1) m_H_feed 0 [.ref x, .int (nI k), .long v, px_u] [] ph (fun r ph' => r = .inl (some (.int (nI (sz + k)))) ∧ ph' = rw_w ph t b 8192 (rw_puts 8192 v 0 k (f, sz, ov))) := by
  have hxt : x ≠ t := by
    intro e
    subst e
    rw [hr.1] at h0
    cases h0
  have hxb : x ≠ b := by
    intro e
    subst e
    rw [hr.2] at h0
    cases h0
  have hps := rw_puts_sz 8192 v k 0 (f, sz, ov) hsz
  have ha := rw_w_at (n := 8192) (z := rw_puts 8192 v 0 k (f, sz, ov)) (List.getElem?_eq_some_iff.mp hr.1).1 (List.getElem?_eq_some_iff.mp hr.2).1 (rw_ne hr)
  refine px_ld rfl rfl rfl rfl rfl ?_
  refine px_alu rfl rfl rfl ?_
  refine px_iclt rfl rfl rfl (fun h2 => absurd h2 (Int32.not_lt.mpr (nI_le (a := 1) (b := k) hk1 (by omega)))) (fun _ => ?_)
  refine px_ld rfl rfl rfl rfl rfl ?_
  refine px_alu rfl rfl rfl ?_
  refine px_icle rfl rfl rfl (fun _ => ?_) (fun h2 => absurd (nI_le (a := k) (b := 8) hk (by decide)) h2)
  refine px_ld rfl rfl rfl rfl rfl ?_
  refine px_get rfl h0 h1 rfl ?_
  refine px_get rfl hr.1 rfl rfl ?_
  refine px_ld rfl rfl rfl rfl rfl ?_
  refine px_alu rfl rfl rfl ?_
  refine px_alu rfl rfl rfl ?_
  rw [nI_add sz k]
  refine px_icle rfl rfl rfl (fun _ => ?_) (fun h2 => absurd (nI_le (a := sz + k) (b := 8192) hsz (by decide)) h2)
  refine px_ld rfl rfl rfl rfl rfl ?_
  refine px_get rfl h0 h1 rfl ?_
  refine px_ld rfl rfl rfl rfl rfl ?_
  refine px_ld rfl rfl rfl rfl rfl ?_
  refine px_callV (As := [.int (nI k), .long v]) (st := []) rfl rfl hr.1 rfl rfl rfl rfl rfl rfl (s_Row_put hr (by omega) (by decide) (by omega)) (fun _ _ q => nomatch q.1) rfl (fun r ph' q => ?_)
  obtain ⟨q1, rfl⟩ := q
  cases q1
  refine px_ld rfl rfl rfl rfl rfl ?_
  refine px_get rfl (by rw [rw_w_ne hxt hxb]; exact h0) h1 rfl ?_
  refine px_get rfl ha.1 rfl rfl ?_
  rw [hps.1]
  exact px_iret rfl (Or.inl rfl) rfl ⟨rfl, rfl⟩
/-! the reference -/
def mb_by (v : Int64) (j : Nat) : Int32 := (v >>> ((nI 8 * nI j).toInt64 &&& 63)).toInt32.toInt8.toInt32
def mt_puts (v : Int64) : Nat → Nat → (Nat → Int32) × Nat → (Nat → Int32) × Nat
  | _, 0, z => z
  | j, r + 1, z => mt_puts v (j + 1) r (upd z.1 z.2 (mb_by v j), z.2 + 1)
def mt_w (ph : px_H) (m tb : Nat) (mf : List Value) (z : (Nat → Int32) × Nat) : px_H := (ph.set tb (.inl (0, 8192, .inl z.1))).set m (.inr (12, mf.set 2 (.int (nI z.2))))
theorem mt_w_w (ph : px_H) (m tb : Nat) (mf : List Value) (z z' : (Nat → Int32) × Nat) (h : m ≠ tb) : (mt_w ph m tb mf z).set tb (.inl (0, 8192, .inl z'.1)) = (ph.set tb (.inl (0, 8192, .inl z'.1))).set m (.inr (12, mf.set 2 (.int (nI z.2)))) := by
  unfold mt_w
  rw [List.set_comm _ _ h, List.set_set]
theorem s_M_feed_loop {k tb : Nat} {bd : Int32} (hk : k ≤ 8) (hmt : m ≠ tb) (hl : 2 < mf.length) (htb : mf[1]? = some (.ref tb)) : ∀ (r j : Nat) (ph : px_H) (z : (Nat → Int32) × Nat), j + r = k → z.2 + r ≤ 8192 → m < ph.length → tb < ph.length → PW l g d m_M_feed 54 [.ref m, .int (nI k), .long v, px_u, .int bd, .int (nI j)] [] (mt_w ph m tb mf z) (fun o ph' => o = .inl (some (.int (nI (z.2 + r)))) ∧ ph' = mt_w ph m tb mf (mt_puts v j r z)) := by
  intro r
  induction r with
  | zero =>
    intro j ph z hj hz hm htl
    have e0 : (mt_w ph m tb mf z)[m]? = some (.inr (12, mf.set 2 (.int (nI z.2)))) := List.getElem?_set_self (by rw [List.length_set]; exact hm)
    refine px_ld rfl rfl rfl rfl rfl ?_
    refine px_ld rfl rfl rfl rfl rfl ?_
    refine px_icge rfl rfl rfl (fun _ => ?_) (fun h1 => absurd (nI_le (a := k) (b := j) (by omega) (by omega)) h1)
    refine px_ld rfl rfl rfl rfl rfl ?_
    refine px_get rfl e0 (List.getElem?_set_self hl) rfl ?_
    exact px_iret rfl (Or.inl rfl) rfl ⟨rfl, rfl⟩
  | succ r ih =>
    intro j ph z hj hz hm htl
    have e0 : (mt_w ph m tb mf z)[m]? = some (.inr (12, mf.set 2 (.int (nI z.2)))) := List.getElem?_set_self (by rw [List.length_set]; exact hm)
    have e1 : (mt_w ph m tb mf z)[tb]? = some (.inl (0, 8192, .inl z.1)) := by
      unfold mt_w
      rw [List.getElem?_set_ne hmt, List.getElem?_set_self htl]
    refine px_ld rfl rfl rfl rfl rfl ?_
    refine px_ld rfl rfl rfl rfl rfl ?_
    refine px_icge rfl rfl rfl (fun h1 => absurd h1 (nI_ge (by omega) (by omega))) (fun _ => ?_)
    refine px_ld rfl rfl rfl rfl rfl ?_
    refine px_get rfl e0 (by rw [List.getElem?_set_ne (by decide)]; exact htb) rfl ?_
    refine px_ld rfl rfl rfl rfl rfl ?_
    refine px_get rfl e0 (List.getElem?_set_self hl) rfl ?_
    repeat (first | refine px_ld rfl rfl rfl rfl rfl ?_ | refine px_alu rfl rfl rfl ?_)
    refine px_bast rfl e1 rfl (vp_in_nI (show z.2 < 8192 by omega) (by decide)) rfl ?_
    rw [rw_bb, nI_clamp (show z.2 < 2 ^ 31 by omega)]
    have e2 : ((mt_w ph m tb mf z).set tb (.inl (0, 8192, .inl (upd z.1 z.2 (mb_by v j)))))[m]? = some (.inr (12, mf.set 2 (.int (nI z.2)))) := by
      rw [List.getElem?_set_ne (Ne.symm hmt)]; exact e0
    refine px_ld rfl rfl rfl rfl rfl ?_
    refine px_alu rfl rfl rfl ?_
    refine px_get rfl e2 (List.getElem?_set_self hl) rfl ?_
    repeat (first | refine px_alu rfl rfl rfl ?_)
    refine px_put rfl e2 (by rw [List.length_set]; exact Nat.ble_eq_true_of_le hl) trivial rfl ?_
    refine px_iinc (lv' := [_, _, _, _, _, _]) rfl rfl rfl rfl rfl rfl ?_
    refine px_goto rfl rfl rfl ?_
    rw [show nI j + Int32.ofInt 1 = nI (j + 1) from nI_1 j]
    have e3 : ((mt_w ph m tb mf z).set tb (.inl (0, 8192, .inl (upd z.1 z.2 (mb_by v j))))).set m (.inr (12, (mf.set 2 (.int (nI z.2))).set 2 (.int (nI z.2 + nI 1)))) = mt_w ph m tb mf (upd z.1 z.2 (mb_by v j), z.2 + 1) := by
      rw [mt_w_w ph m tb mf z (upd z.1 z.2 (mb_by v j), z.2 + 1) hmt, List.set_set, List.set_set, nI_add z.2 1]
      rfl
    have e4 := ih (j + 1) ph (upd z.1 z.2 (mb_by v j), z.2 + 1) (by omega) (by show z.2 + 1 + r ≤ 8192; omega) hm htl
    rw [← e3] at e4
    have e5 : z.2 + 1 + r = z.2 + (r + 1) := by omega
    rw [show (upd z.1 z.2 (mb_by v j), z.2 + 1).2 + r = z.2 + (r + 1) from e5] at e4
    exact e4
theorem s_M_feed_bad {n : Int32} (h0 : ph[m]? = some (.inr (12, mf))) (hl : Nat.blt 0 mf.length = true) (hn : n < nI 1 ∨ nI 8 < n) : PW l g (d + 1) m_M_feed 0 [.ref m, .int n, .long v, px_u, px_u, px_u] [] ph (fun r ph' => r = .inl (some (.int 0)) ∧ ph' = mt_set ph m mf 1) := by
  have fin : PW l g (d + 1) m_M_feed 11 [.ref m, .int n, .long v, px_u, px_u, px_u] [] ph (fun r ph' => r = .inl (some (.int 0)) ∧ ph' = mt_set ph m mf 1) := by
    refine px_alu rfl rfl rfl ?_
    refine px_goto rfl rfl rfl ?_
    refine px_st (lv' := [_, _, _, _, _, _]) rfl rfl rfl rfl rfl rfl rfl ?_
    refine px_ld rfl rfl rfl rfl rfl ?_
    refine px_ld rfl rfl rfl rfl rfl ?_
    refine px_ld rfl rfl rfl rfl rfl ?_
    refine px_ifne rfl rfl rfl (fun _ => ?_) (fun h => absurd h (by decide))
    refine px_alu rfl rfl rfl ?_
    refine px_callV (As := [.int (nI 1), .int (nI 0)]) (st := []) rfl rfl h0 rfl rfl rfl rfl rfl rfl (s_throwing h0 hl) (fun _ _ q => nomatch q.1) rfl (fun r ph' q => ?_)
    obtain ⟨q1, rfl⟩ := q
    cases q1
    refine px_ifeq rfl rfl rfl (fun h => absurd h (by decide)) (fun _ => ?_)
    refine px_alu rfl rfl rfl ?_
    exact px_iret rfl (Or.inl rfl) rfl ⟨rfl, rfl⟩
  refine px_ld rfl rfl rfl rfl rfl ?_
  refine px_alu rfl rfl rfl ?_
  refine px_iclt rfl rfl rfl (fun _ => fin) (fun h1 => ?_)
  refine px_ld rfl rfl rfl rfl rfl ?_
  refine px_alu rfl rfl rfl ?_
  exact px_icle rfl rfl rfl (fun h2 => absurd (hn.resolve_left h1) (Int32.not_lt.mpr h2)) (fun _ => fin)
theorem s_M_feed_good {k tb : Nat} (h0 : ph[m]? = some (.inr (12, mf))) (hl : 2 < mf.length) (hts : mf[2]? = some (.int (nI sz))) (htb : mf[1]? = some (.ref tb)) (hb : ph[tb]? = some (.inl (0, 8192, .inl f))) (hk1 : 1 ≤ k) (hk : k ≤ 8) (hsz : sz + k ≤ 8192) : PW l g (d + 1) m_M_feed 0 [.ref m, .int (nI k), .long v, px_u, px_u, px_u] [] ph (fun r ph' => r = .inl (some (.int (nI (sz + k)))) ∧ ph' = mt_w ph m tb (mf.set 0 (.int (nI 0))) (mt_puts v 0 k (f, sz))) := by
  have hmt : m ≠ tb := by
    intro e
    subst e
    rw [hb] at h0
    cases h0
  have hlt : m < ph.length := (List.getElem?_eq_some_iff.mp h0).1
  have htl : tb < ph.length := (List.getElem?_eq_some_iff.mp hb).1
  have hl0 : Nat.blt 0 mf.length = true := Nat.ble_eq_true_of_le (by omega)
  refine px_ld rfl rfl rfl rfl rfl ?_
  refine px_alu rfl rfl rfl ?_
  refine px_iclt rfl rfl rfl (fun h2 => absurd h2 (Int32.not_lt.mpr (nI_le (a := 1) (b := k) hk1 (by omega)))) (fun _ => ?_)
  refine px_ld rfl rfl rfl rfl rfl ?_
  refine px_alu rfl rfl rfl ?_
  refine px_icle rfl rfl rfl (fun _ => ?_) (fun h2 => absurd (nI_le (a := k) (b := 8) hk (by decide)) h2)
  refine px_alu rfl rfl rfl ?_
  refine px_st (lv' := [_, _, _, _, _, _]) rfl rfl rfl rfl rfl rfl rfl ?_
  refine px_ld rfl rfl rfl rfl rfl ?_
  refine px_ld rfl rfl rfl rfl rfl ?_
  refine px_ld rfl rfl rfl rfl rfl ?_
  refine px_ifne rfl rfl rfl (fun h => absurd rfl h) (fun _ => ?_)
  refine px_ld rfl rfl rfl rfl rfl ?_
  refine px_get rfl h0 hts rfl ?_
  refine px_ld rfl rfl rfl rfl rfl ?_
  refine px_alu rfl rfl rfl ?_
  refine px_alu rfl rfl rfl ?_
  rw [nI_add sz k]
  refine px_icle rfl rfl rfl (fun _ => ?_) (fun h2 => absurd (nI_le (a := sz + k) (b := 8192) hsz (by decide)) h2)
  refine px_alu rfl rfl rfl ?_
  refine px_callV (As := [.int (nI 0), .int (nI 0)]) (st := []) rfl rfl h0 rfl rfl rfl rfl rfl rfl (s_throwing h0 hl0) (fun _ _ q => nomatch q.1) rfl (fun r ph' q => ?_)
  obtain ⟨q1, rfl⟩ := q
  cases q1
  refine px_ifeq rfl rfl rfl (fun _ => ?_) (fun h => absurd (by decide) h)
  refine px_alu rfl rfl rfl ?_
  refine px_st (lv' := [_, _, _, _, _, _]) rfl rfl rfl rfl rfl rfl rfl ?_
  have e1 := s_M_feed_loop (l := l) (g := g) (d := d + 1) (v := v) (bd := nI 0) (mf := mf.set 0 (.int (nI 0))) hk hmt (by rw [List.length_set]; exact hl) (by rw [List.getElem?_set_ne (by decide)]; exact htb) k 0 ph (f, sz) (by omega) hsz hlt htl
  have e2 : mt_w ph m tb (mf.set 0 (.int (nI 0))) (f, sz) = ph.set m (.inr (12, mf.set 0 (.int (nI (mt_t (nI 0) (nI 0)))))) := by
    unfold mt_w
    rw [px_setself hb]
    congr 3
    apply px_vself
    rw [List.getElem?_set_ne (by decide)]
    exact hts
  rw [e2] at e1
  exact e1
end FEED
