/-! Row -/
abbrev c_Row : Nat := 10
/-- a Row at place a: its bytes at place b, n of them, f; its size; whether it went over -/
def rw_at (ph : px_H) (a b n : Nat) (f : Nat → Int32) (sz ov : Int32) : Prop := ph[a]? = some (.inr (c_Row, [.ref b, .int sz, .int ov])) ∧ ph[b]? = some (.inl (0, n, .inl f))
/-- the byte that a row answers at a place -/
def rw_byte (f : Nat → Int32) (sz i : Int32) : Int32 := if 0 ≤ i ∧ i < sz then f i.toNatClampNeg &&& 255 else 0
/-- a number of m bytes, lowest first, on top of v -/
def rw_num (F : Int32 → Int32) (from_ : Int32) : Nat → Int64 → Int64
  | 0, v => v
  | k + 1, v => rw_num F from_ k ((v <<< ((nI 8).toInt64 &&& 63)) ||| (F (from_ + nI k)).toInt64)
section RW
variable {l : Launch} {g : px_G} {d : Nat} {ph : px_H} {a b n : Nat} {f : Nat → Int32} {sz ov : Int32}
theorem s_Row_clear (h : rw_at ph a b n f sz ov) : PW l g d m_Row_clear 0 [.ref a] [] ph (fun r ph' => r = .inl none ∧ ph' = (ph.set a (.inr (c_Row, [.ref b, .int 0, .int 0])))) := by
  have hlt : a < ph.length := (List.getElem?_eq_some_iff.mp h.1).1
  refine px_ld rfl rfl rfl rfl rfl ?_
  refine px_alu rfl rfl rfl ?_
  refine px_put rfl h.1 rfl trivial rfl ?_
  refine px_ld rfl rfl rfl rfl rfl ?_
  refine px_alu rfl rfl rfl ?_
  refine px_put rfl (fs := [.ref b, .int 0, .int ov]) (by rw [List.getElem?_set_self hlt]; rfl) rfl (Or.inl rfl) rfl ?_
  refine px_vret rfl rfl rfl ⟨rfl, ?_⟩
  rw [List.set_set]
  rfl
theorem s_Row_at {i : Int32} (h : rw_at ph a b n f sz ov) (hs : ∀ j : Nat, nI j < sz → j < n) (hn : n < 2 ^ 31) : PW l g d m_Row_at 0 [.ref a, .int i] [] ph (fun r ph' => ph' = ph ∧ r = .inl (some (.int (rw_byte f sz i)))) := by
  refine px_ld rfl rfl rfl rfl rfl ?_
  refine px_iflt rfl rfl rfl (fun h1 => ?_) (fun h1 => ?_)
  · repeat (first | refine px_alu rfl rfl rfl ?_ | refine px_ld rfl rfl rfl rfl rfl ?_)
    refine px_iret rfl (Or.inl rfl) rfl ⟨rfl, ?_⟩
    rw [rw_byte, if_neg (fun h2 => absurd h1 (Int32.not_lt.mpr h2.1))]
    rfl
  · repeat (first | refine px_alu rfl rfl rfl ?_ | refine px_ld rfl rfl rfl rfl rfl ?_ | refine px_get rfl h.1 rfl rfl ?_)
    refine px_icge rfl rfl rfl (fun h2 => ?_) (fun h2 => ?_)
    · repeat (first | refine px_alu rfl rfl rfl ?_ | refine px_ld rfl rfl rfl rfl rfl ?_)
      refine px_iret rfl (Or.inl rfl) rfl ⟨rfl, ?_⟩
      rw [rw_byte, if_neg (fun h3 => absurd h3.2 (Int32.not_lt.mpr h2))]
      rfl
    · repeat (first | refine px_alu rfl rfl rfl ?_ | refine px_ld rfl rfl rfl rfl rfl ?_ | refine px_get rfl h.1 rfl rfl ?_)
      obtain ⟨j, hj, rfl⟩ := nI_of h1
      have h3 : nI j < sz := Int32.not_le.mp h2
      have h4 := hs j h3
      refine px_bald rfl h.2 rfl (vp_in_nI h4 hn) rfl ?_
      repeat (first | refine px_alu rfl rfl rfl ?_ | refine px_ld rfl rfl rfl rfl rfl ?_ | refine px_goto rfl rfl rfl ?_)
      refine px_iret rfl (Or.inl rfl) rfl ⟨rfl, ?_⟩
      rw [rw_byte, if_pos ⟨Int32.not_lt.mp h1, h3⟩]
      rfl
theorem s_Row_num_loop (h : rw_at ph a b n f sz ov) (hs : ∀ j : Nat, nI j < sz → j < n) (hn : n < 2 ^ 31) {from_ m0 : Int32} : ∀ (m : Nat) (v : Int64), m < 2 ^ 31 → PW l g (d + 1) m_Row_num 7 [.ref a, .int from_, .int m0, .long v, px_u, .int (nI m - nI 1)] [] ph (fun r ph' => ph' = ph ∧ r = .inl (some (.long (rw_num (rw_byte f sz) from_ m v)))) := by
  intro m
  induction m with
  | zero =>
    intro v _
    refine px_ld rfl rfl rfl rfl rfl ?_
    refine px_iflt rfl rfl rfl (fun h1 => ?_) (fun h1 => absurd (by decide) h1)
    refine px_ld rfl rfl rfl rfl rfl ?_
    exact px_lret rfl rfl rfl ⟨rfl, rfl⟩
  | succ m ih =>
    intro v hm
    have e1 : nI (m + 1) - nI 1 = nI m := nI_pred m
    rw [e1]
    refine px_ld rfl rfl rfl rfl rfl ?_
    refine px_iflt rfl rfl rfl (fun h1 => absurd h1 (nI_pos (by omega))) (fun _ => ?_)
    repeat (first | refine px_alu rfl rfl rfl ?_ | refine px_ld rfl rfl rfl rfl rfl ?_)
    refine px_cV1 rfl rfl h.1 rfl rfl rfl rfl rfl rfl rfl (s_Row_at h hs hn) (fun _ _ q => nomatch q.2) (fun r ph' q => ?_)
    obtain ⟨rfl, q2⟩ := q
    cases q2
    repeat (first | refine px_alu rfl rfl rfl ?_)
    refine px_st (lv' := [_, _, _, _, _, _]) rfl rfl rfl rfl rfl rfl rfl ?_
    refine px_iinc (lv' := [_, _, _, _, _, _]) rfl rfl rfl rfl rfl rfl ?_
    refine px_goto rfl rfl rfl ?_
    have e2 : nI m + Int32.ofInt (-1) = nI m - nI 1 := by rw [Int32.sub_eq_add_neg]; rfl
    rw [e2]
    exact ih _ (by omega)
theorem s_Row_num (h : rw_at ph a b n f sz ov) (hs : ∀ j : Nat, nI j < sz → j < n) (hn : n < 2 ^ 31) {from_ : Int32} {m : Nat} (hm : m < 2 ^ 31) : PW l g (d + 1) m_Row_num 0 [.ref a, .int from_, .int (nI m), px_u, px_u, px_u] [] ph (fun r ph' => ph' = ph ∧ r = .inl (some (.long (rw_num (rw_byte f sz) from_ m 0)))) := by
  refine px_alu rfl rfl rfl ?_
  refine px_st (lv' := [_, _, _, _, _, _]) rfl rfl rfl rfl rfl rfl rfl ?_
  repeat (first | refine px_alu rfl rfl rfl ?_ | refine px_ld rfl rfl rfl rfl rfl ?_)
  refine px_st (lv' := [_, _, _, _, _, _]) rfl rfl rfl rfl rfl rfl rfl ?_
  exact s_Row_num_loop h hs hn m 0 hm
end RW
/-! Row.put -/
def rw_by (v : Int64) (k : Nat) : Int32 := (v.toUInt64 >>> ((nI 8 * nI k).toInt64.toUInt64 &&& Int64.toUInt64 63)).toInt64.toInt32.toInt8.toInt32
/-- one byte more: contents, size, whether it went over -/
def rw_put1 (n : Nat) (z : (Nat → Int32) × Nat × Int32) (x : Int32) : (Nat → Int32) × Nat × Int32 := if z.2.1 < n then (upd z.1 z.2.1 x, z.2.1 + 1, z.2.2) else (z.1, z.2.1, 1)
/-- the bytes j, j + 1 .. of v, r of them -/
def rw_puts (n : Nat) (v : Int64) : Nat → Nat → (Nat → Int32) × Nat × Int32 → (Nat → Int32) × Nat × Int32
  | _, 0, z => z
  | j, r + 1, z => rw_puts n v (j + 1) r (rw_put1 n z (rw_by v j))
def rw_w (ph : px_H) (a b n : Nat) (z : (Nat → Int32) × Nat × Int32) : px_H := (ph.set b (.inl (0, n, .inl z.1))).set a (.inr (c_Row, [.ref b, .int (nI z.2.1), .int z.2.2]))
theorem rw_bb (x : Int32) : x.toInt8.toInt32.toInt8.toInt32 = x.toInt8.toInt32 := by
  have h := pk_vb x
  rw [vp_nar_byte] at h
  exact h
section RWP
variable {l : Launch} {g : px_G} {d : Nat} {a b n : Nat}
theorem rw_w_at {ph : px_H} {z : (Nat → Int32) × Nat × Int32} (ha : a < ph.length) (hb : b < ph.length) (hab : a ≠ b) : rw_at (rw_w ph a b n z) a b n z.1 (nI z.2.1) z.2.2 := by
  constructor
  · exact List.getElem?_set_self (by rw [List.length_set]; exact ha)
  · unfold rw_w
    rw [List.getElem?_set_ne hab, List.getElem?_set_self hb]
theorem rw_w_w (ph : px_H) (z z' : (Nat → Int32) × Nat × Int32) (hab : a ≠ b) : rw_w (rw_w ph a b n z) a b n z' = rw_w ph a b n z' := by
  unfold rw_w
  rw [List.set_comm _ _ hab, List.set_set, List.set_set]
theorem s_Row_put_loop {m : Nat} {v : Int64} (hm : m < 2 ^ 31) (hn : n < 2 ^ 31) (hab : a ≠ b) : ∀ (r j : Nat) (ph : px_H) (z : (Nat → Int32) × Nat × Int32), j + r = m → z.2.1 ≤ n → a < ph.length → b < ph.length → PW l g d m_Row_put 3 [.ref a, .int (nI m), .long v, px_u, .int (nI j)] [] (rw_w ph a b n z) (fun o ph' => o = .inl none ∧ ph' = rw_w ph a b n (rw_puts n v j r z)) := by
  intro r
  induction r with
  | zero =>
    intro j ph z hj hz ha hb
    repeat (first | refine px_ld rfl rfl rfl rfl rfl ?_)
    refine px_icge rfl rfl rfl (fun h1 => ?_) (fun h1 => absurd (nI_le (a := m) (b := j) (by omega) (by omega)) h1)
    exact px_vret rfl rfl rfl ⟨rfl, rfl⟩
  | succ r ih =>
    intro j ph z hj hz ha hb
    have h := rw_w_at (n := n) (z := z) ha hb hab
    repeat (first | refine px_ld rfl rfl rfl rfl rfl ?_)
    refine px_icge rfl rfl rfl (fun h1 => absurd h1 (nI_ge (by omega) hm)) (fun _ => ?_)
    repeat (first | refine px_ld rfl rfl rfl rfl rfl ?_ | refine px_get rfl h.1 rfl rfl ?_)
    refine px_alen rfl h.2 rfl rfl ?_
    refine px_icge rfl rfl rfl (fun h1 => ?_) (fun h1 => ?_)
    · have h2 : ¬ z.2.1 < n := fun q => nI_ge q hn h1
      repeat (first | refine px_ld rfl rfl rfl rfl rfl ?_ | refine px_alu rfl rfl rfl ?_)
      refine px_put rfl h.1 rfl (Or.inr rfl) rfl ?_
      refine px_iinc (lv' := [_, _, _, _, _]) rfl rfl rfl rfl rfl rfl ?_
      refine px_goto rfl rfl rfl ?_
      have e1 : rw_put1 n z (rw_by v j) = (z.1, z.2.1, 1) := if_neg h2
      have e2 := ih (j + 1) ph (z.1, z.2.1, 1) (by omega) hz ha hb
      have e3 : (rw_w ph a b n z).set a (.inr (c_Row, [.ref b, .int (nI z.2.1), .int 1])) = rw_w ph a b n (z.1, z.2.1, 1) := by unfold rw_w; rw [List.set_set]
      show PW l g d m_Row_put 3 _ [] ((rw_w ph a b n z).set a (.inr (c_Row, [.ref b, .int (nI z.2.1), .int 1]))) _
      rw [e3]
      simp only [rw_puts, e1]
      rw [show nI j + Int32.ofInt 1 = nI (j + 1) from nI_1 j]
      exact e2
    · have h2 : z.2.1 < n := by
        by_cases q : z.2.1 < n
        · exact q
        · exact absurd (nI_le (a := n) (b := z.2.1) (by omega) (by omega)) h1
      repeat (first | refine px_ld rfl rfl rfl rfl rfl ?_ | refine px_alu rfl rfl rfl ?_ | refine px_get rfl h.1 rfl rfl ?_)
      refine px_bast rfl h.2 rfl (vp_in_nI h2 hn) rfl ?_
      rw [rw_bb, nI_clamp (show z.2.1 < 2 ^ 31 by omega)]
      have h3 : ((rw_w ph a b n z).set b (.inl (0, n, .inl (upd z.1 z.2.1 (rw_by v j)))))[a]? = some (.inr (c_Row, [.ref b, .int (nI z.2.1), .int z.2.2])) := by
        rw [List.getElem?_set_ne (Ne.symm hab)]; exact h.1
      refine px_ld rfl rfl rfl rfl rfl ?_
      refine px_alu rfl rfl rfl ?_
      refine px_get rfl h3 rfl rfl ?_
      repeat (first | refine px_alu rfl rfl rfl ?_)
      refine px_put rfl h3 rfl trivial rfl ?_
      refine px_goto rfl rfl rfl ?_
      refine px_iinc (lv' := [_, _, _, _, _]) rfl rfl rfl rfl rfl rfl ?_
      refine px_goto rfl rfl rfl ?_
      have e1 : rw_put1 n z (rw_by v j) = (upd z.1 z.2.1 (rw_by v j), z.2.1 + 1, z.2.2) := if_pos h2
      have e2 := ih (j + 1) ph (upd z.1 z.2.1 (rw_by v j), z.2.1 + 1, z.2.2) (by omega) h2 ha hb
      have e3 : ((rw_w ph a b n z).set b (.inl (0, n, .inl (upd z.1 z.2.1 (rw_by v j))))).set a (.inr (c_Row, [.ref b, .int (nI (z.2.1 + 1)), .int z.2.2])) = rw_w ph a b n (upd z.1 z.2.1 (rw_by v j), z.2.1 + 1, z.2.2) := by
        unfold rw_w
        rw [List.set_comm _ _ hab, List.set_set, List.set_set]
      simp only [rw_puts, e1]
      rw [show nI j + Int32.ofInt 1 = nI (j + 1) from nI_1 j]
      rw [← e3] at e2
      rw [← nI_add z.2.1 1] at e2
      exact e2
end RWP
theorem px_setself {ph : px_H} {k : Nat} {e : px_PE} (h : ph[k]? = some e) : ph.set k e = ph := by
  apply List.ext_getElem?
  intro j
  rw [List.getElem?_set]
  by_cases hj : k = j
  · subst hj
    rw [if_pos rfl, if_pos (List.getElem?_eq_some_iff.mp h).1, h]
  · rw [if_neg hj]
theorem rw_w_self {ph : px_H} {a b n sz : Nat} {f : Nat → Int32} {ov : Int32} (h : rw_at ph a b n f (nI sz) ov) : rw_w ph a b n (f, sz, ov) = ph := by
  unfold rw_w
  rw [px_setself h.2]
  exact px_setself h.1
theorem rw_ne {ph : px_H} {a b n : Nat} {f : Nat → Int32} {sz ov : Int32} (h : rw_at ph a b n f sz ov) : a ≠ b := by
  intro e
  have h1 := h.1
  rw [e, h.2] at h1
  cases h1
/-- Row.put(m, v) -/
theorem s_Row_put {l : Launch} {g : px_G} {d : Nat} {ph : px_H} {a b n m sz : Nat} {v : Int64} {f : Nat → Int32} {ov : Int32} (h : rw_at ph a b n f (nI sz) ov) (hm : m < 2 ^ 31) (hn : n < 2 ^ 31) (hs : sz ≤ n) : PW l g d m_Row_put 0 [.ref a, .int (nI m), .long v, px_u, px_u] [] ph (fun o ph' => o = .inl none ∧ ph' = rw_w ph a b n (rw_puts n v 0 m (f, sz, ov))) := by
  refine px_alu rfl rfl rfl ?_
  refine px_st (lv' := [_, _, _, _, _]) rfl rfl rfl rfl rfl rfl rfl ?_
  have h1 := s_Row_put_loop (l := l) (g := g) (d := d) (v := v) hm hn (rw_ne h) m 0 ph (f, sz, ov) (by omega) hs (List.getElem?_eq_some_iff.mp h.1).1 (List.getElem?_eq_some_iff.mp h.2).1
  rw [rw_w_self h] at h1
  exact h1
/-- whether a row begins with a constant table, from k on, r bytes -/
def rw_beg (F : Int32 → Int32) (c : Nat → Int32) : Nat → Nat → Bool
  | _, 0 => true
  | k, r + 1 => if F (nI k) = c k then rw_beg F c (k + 1) r else false
def px_bo (x : Bool) : Int32 := if x then 1 else 0
/-- Row.begins of a constant table -/
theorem s_Row_begins_loop {l : Launch} {g : px_G} {d : Nat} {ph : px_H} {a b n j : Nat} {f : Nat → Int32} {sz ov : Int32} (h : rw_at ph a b n f sz ov) (hs : ∀ i : Nat, nI i < sz → i < n) (hn : n < 2 ^ 31) (hj : j < pg_nc) (ht : (px_ct g j).1 = .byte) (hl : (px_ct g j).2.1 < 2 ^ 31) : ∀ (r k : Nat), k + r = (px_ct g j).2.1 → PW l g (d + 1) m_Row_begins 2 [.ref a, .retAddr j, .int (nI k)] [] ph (fun o ph' => ph' = ph ∧ o = .inl (some (.int (px_bo (rw_beg (rw_byte f sz) (px_ct g j).2.2 k r))))) := by
  intro r
  induction r with
  | zero =>
    intro k hk
    repeat (first | refine px_ld rfl rfl rfl rfl rfl ?_ | refine px_clen rfl hj rfl ?_)
    refine px_icge rfl rfl rfl (fun h1 => ?_) (fun h1 => absurd (nI_le (a := (px_ct g j).2.1) (b := k) (by omega) (by omega)) h1)
    refine px_alu rfl rfl rfl ?_
    refine px_iret rfl (Or.inr ⟨rfl, Or.inr rfl⟩) rfl ⟨rfl, ?_⟩
    rfl
  | succ r ih =>
    intro k hk
    repeat (first | refine px_ld rfl rfl rfl rfl rfl ?_ | refine px_clen rfl hj rfl ?_)
    refine px_icge rfl rfl rfl (fun h1 => absurd h1 (nI_ge (by omega) hl)) (fun _ => ?_)
    repeat (first | refine px_ld rfl rfl rfl rfl rfl ?_)
    refine px_cV1 rfl rfl h.1 rfl rfl rfl rfl rfl rfl rfl (s_Row_at h hs hn) (fun _ _ q => nomatch q.2) (fun r ph' q => ?_)
    obtain ⟨rfl, q2⟩ := q
    cases q2
    repeat (first | refine px_ld rfl rfl rfl rfl rfl ?_)
    refine px_cbld rfl hj ht (vp_in_nI (by omega) hl) rfl ?_
    rw [nI_clamp (show k < 2 ^ 31 by omega)]
    refine px_iceq rfl rfl rfl (fun h1 => ?_) (fun h1 => ?_)
    · refine px_iinc (lv' := [_, _, _]) rfl rfl rfl rfl rfl rfl ?_
      refine px_goto rfl rfl rfl ?_
      rw [show nI k + Int32.ofInt 1 = nI (k + 1) from nI_1 k]
      have e1 := ih (k + 1) (by omega)
      rw [rw_beg, if_pos h1]
      exact e1
    · refine px_alu rfl rfl rfl ?_
      refine px_iret rfl (Or.inr ⟨rfl, Or.inl rfl⟩) rfl ⟨rfl, ?_⟩
      rw [rw_beg, if_neg h1]
      rfl
