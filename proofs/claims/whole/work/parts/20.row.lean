/-! Row -/
abbrev c_Row : Nat := 10
/-- a Row at place a: its bytes at place b, n of them, f; its size; whether it went over -/
def rw_at (ph : px_H) (a b n : Nat) (f : Nat → Int32) (sz ov : Int32) : Prop := ph[a]? = some (.inr (c_Row, [.ref b, .int sz, .int ov])) ∧ ph[b]? = some (.inl (0, n, .inl f))
/-- the byte that a row answers at a place -/
def rw_byte (f : Nat → Int32) (sz i : Int32) : Int32 := if 0 ≤ i ∧ i < sz then f i.toNatClampNeg &&& 255 else 0
/-- a number of m bytes, lowest first, on top of v -/
def rw_num (F : Int32 → Int32) (from_ : Int32) : Nat → Int64 → Int64
  | 0, v => v
  | k + 1, v => rw_num F from_ k ((v <<< ((nI 8).toInt64 &&& 63)) ||| (F (from_ + nI k)).toInt64)
section RW
variable {l : Launch} {g : px_G} {d : Nat} {ph : px_H} {a b n : Nat} {f : Nat → Int32} {sz ov : Int32}
theorem s_Row_clear (h : rw_at ph a b n f sz ov) : PW l g d m_Row_clear 0 [.ref a] [] ph (fun r ph' => r = .inl none ∧ ph' = (ph.set a (.inr (c_Row, [.ref b, .int 0, .int 0])))) := by
  have hlt : a < ph.length := (List.getElem?_eq_some_iff.mp h.1).1
  refine px_ld rfl rfl rfl rfl rfl ?_
  refine px_alu rfl rfl rfl ?_
  refine px_put rfl h.1 rfl trivial rfl ?_
  refine px_ld rfl rfl rfl rfl rfl ?_
  refine px_alu rfl rfl rfl ?_
  refine px_put rfl (fs := [.ref b, .int 0, .int ov]) (by rw [List.getElem?_set_self hlt]; rfl) rfl (Or.inl rfl) rfl ?_
  refine px_vret rfl rfl rfl ⟨rfl, ?_⟩
  rw [List.set_set]
  rfl
theorem s_Row_at {i : Int32} (h : rw_at ph a b n f sz ov) (hs : ∀ j : Nat, nI j < sz → j < n) (hn : n < 2 ^ 31) : PW l g d m_Row_at 0 [.ref a, .int i] [] ph (fun r ph' => ph' = ph ∧ r = .inl (some (.int (rw_byte f sz i)))) := by
  refine px_ld rfl rfl rfl rfl rfl ?_
  refine px_iflt rfl rfl rfl (fun h1 => ?_) (fun h1 => ?_)
  · repeat (first | refine px_alu rfl rfl rfl ?_ | refine px_ld rfl rfl rfl rfl rfl ?_)
    refine px_iret rfl (Or.inl rfl) rfl ⟨rfl, ?_⟩
    rw [rw_byte, if_neg (fun h2 => absurd h1 (Int32.not_lt.mpr h2.1))]
    rfl
  · repeat (first | refine px_alu rfl rfl rfl ?_ | refine px_ld rfl rfl rfl rfl rfl ?_ | refine px_get rfl h.1 rfl rfl ?_)
    refine px_icge rfl rfl rfl (fun h2 => ?_) (fun h2 => ?_)
    · repeat (first | refine px_alu rfl rfl rfl ?_ | refine px_ld rfl rfl rfl rfl rfl ?_)
      refine px_iret rfl (Or.inl rfl) rfl ⟨rfl, ?_⟩
      rw [rw_byte, if_neg (fun h3 => absurd h3.2 (Int32.not_lt.mpr h2))]
      rfl
    · repeat (first | refine px_alu rfl rfl rfl ?_ | refine px_ld rfl rfl rfl rfl rfl ?_ | refine px_get rfl h.1 rfl rfl ?_)
      obtain ⟨j, hj, rfl⟩ := nI_of h1
      have h3 : nI j < sz := Int32.not_le.mp h2
      have h4 := hs j h3
      refine px_bald rfl h.2 rfl (vp_in_nI h4 hn) rfl ?_
      repeat (first | refine px_alu rfl rfl rfl ?_ | refine px_ld rfl rfl rfl rfl rfl ?_ | refine px_goto rfl rfl rfl ?_)
      refine px_iret rfl (Or.inl rfl) rfl ⟨rfl, ?_⟩
      rw [rw_byte, if_pos ⟨Int32.not_lt.mp h1, h3⟩]
      rfl
theorem s_Row_num_loop (h : rw_at ph a b n f sz ov) (hs : ∀ j : Nat, nI j < sz → j < n) (hn : n < 2 ^ 31) {from_ m0 : Int32} : ∀ (m : Nat) (v : Int64), m < 2 ^ 31 → PW l g (d + 1) m_Row_num 7 [.ref a, .int from_, .int m0, .long v, px_u, .int (nI m - nI 1)] [] ph (fun r ph' => ph' = ph ∧ r = .inl (some (.long (rw_num (rw_byte f sz) from_ m v)))) := by
  intro m
  induction m with
  | zero =>
    intro v _
    refine px_ld rfl rfl rfl rfl rfl ?_
    refine px_iflt rfl rfl rfl (fun h1 => ?_) (fun h1 => absurd (by decide) h1)
    refine px_ld rfl rfl rfl rfl rfl ?_
    exact px_lret rfl rfl rfl ⟨rfl, rfl⟩
  | succ m ih =>
    intro v hm
    have e1 : nI (m + 1) - nI 1 = nI m := nI_pred m
    rw [e1]
    refine px_ld rfl rfl rfl rfl rfl ?_
    refine px_iflt rfl rfl rfl (fun h1 => absurd h1 (nI_pos (by omega))) (fun _ => ?_)
    repeat (first | refine px_alu rfl rfl rfl ?_ | refine px_ld rfl rfl rfl rfl rfl ?_)
    refine px_cV1 rfl rfl h.1 rfl rfl rfl rfl rfl rfl rfl (s_Row_at h hs hn) (fun _ _ q => nomatch q.2) (fun r ph' q => ?_)
    obtain ⟨rfl, q2⟩ := q
    cases q2
    repeat (first | refine px_alu rfl rfl rfl ?_)
    refine px_st (lv' := [_, _, _, _, _, _]) rfl rfl rfl rfl rfl rfl rfl ?_
    refine px_iinc (lv' := [_, _, _, _, _, _]) rfl rfl rfl rfl rfl rfl ?_
    refine px_goto rfl rfl rfl ?_
    have e2 : nI m + Int32.ofInt (-1) = nI m - nI 1 := by rw [Int32.sub_eq_add_neg]; rfl
    rw [e2]
    exact ih _ (by omega)
theorem s_Row_num (h : rw_at ph a b n f sz ov) (hs : ∀ j : Nat, nI j < sz → j < n) (hn : n < 2 ^ 31) {from_ : Int32} {m : Nat} (hm : m < 2 ^ 31) : PW l g (d + 1) m_Row_num 0 [.ref a, .int from_, .int (nI m), px_u, px_u, px_u] [] ph (fun r ph' => ph' = ph ∧ r = .inl (some (.long (rw_num (rw_byte f sz) from_ m 0)))) := by
  refine px_alu rfl rfl rfl ?_
  refine px_st (lv' := [_, _, _, _, _, _]) rfl rfl rfl rfl rfl rfl rfl ?_
  repeat (first | refine px_alu rfl rfl rfl ?_ | refine px_ld rfl rfl rfl rfl rfl ?_)
  refine px_st (lv' := [_, _, _, _, _, _]) rfl rfl rfl rfl rfl rfl rfl ?_
  exact s_Row_num_loop h hs hn m 0 hm
end RW
