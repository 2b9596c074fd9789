/-! the law's cases, written by a program (wip/tools/genlaw.py) -/
def lw_jj (u v : Int32) : Int64 := (u.toInt64 <<< ((nI 32).toInt64 &&& 63)) ||| (v.toInt64 &&& 4294967295)
def lw_zb (u : Int32) : Int32 := if u = 0 then 0 else 1
theorem px_scr {l : Launch} {g : px_G} {d mi pc nx r1 r2 : Nat} {lv : px_L} {st : List Value} {ph : px_H} {Q : px_Q} {L a k : Nat} {xs : Nat → Int32} (hcd : pg_cd mi pc = some (.iaload, nx, r1, r2)) (hct : px_ct g 0 = (.int, L, xs)) (hL : L ≤ 2048) (hak : a + k < L) (hp : pc + 1 = nx) (kk : PW l g d mi nx lv (.int (xs (a + k)) :: st) ph Q) : PW l g d mi pc lv (.int (nI a + nI k) :: .retAddr 0 :: st) ph Q := by
  have e1 : nI a + nI k = nI (a + k) := nI_add a k
  rw [e1]
  refine px_cild hcd (by decide) (by rw [hct]) ?_ hp ?_
  · rw [hct]; exact vp_in_nI hak (show L < 2 ^ 31 by omega)
  · rw [hct, nI_clamp (show a + k < 2 ^ 31 by omega)]; exact kk
theorem px_scr0 {l : Launch} {g : px_G} {d mi pc nx r1 r2 : Nat} {lv : px_L} {st : List Value} {ph : px_H} {Q : px_Q} {L a : Nat} {xs : Nat → Int32} (hcd : pg_cd mi pc = some (.iaload, nx, r1, r2)) (hct : px_ct g 0 = (.int, L, xs)) (hL : L ≤ 2048) (hak : a < L) (hp : pc + 1 = nx) (kk : PW l g d mi nx lv (.int (xs a) :: st) ph Q) : PW l g d mi pc lv (.int (nI a) :: .retAddr 0 :: st) ph Q := by
  refine px_cild hcd (by decide) (by rw [hct]) ?_ hp ?_
  · rw [hct]; exact vp_in_nI hak (show L < 2 ^ 31 by omega)
  · rw [hct, nI_clamp (show a < 2 ^ 31 by omega)]; exact kk
theorem px_pop2 {l : Launch} {g : px_G} {d mi pc nx r1 r2 : Nat} {lv : px_L} {st : List Value} {ph : px_H} {Q : px_Q} {v : Int64} (hcd : pg_cd mi pc = some (.pop2, nx, r1, r2)) (hp : pc + 1 = nx) (k : PW l g d mi nx lv st ph Q) : PW l g d mi pc lv (.long v :: st) ph Q := by
  subst hp
  intro p e R s m args below meth c H locs cells slots ls B1 B2 hC hR hS hl h1 h2 h3 h4 h5 h6
  have kk := k p e R s m args below meth c H locs cells slots ls B1 B2 hC hR hS hl h1 h2 h3 h4 h5 h6
  exact lv_pop2_2 hC.1 hC.2.1 (pg_dec hcd) rfl kk
theorem lw_lcmp {x y : Int64} (h : x = y) : lg_cmp x y = 0 := by subst h; simp [lg_cmp]
section LAWC
variable {l : Launch} {g : px_G} {d : Nat} {ph : px_H} {Q : px_Q} {L a x m o : Nat} {xs : Nat → Int32} {xf : List Value}
set_option maxRecDepth 20000 in
set_option maxHeartbeats 2000000 in
theorem law_0 (hct : px_ct g 0 = (.int, L, xs)) (hL : L ≤ 2048) (ha : a + 3 < L)
    (h : PW l g d m_L_feed 0 [.ref x, .int (xs (a + 1)), .long (lw_jj (xs (a + 2)) (xs (a + 3))), px_u, .ref o, px_u] [] ph (fun r ph1 => ∃ k : Int32, r = .inl (some (.int k)) ∧ (∃ mf, ph1[m]? = some (.inr (12, mf))) ∧ PW l g d m_M_feed 0 [.ref m, .int (xs (a + 1)), .long (lw_jj (xs (a + 2)) (xs (a + 3))), px_u, px_u, px_u] [] ph1 (fun r ph2 => ∃ b : Int32, r = .inl (some (.int b)) ∧ PW l g (d + 1) m_L_law 23 [.retAddr 0, .ref x, .ref m, .ref o, .int (nI (a + 4)), px_u, px_u, px_u] [] ph2 Q))) :
    PW l g (d + 1) m_L_law 148 [.retAddr 0, .ref x, .ref m, .ref o, .int (nI a), px_u, px_u, px_u] [] ph Q := by
  refine px_ld rfl rfl rfl rfl rfl ?_
  refine px_ld rfl rfl rfl rfl rfl ?_
  refine px_ld rfl rfl rfl rfl rfl ?_
  refine px_alu rfl rfl rfl ?_
  refine px_alu rfl rfl rfl ?_
  refine px_scr rfl hct hL (Nat.lt_of_le_of_lt (Nat.add_le_add_left (by decide) a) ha) rfl ?_
  refine px_ld rfl rfl rfl rfl rfl ?_
  refine px_ld rfl rfl rfl rfl rfl ?_
  refine px_alu rfl rfl rfl ?_
  refine px_alu rfl rfl rfl ?_
  refine px_scr rfl hct hL (Nat.lt_of_le_of_lt (Nat.add_le_add_left (by decide) a) ha) rfl ?_
  refine px_alu rfl rfl rfl ?_
  refine px_alu rfl rfl rfl ?_
  refine px_alu rfl rfl rfl ?_
  refine px_ld rfl rfl rfl rfl rfl ?_
  refine px_ld rfl rfl rfl rfl rfl ?_
  refine px_alu rfl rfl rfl ?_
  refine px_alu rfl rfl rfl ?_
  refine px_scr rfl hct hL (Nat.lt_of_le_of_lt (Nat.add_le_add_left (by decide) a) ha) rfl ?_
  refine px_alu rfl rfl rfl ?_
  refine px_ldc2 rfl rfl rfl ?_
  refine px_alu rfl rfl rfl ?_
  refine px_alu rfl rfl rfl ?_
  refine px_ld rfl rfl rfl rfl rfl ?_
  refine px_callSW (As := [.ref x, .int (xs (a + 1)), .long (lw_jj (xs (a + 2)) (xs (a + 3))), .ref o]) (st := []) rfl pg_ww_m_L_feed rfl rfl rfl rfl rfl h (fun _ _ q => by obtain ⟨k, q, -⟩ := q; cases q) rfl (fun r ph1 q => ?_)
  obtain ⟨k, hr, ⟨mf, hm⟩, h⟩ := q
  cases hr
  refine px_st (lv' := [_, _, _, _, _, _, _, _]) rfl rfl rfl rfl rfl rfl rfl ?_
  refine px_ld rfl rfl rfl rfl rfl ?_
  refine px_ld rfl rfl rfl rfl rfl ?_
  refine px_ld rfl rfl rfl rfl rfl ?_
  refine px_alu rfl rfl rfl ?_
  refine px_alu rfl rfl rfl ?_
  refine px_scr rfl hct hL (Nat.lt_of_le_of_lt (Nat.add_le_add_left (by decide) a) ha) rfl ?_
  refine px_ld rfl rfl rfl rfl rfl ?_
  refine px_ld rfl rfl rfl rfl rfl ?_
  refine px_alu rfl rfl rfl ?_
  refine px_alu rfl rfl rfl ?_
  refine px_scr rfl hct hL (Nat.lt_of_le_of_lt (Nat.add_le_add_left (by decide) a) ha) rfl ?_
  refine px_alu rfl rfl rfl ?_
  refine px_alu rfl rfl rfl ?_
  refine px_alu rfl rfl rfl ?_
  refine px_ld rfl rfl rfl rfl rfl ?_
  refine px_ld rfl rfl rfl rfl rfl ?_
  refine px_alu rfl rfl rfl ?_
  refine px_alu rfl rfl rfl ?_
  refine px_scr rfl hct hL (Nat.lt_of_le_of_lt (Nat.add_le_add_left (by decide) a) ha) rfl ?_
  refine px_alu rfl rfl rfl ?_
  refine px_ldc2 rfl rfl rfl ?_
  refine px_alu rfl rfl rfl ?_
  refine px_alu rfl rfl rfl ?_
  refine px_callV (As := [.int (xs (a + 1)), .long (lw_jj (xs (a + 2)) (xs (a + 3)))]) (st := []) rfl rfl hm rfl rfl rfl rfl rfl rfl h (fun _ _ q => by obtain ⟨b, q, -⟩ := q; cases q) rfl (fun r ph2 q => ?_)
  obtain ⟨b, hr, h⟩ := q
  cases hr
  refine px_st (lv' := [_, _, _, _, _, _, _, _]) rfl rfl rfl rfl rfl rfl rfl ?_
  refine px_goto rfl (by decide) rfl ?_
  refine px_iinc (lv' := [_, _, _, _, _, _, _, _]) rfl rfl rfl rfl rfl rfl ?_
  refine px_goto rfl (by decide) rfl ?_
  rw [show nI a + Int32.ofInt 4 = nI (a + 4) from nI_add a 4]
  refine px_forget (n := 5) (lv' := [_, _, _, _, _, _, _, _]) rfl ?_
  refine px_forget (n := 6) (lv' := [_, _, _, _, _, _, _, _]) rfl ?_
  refine px_forget (n := 7) (lv' := [_, _, _, _, _, _, _, _]) rfl ?_
  exact h
set_option maxRecDepth 20000 in
set_option maxHeartbeats 2000000 in
theorem law_1 (hct : px_ct g 0 = (.int, L, xs)) (hL : L ≤ 2048) (ha : a + 3 < L)
    (h : PW l g d m_L_add 0 [.ref x, .ref o, px_u] [] ph (fun r ph1 => ∃ k : Int32, r = .inl (some (.int k)) ∧ (∃ mf, ph1[m]? = some (.inr (12, mf))) ∧ PW l g d m_M_add 0 [.ref m, px_u, px_u] [] ph1 (fun r ph2 => ∃ b : Int32, r = .inl (some (.int b)) ∧ PW l g (d + 1) m_L_law 23 [.retAddr 0, .ref x, .ref m, .ref o, .int (nI (a + 4)), px_u, px_u, px_u] [] ph2 Q))) :
    PW l g (d + 1) m_L_law 220 [.retAddr 0, .ref x, .ref m, .ref o, .int (nI a), px_u, px_u, px_u] [] ph Q := by
  refine px_ld rfl rfl rfl rfl rfl ?_
  refine px_ld rfl rfl rfl rfl rfl ?_
  refine px_callSW (As := [.ref x, .ref o]) (st := []) rfl pg_ww_m_L_add rfl rfl rfl rfl rfl h (fun _ _ q => by obtain ⟨k, q, -⟩ := q; cases q) rfl (fun r ph1 q => ?_)
  obtain ⟨k, hr, ⟨mf, hm⟩, h⟩ := q
  cases hr
  refine px_st (lv' := [_, _, _, _, _, _, _, _]) rfl rfl rfl rfl rfl rfl rfl ?_
  refine px_ld rfl rfl rfl rfl rfl ?_
  refine px_callV (As := []) (st := []) rfl rfl hm rfl rfl rfl rfl rfl rfl h (fun _ _ q => by obtain ⟨b, q, -⟩ := q; cases q) rfl (fun r ph2 q => ?_)
  obtain ⟨b, hr, h⟩ := q
  cases hr
  refine px_st (lv' := [_, _, _, _, _, _, _, _]) rfl rfl rfl rfl rfl rfl rfl ?_
  refine px_goto rfl (by decide) rfl ?_
  refine px_iinc (lv' := [_, _, _, _, _, _, _, _]) rfl rfl rfl rfl rfl rfl ?_
  refine px_goto rfl (by decide) rfl ?_
  rw [show nI a + Int32.ofInt 4 = nI (a + 4) from nI_add a 4]
  refine px_forget (n := 5) (lv' := [_, _, _, _, _, _, _, _]) rfl ?_
  refine px_forget (n := 6) (lv' := [_, _, _, _, _, _, _, _]) rfl ?_
  refine px_forget (n := 7) (lv' := [_, _, _, _, _, _, _, _]) rfl ?_
  exact h
set_option maxRecDepth 20000 in
set_option maxHeartbeats 2000000 in
theorem law_2 (hct : px_ct g 0 = (.int, L, xs)) (hL : L ≤ 2048) (ha : a + 3 < L)
    (h : PW l g d m_L_drop 0 [.ref x, .ref o, px_u] [] ph (fun r ph1 => ∃ k : Int32, r = .inl (some (.int k)) ∧ (∃ mf, ph1[m]? = some (.inr (12, mf))) ∧ PW l g d m_M_drop 0 [.ref m] [] ph1 (fun r ph2 => ∃ b : Int32, r = .inl (some (.int b)) ∧ PW l g (d + 1) m_L_law 23 [.retAddr 0, .ref x, .ref m, .ref o, .int (nI (a + 4)), px_u, px_u, px_u] [] ph2 Q))) :
    PW l g (d + 1) m_L_law 236 [.retAddr 0, .ref x, .ref m, .ref o, .int (nI a), px_u, px_u, px_u] [] ph Q := by
  refine px_ld rfl rfl rfl rfl rfl ?_
  refine px_ld rfl rfl rfl rfl rfl ?_
  refine px_callSW (As := [.ref x, .ref o]) (st := []) rfl pg_ww_m_L_drop rfl rfl rfl rfl rfl h (fun _ _ q => by obtain ⟨k, q, -⟩ := q; cases q) rfl (fun r ph1 q => ?_)
  obtain ⟨k, hr, ⟨mf, hm⟩, h⟩ := q
  cases hr
  refine px_st (lv' := [_, _, _, _, _, _, _, _]) rfl rfl rfl rfl rfl rfl rfl ?_
  refine px_ld rfl rfl rfl rfl rfl ?_
  refine px_callV (As := []) (st := []) rfl rfl hm rfl rfl rfl rfl rfl rfl h (fun _ _ q => by obtain ⟨b, q, -⟩ := q; cases q) rfl (fun r ph2 q => ?_)
  obtain ⟨b, hr, h⟩ := q
  cases hr
  refine px_st (lv' := [_, _, _, _, _, _, _, _]) rfl rfl rfl rfl rfl rfl rfl ?_
  refine px_goto rfl (by decide) rfl ?_
  refine px_iinc (lv' := [_, _, _, _, _, _, _, _]) rfl rfl rfl rfl rfl rfl ?_
  refine px_goto rfl (by decide) rfl ?_
  rw [show nI a + Int32.ofInt 4 = nI (a + 4) from nI_add a 4]
  refine px_forget (n := 5) (lv' := [_, _, _, _, _, _, _, _]) rfl ?_
  refine px_forget (n := 6) (lv' := [_, _, _, _, _, _, _, _]) rfl ?_
  refine px_forget (n := 7) (lv' := [_, _, _, _, _, _, _, _]) rfl ?_
  exact h
set_option maxRecDepth 20000 in
set_option maxHeartbeats 2000000 in
theorem law_3 (hct : px_ct g 0 = (.int, L, xs)) (hL : L ≤ 2048) (ha : a + 3 < L) (hx : ph[x]? = some (.inr (0, xf)))
    (h : PW l g d m_H_link 0 [.ref x, .int (lw_zb (xs (a + 1)))] [] ph (fun r ph1 => ∃ k : Int32, r = .inl (some (.int k)) ∧ (∃ mf, ph1[m]? = some (.inr (12, mf))) ∧ PW l g d m_M_link 0 [.ref m, .int (lw_zb (xs (a + 1))), px_u] [] ph1 (fun r ph2 => ∃ b : Int32, r = .inl (some (.int b)) ∧ PW l g (d + 1) m_L_law 23 [.retAddr 0, .ref x, .ref m, .ref o, .int (nI (a + 4)), px_u, px_u, px_u] [] ph2 Q))) :
    PW l g (d + 1) m_L_law 252 [.retAddr 0, .ref x, .ref m, .ref o, .int (nI a), px_u, px_u, px_u] [] ph Q := by
  by_cases hz : xs (a + 1) = 0
  · rw [show lw_zb (xs (a + 1)) = nI 0 from if_pos hz] at h
    refine px_ld rfl rfl rfl rfl rfl ?_
    refine px_ld rfl rfl rfl rfl rfl ?_
    refine px_ld rfl rfl rfl rfl rfl ?_
    refine px_alu rfl rfl rfl ?_
    refine px_alu rfl rfl rfl ?_
    refine px_scr rfl hct hL (Nat.lt_of_le_of_lt (Nat.add_le_add_left (by decide) a) ha) rfl ?_
    refine px_ifeq rfl (by decide) rfl (fun _ => ?_) (fun h9 => absurd hz h9)
    refine px_alu rfl rfl rfl ?_
    refine px_callV (As := [.int (nI 0)]) (st := []) rfl rfl hx rfl rfl rfl rfl rfl rfl h (fun _ _ q => by obtain ⟨k, q, -⟩ := q; cases q) rfl (fun r ph1 q => ?_)
    obtain ⟨k, hr, ⟨mf, hm⟩, h⟩ := q
    cases hr
    refine px_alu rfl rfl rfl ?_
    refine px_ld rfl rfl rfl rfl rfl ?_
    refine px_ld rfl rfl rfl rfl rfl ?_
    refine px_ld rfl rfl rfl rfl rfl ?_
    refine px_alu rfl rfl rfl ?_
    refine px_alu rfl rfl rfl ?_
    refine px_scr rfl hct hL (Nat.lt_of_le_of_lt (Nat.add_le_add_left (by decide) a) ha) rfl ?_
    refine px_ifeq rfl (by decide) rfl (fun _ => ?_) (fun h9 => absurd hz h9)
    refine px_alu rfl rfl rfl ?_
    refine px_callV (As := [.int (nI 0)]) (st := []) rfl rfl hm rfl rfl rfl rfl rfl rfl h (fun _ _ q => by obtain ⟨b, q, -⟩ := q; cases q) rfl (fun r ph2 q => ?_)
    obtain ⟨b, hr, h⟩ := q
    cases hr
    refine px_alu rfl rfl rfl ?_
    refine px_goto rfl (by decide) rfl ?_
    refine px_iinc (lv' := [_, _, _, _, _, _, _, _]) rfl rfl rfl rfl rfl rfl ?_
    refine px_goto rfl (by decide) rfl ?_
    rw [show nI a + Int32.ofInt 4 = nI (a + 4) from nI_add a 4]
    refine px_forget (n := 5) (lv' := [_, _, _, _, _, _, _, _]) rfl ?_
    refine px_forget (n := 6) (lv' := [_, _, _, _, _, _, _, _]) rfl ?_
    refine px_forget (n := 7) (lv' := [_, _, _, _, _, _, _, _]) rfl ?_
    exact h
  · rw [show lw_zb (xs (a + 1)) = nI 1 from if_neg hz] at h
    refine px_ld rfl rfl rfl rfl rfl ?_
    refine px_ld rfl rfl rfl rfl rfl ?_
    refine px_ld rfl rfl rfl rfl rfl ?_
    refine px_alu rfl rfl rfl ?_
    refine px_alu rfl rfl rfl ?_
    refine px_scr rfl hct hL (Nat.lt_of_le_of_lt (Nat.add_le_add_left (by decide) a) ha) rfl ?_
    refine px_ifeq rfl (by decide) rfl (fun h9 => absurd h9 hz) (fun _ => ?_)
    refine px_alu rfl rfl rfl ?_
    refine px_goto rfl (by decide) rfl ?_
    refine px_callV (As := [.int (nI 1)]) (st := []) rfl rfl hx rfl rfl rfl rfl rfl rfl h (fun _ _ q => by obtain ⟨k, q, -⟩ := q; cases q) rfl (fun r ph1 q => ?_)
    obtain ⟨k, hr, ⟨mf, hm⟩, h⟩ := q
    cases hr
    refine px_alu rfl rfl rfl ?_
    refine px_ld rfl rfl rfl rfl rfl ?_
    refine px_ld rfl rfl rfl rfl rfl ?_
    refine px_ld rfl rfl rfl rfl rfl ?_
    refine px_alu rfl rfl rfl ?_
    refine px_alu rfl rfl rfl ?_
    refine px_scr rfl hct hL (Nat.lt_of_le_of_lt (Nat.add_le_add_left (by decide) a) ha) rfl ?_
    refine px_ifeq rfl (by decide) rfl (fun h9 => absurd h9 hz) (fun _ => ?_)
    refine px_alu rfl rfl rfl ?_
    refine px_goto rfl (by decide) rfl ?_
    refine px_callV (As := [.int (nI 1)]) (st := []) rfl rfl hm rfl rfl rfl rfl rfl rfl h (fun _ _ q => by obtain ⟨b, q, -⟩ := q; cases q) rfl (fun r ph2 q => ?_)
    obtain ⟨b, hr, h⟩ := q
    cases hr
    refine px_alu rfl rfl rfl ?_
    refine px_goto rfl (by decide) rfl ?_
    refine px_iinc (lv' := [_, _, _, _, _, _, _, _]) rfl rfl rfl rfl rfl rfl ?_
    refine px_goto rfl (by decide) rfl ?_
    rw [show nI a + Int32.ofInt 4 = nI (a + 4) from nI_add a 4]
    refine px_forget (n := 5) (lv' := [_, _, _, _, _, _, _, _]) rfl ?_
    refine px_forget (n := 6) (lv' := [_, _, _, _, _, _, _, _]) rfl ?_
    refine px_forget (n := 7) (lv' := [_, _, _, _, _, _, _, _]) rfl ?_
    exact h
set_option maxRecDepth 20000 in
set_option maxHeartbeats 2000000 in
theorem law_4 (hct : px_ct g 0 = (.int, L, xs)) (hL : L ≤ 2048) (ha : a + 3 < L) (hx : ph[x]? = some (.inr (0, xf)))
    (h : PW l g d m_H_merge 0 [.ref x, px_u] [] ph (fun r ph1 => ∃ k : Int32, r = .inl (some (.int k)) ∧ (∃ mf, ph1[m]? = some (.inr (12, mf))) ∧ PW l g d m_M_merge 0 [.ref m, px_u] [] ph1 (fun r ph2 => ∃ b : Int32, r = .inl (some (.int b)) ∧ PW l g (d + 1) m_L_law 23 [.retAddr 0, .ref x, .ref m, .ref o, .int (nI (a + 4)), px_u, px_u, px_u] [] ph2 Q))) :
    PW l g (d + 1) m_L_law 293 [.retAddr 0, .ref x, .ref m, .ref o, .int (nI a), px_u, px_u, px_u] [] ph Q := by
  refine px_ld rfl rfl rfl rfl rfl ?_
  refine px_callV (As := []) (st := []) rfl rfl hx rfl rfl rfl rfl rfl rfl h (fun _ _ q => by obtain ⟨k, q, -⟩ := q; cases q) rfl (fun r ph1 q => ?_)
  obtain ⟨k, hr, ⟨mf, hm⟩, h⟩ := q
  cases hr
  refine px_alu rfl rfl rfl ?_
  refine px_ld rfl rfl rfl rfl rfl ?_
  refine px_callV (As := []) (st := []) rfl rfl hm rfl rfl rfl rfl rfl rfl h (fun _ _ q => by obtain ⟨b, q, -⟩ := q; cases q) rfl (fun r ph2 q => ?_)
  obtain ⟨b, hr, h⟩ := q
  cases hr
  refine px_alu rfl rfl rfl ?_
  refine px_goto rfl (by decide) rfl ?_
  refine px_iinc (lv' := [_, _, _, _, _, _, _, _]) rfl rfl rfl rfl rfl rfl ?_
  refine px_goto rfl (by decide) rfl ?_
  rw [show nI a + Int32.ofInt 4 = nI (a + 4) from nI_add a 4]
  refine px_forget (n := 5) (lv' := [_, _, _, _, _, _, _, _]) rfl ?_
  refine px_forget (n := 6) (lv' := [_, _, _, _, _, _, _, _]) rfl ?_
  refine px_forget (n := 7) (lv' := [_, _, _, _, _, _, _, _]) rfl ?_
  exact h
set_option maxRecDepth 20000 in
set_option maxHeartbeats 2000000 in
theorem law_5 (hct : px_ct g 0 = (.int, L, xs)) (hL : L ≤ 2048) (ha : a + 3 < L)
    (h : PW l g d m_L_give 0 [.ref x, .long (lw_jj (xs (a + 1)) (xs (a + 2))), px_u, .ref o, px_u] [] ph (fun r ph1 => ∃ k : Int32, r = .inl (some (.int k)) ∧ (∃ mf, ph1[m]? = some (.inr (12, mf))) ∧ PW l g d m_M_give 0 [.ref m, .long (lw_jj (xs (a + 1)) (xs (a + 2))), px_u, px_u, px_u, px_u, px_u] [] ph1 (fun r ph2 => ∃ b : Int32, r = .inl (some (.int b)) ∧ PW l g (d + 1) m_L_law 23 [.retAddr 0, .ref x, .ref m, .ref o, .int (nI (a + 4)), px_u, px_u, px_u] [] ph2 Q))) :
    PW l g (d + 1) m_L_law 306 [.retAddr 0, .ref x, .ref m, .ref o, .int (nI a), px_u, px_u, px_u] [] ph Q := by
  refine px_ld rfl rfl rfl rfl rfl ?_
  refine px_ld rfl rfl rfl rfl rfl ?_
  refine px_ld rfl rfl rfl rfl rfl ?_
  refine px_alu rfl rfl rfl ?_
  refine px_alu rfl rfl rfl ?_
  refine px_scr rfl hct hL (Nat.lt_of_le_of_lt (Nat.add_le_add_left (by decide) a) ha) rfl ?_
  refine px_alu rfl rfl rfl ?_
  refine px_alu rfl rfl rfl ?_
  refine px_alu rfl rfl rfl ?_
  refine px_ld rfl rfl rfl rfl rfl ?_
  refine px_ld rfl rfl rfl rfl rfl ?_
  refine px_alu rfl rfl rfl ?_
  refine px_alu rfl rfl rfl ?_
  refine px_scr rfl hct hL (Nat.lt_of_le_of_lt (Nat.add_le_add_left (by decide) a) ha) rfl ?_
  refine px_alu rfl rfl rfl ?_
  refine px_ldc2 rfl rfl rfl ?_
  refine px_alu rfl rfl rfl ?_
  refine px_alu rfl rfl rfl ?_
  refine px_ld rfl rfl rfl rfl rfl ?_
  refine px_callSW (As := [.ref x, .long (lw_jj (xs (a + 1)) (xs (a + 2))), .ref o]) (st := []) rfl pg_ww_m_L_give rfl rfl rfl rfl rfl h (fun _ _ q => by obtain ⟨k, q, -⟩ := q; cases q) rfl (fun r ph1 q => ?_)
  obtain ⟨k, hr, ⟨mf, hm⟩, h⟩ := q
  cases hr
  refine px_st (lv' := [_, _, _, _, _, _, _, _]) rfl rfl rfl rfl rfl rfl rfl ?_
  refine px_ld rfl rfl rfl rfl rfl ?_
  refine px_ld rfl rfl rfl rfl rfl ?_
  refine px_ld rfl rfl rfl rfl rfl ?_
  refine px_alu rfl rfl rfl ?_
  refine px_alu rfl rfl rfl ?_
  refine px_scr rfl hct hL (Nat.lt_of_le_of_lt (Nat.add_le_add_left (by decide) a) ha) rfl ?_
  refine px_alu rfl rfl rfl ?_
  refine px_alu rfl rfl rfl ?_
  refine px_alu rfl rfl rfl ?_
  refine px_ld rfl rfl rfl rfl rfl ?_
  refine px_ld rfl rfl rfl rfl rfl ?_
  refine px_alu rfl rfl rfl ?_
  refine px_alu rfl rfl rfl ?_
  refine px_scr rfl hct hL (Nat.lt_of_le_of_lt (Nat.add_le_add_left (by decide) a) ha) rfl ?_
  refine px_alu rfl rfl rfl ?_
  refine px_ldc2 rfl rfl rfl ?_
  refine px_alu rfl rfl rfl ?_
  refine px_alu rfl rfl rfl ?_
  refine px_callV (As := [.long (lw_jj (xs (a + 1)) (xs (a + 2)))]) (st := []) rfl rfl hm rfl rfl rfl rfl rfl rfl h (fun _ _ q => by obtain ⟨b, q, -⟩ := q; cases q) rfl (fun r ph2 q => ?_)
  obtain ⟨b, hr, h⟩ := q
  cases hr
  refine px_st (lv' := [_, _, _, _, _, _, _, _]) rfl rfl rfl rfl rfl rfl rfl ?_
  refine px_goto rfl (by decide) rfl ?_
  refine px_iinc (lv' := [_, _, _, _, _, _, _, _]) rfl rfl rfl rfl rfl rfl ?_
  refine px_goto rfl (by decide) rfl ?_
  rw [show nI a + Int32.ofInt 4 = nI (a + 4) from nI_add a 4]
  refine px_forget (n := 5) (lv' := [_, _, _, _, _, _, _, _]) rfl ?_
  refine px_forget (n := 6) (lv' := [_, _, _, _, _, _, _, _]) rfl ?_
  refine px_forget (n := 7) (lv' := [_, _, _, _, _, _, _, _]) rfl ?_
  exact h
set_option maxRecDepth 20000 in
set_option maxHeartbeats 2000000 in
theorem law_6 (hct : px_ct g 0 = (.int, L, xs)) (hL : L ≤ 2048) (ha : a + 3 < L)
    (h : PW l g d m_L_wish 0 [.ref x, .ref o, px_u] [] ph (fun r ph1 => ∃ k : Int32, r = .inl (some (.int k)) ∧ (∃ mf, ph1[m]? = some (.inr (12, mf))) ∧ PW l g d m_M_wish 0 [.ref m, px_u, px_u, px_u, px_u] [] ph1 (fun r ph2 => ∃ b : Int32, r = .inl (some (.int b)) ∧ PW l g (d + 1) m_L_law 23 [.retAddr 0, .ref x, .ref m, .ref o, .int (nI (a + 4)), px_u, px_u, px_u] [] ph2 Q))) :
    PW l g (d + 1) m_L_law 366 [.retAddr 0, .ref x, .ref m, .ref o, .int (nI a), px_u, px_u, px_u] [] ph Q := by
  refine px_ld rfl rfl rfl rfl rfl ?_
  refine px_ld rfl rfl rfl rfl rfl ?_
  refine px_callSW (As := [.ref x, .ref o]) (st := []) rfl pg_ww_m_L_wish rfl rfl rfl rfl rfl h (fun _ _ q => by obtain ⟨k, q, -⟩ := q; cases q) rfl (fun r ph1 q => ?_)
  obtain ⟨k, hr, ⟨mf, hm⟩, h⟩ := q
  cases hr
  refine px_st (lv' := [_, _, _, _, _, _, _, _]) rfl rfl rfl rfl rfl rfl rfl ?_
  refine px_ld rfl rfl rfl rfl rfl ?_
  refine px_callV (As := []) (st := []) rfl rfl hm rfl rfl rfl rfl rfl rfl h (fun _ _ q => by obtain ⟨b, q, -⟩ := q; cases q) rfl (fun r ph2 q => ?_)
  obtain ⟨b, hr, h⟩ := q
  cases hr
  refine px_st (lv' := [_, _, _, _, _, _, _, _]) rfl rfl rfl rfl rfl rfl rfl ?_
  refine px_goto rfl (by decide) rfl ?_
  refine px_iinc (lv' := [_, _, _, _, _, _, _, _]) rfl rfl rfl rfl rfl rfl ?_
  refine px_goto rfl (by decide) rfl ?_
  rw [show nI a + Int32.ofInt 4 = nI (a + 4) from nI_add a 4]
  refine px_forget (n := 5) (lv' := [_, _, _, _, _, _, _, _]) rfl ?_
  refine px_forget (n := 6) (lv' := [_, _, _, _, _, _, _, _]) rfl ?_
  refine px_forget (n := 7) (lv' := [_, _, _, _, _, _, _, _]) rfl ?_
  exact h
set_option maxRecDepth 20000 in
set_option maxHeartbeats 2000000 in
theorem law_7 (hct : px_ct g 0 = (.int, L, xs)) (hL : L ≤ 2048) (ha : a + 3 < L) (hx : ph[x]? = some (.inr (0, xf)))
    (h : PW l g d m_H_forget 0 [.ref x] [] ph (fun r ph1 => r = .inl none ∧ (∃ mf, ph1[m]? = some (.inr (12, mf))) ∧ PW l g d m_M_forget 0 [.ref m] [] ph1 (fun r ph2 => r = .inl none ∧ PW l g (d + 1) m_L_law 23 [.retAddr 0, .ref x, .ref m, .ref o, .int (nI (a + 4)), px_u, px_u, px_u] [] ph2 Q))) :
    PW l g (d + 1) m_L_law 382 [.retAddr 0, .ref x, .ref m, .ref o, .int (nI a), px_u, px_u, px_u] [] ph Q := by
  refine px_ld rfl rfl rfl rfl rfl ?_
  refine px_callV (As := []) (st := []) rfl rfl hx rfl rfl rfl rfl rfl rfl h (fun _ _ q => by obtain ⟨q, -⟩ := q; cases q) rfl (fun r ph1 q => ?_)
  obtain ⟨hr, ⟨mf, hm⟩, h⟩ := q
  cases hr
  refine px_ld rfl rfl rfl rfl rfl ?_
  refine px_callV (As := []) (st := []) rfl rfl hm rfl rfl rfl rfl rfl rfl h (fun _ _ q => by obtain ⟨q, -⟩ := q; cases q) rfl (fun r ph2 q => ?_)
  obtain ⟨hr, h⟩ := q
  cases hr
  refine px_goto rfl (by decide) rfl ?_
  refine px_iinc (lv' := [_, _, _, _, _, _, _, _]) rfl rfl rfl rfl rfl rfl ?_
  refine px_goto rfl (by decide) rfl ?_
  rw [show nI a + Int32.ofInt 4 = nI (a + 4) from nI_add a 4]
  refine px_forget (n := 5) (lv' := [_, _, _, _, _, _, _, _]) rfl ?_
  refine px_forget (n := 6) (lv' := [_, _, _, _, _, _, _, _]) rfl ?_
  refine px_forget (n := 7) (lv' := [_, _, _, _, _, _, _, _]) rfl ?_
  exact h
set_option maxRecDepth 20000 in
set_option maxHeartbeats 2000000 in
theorem law_8 (hct : px_ct g 0 = (.int, L, xs)) (hL : L ≤ 2048) (ha : a + 3 < L) (hx : ph[x]? = some (.inr (0, xf)))
    (h : PW l g d m_H_pack 0 [.ref x] [] ph (fun r ph1 => ∃ k : Int32, r = .inl (some (.int k)) ∧ (∃ mf, ph1[m]? = some (.inr (12, mf))) ∧ PW l g d m_M_pack 0 [.ref m, px_u, px_u, px_u, px_u, px_u, px_u, px_u, px_u, px_u, px_u, px_u] [] ph1 (fun r ph2 => ∃ b : Int32, r = .inl (some (.int b)) ∧ PW l g (d + 1) m_L_law 23 [.retAddr 0, .ref x, .ref m, .ref o, .int (nI (a + 4)), px_u, px_u, px_u] [] ph2 Q))) :
    PW l g (d + 1) m_L_law 393 [.retAddr 0, .ref x, .ref m, .ref o, .int (nI a), px_u, px_u, px_u] [] ph Q := by
  refine px_ld rfl rfl rfl rfl rfl ?_
  refine px_callV (As := []) (st := []) rfl rfl hx rfl rfl rfl rfl rfl rfl h (fun _ _ q => by obtain ⟨k, q, -⟩ := q; cases q) rfl (fun r ph1 q => ?_)
  obtain ⟨k, hr, ⟨mf, hm⟩, h⟩ := q
  cases hr
  refine px_alu rfl rfl rfl ?_
  refine px_ld rfl rfl rfl rfl rfl ?_
  refine px_callV (As := []) (st := []) rfl rfl hm rfl rfl rfl rfl rfl rfl h (fun _ _ q => by obtain ⟨b, q, -⟩ := q; cases q) rfl (fun r ph2 q => ?_)
  obtain ⟨b, hr, h⟩ := q
  cases hr
  refine px_alu rfl rfl rfl ?_
  refine px_goto rfl (by decide) rfl ?_
  refine px_iinc (lv' := [_, _, _, _, _, _, _, _]) rfl rfl rfl rfl rfl rfl ?_
  refine px_goto rfl (by decide) rfl ?_
  rw [show nI a + Int32.ofInt 4 = nI (a + 4) from nI_add a 4]
  refine px_forget (n := 5) (lv' := [_, _, _, _, _, _, _, _]) rfl ?_
  refine px_forget (n := 6) (lv' := [_, _, _, _, _, _, _, _]) rfl ?_
  refine px_forget (n := 7) (lv' := [_, _, _, _, _, _, _, _]) rfl ?_
  exact h
set_option maxRecDepth 20000 in
set_option maxHeartbeats 2000000 in
theorem law_9 (hct : px_ct g 0 = (.int, L, xs)) (hL : L ≤ 2048) (ha : a + 3 < L)
    (h : PW l g d m_L_named 0 [.ref x, .ref o, px_u] [] ph (fun r ph1 => ∃ k : Int32, r = .inl (some (.int k)) ∧ (∃ mf, ph1[m]? = some (.inr (12, mf))) ∧ PW l g d m_M_named 0 [.ref m, px_u, px_u, px_u, px_u, px_u, px_u, px_u, px_u, px_u, px_u] [] ph1 (fun r ph2 => ∃ b : Int32, r = .inl (some (.int b)) ∧ PW l g (d + 1) m_L_law 23 [.retAddr 0, .ref x, .ref m, .ref o, .int (nI (a + 4)), px_u, px_u, px_u] [] ph2 Q))) :
    PW l g (d + 1) m_L_law 406 [.retAddr 0, .ref x, .ref m, .ref o, .int (nI a), px_u, px_u, px_u] [] ph Q := by
  refine px_ld rfl rfl rfl rfl rfl ?_
  refine px_ld rfl rfl rfl rfl rfl ?_
  refine px_callSW (As := [.ref x, .ref o]) (st := []) rfl pg_ww_m_L_named rfl rfl rfl rfl rfl h (fun _ _ q => by obtain ⟨k, q, -⟩ := q; cases q) rfl (fun r ph1 q => ?_)
  obtain ⟨k, hr, ⟨mf, hm⟩, h⟩ := q
  cases hr
  refine px_st (lv' := [_, _, _, _, _, _, _, _]) rfl rfl rfl rfl rfl rfl rfl ?_
  refine px_ld rfl rfl rfl rfl rfl ?_
  refine px_callV (As := []) (st := []) rfl rfl hm rfl rfl rfl rfl rfl rfl h (fun _ _ q => by obtain ⟨b, q, -⟩ := q; cases q) rfl (fun r ph2 q => ?_)
  obtain ⟨b, hr, h⟩ := q
  cases hr
  refine px_st (lv' := [_, _, _, _, _, _, _, _]) rfl rfl rfl rfl rfl rfl rfl ?_
  refine px_goto rfl (by decide) rfl ?_
  refine px_iinc (lv' := [_, _, _, _, _, _, _, _]) rfl rfl rfl rfl rfl rfl ?_
  refine px_goto rfl (by decide) rfl ?_
  rw [show nI a + Int32.ofInt 4 = nI (a + 4) from nI_add a 4]
  refine px_forget (n := 5) (lv' := [_, _, _, _, _, _, _, _]) rfl ?_
  refine px_forget (n := 6) (lv' := [_, _, _, _, _, _, _, _]) rfl ?_
  refine px_forget (n := 7) (lv' := [_, _, _, _, _, _, _, _]) rfl ?_
  exact h
set_option maxRecDepth 20000 in
set_option maxHeartbeats 2000000 in
theorem law_10 (hct : px_ct g 0 = (.int, L, xs)) (hL : L ≤ 2048) (ha : a + 3 < L) (hx : ph[x]? = some (.inr (0, xf)))
    (h : PW l g d m_H_near 0 [.ref x, .long (lw_jj (xs (a + 1)) (xs (a + 2))), px_u, px_u] [] ph (fun r ph1 => ∃ k : Int64, r = .inl (some (.long k)) ∧ (∃ mf, ph1[m]? = some (.inr (12, mf))) ∧ PW l g d m_M_near 0 [.ref m, .long (lw_jj (xs (a + 1)) (xs (a + 2))), px_u, px_u, px_u, px_u] [] ph1 (fun r ph2 => ∃ b : Int64, r = .inl (some (.long b)) ∧ PW l g (d + 1) m_L_law 23 [.retAddr 0, .ref x, .ref m, .ref o, .int (nI (a + 4)), px_u, px_u, px_u] [] ph2 Q))) :
    PW l g (d + 1) m_L_law 422 [.retAddr 0, .ref x, .ref m, .ref o, .int (nI a), px_u, px_u, px_u] [] ph Q := by
  refine px_ld rfl rfl rfl rfl rfl ?_
  refine px_ld rfl rfl rfl rfl rfl ?_
  refine px_ld rfl rfl rfl rfl rfl ?_
  refine px_alu rfl rfl rfl ?_
  refine px_alu rfl rfl rfl ?_
  refine px_scr rfl hct hL (Nat.lt_of_le_of_lt (Nat.add_le_add_left (by decide) a) ha) rfl ?_
  refine px_alu rfl rfl rfl ?_
  refine px_alu rfl rfl rfl ?_
  refine px_alu rfl rfl rfl ?_
  refine px_ld rfl rfl rfl rfl rfl ?_
  refine px_ld rfl rfl rfl rfl rfl ?_
  refine px_alu rfl rfl rfl ?_
  refine px_alu rfl rfl rfl ?_
  refine px_scr rfl hct hL (Nat.lt_of_le_of_lt (Nat.add_le_add_left (by decide) a) ha) rfl ?_
  refine px_alu rfl rfl rfl ?_
  refine px_ldc2 rfl rfl rfl ?_
  refine px_alu rfl rfl rfl ?_
  refine px_alu rfl rfl rfl ?_
  refine px_callV (As := [.long (lw_jj (xs (a + 1)) (xs (a + 2)))]) (st := []) rfl rfl hx rfl rfl rfl rfl rfl rfl h (fun _ _ q => by obtain ⟨k, q, -⟩ := q; cases q) rfl (fun r ph1 q => ?_)
  obtain ⟨k, hr, ⟨mf, hm⟩, h⟩ := q
  cases hr
  refine px_pop2 rfl rfl ?_
  refine px_ld rfl rfl rfl rfl rfl ?_
  refine px_ld rfl rfl rfl rfl rfl ?_
  refine px_ld rfl rfl rfl rfl rfl ?_
  refine px_alu rfl rfl rfl ?_
  refine px_alu rfl rfl rfl ?_
  refine px_scr rfl hct hL (Nat.lt_of_le_of_lt (Nat.add_le_add_left (by decide) a) ha) rfl ?_
  refine px_alu rfl rfl rfl ?_
  refine px_alu rfl rfl rfl ?_
  refine px_alu rfl rfl rfl ?_
  refine px_ld rfl rfl rfl rfl rfl ?_
  refine px_ld rfl rfl rfl rfl rfl ?_
  refine px_alu rfl rfl rfl ?_
  refine px_alu rfl rfl rfl ?_
  refine px_scr rfl hct hL (Nat.lt_of_le_of_lt (Nat.add_le_add_left (by decide) a) ha) rfl ?_
  refine px_alu rfl rfl rfl ?_
  refine px_ldc2 rfl rfl rfl ?_
  refine px_alu rfl rfl rfl ?_
  refine px_alu rfl rfl rfl ?_
  refine px_callV (As := [.long (lw_jj (xs (a + 1)) (xs (a + 2)))]) (st := []) rfl rfl hm rfl rfl rfl rfl rfl rfl h (fun _ _ q => by obtain ⟨b, q, -⟩ := q; cases q) rfl (fun r ph2 q => ?_)
  obtain ⟨b, hr, h⟩ := q
  cases hr
  refine px_pop2 rfl rfl ?_
  refine px_goto rfl (by decide) rfl ?_
  refine px_iinc (lv' := [_, _, _, _, _, _, _, _]) rfl rfl rfl rfl rfl rfl ?_
  refine px_goto rfl (by decide) rfl ?_
  rw [show nI a + Int32.ofInt 4 = nI (a + 4) from nI_add a 4]
  refine px_forget (n := 5) (lv' := [_, _, _, _, _, _, _, _]) rfl ?_
  refine px_forget (n := 6) (lv' := [_, _, _, _, _, _, _, _]) rfl ?_
  refine px_forget (n := 7) (lv' := [_, _, _, _, _, _, _, _]) rfl ?_
  exact h
set_option maxRecDepth 20000 in
set_option maxHeartbeats 2000000 in
theorem law_11 (hct : px_ct g 0 = (.int, L, xs)) (hL : L ≤ 2048) (ha : a + 3 < L)
    (h : PW l g d m_L_list 0 [.ref x, .int (xs (a + 1)), .int (xs (a + 2)), .ref o, px_u] [] ph (fun r ph1 => ∃ k : Int32, r = .inl (some (.int k)) ∧ (∃ mf, ph1[m]? = some (.inr (12, mf))) ∧ PW l g d m_M_list 0 [.ref m, .int (xs (a + 1)), .int (xs (a + 2)), px_u, px_u, px_u, px_u] [] ph1 (fun r ph2 => ∃ b : Int32, r = .inl (some (.int b)) ∧ PW l g (d + 1) m_L_law 23 [.retAddr 0, .ref x, .ref m, .ref o, .int (nI (a + 4)), px_u, px_u, px_u] [] ph2 Q))) :
    PW l g (d + 1) m_L_law 479 [.retAddr 0, .ref x, .ref m, .ref o, .int (nI a), px_u, px_u, px_u] [] ph Q := by
  refine px_ld rfl rfl rfl rfl rfl ?_
  refine px_ld rfl rfl rfl rfl rfl ?_
  refine px_ld rfl rfl rfl rfl rfl ?_
  refine px_alu rfl rfl rfl ?_
  refine px_alu rfl rfl rfl ?_
  refine px_scr rfl hct hL (Nat.lt_of_le_of_lt (Nat.add_le_add_left (by decide) a) ha) rfl ?_
  refine px_ld rfl rfl rfl rfl rfl ?_
  refine px_ld rfl rfl rfl rfl rfl ?_
  refine px_alu rfl rfl rfl ?_
  refine px_alu rfl rfl rfl ?_
  refine px_scr rfl hct hL (Nat.lt_of_le_of_lt (Nat.add_le_add_left (by decide) a) ha) rfl ?_
  refine px_ld rfl rfl rfl rfl rfl ?_
  refine px_callSW (As := [.ref x, .int (xs (a + 1)), .int (xs (a + 2)), .ref o]) (st := []) rfl pg_ww_m_L_list rfl rfl rfl rfl rfl h (fun _ _ q => by obtain ⟨k, q, -⟩ := q; cases q) rfl (fun r ph1 q => ?_)
  obtain ⟨k, hr, ⟨mf, hm⟩, h⟩ := q
  cases hr
  refine px_st (lv' := [_, _, _, _, _, _, _, _]) rfl rfl rfl rfl rfl rfl rfl ?_
  refine px_ld rfl rfl rfl rfl rfl ?_
  refine px_ld rfl rfl rfl rfl rfl ?_
  refine px_ld rfl rfl rfl rfl rfl ?_
  refine px_alu rfl rfl rfl ?_
  refine px_alu rfl rfl rfl ?_
  refine px_scr rfl hct hL (Nat.lt_of_le_of_lt (Nat.add_le_add_left (by decide) a) ha) rfl ?_
  refine px_ld rfl rfl rfl rfl rfl ?_
  refine px_ld rfl rfl rfl rfl rfl ?_
  refine px_alu rfl rfl rfl ?_
  refine px_alu rfl rfl rfl ?_
  refine px_scr rfl hct hL (Nat.lt_of_le_of_lt (Nat.add_le_add_left (by decide) a) ha) rfl ?_
  refine px_callV (As := [.int (xs (a + 1)), .int (xs (a + 2))]) (st := []) rfl rfl hm rfl rfl rfl rfl rfl rfl h (fun _ _ q => by obtain ⟨b, q, -⟩ := q; cases q) rfl (fun r ph2 q => ?_)
  obtain ⟨b, hr, h⟩ := q
  cases hr
  refine px_st (lv' := [_, _, _, _, _, _, _, _]) rfl rfl rfl rfl rfl rfl rfl ?_
  refine px_goto rfl (by decide) rfl ?_
  refine px_iinc (lv' := [_, _, _, _, _, _, _, _]) rfl rfl rfl rfl rfl rfl ?_
  refine px_goto rfl (by decide) rfl ?_
  rw [show nI a + Int32.ofInt 4 = nI (a + 4) from nI_add a 4]
  refine px_forget (n := 5) (lv' := [_, _, _, _, _, _, _, _]) rfl ?_
  refine px_forget (n := 6) (lv' := [_, _, _, _, _, _, _, _]) rfl ?_
  refine px_forget (n := 7) (lv' := [_, _, _, _, _, _, _, _]) rfl ?_
  exact h
set_option maxRecDepth 20000 in
set_option maxHeartbeats 2000000 in
theorem law_12 (hct : px_ct g 0 = (.int, L, xs)) (hL : L ≤ 2048) (ha : a + 3 < L)
    (h : PW l g d m_L_sum 0 [.ref x, .int (xs (a + 1)), .int (xs (a + 2)), .int (xs (a + 3)), .ref o, px_u] [] ph (fun r ph1 => ∃ k : Int32, r = .inl (some (.int k)) ∧ (∃ mf, ph1[m]? = some (.inr (12, mf))) ∧ PW l g d m_M_sum 0 [.ref m, .int (xs (a + 1)), .int (xs (a + 2)), .int (xs (a + 3)), px_u, px_u, px_u, px_u, px_u] [] ph1 (fun r ph2 => ∃ b : Int64, r = .inl (some (.long b)) ∧ PW l g (d + 1) m_L_law 23 [.retAddr 0, .ref x, .ref m, .ref o, .int (nI (a + 4)), px_u, px_u, px_u] [] ph2 Q))) :
    PW l g (d + 1) m_L_law 519 [.retAddr 0, .ref x, .ref m, .ref o, .int (nI a), px_u, px_u, px_u] [] ph Q := by
  refine px_ld rfl rfl rfl rfl rfl ?_
  refine px_ld rfl rfl rfl rfl rfl ?_
  refine px_ld rfl rfl rfl rfl rfl ?_
  refine px_alu rfl rfl rfl ?_
  refine px_alu rfl rfl rfl ?_
  refine px_scr rfl hct hL (Nat.lt_of_le_of_lt (Nat.add_le_add_left (by decide) a) ha) rfl ?_
  refine px_ld rfl rfl rfl rfl rfl ?_
  refine px_ld rfl rfl rfl rfl rfl ?_
  refine px_alu rfl rfl rfl ?_
  refine px_alu rfl rfl rfl ?_
  refine px_scr rfl hct hL (Nat.lt_of_le_of_lt (Nat.add_le_add_left (by decide) a) ha) rfl ?_
  refine px_ld rfl rfl rfl rfl rfl ?_
  refine px_ld rfl rfl rfl rfl rfl ?_
  refine px_alu rfl rfl rfl ?_
  refine px_alu rfl rfl rfl ?_
  refine px_scr rfl hct hL (Nat.lt_of_le_of_lt (Nat.add_le_add_left (by decide) a) ha) rfl ?_
  refine px_ld rfl rfl rfl rfl rfl ?_
  refine px_callSW (As := [.ref x, .int (xs (a + 1)), .int (xs (a + 2)), .int (xs (a + 3)), .ref o]) (st := []) rfl pg_ww_m_L_sum rfl rfl rfl rfl rfl h (fun _ _ q => by obtain ⟨k, q, -⟩ := q; cases q) rfl (fun r ph1 q => ?_)
  obtain ⟨k, hr, ⟨mf, hm⟩, h⟩ := q
  cases hr
  refine px_st (lv' := [_, _, _, _, _, _, _, _]) rfl rfl rfl rfl rfl rfl rfl ?_
  refine px_ld rfl rfl rfl rfl rfl ?_
  refine px_ld rfl rfl rfl rfl rfl ?_
  refine px_ld rfl rfl rfl rfl rfl ?_
  refine px_alu rfl rfl rfl ?_
  refine px_alu rfl rfl rfl ?_
  refine px_scr rfl hct hL (Nat.lt_of_le_of_lt (Nat.add_le_add_left (by decide) a) ha) rfl ?_
  refine px_ld rfl rfl rfl rfl rfl ?_
  refine px_ld rfl rfl rfl rfl rfl ?_
  refine px_alu rfl rfl rfl ?_
  refine px_alu rfl rfl rfl ?_
  refine px_scr rfl hct hL (Nat.lt_of_le_of_lt (Nat.add_le_add_left (by decide) a) ha) rfl ?_
  refine px_ld rfl rfl rfl rfl rfl ?_
  refine px_ld rfl rfl rfl rfl rfl ?_
  refine px_alu rfl rfl rfl ?_
  refine px_alu rfl rfl rfl ?_
  refine px_scr rfl hct hL (Nat.lt_of_le_of_lt (Nat.add_le_add_left (by decide) a) ha) rfl ?_
  refine px_callV (As := [.int (xs (a + 1)), .int (xs (a + 2)), .int (xs (a + 3))]) (st := []) rfl rfl hm rfl rfl rfl rfl rfl rfl h (fun _ _ q => by obtain ⟨b, q, -⟩ := q; cases q) rfl (fun r ph2 q => ?_)
  obtain ⟨b, hr, h⟩ := q
  cases hr
  refine px_st (lv' := [_, _, _, _, _, _, _, _]) rfl rfl rfl rfl rfl rfl rfl ?_
  refine px_goto rfl (by decide) rfl ?_
  refine px_iinc (lv' := [_, _, _, _, _, _, _, _]) rfl rfl rfl rfl rfl rfl ?_
  refine px_goto rfl (by decide) rfl ?_
  rw [show nI a + Int32.ofInt 4 = nI (a + 4) from nI_add a 4]
  refine px_forget (n := 5) (lv' := [_, _, _, _, _, _, _, _]) rfl ?_
  refine px_forget (n := 6) (lv' := [_, _, _, _, _, _, _, _]) rfl ?_
  refine px_forget (n := 7) (lv' := [_, _, _, _, _, _, _, _]) rfl ?_
  exact h
set_option maxRecDepth 20000 in
set_option maxHeartbeats 2000000 in
theorem law_13 (hct : px_ct g 0 = (.int, L, xs)) (hL : L ≤ 2048) (ha : a + 3 < L)
    (h : PW l g d m_L_map 0 [.ref x, .ref o, px_u] [] ph (fun r ph1 => ∃ k : Int32, r = .inl (some (.int k)) ∧ (∃ mf, ph1[m]? = some (.inr (12, mf))) ∧ PW l g d m_M_map 0 [.ref m, px_u, px_u, px_u, px_u] [] ph1 (fun r ph2 => ∃ b : Int32, r = .inl (some (.int b)) ∧ PW l g (d + 1) m_L_law 23 [.retAddr 0, .ref x, .ref m, .ref o, .int (nI (a + 4)), px_u, px_u, px_u] [] ph2 Q))) :
    PW l g (d + 1) m_L_law 571 [.retAddr 0, .ref x, .ref m, .ref o, .int (nI a), px_u, px_u, px_u] [] ph Q := by
  refine px_ld rfl rfl rfl rfl rfl ?_
  refine px_ld rfl rfl rfl rfl rfl ?_
  refine px_callSW (As := [.ref x, .ref o]) (st := []) rfl pg_ww_m_L_map rfl rfl rfl rfl rfl h (fun _ _ q => by obtain ⟨k, q, -⟩ := q; cases q) rfl (fun r ph1 q => ?_)
  obtain ⟨k, hr, ⟨mf, hm⟩, h⟩ := q
  cases hr
  refine px_st (lv' := [_, _, _, _, _, _, _, _]) rfl rfl rfl rfl rfl rfl rfl ?_
  refine px_ld rfl rfl rfl rfl rfl ?_
  refine px_callV (As := []) (st := []) rfl rfl hm rfl rfl rfl rfl rfl rfl h (fun _ _ q => by obtain ⟨b, q, -⟩ := q; cases q) rfl (fun r ph2 q => ?_)
  obtain ⟨b, hr, h⟩ := q
  cases hr
  refine px_st (lv' := [_, _, _, _, _, _, _, _]) rfl rfl rfl rfl rfl rfl rfl ?_
  refine px_goto rfl (by decide) rfl ?_
  refine px_iinc (lv' := [_, _, _, _, _, _, _, _]) rfl rfl rfl rfl rfl rfl ?_
  refine px_goto rfl (by decide) rfl ?_
  rw [show nI a + Int32.ofInt 4 = nI (a + 4) from nI_add a 4]
  refine px_forget (n := 5) (lv' := [_, _, _, _, _, _, _, _]) rfl ?_
  refine px_forget (n := 6) (lv' := [_, _, _, _, _, _, _, _]) rfl ?_
  refine px_forget (n := 7) (lv' := [_, _, _, _, _, _, _, _]) rfl ?_
  exact h
set_option maxRecDepth 20000 in
set_option maxHeartbeats 2000000 in
theorem law_14 (hct : px_ct g 0 = (.int, L, xs)) (hL : L ≤ 2048) (ha : a + 3 < L)
    (h : PW l g d m_L_address 0 [.ref x, .ref o, px_u] [] ph (fun r ph1 => ∃ k : Int32, r = .inl (some (.int k)) ∧ (∃ mf, ph1[m]? = some (.inr (12, mf))) ∧ PW l g d m_M_address 0 [.ref m, px_u] [] ph1 (fun r ph2 => ∃ b : Int64, r = .inl (some (.long b)) ∧ PW l g (d + 1) m_L_law 23 [.retAddr 0, .ref x, .ref m, .ref o, .int (nI (a + 4)), px_u, px_u, px_u] [] ph2 Q))) :
    PW l g (d + 1) m_L_law 587 [.retAddr 0, .ref x, .ref m, .ref o, .int (nI a), px_u, px_u, px_u] [] ph Q := by
  refine px_ld rfl rfl rfl rfl rfl ?_
  refine px_ld rfl rfl rfl rfl rfl ?_
  refine px_callSW (As := [.ref x, .ref o]) (st := []) rfl pg_ww_m_L_address rfl rfl rfl rfl rfl h (fun _ _ q => by obtain ⟨k, q, -⟩ := q; cases q) rfl (fun r ph1 q => ?_)
  obtain ⟨k, hr, ⟨mf, hm⟩, h⟩ := q
  cases hr
  refine px_st (lv' := [_, _, _, _, _, _, _, _]) rfl rfl rfl rfl rfl rfl rfl ?_
  refine px_ld rfl rfl rfl rfl rfl ?_
  refine px_callV (As := []) (st := []) rfl rfl hm rfl rfl rfl rfl rfl rfl h (fun _ _ q => by obtain ⟨b, q, -⟩ := q; cases q) rfl (fun r ph2 q => ?_)
  obtain ⟨b, hr, h⟩ := q
  cases hr
  refine px_st (lv' := [_, _, _, _, _, _, _, _]) rfl rfl rfl rfl rfl rfl rfl ?_
  refine px_goto rfl (by decide) rfl ?_
  refine px_iinc (lv' := [_, _, _, _, _, _, _, _]) rfl rfl rfl rfl rfl rfl ?_
  refine px_goto rfl (by decide) rfl ?_
  rw [show nI a + Int32.ofInt 4 = nI (a + 4) from nI_add a 4]
  refine px_forget (n := 5) (lv' := [_, _, _, _, _, _, _, _]) rfl ?_
  refine px_forget (n := 6) (lv' := [_, _, _, _, _, _, _, _]) rfl ?_
  refine px_forget (n := 7) (lv' := [_, _, _, _, _, _, _, _]) rfl ?_
  exact h
set_option maxRecDepth 20000 in
set_option maxHeartbeats 2000000 in
theorem law_15 (hct : px_ct g 0 = (.int, L, xs)) (hL : L ≤ 2048) (ha : a + 3 < L)
    (h : PW l g d m_L_taken 0 [.ref x, .int (xs (a + 1)), .int (xs (a + 2)), .ref o, px_u] [] ph (fun r ph1 => ∃ k : Int32, r = .inl (some (.int k)) ∧ (∃ mf, ph1[m]? = some (.inr (12, mf))) ∧ PW l g d m_M_taken 0 [.ref m, .int (xs (a + 1)), .int (xs (a + 2))] [] ph1 (fun r ph2 => ∃ b : Int32, r = .inl (some (.int b)) ∧ PW l g (d + 1) m_L_law 23 [.retAddr 0, .ref x, .ref m, .ref o, .int (nI (a + 4)), px_u, px_u, px_u] [] ph2 Q))) :
    PW l g (d + 1) m_L_law 603 [.retAddr 0, .ref x, .ref m, .ref o, .int (nI a), px_u, px_u, px_u] [] ph Q := by
  refine px_ld rfl rfl rfl rfl rfl ?_
  refine px_ld rfl rfl rfl rfl rfl ?_
  refine px_ld rfl rfl rfl rfl rfl ?_
  refine px_alu rfl rfl rfl ?_
  refine px_alu rfl rfl rfl ?_
  refine px_scr rfl hct hL (Nat.lt_of_le_of_lt (Nat.add_le_add_left (by decide) a) ha) rfl ?_
  refine px_ld rfl rfl rfl rfl rfl ?_
  refine px_ld rfl rfl rfl rfl rfl ?_
  refine px_alu rfl rfl rfl ?_
  refine px_alu rfl rfl rfl ?_
  refine px_scr rfl hct hL (Nat.lt_of_le_of_lt (Nat.add_le_add_left (by decide) a) ha) rfl ?_
  refine px_ld rfl rfl rfl rfl rfl ?_
  refine px_callSW (As := [.ref x, .int (xs (a + 1)), .int (xs (a + 2)), .ref o]) (st := []) rfl pg_ww_m_L_taken rfl rfl rfl rfl rfl h (fun _ _ q => by obtain ⟨k, q, -⟩ := q; cases q) rfl (fun r ph1 q => ?_)
  obtain ⟨k, hr, ⟨mf, hm⟩, h⟩ := q
  cases hr
  refine px_st (lv' := [_, _, _, _, _, _, _, _]) rfl rfl rfl rfl rfl rfl rfl ?_
  refine px_ld rfl rfl rfl rfl rfl ?_
  refine px_ld rfl rfl rfl rfl rfl ?_
  refine px_ld rfl rfl rfl rfl rfl ?_
  refine px_alu rfl rfl rfl ?_
  refine px_alu rfl rfl rfl ?_
  refine px_scr rfl hct hL (Nat.lt_of_le_of_lt (Nat.add_le_add_left (by decide) a) ha) rfl ?_
  refine px_ld rfl rfl rfl rfl rfl ?_
  refine px_ld rfl rfl rfl rfl rfl ?_
  refine px_alu rfl rfl rfl ?_
  refine px_alu rfl rfl rfl ?_
  refine px_scr rfl hct hL (Nat.lt_of_le_of_lt (Nat.add_le_add_left (by decide) a) ha) rfl ?_
  refine px_callV (As := [.int (xs (a + 1)), .int (xs (a + 2))]) (st := []) rfl rfl hm rfl rfl rfl rfl rfl rfl h (fun _ _ q => by obtain ⟨b, q, -⟩ := q; cases q) rfl (fun r ph2 q => ?_)
  obtain ⟨b, hr, h⟩ := q
  cases hr
  refine px_st (lv' := [_, _, _, _, _, _, _, _]) rfl rfl rfl rfl rfl rfl rfl ?_
  refine px_goto rfl (by decide) rfl ?_
  refine px_iinc (lv' := [_, _, _, _, _, _, _, _]) rfl rfl rfl rfl rfl rfl ?_
  refine px_goto rfl (by decide) rfl ?_
  rw [show nI a + Int32.ofInt 4 = nI (a + 4) from nI_add a 4]
  refine px_forget (n := 5) (lv' := [_, _, _, _, _, _, _, _]) rfl ?_
  refine px_forget (n := 6) (lv' := [_, _, _, _, _, _, _, _]) rfl ?_
  refine px_forget (n := 7) (lv' := [_, _, _, _, _, _, _, _]) rfl ?_
  exact h
set_option maxRecDepth 20000 in
set_option maxHeartbeats 2000000 in
theorem law_16 (hct : px_ct g 0 = (.int, L, xs)) (hL : L ≤ 2048) (ha : a + 3 < L)
    (h : PW l g d m_L_cause 0 [.ref x, .int (xs (a + 1)), .int (xs (a + 2)), .ref o, px_u] [] ph (fun r ph1 => ∃ k : Int32, r = .inl (some (.int k)) ∧ (∃ mf, ph1[m]? = some (.inr (12, mf))) ∧ PW l g d m_M_cause 0 [.ref m, .int (xs (a + 1)), .int (xs (a + 2)), px_u] [] ph1 (fun r ph2 => ∃ b : Int32, r = .inl (some (.int b)) ∧ PW l g (d + 1) m_L_law 23 [.retAddr 0, .ref x, .ref m, .ref o, .int (nI (a + 4)), px_u, px_u, px_u] [] ph2 Q))) :
    PW l g (d + 1) m_L_law 643 [.retAddr 0, .ref x, .ref m, .ref o, .int (nI a), px_u, px_u, px_u] [] ph Q := by
  refine px_ld rfl rfl rfl rfl rfl ?_
  refine px_ld rfl rfl rfl rfl rfl ?_
  refine px_ld rfl rfl rfl rfl rfl ?_
  refine px_alu rfl rfl rfl ?_
  refine px_alu rfl rfl rfl ?_
  refine px_scr rfl hct hL (Nat.lt_of_le_of_lt (Nat.add_le_add_left (by decide) a) ha) rfl ?_
  refine px_ld rfl rfl rfl rfl rfl ?_
  refine px_ld rfl rfl rfl rfl rfl ?_
  refine px_alu rfl rfl rfl ?_
  refine px_alu rfl rfl rfl ?_
  refine px_scr rfl hct hL (Nat.lt_of_le_of_lt (Nat.add_le_add_left (by decide) a) ha) rfl ?_
  refine px_ld rfl rfl rfl rfl rfl ?_
  refine px_callSW (As := [.ref x, .int (xs (a + 1)), .int (xs (a + 2)), .ref o]) (st := []) rfl pg_ww_m_L_cause rfl rfl rfl rfl rfl h (fun _ _ q => by obtain ⟨k, q, -⟩ := q; cases q) rfl (fun r ph1 q => ?_)
  obtain ⟨k, hr, ⟨mf, hm⟩, h⟩ := q
  cases hr
  refine px_st (lv' := [_, _, _, _, _, _, _, _]) rfl rfl rfl rfl rfl rfl rfl ?_
  refine px_ld rfl rfl rfl rfl rfl ?_
  refine px_ld rfl rfl rfl rfl rfl ?_
  refine px_ld rfl rfl rfl rfl rfl ?_
  refine px_alu rfl rfl rfl ?_
  refine px_alu rfl rfl rfl ?_
  refine px_scr rfl hct hL (Nat.lt_of_le_of_lt (Nat.add_le_add_left (by decide) a) ha) rfl ?_
  refine px_ld rfl rfl rfl rfl rfl ?_
  refine px_ld rfl rfl rfl rfl rfl ?_
  refine px_alu rfl rfl rfl ?_
  refine px_alu rfl rfl rfl ?_
  refine px_scr rfl hct hL (Nat.lt_of_le_of_lt (Nat.add_le_add_left (by decide) a) ha) rfl ?_
  refine px_callV (As := [.int (xs (a + 1)), .int (xs (a + 2))]) (st := []) rfl rfl hm rfl rfl rfl rfl rfl rfl h (fun _ _ q => by obtain ⟨b, q, -⟩ := q; cases q) rfl (fun r ph2 q => ?_)
  obtain ⟨b, hr, h⟩ := q
  cases hr
  refine px_st (lv' := [_, _, _, _, _, _, _, _]) rfl rfl rfl rfl rfl rfl rfl ?_
  refine px_goto rfl (by decide) rfl ?_
  refine px_iinc (lv' := [_, _, _, _, _, _, _, _]) rfl rfl rfl rfl rfl rfl ?_
  refine px_goto rfl (by decide) rfl ?_
  rw [show nI a + Int32.ofInt 4 = nI (a + 4) from nI_add a 4]
  refine px_forget (n := 5) (lv' := [_, _, _, _, _, _, _, _]) rfl ?_
  refine px_forget (n := 6) (lv' := [_, _, _, _, _, _, _, _]) rfl ?_
  refine px_forget (n := 7) (lv' := [_, _, _, _, _, _, _, _]) rfl ?_
  exact h
set_option maxRecDepth 20000 in
set_option maxHeartbeats 2000000 in
theorem law_17 (hct : px_ct g 0 = (.int, L, xs)) (hL : L ≤ 2048) (ha : a + 3 < L)
    (h : PW l g d m_L_section 0 [.ref x, .int (xs (a + 1)), .int (xs (a + 2)), .ref o, px_u] [] ph (fun r ph1 => ∃ k : Int32, r = .inl (some (.int k)) ∧ (∃ mf, ph1[m]? = some (.inr (12, mf))) ∧ PW l g d m_M_section 0 [.ref m, .int (xs (a + 1)), .int (xs (a + 2))] [] ph1 (fun r ph2 => ∃ b : Int32, r = .inl (some (.int b)) ∧ PW l g (d + 1) m_L_law 23 [.retAddr 0, .ref x, .ref m, .ref o, .int (nI (a + 4)), px_u, px_u, px_u] [] ph2 Q))) :
    PW l g (d + 1) m_L_law 683 [.retAddr 0, .ref x, .ref m, .ref o, .int (nI a), px_u, px_u, px_u] [] ph Q := by
  refine px_ld rfl rfl rfl rfl rfl ?_
  refine px_ld rfl rfl rfl rfl rfl ?_
  refine px_ld rfl rfl rfl rfl rfl ?_
  refine px_alu rfl rfl rfl ?_
  refine px_alu rfl rfl rfl ?_
  refine px_scr rfl hct hL (Nat.lt_of_le_of_lt (Nat.add_le_add_left (by decide) a) ha) rfl ?_
  refine px_ld rfl rfl rfl rfl rfl ?_
  refine px_ld rfl rfl rfl rfl rfl ?_
  refine px_alu rfl rfl rfl ?_
  refine px_alu rfl rfl rfl ?_
  refine px_scr rfl hct hL (Nat.lt_of_le_of_lt (Nat.add_le_add_left (by decide) a) ha) rfl ?_
  refine px_ld rfl rfl rfl rfl rfl ?_
  refine px_callSW (As := [.ref x, .int (xs (a + 1)), .int (xs (a + 2)), .ref o]) (st := []) rfl pg_ww_m_L_section rfl rfl rfl rfl rfl h (fun _ _ q => by obtain ⟨k, q, -⟩ := q; cases q) rfl (fun r ph1 q => ?_)
  obtain ⟨k, hr, ⟨mf, hm⟩, h⟩ := q
  cases hr
  refine px_st (lv' := [_, _, _, _, _, _, _, _]) rfl rfl rfl rfl rfl rfl rfl ?_
  refine px_ld rfl rfl rfl rfl rfl ?_
  refine px_ld rfl rfl rfl rfl rfl ?_
  refine px_ld rfl rfl rfl rfl rfl ?_
  refine px_alu rfl rfl rfl ?_
  refine px_alu rfl rfl rfl ?_
  refine px_scr rfl hct hL (Nat.lt_of_le_of_lt (Nat.add_le_add_left (by decide) a) ha) rfl ?_
  refine px_ld rfl rfl rfl rfl rfl ?_
  refine px_ld rfl rfl rfl rfl rfl ?_
  refine px_alu rfl rfl rfl ?_
  refine px_alu rfl rfl rfl ?_
  refine px_scr rfl hct hL (Nat.lt_of_le_of_lt (Nat.add_le_add_left (by decide) a) ha) rfl ?_
  refine px_callV (As := [.int (xs (a + 1)), .int (xs (a + 2))]) (st := []) rfl rfl hm rfl rfl rfl rfl rfl rfl h (fun _ _ q => by obtain ⟨b, q, -⟩ := q; cases q) rfl (fun r ph2 q => ?_)
  obtain ⟨b, hr, h⟩ := q
  cases hr
  refine px_st (lv' := [_, _, _, _, _, _, _, _]) rfl rfl rfl rfl rfl rfl rfl ?_
  refine px_goto rfl (by decide) rfl ?_
  refine px_iinc (lv' := [_, _, _, _, _, _, _, _]) rfl rfl rfl rfl rfl rfl ?_
  refine px_goto rfl (by decide) rfl ?_
  rw [show nI a + Int32.ofInt 4 = nI (a + 4) from nI_add a 4]
  refine px_forget (n := 5) (lv' := [_, _, _, _, _, _, _, _]) rfl ?_
  refine px_forget (n := 6) (lv' := [_, _, _, _, _, _, _, _]) rfl ?_
  refine px_forget (n := 7) (lv' := [_, _, _, _, _, _, _, _]) rfl ?_
  exact h
set_option maxRecDepth 20000 in
set_option maxHeartbeats 2000000 in
theorem law_18 (hct : px_ct g 0 = (.int, L, xs)) (hL : L ≤ 2048) (ha : a + 3 < L)
    (h : PW l g d m_L_place 0 [.ref x, .int (xs (a + 1)), .ref o, px_u] [] ph (fun r ph1 => ∃ k : Int32, r = .inl (some (.int k)) ∧ (∃ mf, ph1[m]? = some (.inr (12, mf))) ∧ PW l g d m_M_place 0 [.ref m, .int (xs (a + 1))] [] ph1 (fun r ph2 => ∃ b : Int64, r = .inl (some (.long b)) ∧ (∃ mf, ph2[m]? = some (.inr (12, mf))) ∧ PW l g d m_M_thrown 0 [.ref m] [] ph2 (fun r ph3 => r = .inl (some (.int k)) ∧ (∃ f, ph3[o]? = some (.inl (2, 1, .inr (.inl f))) ∧ (k = 0 → f 0 = b)) ∧ PW l g (d + 1) m_L_law 23 [.retAddr 0, .ref x, .ref m, .ref o, .int (nI (a + 4)), px_u, px_u, px_u] [] ph3 Q)))) :
    PW l g (d + 1) m_L_law 723 [.retAddr 0, .ref x, .ref m, .ref o, .int (nI a), px_u, px_u, px_u] [] ph Q := by
  refine px_ld rfl rfl rfl rfl rfl ?_
  refine px_ld rfl rfl rfl rfl rfl ?_
  refine px_ld rfl rfl rfl rfl rfl ?_
  refine px_alu rfl rfl rfl ?_
  refine px_alu rfl rfl rfl ?_
  refine px_scr rfl hct hL (Nat.lt_of_le_of_lt (Nat.add_le_add_left (by decide) a) ha) rfl ?_
  refine px_ld rfl rfl rfl rfl rfl ?_
  refine px_callSW (As := [.ref x, .int (xs (a + 1)), .ref o]) (st := []) rfl pg_ww_m_L_place rfl rfl rfl rfl rfl h (fun _ _ q => by obtain ⟨k, q, -⟩ := q; cases q) rfl (fun r ph1 q => ?_)
  obtain ⟨k, hr, ⟨mf, hm⟩, h⟩ := q
  cases hr
  refine px_st (lv' := [_, _, _, _, _, _, _, _]) rfl rfl rfl rfl rfl rfl rfl ?_
  refine px_ld rfl rfl rfl rfl rfl ?_
  refine px_ld rfl rfl rfl rfl rfl ?_
  refine px_ld rfl rfl rfl rfl rfl ?_
  refine px_alu rfl rfl rfl ?_
  refine px_alu rfl rfl rfl ?_
  refine px_scr rfl hct hL (Nat.lt_of_le_of_lt (Nat.add_le_add_left (by decide) a) ha) rfl ?_
  refine px_callV (As := [.int (xs (a + 1))]) (st := []) rfl rfl hm rfl rfl rfl rfl rfl rfl h (fun _ _ q => by obtain ⟨b, q, -⟩ := q; cases q) rfl (fun r ph2 q => ?_)
  obtain ⟨b, hr, ⟨mf, hm⟩, h⟩ := q
  cases hr
  refine px_st (lv' := [_, _, _, _, _, _, _, _]) rfl rfl rfl rfl rfl rfl rfl ?_
  refine px_ld rfl rfl rfl rfl rfl ?_
  refine px_callV (As := []) (st := []) rfl rfl hm rfl rfl rfl rfl rfl rfl h (fun _ _ q => by obtain ⟨q, -⟩ := q; cases q) rfl (fun r ph3 q => ?_)
  obtain ⟨hr, ⟨f, hf, hc⟩, h⟩ := q
  cases hr
  refine px_ld rfl rfl rfl rfl rfl ?_
  refine px_iceq rfl (by decide) rfl (fun _ => ?_) (fun h9 => absurd rfl h9)
  refine px_ld rfl rfl rfl rfl rfl ?_
  refine px_ifne rfl (by decide) rfl (fun h0 => ?_) (fun h0 => ?_)
  ·
    refine px_goto rfl (by decide) rfl ?_
    refine px_iinc (lv' := [_, _, _, _, _, _, _, _]) rfl rfl rfl rfl rfl rfl ?_
    refine px_goto rfl (by decide) rfl ?_
    rw [show nI a + Int32.ofInt 4 = nI (a + 4) from nI_add a 4]
    refine px_forget (n := 5) (lv' := [_, _, _, _, _, _, _, _]) rfl ?_
    refine px_forget (n := 6) (lv' := [_, _, _, _, _, _, _, _]) rfl ?_
    refine px_forget (n := 7) (lv' := [_, _, _, _, _, _, _, _]) rfl ?_
    exact h
  ·
    refine px_ld rfl rfl rfl rfl rfl ?_
    refine px_alu rfl rfl rfl ?_
    refine px_lald rfl hf rfl (vp_in_nI (by decide) (by decide)) rfl ?_
    rw [show (nI 0).toNatClampNeg = 0 from by decide]
    refine px_ld rfl rfl rfl rfl rfl ?_
    refine px_alu rfl rfl rfl ?_
    refine px_ifeq rfl (by decide) rfl (fun _ => ?_) (fun h9 => absurd (lw_lcmp (hc h0)) h9)
    refine px_goto rfl (by decide) rfl ?_
    refine px_iinc (lv' := [_, _, _, _, _, _, _, _]) rfl rfl rfl rfl rfl rfl ?_
    refine px_goto rfl (by decide) rfl ?_
    rw [show nI a + Int32.ofInt 4 = nI (a + 4) from nI_add a 4]
    refine px_forget (n := 5) (lv' := [_, _, _, _, _, _, _, _]) rfl ?_
    refine px_forget (n := 6) (lv' := [_, _, _, _, _, _, _, _]) rfl ?_
    refine px_forget (n := 7) (lv' := [_, _, _, _, _, _, _, _]) rfl ?_
    exact h
set_option maxRecDepth 20000 in
set_option maxHeartbeats 2000000 in
theorem law_19 (hct : px_ct g 0 = (.int, L, xs)) (hL : L ≤ 2048) (ha : a + 3 < L) (hx : ph[x]? = some (.inr (0, xf)))
    (h : PW l g d m_H_boot 0 [.ref x, .int (lw_zb (xs (a + 1))), px_u] [] ph (fun r ph1 => ∃ k : Int32, r = .inl (some (.int k)) ∧ (∃ mf, ph1[m]? = some (.inr (12, mf))) ∧ PW l g d m_M_boot 0 [.ref m, .int (lw_zb (xs (a + 1))), px_u] [] ph1 (fun r ph2 => ∃ b : Int32, r = .inl (some (.int b)) ∧ PW l g (d + 1) m_L_law 23 [.retAddr 0, .ref x, .ref m, .ref o, .int (nI (a + 4)), px_u, px_u, px_u] [] ph2 Q))) :
    PW l g (d + 1) m_L_law 778 [.retAddr 0, .ref x, .ref m, .ref o, .int (nI a), px_u, px_u, px_u] [] ph Q := by
  by_cases hz : xs (a + 1) = 0
  · rw [show lw_zb (xs (a + 1)) = nI 0 from if_pos hz] at h
    refine px_ld rfl rfl rfl rfl rfl ?_
    refine px_ld rfl rfl rfl rfl rfl ?_
    refine px_ld rfl rfl rfl rfl rfl ?_
    refine px_alu rfl rfl rfl ?_
    refine px_alu rfl rfl rfl ?_
    refine px_scr rfl hct hL (Nat.lt_of_le_of_lt (Nat.add_le_add_left (by decide) a) ha) rfl ?_
    refine px_ifeq rfl (by decide) rfl (fun _ => ?_) (fun h9 => absurd hz h9)
    refine px_alu rfl rfl rfl ?_
    refine px_callV (As := [.int (nI 0)]) (st := []) rfl rfl hx rfl rfl rfl rfl rfl rfl h (fun _ _ q => by obtain ⟨k, q, -⟩ := q; cases q) rfl (fun r ph1 q => ?_)
    obtain ⟨k, hr, ⟨mf, hm⟩, h⟩ := q
    cases hr
    refine px_alu rfl rfl rfl ?_
    refine px_ld rfl rfl rfl rfl rfl ?_
    refine px_ld rfl rfl rfl rfl rfl ?_
    refine px_ld rfl rfl rfl rfl rfl ?_
    refine px_alu rfl rfl rfl ?_
    refine px_alu rfl rfl rfl ?_
    refine px_scr rfl hct hL (Nat.lt_of_le_of_lt (Nat.add_le_add_left (by decide) a) ha) rfl ?_
    refine px_ifeq rfl (by decide) rfl (fun _ => ?_) (fun h9 => absurd hz h9)
    refine px_alu rfl rfl rfl ?_
    refine px_callV (As := [.int (nI 0)]) (st := []) rfl rfl hm rfl rfl rfl rfl rfl rfl h (fun _ _ q => by obtain ⟨b, q, -⟩ := q; cases q) rfl (fun r ph2 q => ?_)
    obtain ⟨b, hr, h⟩ := q
    cases hr
    refine px_alu rfl rfl rfl ?_
    refine px_goto rfl (by decide) rfl ?_
    refine px_iinc (lv' := [_, _, _, _, _, _, _, _]) rfl rfl rfl rfl rfl rfl ?_
    refine px_goto rfl (by decide) rfl ?_
    rw [show nI a + Int32.ofInt 4 = nI (a + 4) from nI_add a 4]
    refine px_forget (n := 5) (lv' := [_, _, _, _, _, _, _, _]) rfl ?_
    refine px_forget (n := 6) (lv' := [_, _, _, _, _, _, _, _]) rfl ?_
    refine px_forget (n := 7) (lv' := [_, _, _, _, _, _, _, _]) rfl ?_
    exact h
  · rw [show lw_zb (xs (a + 1)) = nI 1 from if_neg hz] at h
    refine px_ld rfl rfl rfl rfl rfl ?_
    refine px_ld rfl rfl rfl rfl rfl ?_
    refine px_ld rfl rfl rfl rfl rfl ?_
    refine px_alu rfl rfl rfl ?_
    refine px_alu rfl rfl rfl ?_
    refine px_scr rfl hct hL (Nat.lt_of_le_of_lt (Nat.add_le_add_left (by decide) a) ha) rfl ?_
    refine px_ifeq rfl (by decide) rfl (fun h9 => absurd h9 hz) (fun _ => ?_)
    refine px_alu rfl rfl rfl ?_
    refine px_goto rfl (by decide) rfl ?_
    refine px_callV (As := [.int (nI 1)]) (st := []) rfl rfl hx rfl rfl rfl rfl rfl rfl h (fun _ _ q => by obtain ⟨k, q, -⟩ := q; cases q) rfl (fun r ph1 q => ?_)
    obtain ⟨k, hr, ⟨mf, hm⟩, h⟩ := q
    cases hr
    refine px_alu rfl rfl rfl ?_
    refine px_ld rfl rfl rfl rfl rfl ?_
    refine px_ld rfl rfl rfl rfl rfl ?_
    refine px_ld rfl rfl rfl rfl rfl ?_
    refine px_alu rfl rfl rfl ?_
    refine px_alu rfl rfl rfl ?_
    refine px_scr rfl hct hL (Nat.lt_of_le_of_lt (Nat.add_le_add_left (by decide) a) ha) rfl ?_
    refine px_ifeq rfl (by decide) rfl (fun h9 => absurd h9 hz) (fun _ => ?_)
    refine px_alu rfl rfl rfl ?_
    refine px_goto rfl (by decide) rfl ?_
    refine px_callV (As := [.int (nI 1)]) (st := []) rfl rfl hm rfl rfl rfl rfl rfl rfl h (fun _ _ q => by obtain ⟨b, q, -⟩ := q; cases q) rfl (fun r ph2 q => ?_)
    obtain ⟨b, hr, h⟩ := q
    cases hr
    refine px_alu rfl rfl rfl ?_
    refine px_goto rfl (by decide) rfl ?_
    refine px_iinc (lv' := [_, _, _, _, _, _, _, _]) rfl rfl rfl rfl rfl rfl ?_
    refine px_goto rfl (by decide) rfl ?_
    rw [show nI a + Int32.ofInt 4 = nI (a + 4) from nI_add a 4]
    refine px_forget (n := 5) (lv' := [_, _, _, _, _, _, _, _]) rfl ?_
    refine px_forget (n := 6) (lv' := [_, _, _, _, _, _, _, _]) rfl ?_
    refine px_forget (n := 7) (lv' := [_, _, _, _, _, _, _, _]) rfl ?_
    exact h
set_option maxRecDepth 20000 in
set_option maxHeartbeats 2000000 in
theorem law_20 (hct : px_ct g 0 = (.int, L, xs)) (hL : L ≤ 2048) (ha : a + 3 < L) (hx : ph[x]? = some (.inr (0, xf)))
    (h : PW l g d m_H_peek 0 [.ref x, .long (lw_jj (xs (a + 1)) (xs (a + 2))), px_u] [] ph (fun r ph1 => ∃ k : Int32, r = .inl (some (.int k)) ∧ (∃ mf, ph1[m]? = some (.inr (12, mf))) ∧ PW l g d m_M_peek 0 [.ref m, .long (lw_jj (xs (a + 1)) (xs (a + 2))), px_u, px_u, px_u, px_u] [] ph1 (fun r ph2 => ∃ b : Int32, r = .inl (some (.int b)) ∧ PW l g (d + 1) m_L_law 23 [.retAddr 0, .ref x, .ref m, .ref o, .int (nI (a + 4)), px_u, px_u, px_u] [] ph2 Q))) :
    PW l g (d + 1) m_L_law 819 [.retAddr 0, .ref x, .ref m, .ref o, .int (nI a), px_u, px_u, px_u] [] ph Q := by
  refine px_ld rfl rfl rfl rfl rfl ?_
  refine px_ld rfl rfl rfl rfl rfl ?_
  refine px_ld rfl rfl rfl rfl rfl ?_
  refine px_alu rfl rfl rfl ?_
  refine px_alu rfl rfl rfl ?_
  refine px_scr rfl hct hL (Nat.lt_of_le_of_lt (Nat.add_le_add_left (by decide) a) ha) rfl ?_
  refine px_alu rfl rfl rfl ?_
  refine px_alu rfl rfl rfl ?_
  refine px_alu rfl rfl rfl ?_
  refine px_ld rfl rfl rfl rfl rfl ?_
  refine px_ld rfl rfl rfl rfl rfl ?_
  refine px_alu rfl rfl rfl ?_
  refine px_alu rfl rfl rfl ?_
  refine px_scr rfl hct hL (Nat.lt_of_le_of_lt (Nat.add_le_add_left (by decide) a) ha) rfl ?_
  refine px_alu rfl rfl rfl ?_
  refine px_ldc2 rfl rfl rfl ?_
  refine px_alu rfl rfl rfl ?_
  refine px_alu rfl rfl rfl ?_
  refine px_callV (As := [.long (lw_jj (xs (a + 1)) (xs (a + 2)))]) (st := []) rfl rfl hx rfl rfl rfl rfl rfl rfl h (fun _ _ q => by obtain ⟨k, q, -⟩ := q; cases q) rfl (fun r ph1 q => ?_)
  obtain ⟨k, hr, ⟨mf, hm⟩, h⟩ := q
  cases hr
  refine px_alu rfl rfl rfl ?_
  refine px_ld rfl rfl rfl rfl rfl ?_
  refine px_ld rfl rfl rfl rfl rfl ?_
  refine px_ld rfl rfl rfl rfl rfl ?_
  refine px_alu rfl rfl rfl ?_
  refine px_alu rfl rfl rfl ?_
  refine px_scr rfl hct hL (Nat.lt_of_le_of_lt (Nat.add_le_add_left (by decide) a) ha) rfl ?_
  refine px_alu rfl rfl rfl ?_
  refine px_alu rfl rfl rfl ?_
  refine px_alu rfl rfl rfl ?_
  refine px_ld rfl rfl rfl rfl rfl ?_
  refine px_ld rfl rfl rfl rfl rfl ?_
  refine px_alu rfl rfl rfl ?_
  refine px_alu rfl rfl rfl ?_
  refine px_scr rfl hct hL (Nat.lt_of_le_of_lt (Nat.add_le_add_left (by decide) a) ha) rfl ?_
  refine px_alu rfl rfl rfl ?_
  refine px_ldc2 rfl rfl rfl ?_
  refine px_alu rfl rfl rfl ?_
  refine px_alu rfl rfl rfl ?_
  refine px_callV (As := [.long (lw_jj (xs (a + 1)) (xs (a + 2)))]) (st := []) rfl rfl hm rfl rfl rfl rfl rfl rfl h (fun _ _ q => by obtain ⟨b, q, -⟩ := q; cases q) rfl (fun r ph2 q => ?_)
  obtain ⟨b, hr, h⟩ := q
  cases hr
  refine px_alu rfl rfl rfl ?_
  refine px_goto rfl (by decide) rfl ?_
  refine px_iinc (lv' := [_, _, _, _, _, _, _, _]) rfl rfl rfl rfl rfl rfl ?_
  refine px_goto rfl (by decide) rfl ?_
  rw [show nI a + Int32.ofInt 4 = nI (a + 4) from nI_add a 4]
  refine px_forget (n := 5) (lv' := [_, _, _, _, _, _, _, _]) rfl ?_
  refine px_forget (n := 6) (lv' := [_, _, _, _, _, _, _, _]) rfl ?_
  refine px_forget (n := 7) (lv' := [_, _, _, _, _, _, _, _]) rfl ?_
  exact h
set_option maxRecDepth 20000 in
set_option maxHeartbeats 2000000 in
theorem law_21 (hct : px_ct g 0 = (.int, L, xs)) (hL : L ≤ 2048) (ha : a + 3 < L) (hx : ph[x]? = some (.inr (0, xf)))
    (h : PW l g d m_H_flags 0 [.ref x, .long (lw_jj (xs (a + 1)) (xs (a + 2))), px_u] [] ph (fun r ph1 => ∃ k : Int64, r = .inl (some (.long k)) ∧ (∃ mf, ph1[m]? = some (.inr (12, mf))) ∧ PW l g d m_M_flags 0 [.ref m, .long (lw_jj (xs (a + 1)) (xs (a + 2))), px_u, px_u] [] ph1 (fun r ph2 => ∃ b : Int64, r = .inl (some (.long b)) ∧ PW l g (d + 1) m_L_law 23 [.retAddr 0, .ref x, .ref m, .ref o, .int (nI (a + 4)), px_u, px_u, px_u] [] ph2 Q))) :
    PW l g (d + 1) m_L_law 876 [.retAddr 0, .ref x, .ref m, .ref o, .int (nI a), px_u, px_u, px_u] [] ph Q := by
  refine px_ld rfl rfl rfl rfl rfl ?_
  refine px_ld rfl rfl rfl rfl rfl ?_
  refine px_ld rfl rfl rfl rfl rfl ?_
  refine px_alu rfl rfl rfl ?_
  refine px_alu rfl rfl rfl ?_
  refine px_scr rfl hct hL (Nat.lt_of_le_of_lt (Nat.add_le_add_left (by decide) a) ha) rfl ?_
  refine px_alu rfl rfl rfl ?_
  refine px_alu rfl rfl rfl ?_
  refine px_alu rfl rfl rfl ?_
  refine px_ld rfl rfl rfl rfl rfl ?_
  refine px_ld rfl rfl rfl rfl rfl ?_
  refine px_alu rfl rfl rfl ?_
  refine px_alu rfl rfl rfl ?_
  refine px_scr rfl hct hL (Nat.lt_of_le_of_lt (Nat.add_le_add_left (by decide) a) ha) rfl ?_
  refine px_alu rfl rfl rfl ?_
  refine px_ldc2 rfl rfl rfl ?_
  refine px_alu rfl rfl rfl ?_
  refine px_alu rfl rfl rfl ?_
  refine px_callV (As := [.long (lw_jj (xs (a + 1)) (xs (a + 2)))]) (st := []) rfl rfl hx rfl rfl rfl rfl rfl rfl h (fun _ _ q => by obtain ⟨k, q, -⟩ := q; cases q) rfl (fun r ph1 q => ?_)
  obtain ⟨k, hr, ⟨mf, hm⟩, h⟩ := q
  cases hr
  refine px_pop2 rfl rfl ?_
  refine px_ld rfl rfl rfl rfl rfl ?_
  refine px_ld rfl rfl rfl rfl rfl ?_
  refine px_ld rfl rfl rfl rfl rfl ?_
  refine px_alu rfl rfl rfl ?_
  refine px_alu rfl rfl rfl ?_
  refine px_scr rfl hct hL (Nat.lt_of_le_of_lt (Nat.add_le_add_left (by decide) a) ha) rfl ?_
  refine px_alu rfl rfl rfl ?_
  refine px_alu rfl rfl rfl ?_
  refine px_alu rfl rfl rfl ?_
  refine px_ld rfl rfl rfl rfl rfl ?_
  refine px_ld rfl rfl rfl rfl rfl ?_
  refine px_alu rfl rfl rfl ?_
  refine px_alu rfl rfl rfl ?_
  refine px_scr rfl hct hL (Nat.lt_of_le_of_lt (Nat.add_le_add_left (by decide) a) ha) rfl ?_
  refine px_alu rfl rfl rfl ?_
  refine px_ldc2 rfl rfl rfl ?_
  refine px_alu rfl rfl rfl ?_
  refine px_alu rfl rfl rfl ?_
  refine px_callV (As := [.long (lw_jj (xs (a + 1)) (xs (a + 2)))]) (st := []) rfl rfl hm rfl rfl rfl rfl rfl rfl h (fun _ _ q => by obtain ⟨b, q, -⟩ := q; cases q) rfl (fun r ph2 q => ?_)
  obtain ⟨b, hr, h⟩ := q
  cases hr
  refine px_pop2 rfl rfl ?_
  refine px_goto rfl (by decide) rfl ?_
  refine px_iinc (lv' := [_, _, _, _, _, _, _, _]) rfl rfl rfl rfl rfl rfl ?_
  refine px_goto rfl (by decide) rfl ?_
  rw [show nI a + Int32.ofInt 4 = nI (a + 4) from nI_add a 4]
  refine px_forget (n := 5) (lv' := [_, _, _, _, _, _, _, _]) rfl ?_
  refine px_forget (n := 6) (lv' := [_, _, _, _, _, _, _, _]) rfl ?_
  refine px_forget (n := 7) (lv' := [_, _, _, _, _, _, _, _]) rfl ?_
  exact h
set_option maxRecDepth 20000 in
set_option maxHeartbeats 2000000 in
theorem law_22 (hct : px_ct g 0 = (.int, L, xs)) (hL : L ≤ 2048) (ha : a + 3 < L)
    (h : PW l g d m_L_out 0 [.ref x, .int (xs (a + 1)), .ref o, px_u] [] ph (fun r ph1 => ∃ k : Int32, r = .inl (some (.int k)) ∧ (∃ mf, ph1[m]? = some (.inr (12, mf))) ∧ PW l g d m_M_out 0 [.ref m, .int (xs (a + 1)), px_u, px_u, px_u] [] ph1 (fun r ph2 => ∃ b : Int64, r = .inl (some (.long b)) ∧ PW l g (d + 1) m_L_law 23 [.retAddr 0, .ref x, .ref m, .ref o, .int (nI (a + 4)), px_u, px_u, px_u] [] ph2 Q))) :
    PW l g (d + 1) m_L_law 933 [.retAddr 0, .ref x, .ref m, .ref o, .int (nI a), px_u, px_u, px_u] [] ph Q := by
  refine px_ld rfl rfl rfl rfl rfl ?_
  refine px_ld rfl rfl rfl rfl rfl ?_
  refine px_ld rfl rfl rfl rfl rfl ?_
  refine px_alu rfl rfl rfl ?_
  refine px_alu rfl rfl rfl ?_
  refine px_scr rfl hct hL (Nat.lt_of_le_of_lt (Nat.add_le_add_left (by decide) a) ha) rfl ?_
  refine px_ld rfl rfl rfl rfl rfl ?_
  refine px_callSW (As := [.ref x, .int (xs (a + 1)), .ref o]) (st := []) rfl pg_ww_m_L_out rfl rfl rfl rfl rfl h (fun _ _ q => by obtain ⟨k, q, -⟩ := q; cases q) rfl (fun r ph1 q => ?_)
  obtain ⟨k, hr, ⟨mf, hm⟩, h⟩ := q
  cases hr
  refine px_st (lv' := [_, _, _, _, _, _, _, _]) rfl rfl rfl rfl rfl rfl rfl ?_
  refine px_ld rfl rfl rfl rfl rfl ?_
  refine px_ld rfl rfl rfl rfl rfl ?_
  refine px_ld rfl rfl rfl rfl rfl ?_
  refine px_alu rfl rfl rfl ?_
  refine px_alu rfl rfl rfl ?_
  refine px_scr rfl hct hL (Nat.lt_of_le_of_lt (Nat.add_le_add_left (by decide) a) ha) rfl ?_
  refine px_callV (As := [.int (xs (a + 1))]) (st := []) rfl rfl hm rfl rfl rfl rfl rfl rfl h (fun _ _ q => by obtain ⟨b, q, -⟩ := q; cases q) rfl (fun r ph2 q => ?_)
  obtain ⟨b, hr, h⟩ := q
  cases hr
  refine px_st (lv' := [_, _, _, _, _, _, _, _]) rfl rfl rfl rfl rfl rfl rfl ?_
  refine px_goto rfl (by decide) rfl ?_
  refine px_iinc (lv' := [_, _, _, _, _, _, _, _]) rfl rfl rfl rfl rfl rfl ?_
  refine px_goto rfl (by decide) rfl ?_
  rw [show nI a + Int32.ofInt 4 = nI (a + 4) from nI_add a 4]
  refine px_forget (n := 5) (lv' := [_, _, _, _, _, _, _, _]) rfl ?_
  refine px_forget (n := 6) (lv' := [_, _, _, _, _, _, _, _]) rfl ?_
  refine px_forget (n := 7) (lv' := [_, _, _, _, _, _, _, _]) rfl ?_
  exact h
set_option maxRecDepth 20000 in
set_option maxHeartbeats 2000000 in
theorem law_23 (hct : px_ct g 0 = (.int, L, xs)) (hL : L ≤ 2048) (ha : a + 3 < L)
    (h : PW l g d m_L_look 0 [.ref x, .int (xs (a + 1)), .ref o, px_u] [] ph (fun r ph1 => ∃ k : Int32, r = .inl (some (.int k)) ∧ (∃ mf, ph1[m]? = some (.inr (12, mf))) ∧ PW l g d m_M_look 0 [.ref m, .int (xs (a + 1))] [] ph1 (fun r ph2 => ∃ b : Int64, r = .inl (some (.long b)) ∧ PW l g (d + 1) m_L_law 23 [.retAddr 0, .ref x, .ref m, .ref o, .int (nI (a + 4)), px_u, px_u, px_u] [] ph2 Q))) :
    PW l g (d + 1) m_L_law 961 [.retAddr 0, .ref x, .ref m, .ref o, .int (nI a), px_u, px_u, px_u] [] ph Q := by
  refine px_ld rfl rfl rfl rfl rfl ?_
  refine px_ld rfl rfl rfl rfl rfl ?_
  refine px_ld rfl rfl rfl rfl rfl ?_
  refine px_alu rfl rfl rfl ?_
  refine px_alu rfl rfl rfl ?_
  refine px_scr rfl hct hL (Nat.lt_of_le_of_lt (Nat.add_le_add_left (by decide) a) ha) rfl ?_
  refine px_ld rfl rfl rfl rfl rfl ?_
  refine px_callSW (As := [.ref x, .int (xs (a + 1)), .ref o]) (st := []) rfl pg_ww_m_L_look rfl rfl rfl rfl rfl h (fun _ _ q => by obtain ⟨k, q, -⟩ := q; cases q) rfl (fun r ph1 q => ?_)
  obtain ⟨k, hr, ⟨mf, hm⟩, h⟩ := q
  cases hr
  refine px_st (lv' := [_, _, _, _, _, _, _, _]) rfl rfl rfl rfl rfl rfl rfl ?_
  refine px_ld rfl rfl rfl rfl rfl ?_
  refine px_ld rfl rfl rfl rfl rfl ?_
  refine px_ld rfl rfl rfl rfl rfl ?_
  refine px_alu rfl rfl rfl ?_
  refine px_alu rfl rfl rfl ?_
  refine px_scr rfl hct hL (Nat.lt_of_le_of_lt (Nat.add_le_add_left (by decide) a) ha) rfl ?_
  refine px_callV (As := [.int (xs (a + 1))]) (st := []) rfl rfl hm rfl rfl rfl rfl rfl rfl h (fun _ _ q => by obtain ⟨b, q, -⟩ := q; cases q) rfl (fun r ph2 q => ?_)
  obtain ⟨b, hr, h⟩ := q
  cases hr
  refine px_st (lv' := [_, _, _, _, _, _, _, _]) rfl rfl rfl rfl rfl rfl rfl ?_
  refine px_goto rfl (by decide) rfl ?_
  refine px_iinc (lv' := [_, _, _, _, _, _, _, _]) rfl rfl rfl rfl rfl rfl ?_
  refine px_goto rfl (by decide) rfl ?_
  rw [show nI a + Int32.ofInt 4 = nI (a + 4) from nI_add a 4]
  refine px_forget (n := 5) (lv' := [_, _, _, _, _, _, _, _]) rfl ?_
  refine px_forget (n := 6) (lv' := [_, _, _, _, _, _, _, _]) rfl ?_
  refine px_forget (n := 7) (lv' := [_, _, _, _, _, _, _, _]) rfl ?_
  exact h
end LAWC
