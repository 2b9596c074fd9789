/-! methods as functions: LinkHouse -/
def px_qT (r : Nat) (ph' : px_H) : px_Q := fun r9 ph9 => r9 = .inr ph'.length ∧ ph9 = ph' ++ [.inr (r, [])]
def g_H_feed_11 (F : Nat) (c : px_CT) (ph : px_H) : Option (Nat × px_H) :=
  some (13, ph)
theorem t_H_feed_11 {l : Launch} {g : px_G} {d F : Nat} (hfl : l.flags = flags0) {ph : px_H} {r : Nat} {ph' : px_H} (h : g_H_feed_11 F (px_ct g) ph = some (r, ph')) (hm : ph'.length < pg_MC) (hs : px_sum ph' + 6 ≤ pg_MS) : PW l g (d + 6) m_H_feed 11 [px_u, px_u, px_u, px_u] [] ph (px_qT r ph') := by
  unfold g_H_feed_11 at h
  cases h
  exact px_tIAE hfl rfl rfl rfl rfl rfl rfl rfl rfl rfl rfl hm hs rfl ⟨rfl, rfl⟩
def g_H_feed (F : Nat) (c : px_CT) (a0 : Nat) (a1 : Int32) (a2 : Int64) (ph : px_H) : Option (Nat × px_H) :=
  if a1 < (nI 1) then
    g_H_feed_11 F c ph
  else
    if a1 ≤ (nI 8) then
      (xgR ph 0 0 a0).bind fun t1 =>
      (xgI ph 10 1 t1).bind fun t2 =>
      if (t2 + a1) ≤ (nI 8192) then
        (xgR ph 0 0 a0).bind fun t3 =>
        (xo ph 10 t3).bind fun _ =>
        xb (f_Row_put F c t3 a1 a2 ph) fun _ ph4 =>
        (xgR ph4 0 0 a0).bind fun t5 =>
        (xgI ph4 10 1 t5).bind fun t6 =>
        none
      else
        some (14, ph)
    else
      g_H_feed_11 F c ph
theorem t_H_feed {l : Launch} {g : px_G} {d F : Nat} (hfl : l.flags = flags0) {a0 : Nat} {a1 : Int32} {a2 : Int64} {ph : px_H} {r : Nat} {ph' : px_H} (h : g_H_feed F (px_ct g) a0 a1 a2 ph = some (r, ph')) (hm : ph'.length < pg_MC) (hs : px_sum ph' + 6 ≤ pg_MS) : PW l g (d + 6) m_H_feed 0 [.ref a0, .int a1, .long a2, px_u] [] ph (px_qT r ph') := by
  unfold g_H_feed at h
  refine px_ld rfl rfl rfl rfl rfl ?_
  refine px_ic (k := 1) rfl rfl rfl ?_
  refine px_iclt rfl rfl rfl (fun hc => ?_) (fun hc => ?_)
  · replace h := (if_pos hc).symm.trans h
    refine px_forget (n := 0) (lv' := [_, _, _, _]) rfl ?_
    refine px_forget (n := 1) (lv' := [_, _, _, _]) rfl ?_
    refine px_forget (n := 2) (lv' := [_, _, _, _]) rfl ?_
    exact (t_H_feed_11 hfl h hm hs :)
  · replace h := (if_neg hc).symm.trans h
    refine px_ld rfl rfl rfl rfl rfl ?_
    refine px_ic (k := 8) rfl rfl rfl ?_
    refine px_icle rfl rfl rfl (fun hc => ?_) (fun hc => ?_)
    · replace h := (if_pos hc).symm.trans h
      refine px_ld rfl rfl rfl rfl rfl ?_
      obtain ⟨t1, h0, h⟩ := xs_some h
      obtain ⟨fs, e1, e2⟩ := xgR_some h0
      refine px_get rfl e1 e2 rfl ?_
      obtain ⟨t2, h0, h⟩ := xs_some h
      obtain ⟨fs, e1, e2⟩ := xgI_some h0
      refine px_get rfl e1 e2 rfl ?_
      refine px_ld rfl rfl rfl rfl rfl ?_
      refine px_alu rfl rfl rfl ?_
      refine px_ic (k := 8192) rfl rfl rfl ?_
      refine px_icle rfl rfl rfl (fun hc => ?_) (fun hc => ?_)
      · replace h := (if_pos hc).symm.trans h
        refine px_ld rfl rfl rfl rfl rfl ?_
        obtain ⟨t3, h0, h⟩ := xs_some h
        obtain ⟨fs, e1, e2⟩ := xgR_some h0
        refine px_get rfl e1 e2 rfl ?_
        refine px_ld rfl rfl rfl rfl rfl ?_
        refine px_ld rfl rfl rfl rfl rfl ?_
        obtain ⟨fs, h0, h⟩ := xs_some h
        have e1 := xo_some h0
        obtain ⟨u0, ph4, h0, h⟩ := xb_some h
        refine px_cV2 rfl rfl e1 rfl rfl rfl rfl rfl rfl rfl (r_Row_put h0 :) (fun _ _ q => nomatch q.2) (fun r ph' q => ?_)
        obtain ⟨rfl, q⟩ := q
        cases q
        refine px_ld rfl rfl rfl rfl rfl ?_
        obtain ⟨t5, h0, h⟩ := xs_some h
        obtain ⟨fs, e1, e2⟩ := xgR_some h0
        refine px_get rfl e1 e2 rfl ?_
        obtain ⟨t6, h0, h⟩ := xs_some h
        obtain ⟨fs, e1, e2⟩ := xgI_some h0
        refine px_get rfl e1 e2 rfl ?_
        cases h
      · replace h := (if_neg hc).symm.trans h
        cases h
        exact px_tISE hfl rfl rfl rfl rfl rfl rfl rfl rfl rfl rfl hm hs rfl ⟨rfl, rfl⟩
    · replace h := (if_neg hc).symm.trans h
      refine px_forget (n := 0) (lv' := [_, _, _, _]) rfl ?_
      refine px_forget (n := 1) (lv' := [_, _, _, _]) rfl ?_
      refine px_forget (n := 2) (lv' := [_, _, _, _]) rfl ?_
      exact (t_H_feed_11 hfl h hm hs :)
def g_H_add_79 (F : Nat) (c : px_CT) (a1 : Int32) (ph : px_H) : Option (Nat × px_H) :=
  none
theorem t_H_add_79 {l : Launch} {g : px_G} {d F : Nat} (hfl : l.flags = flags0) {a1 : Int32} {ph : px_H} {r : Nat} {ph' : px_H} (h : g_H_add_79 F (px_ct g) a1 ph = some (r, ph')) (hm : ph'.length < pg_MC) (hs : px_sum ph' + 6 ≤ pg_MS) : PW l g (d + 7) m_H_add 79 [px_u, .int a1] [] ph (px_qT r ph') := by
  unfold g_H_add_79 at h
  refine px_ld rfl rfl rfl rfl rfl ?_
  cases h
def g_H_add (F : Nat) (c : px_CT) (a0 : Nat) (ph : px_H) : Option (Nat × px_H) :=
  (xgI ph 0 6 a0).bind fun t1 =>
  if t1 < (nI 8) then
    (xgI ph 0 6 a0).bind fun t2 =>
    (xo ph 0 a0).bind fun _ =>
    xb (f_H_readFile F c a0 (t2 * (nI 8)) ph) fun t3 ph4 =>
    (xgR ph4 0 0 a0).bind fun t5 =>
    (xo ph4 10 t5).bind fun _ =>
    xb (f_Row_clear F c t5 ph4) fun _ ph6 =>
    if t3 = 0 then
      (xgI ph6 0 6 a0).bind fun t9 =>
      (xpI ph6 0 6 a0 (t9 + (nI 1))).bind fun ph10 =>
      (xgR ph10 0 5 a0).bind fun t11 =>
      (xgI ph10 0 6 a0).bind fun t12 =>
      (xgR ph10 0 3 a0).bind fun t13 =>
      (xgI ph10 10 1 t13).bind fun t14 =>
      (xsI ph10 1 t11 t12 t14).bind fun ph15 =>
      g_H_add_79 F c t3 ph15
    else
      (xgI ph6 0 6 a0).bind fun t7 =>
      (xo ph6 0 a0).bind fun _ =>
      xb (f_H_clearFile F c a0 t7 ph6) fun _ ph8 =>
      g_H_add_79 F c t3 ph8
  else
    some (14, ph)
theorem t_H_add {l : Launch} {g : px_G} {d F : Nat} (hfl : l.flags = flags0) {a0 : Nat} {ph : px_H} {r : Nat} {ph' : px_H} (h : g_H_add F (px_ct g) a0 ph = some (r, ph')) (hm : ph'.length < pg_MC) (hs : px_sum ph' + 6 ≤ pg_MS) : PW l g (d + 7) m_H_add 0 [.ref a0, px_u] [] ph (px_qT r ph') := by
  unfold g_H_add at h
  refine px_ld rfl rfl rfl rfl rfl ?_
  obtain ⟨t1, h0, h⟩ := xs_some h
  obtain ⟨fs, e1, e2⟩ := xgI_some h0
  refine px_get rfl e1 e2 rfl ?_
  refine px_ic (k := 8) rfl rfl rfl ?_
  refine px_iclt rfl rfl rfl (fun hc => ?_) (fun hc => ?_)
  · replace h := (if_pos hc).symm.trans h
    refine px_ld rfl rfl rfl rfl rfl ?_
    refine px_ld rfl rfl rfl rfl rfl ?_
    obtain ⟨t2, h0, h⟩ := xs_some h
    obtain ⟨fs, e1, e2⟩ := xgI_some h0
    refine px_get rfl e1 e2 rfl ?_
    refine px_ic (k := 8) rfl rfl rfl ?_
    refine px_alu rfl rfl rfl ?_
    obtain ⟨fs, h0, h⟩ := xs_some h
    have e1 := xo_some h0
    obtain ⟨t3, ph4, h0, h⟩ := xb_some h
    refine px_cV1 rfl rfl e1 rfl rfl rfl rfl rfl rfl rfl (r_H_readFile h0 :) (fun _ _ q => nomatch q.2) (fun r ph' q => ?_)
    obtain ⟨rfl, q⟩ := q
    cases q
    refine px_st (lv' := [_, _]) rfl rfl rfl rfl rfl rfl rfl ?_
    refine px_ld rfl rfl rfl rfl rfl ?_
    obtain ⟨t5, h0, h⟩ := xs_some h
    obtain ⟨fs, e1, e2⟩ := xgR_some h0
    refine px_get rfl e1 e2 rfl ?_
    obtain ⟨fs, h0, h⟩ := xs_some h
    have e1 := xo_some h0
    obtain ⟨u0, ph6, h0, h⟩ := xb_some h
    refine px_cV0 rfl rfl e1 rfl rfl rfl rfl rfl rfl rfl (r_Row_clear h0 :) (fun _ _ q => nomatch q.2) (fun r ph' q => ?_)
    obtain ⟨rfl, q⟩ := q
    cases q
    refine px_ld rfl rfl rfl rfl rfl ?_
    refine px_ifne rfl rfl rfl (fun hc => ?_) (fun hc => ?_)
    · replace h := (if_neg hc).symm.trans h
      refine px_ld rfl rfl rfl rfl rfl ?_
      refine px_ld rfl rfl rfl rfl rfl ?_
      obtain ⟨t7, h0, h⟩ := xs_some h
      obtain ⟨fs, e1, e2⟩ := xgI_some h0
      refine px_get rfl e1 e2 rfl ?_
      obtain ⟨fs, h0, h⟩ := xs_some h
      have e1 := xo_some h0
      obtain ⟨u0, ph8, h0, h⟩ := xb_some h
      refine px_cV1 rfl rfl e1 rfl rfl rfl rfl rfl rfl rfl (r_H_clearFile h0 :) (fun _ _ q => nomatch q.2) (fun r ph' q => ?_)
      obtain ⟨rfl, q⟩ := q
      cases q
      refine px_forget (n := 0) (lv' := [_, _]) rfl ?_
      exact (t_H_add_79 hfl h hm hs :)
    · replace h := (if_pos hc).symm.trans h
      refine px_ld rfl rfl rfl rfl rfl ?_
      refine px_alu rfl rfl rfl ?_
      obtain ⟨t9, h0, h⟩ := xs_some h
      obtain ⟨fs, e1, e2⟩ := xgI_some h0
      refine px_get rfl e1 e2 rfl ?_
      refine px_ic (k := 1) rfl rfl rfl ?_
      refine px_alu rfl rfl rfl ?_
      obtain ⟨ph10, h0, h⟩ := xs_some h
      obtain ⟨fs, e1, e2, e3⟩ := xpI_some h0
      subst e3
      refine px_put rfl e1 e2 trivial rfl ?_
      refine px_ld rfl rfl rfl rfl rfl ?_
      obtain ⟨t11, h0, h⟩ := xs_some h
      obtain ⟨fs, e1, e2⟩ := xgR_some h0
      refine px_get rfl e1 e2 rfl ?_
      refine px_ld rfl rfl rfl rfl rfl ?_
      obtain ⟨t12, h0, h⟩ := xs_some h
      obtain ⟨fs, e1, e2⟩ := xgI_some h0
      refine px_get rfl e1 e2 rfl ?_
      refine px_ld rfl rfl rfl rfl rfl ?_
      obtain ⟨t13, h0, h⟩ := xs_some h
      obtain ⟨fs, e1, e2⟩ := xgR_some h0
      refine px_get rfl e1 e2 rfl ?_
      obtain ⟨t14, h0, h⟩ := xs_some h
      obtain ⟨fs, e1, e2⟩ := xgI_some h0
      refine px_get rfl e1 e2 rfl ?_
      obtain ⟨ph15, h0, h⟩ := xs_some h
      obtain ⟨N, f, e1, e2, e3⟩ := xsI_some h0
      subst e3
      refine px_iast rfl e1 rfl e2 rfl ?_
      refine px_goto rfl rfl rfl ?_
      refine px_forget (n := 0) (lv' := [_, _]) rfl ?_
      exact (t_H_add_79 hfl h hm hs :)
  · replace h := (if_neg hc).symm.trans h
    cases h
    exact px_tISE hfl rfl rfl rfl rfl rfl rfl rfl rfl rfl rfl hm hs rfl ⟨rfl, rfl⟩
def g_H_drop (F : Nat) (c : px_CT) (a0 : Nat) (ph : px_H) : Option (Nat × px_H) :=
  (xgI ph 0 6 a0).bind fun t1 =>
  if 0 < t1 then
    (xgI ph 0 6 a0).bind fun t2 =>
    (xpI ph 0 6 a0 (t2 - (nI 1))).bind fun ph3 =>
    (xgI ph3 0 6 a0).bind fun t4 =>
    (xo ph3 0 a0).bind fun _ =>
    xb (f_H_clearFile F c a0 t4 ph3) fun _ ph5 =>
    (xgI ph5 0 6 a0).bind fun t6 =>
    none
  else
    some (14, ph)
theorem t_H_drop {l : Launch} {g : px_G} {d F : Nat} (hfl : l.flags = flags0) {a0 : Nat} {ph : px_H} {r : Nat} {ph' : px_H} (h : g_H_drop F (px_ct g) a0 ph = some (r, ph')) (hm : ph'.length < pg_MC) (hs : px_sum ph' + 6 ≤ pg_MS) : PW l g (d + 6) m_H_drop 0 [.ref a0] [] ph (px_qT r ph') := by
  unfold g_H_drop at h
  refine px_ld rfl rfl rfl rfl rfl ?_
  obtain ⟨t1, h0, h⟩ := xs_some h
  obtain ⟨fs, e1, e2⟩ := xgI_some h0
  refine px_get rfl e1 e2 rfl ?_
  refine px_ifgt rfl rfl rfl (fun hc => ?_) (fun hc => ?_)
  · replace h := (if_pos hc).symm.trans h
    refine px_ld rfl rfl rfl rfl rfl ?_
    refine px_alu rfl rfl rfl ?_
    obtain ⟨t2, h0, h⟩ := xs_some h
    obtain ⟨fs, e1, e2⟩ := xgI_some h0
    refine px_get rfl e1 e2 rfl ?_
    refine px_ic (k := 1) rfl rfl rfl ?_
    refine px_alu rfl rfl rfl ?_
    obtain ⟨ph3, h0, h⟩ := xs_some h
    obtain ⟨fs, e1, e2, e3⟩ := xpI_some h0
    subst e3
    refine px_put rfl e1 e2 trivial rfl ?_
    refine px_ld rfl rfl rfl rfl rfl ?_
    refine px_ld rfl rfl rfl rfl rfl ?_
    obtain ⟨t4, h0, h⟩ := xs_some h
    obtain ⟨fs, e1, e2⟩ := xgI_some h0
    refine px_get rfl e1 e2 rfl ?_
    obtain ⟨fs, h0, h⟩ := xs_some h
    have e1 := xo_some h0
    obtain ⟨u0, ph5, h0, h⟩ := xb_some h
    refine px_cV1 rfl rfl e1 rfl rfl rfl rfl rfl rfl rfl (r_H_clearFile h0 :) (fun _ _ q => nomatch q.2) (fun r ph' q => ?_)
    obtain ⟨rfl, q⟩ := q
    cases q
    refine px_ld rfl rfl rfl rfl rfl ?_
    obtain ⟨t6, h0, h⟩ := xs_some h
    obtain ⟨fs, e1, e2⟩ := xgI_some h0
    refine px_get rfl e1 e2 rfl ?_
    cases h
  · replace h := (if_neg hc).symm.trans h
    cases h
    exact px_tISE hfl rfl rfl rfl rfl rfl rfl rfl rfl rfl rfl hm hs rfl ⟨rfl, rfl⟩
def g_H_give_45 (F : Nat) (c : px_CT) (ph : px_H) : Option (Nat × px_H) :=
  some (14, ph)
theorem t_H_give_45 {l : Launch} {g : px_G} {d F : Nat} (hfl : l.flags = flags0) {ph : px_H} {r : Nat} {ph' : px_H} (h : g_H_give_45 F (px_ct g) ph = some (r, ph')) (hm : ph'.length < pg_MC) (hs : px_sum ph' + 6 ≤ pg_MS) : PW l g (d + 6) m_H_give 45 [px_u, px_u, px_u, px_u] [] ph (px_qT r ph') := by
  unfold g_H_give_45 at h
  cases h
  exact px_tISE hfl rfl rfl rfl rfl rfl rfl rfl rfl rfl rfl hm hs rfl ⟨rfl, rfl⟩
def g_H_give (F : Nat) (c : px_CT) (a0 : Nat) (a1 : Int64) (ph : px_H) : Option (Nat × px_H) :=
  (xo ph 0 a0).bind fun _ =>
  xb (f_H_readTapeName F c a0 ph) fun t1 ph2 =>
  if t1 = 0 then
    some (13, ph2)
  else
    (xgR ph2 0 8 a0).bind fun t3 =>
    (xgR ph2 0 10 a0).bind fun t4 =>
    (xo ph2 6 t3).bind fun _ =>
    xb (f_Names_find F c t3 (some t4) ph2) fun t5 ph6 =>
    (match t5 with
      | none => (xgR ph6 0 8 a0).bind fun t8 =>
      (xgI ph6 6 2 t8).bind fun t9 =>
      if t9 < (nI 16) then
        (xgR ph6 0 8 a0).bind fun t10 =>
        (xgR ph6 0 10 a0).bind fun t11 =>
        (xo ph6 6 t10).bind fun _ =>
        xb (f_Names_enter F c t10 (some t11) ph6) fun t12 ph13 =>
        (t12).bind fun p14 =>
        (xpJ ph13 5 7 p14 a1).bind fun ph15 =>
        (xgR ph15 0 8 a0).bind fun t16 =>
        (xgI ph15 6 2 t16).bind fun t17 =>
        none
      else
        g_H_give_45 F c ph6
      | some p7 => g_H_give_45 F c ph6)
theorem t_H_give {l : Launch} {g : px_G} {d F : Nat} (hfl : l.flags = flags0) {a0 : Nat} {a1 : Int64} {ph : px_H} {r : Nat} {ph' : px_H} (h : g_H_give F (px_ct g) a0 a1 ph = some (r, ph')) (hm : ph'.length < pg_MC) (hs : px_sum ph' + 6 ≤ pg_MS) : PW l g (d + 6) m_H_give 0 [.ref a0, .long a1, px_u, px_u] [] ph (px_qT r ph') := by
  unfold g_H_give at h
  refine px_ld rfl rfl rfl rfl rfl ?_
  obtain ⟨fs, h0, h⟩ := xs_some h
  have e1 := xo_some h0
  obtain ⟨t1, ph2, h0, h⟩ := xb_some h
  refine px_cV0 rfl rfl e1 rfl rfl rfl rfl rfl rfl rfl (r_H_readTapeName h0 :) (fun _ _ q => nomatch q.2) (fun r ph' q => ?_)
  obtain ⟨rfl, q⟩ := q
  cases q
  refine px_st (lv' := [_, _, _, _]) rfl rfl rfl rfl rfl rfl rfl ?_
  refine px_ld rfl rfl rfl rfl rfl ?_
  refine px_ifne rfl rfl rfl (fun hc => ?_) (fun hc => ?_)
  · replace h := (if_neg hc).symm.trans h
    refine px_ld rfl rfl rfl rfl rfl ?_
    obtain ⟨t3, h0, h⟩ := xs_some h
    obtain ⟨fs, e1, e2⟩ := xgR_some h0
    refine px_get rfl e1 e2 rfl ?_
    refine px_ld rfl rfl rfl rfl rfl ?_
    obtain ⟨t4, h0, h⟩ := xs_some h
    obtain ⟨fs, e1, e2⟩ := xgR_some h0
    refine px_get rfl e1 e2 rfl ?_
    obtain ⟨fs, h0, h⟩ := xs_some h
    have e1 := xo_some h0
    obtain ⟨t5, ph6, h0, h⟩ := xb_some h
    refine px_cV1 rfl rfl e1 rfl rfl rfl rfl rfl rfl rfl (r_Names_find h0 :) (fun _ _ q => nomatch q.2) (fun r ph' q => ?_)
    obtain ⟨rfl, q⟩ := q
    cases q
    cases t5 with
    | none =>
      refine px_ifnnN rfl rfl ?_
      refine px_ld rfl rfl rfl rfl rfl ?_
      obtain ⟨t8, h0, h⟩ := xs_some h
      obtain ⟨fs, e1, e2⟩ := xgR_some h0
      refine px_get rfl e1 e2 rfl ?_
      obtain ⟨t9, h0, h⟩ := xs_some h
      obtain ⟨fs, e1, e2⟩ := xgI_some h0
      refine px_get rfl e1 e2 rfl ?_
      refine px_ic (k := 16) rfl rfl rfl ?_
      refine px_iclt rfl rfl rfl (fun hc => ?_) (fun hc => ?_)
      · replace h := (if_pos hc).symm.trans h
        refine px_ld rfl rfl rfl rfl rfl ?_
        obtain ⟨t10, h0, h⟩ := xs_some h
        obtain ⟨fs, e1, e2⟩ := xgR_some h0
        refine px_get rfl e1 e2 rfl ?_
        refine px_ld rfl rfl rfl rfl rfl ?_
        obtain ⟨t11, h0, h⟩ := xs_some h
        obtain ⟨fs, e1, e2⟩ := xgR_some h0
        refine px_get rfl e1 e2 rfl ?_
        obtain ⟨fs, h0, h⟩ := xs_some h
        have e1 := xo_some h0
        obtain ⟨t12, ph13, h0, h⟩ := xb_some h
        refine px_cV1 rfl rfl e1 rfl rfl rfl rfl rfl rfl rfl (r_Names_enter h0 :) (fun _ _ q => nomatch q.2) (fun r ph' q => ?_)
        obtain ⟨rfl, q⟩ := q
        cases q
        refine px_ld rfl rfl rfl rfl rfl ?_
        obtain ⟨p14, h0, h⟩ := xs_some h
        revert h
        subst h0
        intro h
        obtain ⟨ph15, h0, h⟩ := xs_some h
        obtain ⟨fs, e1, e2, e3⟩ := xpJ_some h0
        subst e3
        refine px_put rfl e1 e2 trivial rfl ?_
        refine px_ld rfl rfl rfl rfl rfl ?_
        obtain ⟨t16, h0, h⟩ := xs_some h
        obtain ⟨fs, e1, e2⟩ := xgR_some h0
        refine px_get rfl e1 e2 rfl ?_
        obtain ⟨t17, h0, h⟩ := xs_some h
        obtain ⟨fs, e1, e2⟩ := xgI_some h0
        refine px_get rfl e1 e2 rfl ?_
        cases h
      · replace h := (if_neg hc).symm.trans h
        refine px_forget (n := 0) (lv' := [_, _, _, _]) rfl ?_
        refine px_forget (n := 1) (lv' := [_, _, _, _]) rfl ?_
        refine px_forget (n := 3) (lv' := [_, _, _, _]) rfl ?_
        exact (t_H_give_45 hfl h hm hs :)
    | some p7 =>
      refine px_ifnnR rfl rfl rfl ?_
      refine px_forget (n := 0) (lv' := [_, _, _, _]) rfl ?_
      refine px_forget (n := 1) (lv' := [_, _, _, _]) rfl ?_
      refine px_forget (n := 3) (lv' := [_, _, _, _]) rfl ?_
      exact (t_H_give_45 hfl h hm hs :)
  · replace h := (if_pos hc).symm.trans h
    cases h
    exact px_tIAE hfl rfl rfl rfl rfl rfl rfl rfl rfl rfl rfl hm hs rfl ⟨rfl, rfl⟩
def g_H_wish_45 (F : Nat) (c : px_CT) (ph : px_H) : Option (Nat × px_H) :=
  some (14, ph)
theorem t_H_wish_45 {l : Launch} {g : px_G} {d F : Nat} (hfl : l.flags = flags0) {ph : px_H} {r : Nat} {ph' : px_H} (h : g_H_wish_45 F (px_ct g) ph = some (r, ph')) (hm : ph'.length < pg_MC) (hs : px_sum ph' + 6 ≤ pg_MS) : PW l g (d + 6) m_H_wish 45 [px_u, px_u] [] ph (px_qT r ph') := by
  unfold g_H_wish_45 at h
  cases h
  exact px_tISE hfl rfl rfl rfl rfl rfl rfl rfl rfl rfl rfl hm hs rfl ⟨rfl, rfl⟩
def g_H_wish (F : Nat) (c : px_CT) (a0 : Nat) (ph : px_H) : Option (Nat × px_H) :=
  (xo ph 0 a0).bind fun _ =>
  xb (f_H_readTapeName F c a0 ph) fun t1 ph2 =>
  if t1 = 0 then
    some (13, ph2)
  else
    (xgR ph2 0 9 a0).bind fun t3 =>
    (xgR ph2 0 10 a0).bind fun t4 =>
    (xo ph2 6 t3).bind fun _ =>
    xb (f_Names_find F c t3 (some t4) ph2) fun t5 ph6 =>
    (match t5 with
      | none => (xgR ph6 0 9 a0).bind fun t8 =>
      (xgI ph6 6 2 t8).bind fun t9 =>
      if t9 < (nI 16) then
        (xgR ph6 0 9 a0).bind fun t10 =>
        (xgR ph6 0 10 a0).bind fun t11 =>
        (xo ph6 6 t10).bind fun _ =>
        xb (f_Names_enter F c t10 (some t11) ph6) fun t12 ph13 =>
        (t12).bind fun p14 =>
        (xgR ph13 0 9 a0).bind fun t15 =>
        (xgI ph13 6 2 t15).bind fun t16 =>
        none
      else
        g_H_wish_45 F c ph6
      | some p7 => g_H_wish_45 F c ph6)
theorem t_H_wish {l : Launch} {g : px_G} {d F : Nat} (hfl : l.flags = flags0) {a0 : Nat} {ph : px_H} {r : Nat} {ph' : px_H} (h : g_H_wish F (px_ct g) a0 ph = some (r, ph')) (hm : ph'.length < pg_MC) (hs : px_sum ph' + 6 ≤ pg_MS) : PW l g (d + 6) m_H_wish 0 [.ref a0, px_u] [] ph (px_qT r ph') := by
  unfold g_H_wish at h
  refine px_ld rfl rfl rfl rfl rfl ?_
  obtain ⟨fs, h0, h⟩ := xs_some h
  have e1 := xo_some h0
  obtain ⟨t1, ph2, h0, h⟩ := xb_some h
  refine px_cV0 rfl rfl e1 rfl rfl rfl rfl rfl rfl rfl (r_H_readTapeName h0 :) (fun _ _ q => nomatch q.2) (fun r ph' q => ?_)
  obtain ⟨rfl, q⟩ := q
  cases q
  refine px_st (lv' := [_, _]) rfl rfl rfl rfl rfl rfl rfl ?_
  refine px_ld rfl rfl rfl rfl rfl ?_
  refine px_ifne rfl rfl rfl (fun hc => ?_) (fun hc => ?_)
  · replace h := (if_neg hc).symm.trans h
    refine px_ld rfl rfl rfl rfl rfl ?_
    obtain ⟨t3, h0, h⟩ := xs_some h
    obtain ⟨fs, e1, e2⟩ := xgR_some h0
    refine px_get rfl e1 e2 rfl ?_
    refine px_ld rfl rfl rfl rfl rfl ?_
    obtain ⟨t4, h0, h⟩ := xs_some h
    obtain ⟨fs, e1, e2⟩ := xgR_some h0
    refine px_get rfl e1 e2 rfl ?_
    obtain ⟨fs, h0, h⟩ := xs_some h
    have e1 := xo_some h0
    obtain ⟨t5, ph6, h0, h⟩ := xb_some h
    refine px_cV1 rfl rfl e1 rfl rfl rfl rfl rfl rfl rfl (r_Names_find h0 :) (fun _ _ q => nomatch q.2) (fun r ph' q => ?_)
    obtain ⟨rfl, q⟩ := q
    cases q
    cases t5 with
    | none =>
      refine px_ifnnN rfl rfl ?_
      refine px_ld rfl rfl rfl rfl rfl ?_
      obtain ⟨t8, h0, h⟩ := xs_some h
      obtain ⟨fs, e1, e2⟩ := xgR_some h0
      refine px_get rfl e1 e2 rfl ?_
      obtain ⟨t9, h0, h⟩ := xs_some h
      obtain ⟨fs, e1, e2⟩ := xgI_some h0
      refine px_get rfl e1 e2 rfl ?_
      refine px_ic (k := 16) rfl rfl rfl ?_
      refine px_iclt rfl rfl rfl (fun hc => ?_) (fun hc => ?_)
      · replace h := (if_pos hc).symm.trans h
        refine px_ld rfl rfl rfl rfl rfl ?_
        obtain ⟨t10, h0, h⟩ := xs_some h
        obtain ⟨fs, e1, e2⟩ := xgR_some h0
        refine px_get rfl e1 e2 rfl ?_
        refine px_ld rfl rfl rfl rfl rfl ?_
        obtain ⟨t11, h0, h⟩ := xs_some h
        obtain ⟨fs, e1, e2⟩ := xgR_some h0
        refine px_get rfl e1 e2 rfl ?_
        obtain ⟨fs, h0, h⟩ := xs_some h
        have e1 := xo_some h0
        obtain ⟨t12, ph13, h0, h⟩ := xb_some h
        refine px_cV1 rfl rfl e1 rfl rfl rfl rfl rfl rfl rfl (r_Names_enter h0 :) (fun _ _ q => nomatch q.2) (fun r ph' q => ?_)
        obtain ⟨rfl, q⟩ := q
        cases q
        obtain ⟨p14, h0, h⟩ := xs_some h
        revert h
        subst h0
        intro h
        refine px_alu rfl rfl rfl ?_
        refine px_ld rfl rfl rfl rfl rfl ?_
        obtain ⟨t15, h0, h⟩ := xs_some h
        obtain ⟨fs, e1, e2⟩ := xgR_some h0
        refine px_get rfl e1 e2 rfl ?_
        obtain ⟨t16, h0, h⟩ := xs_some h
        obtain ⟨fs, e1, e2⟩ := xgI_some h0
        refine px_get rfl e1 e2 rfl ?_
        cases h
      · replace h := (if_neg hc).symm.trans h
        refine px_forget (n := 0) (lv' := [_, _]) rfl ?_
        refine px_forget (n := 1) (lv' := [_, _]) rfl ?_
        exact (t_H_wish_45 hfl h hm hs :)
    | some p7 =>
      refine px_ifnnR rfl rfl rfl ?_
      refine px_forget (n := 0) (lv' := [_, _]) rfl ?_
      refine px_forget (n := 1) (lv' := [_, _]) rfl ?_
      exact (t_H_wish_45 hfl h hm hs :)
  · replace h := (if_pos hc).symm.trans h
    cases h
    exact px_tIAE hfl rfl rfl rfl rfl rfl rfl rfl rfl rfl rfl hm hs rfl ⟨rfl, rfl⟩
def g_H_named (F : Nat) (c : px_CT) (a0 : Nat) (ph : px_H) : Option (Nat × px_H) :=
  (xgR ph 0 11 a0).bind fun t1 =>
  (xgI ph 3 18 t1).bind fun t2 =>
  if t2 = 0 then
    (xgR ph 0 15 a0).bind fun t3 =>
    (xgR ph 0 2 a0).bind fun t4 =>
    (xgR ph 0 14 a0).bind fun t5 =>
    (xgR ph 1 4 t5).bind fun t6 =>
    (xo ph 11 t3).bind fun _ =>
    xb (f_Scribe_writeNamed F c t3 t4 t6 ph) fun t7 ph8 =>
    if t7 = 0 then
      none
    else
      (xo ph8 0 a0).bind fun _ =>
      xb (f_H_publishDraft F c a0 ph8) fun t9 ph10 =>
      none
  else
    some (14, ph)
theorem t_H_named {l : Launch} {g : px_G} {d F : Nat} (hfl : l.flags = flags0) {a0 : Nat} {ph : px_H} {r : Nat} {ph' : px_H} (h : g_H_named F (px_ct g) a0 ph = some (r, ph')) (hm : ph'.length < pg_MC) (hs : px_sum ph' + 6 ≤ pg_MS) : PW l g (d + 6) m_H_named 0 [.ref a0] [] ph (px_qT r ph') := by
  unfold g_H_named at h
  refine px_ld rfl rfl rfl rfl rfl ?_
  obtain ⟨t1, h0, h⟩ := xs_some h
  obtain ⟨fs, e1, e2⟩ := xgR_some h0
  refine px_get rfl e1 e2 rfl ?_
  obtain ⟨t2, h0, h⟩ := xs_some h
  obtain ⟨fs, e1, e2⟩ := xgI_some h0
  refine px_get rfl e1 e2 rfl ?_
  refine px_ifeq rfl rfl rfl (fun hc => ?_) (fun hc => ?_)
  · replace h := (if_pos hc).symm.trans h
    refine px_ld rfl rfl rfl rfl rfl ?_
    obtain ⟨t3, h0, h⟩ := xs_some h
    obtain ⟨fs, e1, e2⟩ := xgR_some h0
    refine px_get rfl e1 e2 rfl ?_
    refine px_ld rfl rfl rfl rfl rfl ?_
    obtain ⟨t4, h0, h⟩ := xs_some h
    obtain ⟨fs, e1, e2⟩ := xgR_some h0
    refine px_get rfl e1 e2 rfl ?_
    refine px_ld rfl rfl rfl rfl rfl ?_
    obtain ⟨t5, h0, h⟩ := xs_some h
    obtain ⟨fs, e1, e2⟩ := xgR_some h0
    refine px_get rfl e1 e2 rfl ?_
    obtain ⟨t6, h0, h⟩ := xs_some h
    obtain ⟨fs, e1, e2⟩ := xgR_some h0
    refine px_get rfl e1 e2 rfl ?_
    obtain ⟨fs, h0, h⟩ := xs_some h
    have e1 := xo_some h0
    obtain ⟨t7, ph8, h0, h⟩ := xb_some h
    refine px_cV2 rfl rfl e1 rfl rfl rfl rfl rfl rfl rfl (r_Scribe_writeNamed h0 :) (fun _ _ q => nomatch q.2) (fun r ph' q => ?_)
    obtain ⟨rfl, q⟩ := q
    cases q
    refine px_ifne rfl rfl rfl (fun hc => ?_) (fun hc => ?_)
    · replace h := (if_neg hc).symm.trans h
      refine px_ld rfl rfl rfl rfl rfl ?_
      obtain ⟨fs, h0, h⟩ := xs_some h
      have e1 := xo_some h0
      obtain ⟨t9, ph10, h0, h⟩ := xb_some h
      refine px_cV0 rfl rfl e1 rfl rfl rfl rfl rfl rfl rfl (r_H_publishDraft h0 :) (fun _ _ q => nomatch q.2) (fun r ph' q => ?_)
      obtain ⟨rfl, q⟩ := q
      cases q
      cases h
    · replace h := (if_pos hc).symm.trans h
      refine px_alu rfl rfl rfl ?_
      cases h
  · replace h := (if_neg hc).symm.trans h
    cases h
    exact px_tISE hfl rfl rfl rfl rfl rfl rfl rfl rfl rfl rfl hm hs rfl ⟨rfl, rfl⟩
def g_H_list (F : Nat) (c : px_CT) (a0 : Nat) (a1 : Int32) (a2 : Int32) (ph : px_H) : Option (Nat × px_H) :=
  (xo ph 0 a0).bind fun _ =>
  xb (f_H_objectAt F c a0 a1 a2 ph) fun t1 ph2 =>
  (match t1 with
    | none => some (15, ph2)
    | some p3 => (xgR ph2 0 15 a0).bind fun t4 =>
    (xgR ph2 0 1 a0).bind fun t5 =>
    (xo ph2 11 t4).bind fun _ =>
    xb (f_Scribe_writeList F c t4 t5 (some p3) ph2) fun _ ph6 =>
    (xgR ph6 0 1 a0).bind fun t7 =>
    (xgI ph6 10 1 t7).bind fun t8 =>
    none)
theorem t_H_list {l : Launch} {g : px_G} {d F : Nat} (hfl : l.flags = flags0) {a0 : Nat} {a1 : Int32} {a2 : Int32} {ph : px_H} {r : Nat} {ph' : px_H} (h : g_H_list F (px_ct g) a0 a1 a2 ph = some (r, ph')) (hm : ph'.length < pg_MC) (hs : px_sum ph' + 6 ≤ pg_MS) : PW l g (d + 7) m_H_list 0 [.ref a0, .int a1, .int a2, px_u] [] ph (px_qT r ph') := by
  unfold g_H_list at h
  refine px_ld rfl rfl rfl rfl rfl ?_
  refine px_ld rfl rfl rfl rfl rfl ?_
  refine px_ld rfl rfl rfl rfl rfl ?_
  obtain ⟨fs, h0, h⟩ := xs_some h
  have e1 := xo_some h0
  obtain ⟨t1, ph2, h0, h⟩ := xb_some h
  refine px_cV2 rfl rfl e1 rfl rfl rfl rfl rfl rfl rfl (r_H_objectAt h0 :) (fun _ _ q => nomatch q.2) (fun r ph' q => ?_)
  obtain ⟨rfl, q⟩ := q
  cases q
  refine px_st (lv' := [.ref a0, .int a1, .int a2, va_rf t1]) rfl rfl (by first | rfl | (cases t1 <;> rfl)) (by first | rfl | (cases t1 <;> rfl)) rfl (by first | rfl | (cases t1 <;> rfl)) rfl ?_
  refine px_ld rfl rfl rfl (by first | rfl | (cases t1 <;> rfl)) rfl ?_
  cases t1 with
  | none =>
    refine px_ifnnN rfl rfl ?_
    cases h
    exact px_tNSE hfl rfl rfl rfl rfl rfl rfl rfl rfl rfl rfl hm hs rfl ⟨rfl, rfl⟩
  | some p3 =>
    refine px_ifnnR rfl rfl rfl ?_
    refine px_ld rfl rfl rfl rfl rfl ?_
    obtain ⟨t4, h0, h⟩ := xs_some h
    obtain ⟨fs, e1, e2⟩ := xgR_some h0
    refine px_get rfl e1 e2 rfl ?_
    refine px_ld rfl rfl rfl rfl rfl ?_
    obtain ⟨t5, h0, h⟩ := xs_some h
    obtain ⟨fs, e1, e2⟩ := xgR_some h0
    refine px_get rfl e1 e2 rfl ?_
    refine px_ld rfl rfl rfl rfl rfl ?_
    obtain ⟨fs, h0, h⟩ := xs_some h
    have e1 := xo_some h0
    obtain ⟨u0, ph6, h0, h⟩ := xb_some h
    refine px_cV2 rfl rfl e1 rfl rfl rfl rfl rfl rfl rfl (r_Scribe_writeList h0 :) (fun _ _ q => nomatch q.2) (fun r ph' q => ?_)
    obtain ⟨rfl, q⟩ := q
    cases q
    refine px_ld rfl rfl rfl rfl rfl ?_
    obtain ⟨t7, h0, h⟩ := xs_some h
    obtain ⟨fs, e1, e2⟩ := xgR_some h0
    refine px_get rfl e1 e2 rfl ?_
    obtain ⟨t8, h0, h⟩ := xs_some h
    obtain ⟨fs, e1, e2⟩ := xgI_some h0
    refine px_get rfl e1 e2 rfl ?_
    cases h
def g_H_sum_78 (F : Nat) (c : px_CT) (a5 : Int64) (ph : px_H) : Option (Nat × px_H) :=
  none
theorem t_H_sum_78 {l : Launch} {g : px_G} {d F : Nat} (hfl : l.flags = flags0) {a5 : Int64} {ph : px_H} {r : Nat} {ph' : px_H} (h : g_H_sum_78 F (px_ct g) a5 ph = some (r, ph')) (hm : ph'.length < pg_MC) (hs : px_sum ph' + 6 ≤ pg_MS) : PW l g (d + 6) m_H_sum 78 [px_u, px_u, px_u, px_u, px_u, .long a5, px_u, px_u] [] ph (px_qT r ph') := by
  unfold g_H_sum_78 at h
  refine px_ld rfl rfl rfl rfl rfl ?_
  cases h
def g_H_sum_22 (F : Nat) (c : px_CT) (ph : px_H) : Option (Nat × px_H) :=
  some (15, ph)
theorem t_H_sum_22 {l : Launch} {g : px_G} {d F : Nat} (hfl : l.flags = flags0) {ph : px_H} {r : Nat} {ph' : px_H} (h : g_H_sum_22 F (px_ct g) ph = some (r, ph')) (hm : ph'.length < pg_MC) (hs : px_sum ph' + 6 ≤ pg_MS) : PW l g (d + 6) m_H_sum 22 [px_u, px_u, px_u, px_u, px_u, px_u, px_u, px_u] [] ph (px_qT r ph') := by
  unfold g_H_sum_22 at h
  cases h
  exact px_tNSE hfl rfl rfl rfl rfl rfl rfl rfl rfl rfl rfl hm hs rfl ⟨rfl, rfl⟩
def g_H_sum (F : Nat) (c : px_CT) (a0 : Nat) (a1 : Int32) (a2 : Int32) (a3 : Int32) (ph : px_H) : Option (Nat × px_H) :=
  (xo ph 0 a0).bind fun _ =>
  xb (f_H_objectAt F c a0 a1 a2 ph) fun t1 ph2 =>
  (match t1 with
    | none => g_H_sum_22 F c ph2
    | some p3 => if a3 < 0 then
      g_H_sum_22 F c ph2
    else
      if a3 ≤ (nI 5) then
        none
      else
        g_H_sum_22 F c ph2)
theorem t_H_sum {l : Launch} {g : px_G} {d F : Nat} (hfl : l.flags = flags0) {a0 : Nat} {a1 : Int32} {a2 : Int32} {a3 : Int32} {ph : px_H} {r : Nat} {ph' : px_H} (h : g_H_sum F (px_ct g) a0 a1 a2 a3 ph = some (r, ph')) (hm : ph'.length < pg_MC) (hs : px_sum ph' + 6 ≤ pg_MS) : PW l g (d + 6) m_H_sum 0 [.ref a0, .int a1, .int a2, .int a3, px_u, px_u, px_u, px_u] [] ph (px_qT r ph') := by
  unfold g_H_sum at h
  refine px_ld rfl rfl rfl rfl rfl ?_
  refine px_ld rfl rfl rfl rfl rfl ?_
  refine px_ld rfl rfl rfl rfl rfl ?_
  obtain ⟨fs, h0, h⟩ := xs_some h
  have e1 := xo_some h0
  obtain ⟨t1, ph2, h0, h⟩ := xb_some h
  refine px_cV2 rfl rfl e1 rfl rfl rfl rfl rfl rfl rfl (r_H_objectAt h0 :) (fun _ _ q => nomatch q.2) (fun r ph' q => ?_)
  obtain ⟨rfl, q⟩ := q
  cases q
  refine px_st (lv' := [.ref a0, .int a1, .int a2, .int a3, va_rf t1, px_u, px_u, px_u]) rfl rfl (by first | rfl | (cases t1 <;> rfl)) (by first | rfl | (cases t1 <;> rfl)) rfl (by first | rfl | (cases t1 <;> rfl)) rfl ?_
  refine px_ld rfl rfl rfl (by first | rfl | (cases t1 <;> rfl)) rfl ?_
  cases t1 with
  | none =>
    refine px_ifnullN rfl rfl rfl ?_
    refine px_forget (n := 0) (lv' := [_, _, _, _, _, _, _, _]) rfl ?_
    refine px_forget (n := 1) (lv' := [_, _, _, _, _, _, _, _]) rfl ?_
    refine px_forget (n := 2) (lv' := [_, _, _, _, _, _, _, _]) rfl ?_
    refine px_forget (n := 3) (lv' := [_, _, _, _, _, _, _, _]) rfl ?_
    refine px_forget (n := 4) (lv' := [_, _, _, _, _, _, _, _]) rfl ?_
    exact (t_H_sum_22 hfl h hm hs :)
  | some p3 =>
    refine px_ifnullR rfl rfl ?_
    refine px_ld rfl rfl rfl rfl rfl ?_
    refine px_iflt rfl rfl rfl (fun hc => ?_) (fun hc => ?_)
    · replace h := (if_pos hc).symm.trans h
      refine px_forget (n := 0) (lv' := [_, _, _, _, _, _, _, _]) rfl ?_
      refine px_forget (n := 1) (lv' := [_, _, _, _, _, _, _, _]) rfl ?_
      refine px_forget (n := 2) (lv' := [_, _, _, _, _, _, _, _]) rfl ?_
      refine px_forget (n := 3) (lv' := [_, _, _, _, _, _, _, _]) rfl ?_
      refine px_forget (n := 4) (lv' := [_, _, _, _, _, _, _, _]) rfl ?_
      exact (t_H_sum_22 hfl h hm hs :)
    · replace h := (if_neg hc).symm.trans h
      refine px_ld rfl rfl rfl rfl rfl ?_
      refine px_ic (k := 5) rfl rfl rfl ?_
      refine px_icle rfl rfl rfl (fun hc => ?_) (fun hc => ?_)
      · replace h := (if_pos hc).symm.trans h
        refine px_alu rfl rfl rfl ?_
        refine px_st (lv' := [_, _, _, _, _, _, _, _]) rfl rfl rfl rfl rfl rfl rfl ?_
        refine px_ic (k := 0) rfl rfl rfl ?_
        refine px_st (lv' := [_, _, _, _, _, _, _, _]) rfl rfl rfl rfl rfl rfl rfl ?_
        cases h
      · replace h := (if_neg hc).symm.trans h
        refine px_forget (n := 0) (lv' := [_, _, _, _, _, _, _, _]) rfl ?_
        refine px_forget (n := 1) (lv' := [_, _, _, _, _, _, _, _]) rfl ?_
        refine px_forget (n := 2) (lv' := [_, _, _, _, _, _, _, _]) rfl ?_
        refine px_forget (n := 3) (lv' := [_, _, _, _, _, _, _, _]) rfl ?_
        refine px_forget (n := 4) (lv' := [_, _, _, _, _, _, _, _]) rfl ?_
        exact (t_H_sum_22 hfl h hm hs :)
def g_H_map (F : Nat) (c : px_CT) (a0 : Nat) (ph : px_H) : Option (Nat × px_H) :=
  (xgR ph 0 11 a0).bind fun t1 =>
  (xgI ph 3 18 t1).bind fun t2 =>
  if t2 = 0 then
    (xgR ph 0 15 a0).bind fun t3 =>
    (xgR ph 0 2 a0).bind fun t4 =>
    (xo ph 11 t3).bind fun _ =>
    xb (f_Scribe_writeMap F c t3 t4 ph) fun t5 ph6 =>
    if t5 = 0 then
      none
    else
      (xo ph6 0 a0).bind fun _ =>
      xb (f_H_publishDraft F c a0 ph6) fun t7 ph8 =>
      none
  else
    some (14, ph)
theorem t_H_map {l : Launch} {g : px_G} {d F : Nat} (hfl : l.flags = flags0) {a0 : Nat} {ph : px_H} {r : Nat} {ph' : px_H} (h : g_H_map F (px_ct g) a0 ph = some (r, ph')) (hm : ph'.length < pg_MC) (hs : px_sum ph' + 6 ≤ pg_MS) : PW l g (d + 6) m_H_map 0 [.ref a0] [] ph (px_qT r ph') := by
  unfold g_H_map at h
  refine px_ld rfl rfl rfl rfl rfl ?_
  obtain ⟨t1, h0, h⟩ := xs_some h
  obtain ⟨fs, e1, e2⟩ := xgR_some h0
  refine px_get rfl e1 e2 rfl ?_
  obtain ⟨t2, h0, h⟩ := xs_some h
  obtain ⟨fs, e1, e2⟩ := xgI_some h0
  refine px_get rfl e1 e2 rfl ?_
  refine px_ifeq rfl rfl rfl (fun hc => ?_) (fun hc => ?_)
  · replace h := (if_pos hc).symm.trans h
    refine px_ld rfl rfl rfl rfl rfl ?_
    obtain ⟨t3, h0, h⟩ := xs_some h
    obtain ⟨fs, e1, e2⟩ := xgR_some h0
    refine px_get rfl e1 e2 rfl ?_
    refine px_ld rfl rfl rfl rfl rfl ?_
    obtain ⟨t4, h0, h⟩ := xs_some h
    obtain ⟨fs, e1, e2⟩ := xgR_some h0
    refine px_get rfl e1 e2 rfl ?_
    obtain ⟨fs, h0, h⟩ := xs_some h
    have e1 := xo_some h0
    obtain ⟨t5, ph6, h0, h⟩ := xb_some h
    refine px_cV1 rfl rfl e1 rfl rfl rfl rfl rfl rfl rfl (r_Scribe_writeMap h0 :) (fun _ _ q => nomatch q.2) (fun r ph' q => ?_)
    obtain ⟨rfl, q⟩ := q
    cases q
    refine px_ifne rfl rfl rfl (fun hc => ?_) (fun hc => ?_)
    · replace h := (if_neg hc).symm.trans h
      refine px_ld rfl rfl rfl rfl rfl ?_
      obtain ⟨fs, h0, h⟩ := xs_some h
      have e1 := xo_some h0
      obtain ⟨t7, ph8, h0, h⟩ := xb_some h
      refine px_cV0 rfl rfl e1 rfl rfl rfl rfl rfl rfl rfl (r_H_publishDraft h0 :) (fun _ _ q => nomatch q.2) (fun r ph' q => ?_)
      obtain ⟨rfl, q⟩ := q
      cases q
      cases h
    · replace h := (if_pos hc).symm.trans h
      refine px_alu rfl rfl rfl ?_
      cases h
  · replace h := (if_neg hc).symm.trans h
    cases h
    exact px_tISE hfl rfl rfl rfl rfl rfl rfl rfl rfl rfl rfl hm hs rfl ⟨rfl, rfl⟩
def g_H_address_60 (F : Nat) (c : px_CT) (s0 : Int64) (ph : px_H) : Option (Nat × px_H) :=
  none
theorem t_H_address_60 {l : Launch} {g : px_G} {d F : Nat} (hfl : l.flags = flags0) {s0 : Int64} {ph : px_H} {r : Nat} {ph' : px_H} (h : g_H_address_60 F (px_ct g) s0 ph = some (r, ph')) (hm : ph'.length < pg_MC) (hs : px_sum ph' + 6 ≤ pg_MS) : PW l g (d + 6) m_H_address 60 [px_u, px_u] [.long s0] ph (px_qT r ph') := by
  unfold g_H_address_60 at h
  cases h
def g_H_address_45 (F : Nat) (c : px_CT) (s0 : Option Nat) (ph : px_H) : Option (Nat × px_H) :=
  (match s0 with
    | none => g_H_address_60 F c ((-1 : Int64)) ph
    | some p1 => (xgJ ph 5 14 p1).bind fun t2 =>
    g_H_address_60 F c t2 ph)
theorem t_H_address_45 {l : Launch} {g : px_G} {d F : Nat} (hfl : l.flags = flags0) {s0 : Option Nat} {ph : px_H} {r : Nat} {ph' : px_H} (h : g_H_address_45 F (px_ct g) s0 ph = some (r, ph')) (hm : ph'.length < pg_MC) (hs : px_sum ph' + 6 ≤ pg_MS) : PW l g (d + 6) m_H_address 45 [px_u, px_u] [va_rf s0] ph (px_qT r ph') := by
  unfold g_H_address_45 at h
  refine px_st (lv' := [px_u, va_rf s0]) rfl rfl (by first | rfl | (cases s0 <;> rfl)) (by first | rfl | (cases s0 <;> rfl)) rfl (by first | rfl | (cases s0 <;> rfl)) rfl ?_
  refine px_ld rfl rfl rfl (by first | rfl | (cases s0 <;> rfl)) rfl ?_
  cases s0 with
  | none =>
    refine px_ifnnN rfl rfl ?_
    refine px_ldc2 rfl rfl rfl ?_
    refine px_goto rfl rfl rfl ?_
    refine px_forget (n := 1) (lv' := [_, _]) rfl ?_
    exact (t_H_address_60 hfl h hm hs :)
  | some p1 =>
    refine px_ifnnR rfl rfl rfl ?_
    refine px_ld rfl rfl rfl rfl rfl ?_
    obtain ⟨t2, h0, h⟩ := xs_some h
    obtain ⟨fs, e1, e2⟩ := xgJ_some h0
    refine px_get rfl e1 e2 rfl ?_
    refine px_forget (n := 1) (lv' := [_, _]) rfl ?_
    exact (t_H_address_60 hfl h hm hs :)
def g_H_address (F : Nat) (c : px_CT) (a0 : Nat) (ph : px_H) : Option (Nat × px_H) :=
  (xgR ph 0 11 a0).bind fun t1 =>
  (xgI ph 3 18 t1).bind fun t2 =>
  if t2 = 0 then
    (xo ph 0 a0).bind fun _ =>
    xb (f_H_readTapeName F c a0 ph) fun t3 ph4 =>
    if t3 = 0 then
      g_H_address_45 F c none ph4
    else
      (xgR ph4 0 11 a0).bind fun t5 =>
      (xgR ph4 3 3 t5).bind fun t6 =>
      (xgR ph4 0 10 a0).bind fun t7 =>
      (xo ph4 6 t6).bind fun _ =>
      xb (f_Names_find F c t6 (some t7) ph4) fun t8 ph9 =>
      g_H_address_45 F c t8 ph9
  else
    some (14, ph)
theorem t_H_address {l : Launch} {g : px_G} {d F : Nat} (hfl : l.flags = flags0) {a0 : Nat} {ph : px_H} {r : Nat} {ph' : px_H} (h : g_H_address F (px_ct g) a0 ph = some (r, ph')) (hm : ph'.length < pg_MC) (hs : px_sum ph' + 6 ≤ pg_MS) : PW l g (d + 6) m_H_address 0 [.ref a0, px_u] [] ph (px_qT r ph') := by
  unfold g_H_address at h
  refine px_ld rfl rfl rfl rfl rfl ?_
  obtain ⟨t1, h0, h⟩ := xs_some h
  obtain ⟨fs, e1, e2⟩ := xgR_some h0
  refine px_get rfl e1 e2 rfl ?_
  obtain ⟨t2, h0, h⟩ := xs_some h
  obtain ⟨fs, e1, e2⟩ := xgI_some h0
  refine px_get rfl e1 e2 rfl ?_
  refine px_ifeq rfl rfl rfl (fun hc => ?_) (fun hc => ?_)
  · replace h := (if_pos hc).symm.trans h
    refine px_ld rfl rfl rfl rfl rfl ?_
    obtain ⟨fs, h0, h⟩ := xs_some h
    have e1 := xo_some h0
    obtain ⟨t3, ph4, h0, h⟩ := xb_some h
    refine px_cV0 rfl rfl e1 rfl rfl rfl rfl rfl rfl rfl (r_H_readTapeName h0 :) (fun _ _ q => nomatch q.2) (fun r ph' q => ?_)
    obtain ⟨rfl, q⟩ := q
    cases q
    refine px_ifeq rfl rfl rfl (fun hc => ?_) (fun hc => ?_)
    · replace h := (if_pos hc).symm.trans h
      refine px_alu rfl rfl rfl ?_
      refine px_forget (n := 0) (lv' := [_, _]) rfl ?_
      exact (t_H_address_45 hfl h hm hs :)
    · replace h := (if_neg hc).symm.trans h
      refine px_ld rfl rfl rfl rfl rfl ?_
      obtain ⟨t5, h0, h⟩ := xs_some h
      obtain ⟨fs, e1, e2⟩ := xgR_some h0
      refine px_get rfl e1 e2 rfl ?_
      obtain ⟨t6, h0, h⟩ := xs_some h
      obtain ⟨fs, e1, e2⟩ := xgR_some h0
      refine px_get rfl e1 e2 rfl ?_
      refine px_ld rfl rfl rfl rfl rfl ?_
      obtain ⟨t7, h0, h⟩ := xs_some h
      obtain ⟨fs, e1, e2⟩ := xgR_some h0
      refine px_get rfl e1 e2 rfl ?_
      obtain ⟨fs, h0, h⟩ := xs_some h
      have e1 := xo_some h0
      obtain ⟨t8, ph9, h0, h⟩ := xb_some h
      refine px_cV1 rfl rfl e1 rfl rfl rfl rfl rfl rfl rfl (r_Names_find h0 :) (fun _ _ q => nomatch q.2) (fun r ph' q => ?_)
      obtain ⟨rfl, q⟩ := q
      cases q
      refine px_goto rfl rfl rfl ?_
      refine px_forget (n := 0) (lv' := [_, _]) rfl ?_
      exact (t_H_address_45 hfl h hm hs :)
  · replace h := (if_neg hc).symm.trans h
    cases h
    exact px_tISE hfl rfl rfl rfl rfl rfl rfl rfl rfl rfl rfl hm hs rfl ⟨rfl, rfl⟩
def g_H_taken (F : Nat) (c : px_CT) (a0 : Nat) (a1 : Int32) (a2 : Int32) (ph : px_H) : Option (Nat × px_H) :=
  (xo ph 0 a0).bind fun _ =>
  xb (f_H_memberAt F c a0 a1 a2 ph) fun t1 ph2 =>
  (match t1 with
    | none => some (15, ph2)
    | some p3 => (xgI ph2 7 15 p3).bind fun t4 =>
    none)
theorem t_H_taken {l : Launch} {g : px_G} {d F : Nat} (hfl : l.flags = flags0) {a0 : Nat} {a1 : Int32} {a2 : Int32} {ph : px_H} {r : Nat} {ph' : px_H} (h : g_H_taken F (px_ct g) a0 a1 a2 ph = some (r, ph')) (hm : ph'.length < pg_MC) (hs : px_sum ph' + 6 ≤ pg_MS) : PW l g (d + 6) m_H_taken 0 [.ref a0, .int a1, .int a2, px_u] [] ph (px_qT r ph') := by
  unfold g_H_taken at h
  refine px_ld rfl rfl rfl rfl rfl ?_
  refine px_ld rfl rfl rfl rfl rfl ?_
  refine px_ld rfl rfl rfl rfl rfl ?_
  obtain ⟨fs, h0, h⟩ := xs_some h
  have e1 := xo_some h0
  obtain ⟨t1, ph2, h0, h⟩ := xb_some h
  refine px_cV2 rfl rfl e1 rfl rfl rfl rfl rfl rfl rfl (r_H_memberAt h0 :) (fun _ _ q => nomatch q.2) (fun r ph' q => ?_)
  obtain ⟨rfl, q⟩ := q
  cases q
  refine px_st (lv' := [.ref a0, .int a1, .int a2, va_rf t1]) rfl rfl (by first | rfl | (cases t1 <;> rfl)) (by first | rfl | (cases t1 <;> rfl)) rfl (by first | rfl | (cases t1 <;> rfl)) rfl ?_
  refine px_ld rfl rfl rfl (by first | rfl | (cases t1 <;> rfl)) rfl ?_
  cases t1 with
  | none =>
    refine px_ifnnN rfl rfl ?_
    cases h
    exact px_tNSEw hfl rfl rfl rfl rfl rfl rfl rfl rfl rfl rfl hm hs rfl ⟨rfl, rfl⟩
  | some p3 =>
    refine px_ifnnR rfl rfl rfl ?_
    refine px_ld rfl rfl rfl rfl rfl ?_
    obtain ⟨t4, h0, h⟩ := xs_some h
    obtain ⟨fs, e1, e2⟩ := xgI_some h0
    refine px_get rfl e1 e2 rfl ?_
    cases h
def g_H_cause (F : Nat) (c : px_CT) (a0 : Nat) (a1 : Int32) (a2 : Int32) (ph : px_H) : Option (Nat × px_H) :=
  (xo ph 0 a0).bind fun _ =>
  xb (f_H_memberAt F c a0 a1 a2 ph) fun t1 ph2 =>
  (match t1 with
    | none => some (15, ph2)
    | some p3 => (xgI ph2 7 16 p3).bind fun t4 =>
    if t4 = 0 then
      none
    else
      (xgR ph2 0 10 a0).bind fun t5 =>
      (xgR ph2 0 3 a0).bind fun t6 =>
      (xgI ph2 7 16 p3).bind fun t7 =>
      (xo ph2 7 p3).bind fun _ =>
      xb (f_ObjectFile_nameStart F c p3 t7 ph2) fun t8 ph9 =>
      (xo ph9 5 t5).bind fun _ =>
      xb (f_Name_read F c t5 t6 t8 ph9) fun _ ph10 =>
      (xgR ph10 0 1 a0).bind fun t11 =>
      (xo ph10 10 t11).bind fun _ =>
      xb (f_Row_clear F c t11 ph10) fun _ ph12 =>
      (xgR ph12 0 10 a0).bind fun t13 =>
      (xgR ph12 0 1 a0).bind fun t14 =>
      (xo ph12 5 t13).bind fun _ =>
      xb (f_Name_writeTo F c t13 t14 ph12) fun _ ph15 =>
      (xgR ph15 0 1 a0).bind fun t16 =>
      (xgI ph15 10 1 t16).bind fun t17 =>
      none)
theorem t_H_cause {l : Launch} {g : px_G} {d F : Nat} (hfl : l.flags = flags0) {a0 : Nat} {a1 : Int32} {a2 : Int32} {ph : px_H} {r : Nat} {ph' : px_H} (h : g_H_cause F (px_ct g) a0 a1 a2 ph = some (r, ph')) (hm : ph'.length < pg_MC) (hs : px_sum ph' + 6 ≤ pg_MS) : PW l g (d + 6) m_H_cause 0 [.ref a0, .int a1, .int a2, px_u] [] ph (px_qT r ph') := by
  unfold g_H_cause at h
  refine px_ld rfl rfl rfl rfl rfl ?_
  refine px_ld rfl rfl rfl rfl rfl ?_
  refine px_ld rfl rfl rfl rfl rfl ?_
  obtain ⟨fs, h0, h⟩ := xs_some h
  have e1 := xo_some h0
  obtain ⟨t1, ph2, h0, h⟩ := xb_some h
  refine px_cV2 rfl rfl e1 rfl rfl rfl rfl rfl rfl rfl (r_H_memberAt h0 :) (fun _ _ q => nomatch q.2) (fun r ph' q => ?_)
  obtain ⟨rfl, q⟩ := q
  cases q
  refine px_st (lv' := [.ref a0, .int a1, .int a2, va_rf t1]) rfl rfl (by first | rfl | (cases t1 <;> rfl)) (by first | rfl | (cases t1 <;> rfl)) rfl (by first | rfl | (cases t1 <;> rfl)) rfl ?_
  refine px_ld rfl rfl rfl (by first | rfl | (cases t1 <;> rfl)) rfl ?_
  cases t1 with
  | none =>
    refine px_ifnnN rfl rfl ?_
    cases h
    exact px_tNSEw hfl rfl rfl rfl rfl rfl rfl rfl rfl rfl rfl hm hs rfl ⟨rfl, rfl⟩
  | some p3 =>
    refine px_ifnnR rfl rfl rfl ?_
    refine px_ld rfl rfl rfl rfl rfl ?_
    obtain ⟨t4, h0, h⟩ := xs_some h
    obtain ⟨fs, e1, e2⟩ := xgI_some h0
    refine px_get rfl e1 e2 rfl ?_
    refine px_ifne rfl rfl rfl (fun hc => ?_) (fun hc => ?_)
    · replace h := (if_neg hc).symm.trans h
      refine px_ld rfl rfl rfl rfl rfl ?_
      obtain ⟨t5, h0, h⟩ := xs_some h
      obtain ⟨fs, e1, e2⟩ := xgR_some h0
      refine px_get rfl e1 e2 rfl ?_
      refine px_ld rfl rfl rfl rfl rfl ?_
      obtain ⟨t6, h0, h⟩ := xs_some h
      obtain ⟨fs, e1, e2⟩ := xgR_some h0
      refine px_get rfl e1 e2 rfl ?_
      refine px_ld rfl rfl rfl rfl rfl ?_
      refine px_ld rfl rfl rfl rfl rfl ?_
      obtain ⟨t7, h0, h⟩ := xs_some h
      obtain ⟨fs, e1, e2⟩ := xgI_some h0
      refine px_get rfl e1 e2 rfl ?_
      obtain ⟨fs, h0, h⟩ := xs_some h
      have e1 := xo_some h0
      obtain ⟨t8, ph9, h0, h⟩ := xb_some h
      refine px_cV1 rfl rfl e1 rfl rfl rfl rfl rfl rfl rfl (r_ObjectFile_nameStart h0 :) (fun _ _ q => nomatch q.2) (fun r ph' q => ?_)
      obtain ⟨rfl, q⟩ := q
      cases q
      obtain ⟨fs, h0, h⟩ := xs_some h
      have e1 := xo_some h0
      obtain ⟨u0, ph10, h0, h⟩ := xb_some h
      refine px_cV2 rfl rfl e1 rfl rfl rfl rfl rfl rfl rfl (r_Name_read h0 :) (fun _ _ q => nomatch q.2) (fun r ph' q => ?_)
      obtain ⟨rfl, q⟩ := q
      cases q
      refine px_ld rfl rfl rfl rfl rfl ?_
      obtain ⟨t11, h0, h⟩ := xs_some h
      obtain ⟨fs, e1, e2⟩ := xgR_some h0
      refine px_get rfl e1 e2 rfl ?_
      obtain ⟨fs, h0, h⟩ := xs_some h
      have e1 := xo_some h0
      obtain ⟨u0, ph12, h0, h⟩ := xb_some h
      refine px_cV0 rfl rfl e1 rfl rfl rfl rfl rfl rfl rfl (r_Row_clear h0 :) (fun _ _ q => nomatch q.2) (fun r ph' q => ?_)
      obtain ⟨rfl, q⟩ := q
      cases q
      refine px_ld rfl rfl rfl rfl rfl ?_
      obtain ⟨t13, h0, h⟩ := xs_some h
      obtain ⟨fs, e1, e2⟩ := xgR_some h0
      refine px_get rfl e1 e2 rfl ?_
      refine px_ld rfl rfl rfl rfl rfl ?_
      obtain ⟨t14, h0, h⟩ := xs_some h
      obtain ⟨fs, e1, e2⟩ := xgR_some h0
      refine px_get rfl e1 e2 rfl ?_
      obtain ⟨fs, h0, h⟩ := xs_some h
      have e1 := xo_some h0
      obtain ⟨u0, ph15, h0, h⟩ := xb_some h
      refine px_cV1 rfl rfl e1 rfl rfl rfl rfl rfl rfl rfl (r_Name_writeTo h0 :) (fun _ _ q => nomatch q.2) (fun r ph' q => ?_)
      obtain ⟨rfl, q⟩ := q
      cases q
      refine px_ld rfl rfl rfl rfl rfl ?_
      obtain ⟨t16, h0, h⟩ := xs_some h
      obtain ⟨fs, e1, e2⟩ := xgR_some h0
      refine px_get rfl e1 e2 rfl ?_
      obtain ⟨t17, h0, h⟩ := xs_some h
      obtain ⟨fs, e1, e2⟩ := xgI_some h0
      refine px_get rfl e1 e2 rfl ?_
      cases h
    · replace h := (if_pos hc).symm.trans h
      refine px_ic (k := 0) rfl rfl rfl ?_
      cases h
def g_H_section_44 (F : Nat) (c : px_CT) (ph : px_H) : Option (Nat × px_H) :=
  some (15, ph)
theorem t_H_section_44 {l : Launch} {g : px_G} {d F : Nat} (hfl : l.flags = flags0) {ph : px_H} {r : Nat} {ph' : px_H} (h : g_H_section_44 F (px_ct g) ph = some (r, ph')) (hm : ph'.length < pg_MC) (hs : px_sum ph' + 6 ≤ pg_MS) : PW l g (d + 6) m_H_section 44 [px_u, px_u, px_u, px_u] [] ph (px_qT r ph') := by
  unfold g_H_section_44 at h
  cases h
  exact px_tNSEw hfl rfl rfl rfl rfl rfl rfl rfl rfl rfl rfl hm hs rfl ⟨rfl, rfl⟩
def g_H_section (F : Nat) (c : px_CT) (a0 : Nat) (a1 : Int32) (a2 : Int32) (ph : px_H) : Option (Nat × px_H) :=
  (xgR ph 0 11 a0).bind fun t1 =>
  (xgI ph 3 18 t1).bind fun t2 =>
  if t2 = 0 then
    if a1 < 0 then
      g_H_section_44 F c ph
    else
      (xgR ph 0 13 a0).bind fun t3 =>
      (xgI ph 2 11 t3).bind fun t4 =>
      if t4 ≤ a1 then
        g_H_section_44 F c ph
      else
        if a2 < 0 then
          g_H_section_44 F c ph
        else
          if a2 ≤ (nI 4) then
            (xgR ph 0 13 a0).bind fun t5 =>
            (xo ph 2 t5).bind fun _ =>
            xb (f_Layout_partAt F c t5 a1 ph) fun t6 ph7 =>
            if a2 = nI 0 then
              (t6).bind fun p8 =>
              (xgI ph7 8 1 p8).bind fun t9 =>
              none
            else if a2 = nI 1 then
              (t6).bind fun p10 =>
              (xgI ph7 8 2 p10).bind fun t11 =>
              none
            else if a2 = nI 2 then
              (t6).bind fun p12 =>
              (xgI ph7 8 3 p12).bind fun t13 =>
              none
            else if a2 = nI 3 then
              (t6).bind fun p14 =>
              (xgI ph7 8 4 p14).bind fun t15 =>
              none
            else 
              (t6).bind fun p16 =>
              (xgI ph7 8 5 p16).bind fun t17 =>
              none
          else
            g_H_section_44 F c ph
  else
    some (14, ph)
theorem t_H_section {l : Launch} {g : px_G} {d F : Nat} (hfl : l.flags = flags0) {a0 : Nat} {a1 : Int32} {a2 : Int32} {ph : px_H} {r : Nat} {ph' : px_H} (h : g_H_section F (px_ct g) a0 a1 a2 ph = some (r, ph')) (hm : ph'.length < pg_MC) (hs : px_sum ph' + 6 ≤ pg_MS) : PW l g (d + 6) m_H_section 0 [.ref a0, .int a1, .int a2, px_u] [] ph (px_qT r ph') := by
  unfold g_H_section at h
  refine px_ld rfl rfl rfl rfl rfl ?_
  obtain ⟨t1, h0, h⟩ := xs_some h
  obtain ⟨fs, e1, e2⟩ := xgR_some h0
  refine px_get rfl e1 e2 rfl ?_
  obtain ⟨t2, h0, h⟩ := xs_some h
  obtain ⟨fs, e1, e2⟩ := xgI_some h0
  refine px_get rfl e1 e2 rfl ?_
  refine px_ifeq rfl rfl rfl (fun hc => ?_) (fun hc => ?_)
  · replace h := (if_pos hc).symm.trans h
    refine px_ld rfl rfl rfl rfl rfl ?_
    refine px_iflt rfl rfl rfl (fun hc => ?_) (fun hc => ?_)
    · replace h := (if_pos hc).symm.trans h
      refine px_forget (n := 0) (lv' := [_, _, _, _]) rfl ?_
      refine px_forget (n := 1) (lv' := [_, _, _, _]) rfl ?_
      refine px_forget (n := 2) (lv' := [_, _, _, _]) rfl ?_
      exact (t_H_section_44 hfl h hm hs :)
    · replace h := (if_neg hc).symm.trans h
      refine px_ld rfl rfl rfl rfl rfl ?_
      refine px_ld rfl rfl rfl rfl rfl ?_
      obtain ⟨t3, h0, h⟩ := xs_some h
      obtain ⟨fs, e1, e2⟩ := xgR_some h0
      refine px_get rfl e1 e2 rfl ?_
      obtain ⟨t4, h0, h⟩ := xs_some h
      obtain ⟨fs, e1, e2⟩ := xgI_some h0
      refine px_get rfl e1 e2 rfl ?_
      refine px_icge rfl rfl rfl (fun hc => ?_) (fun hc => ?_)
      · replace h := (if_pos hc).symm.trans h
        refine px_forget (n := 0) (lv' := [_, _, _, _]) rfl ?_
        refine px_forget (n := 1) (lv' := [_, _, _, _]) rfl ?_
        refine px_forget (n := 2) (lv' := [_, _, _, _]) rfl ?_
        exact (t_H_section_44 hfl h hm hs :)
      · replace h := (if_neg hc).symm.trans h
        refine px_ld rfl rfl rfl rfl rfl ?_
        refine px_iflt rfl rfl rfl (fun hc => ?_) (fun hc => ?_)
        · replace h := (if_pos hc).symm.trans h
          refine px_forget (n := 0) (lv' := [_, _, _, _]) rfl ?_
          refine px_forget (n := 1) (lv' := [_, _, _, _]) rfl ?_
          refine px_forget (n := 2) (lv' := [_, _, _, _]) rfl ?_
          exact (t_H_section_44 hfl h hm hs :)
        · replace h := (if_neg hc).symm.trans h
          refine px_ld rfl rfl rfl rfl rfl ?_
          refine px_ic (k := 4) rfl rfl rfl ?_
          refine px_icle rfl rfl rfl (fun hc => ?_) (fun hc => ?_)
          · replace h := (if_pos hc).symm.trans h
            refine px_ld rfl rfl rfl rfl rfl ?_
            obtain ⟨t5, h0, h⟩ := xs_some h
            obtain ⟨fs, e1, e2⟩ := xgR_some h0
            refine px_get rfl e1 e2 rfl ?_
            refine px_ld rfl rfl rfl rfl rfl ?_
            obtain ⟨fs, h0, h⟩ := xs_some h
            have e1 := xo_some h0
            obtain ⟨t6, ph7, h0, h⟩ := xb_some h
            refine px_cV1 rfl rfl e1 rfl rfl rfl rfl rfl rfl rfl (r_Layout_partAt h0 :) (fun _ _ q => nomatch q.2) (fun r ph' q => ?_)
            obtain ⟨rfl, q⟩ := q
            cases q
            refine px_st (lv' := [.ref a0, .int a1, .int a2, va_rf t6]) rfl rfl (by first | rfl | (cases t6 <;> rfl)) (by first | rfl | (cases t6 <;> rfl)) rfl (by first | rfl | (cases t6 <;> rfl)) rfl ?_
            refine px_ld rfl rfl rfl rfl rfl ?_
            by_cases hs0 : a2 = nI 0
            · replace h := (if_pos hs0).symm.trans h
              refine px_tsK (len := 31) (off := 31) (tgt := 96) 0 rfl hs0 (by decide) (by decide) (by decide) rfl (by decide) ?_
              refine px_ld rfl rfl rfl (by first | rfl | (cases t6 <;> rfl)) rfl ?_
              obtain ⟨p8, h0, h⟩ := xs_some h
              revert h
              subst h0
              intro h
              obtain ⟨t9, h0, h⟩ := xs_some h
              obtain ⟨fs, e1, e2⟩ := xgI_some h0
              refine px_get rfl e1 e2 rfl ?_
              cases h
            replace h := (if_neg hs0).symm.trans h
            by_cases hs1 : a2 = nI 1
            · replace h := (if_pos hs1).symm.trans h
              refine px_tsK (len := 31) (off := 36) (tgt := 101) 1 rfl hs1 (by decide) (by decide) (by decide) rfl (by decide) ?_
              refine px_ld rfl rfl rfl (by first | rfl | (cases t6 <;> rfl)) rfl ?_
              obtain ⟨p10, h0, h⟩ := xs_some h
              revert h
              subst h0
              intro h
              obtain ⟨t11, h0, h⟩ := xs_some h
              obtain ⟨fs, e1, e2⟩ := xgI_some h0
              refine px_get rfl e1 e2 rfl ?_
              cases h
            replace h := (if_neg hs1).symm.trans h
            by_cases hs2 : a2 = nI 2
            · replace h := (if_pos hs2).symm.trans h
              refine px_tsK (len := 31) (off := 41) (tgt := 106) 2 rfl hs2 (by decide) (by decide) (by decide) rfl (by decide) ?_
              refine px_ld rfl rfl rfl (by first | rfl | (cases t6 <;> rfl)) rfl ?_
              obtain ⟨p12, h0, h⟩ := xs_some h
              revert h
              subst h0
              intro h
              obtain ⟨t13, h0, h⟩ := xs_some h
              obtain ⟨fs, e1, e2⟩ := xgI_some h0
              refine px_get rfl e1 e2 rfl ?_
              cases h
            replace h := (if_neg hs2).symm.trans h
            by_cases hs3 : a2 = nI 3
            · replace h := (if_pos hs3).symm.trans h
              refine px_tsK (len := 31) (off := 46) (tgt := 111) 3 rfl hs3 (by decide) (by decide) (by decide) rfl (by decide) ?_
              refine px_ld rfl rfl rfl (by first | rfl | (cases t6 <;> rfl)) rfl ?_
              obtain ⟨p14, h0, h⟩ := xs_some h
              revert h
              subst h0
              intro h
              obtain ⟨t15, h0, h⟩ := xs_some h
              obtain ⟨fs, e1, e2⟩ := xgI_some h0
              refine px_get rfl e1 e2 rfl ?_
              cases h
            replace h := (if_neg hs3).symm.trans h
            refine px_tsD (len := 31) (lo := 0) (n := 4) (tgt := 116) rfl (lt_s (lt_s (lt_s (lt_s lt_0 hs0) hs1) hs2) hs3) (by decide) (by decide) ?_
            refine px_ld rfl rfl rfl (by first | rfl | (cases t6 <;> rfl)) rfl ?_
            obtain ⟨p16, h0, h⟩ := xs_some h
            revert h
            subst h0
            intro h
            obtain ⟨t17, h0, h⟩ := xs_some h
            obtain ⟨fs, e1, e2⟩ := xgI_some h0
            refine px_get rfl e1 e2 rfl ?_
            cases h
          · replace h := (if_neg hc).symm.trans h
            refine px_forget (n := 0) (lv' := [_, _, _, _]) rfl ?_
            refine px_forget (n := 1) (lv' := [_, _, _, _]) rfl ?_
            refine px_forget (n := 2) (lv' := [_, _, _, _]) rfl ?_
            exact (t_H_section_44 hfl h hm hs :)
  · replace h := (if_neg hc).symm.trans h
    cases h
    exact px_tISE hfl rfl rfl rfl rfl rfl rfl rfl rfl rfl rfl hm hs rfl ⟨rfl, rfl⟩
def g_H_place_35 (F : Nat) (c : px_CT) (ph : px_H) : Option (Nat × px_H) :=
  some (15, ph)
theorem t_H_place_35 {l : Launch} {g : px_G} {d F : Nat} (hfl : l.flags = flags0) {ph : px_H} {r : Nat} {ph' : px_H} (h : g_H_place_35 F (px_ct g) ph = some (r, ph')) (hm : ph'.length < pg_MC) (hs : px_sum ph' + 6 ≤ pg_MS) : PW l g (d + 6) m_H_place 35 [px_u, px_u] [] ph (px_qT r ph') := by
  unfold g_H_place_35 at h
  cases h
  exact px_tNSEw hfl rfl rfl rfl rfl rfl rfl rfl rfl rfl rfl hm hs rfl ⟨rfl, rfl⟩
def g_H_place (F : Nat) (c : px_CT) (a0 : Nat) (a1 : Int32) (ph : px_H) : Option (Nat × px_H) :=
  (xgR ph 0 11 a0).bind fun t1 =>
  (xgI ph 3 18 t1).bind fun t2 =>
  if t2 = 0 then
    if a1 < 0 then
      g_H_place_35 F c ph
    else
      (xgR ph 0 13 a0).bind fun t3 =>
      (xgI ph 2 11 t3).bind fun t4 =>
      if a1 < t4 then
        (xgR ph 0 13 a0).bind fun t5 =>
        (xo ph 2 t5).bind fun _ =>
        xb (f_Layout_partAt F c t5 a1 ph) fun t6 ph7 =>
        (t6).bind fun p8 =>
        (xgJ ph7 8 11 p8).bind fun t9 =>
        none
      else
        g_H_place_35 F c ph
  else
    some (14, ph)
theorem t_H_place {l : Launch} {g : px_G} {d F : Nat} (hfl : l.flags = flags0) {a0 : Nat} {a1 : Int32} {ph : px_H} {r : Nat} {ph' : px_H} (h : g_H_place F (px_ct g) a0 a1 ph = some (r, ph')) (hm : ph'.length < pg_MC) (hs : px_sum ph' + 6 ≤ pg_MS) : PW l g (d + 6) m_H_place 0 [.ref a0, .int a1] [] ph (px_qT r ph') := by
  unfold g_H_place at h
  refine px_ld rfl rfl rfl rfl rfl ?_
  obtain ⟨t1, h0, h⟩ := xs_some h
  obtain ⟨fs, e1, e2⟩ := xgR_some h0
  refine px_get rfl e1 e2 rfl ?_
  obtain ⟨t2, h0, h⟩ := xs_some h
  obtain ⟨fs, e1, e2⟩ := xgI_some h0
  refine px_get rfl e1 e2 rfl ?_
  refine px_ifeq rfl rfl rfl (fun hc => ?_) (fun hc => ?_)
  · replace h := (if_pos hc).symm.trans h
    refine px_ld rfl rfl rfl rfl rfl ?_
    refine px_iflt rfl rfl rfl (fun hc => ?_) (fun hc => ?_)
    · replace h := (if_pos hc).symm.trans h
      refine px_forget (n := 0) (lv' := [_, _]) rfl ?_
      refine px_forget (n := 1) (lv' := [_, _]) rfl ?_
      exact (t_H_place_35 hfl h hm hs :)
    · replace h := (if_neg hc).symm.trans h
      refine px_ld rfl rfl rfl rfl rfl ?_
      refine px_ld rfl rfl rfl rfl rfl ?_
      obtain ⟨t3, h0, h⟩ := xs_some h
      obtain ⟨fs, e1, e2⟩ := xgR_some h0
      refine px_get rfl e1 e2 rfl ?_
      obtain ⟨t4, h0, h⟩ := xs_some h
      obtain ⟨fs, e1, e2⟩ := xgI_some h0
      refine px_get rfl e1 e2 rfl ?_
      refine px_iclt rfl rfl rfl (fun hc => ?_) (fun hc => ?_)
      · replace h := (if_pos hc).symm.trans h
        refine px_ld rfl rfl rfl rfl rfl ?_
        obtain ⟨t5, h0, h⟩ := xs_some h
        obtain ⟨fs, e1, e2⟩ := xgR_some h0
        refine px_get rfl e1 e2 rfl ?_
        refine px_ld rfl rfl rfl rfl rfl ?_
        obtain ⟨fs, h0, h⟩ := xs_some h
        have e1 := xo_some h0
        obtain ⟨t6, ph7, h0, h⟩ := xb_some h
        refine px_cV1 rfl rfl e1 rfl rfl rfl rfl rfl rfl rfl (r_Layout_partAt h0 :) (fun _ _ q => nomatch q.2) (fun r ph' q => ?_)
        obtain ⟨rfl, q⟩ := q
        cases q
        obtain ⟨p8, h0, h⟩ := xs_some h
        revert h
        subst h0
        intro h
        obtain ⟨t9, h0, h⟩ := xs_some h
        obtain ⟨fs, e1, e2⟩ := xgJ_some h0
        refine px_get rfl e1 e2 rfl ?_
        cases h
      · replace h := (if_neg hc).symm.trans h
        refine px_forget (n := 0) (lv' := [_, _]) rfl ?_
        refine px_forget (n := 1) (lv' := [_, _]) rfl ?_
        exact (t_H_place_35 hfl h hm hs :)
  · replace h := (if_neg hc).symm.trans h
    cases h
    exact px_tISE hfl rfl rfl rfl rfl rfl rfl rfl rfl rfl rfl hm hs rfl ⟨rfl, rfl⟩
def g_H_out_15 (F : Nat) (c : px_CT) (ph : px_H) : Option (Nat × px_H) :=
  some (15, ph)
theorem t_H_out_15 {l : Launch} {g : px_G} {d F : Nat} (hfl : l.flags = flags0) {ph : px_H} {r : Nat} {ph' : px_H} (h : g_H_out_15 F (px_ct g) ph = some (r, ph')) (hm : ph'.length < pg_MC) (hs : px_sum ph' + 6 ≤ pg_MS) : PW l g (d + 6) m_H_out 15 [px_u, px_u] [] ph (px_qT r ph') := by
  unfold g_H_out_15 at h
  cases h
  exact px_tNSEw hfl rfl rfl rfl rfl rfl rfl rfl rfl rfl rfl hm hs rfl ⟨rfl, rfl⟩
def g_H_out (F : Nat) (c : px_CT) (a0 : Nat) (a1 : Int32) (ph : px_H) : Option (Nat × px_H) :=
  if a1 < 0 then
    g_H_out_15 F c ph
  else
    (xgR ph 0 1 a0).bind fun t1 =>
    (xgI ph 10 1 t1).bind fun t2 =>
    if a1 < t2 then
      (xgR ph 0 1 a0).bind fun t3 =>
      (xo ph 10 t3).bind fun _ =>
      xb (f_Row_num F c t3 a1 (nI 8) ph) fun t4 ph5 =>
      none
    else
      g_H_out_15 F c ph
theorem t_H_out {l : Launch} {g : px_G} {d F : Nat} (hfl : l.flags = flags0) {a0 : Nat} {a1 : Int32} {ph : px_H} {r : Nat} {ph' : px_H} (h : g_H_out F (px_ct g) a0 a1 ph = some (r, ph')) (hm : ph'.length < pg_MC) (hs : px_sum ph' + 6 ≤ pg_MS) : PW l g (d + 6) m_H_out 0 [.ref a0, .int a1] [] ph (px_qT r ph') := by
  unfold g_H_out at h
  refine px_ld rfl rfl rfl rfl rfl ?_
  refine px_iflt rfl rfl rfl (fun hc => ?_) (fun hc => ?_)
  · replace h := (if_pos hc).symm.trans h
    refine px_forget (n := 0) (lv' := [_, _]) rfl ?_
    refine px_forget (n := 1) (lv' := [_, _]) rfl ?_
    exact (t_H_out_15 hfl h hm hs :)
  · replace h := (if_neg hc).symm.trans h
    refine px_ld rfl rfl rfl rfl rfl ?_
    refine px_ld rfl rfl rfl rfl rfl ?_
    obtain ⟨t1, h0, h⟩ := xs_some h
    obtain ⟨fs, e1, e2⟩ := xgR_some h0
    refine px_get rfl e1 e2 rfl ?_
    obtain ⟨t2, h0, h⟩ := xs_some h
    obtain ⟨fs, e1, e2⟩ := xgI_some h0
    refine px_get rfl e1 e2 rfl ?_
    refine px_iclt rfl rfl rfl (fun hc => ?_) (fun hc => ?_)
    · replace h := (if_pos hc).symm.trans h
      refine px_ld rfl rfl rfl rfl rfl ?_
      obtain ⟨t3, h0, h⟩ := xs_some h
      obtain ⟨fs, e1, e2⟩ := xgR_some h0
      refine px_get rfl e1 e2 rfl ?_
      refine px_ld rfl rfl rfl rfl rfl ?_
      refine px_ic (k := 8) rfl rfl rfl ?_
      obtain ⟨fs, h0, h⟩ := xs_some h
      have e1 := xo_some h0
      obtain ⟨t4, ph5, h0, h⟩ := xb_some h
      refine px_cV2 rfl rfl e1 rfl rfl rfl rfl rfl rfl rfl (r_Row_num h0 :) (fun _ _ q => nomatch q.2) (fun r ph' q => ?_)
      obtain ⟨rfl, q⟩ := q
      cases q
      cases h
    · replace h := (if_neg hc).symm.trans h
      refine px_forget (n := 0) (lv' := [_, _]) rfl ?_
      refine px_forget (n := 1) (lv' := [_, _]) rfl ?_
      exact (t_H_out_15 hfl h hm hs :)
def g_H_look_10 (F : Nat) (c : px_CT) (ph : px_H) : Option (Nat × px_H) :=
  some (13, ph)
theorem t_H_look_10 {l : Launch} {g : px_G} {d F : Nat} (hfl : l.flags = flags0) {ph : px_H} {r : Nat} {ph' : px_H} (h : g_H_look_10 F (px_ct g) ph = some (r, ph')) (hm : ph'.length < pg_MC) (hs : px_sum ph' + 6 ≤ pg_MS) : PW l g (d + 6) m_H_look 10 [px_u, px_u] [] ph (px_qT r ph') := by
  unfold g_H_look_10 at h
  cases h
  exact px_tIAEw hfl rfl rfl rfl rfl rfl rfl rfl rfl rfl rfl hm hs rfl ⟨rfl, rfl⟩
def g_H_look (F : Nat) (c : px_CT) (a0 : Nat) (a1 : Int32) (ph : px_H) : Option (Nat × px_H) :=
  if a1 < 0 then
    g_H_look_10 F c ph
  else
    if a1 ≤ (nI 18) then
      if a1 = nI 0 then
        (xgI ph 0 6 a0).bind fun t1 =>
        none
      else if a1 = nI 1 then
        (xgR ph 0 0 a0).bind fun t2 =>
        (xgI ph 10 1 t2).bind fun t3 =>
        none
      else if a1 = nI 2 then
        (xgR ph 0 1 a0).bind fun t4 =>
        (xgI ph 10 1 t4).bind fun t5 =>
        none
      else if a1 = nI 3 then
        (xo ph 0 a0).bind fun _ =>
        xb (f_H_lookAtLink F c a0 a1 ph) fun t6 ph7 =>
        none
      else if a1 = nI 4 then
        (xo ph 0 a0).bind fun _ =>
        xb (f_H_lookAtLink F c a0 a1 ph) fun t8 ph9 =>
        none
      else if a1 = nI 5 then
        (xo ph 0 a0).bind fun _ =>
        xb (f_H_lookAtLink F c a0 a1 ph) fun t10 ph11 =>
        none
      else if a1 = nI 6 then
        (xo ph 0 a0).bind fun _ =>
        xb (f_H_lookAtLink F c a0 a1 ph) fun t12 ph13 =>
        none
      else if a1 = nI 7 then
        (xo ph 0 a0).bind fun _ =>
        xb (f_H_lookAtLink F c a0 a1 ph) fun t14 ph15 =>
        none
      else if a1 = nI 8 then
        (xo ph 0 a0).bind fun _ =>
        xb (f_H_lookAtLink F c a0 a1 ph) fun t16 ph17 =>
        none
      else if a1 = nI 9 then
        (xgR ph 0 16 a0).bind fun t18 =>
        (xgI ph 4 6 t18).bind fun t19 =>
        none
      else if a1 = nI 10 then
        (xgR ph 0 16 a0).bind fun t20 =>
        (xgJ ph 4 7 t20).bind fun t21 =>
        none
      else if a1 = nI 11 then
        (xgI ph 0 17 a0).bind fun t22 =>
        none
      else if a1 = nI 12 then
        (xo ph 0 a0).bind fun _ =>
        xb (f_H_lookAtLink F c a0 a1 ph) fun t23 ph24 =>
        none
      else if a1 = nI 13 then
        (xo ph 0 a0).bind fun _ =>
        xb (f_H_lookAtLink F c a0 a1 ph) fun t25 ph26 =>
        none
      else if a1 = nI 14 then
        (xo ph 0 a0).bind fun _ =>
        xb (f_H_lookAtLink F c a0 a1 ph) fun t27 ph28 =>
        none
      else if a1 = nI 15 then
        (xo ph 0 a0).bind fun _ =>
        xb (f_H_lookAtLink F c a0 a1 ph) fun t29 ph30 =>
        none
      else if a1 = nI 16 then
        (xgR ph 0 8 a0).bind fun t31 =>
        (xgI ph 6 2 t31).bind fun t32 =>
        none
      else if a1 = nI 17 then
        (xgR ph 0 9 a0).bind fun t33 =>
        (xgI ph 6 2 t33).bind fun t34 =>
        none
      else if a1 = nI 18 then
        (xgR ph 0 16 a0).bind fun t35 =>
        (xgI ph 4 12 t35).bind fun t36 =>
        none
      else 
        (xo ph 0 a0).bind fun _ =>
        xb (f_H_lookAtLink F c a0 a1 ph) fun t37 ph38 =>
        none
    else
      g_H_look_10 F c ph
theorem t_H_look {l : Launch} {g : px_G} {d F : Nat} (hfl : l.flags = flags0) {a0 : Nat} {a1 : Int32} {ph : px_H} {r : Nat} {ph' : px_H} (h : g_H_look F (px_ct g) a0 a1 ph = some (r, ph')) (hm : ph'.length < pg_MC) (hs : px_sum ph' + 6 ≤ pg_MS) : PW l g (d + 6) m_H_look 0 [.ref a0, .int a1] [] ph (px_qT r ph') := by
  unfold g_H_look at h
  refine px_ld rfl rfl rfl rfl rfl ?_
  refine px_iflt rfl rfl rfl (fun hc => ?_) (fun hc => ?_)
  · replace h := (if_pos hc).symm.trans h
    refine px_forget (n := 0) (lv' := [_, _]) rfl ?_
    refine px_forget (n := 1) (lv' := [_, _]) rfl ?_
    exact (t_H_look_10 hfl h hm hs :)
  · replace h := (if_neg hc).symm.trans h
    refine px_ld rfl rfl rfl rfl rfl ?_
    refine px_ic (k := 18) rfl rfl rfl ?_
    refine px_icle rfl rfl rfl (fun hc => ?_) (fun hc => ?_)
    · replace h := (if_pos hc).symm.trans h
      refine px_ld rfl rfl rfl rfl rfl ?_
      by_cases hs0 : a1 = nI 0
      · replace h := (if_pos hs0).symm.trans h
        refine px_tsK (len := 90) (off := 90) (tgt := 112) 0 rfl hs0 (by decide) (by decide) (by decide) rfl (by decide) ?_
        refine px_ld rfl rfl rfl rfl rfl ?_
        obtain ⟨t1, h0, h⟩ := xs_some h
        obtain ⟨fs, e1, e2⟩ := xgI_some h0
        refine px_get rfl e1 e2 rfl ?_
        refine px_alu rfl rfl rfl ?_
        cases h
      replace h := (if_neg hs0).symm.trans h
      by_cases hs1 : a1 = nI 1
      · replace h := (if_pos hs1).symm.trans h
        refine px_tsK (len := 90) (off := 96) (tgt := 118) 1 rfl hs1 (by decide) (by decide) (by decide) rfl (by decide) ?_
        refine px_ld rfl rfl rfl rfl rfl ?_
        obtain ⟨t2, h0, h⟩ := xs_some h
        obtain ⟨fs, e1, e2⟩ := xgR_some h0
        refine px_get rfl e1 e2 rfl ?_
        obtain ⟨t3, h0, h⟩ := xs_some h
        obtain ⟨fs, e1, e2⟩ := xgI_some h0
        refine px_get rfl e1 e2 rfl ?_
        refine px_alu rfl rfl rfl ?_
        cases h
      replace h := (if_neg hs1).symm.trans h
      by_cases hs2 : a1 = nI 2
      · replace h := (if_pos hs2).symm.trans h
        refine px_tsK (len := 90) (off := 105) (tgt := 127) 2 rfl hs2 (by decide) (by decide) (by decide) rfl (by decide) ?_
        refine px_ld rfl rfl rfl rfl rfl ?_
        obtain ⟨t4, h0, h⟩ := xs_some h
        obtain ⟨fs, e1, e2⟩ := xgR_some h0
        refine px_get rfl e1 e2 rfl ?_
        obtain ⟨t5, h0, h⟩ := xs_some h
        obtain ⟨fs, e1, e2⟩ := xgI_some h0
        refine px_get rfl e1 e2 rfl ?_
        refine px_alu rfl rfl rfl ?_
        cases h
      replace h := (if_neg hs2).symm.trans h
      by_cases hs3 : a1 = nI 3
      · replace h := (if_pos hs3).symm.trans h
        refine px_tsK (len := 90) (off := 164) (tgt := 186) 3 rfl hs3 (by decide) (by decide) (by decide) rfl (by decide) ?_
        refine px_ld rfl rfl rfl rfl rfl ?_
        refine px_ld rfl rfl rfl rfl rfl ?_
        obtain ⟨fs, h0, h⟩ := xs_some h
        have e1 := xo_some h0
        obtain ⟨t6, ph7, h0, h⟩ := xb_some h
        refine px_cV1 rfl rfl e1 rfl rfl rfl rfl rfl rfl rfl (r_H_lookAtLink h0 :) (fun _ _ q => nomatch q.2) (fun r ph' q => ?_)
        obtain ⟨rfl, q⟩ := q
        cases q
        cases h
      replace h := (if_neg hs3).symm.trans h
      by_cases hs4 : a1 = nI 4
      · replace h := (if_pos hs4).symm.trans h
        refine px_tsK (len := 90) (off := 164) (tgt := 186) 4 rfl hs4 (by decide) (by decide) (by decide) rfl (by decide) ?_
        refine px_ld rfl rfl rfl rfl rfl ?_
        refine px_ld rfl rfl rfl rfl rfl ?_
        obtain ⟨fs, h0, h⟩ := xs_some h
        have e1 := xo_some h0
        obtain ⟨t8, ph9, h0, h⟩ := xb_some h
        refine px_cV1 rfl rfl e1 rfl rfl rfl rfl rfl rfl rfl (r_H_lookAtLink h0 :) (fun _ _ q => nomatch q.2) (fun r ph' q => ?_)
        obtain ⟨rfl, q⟩ := q
        cases q
        cases h
      replace h := (if_neg hs4).symm.trans h
      by_cases hs5 : a1 = nI 5
      · replace h := (if_pos hs5).symm.trans h
        refine px_tsK (len := 90) (off := 164) (tgt := 186) 5 rfl hs5 (by decide) (by decide) (by decide) rfl (by decide) ?_
        refine px_ld rfl rfl rfl rfl rfl ?_
        refine px_ld rfl rfl rfl rfl rfl ?_
        obtain ⟨fs, h0, h⟩ := xs_some h
        have e1 := xo_some h0
        obtain ⟨t10, ph11, h0, h⟩ := xb_some h
        refine px_cV1 rfl rfl e1 rfl rfl rfl rfl rfl rfl rfl (r_H_lookAtLink h0 :) (fun _ _ q => nomatch q.2) (fun r ph' q => ?_)
        obtain ⟨rfl, q⟩ := q
        cases q
        cases h
      replace h := (if_neg hs5).symm.trans h
      by_cases hs6 : a1 = nI 6
      · replace h := (if_pos hs6).symm.trans h
        refine px_tsK (len := 90) (off := 164) (tgt := 186) 6 rfl hs6 (by decide) (by decide) (by decide) rfl (by decide) ?_
        refine px_ld rfl rfl rfl rfl rfl ?_
        refine px_ld rfl rfl rfl rfl rfl ?_
        obtain ⟨fs, h0, h⟩ := xs_some h
        have e1 := xo_some h0
        obtain ⟨t12, ph13, h0, h⟩ := xb_some h
        refine px_cV1 rfl rfl e1 rfl rfl rfl rfl rfl rfl rfl (r_H_lookAtLink h0 :) (fun _ _ q => nomatch q.2) (fun r ph' q => ?_)
        obtain ⟨rfl, q⟩ := q
        cases q
        cases h
      replace h := (if_neg hs6).symm.trans h
      by_cases hs7 : a1 = nI 7
      · replace h := (if_pos hs7).symm.trans h
        refine px_tsK (len := 90) (off := 164) (tgt := 186) 7 rfl hs7 (by decide) (by decide) (by decide) rfl (by decide) ?_
        refine px_ld rfl rfl rfl rfl rfl ?_
        refine px_ld rfl rfl rfl rfl rfl ?_
        obtain ⟨fs, h0, h⟩ := xs_some h
        have e1 := xo_some h0
        obtain ⟨t14, ph15, h0, h⟩ := xb_some h
        refine px_cV1 rfl rfl e1 rfl rfl rfl rfl rfl rfl rfl (r_H_lookAtLink h0 :) (fun _ _ q => nomatch q.2) (fun r ph' q => ?_)
        obtain ⟨rfl, q⟩ := q
        cases q
        cases h
      replace h := (if_neg hs7).symm.trans h
      by_cases hs8 : a1 = nI 8
      · replace h := (if_pos hs8).symm.trans h
        refine px_tsK (len := 90) (off := 164) (tgt := 186) 8 rfl hs8 (by decide) (by decide) (by decide) rfl (by decide) ?_
        refine px_ld rfl rfl rfl rfl rfl ?_
        refine px_ld rfl rfl rfl rfl rfl ?_
        obtain ⟨fs, h0, h⟩ := xs_some h
        have e1 := xo_some h0
        obtain ⟨t16, ph17, h0, h⟩ := xb_some h
        refine px_cV1 rfl rfl e1 rfl rfl rfl rfl rfl rfl rfl (r_H_lookAtLink h0 :) (fun _ _ q => nomatch q.2) (fun r ph' q => ?_)
        obtain ⟨rfl, q⟩ := q
        cases q
        cases h
      replace h := (if_neg hs8).symm.trans h
      by_cases hs9 : a1 = nI 9
      · replace h := (if_pos hs9).symm.trans h
        refine px_tsK (len := 90) (off := 114) (tgt := 136) 9 rfl hs9 (by decide) (by decide) (by decide) rfl (by decide) ?_
        refine px_ld rfl rfl rfl rfl rfl ?_
        obtain ⟨t18, h0, h⟩ := xs_some h
        obtain ⟨fs, e1, e2⟩ := xgR_some h0
        refine px_get rfl e1 e2 rfl ?_
        obtain ⟨t19, h0, h⟩ := xs_some h
        obtain ⟨fs, e1, e2⟩ := xgI_some h0
        refine px_get rfl e1 e2 rfl ?_
        refine px_alu rfl rfl rfl ?_
        cases h
      replace h := (if_neg hs9).symm.trans h
      by_cases hs10 : a1 = nI 10
      · replace h := (if_pos hs10).symm.trans h
        refine px_tsK (len := 90) (off := 123) (tgt := 145) 10 rfl hs10 (by decide) (by decide) (by decide) rfl (by decide) ?_
        refine px_ld rfl rfl rfl rfl rfl ?_
        obtain ⟨t20, h0, h⟩ := xs_some h
        obtain ⟨fs, e1, e2⟩ := xgR_some h0
        refine px_get rfl e1 e2 rfl ?_
        obtain ⟨t21, h0, h⟩ := xs_some h
        obtain ⟨fs, e1, e2⟩ := xgJ_some h0
        refine px_get rfl e1 e2 rfl ?_
        cases h
      replace h := (if_neg hs10).symm.trans h
      by_cases hs11 : a1 = nI 11
      · replace h := (if_pos hs11).symm.trans h
        refine px_tsK (len := 90) (off := 131) (tgt := 153) 11 rfl hs11 (by decide) (by decide) (by decide) rfl (by decide) ?_
        refine px_ld rfl rfl rfl rfl rfl ?_
        obtain ⟨t22, h0, h⟩ := xs_some h
        obtain ⟨fs, e1, e2⟩ := xgI_some h0
        refine px_get rfl e1 e2 rfl ?_
        refine px_alu rfl rfl rfl ?_
        cases h
      replace h := (if_neg hs11).symm.trans h
      by_cases hs12 : a1 = nI 12
      · replace h := (if_pos hs12).symm.trans h
        refine px_tsK (len := 90) (off := 164) (tgt := 186) 12 rfl hs12 (by decide) (by decide) (by decide) rfl (by decide) ?_
        refine px_ld rfl rfl rfl rfl rfl ?_
        refine px_ld rfl rfl rfl rfl rfl ?_
        obtain ⟨fs, h0, h⟩ := xs_some h
        have e1 := xo_some h0
        obtain ⟨t23, ph24, h0, h⟩ := xb_some h
        refine px_cV1 rfl rfl e1 rfl rfl rfl rfl rfl rfl rfl (r_H_lookAtLink h0 :) (fun _ _ q => nomatch q.2) (fun r ph' q => ?_)
        obtain ⟨rfl, q⟩ := q
        cases q
        cases h
      replace h := (if_neg hs12).symm.trans h
      by_cases hs13 : a1 = nI 13
      · replace h := (if_pos hs13).symm.trans h
        refine px_tsK (len := 90) (off := 164) (tgt := 186) 13 rfl hs13 (by decide) (by decide) (by decide) rfl (by decide) ?_
        refine px_ld rfl rfl rfl rfl rfl ?_
        refine px_ld rfl rfl rfl rfl rfl ?_
        obtain ⟨fs, h0, h⟩ := xs_some h
        have e1 := xo_some h0
        obtain ⟨t25, ph26, h0, h⟩ := xb_some h
        refine px_cV1 rfl rfl e1 rfl rfl rfl rfl rfl rfl rfl (r_H_lookAtLink h0 :) (fun _ _ q => nomatch q.2) (fun r ph' q => ?_)
        obtain ⟨rfl, q⟩ := q
        cases q
        cases h
      replace h := (if_neg hs13).symm.trans h
      by_cases hs14 : a1 = nI 14
      · replace h := (if_pos hs14).symm.trans h
        refine px_tsK (len := 90) (off := 164) (tgt := 186) 14 rfl hs14 (by decide) (by decide) (by decide) rfl (by decide) ?_
        refine px_ld rfl rfl rfl rfl rfl ?_
        refine px_ld rfl rfl rfl rfl rfl ?_
        obtain ⟨fs, h0, h⟩ := xs_some h
        have e1 := xo_some h0
        obtain ⟨t27, ph28, h0, h⟩ := xb_some h
        refine px_cV1 rfl rfl e1 rfl rfl rfl rfl rfl rfl rfl (r_H_lookAtLink h0 :) (fun _ _ q => nomatch q.2) (fun r ph' q => ?_)
        obtain ⟨rfl, q⟩ := q
        cases q
        cases h
      replace h := (if_neg hs14).symm.trans h
      by_cases hs15 : a1 = nI 15
      · replace h := (if_pos hs15).symm.trans h
        refine px_tsK (len := 90) (off := 164) (tgt := 186) 15 rfl hs15 (by decide) (by decide) (by decide) rfl (by decide) ?_
        refine px_ld rfl rfl rfl rfl rfl ?_
        refine px_ld rfl rfl rfl rfl rfl ?_
        obtain ⟨fs, h0, h⟩ := xs_some h
        have e1 := xo_some h0
        obtain ⟨t29, ph30, h0, h⟩ := xb_some h
        refine px_cV1 rfl rfl e1 rfl rfl rfl rfl rfl rfl rfl (r_H_lookAtLink h0 :) (fun _ _ q => nomatch q.2) (fun r ph' q => ?_)
        obtain ⟨rfl, q⟩ := q
        cases q
        cases h
      replace h := (if_neg hs15).symm.trans h
      by_cases hs16 : a1 = nI 16
      · replace h := (if_pos hs16).symm.trans h
        refine px_tsK (len := 90) (off := 137) (tgt := 159) 16 rfl hs16 (by decide) (by decide) (by decide) rfl (by decide) ?_
        refine px_ld rfl rfl rfl rfl rfl ?_
        obtain ⟨t31, h0, h⟩ := xs_some h
        obtain ⟨fs, e1, e2⟩ := xgR_some h0
        refine px_get rfl e1 e2 rfl ?_
        obtain ⟨t32, h0, h⟩ := xs_some h
        obtain ⟨fs, e1, e2⟩ := xgI_some h0
        refine px_get rfl e1 e2 rfl ?_
        refine px_alu rfl rfl rfl ?_
        cases h
      replace h := (if_neg hs16).symm.trans h
      by_cases hs17 : a1 = nI 17
      · replace h := (if_pos hs17).symm.trans h
        refine px_tsK (len := 90) (off := 146) (tgt := 168) 17 rfl hs17 (by decide) (by decide) (by decide) rfl (by decide) ?_
        refine px_ld rfl rfl rfl rfl rfl ?_
        obtain ⟨t33, h0, h⟩ := xs_some h
        obtain ⟨fs, e1, e2⟩ := xgR_some h0
        refine px_get rfl e1 e2 rfl ?_
        obtain ⟨t34, h0, h⟩ := xs_some h
        obtain ⟨fs, e1, e2⟩ := xgI_some h0
        refine px_get rfl e1 e2 rfl ?_
        refine px_alu rfl rfl rfl ?_
        cases h
      replace h := (if_neg hs17).symm.trans h
      by_cases hs18 : a1 = nI 18
      · replace h := (if_pos hs18).symm.trans h
        refine px_tsK (len := 90) (off := 155) (tgt := 177) 18 rfl hs18 (by decide) (by decide) (by decide) rfl (by decide) ?_
        refine px_ld rfl rfl rfl rfl rfl ?_
        obtain ⟨t35, h0, h⟩ := xs_some h
        obtain ⟨fs, e1, e2⟩ := xgR_some h0
        refine px_get rfl e1 e2 rfl ?_
        obtain ⟨t36, h0, h⟩ := xs_some h
        obtain ⟨fs, e1, e2⟩ := xgI_some h0
        refine px_get rfl e1 e2 rfl ?_
        refine px_alu rfl rfl rfl ?_
        cases h
      replace h := (if_neg hs18).symm.trans h
      refine px_tsD (len := 90) (lo := 0) (n := 19) (tgt := 186) rfl (lt_s (lt_s (lt_s (lt_s (lt_s (lt_s (lt_s (lt_s (lt_s (lt_s (lt_s (lt_s (lt_s (lt_s (lt_s (lt_s (lt_s (lt_s (lt_s lt_0 hs0) hs1) hs2) hs3) hs4) hs5) hs6) hs7) hs8) hs9) hs10) hs11) hs12) hs13) hs14) hs15) hs16) hs17) hs18) (by decide) (by decide) ?_
      refine px_ld rfl rfl rfl rfl rfl ?_
      refine px_ld rfl rfl rfl rfl rfl ?_
      obtain ⟨fs, h0, h⟩ := xs_some h
      have e1 := xo_some h0
      obtain ⟨t37, ph38, h0, h⟩ := xb_some h
      refine px_cV1 rfl rfl e1 rfl rfl rfl rfl rfl rfl rfl (r_H_lookAtLink h0 :) (fun _ _ q => nomatch q.2) (fun r ph' q => ?_)
      obtain ⟨rfl, q⟩ := q
      cases q
      cases h
    · replace h := (if_neg hc).symm.trans h
      refine px_forget (n := 0) (lv' := [_, _]) rfl ?_
      refine px_forget (n := 1) (lv' := [_, _]) rfl ?_
      exact (t_H_look_10 hfl h hm hs :)
