/-! methods as functions: LinkHouseModel -/
def f_M_placeSegment_246 (F : Nat) (a0 : Nat) (a1 : Int32) (a4 : Int64) (a6 : Int64) (a8 : Int64) (ph : px_H) : Option (Unit × px_H) :=
  (xgR ph 12 62 a0).bind fun t1 =>
  (xsJ ph 2 t1 a1 (a8 - a4)).bind fun ph2 =>
  (xgR ph2 12 63 a0).bind fun t3 =>
  (xsJ ph2 2 t3 a1 (a6 - a4)).bind fun ph4 =>
  some ((), ph4)
theorem r_M_placeSegment_246 {l : Launch} {g : px_G} {d F : Nat} {a0 : Nat} {a1 : Int32} {a4 : Int64} {a6 : Int64} {a8 : Int64} {ph : px_H} {r : Unit} {ph' : px_H} (h : f_M_placeSegment_246 F a0 a1 a4 a6 a8 ph = some (r, ph')) : PW l g (d + 6) m_M_placeSegment 246 [.ref a0, .int a1, px_u, px_u, .long a4, px_u, .long a6, px_u, .long a8, px_u] [] ph (px_qV r ph') := by
  unfold f_M_placeSegment_246 at h
  refine px_ld rfl rfl rfl rfl rfl ?_
  obtain ⟨t1, h0, h⟩ := xs_some h
  obtain ⟨fs, e1, e2⟩ := xgR_some h0
  refine px_get rfl e1 e2 rfl ?_
  refine px_ld rfl rfl rfl rfl rfl ?_
  refine px_ld rfl rfl rfl rfl rfl ?_
  refine px_ld rfl rfl rfl rfl rfl ?_
  refine px_alu rfl rfl rfl ?_
  obtain ⟨ph2, h0, h⟩ := xs_some h
  obtain ⟨N, f, e1, e2, e3⟩ := xsJ_some h0
  subst e3
  refine px_last rfl e1 rfl e2 rfl ?_
  refine px_ld rfl rfl rfl rfl rfl ?_
  obtain ⟨t3, h0, h⟩ := xs_some h
  obtain ⟨fs, e1, e2⟩ := xgR_some h0
  refine px_get rfl e1 e2 rfl ?_
  refine px_ld rfl rfl rfl rfl rfl ?_
  refine px_ld rfl rfl rfl rfl rfl ?_
  refine px_ld rfl rfl rfl rfl rfl ?_
  refine px_alu rfl rfl rfl ?_
  obtain ⟨ph4, h0, h⟩ := xs_some h
  obtain ⟨N, f, e1, e2, e3⟩ := xsJ_some h0
  subst e3
  refine px_last rfl e1 rfl e2 rfl ?_
  cases h
  exact px_vret rfl rfl rfl ⟨rfl, rfl⟩
def f_M_placeSegment_243 (F : Nat) (a0 : Nat) (a1 : Int32) (a4 : Int64) (a6 : Int64) (a8 : Int64) (s0 : Nat) (s1 : Int64) (ph : px_H) : Option (Unit × px_H) :=
  (xpJ ph 12 81 s0 s1).bind fun ph1 =>
  f_M_placeSegment_246 F a0 a1 a4 a6 a8 ph1
theorem r_M_placeSegment_243 {l : Launch} {g : px_G} {d F : Nat} {a0 : Nat} {a1 : Int32} {a4 : Int64} {a6 : Int64} {a8 : Int64} {s0 : Nat} {s1 : Int64} {ph : px_H} {r : Unit} {ph' : px_H} (h : f_M_placeSegment_243 F a0 a1 a4 a6 a8 s0 s1 ph = some (r, ph')) : PW l g (d + 6) m_M_placeSegment 243 [.ref a0, .int a1, px_u, px_u, .long a4, px_u, .long a6, px_u, .long a8, px_u] [.long s1, .ref s0] ph (px_qV r ph') := by
  unfold f_M_placeSegment_243 at h
  obtain ⟨ph1, h0, h⟩ := xs_some h
  obtain ⟨fs, e1, e2, e3⟩ := xpJ_some h0
  subst e3
  refine px_put rfl e1 e2 trivial rfl ?_
  exact (r_M_placeSegment_246 h :)
def f_M_placeSegment_169 (F : Nat) (a0 : Nat) (a1 : Int32) (a4 : Int64) (s0 : Nat) (s1 : Int64) (ph : px_H) : Option (Unit × px_H) :=
  (xpJ ph 12 79 s0 s1).bind fun ph1 =>
  (xgJ ph1 12 79 a0).bind fun t2 =>
  (xgI ph1 12 74 a0).bind fun t3 =>
  (xpJ ph1 12 81 a0 ((-1 : Int64))).bind fun ph4 =>
  (xgR ph4 12 59 a0).bind fun t5 =>
  (xaI ph4 3 t5 a1).bind fun t6 =>
  (xo ph4 12 a0).bind fun _ =>
  xb (f_M_placeGroup F a0 (nI 3) (t2 + (((8 : Int64)) * t3.toInt64)) t6 ph4) fun t7 ph8 =>
  (xgR ph8 12 59 a0).bind fun t9 =>
  (xaI ph8 3 t9 a1).bind fun t10 =>
  (xo ph8 12 a0).bind fun _ =>
  xb (f_M_placeCommons F a0 t7 t10 ph8) fun t11 ph12 =>
  (xgJ ph12 12 81 a0).bind fun t13 =>
  if (lN 0) ≤ t13 then
    (xgJ ph12 12 81 a0).bind fun t14 =>
    f_M_placeSegment_243 F a0 a1 a4 t11 (t2 + (((8 : Int64)) * t3.toInt64)) a0 t14 ph12
  else
    f_M_placeSegment_243 F a0 a1 a4 t11 (t2 + (((8 : Int64)) * t3.toInt64)) a0 t11 ph12
theorem r_M_placeSegment_169 {l : Launch} {g : px_G} {d F : Nat} {a0 : Nat} {a1 : Int32} {a4 : Int64} {s0 : Nat} {s1 : Int64} {ph : px_H} {r : Unit} {ph' : px_H} (h : f_M_placeSegment_169 F a0 a1 a4 s0 s1 ph = some (r, ph')) : PW l g (d + 6) m_M_placeSegment 169 [.ref a0, .int a1, px_u, px_u, .long a4, px_u, px_u, px_u, px_u, px_u] [.long s1, .ref s0] ph (px_qV r ph') := by
  unfold f_M_placeSegment_169 at h
  obtain ⟨ph1, h0, h⟩ := xs_some h
  obtain ⟨fs, e1, e2, e3⟩ := xpJ_some h0
  subst e3
  refine px_put rfl e1 e2 trivial rfl ?_
  refine px_ld rfl rfl rfl rfl rfl ?_
  obtain ⟨t2, h0, h⟩ := xs_some h
  obtain ⟨fs, e1, e2⟩ := xgJ_some h0
  refine px_get rfl e1 e2 rfl ?_
  refine px_ldc2 rfl rfl rfl ?_
  refine px_ld rfl rfl rfl rfl rfl ?_
  obtain ⟨t3, h0, h⟩ := xs_some h
  obtain ⟨fs, e1, e2⟩ := xgI_some h0
  refine px_get rfl e1 e2 rfl ?_
  refine px_alu rfl rfl rfl ?_
  refine px_alu rfl rfl rfl ?_
  refine px_alu rfl rfl rfl ?_
  refine px_st (lv' := [_, _, _, _, _, _, _, _, _, _]) rfl rfl rfl rfl rfl rfl rfl ?_
  refine px_ld rfl rfl rfl rfl rfl ?_
  refine px_ldc2 rfl rfl rfl ?_
  obtain ⟨ph4, h0, h⟩ := xs_some h
  obtain ⟨fs, e1, e2, e3⟩ := xpJ_some h0
  subst e3
  refine px_put rfl e1 e2 trivial rfl ?_
  refine px_ld rfl rfl rfl rfl rfl ?_
  refine px_ic (k := 3) rfl rfl rfl ?_
  refine px_ld rfl rfl rfl rfl rfl ?_
  refine px_ld rfl rfl rfl rfl rfl ?_
  obtain ⟨t5, h0, h⟩ := xs_some h
  obtain ⟨fs, e1, e2⟩ := xgR_some h0
  refine px_get rfl e1 e2 rfl ?_
  refine px_ld rfl rfl rfl rfl rfl ?_
  obtain ⟨t6, h0, h⟩ := xs_some h
  obtain ⟨N, f, e1, e2, e3⟩ := xaI_some h0
  subst e3
  refine px_zald rfl e1 rfl e2 rfl ?_
  obtain ⟨fs, h0, h⟩ := xs_some h
  have e1 := xo_some h0
  obtain ⟨t7, ph8, h0, h⟩ := xb_some h
  refine px_cV3 rfl rfl e1 rfl rfl rfl rfl rfl rfl rfl (r_M_placeGroup h0 :) (fun _ _ q => nomatch q.2) (fun r ph' q => ?_)
  obtain ⟨rfl, q⟩ := q
  cases q
  refine px_st (lv' := [_, _, _, _, _, _, _, _, _, _]) rfl rfl rfl rfl rfl rfl rfl ?_
  refine px_ld rfl rfl rfl rfl rfl ?_
  refine px_ld rfl rfl rfl rfl rfl ?_
  refine px_ld rfl rfl rfl rfl rfl ?_
  obtain ⟨t9, h0, h⟩ := xs_some h
  obtain ⟨fs, e1, e2⟩ := xgR_some h0
  refine px_get rfl e1 e2 rfl ?_
  refine px_ld rfl rfl rfl rfl rfl ?_
  obtain ⟨t10, h0, h⟩ := xs_some h
  obtain ⟨N, f, e1, e2, e3⟩ := xaI_some h0
  subst e3
  refine px_zald rfl e1 rfl e2 rfl ?_
  obtain ⟨fs, h0, h⟩ := xs_some h
  have e1 := xo_some h0
  obtain ⟨t11, ph12, h0, h⟩ := xb_some h
  refine px_cV2 rfl rfl e1 rfl rfl rfl rfl rfl rfl rfl (r_M_placeCommons h0 :) (fun _ _ q => nomatch q.2) (fun r ph' q => ?_)
  obtain ⟨rfl, q⟩ := q
  cases q
  refine px_st (lv' := [_, _, _, _, _, _, _, _, _, _]) rfl rfl rfl rfl rfl rfl rfl ?_
  refine px_ld rfl rfl rfl rfl rfl ?_
  refine px_ld rfl rfl rfl rfl rfl ?_
  obtain ⟨t13, h0, h⟩ := xs_some h
  obtain ⟨fs, e1, e2⟩ := xgJ_some h0
  refine px_get rfl e1 e2 rfl ?_
  refine px_alu rfl rfl rfl ?_
  refine px_alu rfl rfl rfl ?_
  refine px_ifge rfl (by decide) rfl (fun hc => ?_) (fun hc => ?_)
  · replace h := (if_pos ((lg_cmp_ge _ _).mp hc)).symm.trans h
    refine px_ld rfl rfl rfl rfl rfl ?_
    obtain ⟨t14, h0, h⟩ := xs_some h
    obtain ⟨fs, e1, e2⟩ := xgJ_some h0
    refine px_get rfl e1 e2 rfl ?_
    exact (r_M_placeSegment_243 h :)
  · replace h := (if_neg (fun q => hc ((lg_cmp_ge _ _).mpr q))).symm.trans h
    refine px_ld rfl rfl rfl rfl rfl ?_
    refine px_goto rfl (by decide) rfl ?_
    exact (r_M_placeSegment_243 h :)
def f_M_placeSegment_139 (F : Nat) (a0 : Nat) (a1 : Int32) (a4 : Int64) (a6 : Int64) (ph : px_H) : Option (Unit × px_H) :=
  if a1 = (nI 2) then
    (xgI ph 12 74 a0).bind fun t1 =>
    if t1 ≤ 0 then
      f_M_placeSegment_169 F a0 a1 a4 a0 a6 ph
    else
      xb (f_M_up F a6 ((8 : Int64)) ph) fun t2 ph3 =>
      f_M_placeSegment_169 F a0 a1 a4 a0 t2 ph3
  else
    f_M_placeSegment_246 F a0 a1 a4 a6 a6 ph
theorem r_M_placeSegment_139 {l : Launch} {g : px_G} {d F : Nat} {a0 : Nat} {a1 : Int32} {a4 : Int64} {a6 : Int64} {ph : px_H} {r : Unit} {ph' : px_H} (h : f_M_placeSegment_139 F a0 a1 a4 a6 ph = some (r, ph')) : PW l g (d + 6) m_M_placeSegment 139 [.ref a0, .int a1, px_u, px_u, .long a4, px_u, .long a6, px_u, px_u, px_u] [] ph (px_qV r ph') := by
  unfold f_M_placeSegment_139 at h
  refine px_ld rfl rfl rfl rfl rfl ?_
  refine px_st (lv' := [_, _, _, _, _, _, _, _, _, _]) rfl rfl rfl rfl rfl rfl rfl ?_
  refine px_ld rfl rfl rfl rfl rfl ?_
  refine px_ic (k := 2) rfl rfl rfl ?_
  refine px_icne rfl (by decide) rfl (fun hc => ?_) (fun hc => ?_)
  · replace h := (if_neg hc).symm.trans h
    exact (r_M_placeSegment_246 h :)
  · replace h := (if_pos hc).symm.trans h
    refine px_ld rfl rfl rfl rfl rfl ?_
    refine px_ld rfl rfl rfl rfl rfl ?_
    obtain ⟨t1, h0, h⟩ := xs_some h
    obtain ⟨fs, e1, e2⟩ := xgI_some h0
    refine px_get rfl e1 e2 rfl ?_
    refine px_ifle rfl (by decide) rfl (fun hc => ?_) (fun hc => ?_)
    · replace h := (if_pos hc).symm.trans h
      refine px_ld rfl rfl rfl rfl rfl ?_
      refine px_forget (n := 6) (lv' := [_, _, _, _, _, _, _, _, _, _]) rfl ?_
      refine px_forget (n := 8) (lv' := [_, _, _, _, _, _, _, _, _, _]) rfl ?_
      exact (r_M_placeSegment_169 h :)
    · replace h := (if_neg hc).symm.trans h
      refine px_ld rfl rfl rfl rfl rfl ?_
      refine px_ldc2 rfl rfl rfl ?_
      obtain ⟨t2, ph3, h0, h⟩ := xb_some h
      refine px_cS2 rfl rfl rfl rfl rfl rfl rfl (r_M_up h0 :) (fun _ _ q => nomatch q.2) (fun r ph' q => ?_)
      obtain ⟨rfl, q⟩ := q
      cases q
      refine px_goto rfl (by decide) rfl ?_
      refine px_forget (n := 6) (lv' := [_, _, _, _, _, _, _, _, _, _]) rfl ?_
      refine px_forget (n := 8) (lv' := [_, _, _, _, _, _, _, _, _, _]) rfl ?_
      exact (r_M_placeSegment_169 h :)
def f_M_placeSegment_126 (F : Nat) (a0 : Nat) (a1 : Int32) (a4 : Int64) (a6 : Int64) (ph : px_H) : Option (Unit × px_H) :=
  if a1 = (nI 1) then
    (xo ph 12 a0).bind fun _ =>
    xb (f_M_placeStrings F a0 a6 ph) fun t1 ph2 =>
    f_M_placeSegment_139 F a0 a1 a4 t1 ph2
  else
    f_M_placeSegment_139 F a0 a1 a4 a6 ph
theorem r_M_placeSegment_126 {l : Launch} {g : px_G} {d F : Nat} {a0 : Nat} {a1 : Int32} {a4 : Int64} {a6 : Int64} {ph : px_H} {r : Unit} {ph' : px_H} (h : f_M_placeSegment_126 F a0 a1 a4 a6 ph = some (r, ph')) : PW l g (d + 6) m_M_placeSegment 126 [.ref a0, .int a1, px_u, px_u, .long a4, px_u, .long a6, px_u, px_u, px_u] [] ph (px_qV r ph') := by
  unfold f_M_placeSegment_126 at h
  refine px_ld rfl rfl rfl rfl rfl ?_
  refine px_ic (k := 1) rfl rfl rfl ?_
  refine px_icne rfl (by decide) rfl (fun hc => ?_) (fun hc => ?_)
  · replace h := (if_neg hc).symm.trans h
    exact (r_M_placeSegment_139 h :)
  · replace h := (if_pos hc).symm.trans h
    refine px_ld rfl rfl rfl rfl rfl ?_
    refine px_ld rfl rfl rfl rfl rfl ?_
    obtain ⟨fs, h0, h⟩ := xs_some h
    have e1 := xo_some h0
    obtain ⟨t1, ph2, h0, h⟩ := xb_some h
    refine px_cV1 rfl rfl e1 rfl rfl rfl rfl rfl rfl rfl (r_M_placeStrings h0 :) (fun _ _ q => nomatch q.2) (fun r ph' q => ?_)
    obtain ⟨rfl, q⟩ := q
    cases q
    refine px_st (lv' := [_, _, _, _, _, _, _, _, _, _]) rfl rfl rfl rfl rfl rfl rfl ?_
    exact (r_M_placeSegment_139 h :)
def f_M_placeSegment_116 (F : Nat) (a0 : Nat) (a1 : Int32) (a4 : Int64) (a6 : Int64) (ph : px_H) : Option (Unit × px_H) :=
  if a1 = 0 then
    (xpJ ph 12 80 a0 a6).bind fun ph1 =>
    f_M_placeSegment_126 F a0 a1 a4 a6 ph1
  else
    f_M_placeSegment_126 F a0 a1 a4 a6 ph
theorem r_M_placeSegment_116 {l : Launch} {g : px_G} {d F : Nat} {a0 : Nat} {a1 : Int32} {a4 : Int64} {a6 : Int64} {ph : px_H} {r : Unit} {ph' : px_H} (h : f_M_placeSegment_116 F a0 a1 a4 a6 ph = some (r, ph')) : PW l g (d + 6) m_M_placeSegment 116 [.ref a0, .int a1, px_u, px_u, .long a4, px_u, .long a6, px_u, px_u, px_u] [] ph (px_qV r ph') := by
  unfold f_M_placeSegment_116 at h
  refine px_ld rfl rfl rfl rfl rfl ?_
  refine px_ifne rfl (by decide) rfl (fun hc => ?_) (fun hc => ?_)
  · replace h := (if_neg hc).symm.trans h
    exact (r_M_placeSegment_126 h :)
  · replace h := (if_pos hc).symm.trans h
    refine px_ld rfl rfl rfl rfl rfl ?_
    refine px_ld rfl rfl rfl rfl rfl ?_
    obtain ⟨ph1, h0, h⟩ := xs_some h
    obtain ⟨fs, e1, e2, e3⟩ := xpJ_some h0
    subst e3
    refine px_put rfl e1 e2 trivial rfl ?_
    exact (r_M_placeSegment_126 h :)
def f_M_placeSegment_68 (F : Nat) (a0 : Nat) (a1 : Int32) (a4 : Int64) (s0 : Nat) (s1 : Int32) (ph : px_H) : Option (Unit × px_H) :=
  (xgR ph 12 59 a0).bind fun t1 =>
  (xaI ph 3 t1 a1).bind fun t2 =>
  (xo ph 12 s0).bind fun _ =>
  xb (f_M_placeGroup F s0 s1 a4 t2 ph) fun t3 ph4 =>
  if a1 = (nI 2) then
    (xgR ph4 12 59 a0).bind fun t5 =>
    (xaI ph4 3 t5 a1).bind fun t6 =>
    (xo ph4 12 a0).bind fun _ =>
    xb (f_M_placeGroup F a0 (nI 5) t3 t6 ph4) fun t7 ph8 =>
    (xgR ph8 12 59 a0).bind fun t9 =>
    (xaI ph8 3 t9 a1).bind fun t10 =>
    (xo ph8 12 a0).bind fun _ =>
    xb (f_M_placeGroup F a0 (nI 2) t3 t10 ph8) fun t11 ph12 =>
    f_M_placeSegment_116 F a0 a1 a4 t11 ph12
  else
    f_M_placeSegment_116 F a0 a1 a4 t3 ph4
theorem r_M_placeSegment_68 {l : Launch} {g : px_G} {d F : Nat} {a0 : Nat} {a1 : Int32} {a4 : Int64} {s0 : Nat} {s1 : Int32} {ph : px_H} {r : Unit} {ph' : px_H} (h : f_M_placeSegment_68 F a0 a1 a4 s0 s1 ph = some (r, ph')) : PW l g (d + 6) m_M_placeSegment 68 [.ref a0, .int a1, px_u, px_u, .long a4, px_u, px_u, px_u, px_u, px_u] [.int s1, .ref s0] ph (px_qV r ph') := by
  unfold f_M_placeSegment_68 at h
  refine px_ld rfl rfl rfl rfl rfl ?_
  refine px_ld rfl rfl rfl rfl rfl ?_
  obtain ⟨t1, h0, h⟩ := xs_some h
  obtain ⟨fs, e1, e2⟩ := xgR_some h0
  refine px_get rfl e1 e2 rfl ?_
  refine px_ld rfl rfl rfl rfl rfl ?_
  obtain ⟨t2, h0, h⟩ := xs_some h
  obtain ⟨N, f, e1, e2, e3⟩ := xaI_some h0
  subst e3
  refine px_zald rfl e1 rfl e2 rfl ?_
  obtain ⟨fs, h0, h⟩ := xs_some h
  have e1 := xo_some h0
  obtain ⟨t3, ph4, h0, h⟩ := xb_some h
  refine px_cV3 rfl rfl e1 rfl rfl rfl rfl rfl rfl rfl (r_M_placeGroup h0 :) (fun _ _ q => nomatch q.2) (fun r ph' q => ?_)
  obtain ⟨rfl, q⟩ := q
  cases q
  refine px_st (lv' := [_, _, _, _, _, _, _, _, _, _]) rfl rfl rfl rfl rfl rfl rfl ?_
  refine px_ld rfl rfl rfl rfl rfl ?_
  refine px_ic (k := 2) rfl rfl rfl ?_
  refine px_icne rfl (by decide) rfl (fun hc => ?_) (fun hc => ?_)
  · replace h := (if_neg hc).symm.trans h
    exact (r_M_placeSegment_116 h :)
  · replace h := (if_pos hc).symm.trans h
    refine px_ld rfl rfl rfl rfl rfl ?_
    refine px_ic (k := 5) rfl rfl rfl ?_
    refine px_ld rfl rfl rfl rfl rfl ?_
    refine px_ld rfl rfl rfl rfl rfl ?_
    obtain ⟨t5, h0, h⟩ := xs_some h
    obtain ⟨fs, e1, e2⟩ := xgR_some h0
    refine px_get rfl e1 e2 rfl ?_
    refine px_ld rfl rfl rfl rfl rfl ?_
    obtain ⟨t6, h0, h⟩ := xs_some h
    obtain ⟨N, f, e1, e2, e3⟩ := xaI_some h0
    subst e3
    refine px_zald rfl e1 rfl e2 rfl ?_
    obtain ⟨fs, h0, h⟩ := xs_some h
    have e1 := xo_some h0
    obtain ⟨t7, ph8, h0, h⟩ := xb_some h
    refine px_cV3 rfl rfl e1 rfl rfl rfl rfl rfl rfl rfl (r_M_placeGroup h0 :) (fun _ _ q => nomatch q.2) (fun r ph' q => ?_)
    obtain ⟨rfl, q⟩ := q
    cases q
    refine px_st (lv' := [_, _, _, _, _, _, _, _, _, _]) rfl rfl rfl rfl rfl rfl rfl ?_
    refine px_ld rfl rfl rfl rfl rfl ?_
    refine px_ic (k := 2) rfl rfl rfl ?_
    refine px_ld rfl rfl rfl rfl rfl ?_
    refine px_ld rfl rfl rfl rfl rfl ?_
    obtain ⟨t9, h0, h⟩ := xs_some h
    obtain ⟨fs, e1, e2⟩ := xgR_some h0
    refine px_get rfl e1 e2 rfl ?_
    refine px_ld rfl rfl rfl rfl rfl ?_
    obtain ⟨t10, h0, h⟩ := xs_some h
    obtain ⟨N, f, e1, e2, e3⟩ := xaI_some h0
    subst e3
    refine px_zald rfl e1 rfl e2 rfl ?_
    obtain ⟨fs, h0, h⟩ := xs_some h
    have e1 := xo_some h0
    obtain ⟨t11, ph12, h0, h⟩ := xb_some h
    refine px_cV3 rfl rfl e1 rfl rfl rfl rfl rfl rfl rfl (r_M_placeGroup h0 :) (fun _ _ q => nomatch q.2) (fun r ph' q => ?_)
    obtain ⟨rfl, q⟩ := q
    cases q
    refine px_st (lv' := [_, _, _, _, _, _, _, _, _, _]) rfl rfl rfl rfl rfl rfl rfl ?_
    refine px_forget (n := 8) (lv' := [_, _, _, _, _, _, _, _, _, _]) rfl ?_
    exact (r_M_placeSegment_116 h :)
def f_M_placeSegment_46 (F : Nat) (a0 : Nat) (a1 : Int32) (s0 : Int64) (s1 : Int64) (ph : px_H) : Option (Unit × px_H) :=
  (xgR ph 12 61 a0).bind fun t1 =>
  (xsJ ph 2 t1 a1 (s0 + s1)).bind fun ph2 =>
  if (nI 2) ≤ a1 then
    f_M_placeSegment_68 F a0 a1 (s0 + s1) a0 (nI 4) ph2
  else
    f_M_placeSegment_68 F a0 a1 (s0 + s1) a0 a1 ph2
theorem r_M_placeSegment_46 {l : Launch} {g : px_G} {d F : Nat} {a0 : Nat} {a1 : Int32} {s0 : Int64} {s1 : Int64} {ph : px_H} {r : Unit} {ph' : px_H} (h : f_M_placeSegment_46 F a0 a1 s0 s1 ph = some (r, ph')) : PW l g (d + 6) m_M_placeSegment 46 [.ref a0, .int a1, px_u, px_u, px_u, px_u, px_u, px_u, px_u, px_u] [.long s1, .long s0] ph (px_qV r ph') := by
  unfold f_M_placeSegment_46 at h
  refine px_alu rfl rfl rfl ?_
  refine px_st (lv' := [_, _, _, _, _, _, _, _, _, _]) rfl rfl rfl rfl rfl rfl rfl ?_
  refine px_ld rfl rfl rfl rfl rfl ?_
  obtain ⟨t1, h0, h⟩ := xs_some h
  obtain ⟨fs, e1, e2⟩ := xgR_some h0
  refine px_get rfl e1 e2 rfl ?_
  refine px_ld rfl rfl rfl rfl rfl ?_
  refine px_ld rfl rfl rfl rfl rfl ?_
  obtain ⟨ph2, h0, h⟩ := xs_some h
  obtain ⟨N, f, e1, e2, e3⟩ := xsJ_some h0
  subst e3
  refine px_last rfl e1 rfl e2 rfl ?_
  refine px_ld rfl rfl rfl rfl rfl ?_
  refine px_ld rfl rfl rfl rfl rfl ?_
  refine px_ic (k := 2) rfl rfl rfl ?_
  refine px_icge rfl (by decide) rfl (fun hc => ?_) (fun hc => ?_)
  · replace h := (if_pos hc).symm.trans h
    refine px_ic (k := 4) rfl rfl rfl ?_
    exact (r_M_placeSegment_68 h :)
  · replace h := (if_neg hc).symm.trans h
    refine px_ld rfl rfl rfl rfl rfl ?_
    refine px_goto rfl (by decide) rfl ?_
    exact (r_M_placeSegment_68 h :)
def f_M_placeSegment (F : Nat) (a0 : Nat) (a1 : Int32) (a2 : Int64) (ph : px_H) : Option (Unit × px_H) :=
  (xgR ph 12 60 a0).bind fun t1 =>
  (xgJ ph 12 64 a0).bind fun t2 =>
  xb (f_M_up F t2 ((16 : Int64)) ph) fun t3 ph4 =>
  (xsJ ph4 2 t1 a1 t3).bind fun ph5 =>
  xb (f_M_up F a2 ((4096 : Int64)) ph5) fun t6 ph7 =>
  (xgR ph7 12 59 a0).bind fun t8 =>
  (xaI ph7 3 t8 a1).bind fun t9 =>
  if t9 = 0 then
    f_M_placeSegment_46 F a0 a1 t6 (lN 0) ph7
  else
    (xgR ph7 12 60 a0).bind fun t10 =>
    (xaJ ph7 2 t10 a1).bind fun t11 =>
    f_M_placeSegment_46 F a0 a1 t6 (t11 - t11 / ((4096 : Int64)) * ((4096 : Int64))) ph7
theorem r_M_placeSegment {l : Launch} {g : px_G} {d F : Nat} {a0 : Nat} {a1 : Int32} {a2 : Int64} {ph : px_H} {r : Unit} {ph' : px_H} (h : f_M_placeSegment F a0 a1 a2 ph = some (r, ph')) : PW l g (d + 6) m_M_placeSegment 0 [.ref a0, .int a1, .long a2, px_u, px_u, px_u, px_u, px_u, px_u, px_u] [] ph (px_qV r ph') := by
  unfold f_M_placeSegment at h
  refine px_ld rfl rfl rfl rfl rfl ?_
  obtain ⟨t1, h0, h⟩ := xs_some h
  obtain ⟨fs, e1, e2⟩ := xgR_some h0
  refine px_get rfl e1 e2 rfl ?_
  refine px_ld rfl rfl rfl rfl rfl ?_
  refine px_ld rfl rfl rfl rfl rfl ?_
  obtain ⟨t2, h0, h⟩ := xs_some h
  obtain ⟨fs, e1, e2⟩ := xgJ_some h0
  refine px_get rfl e1 e2 rfl ?_
  refine px_ldc2 rfl rfl rfl ?_
  obtain ⟨t3, ph4, h0, h⟩ := xb_some h
  refine px_cS2 rfl rfl rfl rfl rfl rfl rfl (r_M_up h0 :) (fun _ _ q => nomatch q.2) (fun r ph' q => ?_)
  obtain ⟨rfl, q⟩ := q
  cases q
  obtain ⟨ph5, h0, h⟩ := xs_some h
  obtain ⟨N, f, e1, e2, e3⟩ := xsJ_some h0
  subst e3
  refine px_last rfl e1 rfl e2 rfl ?_
  refine px_ld rfl rfl rfl rfl rfl ?_
  refine px_ldc2 rfl rfl rfl ?_
  obtain ⟨t6, ph7, h0, h⟩ := xb_some h
  refine px_cS2 rfl rfl rfl rfl rfl rfl rfl (r_M_up h0 :) (fun _ _ q => nomatch q.2) (fun r ph' q => ?_)
  obtain ⟨rfl, q⟩ := q
  cases q
  refine px_ld rfl rfl rfl rfl rfl ?_
  obtain ⟨t8, h0, h⟩ := xs_some h
  obtain ⟨fs, e1, e2⟩ := xgR_some h0
  refine px_get rfl e1 e2 rfl ?_
  refine px_ld rfl rfl rfl rfl rfl ?_
  obtain ⟨t9, h0, h⟩ := xs_some h
  obtain ⟨N, f, e1, e2, e3⟩ := xaI_some h0
  subst e3
  refine px_zald rfl e1 rfl e2 rfl ?_
  refine px_ifeq rfl (by decide) rfl (fun hc => ?_) (fun hc => ?_)
  · replace h := (if_pos hc).symm.trans h
    refine px_alu rfl rfl rfl ?_
    refine px_forget (n := 2) (lv' := [_, _, _, _, _, _, _, _, _, _]) rfl ?_
    exact (r_M_placeSegment_46 h :)
  · replace h := (if_neg hc).symm.trans h
    refine px_ld rfl rfl rfl rfl rfl ?_
    obtain ⟨t10, h0, h⟩ := xs_some h
    obtain ⟨fs, e1, e2⟩ := xgR_some h0
    refine px_get rfl e1 e2 rfl ?_
    refine px_ld rfl rfl rfl rfl rfl ?_
    obtain ⟨t11, h0, h⟩ := xs_some h
    obtain ⟨N, f, e1, e2, e3⟩ := xaJ_some h0
    subst e3
    refine px_lald rfl e1 rfl e2 rfl ?_
    refine px_ldc2 rfl rfl rfl ?_
    refine px_lrem rfl (by decide) rfl ?_
    refine px_goto rfl (by decide) rfl ?_
    refine px_forget (n := 2) (lv' := [_, _, _, _, _, _, _, _, _, _]) rfl ?_
    exact (r_M_placeSegment_46 h :)
def f_M_findTemplate_191 (F : Nat) (s0 : Nat) (s1 : Int64) (ph : px_H) : Option (Unit × px_H) :=
  (xpJ ph 12 87 s0 s1).bind fun ph1 =>
  some ((), ph1)
theorem r_M_findTemplate_191 {l : Launch} {g : px_G} {d F : Nat} {s0 : Nat} {s1 : Int64} {ph : px_H} {r : Unit} {ph' : px_H} (h : f_M_findTemplate_191 F s0 s1 ph = some (r, ph')) : PW l g (d + 3) m_M_findTemplate 191 [px_u, px_u, px_u, px_u, px_u, px_u, px_u] [.long s1, .ref s0] ph (px_qV r ph') := by
  unfold f_M_findTemplate_191 at h
  obtain ⟨ph1, h0, h⟩ := xs_some h
  obtain ⟨fs, e1, e2, e3⟩ := xpJ_some h0
  subst e3
  refine px_put rfl e1 e2 trivial rfl ?_
  cases h
  exact px_vret rfl rfl rfl ⟨rfl, rfl⟩
def f_M_findTemplate_161 (F : Nat) (a0 : Nat) (a1 : Int32) (ph : px_H) : Option (Unit × px_H) :=
  if a1 = 0 then
    (xgR ph 12 61 a0).bind fun t1 =>
    (xaJ ph 2 t1 (nI 2)).bind fun t2 =>
    f_M_findTemplate_191 F a0 t2 ph
  else
    (xgJ ph 12 83 a0).bind fun t3 =>
    (xgJ ph 12 85 a0).bind fun t4 =>
    (xgJ ph 12 86 a0).bind fun t5 =>
    xb (f_M_up F (t3 + t4) t5 ph) fun t6 ph7 =>
    f_M_findTemplate_191 F a0 t6 ph7
theorem r_M_findTemplate_161 {l : Launch} {g : px_G} {d F : Nat} {a0 : Nat} {a1 : Int32} {ph : px_H} {r : Unit} {ph' : px_H} (h : f_M_findTemplate_161 F a0 a1 ph = some (r, ph')) : PW l g (d + 3) m_M_findTemplate 161 [.ref a0, .int a1, px_u, px_u, px_u, px_u, px_u] [] ph (px_qV r ph') := by
  unfold f_M_findTemplate_161 at h
  refine px_ld rfl rfl rfl rfl rfl ?_
  refine px_ld rfl rfl rfl rfl rfl ?_
  refine px_ifeq rfl (by decide) rfl (fun hc => ?_) (fun hc => ?_)
  · replace h := (if_pos hc).symm.trans h
    refine px_ld rfl rfl rfl rfl rfl ?_
    obtain ⟨t1, h0, h⟩ := xs_some h
    obtain ⟨fs, e1, e2⟩ := xgR_some h0
    refine px_get rfl e1 e2 rfl ?_
    refine px_ic (k := 2) rfl rfl rfl ?_
    obtain ⟨t2, h0, h⟩ := xs_some h
    obtain ⟨N, f, e1, e2, e3⟩ := xaJ_some h0
    subst e3
    refine px_lald rfl e1 rfl e2 rfl ?_
    refine px_forget (n := 0) (lv' := [_, _, _, _, _, _, _]) rfl ?_
    refine px_forget (n := 1) (lv' := [_, _, _, _, _, _, _]) rfl ?_
    exact (r_M_findTemplate_191 h :)
  · replace h := (if_neg hc).symm.trans h
    refine px_ld rfl rfl rfl rfl rfl ?_
    obtain ⟨t3, h0, h⟩ := xs_some h
    obtain ⟨fs, e1, e2⟩ := xgJ_some h0
    refine px_get rfl e1 e2 rfl ?_
    refine px_ld rfl rfl rfl rfl rfl ?_
    obtain ⟨t4, h0, h⟩ := xs_some h
    obtain ⟨fs, e1, e2⟩ := xgJ_some h0
    refine px_get rfl e1 e2 rfl ?_
    refine px_alu rfl rfl rfl ?_
    refine px_ld rfl rfl rfl rfl rfl ?_
    obtain ⟨t5, h0, h⟩ := xs_some h
    obtain ⟨fs, e1, e2⟩ := xgJ_some h0
    refine px_get rfl e1 e2 rfl ?_
    obtain ⟨t6, ph7, h0, h⟩ := xb_some h
    refine px_cS2 rfl rfl rfl rfl rfl rfl rfl (r_M_up h0 :) (fun _ _ q => nomatch q.2) (fun r ph' q => ?_)
    obtain ⟨rfl, q⟩ := q
    cases q
    refine px_goto rfl (by decide) rfl ?_
    refine px_forget (n := 0) (lv' := [_, _, _, _, _, _, _]) rfl ?_
    refine px_forget (n := 1) (lv' := [_, _, _, _, _, _, _]) rfl ?_
    exact (r_M_findTemplate_191 h :)
def f_M_findTemplate_155 (F : Nat) (k19 : Nat → Int32 → Int32 → px_H → Option (Unit × px_H)) (a0 : Nat) (a1 : Int32) (a2 : Int32) (ph : px_H) : Option (Unit × px_H) :=
  k19 a0 a1 (a2 + nI 1) ph
theorem r_M_findTemplate_155 {l : Launch} {g : px_G} {d F : Nat} {k19 : Nat → Int32 → Int32 → px_H → Option (Unit × px_H)} (hk19 : ∀ {a0 : Nat} {a1 : Int32} {a2 : Int32} {ph : px_H} {r : Unit} {ph' : px_H}, k19 a0 a1 a2 ph = some (r, ph') → PW l g (d + 3) m_M_findTemplate 19 [.ref a0, .int a1, .int a2, px_u, px_u, px_u, px_u] [] ph (px_qV r ph')) {a0 : Nat} {a1 : Int32} {a2 : Int32} {ph : px_H} {r : Unit} {ph' : px_H} (h : f_M_findTemplate_155 F k19 a0 a1 a2 ph = some (r, ph')) : PW l g (d + 3) m_M_findTemplate 155 [.ref a0, .int a1, .int a2, px_u, px_u, px_u, px_u] [] ph (px_qV r ph') := by
  unfold f_M_findTemplate_155 at h
  refine px_iinc (lv' := [_, _, _, _, _, _, _]) rfl rfl rfl rfl rfl rfl ?_
  refine px_goto rfl (by decide) rfl ?_
  exact (hk19 h :)
def f_M_findTemplate_152 (F : Nat) (k19 : Nat → Int32 → Int32 → px_H → Option (Unit × px_H)) (a0 : Nat) (a1 : Int32) (a2 : Int32) (s0 : Nat) (s1 : Int64) (ph : px_H) : Option (Unit × px_H) :=
  (xpJ ph 12 86 s0 s1).bind fun ph1 =>
  f_M_findTemplate_155 F k19 a0 a1 a2 ph1
theorem r_M_findTemplate_152 {l : Launch} {g : px_G} {d F : Nat} {k19 : Nat → Int32 → Int32 → px_H → Option (Unit × px_H)} (hk19 : ∀ {a0 : Nat} {a1 : Int32} {a2 : Int32} {ph : px_H} {r : Unit} {ph' : px_H}, k19 a0 a1 a2 ph = some (r, ph') → PW l g (d + 3) m_M_findTemplate 19 [.ref a0, .int a1, .int a2, px_u, px_u, px_u, px_u] [] ph (px_qV r ph')) {a0 : Nat} {a1 : Int32} {a2 : Int32} {s0 : Nat} {s1 : Int64} {ph : px_H} {r : Unit} {ph' : px_H} (h : f_M_findTemplate_152 F k19 a0 a1 a2 s0 s1 ph = some (r, ph')) : PW l g (d + 3) m_M_findTemplate 152 [.ref a0, .int a1, .int a2, px_u, px_u, px_u, px_u] [.long s1, .ref s0] ph (px_qV r ph') := by
  unfold f_M_findTemplate_152 at h
  obtain ⟨ph1, h0, h⟩ := xs_some h
  obtain ⟨fs, e1, e2, e3⟩ := xpJ_some h0
  subst e3
  refine px_put rfl e1 e2 trivial rfl ?_
  exact (r_M_findTemplate_155 @hk19 h :)
def f_M_findTemplate_102 (F : Nat) (k19 : Nat → Int32 → Int32 → px_H → Option (Unit × px_H)) (a0 : Nat) (a1 : Int32) (a2 : Int32) (a3 : Int64) (s0 : Nat) (s1 : Int64) (ph : px_H) : Option (Unit × px_H) :=
  (xpJ ph 12 84 s0 s1).bind fun ph1 =>
  (xpJ ph1 12 85 a0 a3).bind fun ph2 =>
  (xgR ph2 12 51 a0).bind fun t3 =>
  (xaI ph2 1 t3 a2).bind fun t4 =>
  (xo ph2 12 a0).bind fun _ =>
  xb (f_M_object F a0 t4 ph2) fun t5 ph6 =>
  (xgR ph6 12 54 a0).bind fun t7 =>
  (xaI ph6 1 t7 a2).bind fun t8 =>
  (xo ph6 12 a0).bind fun _ =>
  xb (f_M_align F a0 t5 t8 ph6) fun t9 ph10 =>
  (xgJ ph10 12 86 a0).bind fun t11 =>
  if t9 ≤ t11 then
    (xgJ ph10 12 86 a0).bind fun t12 =>
    f_M_findTemplate_152 F k19 a0 a1 a2 a0 t12 ph10
  else
    f_M_findTemplate_152 F k19 a0 a1 a2 a0 t9 ph10
theorem r_M_findTemplate_102 {l : Launch} {g : px_G} {d F : Nat} {k19 : Nat → Int32 → Int32 → px_H → Option (Unit × px_H)} (hk19 : ∀ {a0 : Nat} {a1 : Int32} {a2 : Int32} {ph : px_H} {r : Unit} {ph' : px_H}, k19 a0 a1 a2 ph = some (r, ph') → PW l g (d + 3) m_M_findTemplate 19 [.ref a0, .int a1, .int a2, px_u, px_u, px_u, px_u] [] ph (px_qV r ph')) {a0 : Nat} {a1 : Int32} {a2 : Int32} {a3 : Int64} {s0 : Nat} {s1 : Int64} {ph : px_H} {r : Unit} {ph' : px_H} (h : f_M_findTemplate_102 F k19 a0 a1 a2 a3 s0 s1 ph = some (r, ph')) : PW l g (d + 3) m_M_findTemplate 102 [.ref a0, .int a1, .int a2, .long a3, px_u, px_u, px_u] [.long s1, .ref s0] ph (px_qV r ph') := by
  unfold f_M_findTemplate_102 at h
  obtain ⟨ph1, h0, h⟩ := xs_some h
  obtain ⟨fs, e1, e2, e3⟩ := xpJ_some h0
  subst e3
  refine px_put rfl e1 e2 trivial rfl ?_
  refine px_ld rfl rfl rfl rfl rfl ?_
  refine px_ld rfl rfl rfl rfl rfl ?_
  obtain ⟨ph2, h0, h⟩ := xs_some h
  obtain ⟨fs, e1, e2, e3⟩ := xpJ_some h0
  subst e3
  refine px_put rfl e1 e2 trivial rfl ?_
  refine px_ld rfl rfl rfl rfl rfl ?_
  refine px_ld rfl rfl rfl rfl rfl ?_
  refine px_ld rfl rfl rfl rfl rfl ?_
  obtain ⟨t3, h0, h⟩ := xs_some h
  obtain ⟨fs, e1, e2⟩ := xgR_some h0
  refine px_get rfl e1 e2 rfl ?_
  refine px_ld rfl rfl rfl rfl rfl ?_
  obtain ⟨t4, h0, h⟩ := xs_some h
  obtain ⟨N, f, e1, e2, e3⟩ := xaI_some h0
  subst e3
  refine px_iald rfl e1 rfl e2 rfl ?_
  obtain ⟨fs, h0, h⟩ := xs_some h
  have e1 := xo_some h0
  obtain ⟨t5, ph6, h0, h⟩ := xb_some h
  refine px_cV1 rfl rfl e1 rfl rfl rfl rfl rfl rfl rfl (r_M_object h0 :) (fun _ _ q => nomatch q.2) (fun r ph' q => ?_)
  obtain ⟨rfl, q⟩ := q
  cases q
  refine px_ld rfl rfl rfl rfl rfl ?_
  obtain ⟨t7, h0, h⟩ := xs_some h
  obtain ⟨fs, e1, e2⟩ := xgR_some h0
  refine px_get rfl e1 e2 rfl ?_
  refine px_ld rfl rfl rfl rfl rfl ?_
  obtain ⟨t8, h0, h⟩ := xs_some h
  obtain ⟨N, f, e1, e2, e3⟩ := xaI_some h0
  subst e3
  refine px_iald rfl e1 rfl e2 rfl ?_
  obtain ⟨fs, h0, h⟩ := xs_some h
  have e1 := xo_some h0
  obtain ⟨t9, ph10, h0, h⟩ := xb_some h
  refine px_cV2 rfl rfl e1 rfl rfl rfl rfl rfl rfl rfl (r_M_align h0 :) (fun _ _ q => nomatch q.2) (fun r ph' q => ?_)
  obtain ⟨rfl, q⟩ := q
  cases q
  refine px_st (lv' := [_, _, _, _, _, _, _]) rfl rfl rfl rfl rfl rfl rfl ?_
  refine px_ld rfl rfl rfl rfl rfl ?_
  refine px_ld rfl rfl rfl rfl rfl ?_
  refine px_ld rfl rfl rfl rfl rfl ?_
  obtain ⟨t11, h0, h⟩ := xs_some h
  obtain ⟨fs, e1, e2⟩ := xgJ_some h0
  refine px_get rfl e1 e2 rfl ?_
  refine px_alu rfl rfl rfl ?_
  refine px_ifle rfl (by decide) rfl (fun hc => ?_) (fun hc => ?_)
  · replace h := (if_pos ((lg_cmp_le _ _).mp hc)).symm.trans h
    refine px_ld rfl rfl rfl rfl rfl ?_
    obtain ⟨t12, h0, h⟩ := xs_some h
    obtain ⟨fs, e1, e2⟩ := xgJ_some h0
    refine px_get rfl e1 e2 rfl ?_
    refine px_forget (n := 3) (lv' := [_, _, _, _, _, _, _]) rfl ?_
    refine px_forget (n := 5) (lv' := [_, _, _, _, _, _, _]) rfl ?_
    exact (r_M_findTemplate_152 @hk19 h :)
  · replace h := (if_neg (fun q => hc ((lg_cmp_le _ _).mpr q))).symm.trans h
    refine px_ld rfl rfl rfl rfl rfl ?_
    refine px_goto rfl (by decide) rfl ?_
    refine px_forget (n := 3) (lv' := [_, _, _, _, _, _, _]) rfl ?_
    refine px_forget (n := 5) (lv' := [_, _, _, _, _, _, _]) rfl ?_
    exact (r_M_findTemplate_152 @hk19 h :)
def f_M_findTemplate_58 (F : Nat) (k19 : Nat → Int32 → Int32 → px_H → Option (Unit × px_H)) (a0 : Nat) (a2 : Int32) (s0 : Nat) (s1 : Int64) (ph : px_H) : Option (Unit × px_H) :=
  (xpJ ph 12 83 s0 s1).bind fun ph1 =>
  (xgR ph1 12 57 a0).bind fun t2 =>
  (xaJ ph1 2 t2 a2).bind fun t3 =>
  (xgR ph1 12 56 a0).bind fun t4 =>
  (xaI ph1 1 t4 a2).bind fun t5 =>
  (xgJ ph1 12 83 a0).bind fun t6 =>
  (xgR ph1 12 55 a0).bind fun t7 =>
  (xaI ph1 1 t7 a2).bind fun t8 =>
  if t8 = (nI 4) then
    f_M_findTemplate_102 F k19 a0 (nI 1) a2 ((t3 + t5.toInt64) - t6) a0 ((t3 + t5.toInt64) - t6) ph1
  else
    (xgJ ph1 12 84 a0).bind fun t9 =>
    f_M_findTemplate_102 F k19 a0 (nI 1) a2 ((t3 + t5.toInt64) - t6) a0 t9 ph1
theorem r_M_findTemplate_58 {l : Launch} {g : px_G} {d F : Nat} {k19 : Nat → Int32 → Int32 → px_H → Option (Unit × px_H)} (hk19 : ∀ {a0 : Nat} {a1 : Int32} {a2 : Int32} {ph : px_H} {r : Unit} {ph' : px_H}, k19 a0 a1 a2 ph = some (r, ph') → PW l g (d + 3) m_M_findTemplate 19 [.ref a0, .int a1, .int a2, px_u, px_u, px_u, px_u] [] ph (px_qV r ph')) {a0 : Nat} {a2 : Int32} {s0 : Nat} {s1 : Int64} {ph : px_H} {r : Unit} {ph' : px_H} (h : f_M_findTemplate_58 F k19 a0 a2 s0 s1 ph = some (r, ph')) : PW l g (d + 3) m_M_findTemplate 58 [.ref a0, px_u, .int a2, px_u, px_u, px_u, px_u] [.long s1, .ref s0] ph (px_qV r ph') := by
  unfold f_M_findTemplate_58 at h
  obtain ⟨ph1, h0, h⟩ := xs_some h
  obtain ⟨fs, e1, e2, e3⟩ := xpJ_some h0
  subst e3
  refine px_put rfl e1 e2 trivial rfl ?_
  refine px_ic (k := 1) rfl rfl rfl ?_
  refine px_st (lv' := [_, _, _, _, _, _, _]) rfl rfl rfl rfl rfl rfl rfl ?_
  refine px_ld rfl rfl rfl rfl rfl ?_
  obtain ⟨t2, h0, h⟩ := xs_some h
  obtain ⟨fs, e1, e2⟩ := xgR_some h0
  refine px_get rfl e1 e2 rfl ?_
  refine px_ld rfl rfl rfl rfl rfl ?_
  obtain ⟨t3, h0, h⟩ := xs_some h
  obtain ⟨N, f, e1, e2, e3⟩ := xaJ_some h0
  subst e3
  refine px_lald rfl e1 rfl e2 rfl ?_
  refine px_ld rfl rfl rfl rfl rfl ?_
  obtain ⟨t4, h0, h⟩ := xs_some h
  obtain ⟨fs, e1, e2⟩ := xgR_some h0
  refine px_get rfl e1 e2 rfl ?_
  refine px_ld rfl rfl rfl rfl rfl ?_
  obtain ⟨t5, h0, h⟩ := xs_some h
  obtain ⟨N, f, e1, e2, e3⟩ := xaI_some h0
  subst e3
  refine px_iald rfl e1 rfl e2 rfl ?_
  refine px_alu rfl rfl rfl ?_
  refine px_alu rfl rfl rfl ?_
  refine px_ld rfl rfl rfl rfl rfl ?_
  obtain ⟨t6, h0, h⟩ := xs_some h
  obtain ⟨fs, e1, e2⟩ := xgJ_some h0
  refine px_get rfl e1 e2 rfl ?_
  refine px_alu rfl rfl rfl ?_
  refine px_st (lv' := [_, _, _, _, _, _, _]) rfl rfl rfl rfl rfl rfl rfl ?_
  refine px_ld rfl rfl rfl rfl rfl ?_
  refine px_ld rfl rfl rfl rfl rfl ?_
  obtain ⟨t7, h0, h⟩ := xs_some h
  obtain ⟨fs, e1, e2⟩ := xgR_some h0
  refine px_get rfl e1 e2 rfl ?_
  refine px_ld rfl rfl rfl rfl rfl ?_
  obtain ⟨t8, h0, h⟩ := xs_some h
  obtain ⟨N, f, e1, e2, e3⟩ := xaI_some h0
  subst e3
  refine px_iald rfl e1 rfl e2 rfl ?_
  refine px_ic (k := 4) rfl rfl rfl ?_
  refine px_icne rfl (by decide) rfl (fun hc => ?_) (fun hc => ?_)
  · replace h := (if_neg hc).symm.trans h
    refine px_ld rfl rfl rfl rfl rfl ?_
    obtain ⟨t9, h0, h⟩ := xs_some h
    obtain ⟨fs, e1, e2⟩ := xgJ_some h0
    refine px_get rfl e1 e2 rfl ?_
    exact (r_M_findTemplate_102 @hk19 h :)
  · replace h := (if_pos hc).symm.trans h
    refine px_ld rfl rfl rfl rfl rfl ?_
    refine px_goto rfl (by decide) rfl ?_
    exact (r_M_findTemplate_102 @hk19 h :)
def f_M_findTemplate_19 (F : Nat) : Nat → Nat → Int32 → Int32 → px_H → Option (Unit × px_H)
  | 0, _, _, _, _ => none
  | n + 1, a0, a1, a2, ph =>
    (xgI ph 12 50 a0).bind fun t1 =>
    if t1 ≤ a2 then
      f_M_findTemplate_161 F a0 a1 ph
    else
      (xgR ph 12 55 a0).bind fun t2 =>
      (xaI ph 1 t2 a2).bind fun t3 =>
      if (nI 4) ≤ t3 then
        if a1 = 0 then
          (xgR ph 12 57 a0).bind fun t4 =>
          (xaJ ph 2 t4 a2).bind fun t5 =>
          f_M_findTemplate_58 F (f_M_findTemplate_19 F n) a0 a2 a0 t5 ph
        else
          (xgJ ph 12 83 a0).bind fun t6 =>
          f_M_findTemplate_58 F (f_M_findTemplate_19 F n) a0 a2 a0 t6 ph
      else
        f_M_findTemplate_155 F (f_M_findTemplate_19 F n) a0 a1 a2 ph
theorem r_M_findTemplate_19 {l : Launch} {g : px_G} {d F : Nat} : ∀ (n : Nat) {a0 : Nat} {a1 : Int32} {a2 : Int32} {ph : px_H} {r : Unit} {ph' : px_H}, f_M_findTemplate_19 F n a0 a1 a2 ph = some (r, ph') → PW l g (d + 3) m_M_findTemplate 19 [.ref a0, .int a1, .int a2, px_u, px_u, px_u, px_u] [] ph (px_qV r ph') := by
  intro n
  induction n with
  | zero => intro _ _ _ _ _ _ h; cases h
  | succ n ih =>
    intro a0 a1 a2 ph r ph' h
    unfold f_M_findTemplate_19 at h
    refine px_ld rfl rfl rfl rfl rfl ?_
    refine px_ld rfl rfl rfl rfl rfl ?_
    obtain ⟨t1, h0, h⟩ := xs_some h
    obtain ⟨fs, e1, e2⟩ := xgI_some h0
    refine px_get rfl e1 e2 rfl ?_
    refine px_icge rfl (by decide) rfl (fun hc => ?_) (fun hc => ?_)
    · replace h := (if_pos hc).symm.trans h
      refine px_forget (n := 2) (lv' := [_, _, _, _, _, _, _]) rfl ?_
      exact (r_M_findTemplate_161 h :)
    · replace h := (if_neg hc).symm.trans h
      refine px_ld rfl rfl rfl rfl rfl ?_
      obtain ⟨t2, h0, h⟩ := xs_some h
      obtain ⟨fs, e1, e2⟩ := xgR_some h0
      refine px_get rfl e1 e2 rfl ?_
      refine px_ld rfl rfl rfl rfl rfl ?_
      obtain ⟨t3, h0, h⟩ := xs_some h
      obtain ⟨N, f, e1, e2, e3⟩ := xaI_some h0
      subst e3
      refine px_iald rfl e1 rfl e2 rfl ?_
      refine px_ic (k := 4) rfl rfl rfl ?_
      refine px_icge rfl (by decide) rfl (fun hc => ?_) (fun hc => ?_)
      · replace h := (if_pos hc).symm.trans h
        refine px_ld rfl rfl rfl rfl rfl ?_
        refine px_ld rfl rfl rfl rfl rfl ?_
        refine px_ifeq rfl (by decide) rfl (fun hc => ?_) (fun hc => ?_)
        · replace h := (if_pos hc).symm.trans h
          refine px_ld rfl rfl rfl rfl rfl ?_
          obtain ⟨t4, h0, h⟩ := xs_some h
          obtain ⟨fs, e1, e2⟩ := xgR_some h0
          refine px_get rfl e1 e2 rfl ?_
          refine px_ld rfl rfl rfl rfl rfl ?_
          obtain ⟨t5, h0, h⟩ := xs_some h
          obtain ⟨N, f, e1, e2, e3⟩ := xaJ_some h0
          subst e3
          refine px_lald rfl e1 rfl e2 rfl ?_
          refine px_forget (n := 1) (lv' := [_, _, _, _, _, _, _]) rfl ?_
          exact (r_M_findTemplate_58 @ih h :)
        · replace h := (if_neg hc).symm.trans h
          refine px_ld rfl rfl rfl rfl rfl ?_
          obtain ⟨t6, h0, h⟩ := xs_some h
          obtain ⟨fs, e1, e2⟩ := xgJ_some h0
          refine px_get rfl e1 e2 rfl ?_
          refine px_goto rfl (by decide) rfl ?_
          refine px_forget (n := 1) (lv' := [_, _, _, _, _, _, _]) rfl ?_
          exact (r_M_findTemplate_58 @ih h :)
      · replace h := (if_neg hc).symm.trans h
        refine px_goto rfl (by decide) rfl ?_
        exact (r_M_findTemplate_155 @ih h :)
def f_M_findTemplate (F : Nat) (a0 : Nat) (ph : px_H) : Option (Unit × px_H) :=
  (xpJ ph 12 84 a0 (lN 0)).bind fun ph1 =>
  (xpJ ph1 12 85 a0 (lN 0)).bind fun ph2 =>
  (xpJ ph2 12 86 a0 (lN 1)).bind fun ph3 =>
  f_M_findTemplate_19 F F a0 (nI 0) (nI 0) ph3
theorem r_M_findTemplate {l : Launch} {g : px_G} {d F : Nat} {a0 : Nat} {ph : px_H} {r : Unit} {ph' : px_H} (h : f_M_findTemplate F a0 ph = some (r, ph')) : PW l g (d + 3) m_M_findTemplate 0 [.ref a0, px_u, px_u, px_u, px_u, px_u, px_u] [] ph (px_qV r ph') := by
  unfold f_M_findTemplate at h
  refine px_ic (k := 0) rfl rfl rfl ?_
  refine px_st (lv' := [_, _, _, _, _, _, _]) rfl rfl rfl rfl rfl rfl rfl ?_
  refine px_ld rfl rfl rfl rfl rfl ?_
  refine px_alu rfl rfl rfl ?_
  obtain ⟨ph1, h0, h⟩ := xs_some h
  obtain ⟨fs, e1, e2, e3⟩ := xpJ_some h0
  subst e3
  refine px_put rfl e1 e2 trivial rfl ?_
  refine px_ld rfl rfl rfl rfl rfl ?_
  refine px_alu rfl rfl rfl ?_
  obtain ⟨ph2, h0, h⟩ := xs_some h
  obtain ⟨fs, e1, e2, e3⟩ := xpJ_some h0
  subst e3
  refine px_put rfl e1 e2 trivial rfl ?_
  refine px_ld rfl rfl rfl rfl rfl ?_
  refine px_alu rfl rfl rfl ?_
  obtain ⟨ph3, h0, h⟩ := xs_some h
  obtain ⟨fs, e1, e2, e3⟩ := xpJ_some h0
  subst e3
  refine px_put rfl e1 e2 trivial rfl ?_
  refine px_ic (k := 0) rfl rfl rfl ?_
  refine px_st (lv' := [_, _, _, _, _, _, _]) rfl rfl rfl rfl rfl rfl rfl ?_
  exact (r_M_findTemplate_19 _ h :)
def f_M_ownAddress_58 (F : Nat) (s0 : Int64) (ph : px_H) : Option (Int64 × px_H) :=
  some (s0, ph)
theorem r_M_ownAddress_58 {l : Launch} {g : px_G} {d F : Nat} {s0 : Int64} {ph : px_H} {r : Int64} {ph' : px_H} (h : f_M_ownAddress_58 F s0 ph = some (r, ph')) : PW l g (d + 0) m_M_ownAddress 58 [px_u, px_u] [.long s0] ph (px_qJ r ph') := by
  unfold f_M_ownAddress_58 at h
  cases h
  exact px_lret rfl rfl rfl ⟨rfl, rfl⟩
def f_M_ownAddress (F : Nat) (a0 : Nat) (a1 : Int32) (ph : px_H) : Option (Int64 × px_H) :=
  if a1 = (nI 1) then
    (xgJ ph 12 80 a0).bind fun t10 =>
    f_M_ownAddress_58 F t10 ph
  else
    if a1 = (nI 2) then
      (xgR ph 12 61 a0).bind fun t6 =>
      (xaJ ph 2 t6 (nI 2)).bind fun t7 =>
      (xgR ph 12 62 a0).bind fun t8 =>
      (xaJ ph 2 t8 (nI 2)).bind fun t9 =>
      f_M_ownAddress_58 F (t7 + t9) ph
    else
      if a1 = (nI 3) then
        (xgJ ph 12 81 a0).bind fun t5 =>
        f_M_ownAddress_58 F t5 ph
      else
        (xgR ph 12 61 a0).bind fun t1 =>
        (xaJ ph 2 t1 (nI 2)).bind fun t2 =>
        (xgR ph 12 63 a0).bind fun t3 =>
        (xaJ ph 2 t3 (nI 2)).bind fun t4 =>
        f_M_ownAddress_58 F (t2 + t4) ph
theorem r_M_ownAddress {l : Launch} {g : px_G} {d F : Nat} {a0 : Nat} {a1 : Int32} {ph : px_H} {r : Int64} {ph' : px_H} (h : f_M_ownAddress F a0 a1 ph = some (r, ph')) : PW l g (d + 0) m_M_ownAddress 0 [.ref a0, .int a1] [] ph (px_qJ r ph') := by
  unfold f_M_ownAddress at h
  refine px_ld rfl rfl rfl rfl rfl ?_
  refine px_ic (k := 1) rfl rfl rfl ?_
  refine px_icne rfl rfl rfl (fun hc => ?_) (fun hc => ?_)
  · replace h := (if_neg hc).symm.trans h
    refine px_ld rfl rfl rfl rfl rfl ?_
    refine px_ic (k := 2) rfl rfl rfl ?_
    refine px_icne rfl rfl rfl (fun hc => ?_) (fun hc => ?_)
    · replace h := (if_neg hc).symm.trans h
      refine px_ld rfl rfl rfl rfl rfl ?_
      refine px_ic (k := 3) rfl rfl rfl ?_
      refine px_icne rfl rfl rfl (fun hc => ?_) (fun hc => ?_)
      · replace h := (if_neg hc).symm.trans h
        refine px_ld rfl rfl rfl rfl rfl ?_
        obtain ⟨t1, h0, h⟩ := xs_some h
        obtain ⟨fs, e1, e2⟩ := xgR_some h0
        refine px_get rfl e1 e2 rfl ?_
        refine px_ic (k := 2) rfl rfl rfl ?_
        obtain ⟨t2, h0, h⟩ := xs_some h
        obtain ⟨N, f, e1, e2, e3⟩ := xaJ_some h0
        subst e3
        refine px_lald rfl e1 rfl e2 rfl ?_
        refine px_ld rfl rfl rfl rfl rfl ?_
        obtain ⟨t3, h0, h⟩ := xs_some h
        obtain ⟨fs, e1, e2⟩ := xgR_some h0
        refine px_get rfl e1 e2 rfl ?_
        refine px_ic (k := 2) rfl rfl rfl ?_
        obtain ⟨t4, h0, h⟩ := xs_some h
        obtain ⟨N, f, e1, e2, e3⟩ := xaJ_some h0
        subst e3
        refine px_lald rfl e1 rfl e2 rfl ?_
        refine px_alu rfl rfl rfl ?_
        refine px_forget (n := 0) (lv' := [_, _]) rfl ?_
        refine px_forget (n := 1) (lv' := [_, _]) rfl ?_
        exact (r_M_ownAddress_58 h :)
      · replace h := (if_pos hc).symm.trans h
        refine px_ld rfl rfl rfl rfl rfl ?_
        obtain ⟨t5, h0, h⟩ := xs_some h
        obtain ⟨fs, e1, e2⟩ := xgJ_some h0
        refine px_get rfl e1 e2 rfl ?_
        refine px_goto rfl rfl rfl ?_
        refine px_forget (n := 0) (lv' := [_, _]) rfl ?_
        refine px_forget (n := 1) (lv' := [_, _]) rfl ?_
        exact (r_M_ownAddress_58 h :)
    · replace h := (if_pos hc).symm.trans h
      refine px_ld rfl rfl rfl rfl rfl ?_
      obtain ⟨t6, h0, h⟩ := xs_some h
      obtain ⟨fs, e1, e2⟩ := xgR_some h0
      refine px_get rfl e1 e2 rfl ?_
      refine px_ic (k := 2) rfl rfl rfl ?_
      obtain ⟨t7, h0, h⟩ := xs_some h
      obtain ⟨N, f, e1, e2, e3⟩ := xaJ_some h0
      subst e3
      refine px_lald rfl e1 rfl e2 rfl ?_
      refine px_ld rfl rfl rfl rfl rfl ?_
      obtain ⟨t8, h0, h⟩ := xs_some h
      obtain ⟨fs, e1, e2⟩ := xgR_some h0
      refine px_get rfl e1 e2 rfl ?_
      refine px_ic (k := 2) rfl rfl rfl ?_
      obtain ⟨t9, h0, h⟩ := xs_some h
      obtain ⟨N, f, e1, e2, e3⟩ := xaJ_some h0
      subst e3
      refine px_lald rfl e1 rfl e2 rfl ?_
      refine px_alu rfl rfl rfl ?_
      refine px_goto rfl rfl rfl ?_
      refine px_forget (n := 0) (lv' := [_, _]) rfl ?_
      refine px_forget (n := 1) (lv' := [_, _]) rfl ?_
      exact (r_M_ownAddress_58 h :)
  · replace h := (if_pos hc).symm.trans h
    refine px_ld rfl rfl rfl rfl rfl ?_
    obtain ⟨t10, h0, h⟩ := xs_some h
    obtain ⟨fs, e1, e2⟩ := xgJ_some h0
    refine px_get rfl e1 e2 rfl ?_
    refine px_goto rfl rfl rfl ?_
    refine px_forget (n := 0) (lv' := [_, _]) rfl ?_
    refine px_forget (n := 1) (lv' := [_, _]) rfl ?_
    exact (r_M_ownAddress_58 h :)
def f_M_own_39 (F : Nat) (a0 : Nat) (a2 : Int32) (a3 : Int32) (ph : px_H) : Option (Int64 × px_H) :=
  (xo ph 12 a0).bind fun _ =>
  xb (f_M_value F a0 a3 a2 ph) fun t1 ph2 =>
  some (t1, ph2)
theorem r_M_own_39 {l : Launch} {g : px_G} {d F : Nat} {a0 : Nat} {a2 : Int32} {a3 : Int32} {ph : px_H} {r : Int64} {ph' : px_H} (h : f_M_own_39 F a0 a2 a3 ph = some (r, ph')) : PW l g (d + 7) m_M_own 39 [.ref a0, px_u, .int a2, .int a3, px_u] [] ph (px_qJ r ph') := by
  unfold f_M_own_39 at h
  refine px_ld rfl rfl rfl rfl rfl ?_
  refine px_ld rfl rfl rfl rfl rfl ?_
  refine px_ld rfl rfl rfl rfl rfl ?_
  obtain ⟨fs, h0, h⟩ := xs_some h
  have e1 := xo_some h0
  obtain ⟨t1, ph2, h0, h⟩ := xb_some h
  refine px_cV2 rfl rfl e1 rfl rfl rfl rfl rfl rfl rfl (r_M_value h0 :) (fun _ _ q => nomatch q.2) (fun r ph' q => ?_)
  obtain ⟨rfl, q⟩ := q
  cases q
  cases h
  exact px_lret rfl rfl rfl ⟨rfl, rfl⟩
def f_M_own (F : Nat) (a0 : Nat) (a1 : Int32) (a2 : Int32) (ph : px_H) : Option (Int64 × px_H) :=
  (xo ph 12 a0).bind fun _ =>
  xb (f_M_object F a0 a1 ph) fun t1 ph2 =>
  (xo ph2 12 a0).bind fun _ =>
  xb (f_M_whereNow F a0 a1 a2 ph2) fun t3 ph4 =>
  if t3 = 0 then
    some (lN 0, ph4)
  else
    if t3 = ((65521 : Int32)) then
      f_M_own_39 F a0 a2 t1 ph4
    else
      (xo ph4 12 a0).bind fun _ =>
      xb (f_M_isKept F a0 t1 t3 ph4) fun t5 ph6 =>
      if t5 = 0 then
        f_M_own_39 F a0 a2 t1 ph6
      else
        (xo ph6 12 a0).bind fun _ =>
        xb (f_M_stays F a0 a1 t3 ph6) fun t7 ph8 =>
        if t7 = 0 then
          some (lN 0, ph8)
        else
          (xo ph8 12 a0).bind fun _ =>
          xb (f_M_isStrings F a0 t1 t3 ph8) fun t9 ph10 =>
          if t9 = 0 then
            (xgR ph10 12 58 a0).bind fun t11 =>
            (xaJ ph10 2 t11 (((nI 24) * a1) + t3)).bind fun t12 =>
            (xo ph10 12 a0).bind fun _ =>
            xb (f_M_value F a0 t1 a2 ph10) fun t13 ph14 =>
            some (t12 + t13, ph14)
          else
            (xo ph10 12 a0).bind fun _ =>
            xb (f_M_value F a0 t1 a2 ph10) fun t15 ph16 =>
            (xo ph16 12 a0).bind fun _ =>
            xb (f_M_byteAddress F a0 t1 t3 t15 ph16) fun t17 ph18 =>
            some (t17, ph18)
theorem r_M_own {l : Launch} {g : px_G} {d F : Nat} {a0 : Nat} {a1 : Int32} {a2 : Int32} {ph : px_H} {r : Int64} {ph' : px_H} (h : f_M_own F a0 a1 a2 ph = some (r, ph')) : PW l g (d + 7) m_M_own 0 [.ref a0, .int a1, .int a2, px_u, px_u] [] ph (px_qJ r ph') := by
  unfold f_M_own at h
  refine px_ld rfl rfl rfl rfl rfl ?_
  refine px_ld rfl rfl rfl rfl rfl ?_
  obtain ⟨fs, h0, h⟩ := xs_some h
  have e1 := xo_some h0
  obtain ⟨t1, ph2, h0, h⟩ := xb_some h
  refine px_cV1 rfl rfl e1 rfl rfl rfl rfl rfl rfl rfl (r_M_object h0 :) (fun _ _ q => nomatch q.2) (fun r ph' q => ?_)
  obtain ⟨rfl, q⟩ := q
  cases q
  refine px_st (lv' := [_, _, _, _, _]) rfl rfl rfl rfl rfl rfl rfl ?_
  refine px_ld rfl rfl rfl rfl rfl ?_
  refine px_ld rfl rfl rfl rfl rfl ?_
  refine px_ld rfl rfl rfl rfl rfl ?_
  obtain ⟨fs, h0, h⟩ := xs_some h
  have e1 := xo_some h0
  obtain ⟨t3, ph4, h0, h⟩ := xb_some h
  refine px_cV2 rfl rfl e1 rfl rfl rfl rfl rfl rfl rfl (r_M_whereNow h0 :) (fun _ _ q => nomatch q.2) (fun r ph' q => ?_)
  obtain ⟨rfl, q⟩ := q
  cases q
  refine px_st (lv' := [_, _, _, _, _]) rfl rfl rfl rfl rfl rfl rfl ?_
  refine px_ld rfl rfl rfl rfl rfl ?_
  refine px_ifne rfl (by decide) rfl (fun hc => ?_) (fun hc => ?_)
  · replace h := (if_neg hc).symm.trans h
    refine px_ld rfl rfl rfl rfl rfl ?_
    refine px_ldcw rfl (by decide) rfl rfl ?_
    refine px_iceq rfl (by decide) rfl (fun hc => ?_) (fun hc => ?_)
    · replace h := (if_pos hc).symm.trans h
      refine px_forget (n := 1) (lv' := [_, _, _, _, _]) rfl ?_
      refine px_forget (n := 4) (lv' := [_, _, _, _, _]) rfl ?_
      exact (r_M_own_39 h :)
    · replace h := (if_neg hc).symm.trans h
      refine px_ld rfl rfl rfl rfl rfl ?_
      refine px_ld rfl rfl rfl rfl rfl ?_
      refine px_ld rfl rfl rfl rfl rfl ?_
      obtain ⟨fs, h0, h⟩ := xs_some h
      have e1 := xo_some h0
      obtain ⟨t5, ph6, h0, h⟩ := xb_some h
      refine px_cV2 rfl rfl e1 rfl rfl rfl rfl rfl rfl rfl (r_M_isKept h0 :) (fun _ _ q => nomatch q.2) (fun r ph' q => ?_)
      obtain ⟨rfl, q⟩ := q
      cases q
      refine px_ifne rfl (by decide) rfl (fun hc => ?_) (fun hc => ?_)
      · replace h := (if_neg hc).symm.trans h
        refine px_ld rfl rfl rfl rfl rfl ?_
        refine px_ld rfl rfl rfl rfl rfl ?_
        refine px_ld rfl rfl rfl rfl rfl ?_
        obtain ⟨fs, h0, h⟩ := xs_some h
        have e1 := xo_some h0
        obtain ⟨t7, ph8, h0, h⟩ := xb_some h
        refine px_cV2 rfl rfl e1 rfl rfl rfl rfl rfl rfl rfl (r_M_stays h0 :) (fun _ _ q => nomatch q.2) (fun r ph' q => ?_)
        obtain ⟨rfl, q⟩ := q
        cases q
        refine px_ifne rfl (by decide) rfl (fun hc => ?_) (fun hc => ?_)
        · replace h := (if_neg hc).symm.trans h
          refine px_ld rfl rfl rfl rfl rfl ?_
          refine px_ld rfl rfl rfl rfl rfl ?_
          refine px_ld rfl rfl rfl rfl rfl ?_
          obtain ⟨fs, h0, h⟩ := xs_some h
          have e1 := xo_some h0
          obtain ⟨t9, ph10, h0, h⟩ := xb_some h
          refine px_cV2 rfl rfl e1 rfl rfl rfl rfl rfl rfl rfl (r_M_isStrings h0 :) (fun _ _ q => nomatch q.2) (fun r ph' q => ?_)
          obtain ⟨rfl, q⟩ := q
          cases q
          refine px_ifeq rfl (by decide) rfl (fun hc => ?_) (fun hc => ?_)
          · replace h := (if_pos hc).symm.trans h
            refine px_ld rfl rfl rfl rfl rfl ?_
            obtain ⟨t11, h0, h⟩ := xs_some h
            obtain ⟨fs, e1, e2⟩ := xgR_some h0
            refine px_get rfl e1 e2 rfl ?_
            refine px_ic (k := 24) rfl rfl rfl ?_
            refine px_ld rfl rfl rfl rfl rfl ?_
            refine px_alu rfl rfl rfl ?_
            refine px_ld rfl rfl rfl rfl rfl ?_
            refine px_alu rfl rfl rfl ?_
            obtain ⟨t12, h0, h⟩ := xs_some h
            obtain ⟨N, f, e1, e2, e3⟩ := xaJ_some h0
            subst e3
            refine px_lald rfl e1 rfl e2 rfl ?_
            refine px_ld rfl rfl rfl rfl rfl ?_
            refine px_ld rfl rfl rfl rfl rfl ?_
            refine px_ld rfl rfl rfl rfl rfl ?_
            obtain ⟨fs, h0, h⟩ := xs_some h
            have e1 := xo_some h0
            obtain ⟨t13, ph14, h0, h⟩ := xb_some h
            refine px_cV2 rfl rfl e1 rfl rfl rfl rfl rfl rfl rfl (r_M_value h0 :) (fun _ _ q => nomatch q.2) (fun r ph' q => ?_)
            obtain ⟨rfl, q⟩ := q
            cases q
            refine px_alu rfl rfl rfl ?_
            cases h
            exact px_lret rfl rfl rfl ⟨rfl, rfl⟩
          · replace h := (if_neg hc).symm.trans h
            refine px_ld rfl rfl rfl rfl rfl ?_
            refine px_ld rfl rfl rfl rfl rfl ?_
            refine px_ld rfl rfl rfl rfl rfl ?_
            refine px_ld rfl rfl rfl rfl rfl ?_
            refine px_ld rfl rfl rfl rfl rfl ?_
            refine px_ld rfl rfl rfl rfl rfl ?_
            obtain ⟨fs, h0, h⟩ := xs_some h
            have e1 := xo_some h0
            obtain ⟨t15, ph16, h0, h⟩ := xb_some h
            refine px_cV2 rfl rfl e1 rfl rfl rfl rfl rfl rfl rfl (r_M_value h0 :) (fun _ _ q => nomatch q.2) (fun r ph' q => ?_)
            obtain ⟨rfl, q⟩ := q
            cases q
            obtain ⟨fs, h0, h⟩ := xs_some h
            have e1 := xo_some h0
            obtain ⟨t17, ph18, h0, h⟩ := xb_some h
            refine px_cV3 rfl rfl e1 rfl rfl rfl rfl rfl rfl rfl (r_M_byteAddress h0 :) (fun _ _ q => nomatch q.2) (fun r ph' q => ?_)
            obtain ⟨rfl, q⟩ := q
            cases q
            cases h
            exact px_lret rfl rfl rfl ⟨rfl, rfl⟩
        · replace h := (if_pos hc).symm.trans h
          refine px_alu rfl rfl rfl ?_
          cases h
          exact px_lret rfl rfl rfl ⟨rfl, rfl⟩
      · replace h := (if_pos hc).symm.trans h
        refine px_forget (n := 1) (lv' := [_, _, _, _, _]) rfl ?_
        refine px_forget (n := 4) (lv' := [_, _, _, _, _]) rfl ?_
        exact (r_M_own_39 h :)
  · replace h := (if_pos hc).symm.trans h
    refine px_alu rfl rfl rfl ?_
    cases h
    exact px_lret rfl rfl rfl ⟨rfl, rfl⟩
def f_M_layout_281 (F : Nat) (ph : px_H) : Option (Unit × px_H) :=
  some ((), ph)
theorem r_M_layout_281 {l : Launch} {g : px_G} {d F : Nat} {ph : px_H} {r : Unit} {ph' : px_H} (h : f_M_layout_281 F ph = some (r, ph')) : PW l g (d + 8) m_M_layout 281 [px_u, px_u, px_u, px_u] [] ph (px_qV r ph') := by
  unfold f_M_layout_281 at h
  cases h
  exact px_vret rfl rfl rfl ⟨rfl, rfl⟩
def f_M_layout_274 (F : Nat) (k173 : Nat → Int32 → px_H → Option (Unit × px_H)) (a0 : Nat) (a3 : Int32) (s0 : Nat) (s1 : Int32) (s2 : Int64) (ph : px_H) : Option (Unit × px_H) :=
  (xsJ ph 2 s0 s1 s2).bind fun ph1 =>
  k173 a0 (a3 + nI 1) ph1
theorem r_M_layout_274 {l : Launch} {g : px_G} {d F : Nat} {k173 : Nat → Int32 → px_H → Option (Unit × px_H)} (hk173 : ∀ {a0 : Nat} {a3 : Int32} {ph : px_H} {r : Unit} {ph' : px_H}, k173 a0 a3 ph = some (r, ph') → PW l g (d + 8) m_M_layout 173 [.ref a0, px_u, px_u, .int a3] [] ph (px_qV r ph')) {a0 : Nat} {a3 : Int32} {s0 : Nat} {s1 : Int32} {s2 : Int64} {ph : px_H} {r : Unit} {ph' : px_H} (h : f_M_layout_274 F k173 a0 a3 s0 s1 s2 ph = some (r, ph')) : PW l g (d + 8) m_M_layout 274 [.ref a0, px_u, px_u, .int a3] [.long s2, .int s1, .ref s0] ph (px_qV r ph') := by
  unfold f_M_layout_274 at h
  obtain ⟨ph1, h0, h⟩ := xs_some h
  obtain ⟨N, f, e1, e2, e3⟩ := xsJ_some h0
  subst e3
  refine px_last rfl e1 rfl e2 rfl ?_
  refine px_iinc (lv' := [_, _, _, _]) rfl rfl rfl rfl rfl rfl ?_
  refine px_goto rfl (by decide) rfl ?_
  exact (hk173 h :)
def f_M_layout_173 (F : Nat) : Nat → Nat → Int32 → px_H → Option (Unit × px_H)
  | 0, _, _, _ => none
  | n + 1, a0, a3, ph =>
    (xgI ph 12 20 a0).bind fun t1 =>
    if t1 ≤ a3 then
      f_M_layout_281 F ph
    else
      (xgR ph 12 29 a0).bind fun t2 =>
      (xgR ph 12 23 a0).bind fun t3 =>
      (xaI ph 1 t3 a3).bind fun t4 =>
      if t4 = (nI 2) then
        (xgR ph 12 29 a0).bind fun t23 =>
        (xaJ ph 2 t23 a3).bind fun t24 =>
        f_M_layout_274 F (f_M_layout_173 F n) a0 a3 t2 a3 t24 ph
      else
        (xgR ph 12 23 a0).bind fun t5 =>
        (xaI ph 1 t5 a3).bind fun t6 =>
        if t6 = (nI 4) then
          (xgR ph 12 73 a0).bind fun t19 =>
          (xaI ph 1 t19 a3).bind fun t20 =>
          (xo ph 12 a0).bind fun _ =>
          xb (f_M_ownAddress F a0 t20 ph) fun t21 ph22 =>
          f_M_layout_274 F (f_M_layout_173 F n) a0 a3 t2 a3 t21 ph22
        else
          (xgR ph 12 23 a0).bind fun t7 =>
          (xaI ph 1 t7 a3).bind fun t8 =>
          if t8 = 0 then
            f_M_layout_274 F (f_M_layout_173 F n) a0 a3 t2 a3 (lN 0) ph
          else
            (xo ph 12 a0).bind fun _ =>
            xb (f_M_isGiven F a0 a3 ph) fun t9 ph10 =>
            if t9 = 0 then
              (xgR ph10 12 24 a0).bind fun t11 =>
              (xaI ph10 1 t11 a3).bind fun t12 =>
              (xgR ph10 12 25 a0).bind fun t13 =>
              (xaI ph10 1 t13 a3).bind fun t14 =>
              (xo ph10 12 a0).bind fun _ =>
              xb (f_M_own F a0 t12 t14 ph10) fun t15 ph16 =>
              f_M_layout_274 F (f_M_layout_173 F n) a0 a3 t2 a3 t15 ph16
            else
              (xgR ph10 12 30 a0).bind fun t17 =>
              (xaJ ph10 2 t17 a3).bind fun t18 =>
              f_M_layout_274 F (f_M_layout_173 F n) a0 a3 t2 a3 t18 ph10
theorem r_M_layout_173 {l : Launch} {g : px_G} {d F : Nat} : ∀ (n : Nat) {a0 : Nat} {a3 : Int32} {ph : px_H} {r : Unit} {ph' : px_H}, f_M_layout_173 F n a0 a3 ph = some (r, ph') → PW l g (d + 8) m_M_layout 173 [.ref a0, px_u, px_u, .int a3] [] ph (px_qV r ph') := by
  intro n
  induction n with
  | zero => intro _ _ _ _ _ h; cases h
  | succ n ih =>
    intro a0 a3 ph r ph' h
    unfold f_M_layout_173 at h
    refine px_ld rfl rfl rfl rfl rfl ?_
    refine px_ld rfl rfl rfl rfl rfl ?_
    obtain ⟨t1, h0, h⟩ := xs_some h
    obtain ⟨fs, e1, e2⟩ := xgI_some h0
    refine px_get rfl e1 e2 rfl ?_
    refine px_icge rfl (by decide) rfl (fun hc => ?_) (fun hc => ?_)
    · replace h := (if_pos hc).symm.trans h
      refine px_forget (n := 0) (lv' := [_, _, _, _]) rfl ?_
      refine px_forget (n := 3) (lv' := [_, _, _, _]) rfl ?_
      exact (r_M_layout_281 h :)
    · replace h := (if_neg hc).symm.trans h
      refine px_ld rfl rfl rfl rfl rfl ?_
      obtain ⟨t2, h0, h⟩ := xs_some h
      obtain ⟨fs, e1, e2⟩ := xgR_some h0
      refine px_get rfl e1 e2 rfl ?_
      refine px_ld rfl rfl rfl rfl rfl ?_
      refine px_ld rfl rfl rfl rfl rfl ?_
      obtain ⟨t3, h0, h⟩ := xs_some h
      obtain ⟨fs, e1, e2⟩ := xgR_some h0
      refine px_get rfl e1 e2 rfl ?_
      refine px_ld rfl rfl rfl rfl rfl ?_
      obtain ⟨t4, h0, h⟩ := xs_some h
      obtain ⟨N, f, e1, e2, e3⟩ := xaI_some h0
      subst e3
      refine px_iald rfl e1 rfl e2 rfl ?_
      refine px_ic (k := 2) rfl rfl rfl ?_
      refine px_icne rfl (by decide) rfl (fun hc => ?_) (fun hc => ?_)
      · replace h := (if_neg hc).symm.trans h
        refine px_ld rfl rfl rfl rfl rfl ?_
        obtain ⟨t5, h0, h⟩ := xs_some h
        obtain ⟨fs, e1, e2⟩ := xgR_some h0
        refine px_get rfl e1 e2 rfl ?_
        refine px_ld rfl rfl rfl rfl rfl ?_
        obtain ⟨t6, h0, h⟩ := xs_some h
        obtain ⟨N, f, e1, e2, e3⟩ := xaI_some h0
        subst e3
        refine px_iald rfl e1 rfl e2 rfl ?_
        refine px_ic (k := 4) rfl rfl rfl ?_
        refine px_icne rfl (by decide) rfl (fun hc => ?_) (fun hc => ?_)
        · replace h := (if_neg hc).symm.trans h
          refine px_ld rfl rfl rfl rfl rfl ?_
          obtain ⟨t7, h0, h⟩ := xs_some h
          obtain ⟨fs, e1, e2⟩ := xgR_some h0
          refine px_get rfl e1 e2 rfl ?_
          refine px_ld rfl rfl rfl rfl rfl ?_
          obtain ⟨t8, h0, h⟩ := xs_some h
          obtain ⟨N, f, e1, e2, e3⟩ := xaI_some h0
          subst e3
          refine px_iald rfl e1 rfl e2 rfl ?_
          refine px_ifne rfl (by decide) rfl (fun hc => ?_) (fun hc => ?_)
          · replace h := (if_neg hc).symm.trans h
            refine px_ld rfl rfl rfl rfl rfl ?_
            refine px_ld rfl rfl rfl rfl rfl ?_
            obtain ⟨fs, h0, h⟩ := xs_some h
            have e1 := xo_some h0
            obtain ⟨t9, ph10, h0, h⟩ := xb_some h
            refine px_cV1 rfl rfl e1 rfl rfl rfl rfl rfl rfl rfl (r_M_isGiven h0 :) (fun _ _ q => nomatch q.2) (fun r ph' q => ?_)
            obtain ⟨rfl, q⟩ := q
            cases q
            refine px_ifeq rfl (by decide) rfl (fun hc => ?_) (fun hc => ?_)
            · replace h := (if_pos hc).symm.trans h
              refine px_ld rfl rfl rfl rfl rfl ?_
              refine px_ld rfl rfl rfl rfl rfl ?_
              obtain ⟨t11, h0, h⟩ := xs_some h
              obtain ⟨fs, e1, e2⟩ := xgR_some h0
              refine px_get rfl e1 e2 rfl ?_
              refine px_ld rfl rfl rfl rfl rfl ?_
              obtain ⟨t12, h0, h⟩ := xs_some h
              obtain ⟨N, f, e1, e2, e3⟩ := xaI_some h0
              subst e3
              refine px_iald rfl e1 rfl e2 rfl ?_
              refine px_ld rfl rfl rfl rfl rfl ?_
              obtain ⟨t13, h0, h⟩ := xs_some h
              obtain ⟨fs, e1, e2⟩ := xgR_some h0
              refine px_get rfl e1 e2 rfl ?_
              refine px_ld rfl rfl rfl rfl rfl ?_
              obtain ⟨t14, h0, h⟩ := xs_some h
              obtain ⟨N, f, e1, e2, e3⟩ := xaI_some h0
              subst e3
              refine px_iald rfl e1 rfl e2 rfl ?_
              obtain ⟨fs, h0, h⟩ := xs_some h
              have e1 := xo_some h0
              obtain ⟨t15, ph16, h0, h⟩ := xb_some h
              refine px_cV2 rfl rfl e1 rfl rfl rfl rfl rfl rfl rfl (r_M_own h0 :) (fun _ _ q => nomatch q.2) (fun r ph' q => ?_)
              obtain ⟨rfl, q⟩ := q
              cases q
              exact (r_M_layout_274 @ih h :)
            · replace h := (if_neg hc).symm.trans h
              refine px_ld rfl rfl rfl rfl rfl ?_
              obtain ⟨t17, h0, h⟩ := xs_some h
              obtain ⟨fs, e1, e2⟩ := xgR_some h0
              refine px_get rfl e1 e2 rfl ?_
              refine px_ld rfl rfl rfl rfl rfl ?_
              obtain ⟨t18, h0, h⟩ := xs_some h
              obtain ⟨N, f, e1, e2, e3⟩ := xaJ_some h0
              subst e3
              refine px_lald rfl e1 rfl e2 rfl ?_
              refine px_goto rfl (by decide) rfl ?_
              exact (r_M_layout_274 @ih h :)
          · replace h := (if_pos hc).symm.trans h
            refine px_alu rfl rfl rfl ?_
            refine px_goto rfl (by decide) rfl ?_
            exact (r_M_layout_274 @ih h :)
        · replace h := (if_pos hc).symm.trans h
          refine px_ld rfl rfl rfl rfl rfl ?_
          refine px_ld rfl rfl rfl rfl rfl ?_
          obtain ⟨t19, h0, h⟩ := xs_some h
          obtain ⟨fs, e1, e2⟩ := xgR_some h0
          refine px_get rfl e1 e2 rfl ?_
          refine px_ld rfl rfl rfl rfl rfl ?_
          obtain ⟨t20, h0, h⟩ := xs_some h
          obtain ⟨N, f, e1, e2, e3⟩ := xaI_some h0
          subst e3
          refine px_iald rfl e1 rfl e2 rfl ?_
          obtain ⟨fs, h0, h⟩ := xs_some h
          have e1 := xo_some h0
          obtain ⟨t21, ph22, h0, h⟩ := xb_some h
          refine px_cV1 rfl rfl e1 rfl rfl rfl rfl rfl rfl rfl (r_M_ownAddress h0 :) (fun _ _ q => nomatch q.2) (fun r ph' q => ?_)
          obtain ⟨rfl, q⟩ := q
          cases q
          refine px_goto rfl (by decide) rfl ?_
          exact (r_M_layout_274 @ih h :)
      · replace h := (if_pos hc).symm.trans h
        refine px_ld rfl rfl rfl rfl rfl ?_
        obtain ⟨t23, h0, h⟩ := xs_some h
        obtain ⟨fs, e1, e2⟩ := xgR_some h0
        refine px_get rfl e1 e2 rfl ?_
        refine px_ld rfl rfl rfl rfl rfl ?_
        obtain ⟨t24, h0, h⟩ := xs_some h
        obtain ⟨N, f, e1, e2, e3⟩ := xaJ_some h0
        subst e3
        refine px_lald rfl e1 rfl e2 rfl ?_
        refine px_goto rfl (by decide) rfl ?_
        exact (r_M_layout_274 @ih h :)
def f_M_layout_167 (F : Nat) (a0 : Nat) (ph : px_H) : Option (Unit × px_H) :=
  (xo ph 12 a0).bind fun _ =>
  xb (f_M_findTemplate F a0 ph) fun _ ph1 =>
  f_M_layout_173 F F a0 (nI 0) ph1
theorem r_M_layout_167 {l : Launch} {g : px_G} {d F : Nat} {a0 : Nat} {ph : px_H} {r : Unit} {ph' : px_H} (h : f_M_layout_167 F a0 ph = some (r, ph')) : PW l g (d + 8) m_M_layout 167 [.ref a0, px_u, px_u, px_u] [] ph (px_qV r ph') := by
  unfold f_M_layout_167 at h
  refine px_ld rfl rfl rfl rfl rfl ?_
  obtain ⟨fs, h0, h⟩ := xs_some h
  have e1 := xo_some h0
  obtain ⟨u0, ph1, h0, h⟩ := xb_some h
  refine px_cV0 rfl rfl e1 rfl rfl rfl rfl rfl rfl rfl (r_M_findTemplate h0 :) (fun _ _ q => nomatch q.2) (fun r ph' q => ?_)
  obtain ⟨rfl, q⟩ := q
  cases q
  refine px_ic (k := 0) rfl rfl rfl ?_
  refine px_st (lv' := [_, _, _, _]) rfl rfl rfl rfl rfl rfl rfl ?_
  exact (r_M_layout_173 _ h :)
def f_M_layout_151 (F : Nat) (a0 : Nat) (ph : px_H) : Option (Unit × px_H) :=
  (xgJ ph 12 64 a0).bind fun t1 =>
  if t1 ≤ ((65536 : Int64)) then
    f_M_layout_167 F a0 ph
  else
    (xpI ph 12 13 a0 (nI 3)).bind fun ph2 =>
    f_M_layout_167 F a0 ph2
theorem r_M_layout_151 {l : Launch} {g : px_G} {d F : Nat} {a0 : Nat} {ph : px_H} {r : Unit} {ph' : px_H} (h : f_M_layout_151 F a0 ph = some (r, ph')) : PW l g (d + 8) m_M_layout 151 [.ref a0, px_u, px_u, px_u] [] ph (px_qV r ph') := by
  unfold f_M_layout_151 at h
  refine px_ld rfl rfl rfl rfl rfl ?_
  obtain ⟨t1, h0, h⟩ := xs_some h
  obtain ⟨fs, e1, e2⟩ := xgJ_some h0
  refine px_get rfl e1 e2 rfl ?_
  refine px_ldc2 rfl rfl rfl ?_
  refine px_alu rfl rfl rfl ?_
  refine px_ifle rfl (by decide) rfl (fun hc => ?_) (fun hc => ?_)
  · replace h := (if_pos ((lg_cmp_le _ _).mp hc)).symm.trans h
    exact (r_M_layout_167 h :)
  · replace h := (if_neg (fun q => hc ((lg_cmp_le _ _).mpr q))).symm.trans h
    refine px_ld rfl rfl rfl rfl rfl ?_
    refine px_ic (k := 3) rfl rfl rfl ?_
    obtain ⟨ph2, h0, h⟩ := xs_some h
    obtain ⟨fs, e1, e2, e3⟩ := xpI_some h0
    subst e3
    refine px_put rfl e1 e2 trivial rfl ?_
    exact (r_M_layout_167 h :)
def f_M_layout_145 (F : Nat) (k73 : Nat → Int64 → Int32 → px_H → Option (Unit × px_H)) (a0 : Nat) (a1 : Int64) (a3 : Int32) (ph : px_H) : Option (Unit × px_H) :=
  k73 a0 a1 (a3 + nI 1) ph
theorem r_M_layout_145 {l : Launch} {g : px_G} {d F : Nat} {k73 : Nat → Int64 → Int32 → px_H → Option (Unit × px_H)} (hk73 : ∀ {a0 : Nat} {a1 : Int64} {a3 : Int32} {ph : px_H} {r : Unit} {ph' : px_H}, k73 a0 a1 a3 ph = some (r, ph') → PW l g (d + 8) m_M_layout 73 [.ref a0, .long a1, px_u, .int a3] [] ph (px_qV r ph')) {a0 : Nat} {a1 : Int64} {a3 : Int32} {ph : px_H} {r : Unit} {ph' : px_H} (h : f_M_layout_145 F k73 a0 a1 a3 ph = some (r, ph')) : PW l g (d + 8) m_M_layout 145 [.ref a0, .long a1, px_u, .int a3] [] ph (px_qV r ph') := by
  unfold f_M_layout_145 at h
  refine px_iinc (lv' := [_, _, _, _]) rfl rfl rfl rfl rfl rfl ?_
  refine px_goto rfl (by decide) rfl ?_
  exact (hk73 h :)
def f_M_layout_73 (F : Nat) : Nat → Nat → Int64 → Int32 → px_H → Option (Unit × px_H)
  | 0, _, _, _, _ => none
  | n + 1, a0, a1, a3, ph =>
    if (nI 3) ≤ a3 then
      f_M_layout_151 F a0 ph
    else
      (xo ph 12 a0).bind fun _ =>
      xb (f_M_placeSegment F a0 a3 a1 ph) fun _ ph1 =>
      (xgR ph1 12 59 a0).bind fun t2 =>
      (xaI ph1 3 t2 a3).bind fun t3 =>
      if t3 = 0 then
        f_M_layout_145 F (f_M_layout_73 F n) a0 a1 a3 ph1
      else
        (xgR ph1 12 61 a0).bind fun t4 =>
        (xaJ ph1 2 t4 a3).bind fun t5 =>
        (xgR ph1 12 63 a0).bind fun t6 =>
        (xaJ ph1 2 t6 a3).bind fun t7 =>
        (xgR ph1 12 60 a0).bind fun t8 =>
        (xaJ ph1 2 t8 a3).bind fun t9 =>
        (xgR ph1 12 62 a0).bind fun t10 =>
        (xaJ ph1 2 t10 a3).bind fun t11 =>
        (xpJ ph1 12 64 a0 (t9 + t11)).bind fun ph12 =>
        (xgR ph12 12 63 a0).bind fun t13 =>
        (xaJ ph12 2 t13 a3).bind fun t14 =>
        if t14 ≤ ((65536 : Int64)) then
          f_M_layout_145 F (f_M_layout_73 F n) a0 (t5 + t7) a3 ph12
        else
          (xpI ph12 12 13 a0 (nI 3)).bind fun ph15 =>
          f_M_layout_145 F (f_M_layout_73 F n) a0 (t5 + t7) a3 ph15
theorem r_M_layout_73 {l : Launch} {g : px_G} {d F : Nat} : ∀ (n : Nat) {a0 : Nat} {a1 : Int64} {a3 : Int32} {ph : px_H} {r : Unit} {ph' : px_H}, f_M_layout_73 F n a0 a1 a3 ph = some (r, ph') → PW l g (d + 8) m_M_layout 73 [.ref a0, .long a1, px_u, .int a3] [] ph (px_qV r ph') := by
  intro n
  induction n with
  | zero => intro _ _ _ _ _ _ h; cases h
  | succ n ih =>
    intro a0 a1 a3 ph r ph' h
    unfold f_M_layout_73 at h
    refine px_ld rfl rfl rfl rfl rfl ?_
    refine px_ic (k := 3) rfl rfl rfl ?_
    refine px_icge rfl (by decide) rfl (fun hc => ?_) (fun hc => ?_)
    · replace h := (if_pos hc).symm.trans h
      refine px_forget (n := 1) (lv' := [_, _, _, _]) rfl ?_
      refine px_forget (n := 3) (lv' := [_, _, _, _]) rfl ?_
      exact (r_M_layout_151 h :)
    · replace h := (if_neg hc).symm.trans h
      refine px_ld rfl rfl rfl rfl rfl ?_
      refine px_ld rfl rfl rfl rfl rfl ?_
      refine px_ld rfl rfl rfl rfl rfl ?_
      obtain ⟨fs, h0, h⟩ := xs_some h
      have e1 := xo_some h0
      obtain ⟨u0, ph1, h0, h⟩ := xb_some h
      refine px_cV2 rfl rfl e1 rfl rfl rfl rfl rfl rfl rfl (r_M_placeSegment h0 :) (fun _ _ q => nomatch q.2) (fun r ph' q => ?_)
      obtain ⟨rfl, q⟩ := q
      cases q
      refine px_ld rfl rfl rfl rfl rfl ?_
      obtain ⟨t2, h0, h⟩ := xs_some h
      obtain ⟨fs, e1, e2⟩ := xgR_some h0
      refine px_get rfl e1 e2 rfl ?_
      refine px_ld rfl rfl rfl rfl rfl ?_
      obtain ⟨t3, h0, h⟩ := xs_some h
      obtain ⟨N, f, e1, e2, e3⟩ := xaI_some h0
      subst e3
      refine px_zald rfl e1 rfl e2 rfl ?_
      refine px_ifne rfl (by decide) rfl (fun hc => ?_) (fun hc => ?_)
      · replace h := (if_neg hc).symm.trans h
        refine px_ld rfl rfl rfl rfl rfl ?_
        obtain ⟨t4, h0, h⟩ := xs_some h
        obtain ⟨fs, e1, e2⟩ := xgR_some h0
        refine px_get rfl e1 e2 rfl ?_
        refine px_ld rfl rfl rfl rfl rfl ?_
        obtain ⟨t5, h0, h⟩ := xs_some h
        obtain ⟨N, f, e1, e2, e3⟩ := xaJ_some h0
        subst e3
        refine px_lald rfl e1 rfl e2 rfl ?_
        refine px_ld rfl rfl rfl rfl rfl ?_
        obtain ⟨t6, h0, h⟩ := xs_some h
        obtain ⟨fs, e1, e2⟩ := xgR_some h0
        refine px_get rfl e1 e2 rfl ?_
        refine px_ld rfl rfl rfl rfl rfl ?_
        obtain ⟨t7, h0, h⟩ := xs_some h
        obtain ⟨N, f, e1, e2, e3⟩ := xaJ_some h0
        subst e3
        refine px_lald rfl e1 rfl e2 rfl ?_
        refine px_alu rfl rfl rfl ?_
        refine px_st (lv' := [_, _, _, _]) rfl rfl rfl rfl rfl rfl rfl ?_
        refine px_ld rfl rfl rfl rfl rfl ?_
        refine px_ld rfl rfl rfl rfl rfl ?_
        obtain ⟨t8, h0, h⟩ := xs_some h
        obtain ⟨fs, e1, e2⟩ := xgR_some h0
        refine px_get rfl e1 e2 rfl ?_
        refine px_ld rfl rfl rfl rfl rfl ?_
        obtain ⟨t9, h0, h⟩ := xs_some h
        obtain ⟨N, f, e1, e2, e3⟩ := xaJ_some h0
        subst e3
        refine px_lald rfl e1 rfl e2 rfl ?_
        refine px_ld rfl rfl rfl rfl rfl ?_
        obtain ⟨t10, h0, h⟩ := xs_some h
        obtain ⟨fs, e1, e2⟩ := xgR_some h0
        refine px_get rfl e1 e2 rfl ?_
        refine px_ld rfl rfl rfl rfl rfl ?_
        obtain ⟨t11, h0, h⟩ := xs_some h
        obtain ⟨N, f, e1, e2, e3⟩ := xaJ_some h0
        subst e3
        refine px_lald rfl e1 rfl e2 rfl ?_
        refine px_alu rfl rfl rfl ?_
        obtain ⟨ph12, h0, h⟩ := xs_some h
        obtain ⟨fs, e1, e2, e3⟩ := xpJ_some h0
        subst e3
        refine px_put rfl e1 e2 trivial rfl ?_
        refine px_ld rfl rfl rfl rfl rfl ?_
        obtain ⟨t13, h0, h⟩ := xs_some h
        obtain ⟨fs, e1, e2⟩ := xgR_some h0
        refine px_get rfl e1 e2 rfl ?_
        refine px_ld rfl rfl rfl rfl rfl ?_
        obtain ⟨t14, h0, h⟩ := xs_some h
        obtain ⟨N, f, e1, e2, e3⟩ := xaJ_some h0
        subst e3
        refine px_lald rfl e1 rfl e2 rfl ?_
        refine px_ldc2 rfl rfl rfl ?_
        refine px_alu rfl rfl rfl ?_
        refine px_ifle rfl (by decide) rfl (fun hc => ?_) (fun hc => ?_)
        · replace h := (if_pos ((lg_cmp_le _ _).mp hc)).symm.trans h
          exact (r_M_layout_145 @ih h :)
        · replace h := (if_neg (fun q => hc ((lg_cmp_le _ _).mpr q))).symm.trans h
          refine px_ld rfl rfl rfl rfl rfl ?_
          refine px_ic (k := 3) rfl rfl rfl ?_
          obtain ⟨ph15, h0, h⟩ := xs_some h
          obtain ⟨fs, e1, e2, e3⟩ := xpI_some h0
          subst e3
          refine px_put rfl e1 e2 trivial rfl ?_
          exact (r_M_layout_145 @ih h :)
      · replace h := (if_pos hc).symm.trans h
        refine px_goto rfl (by decide) rfl ?_
        exact (r_M_layout_145 @ih h :)
def f_M_layout_63 (F : Nat) (a0 : Nat) (s0 : Nat) (s1 : Int64) (s2 : Int64) (ph : px_H) : Option (Unit × px_H) :=
  (xpJ ph 12 64 s0 (s1 + s2)).bind fun ph1 =>
  f_M_layout_73 F F a0 ((4194304 : Int64)) (nI 0) ph1
theorem r_M_layout_63 {l : Launch} {g : px_G} {d F : Nat} {a0 : Nat} {s0 : Nat} {s1 : Int64} {s2 : Int64} {ph : px_H} {r : Unit} {ph' : px_H} (h : f_M_layout_63 F a0 s0 s1 s2 ph = some (r, ph')) : PW l g (d + 8) m_M_layout 63 [.ref a0, px_u, px_u, px_u] [.long s2, .long s1, .ref s0] ph (px_qV r ph') := by
  unfold f_M_layout_63 at h
  refine px_alu rfl rfl rfl ?_
  obtain ⟨ph1, h0, h⟩ := xs_some h
  obtain ⟨fs, e1, e2, e3⟩ := xpJ_some h0
  subst e3
  refine px_put rfl e1 e2 trivial rfl ?_
  refine px_ldc2 rfl rfl rfl ?_
  refine px_st (lv' := [_, _, _, _]) rfl rfl rfl rfl rfl rfl rfl ?_
  refine px_ic (k := 0) rfl rfl rfl ?_
  refine px_st (lv' := [_, _, _, _]) rfl rfl rfl rfl rfl rfl rfl ?_
  exact (r_M_layout_73 _ h :)
def f_M_layout_23 (F : Nat) (a0 : Nat) (ph : px_H) : Option (Unit × px_H) :=
  (xo ph 12 a0).bind fun _ =>
  xb (f_M_findSegments F a0 ph) fun _ ph1 =>
  (xo ph1 12 a0).bind fun _ =>
  xb (f_M_isThreaded F a0 ph1) fun t2 ph3 =>
  (xpZ ph3 12 82 a0 t2).bind fun ph4 =>
  (xgI ph4 12 15 a0).bind fun t5 =>
  (xgI ph4 12 82 a0).bind fun t6 =>
  if t6 = 0 then
    f_M_layout_63 F a0 a0 (((64 : Int64)) + (((56 : Int64)) * t5.toInt64)) (lN 0) ph4
  else
    f_M_layout_63 F a0 a0 (((64 : Int64)) + (((56 : Int64)) * t5.toInt64)) ((56 : Int64)) ph4
theorem r_M_layout_23 {l : Launch} {g : px_G} {d F : Nat} {a0 : Nat} {ph : px_H} {r : Unit} {ph' : px_H} (h : f_M_layout_23 F a0 ph = some (r, ph')) : PW l g (d + 8) m_M_layout 23 [.ref a0, px_u, px_u, px_u] [] ph (px_qV r ph') := by
  unfold f_M_layout_23 at h
  refine px_ld rfl rfl rfl rfl rfl ?_
  obtain ⟨fs, h0, h⟩ := xs_some h
  have e1 := xo_some h0
  obtain ⟨u0, ph1, h0, h⟩ := xb_some h
  refine px_cV0 rfl rfl e1 rfl rfl rfl rfl rfl rfl rfl (r_M_findSegments h0 :) (fun _ _ q => nomatch q.2) (fun r ph' q => ?_)
  obtain ⟨rfl, q⟩ := q
  cases q
  refine px_ld rfl rfl rfl rfl rfl ?_
  refine px_ld rfl rfl rfl rfl rfl ?_
  obtain ⟨fs, h0, h⟩ := xs_some h
  have e1 := xo_some h0
  obtain ⟨t2, ph3, h0, h⟩ := xb_some h
  refine px_cV0 rfl rfl e1 rfl rfl rfl rfl rfl rfl rfl (r_M_isThreaded h0 :) (fun _ _ q => nomatch q.2) (fun r ph' q => ?_)
  obtain ⟨rfl, q⟩ := q
  cases q
  obtain ⟨ph4, h0, h⟩ := xs_some h
  obtain ⟨fs, e1, e2, e3, e4⟩ := xpZ_some h0
  subst e3
  refine px_put rfl e1 e2 e4 rfl ?_
  refine px_ld rfl rfl rfl rfl rfl ?_
  refine px_ldc2 rfl rfl rfl ?_
  refine px_ldc2 rfl rfl rfl ?_
  refine px_ld rfl rfl rfl rfl rfl ?_
  obtain ⟨t5, h0, h⟩ := xs_some h
  obtain ⟨fs, e1, e2⟩ := xgI_some h0
  refine px_get rfl e1 e2 rfl ?_
  refine px_alu rfl rfl rfl ?_
  refine px_alu rfl rfl rfl ?_
  refine px_alu rfl rfl rfl ?_
  refine px_ld rfl rfl rfl rfl rfl ?_
  obtain ⟨t6, h0, h⟩ := xs_some h
  obtain ⟨fs, e1, e2⟩ := xgI_some h0
  refine px_get rfl e1 e2 rfl ?_
  refine px_ifeq rfl (by decide) rfl (fun hc => ?_) (fun hc => ?_)
  · replace h := (if_pos hc).symm.trans h
    refine px_alu rfl rfl rfl ?_
    exact (r_M_layout_63 h :)
  · replace h := (if_neg hc).symm.trans h
    refine px_ldc2 rfl rfl rfl ?_
    refine px_goto rfl (by decide) rfl ?_
    exact (r_M_layout_63 h :)
def f_M_layout_2 (F : Nat) : Nat → Nat → Int32 → px_H → Option (Unit × px_H)
  | 0, _, _, _ => none
  | n + 1, a0, a1, ph =>
    (xgI ph 12 20 a0).bind fun t1 =>
    if t1 ≤ a1 then
      f_M_layout_23 F a0 ph
    else
      (xgR ph 12 29 a0).bind fun t2 =>
      (xsJ ph 2 t2 a1 (lN 0)).bind fun ph3 =>
      f_M_layout_2 F n a0 (a1 + nI 1) ph3
theorem r_M_layout_2 {l : Launch} {g : px_G} {d F : Nat} : ∀ (n : Nat) {a0 : Nat} {a1 : Int32} {ph : px_H} {r : Unit} {ph' : px_H}, f_M_layout_2 F n a0 a1 ph = some (r, ph') → PW l g (d + 8) m_M_layout 2 [.ref a0, .int a1, px_u, px_u] [] ph (px_qV r ph') := by
  intro n
  induction n with
  | zero => intro _ _ _ _ _ h; cases h
  | succ n ih =>
    intro a0 a1 ph r ph' h
    unfold f_M_layout_2 at h
    refine px_ld rfl rfl rfl rfl rfl ?_
    refine px_ld rfl rfl rfl rfl rfl ?_
    obtain ⟨t1, h0, h⟩ := xs_some h
    obtain ⟨fs, e1, e2⟩ := xgI_some h0
    refine px_get rfl e1 e2 rfl ?_
    refine px_icge rfl (by decide) rfl (fun hc => ?_) (fun hc => ?_)
    · replace h := (if_pos hc).symm.trans h
      refine px_forget (n := 1) (lv' := [_, _, _, _]) rfl ?_
      exact (r_M_layout_23 h :)
    · replace h := (if_neg hc).symm.trans h
      refine px_ld rfl rfl rfl rfl rfl ?_
      obtain ⟨t2, h0, h⟩ := xs_some h
      obtain ⟨fs, e1, e2⟩ := xgR_some h0
      refine px_get rfl e1 e2 rfl ?_
      refine px_ld rfl rfl rfl rfl rfl ?_
      refine px_alu rfl rfl rfl ?_
      obtain ⟨ph3, h0, h⟩ := xs_some h
      obtain ⟨N, f, e1, e2, e3⟩ := xsJ_some h0
      subst e3
      refine px_last rfl e1 rfl e2 rfl ?_
      refine px_iinc (lv' := [_, _, _, _]) rfl rfl rfl rfl rfl rfl ?_
      refine px_goto rfl (by decide) rfl ?_
      exact (ih h :)
def f_M_layout (F : Nat) (a0 : Nat) (ph : px_H) : Option (Unit × px_H) :=
  f_M_layout_2 F F a0 (nI 0) ph
theorem r_M_layout {l : Launch} {g : px_G} {d F : Nat} {a0 : Nat} {ph : px_H} {r : Unit} {ph' : px_H} (h : f_M_layout F a0 ph = some (r, ph')) : PW l g (d + 8) m_M_layout 0 [.ref a0, px_u, px_u, px_u] [] ph (px_qV r ph') := by
  unfold f_M_layout at h
  refine px_ic (k := 0) rfl rfl rfl ?_
  refine px_st (lv' := [_, _, _, _]) rfl rfl rfl rfl rfl rfl rfl ?_
  exact (r_M_layout_2 _ h :)
def f_M_symbolAddress_43 (F : Nat) (s0 : Int64) (ph : px_H) : Option (Int64 × px_H) :=
  some (s0, ph)
theorem r_M_symbolAddress_43 {l : Launch} {g : px_G} {d F : Nat} {s0 : Int64} {ph : px_H} {r : Int64} {ph' : px_H} (h : f_M_symbolAddress_43 F s0 ph = some (r, ph')) : PW l g (d + 8) m_M_symbolAddress 43 [px_u, px_u, px_u] [.long s0] ph (px_qJ r ph') := by
  unfold f_M_symbolAddress_43 at h
  cases h
  exact px_lret rfl rfl rfl ⟨rfl, rfl⟩
def f_M_symbolAddress (F : Nat) (a0 : Nat) (a1 : Int32) (a2 : Int32) (ph : px_H) : Option (Int64 × px_H) :=
  if a2 = 0 then
    some (lN 0, ph)
  else
    (xo ph 12 a0).bind fun _ =>
    xb (f_M_object F a0 a1 ph) fun t1 ph2 =>
    (xo ph2 12 a0).bind fun _ =>
    xb (f_M_bind F a0 t1 a2 ph2) fun t3 ph4 =>
    if t3 = 0 then
      (xo ph4 12 a0).bind fun _ =>
      xb (f_M_own F a0 a1 a2 ph4) fun t11 ph12 =>
      f_M_symbolAddress_43 F t11 ph12
    else
      (xgR ph4 12 29 a0).bind fun t5 =>
      (xo ph4 12 a0).bind fun _ =>
      xb (f_M_object F a0 a1 ph4) fun t6 ph7 =>
      (xo ph7 12 a0).bind fun _ =>
      xb (f_M_nameOf F a0 t6 a2 ph7) fun t8 ph9 =>
      (xaJ ph9 2 t5 t8).bind fun t10 =>
      f_M_symbolAddress_43 F t10 ph9
theorem r_M_symbolAddress {l : Launch} {g : px_G} {d F : Nat} {a0 : Nat} {a1 : Int32} {a2 : Int32} {ph : px_H} {r : Int64} {ph' : px_H} (h : f_M_symbolAddress F a0 a1 a2 ph = some (r, ph')) : PW l g (d + 8) m_M_symbolAddress 0 [.ref a0, .int a1, .int a2] [] ph (px_qJ r ph') := by
  unfold f_M_symbolAddress at h
  refine px_ld rfl rfl rfl rfl rfl ?_
  refine px_ifne rfl rfl rfl (fun hc => ?_) (fun hc => ?_)
  · replace h := (if_neg hc).symm.trans h
    refine px_ld rfl rfl rfl rfl rfl ?_
    refine px_ld rfl rfl rfl rfl rfl ?_
    refine px_ld rfl rfl rfl rfl rfl ?_
    obtain ⟨fs, h0, h⟩ := xs_some h
    have e1 := xo_some h0
    obtain ⟨t1, ph2, h0, h⟩ := xb_some h
    refine px_cV1 rfl rfl e1 rfl rfl rfl rfl rfl rfl rfl (r_M_object h0 :) (fun _ _ q => nomatch q.2) (fun r ph' q => ?_)
    obtain ⟨rfl, q⟩ := q
    cases q
    refine px_ld rfl rfl rfl rfl rfl ?_
    obtain ⟨fs, h0, h⟩ := xs_some h
    have e1 := xo_some h0
    obtain ⟨t3, ph4, h0, h⟩ := xb_some h
    refine px_cV2 rfl rfl e1 rfl rfl rfl rfl rfl rfl rfl (r_M_bind h0 :) (fun _ _ q => nomatch q.2) (fun r ph' q => ?_)
    obtain ⟨rfl, q⟩ := q
    cases q
    refine px_ifne rfl rfl rfl (fun hc => ?_) (fun hc => ?_)
    · replace h := (if_neg hc).symm.trans h
      refine px_ld rfl rfl rfl rfl rfl ?_
      obtain ⟨t5, h0, h⟩ := xs_some h
      obtain ⟨fs, e1, e2⟩ := xgR_some h0
      refine px_get rfl e1 e2 rfl ?_
      refine px_ld rfl rfl rfl rfl rfl ?_
      refine px_ld rfl rfl rfl rfl rfl ?_
      refine px_ld rfl rfl rfl rfl rfl ?_
      obtain ⟨fs, h0, h⟩ := xs_some h
      have e1 := xo_some h0
      obtain ⟨t6, ph7, h0, h⟩ := xb_some h
      refine px_cV1 rfl rfl e1 rfl rfl rfl rfl rfl rfl rfl (r_M_object h0 :) (fun _ _ q => nomatch q.2) (fun r ph' q => ?_)
      obtain ⟨rfl, q⟩ := q
      cases q
      refine px_ld rfl rfl rfl rfl rfl ?_
      obtain ⟨fs, h0, h⟩ := xs_some h
      have e1 := xo_some h0
      obtain ⟨t8, ph9, h0, h⟩ := xb_some h
      refine px_cV2 rfl rfl e1 rfl rfl rfl rfl rfl rfl rfl (r_M_nameOf h0 :) (fun _ _ q => nomatch q.2) (fun r ph' q => ?_)
      obtain ⟨rfl, q⟩ := q
      cases q
      obtain ⟨t10, h0, h⟩ := xs_some h
      obtain ⟨N, f, e1, e2, e3⟩ := xaJ_some h0
      subst e3
      refine px_lald rfl e1 rfl e2 rfl ?_
      refine px_forget (n := 0) (lv' := [_, _, _]) rfl ?_
      refine px_forget (n := 1) (lv' := [_, _, _]) rfl ?_
      refine px_forget (n := 2) (lv' := [_, _, _]) rfl ?_
      exact (r_M_symbolAddress_43 h :)
    · replace h := (if_pos hc).symm.trans h
      refine px_ld rfl rfl rfl rfl rfl ?_
      refine px_ld rfl rfl rfl rfl rfl ?_
      refine px_ld rfl rfl rfl rfl rfl ?_
      obtain ⟨fs, h0, h⟩ := xs_some h
      have e1 := xo_some h0
      obtain ⟨t11, ph12, h0, h⟩ := xb_some h
      refine px_cV2 rfl rfl e1 rfl rfl rfl rfl rfl rfl rfl (r_M_own h0 :) (fun _ _ q => nomatch q.2) (fun r ph' q => ?_)
      obtain ⟨rfl, q⟩ := q
      cases q
      refine px_goto rfl rfl rfl ?_
      refine px_forget (n := 0) (lv' := [_, _, _]) rfl ?_
      refine px_forget (n := 1) (lv' := [_, _, _]) rfl ?_
      refine px_forget (n := 2) (lv' := [_, _, _]) rfl ?_
      exact (r_M_symbolAddress_43 h :)
  · replace h := (if_pos hc).symm.trans h
    refine px_alu rfl rfl rfl ?_
    cases h
    exact px_lret rfl rfl rfl ⟨rfl, rfl⟩
def f_M_siteAddress (F : Nat) (a0 : Nat) (a1 : Int32) (a2 : Int32) (a3 : Int32) (ph : px_H) : Option (Int64 × px_H) :=
  (xgR ph 12 58 a0).bind fun t1 =>
  (xo ph 12 a0).bind fun _ =>
  xb (f_M_object F a0 a1 ph) fun t2 ph3 =>
  (xo ph3 12 a0).bind fun _ =>
  xb (f_M_info F a0 t2 a2 ph3) fun t4 ph5 =>
  (xaJ ph5 2 t1 (((nI 24) * a1) + t4.toInt32)).bind fun t6 =>
  (xo ph5 12 a0).bind fun _ =>
  xb (f_M_object F a0 a1 ph5) fun t7 ph8 =>
  (xo ph8 12 a0).bind fun _ =>
  xb (f_M_site F a0 t7 a2 a3 ph8) fun t9 ph10 =>
  (xo ph10 12 a0).bind fun _ =>
  xb (f_M_num F a0 t9 (nI 8) ph10) fun t11 ph12 =>
  some (t6 + t11, ph12)
theorem r_M_siteAddress {l : Launch} {g : px_G} {d F : Nat} {a0 : Nat} {a1 : Int32} {a2 : Int32} {a3 : Int32} {ph : px_H} {r : Int64} {ph' : px_H} (h : f_M_siteAddress F a0 a1 a2 a3 ph = some (r, ph')) : PW l g (d + 4) m_M_siteAddress 0 [.ref a0, .int a1, .int a2, .int a3] [] ph (px_qJ r ph') := by
  unfold f_M_siteAddress at h
  refine px_ld rfl rfl rfl rfl rfl ?_
  obtain ⟨t1, h0, h⟩ := xs_some h
  obtain ⟨fs, e1, e2⟩ := xgR_some h0
  refine px_get rfl e1 e2 rfl ?_
  refine px_ic (k := 24) rfl rfl rfl ?_
  refine px_ld rfl rfl rfl rfl rfl ?_
  refine px_alu rfl rfl rfl ?_
  refine px_ld rfl rfl rfl rfl rfl ?_
  refine px_ld rfl rfl rfl rfl rfl ?_
  refine px_ld rfl rfl rfl rfl rfl ?_
  obtain ⟨fs, h0, h⟩ := xs_some h
  have e1 := xo_some h0
  obtain ⟨t2, ph3, h0, h⟩ := xb_some h
  refine px_cV1 rfl rfl e1 rfl rfl rfl rfl rfl rfl rfl (r_M_object h0 :) (fun _ _ q => nomatch q.2) (fun r ph' q => ?_)
  obtain ⟨rfl, q⟩ := q
  cases q
  refine px_ld rfl rfl rfl rfl rfl ?_
  obtain ⟨fs, h0, h⟩ := xs_some h
  have e1 := xo_some h0
  obtain ⟨t4, ph5, h0, h⟩ := xb_some h
  refine px_cV2 rfl rfl e1 rfl rfl rfl rfl rfl rfl rfl (r_M_info h0 :) (fun _ _ q => nomatch q.2) (fun r ph' q => ?_)
  obtain ⟨rfl, q⟩ := q
  cases q
  refine px_alu rfl rfl rfl ?_
  refine px_alu rfl rfl rfl ?_
  obtain ⟨t6, h0, h⟩ := xs_some h
  obtain ⟨N, f, e1, e2, e3⟩ := xaJ_some h0
  subst e3
  refine px_lald rfl e1 rfl e2 rfl ?_
  refine px_ld rfl rfl rfl rfl rfl ?_
  refine px_ld rfl rfl rfl rfl rfl ?_
  refine px_ld rfl rfl rfl rfl rfl ?_
  refine px_ld rfl rfl rfl rfl rfl ?_
  obtain ⟨fs, h0, h⟩ := xs_some h
  have e1 := xo_some h0
  obtain ⟨t7, ph8, h0, h⟩ := xb_some h
  refine px_cV1 rfl rfl e1 rfl rfl rfl rfl rfl rfl rfl (r_M_object h0 :) (fun _ _ q => nomatch q.2) (fun r ph' q => ?_)
  obtain ⟨rfl, q⟩ := q
  cases q
  refine px_ld rfl rfl rfl rfl rfl ?_
  refine px_ld rfl rfl rfl rfl rfl ?_
  obtain ⟨fs, h0, h⟩ := xs_some h
  have e1 := xo_some h0
  obtain ⟨t9, ph10, h0, h⟩ := xb_some h
  refine px_cV3 rfl rfl e1 rfl rfl rfl rfl rfl rfl rfl (r_M_site h0 :) (fun _ _ q => nomatch q.2) (fun r ph' q => ?_)
  obtain ⟨rfl, q⟩ := q
  cases q
  refine px_ic (k := 8) rfl rfl rfl ?_
  obtain ⟨fs, h0, h⟩ := xs_some h
  have e1 := xo_some h0
  obtain ⟨t11, ph12, h0, h⟩ := xb_some h
  refine px_cV2 rfl rfl e1 rfl rfl rfl rfl rfl rfl rfl (r_M_num h0 :) (fun _ _ q => nomatch q.2) (fun r ph' q => ?_)
  obtain ⟨rfl, q⟩ := q
  cases q
  refine px_alu rfl rfl rfl ?_
  cases h
  exact px_lret rfl rfl rfl ⟨rfl, rfl⟩
def f_M_isOfStrings_84 (F : Nat) (s0 : Int32) (ph : px_H) : Option (Int32 × px_H) :=
  xz s0 ph
theorem r_M_isOfStrings_84 {l : Launch} {g : px_G} {d F : Nat} {s0 : Int32} {ph : px_H} {r : Int32} {ph' : px_H} (h : f_M_isOfStrings_84 F s0 ph = some (r, ph')) : PW l g (d + 7) m_M_isOfStrings 84 [px_u, px_u, px_u, px_u, px_u] [.int s0] ph (px_qI r ph') := by
  unfold f_M_isOfStrings_84 at h
  obtain ⟨e0, e1, e2⟩ := xz_some h
  subst e1 e2
  exact px_iret rfl (Or.inr ⟨rfl, e0⟩) rfl ⟨rfl, rfl⟩
def f_M_isOfStrings_83 (F : Nat) (ph : px_H) : Option (Int32 × px_H) :=
  f_M_isOfStrings_84 F (nI 0) ph
theorem r_M_isOfStrings_83 {l : Launch} {g : px_G} {d F : Nat} {ph : px_H} {r : Int32} {ph' : px_H} (h : f_M_isOfStrings_83 F ph = some (r, ph')) : PW l g (d + 7) m_M_isOfStrings 83 [px_u, px_u, px_u, px_u, px_u] [] ph (px_qI r ph') := by
  unfold f_M_isOfStrings_83 at h
  refine px_ic (k := 0) rfl rfl rfl ?_
  exact (r_M_isOfStrings_84 h :)
def f_M_isOfStrings_39 (F : Nat) (ph : px_H) : Option (Int32 × px_H) :=
  some (nI 0, ph)
theorem r_M_isOfStrings_39 {l : Launch} {g : px_G} {d F : Nat} {ph : px_H} {r : Int32} {ph' : px_H} (h : f_M_isOfStrings_39 F ph = some (r, ph')) : PW l g (d + 7) m_M_isOfStrings 39 [px_u, px_u, px_u, px_u, px_u] [] ph (px_qI r ph') := by
  unfold f_M_isOfStrings_39 at h
  refine px_ic (k := 0) rfl rfl rfl ?_
  cases h
  exact px_iret rfl (Or.inr ⟨rfl, Or.inl rfl⟩) rfl ⟨rfl, rfl⟩
def f_M_isOfStrings (F : Nat) (a0 : Nat) (a1 : Int32) (a2 : Int32) (ph : px_H) : Option (Int32 × px_H) :=
  (xo ph 12 a0).bind fun _ =>
  xb (f_M_object F a0 a1 ph) fun t1 ph2 =>
  if a2 = 0 then
    f_M_isOfStrings_39 F ph2
  else
    (xo ph2 12 a0).bind fun _ =>
    xb (f_M_bind F a0 t1 a2 ph2) fun t3 ph4 =>
    if t3 = 0 then
      (xgR ph4 12 6 a0).bind fun t5 =>
      (xo ph4 12 a0).bind fun _ =>
      xb (f_M_symbol F a0 t1 a2 ph4) fun t6 ph7 =>
      (xaI ph7 0 t5 (t6 + (nI 4))).bind fun t8 =>
      if (t8 &&& (nI 15)) = (nI 3) then
        (xo ph7 12 a0).bind fun _ =>
        xb (f_M_whereNow F a0 a1 a2 ph7) fun t9 ph10 =>
        (xo ph10 12 a0).bind fun _ =>
        xb (f_M_isSectionNow F a0 a1 t9 ph10) fun t11 ph12 =>
        if t11 = 0 then
          f_M_isOfStrings_83 F ph12
        else
          (xo ph12 12 a0).bind fun _ =>
          xb (f_M_stays F a0 a1 t9 ph12) fun t13 ph14 =>
          if t13 = 0 then
            f_M_isOfStrings_83 F ph14
          else
            (xo ph14 12 a0).bind fun _ =>
            xb (f_M_isStrings F a0 t1 t9 ph14) fun t15 ph16 =>
            if t15 = 0 then
              f_M_isOfStrings_83 F ph16
            else
              f_M_isOfStrings_84 F (nI 1) ph16
      else
        f_M_isOfStrings_39 F ph7
    else
      f_M_isOfStrings_39 F ph4
theorem r_M_isOfStrings {l : Launch} {g : px_G} {d F : Nat} {a0 : Nat} {a1 : Int32} {a2 : Int32} {ph : px_H} {r : Int32} {ph' : px_H} (h : f_M_isOfStrings F a0 a1 a2 ph = some (r, ph')) : PW l g (d + 7) m_M_isOfStrings 0 [.ref a0, .int a1, .int a2, px_u, px_u] [] ph (px_qI r ph') := by
  unfold f_M_isOfStrings at h
  refine px_ld rfl rfl rfl rfl rfl ?_
  refine px_ld rfl rfl rfl rfl rfl ?_
  obtain ⟨fs, h0, h⟩ := xs_some h
  have e1 := xo_some h0
  obtain ⟨t1, ph2, h0, h⟩ := xb_some h
  refine px_cV1 rfl rfl e1 rfl rfl rfl rfl rfl rfl rfl (r_M_object h0 :) (fun _ _ q => nomatch q.2) (fun r ph' q => ?_)
  obtain ⟨rfl, q⟩ := q
  cases q
  refine px_st (lv' := [_, _, _, _, _]) rfl rfl rfl rfl rfl rfl rfl ?_
  refine px_ld rfl rfl rfl rfl rfl ?_
  refine px_ifeq rfl rfl rfl (fun hc => ?_) (fun hc => ?_)
  · replace h := (if_pos hc).symm.trans h
    refine px_forget (n := 0) (lv' := [_, _, _, _, _]) rfl ?_
    refine px_forget (n := 1) (lv' := [_, _, _, _, _]) rfl ?_
    refine px_forget (n := 2) (lv' := [_, _, _, _, _]) rfl ?_
    refine px_forget (n := 3) (lv' := [_, _, _, _, _]) rfl ?_
    exact (r_M_isOfStrings_39 h :)
  · replace h := (if_neg hc).symm.trans h
    refine px_ld rfl rfl rfl rfl rfl ?_
    refine px_ld rfl rfl rfl rfl rfl ?_
    refine px_ld rfl rfl rfl rfl rfl ?_
    obtain ⟨fs, h0, h⟩ := xs_some h
    have e1 := xo_some h0
    obtain ⟨t3, ph4, h0, h⟩ := xb_some h
    refine px_cV2 rfl rfl e1 rfl rfl rfl rfl rfl rfl rfl (r_M_bind h0 :) (fun _ _ q => nomatch q.2) (fun r ph' q => ?_)
    obtain ⟨rfl, q⟩ := q
    cases q
    refine px_ifne rfl rfl rfl (fun hc => ?_) (fun hc => ?_)
    · replace h := (if_neg hc).symm.trans h
      refine px_forget (n := 0) (lv' := [_, _, _, _, _]) rfl ?_
      refine px_forget (n := 1) (lv' := [_, _, _, _, _]) rfl ?_
      refine px_forget (n := 2) (lv' := [_, _, _, _, _]) rfl ?_
      refine px_forget (n := 3) (lv' := [_, _, _, _, _]) rfl ?_
      exact (r_M_isOfStrings_39 h :)
    · replace h := (if_pos hc).symm.trans h
      refine px_ld rfl rfl rfl rfl rfl ?_
      obtain ⟨t5, h0, h⟩ := xs_some h
      obtain ⟨fs, e1, e2⟩ := xgR_some h0
      refine px_get rfl e1 e2 rfl ?_
      refine px_ld rfl rfl rfl rfl rfl ?_
      refine px_ld rfl rfl rfl rfl rfl ?_
      refine px_ld rfl rfl rfl rfl rfl ?_
      obtain ⟨fs, h0, h⟩ := xs_some h
      have e1 := xo_some h0
      obtain ⟨t6, ph7, h0, h⟩ := xb_some h
      refine px_cV2 rfl rfl e1 rfl rfl rfl rfl rfl rfl rfl (r_M_symbol h0 :) (fun _ _ q => nomatch q.2) (fun r ph' q => ?_)
      obtain ⟨rfl, q⟩ := q
      cases q
      refine px_ic (k := 4) rfl rfl rfl ?_
      refine px_alu rfl rfl rfl ?_
      obtain ⟨t8, h0, h⟩ := xs_some h
      obtain ⟨N, f, e1, e2, e3⟩ := xaI_some h0
      subst e3
      refine px_bald rfl e1 rfl e2 rfl ?_
      refine px_ic (k := 15) rfl rfl rfl ?_
      refine px_alu rfl rfl rfl ?_
      refine px_ic (k := 3) rfl rfl rfl ?_
      refine px_iceq rfl rfl rfl (fun hc => ?_) (fun hc => ?_)
      · replace h := (if_pos hc).symm.trans h
        refine px_ld rfl rfl rfl rfl rfl ?_
        refine px_ld rfl rfl rfl rfl rfl ?_
        refine px_ld rfl rfl rfl rfl rfl ?_
        obtain ⟨fs, h0, h⟩ := xs_some h
        have e1 := xo_some h0
        obtain ⟨t9, ph10, h0, h⟩ := xb_some h
        refine px_cV2 rfl rfl e1 rfl rfl rfl rfl rfl rfl rfl (r_M_whereNow h0 :) (fun _ _ q => nomatch q.2) (fun r ph' q => ?_)
        obtain ⟨rfl, q⟩ := q
        cases q
        refine px_st (lv' := [_, _, _, _, _]) rfl rfl rfl rfl rfl rfl rfl ?_
        refine px_ld rfl rfl rfl rfl rfl ?_
        refine px_ld rfl rfl rfl rfl rfl ?_
        refine px_ld rfl rfl rfl rfl rfl ?_
        obtain ⟨fs, h0, h⟩ := xs_some h
        have e1 := xo_some h0
        obtain ⟨t11, ph12, h0, h⟩ := xb_some h
        refine px_cV2 rfl rfl e1 rfl rfl rfl rfl rfl rfl rfl (r_M_isSectionNow h0 :) (fun _ _ q => nomatch q.2) (fun r ph' q => ?_)
        obtain ⟨rfl, q⟩ := q
        cases q
        refine px_ifeq rfl rfl rfl (fun hc => ?_) (fun hc => ?_)
        · replace h := (if_pos hc).symm.trans h
          refine px_forget (n := 0) (lv' := [_, _, _, _, _]) rfl ?_
          refine px_forget (n := 1) (lv' := [_, _, _, _, _]) rfl ?_
          refine px_forget (n := 2) (lv' := [_, _, _, _, _]) rfl ?_
          refine px_forget (n := 3) (lv' := [_, _, _, _, _]) rfl ?_
          refine px_forget (n := 4) (lv' := [_, _, _, _, _]) rfl ?_
          exact (r_M_isOfStrings_83 h :)
        · replace h := (if_neg hc).symm.trans h
          refine px_ld rfl rfl rfl rfl rfl ?_
          refine px_ld rfl rfl rfl rfl rfl ?_
          refine px_ld rfl rfl rfl rfl rfl ?_
          obtain ⟨fs, h0, h⟩ := xs_some h
          have e1 := xo_some h0
          obtain ⟨t13, ph14, h0, h⟩ := xb_some h
          refine px_cV2 rfl rfl e1 rfl rfl rfl rfl rfl rfl rfl (r_M_stays h0 :) (fun _ _ q => nomatch q.2) (fun r ph' q => ?_)
          obtain ⟨rfl, q⟩ := q
          cases q
          refine px_ifeq rfl rfl rfl (fun hc => ?_) (fun hc => ?_)
          · replace h := (if_pos hc).symm.trans h
            refine px_forget (n := 0) (lv' := [_, _, _, _, _]) rfl ?_
            refine px_forget (n := 1) (lv' := [_, _, _, _, _]) rfl ?_
            refine px_forget (n := 2) (lv' := [_, _, _, _, _]) rfl ?_
            refine px_forget (n := 3) (lv' := [_, _, _, _, _]) rfl ?_
            refine px_forget (n := 4) (lv' := [_, _, _, _, _]) rfl ?_
            exact (r_M_isOfStrings_83 h :)
          · replace h := (if_neg hc).symm.trans h
            refine px_ld rfl rfl rfl rfl rfl ?_
            refine px_ld rfl rfl rfl rfl rfl ?_
            refine px_ld rfl rfl rfl rfl rfl ?_
            obtain ⟨fs, h0, h⟩ := xs_some h
            have e1 := xo_some h0
            obtain ⟨t15, ph16, h0, h⟩ := xb_some h
            refine px_cV2 rfl rfl e1 rfl rfl rfl rfl rfl rfl rfl (r_M_isStrings h0 :) (fun _ _ q => nomatch q.2) (fun r ph' q => ?_)
            obtain ⟨rfl, q⟩ := q
            cases q
            refine px_ifeq rfl rfl rfl (fun hc => ?_) (fun hc => ?_)
            · replace h := (if_pos hc).symm.trans h
              refine px_forget (n := 0) (lv' := [_, _, _, _, _]) rfl ?_
              refine px_forget (n := 1) (lv' := [_, _, _, _, _]) rfl ?_
              refine px_forget (n := 2) (lv' := [_, _, _, _, _]) rfl ?_
              refine px_forget (n := 3) (lv' := [_, _, _, _, _]) rfl ?_
              refine px_forget (n := 4) (lv' := [_, _, _, _, _]) rfl ?_
              exact (r_M_isOfStrings_83 h :)
            · replace h := (if_neg hc).symm.trans h
              refine px_ic (k := 1) rfl rfl rfl ?_
              refine px_goto rfl rfl rfl ?_
              refine px_forget (n := 0) (lv' := [_, _, _, _, _]) rfl ?_
              refine px_forget (n := 1) (lv' := [_, _, _, _, _]) rfl ?_
              refine px_forget (n := 2) (lv' := [_, _, _, _, _]) rfl ?_
              refine px_forget (n := 3) (lv' := [_, _, _, _, _]) rfl ?_
              refine px_forget (n := 4) (lv' := [_, _, _, _, _]) rfl ?_
              exact (r_M_isOfStrings_84 h :)
      · replace h := (if_neg hc).symm.trans h
        refine px_forget (n := 0) (lv' := [_, _, _, _, _]) rfl ?_
        refine px_forget (n := 1) (lv' := [_, _, _, _, _]) rfl ?_
        refine px_forget (n := 2) (lv' := [_, _, _, _, _]) rfl ?_
        refine px_forget (n := 3) (lv' := [_, _, _, _, _]) rfl ?_
        exact (r_M_isOfStrings_39 h :)
def f_M_siteValue_290 (F : Nat) (s0 : Int64) (ph : px_H) : Option (Int64 × px_H) :=
  some (s0, ph)
theorem r_M_siteValue_290 {l : Launch} {g : px_G} {d F : Nat} {s0 : Int64} {ph : px_H} {r : Int64} {ph' : px_H} (h : f_M_siteValue_290 F s0 ph = some (r, ph')) : PW l g (d + 11) m_M_siteValue 290 [px_u, px_u, px_u, px_u, px_u, px_u, px_u, px_u, px_u, px_u, px_u, px_u] [.long s0] ph (px_qJ r ph') := by
  unfold f_M_siteValue_290 at h
  cases h
  exact px_lret rfl rfl rfl ⟨rfl, rfl⟩
def f_M_siteValue_278 (F : Nat) (a0 : Nat) (a10 : Int64) (ph : px_H) : Option (Int64 × px_H) :=
  (xgJ ph 12 87 a0).bind fun t1 =>
  f_M_siteValue_290 F (a10 - t1) ph
theorem r_M_siteValue_278 {l : Launch} {g : px_G} {d F : Nat} {a0 : Nat} {a10 : Int64} {ph : px_H} {r : Int64} {ph' : px_H} (h : f_M_siteValue_278 F a0 a10 ph = some (r, ph')) : PW l g (d + 11) m_M_siteValue 278 [.ref a0, px_u, px_u, px_u, px_u, px_u, px_u, px_u, px_u, px_u, .long a10, px_u] [] ph (px_qJ r ph') := by
  unfold f_M_siteValue_278 at h
  refine px_ld rfl rfl rfl rfl rfl ?_
  refine px_ld rfl rfl rfl rfl rfl ?_
  obtain ⟨t1, h0, h⟩ := xs_some h
  obtain ⟨fs, e1, e2⟩ := xgJ_some h0
  refine px_get rfl e1 e2 rfl ?_
  refine px_alu rfl rfl rfl ?_
  refine px_goto rfl (by decide) rfl ?_
  refine px_forget (n := 0) (lv' := [_, _, _, _, _, _, _, _, _, _, _, _]) rfl ?_
  refine px_forget (n := 10) (lv' := [_, _, _, _, _, _, _, _, _, _, _, _]) rfl ?_
  exact (r_M_siteValue_290 h :)
def f_M_siteValue_247 (F : Nat) (a0 : Nat) (a1 : Int32) (a2 : Int32) (a3 : Int32) (a10 : Int64) (ph : px_H) : Option (Int64 × px_H) :=
  (xo ph 12 a0).bind fun _ =>
  xb (f_M_siteAddress F a0 a1 a2 a3 ph) fun t1 ph2 =>
  f_M_siteValue_290 F (a10 - t1) ph2
theorem r_M_siteValue_247 {l : Launch} {g : px_G} {d F : Nat} {a0 : Nat} {a1 : Int32} {a2 : Int32} {a3 : Int32} {a10 : Int64} {ph : px_H} {r : Int64} {ph' : px_H} (h : f_M_siteValue_247 F a0 a1 a2 a3 a10 ph = some (r, ph')) : PW l g (d + 11) m_M_siteValue 247 [.ref a0, .int a1, .int a2, .int a3, px_u, px_u, px_u, px_u, px_u, px_u, .long a10, px_u] [] ph (px_qJ r ph') := by
  unfold f_M_siteValue_247 at h
  refine px_ld rfl rfl rfl rfl rfl ?_
  refine px_ld rfl rfl rfl rfl rfl ?_
  refine px_ld rfl rfl rfl rfl rfl ?_
  refine px_ld rfl rfl rfl rfl rfl ?_
  refine px_ld rfl rfl rfl rfl rfl ?_
  obtain ⟨fs, h0, h⟩ := xs_some h
  have e1 := xo_some h0
  obtain ⟨t1, ph2, h0, h⟩ := xb_some h
  refine px_cV3 rfl rfl e1 rfl rfl rfl rfl rfl rfl rfl (r_M_siteAddress h0 :) (fun _ _ q => nomatch q.2) (fun r ph' q => ?_)
  obtain ⟨rfl, q⟩ := q
  cases q
  refine px_alu rfl rfl rfl ?_
  refine px_goto rfl (by decide) rfl ?_
  refine px_forget (n := 0) (lv' := [_, _, _, _, _, _, _, _, _, _, _, _]) rfl ?_
  refine px_forget (n := 1) (lv' := [_, _, _, _, _, _, _, _, _, _, _, _]) rfl ?_
  refine px_forget (n := 2) (lv' := [_, _, _, _, _, _, _, _, _, _, _, _]) rfl ?_
  refine px_forget (n := 3) (lv' := [_, _, _, _, _, _, _, _, _, _, _, _]) rfl ?_
  refine px_forget (n := 10) (lv' := [_, _, _, _, _, _, _, _, _, _, _, _]) rfl ?_
  exact (r_M_siteValue_290 h :)
def f_M_siteValue_216 (F : Nat) (a0 : Nat) (a1 : Int32) (a2 : Int32) (a3 : Int32) (a5 : Int64) (a8 : Int64) (s0 : Int64) (ph : px_H) : Option (Int64 × px_H) :=
  if a5 = ((2 : Int64)) then
    f_M_siteValue_247 F a0 a1 a2 a3 (s0 + a8) ph
  else
    if a5 = ((4 : Int64)) then
      f_M_siteValue_247 F a0 a1 a2 a3 (s0 + a8) ph
    else
      xb (f_M_isSlotted F a5 ph) fun t1 ph2 =>
      if t1 = 0 then
        if a5 = ((18 : Int64)) then
          f_M_siteValue_278 F a0 (s0 + a8) ph2
        else
          if a5 = ((23 : Int64)) then
            f_M_siteValue_278 F a0 (s0 + a8) ph2
          else
            f_M_siteValue_290 F (s0 + a8) ph2
      else
        f_M_siteValue_247 F a0 a1 a2 a3 (s0 + a8) ph2
theorem r_M_siteValue_216 {l : Launch} {g : px_G} {d F : Nat} {a0 : Nat} {a1 : Int32} {a2 : Int32} {a3 : Int32} {a5 : Int64} {a8 : Int64} {s0 : Int64} {ph : px_H} {r : Int64} {ph' : px_H} (h : f_M_siteValue_216 F a0 a1 a2 a3 a5 a8 s0 ph = some (r, ph')) : PW l g (d + 11) m_M_siteValue 216 [.ref a0, .int a1, .int a2, .int a3, px_u, .long a5, px_u, px_u, .long a8, px_u, px_u, px_u] [.long s0] ph (px_qJ r ph') := by
  unfold f_M_siteValue_216 at h
  refine px_ld rfl rfl rfl rfl rfl ?_
  refine px_alu rfl rfl rfl ?_
  refine px_st (lv' := [_, _, _, _, _, _, _, _, _, _, _, _]) rfl rfl rfl rfl rfl rfl rfl ?_
  refine px_ld rfl rfl rfl rfl rfl ?_
  refine px_ldc2 rfl rfl rfl ?_
  refine px_alu rfl rfl rfl ?_
  refine px_ifeq rfl (by decide) rfl (fun hc => ?_) (fun hc => ?_)
  · replace h := (if_pos ((lg_cmp_eq _ _).mp hc)).symm.trans h
    refine px_forget (n := 5) (lv' := [_, _, _, _, _, _, _, _, _, _, _, _]) rfl ?_
    refine px_forget (n := 8) (lv' := [_, _, _, _, _, _, _, _, _, _, _, _]) rfl ?_
    exact (r_M_siteValue_247 h :)
  · replace h := (if_neg (fun q => hc ((lg_cmp_eq _ _).mpr q))).symm.trans h
    refine px_ld rfl rfl rfl rfl rfl ?_
    refine px_ldc2 rfl rfl rfl ?_
    refine px_alu rfl rfl rfl ?_
    refine px_ifeq rfl (by decide) rfl (fun hc => ?_) (fun hc => ?_)
    · replace h := (if_pos ((lg_cmp_eq _ _).mp hc)).symm.trans h
      refine px_forget (n := 5) (lv' := [_, _, _, _, _, _, _, _, _, _, _, _]) rfl ?_
      refine px_forget (n := 8) (lv' := [_, _, _, _, _, _, _, _, _, _, _, _]) rfl ?_
      exact (r_M_siteValue_247 h :)
    · replace h := (if_neg (fun q => hc ((lg_cmp_eq _ _).mpr q))).symm.trans h
      refine px_ld rfl rfl rfl rfl rfl ?_
      obtain ⟨t1, ph2, h0, h⟩ := xb_some h
      refine px_cS1 rfl rfl rfl rfl rfl rfl rfl (r_M_isSlotted h0 :) (fun _ _ q => nomatch q.2) (fun r ph' q => ?_)
      obtain ⟨rfl, q⟩ := q
      cases q
      refine px_ifeq rfl (by decide) rfl (fun hc => ?_) (fun hc => ?_)
      · replace h := (if_pos hc).symm.trans h
        refine px_ld rfl rfl rfl rfl rfl ?_
        refine px_ldc2 rfl rfl rfl ?_
        refine px_alu rfl rfl rfl ?_
        refine px_ifeq rfl (by decide) rfl (fun hc => ?_) (fun hc => ?_)
        · replace h := (if_pos ((lg_cmp_eq _ _).mp hc)).symm.trans h
          refine px_forget (n := 1) (lv' := [_, _, _, _, _, _, _, _, _, _, _, _]) rfl ?_
          refine px_forget (n := 2) (lv' := [_, _, _, _, _, _, _, _, _, _, _, _]) rfl ?_
          refine px_forget (n := 3) (lv' := [_, _, _, _, _, _, _, _, _, _, _, _]) rfl ?_
          refine px_forget (n := 5) (lv' := [_, _, _, _, _, _, _, _, _, _, _, _]) rfl ?_
          refine px_forget (n := 8) (lv' := [_, _, _, _, _, _, _, _, _, _, _, _]) rfl ?_
          exact (r_M_siteValue_278 h :)
        · replace h := (if_neg (fun q => hc ((lg_cmp_eq _ _).mpr q))).symm.trans h
          refine px_ld rfl rfl rfl rfl rfl ?_
          refine px_ldc2 rfl rfl rfl ?_
          refine px_alu rfl rfl rfl ?_
          refine px_ifne rfl (by decide) rfl (fun hc => ?_) (fun hc => ?_)
          · replace h := (if_neg (fun q => hc ((lg_cmp_eq _ _).mpr q))).symm.trans h
            refine px_ld rfl rfl rfl rfl rfl ?_
            refine px_forget (n := 0) (lv' := [_, _, _, _, _, _, _, _, _, _, _, _]) rfl ?_
            refine px_forget (n := 1) (lv' := [_, _, _, _, _, _, _, _, _, _, _, _]) rfl ?_
            refine px_forget (n := 2) (lv' := [_, _, _, _, _, _, _, _, _, _, _, _]) rfl ?_
            refine px_forget (n := 3) (lv' := [_, _, _, _, _, _, _, _, _, _, _, _]) rfl ?_
            refine px_forget (n := 5) (lv' := [_, _, _, _, _, _, _, _, _, _, _, _]) rfl ?_
            refine px_forget (n := 8) (lv' := [_, _, _, _, _, _, _, _, _, _, _, _]) rfl ?_
            refine px_forget (n := 10) (lv' := [_, _, _, _, _, _, _, _, _, _, _, _]) rfl ?_
            exact (r_M_siteValue_290 h :)
          · replace h := (if_pos ((lg_cmp_eq _ _).mp hc)).symm.trans h
            refine px_forget (n := 1) (lv' := [_, _, _, _, _, _, _, _, _, _, _, _]) rfl ?_
            refine px_forget (n := 2) (lv' := [_, _, _, _, _, _, _, _, _, _, _, _]) rfl ?_
            refine px_forget (n := 3) (lv' := [_, _, _, _, _, _, _, _, _, _, _, _]) rfl ?_
            refine px_forget (n := 5) (lv' := [_, _, _, _, _, _, _, _, _, _, _, _]) rfl ?_
            refine px_forget (n := 8) (lv' := [_, _, _, _, _, _, _, _, _, _, _, _]) rfl ?_
            exact (r_M_siteValue_278 h :)
      · replace h := (if_neg hc).symm.trans h
        refine px_forget (n := 5) (lv' := [_, _, _, _, _, _, _, _, _, _, _, _]) rfl ?_
        refine px_forget (n := 8) (lv' := [_, _, _, _, _, _, _, _, _, _, _, _]) rfl ?_
        exact (r_M_siteValue_247 h :)
def f_M_siteValue_200 (F : Nat) (a0 : Nat) (a1 : Int32) (a2 : Int32) (a3 : Int32) (a5 : Int64) (a8 : Int64) (s0 : Int64) (s1 : Int64) (s2 : Nat) (s3 : Int32) (s4 : Int32) (s5 : Int32) (ph : px_H) : Option (Int64 × px_H) :=
  (xo ph 12 s2).bind fun _ =>
  xb (f_M_slotOf F s2 s3 s4 s5 ph) fun t1 ph2 =>
  f_M_siteValue_216 F a0 a1 a2 a3 a5 a8 (s0 + (s1 * t1.toInt64)) ph2
theorem r_M_siteValue_200 {l : Launch} {g : px_G} {d F : Nat} {a0 : Nat} {a1 : Int32} {a2 : Int32} {a3 : Int32} {a5 : Int64} {a8 : Int64} {s0 : Int64} {s1 : Int64} {s2 : Nat} {s3 : Int32} {s4 : Int32} {s5 : Int32} {ph : px_H} {r : Int64} {ph' : px_H} (h : f_M_siteValue_200 F a0 a1 a2 a3 a5 a8 s0 s1 s2 s3 s4 s5 ph = some (r, ph')) : PW l g (d + 11) m_M_siteValue 200 [.ref a0, .int a1, .int a2, .int a3, px_u, .long a5, px_u, px_u, .long a8, px_u, px_u, px_u] [.int s5, .int s4, .int s3, .ref s2, .long s1, .long s0] ph (px_qJ r ph') := by
  unfold f_M_siteValue_200 at h
  obtain ⟨fs, h0, h⟩ := xs_some h
  have e1 := xo_some h0
  obtain ⟨t1, ph2, h0, h⟩ := xb_some h
  refine px_cV3 rfl rfl e1 rfl rfl rfl rfl rfl rfl rfl (r_M_slotOf h0 :) (fun _ _ q => nomatch q.2) (fun r ph' q => ?_)
  obtain ⟨rfl, q⟩ := q
  cases q
  refine px_alu rfl rfl rfl ?_
  refine px_alu rfl rfl rfl ?_
  refine px_alu rfl rfl rfl ?_
  refine px_goto rfl (by decide) rfl ?_
  exact (r_M_siteValue_216 h :)
def f_M_siteValue_167 (F : Nat) (a0 : Nat) (a1 : Int32) (a2 : Int32) (a3 : Int32) (a5 : Int64) (a7 : Int32) (a8 : Int64) (ph : px_H) : Option (Int64 × px_H) :=
  xb (f_M_isSlotted F a5 ph) fun t1 ph2 =>
  if t1 = 0 then
    (xo ph2 12 a0).bind fun _ =>
    xb (f_M_symbolAddress F a0 a1 a7 ph2) fun t3 ph4 =>
    f_M_siteValue_216 F a0 a1 a2 a3 a5 a8 t3 ph4
  else
    (xgJ ph2 12 79 a0).bind fun t5 =>
    if a5 = ((22 : Int64)) then
      f_M_siteValue_200 F a0 a1 a2 a3 a5 a8 t5 ((8 : Int64)) a0 a1 a7 (nI 1) ph2
    else
      f_M_siteValue_200 F a0 a1 a2 a3 a5 a8 t5 ((8 : Int64)) a0 a1 a7 (nI 0) ph2
theorem r_M_siteValue_167 {l : Launch} {g : px_G} {d F : Nat} {a0 : Nat} {a1 : Int32} {a2 : Int32} {a3 : Int32} {a5 : Int64} {a7 : Int32} {a8 : Int64} {ph : px_H} {r : Int64} {ph' : px_H} (h : f_M_siteValue_167 F a0 a1 a2 a3 a5 a7 a8 ph = some (r, ph')) : PW l g (d + 11) m_M_siteValue 167 [.ref a0, .int a1, .int a2, .int a3, px_u, .long a5, px_u, .int a7, .long a8, px_u, px_u, px_u] [] ph (px_qJ r ph') := by
  unfold f_M_siteValue_167 at h
  refine px_ld rfl rfl rfl rfl rfl ?_
  obtain ⟨t1, ph2, h0, h⟩ := xb_some h
  refine px_cS1 rfl rfl rfl rfl rfl rfl rfl (r_M_isSlotted h0 :) (fun _ _ q => nomatch q.2) (fun r ph' q => ?_)
  obtain ⟨rfl, q⟩ := q
  cases q
  refine px_ifeq rfl (by decide) rfl (fun hc => ?_) (fun hc => ?_)
  · replace h := (if_pos hc).symm.trans h
    refine px_ld rfl rfl rfl rfl rfl ?_
    refine px_ld rfl rfl rfl rfl rfl ?_
    refine px_ld rfl rfl rfl rfl rfl ?_
    obtain ⟨fs, h0, h⟩ := xs_some h
    have e1 := xo_some h0
    obtain ⟨t3, ph4, h0, h⟩ := xb_some h
    refine px_cV2 rfl rfl e1 rfl rfl rfl rfl rfl rfl rfl (r_M_symbolAddress h0 :) (fun _ _ q => nomatch q.2) (fun r ph' q => ?_)
    obtain ⟨rfl, q⟩ := q
    cases q
    refine px_forget (n := 7) (lv' := [_, _, _, _, _, _, _, _, _, _, _, _]) rfl ?_
    exact (r_M_siteValue_216 h :)
  · replace h := (if_neg hc).symm.trans h
    refine px_ld rfl rfl rfl rfl rfl ?_
    obtain ⟨t5, h0, h⟩ := xs_some h
    obtain ⟨fs, e1, e2⟩ := xgJ_some h0
    refine px_get rfl e1 e2 rfl ?_
    refine px_ldc2 rfl rfl rfl ?_
    refine px_ld rfl rfl rfl rfl rfl ?_
    refine px_ld rfl rfl rfl rfl rfl ?_
    refine px_ld rfl rfl rfl rfl rfl ?_
    refine px_ld rfl rfl rfl rfl rfl ?_
    refine px_ldc2 rfl rfl rfl ?_
    refine px_alu rfl rfl rfl ?_
    refine px_ifne rfl (by decide) rfl (fun hc => ?_) (fun hc => ?_)
    · replace h := (if_neg (fun q => hc ((lg_cmp_eq _ _).mpr q))).symm.trans h
      refine px_ic (k := 0) rfl rfl rfl ?_
      refine px_forget (n := 7) (lv' := [_, _, _, _, _, _, _, _, _, _, _, _]) rfl ?_
      exact (r_M_siteValue_200 h :)
    · replace h := (if_pos ((lg_cmp_eq _ _).mp hc)).symm.trans h
      refine px_ic (k := 1) rfl rfl rfl ?_
      refine px_goto rfl (by decide) rfl ?_
      refine px_forget (n := 7) (lv' := [_, _, _, _, _, _, _, _, _, _, _, _]) rfl ?_
      exact (r_M_siteValue_200 h :)
def f_M_siteValue_122 (F : Nat) (a0 : Nat) (a1 : Int32) (a2 : Int32) (a3 : Int32) (a5 : Int64) (a7 : Int32) (a8 : Int64) (ph : px_H) : Option (Int64 × px_H) :=
  (xo ph 12 a0).bind fun _ =>
  xb (f_M_isOfStrings F a0 a1 a7 ph) fun t1 ph2 =>
  if t1 = 0 then
    f_M_siteValue_167 F a0 a1 a2 a3 a5 a7 a8 ph2
  else
    (xo ph2 12 a0).bind fun _ =>
    xb (f_M_object F a0 a1 ph2) fun t3 ph4 =>
    (xo ph4 12 a0).bind fun _ =>
    xb (f_M_object F a0 a1 ph4) fun t5 ph6 =>
    (xo ph6 12 a0).bind fun _ =>
    xb (f_M_where F a0 t5 a7 ph6) fun t7 ph8 =>
    (xo ph8 12 a0).bind fun _ =>
    xb (f_M_object F a0 a1 ph8) fun t9 ph10 =>
    (xo ph10 12 a0).bind fun _ =>
    xb (f_M_value F a0 t9 a7 ph10) fun t11 ph12 =>
    (xo ph12 12 a0).bind fun _ =>
    xb (f_M_byteAddress F a0 t3 t7 (t11 + a8) ph12) fun t13 ph14 =>
    some (t13, ph14)
theorem r_M_siteValue_122 {l : Launch} {g : px_G} {d F : Nat} {a0 : Nat} {a1 : Int32} {a2 : Int32} {a3 : Int32} {a5 : Int64} {a7 : Int32} {a8 : Int64} {ph : px_H} {r : Int64} {ph' : px_H} (h : f_M_siteValue_122 F a0 a1 a2 a3 a5 a7 a8 ph = some (r, ph')) : PW l g (d + 11) m_M_siteValue 122 [.ref a0, .int a1, .int a2, .int a3, px_u, .long a5, px_u, .int a7, .long a8, px_u, px_u, px_u] [] ph (px_qJ r ph') := by
  unfold f_M_siteValue_122 at h
  refine px_ld rfl rfl rfl rfl rfl ?_
  refine px_ld rfl rfl rfl rfl rfl ?_
  refine px_ld rfl rfl rfl rfl rfl ?_
  obtain ⟨fs, h0, h⟩ := xs_some h
  have e1 := xo_some h0
  obtain ⟨t1, ph2, h0, h⟩ := xb_some h
  refine px_cV2 rfl rfl e1 rfl rfl rfl rfl rfl rfl rfl (r_M_isOfStrings h0 :) (fun _ _ q => nomatch q.2) (fun r ph' q => ?_)
  obtain ⟨rfl, q⟩ := q
  cases q
  refine px_ifeq rfl (by decide) rfl (fun hc => ?_) (fun hc => ?_)
  · replace h := (if_pos hc).symm.trans h
    exact (r_M_siteValue_167 h :)
  · replace h := (if_neg hc).symm.trans h
    refine px_ld rfl rfl rfl rfl rfl ?_
    refine px_ld rfl rfl rfl rfl rfl ?_
    refine px_ld rfl rfl rfl rfl rfl ?_
    obtain ⟨fs, h0, h⟩ := xs_some h
    have e1 := xo_some h0
    obtain ⟨t3, ph4, h0, h⟩ := xb_some h
    refine px_cV1 rfl rfl e1 rfl rfl rfl rfl rfl rfl rfl (r_M_object h0 :) (fun _ _ q => nomatch q.2) (fun r ph' q => ?_)
    obtain ⟨rfl, q⟩ := q
    cases q
    refine px_ld rfl rfl rfl rfl rfl ?_
    refine px_ld rfl rfl rfl rfl rfl ?_
    refine px_ld rfl rfl rfl rfl rfl ?_
    obtain ⟨fs, h0, h⟩ := xs_some h
    have e1 := xo_some h0
    obtain ⟨t5, ph6, h0, h⟩ := xb_some h
    refine px_cV1 rfl rfl e1 rfl rfl rfl rfl rfl rfl rfl (r_M_object h0 :) (fun _ _ q => nomatch q.2) (fun r ph' q => ?_)
    obtain ⟨rfl, q⟩ := q
    cases q
    refine px_ld rfl rfl rfl rfl rfl ?_
    obtain ⟨fs, h0, h⟩ := xs_some h
    have e1 := xo_some h0
    obtain ⟨t7, ph8, h0, h⟩ := xb_some h
    refine px_cV2 rfl rfl e1 rfl rfl rfl rfl rfl rfl rfl (r_M_where h0 :) (fun _ _ q => nomatch q.2) (fun r ph' q => ?_)
    obtain ⟨rfl, q⟩ := q
    cases q
    refine px_ld rfl rfl rfl rfl rfl ?_
    refine px_ld rfl rfl rfl rfl rfl ?_
    refine px_ld rfl rfl rfl rfl rfl ?_
    obtain ⟨fs, h0, h⟩ := xs_some h
    have e1 := xo_some h0
    obtain ⟨t9, ph10, h0, h⟩ := xb_some h
    refine px_cV1 rfl rfl e1 rfl rfl rfl rfl rfl rfl rfl (r_M_object h0 :) (fun _ _ q => nomatch q.2) (fun r ph' q => ?_)
    obtain ⟨rfl, q⟩ := q
    cases q
    refine px_ld rfl rfl rfl rfl rfl ?_
    obtain ⟨fs, h0, h⟩ := xs_some h
    have e1 := xo_some h0
    obtain ⟨t11, ph12, h0, h⟩ := xb_some h
    refine px_cV2 rfl rfl e1 rfl rfl rfl rfl rfl rfl rfl (r_M_value h0 :) (fun _ _ q => nomatch q.2) (fun r ph' q => ?_)
    obtain ⟨rfl, q⟩ := q
    cases q
    refine px_ld rfl rfl rfl rfl rfl ?_
    refine px_alu rfl rfl rfl ?_
    obtain ⟨fs, h0, h⟩ := xs_some h
    have e1 := xo_some h0
    obtain ⟨t13, ph14, h0, h⟩ := xb_some h
    refine px_cV3 rfl rfl e1 rfl rfl rfl rfl rfl rfl rfl (r_M_byteAddress h0 :) (fun _ _ q => nomatch q.2) (fun r ph' q => ?_)
    obtain ⟨rfl, q⟩ := q
    cases q
    cases h
    exact px_lret rfl rfl rfl ⟨rfl, rfl⟩
def f_M_siteValue_95 (F : Nat) (s0 : Int64) (s1 : Int64) (ph : px_H) : Option (Int64 × px_H) :=
  some (s0 + s1, ph)
theorem r_M_siteValue_95 {l : Launch} {g : px_G} {d F : Nat} {s0 : Int64} {s1 : Int64} {ph : px_H} {r : Int64} {ph' : px_H} (h : f_M_siteValue_95 F s0 s1 ph = some (r, ph')) : PW l g (d + 11) m_M_siteValue 95 [px_u, px_u, px_u, px_u, px_u, px_u, px_u, px_u, px_u, px_u, px_u, px_u] [.long s1, .long s0] ph (px_qJ r ph') := by
  unfold f_M_siteValue_95 at h
  refine px_alu rfl rfl rfl ?_
  cases h
  exact px_lret rfl rfl rfl ⟨rfl, rfl⟩
def f_M_siteValue (F : Nat) (a0 : Nat) (a1 : Int32) (a2 : Int32) (a3 : Int32) (ph : px_H) : Option (Int64 × px_H) :=
  (xo ph 12 a0).bind fun _ =>
  xb (f_M_object F a0 a1 ph) fun t1 ph2 =>
  (xo ph2 12 a0).bind fun _ =>
  xb (f_M_site F a0 t1 a2 a3 ph2) fun t3 ph4 =>
  (xo ph4 12 a0).bind fun _ =>
  xb (f_M_num F a0 (t3 + (nI 8)) (nI 4) ph4) fun t5 ph6 =>
  (xo ph6 12 a0).bind fun _ =>
  xb (f_M_num F a0 (t3 + (nI 12)) (nI 4) ph6) fun t7 ph8 =>
  (xo ph8 12 a0).bind fun _ =>
  xb (f_M_num F a0 (t3 + (nI 16)) (nI 8) ph8) fun t9 ph10 =>
  (xo ph10 12 a0).bind fun _ =>
  xb (f_M_isShort F a0 a1 a2 a3 ph10) fun t11 ph12 =>
  if t11 = 0 then
    if t5 = (lN 1) then
      f_M_siteValue_122 F a0 a1 a2 a3 t5 t7.toInt32 t9 ph12
    else
      if t5 = ((10 : Int64)) then
        f_M_siteValue_122 F a0 a1 a2 a3 t5 t7.toInt32 t9 ph12
      else
        if t5 = ((11 : Int64)) then
          f_M_siteValue_122 F a0 a1 a2 a3 t5 t7.toInt32 t9 ph12
        else
          f_M_siteValue_167 F a0 a1 a2 a3 t5 t7.toInt32 t9 ph12
  else
    (xo ph12 12 a0).bind fun _ =>
    xb (f_M_symbolAddress F a0 a1 t7.toInt32 ph12) fun t13 ph14 =>
    (xo ph14 12 a0).bind fun _ =>
    xb (f_M_siteAddress F a0 a1 a2 a3 ph14) fun t15 ph16 =>
    (xo ph16 12 a0).bind fun _ =>
    xb (f_M_shortKind F a0 a1 a2 a3 ph16) fun t17 ph18 =>
    if t17 = (nI 3) then
      f_M_siteValue_95 F ((t13 + t9) - t15) (lN 1) ph18
    else
      f_M_siteValue_95 F ((t13 + t9) - t15) (lN 0) ph18
theorem r_M_siteValue {l : Launch} {g : px_G} {d F : Nat} {a0 : Nat} {a1 : Int32} {a2 : Int32} {a3 : Int32} {ph : px_H} {r : Int64} {ph' : px_H} (h : f_M_siteValue F a0 a1 a2 a3 ph = some (r, ph')) : PW l g (d + 11) m_M_siteValue 0 [.ref a0, .int a1, .int a2, .int a3, px_u, px_u, px_u, px_u, px_u, px_u, px_u, px_u] [] ph (px_qJ r ph') := by
  unfold f_M_siteValue at h
  refine px_ld rfl rfl rfl rfl rfl ?_
  refine px_ld rfl rfl rfl rfl rfl ?_
  refine px_ld rfl rfl rfl rfl rfl ?_
  obtain ⟨fs, h0, h⟩ := xs_some h
  have e1 := xo_some h0
  obtain ⟨t1, ph2, h0, h⟩ := xb_some h
  refine px_cV1 rfl rfl e1 rfl rfl rfl rfl rfl rfl rfl (r_M_object h0 :) (fun _ _ q => nomatch q.2) (fun r ph' q => ?_)
  obtain ⟨rfl, q⟩ := q
  cases q
  refine px_ld rfl rfl rfl rfl rfl ?_
  refine px_ld rfl rfl rfl rfl rfl ?_
  obtain ⟨fs, h0, h⟩ := xs_some h
  have e1 := xo_some h0
  obtain ⟨t3, ph4, h0, h⟩ := xb_some h
  refine px_cV3 rfl rfl e1 rfl rfl rfl rfl rfl rfl rfl (r_M_site h0 :) (fun _ _ q => nomatch q.2) (fun r ph' q => ?_)
  obtain ⟨rfl, q⟩ := q
  cases q
  refine px_st (lv' := [_, _, _, _, _, _, _, _, _, _, _, _]) rfl rfl rfl rfl rfl rfl rfl ?_
  refine px_ld rfl rfl rfl rfl rfl ?_
  refine px_ld rfl rfl rfl rfl rfl ?_
  refine px_ic (k := 8) rfl rfl rfl ?_
  refine px_alu rfl rfl rfl ?_
  refine px_ic (k := 4) rfl rfl rfl ?_
  obtain ⟨fs, h0, h⟩ := xs_some h
  have e1 := xo_some h0
  obtain ⟨t5, ph6, h0, h⟩ := xb_some h
  refine px_cV2 rfl rfl e1 rfl rfl rfl rfl rfl rfl rfl (r_M_num h0 :) (fun _ _ q => nomatch q.2) (fun r ph' q => ?_)
  obtain ⟨rfl, q⟩ := q
  cases q
  refine px_st (lv' := [_, _, _, _, _, _, _, _, _, _, _, _]) rfl rfl rfl rfl rfl rfl rfl ?_
  refine px_ld rfl rfl rfl rfl rfl ?_
  refine px_ld rfl rfl rfl rfl rfl ?_
  refine px_ic (k := 12) rfl rfl rfl ?_
  refine px_alu rfl rfl rfl ?_
  refine px_ic (k := 4) rfl rfl rfl ?_
  obtain ⟨fs, h0, h⟩ := xs_some h
  have e1 := xo_some h0
  obtain ⟨t7, ph8, h0, h⟩ := xb_some h
  refine px_cV2 rfl rfl e1 rfl rfl rfl rfl rfl rfl rfl (r_M_num h0 :) (fun _ _ q => nomatch q.2) (fun r ph' q => ?_)
  obtain ⟨rfl, q⟩ := q
  cases q
  refine px_alu rfl rfl rfl ?_
  refine px_st (lv' := [_, _, _, _, _, _, _, _, _, _, _, _]) rfl rfl rfl rfl rfl rfl rfl ?_
  refine px_ld rfl rfl rfl rfl rfl ?_
  refine px_ld rfl rfl rfl rfl rfl ?_
  refine px_ic (k := 16) rfl rfl rfl ?_
  refine px_alu rfl rfl rfl ?_
  refine px_ic (k := 8) rfl rfl rfl ?_
  obtain ⟨fs, h0, h⟩ := xs_some h
  have e1 := xo_some h0
  obtain ⟨t9, ph10, h0, h⟩ := xb_some h
  refine px_cV2 rfl rfl e1 rfl rfl rfl rfl rfl rfl rfl (r_M_num h0 :) (fun _ _ q => nomatch q.2) (fun r ph' q => ?_)
  obtain ⟨rfl, q⟩ := q
  cases q
  refine px_st (lv' := [_, _, _, _, _, _, _, _, _, _, _, _]) rfl rfl rfl rfl rfl rfl rfl ?_
  refine px_ld rfl rfl rfl rfl rfl ?_
  refine px_ld rfl rfl rfl rfl rfl ?_
  refine px_ld rfl rfl rfl rfl rfl ?_
  refine px_ld rfl rfl rfl rfl rfl ?_
  obtain ⟨fs, h0, h⟩ := xs_some h
  have e1 := xo_some h0
  obtain ⟨t11, ph12, h0, h⟩ := xb_some h
  refine px_cV3 rfl rfl e1 rfl rfl rfl rfl rfl rfl rfl (r_M_isShort h0 :) (fun _ _ q => nomatch q.2) (fun r ph' q => ?_)
  obtain ⟨rfl, q⟩ := q
  cases q
  refine px_ifeq rfl (by decide) rfl (fun hc => ?_) (fun hc => ?_)
  · replace h := (if_pos hc).symm.trans h
    refine px_ld rfl rfl rfl rfl rfl ?_
    refine px_alu rfl rfl rfl ?_
    refine px_alu rfl rfl rfl ?_
    refine px_ifeq rfl (by decide) rfl (fun hc => ?_) (fun hc => ?_)
    · replace h := (if_pos ((lg_cmp_eq _ _).mp hc)).symm.trans h
      refine px_forget (n := 4) (lv' := [_, _, _, _, _, _, _, _, _, _, _, _]) rfl ?_
      exact (r_M_siteValue_122 h :)
    · replace h := (if_neg (fun q => hc ((lg_cmp_eq _ _).mpr q))).symm.trans h
      refine px_ld rfl rfl rfl rfl rfl ?_
      refine px_ldc2 rfl rfl rfl ?_
      refine px_alu rfl rfl rfl ?_
      refine px_ifeq rfl (by decide) rfl (fun hc => ?_) (fun hc => ?_)
      · replace h := (if_pos ((lg_cmp_eq _ _).mp hc)).symm.trans h
        refine px_forget (n := 4) (lv' := [_, _, _, _, _, _, _, _, _, _, _, _]) rfl ?_
        exact (r_M_siteValue_122 h :)
      · replace h := (if_neg (fun q => hc ((lg_cmp_eq _ _).mpr q))).symm.trans h
        refine px_ld rfl rfl rfl rfl rfl ?_
        refine px_ldc2 rfl rfl rfl ?_
        refine px_alu rfl rfl rfl ?_
        refine px_ifne rfl (by decide) rfl (fun hc => ?_) (fun hc => ?_)
        · replace h := (if_neg (fun q => hc ((lg_cmp_eq _ _).mpr q))).symm.trans h
          refine px_forget (n := 4) (lv' := [_, _, _, _, _, _, _, _, _, _, _, _]) rfl ?_
          exact (r_M_siteValue_167 h :)
        · replace h := (if_pos ((lg_cmp_eq _ _).mp hc)).symm.trans h
          refine px_forget (n := 4) (lv' := [_, _, _, _, _, _, _, _, _, _, _, _]) rfl ?_
          exact (r_M_siteValue_122 h :)
  · replace h := (if_neg hc).symm.trans h
    refine px_ld rfl rfl rfl rfl rfl ?_
    refine px_ld rfl rfl rfl rfl rfl ?_
    refine px_ld rfl rfl rfl rfl rfl ?_
    obtain ⟨fs, h0, h⟩ := xs_some h
    have e1 := xo_some h0
    obtain ⟨t13, ph14, h0, h⟩ := xb_some h
    refine px_cV2 rfl rfl e1 rfl rfl rfl rfl rfl rfl rfl (r_M_symbolAddress h0 :) (fun _ _ q => nomatch q.2) (fun r ph' q => ?_)
    obtain ⟨rfl, q⟩ := q
    cases q
    refine px_ld rfl rfl rfl rfl rfl ?_
    refine px_alu rfl rfl rfl ?_
    refine px_ld rfl rfl rfl rfl rfl ?_
    refine px_ld rfl rfl rfl rfl rfl ?_
    refine px_ld rfl rfl rfl rfl rfl ?_
    refine px_ld rfl rfl rfl rfl rfl ?_
    obtain ⟨fs, h0, h⟩ := xs_some h
    have e1 := xo_some h0
    obtain ⟨t15, ph16, h0, h⟩ := xb_some h
    refine px_cV3 rfl rfl e1 rfl rfl rfl rfl rfl rfl rfl (r_M_siteAddress h0 :) (fun _ _ q => nomatch q.2) (fun r ph' q => ?_)
    obtain ⟨rfl, q⟩ := q
    cases q
    refine px_alu rfl rfl rfl ?_
    refine px_ld rfl rfl rfl rfl rfl ?_
    refine px_ld rfl rfl rfl rfl rfl ?_
    refine px_ld rfl rfl rfl rfl rfl ?_
    refine px_ld rfl rfl rfl rfl rfl ?_
    obtain ⟨fs, h0, h⟩ := xs_some h
    have e1 := xo_some h0
    obtain ⟨t17, ph18, h0, h⟩ := xb_some h
    refine px_cV3 rfl rfl e1 rfl rfl rfl rfl rfl rfl rfl (r_M_shortKind h0 :) (fun _ _ q => nomatch q.2) (fun r ph' q => ?_)
    obtain ⟨rfl, q⟩ := q
    cases q
    refine px_ic (k := 3) rfl rfl rfl ?_
    refine px_icne rfl (by decide) rfl (fun hc => ?_) (fun hc => ?_)
    · replace h := (if_neg hc).symm.trans h
      refine px_alu rfl rfl rfl ?_
      refine px_forget (n := 0) (lv' := [_, _, _, _, _, _, _, _, _, _, _, _]) rfl ?_
      refine px_forget (n := 1) (lv' := [_, _, _, _, _, _, _, _, _, _, _, _]) rfl ?_
      refine px_forget (n := 2) (lv' := [_, _, _, _, _, _, _, _, _, _, _, _]) rfl ?_
      refine px_forget (n := 3) (lv' := [_, _, _, _, _, _, _, _, _, _, _, _]) rfl ?_
      refine px_forget (n := 4) (lv' := [_, _, _, _, _, _, _, _, _, _, _, _]) rfl ?_
      refine px_forget (n := 5) (lv' := [_, _, _, _, _, _, _, _, _, _, _, _]) rfl ?_
      refine px_forget (n := 7) (lv' := [_, _, _, _, _, _, _, _, _, _, _, _]) rfl ?_
      refine px_forget (n := 8) (lv' := [_, _, _, _, _, _, _, _, _, _, _, _]) rfl ?_
      exact (r_M_siteValue_95 h :)
    · replace h := (if_pos hc).symm.trans h
      refine px_alu rfl rfl rfl ?_
      refine px_goto rfl (by decide) rfl ?_
      refine px_forget (n := 0) (lv' := [_, _, _, _, _, _, _, _, _, _, _, _]) rfl ?_
      refine px_forget (n := 1) (lv' := [_, _, _, _, _, _, _, _, _, _, _, _]) rfl ?_
      refine px_forget (n := 2) (lv' := [_, _, _, _, _, _, _, _, _, _, _, _]) rfl ?_
      refine px_forget (n := 3) (lv' := [_, _, _, _, _, _, _, _, _, _, _, _]) rfl ?_
      refine px_forget (n := 4) (lv' := [_, _, _, _, _, _, _, _, _, _, _, _]) rfl ?_
      refine px_forget (n := 5) (lv' := [_, _, _, _, _, _, _, _, _, _, _, _]) rfl ?_
      refine px_forget (n := 7) (lv' := [_, _, _, _, _, _, _, _, _, _, _, _]) rfl ?_
      refine px_forget (n := 8) (lv' := [_, _, _, _, _, _, _, _, _, _, _, _]) rfl ?_
      exact (r_M_siteValue_95 h :)
def f_M_put_34 (F : Nat) (ph : px_H) : Option (Unit × px_H) :=
  some ((), ph)
theorem r_M_put_34 {l : Launch} {g : px_G} {d F : Nat} {ph : px_H} {r : Unit} {ph' : px_H} (h : f_M_put_34 F ph = some (r, ph')) : PW l g (d + 0) m_M_put 34 [px_u, px_u, px_u, px_u, px_u, px_u] [] ph (px_qV r ph') := by
  unfold f_M_put_34 at h
  cases h
  exact px_vret rfl rfl rfl ⟨rfl, rfl⟩
def f_M_put_3 (F : Nat) : Nat → Nat → Int32 → Int64 → Int32 → Int32 → px_H → Option (Unit × px_H)
  | 0, _, _, _, _, _, _ => none
  | n + 1, a0, a1, a2, a4, a5, ph =>
    if a4 ≤ a5 then
      f_M_put_34 F ph
    else
      (xgR ph 12 3 a0).bind fun t1 =>
      (xsI ph 0 t1 (a1 + a5) ((((a2 >>> (((nI 8) * a5).toInt64 &&& 63)).toInt32).toInt8.toInt32).toInt8.toInt32)).bind fun ph2 =>
      f_M_put_3 F n a0 a1 a2 a4 (a5 + nI 1) ph2
theorem r_M_put_3 {l : Launch} {g : px_G} {d F : Nat} : ∀ (n : Nat) {a0 : Nat} {a1 : Int32} {a2 : Int64} {a4 : Int32} {a5 : Int32} {ph : px_H} {r : Unit} {ph' : px_H}, f_M_put_3 F n a0 a1 a2 a4 a5 ph = some (r, ph') → PW l g (d + 0) m_M_put 3 [.ref a0, .int a1, .long a2, px_u, .int a4, .int a5] [] ph (px_qV r ph') := by
  intro n
  induction n with
  | zero => intro _ _ _ _ _ _ _ _ h; cases h
  | succ n ih =>
    intro a0 a1 a2 a4 a5 ph r ph' h
    unfold f_M_put_3 at h
    refine px_ld rfl rfl rfl rfl rfl ?_
    refine px_ld rfl rfl rfl rfl rfl ?_
    refine px_icge rfl rfl rfl (fun hc => ?_) (fun hc => ?_)
    · replace h := (if_pos hc).symm.trans h
      refine px_forget (n := 0) (lv' := [_, _, _, _, _, _]) rfl ?_
      refine px_forget (n := 1) (lv' := [_, _, _, _, _, _]) rfl ?_
      refine px_forget (n := 2) (lv' := [_, _, _, _, _, _]) rfl ?_
      refine px_forget (n := 4) (lv' := [_, _, _, _, _, _]) rfl ?_
      refine px_forget (n := 5) (lv' := [_, _, _, _, _, _]) rfl ?_
      exact (r_M_put_34 h :)
    · replace h := (if_neg hc).symm.trans h
      refine px_ld rfl rfl rfl rfl rfl ?_
      obtain ⟨t1, h0, h⟩ := xs_some h
      obtain ⟨fs, e1, e2⟩ := xgR_some h0
      refine px_get rfl e1 e2 rfl ?_
      refine px_ld rfl rfl rfl rfl rfl ?_
      refine px_ld rfl rfl rfl rfl rfl ?_
      refine px_alu rfl rfl rfl ?_
      refine px_ld rfl rfl rfl rfl rfl ?_
      refine px_ic (k := 8) rfl rfl rfl ?_
      refine px_ld rfl rfl rfl rfl rfl ?_
      refine px_alu rfl rfl rfl ?_
      refine px_alu rfl rfl rfl ?_
      refine px_alu rfl rfl rfl ?_
      refine px_alu rfl rfl rfl ?_
      obtain ⟨ph2, h0, h⟩ := xs_some h
      obtain ⟨N, f, e1, e2, e3⟩ := xsI_some h0
      subst e3
      refine px_bast rfl e1 rfl e2 rfl ?_
      refine px_iinc (lv' := [_, _, _, _, _, _]) rfl rfl rfl rfl rfl rfl ?_
      refine px_goto rfl rfl rfl ?_
      exact (ih h :)
def f_M_put (F : Nat) (a0 : Nat) (a1 : Int32) (a2 : Int64) (a4 : Int32) (ph : px_H) : Option (Unit × px_H) :=
  f_M_put_3 F F a0 a1 a2 a4 (nI 0) ph
theorem r_M_put {l : Launch} {g : px_G} {d F : Nat} {a0 : Nat} {a1 : Int32} {a2 : Int64} {a4 : Int32} {ph : px_H} {r : Unit} {ph' : px_H} (h : f_M_put F a0 a1 a2 a4 ph = some (r, ph')) : PW l g (d + 0) m_M_put 0 [.ref a0, .int a1, .long a2, px_u, .int a4, px_u] [] ph (px_qV r ph') := by
  unfold f_M_put at h
  refine px_ic (k := 0) rfl rfl rfl ?_
  refine px_st (lv' := [_, _, _, _, _, _]) rfl rfl rfl rfl rfl rfl rfl ?_
  exact (r_M_put_3 _ h :)
def f_M_fillSite_53 (F : Nat) (a0 : Nat) (a1 : Int32) (a5 : Int32) (ph : px_H) : Option (Unit × px_H) :=
  if a5 = (nI 3) then
    (xgR ph 12 3 a0).bind fun t1 =>
    (xsI ph 0 t1 (a1 - (nI 2)) (((Int8.ofInt (-23)).toInt32).toInt8.toInt32)).bind fun ph2 =>
    (xgR ph2 12 3 a0).bind fun t3 =>
    (xsI ph2 0 t3 (a1 + (nI 3)) (((Int8.ofInt (-112)).toInt32).toInt8.toInt32)).bind fun ph4 =>
    some ((), ph4)
  else
    some ((), ph)
theorem r_M_fillSite_53 {l : Launch} {g : px_G} {d F : Nat} {a0 : Nat} {a1 : Int32} {a5 : Int32} {ph : px_H} {r : Unit} {ph' : px_H} (h : f_M_fillSite_53 F a0 a1 a5 ph = some (r, ph')) : PW l g (d + 1) m_M_fillSite 53 [.ref a0, .int a1, px_u, px_u, px_u, .int a5] [] ph (px_qV r ph') := by
  unfold f_M_fillSite_53 at h
  refine px_ld rfl rfl rfl rfl rfl ?_
  refine px_ic (k := 3) rfl rfl rfl ?_
  refine px_iceq rfl rfl rfl (fun hc => ?_) (fun hc => ?_)
  · replace h := (if_pos hc).symm.trans h
    refine px_ld rfl rfl rfl rfl rfl ?_
    obtain ⟨t1, h0, h⟩ := xs_some h
    obtain ⟨fs, e1, e2⟩ := xgR_some h0
    refine px_get rfl e1 e2 rfl ?_
    refine px_ld rfl rfl rfl rfl rfl ?_
    refine px_ic (k := 2) rfl rfl rfl ?_
    refine px_alu rfl rfl rfl ?_
    refine px_alu rfl rfl rfl ?_
    obtain ⟨ph2, h0, h⟩ := xs_some h
    obtain ⟨N, f, e1, e2, e3⟩ := xsI_some h0
    subst e3
    refine px_bast rfl e1 rfl e2 rfl ?_
    refine px_ld rfl rfl rfl rfl rfl ?_
    obtain ⟨t3, h0, h⟩ := xs_some h
    obtain ⟨fs, e1, e2⟩ := xgR_some h0
    refine px_get rfl e1 e2 rfl ?_
    refine px_ld rfl rfl rfl rfl rfl ?_
    refine px_ic (k := 3) rfl rfl rfl ?_
    refine px_alu rfl rfl rfl ?_
    refine px_alu rfl rfl rfl ?_
    obtain ⟨ph4, h0, h⟩ := xs_some h
    obtain ⟨N, f, e1, e2, e3⟩ := xsI_some h0
    subst e3
    refine px_bast rfl e1 rfl e2 rfl ?_
    cases h
    exact px_vret rfl rfl rfl ⟨rfl, rfl⟩
  · replace h := (if_neg hc).symm.trans h
    cases h
    exact px_vret rfl rfl rfl ⟨rfl, rfl⟩
def f_M_fillSite_36 (F : Nat) (a0 : Nat) (a1 : Int32) (a5 : Int32) (ph : px_H) : Option (Unit × px_H) :=
  if a5 = (nI 2) then
    (xo ph 12 a0).bind fun _ =>
    xb (f_M_put F a0 (a1 - (nI 2)) ((59495 : Int64)) (nI 2) ph) fun _ ph1 =>
    f_M_fillSite_53 F a0 a1 a5 ph1
  else
    f_M_fillSite_53 F a0 a1 a5 ph
theorem r_M_fillSite_36 {l : Launch} {g : px_G} {d F : Nat} {a0 : Nat} {a1 : Int32} {a5 : Int32} {ph : px_H} {r : Unit} {ph' : px_H} (h : f_M_fillSite_36 F a0 a1 a5 ph = some (r, ph')) : PW l g (d + 1) m_M_fillSite 36 [.ref a0, .int a1, px_u, px_u, px_u, .int a5] [] ph (px_qV r ph') := by
  unfold f_M_fillSite_36 at h
  refine px_ld rfl rfl rfl rfl rfl ?_
  refine px_ic (k := 2) rfl rfl rfl ?_
  refine px_icne rfl rfl rfl (fun hc => ?_) (fun hc => ?_)
  · replace h := (if_neg hc).symm.trans h
    exact (r_M_fillSite_53 h :)
  · replace h := (if_pos hc).symm.trans h
    refine px_ld rfl rfl rfl rfl rfl ?_
    refine px_ld rfl rfl rfl rfl rfl ?_
    refine px_ic (k := 2) rfl rfl rfl ?_
    refine px_alu rfl rfl rfl ?_
    refine px_ldc2 rfl rfl rfl ?_
    refine px_ic (k := 2) rfl rfl rfl ?_
    obtain ⟨fs, h0, h⟩ := xs_some h
    have e1 := xo_some h0
    obtain ⟨u0, ph1, h0, h⟩ := xb_some h
    refine px_cV3 rfl rfl e1 rfl rfl rfl rfl rfl rfl rfl (r_M_put h0 :) (fun _ _ q => nomatch q.2) (fun r ph' q => ?_)
    obtain ⟨rfl, q⟩ := q
    cases q
    exact (r_M_fillSite_53 h :)
def f_M_fillSite_14 (F : Nat) (a0 : Nat) (a1 : Int32) (a2 : Int64) (a4 : Int32) (a5 : Int32) (s0 : Nat) (s1 : Int32) (ph : px_H) : Option (Unit × px_H) :=
  (xo ph 12 s0).bind fun _ =>
  xb (f_M_put F s0 s1 a2 a4 ph) fun _ ph1 =>
  if a5 = (nI 1) then
    (xgR ph1 12 3 a0).bind fun t2 =>
    (xsI ph1 0 t2 (a1 - (nI 2)) (((Int8.ofInt (-115)).toInt32).toInt8.toInt32)).bind fun ph3 =>
    f_M_fillSite_36 F a0 a1 a5 ph3
  else
    f_M_fillSite_36 F a0 a1 a5 ph1
theorem r_M_fillSite_14 {l : Launch} {g : px_G} {d F : Nat} {a0 : Nat} {a1 : Int32} {a2 : Int64} {a4 : Int32} {a5 : Int32} {s0 : Nat} {s1 : Int32} {ph : px_H} {r : Unit} {ph' : px_H} (h : f_M_fillSite_14 F a0 a1 a2 a4 a5 s0 s1 ph = some (r, ph')) : PW l g (d + 1) m_M_fillSite 14 [.ref a0, .int a1, .long a2, px_u, .int a4, .int a5] [.int s1, .ref s0] ph (px_qV r ph') := by
  unfold f_M_fillSite_14 at h
  refine px_ld rfl rfl rfl rfl rfl ?_
  refine px_ld rfl rfl rfl rfl rfl ?_
  obtain ⟨fs, h0, h⟩ := xs_some h
  have e1 := xo_some h0
  obtain ⟨u0, ph1, h0, h⟩ := xb_some h
  refine px_cV3 rfl rfl e1 rfl rfl rfl rfl rfl rfl rfl (r_M_put h0 :) (fun _ _ q => nomatch q.2) (fun r ph' q => ?_)
  obtain ⟨rfl, q⟩ := q
  cases q
  refine px_ld rfl rfl rfl rfl rfl ?_
  refine px_ic (k := 1) rfl rfl rfl ?_
  refine px_icne rfl rfl rfl (fun hc => ?_) (fun hc => ?_)
  · replace h := (if_neg hc).symm.trans h
    refine px_forget (n := 2) (lv' := [_, _, _, _, _, _]) rfl ?_
    refine px_forget (n := 4) (lv' := [_, _, _, _, _, _]) rfl ?_
    exact (r_M_fillSite_36 h :)
  · replace h := (if_pos hc).symm.trans h
    refine px_ld rfl rfl rfl rfl rfl ?_
    obtain ⟨t2, h0, h⟩ := xs_some h
    obtain ⟨fs, e1, e2⟩ := xgR_some h0
    refine px_get rfl e1 e2 rfl ?_
    refine px_ld rfl rfl rfl rfl rfl ?_
    refine px_ic (k := 2) rfl rfl rfl ?_
    refine px_alu rfl rfl rfl ?_
    refine px_alu rfl rfl rfl ?_
    obtain ⟨ph3, h0, h⟩ := xs_some h
    obtain ⟨N, f, e1, e2, e3⟩ := xsI_some h0
    subst e3
    refine px_bast rfl e1 rfl e2 rfl ?_
    refine px_forget (n := 2) (lv' := [_, _, _, _, _, _]) rfl ?_
    refine px_forget (n := 4) (lv' := [_, _, _, _, _, _]) rfl ?_
    exact (r_M_fillSite_36 h :)
def f_M_fillSite (F : Nat) (a0 : Nat) (a1 : Int32) (a2 : Int64) (a4 : Int32) (a5 : Int32) (ph : px_H) : Option (Unit × px_H) :=
  if a5 = (nI 3) then
    f_M_fillSite_14 F a0 a1 a2 a4 a5 a0 (a1 - (nI 1)) ph
  else
    f_M_fillSite_14 F a0 a1 a2 a4 a5 a0 a1 ph
theorem r_M_fillSite {l : Launch} {g : px_G} {d F : Nat} {a0 : Nat} {a1 : Int32} {a2 : Int64} {a4 : Int32} {a5 : Int32} {ph : px_H} {r : Unit} {ph' : px_H} (h : f_M_fillSite F a0 a1 a2 a4 a5 ph = some (r, ph')) : PW l g (d + 1) m_M_fillSite 0 [.ref a0, .int a1, .long a2, px_u, .int a4, .int a5] [] ph (px_qV r ph') := by
  unfold f_M_fillSite at h
  refine px_ld rfl rfl rfl rfl rfl ?_
  refine px_ld rfl rfl rfl rfl rfl ?_
  refine px_ic (k := 3) rfl rfl rfl ?_
  refine px_icne rfl rfl rfl (fun hc => ?_) (fun hc => ?_)
  · replace h := (if_neg hc).symm.trans h
    refine px_ld rfl rfl rfl rfl rfl ?_
    exact (r_M_fillSite_14 h :)
  · replace h := (if_pos hc).symm.trans h
    refine px_ld rfl rfl rfl rfl rfl ?_
    refine px_ic (k := 1) rfl rfl rfl ?_
    refine px_alu rfl rfl rfl ?_
    refine px_goto rfl rfl rfl ?_
    exact (r_M_fillSite_14 h :)
def f_M_runsOver_64 (F : Nat) (s0 : Int32) (ph : px_H) : Option (Int32 × px_H) :=
  xz s0 ph
theorem r_M_runsOver_64 {l : Launch} {g : px_G} {d F : Nat} {s0 : Int32} {ph : px_H} {r : Int32} {ph' : px_H} (h : f_M_runsOver_64 F s0 ph = some (r, ph')) : PW l g (d + 0) m_M_runsOver 64 [px_u, px_u, px_u, px_u, px_u] [.int s0] ph (px_qI r ph') := by
  unfold f_M_runsOver_64 at h
  obtain ⟨e0, e1, e2⟩ := xz_some h
  subst e1 e2
  exact px_iret rfl (Or.inr ⟨rfl, e0⟩) rfl ⟨rfl, rfl⟩
def f_M_runsOver_59 (F : Nat) (ph : px_H) : Option (Int32 × px_H) :=
  f_M_runsOver_64 F (nI 1) ph
theorem r_M_runsOver_59 {l : Launch} {g : px_G} {d F : Nat} {ph : px_H} {r : Int32} {ph' : px_H} (h : f_M_runsOver_59 F ph = some (r, ph')) : PW l g (d + 0) m_M_runsOver 59 [px_u, px_u, px_u, px_u, px_u] [] ph (px_qI r ph') := by
  unfold f_M_runsOver_59 at h
  refine px_ic (k := 1) rfl rfl rfl ?_
  refine px_goto rfl rfl rfl ?_
  exact (r_M_runsOver_64 h :)
def f_M_runsOver_16 (F : Nat) (ph : px_H) : Option (Int32 × px_H) :=
  some (nI 0, ph)
theorem r_M_runsOver_16 {l : Launch} {g : px_G} {d F : Nat} {ph : px_H} {r : Int32} {ph' : px_H} (h : f_M_runsOver_16 F ph = some (r, ph')) : PW l g (d + 0) m_M_runsOver 16 [px_u, px_u, px_u, px_u, px_u] [] ph (px_qI r ph') := by
  unfold f_M_runsOver_16 at h
  refine px_ic (k := 0) rfl rfl rfl ?_
  cases h
  exact px_iret rfl (Or.inr ⟨rfl, Or.inl rfl⟩) rfl ⟨rfl, rfl⟩
def f_M_runsOver (F : Nat) (a0 : Nat) (a1 : Int64) (a3 : Int64) (ph : px_H) : Option (Int32 × px_H) :=
  if a1 < ((2 : Int64)) then
    f_M_runsOver_16 F ph
  else
    if a1 = ((18 : Int64)) then
      f_M_runsOver_16 F ph
    else
      if a1 = ((10 : Int64)) then
        if ((a3.toUInt64 >>> ((nI 32).toInt64.toUInt64 &&& Int64.toUInt64 63)).toInt64) = (lN 0) then
          f_M_runsOver_64 F (nI 0) ph
        else
          f_M_runsOver_64 F (nI 1) ph
      else
        if a3 < ((-2147483648 : Int64)) then
          f_M_runsOver_59 F ph
        else
          if a3 ≤ ((2147483647 : Int64)) then
            f_M_runsOver_64 F (nI 0) ph
          else
            f_M_runsOver_59 F ph
theorem r_M_runsOver {l : Launch} {g : px_G} {d F : Nat} {a0 : Nat} {a1 : Int64} {a3 : Int64} {ph : px_H} {r : Int32} {ph' : px_H} (h : f_M_runsOver F a0 a1 a3 ph = some (r, ph')) : PW l g (d + 0) m_M_runsOver 0 [.ref a0, .long a1, px_u, .long a3, px_u] [] ph (px_qI r ph') := by
  unfold f_M_runsOver at h
  refine px_ld rfl rfl rfl rfl rfl ?_
  refine px_ldc2 rfl rfl rfl ?_
  refine px_alu rfl rfl rfl ?_
  refine px_iflt rfl rfl rfl (fun hc => ?_) (fun hc => ?_)
  · replace h := (if_pos ((lg_cmp_lt _ _).mp hc)).symm.trans h
    refine px_forget (n := 0) (lv' := [_, _, _, _, _]) rfl ?_
    refine px_forget (n := 1) (lv' := [_, _, _, _, _]) rfl ?_
    refine px_forget (n := 3) (lv' := [_, _, _, _, _]) rfl ?_
    exact (r_M_runsOver_16 h :)
  · replace h := (if_neg (fun q => hc ((lg_cmp_lt _ _).mpr q))).symm.trans h
    refine px_ld rfl rfl rfl rfl rfl ?_
    refine px_ldc2 rfl rfl rfl ?_
    refine px_alu rfl rfl rfl ?_
    refine px_ifne rfl rfl rfl (fun hc => ?_) (fun hc => ?_)
    · replace h := (if_neg (fun q => hc ((lg_cmp_eq _ _).mpr q))).symm.trans h
      refine px_ld rfl rfl rfl rfl rfl ?_
      refine px_ldc2 rfl rfl rfl ?_
      refine px_alu rfl rfl rfl ?_
      refine px_ifne rfl rfl rfl (fun hc => ?_) (fun hc => ?_)
      · replace h := (if_neg (fun q => hc ((lg_cmp_eq _ _).mpr q))).symm.trans h
        refine px_ld rfl rfl rfl rfl rfl ?_
        refine px_ldc2 rfl rfl rfl ?_
        refine px_alu rfl rfl rfl ?_
        refine px_iflt rfl rfl rfl (fun hc => ?_) (fun hc => ?_)
        · replace h := (if_pos ((lg_cmp_lt _ _).mp hc)).symm.trans h
          refine px_forget (n := 0) (lv' := [_, _, _, _, _]) rfl ?_
          refine px_forget (n := 1) (lv' := [_, _, _, _, _]) rfl ?_
          refine px_forget (n := 3) (lv' := [_, _, _, _, _]) rfl ?_
          exact (r_M_runsOver_59 h :)
        · replace h := (if_neg (fun q => hc ((lg_cmp_lt _ _).mpr q))).symm.trans h
          refine px_ld rfl rfl rfl rfl rfl ?_
          refine px_ldc2 rfl rfl rfl ?_
          refine px_alu rfl rfl rfl ?_
          refine px_ifle rfl rfl rfl (fun hc => ?_) (fun hc => ?_)
          · replace h := (if_pos ((lg_cmp_le _ _).mp hc)).symm.trans h
            refine px_ic (k := 0) rfl rfl rfl ?_
            refine px_forget (n := 0) (lv' := [_, _, _, _, _]) rfl ?_
            refine px_forget (n := 1) (lv' := [_, _, _, _, _]) rfl ?_
            refine px_forget (n := 3) (lv' := [_, _, _, _, _]) rfl ?_
            exact (r_M_runsOver_64 h :)
          · replace h := (if_neg (fun q => hc ((lg_cmp_le _ _).mpr q))).symm.trans h
            refine px_forget (n := 0) (lv' := [_, _, _, _, _]) rfl ?_
            refine px_forget (n := 1) (lv' := [_, _, _, _, _]) rfl ?_
            refine px_forget (n := 3) (lv' := [_, _, _, _, _]) rfl ?_
            exact (r_M_runsOver_59 h :)
      · replace h := (if_pos ((lg_cmp_eq _ _).mp hc)).symm.trans h
        refine px_ld rfl rfl rfl rfl rfl ?_
        refine px_ic (k := 32) rfl rfl rfl ?_
        refine px_alu rfl rfl rfl ?_
        refine px_alu rfl rfl rfl ?_
        refine px_alu rfl rfl rfl ?_
        refine px_ifeq rfl rfl rfl (fun hc => ?_) (fun hc => ?_)
        · replace h := (if_pos ((lg_cmp_eq _ _).mp hc)).symm.trans h
          refine px_ic (k := 0) rfl rfl rfl ?_
          refine px_goto rfl rfl rfl ?_
          refine px_forget (n := 0) (lv' := [_, _, _, _, _]) rfl ?_
          refine px_forget (n := 1) (lv' := [_, _, _, _, _]) rfl ?_
          refine px_forget (n := 3) (lv' := [_, _, _, _, _]) rfl ?_
          exact (r_M_runsOver_64 h :)
        · replace h := (if_neg (fun q => hc ((lg_cmp_eq _ _).mpr q))).symm.trans h
          refine px_ic (k := 1) rfl rfl rfl ?_
          refine px_goto rfl rfl rfl ?_
          refine px_forget (n := 0) (lv' := [_, _, _, _, _]) rfl ?_
          refine px_forget (n := 1) (lv' := [_, _, _, _, _]) rfl ?_
          refine px_forget (n := 3) (lv' := [_, _, _, _, _]) rfl ?_
          exact (r_M_runsOver_64 h :)
    · replace h := (if_pos ((lg_cmp_eq _ _).mp hc)).symm.trans h
      refine px_forget (n := 0) (lv' := [_, _, _, _, _]) rfl ?_
      refine px_forget (n := 1) (lv' := [_, _, _, _, _]) rfl ?_
      refine px_forget (n := 3) (lv' := [_, _, _, _, _]) rfl ?_
      exact (r_M_runsOver_16 h :)
def f_M_one_138 (F : Nat) (ph : px_H) : Option (Unit × px_H) :=
  some ((), ph)
theorem r_M_one_138 {l : Launch} {g : px_G} {d F : Nat} {ph : px_H} {r : Unit} {ph' : px_H} (h : f_M_one_138 F ph = some (r, ph')) : PW l g (d + 12) m_M_one 138 [px_u, px_u, px_u, px_u, px_u, px_u, px_u, px_u, px_u, px_u, px_u] [] ph (px_qV r ph') := by
  unfold f_M_one_138 at h
  cases h
  exact px_vret rfl rfl rfl ⟨rfl, rfl⟩
def f_M_one (F : Nat) (a0 : Nat) (a1 : Int32) (a2 : Int32) (a3 : Int32) (a4 : Int32) (ph : px_H) : Option (Unit × px_H) :=
  (xo ph 12 a0).bind fun _ =>
  xb (f_M_object F a0 a1 ph) fun t1 ph2 =>
  (xo ph2 12 a0).bind fun _ =>
  xb (f_M_site F a0 t1 a2 a3 ph2) fun t3 ph4 =>
  (xo ph4 12 a0).bind fun _ =>
  xb (f_M_num F a0 (t3 + (nI 8)) (nI 4) ph4) fun t5 ph6 =>
  if t5 = (lN 0) then
    some ((), ph6)
  else
    (xo ph6 12 a0).bind fun _ =>
    xb (f_M_siteValue F a0 a1 a2 a3 ph6) fun t7 ph8 =>
    if a4 = 0 then
      (xo ph8 12 a0).bind fun _ =>
      xb (f_M_runsOver F a0 t5 t7 ph8) fun t9 ph10 =>
      if t9 = 0 then
        f_M_one_138 F ph10
      else
        (xpI ph10 12 13 a0 (nI 4)).bind fun ph11 =>
        (xo ph11 12 a0).bind fun _ =>
        xb (f_M_siteAddress F a0 a1 a2 a3 ph11) fun t12 ph13 =>
        (xpJ ph13 12 16 a0 t12).bind fun ph14 =>
        f_M_one_138 F ph14
    else
      (xo ph8 12 a0).bind fun _ =>
      xb (f_M_info F a0 t1 a2 ph8) fun t15 ph16 =>
      (xo ph16 12 a0).bind fun _ =>
      xb (f_M_group F a0 t1 t15.toInt32 ph16) fun t17 ph18 =>
      xb (f_M_segmentOf F t17 ph18) fun t19 ph20 =>
      (xgR ph20 12 60 a0).bind fun t21 =>
      (xaJ ph20 2 t21 t19).bind fun t22 =>
      (xo ph20 12 a0).bind fun _ =>
      xb (f_M_siteAddress F a0 a1 a2 a3 ph20) fun t23 ph24 =>
      (xgR ph24 12 61 a0).bind fun t25 =>
      (xaJ ph24 2 t25 t19).bind fun t26 =>
      xb (f_M_width F t5 ph24) fun t27 ph28 =>
      (xo ph28 12 a0).bind fun _ =>
      xb (f_M_shortKind F a0 a1 a2 a3 ph28) fun t29 ph30 =>
      (xo ph30 12 a0).bind fun _ =>
      xb (f_M_fillSite F a0 (((t22 + t23) - t26).toInt32) t7 t27 t29 ph30) fun _ ph31 =>
      f_M_one_138 F ph31
theorem r_M_one {l : Launch} {g : px_G} {d F : Nat} {a0 : Nat} {a1 : Int32} {a2 : Int32} {a3 : Int32} {a4 : Int32} {ph : px_H} {r : Unit} {ph' : px_H} (h : f_M_one F a0 a1 a2 a3 a4 ph = some (r, ph')) : PW l g (d + 12) m_M_one 0 [.ref a0, .int a1, .int a2, .int a3, .int a4, px_u, px_u, px_u, px_u, px_u, px_u] [] ph (px_qV r ph') := by
  unfold f_M_one at h
  refine px_ld rfl rfl rfl rfl rfl ?_
  refine px_ld rfl rfl rfl rfl rfl ?_
  obtain ⟨fs, h0, h⟩ := xs_some h
  have e1 := xo_some h0
  obtain ⟨t1, ph2, h0, h⟩ := xb_some h
  refine px_cV1 rfl rfl e1 rfl rfl rfl rfl rfl rfl rfl (r_M_object h0 :) (fun _ _ q => nomatch q.2) (fun r ph' q => ?_)
  obtain ⟨rfl, q⟩ := q
  cases q
  refine px_st (lv' := [_, _, _, _, _, _, _, _, _, _, _]) rfl rfl rfl rfl rfl rfl rfl ?_
  refine px_ld rfl rfl rfl rfl rfl ?_
  refine px_ld rfl rfl rfl rfl rfl ?_
  refine px_ld rfl rfl rfl rfl rfl ?_
  refine px_ld rfl rfl rfl rfl rfl ?_
  refine px_ld rfl rfl rfl rfl rfl ?_
  obtain ⟨fs, h0, h⟩ := xs_some h
  have e1 := xo_some h0
  obtain ⟨t3, ph4, h0, h⟩ := xb_some h
  refine px_cV3 rfl rfl e1 rfl rfl rfl rfl rfl rfl rfl (r_M_site h0 :) (fun _ _ q => nomatch q.2) (fun r ph' q => ?_)
  obtain ⟨rfl, q⟩ := q
  cases q
  refine px_ic (k := 8) rfl rfl rfl ?_
  refine px_alu rfl rfl rfl ?_
  refine px_ic (k := 4) rfl rfl rfl ?_
  obtain ⟨fs, h0, h⟩ := xs_some h
  have e1 := xo_some h0
  obtain ⟨t5, ph6, h0, h⟩ := xb_some h
  refine px_cV2 rfl rfl e1 rfl rfl rfl rfl rfl rfl rfl (r_M_num h0 :) (fun _ _ q => nomatch q.2) (fun r ph' q => ?_)
  obtain ⟨rfl, q⟩ := q
  cases q
  refine px_st (lv' := [_, _, _, _, _, _, _, _, _, _, _]) rfl rfl rfl rfl rfl rfl rfl ?_
  refine px_ld rfl rfl rfl rfl rfl ?_
  refine px_alu rfl rfl rfl ?_
  refine px_alu rfl rfl rfl ?_
  refine px_ifne rfl (by decide) rfl (fun hc => ?_) (fun hc => ?_)
  · replace h := (if_neg (fun q => hc ((lg_cmp_eq _ _).mpr q))).symm.trans h
    refine px_ld rfl rfl rfl rfl rfl ?_
    refine px_ld rfl rfl rfl rfl rfl ?_
    refine px_ld rfl rfl rfl rfl rfl ?_
    refine px_ld rfl rfl rfl rfl rfl ?_
    obtain ⟨fs, h0, h⟩ := xs_some h
    have e1 := xo_some h0
    obtain ⟨t7, ph8, h0, h⟩ := xb_some h
    refine px_cV3 rfl rfl e1 rfl rfl rfl rfl rfl rfl rfl (r_M_siteValue h0 :) (fun _ _ q => nomatch q.2) (fun r ph' q => ?_)
    obtain ⟨rfl, q⟩ := q
    cases q
    refine px_st (lv' := [_, _, _, _, _, _, _, _, _, _, _]) rfl rfl rfl rfl rfl rfl rfl ?_
    refine px_ld rfl rfl rfl rfl rfl ?_
    refine px_ifeq rfl (by decide) rfl (fun hc => ?_) (fun hc => ?_)
    · replace h := (if_pos hc).symm.trans h
      refine px_ld rfl rfl rfl rfl rfl ?_
      refine px_ld rfl rfl rfl rfl rfl ?_
      refine px_ld rfl rfl rfl rfl rfl ?_
      obtain ⟨fs, h0, h⟩ := xs_some h
      have e1 := xo_some h0
      obtain ⟨t9, ph10, h0, h⟩ := xb_some h
      refine px_cV2 rfl rfl e1 rfl rfl rfl rfl rfl rfl rfl (r_M_runsOver h0 :) (fun _ _ q => nomatch q.2) (fun r ph' q => ?_)
      obtain ⟨rfl, q⟩ := q
      cases q
      refine px_ifeq rfl (by decide) rfl (fun hc => ?_) (fun hc => ?_)
      · replace h := (if_pos hc).symm.trans h
        refine px_forget (n := 0) (lv' := [_, _, _, _, _, _, _, _, _, _, _]) rfl ?_
        refine px_forget (n := 1) (lv' := [_, _, _, _, _, _, _, _, _, _, _]) rfl ?_
        refine px_forget (n := 2) (lv' := [_, _, _, _, _, _, _, _, _, _, _]) rfl ?_
        refine px_forget (n := 3) (lv' := [_, _, _, _, _, _, _, _, _, _, _]) rfl ?_
        refine px_forget (n := 4) (lv' := [_, _, _, _, _, _, _, _, _, _, _]) rfl ?_
        refine px_forget (n := 5) (lv' := [_, _, _, _, _, _, _, _, _, _, _]) rfl ?_
        refine px_forget (n := 6) (lv' := [_, _, _, _, _, _, _, _, _, _, _]) rfl ?_
        refine px_forget (n := 8) (lv' := [_, _, _, _, _, _, _, _, _, _, _]) rfl ?_
        exact (r_M_one_138 h :)
      · replace h := (if_neg hc).symm.trans h
        refine px_ld rfl rfl rfl rfl rfl ?_
        refine px_ic (k := 4) rfl rfl rfl ?_
        obtain ⟨ph11, h0, h⟩ := xs_some h
        obtain ⟨fs, e1, e2, e3⟩ := xpI_some h0
        subst e3
        refine px_put rfl e1 e2 trivial rfl ?_
        refine px_ld rfl rfl rfl rfl rfl ?_
        refine px_ld rfl rfl rfl rfl rfl ?_
        refine px_ld rfl rfl rfl rfl rfl ?_
        refine px_ld rfl rfl rfl rfl rfl ?_
        refine px_ld rfl rfl rfl rfl rfl ?_
        obtain ⟨fs, h0, h⟩ := xs_some h
        have e1 := xo_some h0
        obtain ⟨t12, ph13, h0, h⟩ := xb_some h
        refine px_cV3 rfl rfl e1 rfl rfl rfl rfl rfl rfl rfl (r_M_siteAddress h0 :) (fun _ _ q => nomatch q.2) (fun r ph' q => ?_)
        obtain ⟨rfl, q⟩ := q
        cases q
        obtain ⟨ph14, h0, h⟩ := xs_some h
        obtain ⟨fs, e1, e2, e3⟩ := xpJ_some h0
        subst e3
        refine px_put rfl e1 e2 trivial rfl ?_
        refine px_forget (n := 0) (lv' := [_, _, _, _, _, _, _, _, _, _, _]) rfl ?_
        refine px_forget (n := 1) (lv' := [_, _, _, _, _, _, _, _, _, _, _]) rfl ?_
        refine px_forget (n := 2) (lv' := [_, _, _, _, _, _, _, _, _, _, _]) rfl ?_
        refine px_forget (n := 3) (lv' := [_, _, _, _, _, _, _, _, _, _, _]) rfl ?_
        refine px_forget (n := 4) (lv' := [_, _, _, _, _, _, _, _, _, _, _]) rfl ?_
        refine px_forget (n := 5) (lv' := [_, _, _, _, _, _, _, _, _, _, _]) rfl ?_
        refine px_forget (n := 6) (lv' := [_, _, _, _, _, _, _, _, _, _, _]) rfl ?_
        refine px_forget (n := 8) (lv' := [_, _, _, _, _, _, _, _, _, _, _]) rfl ?_
        exact (r_M_one_138 h :)
    · replace h := (if_neg hc).symm.trans h
      refine px_ld rfl rfl rfl rfl rfl ?_
      refine px_ld rfl rfl rfl rfl rfl ?_
      refine px_ld rfl rfl rfl rfl rfl ?_
      refine px_ld rfl rfl rfl rfl rfl ?_
      refine px_ld rfl rfl rfl rfl rfl ?_
      obtain ⟨fs, h0, h⟩ := xs_some h
      have e1 := xo_some h0
      obtain ⟨t15, ph16, h0, h⟩ := xb_some h
      refine px_cV2 rfl rfl e1 rfl rfl rfl rfl rfl rfl rfl (r_M_info h0 :) (fun _ _ q => nomatch q.2) (fun r ph' q => ?_)
      obtain ⟨rfl, q⟩ := q
      cases q
      refine px_alu rfl rfl rfl ?_
      obtain ⟨fs, h0, h⟩ := xs_some h
      have e1 := xo_some h0
      obtain ⟨t17, ph18, h0, h⟩ := xb_some h
      refine px_cV2 rfl rfl e1 rfl rfl rfl rfl rfl rfl rfl (r_M_group h0 :) (fun _ _ q => nomatch q.2) (fun r ph' q => ?_)
      obtain ⟨rfl, q⟩ := q
      cases q
      obtain ⟨t19, ph20, h0, h⟩ := xb_some h
      refine px_cS1 rfl rfl rfl rfl rfl rfl rfl (r_M_segmentOf h0 :) (fun _ _ q => nomatch q.2) (fun r ph' q => ?_)
      obtain ⟨rfl, q⟩ := q
      cases q
      refine px_st (lv' := [_, _, _, _, _, _, _, _, _, _, _]) rfl rfl rfl rfl rfl rfl rfl ?_
      refine px_ld rfl rfl rfl rfl rfl ?_
      refine px_ld rfl rfl rfl rfl rfl ?_
      obtain ⟨t21, h0, h⟩ := xs_some h
      obtain ⟨fs, e1, e2⟩ := xgR_some h0
      refine px_get rfl e1 e2 rfl ?_
      refine px_ld rfl rfl rfl rfl rfl ?_
      obtain ⟨t22, h0, h⟩ := xs_some h
      obtain ⟨N, f, e1, e2, e3⟩ := xaJ_some h0
      subst e3
      refine px_lald rfl e1 rfl e2 rfl ?_
      refine px_ld rfl rfl rfl rfl rfl ?_
      refine px_ld rfl rfl rfl rfl rfl ?_
      refine px_ld rfl rfl rfl rfl rfl ?_
      refine px_ld rfl rfl rfl rfl rfl ?_
      obtain ⟨fs, h0, h⟩ := xs_some h
      have e1 := xo_some h0
      obtain ⟨t23, ph24, h0, h⟩ := xb_some h
      refine px_cV3 rfl rfl e1 rfl rfl rfl rfl rfl rfl rfl (r_M_siteAddress h0 :) (fun _ _ q => nomatch q.2) (fun r ph' q => ?_)
      obtain ⟨rfl, q⟩ := q
      cases q
      refine px_alu rfl rfl rfl ?_
      refine px_ld rfl rfl rfl rfl rfl ?_
      obtain ⟨t25, h0, h⟩ := xs_some h
      obtain ⟨fs, e1, e2⟩ := xgR_some h0
      refine px_get rfl e1 e2 rfl ?_
      refine px_ld rfl rfl rfl rfl rfl ?_
      obtain ⟨t26, h0, h⟩ := xs_some h
      obtain ⟨N, f, e1, e2, e3⟩ := xaJ_some h0
      subst e3
      refine px_lald rfl e1 rfl e2 rfl ?_
      refine px_alu rfl rfl rfl ?_
      refine px_alu rfl rfl rfl ?_
      refine px_ld rfl rfl rfl rfl rfl ?_
      refine px_ld rfl rfl rfl rfl rfl ?_
      obtain ⟨t27, ph28, h0, h⟩ := xb_some h
      refine px_cS1 rfl rfl rfl rfl rfl rfl rfl (r_M_width h0 :) (fun _ _ q => nomatch q.2) (fun r ph' q => ?_)
      obtain ⟨rfl, q⟩ := q
      cases q
      refine px_ld rfl rfl rfl rfl rfl ?_
      refine px_ld rfl rfl rfl rfl rfl ?_
      refine px_ld rfl rfl rfl rfl rfl ?_
      refine px_ld rfl rfl rfl rfl rfl ?_
      obtain ⟨fs, h0, h⟩ := xs_some h
      have e1 := xo_some h0
      obtain ⟨t29, ph30, h0, h⟩ := xb_some h
      refine px_cV3 rfl rfl e1 rfl rfl rfl rfl rfl rfl rfl (r_M_shortKind h0 :) (fun _ _ q => nomatch q.2) (fun r ph' q => ?_)
      obtain ⟨rfl, q⟩ := q
      cases q
      obtain ⟨fs, h0, h⟩ := xs_some h
      have e1 := xo_some h0
      obtain ⟨u0, ph31, h0, h⟩ := xb_some h
      refine px_cV4 rfl rfl e1 rfl rfl rfl rfl rfl rfl rfl (r_M_fillSite h0 :) (fun _ _ q => nomatch q.2) (fun r ph' q => ?_)
      obtain ⟨rfl, q⟩ := q
      cases q
      refine px_goto rfl (by decide) rfl ?_
      refine px_forget (n := 0) (lv' := [_, _, _, _, _, _, _, _, _, _, _]) rfl ?_
      refine px_forget (n := 1) (lv' := [_, _, _, _, _, _, _, _, _, _, _]) rfl ?_
      refine px_forget (n := 2) (lv' := [_, _, _, _, _, _, _, _, _, _, _]) rfl ?_
      refine px_forget (n := 3) (lv' := [_, _, _, _, _, _, _, _, _, _, _]) rfl ?_
      refine px_forget (n := 4) (lv' := [_, _, _, _, _, _, _, _, _, _, _]) rfl ?_
      refine px_forget (n := 5) (lv' := [_, _, _, _, _, _, _, _, _, _, _]) rfl ?_
      refine px_forget (n := 6) (lv' := [_, _, _, _, _, _, _, _, _, _, _]) rfl ?_
      refine px_forget (n := 8) (lv' := [_, _, _, _, _, _, _, _, _, _, _]) rfl ?_
      refine px_forget (n := 10) (lv' := [_, _, _, _, _, _, _, _, _, _, _]) rfl ?_
      exact (r_M_one_138 h :)
  · replace h := (if_pos ((lg_cmp_eq _ _).mp hc)).symm.trans h
    cases h
    exact px_vret rfl rfl rfl ⟨rfl, rfl⟩
def f_M_sites_108 (F : Nat) (ph : px_H) : Option (Unit × px_H) :=
  some ((), ph)
theorem r_M_sites_108 {l : Launch} {g : px_G} {d F : Nat} {ph : px_H} {r : Unit} {ph' : px_H} (h : f_M_sites_108 F ph = some (r, ph')) : PW l g (d + 13) m_M_sites 108 [px_u, px_u, px_u, px_u, px_u, px_u] [] ph (px_qV r ph') := by
  unfold f_M_sites_108 at h
  cases h
  exact px_vret rfl rfl rfl ⟨rfl, rfl⟩
def f_M_sites_102 (F : Nat) (k2 : Nat → Int32 → Int32 → px_H → Option (Unit × px_H)) (a0 : Nat) (a1 : Int32) (a2 : Int32) (ph : px_H) : Option (Unit × px_H) :=
  k2 a0 a1 (a2 + nI 1) ph
theorem r_M_sites_102 {l : Launch} {g : px_G} {d F : Nat} {k2 : Nat → Int32 → Int32 → px_H → Option (Unit × px_H)} (hk2 : ∀ {a0 : Nat} {a1 : Int32} {a2 : Int32} {ph : px_H} {r : Unit} {ph' : px_H}, k2 a0 a1 a2 ph = some (r, ph') → PW l g (d + 13) m_M_sites 2 [.ref a0, .int a1, .int a2, px_u, px_u, px_u] [] ph (px_qV r ph')) {a0 : Nat} {a1 : Int32} {a2 : Int32} {ph : px_H} {r : Unit} {ph' : px_H} (h : f_M_sites_102 F k2 a0 a1 a2 ph = some (r, ph')) : PW l g (d + 13) m_M_sites 102 [.ref a0, .int a1, .int a2, px_u, px_u, px_u] [] ph (px_qV r ph') := by
  unfold f_M_sites_102 at h
  refine px_iinc (lv' := [_, _, _, _, _, _]) rfl rfl rfl rfl rfl rfl ?_
  refine px_goto rfl rfl rfl ?_
  exact (hk2 h :)
def f_M_sites_96 (F : Nat) (k2 : Nat → Int32 → Int32 → px_H → Option (Unit × px_H)) (k19 : Nat → Int32 → Int32 → Int32 → Int32 → px_H → Option (Unit × px_H)) (a0 : Nat) (a1 : Int32) (a2 : Int32) (a3 : Int32) (a4 : Int32) (ph : px_H) : Option (Unit × px_H) :=
  k19 a0 a1 a2 a3 (a4 + nI 1) ph
theorem r_M_sites_96 {l : Launch} {g : px_G} {d F : Nat} {k2 : Nat → Int32 → Int32 → px_H → Option (Unit × px_H)} (hk2 : ∀ {a0 : Nat} {a1 : Int32} {a2 : Int32} {ph : px_H} {r : Unit} {ph' : px_H}, k2 a0 a1 a2 ph = some (r, ph') → PW l g (d + 13) m_M_sites 2 [.ref a0, .int a1, .int a2, px_u, px_u, px_u] [] ph (px_qV r ph')) {k19 : Nat → Int32 → Int32 → Int32 → Int32 → px_H → Option (Unit × px_H)} (hk19 : ∀ {a0 : Nat} {a1 : Int32} {a2 : Int32} {a3 : Int32} {a4 : Int32} {ph : px_H} {r : Unit} {ph' : px_H}, k19 a0 a1 a2 a3 a4 ph = some (r, ph') → PW l g (d + 13) m_M_sites 19 [.ref a0, .int a1, .int a2, .int a3, .int a4, px_u] [] ph (px_qV r ph')) {a0 : Nat} {a1 : Int32} {a2 : Int32} {a3 : Int32} {a4 : Int32} {ph : px_H} {r : Unit} {ph' : px_H} (h : f_M_sites_96 F k2 k19 a0 a1 a2 a3 a4 ph = some (r, ph')) : PW l g (d + 13) m_M_sites 96 [.ref a0, .int a1, .int a2, .int a3, .int a4, px_u] [] ph (px_qV r ph') := by
  unfold f_M_sites_96 at h
  refine px_iinc (lv' := [_, _, _, _, _, _]) rfl rfl rfl rfl rfl rfl ?_
  refine px_goto rfl rfl rfl ?_
  exact (hk19 h :)
def f_M_sites_61 (F : Nat) (k2 : Nat → Int32 → Int32 → px_H → Option (Unit × px_H)) (k19 : Nat → Int32 → Int32 → Int32 → Int32 → px_H → Option (Unit × px_H)) : Nat → Nat → Int32 → Int32 → Int32 → Int32 → Int32 → px_H → Option (Unit × px_H)
  | 0, _, _, _, _, _, _, _ => none
  | n + 1, a0, a1, a2, a3, a4, a5, ph =>
    (xo ph 12 a0).bind fun _ =>
    xb (f_M_siteMany F a0 a3 a4 ph) fun t1 ph2 =>
    if t1 ≤ a5 then
      f_M_sites_96 F k2 k19 a0 a1 a2 a3 a4 ph2
    else
      (xgI ph2 12 13 a0).bind fun t3 =>
      if t3 = 0 then
        (xo ph2 12 a0).bind fun _ =>
        xb (f_M_one F a0 a2 a4 a5 a1 ph2) fun _ ph4 =>
        f_M_sites_61 F k2 k19 n a0 a1 a2 a3 a4 (a5 + nI 1) ph4
      else
        f_M_sites_96 F k2 k19 a0 a1 a2 a3 a4 ph2
theorem r_M_sites_61 {l : Launch} {g : px_G} {d F : Nat} {k2 : Nat → Int32 → Int32 → px_H → Option (Unit × px_H)} (hk2 : ∀ {a0 : Nat} {a1 : Int32} {a2 : Int32} {ph : px_H} {r : Unit} {ph' : px_H}, k2 a0 a1 a2 ph = some (r, ph') → PW l g (d + 13) m_M_sites 2 [.ref a0, .int a1, .int a2, px_u, px_u, px_u] [] ph (px_qV r ph')) {k19 : Nat → Int32 → Int32 → Int32 → Int32 → px_H → Option (Unit × px_H)} (hk19 : ∀ {a0 : Nat} {a1 : Int32} {a2 : Int32} {a3 : Int32} {a4 : Int32} {ph : px_H} {r : Unit} {ph' : px_H}, k19 a0 a1 a2 a3 a4 ph = some (r, ph') → PW l g (d + 13) m_M_sites 19 [.ref a0, .int a1, .int a2, .int a3, .int a4, px_u] [] ph (px_qV r ph')) : ∀ (n : Nat) {a0 : Nat} {a1 : Int32} {a2 : Int32} {a3 : Int32} {a4 : Int32} {a5 : Int32} {ph : px_H} {r : Unit} {ph' : px_H}, f_M_sites_61 F k2 k19 n a0 a1 a2 a3 a4 a5 ph = some (r, ph') → PW l g (d + 13) m_M_sites 61 [.ref a0, .int a1, .int a2, .int a3, .int a4, .int a5] [] ph (px_qV r ph') := by
  intro n
  induction n with
  | zero => intro _ _ _ _ _ _ _ _ _ h; cases h
  | succ n ih =>
    intro a0 a1 a2 a3 a4 a5 ph r ph' h
    unfold f_M_sites_61 at h
    refine px_ld rfl rfl rfl rfl rfl ?_
    refine px_ld rfl rfl rfl rfl rfl ?_
    refine px_ld rfl rfl rfl rfl rfl ?_
    refine px_ld rfl rfl rfl rfl rfl ?_
    obtain ⟨fs, h0, h⟩ := xs_some h
    have e1 := xo_some h0
    obtain ⟨t1, ph2, h0, h⟩ := xb_some h
    refine px_cV2 rfl rfl e1 rfl rfl rfl rfl rfl rfl rfl (r_M_siteMany h0 :) (fun _ _ q => nomatch q.2) (fun r ph' q => ?_)
    obtain ⟨rfl, q⟩ := q
    cases q
    refine px_icge rfl rfl rfl (fun hc => ?_) (fun hc => ?_)
    · replace h := (if_pos hc).symm.trans h
      refine px_forget (n := 5) (lv' := [_, _, _, _, _, _]) rfl ?_
      exact (r_M_sites_96 @hk2 @hk19 h :)
    · replace h := (if_neg hc).symm.trans h
      refine px_ld rfl rfl rfl rfl rfl ?_
      obtain ⟨t3, h0, h⟩ := xs_some h
      obtain ⟨fs, e1, e2⟩ := xgI_some h0
      refine px_get rfl e1 e2 rfl ?_
      refine px_ifne rfl rfl rfl (fun hc => ?_) (fun hc => ?_)
      · replace h := (if_neg hc).symm.trans h
        refine px_forget (n := 5) (lv' := [_, _, _, _, _, _]) rfl ?_
        exact (r_M_sites_96 @hk2 @hk19 h :)
      · replace h := (if_pos hc).symm.trans h
        refine px_ld rfl rfl rfl rfl rfl ?_
        refine px_ld rfl rfl rfl rfl rfl ?_
        refine px_ld rfl rfl rfl rfl rfl ?_
        refine px_ld rfl rfl rfl rfl rfl ?_
        refine px_ld rfl rfl rfl rfl rfl ?_
        obtain ⟨fs, h0, h⟩ := xs_some h
        have e1 := xo_some h0
        obtain ⟨u0, ph4, h0, h⟩ := xb_some h
        refine px_cV4 rfl rfl e1 rfl rfl rfl rfl rfl rfl rfl (r_M_one h0 :) (fun _ _ q => nomatch q.2) (fun r ph' q => ?_)
        obtain ⟨rfl, q⟩ := q
        cases q
        refine px_iinc (lv' := [_, _, _, _, _, _]) rfl rfl rfl rfl rfl rfl ?_
        refine px_goto rfl rfl rfl ?_
        exact (ih h :)
def f_M_sites_19 (F : Nat) (k2 : Nat → Int32 → Int32 → px_H → Option (Unit × px_H)) : Nat → Nat → Int32 → Int32 → Int32 → Int32 → px_H → Option (Unit × px_H)
  | 0, _, _, _, _, _, _ => none
  | n + 1, a0, a1, a2, a3, a4, ph =>
    (xo ph 12 a0).bind fun _ =>
    xb (f_M_sections F a0 a3 ph) fun t1 ph2 =>
    if t1 ≤ a4 then
      f_M_sites_102 F k2 a0 a1 a2 ph2
    else
      (xo ph2 12 a0).bind fun _ =>
      xb (f_M_isSites F a0 a3 a4 ph2) fun t3 ph4 =>
      if t3 = 0 then
        f_M_sites_96 F k2 (f_M_sites_19 F k2 n) a0 a1 a2 a3 a4 ph4
      else
        (xo ph4 12 a0).bind fun _ =>
        xb (f_M_info F a0 a3 a4 ph4) fun t5 ph6 =>
        (xo ph6 12 a0).bind fun _ =>
        xb (f_M_stays F a0 a2 t5.toInt32 ph6) fun t7 ph8 =>
        if t7 = 0 then
          f_M_sites_96 F k2 (f_M_sites_19 F k2 n) a0 a1 a2 a3 a4 ph8
        else
          f_M_sites_61 F k2 (f_M_sites_19 F k2 n) F a0 a1 a2 a3 a4 (nI 0) ph8
theorem r_M_sites_19 {l : Launch} {g : px_G} {d F : Nat} {k2 : Nat → Int32 → Int32 → px_H → Option (Unit × px_H)} (hk2 : ∀ {a0 : Nat} {a1 : Int32} {a2 : Int32} {ph : px_H} {r : Unit} {ph' : px_H}, k2 a0 a1 a2 ph = some (r, ph') → PW l g (d + 13) m_M_sites 2 [.ref a0, .int a1, .int a2, px_u, px_u, px_u] [] ph (px_qV r ph')) : ∀ (n : Nat) {a0 : Nat} {a1 : Int32} {a2 : Int32} {a3 : Int32} {a4 : Int32} {ph : px_H} {r : Unit} {ph' : px_H}, f_M_sites_19 F k2 n a0 a1 a2 a3 a4 ph = some (r, ph') → PW l g (d + 13) m_M_sites 19 [.ref a0, .int a1, .int a2, .int a3, .int a4, px_u] [] ph (px_qV r ph') := by
  intro n
  induction n with
  | zero => intro _ _ _ _ _ _ _ _ h; cases h
  | succ n ih =>
    intro a0 a1 a2 a3 a4 ph r ph' h
    unfold f_M_sites_19 at h
    refine px_ld rfl rfl rfl rfl rfl ?_
    refine px_ld rfl rfl rfl rfl rfl ?_
    refine px_ld rfl rfl rfl rfl rfl ?_
    obtain ⟨fs, h0, h⟩ := xs_some h
    have e1 := xo_some h0
    obtain ⟨t1, ph2, h0, h⟩ := xb_some h
    refine px_cV1 rfl rfl e1 rfl rfl rfl rfl rfl rfl rfl (r_M_sections h0 :) (fun _ _ q => nomatch q.2) (fun r ph' q => ?_)
    obtain ⟨rfl, q⟩ := q
    cases q
    refine px_icge rfl rfl rfl (fun hc => ?_) (fun hc => ?_)
    · replace h := (if_pos hc).symm.trans h
      refine px_forget (n := 3) (lv' := [_, _, _, _, _, _]) rfl ?_
      refine px_forget (n := 4) (lv' := [_, _, _, _, _, _]) rfl ?_
      exact (r_M_sites_102 @hk2 h :)
    · replace h := (if_neg hc).symm.trans h
      refine px_ld rfl rfl rfl rfl rfl ?_
      refine px_ld rfl rfl rfl rfl rfl ?_
      refine px_ld rfl rfl rfl rfl rfl ?_
      obtain ⟨fs, h0, h⟩ := xs_some h
      have e1 := xo_some h0
      obtain ⟨t3, ph4, h0, h⟩ := xb_some h
      refine px_cV2 rfl rfl e1 rfl rfl rfl rfl rfl rfl rfl (r_M_isSites h0 :) (fun _ _ q => nomatch q.2) (fun r ph' q => ?_)
      obtain ⟨rfl, q⟩ := q
      cases q
      refine px_ifeq rfl rfl rfl (fun hc => ?_) (fun hc => ?_)
      · replace h := (if_pos hc).symm.trans h
        exact (r_M_sites_96 @hk2 @ih h :)
      · replace h := (if_neg hc).symm.trans h
        refine px_ld rfl rfl rfl rfl rfl ?_
        refine px_ld rfl rfl rfl rfl rfl ?_
        refine px_ld rfl rfl rfl rfl rfl ?_
        refine px_ld rfl rfl rfl rfl rfl ?_
        refine px_ld rfl rfl rfl rfl rfl ?_
        obtain ⟨fs, h0, h⟩ := xs_some h
        have e1 := xo_some h0
        obtain ⟨t5, ph6, h0, h⟩ := xb_some h
        refine px_cV2 rfl rfl e1 rfl rfl rfl rfl rfl rfl rfl (r_M_info h0 :) (fun _ _ q => nomatch q.2) (fun r ph' q => ?_)
        obtain ⟨rfl, q⟩ := q
        cases q
        refine px_alu rfl rfl rfl ?_
        obtain ⟨fs, h0, h⟩ := xs_some h
        have e1 := xo_some h0
        obtain ⟨t7, ph8, h0, h⟩ := xb_some h
        refine px_cV2 rfl rfl e1 rfl rfl rfl rfl rfl rfl rfl (r_M_stays h0 :) (fun _ _ q => nomatch q.2) (fun r ph' q => ?_)
        obtain ⟨rfl, q⟩ := q
        cases q
        refine px_ifne rfl rfl rfl (fun hc => ?_) (fun hc => ?_)
        · replace h := (if_neg hc).symm.trans h
          refine px_ic (k := 0) rfl rfl rfl ?_
          refine px_st (lv' := [_, _, _, _, _, _]) rfl rfl rfl rfl rfl rfl rfl ?_
          exact (r_M_sites_61 @hk2 @ih _ h :)
        · replace h := (if_pos hc).symm.trans h
          refine px_goto rfl rfl rfl ?_
          exact (r_M_sites_96 @hk2 @ih h :)
def f_M_sites_2 (F : Nat) : Nat → Nat → Int32 → Int32 → px_H → Option (Unit × px_H)
  | 0, _, _, _, _ => none
  | n + 1, a0, a1, a2, ph =>
    (xgI ph 12 14 a0).bind fun t1 =>
    if t1 ≤ a2 then
      f_M_sites_108 F ph
    else
      (xo ph 12 a0).bind fun _ =>
      xb (f_M_object F a0 a2 ph) fun t2 ph3 =>
      f_M_sites_19 F (f_M_sites_2 F n) F a0 a1 a2 t2 (nI 1) ph3
theorem r_M_sites_2 {l : Launch} {g : px_G} {d F : Nat} : ∀ (n : Nat) {a0 : Nat} {a1 : Int32} {a2 : Int32} {ph : px_H} {r : Unit} {ph' : px_H}, f_M_sites_2 F n a0 a1 a2 ph = some (r, ph') → PW l g (d + 13) m_M_sites 2 [.ref a0, .int a1, .int a2, px_u, px_u, px_u] [] ph (px_qV r ph') := by
  intro n
  induction n with
  | zero => intro _ _ _ _ _ _ h; cases h
  | succ n ih =>
    intro a0 a1 a2 ph r ph' h
    unfold f_M_sites_2 at h
    refine px_ld rfl rfl rfl rfl rfl ?_
    refine px_ld rfl rfl rfl rfl rfl ?_
    obtain ⟨t1, h0, h⟩ := xs_some h
    obtain ⟨fs, e1, e2⟩ := xgI_some h0
    refine px_get rfl e1 e2 rfl ?_
    refine px_icge rfl rfl rfl (fun hc => ?_) (fun hc => ?_)
    · replace h := (if_pos hc).symm.trans h
      refine px_forget (n := 0) (lv' := [_, _, _, _, _, _]) rfl ?_
      refine px_forget (n := 1) (lv' := [_, _, _, _, _, _]) rfl ?_
      refine px_forget (n := 2) (lv' := [_, _, _, _, _, _]) rfl ?_
      exact (r_M_sites_108 h :)
    · replace h := (if_neg hc).symm.trans h
      refine px_ld rfl rfl rfl rfl rfl ?_
      refine px_ld rfl rfl rfl rfl rfl ?_
      obtain ⟨fs, h0, h⟩ := xs_some h
      have e1 := xo_some h0
      obtain ⟨t2, ph3, h0, h⟩ := xb_some h
      refine px_cV1 rfl rfl e1 rfl rfl rfl rfl rfl rfl rfl (r_M_object h0 :) (fun _ _ q => nomatch q.2) (fun r ph' q => ?_)
      obtain ⟨rfl, q⟩ := q
      cases q
      refine px_st (lv' := [_, _, _, _, _, _]) rfl rfl rfl rfl rfl rfl rfl ?_
      refine px_ic (k := 1) rfl rfl rfl ?_
      refine px_st (lv' := [_, _, _, _, _, _]) rfl rfl rfl rfl rfl rfl rfl ?_
      exact (r_M_sites_19 @ih _ h :)
def f_M_sites (F : Nat) (a0 : Nat) (a1 : Int32) (ph : px_H) : Option (Unit × px_H) :=
  f_M_sites_2 F F a0 a1 (nI 0) ph
theorem r_M_sites {l : Launch} {g : px_G} {d F : Nat} {a0 : Nat} {a1 : Int32} {ph : px_H} {r : Unit} {ph' : px_H} (h : f_M_sites F a0 a1 ph = some (r, ph')) : PW l g (d + 13) m_M_sites 0 [.ref a0, .int a1, px_u, px_u, px_u, px_u] [] ph (px_qV r ph') := by
  unfold f_M_sites at h
  refine px_ic (k := 0) rfl rfl rfl ?_
  refine px_st (lv' := [_, _, _, _, _, _]) rfl rfl rfl rfl rfl rfl rfl ?_
  exact (r_M_sites_2 _ h :)
def f_M_write_734 (F : Nat) (a0 : Nat) (ph : px_H) : Option (Unit × px_H) :=
  (xo ph 12 a0).bind fun _ =>
  xb (f_M_sites F a0 (nI 1) ph) fun _ ph1 =>
  some ((), ph1)
theorem r_M_write_734 {l : Launch} {g : px_G} {d F : Nat} {a0 : Nat} {ph : px_H} {r : Unit} {ph' : px_H} (h : f_M_write_734 F a0 ph = some (r, ph')) : PW l g (d + 14) m_M_write 734 [.ref a0, px_u, px_u, px_u, px_u, px_u, px_u] [] ph (px_qV r ph') := by
  unfold f_M_write_734 at h
  refine px_ld rfl rfl rfl rfl rfl ?_
  refine px_ic (k := 1) rfl rfl rfl ?_
  obtain ⟨fs, h0, h⟩ := xs_some h
  have e1 := xo_some h0
  obtain ⟨u0, ph1, h0, h⟩ := xb_some h
  refine px_cV1 rfl rfl e1 rfl rfl rfl rfl rfl rfl rfl (r_M_sites h0 :) (fun _ _ q => nomatch q.2) (fun r ph' q => ?_)
  obtain ⟨rfl, q⟩ := q
  cases q
  cases h
  exact px_vret rfl rfl rfl ⟨rfl, rfl⟩
def f_M_write_722 (F : Nat) (k633 : Nat → Int32 → px_H → Option (Unit × px_H)) (a0 : Nat) (a2 : Int32) (s0 : Nat) (s1 : Int32) (s2 : Int64) (s3 : Int64) (ph : px_H) : Option (Unit × px_H) :=
  (xo ph 12 s0).bind fun _ =>
  xb (f_M_put F s0 s1 (s2 - s3) (nI 8) ph) fun _ ph1 =>
  k633 a0 (a2 + nI 1) ph1
theorem r_M_write_722 {l : Launch} {g : px_G} {d F : Nat} {k633 : Nat → Int32 → px_H → Option (Unit × px_H)} (hk633 : ∀ {a0 : Nat} {a2 : Int32} {ph : px_H} {r : Unit} {ph' : px_H}, k633 a0 a2 ph = some (r, ph') → PW l g (d + 14) m_M_write 633 [.ref a0, px_u, .int a2, px_u, px_u, px_u, px_u] [] ph (px_qV r ph')) {a0 : Nat} {a2 : Int32} {s0 : Nat} {s1 : Int32} {s2 : Int64} {s3 : Int64} {ph : px_H} {r : Unit} {ph' : px_H} (h : f_M_write_722 F k633 a0 a2 s0 s1 s2 s3 ph = some (r, ph')) : PW l g (d + 14) m_M_write 722 [.ref a0, px_u, .int a2, px_u, px_u, px_u, px_u] [.long s3, .long s2, .int s1, .ref s0] ph (px_qV r ph') := by
  unfold f_M_write_722 at h
  refine px_alu rfl rfl rfl ?_
  refine px_ic (k := 8) rfl rfl rfl ?_
  obtain ⟨fs, h0, h⟩ := xs_some h
  have e1 := xo_some h0
  obtain ⟨u0, ph1, h0, h⟩ := xb_some h
  refine px_cV3 rfl rfl e1 rfl rfl rfl rfl rfl rfl rfl (r_M_put h0 :) (fun _ _ q => nomatch q.2) (fun r ph' q => ?_)
  obtain ⟨rfl, q⟩ := q
  cases q
  refine px_iinc (lv' := [_, _, _, _, _, _, _]) rfl rfl rfl rfl rfl rfl ?_
  refine px_goto rfl (by decide) rfl ?_
  exact (hk633 h :)
def f_M_write_705 (F : Nat) (k633 : Nat → Int32 → px_H → Option (Unit × px_H)) (a0 : Nat) (a2 : Int32) (s0 : Nat) (s1 : Int32) (s2 : Int64) (ph : px_H) : Option (Unit × px_H) :=
  (xgR ph 12 78 a0).bind fun t1 =>
  (xaI ph 3 t1 a2).bind fun t2 =>
  if t2 = 0 then
    f_M_write_722 F k633 a0 a2 s0 s1 s2 (lN 0) ph
  else
    (xgJ ph 12 87 a0).bind fun t3 =>
    f_M_write_722 F k633 a0 a2 s0 s1 s2 t3 ph
theorem r_M_write_705 {l : Launch} {g : px_G} {d F : Nat} {k633 : Nat → Int32 → px_H → Option (Unit × px_H)} (hk633 : ∀ {a0 : Nat} {a2 : Int32} {ph : px_H} {r : Unit} {ph' : px_H}, k633 a0 a2 ph = some (r, ph') → PW l g (d + 14) m_M_write 633 [.ref a0, px_u, .int a2, px_u, px_u, px_u, px_u] [] ph (px_qV r ph')) {a0 : Nat} {a2 : Int32} {s0 : Nat} {s1 : Int32} {s2 : Int64} {ph : px_H} {r : Unit} {ph' : px_H} (h : f_M_write_705 F k633 a0 a2 s0 s1 s2 ph = some (r, ph')) : PW l g (d + 14) m_M_write 705 [.ref a0, px_u, .int a2, px_u, px_u, px_u, px_u] [.long s2, .int s1, .ref s0] ph (px_qV r ph') := by
  unfold f_M_write_705 at h
  refine px_ld rfl rfl rfl rfl rfl ?_
  obtain ⟨t1, h0, h⟩ := xs_some h
  obtain ⟨fs, e1, e2⟩ := xgR_some h0
  refine px_get rfl e1 e2 rfl ?_
  refine px_ld rfl rfl rfl rfl rfl ?_
  obtain ⟨t2, h0, h⟩ := xs_some h
  obtain ⟨N, f, e1, e2, e3⟩ := xaI_some h0
  subst e3
  refine px_zald rfl e1 rfl e2 rfl ?_
  refine px_ifeq rfl (by decide) rfl (fun hc => ?_) (fun hc => ?_)
  · replace h := (if_pos hc).symm.trans h
    refine px_alu rfl rfl rfl ?_
    exact (r_M_write_722 @hk633 h :)
  · replace h := (if_neg hc).symm.trans h
    refine px_ld rfl rfl rfl rfl rfl ?_
    obtain ⟨t3, h0, h⟩ := xs_some h
    obtain ⟨fs, e1, e2⟩ := xgJ_some h0
    refine px_get rfl e1 e2 rfl ?_
    refine px_goto rfl (by decide) rfl ?_
    exact (r_M_write_722 @hk633 h :)
def f_M_write_633 (F : Nat) : Nat → Nat → Int32 → px_H → Option (Unit × px_H)
  | 0, _, _, _ => none
  | n + 1, a0, a2, ph =>
    (xgI ph 12 74 a0).bind fun t1 =>
    if t1 ≤ a2 then
      f_M_write_734 F a0 ph
    else
      (xgR ph 12 60 a0).bind fun t2 =>
      (xaJ ph 2 t2 (nI 2)).bind fun t3 =>
      (xgJ ph 12 79 a0).bind fun t4 =>
      (xgR ph 12 61 a0).bind fun t5 =>
      (xaJ ph 2 t5 (nI 2)).bind fun t6 =>
      (xgR ph 12 75 a0).bind fun t7 =>
      (xaI ph 1 t7 a2).bind fun t8 =>
      if t8 < 0 then
        (xgR ph 12 76 a0).bind fun t9 =>
        (xaI ph 1 t9 a2).bind fun t10 =>
        (xgR ph 12 77 a0).bind fun t11 =>
        (xaI ph 1 t11 a2).bind fun t12 =>
        (xo ph 12 a0).bind fun _ =>
        xb (f_M_symbolAddress F a0 t10 t12 ph) fun t13 ph14 =>
        f_M_write_705 F (f_M_write_633 F n) a0 a2 a0 ((((t3 + t4) - t6).toInt32) + ((nI 8) * a2)) t13 ph14
      else
        (xgR ph 12 29 a0).bind fun t15 =>
        (xgR ph 12 75 a0).bind fun t16 =>
        (xaI ph 1 t16 a2).bind fun t17 =>
        (xaJ ph 2 t15 t17).bind fun t18 =>
        f_M_write_705 F (f_M_write_633 F n) a0 a2 a0 ((((t3 + t4) - t6).toInt32) + ((nI 8) * a2)) t18 ph
theorem r_M_write_633 {l : Launch} {g : px_G} {d F : Nat} : ∀ (n : Nat) {a0 : Nat} {a2 : Int32} {ph : px_H} {r : Unit} {ph' : px_H}, f_M_write_633 F n a0 a2 ph = some (r, ph') → PW l g (d + 14) m_M_write 633 [.ref a0, px_u, .int a2, px_u, px_u, px_u, px_u] [] ph (px_qV r ph') := by
  intro n
  induction n with
  | zero => intro _ _ _ _ _ h; cases h
  | succ n ih =>
    intro a0 a2 ph r ph' h
    unfold f_M_write_633 at h
    refine px_ld rfl rfl rfl rfl rfl ?_
    refine px_ld rfl rfl rfl rfl rfl ?_
    obtain ⟨t1, h0, h⟩ := xs_some h
    obtain ⟨fs, e1, e2⟩ := xgI_some h0
    refine px_get rfl e1 e2 rfl ?_
    refine px_icge rfl (by decide) rfl (fun hc => ?_) (fun hc => ?_)
    · replace h := (if_pos hc).symm.trans h
      refine px_forget (n := 2) (lv' := [_, _, _, _, _, _, _]) rfl ?_
      exact (r_M_write_734 h :)
    · replace h := (if_neg hc).symm.trans h
      refine px_ld rfl rfl rfl rfl rfl ?_
      refine px_ld rfl rfl rfl rfl rfl ?_
      obtain ⟨t2, h0, h⟩ := xs_some h
      obtain ⟨fs, e1, e2⟩ := xgR_some h0
      refine px_get rfl e1 e2 rfl ?_
      refine px_ic (k := 2) rfl rfl rfl ?_
      obtain ⟨t3, h0, h⟩ := xs_some h
      obtain ⟨N, f, e1, e2, e3⟩ := xaJ_some h0
      subst e3
      refine px_lald rfl e1 rfl e2 rfl ?_
      refine px_ld rfl rfl rfl rfl rfl ?_
      obtain ⟨t4, h0, h⟩ := xs_some h
      obtain ⟨fs, e1, e2⟩ := xgJ_some h0
      refine px_get rfl e1 e2 rfl ?_
      refine px_alu rfl rfl rfl ?_
      refine px_ld rfl rfl rfl rfl rfl ?_
      obtain ⟨t5, h0, h⟩ := xs_some h
      obtain ⟨fs, e1, e2⟩ := xgR_some h0
      refine px_get rfl e1 e2 rfl ?_
      refine px_ic (k := 2) rfl rfl rfl ?_
      obtain ⟨t6, h0, h⟩ := xs_some h
      obtain ⟨N, f, e1, e2, e3⟩ := xaJ_some h0
      subst e3
      refine px_lald rfl e1 rfl e2 rfl ?_
      refine px_alu rfl rfl rfl ?_
      refine px_alu rfl rfl rfl ?_
      refine px_ic (k := 8) rfl rfl rfl ?_
      refine px_ld rfl rfl rfl rfl rfl ?_
      refine px_alu rfl rfl rfl ?_
      refine px_alu rfl rfl rfl ?_
      refine px_ld rfl rfl rfl rfl rfl ?_
      obtain ⟨t7, h0, h⟩ := xs_some h
      obtain ⟨fs, e1, e2⟩ := xgR_some h0
      refine px_get rfl e1 e2 rfl ?_
      refine px_ld rfl rfl rfl rfl rfl ?_
      obtain ⟨t8, h0, h⟩ := xs_some h
      obtain ⟨N, f, e1, e2, e3⟩ := xaI_some h0
      subst e3
      refine px_iald rfl e1 rfl e2 rfl ?_
      refine px_iflt rfl (by decide) rfl (fun hc => ?_) (fun hc => ?_)
      · replace h := (if_pos hc).symm.trans h
        refine px_ld rfl rfl rfl rfl rfl ?_
        refine px_ld rfl rfl rfl rfl rfl ?_
        obtain ⟨t9, h0, h⟩ := xs_some h
        obtain ⟨fs, e1, e2⟩ := xgR_some h0
        refine px_get rfl e1 e2 rfl ?_
        refine px_ld rfl rfl rfl rfl rfl ?_
        obtain ⟨t10, h0, h⟩ := xs_some h
        obtain ⟨N, f, e1, e2, e3⟩ := xaI_some h0
        subst e3
        refine px_iald rfl e1 rfl e2 rfl ?_
        refine px_ld rfl rfl rfl rfl rfl ?_
        obtain ⟨t11, h0, h⟩ := xs_some h
        obtain ⟨fs, e1, e2⟩ := xgR_some h0
        refine px_get rfl e1 e2 rfl ?_
        refine px_ld rfl rfl rfl rfl rfl ?_
        obtain ⟨t12, h0, h⟩ := xs_some h
        obtain ⟨N, f, e1, e2, e3⟩ := xaI_some h0
        subst e3
        refine px_iald rfl e1 rfl e2 rfl ?_
        obtain ⟨fs, h0, h⟩ := xs_some h
        have e1 := xo_some h0
        obtain ⟨t13, ph14, h0, h⟩ := xb_some h
        refine px_cV2 rfl rfl e1 rfl rfl rfl rfl rfl rfl rfl (r_M_symbolAddress h0 :) (fun _ _ q => nomatch q.2) (fun r ph' q => ?_)
        obtain ⟨rfl, q⟩ := q
        cases q
        exact (r_M_write_705 @ih h :)
      · replace h := (if_neg hc).symm.trans h
        refine px_ld rfl rfl rfl rfl rfl ?_
        obtain ⟨t15, h0, h⟩ := xs_some h
        obtain ⟨fs, e1, e2⟩ := xgR_some h0
        refine px_get rfl e1 e2 rfl ?_
        refine px_ld rfl rfl rfl rfl rfl ?_
        obtain ⟨t16, h0, h⟩ := xs_some h
        obtain ⟨fs, e1, e2⟩ := xgR_some h0
        refine px_get rfl e1 e2 rfl ?_
        refine px_ld rfl rfl rfl rfl rfl ?_
        obtain ⟨t17, h0, h⟩ := xs_some h
        obtain ⟨N, f, e1, e2, e3⟩ := xaI_some h0
        subst e3
        refine px_iald rfl e1 rfl e2 rfl ?_
        obtain ⟨t18, h0, h⟩ := xs_some h
        obtain ⟨N, f, e1, e2, e3⟩ := xaJ_some h0
        subst e3
        refine px_lald rfl e1 rfl e2 rfl ?_
        refine px_goto rfl (by decide) rfl ?_
        exact (r_M_write_705 @ih h :)
def f_M_write_631 (F : Nat) (a0 : Nat) (ph : px_H) : Option (Unit × px_H) :=
  f_M_write_633 F F a0 (nI 0) ph
theorem r_M_write_631 {l : Launch} {g : px_G} {d F : Nat} {a0 : Nat} {ph : px_H} {r : Unit} {ph' : px_H} (h : f_M_write_631 F a0 ph = some (r, ph')) : PW l g (d + 14) m_M_write 631 [.ref a0, px_u, px_u, px_u, px_u, px_u, px_u] [] ph (px_qV r ph') := by
  unfold f_M_write_631 at h
  refine px_ic (k := 0) rfl rfl rfl ?_
  refine px_st (lv' := [_, _, _, _, _, _, _]) rfl rfl rfl rfl rfl rfl rfl ?_
  exact (r_M_write_633 _ h :)
def f_M_write_625 (F : Nat) (k481 : Nat → Int32 → px_H → Option (Unit × px_H)) (a0 : Nat) (a2 : Int32) (ph : px_H) : Option (Unit × px_H) :=
  k481 a0 (a2 + nI 1) ph
theorem r_M_write_625 {l : Launch} {g : px_G} {d F : Nat} {k481 : Nat → Int32 → px_H → Option (Unit × px_H)} (hk481 : ∀ {a0 : Nat} {a2 : Int32} {ph : px_H} {r : Unit} {ph' : px_H}, k481 a0 a2 ph = some (r, ph') → PW l g (d + 14) m_M_write 481 [.ref a0, px_u, .int a2, px_u, px_u, px_u, px_u] [] ph (px_qV r ph')) {a0 : Nat} {a2 : Int32} {ph : px_H} {r : Unit} {ph' : px_H} (h : f_M_write_625 F k481 a0 a2 ph = some (r, ph')) : PW l g (d + 14) m_M_write 625 [.ref a0, px_u, .int a2, px_u, px_u, px_u, px_u] [] ph (px_qV r ph') := by
  unfold f_M_write_625 at h
  refine px_iinc (lv' := [_, _, _, _, _, _, _]) rfl rfl rfl rfl rfl rfl ?_
  refine px_goto rfl (by decide) rfl ?_
  exact (hk481 h :)
def f_M_write_576 (F : Nat) (k481 : Nat → Int32 → px_H → Option (Unit × px_H)) : Nat → Nat → Int32 → Int32 → Int32 → Int32 → px_H → Option (Unit × px_H)
  | 0, _, _, _, _, _, _ => none
  | n + 1, a0, a2, a3, a5, a6, ph =>
    (xgR ph 12 56 a0).bind fun t1 =>
    (xaI ph 1 t1 a2).bind fun t2 =>
    if t2 ≤ a6 then
      f_M_write_625 F k481 a0 a2 ph
    else
      (xgR ph 12 3 a0).bind fun t3 =>
      (xgR ph 12 6 a0).bind fun t4 =>
      (xgR ph 12 54 a0).bind fun t5 =>
      (xaI ph 1 t5 a2).bind fun t6 =>
      (xo ph 12 a0).bind fun _ =>
      xb (f_M_beginning F a0 a3 t6 ph) fun t7 ph8 =>
      (xaI ph8 0 t4 ((a3 + t7.toInt32) + a6)).bind fun t9 =>
      (xsI ph8 0 t3 (a5 + a6) (t9.toInt8.toInt32)).bind fun ph10 =>
      f_M_write_576 F k481 n a0 a2 a3 a5 (a6 + nI 1) ph10
theorem r_M_write_576 {l : Launch} {g : px_G} {d F : Nat} {k481 : Nat → Int32 → px_H → Option (Unit × px_H)} (hk481 : ∀ {a0 : Nat} {a2 : Int32} {ph : px_H} {r : Unit} {ph' : px_H}, k481 a0 a2 ph = some (r, ph') → PW l g (d + 14) m_M_write 481 [.ref a0, px_u, .int a2, px_u, px_u, px_u, px_u] [] ph (px_qV r ph')) : ∀ (n : Nat) {a0 : Nat} {a2 : Int32} {a3 : Int32} {a5 : Int32} {a6 : Int32} {ph : px_H} {r : Unit} {ph' : px_H}, f_M_write_576 F k481 n a0 a2 a3 a5 a6 ph = some (r, ph') → PW l g (d + 14) m_M_write 576 [.ref a0, px_u, .int a2, .int a3, px_u, .int a5, .int a6] [] ph (px_qV r ph') := by
  intro n
  induction n with
  | zero => intro _ _ _ _ _ _ _ _ h; cases h
  | succ n ih =>
    intro a0 a2 a3 a5 a6 ph r ph' h
    unfold f_M_write_576 at h
    refine px_ld rfl rfl rfl rfl rfl ?_
    refine px_ld rfl rfl rfl rfl rfl ?_
    obtain ⟨t1, h0, h⟩ := xs_some h
    obtain ⟨fs, e1, e2⟩ := xgR_some h0
    refine px_get rfl e1 e2 rfl ?_
    refine px_ld rfl rfl rfl rfl rfl ?_
    obtain ⟨t2, h0, h⟩ := xs_some h
    obtain ⟨N, f, e1, e2, e3⟩ := xaI_some h0
    subst e3
    refine px_iald rfl e1 rfl e2 rfl ?_
    refine px_icge rfl (by decide) rfl (fun hc => ?_) (fun hc => ?_)
    · replace h := (if_pos hc).symm.trans h
      refine px_forget (n := 3) (lv' := [_, _, _, _, _, _, _]) rfl ?_
      refine px_forget (n := 5) (lv' := [_, _, _, _, _, _, _]) rfl ?_
      refine px_forget (n := 6) (lv' := [_, _, _, _, _, _, _]) rfl ?_
      exact (r_M_write_625 @hk481 h :)
    · replace h := (if_neg hc).symm.trans h
      refine px_ld rfl rfl rfl rfl rfl ?_
      obtain ⟨t3, h0, h⟩ := xs_some h
      obtain ⟨fs, e1, e2⟩ := xgR_some h0
      refine px_get rfl e1 e2 rfl ?_
      refine px_ld rfl rfl rfl rfl rfl ?_
      refine px_ld rfl rfl rfl rfl rfl ?_
      refine px_alu rfl rfl rfl ?_
      refine px_ld rfl rfl rfl rfl rfl ?_
      obtain ⟨t4, h0, h⟩ := xs_some h
      obtain ⟨fs, e1, e2⟩ := xgR_some h0
      refine px_get rfl e1 e2 rfl ?_
      refine px_ld rfl rfl rfl rfl rfl ?_
      refine px_ld rfl rfl rfl rfl rfl ?_
      refine px_ld rfl rfl rfl rfl rfl ?_
      refine px_ld rfl rfl rfl rfl rfl ?_
      obtain ⟨t5, h0, h⟩ := xs_some h
      obtain ⟨fs, e1, e2⟩ := xgR_some h0
      refine px_get rfl e1 e2 rfl ?_
      refine px_ld rfl rfl rfl rfl rfl ?_
      obtain ⟨t6, h0, h⟩ := xs_some h
      obtain ⟨N, f, e1, e2, e3⟩ := xaI_some h0
      subst e3
      refine px_iald rfl e1 rfl e2 rfl ?_
      obtain ⟨fs, h0, h⟩ := xs_some h
      have e1 := xo_some h0
      obtain ⟨t7, ph8, h0, h⟩ := xb_some h
      refine px_cV2 rfl rfl e1 rfl rfl rfl rfl rfl rfl rfl (r_M_beginning h0 :) (fun _ _ q => nomatch q.2) (fun r ph' q => ?_)
      obtain ⟨rfl, q⟩ := q
      cases q
      refine px_alu rfl rfl rfl ?_
      refine px_alu rfl rfl rfl ?_
      refine px_ld rfl rfl rfl rfl rfl ?_
      refine px_alu rfl rfl rfl ?_
      obtain ⟨t9, h0, h⟩ := xs_some h
      obtain ⟨N, f, e1, e2, e3⟩ := xaI_some h0
      subst e3
      refine px_bald rfl e1 rfl e2 rfl ?_
      obtain ⟨ph10, h0, h⟩ := xs_some h
      obtain ⟨N, f, e1, e2, e3⟩ := xsI_some h0
      subst e3
      refine px_bast rfl e1 rfl e2 rfl ?_
      refine px_iinc (lv' := [_, _, _, _, _, _, _]) rfl rfl rfl rfl rfl rfl ?_
      refine px_goto rfl (by decide) rfl ?_
      exact (ih h :)
def f_M_write_481 (F : Nat) : Nat → Nat → Int32 → px_H → Option (Unit × px_H)
  | 0, _, _, _ => none
  | n + 1, a0, a2, ph =>
    (xgI ph 12 50 a0).bind fun t1 =>
    if t1 ≤ a2 then
      f_M_write_631 F a0 ph
    else
      (xgR ph 12 51 a0).bind fun t2 =>
      (xaI ph 1 t2 a2).bind fun t3 =>
      (xo ph 12 a0).bind fun _ =>
      xb (f_M_object F a0 t3 ph) fun t4 ph5 =>
      (xgR ph5 12 55 a0).bind fun t6 =>
      (xaI ph5 1 t6 a2).bind fun t7 =>
      if t7 = (nI 3) then
        f_M_write_625 F (f_M_write_481 F n) a0 a2 ph5
      else
        (xgR ph5 12 55 a0).bind fun t8 =>
        (xaI ph5 1 t8 a2).bind fun t9 =>
        if t9 = (nI 5) then
          f_M_write_625 F (f_M_write_481 F n) a0 a2 ph5
        else
          (xgR ph5 12 54 a0).bind fun t10 =>
          (xaI ph5 1 t10 a2).bind fun t11 =>
          (xo ph5 12 a0).bind fun _ =>
          xb (f_M_isStrings F a0 t4 t11 ph5) fun t12 ph13 =>
          if t12 = 0 then
            (xgR ph13 12 55 a0).bind fun t14 =>
            (xaI ph13 1 t14 a2).bind fun t15 =>
            xb (f_M_segmentOf F t15 ph13) fun t16 ph17 =>
            (xgR ph17 12 60 a0).bind fun t18 =>
            (xaJ ph17 2 t18 t16).bind fun t19 =>
            (xgR ph17 12 57 a0).bind fun t20 =>
            (xaJ ph17 2 t20 a2).bind fun t21 =>
            (xgR ph17 12 61 a0).bind fun t22 =>
            (xaJ ph17 2 t22 t16).bind fun t23 =>
            f_M_write_576 F (f_M_write_481 F n) F a0 a2 t4 (((t19 + t21) - t23).toInt32) (nI 0) ph17
          else
            f_M_write_625 F (f_M_write_481 F n) a0 a2 ph13
theorem r_M_write_481 {l : Launch} {g : px_G} {d F : Nat} : ∀ (n : Nat) {a0 : Nat} {a2 : Int32} {ph : px_H} {r : Unit} {ph' : px_H}, f_M_write_481 F n a0 a2 ph = some (r, ph') → PW l g (d + 14) m_M_write 481 [.ref a0, px_u, .int a2, px_u, px_u, px_u, px_u] [] ph (px_qV r ph') := by
  intro n
  induction n with
  | zero => intro _ _ _ _ _ h; cases h
  | succ n ih =>
    intro a0 a2 ph r ph' h
    unfold f_M_write_481 at h
    refine px_ld rfl rfl rfl rfl rfl ?_
    refine px_ld rfl rfl rfl rfl rfl ?_
    obtain ⟨t1, h0, h⟩ := xs_some h
    obtain ⟨fs, e1, e2⟩ := xgI_some h0
    refine px_get rfl e1 e2 rfl ?_
    refine px_icge rfl (by decide) rfl (fun hc => ?_) (fun hc => ?_)
    · replace h := (if_pos hc).symm.trans h
      refine px_forget (n := 2) (lv' := [_, _, _, _, _, _, _]) rfl ?_
      exact (r_M_write_631 h :)
    · replace h := (if_neg hc).symm.trans h
      refine px_ld rfl rfl rfl rfl rfl ?_
      refine px_ld rfl rfl rfl rfl rfl ?_
      obtain ⟨t2, h0, h⟩ := xs_some h
      obtain ⟨fs, e1, e2⟩ := xgR_some h0
      refine px_get rfl e1 e2 rfl ?_
      refine px_ld rfl rfl rfl rfl rfl ?_
      obtain ⟨t3, h0, h⟩ := xs_some h
      obtain ⟨N, f, e1, e2, e3⟩ := xaI_some h0
      subst e3
      refine px_iald rfl e1 rfl e2 rfl ?_
      obtain ⟨fs, h0, h⟩ := xs_some h
      have e1 := xo_some h0
      obtain ⟨t4, ph5, h0, h⟩ := xb_some h
      refine px_cV1 rfl rfl e1 rfl rfl rfl rfl rfl rfl rfl (r_M_object h0 :) (fun _ _ q => nomatch q.2) (fun r ph' q => ?_)
      obtain ⟨rfl, q⟩ := q
      cases q
      refine px_st (lv' := [_, _, _, _, _, _, _]) rfl rfl rfl rfl rfl rfl rfl ?_
      refine px_ld rfl rfl rfl rfl rfl ?_
      obtain ⟨t6, h0, h⟩ := xs_some h
      obtain ⟨fs, e1, e2⟩ := xgR_some h0
      refine px_get rfl e1 e2 rfl ?_
      refine px_ld rfl rfl rfl rfl rfl ?_
      obtain ⟨t7, h0, h⟩ := xs_some h
      obtain ⟨N, f, e1, e2, e3⟩ := xaI_some h0
      subst e3
      refine px_iald rfl e1 rfl e2 rfl ?_
      refine px_ic (k := 3) rfl rfl rfl ?_
      refine px_iceq rfl (by decide) rfl (fun hc => ?_) (fun hc => ?_)
      · replace h := (if_pos hc).symm.trans h
        refine px_forget (n := 3) (lv' := [_, _, _, _, _, _, _]) rfl ?_
        exact (r_M_write_625 @ih h :)
      · replace h := (if_neg hc).symm.trans h
        refine px_ld rfl rfl rfl rfl rfl ?_
        obtain ⟨t8, h0, h⟩ := xs_some h
        obtain ⟨fs, e1, e2⟩ := xgR_some h0
        refine px_get rfl e1 e2 rfl ?_
        refine px_ld rfl rfl rfl rfl rfl ?_
        obtain ⟨t9, h0, h⟩ := xs_some h
        obtain ⟨N, f, e1, e2, e3⟩ := xaI_some h0
        subst e3
        refine px_iald rfl e1 rfl e2 rfl ?_
        refine px_ic (k := 5) rfl rfl rfl ?_
        refine px_iceq rfl (by decide) rfl (fun hc => ?_) (fun hc => ?_)
        · replace h := (if_pos hc).symm.trans h
          refine px_forget (n := 3) (lv' := [_, _, _, _, _, _, _]) rfl ?_
          exact (r_M_write_625 @ih h :)
        · replace h := (if_neg hc).symm.trans h
          refine px_ld rfl rfl rfl rfl rfl ?_
          refine px_ld rfl rfl rfl rfl rfl ?_
          refine px_ld rfl rfl rfl rfl rfl ?_
          obtain ⟨t10, h0, h⟩ := xs_some h
          obtain ⟨fs, e1, e2⟩ := xgR_some h0
          refine px_get rfl e1 e2 rfl ?_
          refine px_ld rfl rfl rfl rfl rfl ?_
          obtain ⟨t11, h0, h⟩ := xs_some h
          obtain ⟨N, f, e1, e2, e3⟩ := xaI_some h0
          subst e3
          refine px_iald rfl e1 rfl e2 rfl ?_
          obtain ⟨fs, h0, h⟩ := xs_some h
          have e1 := xo_some h0
          obtain ⟨t12, ph13, h0, h⟩ := xb_some h
          refine px_cV2 rfl rfl e1 rfl rfl rfl rfl rfl rfl rfl (r_M_isStrings h0 :) (fun _ _ q => nomatch q.2) (fun r ph' q => ?_)
          obtain ⟨rfl, q⟩ := q
          cases q
          refine px_ifeq rfl (by decide) rfl (fun hc => ?_) (fun hc => ?_)
          · replace h := (if_pos hc).symm.trans h
            refine px_ld rfl rfl rfl rfl rfl ?_
            obtain ⟨t14, h0, h⟩ := xs_some h
            obtain ⟨fs, e1, e2⟩ := xgR_some h0
            refine px_get rfl e1 e2 rfl ?_
            refine px_ld rfl rfl rfl rfl rfl ?_
            obtain ⟨t15, h0, h⟩ := xs_some h
            obtain ⟨N, f, e1, e2, e3⟩ := xaI_some h0
            subst e3
            refine px_iald rfl e1 rfl e2 rfl ?_
            obtain ⟨t16, ph17, h0, h⟩ := xb_some h
            refine px_cS1 rfl rfl rfl rfl rfl rfl rfl (r_M_segmentOf h0 :) (fun _ _ q => nomatch q.2) (fun r ph' q => ?_)
            obtain ⟨rfl, q⟩ := q
            cases q
            refine px_st (lv' := [_, _, _, _, _, _, _]) rfl rfl rfl rfl rfl rfl rfl ?_
            refine px_ld rfl rfl rfl rfl rfl ?_
            obtain ⟨t18, h0, h⟩ := xs_some h
            obtain ⟨fs, e1, e2⟩ := xgR_some h0
            refine px_get rfl e1 e2 rfl ?_
            refine px_ld rfl rfl rfl rfl rfl ?_
            obtain ⟨t19, h0, h⟩ := xs_some h
            obtain ⟨N, f, e1, e2, e3⟩ := xaJ_some h0
            subst e3
            refine px_lald rfl e1 rfl e2 rfl ?_
            refine px_ld rfl rfl rfl rfl rfl ?_
            obtain ⟨t20, h0, h⟩ := xs_some h
            obtain ⟨fs, e1, e2⟩ := xgR_some h0
            refine px_get rfl e1 e2 rfl ?_
            refine px_ld rfl rfl rfl rfl rfl ?_
            obtain ⟨t21, h0, h⟩ := xs_some h
            obtain ⟨N, f, e1, e2, e3⟩ := xaJ_some h0
            subst e3
            refine px_lald rfl e1 rfl e2 rfl ?_
            refine px_alu rfl rfl rfl ?_
            refine px_ld rfl rfl rfl rfl rfl ?_
            obtain ⟨t22, h0, h⟩ := xs_some h
            obtain ⟨fs, e1, e2⟩ := xgR_some h0
            refine px_get rfl e1 e2 rfl ?_
            refine px_ld rfl rfl rfl rfl rfl ?_
            obtain ⟨t23, h0, h⟩ := xs_some h
            obtain ⟨N, f, e1, e2, e3⟩ := xaJ_some h0
            subst e3
            refine px_lald rfl e1 rfl e2 rfl ?_
            refine px_alu rfl rfl rfl ?_
            refine px_alu rfl rfl rfl ?_
            refine px_st (lv' := [_, _, _, _, _, _, _]) rfl rfl rfl rfl rfl rfl rfl ?_
            refine px_ic (k := 0) rfl rfl rfl ?_
            refine px_st (lv' := [_, _, _, _, _, _, _]) rfl rfl rfl rfl rfl rfl rfl ?_
            refine px_forget (n := 4) (lv' := [_, _, _, _, _, _, _]) rfl ?_
            exact (r_M_write_576 @ih _ h :)
          · replace h := (if_neg hc).symm.trans h
            refine px_goto rfl (by decide) rfl ?_
            refine px_forget (n := 3) (lv' := [_, _, _, _, _, _, _]) rfl ?_
            exact (r_M_write_625 @ih h :)
def f_M_write_479 (F : Nat) (a0 : Nat) (ph : px_H) : Option (Unit × px_H) :=
  f_M_write_481 F F a0 (nI 0) ph
theorem r_M_write_479 {l : Launch} {g : px_G} {d F : Nat} {a0 : Nat} {ph : px_H} {r : Unit} {ph' : px_H} (h : f_M_write_479 F a0 ph = some (r, ph')) : PW l g (d + 14) m_M_write 479 [.ref a0, px_u, px_u, px_u, px_u, px_u, px_u] [] ph (px_qV r ph') := by
  unfold f_M_write_479 at h
  refine px_ic (k := 0) rfl rfl rfl ?_
  refine px_st (lv' := [_, _, _, _, _, _, _]) rfl rfl rfl rfl rfl rfl rfl ?_
  exact (r_M_write_481 _ h :)
def f_M_write_433 (F : Nat) : Nat → Nat → Int32 → px_H → Option (Unit × px_H)
  | 0, _, _, _ => none
  | n + 1, a0, a2, ph =>
    (xgI ph 12 88 a0).bind fun t1 =>
    if t1 ≤ a2 then
      f_M_write_479 F a0 ph
    else
      (xgR ph 12 3 a0).bind fun t2 =>
      (xgR ph 12 60 a0).bind fun t3 =>
      (xaJ ph 2 t3 (nI 1)).bind fun t4 =>
      (xgJ ph 12 90 a0).bind fun t5 =>
      (xgR ph 12 61 a0).bind fun t6 =>
      (xaJ ph 2 t6 (nI 1)).bind fun t7 =>
      (xgR ph 12 91 a0).bind fun t8 =>
      (xaI ph 0 t8 a2).bind fun t9 =>
      (xsI ph 0 t2 ((((t4 + t5) - t7).toInt32) + a2) (t9.toInt8.toInt32)).bind fun ph10 =>
      f_M_write_433 F n a0 (a2 + nI 1) ph10
theorem r_M_write_433 {l : Launch} {g : px_G} {d F : Nat} : ∀ (n : Nat) {a0 : Nat} {a2 : Int32} {ph : px_H} {r : Unit} {ph' : px_H}, f_M_write_433 F n a0 a2 ph = some (r, ph') → PW l g (d + 14) m_M_write 433 [.ref a0, px_u, .int a2, px_u, px_u, px_u, px_u] [] ph (px_qV r ph') := by
  intro n
  induction n with
  | zero => intro _ _ _ _ _ h; cases h
  | succ n ih =>
    intro a0 a2 ph r ph' h
    unfold f_M_write_433 at h
    refine px_ld rfl rfl rfl rfl rfl ?_
    refine px_ld rfl rfl rfl rfl rfl ?_
    obtain ⟨t1, h0, h⟩ := xs_some h
    obtain ⟨fs, e1, e2⟩ := xgI_some h0
    refine px_get rfl e1 e2 rfl ?_
    refine px_icge rfl (by decide) rfl (fun hc => ?_) (fun hc => ?_)
    · replace h := (if_pos hc).symm.trans h
      refine px_forget (n := 2) (lv' := [_, _, _, _, _, _, _]) rfl ?_
      exact (r_M_write_479 h :)
    · replace h := (if_neg hc).symm.trans h
      refine px_ld rfl rfl rfl rfl rfl ?_
      obtain ⟨t2, h0, h⟩ := xs_some h
      obtain ⟨fs, e1, e2⟩ := xgR_some h0
      refine px_get rfl e1 e2 rfl ?_
      refine px_ld rfl rfl rfl rfl rfl ?_
      obtain ⟨t3, h0, h⟩ := xs_some h
      obtain ⟨fs, e1, e2⟩ := xgR_some h0
      refine px_get rfl e1 e2 rfl ?_
      refine px_ic (k := 1) rfl rfl rfl ?_
      obtain ⟨t4, h0, h⟩ := xs_some h
      obtain ⟨N, f, e1, e2, e3⟩ := xaJ_some h0
      subst e3
      refine px_lald rfl e1 rfl e2 rfl ?_
      refine px_ld rfl rfl rfl rfl rfl ?_
      obtain ⟨t5, h0, h⟩ := xs_some h
      obtain ⟨fs, e1, e2⟩ := xgJ_some h0
      refine px_get rfl e1 e2 rfl ?_
      refine px_alu rfl rfl rfl ?_
      refine px_ld rfl rfl rfl rfl rfl ?_
      obtain ⟨t6, h0, h⟩ := xs_some h
      obtain ⟨fs, e1, e2⟩ := xgR_some h0
      refine px_get rfl e1 e2 rfl ?_
      refine px_ic (k := 1) rfl rfl rfl ?_
      obtain ⟨t7, h0, h⟩ := xs_some h
      obtain ⟨N, f, e1, e2, e3⟩ := xaJ_some h0
      subst e3
      refine px_lald rfl e1 rfl e2 rfl ?_
      refine px_alu rfl rfl rfl ?_
      refine px_alu rfl rfl rfl ?_
      refine px_ld rfl rfl rfl rfl rfl ?_
      refine px_alu rfl rfl rfl ?_
      refine px_ld rfl rfl rfl rfl rfl ?_
      obtain ⟨t8, h0, h⟩ := xs_some h
      obtain ⟨fs, e1, e2⟩ := xgR_some h0
      refine px_get rfl e1 e2 rfl ?_
      refine px_ld rfl rfl rfl rfl rfl ?_
      obtain ⟨t9, h0, h⟩ := xs_some h
      obtain ⟨N, f, e1, e2, e3⟩ := xaI_some h0
      subst e3
      refine px_bald rfl e1 rfl e2 rfl ?_
      obtain ⟨ph10, h0, h⟩ := xs_some h
      obtain ⟨N, f, e1, e2, e3⟩ := xsI_some h0
      subst e3
      refine px_bast rfl e1 rfl e2 rfl ?_
      refine px_iinc (lv' := [_, _, _, _, _, _, _]) rfl rfl rfl rfl rfl rfl ?_
      refine px_goto rfl (by decide) rfl ?_
      exact (ih h :)
def f_M_write_431 (F : Nat) (a0 : Nat) (ph : px_H) : Option (Unit × px_H) :=
  f_M_write_433 F F a0 (nI 0) ph
theorem r_M_write_431 {l : Launch} {g : px_G} {d F : Nat} {a0 : Nat} {ph : px_H} {r : Unit} {ph' : px_H} (h : f_M_write_431 F a0 ph = some (r, ph')) : PW l g (d + 14) m_M_write 431 [.ref a0, px_u, px_u, px_u, px_u, px_u, px_u] [] ph (px_qV r ph') := by
  unfold f_M_write_431 at h
  refine px_ic (k := 0) rfl rfl rfl ?_
  refine px_st (lv' := [_, _, _, _, _, _, _]) rfl rfl rfl rfl rfl rfl rfl ?_
  exact (r_M_write_433 _ h :)
def f_M_write_306 (F : Nat) (a0 : Nat) (a1 : Int32) (ph : px_H) : Option (Unit × px_H) :=
  (xgI ph 12 82 a0).bind fun t1 =>
  if t1 = 0 then
    f_M_write_431 F a0 ph
  else
    (xo ph 12 a0).bind fun _ =>
    xb (f_M_put F a0 a1 ((7 : Int64)) (nI 4) ph) fun _ ph2 =>
    (xo ph2 12 a0).bind fun _ =>
    xb (f_M_put F a0 (a1 + (nI 4)) ((4 : Int64)) (nI 4) ph2) fun _ ph3 =>
    (xgR ph3 12 60 a0).bind fun t4 =>
    (xaJ ph3 2 t4 (nI 2)).bind fun t5 =>
    (xgJ ph3 12 83 a0).bind fun t6 =>
    (xgR ph3 12 61 a0).bind fun t7 =>
    (xaJ ph3 2 t7 (nI 2)).bind fun t8 =>
    (xo ph3 12 a0).bind fun _ =>
    xb (f_M_put F a0 (a1 + (nI 8)) ((t5 + t6) - t8) (nI 8) ph3) fun _ ph9 =>
    (xgJ ph9 12 83 a0).bind fun t10 =>
    (xo ph9 12 a0).bind fun _ =>
    xb (f_M_put F a0 (a1 + (nI 16)) t10 (nI 8) ph9) fun _ ph11 =>
    (xgJ ph11 12 83 a0).bind fun t12 =>
    (xo ph11 12 a0).bind fun _ =>
    xb (f_M_put F a0 (a1 + (nI 24)) t12 (nI 8) ph11) fun _ ph13 =>
    (xgJ ph13 12 84 a0).bind fun t14 =>
    (xo ph13 12 a0).bind fun _ =>
    xb (f_M_put F a0 (a1 + (nI 32)) t14 (nI 8) ph13) fun _ ph15 =>
    (xgJ ph15 12 85 a0).bind fun t16 =>
    (xo ph15 12 a0).bind fun _ =>
    xb (f_M_put F a0 (a1 + (nI 40)) t16 (nI 8) ph15) fun _ ph17 =>
    (xgJ ph17 12 86 a0).bind fun t18 =>
    (xo ph17 12 a0).bind fun _ =>
    xb (f_M_put F a0 (a1 + (nI 48)) t18 (nI 8) ph17) fun _ ph19 =>
    f_M_write_431 F a0 ph19
theorem r_M_write_306 {l : Launch} {g : px_G} {d F : Nat} {a0 : Nat} {a1 : Int32} {ph : px_H} {r : Unit} {ph' : px_H} (h : f_M_write_306 F a0 a1 ph = some (r, ph')) : PW l g (d + 14) m_M_write 306 [.ref a0, .int a1, px_u, px_u, px_u, px_u, px_u] [] ph (px_qV r ph') := by
  unfold f_M_write_306 at h
  refine px_ld rfl rfl rfl rfl rfl ?_
  obtain ⟨t1, h0, h⟩ := xs_some h
  obtain ⟨fs, e1, e2⟩ := xgI_some h0
  refine px_get rfl e1 e2 rfl ?_
  refine px_ifeq rfl (by decide) rfl (fun hc => ?_) (fun hc => ?_)
  · replace h := (if_pos hc).symm.trans h
    refine px_forget (n := 1) (lv' := [_, _, _, _, _, _, _]) rfl ?_
    exact (r_M_write_431 h :)
  · replace h := (if_neg hc).symm.trans h
    refine px_ld rfl rfl rfl rfl rfl ?_
    refine px_ld rfl rfl rfl rfl rfl ?_
    refine px_ldc2 rfl rfl rfl ?_
    refine px_ic (k := 4) rfl rfl rfl ?_
    obtain ⟨fs, h0, h⟩ := xs_some h
    have e1 := xo_some h0
    obtain ⟨u0, ph2, h0, h⟩ := xb_some h
    refine px_cV3 rfl rfl e1 rfl rfl rfl rfl rfl rfl rfl (r_M_put h0 :) (fun _ _ q => nomatch q.2) (fun r ph' q => ?_)
    obtain ⟨rfl, q⟩ := q
    cases q
    refine px_ld rfl rfl rfl rfl rfl ?_
    refine px_ld rfl rfl rfl rfl rfl ?_
    refine px_ic (k := 4) rfl rfl rfl ?_
    refine px_alu rfl rfl rfl ?_
    refine px_ldc2 rfl rfl rfl ?_
    refine px_ic (k := 4) rfl rfl rfl ?_
    obtain ⟨fs, h0, h⟩ := xs_some h
    have e1 := xo_some h0
    obtain ⟨u0, ph3, h0, h⟩ := xb_some h
    refine px_cV3 rfl rfl e1 rfl rfl rfl rfl rfl rfl rfl (r_M_put h0 :) (fun _ _ q => nomatch q.2) (fun r ph' q => ?_)
    obtain ⟨rfl, q⟩ := q
    cases q
    refine px_ld rfl rfl rfl rfl rfl ?_
    refine px_ld rfl rfl rfl rfl rfl ?_
    refine px_ic (k := 8) rfl rfl rfl ?_
    refine px_alu rfl rfl rfl ?_
    refine px_ld rfl rfl rfl rfl rfl ?_
    obtain ⟨t4, h0, h⟩ := xs_some h
    obtain ⟨fs, e1, e2⟩ := xgR_some h0
    refine px_get rfl e1 e2 rfl ?_
    refine px_ic (k := 2) rfl rfl rfl ?_
    obtain ⟨t5, h0, h⟩ := xs_some h
    obtain ⟨N, f, e1, e2, e3⟩ := xaJ_some h0
    subst e3
    refine px_lald rfl e1 rfl e2 rfl ?_
    refine px_ld rfl rfl rfl rfl rfl ?_
    obtain ⟨t6, h0, h⟩ := xs_some h
    obtain ⟨fs, e1, e2⟩ := xgJ_some h0
    refine px_get rfl e1 e2 rfl ?_
    refine px_alu rfl rfl rfl ?_
    refine px_ld rfl rfl rfl rfl rfl ?_
    obtain ⟨t7, h0, h⟩ := xs_some h
    obtain ⟨fs, e1, e2⟩ := xgR_some h0
    refine px_get rfl e1 e2 rfl ?_
    refine px_ic (k := 2) rfl rfl rfl ?_
    obtain ⟨t8, h0, h⟩ := xs_some h
    obtain ⟨N, f, e1, e2, e3⟩ := xaJ_some h0
    subst e3
    refine px_lald rfl e1 rfl e2 rfl ?_
    refine px_alu rfl rfl rfl ?_
    refine px_ic (k := 8) rfl rfl rfl ?_
    obtain ⟨fs, h0, h⟩ := xs_some h
    have e1 := xo_some h0
    obtain ⟨u0, ph9, h0, h⟩ := xb_some h
    refine px_cV3 rfl rfl e1 rfl rfl rfl rfl rfl rfl rfl (r_M_put h0 :) (fun _ _ q => nomatch q.2) (fun r ph' q => ?_)
    obtain ⟨rfl, q⟩ := q
    cases q
    refine px_ld rfl rfl rfl rfl rfl ?_
    refine px_ld rfl rfl rfl rfl rfl ?_
    refine px_ic (k := 16) rfl rfl rfl ?_
    refine px_alu rfl rfl rfl ?_
    refine px_ld rfl rfl rfl rfl rfl ?_
    obtain ⟨t10, h0, h⟩ := xs_some h
    obtain ⟨fs, e1, e2⟩ := xgJ_some h0
    refine px_get rfl e1 e2 rfl ?_
    refine px_ic (k := 8) rfl rfl rfl ?_
    obtain ⟨fs, h0, h⟩ := xs_some h
    have e1 := xo_some h0
    obtain ⟨u0, ph11, h0, h⟩ := xb_some h
    refine px_cV3 rfl rfl e1 rfl rfl rfl rfl rfl rfl rfl (r_M_put h0 :) (fun _ _ q => nomatch q.2) (fun r ph' q => ?_)
    obtain ⟨rfl, q⟩ := q
    cases q
    refine px_ld rfl rfl rfl rfl rfl ?_
    refine px_ld rfl rfl rfl rfl rfl ?_
    refine px_ic (k := 24) rfl rfl rfl ?_
    refine px_alu rfl rfl rfl ?_
    refine px_ld rfl rfl rfl rfl rfl ?_
    obtain ⟨t12, h0, h⟩ := xs_some h
    obtain ⟨fs, e1, e2⟩ := xgJ_some h0
    refine px_get rfl e1 e2 rfl ?_
    refine px_ic (k := 8) rfl rfl rfl ?_
    obtain ⟨fs, h0, h⟩ := xs_some h
    have e1 := xo_some h0
    obtain ⟨u0, ph13, h0, h⟩ := xb_some h
    refine px_cV3 rfl rfl e1 rfl rfl rfl rfl rfl rfl rfl (r_M_put h0 :) (fun _ _ q => nomatch q.2) (fun r ph' q => ?_)
    obtain ⟨rfl, q⟩ := q
    cases q
    refine px_ld rfl rfl rfl rfl rfl ?_
    refine px_ld rfl rfl rfl rfl rfl ?_
    refine px_ic (k := 32) rfl rfl rfl ?_
    refine px_alu rfl rfl rfl ?_
    refine px_ld rfl rfl rfl rfl rfl ?_
    obtain ⟨t14, h0, h⟩ := xs_some h
    obtain ⟨fs, e1, e2⟩ := xgJ_some h0
    refine px_get rfl e1 e2 rfl ?_
    refine px_ic (k := 8) rfl rfl rfl ?_
    obtain ⟨fs, h0, h⟩ := xs_some h
    have e1 := xo_some h0
    obtain ⟨u0, ph15, h0, h⟩ := xb_some h
    refine px_cV3 rfl rfl e1 rfl rfl rfl rfl rfl rfl rfl (r_M_put h0 :) (fun _ _ q => nomatch q.2) (fun r ph' q => ?_)
    obtain ⟨rfl, q⟩ := q
    cases q
    refine px_ld rfl rfl rfl rfl rfl ?_
    refine px_ld rfl rfl rfl rfl rfl ?_
    refine px_ic (k := 40) rfl rfl rfl ?_
    refine px_alu rfl rfl rfl ?_
    refine px_ld rfl rfl rfl rfl rfl ?_
    obtain ⟨t16, h0, h⟩ := xs_some h
    obtain ⟨fs, e1, e2⟩ := xgJ_some h0
    refine px_get rfl e1 e2 rfl ?_
    refine px_ic (k := 8) rfl rfl rfl ?_
    obtain ⟨fs, h0, h⟩ := xs_some h
    have e1 := xo_some h0
    obtain ⟨u0, ph17, h0, h⟩ := xb_some h
    refine px_cV3 rfl rfl e1 rfl rfl rfl rfl rfl rfl rfl (r_M_put h0 :) (fun _ _ q => nomatch q.2) (fun r ph' q => ?_)
    obtain ⟨rfl, q⟩ := q
    cases q
    refine px_ld rfl rfl rfl rfl rfl ?_
    refine px_ld rfl rfl rfl rfl rfl ?_
    refine px_ic (k := 48) rfl rfl rfl ?_
    refine px_alu rfl rfl rfl ?_
    refine px_ld rfl rfl rfl rfl rfl ?_
    obtain ⟨t18, h0, h⟩ := xs_some h
    obtain ⟨fs, e1, e2⟩ := xgJ_some h0
    refine px_get rfl e1 e2 rfl ?_
    refine px_ic (k := 8) rfl rfl rfl ?_
    obtain ⟨fs, h0, h⟩ := xs_some h
    have e1 := xo_some h0
    obtain ⟨u0, ph19, h0, h⟩ := xb_some h
    refine px_cV3 rfl rfl e1 rfl rfl rfl rfl rfl rfl rfl (r_M_put h0 :) (fun _ _ q => nomatch q.2) (fun r ph' q => ?_)
    obtain ⟨rfl, q⟩ := q
    cases q
    refine px_forget (n := 1) (lv' := [_, _, _, _, _, _, _]) rfl ?_
    exact (r_M_write_431 h :)
def f_M_write_300 (F : Nat) (k148 : Nat → Int32 → Int32 → px_H → Option (Unit × px_H)) (a0 : Nat) (a1 : Int32) (a2 : Int32) (ph : px_H) : Option (Unit × px_H) :=
  k148 a0 a1 (a2 + nI 1) ph
theorem r_M_write_300 {l : Launch} {g : px_G} {d F : Nat} {k148 : Nat → Int32 → Int32 → px_H → Option (Unit × px_H)} (hk148 : ∀ {a0 : Nat} {a1 : Int32} {a2 : Int32} {ph : px_H} {r : Unit} {ph' : px_H}, k148 a0 a1 a2 ph = some (r, ph') → PW l g (d + 14) m_M_write 148 [.ref a0, .int a1, .int a2, px_u, px_u, px_u, px_u] [] ph (px_qV r ph')) {a0 : Nat} {a1 : Int32} {a2 : Int32} {ph : px_H} {r : Unit} {ph' : px_H} (h : f_M_write_300 F k148 a0 a1 a2 ph = some (r, ph')) : PW l g (d + 14) m_M_write 300 [.ref a0, .int a1, .int a2, px_u, px_u, px_u, px_u] [] ph (px_qV r ph') := by
  unfold f_M_write_300 at h
  refine px_iinc (lv' := [_, _, _, _, _, _, _]) rfl rfl rfl rfl rfl rfl ?_
  refine px_goto rfl (by decide) rfl ?_
  exact (hk148 h :)
def f_M_write_200 (F : Nat) (k148 : Nat → Int32 → Int32 → px_H → Option (Unit × px_H)) (a0 : Nat) (a1 : Int32) (a2 : Int32) (s0 : Nat) (s1 : Int32) (s2 : Int64) (ph : px_H) : Option (Unit × px_H) :=
  (xo ph 12 s0).bind fun _ =>
  xb (f_M_put F s0 s1 s2 (nI 4) ph) fun _ ph1 =>
  (xgR ph1 12 60 a0).bind fun t2 =>
  (xaJ ph1 2 t2 a2).bind fun t3 =>
  (xo ph1 12 a0).bind fun _ =>
  xb (f_M_put F a0 (a1 + (nI 8)) t3 (nI 8) ph1) fun _ ph4 =>
  (xgR ph4 12 61 a0).bind fun t5 =>
  (xaJ ph4 2 t5 a2).bind fun t6 =>
  (xo ph4 12 a0).bind fun _ =>
  xb (f_M_put F a0 (a1 + (nI 16)) t6 (nI 8) ph4) fun _ ph7 =>
  (xgR ph7 12 61 a0).bind fun t8 =>
  (xaJ ph7 2 t8 a2).bind fun t9 =>
  (xo ph7 12 a0).bind fun _ =>
  xb (f_M_put F a0 (a1 + (nI 24)) t9 (nI 8) ph7) fun _ ph10 =>
  (xgR ph10 12 62 a0).bind fun t11 =>
  (xaJ ph10 2 t11 a2).bind fun t12 =>
  (xo ph10 12 a0).bind fun _ =>
  xb (f_M_put F a0 (a1 + (nI 32)) t12 (nI 8) ph10) fun _ ph13 =>
  (xgR ph13 12 63 a0).bind fun t14 =>
  (xaJ ph13 2 t14 a2).bind fun t15 =>
  (xo ph13 12 a0).bind fun _ =>
  xb (f_M_put F a0 (a1 + (nI 40)) t15 (nI 8) ph13) fun _ ph16 =>
  (xo ph16 12 a0).bind fun _ =>
  xb (f_M_put F a0 (a1 + (nI 48)) ((4096 : Int64)) (nI 8) ph16) fun _ ph17 =>
  f_M_write_300 F k148 a0 (a1 + nI 56) a2 ph17
theorem r_M_write_200 {l : Launch} {g : px_G} {d F : Nat} {k148 : Nat → Int32 → Int32 → px_H → Option (Unit × px_H)} (hk148 : ∀ {a0 : Nat} {a1 : Int32} {a2 : Int32} {ph : px_H} {r : Unit} {ph' : px_H}, k148 a0 a1 a2 ph = some (r, ph') → PW l g (d + 14) m_M_write 148 [.ref a0, .int a1, .int a2, px_u, px_u, px_u, px_u] [] ph (px_qV r ph')) {a0 : Nat} {a1 : Int32} {a2 : Int32} {s0 : Nat} {s1 : Int32} {s2 : Int64} {ph : px_H} {r : Unit} {ph' : px_H} (h : f_M_write_200 F k148 a0 a1 a2 s0 s1 s2 ph = some (r, ph')) : PW l g (d + 14) m_M_write 200 [.ref a0, .int a1, .int a2, px_u, px_u, px_u, px_u] [.long s2, .int s1, .ref s0] ph (px_qV r ph') := by
  unfold f_M_write_200 at h
  refine px_ic (k := 4) rfl rfl rfl ?_
  obtain ⟨fs, h0, h⟩ := xs_some h
  have e1 := xo_some h0
  obtain ⟨u0, ph1, h0, h⟩ := xb_some h
  refine px_cV3 rfl rfl e1 rfl rfl rfl rfl rfl rfl rfl (r_M_put h0 :) (fun _ _ q => nomatch q.2) (fun r ph' q => ?_)
  obtain ⟨rfl, q⟩ := q
  cases q
  refine px_ld rfl rfl rfl rfl rfl ?_
  refine px_ld rfl rfl rfl rfl rfl ?_
  refine px_ic (k := 8) rfl rfl rfl ?_
  refine px_alu rfl rfl rfl ?_
  refine px_ld rfl rfl rfl rfl rfl ?_
  obtain ⟨t2, h0, h⟩ := xs_some h
  obtain ⟨fs, e1, e2⟩ := xgR_some h0
  refine px_get rfl e1 e2 rfl ?_
  refine px_ld rfl rfl rfl rfl rfl ?_
  obtain ⟨t3, h0, h⟩ := xs_some h
  obtain ⟨N, f, e1, e2, e3⟩ := xaJ_some h0
  subst e3
  refine px_lald rfl e1 rfl e2 rfl ?_
  refine px_ic (k := 8) rfl rfl rfl ?_
  obtain ⟨fs, h0, h⟩ := xs_some h
  have e1 := xo_some h0
  obtain ⟨u0, ph4, h0, h⟩ := xb_some h
  refine px_cV3 rfl rfl e1 rfl rfl rfl rfl rfl rfl rfl (r_M_put h0 :) (fun _ _ q => nomatch q.2) (fun r ph' q => ?_)
  obtain ⟨rfl, q⟩ := q
  cases q
  refine px_ld rfl rfl rfl rfl rfl ?_
  refine px_ld rfl rfl rfl rfl rfl ?_
  refine px_ic (k := 16) rfl rfl rfl ?_
  refine px_alu rfl rfl rfl ?_
  refine px_ld rfl rfl rfl rfl rfl ?_
  obtain ⟨t5, h0, h⟩ := xs_some h
  obtain ⟨fs, e1, e2⟩ := xgR_some h0
  refine px_get rfl e1 e2 rfl ?_
  refine px_ld rfl rfl rfl rfl rfl ?_
  obtain ⟨t6, h0, h⟩ := xs_some h
  obtain ⟨N, f, e1, e2, e3⟩ := xaJ_some h0
  subst e3
  refine px_lald rfl e1 rfl e2 rfl ?_
  refine px_ic (k := 8) rfl rfl rfl ?_
  obtain ⟨fs, h0, h⟩ := xs_some h
  have e1 := xo_some h0
  obtain ⟨u0, ph7, h0, h⟩ := xb_some h
  refine px_cV3 rfl rfl e1 rfl rfl rfl rfl rfl rfl rfl (r_M_put h0 :) (fun _ _ q => nomatch q.2) (fun r ph' q => ?_)
  obtain ⟨rfl, q⟩ := q
  cases q
  refine px_ld rfl rfl rfl rfl rfl ?_
  refine px_ld rfl rfl rfl rfl rfl ?_
  refine px_ic (k := 24) rfl rfl rfl ?_
  refine px_alu rfl rfl rfl ?_
  refine px_ld rfl rfl rfl rfl rfl ?_
  obtain ⟨t8, h0, h⟩ := xs_some h
  obtain ⟨fs, e1, e2⟩ := xgR_some h0
  refine px_get rfl e1 e2 rfl ?_
  refine px_ld rfl rfl rfl rfl rfl ?_
  obtain ⟨t9, h0, h⟩ := xs_some h
  obtain ⟨N, f, e1, e2, e3⟩ := xaJ_some h0
  subst e3
  refine px_lald rfl e1 rfl e2 rfl ?_
  refine px_ic (k := 8) rfl rfl rfl ?_
  obtain ⟨fs, h0, h⟩ := xs_some h
  have e1 := xo_some h0
  obtain ⟨u0, ph10, h0, h⟩ := xb_some h
  refine px_cV3 rfl rfl e1 rfl rfl rfl rfl rfl rfl rfl (r_M_put h0 :) (fun _ _ q => nomatch q.2) (fun r ph' q => ?_)
  obtain ⟨rfl, q⟩ := q
  cases q
  refine px_ld rfl rfl rfl rfl rfl ?_
  refine px_ld rfl rfl rfl rfl rfl ?_
  refine px_ic (k := 32) rfl rfl rfl ?_
  refine px_alu rfl rfl rfl ?_
  refine px_ld rfl rfl rfl rfl rfl ?_
  obtain ⟨t11, h0, h⟩ := xs_some h
  obtain ⟨fs, e1, e2⟩ := xgR_some h0
  refine px_get rfl e1 e2 rfl ?_
  refine px_ld rfl rfl rfl rfl rfl ?_
  obtain ⟨t12, h0, h⟩ := xs_some h
  obtain ⟨N, f, e1, e2, e3⟩ := xaJ_some h0
  subst e3
  refine px_lald rfl e1 rfl e2 rfl ?_
  refine px_ic (k := 8) rfl rfl rfl ?_
  obtain ⟨fs, h0, h⟩ := xs_some h
  have e1 := xo_some h0
  obtain ⟨u0, ph13, h0, h⟩ := xb_some h
  refine px_cV3 rfl rfl e1 rfl rfl rfl rfl rfl rfl rfl (r_M_put h0 :) (fun _ _ q => nomatch q.2) (fun r ph' q => ?_)
  obtain ⟨rfl, q⟩ := q
  cases q
  refine px_ld rfl rfl rfl rfl rfl ?_
  refine px_ld rfl rfl rfl rfl rfl ?_
  refine px_ic (k := 40) rfl rfl rfl ?_
  refine px_alu rfl rfl rfl ?_
  refine px_ld rfl rfl rfl rfl rfl ?_
  obtain ⟨t14, h0, h⟩ := xs_some h
  obtain ⟨fs, e1, e2⟩ := xgR_some h0
  refine px_get rfl e1 e2 rfl ?_
  refine px_ld rfl rfl rfl rfl rfl ?_
  obtain ⟨t15, h0, h⟩ := xs_some h
  obtain ⟨N, f, e1, e2, e3⟩ := xaJ_some h0
  subst e3
  refine px_lald rfl e1 rfl e2 rfl ?_
  refine px_ic (k := 8) rfl rfl rfl ?_
  obtain ⟨fs, h0, h⟩ := xs_some h
  have e1 := xo_some h0
  obtain ⟨u0, ph16, h0, h⟩ := xb_some h
  refine px_cV3 rfl rfl e1 rfl rfl rfl rfl rfl rfl rfl (r_M_put h0 :) (fun _ _ q => nomatch q.2) (fun r ph' q => ?_)
  obtain ⟨rfl, q⟩ := q
  cases q
  refine px_ld rfl rfl rfl rfl rfl ?_
  refine px_ld rfl rfl rfl rfl rfl ?_
  refine px_ic (k := 48) rfl rfl rfl ?_
  refine px_alu rfl rfl rfl ?_
  refine px_ldc2 rfl rfl rfl ?_
  refine px_ic (k := 8) rfl rfl rfl ?_
  obtain ⟨fs, h0, h⟩ := xs_some h
  have e1 := xo_some h0
  obtain ⟨u0, ph17, h0, h⟩ := xb_some h
  refine px_cV3 rfl rfl e1 rfl rfl rfl rfl rfl rfl rfl (r_M_put h0 :) (fun _ _ q => nomatch q.2) (fun r ph' q => ?_)
  obtain ⟨rfl, q⟩ := q
  cases q
  refine px_iinc (lv' := [_, _, _, _, _, _, _]) rfl rfl rfl rfl rfl rfl ?_
  exact (r_M_write_300 @hk148 h :)
def f_M_write_148 (F : Nat) : Nat → Nat → Int32 → Int32 → px_H → Option (Unit × px_H)
  | 0, _, _, _, _ => none
  | n + 1, a0, a1, a2, ph =>
    if (nI 3) ≤ a2 then
      f_M_write_306 F a0 a1 ph
    else
      (xgR ph 12 59 a0).bind fun t1 =>
      (xaI ph 3 t1 a2).bind fun t2 =>
      if t2 = 0 then
        f_M_write_300 F (f_M_write_148 F n) a0 a1 a2 ph
      else
        (xo ph 12 a0).bind fun _ =>
        xb (f_M_put F a0 a1 (lN 1) (nI 4) ph) fun _ ph3 =>
        if a2 = 0 then
          f_M_write_200 F (f_M_write_148 F n) a0 a1 a2 a0 (a1 + (nI 4)) ((5 : Int64)) ph3
        else
          if a2 = (nI 1) then
            f_M_write_200 F (f_M_write_148 F n) a0 a1 a2 a0 (a1 + (nI 4)) ((4 : Int64)) ph3
          else
            f_M_write_200 F (f_M_write_148 F n) a0 a1 a2 a0 (a1 + (nI 4)) ((6 : Int64)) ph3
theorem r_M_write_148 {l : Launch} {g : px_G} {d F : Nat} : ∀ (n : Nat) {a0 : Nat} {a1 : Int32} {a2 : Int32} {ph : px_H} {r : Unit} {ph' : px_H}, f_M_write_148 F n a0 a1 a2 ph = some (r, ph') → PW l g (d + 14) m_M_write 148 [.ref a0, .int a1, .int a2, px_u, px_u, px_u, px_u] [] ph (px_qV r ph') := by
  intro n
  induction n with
  | zero => intro _ _ _ _ _ _ h; cases h
  | succ n ih =>
    intro a0 a1 a2 ph r ph' h
    unfold f_M_write_148 at h
    refine px_ld rfl rfl rfl rfl rfl ?_
    refine px_ic (k := 3) rfl rfl rfl ?_
    refine px_icge rfl (by decide) rfl (fun hc => ?_) (fun hc => ?_)
    · replace h := (if_pos hc).symm.trans h
      refine px_forget (n := 2) (lv' := [_, _, _, _, _, _, _]) rfl ?_
      exact (r_M_write_306 h :)
    · replace h := (if_neg hc).symm.trans h
      refine px_ld rfl rfl rfl rfl rfl ?_
      obtain ⟨t1, h0, h⟩ := xs_some h
      obtain ⟨fs, e1, e2⟩ := xgR_some h0
      refine px_get rfl e1 e2 rfl ?_
      refine px_ld rfl rfl rfl rfl rfl ?_
      obtain ⟨t2, h0, h⟩ := xs_some h
      obtain ⟨N, f, e1, e2, e3⟩ := xaI_some h0
      subst e3
      refine px_zald rfl e1 rfl e2 rfl ?_
      refine px_ifne rfl (by decide) rfl (fun hc => ?_) (fun hc => ?_)
      · replace h := (if_neg hc).symm.trans h
        refine px_ld rfl rfl rfl rfl rfl ?_
        refine px_ld rfl rfl rfl rfl rfl ?_
        refine px_alu rfl rfl rfl ?_
        refine px_ic (k := 4) rfl rfl rfl ?_
        obtain ⟨fs, h0, h⟩ := xs_some h
        have e1 := xo_some h0
        obtain ⟨u0, ph3, h0, h⟩ := xb_some h
        refine px_cV3 rfl rfl e1 rfl rfl rfl rfl rfl rfl rfl (r_M_put h0 :) (fun _ _ q => nomatch q.2) (fun r ph' q => ?_)
        obtain ⟨rfl, q⟩ := q
        cases q
        refine px_ld rfl rfl rfl rfl rfl ?_
        refine px_ld rfl rfl rfl rfl rfl ?_
        refine px_ic (k := 4) rfl rfl rfl ?_
        refine px_alu rfl rfl rfl ?_
        refine px_ld rfl rfl rfl rfl rfl ?_
        refine px_ifne rfl (by decide) rfl (fun hc => ?_) (fun hc => ?_)
        · replace h := (if_neg hc).symm.trans h
          refine px_ld rfl rfl rfl rfl rfl ?_
          refine px_ic (k := 1) rfl rfl rfl ?_
          refine px_icne rfl (by decide) rfl (fun hc => ?_) (fun hc => ?_)
          · replace h := (if_neg hc).symm.trans h
            refine px_ldc2 rfl rfl rfl ?_
            exact (r_M_write_200 @ih h :)
          · replace h := (if_pos hc).symm.trans h
            refine px_ldc2 rfl rfl rfl ?_
            refine px_goto rfl (by decide) rfl ?_
            exact (r_M_write_200 @ih h :)
        · replace h := (if_pos hc).symm.trans h
          refine px_ldc2 rfl rfl rfl ?_
          refine px_goto rfl (by decide) rfl ?_
          exact (r_M_write_200 @ih h :)
      · replace h := (if_pos hc).symm.trans h
        refine px_goto rfl (by decide) rfl ?_
        exact (r_M_write_300 @ih h :)
def f_M_write_137 (F : Nat) (a0 : Nat) (s0 : Nat) (s1 : Int32) (s2 : Int32) (s3 : Int32) (ph : px_H) : Option (Unit × px_H) :=
  (xo ph 12 s0).bind fun _ =>
  xb (f_M_put F s0 s1 ((s2 + s3).toInt64) (nI 2) ph) fun _ ph1 =>
  f_M_write_148 F F a0 (nI 64) (nI 0) ph1
theorem r_M_write_137 {l : Launch} {g : px_G} {d F : Nat} {a0 : Nat} {s0 : Nat} {s1 : Int32} {s2 : Int32} {s3 : Int32} {ph : px_H} {r : Unit} {ph' : px_H} (h : f_M_write_137 F a0 s0 s1 s2 s3 ph = some (r, ph')) : PW l g (d + 14) m_M_write 137 [.ref a0, px_u, px_u, px_u, px_u, px_u, px_u] [.int s3, .int s2, .int s1, .ref s0] ph (px_qV r ph') := by
  unfold f_M_write_137 at h
  refine px_alu rfl rfl rfl ?_
  refine px_alu rfl rfl rfl ?_
  refine px_ic (k := 2) rfl rfl rfl ?_
  obtain ⟨fs, h0, h⟩ := xs_some h
  have e1 := xo_some h0
  obtain ⟨u0, ph1, h0, h⟩ := xb_some h
  refine px_cV3 rfl rfl e1 rfl rfl rfl rfl rfl rfl rfl (r_M_put h0 :) (fun _ _ q => nomatch q.2) (fun r ph' q => ?_)
  obtain ⟨rfl, q⟩ := q
  cases q
  refine px_ic (k := 64) rfl rfl rfl ?_
  refine px_st (lv' := [_, _, _, _, _, _, _]) rfl rfl rfl rfl rfl rfl rfl ?_
  refine px_ic (k := 0) rfl rfl rfl ?_
  refine px_st (lv' := [_, _, _, _, _, _, _]) rfl rfl rfl rfl rfl rfl rfl ?_
  exact (r_M_write_148 _ h :)
def f_M_write_32 (F : Nat) (a0 : Nat) (ph : px_H) : Option (Unit × px_H) :=
  (xo ph 12 a0).bind fun _ =>
  xb (f_M_put F a0 (nI 0) ((282584257676671 : Int64)) (nI 7) ph) fun _ ph1 =>
  (xo ph1 12 a0).bind fun _ =>
  xb (f_M_put F a0 (nI 16) ((2 : Int64)) (nI 2) ph1) fun _ ph2 =>
  (xo ph2 12 a0).bind fun _ =>
  xb (f_M_put F a0 (nI 18) ((62 : Int64)) (nI 2) ph2) fun _ ph3 =>
  (xo ph3 12 a0).bind fun _ =>
  xb (f_M_put F a0 (nI 20) (lN 1) (nI 4) ph3) fun _ ph4 =>
  (xgR ph4 12 29 a0).bind fun t5 =>
  (xo ph4 12 a0).bind fun _ =>
  xb (f_M_start F a0 ph4) fun t6 ph7 =>
  (xaJ ph7 2 t5 t6).bind fun t8 =>
  (xo ph7 12 a0).bind fun _ =>
  xb (f_M_put F a0 (nI 24) t8 (nI 8) ph7) fun _ ph9 =>
  (xo ph9 12 a0).bind fun _ =>
  xb (f_M_put F a0 (nI 32) ((64 : Int64)) (nI 8) ph9) fun _ ph10 =>
  (xo ph10 12 a0).bind fun _ =>
  xb (f_M_put F a0 (nI 52) ((64 : Int64)) (nI 2) ph10) fun _ ph11 =>
  (xo ph11 12 a0).bind fun _ =>
  xb (f_M_put F a0 (nI 54) ((56 : Int64)) (nI 2) ph11) fun _ ph12 =>
  (xgI ph12 12 15 a0).bind fun t13 =>
  (xgI ph12 12 82 a0).bind fun t14 =>
  if t14 = 0 then
    f_M_write_137 F a0 a0 (nI 56) t13 (nI 0) ph12
  else
    f_M_write_137 F a0 a0 (nI 56) t13 (nI 1) ph12
theorem r_M_write_32 {l : Launch} {g : px_G} {d F : Nat} {a0 : Nat} {ph : px_H} {r : Unit} {ph' : px_H} (h : f_M_write_32 F a0 ph = some (r, ph')) : PW l g (d + 14) m_M_write 32 [.ref a0, px_u, px_u, px_u, px_u, px_u, px_u] [] ph (px_qV r ph') := by
  unfold f_M_write_32 at h
  refine px_ld rfl rfl rfl rfl rfl ?_
  refine px_ic (k := 0) rfl rfl rfl ?_
  refine px_ldc2 rfl rfl rfl ?_
  refine px_ic (k := 7) rfl rfl rfl ?_
  obtain ⟨fs, h0, h⟩ := xs_some h
  have e1 := xo_some h0
  obtain ⟨u0, ph1, h0, h⟩ := xb_some h
  refine px_cV3 rfl rfl e1 rfl rfl rfl rfl rfl rfl rfl (r_M_put h0 :) (fun _ _ q => nomatch q.2) (fun r ph' q => ?_)
  obtain ⟨rfl, q⟩ := q
  cases q
  refine px_ld rfl rfl rfl rfl rfl ?_
  refine px_ic (k := 16) rfl rfl rfl ?_
  refine px_ldc2 rfl rfl rfl ?_
  refine px_ic (k := 2) rfl rfl rfl ?_
  obtain ⟨fs, h0, h⟩ := xs_some h
  have e1 := xo_some h0
  obtain ⟨u0, ph2, h0, h⟩ := xb_some h
  refine px_cV3 rfl rfl e1 rfl rfl rfl rfl rfl rfl rfl (r_M_put h0 :) (fun _ _ q => nomatch q.2) (fun r ph' q => ?_)
  obtain ⟨rfl, q⟩ := q
  cases q
  refine px_ld rfl rfl rfl rfl rfl ?_
  refine px_ic (k := 18) rfl rfl rfl ?_
  refine px_ldc2 rfl rfl rfl ?_
  refine px_ic (k := 2) rfl rfl rfl ?_
  obtain ⟨fs, h0, h⟩ := xs_some h
  have e1 := xo_some h0
  obtain ⟨u0, ph3, h0, h⟩ := xb_some h
  refine px_cV3 rfl rfl e1 rfl rfl rfl rfl rfl rfl rfl (r_M_put h0 :) (fun _ _ q => nomatch q.2) (fun r ph' q => ?_)
  obtain ⟨rfl, q⟩ := q
  cases q
  refine px_ld rfl rfl rfl rfl rfl ?_
  refine px_ic (k := 20) rfl rfl rfl ?_
  refine px_alu rfl rfl rfl ?_
  refine px_ic (k := 4) rfl rfl rfl ?_
  obtain ⟨fs, h0, h⟩ := xs_some h
  have e1 := xo_some h0
  obtain ⟨u0, ph4, h0, h⟩ := xb_some h
  refine px_cV3 rfl rfl e1 rfl rfl rfl rfl rfl rfl rfl (r_M_put h0 :) (fun _ _ q => nomatch q.2) (fun r ph' q => ?_)
  obtain ⟨rfl, q⟩ := q
  cases q
  refine px_ld rfl rfl rfl rfl rfl ?_
  refine px_ic (k := 24) rfl rfl rfl ?_
  refine px_ld rfl rfl rfl rfl rfl ?_
  obtain ⟨t5, h0, h⟩ := xs_some h
  obtain ⟨fs, e1, e2⟩ := xgR_some h0
  refine px_get rfl e1 e2 rfl ?_
  refine px_ld rfl rfl rfl rfl rfl ?_
  obtain ⟨fs, h0, h⟩ := xs_some h
  have e1 := xo_some h0
  obtain ⟨t6, ph7, h0, h⟩ := xb_some h
  refine px_cV0 rfl rfl e1 rfl rfl rfl rfl rfl rfl rfl (r_M_start h0 :) (fun _ _ q => nomatch q.2) (fun r ph' q => ?_)
  obtain ⟨rfl, q⟩ := q
  cases q
  obtain ⟨t8, h0, h⟩ := xs_some h
  obtain ⟨N, f, e1, e2, e3⟩ := xaJ_some h0
  subst e3
  refine px_lald rfl e1 rfl e2 rfl ?_
  refine px_ic (k := 8) rfl rfl rfl ?_
  obtain ⟨fs, h0, h⟩ := xs_some h
  have e1 := xo_some h0
  obtain ⟨u0, ph9, h0, h⟩ := xb_some h
  refine px_cV3 rfl rfl e1 rfl rfl rfl rfl rfl rfl rfl (r_M_put h0 :) (fun _ _ q => nomatch q.2) (fun r ph' q => ?_)
  obtain ⟨rfl, q⟩ := q
  cases q
  refine px_ld rfl rfl rfl rfl rfl ?_
  refine px_ic (k := 32) rfl rfl rfl ?_
  refine px_ldc2 rfl rfl rfl ?_
  refine px_ic (k := 8) rfl rfl rfl ?_
  obtain ⟨fs, h0, h⟩ := xs_some h
  have e1 := xo_some h0
  obtain ⟨u0, ph10, h0, h⟩ := xb_some h
  refine px_cV3 rfl rfl e1 rfl rfl rfl rfl rfl rfl rfl (r_M_put h0 :) (fun _ _ q => nomatch q.2) (fun r ph' q => ?_)
  obtain ⟨rfl, q⟩ := q
  cases q
  refine px_ld rfl rfl rfl rfl rfl ?_
  refine px_ic (k := 52) rfl rfl rfl ?_
  refine px_ldc2 rfl rfl rfl ?_
  refine px_ic (k := 2) rfl rfl rfl ?_
  obtain ⟨fs, h0, h⟩ := xs_some h
  have e1 := xo_some h0
  obtain ⟨u0, ph11, h0, h⟩ := xb_some h
  refine px_cV3 rfl rfl e1 rfl rfl rfl rfl rfl rfl rfl (r_M_put h0 :) (fun _ _ q => nomatch q.2) (fun r ph' q => ?_)
  obtain ⟨rfl, q⟩ := q
  cases q
  refine px_ld rfl rfl rfl rfl rfl ?_
  refine px_ic (k := 54) rfl rfl rfl ?_
  refine px_ldc2 rfl rfl rfl ?_
  refine px_ic (k := 2) rfl rfl rfl ?_
  obtain ⟨fs, h0, h⟩ := xs_some h
  have e1 := xo_some h0
  obtain ⟨u0, ph12, h0, h⟩ := xb_some h
  refine px_cV3 rfl rfl e1 rfl rfl rfl rfl rfl rfl rfl (r_M_put h0 :) (fun _ _ q => nomatch q.2) (fun r ph' q => ?_)
  obtain ⟨rfl, q⟩ := q
  cases q
  refine px_ld rfl rfl rfl rfl rfl ?_
  refine px_ic (k := 56) rfl rfl rfl ?_
  refine px_ld rfl rfl rfl rfl rfl ?_
  obtain ⟨t13, h0, h⟩ := xs_some h
  obtain ⟨fs, e1, e2⟩ := xgI_some h0
  refine px_get rfl e1 e2 rfl ?_
  refine px_ld rfl rfl rfl rfl rfl ?_
  obtain ⟨t14, h0, h⟩ := xs_some h
  obtain ⟨fs, e1, e2⟩ := xgI_some h0
  refine px_get rfl e1 e2 rfl ?_
  refine px_ifeq rfl (by decide) rfl (fun hc => ?_) (fun hc => ?_)
  · replace h := (if_pos hc).symm.trans h
    refine px_ic (k := 0) rfl rfl rfl ?_
    exact (r_M_write_137 h :)
  · replace h := (if_neg hc).symm.trans h
    refine px_ic (k := 1) rfl rfl rfl ?_
    refine px_goto rfl (by decide) rfl ?_
    exact (r_M_write_137 h :)
def f_M_write_11 (F : Nat) : Nat → Nat → Int32 → px_H → Option (Unit × px_H)
  | 0, _, _, _ => none
  | n + 1, a0, a1, ph =>
    (xgI ph 12 4 a0).bind fun t1 =>
    if t1 ≤ a1 then
      f_M_write_32 F a0 ph
    else
      (xgR ph 12 3 a0).bind fun t2 =>
      (xsI ph 0 t2 a1 ((nI 0).toInt8.toInt32)).bind fun ph3 =>
      f_M_write_11 F n a0 (a1 + nI 1) ph3
theorem r_M_write_11 {l : Launch} {g : px_G} {d F : Nat} : ∀ (n : Nat) {a0 : Nat} {a1 : Int32} {ph : px_H} {r : Unit} {ph' : px_H}, f_M_write_11 F n a0 a1 ph = some (r, ph') → PW l g (d + 14) m_M_write 11 [.ref a0, .int a1, px_u, px_u, px_u, px_u, px_u] [] ph (px_qV r ph') := by
  intro n
  induction n with
  | zero => intro _ _ _ _ _ h; cases h
  | succ n ih =>
    intro a0 a1 ph r ph' h
    unfold f_M_write_11 at h
    refine px_ld rfl rfl rfl rfl rfl ?_
    refine px_ld rfl rfl rfl rfl rfl ?_
    obtain ⟨t1, h0, h⟩ := xs_some h
    obtain ⟨fs, e1, e2⟩ := xgI_some h0
    refine px_get rfl e1 e2 rfl ?_
    refine px_icge rfl (by decide) rfl (fun hc => ?_) (fun hc => ?_)
    · replace h := (if_pos hc).symm.trans h
      refine px_forget (n := 1) (lv' := [_, _, _, _, _, _, _]) rfl ?_
      exact (r_M_write_32 h :)
    · replace h := (if_neg hc).symm.trans h
      refine px_ld rfl rfl rfl rfl rfl ?_
      obtain ⟨t2, h0, h⟩ := xs_some h
      obtain ⟨fs, e1, e2⟩ := xgR_some h0
      refine px_get rfl e1 e2 rfl ?_
      refine px_ld rfl rfl rfl rfl rfl ?_
      refine px_ic (k := 0) rfl rfl rfl ?_
      obtain ⟨ph3, h0, h⟩ := xs_some h
      obtain ⟨N, f, e1, e2, e3⟩ := xsI_some h0
      subst e3
      refine px_bast rfl e1 rfl e2 rfl ?_
      refine px_iinc (lv' := [_, _, _, _, _, _, _]) rfl rfl rfl rfl rfl rfl ?_
      refine px_goto rfl (by decide) rfl ?_
      exact (ih h :)
def f_M_write (F : Nat) (a0 : Nat) (ph : px_H) : Option (Unit × px_H) :=
  (xgJ ph 12 64 a0).bind fun t1 =>
  (xpI ph 12 4 a0 t1.toInt32).bind fun ph2 =>
  f_M_write_11 F F a0 (nI 0) ph2
theorem r_M_write {l : Launch} {g : px_G} {d F : Nat} {a0 : Nat} {ph : px_H} {r : Unit} {ph' : px_H} (h : f_M_write F a0 ph = some (r, ph')) : PW l g (d + 14) m_M_write 0 [.ref a0, px_u, px_u, px_u, px_u, px_u, px_u] [] ph (px_qV r ph') := by
  unfold f_M_write at h
  refine px_ld rfl rfl rfl rfl rfl ?_
  refine px_ld rfl rfl rfl rfl rfl ?_
  obtain ⟨t1, h0, h⟩ := xs_some h
  obtain ⟨fs, e1, e2⟩ := xgJ_some h0
  refine px_get rfl e1 e2 rfl ?_
  refine px_alu rfl rfl rfl ?_
  obtain ⟨ph2, h0, h⟩ := xs_some h
  obtain ⟨fs, e1, e2, e3⟩ := xpI_some h0
  subst e3
  refine px_put rfl e1 e2 trivial rfl ?_
  refine px_ic (k := 0) rfl rfl rfl ?_
  refine px_st (lv' := [_, _, _, _, _, _, _]) rfl rfl rfl rfl rfl rfl rfl ?_
  exact (r_M_write_11 _ h :)
def f_M_keepLink_266 (F : Nat) (ph : px_H) : Option (Unit × px_H) :=
  some ((), ph)
theorem r_M_keepLink_266 {l : Launch} {g : px_G} {d F : Nat} {ph : px_H} {r : Unit} {ph' : px_H} (h : f_M_keepLink_266 F ph = some (r, ph')) : PW l g (d + 7) m_M_keepLink 266 [px_u, px_u, px_u, px_u, px_u, px_u] [] ph (px_qV r ph') := by
  unfold f_M_keepLink_266 at h
  cases h
  exact px_vret rfl rfl rfl ⟨rfl, rfl⟩
def f_M_keepLink_260 (F : Nat) (k38 : Nat → Int32 → px_H → Option (Unit × px_H)) (a0 : Nat) (a1 : Int32) (ph : px_H) : Option (Unit × px_H) :=
  k38 a0 (a1 + nI 1) ph
theorem r_M_keepLink_260 {l : Launch} {g : px_G} {d F : Nat} {k38 : Nat → Int32 → px_H → Option (Unit × px_H)} (hk38 : ∀ {a0 : Nat} {a1 : Int32} {ph : px_H} {r : Unit} {ph' : px_H}, k38 a0 a1 ph = some (r, ph') → PW l g (d + 7) m_M_keepLink 38 [.ref a0, .int a1, px_u, px_u, px_u, px_u] [] ph (px_qV r ph')) {a0 : Nat} {a1 : Int32} {ph : px_H} {r : Unit} {ph' : px_H} (h : f_M_keepLink_260 F k38 a0 a1 ph = some (r, ph')) : PW l g (d + 7) m_M_keepLink 260 [.ref a0, .int a1, px_u, px_u, px_u, px_u] [] ph (px_qV r ph') := by
  unfold f_M_keepLink_260 at h
  refine px_iinc (lv' := [_, _, _, _, _, _]) rfl rfl rfl rfl rfl rfl ?_
  refine px_goto rfl (by decide) rfl ?_
  exact (hk38 h :)
def f_M_keepLink_259 (F : Nat) (k38 : Nat → Int32 → px_H → Option (Unit × px_H)) (a0 : Nat) (a1 : Int32) (s0 : Nat) (s1 : Int32) (s2 : Int32) (ph : px_H) : Option (Unit × px_H) :=
  (xsI ph 1 s0 s1 s2).bind fun ph1 =>
  f_M_keepLink_260 F k38 a0 a1 ph1
theorem r_M_keepLink_259 {l : Launch} {g : px_G} {d F : Nat} {k38 : Nat → Int32 → px_H → Option (Unit × px_H)} (hk38 : ∀ {a0 : Nat} {a1 : Int32} {ph : px_H} {r : Unit} {ph' : px_H}, k38 a0 a1 ph = some (r, ph') → PW l g (d + 7) m_M_keepLink 38 [.ref a0, .int a1, px_u, px_u, px_u, px_u] [] ph (px_qV r ph')) {a0 : Nat} {a1 : Int32} {s0 : Nat} {s1 : Int32} {s2 : Int32} {ph : px_H} {r : Unit} {ph' : px_H} (h : f_M_keepLink_259 F k38 a0 a1 s0 s1 s2 ph = some (r, ph')) : PW l g (d + 7) m_M_keepLink 259 [.ref a0, .int a1, px_u, px_u, px_u, px_u] [.int s2, .int s1, .ref s0] ph (px_qV r ph') := by
  unfold f_M_keepLink_259 at h
  obtain ⟨ph1, h0, h⟩ := xs_some h
  obtain ⟨N, f, e1, e2, e3⟩ := xsI_some h0
  subst e3
  refine px_iast rfl e1 rfl e2 rfl ?_
  exact (r_M_keepLink_260 @hk38 h :)
def f_M_keepLink_258 (F : Nat) (k38 : Nat → Int32 → px_H → Option (Unit × px_H)) (a0 : Nat) (a1 : Int32) (s0 : Nat) (s1 : Int32) (ph : px_H) : Option (Unit × px_H) :=
  f_M_keepLink_259 F k38 a0 a1 s0 s1 (Int32.ofInt (-1)) ph
theorem r_M_keepLink_258 {l : Launch} {g : px_G} {d F : Nat} {k38 : Nat → Int32 → px_H → Option (Unit × px_H)} (hk38 : ∀ {a0 : Nat} {a1 : Int32} {ph : px_H} {r : Unit} {ph' : px_H}, k38 a0 a1 ph = some (r, ph') → PW l g (d + 7) m_M_keepLink 38 [.ref a0, .int a1, px_u, px_u, px_u, px_u] [] ph (px_qV r ph')) {a0 : Nat} {a1 : Int32} {s0 : Nat} {s1 : Int32} {ph : px_H} {r : Unit} {ph' : px_H} (h : f_M_keepLink_258 F k38 a0 a1 s0 s1 ph = some (r, ph')) : PW l g (d + 7) m_M_keepLink 258 [.ref a0, .int a1, px_u, px_u, px_u, px_u] [.int s1, .ref s0] ph (px_qV r ph') := by
  unfold f_M_keepLink_258 at h
  refine px_alu rfl rfl rfl ?_
  exact (r_M_keepLink_259 @hk38 h :)
def f_M_keepLink_120 (F : Nat) (k38 : Nat → Int32 → px_H → Option (Unit × px_H)) (a0 : Nat) (a1 : Int32) (a2 : Int32) (a3 : Int32) (s0 : Nat) (s1 : Int32) (s2 : Int32) (ph : px_H) : Option (Unit × px_H) :=
  (xsI ph 1 s0 s1 s2).bind fun ph1 =>
  if a3 = 0 then
    (xo ph1 12 a0).bind fun _ =>
    xb (f_M_isGiven F a0 a2 ph1) fun t2 ph3 =>
    if t2 = 0 then
      (xgR ph3 12 24 a0).bind fun t4 =>
      (xaI ph3 1 t4 a2).bind fun t5 =>
      (xgR ph3 12 25 a0).bind fun t6 =>
      (xaI ph3 1 t6 a2).bind fun t7 =>
      (xo ph3 12 a0).bind fun _ =>
      xb (f_M_whereNow F a0 t5 t7 ph3) fun t8 ph9 =>
      (xgR ph9 12 38 a0).bind fun t10 =>
      (xgR ph9 12 6 a0).bind fun t11 =>
      (xo ph9 12 a0).bind fun _ =>
      xb (f_M_object F a0 t5 ph9) fun t12 ph13 =>
      (xgR ph13 12 25 a0).bind fun t14 =>
      (xaI ph13 1 t14 a2).bind fun t15 =>
      (xo ph13 12 a0).bind fun _ =>
      xb (f_M_symbol F a0 t12 t15 ph13) fun t16 ph17 =>
      (xaI ph17 0 t11 (t16 + (nI 4))).bind fun t18 =>
      (xsI ph17 1 t10 a2 (t18 &&& (nI 255))).bind fun ph19 =>
      (xgR ph19 12 41 a0).bind fun t20 =>
      (xo ph19 12 a0).bind fun _ =>
      xb (f_M_object F a0 t5 ph19) fun t21 ph22 =>
      (xgR ph22 12 25 a0).bind fun t23 =>
      (xaI ph22 1 t23 a2).bind fun t24 =>
      (xo ph22 12 a0).bind fun _ =>
      xb (f_M_symbolSize F a0 t21 t24 ph22) fun t25 ph26 =>
      (xsJ ph26 2 t20 a2 t25).bind fun ph27 =>
      (xgR ph27 12 39 a0).bind fun t28 =>
      (xo ph27 12 a0).bind fun _ =>
      xb (f_M_isSectionNow F a0 t5 t8 ph27) fun t29 ph30 =>
      if t29 = 0 then
        f_M_keepLink_258 F k38 a0 a1 t28 a2 ph30
      else
        (xo ph30 12 a0).bind fun _ =>
        xb (f_M_stays F a0 t5 t8 ph30) fun t31 ph32 =>
        if t31 = 0 then
          f_M_keepLink_258 F k38 a0 a1 t28 a2 ph32
        else
          (xo ph32 12 a0).bind fun _ =>
          xb (f_M_object F a0 t5 ph32) fun t33 ph34 =>
          (xo ph34 12 a0).bind fun _ =>
          xb (f_M_group F a0 t33 t8 ph34) fun t35 ph36 =>
          xb (f_M_segmentOf F t35 ph36) fun t37 ph38 =>
          f_M_keepLink_259 F k38 a0 a1 t28 a2 t37 ph38
    else
      f_M_keepLink_260 F k38 a0 a1 ph3
  else
    f_M_keepLink_260 F k38 a0 a1 ph1
theorem r_M_keepLink_120 {l : Launch} {g : px_G} {d F : Nat} {k38 : Nat → Int32 → px_H → Option (Unit × px_H)} (hk38 : ∀ {a0 : Nat} {a1 : Int32} {ph : px_H} {r : Unit} {ph' : px_H}, k38 a0 a1 ph = some (r, ph') → PW l g (d + 7) m_M_keepLink 38 [.ref a0, .int a1, px_u, px_u, px_u, px_u] [] ph (px_qV r ph')) {a0 : Nat} {a1 : Int32} {a2 : Int32} {a3 : Int32} {s0 : Nat} {s1 : Int32} {s2 : Int32} {ph : px_H} {r : Unit} {ph' : px_H} (h : f_M_keepLink_120 F k38 a0 a1 a2 a3 s0 s1 s2 ph = some (r, ph')) : PW l g (d + 7) m_M_keepLink 120 [.ref a0, .int a1, .int a2, .int a3, px_u, px_u] [.int s2, .int s1, .ref s0] ph (px_qV r ph') := by
  unfold f_M_keepLink_120 at h
  obtain ⟨ph1, h0, h⟩ := xs_some h
  obtain ⟨N, f, e1, e2, e3⟩ := xsI_some h0
  subst e3
  refine px_iast rfl e1 rfl e2 rfl ?_
  refine px_ld rfl rfl rfl rfl rfl ?_
  refine px_ifne rfl (by decide) rfl (fun hc => ?_) (fun hc => ?_)
  · replace h := (if_neg hc).symm.trans h
    refine px_forget (n := 2) (lv' := [_, _, _, _, _, _]) rfl ?_
    refine px_forget (n := 3) (lv' := [_, _, _, _, _, _]) rfl ?_
    exact (r_M_keepLink_260 @hk38 h :)
  · replace h := (if_pos hc).symm.trans h
    refine px_ld rfl rfl rfl rfl rfl ?_
    refine px_ld rfl rfl rfl rfl rfl ?_
    obtain ⟨fs, h0, h⟩ := xs_some h
    have e1 := xo_some h0
    obtain ⟨t2, ph3, h0, h⟩ := xb_some h
    refine px_cV1 rfl rfl e1 rfl rfl rfl rfl rfl rfl rfl (r_M_isGiven h0 :) (fun _ _ q => nomatch q.2) (fun r ph' q => ?_)
    obtain ⟨rfl, q⟩ := q
    cases q
    refine px_ifeq rfl (by decide) rfl (fun hc => ?_) (fun hc => ?_)
    · replace h := (if_pos hc).symm.trans h
      refine px_ld rfl rfl rfl rfl rfl ?_
      obtain ⟨t4, h0, h⟩ := xs_some h
      obtain ⟨fs, e1, e2⟩ := xgR_some h0
      refine px_get rfl e1 e2 rfl ?_
      refine px_ld rfl rfl rfl rfl rfl ?_
      obtain ⟨t5, h0, h⟩ := xs_some h
      obtain ⟨N, f, e1, e2, e3⟩ := xaI_some h0
      subst e3
      refine px_iald rfl e1 rfl e2 rfl ?_
      refine px_st (lv' := [_, _, _, _, _, _]) rfl rfl rfl rfl rfl rfl rfl ?_
      refine px_ld rfl rfl rfl rfl rfl ?_
      refine px_ld rfl rfl rfl rfl rfl ?_
      refine px_ld rfl rfl rfl rfl rfl ?_
      obtain ⟨t6, h0, h⟩ := xs_some h
      obtain ⟨fs, e1, e2⟩ := xgR_some h0
      refine px_get rfl e1 e2 rfl ?_
      refine px_ld rfl rfl rfl rfl rfl ?_
      obtain ⟨t7, h0, h⟩ := xs_some h
      obtain ⟨N, f, e1, e2, e3⟩ := xaI_some h0
      subst e3
      refine px_iald rfl e1 rfl e2 rfl ?_
      obtain ⟨fs, h0, h⟩ := xs_some h
      have e1 := xo_some h0
      obtain ⟨t8, ph9, h0, h⟩ := xb_some h
      refine px_cV2 rfl rfl e1 rfl rfl rfl rfl rfl rfl rfl (r_M_whereNow h0 :) (fun _ _ q => nomatch q.2) (fun r ph' q => ?_)
      obtain ⟨rfl, q⟩ := q
      cases q
      refine px_st (lv' := [_, _, _, _, _, _]) rfl rfl rfl rfl rfl rfl rfl ?_
      refine px_ld rfl rfl rfl rfl rfl ?_
      obtain ⟨t10, h0, h⟩ := xs_some h
      obtain ⟨fs, e1, e2⟩ := xgR_some h0
      refine px_get rfl e1 e2 rfl ?_
      refine px_ld rfl rfl rfl rfl rfl ?_
      refine px_ld rfl rfl rfl rfl rfl ?_
      obtain ⟨t11, h0, h⟩ := xs_some h
      obtain ⟨fs, e1, e2⟩ := xgR_some h0
      refine px_get rfl e1 e2 rfl ?_
      refine px_ld rfl rfl rfl rfl rfl ?_
      refine px_ld rfl rfl rfl rfl rfl ?_
      refine px_ld rfl rfl rfl rfl rfl ?_
      obtain ⟨fs, h0, h⟩ := xs_some h
      have e1 := xo_some h0
      obtain ⟨t12, ph13, h0, h⟩ := xb_some h
      refine px_cV1 rfl rfl e1 rfl rfl rfl rfl rfl rfl rfl (r_M_object h0 :) (fun _ _ q => nomatch q.2) (fun r ph' q => ?_)
      obtain ⟨rfl, q⟩ := q
      cases q
      refine px_ld rfl rfl rfl rfl rfl ?_
      obtain ⟨t14, h0, h⟩ := xs_some h
      obtain ⟨fs, e1, e2⟩ := xgR_some h0
      refine px_get rfl e1 e2 rfl ?_
      refine px_ld rfl rfl rfl rfl rfl ?_
      obtain ⟨t15, h0, h⟩ := xs_some h
      obtain ⟨N, f, e1, e2, e3⟩ := xaI_some h0
      subst e3
      refine px_iald rfl e1 rfl e2 rfl ?_
      obtain ⟨fs, h0, h⟩ := xs_some h
      have e1 := xo_some h0
      obtain ⟨t16, ph17, h0, h⟩ := xb_some h
      refine px_cV2 rfl rfl e1 rfl rfl rfl rfl rfl rfl rfl (r_M_symbol h0 :) (fun _ _ q => nomatch q.2) (fun r ph' q => ?_)
      obtain ⟨rfl, q⟩ := q
      cases q
      refine px_ic (k := 4) rfl rfl rfl ?_
      refine px_alu rfl rfl rfl ?_
      obtain ⟨t18, h0, h⟩ := xs_some h
      obtain ⟨N, f, e1, e2, e3⟩ := xaI_some h0
      subst e3
      refine px_bald rfl e1 rfl e2 rfl ?_
      refine px_ic (k := 255) rfl rfl rfl ?_
      refine px_alu rfl rfl rfl ?_
      obtain ⟨ph19, h0, h⟩ := xs_some h
      obtain ⟨N, f, e1, e2, e3⟩ := xsI_some h0
      subst e3
      refine px_iast rfl e1 rfl e2 rfl ?_
      refine px_ld rfl rfl rfl rfl rfl ?_
      obtain ⟨t20, h0, h⟩ := xs_some h
      obtain ⟨fs, e1, e2⟩ := xgR_some h0
      refine px_get rfl e1 e2 rfl ?_
      refine px_ld rfl rfl rfl rfl rfl ?_
      refine px_ld rfl rfl rfl rfl rfl ?_
      refine px_ld rfl rfl rfl rfl rfl ?_
      refine px_ld rfl rfl rfl rfl rfl ?_
      obtain ⟨fs, h0, h⟩ := xs_some h
      have e1 := xo_some h0
      obtain ⟨t21, ph22, h0, h⟩ := xb_some h
      refine px_cV1 rfl rfl e1 rfl rfl rfl rfl rfl rfl rfl (r_M_object h0 :) (fun _ _ q => nomatch q.2) (fun r ph' q => ?_)
      obtain ⟨rfl, q⟩ := q
      cases q
      refine px_ld rfl rfl rfl rfl rfl ?_
      obtain ⟨t23, h0, h⟩ := xs_some h
      obtain ⟨fs, e1, e2⟩ := xgR_some h0
      refine px_get rfl e1 e2 rfl ?_
      refine px_ld rfl rfl rfl rfl rfl ?_
      obtain ⟨t24, h0, h⟩ := xs_some h
      obtain ⟨N, f, e1, e2, e3⟩ := xaI_some h0
      subst e3
      refine px_iald rfl e1 rfl e2 rfl ?_
      obtain ⟨fs, h0, h⟩ := xs_some h
      have e1 := xo_some h0
      obtain ⟨t25, ph26, h0, h⟩ := xb_some h
      refine px_cV2 rfl rfl e1 rfl rfl rfl rfl rfl rfl rfl (r_M_symbolSize h0 :) (fun _ _ q => nomatch q.2) (fun r ph' q => ?_)
      obtain ⟨rfl, q⟩ := q
      cases q
      obtain ⟨ph27, h0, h⟩ := xs_some h
      obtain ⟨N, f, e1, e2, e3⟩ := xsJ_some h0
      subst e3
      refine px_last rfl e1 rfl e2 rfl ?_
      refine px_ld rfl rfl rfl rfl rfl ?_
      obtain ⟨t28, h0, h⟩ := xs_some h
      obtain ⟨fs, e1, e2⟩ := xgR_some h0
      refine px_get rfl e1 e2 rfl ?_
      refine px_ld rfl rfl rfl rfl rfl ?_
      refine px_ld rfl rfl rfl rfl rfl ?_
      refine px_ld rfl rfl rfl rfl rfl ?_
      refine px_ld rfl rfl rfl rfl rfl ?_
      obtain ⟨fs, h0, h⟩ := xs_some h
      have e1 := xo_some h0
      obtain ⟨t29, ph30, h0, h⟩ := xb_some h
      refine px_cV2 rfl rfl e1 rfl rfl rfl rfl rfl rfl rfl (r_M_isSectionNow h0 :) (fun _ _ q => nomatch q.2) (fun r ph' q => ?_)
      obtain ⟨rfl, q⟩ := q
      cases q
      refine px_ifeq rfl (by decide) rfl (fun hc => ?_) (fun hc => ?_)
      · replace h := (if_pos hc).symm.trans h
        refine px_forget (n := 2) (lv' := [_, _, _, _, _, _]) rfl ?_
        refine px_forget (n := 3) (lv' := [_, _, _, _, _, _]) rfl ?_
        refine px_forget (n := 4) (lv' := [_, _, _, _, _, _]) rfl ?_
        refine px_forget (n := 5) (lv' := [_, _, _, _, _, _]) rfl ?_
        exact (r_M_keepLink_258 @hk38 h :)
      · replace h := (if_neg hc).symm.trans h
        refine px_ld rfl rfl rfl rfl rfl ?_
        refine px_ld rfl rfl rfl rfl rfl ?_
        refine px_ld rfl rfl rfl rfl rfl ?_
        obtain ⟨fs, h0, h⟩ := xs_some h
        have e1 := xo_some h0
        obtain ⟨t31, ph32, h0, h⟩ := xb_some h
        refine px_cV2 rfl rfl e1 rfl rfl rfl rfl rfl rfl rfl (r_M_stays h0 :) (fun _ _ q => nomatch q.2) (fun r ph' q => ?_)
        obtain ⟨rfl, q⟩ := q
        cases q
        refine px_ifeq rfl (by decide) rfl (fun hc => ?_) (fun hc => ?_)
        · replace h := (if_pos hc).symm.trans h
          refine px_forget (n := 2) (lv' := [_, _, _, _, _, _]) rfl ?_
          refine px_forget (n := 3) (lv' := [_, _, _, _, _, _]) rfl ?_
          refine px_forget (n := 4) (lv' := [_, _, _, _, _, _]) rfl ?_
          refine px_forget (n := 5) (lv' := [_, _, _, _, _, _]) rfl ?_
          exact (r_M_keepLink_258 @hk38 h :)
        · replace h := (if_neg hc).symm.trans h
          refine px_ld rfl rfl rfl rfl rfl ?_
          refine px_ld rfl rfl rfl rfl rfl ?_
          refine px_ld rfl rfl rfl rfl rfl ?_
          obtain ⟨fs, h0, h⟩ := xs_some h
          have e1 := xo_some h0
          obtain ⟨t33, ph34, h0, h⟩ := xb_some h
          refine px_cV1 rfl rfl e1 rfl rfl rfl rfl rfl rfl rfl (r_M_object h0 :) (fun _ _ q => nomatch q.2) (fun r ph' q => ?_)
          obtain ⟨rfl, q⟩ := q
          cases q
          refine px_ld rfl rfl rfl rfl rfl ?_
          obtain ⟨fs, h0, h⟩ := xs_some h
          have e1 := xo_some h0
          obtain ⟨t35, ph36, h0, h⟩ := xb_some h
          refine px_cV2 rfl rfl e1 rfl rfl rfl rfl rfl rfl rfl (r_M_group h0 :) (fun _ _ q => nomatch q.2) (fun r ph' q => ?_)
          obtain ⟨rfl, q⟩ := q
          cases q
          obtain ⟨t37, ph38, h0, h⟩ := xb_some h
          refine px_cS1 rfl rfl rfl rfl rfl rfl rfl (r_M_segmentOf h0 :) (fun _ _ q => nomatch q.2) (fun r ph' q => ?_)
          obtain ⟨rfl, q⟩ := q
          cases q
          refine px_goto rfl (by decide) rfl ?_
          refine px_forget (n := 2) (lv' := [_, _, _, _, _, _]) rfl ?_
          refine px_forget (n := 3) (lv' := [_, _, _, _, _, _]) rfl ?_
          refine px_forget (n := 4) (lv' := [_, _, _, _, _, _]) rfl ?_
          refine px_forget (n := 5) (lv' := [_, _, _, _, _, _]) rfl ?_
          exact (r_M_keepLink_259 @hk38 h :)
    · replace h := (if_neg hc).symm.trans h
      refine px_goto rfl (by decide) rfl ?_
      refine px_forget (n := 2) (lv' := [_, _, _, _, _, _]) rfl ?_
      refine px_forget (n := 3) (lv' := [_, _, _, _, _, _]) rfl ?_
      exact (r_M_keepLink_260 @hk38 h :)
def f_M_keepLink_119 (F : Nat) (k38 : Nat → Int32 → px_H → Option (Unit × px_H)) (a0 : Nat) (a1 : Int32) (a2 : Int32) (a3 : Int32) (s0 : Nat) (s1 : Int32) (ph : px_H) : Option (Unit × px_H) :=
  f_M_keepLink_120 F k38 a0 a1 a2 a3 s0 s1 (Int32.ofInt (-1)) ph
theorem r_M_keepLink_119 {l : Launch} {g : px_G} {d F : Nat} {k38 : Nat → Int32 → px_H → Option (Unit × px_H)} (hk38 : ∀ {a0 : Nat} {a1 : Int32} {ph : px_H} {r : Unit} {ph' : px_H}, k38 a0 a1 ph = some (r, ph') → PW l g (d + 7) m_M_keepLink 38 [.ref a0, .int a1, px_u, px_u, px_u, px_u] [] ph (px_qV r ph')) {a0 : Nat} {a1 : Int32} {a2 : Int32} {a3 : Int32} {s0 : Nat} {s1 : Int32} {ph : px_H} {r : Unit} {ph' : px_H} (h : f_M_keepLink_119 F k38 a0 a1 a2 a3 s0 s1 ph = some (r, ph')) : PW l g (d + 7) m_M_keepLink 119 [.ref a0, .int a1, .int a2, .int a3, px_u, px_u] [.int s1, .ref s0] ph (px_qV r ph') := by
  unfold f_M_keepLink_119 at h
  refine px_alu rfl rfl rfl ?_
  exact (r_M_keepLink_120 @hk38 h :)
def f_M_keepLink_97 (F : Nat) (k38 : Nat → Int32 → px_H → Option (Unit × px_H)) (a0 : Nat) (a1 : Int32) (a2 : Int32) (a3 : Int32) (s0 : Nat) (s1 : Int32) (s2 : Int64) (ph : px_H) : Option (Unit × px_H) :=
  (xsJ ph 2 s0 s1 s2).bind fun ph1 =>
  (xgR ph1 12 39 a0).bind fun t2 =>
  if a3 = 0 then
    f_M_keepLink_119 F k38 a0 a1 a2 a3 t2 a2 ph1
  else
    (xo ph1 12 a0).bind fun _ =>
    xb (f_M_isCommon F a0 a1 ph1) fun t3 ph4 =>
    if t3 = 0 then
      f_M_keepLink_119 F k38 a0 a1 a2 a3 t2 a2 ph4
    else
      f_M_keepLink_120 F k38 a0 a1 a2 a3 t2 a2 (nI 2) ph4
theorem r_M_keepLink_97 {l : Launch} {g : px_G} {d F : Nat} {k38 : Nat → Int32 → px_H → Option (Unit × px_H)} (hk38 : ∀ {a0 : Nat} {a1 : Int32} {ph : px_H} {r : Unit} {ph' : px_H}, k38 a0 a1 ph = some (r, ph') → PW l g (d + 7) m_M_keepLink 38 [.ref a0, .int a1, px_u, px_u, px_u, px_u] [] ph (px_qV r ph')) {a0 : Nat} {a1 : Int32} {a2 : Int32} {a3 : Int32} {s0 : Nat} {s1 : Int32} {s2 : Int64} {ph : px_H} {r : Unit} {ph' : px_H} (h : f_M_keepLink_97 F k38 a0 a1 a2 a3 s0 s1 s2 ph = some (r, ph')) : PW l g (d + 7) m_M_keepLink 97 [.ref a0, .int a1, .int a2, .int a3, px_u, px_u] [.long s2, .int s1, .ref s0] ph (px_qV r ph') := by
  unfold f_M_keepLink_97 at h
  obtain ⟨ph1, h0, h⟩ := xs_some h
  obtain ⟨N, f, e1, e2, e3⟩ := xsJ_some h0
  subst e3
  refine px_last rfl e1 rfl e2 rfl ?_
  refine px_ld rfl rfl rfl rfl rfl ?_
  obtain ⟨t2, h0, h⟩ := xs_some h
  obtain ⟨fs, e1, e2⟩ := xgR_some h0
  refine px_get rfl e1 e2 rfl ?_
  refine px_ld rfl rfl rfl rfl rfl ?_
  refine px_ld rfl rfl rfl rfl rfl ?_
  refine px_ifeq rfl (by decide) rfl (fun hc => ?_) (fun hc => ?_)
  · replace h := (if_pos hc).symm.trans h
    exact (r_M_keepLink_119 @hk38 h :)
  · replace h := (if_neg hc).symm.trans h
    refine px_ld rfl rfl rfl rfl rfl ?_
    refine px_ld rfl rfl rfl rfl rfl ?_
    obtain ⟨fs, h0, h⟩ := xs_some h
    have e1 := xo_some h0
    obtain ⟨t3, ph4, h0, h⟩ := xb_some h
    refine px_cV1 rfl rfl e1 rfl rfl rfl rfl rfl rfl rfl (r_M_isCommon h0 :) (fun _ _ q => nomatch q.2) (fun r ph' q => ?_)
    obtain ⟨rfl, q⟩ := q
    cases q
    refine px_ifeq rfl (by decide) rfl (fun hc => ?_) (fun hc => ?_)
    · replace h := (if_pos hc).symm.trans h
      exact (r_M_keepLink_119 @hk38 h :)
    · replace h := (if_neg hc).symm.trans h
      refine px_ic (k := 2) rfl rfl rfl ?_
      refine px_goto rfl (by decide) rfl ?_
      exact (r_M_keepLink_120 @hk38 h :)
def f_M_keepLink_68 (F : Nat) (k38 : Nat → Int32 → px_H → Option (Unit × px_H)) (a0 : Nat) (a1 : Int32) (a2 : Int32) (s0 : Int32) (ph : px_H) : Option (Unit × px_H) :=
  (xgR ph 12 38 a0).bind fun t1 =>
  (xsI ph 1 t1 a2 (nI 16)).bind fun ph2 =>
  (xgR ph2 12 41 a0).bind fun t3 =>
  if s0 = 0 then
    f_M_keepLink_97 F k38 a0 a1 a2 s0 t3 a2 (lN 0) ph2
  else
    (xgR ph2 12 26 a0).bind fun t4 =>
    (xaI ph2 1 t4 a2).bind fun t5 =>
    f_M_keepLink_97 F k38 a0 a1 a2 s0 t3 a2 t5.toInt64 ph2
theorem r_M_keepLink_68 {l : Launch} {g : px_G} {d F : Nat} {k38 : Nat → Int32 → px_H → Option (Unit × px_H)} (hk38 : ∀ {a0 : Nat} {a1 : Int32} {ph : px_H} {r : Unit} {ph' : px_H}, k38 a0 a1 ph = some (r, ph') → PW l g (d + 7) m_M_keepLink 38 [.ref a0, .int a1, px_u, px_u, px_u, px_u] [] ph (px_qV r ph')) {a0 : Nat} {a1 : Int32} {a2 : Int32} {s0 : Int32} {ph : px_H} {r : Unit} {ph' : px_H} (h : f_M_keepLink_68 F k38 a0 a1 a2 s0 ph = some (r, ph')) : PW l g (d + 7) m_M_keepLink 68 [.ref a0, .int a1, .int a2, px_u, px_u, px_u] [.int s0] ph (px_qV r ph') := by
  unfold f_M_keepLink_68 at h
  refine px_st (lv' := [_, _, _, _, _, _]) rfl rfl rfl rfl rfl rfl rfl ?_
  refine px_ld rfl rfl rfl rfl rfl ?_
  obtain ⟨t1, h0, h⟩ := xs_some h
  obtain ⟨fs, e1, e2⟩ := xgR_some h0
  refine px_get rfl e1 e2 rfl ?_
  refine px_ld rfl rfl rfl rfl rfl ?_
  refine px_ic (k := 16) rfl rfl rfl ?_
  obtain ⟨ph2, h0, h⟩ := xs_some h
  obtain ⟨N, f, e1, e2, e3⟩ := xsI_some h0
  subst e3
  refine px_iast rfl e1 rfl e2 rfl ?_
  refine px_ld rfl rfl rfl rfl rfl ?_
  obtain ⟨t3, h0, h⟩ := xs_some h
  obtain ⟨fs, e1, e2⟩ := xgR_some h0
  refine px_get rfl e1 e2 rfl ?_
  refine px_ld rfl rfl rfl rfl rfl ?_
  refine px_ld rfl rfl rfl rfl rfl ?_
  refine px_ifeq rfl (by decide) rfl (fun hc => ?_) (fun hc => ?_)
  · replace h := (if_pos hc).symm.trans h
    refine px_alu rfl rfl rfl ?_
    exact (r_M_keepLink_97 @hk38 h :)
  · replace h := (if_neg hc).symm.trans h
    refine px_ld rfl rfl rfl rfl rfl ?_
    obtain ⟨t4, h0, h⟩ := xs_some h
    obtain ⟨fs, e1, e2⟩ := xgR_some h0
    refine px_get rfl e1 e2 rfl ?_
    refine px_ld rfl rfl rfl rfl rfl ?_
    obtain ⟨t5, h0, h⟩ := xs_some h
    obtain ⟨N, f, e1, e2, e3⟩ := xaI_some h0
    subst e3
    refine px_iald rfl e1 rfl e2 rfl ?_
    refine px_alu rfl rfl rfl ?_
    refine px_goto rfl (by decide) rfl ?_
    exact (r_M_keepLink_97 @hk38 h :)
def f_M_keepLink_38 (F : Nat) : Nat → Nat → Int32 → px_H → Option (Unit × px_H)
  | 0, _, _, _ => none
  | n + 1, a0, a1, ph =>
    (xgI ph 12 48 a0).bind fun t1 =>
    if t1 ≤ a1 then
      f_M_keepLink_266 F ph
    else
      (xgR ph 12 49 a0).bind fun t2 =>
      (xaI ph 1 t2 a1).bind fun t3 =>
      (xgR ph 12 23 a0).bind fun t4 =>
      (xaI ph 1 t4 t3).bind fun t5 =>
      if t5 = (nI 2) then
        f_M_keepLink_68 F (f_M_keepLink_38 F n) a0 a1 t3 (nI 1) ph
      else
        f_M_keepLink_68 F (f_M_keepLink_38 F n) a0 a1 t3 (nI 0) ph
theorem r_M_keepLink_38 {l : Launch} {g : px_G} {d F : Nat} : ∀ (n : Nat) {a0 : Nat} {a1 : Int32} {ph : px_H} {r : Unit} {ph' : px_H}, f_M_keepLink_38 F n a0 a1 ph = some (r, ph') → PW l g (d + 7) m_M_keepLink 38 [.ref a0, .int a1, px_u, px_u, px_u, px_u] [] ph (px_qV r ph') := by
  intro n
  induction n with
  | zero => intro _ _ _ _ _ h; cases h
  | succ n ih =>
    intro a0 a1 ph r ph' h
    unfold f_M_keepLink_38 at h
    refine px_ld rfl rfl rfl rfl rfl ?_
    refine px_ld rfl rfl rfl rfl rfl ?_
    obtain ⟨t1, h0, h⟩ := xs_some h
    obtain ⟨fs, e1, e2⟩ := xgI_some h0
    refine px_get rfl e1 e2 rfl ?_
    refine px_icge rfl (by decide) rfl (fun hc => ?_) (fun hc => ?_)
    · replace h := (if_pos hc).symm.trans h
      refine px_forget (n := 0) (lv' := [_, _, _, _, _, _]) rfl ?_
      refine px_forget (n := 1) (lv' := [_, _, _, _, _, _]) rfl ?_
      exact (r_M_keepLink_266 h :)
    · replace h := (if_neg hc).symm.trans h
      refine px_ld rfl rfl rfl rfl rfl ?_
      obtain ⟨t2, h0, h⟩ := xs_some h
      obtain ⟨fs, e1, e2⟩ := xgR_some h0
      refine px_get rfl e1 e2 rfl ?_
      refine px_ld rfl rfl rfl rfl rfl ?_
      obtain ⟨t3, h0, h⟩ := xs_some h
      obtain ⟨N, f, e1, e2, e3⟩ := xaI_some h0
      subst e3
      refine px_iald rfl e1 rfl e2 rfl ?_
      refine px_st (lv' := [_, _, _, _, _, _]) rfl rfl rfl rfl rfl rfl rfl ?_
      refine px_ld rfl rfl rfl rfl rfl ?_
      obtain ⟨t4, h0, h⟩ := xs_some h
      obtain ⟨fs, e1, e2⟩ := xgR_some h0
      refine px_get rfl e1 e2 rfl ?_
      refine px_ld rfl rfl rfl rfl rfl ?_
      obtain ⟨t5, h0, h⟩ := xs_some h
      obtain ⟨N, f, e1, e2, e3⟩ := xaI_some h0
      subst e3
      refine px_iald rfl e1 rfl e2 rfl ?_
      refine px_ic (k := 2) rfl rfl rfl ?_
      refine px_icne rfl (by decide) rfl (fun hc => ?_) (fun hc => ?_)
      · replace h := (if_neg hc).symm.trans h
        refine px_ic (k := 0) rfl rfl rfl ?_
        exact (r_M_keepLink_68 @ih h :)
      · replace h := (if_pos hc).symm.trans h
        refine px_ic (k := 1) rfl rfl rfl ?_
        refine px_goto rfl (by decide) rfl ?_
        exact (r_M_keepLink_68 @ih h :)
def f_M_keepLink_36 (F : Nat) (a0 : Nat) (ph : px_H) : Option (Unit × px_H) :=
  f_M_keepLink_38 F F a0 (nI 0) ph
theorem r_M_keepLink_36 {l : Launch} {g : px_G} {d F : Nat} {a0 : Nat} {ph : px_H} {r : Unit} {ph' : px_H} (h : f_M_keepLink_36 F a0 ph = some (r, ph')) : PW l g (d + 7) m_M_keepLink 36 [.ref a0, px_u, px_u, px_u, px_u, px_u] [] ph (px_qV r ph') := by
  unfold f_M_keepLink_36 at h
  refine px_ic (k := 0) rfl rfl rfl ?_
  refine px_st (lv' := [_, _, _, _, _, _]) rfl rfl rfl rfl rfl rfl rfl ?_
  exact (r_M_keepLink_38 _ h :)
def f_M_keepLink_10 (F : Nat) : Nat → Nat → Int32 → px_H → Option (Unit × px_H)
  | 0, _, _, _ => none
  | n + 1, a0, a1, ph =>
    (xgI ph 12 4 a0).bind fun t1 =>
    if t1 ≤ a1 then
      f_M_keepLink_36 F a0 ph
    else
      (xgR ph 12 42 a0).bind fun t2 =>
      (xgR ph 12 3 a0).bind fun t3 =>
      (xaI ph 0 t3 a1).bind fun t4 =>
      (xsI ph 0 t2 a1 (t4.toInt8.toInt32)).bind fun ph5 =>
      f_M_keepLink_10 F n a0 (a1 + nI 1) ph5
theorem r_M_keepLink_10 {l : Launch} {g : px_G} {d F : Nat} : ∀ (n : Nat) {a0 : Nat} {a1 : Int32} {ph : px_H} {r : Unit} {ph' : px_H}, f_M_keepLink_10 F n a0 a1 ph = some (r, ph') → PW l g (d + 7) m_M_keepLink 10 [.ref a0, .int a1, px_u, px_u, px_u, px_u] [] ph (px_qV r ph') := by
  intro n
  induction n with
  | zero => intro _ _ _ _ _ h; cases h
  | succ n ih =>
    intro a0 a1 ph r ph' h
    unfold f_M_keepLink_10 at h
    refine px_ld rfl rfl rfl rfl rfl ?_
    refine px_ld rfl rfl rfl rfl rfl ?_
    obtain ⟨t1, h0, h⟩ := xs_some h
    obtain ⟨fs, e1, e2⟩ := xgI_some h0
    refine px_get rfl e1 e2 rfl ?_
    refine px_icge rfl (by decide) rfl (fun hc => ?_) (fun hc => ?_)
    · replace h := (if_pos hc).symm.trans h
      refine px_forget (n := 1) (lv' := [_, _, _, _, _, _]) rfl ?_
      exact (r_M_keepLink_36 h :)
    · replace h := (if_neg hc).symm.trans h
      refine px_ld rfl rfl rfl rfl rfl ?_
      obtain ⟨t2, h0, h⟩ := xs_some h
      obtain ⟨fs, e1, e2⟩ := xgR_some h0
      refine px_get rfl e1 e2 rfl ?_
      refine px_ld rfl rfl rfl rfl rfl ?_
      refine px_ld rfl rfl rfl rfl rfl ?_
      obtain ⟨t3, h0, h⟩ := xs_some h
      obtain ⟨fs, e1, e2⟩ := xgR_some h0
      refine px_get rfl e1 e2 rfl ?_
      refine px_ld rfl rfl rfl rfl rfl ?_
      obtain ⟨t4, h0, h⟩ := xs_some h
      obtain ⟨N, f, e1, e2, e3⟩ := xaI_some h0
      subst e3
      refine px_bald rfl e1 rfl e2 rfl ?_
      obtain ⟨ph5, h0, h⟩ := xs_some h
      obtain ⟨N, f, e1, e2, e3⟩ := xsI_some h0
      subst e3
      refine px_bast rfl e1 rfl e2 rfl ?_
      refine px_iinc (lv' := [_, _, _, _, _, _]) rfl rfl rfl rfl rfl rfl ?_
      refine px_goto rfl (by decide) rfl ?_
      exact (ih h :)
def f_M_keepLink (F : Nat) (a0 : Nat) (ph : px_H) : Option (Unit × px_H) :=
  (xgI ph 12 4 a0).bind fun t1 =>
  (xpI ph 12 43 a0 t1).bind fun ph2 =>
  f_M_keepLink_10 F F a0 (nI 0) ph2
theorem r_M_keepLink {l : Launch} {g : px_G} {d F : Nat} {a0 : Nat} {ph : px_H} {r : Unit} {ph' : px_H} (h : f_M_keepLink F a0 ph = some (r, ph')) : PW l g (d + 7) m_M_keepLink 0 [.ref a0, px_u, px_u, px_u, px_u, px_u] [] ph (px_qV r ph') := by
  unfold f_M_keepLink at h
  refine px_ld rfl rfl rfl rfl rfl ?_
  refine px_ld rfl rfl rfl rfl rfl ?_
  obtain ⟨t1, h0, h⟩ := xs_some h
  obtain ⟨fs, e1, e2⟩ := xgI_some h0
  refine px_get rfl e1 e2 rfl ?_
  obtain ⟨ph2, h0, h⟩ := xs_some h
  obtain ⟨fs, e1, e2, e3⟩ := xpI_some h0
  subst e3
  refine px_put rfl e1 e2 trivial rfl ?_
  refine px_ic (k := 0) rfl rfl rfl ?_
  refine px_st (lv' := [_, _, _, _, _, _]) rfl rfl rfl rfl rfl rfl rfl ?_
  exact (r_M_keepLink_10 _ h :)
def f_M_link_208 (F : Nat) (a0 : Nat) (ph : px_H) : Option (Int32 × px_H) :=
  (xgI ph 12 13 a0).bind fun t1 =>
  some (t1, ph)
theorem r_M_link_208 {l : Launch} {g : px_G} {d F : Nat} {a0 : Nat} {ph : px_H} {r : Int32} {ph' : px_H} (h : f_M_link_208 F a0 ph = some (r, ph')) : PW l g (d + 15) m_M_link 208 [.ref a0, px_u, px_u] [] ph (px_qI r ph') := by
  unfold f_M_link_208 at h
  refine px_ld rfl rfl rfl rfl rfl ?_
  obtain ⟨t1, h0, h⟩ := xs_some h
  obtain ⟨fs, e1, e2⟩ := xgI_some h0
  refine px_get rfl e1 e2 rfl ?_
  cases h
  exact px_iret rfl (Or.inl rfl) rfl ⟨rfl, rfl⟩
def f_M_link_197 (F : Nat) (a0 : Nat) (ph : px_H) : Option (Int32 × px_H) :=
  (xgI ph 12 13 a0).bind fun t1 =>
  if t1 = 0 then
    (xo ph 12 a0).bind fun _ =>
    xb (f_M_keepLink F a0 ph) fun _ ph2 =>
    f_M_link_208 F a0 ph2
  else
    f_M_link_208 F a0 ph
theorem r_M_link_197 {l : Launch} {g : px_G} {d F : Nat} {a0 : Nat} {ph : px_H} {r : Int32} {ph' : px_H} (h : f_M_link_197 F a0 ph = some (r, ph')) : PW l g (d + 15) m_M_link 197 [.ref a0, px_u, px_u] [] ph (px_qI r ph') := by
  unfold f_M_link_197 at h
  refine px_ld rfl rfl rfl rfl rfl ?_
  obtain ⟨t1, h0, h⟩ := xs_some h
  obtain ⟨fs, e1, e2⟩ := xgI_some h0
  refine px_get rfl e1 e2 rfl ?_
  refine px_ifne rfl (by decide) rfl (fun hc => ?_) (fun hc => ?_)
  · replace h := (if_neg hc).symm.trans h
    exact (r_M_link_208 h :)
  · replace h := (if_pos hc).symm.trans h
    refine px_ld rfl rfl rfl rfl rfl ?_
    obtain ⟨fs, h0, h⟩ := xs_some h
    have e1 := xo_some h0
    obtain ⟨u0, ph2, h0, h⟩ := xb_some h
    refine px_cV0 rfl rfl e1 rfl rfl rfl rfl rfl rfl rfl (r_M_keepLink h0 :) (fun _ _ q => nomatch q.2) (fun r ph' q => ?_)
    obtain ⟨rfl, q⟩ := q
    cases q
    exact (r_M_link_208 h :)
def f_M_link_186 (F : Nat) (a0 : Nat) (ph : px_H) : Option (Int32 × px_H) :=
  (xgI ph 12 13 a0).bind fun t1 =>
  if t1 = 0 then
    (xo ph 12 a0).bind fun _ =>
    xb (f_M_write F a0 ph) fun _ ph2 =>
    f_M_link_197 F a0 ph2
  else
    f_M_link_197 F a0 ph
theorem r_M_link_186 {l : Launch} {g : px_G} {d F : Nat} {a0 : Nat} {ph : px_H} {r : Int32} {ph' : px_H} (h : f_M_link_186 F a0 ph = some (r, ph')) : PW l g (d + 15) m_M_link 186 [.ref a0, px_u, px_u] [] ph (px_qI r ph') := by
  unfold f_M_link_186 at h
  refine px_ld rfl rfl rfl rfl rfl ?_
  obtain ⟨t1, h0, h⟩ := xs_some h
  obtain ⟨fs, e1, e2⟩ := xgI_some h0
  refine px_get rfl e1 e2 rfl ?_
  refine px_ifne rfl (by decide) rfl (fun hc => ?_) (fun hc => ?_)
  · replace h := (if_neg hc).symm.trans h
    exact (r_M_link_197 h :)
  · replace h := (if_pos hc).symm.trans h
    refine px_ld rfl rfl rfl rfl rfl ?_
    obtain ⟨fs, h0, h⟩ := xs_some h
    have e1 := xo_some h0
    obtain ⟨u0, ph2, h0, h⟩ := xb_some h
    refine px_cV0 rfl rfl e1 rfl rfl rfl rfl rfl rfl rfl (r_M_write h0 :) (fun _ _ q => nomatch q.2) (fun r ph' q => ?_)
    obtain ⟨rfl, q⟩ := q
    cases q
    exact (r_M_link_197 h :)
def f_M_link_174 (F : Nat) (a0 : Nat) (ph : px_H) : Option (Int32 × px_H) :=
  (xgI ph 12 13 a0).bind fun t1 =>
  if t1 = 0 then
    (xo ph 12 a0).bind fun _ =>
    xb (f_M_sites F a0 (nI 0) ph) fun _ ph2 =>
    f_M_link_186 F a0 ph2
  else
    f_M_link_186 F a0 ph
theorem r_M_link_174 {l : Launch} {g : px_G} {d F : Nat} {a0 : Nat} {ph : px_H} {r : Int32} {ph' : px_H} (h : f_M_link_174 F a0 ph = some (r, ph')) : PW l g (d + 15) m_M_link 174 [.ref a0, px_u, px_u] [] ph (px_qI r ph') := by
  unfold f_M_link_174 at h
  refine px_ld rfl rfl rfl rfl rfl ?_
  obtain ⟨t1, h0, h⟩ := xs_some h
  obtain ⟨fs, e1, e2⟩ := xgI_some h0
  refine px_get rfl e1 e2 rfl ?_
  refine px_ifne rfl (by decide) rfl (fun hc => ?_) (fun hc => ?_)
  · replace h := (if_neg hc).symm.trans h
    exact (r_M_link_186 h :)
  · replace h := (if_pos hc).symm.trans h
    refine px_ld rfl rfl rfl rfl rfl ?_
    refine px_ic (k := 0) rfl rfl rfl ?_
    obtain ⟨fs, h0, h⟩ := xs_some h
    have e1 := xo_some h0
    obtain ⟨u0, ph2, h0, h⟩ := xb_some h
    refine px_cV1 rfl rfl e1 rfl rfl rfl rfl rfl rfl rfl (r_M_sites h0 :) (fun _ _ q => nomatch q.2) (fun r ph' q => ?_)
    obtain ⟨rfl, q⟩ := q
    cases q
    exact (r_M_link_186 h :)
def f_M_link_163 (F : Nat) (a0 : Nat) (ph : px_H) : Option (Int32 × px_H) :=
  (xgI ph 12 13 a0).bind fun t1 =>
  if t1 = 0 then
    (xo ph 12 a0).bind fun _ =>
    xb (f_M_layout F a0 ph) fun _ ph2 =>
    f_M_link_174 F a0 ph2
  else
    f_M_link_174 F a0 ph
theorem r_M_link_163 {l : Launch} {g : px_G} {d F : Nat} {a0 : Nat} {ph : px_H} {r : Int32} {ph' : px_H} (h : f_M_link_163 F a0 ph = some (r, ph')) : PW l g (d + 15) m_M_link 163 [.ref a0, px_u, px_u] [] ph (px_qI r ph') := by
  unfold f_M_link_163 at h
  refine px_ld rfl rfl rfl rfl rfl ?_
  obtain ⟨t1, h0, h⟩ := xs_some h
  obtain ⟨fs, e1, e2⟩ := xgI_some h0
  refine px_get rfl e1 e2 rfl ?_
  refine px_ifne rfl (by decide) rfl (fun hc => ?_) (fun hc => ?_)
  · replace h := (if_neg hc).symm.trans h
    exact (r_M_link_174 h :)
  · replace h := (if_pos hc).symm.trans h
    refine px_ld rfl rfl rfl rfl rfl ?_
    obtain ⟨fs, h0, h⟩ := xs_some h
    have e1 := xo_some h0
    obtain ⟨u0, ph2, h0, h⟩ := xb_some h
    refine px_cV0 rfl rfl e1 rfl rfl rfl rfl rfl rfl rfl (r_M_layout h0 :) (fun _ _ q => nomatch q.2) (fun r ph' q => ?_)
    obtain ⟨rfl, q⟩ := q
    cases q
    exact (r_M_link_174 h :)
def f_M_link_152 (F : Nat) (a0 : Nat) (ph : px_H) : Option (Int32 × px_H) :=
  (xgI ph 12 13 a0).bind fun t1 =>
  if t1 = 0 then
    (xo ph 12 a0).bind fun _ =>
    xb (f_M_findSlots F a0 ph) fun _ ph2 =>
    f_M_link_163 F a0 ph2
  else
    f_M_link_163 F a0 ph
theorem r_M_link_152 {l : Launch} {g : px_G} {d F : Nat} {a0 : Nat} {ph : px_H} {r : Int32} {ph' : px_H} (h : f_M_link_152 F a0 ph = some (r, ph')) : PW l g (d + 15) m_M_link 152 [.ref a0, px_u, px_u] [] ph (px_qI r ph') := by
  unfold f_M_link_152 at h
  refine px_ld rfl rfl rfl rfl rfl ?_
  obtain ⟨t1, h0, h⟩ := xs_some h
  obtain ⟨fs, e1, e2⟩ := xgI_some h0
  refine px_get rfl e1 e2 rfl ?_
  refine px_ifne rfl (by decide) rfl (fun hc => ?_) (fun hc => ?_)
  · replace h := (if_neg hc).symm.trans h
    exact (r_M_link_163 h :)
  · replace h := (if_pos hc).symm.trans h
    refine px_ld rfl rfl rfl rfl rfl ?_
    obtain ⟨fs, h0, h⟩ := xs_some h
    have e1 := xo_some h0
    obtain ⟨u0, ph2, h0, h⟩ := xb_some h
    refine px_cV0 rfl rfl e1 rfl rfl rfl rfl rfl rfl rfl (r_M_findSlots h0 :) (fun _ _ q => nomatch q.2) (fun r ph' q => ?_)
    obtain ⟨rfl, q⟩ := q
    cases q
    exact (r_M_link_163 h :)
def f_M_link_137 (F : Nat) (a0 : Nat) (ph : px_H) : Option (Int32 × px_H) :=
  (xo ph 12 a0).bind fun _ =>
  xb (f_M_lay F a0 ph) fun _ ph1 =>
  (xgI ph1 12 13 a0).bind fun t2 =>
  if t2 = 0 then
    (xo ph1 12 a0).bind fun _ =>
    xb (f_M_findPool F a0 ph1) fun _ ph3 =>
    f_M_link_152 F a0 ph3
  else
    f_M_link_152 F a0 ph1
theorem r_M_link_137 {l : Launch} {g : px_G} {d F : Nat} {a0 : Nat} {ph : px_H} {r : Int32} {ph' : px_H} (h : f_M_link_137 F a0 ph = some (r, ph')) : PW l g (d + 15) m_M_link 137 [.ref a0, px_u, px_u] [] ph (px_qI r ph') := by
  unfold f_M_link_137 at h
  refine px_ld rfl rfl rfl rfl rfl ?_
  obtain ⟨fs, h0, h⟩ := xs_some h
  have e1 := xo_some h0
  obtain ⟨u0, ph1, h0, h⟩ := xb_some h
  refine px_cV0 rfl rfl e1 rfl rfl rfl rfl rfl rfl rfl (r_M_lay h0 :) (fun _ _ q => nomatch q.2) (fun r ph' q => ?_)
  obtain ⟨rfl, q⟩ := q
  cases q
  refine px_ld rfl rfl rfl rfl rfl ?_
  obtain ⟨t2, h0, h⟩ := xs_some h
  obtain ⟨fs, e1, e2⟩ := xgI_some h0
  refine px_get rfl e1 e2 rfl ?_
  refine px_ifne rfl (by decide) rfl (fun hc => ?_) (fun hc => ?_)
  · replace h := (if_neg hc).symm.trans h
    exact (r_M_link_152 h :)
  · replace h := (if_pos hc).symm.trans h
    refine px_ld rfl rfl rfl rfl rfl ?_
    obtain ⟨fs, h0, h⟩ := xs_some h
    have e1 := xo_some h0
    obtain ⟨u0, ph3, h0, h⟩ := xb_some h
    refine px_cV0 rfl rfl e1 rfl rfl rfl rfl rfl rfl rfl (r_M_findPool h0 :) (fun _ _ q => nomatch q.2) (fun r ph' q => ?_)
    obtain ⟨rfl, q⟩ := q
    cases q
    exact (r_M_link_152 h :)
def f_M_link_122 (F : Nat) (a0 : Nat) (a1 : Int32) (ph : px_H) : Option (Int32 × px_H) :=
  (xgI ph 12 13 a0).bind fun t1 =>
  if t1 = 0 then
    if a1 = 0 then
      f_M_link_137 F a0 ph
    else
      (xo ph 12 a0).bind fun _ =>
      xb (f_M_reach F a0 ph) fun _ ph2 =>
      f_M_link_137 F a0 ph2
  else
    f_M_link_137 F a0 ph
theorem r_M_link_122 {l : Launch} {g : px_G} {d F : Nat} {a0 : Nat} {a1 : Int32} {ph : px_H} {r : Int32} {ph' : px_H} (h : f_M_link_122 F a0 a1 ph = some (r, ph')) : PW l g (d + 15) m_M_link 122 [.ref a0, .int a1, px_u] [] ph (px_qI r ph') := by
  unfold f_M_link_122 at h
  refine px_ld rfl rfl rfl rfl rfl ?_
  obtain ⟨t1, h0, h⟩ := xs_some h
  obtain ⟨fs, e1, e2⟩ := xgI_some h0
  refine px_get rfl e1 e2 rfl ?_
  refine px_ifne rfl (by decide) rfl (fun hc => ?_) (fun hc => ?_)
  · replace h := (if_neg hc).symm.trans h
    refine px_forget (n := 1) (lv' := [_, _, _]) rfl ?_
    exact (r_M_link_137 h :)
  · replace h := (if_pos hc).symm.trans h
    refine px_ld rfl rfl rfl rfl rfl ?_
    refine px_ifeq rfl (by decide) rfl (fun hc => ?_) (fun hc => ?_)
    · replace h := (if_pos hc).symm.trans h
      refine px_forget (n := 1) (lv' := [_, _, _]) rfl ?_
      exact (r_M_link_137 h :)
    · replace h := (if_neg hc).symm.trans h
      refine px_ld rfl rfl rfl rfl rfl ?_
      obtain ⟨fs, h0, h⟩ := xs_some h
      have e1 := xo_some h0
      obtain ⟨u0, ph2, h0, h⟩ := xb_some h
      refine px_cV0 rfl rfl e1 rfl rfl rfl rfl rfl rfl rfl (r_M_reach h0 :) (fun _ _ q => nomatch q.2) (fun r ph' q => ?_)
      obtain ⟨rfl, q⟩ := q
      cases q
      refine px_forget (n := 1) (lv' := [_, _, _]) rfl ?_
      exact (r_M_link_137 h :)
def f_M_link_111 (F : Nat) (a0 : Nat) (a1 : Int32) (ph : px_H) : Option (Int32 × px_H) :=
  (xgI ph 12 13 a0).bind fun t1 =>
  if t1 = 0 then
    (xo ph 12 a0).bind fun _ =>
    xb (f_M_look2 F a0 ph) fun _ ph2 =>
    f_M_link_122 F a0 a1 ph2
  else
    f_M_link_122 F a0 a1 ph
theorem r_M_link_111 {l : Launch} {g : px_G} {d F : Nat} {a0 : Nat} {a1 : Int32} {ph : px_H} {r : Int32} {ph' : px_H} (h : f_M_link_111 F a0 a1 ph = some (r, ph')) : PW l g (d + 15) m_M_link 111 [.ref a0, .int a1, px_u] [] ph (px_qI r ph') := by
  unfold f_M_link_111 at h
  refine px_ld rfl rfl rfl rfl rfl ?_
  obtain ⟨t1, h0, h⟩ := xs_some h
  obtain ⟨fs, e1, e2⟩ := xgI_some h0
  refine px_get rfl e1 e2 rfl ?_
  refine px_ifne rfl (by decide) rfl (fun hc => ?_) (fun hc => ?_)
  · replace h := (if_neg hc).symm.trans h
    exact (r_M_link_122 h :)
  · replace h := (if_pos hc).symm.trans h
    refine px_ld rfl rfl rfl rfl rfl ?_
    obtain ⟨fs, h0, h⟩ := xs_some h
    have e1 := xo_some h0
    obtain ⟨u0, ph2, h0, h⟩ := xb_some h
    refine px_cV0 rfl rfl e1 rfl rfl rfl rfl rfl rfl rfl (r_M_look2 h0 :) (fun _ _ q => nomatch q.2) (fun r ph' q => ?_)
    obtain ⟨rfl, q⟩ := q
    cases q
    exact (r_M_link_122 h :)
def f_M_link_92 (F : Nat) (a0 : Nat) (a1 : Int32) (ph : px_H) : Option (Int32 × px_H) :=
  (xo ph 12 a0).bind fun _ =>
  xb (f_M_tellNames F a0 ph) fun _ ph1 =>
  (xo ph1 12 a0).bind fun _ =>
  xb (f_M_takeAll F a0 ph1) fun _ ph2 =>
  (xgI ph2 12 13 a0).bind fun t3 =>
  if t3 = 0 then
    (xo ph2 12 a0).bind fun _ =>
    xb (f_M_ownNames F a0 ph2) fun _ ph4 =>
    f_M_link_111 F a0 a1 ph4
  else
    f_M_link_111 F a0 a1 ph2
theorem r_M_link_92 {l : Launch} {g : px_G} {d F : Nat} {a0 : Nat} {a1 : Int32} {ph : px_H} {r : Int32} {ph' : px_H} (h : f_M_link_92 F a0 a1 ph = some (r, ph')) : PW l g (d + 15) m_M_link 92 [.ref a0, .int a1, px_u] [] ph (px_qI r ph') := by
  unfold f_M_link_92 at h
  refine px_ld rfl rfl rfl rfl rfl ?_
  obtain ⟨fs, h0, h⟩ := xs_some h
  have e1 := xo_some h0
  obtain ⟨u0, ph1, h0, h⟩ := xb_some h
  refine px_cV0 rfl rfl e1 rfl rfl rfl rfl rfl rfl rfl (r_M_tellNames h0 :) (fun _ _ q => nomatch q.2) (fun r ph' q => ?_)
  obtain ⟨rfl, q⟩ := q
  cases q
  refine px_ld rfl rfl rfl rfl rfl ?_
  obtain ⟨fs, h0, h⟩ := xs_some h
  have e1 := xo_some h0
  obtain ⟨u0, ph2, h0, h⟩ := xb_some h
  refine px_cV0 rfl rfl e1 rfl rfl rfl rfl rfl rfl rfl (r_M_takeAll h0 :) (fun _ _ q => nomatch q.2) (fun r ph' q => ?_)
  obtain ⟨rfl, q⟩ := q
  cases q
  refine px_ld rfl rfl rfl rfl rfl ?_
  obtain ⟨t3, h0, h⟩ := xs_some h
  obtain ⟨fs, e1, e2⟩ := xgI_some h0
  refine px_get rfl e1 e2 rfl ?_
  refine px_ifne rfl (by decide) rfl (fun hc => ?_) (fun hc => ?_)
  · replace h := (if_neg hc).symm.trans h
    exact (r_M_link_111 h :)
  · replace h := (if_pos hc).symm.trans h
    refine px_ld rfl rfl rfl rfl rfl ?_
    obtain ⟨fs, h0, h⟩ := xs_some h
    have e1 := xo_some h0
    obtain ⟨u0, ph4, h0, h⟩ := xb_some h
    refine px_cV0 rfl rfl e1 rfl rfl rfl rfl rfl rfl rfl (r_M_ownNames h0 :) (fun _ _ q => nomatch q.2) (fun r ph' q => ?_)
    obtain ⟨rfl, q⟩ := q
    cases q
    exact (r_M_link_111 h :)
def f_M_link_72 (F : Nat) : Nat → Nat → Int32 → Int32 → px_H → Option (Int32 × px_H)
  | 0, _, _, _, _ => none
  | n + 1, a0, a1, a2, ph =>
    if (nI 1536) ≤ a2 then
      f_M_link_92 F a0 a1 ph
    else
      (xgR ph 12 65 a0).bind fun t1 =>
      (xsI ph 3 t1 a2 ((nI 0) &&& 1)).bind fun ph2 =>
      f_M_link_72 F n a0 a1 (a2 + nI 1) ph2
theorem r_M_link_72 {l : Launch} {g : px_G} {d F : Nat} : ∀ (n : Nat) {a0 : Nat} {a1 : Int32} {a2 : Int32} {ph : px_H} {r : Int32} {ph' : px_H}, f_M_link_72 F n a0 a1 a2 ph = some (r, ph') → PW l g (d + 15) m_M_link 72 [.ref a0, .int a1, .int a2] [] ph (px_qI r ph') := by
  intro n
  induction n with
  | zero => intro _ _ _ _ _ _ h; cases h
  | succ n ih =>
    intro a0 a1 a2 ph r ph' h
    unfold f_M_link_72 at h
    refine px_ld rfl rfl rfl rfl rfl ?_
    refine px_ic (k := 1536) rfl rfl rfl ?_
    refine px_icge rfl (by decide) rfl (fun hc => ?_) (fun hc => ?_)
    · replace h := (if_pos hc).symm.trans h
      refine px_forget (n := 2) (lv' := [_, _, _]) rfl ?_
      exact (r_M_link_92 h :)
    · replace h := (if_neg hc).symm.trans h
      refine px_ld rfl rfl rfl rfl rfl ?_
      obtain ⟨t1, h0, h⟩ := xs_some h
      obtain ⟨fs, e1, e2⟩ := xgR_some h0
      refine px_get rfl e1 e2 rfl ?_
      refine px_ld rfl rfl rfl rfl rfl ?_
      refine px_ic (k := 0) rfl rfl rfl ?_
      obtain ⟨ph2, h0, h⟩ := xs_some h
      obtain ⟨N, f, e1, e2, e3⟩ := xsI_some h0
      subst e3
      refine px_zast rfl e1 rfl e2 rfl ?_
      refine px_iinc (lv' := [_, _, _]) rfl rfl rfl rfl rfl rfl ?_
      refine px_goto rfl (by decide) rfl ?_
      exact (ih h :)
def f_M_link (F : Nat) (a0 : Nat) (a1 : Int32) (ph : px_H) : Option (Int32 × px_H) :=
  (xpI ph 12 0 a0 (nI 0)).bind fun ph1 =>
  (xpI ph1 12 13 a0 (nI 0)).bind fun ph2 =>
  (xpI ph2 12 14 a0 (nI 0)).bind fun ph3 =>
  (xpI ph3 12 20 a0 (nI 0)).bind fun ph4 =>
  (xpI ph4 12 48 a0 (nI 0)).bind fun ph5 =>
  (xpI ph5 12 50 a0 (nI 0)).bind fun ph6 =>
  (xpI ph6 12 15 a0 (nI 0)).bind fun ph7 =>
  (xpJ ph7 12 16 a0 (lN 0)).bind fun ph8 =>
  (xpI ph8 12 69 a0 (nI 0)).bind fun ph9 =>
  (xpI ph9 12 70 a0 (nI 0)).bind fun ph10 =>
  (xpI ph10 12 74 a0 (nI 0)).bind fun ph11 =>
  (xpZ ph11 12 68 a0 (nI 0)).bind fun ph12 =>
  (xpI ph12 12 88 a0 (nI 0)).bind fun ph13 =>
  (xpJ ph13 12 87 a0 (lN 0)).bind fun ph14 =>
  f_M_link_72 F F a0 a1 (nI 0) ph14
theorem r_M_link {l : Launch} {g : px_G} {d F : Nat} {a0 : Nat} {a1 : Int32} {ph : px_H} {r : Int32} {ph' : px_H} (h : f_M_link F a0 a1 ph = some (r, ph')) : PW l g (d + 15) m_M_link 0 [.ref a0, .int a1, px_u] [] ph (px_qI r ph') := by
  unfold f_M_link at h
  refine px_ld rfl rfl rfl rfl rfl ?_
  refine px_ic (k := 0) rfl rfl rfl ?_
  obtain ⟨ph1, h0, h⟩ := xs_some h
  obtain ⟨fs, e1, e2, e3⟩ := xpI_some h0
  subst e3
  refine px_put rfl e1 e2 trivial rfl ?_
  refine px_ld rfl rfl rfl rfl rfl ?_
  refine px_ic (k := 0) rfl rfl rfl ?_
  obtain ⟨ph2, h0, h⟩ := xs_some h
  obtain ⟨fs, e1, e2, e3⟩ := xpI_some h0
  subst e3
  refine px_put rfl e1 e2 trivial rfl ?_
  refine px_ld rfl rfl rfl rfl rfl ?_
  refine px_ic (k := 0) rfl rfl rfl ?_
  obtain ⟨ph3, h0, h⟩ := xs_some h
  obtain ⟨fs, e1, e2, e3⟩ := xpI_some h0
  subst e3
  refine px_put rfl e1 e2 trivial rfl ?_
  refine px_ld rfl rfl rfl rfl rfl ?_
  refine px_ic (k := 0) rfl rfl rfl ?_
  obtain ⟨ph4, h0, h⟩ := xs_some h
  obtain ⟨fs, e1, e2, e3⟩ := xpI_some h0
  subst e3
  refine px_put rfl e1 e2 trivial rfl ?_
  refine px_ld rfl rfl rfl rfl rfl ?_
  refine px_ic (k := 0) rfl rfl rfl ?_
  obtain ⟨ph5, h0, h⟩ := xs_some h
  obtain ⟨fs, e1, e2, e3⟩ := xpI_some h0
  subst e3
  refine px_put rfl e1 e2 trivial rfl ?_
  refine px_ld rfl rfl rfl rfl rfl ?_
  refine px_ic (k := 0) rfl rfl rfl ?_
  obtain ⟨ph6, h0, h⟩ := xs_some h
  obtain ⟨fs, e1, e2, e3⟩ := xpI_some h0
  subst e3
  refine px_put rfl e1 e2 trivial rfl ?_
  refine px_ld rfl rfl rfl rfl rfl ?_
  refine px_ic (k := 0) rfl rfl rfl ?_
  obtain ⟨ph7, h0, h⟩ := xs_some h
  obtain ⟨fs, e1, e2, e3⟩ := xpI_some h0
  subst e3
  refine px_put rfl e1 e2 trivial rfl ?_
  refine px_ld rfl rfl rfl rfl rfl ?_
  refine px_alu rfl rfl rfl ?_
  obtain ⟨ph8, h0, h⟩ := xs_some h
  obtain ⟨fs, e1, e2, e3⟩ := xpJ_some h0
  subst e3
  refine px_put rfl e1 e2 trivial rfl ?_
  refine px_ld rfl rfl rfl rfl rfl ?_
  refine px_ic (k := 0) rfl rfl rfl ?_
  obtain ⟨ph9, h0, h⟩ := xs_some h
  obtain ⟨fs, e1, e2, e3⟩ := xpI_some h0
  subst e3
  refine px_put rfl e1 e2 trivial rfl ?_
  refine px_ld rfl rfl rfl rfl rfl ?_
  refine px_ic (k := 0) rfl rfl rfl ?_
  obtain ⟨ph10, h0, h⟩ := xs_some h
  obtain ⟨fs, e1, e2, e3⟩ := xpI_some h0
  subst e3
  refine px_put rfl e1 e2 trivial rfl ?_
  refine px_ld rfl rfl rfl rfl rfl ?_
  refine px_ic (k := 0) rfl rfl rfl ?_
  obtain ⟨ph11, h0, h⟩ := xs_some h
  obtain ⟨fs, e1, e2, e3⟩ := xpI_some h0
  subst e3
  refine px_put rfl e1 e2 trivial rfl ?_
  refine px_ld rfl rfl rfl rfl rfl ?_
  refine px_ic (k := 0) rfl rfl rfl ?_
  obtain ⟨ph12, h0, h⟩ := xs_some h
  obtain ⟨fs, e1, e2, e3, e4⟩ := xpZ_some h0
  subst e3
  refine px_put rfl e1 e2 e4 rfl ?_
  refine px_ld rfl rfl rfl rfl rfl ?_
  refine px_ic (k := 0) rfl rfl rfl ?_
  obtain ⟨ph13, h0, h⟩ := xs_some h
  obtain ⟨fs, e1, e2, e3⟩ := xpI_some h0
  subst e3
  refine px_put rfl e1 e2 trivial rfl ?_
  refine px_ld rfl rfl rfl rfl rfl ?_
  refine px_alu rfl rfl rfl ?_
  obtain ⟨ph14, h0, h⟩ := xs_some h
  obtain ⟨fs, e1, e2, e3⟩ := xpJ_some h0
  subst e3
  refine px_put rfl e1 e2 trivial rfl ?_
  refine px_ic (k := 0) rfl rfl rfl ?_
  refine px_st (lv' := [_, _, _]) rfl rfl rfl rfl rfl rfl rfl ?_
  exact (r_M_link_72 _ h :)
def f_M_wider (F : Nat) (a0 : Nat) (a1 : Int32) (ph : px_H) : Option (Int32 × px_H) :=
  some (((a1 + (nI 7)) / (nI 8)) * (nI 8), ph)
theorem r_M_wider {l : Launch} {g : px_G} {d F : Nat} {a0 : Nat} {a1 : Int32} {ph : px_H} {r : Int32} {ph' : px_H} (h : f_M_wider F a0 a1 ph = some (r, ph')) : PW l g (d + 0) m_M_wider 0 [.ref a0, .int a1] [] ph (px_qI r ph') := by
  unfold f_M_wider at h
  refine px_ld rfl rfl rfl rfl rfl ?_
  refine px_ic (k := 7) rfl rfl rfl ?_
  refine px_alu rfl rfl rfl ?_
  refine px_ic (k := 8) rfl rfl rfl ?_
  refine px_idiv rfl (by decide) rfl ?_
  refine px_ic (k := 8) rfl rfl rfl ?_
  refine px_alu rfl rfl rfl ?_
  cases h
  exact px_iret rfl (Or.inl rfl) rfl ⟨rfl, rfl⟩
def f_M_numberOf_32 (F : Nat) (a2 : Int32) (ph : px_H) : Option (Int32 × px_H) :=
  some (a2, ph)
theorem r_M_numberOf_32 {l : Launch} {g : px_G} {d F : Nat} {a2 : Int32} {ph : px_H} {r : Int32} {ph' : px_H} (h : f_M_numberOf_32 F a2 ph = some (r, ph')) : PW l g (d + 0) m_M_numberOf 32 [px_u, px_u, .int a2, px_u] [] ph (px_qI r ph') := by
  unfold f_M_numberOf_32 at h
  refine px_ld rfl rfl rfl rfl rfl ?_
  cases h
  exact px_iret rfl (Or.inl rfl) rfl ⟨rfl, rfl⟩
def f_M_numberOf_24 (F : Nat) (k4 : Nat → Int32 → Int32 → Int32 → px_H → Option (Int32 × px_H)) (a0 : Nat) (a1 : Int32) (a3 : Int32) (s0 : Int32) (s1 : Int32) (ph : px_H) : Option (Int32 × px_H) :=
  k4 a0 a1 (s0 + s1) (a3 + nI 1) ph
theorem r_M_numberOf_24 {l : Launch} {g : px_G} {d F : Nat} {k4 : Nat → Int32 → Int32 → Int32 → px_H → Option (Int32 × px_H)} (hk4 : ∀ {a0 : Nat} {a1 : Int32} {a2 : Int32} {a3 : Int32} {ph : px_H} {r : Int32} {ph' : px_H}, k4 a0 a1 a2 a3 ph = some (r, ph') → PW l g (d + 0) m_M_numberOf 4 [.ref a0, .int a1, .int a2, .int a3] [] ph (px_qI r ph')) {a0 : Nat} {a1 : Int32} {a3 : Int32} {s0 : Int32} {s1 : Int32} {ph : px_H} {r : Int32} {ph' : px_H} (h : f_M_numberOf_24 F k4 a0 a1 a3 s0 s1 ph = some (r, ph')) : PW l g (d + 0) m_M_numberOf 24 [.ref a0, .int a1, px_u, .int a3] [.int s1, .int s0] ph (px_qI r ph') := by
  unfold f_M_numberOf_24 at h
  refine px_alu rfl rfl rfl ?_
  refine px_st (lv' := [_, _, _, _]) rfl rfl rfl rfl rfl rfl rfl ?_
  refine px_iinc (lv' := [_, _, _, _]) rfl rfl rfl rfl rfl rfl ?_
  refine px_goto rfl rfl rfl ?_
  exact (hk4 h :)
def f_M_numberOf_4 (F : Nat) : Nat → Nat → Int32 → Int32 → Int32 → px_H → Option (Int32 × px_H)
  | 0, _, _, _, _, _ => none
  | n + 1, a0, a1, a2, a3, ph =>
    if a1 < a3 then
      f_M_numberOf_32 F a2 ph
    else
      (xgR ph 12 59 a0).bind fun t1 =>
      (xaI ph 3 t1 a3).bind fun t2 =>
      if t2 = 0 then
        f_M_numberOf_24 F (f_M_numberOf_4 F n) a0 a1 a3 a2 (nI 0) ph
      else
        f_M_numberOf_24 F (f_M_numberOf_4 F n) a0 a1 a3 a2 (nI 1) ph
theorem r_M_numberOf_4 {l : Launch} {g : px_G} {d F : Nat} : ∀ (n : Nat) {a0 : Nat} {a1 : Int32} {a2 : Int32} {a3 : Int32} {ph : px_H} {r : Int32} {ph' : px_H}, f_M_numberOf_4 F n a0 a1 a2 a3 ph = some (r, ph') → PW l g (d + 0) m_M_numberOf 4 [.ref a0, .int a1, .int a2, .int a3] [] ph (px_qI r ph') := by
  intro n
  induction n with
  | zero => intro _ _ _ _ _ _ _ h; cases h
  | succ n ih =>
    intro a0 a1 a2 a3 ph r ph' h
    unfold f_M_numberOf_4 at h
    refine px_ld rfl rfl rfl rfl rfl ?_
    refine px_ld rfl rfl rfl rfl rfl ?_
    refine px_icgt rfl rfl rfl (fun hc => ?_) (fun hc => ?_)
    · replace h := (if_pos hc).symm.trans h
      refine px_forget (n := 0) (lv' := [_, _, _, _]) rfl ?_
      refine px_forget (n := 1) (lv' := [_, _, _, _]) rfl ?_
      refine px_forget (n := 3) (lv' := [_, _, _, _]) rfl ?_
      exact (r_M_numberOf_32 h :)
    · replace h := (if_neg hc).symm.trans h
      refine px_ld rfl rfl rfl rfl rfl ?_
      refine px_ld rfl rfl rfl rfl rfl ?_
      obtain ⟨t1, h0, h⟩ := xs_some h
      obtain ⟨fs, e1, e2⟩ := xgR_some h0
      refine px_get rfl e1 e2 rfl ?_
      refine px_ld rfl rfl rfl rfl rfl ?_
      obtain ⟨t2, h0, h⟩ := xs_some h
      obtain ⟨N, f, e1, e2, e3⟩ := xaI_some h0
      subst e3
      refine px_zald rfl e1 rfl e2 rfl ?_
      refine px_ifeq rfl rfl rfl (fun hc => ?_) (fun hc => ?_)
      · replace h := (if_pos hc).symm.trans h
        refine px_ic (k := 0) rfl rfl rfl ?_
        refine px_forget (n := 2) (lv' := [_, _, _, _]) rfl ?_
        exact (r_M_numberOf_24 @ih h :)
      · replace h := (if_neg hc).symm.trans h
        refine px_ic (k := 1) rfl rfl rfl ?_
        refine px_goto rfl rfl rfl ?_
        refine px_forget (n := 2) (lv' := [_, _, _, _]) rfl ?_
        exact (r_M_numberOf_24 @ih h :)
def f_M_numberOf (F : Nat) (a0 : Nat) (a1 : Int32) (ph : px_H) : Option (Int32 × px_H) :=
  f_M_numberOf_4 F F a0 a1 (nI 0) (nI 0) ph
theorem r_M_numberOf {l : Launch} {g : px_G} {d F : Nat} {a0 : Nat} {a1 : Int32} {ph : px_H} {r : Int32} {ph' : px_H} (h : f_M_numberOf F a0 a1 ph = some (r, ph')) : PW l g (d + 0) m_M_numberOf 0 [.ref a0, .int a1, px_u, px_u] [] ph (px_qI r ph') := by
  unfold f_M_numberOf at h
  refine px_ic (k := 0) rfl rfl rfl ?_
  refine px_st (lv' := [_, _, _, _]) rfl rfl rfl rfl rfl rfl rfl ?_
  refine px_ic (k := 0) rfl rfl rfl ?_
  refine px_st (lv' := [_, _, _, _]) rfl rfl rfl rfl rfl rfl rfl ?_
  exact (r_M_numberOf_4 _ h :)
def f_M_namedSegment_38 (F : Nat) (a0 : Nat) (a1 : Int32) (a2 : Int32) (s0 : Nat) (s1 : Int32) (s2 : Int64) (ph : px_H) : Option (Unit × px_H) :=
  (xo ph 12 s0).bind fun _ =>
  xb (f_M_put F s0 s1 s2 (nI 8) ph) fun _ ph1 =>
  (xgR ph1 12 61 a0).bind fun t2 =>
  (xaJ ph1 2 t2 a2).bind fun t3 =>
  (xo ph1 12 a0).bind fun _ =>
  xb (f_M_put F a0 (a1 + (nI 16)) t3 (nI 8) ph1) fun _ ph4 =>
  (xgR ph4 12 60 a0).bind fun t5 =>
  (xaJ ph4 2 t5 a2).bind fun t6 =>
  (xo ph4 12 a0).bind fun _ =>
  xb (f_M_put F a0 (a1 + (nI 24)) t6 (nI 8) ph4) fun _ ph7 =>
  (xgR ph7 12 62 a0).bind fun t8 =>
  (xaJ ph7 2 t8 a2).bind fun t9 =>
  (xo ph7 12 a0).bind fun _ =>
  xb (f_M_put F a0 (a1 + (nI 32)) t9 (nI 8) ph7) fun _ ph10 =>
  (xo ph10 12 a0).bind fun _ =>
  xb (f_M_put F a0 (a1 + (nI 48)) ((16 : Int64)) (nI 8) ph10) fun _ ph11 =>
  some ((), ph11)
theorem r_M_namedSegment_38 {l : Launch} {g : px_G} {d F : Nat} {a0 : Nat} {a1 : Int32} {a2 : Int32} {s0 : Nat} {s1 : Int32} {s2 : Int64} {ph : px_H} {r : Unit} {ph' : px_H} (h : f_M_namedSegment_38 F a0 a1 a2 s0 s1 s2 ph = some (r, ph')) : PW l g (d + 1) m_M_namedSegment 38 [.ref a0, .int a1, .int a2] [.long s2, .int s1, .ref s0] ph (px_qV r ph') := by
  unfold f_M_namedSegment_38 at h
  refine px_ic (k := 8) rfl rfl rfl ?_
  obtain ⟨fs, h0, h⟩ := xs_some h
  have e1 := xo_some h0
  obtain ⟨u0, ph1, h0, h⟩ := xb_some h
  refine px_cV3 rfl rfl e1 rfl rfl rfl rfl rfl rfl rfl (r_M_put h0 :) (fun _ _ q => nomatch q.2) (fun r ph' q => ?_)
  obtain ⟨rfl, q⟩ := q
  cases q
  refine px_ld rfl rfl rfl rfl rfl ?_
  refine px_ld rfl rfl rfl rfl rfl ?_
  refine px_ic (k := 16) rfl rfl rfl ?_
  refine px_alu rfl rfl rfl ?_
  refine px_ld rfl rfl rfl rfl rfl ?_
  obtain ⟨t2, h0, h⟩ := xs_some h
  obtain ⟨fs, e1, e2⟩ := xgR_some h0
  refine px_get rfl e1 e2 rfl ?_
  refine px_ld rfl rfl rfl rfl rfl ?_
  obtain ⟨t3, h0, h⟩ := xs_some h
  obtain ⟨N, f, e1, e2, e3⟩ := xaJ_some h0
  subst e3
  refine px_lald rfl e1 rfl e2 rfl ?_
  refine px_ic (k := 8) rfl rfl rfl ?_
  obtain ⟨fs, h0, h⟩ := xs_some h
  have e1 := xo_some h0
  obtain ⟨u0, ph4, h0, h⟩ := xb_some h
  refine px_cV3 rfl rfl e1 rfl rfl rfl rfl rfl rfl rfl (r_M_put h0 :) (fun _ _ q => nomatch q.2) (fun r ph' q => ?_)
  obtain ⟨rfl, q⟩ := q
  cases q
  refine px_ld rfl rfl rfl rfl rfl ?_
  refine px_ld rfl rfl rfl rfl rfl ?_
  refine px_ic (k := 24) rfl rfl rfl ?_
  refine px_alu rfl rfl rfl ?_
  refine px_ld rfl rfl rfl rfl rfl ?_
  obtain ⟨t5, h0, h⟩ := xs_some h
  obtain ⟨fs, e1, e2⟩ := xgR_some h0
  refine px_get rfl e1 e2 rfl ?_
  refine px_ld rfl rfl rfl rfl rfl ?_
  obtain ⟨t6, h0, h⟩ := xs_some h
  obtain ⟨N, f, e1, e2, e3⟩ := xaJ_some h0
  subst e3
  refine px_lald rfl e1 rfl e2 rfl ?_
  refine px_ic (k := 8) rfl rfl rfl ?_
  obtain ⟨fs, h0, h⟩ := xs_some h
  have e1 := xo_some h0
  obtain ⟨u0, ph7, h0, h⟩ := xb_some h
  refine px_cV3 rfl rfl e1 rfl rfl rfl rfl rfl rfl rfl (r_M_put h0 :) (fun _ _ q => nomatch q.2) (fun r ph' q => ?_)
  obtain ⟨rfl, q⟩ := q
  cases q
  refine px_ld rfl rfl rfl rfl rfl ?_
  refine px_ld rfl rfl rfl rfl rfl ?_
  refine px_ic (k := 32) rfl rfl rfl ?_
  refine px_alu rfl rfl rfl ?_
  refine px_ld rfl rfl rfl rfl rfl ?_
  obtain ⟨t8, h0, h⟩ := xs_some h
  obtain ⟨fs, e1, e2⟩ := xgR_some h0
  refine px_get rfl e1 e2 rfl ?_
  refine px_ld rfl rfl rfl rfl rfl ?_
  obtain ⟨t9, h0, h⟩ := xs_some h
  obtain ⟨N, f, e1, e2, e3⟩ := xaJ_some h0
  subst e3
  refine px_lald rfl e1 rfl e2 rfl ?_
  refine px_ic (k := 8) rfl rfl rfl ?_
  obtain ⟨fs, h0, h⟩ := xs_some h
  have e1 := xo_some h0
  obtain ⟨u0, ph10, h0, h⟩ := xb_some h
  refine px_cV3 rfl rfl e1 rfl rfl rfl rfl rfl rfl rfl (r_M_put h0 :) (fun _ _ q => nomatch q.2) (fun r ph' q => ?_)
  obtain ⟨rfl, q⟩ := q
  cases q
  refine px_ld rfl rfl rfl rfl rfl ?_
  refine px_ld rfl rfl rfl rfl rfl ?_
  refine px_ic (k := 48) rfl rfl rfl ?_
  refine px_alu rfl rfl rfl ?_
  refine px_ldc2 rfl rfl rfl ?_
  refine px_ic (k := 8) rfl rfl rfl ?_
  obtain ⟨fs, h0, h⟩ := xs_some h
  have e1 := xo_some h0
  obtain ⟨u0, ph11, h0, h⟩ := xb_some h
  refine px_cV3 rfl rfl e1 rfl rfl rfl rfl rfl rfl rfl (r_M_put h0 :) (fun _ _ q => nomatch q.2) (fun r ph' q => ?_)
  obtain ⟨rfl, q⟩ := q
  cases q
  cases h
  exact px_vret rfl rfl rfl ⟨rfl, rfl⟩
def f_M_namedSegment (F : Nat) (a0 : Nat) (a1 : Int32) (a2 : Int32) (ph : px_H) : Option (Unit × px_H) :=
  (xo ph 12 a0).bind fun _ =>
  xb (f_M_put F a0 (a1 + (nI 4)) (lN 1) (nI 4) ph) fun _ ph1 =>
  if a2 = 0 then
    f_M_namedSegment_38 F a0 a1 a2 a0 (a1 + (nI 8)) ((6 : Int64)) ph1
  else
    if a2 = (nI 1) then
      f_M_namedSegment_38 F a0 a1 a2 a0 (a1 + (nI 8)) ((2 : Int64)) ph1
    else
      f_M_namedSegment_38 F a0 a1 a2 a0 (a1 + (nI 8)) ((3 : Int64)) ph1
theorem r_M_namedSegment {l : Launch} {g : px_G} {d F : Nat} {a0 : Nat} {a1 : Int32} {a2 : Int32} {ph : px_H} {r : Unit} {ph' : px_H} (h : f_M_namedSegment F a0 a1 a2 ph = some (r, ph')) : PW l g (d + 1) m_M_namedSegment 0 [.ref a0, .int a1, .int a2] [] ph (px_qV r ph') := by
  unfold f_M_namedSegment at h
  refine px_ld rfl rfl rfl rfl rfl ?_
  refine px_ld rfl rfl rfl rfl rfl ?_
  refine px_ic (k := 4) rfl rfl rfl ?_
  refine px_alu rfl rfl rfl ?_
  refine px_alu rfl rfl rfl ?_
  refine px_ic (k := 4) rfl rfl rfl ?_
  obtain ⟨fs, h0, h⟩ := xs_some h
  have e1 := xo_some h0
  obtain ⟨u0, ph1, h0, h⟩ := xb_some h
  refine px_cV3 rfl rfl e1 rfl rfl rfl rfl rfl rfl rfl (r_M_put h0 :) (fun _ _ q => nomatch q.2) (fun r ph' q => ?_)
  obtain ⟨rfl, q⟩ := q
  cases q
  refine px_ld rfl rfl rfl rfl rfl ?_
  refine px_ld rfl rfl rfl rfl rfl ?_
  refine px_ic (k := 8) rfl rfl rfl ?_
  refine px_alu rfl rfl rfl ?_
  refine px_ld rfl rfl rfl rfl rfl ?_
  refine px_ifne rfl (by decide) rfl (fun hc => ?_) (fun hc => ?_)
  · replace h := (if_neg hc).symm.trans h
    refine px_ld rfl rfl rfl rfl rfl ?_
    refine px_ic (k := 1) rfl rfl rfl ?_
    refine px_icne rfl (by decide) rfl (fun hc => ?_) (fun hc => ?_)
    · replace h := (if_neg hc).symm.trans h
      refine px_ldc2 rfl rfl rfl ?_
      exact (r_M_namedSegment_38 h :)
    · replace h := (if_pos hc).symm.trans h
      refine px_ldc2 rfl rfl rfl ?_
      refine px_goto rfl (by decide) rfl ?_
      exact (r_M_namedSegment_38 h :)
  · replace h := (if_pos hc).symm.trans h
    refine px_ldc2 rfl rfl rfl ?_
    refine px_goto rfl (by decide) rfl ?_
    exact (r_M_namedSegment_38 h :)
def f_M_named_443 (F : Nat) (a0 : Nat) (a1 : Int32) (a2 : Int32) (a3 : Int32) (a4 : Int32) (a5 : Int32) (ph : px_H) : Option (Int32 × px_H) :=
  (xgI ph 12 15 a0).bind fun t1 =>
  (xo ph 12 a0).bind fun _ =>
  xb (f_M_put F a0 ((a4 + ((nI 64) * (t1 + (nI 1)))) + (nI 4)) ((2 : Int64)) (nI 4) ph) fun _ ph2 =>
  (xo ph2 12 a0).bind fun _ =>
  xb (f_M_put F a0 ((a4 + ((nI 64) * (t1 + (nI 1)))) + (nI 24)) a2.toInt64 (nI 8) ph2) fun _ ph3 =>
  (xgI ph3 12 48 a0).bind fun t4 =>
  (xo ph3 12 a0).bind fun _ =>
  xb (f_M_put F a0 ((a4 + ((nI 64) * (t1 + (nI 1)))) + (nI 32)) (((24 : Int64)) * ((t4 + (nI 1)).toInt64)) (nI 8) ph3) fun _ ph5 =>
  (xgI ph5 12 15 a0).bind fun t6 =>
  (xo ph5 12 a0).bind fun _ =>
  xb (f_M_put F a0 ((a4 + ((nI 64) * (t1 + (nI 1)))) + (nI 40)) ((t6 + (nI 2)).toInt64) (nI 4) ph5) fun _ ph7 =>
  (xo ph7 12 a0).bind fun _ =>
  xb (f_M_put F a0 ((a4 + ((nI 64) * (t1 + (nI 1)))) + (nI 44)) (lN 1) (nI 4) ph7) fun _ ph8 =>
  (xo ph8 12 a0).bind fun _ =>
  xb (f_M_put F a0 ((a4 + ((nI 64) * (t1 + (nI 1)))) + (nI 48)) ((8 : Int64)) (nI 8) ph8) fun _ ph9 =>
  (xo ph9 12 a0).bind fun _ =>
  xb (f_M_put F a0 ((a4 + ((nI 64) * (t1 + (nI 1)))) + (nI 56)) ((24 : Int64)) (nI 8) ph9) fun _ ph10 =>
  (xo ph10 12 a0).bind fun _ =>
  xb (f_M_put F a0 ((a4 + ((nI 64) * (t1 + (nI 1)))) + (nI 68)) ((3 : Int64)) (nI 4) ph10) fun _ ph11 =>
  (xo ph11 12 a0).bind fun _ =>
  xb (f_M_put F a0 ((a4 + ((nI 64) * (t1 + (nI 1)))) + (nI 88)) a3.toInt64 (nI 8) ph11) fun _ ph12 =>
  (xo ph12 12 a0).bind fun _ =>
  xb (f_M_put F a0 ((a4 + ((nI 64) * (t1 + (nI 1)))) + (nI 96)) a1.toInt64 (nI 8) ph12) fun _ ph13 =>
  (xo ph13 12 a0).bind fun _ =>
  xb (f_M_put F a0 ((a4 + ((nI 64) * (t1 + (nI 1)))) + (nI 112)) (lN 1) (nI 8) ph13) fun _ ph14 =>
  (xo ph14 12 a0).bind fun _ =>
  xb (f_M_put F a0 (nI 40) a4.toInt64 (nI 8) ph14) fun _ ph15 =>
  (xo ph15 12 a0).bind fun _ =>
  xb (f_M_put F a0 (nI 58) ((64 : Int64)) (nI 2) ph15) fun _ ph16 =>
  (xgI ph16 12 15 a0).bind fun t17 =>
  (xo ph16 12 a0).bind fun _ =>
  xb (f_M_put F a0 (nI 60) ((t17 + (nI 3)).toInt64) (nI 2) ph16) fun _ ph18 =>
  (xgI ph18 12 15 a0).bind fun t19 =>
  (xo ph18 12 a0).bind fun _ =>
  xb (f_M_put F a0 (nI 62) ((t19 + (nI 2)).toInt64) (nI 2) ph18) fun _ ph20 =>
  some (a5, ph20)
theorem r_M_named_443 {l : Launch} {g : px_G} {d F : Nat} {a0 : Nat} {a1 : Int32} {a2 : Int32} {a3 : Int32} {a4 : Int32} {a5 : Int32} {ph : px_H} {r : Int32} {ph' : px_H} (h : f_M_named_443 F a0 a1 a2 a3 a4 a5 ph = some (r, ph')) : PW l g (d + 2) m_M_named 443 [.ref a0, .int a1, .int a2, .int a3, .int a4, .int a5, px_u, px_u, px_u, px_u, px_u] [] ph (px_qI r ph') := by
  unfold f_M_named_443 at h
  refine px_ld rfl rfl rfl rfl rfl ?_
  refine px_ic (k := 64) rfl rfl rfl ?_
  refine px_ld rfl rfl rfl rfl rfl ?_
  obtain ⟨t1, h0, h⟩ := xs_some h
  obtain ⟨fs, e1, e2⟩ := xgI_some h0
  refine px_get rfl e1 e2 rfl ?_
  refine px_ic (k := 1) rfl rfl rfl ?_
  refine px_alu rfl rfl rfl ?_
  refine px_alu rfl rfl rfl ?_
  refine px_alu rfl rfl rfl ?_
  refine px_st (lv' := [_, _, _, _, _, _, _, _, _, _, _]) rfl rfl rfl rfl rfl rfl rfl ?_
  refine px_ld rfl rfl rfl rfl rfl ?_
  refine px_ld rfl rfl rfl rfl rfl ?_
  refine px_ic (k := 4) rfl rfl rfl ?_
  refine px_alu rfl rfl rfl ?_
  refine px_ldc2 rfl rfl rfl ?_
  refine px_ic (k := 4) rfl rfl rfl ?_
  obtain ⟨fs, h0, h⟩ := xs_some h
  have e1 := xo_some h0
  obtain ⟨u0, ph2, h0, h⟩ := xb_some h
  refine px_cV3 rfl rfl e1 rfl rfl rfl rfl rfl rfl rfl (r_M_put h0 :) (fun _ _ q => nomatch q.2) (fun r ph' q => ?_)
  obtain ⟨rfl, q⟩ := q
  cases q
  refine px_ld rfl rfl rfl rfl rfl ?_
  refine px_ld rfl rfl rfl rfl rfl ?_
  refine px_ic (k := 24) rfl rfl rfl ?_
  refine px_alu rfl rfl rfl ?_
  refine px_ld rfl rfl rfl rfl rfl ?_
  refine px_alu rfl rfl rfl ?_
  refine px_ic (k := 8) rfl rfl rfl ?_
  obtain ⟨fs, h0, h⟩ := xs_some h
  have e1 := xo_some h0
  obtain ⟨u0, ph3, h0, h⟩ := xb_some h
  refine px_cV3 rfl rfl e1 rfl rfl rfl rfl rfl rfl rfl (r_M_put h0 :) (fun _ _ q => nomatch q.2) (fun r ph' q => ?_)
  obtain ⟨rfl, q⟩ := q
  cases q
  refine px_ld rfl rfl rfl rfl rfl ?_
  refine px_ld rfl rfl rfl rfl rfl ?_
  refine px_ic (k := 32) rfl rfl rfl ?_
  refine px_alu rfl rfl rfl ?_
  refine px_ldc2 rfl rfl rfl ?_
  refine px_ld rfl rfl rfl rfl rfl ?_
  obtain ⟨t4, h0, h⟩ := xs_some h
  obtain ⟨fs, e1, e2⟩ := xgI_some h0
  refine px_get rfl e1 e2 rfl ?_
  refine px_ic (k := 1) rfl rfl rfl ?_
  refine px_alu rfl rfl rfl ?_
  refine px_alu rfl rfl rfl ?_
  refine px_alu rfl rfl rfl ?_
  refine px_ic (k := 8) rfl rfl rfl ?_
  obtain ⟨fs, h0, h⟩ := xs_some h
  have e1 := xo_some h0
  obtain ⟨u0, ph5, h0, h⟩ := xb_some h
  refine px_cV3 rfl rfl e1 rfl rfl rfl rfl rfl rfl rfl (r_M_put h0 :) (fun _ _ q => nomatch q.2) (fun r ph' q => ?_)
  obtain ⟨rfl, q⟩ := q
  cases q
  refine px_ld rfl rfl rfl rfl rfl ?_
  refine px_ld rfl rfl rfl rfl rfl ?_
  refine px_ic (k := 40) rfl rfl rfl ?_
  refine px_alu rfl rfl rfl ?_
  refine px_ld rfl rfl rfl rfl rfl ?_
  obtain ⟨t6, h0, h⟩ := xs_some h
  obtain ⟨fs, e1, e2⟩ := xgI_some h0
  refine px_get rfl e1 e2 rfl ?_
  refine px_ic (k := 2) rfl rfl rfl ?_
  refine px_alu rfl rfl rfl ?_
  refine px_alu rfl rfl rfl ?_
  refine px_ic (k := 4) rfl rfl rfl ?_
  obtain ⟨fs, h0, h⟩ := xs_some h
  have e1 := xo_some h0
  obtain ⟨u0, ph7, h0, h⟩ := xb_some h
  refine px_cV3 rfl rfl e1 rfl rfl rfl rfl rfl rfl rfl (r_M_put h0 :) (fun _ _ q => nomatch q.2) (fun r ph' q => ?_)
  obtain ⟨rfl, q⟩ := q
  cases q
  refine px_ld rfl rfl rfl rfl rfl ?_
  refine px_ld rfl rfl rfl rfl rfl ?_
  refine px_ic (k := 44) rfl rfl rfl ?_
  refine px_alu rfl rfl rfl ?_
  refine px_alu rfl rfl rfl ?_
  refine px_ic (k := 4) rfl rfl rfl ?_
  obtain ⟨fs, h0, h⟩ := xs_some h
  have e1 := xo_some h0
  obtain ⟨u0, ph8, h0, h⟩ := xb_some h
  refine px_cV3 rfl rfl e1 rfl rfl rfl rfl rfl rfl rfl (r_M_put h0 :) (fun _ _ q => nomatch q.2) (fun r ph' q => ?_)
  obtain ⟨rfl, q⟩ := q
  cases q
  refine px_ld rfl rfl rfl rfl rfl ?_
  refine px_ld rfl rfl rfl rfl rfl ?_
  refine px_ic (k := 48) rfl rfl rfl ?_
  refine px_alu rfl rfl rfl ?_
  refine px_ldc2 rfl rfl rfl ?_
  refine px_ic (k := 8) rfl rfl rfl ?_
  obtain ⟨fs, h0, h⟩ := xs_some h
  have e1 := xo_some h0
  obtain ⟨u0, ph9, h0, h⟩ := xb_some h
  refine px_cV3 rfl rfl e1 rfl rfl rfl rfl rfl rfl rfl (r_M_put h0 :) (fun _ _ q => nomatch q.2) (fun r ph' q => ?_)
  obtain ⟨rfl, q⟩ := q
  cases q
  refine px_ld rfl rfl rfl rfl rfl ?_
  refine px_ld rfl rfl rfl rfl rfl ?_
  refine px_ic (k := 56) rfl rfl rfl ?_
  refine px_alu rfl rfl rfl ?_
  refine px_ldc2 rfl rfl rfl ?_
  refine px_ic (k := 8) rfl rfl rfl ?_
  obtain ⟨fs, h0, h⟩ := xs_some h
  have e1 := xo_some h0
  obtain ⟨u0, ph10, h0, h⟩ := xb_some h
  refine px_cV3 rfl rfl e1 rfl rfl rfl rfl rfl rfl rfl (r_M_put h0 :) (fun _ _ q => nomatch q.2) (fun r ph' q => ?_)
  obtain ⟨rfl, q⟩ := q
  cases q
  refine px_ld rfl rfl rfl rfl rfl ?_
  refine px_ld rfl rfl rfl rfl rfl ?_
  refine px_ic (k := 68) rfl rfl rfl ?_
  refine px_alu rfl rfl rfl ?_
  refine px_ldc2 rfl rfl rfl ?_
  refine px_ic (k := 4) rfl rfl rfl ?_
  obtain ⟨fs, h0, h⟩ := xs_some h
  have e1 := xo_some h0
  obtain ⟨u0, ph11, h0, h⟩ := xb_some h
  refine px_cV3 rfl rfl e1 rfl rfl rfl rfl rfl rfl rfl (r_M_put h0 :) (fun _ _ q => nomatch q.2) (fun r ph' q => ?_)
  obtain ⟨rfl, q⟩ := q
  cases q
  refine px_ld rfl rfl rfl rfl rfl ?_
  refine px_ld rfl rfl rfl rfl rfl ?_
  refine px_ic (k := 88) rfl rfl rfl ?_
  refine px_alu rfl rfl rfl ?_
  refine px_ld rfl rfl rfl rfl rfl ?_
  refine px_alu rfl rfl rfl ?_
  refine px_ic (k := 8) rfl rfl rfl ?_
  obtain ⟨fs, h0, h⟩ := xs_some h
  have e1 := xo_some h0
  obtain ⟨u0, ph12, h0, h⟩ := xb_some h
  refine px_cV3 rfl rfl e1 rfl rfl rfl rfl rfl rfl rfl (r_M_put h0 :) (fun _ _ q => nomatch q.2) (fun r ph' q => ?_)
  obtain ⟨rfl, q⟩ := q
  cases q
  refine px_ld rfl rfl rfl rfl rfl ?_
  refine px_ld rfl rfl rfl rfl rfl ?_
  refine px_ic (k := 96) rfl rfl rfl ?_
  refine px_alu rfl rfl rfl ?_
  refine px_ld rfl rfl rfl rfl rfl ?_
  refine px_alu rfl rfl rfl ?_
  refine px_ic (k := 8) rfl rfl rfl ?_
  obtain ⟨fs, h0, h⟩ := xs_some h
  have e1 := xo_some h0
  obtain ⟨u0, ph13, h0, h⟩ := xb_some h
  refine px_cV3 rfl rfl e1 rfl rfl rfl rfl rfl rfl rfl (r_M_put h0 :) (fun _ _ q => nomatch q.2) (fun r ph' q => ?_)
  obtain ⟨rfl, q⟩ := q
  cases q
  refine px_ld rfl rfl rfl rfl rfl ?_
  refine px_ld rfl rfl rfl rfl rfl ?_
  refine px_ic (k := 112) rfl rfl rfl ?_
  refine px_alu rfl rfl rfl ?_
  refine px_alu rfl rfl rfl ?_
  refine px_ic (k := 8) rfl rfl rfl ?_
  obtain ⟨fs, h0, h⟩ := xs_some h
  have e1 := xo_some h0
  obtain ⟨u0, ph14, h0, h⟩ := xb_some h
  refine px_cV3 rfl rfl e1 rfl rfl rfl rfl rfl rfl rfl (r_M_put h0 :) (fun _ _ q => nomatch q.2) (fun r ph' q => ?_)
  obtain ⟨rfl, q⟩ := q
  cases q
  refine px_ld rfl rfl rfl rfl rfl ?_
  refine px_ic (k := 40) rfl rfl rfl ?_
  refine px_ld rfl rfl rfl rfl rfl ?_
  refine px_alu rfl rfl rfl ?_
  refine px_ic (k := 8) rfl rfl rfl ?_
  obtain ⟨fs, h0, h⟩ := xs_some h
  have e1 := xo_some h0
  obtain ⟨u0, ph15, h0, h⟩ := xb_some h
  refine px_cV3 rfl rfl e1 rfl rfl rfl rfl rfl rfl rfl (r_M_put h0 :) (fun _ _ q => nomatch q.2) (fun r ph' q => ?_)
  obtain ⟨rfl, q⟩ := q
  cases q
  refine px_ld rfl rfl rfl rfl rfl ?_
  refine px_ic (k := 58) rfl rfl rfl ?_
  refine px_ldc2 rfl rfl rfl ?_
  refine px_ic (k := 2) rfl rfl rfl ?_
  obtain ⟨fs, h0, h⟩ := xs_some h
  have e1 := xo_some h0
  obtain ⟨u0, ph16, h0, h⟩ := xb_some h
  refine px_cV3 rfl rfl e1 rfl rfl rfl rfl rfl rfl rfl (r_M_put h0 :) (fun _ _ q => nomatch q.2) (fun r ph' q => ?_)
  obtain ⟨rfl, q⟩ := q
  cases q
  refine px_ld rfl rfl rfl rfl rfl ?_
  refine px_ic (k := 60) rfl rfl rfl ?_
  refine px_ld rfl rfl rfl rfl rfl ?_
  obtain ⟨t17, h0, h⟩ := xs_some h
  obtain ⟨fs, e1, e2⟩ := xgI_some h0
  refine px_get rfl e1 e2 rfl ?_
  refine px_ic (k := 3) rfl rfl rfl ?_
  refine px_alu rfl rfl rfl ?_
  refine px_alu rfl rfl rfl ?_
  refine px_ic (k := 2) rfl rfl rfl ?_
  obtain ⟨fs, h0, h⟩ := xs_some h
  have e1 := xo_some h0
  obtain ⟨u0, ph18, h0, h⟩ := xb_some h
  refine px_cV3 rfl rfl e1 rfl rfl rfl rfl rfl rfl rfl (r_M_put h0 :) (fun _ _ q => nomatch q.2) (fun r ph' q => ?_)
  obtain ⟨rfl, q⟩ := q
  cases q
  refine px_ld rfl rfl rfl rfl rfl ?_
  refine px_ic (k := 62) rfl rfl rfl ?_
  refine px_ld rfl rfl rfl rfl rfl ?_
  obtain ⟨t19, h0, h⟩ := xs_some h
  obtain ⟨fs, e1, e2⟩ := xgI_some h0
  refine px_get rfl e1 e2 rfl ?_
  refine px_ic (k := 2) rfl rfl rfl ?_
  refine px_alu rfl rfl rfl ?_
  refine px_alu rfl rfl rfl ?_
  refine px_ic (k := 2) rfl rfl rfl ?_
  obtain ⟨fs, h0, h⟩ := xs_some h
  have e1 := xo_some h0
  obtain ⟨u0, ph20, h0, h⟩ := xb_some h
  refine px_cV3 rfl rfl e1 rfl rfl rfl rfl rfl rfl rfl (r_M_put h0 :) (fun _ _ q => nomatch q.2) (fun r ph' q => ?_)
  obtain ⟨rfl, q⟩ := q
  cases q
  refine px_ld rfl rfl rfl rfl rfl ?_
  cases h
  exact px_iret rfl (Or.inl rfl) rfl ⟨rfl, rfl⟩
def f_M_named_437 (F : Nat) (k403 : Nat → Int32 → Int32 → Int32 → Int32 → Int32 → Int32 → px_H → Option (Int32 × px_H)) (a0 : Nat) (a1 : Int32) (a2 : Int32) (a3 : Int32) (a4 : Int32) (a5 : Int32) (a6 : Int32) (ph : px_H) : Option (Int32 × px_H) :=
  k403 a0 a1 a2 a3 a4 a5 (a6 + nI 1) ph
theorem r_M_named_437 {l : Launch} {g : px_G} {d F : Nat} {k403 : Nat → Int32 → Int32 → Int32 → Int32 → Int32 → Int32 → px_H → Option (Int32 × px_H)} (hk403 : ∀ {a0 : Nat} {a1 : Int32} {a2 : Int32} {a3 : Int32} {a4 : Int32} {a5 : Int32} {a6 : Int32} {ph : px_H} {r : Int32} {ph' : px_H}, k403 a0 a1 a2 a3 a4 a5 a6 ph = some (r, ph') → PW l g (d + 2) m_M_named 403 [.ref a0, .int a1, .int a2, .int a3, .int a4, .int a5, .int a6, px_u, px_u, px_u, px_u] [] ph (px_qI r ph')) {a0 : Nat} {a1 : Int32} {a2 : Int32} {a3 : Int32} {a4 : Int32} {a5 : Int32} {a6 : Int32} {ph : px_H} {r : Int32} {ph' : px_H} (h : f_M_named_437 F k403 a0 a1 a2 a3 a4 a5 a6 ph = some (r, ph')) : PW l g (d + 2) m_M_named 437 [.ref a0, .int a1, .int a2, .int a3, .int a4, .int a5, .int a6, px_u, px_u, px_u, px_u] [] ph (px_qI r ph') := by
  unfold f_M_named_437 at h
  refine px_iinc (lv' := [_, _, _, _, _, _, _, _, _, _, _]) rfl rfl rfl rfl rfl rfl ?_
  refine px_goto rfl (by decide) rfl ?_
  exact (hk403 h :)
def f_M_named_403 (F : Nat) : Nat → Nat → Int32 → Int32 → Int32 → Int32 → Int32 → Int32 → px_H → Option (Int32 × px_H)
  | 0, _, _, _, _, _, _, _, _ => none
  | n + 1, a0, a1, a2, a3, a4, a5, a6, ph =>
    if (nI 3) ≤ a6 then
      f_M_named_443 F a0 a1 a2 a3 a4 a5 ph
    else
      (xgR ph 12 59 a0).bind fun t1 =>
      (xaI ph 3 t1 a6).bind fun t2 =>
      if t2 = 0 then
        f_M_named_437 F (f_M_named_403 F n) a0 a1 a2 a3 a4 a5 a6 ph
      else
        (xo ph 12 a0).bind fun _ =>
        xb (f_M_numberOf F a0 a6 ph) fun t3 ph4 =>
        (xo ph4 12 a0).bind fun _ =>
        xb (f_M_namedSegment F a0 (a4 + ((nI 64) * t3)) a6 ph4) fun _ ph5 =>
        f_M_named_437 F (f_M_named_403 F n) a0 a1 a2 a3 a4 a5 a6 ph5
theorem r_M_named_403 {l : Launch} {g : px_G} {d F : Nat} : ∀ (n : Nat) {a0 : Nat} {a1 : Int32} {a2 : Int32} {a3 : Int32} {a4 : Int32} {a5 : Int32} {a6 : Int32} {ph : px_H} {r : Int32} {ph' : px_H}, f_M_named_403 F n a0 a1 a2 a3 a4 a5 a6 ph = some (r, ph') → PW l g (d + 2) m_M_named 403 [.ref a0, .int a1, .int a2, .int a3, .int a4, .int a5, .int a6, px_u, px_u, px_u, px_u] [] ph (px_qI r ph') := by
  intro n
  induction n with
  | zero => intro _ _ _ _ _ _ _ _ _ _ h; cases h
  | succ n ih =>
    intro a0 a1 a2 a3 a4 a5 a6 ph r ph' h
    unfold f_M_named_403 at h
    refine px_ld rfl rfl rfl rfl rfl ?_
    refine px_ic (k := 3) rfl rfl rfl ?_
    refine px_icge rfl (by decide) rfl (fun hc => ?_) (fun hc => ?_)
    · replace h := (if_pos hc).symm.trans h
      refine px_forget (n := 6) (lv' := [_, _, _, _, _, _, _, _, _, _, _]) rfl ?_
      exact (r_M_named_443 h :)
    · replace h := (if_neg hc).symm.trans h
      refine px_ld rfl rfl rfl rfl rfl ?_
      obtain ⟨t1, h0, h⟩ := xs_some h
      obtain ⟨fs, e1, e2⟩ := xgR_some h0
      refine px_get rfl e1 e2 rfl ?_
      refine px_ld rfl rfl rfl rfl rfl ?_
      obtain ⟨t2, h0, h⟩ := xs_some h
      obtain ⟨N, f, e1, e2, e3⟩ := xaI_some h0
      subst e3
      refine px_zald rfl e1 rfl e2 rfl ?_
      refine px_ifeq rfl (by decide) rfl (fun hc => ?_) (fun hc => ?_)
      · replace h := (if_pos hc).symm.trans h
        exact (r_M_named_437 @ih h :)
      · replace h := (if_neg hc).symm.trans h
        refine px_ld rfl rfl rfl rfl rfl ?_
        refine px_ld rfl rfl rfl rfl rfl ?_
        refine px_ic (k := 64) rfl rfl rfl ?_
        refine px_ld rfl rfl rfl rfl rfl ?_
        refine px_ld rfl rfl rfl rfl rfl ?_
        obtain ⟨fs, h0, h⟩ := xs_some h
        have e1 := xo_some h0
        obtain ⟨t3, ph4, h0, h⟩ := xb_some h
        refine px_cV1 rfl rfl e1 rfl rfl rfl rfl rfl rfl rfl (r_M_numberOf h0 :) (fun _ _ q => nomatch q.2) (fun r ph' q => ?_)
        obtain ⟨rfl, q⟩ := q
        cases q
        refine px_alu rfl rfl rfl ?_
        refine px_alu rfl rfl rfl ?_
        refine px_ld rfl rfl rfl rfl rfl ?_
        obtain ⟨fs, h0, h⟩ := xs_some h
        have e1 := xo_some h0
        obtain ⟨u0, ph5, h0, h⟩ := xb_some h
        refine px_cV2 rfl rfl e1 rfl rfl rfl rfl rfl rfl rfl (r_M_namedSegment h0 :) (fun _ _ q => nomatch q.2) (fun r ph' q => ?_)
        obtain ⟨rfl, q⟩ := q
        cases q
        exact (r_M_named_437 @ih h :)
def f_M_named_400 (F : Nat) (a0 : Nat) (a1 : Int32) (a2 : Int32) (a3 : Int32) (a4 : Int32) (a5 : Int32) (ph : px_H) : Option (Int32 × px_H) :=
  f_M_named_403 F F a0 a1 a2 a3 a4 a5 (nI 0) ph
theorem r_M_named_400 {l : Launch} {g : px_G} {d F : Nat} {a0 : Nat} {a1 : Int32} {a2 : Int32} {a3 : Int32} {a4 : Int32} {a5 : Int32} {ph : px_H} {r : Int32} {ph' : px_H} (h : f_M_named_400 F a0 a1 a2 a3 a4 a5 ph = some (r, ph')) : PW l g (d + 2) m_M_named 400 [.ref a0, .int a1, .int a2, .int a3, .int a4, .int a5, px_u, px_u, px_u, px_u, px_u] [] ph (px_qI r ph') := by
  unfold f_M_named_400 at h
  refine px_ic (k := 0) rfl rfl rfl ?_
  refine px_st (lv' := [_, _, _, _, _, _, _, _, _, _, _]) rfl rfl rfl rfl rfl rfl rfl ?_
  exact (r_M_named_403 _ h :)
def f_M_named_382 (F : Nat) (k167 : Nat → Int32 → Int32 → Int32 → Int32 → Int32 → Int32 → px_H → Option (Int32 × px_H)) (a0 : Nat) (a1 : Int32) (a2 : Int32) (a3 : Int32) (a4 : Int32) (a5 : Int32) (a6 : Int32) (a7 : Int32) (ph : px_H) : Option (Int32 × px_H) :=
  (xgR ph 12 22 a0).bind fun t1 =>
  (xaI ph 1 t1 a7).bind fun t2 =>
  k167 a0 (a1 + (t2 + (nI 1))) a2 a3 a4 a5 (a6 + nI 1) ph
theorem r_M_named_382 {l : Launch} {g : px_G} {d F : Nat} {k167 : Nat → Int32 → Int32 → Int32 → Int32 → Int32 → Int32 → px_H → Option (Int32 × px_H)} (hk167 : ∀ {a0 : Nat} {a1 : Int32} {a2 : Int32} {a3 : Int32} {a4 : Int32} {a5 : Int32} {a6 : Int32} {ph : px_H} {r : Int32} {ph' : px_H}, k167 a0 a1 a2 a3 a4 a5 a6 ph = some (r, ph') → PW l g (d + 2) m_M_named 167 [.ref a0, .int a1, .int a2, .int a3, .int a4, .int a5, .int a6, px_u, px_u, px_u, px_u] [] ph (px_qI r ph')) {a0 : Nat} {a1 : Int32} {a2 : Int32} {a3 : Int32} {a4 : Int32} {a5 : Int32} {a6 : Int32} {a7 : Int32} {ph : px_H} {r : Int32} {ph' : px_H} (h : f_M_named_382 F k167 a0 a1 a2 a3 a4 a5 a6 a7 ph = some (r, ph')) : PW l g (d + 2) m_M_named 382 [.ref a0, .int a1, .int a2, .int a3, .int a4, .int a5, .int a6, .int a7, px_u, px_u, px_u] [] ph (px_qI r ph') := by
  unfold f_M_named_382 at h
  refine px_ld rfl rfl rfl rfl rfl ?_
  refine px_ld rfl rfl rfl rfl rfl ?_
  obtain ⟨t1, h0, h⟩ := xs_some h
  obtain ⟨fs, e1, e2⟩ := xgR_some h0
  refine px_get rfl e1 e2 rfl ?_
  refine px_ld rfl rfl rfl rfl rfl ?_
  obtain ⟨t2, h0, h⟩ := xs_some h
  obtain ⟨N, f, e1, e2, e3⟩ := xaI_some h0
  subst e3
  refine px_iald rfl e1 rfl e2 rfl ?_
  refine px_ic (k := 1) rfl rfl rfl ?_
  refine px_alu rfl rfl rfl ?_
  refine px_alu rfl rfl rfl ?_
  refine px_st (lv' := [_, _, _, _, _, _, _, _, _, _, _]) rfl rfl rfl rfl rfl rfl rfl ?_
  refine px_iinc (lv' := [_, _, _, _, _, _, _, _, _, _, _]) rfl rfl rfl rfl rfl rfl ?_
  refine px_goto rfl (by decide) rfl ?_
  refine px_forget (n := 7) (lv' := [_, _, _, _, _, _, _, _, _, _, _]) rfl ?_
  exact (hk167 h :)
def f_M_named_340 (F : Nat) (k167 : Nat → Int32 → Int32 → Int32 → Int32 → Int32 → Int32 → px_H → Option (Int32 × px_H)) : Nat → Nat → Int32 → Int32 → Int32 → Int32 → Int32 → Int32 → Int32 → Int32 → px_H → Option (Int32 × px_H)
  | 0, _, _, _, _, _, _, _, _, _, _ => none
  | n + 1, a0, a1, a2, a3, a4, a5, a6, a7, a10, ph =>
    (xgR ph 12 22 a0).bind fun t1 =>
    (xaI ph 1 t1 a7).bind fun t2 =>
    if t2 ≤ a10 then
      f_M_named_382 F k167 a0 a1 a2 a3 a4 a5 a6 a7 ph
    else
      (xgR ph 12 3 a0).bind fun t3 =>
      (xgR ph 12 21 a0).bind fun t4 =>
      (xaI ph 0 t4 (((nI 20) * a7) + a10)).bind fun t5 =>
      (xsI ph 0 t3 ((a3 + a1) + a10) (t5.toInt8.toInt32)).bind fun ph6 =>
      f_M_named_340 F k167 n a0 a1 a2 a3 a4 a5 a6 a7 (a10 + nI 1) ph6
theorem r_M_named_340 {l : Launch} {g : px_G} {d F : Nat} {k167 : Nat → Int32 → Int32 → Int32 → Int32 → Int32 → Int32 → px_H → Option (Int32 × px_H)} (hk167 : ∀ {a0 : Nat} {a1 : Int32} {a2 : Int32} {a3 : Int32} {a4 : Int32} {a5 : Int32} {a6 : Int32} {ph : px_H} {r : Int32} {ph' : px_H}, k167 a0 a1 a2 a3 a4 a5 a6 ph = some (r, ph') → PW l g (d + 2) m_M_named 167 [.ref a0, .int a1, .int a2, .int a3, .int a4, .int a5, .int a6, px_u, px_u, px_u, px_u] [] ph (px_qI r ph')) : ∀ (n : Nat) {a0 : Nat} {a1 : Int32} {a2 : Int32} {a3 : Int32} {a4 : Int32} {a5 : Int32} {a6 : Int32} {a7 : Int32} {a10 : Int32} {ph : px_H} {r : Int32} {ph' : px_H}, f_M_named_340 F k167 n a0 a1 a2 a3 a4 a5 a6 a7 a10 ph = some (r, ph') → PW l g (d + 2) m_M_named 340 [.ref a0, .int a1, .int a2, .int a3, .int a4, .int a5, .int a6, .int a7, px_u, px_u, .int a10] [] ph (px_qI r ph') := by
  intro n
  induction n with
  | zero => intro _ _ _ _ _ _ _ _ _ _ _ _ h; cases h
  | succ n ih =>
    intro a0 a1 a2 a3 a4 a5 a6 a7 a10 ph r ph' h
    unfold f_M_named_340 at h
    refine px_ld rfl rfl rfl rfl rfl ?_
    refine px_ld rfl rfl rfl rfl rfl ?_
    obtain ⟨t1, h0, h⟩ := xs_some h
    obtain ⟨fs, e1, e2⟩ := xgR_some h0
    refine px_get rfl e1 e2 rfl ?_
    refine px_ld rfl rfl rfl rfl rfl ?_
    obtain ⟨t2, h0, h⟩ := xs_some h
    obtain ⟨N, f, e1, e2, e3⟩ := xaI_some h0
    subst e3
    refine px_iald rfl e1 rfl e2 rfl ?_
    refine px_icge rfl (by decide) rfl (fun hc => ?_) (fun hc => ?_)
    · replace h := (if_pos hc).symm.trans h
      refine px_forget (n := 10) (lv' := [_, _, _, _, _, _, _, _, _, _, _]) rfl ?_
      exact (r_M_named_382 @hk167 h :)
    · replace h := (if_neg hc).symm.trans h
      refine px_ld rfl rfl rfl rfl rfl ?_
      obtain ⟨t3, h0, h⟩ := xs_some h
      obtain ⟨fs, e1, e2⟩ := xgR_some h0
      refine px_get rfl e1 e2 rfl ?_
      refine px_ld rfl rfl rfl rfl rfl ?_
      refine px_ld rfl rfl rfl rfl rfl ?_
      refine px_alu rfl rfl rfl ?_
      refine px_ld rfl rfl rfl rfl rfl ?_
      refine px_alu rfl rfl rfl ?_
      refine px_ld rfl rfl rfl rfl rfl ?_
      obtain ⟨t4, h0, h⟩ := xs_some h
      obtain ⟨fs, e1, e2⟩ := xgR_some h0
      refine px_get rfl e1 e2 rfl ?_
      refine px_ic (k := 20) rfl rfl rfl ?_
      refine px_ld rfl rfl rfl rfl rfl ?_
      refine px_alu rfl rfl rfl ?_
      refine px_ld rfl rfl rfl rfl rfl ?_
      refine px_alu rfl rfl rfl ?_
      obtain ⟨t5, h0, h⟩ := xs_some h
      obtain ⟨N, f, e1, e2, e3⟩ := xaI_some h0
      subst e3
      refine px_bald rfl e1 rfl e2 rfl ?_
      obtain ⟨ph6, h0, h⟩ := xs_some h
      obtain ⟨N, f, e1, e2, e3⟩ := xsI_some h0
      subst e3
      refine px_bast rfl e1 rfl e2 rfl ?_
      refine px_iinc (lv' := [_, _, _, _, _, _, _, _, _, _, _]) rfl rfl rfl rfl rfl rfl ?_
      refine px_goto rfl (by decide) rfl ?_
      exact (ih h :)
def f_M_named_297 (F : Nat) (k167 : Nat → Int32 → Int32 → Int32 → Int32 → Int32 → Int32 → px_H → Option (Int32 × px_H)) (a0 : Nat) (a1 : Int32) (a2 : Int32) (a3 : Int32) (a4 : Int32) (a5 : Int32) (a6 : Int32) (a7 : Int32) (a8 : Int32) (s0 : Nat) (s1 : Int32) (s2 : Int64) (ph : px_H) : Option (Int32 × px_H) :=
  (xo ph 12 s0).bind fun _ =>
  xb (f_M_put F s0 s1 s2 (nI 2) ph) fun _ ph1 =>
  (xgR ph1 12 29 a0).bind fun t2 =>
  (xaJ ph1 2 t2 a7).bind fun t3 =>
  (xo ph1 12 a0).bind fun _ =>
  xb (f_M_put F a0 (a8 + (nI 8)) t3 (nI 8) ph1) fun _ ph4 =>
  (xgR ph4 12 41 a0).bind fun t5 =>
  (xaJ ph4 2 t5 a7).bind fun t6 =>
  (xo ph4 12 a0).bind fun _ =>
  xb (f_M_put F a0 (a8 + (nI 16)) t6 (nI 8) ph4) fun _ ph7 =>
  f_M_named_340 F k167 F a0 a1 a2 a3 a4 a5 a6 a7 (nI 0) ph7
theorem r_M_named_297 {l : Launch} {g : px_G} {d F : Nat} {k167 : Nat → Int32 → Int32 → Int32 → Int32 → Int32 → Int32 → px_H → Option (Int32 × px_H)} (hk167 : ∀ {a0 : Nat} {a1 : Int32} {a2 : Int32} {a3 : Int32} {a4 : Int32} {a5 : Int32} {a6 : Int32} {ph : px_H} {r : Int32} {ph' : px_H}, k167 a0 a1 a2 a3 a4 a5 a6 ph = some (r, ph') → PW l g (d + 2) m_M_named 167 [.ref a0, .int a1, .int a2, .int a3, .int a4, .int a5, .int a6, px_u, px_u, px_u, px_u] [] ph (px_qI r ph')) {a0 : Nat} {a1 : Int32} {a2 : Int32} {a3 : Int32} {a4 : Int32} {a5 : Int32} {a6 : Int32} {a7 : Int32} {a8 : Int32} {s0 : Nat} {s1 : Int32} {s2 : Int64} {ph : px_H} {r : Int32} {ph' : px_H} (h : f_M_named_297 F k167 a0 a1 a2 a3 a4 a5 a6 a7 a8 s0 s1 s2 ph = some (r, ph')) : PW l g (d + 2) m_M_named 297 [.ref a0, .int a1, .int a2, .int a3, .int a4, .int a5, .int a6, .int a7, .int a8, px_u, px_u] [.long s2, .int s1, .ref s0] ph (px_qI r ph') := by
  unfold f_M_named_297 at h
  refine px_ic (k := 2) rfl rfl rfl ?_
  obtain ⟨fs, h0, h⟩ := xs_some h
  have e1 := xo_some h0
  obtain ⟨u0, ph1, h0, h⟩ := xb_some h
  refine px_cV3 rfl rfl e1 rfl rfl rfl rfl rfl rfl rfl (r_M_put h0 :) (fun _ _ q => nomatch q.2) (fun r ph' q => ?_)
  obtain ⟨rfl, q⟩ := q
  cases q
  refine px_ld rfl rfl rfl rfl rfl ?_
  refine px_ld rfl rfl rfl rfl rfl ?_
  refine px_ic (k := 8) rfl rfl rfl ?_
  refine px_alu rfl rfl rfl ?_
  refine px_ld rfl rfl rfl rfl rfl ?_
  obtain ⟨t2, h0, h⟩ := xs_some h
  obtain ⟨fs, e1, e2⟩ := xgR_some h0
  refine px_get rfl e1 e2 rfl ?_
  refine px_ld rfl rfl rfl rfl rfl ?_
  obtain ⟨t3, h0, h⟩ := xs_some h
  obtain ⟨N, f, e1, e2, e3⟩ := xaJ_some h0
  subst e3
  refine px_lald rfl e1 rfl e2 rfl ?_
  refine px_ic (k := 8) rfl rfl rfl ?_
  obtain ⟨fs, h0, h⟩ := xs_some h
  have e1 := xo_some h0
  obtain ⟨u0, ph4, h0, h⟩ := xb_some h
  refine px_cV3 rfl rfl e1 rfl rfl rfl rfl rfl rfl rfl (r_M_put h0 :) (fun _ _ q => nomatch q.2) (fun r ph' q => ?_)
  obtain ⟨rfl, q⟩ := q
  cases q
  refine px_ld rfl rfl rfl rfl rfl ?_
  refine px_ld rfl rfl rfl rfl rfl ?_
  refine px_ic (k := 16) rfl rfl rfl ?_
  refine px_alu rfl rfl rfl ?_
  refine px_ld rfl rfl rfl rfl rfl ?_
  obtain ⟨t5, h0, h⟩ := xs_some h
  obtain ⟨fs, e1, e2⟩ := xgR_some h0
  refine px_get rfl e1 e2 rfl ?_
  refine px_ld rfl rfl rfl rfl rfl ?_
  obtain ⟨t6, h0, h⟩ := xs_some h
  obtain ⟨N, f, e1, e2, e3⟩ := xaJ_some h0
  subst e3
  refine px_lald rfl e1 rfl e2 rfl ?_
  refine px_ic (k := 8) rfl rfl rfl ?_
  obtain ⟨fs, h0, h⟩ := xs_some h
  have e1 := xo_some h0
  obtain ⟨u0, ph7, h0, h⟩ := xb_some h
  refine px_cV3 rfl rfl e1 rfl rfl rfl rfl rfl rfl rfl (r_M_put h0 :) (fun _ _ q => nomatch q.2) (fun r ph' q => ?_)
  obtain ⟨rfl, q⟩ := q
  cases q
  refine px_ic (k := 0) rfl rfl rfl ?_
  refine px_st (lv' := [_, _, _, _, _, _, _, _, _, _, _]) rfl rfl rfl rfl rfl rfl rfl ?_
  refine px_forget (n := 8) (lv' := [_, _, _, _, _, _, _, _, _, _, _]) rfl ?_
  exact (r_M_named_340 @hk167 _ h :)
def f_M_named_240 (F : Nat) (k167 : Nat → Int32 → Int32 → Int32 → Int32 → Int32 → Int32 → px_H → Option (Int32 × px_H)) (a0 : Nat) (a1 : Int32) (a2 : Int32) (a3 : Int32) (a4 : Int32) (a5 : Int32) (a6 : Int32) (a7 : Int32) (a8 : Int32) (s0 : Int32) (ph : px_H) : Option (Int32 × px_H) :=
  (xo ph 12 a0).bind fun _ =>
  xb (f_M_put F a0 a8 a1.toInt64 (nI 4) ph) fun _ ph1 =>
  (xgR ph1 12 38 a0).bind fun t2 =>
  (xaI ph1 1 t2 a7).bind fun t3 =>
  (xo ph1 12 a0).bind fun _ =>
  xb (f_M_put F a0 (a8 + (nI 4)) t3.toInt64 (nI 1) ph1) fun _ ph4 =>
  if s0 = 0 then
    f_M_named_297 F k167 a0 a1 a2 a3 a4 a5 a6 a7 a8 a0 (a8 + (nI 6)) ((65521 : Int64)) ph4
  else
    (xgR ph4 12 39 a0).bind fun t5 =>
    (xaI ph4 1 t5 a7).bind fun t6 =>
    (xo ph4 12 a0).bind fun _ =>
    xb (f_M_numberOf F a0 t6 ph4) fun t7 ph8 =>
    f_M_named_297 F k167 a0 a1 a2 a3 a4 a5 a6 a7 a8 a0 (a8 + (nI 6)) t7.toInt64 ph8
theorem r_M_named_240 {l : Launch} {g : px_G} {d F : Nat} {k167 : Nat → Int32 → Int32 → Int32 → Int32 → Int32 → Int32 → px_H → Option (Int32 × px_H)} (hk167 : ∀ {a0 : Nat} {a1 : Int32} {a2 : Int32} {a3 : Int32} {a4 : Int32} {a5 : Int32} {a6 : Int32} {ph : px_H} {r : Int32} {ph' : px_H}, k167 a0 a1 a2 a3 a4 a5 a6 ph = some (r, ph') → PW l g (d + 2) m_M_named 167 [.ref a0, .int a1, .int a2, .int a3, .int a4, .int a5, .int a6, px_u, px_u, px_u, px_u] [] ph (px_qI r ph')) {a0 : Nat} {a1 : Int32} {a2 : Int32} {a3 : Int32} {a4 : Int32} {a5 : Int32} {a6 : Int32} {a7 : Int32} {a8 : Int32} {s0 : Int32} {ph : px_H} {r : Int32} {ph' : px_H} (h : f_M_named_240 F k167 a0 a1 a2 a3 a4 a5 a6 a7 a8 s0 ph = some (r, ph')) : PW l g (d + 2) m_M_named 240 [.ref a0, .int a1, .int a2, .int a3, .int a4, .int a5, .int a6, .int a7, .int a8, px_u, px_u] [.int s0] ph (px_qI r ph') := by
  unfold f_M_named_240 at h
  refine px_st (lv' := [_, _, _, _, _, _, _, _, _, _, _]) rfl rfl rfl rfl rfl rfl rfl ?_
  refine px_ld rfl rfl rfl rfl rfl ?_
  refine px_ld rfl rfl rfl rfl rfl ?_
  refine px_ld rfl rfl rfl rfl rfl ?_
  refine px_alu rfl rfl rfl ?_
  refine px_ic (k := 4) rfl rfl rfl ?_
  obtain ⟨fs, h0, h⟩ := xs_some h
  have e1 := xo_some h0
  obtain ⟨u0, ph1, h0, h⟩ := xb_some h
  refine px_cV3 rfl rfl e1 rfl rfl rfl rfl rfl rfl rfl (r_M_put h0 :) (fun _ _ q => nomatch q.2) (fun r ph' q => ?_)
  obtain ⟨rfl, q⟩ := q
  cases q
  refine px_ld rfl rfl rfl rfl rfl ?_
  refine px_ld rfl rfl rfl rfl rfl ?_
  refine px_ic (k := 4) rfl rfl rfl ?_
  refine px_alu rfl rfl rfl ?_
  refine px_ld rfl rfl rfl rfl rfl ?_
  obtain ⟨t2, h0, h⟩ := xs_some h
  obtain ⟨fs, e1, e2⟩ := xgR_some h0
  refine px_get rfl e1 e2 rfl ?_
  refine px_ld rfl rfl rfl rfl rfl ?_
  obtain ⟨t3, h0, h⟩ := xs_some h
  obtain ⟨N, f, e1, e2, e3⟩ := xaI_some h0
  subst e3
  refine px_iald rfl e1 rfl e2 rfl ?_
  refine px_alu rfl rfl rfl ?_
  refine px_ic (k := 1) rfl rfl rfl ?_
  obtain ⟨fs, h0, h⟩ := xs_some h
  have e1 := xo_some h0
  obtain ⟨u0, ph4, h0, h⟩ := xb_some h
  refine px_cV3 rfl rfl e1 rfl rfl rfl rfl rfl rfl rfl (r_M_put h0 :) (fun _ _ q => nomatch q.2) (fun r ph' q => ?_)
  obtain ⟨rfl, q⟩ := q
  cases q
  refine px_ld rfl rfl rfl rfl rfl ?_
  refine px_ld rfl rfl rfl rfl rfl ?_
  refine px_ic (k := 6) rfl rfl rfl ?_
  refine px_alu rfl rfl rfl ?_
  refine px_ld rfl rfl rfl rfl rfl ?_
  refine px_ifeq rfl (by decide) rfl (fun hc => ?_) (fun hc => ?_)
  · replace h := (if_pos hc).symm.trans h
    refine px_ldc2 rfl rfl rfl ?_
    refine px_forget (n := 9) (lv' := [_, _, _, _, _, _, _, _, _, _, _]) rfl ?_
    exact (r_M_named_297 @hk167 h :)
  · replace h := (if_neg hc).symm.trans h
    refine px_ld rfl rfl rfl rfl rfl ?_
    refine px_ld rfl rfl rfl rfl rfl ?_
    obtain ⟨t5, h0, h⟩ := xs_some h
    obtain ⟨fs, e1, e2⟩ := xgR_some h0
    refine px_get rfl e1 e2 rfl ?_
    refine px_ld rfl rfl rfl rfl rfl ?_
    obtain ⟨t6, h0, h⟩ := xs_some h
    obtain ⟨N, f, e1, e2, e3⟩ := xaI_some h0
    subst e3
    refine px_iald rfl e1 rfl e2 rfl ?_
    obtain ⟨fs, h0, h⟩ := xs_some h
    have e1 := xo_some h0
    obtain ⟨t7, ph8, h0, h⟩ := xb_some h
    refine px_cV1 rfl rfl e1 rfl rfl rfl rfl rfl rfl rfl (r_M_numberOf h0 :) (fun _ _ q => nomatch q.2) (fun r ph' q => ?_)
    obtain ⟨rfl, q⟩ := q
    cases q
    refine px_alu rfl rfl rfl ?_
    refine px_goto rfl (by decide) rfl ?_
    refine px_forget (n := 9) (lv' := [_, _, _, _, _, _, _, _, _, _, _]) rfl ?_
    exact (r_M_named_297 @hk167 h :)
def f_M_named_239 (F : Nat) (k167 : Nat → Int32 → Int32 → Int32 → Int32 → Int32 → Int32 → px_H → Option (Int32 × px_H)) (a0 : Nat) (a1 : Int32) (a2 : Int32) (a3 : Int32) (a4 : Int32) (a5 : Int32) (a6 : Int32) (a7 : Int32) (a8 : Int32) (ph : px_H) : Option (Int32 × px_H) :=
  f_M_named_240 F k167 a0 a1 a2 a3 a4 a5 a6 a7 a8 (nI 0) ph
theorem r_M_named_239 {l : Launch} {g : px_G} {d F : Nat} {k167 : Nat → Int32 → Int32 → Int32 → Int32 → Int32 → Int32 → px_H → Option (Int32 × px_H)} (hk167 : ∀ {a0 : Nat} {a1 : Int32} {a2 : Int32} {a3 : Int32} {a4 : Int32} {a5 : Int32} {a6 : Int32} {ph : px_H} {r : Int32} {ph' : px_H}, k167 a0 a1 a2 a3 a4 a5 a6 ph = some (r, ph') → PW l g (d + 2) m_M_named 167 [.ref a0, .int a1, .int a2, .int a3, .int a4, .int a5, .int a6, px_u, px_u, px_u, px_u] [] ph (px_qI r ph')) {a0 : Nat} {a1 : Int32} {a2 : Int32} {a3 : Int32} {a4 : Int32} {a5 : Int32} {a6 : Int32} {a7 : Int32} {a8 : Int32} {ph : px_H} {r : Int32} {ph' : px_H} (h : f_M_named_239 F k167 a0 a1 a2 a3 a4 a5 a6 a7 a8 ph = some (r, ph')) : PW l g (d + 2) m_M_named 239 [.ref a0, .int a1, .int a2, .int a3, .int a4, .int a5, .int a6, .int a7, .int a8, px_u, px_u] [] ph (px_qI r ph') := by
  unfold f_M_named_239 at h
  refine px_ic (k := 0) rfl rfl rfl ?_
  exact (r_M_named_240 @hk167 h :)
def f_M_named_231 (F : Nat) (k167 : Nat → Int32 → Int32 → Int32 → Int32 → Int32 → Int32 → px_H → Option (Int32 × px_H)) (a0 : Nat) (a1 : Int32) (a2 : Int32) (a3 : Int32) (a4 : Int32) (a5 : Int32) (a6 : Int32) (a7 : Int32) (a8 : Int32) (s0 : Nat) (s1 : Int32) (ph : px_H) : Option (Int32 × px_H) :=
  (xaI ph 3 s0 s1).bind fun t1 =>
  if t1 = 0 then
    f_M_named_239 F k167 a0 a1 a2 a3 a4 a5 a6 a7 a8 ph
  else
    f_M_named_240 F k167 a0 a1 a2 a3 a4 a5 a6 a7 a8 (nI 1) ph
theorem r_M_named_231 {l : Launch} {g : px_G} {d F : Nat} {k167 : Nat → Int32 → Int32 → Int32 → Int32 → Int32 → Int32 → px_H → Option (Int32 × px_H)} (hk167 : ∀ {a0 : Nat} {a1 : Int32} {a2 : Int32} {a3 : Int32} {a4 : Int32} {a5 : Int32} {a6 : Int32} {ph : px_H} {r : Int32} {ph' : px_H}, k167 a0 a1 a2 a3 a4 a5 a6 ph = some (r, ph') → PW l g (d + 2) m_M_named 167 [.ref a0, .int a1, .int a2, .int a3, .int a4, .int a5, .int a6, px_u, px_u, px_u, px_u] [] ph (px_qI r ph')) {a0 : Nat} {a1 : Int32} {a2 : Int32} {a3 : Int32} {a4 : Int32} {a5 : Int32} {a6 : Int32} {a7 : Int32} {a8 : Int32} {s0 : Nat} {s1 : Int32} {ph : px_H} {r : Int32} {ph' : px_H} (h : f_M_named_231 F k167 a0 a1 a2 a3 a4 a5 a6 a7 a8 s0 s1 ph = some (r, ph')) : PW l g (d + 2) m_M_named 231 [.ref a0, .int a1, .int a2, .int a3, .int a4, .int a5, .int a6, .int a7, .int a8, px_u, px_u] [.int s1, .ref s0] ph (px_qI r ph') := by
  unfold f_M_named_231 at h
  obtain ⟨t1, h0, h⟩ := xs_some h
  obtain ⟨N, f, e1, e2, e3⟩ := xaI_some h0
  subst e3
  refine px_zald rfl e1 rfl e2 rfl ?_
  refine px_ifeq rfl (by decide) rfl (fun hc => ?_) (fun hc => ?_)
  · replace h := (if_pos hc).symm.trans h
    exact (r_M_named_239 @hk167 h :)
  · replace h := (if_neg hc).symm.trans h
    refine px_ic (k := 1) rfl rfl rfl ?_
    refine px_goto rfl (by decide) rfl ?_
    exact (r_M_named_240 @hk167 h :)
def f_M_named_167 (F : Nat) : Nat → Nat → Int32 → Int32 → Int32 → Int32 → Int32 → Int32 → px_H → Option (Int32 × px_H)
  | 0, _, _, _, _, _, _, _, _ => none
  | n + 1, a0, a1, a2, a3, a4, a5, a6, ph =>
    (xgI ph 12 48 a0).bind fun t1 =>
    if t1 ≤ a6 then
      f_M_named_400 F a0 a1 a2 a3 a4 a5 ph
    else
      (xgR ph 12 49 a0).bind fun t2 =>
      (xaI ph 1 t2 a6).bind fun t3 =>
      (xgR ph 12 39 a0).bind fun t4 =>
      (xaI ph 1 t4 t3).bind fun t5 =>
      if t5 < 0 then
        f_M_named_239 F (f_M_named_167 F n) a0 a1 a2 a3 a4 a5 a6 t3 (a2 + ((nI 24) * (a6 + (nI 1)))) ph
      else
        (xgR ph 12 59 a0).bind fun t6 =>
        (xgR ph 12 39 a0).bind fun t7 =>
        (xaI ph 1 t7 t3).bind fun t8 =>
        if 0 ≤ t8 then
          (xgR ph 12 39 a0).bind fun t9 =>
          (xaI ph 1 t9 t3).bind fun t10 =>
          f_M_named_231 F (f_M_named_167 F n) a0 a1 a2 a3 a4 a5 a6 t3 (a2 + ((nI 24) * (a6 + (nI 1)))) t6 t10 ph
        else
          f_M_named_231 F (f_M_named_167 F n) a0 a1 a2 a3 a4 a5 a6 t3 (a2 + ((nI 24) * (a6 + (nI 1)))) t6 (nI 0) ph
theorem r_M_named_167 {l : Launch} {g : px_G} {d F : Nat} : ∀ (n : Nat) {a0 : Nat} {a1 : Int32} {a2 : Int32} {a3 : Int32} {a4 : Int32} {a5 : Int32} {a6 : Int32} {ph : px_H} {r : Int32} {ph' : px_H}, f_M_named_167 F n a0 a1 a2 a3 a4 a5 a6 ph = some (r, ph') → PW l g (d + 2) m_M_named 167 [.ref a0, .int a1, .int a2, .int a3, .int a4, .int a5, .int a6, px_u, px_u, px_u, px_u] [] ph (px_qI r ph') := by
  intro n
  induction n with
  | zero => intro _ _ _ _ _ _ _ _ _ _ h; cases h
  | succ n ih =>
    intro a0 a1 a2 a3 a4 a5 a6 ph r ph' h
    unfold f_M_named_167 at h
    refine px_ld rfl rfl rfl rfl rfl ?_
    refine px_ld rfl rfl rfl rfl rfl ?_
    obtain ⟨t1, h0, h⟩ := xs_some h
    obtain ⟨fs, e1, e2⟩ := xgI_some h0
    refine px_get rfl e1 e2 rfl ?_
    refine px_icge rfl (by decide) rfl (fun hc => ?_) (fun hc => ?_)
    · replace h := (if_pos hc).symm.trans h
      refine px_forget (n := 6) (lv' := [_, _, _, _, _, _, _, _, _, _, _]) rfl ?_
      exact (r_M_named_400 h :)
    · replace h := (if_neg hc).symm.trans h
      refine px_ld rfl rfl rfl rfl rfl ?_
      obtain ⟨t2, h0, h⟩ := xs_some h
      obtain ⟨fs, e1, e2⟩ := xgR_some h0
      refine px_get rfl e1 e2 rfl ?_
      refine px_ld rfl rfl rfl rfl rfl ?_
      obtain ⟨t3, h0, h⟩ := xs_some h
      obtain ⟨N, f, e1, e2, e3⟩ := xaI_some h0
      subst e3
      refine px_iald rfl e1 rfl e2 rfl ?_
      refine px_st (lv' := [_, _, _, _, _, _, _, _, _, _, _]) rfl rfl rfl rfl rfl rfl rfl ?_
      refine px_ld rfl rfl rfl rfl rfl ?_
      refine px_ic (k := 24) rfl rfl rfl ?_
      refine px_ld rfl rfl rfl rfl rfl ?_
      refine px_ic (k := 1) rfl rfl rfl ?_
      refine px_alu rfl rfl rfl ?_
      refine px_alu rfl rfl rfl ?_
      refine px_alu rfl rfl rfl ?_
      refine px_st (lv' := [_, _, _, _, _, _, _, _, _, _, _]) rfl rfl rfl rfl rfl rfl rfl ?_
      refine px_ld rfl rfl rfl rfl rfl ?_
      obtain ⟨t4, h0, h⟩ := xs_some h
      obtain ⟨fs, e1, e2⟩ := xgR_some h0
      refine px_get rfl e1 e2 rfl ?_
      refine px_ld rfl rfl rfl rfl rfl ?_
      obtain ⟨t5, h0, h⟩ := xs_some h
      obtain ⟨N, f, e1, e2, e3⟩ := xaI_some h0
      subst e3
      refine px_iald rfl e1 rfl e2 rfl ?_
      refine px_iflt rfl (by decide) rfl (fun hc => ?_) (fun hc => ?_)
      · replace h := (if_pos hc).symm.trans h
        exact (r_M_named_239 @ih h :)
      · replace h := (if_neg hc).symm.trans h
        refine px_ld rfl rfl rfl rfl rfl ?_
        obtain ⟨t6, h0, h⟩ := xs_some h
        obtain ⟨fs, e1, e2⟩ := xgR_some h0
        refine px_get rfl e1 e2 rfl ?_
        refine px_ld rfl rfl rfl rfl rfl ?_
        obtain ⟨t7, h0, h⟩ := xs_some h
        obtain ⟨fs, e1, e2⟩ := xgR_some h0
        refine px_get rfl e1 e2 rfl ?_
        refine px_ld rfl rfl rfl rfl rfl ?_
        obtain ⟨t8, h0, h⟩ := xs_some h
        obtain ⟨N, f, e1, e2, e3⟩ := xaI_some h0
        subst e3
        refine px_iald rfl e1 rfl e2 rfl ?_
        refine px_ifge rfl (by decide) rfl (fun hc => ?_) (fun hc => ?_)
        · replace h := (if_pos hc).symm.trans h
          refine px_ld rfl rfl rfl rfl rfl ?_
          obtain ⟨t9, h0, h⟩ := xs_some h
          obtain ⟨fs, e1, e2⟩ := xgR_some h0
          refine px_get rfl e1 e2 rfl ?_
          refine px_ld rfl rfl rfl rfl rfl ?_
          obtain ⟨t10, h0, h⟩ := xs_some h
          obtain ⟨N, f, e1, e2, e3⟩ := xaI_some h0
          subst e3
          refine px_iald rfl e1 rfl e2 rfl ?_
          exact (r_M_named_231 @ih h :)
        · replace h := (if_neg hc).symm.trans h
          refine px_ic (k := 0) rfl rfl rfl ?_
          refine px_goto rfl (by decide) rfl ?_
          exact (r_M_named_231 @ih h :)
def f_M_named_156 (F : Nat) (a0 : Nat) (a2 : Int32) (a3 : Int32) (a4 : Int32) (a5 : Int32) (ph : px_H) : Option (Int32 × px_H) :=
  (xpI ph 12 4 a0 a5).bind fun ph1 =>
  f_M_named_167 F F a0 (nI 1) a2 a3 a4 a5 (nI 0) ph1
theorem r_M_named_156 {l : Launch} {g : px_G} {d F : Nat} {a0 : Nat} {a2 : Int32} {a3 : Int32} {a4 : Int32} {a5 : Int32} {ph : px_H} {r : Int32} {ph' : px_H} (h : f_M_named_156 F a0 a2 a3 a4 a5 ph = some (r, ph')) : PW l g (d + 2) m_M_named 156 [.ref a0, px_u, .int a2, .int a3, .int a4, .int a5, px_u, px_u, px_u, px_u, px_u] [] ph (px_qI r ph') := by
  unfold f_M_named_156 at h
  refine px_ld rfl rfl rfl rfl rfl ?_
  refine px_ld rfl rfl rfl rfl rfl ?_
  obtain ⟨ph1, h0, h⟩ := xs_some h
  obtain ⟨fs, e1, e2, e3⟩ := xpI_some h0
  subst e3
  refine px_put rfl e1 e2 trivial rfl ?_
  refine px_ic (k := 1) rfl rfl rfl ?_
  refine px_st (lv' := [_, _, _, _, _, _, _, _, _, _, _]) rfl rfl rfl rfl rfl rfl rfl ?_
  refine px_ic (k := 0) rfl rfl rfl ?_
  refine px_st (lv' := [_, _, _, _, _, _, _, _, _, _, _]) rfl rfl rfl rfl rfl rfl rfl ?_
  exact (r_M_named_167 _ h :)
def f_M_named_149 (F : Nat) (k116 : Nat → Int32 → Int32 → Int32 → Int32 → Int32 → px_H → Option (Int32 × px_H)) (a0 : Nat) (a2 : Int32) (a3 : Int32) (a4 : Int32) (a5 : Int32) (a6 : Int32) (s0 : Nat) (s1 : Int32) (s2 : Int32) (ph : px_H) : Option (Int32 × px_H) :=
  (xsI ph 0 s0 s1 (s2.toInt8.toInt32)).bind fun ph1 =>
  k116 a0 a2 a3 a4 a5 (a6 + nI 1) ph1
theorem r_M_named_149 {l : Launch} {g : px_G} {d F : Nat} {k116 : Nat → Int32 → Int32 → Int32 → Int32 → Int32 → px_H → Option (Int32 × px_H)} (hk116 : ∀ {a0 : Nat} {a2 : Int32} {a3 : Int32} {a4 : Int32} {a5 : Int32} {a6 : Int32} {ph : px_H} {r : Int32} {ph' : px_H}, k116 a0 a2 a3 a4 a5 a6 ph = some (r, ph') → PW l g (d + 2) m_M_named 116 [.ref a0, px_u, .int a2, .int a3, .int a4, .int a5, .int a6, px_u, px_u, px_u, px_u] [] ph (px_qI r ph')) {a0 : Nat} {a2 : Int32} {a3 : Int32} {a4 : Int32} {a5 : Int32} {a6 : Int32} {s0 : Nat} {s1 : Int32} {s2 : Int32} {ph : px_H} {r : Int32} {ph' : px_H} (h : f_M_named_149 F k116 a0 a2 a3 a4 a5 a6 s0 s1 s2 ph = some (r, ph')) : PW l g (d + 2) m_M_named 149 [.ref a0, px_u, .int a2, .int a3, .int a4, .int a5, .int a6, px_u, px_u, px_u, px_u] [.int s2, .int s1, .ref s0] ph (px_qI r ph') := by
  unfold f_M_named_149 at h
  obtain ⟨ph1, h0, h⟩ := xs_some h
  obtain ⟨N, f, e1, e2, e3⟩ := xsI_some h0
  subst e3
  refine px_bast rfl e1 rfl e2 rfl ?_
  refine px_iinc (lv' := [_, _, _, _, _, _, _, _, _, _, _]) rfl rfl rfl rfl rfl rfl ?_
  refine px_goto rfl (by decide) rfl ?_
  exact (hk116 h :)
def f_M_named_116 (F : Nat) : Nat → Nat → Int32 → Int32 → Int32 → Int32 → Int32 → px_H → Option (Int32 × px_H)
  | 0, _, _, _, _, _, _, _ => none
  | n + 1, a0, a2, a3, a4, a5, a6, ph =>
    if a5 ≤ a6 then
      f_M_named_156 F a0 a2 a3 a4 a5 ph
    else
      (xgR ph 12 3 a0).bind fun t1 =>
      (xgI ph 12 43 a0).bind fun t2 =>
      if t2 ≤ a6 then
        f_M_named_149 F (f_M_named_116 F n) a0 a2 a3 a4 a5 a6 t1 a6 (nI 0) ph
      else
        (xgR ph 12 42 a0).bind fun t3 =>
        (xaI ph 0 t3 a6).bind fun t4 =>
        f_M_named_149 F (f_M_named_116 F n) a0 a2 a3 a4 a5 a6 t1 a6 t4 ph
theorem r_M_named_116 {l : Launch} {g : px_G} {d F : Nat} : ∀ (n : Nat) {a0 : Nat} {a2 : Int32} {a3 : Int32} {a4 : Int32} {a5 : Int32} {a6 : Int32} {ph : px_H} {r : Int32} {ph' : px_H}, f_M_named_116 F n a0 a2 a3 a4 a5 a6 ph = some (r, ph') → PW l g (d + 2) m_M_named 116 [.ref a0, px_u, .int a2, .int a3, .int a4, .int a5, .int a6, px_u, px_u, px_u, px_u] [] ph (px_qI r ph') := by
  intro n
  induction n with
  | zero => intro _ _ _ _ _ _ _ _ _ h; cases h
  | succ n ih =>
    intro a0 a2 a3 a4 a5 a6 ph r ph' h
    unfold f_M_named_116 at h
    refine px_ld rfl rfl rfl rfl rfl ?_
    refine px_ld rfl rfl rfl rfl rfl ?_
    refine px_icge rfl (by decide) rfl (fun hc => ?_) (fun hc => ?_)
    · replace h := (if_pos hc).symm.trans h
      refine px_forget (n := 6) (lv' := [_, _, _, _, _, _, _, _, _, _, _]) rfl ?_
      exact (r_M_named_156 h :)
    · replace h := (if_neg hc).symm.trans h
      refine px_ld rfl rfl rfl rfl rfl ?_
      obtain ⟨t1, h0, h⟩ := xs_some h
      obtain ⟨fs, e1, e2⟩ := xgR_some h0
      refine px_get rfl e1 e2 rfl ?_
      refine px_ld rfl rfl rfl rfl rfl ?_
      refine px_ld rfl rfl rfl rfl rfl ?_
      refine px_ld rfl rfl rfl rfl rfl ?_
      obtain ⟨t2, h0, h⟩ := xs_some h
      obtain ⟨fs, e1, e2⟩ := xgI_some h0
      refine px_get rfl e1 e2 rfl ?_
      refine px_icge rfl (by decide) rfl (fun hc => ?_) (fun hc => ?_)
      · replace h := (if_pos hc).symm.trans h
        refine px_ic (k := 0) rfl rfl rfl ?_
        exact (r_M_named_149 @ih h :)
      · replace h := (if_neg hc).symm.trans h
        refine px_ld rfl rfl rfl rfl rfl ?_
        obtain ⟨t3, h0, h⟩ := xs_some h
        obtain ⟨fs, e1, e2⟩ := xgR_some h0
        refine px_get rfl e1 e2 rfl ?_
        refine px_ld rfl rfl rfl rfl rfl ?_
        obtain ⟨t4, h0, h⟩ := xs_some h
        obtain ⟨N, f, e1, e2, e3⟩ := xaI_some h0
        subst e3
        refine px_bald rfl e1 rfl e2 rfl ?_
        refine px_goto rfl (by decide) rfl ?_
        exact (r_M_named_149 @ih h :)
def f_M_named_56 (F : Nat) (a0 : Nat) (a1 : Int32) (ph : px_H) : Option (Int32 × px_H) :=
  (xgI ph 12 43 a0).bind fun t1 =>
  (xo ph 12 a0).bind fun _ =>
  xb (f_M_wider F a0 t1 ph) fun t2 ph3 =>
  (xgI ph3 12 48 a0).bind fun t4 =>
  (xo ph3 12 a0).bind fun _ =>
  xb (f_M_wider F a0 (t2 + ((nI 24) * (t4 + (nI 1)))) ph3) fun t5 ph6 =>
  (xo ph6 12 a0).bind fun _ =>
  xb (f_M_wider F a0 (t5 + a1) ph6) fun t7 ph8 =>
  (xgI ph8 12 15 a0).bind fun t9 =>
  if (t7 + ((nI 64) * (t9 + (nI 3)))) ≤ ((65536 : Int32)) then
    f_M_named_116 F F a0 t2 t5 t7 (t7 + ((nI 64) * (t9 + (nI 3)))) (nI 0) ph8
  else
    some (Int32.ofInt (-1), ph8)
theorem r_M_named_56 {l : Launch} {g : px_G} {d F : Nat} {a0 : Nat} {a1 : Int32} {ph : px_H} {r : Int32} {ph' : px_H} (h : f_M_named_56 F a0 a1 ph = some (r, ph')) : PW l g (d + 2) m_M_named 56 [.ref a0, .int a1, px_u, px_u, px_u, px_u, px_u, px_u, px_u, px_u, px_u] [] ph (px_qI r ph') := by
  unfold f_M_named_56 at h
  refine px_ld rfl rfl rfl rfl rfl ?_
  refine px_ld rfl rfl rfl rfl rfl ?_
  obtain ⟨t1, h0, h⟩ := xs_some h
  obtain ⟨fs, e1, e2⟩ := xgI_some h0
  refine px_get rfl e1 e2 rfl ?_
  obtain ⟨fs, h0, h⟩ := xs_some h
  have e1 := xo_some h0
  obtain ⟨t2, ph3, h0, h⟩ := xb_some h
  refine px_cV1 rfl rfl e1 rfl rfl rfl rfl rfl rfl rfl (r_M_wider h0 :) (fun _ _ q => nomatch q.2) (fun r ph' q => ?_)
  obtain ⟨rfl, q⟩ := q
  cases q
  refine px_st (lv' := [_, _, _, _, _, _, _, _, _, _, _]) rfl rfl rfl rfl rfl rfl rfl ?_
  refine px_ld rfl rfl rfl rfl rfl ?_
  refine px_ld rfl rfl rfl rfl rfl ?_
  refine px_ic (k := 24) rfl rfl rfl ?_
  refine px_ld rfl rfl rfl rfl rfl ?_
  obtain ⟨t4, h0, h⟩ := xs_some h
  obtain ⟨fs, e1, e2⟩ := xgI_some h0
  refine px_get rfl e1 e2 rfl ?_
  refine px_ic (k := 1) rfl rfl rfl ?_
  refine px_alu rfl rfl rfl ?_
  refine px_alu rfl rfl rfl ?_
  refine px_alu rfl rfl rfl ?_
  obtain ⟨fs, h0, h⟩ := xs_some h
  have e1 := xo_some h0
  obtain ⟨t5, ph6, h0, h⟩ := xb_some h
  refine px_cV1 rfl rfl e1 rfl rfl rfl rfl rfl rfl rfl (r_M_wider h0 :) (fun _ _ q => nomatch q.2) (fun r ph' q => ?_)
  obtain ⟨rfl, q⟩ := q
  cases q
  refine px_st (lv' := [_, _, _, _, _, _, _, _, _, _, _]) rfl rfl rfl rfl rfl rfl rfl ?_
  refine px_ld rfl rfl rfl rfl rfl ?_
  refine px_ld rfl rfl rfl rfl rfl ?_
  refine px_ld rfl rfl rfl rfl rfl ?_
  refine px_alu rfl rfl rfl ?_
  obtain ⟨fs, h0, h⟩ := xs_some h
  have e1 := xo_some h0
  obtain ⟨t7, ph8, h0, h⟩ := xb_some h
  refine px_cV1 rfl rfl e1 rfl rfl rfl rfl rfl rfl rfl (r_M_wider h0 :) (fun _ _ q => nomatch q.2) (fun r ph' q => ?_)
  obtain ⟨rfl, q⟩ := q
  cases q
  refine px_st (lv' := [_, _, _, _, _, _, _, _, _, _, _]) rfl rfl rfl rfl rfl rfl rfl ?_
  refine px_ld rfl rfl rfl rfl rfl ?_
  refine px_ic (k := 64) rfl rfl rfl ?_
  refine px_ld rfl rfl rfl rfl rfl ?_
  obtain ⟨t9, h0, h⟩ := xs_some h
  obtain ⟨fs, e1, e2⟩ := xgI_some h0
  refine px_get rfl e1 e2 rfl ?_
  refine px_ic (k := 3) rfl rfl rfl ?_
  refine px_alu rfl rfl rfl ?_
  refine px_alu rfl rfl rfl ?_
  refine px_alu rfl rfl rfl ?_
  refine px_st (lv' := [_, _, _, _, _, _, _, _, _, _, _]) rfl rfl rfl rfl rfl rfl rfl ?_
  refine px_ld rfl rfl rfl rfl rfl ?_
  refine px_ldc rfl (by decide) rfl rfl ?_
  refine px_icle rfl (by decide) rfl (fun hc => ?_) (fun hc => ?_)
  · replace h := (if_pos hc).symm.trans h
    refine px_ic (k := 0) rfl rfl rfl ?_
    refine px_st (lv' := [_, _, _, _, _, _, _, _, _, _, _]) rfl rfl rfl rfl rfl rfl rfl ?_
    refine px_forget (n := 1) (lv' := [_, _, _, _, _, _, _, _, _, _, _]) rfl ?_
    exact (r_M_named_116 _ h :)
  · replace h := (if_neg hc).symm.trans h
    refine px_alu rfl rfl rfl ?_
    cases h
    exact px_iret rfl (Or.inl rfl) rfl ⟨rfl, rfl⟩
def f_M_named_26 (F : Nat) : Nat → Nat → Int32 → Int32 → px_H → Option (Int32 × px_H)
  | 0, _, _, _, _ => none
  | n + 1, a0, a1, a2, ph =>
    (xgI ph 12 48 a0).bind fun t1 =>
    if t1 ≤ a2 then
      f_M_named_56 F a0 a1 ph
    else
      (xgR ph 12 22 a0).bind fun t2 =>
      (xgR ph 12 49 a0).bind fun t3 =>
      (xaI ph 1 t3 a2).bind fun t4 =>
      (xaI ph 1 t2 t4).bind fun t5 =>
      f_M_named_26 F n a0 (a1 + (t5 + (nI 1))) (a2 + nI 1) ph
theorem r_M_named_26 {l : Launch} {g : px_G} {d F : Nat} : ∀ (n : Nat) {a0 : Nat} {a1 : Int32} {a2 : Int32} {ph : px_H} {r : Int32} {ph' : px_H}, f_M_named_26 F n a0 a1 a2 ph = some (r, ph') → PW l g (d + 2) m_M_named 26 [.ref a0, .int a1, .int a2, px_u, px_u, px_u, px_u, px_u, px_u, px_u, px_u] [] ph (px_qI r ph') := by
  intro n
  induction n with
  | zero => intro _ _ _ _ _ _ h; cases h
  | succ n ih =>
    intro a0 a1 a2 ph r ph' h
    unfold f_M_named_26 at h
    refine px_ld rfl rfl rfl rfl rfl ?_
    refine px_ld rfl rfl rfl rfl rfl ?_
    obtain ⟨t1, h0, h⟩ := xs_some h
    obtain ⟨fs, e1, e2⟩ := xgI_some h0
    refine px_get rfl e1 e2 rfl ?_
    refine px_icge rfl (by decide) rfl (fun hc => ?_) (fun hc => ?_)
    · replace h := (if_pos hc).symm.trans h
      refine px_forget (n := 2) (lv' := [_, _, _, _, _, _, _, _, _, _, _]) rfl ?_
      exact (r_M_named_56 h :)
    · replace h := (if_neg hc).symm.trans h
      refine px_ld rfl rfl rfl rfl rfl ?_
      refine px_ld rfl rfl rfl rfl rfl ?_
      obtain ⟨t2, h0, h⟩ := xs_some h
      obtain ⟨fs, e1, e2⟩ := xgR_some h0
      refine px_get rfl e1 e2 rfl ?_
      refine px_ld rfl rfl rfl rfl rfl ?_
      obtain ⟨t3, h0, h⟩ := xs_some h
      obtain ⟨fs, e1, e2⟩ := xgR_some h0
      refine px_get rfl e1 e2 rfl ?_
      refine px_ld rfl rfl rfl rfl rfl ?_
      obtain ⟨t4, h0, h⟩ := xs_some h
      obtain ⟨N, f, e1, e2, e3⟩ := xaI_some h0
      subst e3
      refine px_iald rfl e1 rfl e2 rfl ?_
      obtain ⟨t5, h0, h⟩ := xs_some h
      obtain ⟨N, f, e1, e2, e3⟩ := xaI_some h0
      subst e3
      refine px_iald rfl e1 rfl e2 rfl ?_
      refine px_ic (k := 1) rfl rfl rfl ?_
      refine px_alu rfl rfl rfl ?_
      refine px_alu rfl rfl rfl ?_
      refine px_st (lv' := [_, _, _, _, _, _, _, _, _, _, _]) rfl rfl rfl rfl rfl rfl rfl ?_
      refine px_iinc (lv' := [_, _, _, _, _, _, _, _, _, _, _]) rfl rfl rfl rfl rfl rfl ?_
      refine px_goto rfl (by decide) rfl ?_
      exact (ih h :)
def f_M_named_13 (F : Nat) (a0 : Nat) (s0 : Nat) (s1 : Int32) (ph : px_H) : Option (Int32 × px_H) :=
  (xo ph 12 s0).bind fun _ =>
  xb (f_M_throwing F s0 s1 (nI 0) ph) fun t1 ph2 =>
  if t1 = 0 then
    f_M_named_26 F F a0 (nI 1) (nI 0) ph2
  else
    some (nI 0, ph2)
theorem r_M_named_13 {l : Launch} {g : px_G} {d F : Nat} {a0 : Nat} {s0 : Nat} {s1 : Int32} {ph : px_H} {r : Int32} {ph' : px_H} (h : f_M_named_13 F a0 s0 s1 ph = some (r, ph')) : PW l g (d + 2) m_M_named 13 [.ref a0, px_u, px_u, px_u, px_u, px_u, px_u, px_u, px_u, px_u, px_u] [.int s1, .ref s0] ph (px_qI r ph') := by
  unfold f_M_named_13 at h
  refine px_ic (k := 0) rfl rfl rfl ?_
  obtain ⟨fs, h0, h⟩ := xs_some h
  have e1 := xo_some h0
  obtain ⟨t1, ph2, h0, h⟩ := xb_some h
  refine px_cV2 rfl rfl e1 rfl rfl rfl rfl rfl rfl rfl (r_M_throwing h0 :) (fun _ _ q => nomatch q.2) (fun r ph' q => ?_)
  obtain ⟨rfl, q⟩ := q
  cases q
  refine px_ifeq rfl (by decide) rfl (fun hc => ?_) (fun hc => ?_)
  · replace h := (if_pos hc).symm.trans h
    refine px_ic (k := 1) rfl rfl rfl ?_
    refine px_st (lv' := [_, _, _, _, _, _, _, _, _, _, _]) rfl rfl rfl rfl rfl rfl rfl ?_
    refine px_ic (k := 0) rfl rfl rfl ?_
    refine px_st (lv' := [_, _, _, _, _, _, _, _, _, _, _]) rfl rfl rfl rfl rfl rfl rfl ?_
    exact (r_M_named_26 _ h :)
  · replace h := (if_neg hc).symm.trans h
    refine px_ic (k := 0) rfl rfl rfl ?_
    cases h
    exact px_iret rfl (Or.inl rfl) rfl ⟨rfl, rfl⟩
def f_M_named (F : Nat) (a0 : Nat) (ph : px_H) : Option (Int32 × px_H) :=
  (xgI ph 12 13 a0).bind fun t1 =>
  if t1 = 0 then
    f_M_named_13 F a0 a0 (nI 0) ph
  else
    f_M_named_13 F a0 a0 (nI 1) ph
theorem r_M_named {l : Launch} {g : px_G} {d F : Nat} {a0 : Nat} {ph : px_H} {r : Int32} {ph' : px_H} (h : f_M_named F a0 ph = some (r, ph')) : PW l g (d + 2) m_M_named 0 [.ref a0, px_u, px_u, px_u, px_u, px_u, px_u, px_u, px_u, px_u, px_u] [] ph (px_qI r ph') := by
  unfold f_M_named at h
  refine px_ld rfl rfl rfl rfl rfl ?_
  refine px_ld rfl rfl rfl rfl rfl ?_
  obtain ⟨t1, h0, h⟩ := xs_some h
  obtain ⟨fs, e1, e2⟩ := xgI_some h0
  refine px_get rfl e1 e2 rfl ?_
  refine px_ifeq rfl (by decide) rfl (fun hc => ?_) (fun hc => ?_)
  · replace h := (if_pos hc).symm.trans h
    refine px_ic (k := 0) rfl rfl rfl ?_
    exact (r_M_named_13 h :)
  · replace h := (if_neg hc).symm.trans h
    refine px_ic (k := 1) rfl rfl rfl ?_
    refine px_goto rfl (by decide) rfl ?_
    exact (r_M_named_13 h :)
def f_M_cause_91 (F : Nat) (ph : px_H) : Option (Int32 × px_H) :=
  some (nI 0, ph)
theorem r_M_cause_91 {l : Launch} {g : px_G} {d F : Nat} {ph : px_H} {r : Int32} {ph' : px_H} (h : f_M_cause_91 F ph = some (r, ph')) : PW l g (d + 1) m_M_cause 91 [px_u, px_u, px_u, px_u] [] ph (px_qI r ph') := by
  unfold f_M_cause_91 at h
  refine px_ic (k := 0) rfl rfl rfl ?_
  cases h
  exact px_iret rfl (Or.inl rfl) rfl ⟨rfl, rfl⟩
def f_M_cause_48 (F : Nat) (a0 : Nat) (a1 : Int32) (a2 : Int32) (s0 : Nat) (s1 : Int32) (ph : px_H) : Option (Int32 × px_H) :=
  (xo ph 12 s0).bind fun _ =>
  xb (f_M_throwing F s0 s1 (nI 0) ph) fun t1 ph2 =>
  if t1 = 0 then
    (xgR ph2 12 19 a0).bind fun t3 =>
    (xaI ph2 3 t3 a1).bind fun t4 =>
    if t4 = 0 then
      f_M_cause_91 F ph2
    else
      (xgR ph2 12 18 a0).bind fun t5 =>
      (xaI ph2 3 t5 (((nI 8) * a1) + a2)).bind fun t6 =>
      if t6 = 0 then
        f_M_cause_91 F ph2
      else
        (xgR ph2 12 40 a0).bind fun t7 =>
        (xaI ph2 1 t7 (((nI 8) * a1) + a2)).bind fun t8 =>
        if 0 ≤ t8 then
          (xgR ph2 12 21 a0).bind fun t9 =>
          (xgR ph2 12 40 a0).bind fun t10 =>
          (xaI ph2 1 t10 (((nI 8) * a1) + a2)).bind fun t11 =>
          (xgR ph2 12 22 a0).bind fun t12 =>
          (xgR ph2 12 40 a0).bind fun t13 =>
          (xaI ph2 1 t13 (((nI 8) * a1) + a2)).bind fun t14 =>
          (xaI ph2 1 t12 t14).bind fun t15 =>
          (xo ph2 12 a0).bind fun _ =>
          xb (f_M_say F a0 t9 ((nI 20) * t11) t15 ph2) fun _ ph16 =>
          (xgI ph16 12 4 a0).bind fun t17 =>
          some (t17, ph16)
        else
          f_M_cause_91 F ph2
  else
    some (nI 0, ph2)
theorem r_M_cause_48 {l : Launch} {g : px_G} {d F : Nat} {a0 : Nat} {a1 : Int32} {a2 : Int32} {s0 : Nat} {s1 : Int32} {ph : px_H} {r : Int32} {ph' : px_H} (h : f_M_cause_48 F a0 a1 a2 s0 s1 ph = some (r, ph')) : PW l g (d + 1) m_M_cause 48 [.ref a0, .int a1, .int a2, px_u] [.int s1, .ref s0] ph (px_qI r ph') := by
  unfold f_M_cause_48 at h
  refine px_ic (k := 0) rfl rfl rfl ?_
  obtain ⟨fs, h0, h⟩ := xs_some h
  have e1 := xo_some h0
  obtain ⟨t1, ph2, h0, h⟩ := xb_some h
  refine px_cV2 rfl rfl e1 rfl rfl rfl rfl rfl rfl rfl (r_M_throwing h0 :) (fun _ _ q => nomatch q.2) (fun r ph' q => ?_)
  obtain ⟨rfl, q⟩ := q
  cases q
  refine px_ifeq rfl (by decide) rfl (fun hc => ?_) (fun hc => ?_)
  · replace h := (if_pos hc).symm.trans h
    refine px_ic (k := 8) rfl rfl rfl ?_
    refine px_ld rfl rfl rfl rfl rfl ?_
    refine px_alu rfl rfl rfl ?_
    refine px_ld rfl rfl rfl rfl rfl ?_
    refine px_alu rfl rfl rfl ?_
    refine px_st (lv' := [_, _, _, _]) rfl rfl rfl rfl rfl rfl rfl ?_
    refine px_ld rfl rfl rfl rfl rfl ?_
    obtain ⟨t3, h0, h⟩ := xs_some h
    obtain ⟨fs, e1, e2⟩ := xgR_some h0
    refine px_get rfl e1 e2 rfl ?_
    refine px_ld rfl rfl rfl rfl rfl ?_
    obtain ⟨t4, h0, h⟩ := xs_some h
    obtain ⟨N, f, e1, e2, e3⟩ := xaI_some h0
    subst e3
    refine px_zald rfl e1 rfl e2 rfl ?_
    refine px_ifeq rfl (by decide) rfl (fun hc => ?_) (fun hc => ?_)
    · replace h := (if_pos hc).symm.trans h
      refine px_forget (n := 0) (lv' := [_, _, _, _]) rfl ?_
      refine px_forget (n := 1) (lv' := [_, _, _, _]) rfl ?_
      refine px_forget (n := 2) (lv' := [_, _, _, _]) rfl ?_
      refine px_forget (n := 3) (lv' := [_, _, _, _]) rfl ?_
      exact (r_M_cause_91 h :)
    · replace h := (if_neg hc).symm.trans h
      refine px_ld rfl rfl rfl rfl rfl ?_
      obtain ⟨t5, h0, h⟩ := xs_some h
      obtain ⟨fs, e1, e2⟩ := xgR_some h0
      refine px_get rfl e1 e2 rfl ?_
      refine px_ld rfl rfl rfl rfl rfl ?_
      obtain ⟨t6, h0, h⟩ := xs_some h
      obtain ⟨N, f, e1, e2, e3⟩ := xaI_some h0
      subst e3
      refine px_zald rfl e1 rfl e2 rfl ?_
      refine px_ifeq rfl (by decide) rfl (fun hc => ?_) (fun hc => ?_)
      · replace h := (if_pos hc).symm.trans h
        refine px_forget (n := 0) (lv' := [_, _, _, _]) rfl ?_
        refine px_forget (n := 1) (lv' := [_, _, _, _]) rfl ?_
        refine px_forget (n := 2) (lv' := [_, _, _, _]) rfl ?_
        refine px_forget (n := 3) (lv' := [_, _, _, _]) rfl ?_
        exact (r_M_cause_91 h :)
      · replace h := (if_neg hc).symm.trans h
        refine px_ld rfl rfl rfl rfl rfl ?_
        obtain ⟨t7, h0, h⟩ := xs_some h
        obtain ⟨fs, e1, e2⟩ := xgR_some h0
        refine px_get rfl e1 e2 rfl ?_
        refine px_ld rfl rfl rfl rfl rfl ?_
        obtain ⟨t8, h0, h⟩ := xs_some h
        obtain ⟨N, f, e1, e2, e3⟩ := xaI_some h0
        subst e3
        refine px_iald rfl e1 rfl e2 rfl ?_
        refine px_ifge rfl (by decide) rfl (fun hc => ?_) (fun hc => ?_)
        · replace h := (if_pos hc).symm.trans h
          refine px_ld rfl rfl rfl rfl rfl ?_
          refine px_ld rfl rfl rfl rfl rfl ?_
          obtain ⟨t9, h0, h⟩ := xs_some h
          obtain ⟨fs, e1, e2⟩ := xgR_some h0
          refine px_get rfl e1 e2 rfl ?_
          refine px_ic (k := 20) rfl rfl rfl ?_
          refine px_ld rfl rfl rfl rfl rfl ?_
          obtain ⟨t10, h0, h⟩ := xs_some h
          obtain ⟨fs, e1, e2⟩ := xgR_some h0
          refine px_get rfl e1 e2 rfl ?_
          refine px_ld rfl rfl rfl rfl rfl ?_
          obtain ⟨t11, h0, h⟩ := xs_some h
          obtain ⟨N, f, e1, e2, e3⟩ := xaI_some h0
          subst e3
          refine px_iald rfl e1 rfl e2 rfl ?_
          refine px_alu rfl rfl rfl ?_
          refine px_ld rfl rfl rfl rfl rfl ?_
          obtain ⟨t12, h0, h⟩ := xs_some h
          obtain ⟨fs, e1, e2⟩ := xgR_some h0
          refine px_get rfl e1 e2 rfl ?_
          refine px_ld rfl rfl rfl rfl rfl ?_
          obtain ⟨t13, h0, h⟩ := xs_some h
          obtain ⟨fs, e1, e2⟩ := xgR_some h0
          refine px_get rfl e1 e2 rfl ?_
          refine px_ld rfl rfl rfl rfl rfl ?_
          obtain ⟨t14, h0, h⟩ := xs_some h
          obtain ⟨N, f, e1, e2, e3⟩ := xaI_some h0
          subst e3
          refine px_iald rfl e1 rfl e2 rfl ?_
          obtain ⟨t15, h0, h⟩ := xs_some h
          obtain ⟨N, f, e1, e2, e3⟩ := xaI_some h0
          subst e3
          refine px_iald rfl e1 rfl e2 rfl ?_
          obtain ⟨fs, h0, h⟩ := xs_some h
          have e1 := xo_some h0
          obtain ⟨u0, ph16, h0, h⟩ := xb_some h
          refine px_cV3 rfl rfl e1 rfl rfl rfl rfl rfl rfl rfl (r_M_say h0 :) (fun _ _ q => nomatch q.2) (fun r ph' q => ?_)
          obtain ⟨rfl, q⟩ := q
          cases q
          refine px_ld rfl rfl rfl rfl rfl ?_
          obtain ⟨t17, h0, h⟩ := xs_some h
          obtain ⟨fs, e1, e2⟩ := xgI_some h0
          refine px_get rfl e1 e2 rfl ?_
          cases h
          exact px_iret rfl (Or.inl rfl) rfl ⟨rfl, rfl⟩
        · replace h := (if_neg hc).symm.trans h
          refine px_forget (n := 0) (lv' := [_, _, _, _]) rfl ?_
          refine px_forget (n := 1) (lv' := [_, _, _, _]) rfl ?_
          refine px_forget (n := 2) (lv' := [_, _, _, _]) rfl ?_
          refine px_forget (n := 3) (lv' := [_, _, _, _]) rfl ?_
          exact (r_M_cause_91 h :)
  · replace h := (if_neg hc).symm.trans h
    refine px_ic (k := 0) rfl rfl rfl ?_
    cases h
    exact px_iret rfl (Or.inl rfl) rfl ⟨rfl, rfl⟩
def f_M_cause_43 (F : Nat) (a0 : Nat) (a1 : Int32) (a2 : Int32) (s0 : Nat) (ph : px_H) : Option (Int32 × px_H) :=
  f_M_cause_48 F a0 a1 a2 s0 (nI 1) ph
theorem r_M_cause_43 {l : Launch} {g : px_G} {d F : Nat} {a0 : Nat} {a1 : Int32} {a2 : Int32} {s0 : Nat} {ph : px_H} {r : Int32} {ph' : px_H} (h : f_M_cause_43 F a0 a1 a2 s0 ph = some (r, ph')) : PW l g (d + 1) m_M_cause 43 [.ref a0, .int a1, .int a2, px_u] [.ref s0] ph (px_qI r ph') := by
  unfold f_M_cause_43 at h
  refine px_ic (k := 1) rfl rfl rfl ?_
  refine px_goto rfl (by decide) rfl ?_
  exact (r_M_cause_48 h :)
def f_M_cause_39 (F : Nat) (a0 : Nat) (a1 : Int32) (a2 : Int32) (s0 : Nat) (s1 : Int32) (s2 : Nat) (s3 : Int32) (ph : px_H) : Option (Int32 × px_H) :=
  (xaI ph 1 s2 s3).bind fun t1 =>
  if s1 < t1 then
    f_M_cause_48 F a0 a1 a2 s0 (nI 0) ph
  else
    f_M_cause_43 F a0 a1 a2 s0 ph
theorem r_M_cause_39 {l : Launch} {g : px_G} {d F : Nat} {a0 : Nat} {a1 : Int32} {a2 : Int32} {s0 : Nat} {s1 : Int32} {s2 : Nat} {s3 : Int32} {ph : px_H} {r : Int32} {ph' : px_H} (h : f_M_cause_39 F a0 a1 a2 s0 s1 s2 s3 ph = some (r, ph')) : PW l g (d + 1) m_M_cause 39 [.ref a0, .int a1, .int a2, px_u] [.int s3, .ref s2, .int s1, .ref s0] ph (px_qI r ph') := by
  unfold f_M_cause_39 at h
  obtain ⟨t1, h0, h⟩ := xs_some h
  obtain ⟨N, f, e1, e2, e3⟩ := xaI_some h0
  subst e3
  refine px_iald rfl e1 rfl e2 rfl ?_
  refine px_iclt rfl (by decide) rfl (fun hc => ?_) (fun hc => ?_)
  · replace h := (if_pos hc).symm.trans h
    refine px_ic (k := 0) rfl rfl rfl ?_
    exact (r_M_cause_48 h :)
  · replace h := (if_neg hc).symm.trans h
    exact (r_M_cause_43 h :)
def f_M_cause_34 (F : Nat) (a0 : Nat) (a1 : Int32) (a2 : Int32) (s0 : Nat) (s1 : Int32) (s2 : Nat) (ph : px_H) : Option (Int32 × px_H) :=
  f_M_cause_39 F a0 a1 a2 s0 s1 s2 (nI 0) ph
theorem r_M_cause_34 {l : Launch} {g : px_G} {d F : Nat} {a0 : Nat} {a1 : Int32} {a2 : Int32} {s0 : Nat} {s1 : Int32} {s2 : Nat} {ph : px_H} {r : Int32} {ph' : px_H} (h : f_M_cause_34 F a0 a1 a2 s0 s1 s2 ph = some (r, ph')) : PW l g (d + 1) m_M_cause 34 [.ref a0, .int a1, .int a2, px_u] [.ref s2, .int s1, .ref s0] ph (px_qI r ph') := by
  unfold f_M_cause_34 at h
  refine px_ic (k := 0) rfl rfl rfl ?_
  refine px_goto rfl (by decide) rfl ?_
  exact (r_M_cause_39 h :)
def f_M_cause (F : Nat) (a0 : Nat) (a1 : Int32) (a2 : Int32) (ph : px_H) : Option (Int32 × px_H) :=
  if a1 < 0 then
    f_M_cause_43 F a0 a1 a2 a0 ph
  else
    (xgI ph 12 5 a0).bind fun t1 =>
    if t1 ≤ a1 then
      f_M_cause_43 F a0 a1 a2 a0 ph
    else
      if a2 < 0 then
        f_M_cause_43 F a0 a1 a2 a0 ph
      else
        (xgR ph 12 8 a0).bind fun t2 =>
        if a1 < 0 then
          f_M_cause_34 F a0 a1 a2 a0 a2 t2 ph
        else
          (xgI ph 12 5 a0).bind fun t3 =>
          if a1 < t3 then
            f_M_cause_39 F a0 a1 a2 a0 a2 t2 a1 ph
          else
            f_M_cause_34 F a0 a1 a2 a0 a2 t2 ph
theorem r_M_cause {l : Launch} {g : px_G} {d F : Nat} {a0 : Nat} {a1 : Int32} {a2 : Int32} {ph : px_H} {r : Int32} {ph' : px_H} (h : f_M_cause F a0 a1 a2 ph = some (r, ph')) : PW l g (d + 1) m_M_cause 0 [.ref a0, .int a1, .int a2, px_u] [] ph (px_qI r ph') := by
  unfold f_M_cause at h
  refine px_ld rfl rfl rfl rfl rfl ?_
  refine px_ld rfl rfl rfl rfl rfl ?_
  refine px_iflt rfl (by decide) rfl (fun hc => ?_) (fun hc => ?_)
  · replace h := (if_pos hc).symm.trans h
    exact (r_M_cause_43 h :)
  · replace h := (if_neg hc).symm.trans h
    refine px_ld rfl rfl rfl rfl rfl ?_
    refine px_ld rfl rfl rfl rfl rfl ?_
    obtain ⟨t1, h0, h⟩ := xs_some h
    obtain ⟨fs, e1, e2⟩ := xgI_some h0
    refine px_get rfl e1 e2 rfl ?_
    refine px_icge rfl (by decide) rfl (fun hc => ?_) (fun hc => ?_)
    · replace h := (if_pos hc).symm.trans h
      exact (r_M_cause_43 h :)
    · replace h := (if_neg hc).symm.trans h
      refine px_ld rfl rfl rfl rfl rfl ?_
      refine px_iflt rfl (by decide) rfl (fun hc => ?_) (fun hc => ?_)
      · replace h := (if_pos hc).symm.trans h
        exact (r_M_cause_43 h :)
      · replace h := (if_neg hc).symm.trans h
        refine px_ld rfl rfl rfl rfl rfl ?_
        refine px_ld rfl rfl rfl rfl rfl ?_
        obtain ⟨t2, h0, h⟩ := xs_some h
        obtain ⟨fs, e1, e2⟩ := xgR_some h0
        refine px_get rfl e1 e2 rfl ?_
        refine px_ld rfl rfl rfl rfl rfl ?_
        refine px_iflt rfl (by decide) rfl (fun hc => ?_) (fun hc => ?_)
        · replace h := (if_pos hc).symm.trans h
          exact (r_M_cause_34 h :)
        · replace h := (if_neg hc).symm.trans h
          refine px_ld rfl rfl rfl rfl rfl ?_
          refine px_ld rfl rfl rfl rfl rfl ?_
          obtain ⟨t3, h0, h⟩ := xs_some h
          obtain ⟨fs, e1, e2⟩ := xgI_some h0
          refine px_get rfl e1 e2 rfl ?_
          refine px_iclt rfl (by decide) rfl (fun hc => ?_) (fun hc => ?_)
          · replace h := (if_pos hc).symm.trans h
            refine px_ld rfl rfl rfl rfl rfl ?_
            exact (r_M_cause_39 h :)
          · replace h := (if_neg hc).symm.trans h
            exact (r_M_cause_34 h :)
def f_M_sum_177 (F : Nat) (a6 : Int64) (ph : px_H) : Option (Int64 × px_H) :=
  some (a6, ph)
theorem r_M_sum_177 {l : Launch} {g : px_G} {d F : Nat} {a6 : Int64} {ph : px_H} {r : Int64} {ph' : px_H} (h : f_M_sum_177 F a6 ph = some (r, ph')) : PW l g (d + 4) m_M_sum 177 [px_u, px_u, px_u, px_u, px_u, px_u, .long a6, px_u, px_u] [] ph (px_qJ r ph') := by
  unfold f_M_sum_177 at h
  refine px_ld rfl rfl rfl rfl rfl ?_
  cases h
  exact px_lret rfl rfl rfl ⟨rfl, rfl⟩
def f_M_sum_168 (F : Nat) (k120 : Nat → Int32 → Int32 → Int64 → Int32 → px_H → Option (Int64 × px_H)) (a0 : Nat) (a3 : Int32) (a5 : Int32) (a8 : Int32) (s0 : Int64) (s1 : Int64) (ph : px_H) : Option (Int64 × px_H) :=
  k120 a0 a3 a5 (s0 + s1) (a8 + nI 1) ph
theorem r_M_sum_168 {l : Launch} {g : px_G} {d F : Nat} {k120 : Nat → Int32 → Int32 → Int64 → Int32 → px_H → Option (Int64 × px_H)} (hk120 : ∀ {a0 : Nat} {a3 : Int32} {a5 : Int32} {a6 : Int64} {a8 : Int32} {ph : px_H} {r : Int64} {ph' : px_H}, k120 a0 a3 a5 a6 a8 ph = some (r, ph') → PW l g (d + 4) m_M_sum 120 [.ref a0, px_u, px_u, .int a3, px_u, .int a5, .long a6, px_u, .int a8] [] ph (px_qJ r ph')) {a0 : Nat} {a3 : Int32} {a5 : Int32} {a8 : Int32} {s0 : Int64} {s1 : Int64} {ph : px_H} {r : Int64} {ph' : px_H} (h : f_M_sum_168 F k120 a0 a3 a5 a8 s0 s1 ph = some (r, ph')) : PW l g (d + 4) m_M_sum 168 [.ref a0, px_u, px_u, .int a3, px_u, .int a5, px_u, px_u, .int a8] [.long s1, .long s0] ph (px_qJ r ph') := by
  unfold f_M_sum_168 at h
  refine px_alu rfl rfl rfl ?_
  refine px_st (lv' := [_, _, _, _, _, _, _, _, _]) rfl rfl rfl rfl rfl rfl rfl ?_
  refine px_iinc (lv' := [_, _, _, _, _, _, _, _, _]) rfl rfl rfl rfl rfl rfl ?_
  refine px_goto rfl (by decide) rfl ?_
  exact (hk120 h :)
def f_M_sum_167 (F : Nat) (k120 : Nat → Int32 → Int32 → Int64 → Int32 → px_H → Option (Int64 × px_H)) (a0 : Nat) (a3 : Int32) (a5 : Int32) (a8 : Int32) (s0 : Int64) (ph : px_H) : Option (Int64 × px_H) :=
  f_M_sum_168 F k120 a0 a3 a5 a8 s0 (lN 0) ph
theorem r_M_sum_167 {l : Launch} {g : px_G} {d F : Nat} {k120 : Nat → Int32 → Int32 → Int64 → Int32 → px_H → Option (Int64 × px_H)} (hk120 : ∀ {a0 : Nat} {a3 : Int32} {a5 : Int32} {a6 : Int64} {a8 : Int32} {ph : px_H} {r : Int64} {ph' : px_H}, k120 a0 a3 a5 a6 a8 ph = some (r, ph') → PW l g (d + 4) m_M_sum 120 [.ref a0, px_u, px_u, .int a3, px_u, .int a5, .long a6, px_u, .int a8] [] ph (px_qJ r ph')) {a0 : Nat} {a3 : Int32} {a5 : Int32} {a8 : Int32} {s0 : Int64} {ph : px_H} {r : Int64} {ph' : px_H} (h : f_M_sum_167 F k120 a0 a3 a5 a8 s0 ph = some (r, ph')) : PW l g (d + 4) m_M_sum 167 [.ref a0, px_u, px_u, .int a3, px_u, .int a5, px_u, px_u, .int a8] [.long s0] ph (px_qJ r ph') := by
  unfold f_M_sum_167 at h
  refine px_alu rfl rfl rfl ?_
  exact (r_M_sum_168 @hk120 h :)
def f_M_sum_120 (F : Nat) : Nat → Nat → Int32 → Int32 → Int64 → Int32 → px_H → Option (Int64 × px_H)
  | 0, _, _, _, _, _, _ => none
  | n + 1, a0, a3, a5, a6, a8, ph =>
    (xo ph 12 a0).bind fun _ =>
    xb (f_M_sections F a0 a5 ph) fun t1 ph2 =>
    if t1 ≤ a8 then
      f_M_sum_177 F a6 ph2
    else
      (xo ph2 12 a0).bind fun _ =>
      xb (f_M_isKept F a0 a5 a8 ph2) fun t3 ph4 =>
      if t3 = 0 then
        f_M_sum_167 F (f_M_sum_120 F n) a0 a3 a5 a8 a6 ph4
      else
        (xo ph4 12 a0).bind fun _ =>
        xb (f_M_group F a0 a5 a8 ph4) fun t5 ph6 =>
        if t5 = a3 then
          (xo ph6 12 a0).bind fun _ =>
          xb (f_M_size F a0 a5 a8 ph6) fun t7 ph8 =>
          f_M_sum_168 F (f_M_sum_120 F n) a0 a3 a5 a8 a6 t7 ph8
        else
          f_M_sum_167 F (f_M_sum_120 F n) a0 a3 a5 a8 a6 ph6
theorem r_M_sum_120 {l : Launch} {g : px_G} {d F : Nat} : ∀ (n : Nat) {a0 : Nat} {a3 : Int32} {a5 : Int32} {a6 : Int64} {a8 : Int32} {ph : px_H} {r : Int64} {ph' : px_H}, f_M_sum_120 F n a0 a3 a5 a6 a8 ph = some (r, ph') → PW l g (d + 4) m_M_sum 120 [.ref a0, px_u, px_u, .int a3, px_u, .int a5, .long a6, px_u, .int a8] [] ph (px_qJ r ph') := by
  intro n
  induction n with
  | zero => intro _ _ _ _ _ _ _ _ h; cases h
  | succ n ih =>
    intro a0 a3 a5 a6 a8 ph r ph' h
    unfold f_M_sum_120 at h
    refine px_ld rfl rfl rfl rfl rfl ?_
    refine px_ld rfl rfl rfl rfl rfl ?_
    refine px_ld rfl rfl rfl rfl rfl ?_
    obtain ⟨fs, h0, h⟩ := xs_some h
    have e1 := xo_some h0
    obtain ⟨t1, ph2, h0, h⟩ := xb_some h
    refine px_cV1 rfl rfl e1 rfl rfl rfl rfl rfl rfl rfl (r_M_sections h0 :) (fun _ _ q => nomatch q.2) (fun r ph' q => ?_)
    obtain ⟨rfl, q⟩ := q
    cases q
    refine px_icge rfl (by decide) rfl (fun hc => ?_) (fun hc => ?_)
    · replace h := (if_pos hc).symm.trans h
      refine px_forget (n := 0) (lv' := [_, _, _, _, _, _, _, _, _]) rfl ?_
      refine px_forget (n := 3) (lv' := [_, _, _, _, _, _, _, _, _]) rfl ?_
      refine px_forget (n := 5) (lv' := [_, _, _, _, _, _, _, _, _]) rfl ?_
      refine px_forget (n := 8) (lv' := [_, _, _, _, _, _, _, _, _]) rfl ?_
      exact (r_M_sum_177 h :)
    · replace h := (if_neg hc).symm.trans h
      refine px_ld rfl rfl rfl rfl rfl ?_
      refine px_ld rfl rfl rfl rfl rfl ?_
      refine px_ld rfl rfl rfl rfl rfl ?_
      refine px_ld rfl rfl rfl rfl rfl ?_
      obtain ⟨fs, h0, h⟩ := xs_some h
      have e1 := xo_some h0
      obtain ⟨t3, ph4, h0, h⟩ := xb_some h
      refine px_cV2 rfl rfl e1 rfl rfl rfl rfl rfl rfl rfl (r_M_isKept h0 :) (fun _ _ q => nomatch q.2) (fun r ph' q => ?_)
      obtain ⟨rfl, q⟩ := q
      cases q
      refine px_ifeq rfl (by decide) rfl (fun hc => ?_) (fun hc => ?_)
      · replace h := (if_pos hc).symm.trans h
        refine px_forget (n := 6) (lv' := [_, _, _, _, _, _, _, _, _]) rfl ?_
        exact (r_M_sum_167 @ih h :)
      · replace h := (if_neg hc).symm.trans h
        refine px_ld rfl rfl rfl rfl rfl ?_
        refine px_ld rfl rfl rfl rfl rfl ?_
        refine px_ld rfl rfl rfl rfl rfl ?_
        obtain ⟨fs, h0, h⟩ := xs_some h
        have e1 := xo_some h0
        obtain ⟨t5, ph6, h0, h⟩ := xb_some h
        refine px_cV2 rfl rfl e1 rfl rfl rfl rfl rfl rfl rfl (r_M_group h0 :) (fun _ _ q => nomatch q.2) (fun r ph' q => ?_)
        obtain ⟨rfl, q⟩ := q
        cases q
        refine px_ld rfl rfl rfl rfl rfl ?_
        refine px_icne rfl (by decide) rfl (fun hc => ?_) (fun hc => ?_)
        · replace h := (if_neg hc).symm.trans h
          refine px_forget (n := 6) (lv' := [_, _, _, _, _, _, _, _, _]) rfl ?_
          exact (r_M_sum_167 @ih h :)
        · replace h := (if_pos hc).symm.trans h
          refine px_ld rfl rfl rfl rfl rfl ?_
          refine px_ld rfl rfl rfl rfl rfl ?_
          refine px_ld rfl rfl rfl rfl rfl ?_
          obtain ⟨fs, h0, h⟩ := xs_some h
          have e1 := xo_some h0
          obtain ⟨t7, ph8, h0, h⟩ := xb_some h
          refine px_cV2 rfl rfl e1 rfl rfl rfl rfl rfl rfl rfl (r_M_size h0 :) (fun _ _ q => nomatch q.2) (fun r ph' q => ?_)
          obtain ⟨rfl, q⟩ := q
          cases q
          refine px_goto rfl (by decide) rfl ?_
          refine px_forget (n := 6) (lv' := [_, _, _, _, _, _, _, _, _]) rfl ?_
          exact (r_M_sum_168 @ih h :)
def f_M_sum_92 (F : Nat) (a0 : Nat) (a1 : Int32) (a2 : Int32) (a3 : Int32) (s0 : Nat) (s1 : Int32) (ph : px_H) : Option (Int64 × px_H) :=
  (xo ph 12 s0).bind fun _ =>
  xb (f_M_throwing F s0 s1 (nI 0) ph) fun t1 ph2 =>
  if t1 = 0 then
    (xgR ph2 12 9 a0).bind fun t3 =>
    (xaI ph2 1 t3 (((nI 8) * a1) + a2)).bind fun t4 =>
    f_M_sum_120 F F a0 a3 t4 (lN 0) (nI 1) ph2
  else
    some (lN 0, ph2)
theorem r_M_sum_92 {l : Launch} {g : px_G} {d F : Nat} {a0 : Nat} {a1 : Int32} {a2 : Int32} {a3 : Int32} {s0 : Nat} {s1 : Int32} {ph : px_H} {r : Int64} {ph' : px_H} (h : f_M_sum_92 F a0 a1 a2 a3 s0 s1 ph = some (r, ph')) : PW l g (d + 4) m_M_sum 92 [.ref a0, .int a1, .int a2, .int a3, px_u, px_u, px_u, px_u, px_u] [.int s1, .ref s0] ph (px_qJ r ph') := by
  unfold f_M_sum_92 at h
  refine px_ic (k := 0) rfl rfl rfl ?_
  obtain ⟨fs, h0, h⟩ := xs_some h
  have e1 := xo_some h0
  obtain ⟨t1, ph2, h0, h⟩ := xb_some h
  refine px_cV2 rfl rfl e1 rfl rfl rfl rfl rfl rfl rfl (r_M_throwing h0 :) (fun _ _ q => nomatch q.2) (fun r ph' q => ?_)
  obtain ⟨rfl, q⟩ := q
  cases q
  refine px_ifeq rfl (by decide) rfl (fun hc => ?_) (fun hc => ?_)
  · replace h := (if_pos hc).symm.trans h
    refine px_ld rfl rfl rfl rfl rfl ?_
    obtain ⟨t3, h0, h⟩ := xs_some h
    obtain ⟨fs, e1, e2⟩ := xgR_some h0
    refine px_get rfl e1 e2 rfl ?_
    refine px_ic (k := 8) rfl rfl rfl ?_
    refine px_ld rfl rfl rfl rfl rfl ?_
    refine px_alu rfl rfl rfl ?_
    refine px_ld rfl rfl rfl rfl rfl ?_
    refine px_alu rfl rfl rfl ?_
    obtain ⟨t4, h0, h⟩ := xs_some h
    obtain ⟨N, f, e1, e2, e3⟩ := xaI_some h0
    subst e3
    refine px_iald rfl e1 rfl e2 rfl ?_
    refine px_st (lv' := [_, _, _, _, _, _, _, _, _]) rfl rfl rfl rfl rfl rfl rfl ?_
    refine px_alu rfl rfl rfl ?_
    refine px_st (lv' := [_, _, _, _, _, _, _, _, _]) rfl rfl rfl rfl rfl rfl rfl ?_
    refine px_ic (k := 1) rfl rfl rfl ?_
    refine px_st (lv' := [_, _, _, _, _, _, _, _, _]) rfl rfl rfl rfl rfl rfl rfl ?_
    refine px_forget (n := 1) (lv' := [_, _, _, _, _, _, _, _, _]) rfl ?_
    refine px_forget (n := 2) (lv' := [_, _, _, _, _, _, _, _, _]) rfl ?_
    exact (r_M_sum_120 _ h :)
  · replace h := (if_neg hc).symm.trans h
    refine px_alu rfl rfl rfl ?_
    cases h
    exact px_lret rfl rfl rfl ⟨rfl, rfl⟩
def f_M_sum_87 (F : Nat) (a0 : Nat) (a1 : Int32) (a2 : Int32) (a3 : Int32) (s0 : Nat) (ph : px_H) : Option (Int64 × px_H) :=
  f_M_sum_92 F a0 a1 a2 a3 s0 (nI 1) ph
theorem r_M_sum_87 {l : Launch} {g : px_G} {d F : Nat} {a0 : Nat} {a1 : Int32} {a2 : Int32} {a3 : Int32} {s0 : Nat} {ph : px_H} {r : Int64} {ph' : px_H} (h : f_M_sum_87 F a0 a1 a2 a3 s0 ph = some (r, ph')) : PW l g (d + 4) m_M_sum 87 [.ref a0, .int a1, .int a2, .int a3, px_u, px_u, px_u, px_u, px_u] [.ref s0] ph (px_qJ r ph') := by
  unfold f_M_sum_87 at h
  refine px_ic (k := 1) rfl rfl rfl ?_
  refine px_goto rfl (by decide) rfl ?_
  exact (r_M_sum_92 h :)
def f_M_sum_74 (F : Nat) (a0 : Nat) (a1 : Int32) (a2 : Int32) (a3 : Int32) (s0 : Nat) (s1 : Nat) (s2 : Int32) (ph : px_H) : Option (Int64 × px_H) :=
  (xaI ph 3 s1 s2).bind fun t1 =>
  if t1 = 0 then
    if a3 < 0 then
      f_M_sum_87 F a0 a1 a2 a3 s0 ph
    else
      if a3 ≤ (nI 5) then
        f_M_sum_92 F a0 a1 a2 a3 s0 (nI 0) ph
      else
        f_M_sum_87 F a0 a1 a2 a3 s0 ph
  else
    f_M_sum_87 F a0 a1 a2 a3 s0 ph
theorem r_M_sum_74 {l : Launch} {g : px_G} {d F : Nat} {a0 : Nat} {a1 : Int32} {a2 : Int32} {a3 : Int32} {s0 : Nat} {s1 : Nat} {s2 : Int32} {ph : px_H} {r : Int64} {ph' : px_H} (h : f_M_sum_74 F a0 a1 a2 a3 s0 s1 s2 ph = some (r, ph')) : PW l g (d + 4) m_M_sum 74 [.ref a0, .int a1, .int a2, .int a3, px_u, px_u, px_u, px_u, px_u] [.int s2, .ref s1, .ref s0] ph (px_qJ r ph') := by
  unfold f_M_sum_74 at h
  obtain ⟨t1, h0, h⟩ := xs_some h
  obtain ⟨N, f, e1, e2, e3⟩ := xaI_some h0
  subst e3
  refine px_zald rfl e1 rfl e2 rfl ?_
  refine px_ifne rfl (by decide) rfl (fun hc => ?_) (fun hc => ?_)
  · replace h := (if_neg hc).symm.trans h
    exact (r_M_sum_87 h :)
  · replace h := (if_pos hc).symm.trans h
    refine px_ld rfl rfl rfl rfl rfl ?_
    refine px_iflt rfl (by decide) rfl (fun hc => ?_) (fun hc => ?_)
    · replace h := (if_pos hc).symm.trans h
      exact (r_M_sum_87 h :)
    · replace h := (if_neg hc).symm.trans h
      refine px_ld rfl rfl rfl rfl rfl ?_
      refine px_ic (k := 5) rfl rfl rfl ?_
      refine px_icle rfl (by decide) rfl (fun hc => ?_) (fun hc => ?_)
      · replace h := (if_pos hc).symm.trans h
        refine px_ic (k := 0) rfl rfl rfl ?_
        exact (r_M_sum_92 h :)
      · replace h := (if_neg hc).symm.trans h
        exact (r_M_sum_87 h :)
def f_M_sum_47 (F : Nat) (a0 : Nat) (a1 : Int32) (a2 : Int32) (a3 : Int32) (s0 : Int32) (ph : px_H) : Option (Int64 × px_H) :=
  if s0 = 0 then
    (xgR ph 12 12 a0).bind fun t1 =>
    if s0 = 0 then
      f_M_sum_74 F a0 a1 a2 a3 a0 t1 (((nI 8) * a1) + a2) ph
    else
      f_M_sum_74 F a0 a1 a2 a3 a0 t1 (nI 0) ph
  else
    f_M_sum_87 F a0 a1 a2 a3 a0 ph
theorem r_M_sum_47 {l : Launch} {g : px_G} {d F : Nat} {a0 : Nat} {a1 : Int32} {a2 : Int32} {a3 : Int32} {s0 : Int32} {ph : px_H} {r : Int64} {ph' : px_H} (h : f_M_sum_47 F a0 a1 a2 a3 s0 ph = some (r, ph')) : PW l g (d + 4) m_M_sum 47 [.ref a0, .int a1, .int a2, .int a3, px_u, px_u, px_u, px_u, px_u] [.int s0] ph (px_qJ r ph') := by
  unfold f_M_sum_47 at h
  refine px_st (lv' := [_, _, _, _, _, _, _, _, _]) rfl rfl rfl rfl rfl rfl rfl ?_
  refine px_ld rfl rfl rfl rfl rfl ?_
  refine px_ld rfl rfl rfl rfl rfl ?_
  refine px_ifne rfl (by decide) rfl (fun hc => ?_) (fun hc => ?_)
  · replace h := (if_neg hc).symm.trans h
    refine px_forget (n := 4) (lv' := [_, _, _, _, _, _, _, _, _]) rfl ?_
    exact (r_M_sum_87 h :)
  · replace h := (if_pos hc).symm.trans h
    refine px_ld rfl rfl rfl rfl rfl ?_
    obtain ⟨t1, h0, h⟩ := xs_some h
    obtain ⟨fs, e1, e2⟩ := xgR_some h0
    refine px_get rfl e1 e2 rfl ?_
    refine px_ld rfl rfl rfl rfl rfl ?_
    refine px_ifeq rfl (by decide) rfl (fun hc => ?_) (fun hc => ?_)
    · replace h := (if_pos hc).symm.trans h
      refine px_ic (k := 8) rfl rfl rfl ?_
      refine px_ld rfl rfl rfl rfl rfl ?_
      refine px_alu rfl rfl rfl ?_
      refine px_ld rfl rfl rfl rfl rfl ?_
      refine px_alu rfl rfl rfl ?_
      refine px_forget (n := 4) (lv' := [_, _, _, _, _, _, _, _, _]) rfl ?_
      exact (r_M_sum_74 h :)
    · replace h := (if_neg hc).symm.trans h
      refine px_ic (k := 0) rfl rfl rfl ?_
      refine px_goto rfl (by decide) rfl ?_
      refine px_forget (n := 4) (lv' := [_, _, _, _, _, _, _, _, _]) rfl ?_
      exact (r_M_sum_74 h :)
def f_M_sum_42 (F : Nat) (a0 : Nat) (a1 : Int32) (a2 : Int32) (a3 : Int32) (ph : px_H) : Option (Int64 × px_H) :=
  f_M_sum_47 F a0 a1 a2 a3 (nI 1) ph
theorem r_M_sum_42 {l : Launch} {g : px_G} {d F : Nat} {a0 : Nat} {a1 : Int32} {a2 : Int32} {a3 : Int32} {ph : px_H} {r : Int64} {ph' : px_H} (h : f_M_sum_42 F a0 a1 a2 a3 ph = some (r, ph')) : PW l g (d + 4) m_M_sum 42 [.ref a0, .int a1, .int a2, .int a3, px_u, px_u, px_u, px_u, px_u] [] ph (px_qJ r ph') := by
  unfold f_M_sum_42 at h
  refine px_ic (k := 1) rfl rfl rfl ?_
  refine px_goto rfl (by decide) rfl ?_
  exact (r_M_sum_47 h :)
def f_M_sum_38 (F : Nat) (a0 : Nat) (a1 : Int32) (a2 : Int32) (a3 : Int32) (s0 : Int32) (s1 : Nat) (s2 : Int32) (ph : px_H) : Option (Int64 × px_H) :=
  (xaI ph 1 s1 s2).bind fun t1 =>
  if s0 < t1 then
    f_M_sum_47 F a0 a1 a2 a3 (nI 0) ph
  else
    f_M_sum_42 F a0 a1 a2 a3 ph
theorem r_M_sum_38 {l : Launch} {g : px_G} {d F : Nat} {a0 : Nat} {a1 : Int32} {a2 : Int32} {a3 : Int32} {s0 : Int32} {s1 : Nat} {s2 : Int32} {ph : px_H} {r : Int64} {ph' : px_H} (h : f_M_sum_38 F a0 a1 a2 a3 s0 s1 s2 ph = some (r, ph')) : PW l g (d + 4) m_M_sum 38 [.ref a0, .int a1, .int a2, .int a3, px_u, px_u, px_u, px_u, px_u] [.int s2, .ref s1, .int s0] ph (px_qJ r ph') := by
  unfold f_M_sum_38 at h
  obtain ⟨t1, h0, h⟩ := xs_some h
  obtain ⟨N, f, e1, e2, e3⟩ := xaI_some h0
  subst e3
  refine px_iald rfl e1 rfl e2 rfl ?_
  refine px_iclt rfl (by decide) rfl (fun hc => ?_) (fun hc => ?_)
  · replace h := (if_pos hc).symm.trans h
    refine px_ic (k := 0) rfl rfl rfl ?_
    exact (r_M_sum_47 h :)
  · replace h := (if_neg hc).symm.trans h
    exact (r_M_sum_42 h :)
def f_M_sum_33 (F : Nat) (a0 : Nat) (a1 : Int32) (a2 : Int32) (a3 : Int32) (s0 : Int32) (s1 : Nat) (ph : px_H) : Option (Int64 × px_H) :=
  f_M_sum_38 F a0 a1 a2 a3 s0 s1 (nI 0) ph
theorem r_M_sum_33 {l : Launch} {g : px_G} {d F : Nat} {a0 : Nat} {a1 : Int32} {a2 : Int32} {a3 : Int32} {s0 : Int32} {s1 : Nat} {ph : px_H} {r : Int64} {ph' : px_H} (h : f_M_sum_33 F a0 a1 a2 a3 s0 s1 ph = some (r, ph')) : PW l g (d + 4) m_M_sum 33 [.ref a0, .int a1, .int a2, .int a3, px_u, px_u, px_u, px_u, px_u] [.ref s1, .int s0] ph (px_qJ r ph') := by
  unfold f_M_sum_33 at h
  refine px_ic (k := 0) rfl rfl rfl ?_
  refine px_goto rfl (by decide) rfl ?_
  exact (r_M_sum_38 h :)
def f_M_sum (F : Nat) (a0 : Nat) (a1 : Int32) (a2 : Int32) (a3 : Int32) (ph : px_H) : Option (Int64 × px_H) :=
  if a1 < 0 then
    f_M_sum_42 F a0 a1 a2 a3 ph
  else
    (xgI ph 12 5 a0).bind fun t1 =>
    if t1 ≤ a1 then
      f_M_sum_42 F a0 a1 a2 a3 ph
    else
      if a2 < 0 then
        f_M_sum_42 F a0 a1 a2 a3 ph
      else
        (xgR ph 12 8 a0).bind fun t2 =>
        if a1 < 0 then
          f_M_sum_33 F a0 a1 a2 a3 a2 t2 ph
        else
          (xgI ph 12 5 a0).bind fun t3 =>
          if a1 < t3 then
            f_M_sum_38 F a0 a1 a2 a3 a2 t2 a1 ph
          else
            f_M_sum_33 F a0 a1 a2 a3 a2 t2 ph
theorem r_M_sum {l : Launch} {g : px_G} {d F : Nat} {a0 : Nat} {a1 : Int32} {a2 : Int32} {a3 : Int32} {ph : px_H} {r : Int64} {ph' : px_H} (h : f_M_sum F a0 a1 a2 a3 ph = some (r, ph')) : PW l g (d + 4) m_M_sum 0 [.ref a0, .int a1, .int a2, .int a3, px_u, px_u, px_u, px_u, px_u] [] ph (px_qJ r ph') := by
  unfold f_M_sum at h
  refine px_ld rfl rfl rfl rfl rfl ?_
  refine px_iflt rfl (by decide) rfl (fun hc => ?_) (fun hc => ?_)
  · replace h := (if_pos hc).symm.trans h
    exact (r_M_sum_42 h :)
  · replace h := (if_neg hc).symm.trans h
    refine px_ld rfl rfl rfl rfl rfl ?_
    refine px_ld rfl rfl rfl rfl rfl ?_
    obtain ⟨t1, h0, h⟩ := xs_some h
    obtain ⟨fs, e1, e2⟩ := xgI_some h0
    refine px_get rfl e1 e2 rfl ?_
    refine px_icge rfl (by decide) rfl (fun hc => ?_) (fun hc => ?_)
    · replace h := (if_pos hc).symm.trans h
      exact (r_M_sum_42 h :)
    · replace h := (if_neg hc).symm.trans h
      refine px_ld rfl rfl rfl rfl rfl ?_
      refine px_iflt rfl (by decide) rfl (fun hc => ?_) (fun hc => ?_)
      · replace h := (if_pos hc).symm.trans h
        exact (r_M_sum_42 h :)
      · replace h := (if_neg hc).symm.trans h
        refine px_ld rfl rfl rfl rfl rfl ?_
        refine px_ld rfl rfl rfl rfl rfl ?_
        obtain ⟨t2, h0, h⟩ := xs_some h
        obtain ⟨fs, e1, e2⟩ := xgR_some h0
        refine px_get rfl e1 e2 rfl ?_
        refine px_ld rfl rfl rfl rfl rfl ?_
        refine px_iflt rfl (by decide) rfl (fun hc => ?_) (fun hc => ?_)
        · replace h := (if_pos hc).symm.trans h
          exact (r_M_sum_33 h :)
        · replace h := (if_neg hc).symm.trans h
          refine px_ld rfl rfl rfl rfl rfl ?_
          refine px_ld rfl rfl rfl rfl rfl ?_
          obtain ⟨t3, h0, h⟩ := xs_some h
          obtain ⟨fs, e1, e2⟩ := xgI_some h0
          refine px_get rfl e1 e2 rfl ?_
          refine px_iclt rfl (by decide) rfl (fun hc => ?_) (fun hc => ?_)
          · replace h := (if_pos hc).symm.trans h
            refine px_ld rfl rfl rfl rfl rfl ?_
            exact (r_M_sum_38 h :)
          · replace h := (if_neg hc).symm.trans h
            exact (r_M_sum_33 h :)
def f_M_part (F : Nat) (a0 : Nat) (a1 : Int32) (a2 : Int32) (ph : px_H) : Option (Unit × px_H) :=
  (xgI ph 12 123 a0).bind fun t1 =>
  if t1 = (nI 22) then
    (xpZ ph 12 126 a0 (nI 1)).bind fun ph13 =>
    some ((), ph13)
  else
    (xgR ph 12 117 a0).bind fun t2 =>
    (xgI ph 12 123 a0).bind fun t3 =>
    (xsI ph 1 t2 (((nI 24) * a1) + a2) t3).bind fun ph4 =>
    (xgR ph4 12 120 a0).bind fun t5 =>
    (xgI ph4 12 123 a0).bind fun t6 =>
    (xsI ph4 1 t5 t6 a1).bind fun ph7 =>
    (xgR ph7 12 121 a0).bind fun t8 =>
    (xgI ph7 12 123 a0).bind fun t9 =>
    (xsI ph7 1 t8 t9 a2).bind fun ph10 =>
    (xgI ph10 12 123 a0).bind fun t11 =>
    (xpI ph10 12 123 a0 (t11 + (nI 1))).bind fun ph12 =>
    some ((), ph12)
theorem r_M_part {l : Launch} {g : px_G} {d F : Nat} {a0 : Nat} {a1 : Int32} {a2 : Int32} {ph : px_H} {r : Unit} {ph' : px_H} (h : f_M_part F a0 a1 a2 ph = some (r, ph')) : PW l g (d + 0) m_M_part 0 [.ref a0, .int a1, .int a2] [] ph (px_qV r ph') := by
  unfold f_M_part at h
  refine px_ld rfl rfl rfl rfl rfl ?_
  obtain ⟨t1, h0, h⟩ := xs_some h
  obtain ⟨fs, e1, e2⟩ := xgI_some h0
  refine px_get rfl e1 e2 rfl ?_
  refine px_ic (k := 22) rfl rfl rfl ?_
  refine px_icne rfl rfl rfl (fun hc => ?_) (fun hc => ?_)
  · replace h := (if_neg hc).symm.trans h
    refine px_ld rfl rfl rfl rfl rfl ?_
    obtain ⟨t2, h0, h⟩ := xs_some h
    obtain ⟨fs, e1, e2⟩ := xgR_some h0
    refine px_get rfl e1 e2 rfl ?_
    refine px_ic (k := 24) rfl rfl rfl ?_
    refine px_ld rfl rfl rfl rfl rfl ?_
    refine px_alu rfl rfl rfl ?_
    refine px_ld rfl rfl rfl rfl rfl ?_
    refine px_alu rfl rfl rfl ?_
    refine px_ld rfl rfl rfl rfl rfl ?_
    obtain ⟨t3, h0, h⟩ := xs_some h
    obtain ⟨fs, e1, e2⟩ := xgI_some h0
    refine px_get rfl e1 e2 rfl ?_
    obtain ⟨ph4, h0, h⟩ := xs_some h
    obtain ⟨N, f, e1, e2, e3⟩ := xsI_some h0
    subst e3
    refine px_iast rfl e1 rfl e2 rfl ?_
    refine px_ld rfl rfl rfl rfl rfl ?_
    obtain ⟨t5, h0, h⟩ := xs_some h
    obtain ⟨fs, e1, e2⟩ := xgR_some h0
    refine px_get rfl e1 e2 rfl ?_
    refine px_ld rfl rfl rfl rfl rfl ?_
    obtain ⟨t6, h0, h⟩ := xs_some h
    obtain ⟨fs, e1, e2⟩ := xgI_some h0
    refine px_get rfl e1 e2 rfl ?_
    refine px_ld rfl rfl rfl rfl rfl ?_
    obtain ⟨ph7, h0, h⟩ := xs_some h
    obtain ⟨N, f, e1, e2, e3⟩ := xsI_some h0
    subst e3
    refine px_iast rfl e1 rfl e2 rfl ?_
    refine px_ld rfl rfl rfl rfl rfl ?_
    obtain ⟨t8, h0, h⟩ := xs_some h
    obtain ⟨fs, e1, e2⟩ := xgR_some h0
    refine px_get rfl e1 e2 rfl ?_
    refine px_ld rfl rfl rfl rfl rfl ?_
    obtain ⟨t9, h0, h⟩ := xs_some h
    obtain ⟨fs, e1, e2⟩ := xgI_some h0
    refine px_get rfl e1 e2 rfl ?_
    refine px_ld rfl rfl rfl rfl rfl ?_
    obtain ⟨ph10, h0, h⟩ := xs_some h
    obtain ⟨N, f, e1, e2, e3⟩ := xsI_some h0
    subst e3
    refine px_iast rfl e1 rfl e2 rfl ?_
    refine px_ld rfl rfl rfl rfl rfl ?_
    refine px_alu rfl rfl rfl ?_
    obtain ⟨t11, h0, h⟩ := xs_some h
    obtain ⟨fs, e1, e2⟩ := xgI_some h0
    refine px_get rfl e1 e2 rfl ?_
    refine px_ic (k := 1) rfl rfl rfl ?_
    refine px_alu rfl rfl rfl ?_
    obtain ⟨ph12, h0, h⟩ := xs_some h
    obtain ⟨fs, e1, e2, e3⟩ := xpI_some h0
    subst e3
    refine px_put rfl e1 e2 trivial rfl ?_
    cases h
    exact px_vret rfl rfl rfl ⟨rfl, rfl⟩
  · replace h := (if_pos hc).symm.trans h
    refine px_ld rfl rfl rfl rfl rfl ?_
    refine px_ic (k := 1) rfl rfl rfl ?_
    obtain ⟨ph13, h0, h⟩ := xs_some h
    obtain ⟨fs, e1, e2, e3, e4⟩ := xpZ_some h0
    subst e3
    refine px_put rfl e1 e2 e4 rfl ?_
    cases h
    exact px_vret rfl rfl rfl ⟨rfl, rfl⟩
def f_M_countParts_111 (F : Nat) (ph : px_H) : Option (Unit × px_H) :=
  some ((), ph)
theorem r_M_countParts_111 {l : Launch} {g : px_G} {d F : Nat} {ph : px_H} {r : Unit} {ph' : px_H} (h : f_M_countParts_111 F ph = some (r, ph')) : PW l g (d + 5) m_M_countParts 111 [px_u, px_u, px_u, px_u] [] ph (px_qV r ph') := by
  unfold f_M_countParts_111 at h
  cases h
  exact px_vret rfl rfl rfl ⟨rfl, rfl⟩
def f_M_countParts_105 (F : Nat) (k12 : Nat → Int32 → px_H → Option (Unit × px_H)) (a0 : Nat) (a1 : Int32) (ph : px_H) : Option (Unit × px_H) :=
  k12 a0 (a1 + nI 1) ph
theorem r_M_countParts_105 {l : Launch} {g : px_G} {d F : Nat} {k12 : Nat → Int32 → px_H → Option (Unit × px_H)} (hk12 : ∀ {a0 : Nat} {a1 : Int32} {ph : px_H} {r : Unit} {ph' : px_H}, k12 a0 a1 ph = some (r, ph') → PW l g (d + 5) m_M_countParts 12 [.ref a0, .int a1, px_u, px_u] [] ph (px_qV r ph')) {a0 : Nat} {a1 : Int32} {ph : px_H} {r : Unit} {ph' : px_H} (h : f_M_countParts_105 F k12 a0 a1 ph = some (r, ph')) : PW l g (d + 5) m_M_countParts 105 [.ref a0, .int a1, px_u, px_u] [] ph (px_qV r ph') := by
  unfold f_M_countParts_105 at h
  refine px_iinc (lv' := [_, _, _, _]) rfl rfl rfl rfl rfl rfl ?_
  refine px_goto rfl (by decide) rfl ?_
  exact (hk12 h :)
def f_M_countParts_99 (F : Nat) (k12 : Nat → Int32 → px_H → Option (Unit × px_H)) (k60 : Nat → Int32 → Int32 → Int32 → px_H → Option (Unit × px_H)) (a0 : Nat) (a1 : Int32) (a2 : Int32) (a3 : Int32) (ph : px_H) : Option (Unit × px_H) :=
  k60 a0 a1 a2 (a3 + nI 1) ph
theorem r_M_countParts_99 {l : Launch} {g : px_G} {d F : Nat} {k12 : Nat → Int32 → px_H → Option (Unit × px_H)} (hk12 : ∀ {a0 : Nat} {a1 : Int32} {ph : px_H} {r : Unit} {ph' : px_H}, k12 a0 a1 ph = some (r, ph') → PW l g (d + 5) m_M_countParts 12 [.ref a0, .int a1, px_u, px_u] [] ph (px_qV r ph')) {k60 : Nat → Int32 → Int32 → Int32 → px_H → Option (Unit × px_H)} (hk60 : ∀ {a0 : Nat} {a1 : Int32} {a2 : Int32} {a3 : Int32} {ph : px_H} {r : Unit} {ph' : px_H}, k60 a0 a1 a2 a3 ph = some (r, ph') → PW l g (d + 5) m_M_countParts 60 [.ref a0, .int a1, .int a2, .int a3] [] ph (px_qV r ph')) {a0 : Nat} {a1 : Int32} {a2 : Int32} {a3 : Int32} {ph : px_H} {r : Unit} {ph' : px_H} (h : f_M_countParts_99 F k12 k60 a0 a1 a2 a3 ph = some (r, ph')) : PW l g (d + 5) m_M_countParts 99 [.ref a0, .int a1, .int a2, .int a3] [] ph (px_qV r ph') := by
  unfold f_M_countParts_99 at h
  refine px_iinc (lv' := [_, _, _, _]) rfl rfl rfl rfl rfl rfl ?_
  refine px_goto rfl (by decide) rfl ?_
  exact (hk60 h :)
def f_M_countParts_60 (F : Nat) (k12 : Nat → Int32 → px_H → Option (Unit × px_H)) : Nat → Nat → Int32 → Int32 → Int32 → px_H → Option (Unit × px_H)
  | 0, _, _, _, _, _ => none
  | n + 1, a0, a1, a2, a3, ph =>
    (xo ph 12 a0).bind fun _ =>
    xb (f_M_sections F a0 a2 ph) fun t1 ph2 =>
    if t1 ≤ a3 then
      f_M_countParts_105 F k12 a0 a1 ph2
    else
      (xo ph2 12 a0).bind fun _ =>
      xb (f_M_isSites F a0 a2 a3 ph2) fun t3 ph4 =>
      if t3 = 0 then
        f_M_countParts_99 F k12 (f_M_countParts_60 F k12 n) a0 a1 a2 a3 ph4
      else
        (xo ph4 12 a0).bind fun _ =>
        xb (f_M_info F a0 a2 a3 ph4) fun t5 ph6 =>
        (xo ph6 12 a0).bind fun _ =>
        xb (f_M_stays F a0 a1 t5.toInt32 ph6) fun t7 ph8 =>
        if t7 = 0 then
          f_M_countParts_99 F k12 (f_M_countParts_60 F k12 n) a0 a1 a2 a3 ph8
        else
          (xo ph8 12 a0).bind fun _ =>
          xb (f_M_part F a0 a1 a3 ph8) fun _ ph9 =>
          f_M_countParts_99 F k12 (f_M_countParts_60 F k12 n) a0 a1 a2 a3 ph9
theorem r_M_countParts_60 {l : Launch} {g : px_G} {d F : Nat} {k12 : Nat → Int32 → px_H → Option (Unit × px_H)} (hk12 : ∀ {a0 : Nat} {a1 : Int32} {ph : px_H} {r : Unit} {ph' : px_H}, k12 a0 a1 ph = some (r, ph') → PW l g (d + 5) m_M_countParts 12 [.ref a0, .int a1, px_u, px_u] [] ph (px_qV r ph')) : ∀ (n : Nat) {a0 : Nat} {a1 : Int32} {a2 : Int32} {a3 : Int32} {ph : px_H} {r : Unit} {ph' : px_H}, f_M_countParts_60 F k12 n a0 a1 a2 a3 ph = some (r, ph') → PW l g (d + 5) m_M_countParts 60 [.ref a0, .int a1, .int a2, .int a3] [] ph (px_qV r ph') := by
  intro n
  induction n with
  | zero => intro _ _ _ _ _ _ _ h; cases h
  | succ n ih =>
    intro a0 a1 a2 a3 ph r ph' h
    unfold f_M_countParts_60 at h
    refine px_ld rfl rfl rfl rfl rfl ?_
    refine px_ld rfl rfl rfl rfl rfl ?_
    refine px_ld rfl rfl rfl rfl rfl ?_
    obtain ⟨fs, h0, h⟩ := xs_some h
    have e1 := xo_some h0
    obtain ⟨t1, ph2, h0, h⟩ := xb_some h
    refine px_cV1 rfl rfl e1 rfl rfl rfl rfl rfl rfl rfl (r_M_sections h0 :) (fun _ _ q => nomatch q.2) (fun r ph' q => ?_)
    obtain ⟨rfl, q⟩ := q
    cases q
    refine px_icge rfl (by decide) rfl (fun hc => ?_) (fun hc => ?_)
    · replace h := (if_pos hc).symm.trans h
      refine px_forget (n := 2) (lv' := [_, _, _, _]) rfl ?_
      refine px_forget (n := 3) (lv' := [_, _, _, _]) rfl ?_
      exact (r_M_countParts_105 @hk12 h :)
    · replace h := (if_neg hc).symm.trans h
      refine px_ld rfl rfl rfl rfl rfl ?_
      refine px_ld rfl rfl rfl rfl rfl ?_
      refine px_ld rfl rfl rfl rfl rfl ?_
      obtain ⟨fs, h0, h⟩ := xs_some h
      have e1 := xo_some h0
      obtain ⟨t3, ph4, h0, h⟩ := xb_some h
      refine px_cV2 rfl rfl e1 rfl rfl rfl rfl rfl rfl rfl (r_M_isSites h0 :) (fun _ _ q => nomatch q.2) (fun r ph' q => ?_)
      obtain ⟨rfl, q⟩ := q
      cases q
      refine px_ifeq rfl (by decide) rfl (fun hc => ?_) (fun hc => ?_)
      · replace h := (if_pos hc).symm.trans h
        exact (r_M_countParts_99 @hk12 @ih h :)
      · replace h := (if_neg hc).symm.trans h
        refine px_ld rfl rfl rfl rfl rfl ?_
        refine px_ld rfl rfl rfl rfl rfl ?_
        refine px_ld rfl rfl rfl rfl rfl ?_
        refine px_ld rfl rfl rfl rfl rfl ?_
        refine px_ld rfl rfl rfl rfl rfl ?_
        obtain ⟨fs, h0, h⟩ := xs_some h
        have e1 := xo_some h0
        obtain ⟨t5, ph6, h0, h⟩ := xb_some h
        refine px_cV2 rfl rfl e1 rfl rfl rfl rfl rfl rfl rfl (r_M_info h0 :) (fun _ _ q => nomatch q.2) (fun r ph' q => ?_)
        obtain ⟨rfl, q⟩ := q
        cases q
        refine px_alu rfl rfl rfl ?_
        obtain ⟨fs, h0, h⟩ := xs_some h
        have e1 := xo_some h0
        obtain ⟨t7, ph8, h0, h⟩ := xb_some h
        refine px_cV2 rfl rfl e1 rfl rfl rfl rfl rfl rfl rfl (r_M_stays h0 :) (fun _ _ q => nomatch q.2) (fun r ph' q => ?_)
        obtain ⟨rfl, q⟩ := q
        cases q
        refine px_ifeq rfl (by decide) rfl (fun hc => ?_) (fun hc => ?_)
        · replace h := (if_pos hc).symm.trans h
          exact (r_M_countParts_99 @hk12 @ih h :)
        · replace h := (if_neg hc).symm.trans h
          refine px_ld rfl rfl rfl rfl rfl ?_
          refine px_ld rfl rfl rfl rfl rfl ?_
          refine px_ld rfl rfl rfl rfl rfl ?_
          obtain ⟨fs, h0, h⟩ := xs_some h
          have e1 := xo_some h0
          obtain ⟨u0, ph9, h0, h⟩ := xb_some h
          refine px_cV2 rfl rfl e1 rfl rfl rfl rfl rfl rfl rfl (r_M_part h0 :) (fun _ _ q => nomatch q.2) (fun r ph' q => ?_)
          obtain ⟨rfl, q⟩ := q
          cases q
          exact (r_M_countParts_99 @hk12 @ih h :)
def f_M_countParts_58 (F : Nat) (k12 : Nat → Int32 → px_H → Option (Unit × px_H)) (a0 : Nat) (a1 : Int32) (a2 : Int32) (ph : px_H) : Option (Unit × px_H) :=
  f_M_countParts_60 F k12 F a0 a1 a2 (nI 1) ph
theorem r_M_countParts_58 {l : Launch} {g : px_G} {d F : Nat} {k12 : Nat → Int32 → px_H → Option (Unit × px_H)} (hk12 : ∀ {a0 : Nat} {a1 : Int32} {ph : px_H} {r : Unit} {ph' : px_H}, k12 a0 a1 ph = some (r, ph') → PW l g (d + 5) m_M_countParts 12 [.ref a0, .int a1, px_u, px_u] [] ph (px_qV r ph')) {a0 : Nat} {a1 : Int32} {a2 : Int32} {ph : px_H} {r : Unit} {ph' : px_H} (h : f_M_countParts_58 F k12 a0 a1 a2 ph = some (r, ph')) : PW l g (d + 5) m_M_countParts 58 [.ref a0, .int a1, .int a2, px_u] [] ph (px_qV r ph') := by
  unfold f_M_countParts_58 at h
  refine px_ic (k := 1) rfl rfl rfl ?_
  refine px_st (lv' := [_, _, _, _]) rfl rfl rfl rfl rfl rfl rfl ?_
  exact (r_M_countParts_60 @hk12 _ h :)
def f_M_countParts_52 (F : Nat) (k12 : Nat → Int32 → px_H → Option (Unit × px_H)) (k28 : Nat → Int32 → Int32 → Int32 → px_H → Option (Unit × px_H)) (a0 : Nat) (a1 : Int32) (a2 : Int32) (a3 : Int32) (ph : px_H) : Option (Unit × px_H) :=
  k28 a0 a1 a2 (a3 + nI 1) ph
theorem r_M_countParts_52 {l : Launch} {g : px_G} {d F : Nat} {k12 : Nat → Int32 → px_H → Option (Unit × px_H)} (hk12 : ∀ {a0 : Nat} {a1 : Int32} {ph : px_H} {r : Unit} {ph' : px_H}, k12 a0 a1 ph = some (r, ph') → PW l g (d + 5) m_M_countParts 12 [.ref a0, .int a1, px_u, px_u] [] ph (px_qV r ph')) {k28 : Nat → Int32 → Int32 → Int32 → px_H → Option (Unit × px_H)} (hk28 : ∀ {a0 : Nat} {a1 : Int32} {a2 : Int32} {a3 : Int32} {ph : px_H} {r : Unit} {ph' : px_H}, k28 a0 a1 a2 a3 ph = some (r, ph') → PW l g (d + 5) m_M_countParts 28 [.ref a0, .int a1, .int a2, .int a3] [] ph (px_qV r ph')) {a0 : Nat} {a1 : Int32} {a2 : Int32} {a3 : Int32} {ph : px_H} {r : Unit} {ph' : px_H} (h : f_M_countParts_52 F k12 k28 a0 a1 a2 a3 ph = some (r, ph')) : PW l g (d + 5) m_M_countParts 52 [.ref a0, .int a1, .int a2, .int a3] [] ph (px_qV r ph') := by
  unfold f_M_countParts_52 at h
  refine px_iinc (lv' := [_, _, _, _]) rfl rfl rfl rfl rfl rfl ?_
  refine px_goto rfl (by decide) rfl ?_
  exact (hk28 h :)
def f_M_countParts_28 (F : Nat) (k12 : Nat → Int32 → px_H → Option (Unit × px_H)) : Nat → Nat → Int32 → Int32 → Int32 → px_H → Option (Unit × px_H)
  | 0, _, _, _, _, _ => none
  | n + 1, a0, a1, a2, a3, ph =>
    (xo ph 12 a0).bind fun _ =>
    xb (f_M_sections F a0 a2 ph) fun t1 ph2 =>
    if t1 ≤ a3 then
      f_M_countParts_58 F k12 a0 a1 a2 ph2
    else
      (xo ph2 12 a0).bind fun _ =>
      xb (f_M_stays F a0 a1 a3 ph2) fun t3 ph4 =>
      if t3 = 0 then
        f_M_countParts_52 F k12 (f_M_countParts_28 F k12 n) a0 a1 a2 a3 ph4
      else
        (xo ph4 12 a0).bind fun _ =>
        xb (f_M_part F a0 a1 a3 ph4) fun _ ph5 =>
        f_M_countParts_52 F k12 (f_M_countParts_28 F k12 n) a0 a1 a2 a3 ph5
theorem r_M_countParts_28 {l : Launch} {g : px_G} {d F : Nat} {k12 : Nat → Int32 → px_H → Option (Unit × px_H)} (hk12 : ∀ {a0 : Nat} {a1 : Int32} {ph : px_H} {r : Unit} {ph' : px_H}, k12 a0 a1 ph = some (r, ph') → PW l g (d + 5) m_M_countParts 12 [.ref a0, .int a1, px_u, px_u] [] ph (px_qV r ph')) : ∀ (n : Nat) {a0 : Nat} {a1 : Int32} {a2 : Int32} {a3 : Int32} {ph : px_H} {r : Unit} {ph' : px_H}, f_M_countParts_28 F k12 n a0 a1 a2 a3 ph = some (r, ph') → PW l g (d + 5) m_M_countParts 28 [.ref a0, .int a1, .int a2, .int a3] [] ph (px_qV r ph') := by
  intro n
  induction n with
  | zero => intro _ _ _ _ _ _ _ h; cases h
  | succ n ih =>
    intro a0 a1 a2 a3 ph r ph' h
    unfold f_M_countParts_28 at h
    refine px_ld rfl rfl rfl rfl rfl ?_
    refine px_ld rfl rfl rfl rfl rfl ?_
    refine px_ld rfl rfl rfl rfl rfl ?_
    obtain ⟨fs, h0, h⟩ := xs_some h
    have e1 := xo_some h0
    obtain ⟨t1, ph2, h0, h⟩ := xb_some h
    refine px_cV1 rfl rfl e1 rfl rfl rfl rfl rfl rfl rfl (r_M_sections h0 :) (fun _ _ q => nomatch q.2) (fun r ph' q => ?_)
    obtain ⟨rfl, q⟩ := q
    cases q
    refine px_icge rfl (by decide) rfl (fun hc => ?_) (fun hc => ?_)
    · replace h := (if_pos hc).symm.trans h
      refine px_forget (n := 3) (lv' := [_, _, _, _]) rfl ?_
      exact (r_M_countParts_58 @hk12 h :)
    · replace h := (if_neg hc).symm.trans h
      refine px_ld rfl rfl rfl rfl rfl ?_
      refine px_ld rfl rfl rfl rfl rfl ?_
      refine px_ld rfl rfl rfl rfl rfl ?_
      obtain ⟨fs, h0, h⟩ := xs_some h
      have e1 := xo_some h0
      obtain ⟨t3, ph4, h0, h⟩ := xb_some h
      refine px_cV2 rfl rfl e1 rfl rfl rfl rfl rfl rfl rfl (r_M_stays h0 :) (fun _ _ q => nomatch q.2) (fun r ph' q => ?_)
      obtain ⟨rfl, q⟩ := q
      cases q
      refine px_ifeq rfl (by decide) rfl (fun hc => ?_) (fun hc => ?_)
      · replace h := (if_pos hc).symm.trans h
        exact (r_M_countParts_52 @hk12 @ih h :)
      · replace h := (if_neg hc).symm.trans h
        refine px_ld rfl rfl rfl rfl rfl ?_
        refine px_ld rfl rfl rfl rfl rfl ?_
        refine px_ld rfl rfl rfl rfl rfl ?_
        obtain ⟨fs, h0, h⟩ := xs_some h
        have e1 := xo_some h0
        obtain ⟨u0, ph5, h0, h⟩ := xb_some h
        refine px_cV2 rfl rfl e1 rfl rfl rfl rfl rfl rfl rfl (r_M_part h0 :) (fun _ _ q => nomatch q.2) (fun r ph' q => ?_)
        obtain ⟨rfl, q⟩ := q
        cases q
        exact (r_M_countParts_52 @hk12 @ih h :)
def f_M_countParts_12 (F : Nat) : Nat → Nat → Int32 → px_H → Option (Unit × px_H)
  | 0, _, _, _ => none
  | n + 1, a0, a1, ph =>
    (xgI ph 12 14 a0).bind fun t1 =>
    if t1 ≤ a1 then
      f_M_countParts_111 F ph
    else
      (xo ph 12 a0).bind fun _ =>
      xb (f_M_object F a0 a1 ph) fun t2 ph3 =>
      f_M_countParts_28 F (f_M_countParts_12 F n) F a0 a1 t2 (nI 1) ph3
theorem r_M_countParts_12 {l : Launch} {g : px_G} {d F : Nat} : ∀ (n : Nat) {a0 : Nat} {a1 : Int32} {ph : px_H} {r : Unit} {ph' : px_H}, f_M_countParts_12 F n a0 a1 ph = some (r, ph') → PW l g (d + 5) m_M_countParts 12 [.ref a0, .int a1, px_u, px_u] [] ph (px_qV r ph') := by
  intro n
  induction n with
  | zero => intro _ _ _ _ _ h; cases h
  | succ n ih =>
    intro a0 a1 ph r ph' h
    unfold f_M_countParts_12 at h
    refine px_ld rfl rfl rfl rfl rfl ?_
    refine px_ld rfl rfl rfl rfl rfl ?_
    obtain ⟨t1, h0, h⟩ := xs_some h
    obtain ⟨fs, e1, e2⟩ := xgI_some h0
    refine px_get rfl e1 e2 rfl ?_
    refine px_icge rfl (by decide) rfl (fun hc => ?_) (fun hc => ?_)
    · replace h := (if_pos hc).symm.trans h
      refine px_forget (n := 0) (lv' := [_, _, _, _]) rfl ?_
      refine px_forget (n := 1) (lv' := [_, _, _, _]) rfl ?_
      exact (r_M_countParts_111 h :)
    · replace h := (if_neg hc).symm.trans h
      refine px_ld rfl rfl rfl rfl rfl ?_
      refine px_ld rfl rfl rfl rfl rfl ?_
      obtain ⟨fs, h0, h⟩ := xs_some h
      have e1 := xo_some h0
      obtain ⟨t2, ph3, h0, h⟩ := xb_some h
      refine px_cV1 rfl rfl e1 rfl rfl rfl rfl rfl rfl rfl (r_M_object h0 :) (fun _ _ q => nomatch q.2) (fun r ph' q => ?_)
      obtain ⟨rfl, q⟩ := q
      cases q
      refine px_st (lv' := [_, _, _, _]) rfl rfl rfl rfl rfl rfl rfl ?_
      refine px_ic (k := 1) rfl rfl rfl ?_
      refine px_st (lv' := [_, _, _, _]) rfl rfl rfl rfl rfl rfl rfl ?_
      exact (r_M_countParts_28 @ih _ h :)
def f_M_countParts (F : Nat) (a0 : Nat) (ph : px_H) : Option (Unit × px_H) :=
  (xpI ph 12 123 a0 (nI 1)).bind fun ph1 =>
  (xpZ ph1 12 126 a0 (nI 0)).bind fun ph2 =>
  f_M_countParts_12 F F a0 (nI 0) ph2
theorem r_M_countParts {l : Launch} {g : px_G} {d F : Nat} {a0 : Nat} {ph : px_H} {r : Unit} {ph' : px_H} (h : f_M_countParts F a0 ph = some (r, ph')) : PW l g (d + 5) m_M_countParts 0 [.ref a0, px_u, px_u, px_u] [] ph (px_qV r ph') := by
  unfold f_M_countParts at h
  refine px_ld rfl rfl rfl rfl rfl ?_
  refine px_ic (k := 1) rfl rfl rfl ?_
  obtain ⟨ph1, h0, h⟩ := xs_some h
  obtain ⟨fs, e1, e2, e3⟩ := xpI_some h0
  subst e3
  refine px_put rfl e1 e2 trivial rfl ?_
  refine px_ld rfl rfl rfl rfl rfl ?_
  refine px_ic (k := 0) rfl rfl rfl ?_
  obtain ⟨ph2, h0, h⟩ := xs_some h
  obtain ⟨fs, e1, e2, e3, e4⟩ := xpZ_some h0
  subst e3
  refine px_put rfl e1 e2 e4 rfl ?_
  refine px_ic (k := 0) rfl rfl rfl ?_
  refine px_st (lv' := [_, _, _, _]) rfl rfl rfl rfl rfl rfl rfl ?_
  exact (r_M_countParts_12 _ h :)
def f_M_numberName_19 (F : Nat) (a0 : Nat) (a1 : Int32) (ph : px_H) : Option (Unit × px_H) :=
  (xgR ph 12 119 a0).bind fun t1 =>
  (xgI ph 12 125 a0).bind fun t2 =>
  (xsI ph 1 t1 a1 t2).bind fun ph3 =>
  (xgI ph3 12 125 a0).bind fun t4 =>
  (xpI ph3 12 125 a0 (t4 + (nI 1))).bind fun ph5 =>
  some ((), ph5)
theorem r_M_numberName_19 {l : Launch} {g : px_G} {d F : Nat} {a0 : Nat} {a1 : Int32} {ph : px_H} {r : Unit} {ph' : px_H} (h : f_M_numberName_19 F a0 a1 ph = some (r, ph')) : PW l g (d + 0) m_M_numberName 19 [.ref a0, .int a1] [] ph (px_qV r ph') := by
  unfold f_M_numberName_19 at h
  refine px_ld rfl rfl rfl rfl rfl ?_
  obtain ⟨t1, h0, h⟩ := xs_some h
  obtain ⟨fs, e1, e2⟩ := xgR_some h0
  refine px_get rfl e1 e2 rfl ?_
  refine px_ld rfl rfl rfl rfl rfl ?_
  refine px_ld rfl rfl rfl rfl rfl ?_
  obtain ⟨t2, h0, h⟩ := xs_some h
  obtain ⟨fs, e1, e2⟩ := xgI_some h0
  refine px_get rfl e1 e2 rfl ?_
  obtain ⟨ph3, h0, h⟩ := xs_some h
  obtain ⟨N, f, e1, e2, e3⟩ := xsI_some h0
  subst e3
  refine px_iast rfl e1 rfl e2 rfl ?_
  refine px_ld rfl rfl rfl rfl rfl ?_
  refine px_alu rfl rfl rfl ?_
  obtain ⟨t4, h0, h⟩ := xs_some h
  obtain ⟨fs, e1, e2⟩ := xgI_some h0
  refine px_get rfl e1 e2 rfl ?_
  refine px_ic (k := 1) rfl rfl rfl ?_
  refine px_alu rfl rfl rfl ?_
  obtain ⟨ph5, h0, h⟩ := xs_some h
  obtain ⟨fs, e1, e2, e3⟩ := xpI_some h0
  subst e3
  refine px_put rfl e1 e2 trivial rfl ?_
  cases h
  exact px_vret rfl rfl rfl ⟨rfl, rfl⟩
def f_M_numberName (F : Nat) (a0 : Nat) (a1 : Int32) (ph : px_H) : Option (Unit × px_H) :=
  (xgI ph 12 125 a0).bind fun t1 =>
  if (nI 64) ≤ t1 then
    f_M_numberName_19 F a0 a1 ph
  else
    (xgR ph 12 122 a0).bind fun t2 =>
    (xgI ph 12 125 a0).bind fun t3 =>
    (xsI ph 1 t2 t3 a1).bind fun ph4 =>
    f_M_numberName_19 F a0 a1 ph4
theorem r_M_numberName {l : Launch} {g : px_G} {d F : Nat} {a0 : Nat} {a1 : Int32} {ph : px_H} {r : Unit} {ph' : px_H} (h : f_M_numberName F a0 a1 ph = some (r, ph')) : PW l g (d + 0) m_M_numberName 0 [.ref a0, .int a1] [] ph (px_qV r ph') := by
  unfold f_M_numberName at h
  refine px_ld rfl rfl rfl rfl rfl ?_
  obtain ⟨t1, h0, h⟩ := xs_some h
  obtain ⟨fs, e1, e2⟩ := xgI_some h0
  refine px_get rfl e1 e2 rfl ?_
  refine px_ic (k := 64) rfl rfl rfl ?_
  refine px_icge rfl rfl rfl (fun hc => ?_) (fun hc => ?_)
  · replace h := (if_pos hc).symm.trans h
    exact (r_M_numberName_19 h :)
  · replace h := (if_neg hc).symm.trans h
    refine px_ld rfl rfl rfl rfl rfl ?_
    obtain ⟨t2, h0, h⟩ := xs_some h
    obtain ⟨fs, e1, e2⟩ := xgR_some h0
    refine px_get rfl e1 e2 rfl ?_
    refine px_ld rfl rfl rfl rfl rfl ?_
    obtain ⟨t3, h0, h⟩ := xs_some h
    obtain ⟨fs, e1, e2⟩ := xgI_some h0
    refine px_get rfl e1 e2 rfl ?_
    refine px_ld rfl rfl rfl rfl rfl ?_
    obtain ⟨ph4, h0, h⟩ := xs_some h
    obtain ⟨N, f, e1, e2, e3⟩ := xsI_some h0
    subst e3
    refine px_iast rfl e1 rfl e2 rfl ?_
    exact (r_M_numberName_19 h :)
def f_M_countSymbols_157 (F : Nat) (ph : px_H) : Option (Unit × px_H) :=
  some ((), ph)
theorem r_M_countSymbols_157 {l : Launch} {g : px_G} {d F : Nat} {ph : px_H} {r : Unit} {ph' : px_H} (h : f_M_countSymbols_157 F ph = some (r, ph')) : PW l g (d + 6) m_M_countSymbols 157 [px_u, px_u, px_u] [] ph (px_qV r ph') := by
  unfold f_M_countSymbols_157 at h
  cases h
  exact px_vret rfl rfl rfl ⟨rfl, rfl⟩
def f_M_countSymbols_151 (F : Nat) (k119 : Nat → Int32 → px_H → Option (Unit × px_H)) (a0 : Nat) (a1 : Int32) (ph : px_H) : Option (Unit × px_H) :=
  k119 a0 (a1 + nI 1) ph
theorem r_M_countSymbols_151 {l : Launch} {g : px_G} {d F : Nat} {k119 : Nat → Int32 → px_H → Option (Unit × px_H)} (hk119 : ∀ {a0 : Nat} {a1 : Int32} {ph : px_H} {r : Unit} {ph' : px_H}, k119 a0 a1 ph = some (r, ph') → PW l g (d + 6) m_M_countSymbols 119 [.ref a0, .int a1, px_u] [] ph (px_qV r ph')) {a0 : Nat} {a1 : Int32} {ph : px_H} {r : Unit} {ph' : px_H} (h : f_M_countSymbols_151 F k119 a0 a1 ph = some (r, ph')) : PW l g (d + 6) m_M_countSymbols 151 [.ref a0, .int a1, px_u] [] ph (px_qV r ph') := by
  unfold f_M_countSymbols_151 at h
  refine px_iinc (lv' := [_, _, _]) rfl rfl rfl rfl rfl rfl ?_
  refine px_goto rfl (by decide) rfl ?_
  exact (hk119 h :)
def f_M_countSymbols_146 (F : Nat) (k119 : Nat → Int32 → px_H → Option (Unit × px_H)) (a0 : Nat) (a1 : Int32) (ph : px_H) : Option (Unit × px_H) :=
  (xo ph 12 a0).bind fun _ =>
  xb (f_M_numberName F a0 a1 ph) fun _ ph1 =>
  f_M_countSymbols_151 F k119 a0 a1 ph1
theorem r_M_countSymbols_146 {l : Launch} {g : px_G} {d F : Nat} {k119 : Nat → Int32 → px_H → Option (Unit × px_H)} (hk119 : ∀ {a0 : Nat} {a1 : Int32} {ph : px_H} {r : Unit} {ph' : px_H}, k119 a0 a1 ph = some (r, ph') → PW l g (d + 6) m_M_countSymbols 119 [.ref a0, .int a1, px_u] [] ph (px_qV r ph')) {a0 : Nat} {a1 : Int32} {ph : px_H} {r : Unit} {ph' : px_H} (h : f_M_countSymbols_146 F k119 a0 a1 ph = some (r, ph')) : PW l g (d + 6) m_M_countSymbols 146 [.ref a0, .int a1, px_u] [] ph (px_qV r ph') := by
  unfold f_M_countSymbols_146 at h
  refine px_ld rfl rfl rfl rfl rfl ?_
  refine px_ld rfl rfl rfl rfl rfl ?_
  obtain ⟨fs, h0, h⟩ := xs_some h
  have e1 := xo_some h0
  obtain ⟨u0, ph1, h0, h⟩ := xb_some h
  refine px_cV1 rfl rfl e1 rfl rfl rfl rfl rfl rfl rfl (r_M_numberName h0 :) (fun _ _ q => nomatch q.2) (fun r ph' q => ?_)
  obtain ⟨rfl, q⟩ := q
  cases q
  exact (r_M_countSymbols_151 @hk119 h :)
def f_M_countSymbols_119 (F : Nat) : Nat → Nat → Int32 → px_H → Option (Unit × px_H)
  | 0, _, _, _ => none
  | n + 1, a0, a1, ph =>
    (xgI ph 12 20 a0).bind fun t1 =>
    if t1 ≤ a1 then
      f_M_countSymbols_157 F ph
    else
      (xgR ph 12 23 a0).bind fun t2 =>
      (xaI ph 1 t2 a1).bind fun t3 =>
      if t3 = 0 then
        f_M_countSymbols_146 F (f_M_countSymbols_119 F n) a0 a1 ph
      else
        (xgR ph 12 23 a0).bind fun t4 =>
        (xaI ph 1 t4 a1).bind fun t5 =>
        if t5 = (nI 4) then
          f_M_countSymbols_146 F (f_M_countSymbols_119 F n) a0 a1 ph
        else
          f_M_countSymbols_151 F (f_M_countSymbols_119 F n) a0 a1 ph
theorem r_M_countSymbols_119 {l : Launch} {g : px_G} {d F : Nat} : ∀ (n : Nat) {a0 : Nat} {a1 : Int32} {ph : px_H} {r : Unit} {ph' : px_H}, f_M_countSymbols_119 F n a0 a1 ph = some (r, ph') → PW l g (d + 6) m_M_countSymbols 119 [.ref a0, .int a1, px_u] [] ph (px_qV r ph') := by
  intro n
  induction n with
  | zero => intro _ _ _ _ _ h; cases h
  | succ n ih =>
    intro a0 a1 ph r ph' h
    unfold f_M_countSymbols_119 at h
    refine px_ld rfl rfl rfl rfl rfl ?_
    refine px_ld rfl rfl rfl rfl rfl ?_
    obtain ⟨t1, h0, h⟩ := xs_some h
    obtain ⟨fs, e1, e2⟩ := xgI_some h0
    refine px_get rfl e1 e2 rfl ?_
    refine px_icge rfl (by decide) rfl (fun hc => ?_) (fun hc => ?_)
    · replace h := (if_pos hc).symm.trans h
      refine px_forget (n := 0) (lv' := [_, _, _]) rfl ?_
      refine px_forget (n := 1) (lv' := [_, _, _]) rfl ?_
      exact (r_M_countSymbols_157 h :)
    · replace h := (if_neg hc).symm.trans h
      refine px_ld rfl rfl rfl rfl rfl ?_
      obtain ⟨t2, h0, h⟩ := xs_some h
      obtain ⟨fs, e1, e2⟩ := xgR_some h0
      refine px_get rfl e1 e2 rfl ?_
      refine px_ld rfl rfl rfl rfl rfl ?_
      obtain ⟨t3, h0, h⟩ := xs_some h
      obtain ⟨N, f, e1, e2, e3⟩ := xaI_some h0
      subst e3
      refine px_iald rfl e1 rfl e2 rfl ?_
      refine px_ifeq rfl (by decide) rfl (fun hc => ?_) (fun hc => ?_)
      · replace h := (if_pos hc).symm.trans h
        exact (r_M_countSymbols_146 @ih h :)
      · replace h := (if_neg hc).symm.trans h
        refine px_ld rfl rfl rfl rfl rfl ?_
        obtain ⟨t4, h0, h⟩ := xs_some h
        obtain ⟨fs, e1, e2⟩ := xgR_some h0
        refine px_get rfl e1 e2 rfl ?_
        refine px_ld rfl rfl rfl rfl rfl ?_
        obtain ⟨t5, h0, h⟩ := xs_some h
        obtain ⟨N, f, e1, e2, e3⟩ := xaI_some h0
        subst e3
        refine px_iald rfl e1 rfl e2 rfl ?_
        refine px_ic (k := 4) rfl rfl rfl ?_
        refine px_icne rfl (by decide) rfl (fun hc => ?_) (fun hc => ?_)
        · replace h := (if_neg hc).symm.trans h
          exact (r_M_countSymbols_151 @ih h :)
        · replace h := (if_pos hc).symm.trans h
          exact (r_M_countSymbols_146 @ih h :)
def f_M_countSymbols_117 (F : Nat) (a0 : Nat) (ph : px_H) : Option (Unit × px_H) :=
  f_M_countSymbols_119 F F a0 (nI 0) ph
theorem r_M_countSymbols_117 {l : Launch} {g : px_G} {d F : Nat} {a0 : Nat} {ph : px_H} {r : Unit} {ph' : px_H} (h : f_M_countSymbols_117 F a0 ph = some (r, ph')) : PW l g (d + 6) m_M_countSymbols 117 [.ref a0, px_u, px_u] [] ph (px_qV r ph') := by
  unfold f_M_countSymbols_117 at h
  refine px_ic (k := 0) rfl rfl rfl ?_
  refine px_st (lv' := [_, _, _]) rfl rfl rfl rfl rfl rfl rfl ?_
  exact (r_M_countSymbols_119 _ h :)
def f_M_countSymbols_93 (F : Nat) : Nat → Nat → Int32 → px_H → Option (Unit × px_H)
  | 0, _, _, _ => none
  | n + 1, a0, a1, ph =>
    (xgI ph 12 48 a0).bind fun t1 =>
    if t1 ≤ a1 then
      f_M_countSymbols_117 F a0 ph
    else
      (xgR ph 12 49 a0).bind fun t2 =>
      (xaI ph 1 t2 a1).bind fun t3 =>
      (xo ph 12 a0).bind fun _ =>
      xb (f_M_numberName F a0 t3 ph) fun _ ph4 =>
      f_M_countSymbols_93 F n a0 (a1 + nI 1) ph4
theorem r_M_countSymbols_93 {l : Launch} {g : px_G} {d F : Nat} : ∀ (n : Nat) {a0 : Nat} {a1 : Int32} {ph : px_H} {r : Unit} {ph' : px_H}, f_M_countSymbols_93 F n a0 a1 ph = some (r, ph') → PW l g (d + 6) m_M_countSymbols 93 [.ref a0, .int a1, px_u] [] ph (px_qV r ph') := by
  intro n
  induction n with
  | zero => intro _ _ _ _ _ h; cases h
  | succ n ih =>
    intro a0 a1 ph r ph' h
    unfold f_M_countSymbols_93 at h
    refine px_ld rfl rfl rfl rfl rfl ?_
    refine px_ld rfl rfl rfl rfl rfl ?_
    obtain ⟨t1, h0, h⟩ := xs_some h
    obtain ⟨fs, e1, e2⟩ := xgI_some h0
    refine px_get rfl e1 e2 rfl ?_
    refine px_icge rfl (by decide) rfl (fun hc => ?_) (fun hc => ?_)
    · replace h := (if_pos hc).symm.trans h
      refine px_forget (n := 1) (lv' := [_, _, _]) rfl ?_
      exact (r_M_countSymbols_117 h :)
    · replace h := (if_neg hc).symm.trans h
      refine px_ld rfl rfl rfl rfl rfl ?_
      refine px_ld rfl rfl rfl rfl rfl ?_
      obtain ⟨t2, h0, h⟩ := xs_some h
      obtain ⟨fs, e1, e2⟩ := xgR_some h0
      refine px_get rfl e1 e2 rfl ?_
      refine px_ld rfl rfl rfl rfl rfl ?_
      obtain ⟨t3, h0, h⟩ := xs_some h
      obtain ⟨N, f, e1, e2, e3⟩ := xaI_some h0
      subst e3
      refine px_iald rfl e1 rfl e2 rfl ?_
      obtain ⟨fs, h0, h⟩ := xs_some h
      have e1 := xo_some h0
      obtain ⟨u0, ph4, h0, h⟩ := xb_some h
      refine px_cV1 rfl rfl e1 rfl rfl rfl rfl rfl rfl rfl (r_M_numberName h0 :) (fun _ _ q => nomatch q.2) (fun r ph' q => ?_)
      obtain ⟨rfl, q⟩ := q
      cases q
      refine px_iinc (lv' := [_, _, _]) rfl rfl rfl rfl rfl rfl ?_
      refine px_goto rfl (by decide) rfl ?_
      exact (ih h :)
def f_M_countSymbols_83 (F : Nat) (a0 : Nat) (ph : px_H) : Option (Unit × px_H) :=
  (xgI ph 12 125 a0).bind fun t1 =>
  (xpI ph 12 124 a0 t1).bind fun ph2 =>
  f_M_countSymbols_93 F F a0 (nI 0) ph2
theorem r_M_countSymbols_83 {l : Launch} {g : px_G} {d F : Nat} {a0 : Nat} {ph : px_H} {r : Unit} {ph' : px_H} (h : f_M_countSymbols_83 F a0 ph = some (r, ph')) : PW l g (d + 6) m_M_countSymbols 83 [.ref a0, px_u, px_u] [] ph (px_qV r ph') := by
  unfold f_M_countSymbols_83 at h
  refine px_ld rfl rfl rfl rfl rfl ?_
  refine px_ld rfl rfl rfl rfl rfl ?_
  obtain ⟨t1, h0, h⟩ := xs_some h
  obtain ⟨fs, e1, e2⟩ := xgI_some h0
  refine px_get rfl e1 e2 rfl ?_
  obtain ⟨ph2, h0, h⟩ := xs_some h
  obtain ⟨fs, e1, e2, e3⟩ := xpI_some h0
  subst e3
  refine px_put rfl e1 e2 trivial rfl ?_
  refine px_ic (k := 0) rfl rfl rfl ?_
  refine px_st (lv' := [_, _, _]) rfl rfl rfl rfl rfl rfl rfl ?_
  exact (r_M_countSymbols_93 _ h :)
def f_M_countSymbols_77 (F : Nat) (k7 : Nat → Int32 → px_H → Option (Unit × px_H)) (a0 : Nat) (a1 : Int32) (ph : px_H) : Option (Unit × px_H) :=
  k7 a0 (a1 + nI 1) ph
theorem r_M_countSymbols_77 {l : Launch} {g : px_G} {d F : Nat} {k7 : Nat → Int32 → px_H → Option (Unit × px_H)} (hk7 : ∀ {a0 : Nat} {a1 : Int32} {ph : px_H} {r : Unit} {ph' : px_H}, k7 a0 a1 ph = some (r, ph') → PW l g (d + 6) m_M_countSymbols 7 [.ref a0, .int a1, px_u] [] ph (px_qV r ph')) {a0 : Nat} {a1 : Int32} {ph : px_H} {r : Unit} {ph' : px_H} (h : f_M_countSymbols_77 F k7 a0 a1 ph = some (r, ph')) : PW l g (d + 6) m_M_countSymbols 77 [.ref a0, .int a1, px_u] [] ph (px_qV r ph') := by
  unfold f_M_countSymbols_77 at h
  refine px_iinc (lv' := [_, _, _]) rfl rfl rfl rfl rfl rfl ?_
  refine px_goto rfl (by decide) rfl ?_
  exact (hk7 h :)
def f_M_countSymbols_71 (F : Nat) (k7 : Nat → Int32 → px_H → Option (Unit × px_H)) (k17 : Nat → Int32 → Int32 → px_H → Option (Unit × px_H)) (a0 : Nat) (a1 : Int32) (a2 : Int32) (ph : px_H) : Option (Unit × px_H) :=
  k17 a0 a1 (a2 + nI 1) ph
theorem r_M_countSymbols_71 {l : Launch} {g : px_G} {d F : Nat} {k7 : Nat → Int32 → px_H → Option (Unit × px_H)} (hk7 : ∀ {a0 : Nat} {a1 : Int32} {ph : px_H} {r : Unit} {ph' : px_H}, k7 a0 a1 ph = some (r, ph') → PW l g (d + 6) m_M_countSymbols 7 [.ref a0, .int a1, px_u] [] ph (px_qV r ph')) {k17 : Nat → Int32 → Int32 → px_H → Option (Unit × px_H)} (hk17 : ∀ {a0 : Nat} {a1 : Int32} {a2 : Int32} {ph : px_H} {r : Unit} {ph' : px_H}, k17 a0 a1 a2 ph = some (r, ph') → PW l g (d + 6) m_M_countSymbols 17 [.ref a0, .int a1, .int a2] [] ph (px_qV r ph')) {a0 : Nat} {a1 : Int32} {a2 : Int32} {ph : px_H} {r : Unit} {ph' : px_H} (h : f_M_countSymbols_71 F k7 k17 a0 a1 a2 ph = some (r, ph')) : PW l g (d + 6) m_M_countSymbols 71 [.ref a0, .int a1, .int a2] [] ph (px_qV r ph') := by
  unfold f_M_countSymbols_71 at h
  refine px_iinc (lv' := [_, _, _]) rfl rfl rfl rfl rfl rfl ?_
  refine px_goto rfl (by decide) rfl ?_
  exact (hk17 h :)
def f_M_countSymbols_17 (F : Nat) (k7 : Nat → Int32 → px_H → Option (Unit × px_H)) : Nat → Nat → Int32 → Int32 → px_H → Option (Unit × px_H)
  | 0, _, _, _, _ => none
  | n + 1, a0, a1, a2, ph =>
    (xo ph 12 a0).bind fun _ =>
    xb (f_M_object F a0 a1 ph) fun t1 ph2 =>
    (xo ph2 12 a0).bind fun _ =>
    xb (f_M_symbolMany F a0 t1 ph2) fun t3 ph4 =>
    if t3 ≤ a2 then
      f_M_countSymbols_77 F k7 a0 a1 ph4
    else
      (xo ph4 12 a0).bind fun _ =>
      xb (f_M_object F a0 a1 ph4) fun t5 ph6 =>
      (xo ph6 12 a0).bind fun _ =>
      xb (f_M_bind F a0 t5 a2 ph6) fun t7 ph8 =>
      if t7 = 0 then
        (xgR ph8 12 118 a0).bind fun t9 =>
        (xgI ph8 12 125 a0).bind fun t10 =>
        (xsI ph8 1 t9 (((nI 64) * a1) + a2) t10).bind fun ph11 =>
        (xgI ph11 12 125 a0).bind fun t12 =>
        (xpI ph11 12 125 a0 (t12 + (nI 1))).bind fun ph13 =>
        f_M_countSymbols_71 F k7 (f_M_countSymbols_17 F k7 n) a0 a1 a2 ph13
      else
        f_M_countSymbols_71 F k7 (f_M_countSymbols_17 F k7 n) a0 a1 a2 ph8
theorem r_M_countSymbols_17 {l : Launch} {g : px_G} {d F : Nat} {k7 : Nat → Int32 → px_H → Option (Unit × px_H)} (hk7 : ∀ {a0 : Nat} {a1 : Int32} {ph : px_H} {r : Unit} {ph' : px_H}, k7 a0 a1 ph = some (r, ph') → PW l g (d + 6) m_M_countSymbols 7 [.ref a0, .int a1, px_u] [] ph (px_qV r ph')) : ∀ (n : Nat) {a0 : Nat} {a1 : Int32} {a2 : Int32} {ph : px_H} {r : Unit} {ph' : px_H}, f_M_countSymbols_17 F k7 n a0 a1 a2 ph = some (r, ph') → PW l g (d + 6) m_M_countSymbols 17 [.ref a0, .int a1, .int a2] [] ph (px_qV r ph') := by
  intro n
  induction n with
  | zero => intro _ _ _ _ _ _ h; cases h
  | succ n ih =>
    intro a0 a1 a2 ph r ph' h
    unfold f_M_countSymbols_17 at h
    refine px_ld rfl rfl rfl rfl rfl ?_
    refine px_ld rfl rfl rfl rfl rfl ?_
    refine px_ld rfl rfl rfl rfl rfl ?_
    refine px_ld rfl rfl rfl rfl rfl ?_
    obtain ⟨fs, h0, h⟩ := xs_some h
    have e1 := xo_some h0
    obtain ⟨t1, ph2, h0, h⟩ := xb_some h
    refine px_cV1 rfl rfl e1 rfl rfl rfl rfl rfl rfl rfl (r_M_object h0 :) (fun _ _ q => nomatch q.2) (fun r ph' q => ?_)
    obtain ⟨rfl, q⟩ := q
    cases q
    obtain ⟨fs, h0, h⟩ := xs_some h
    have e1 := xo_some h0
    obtain ⟨t3, ph4, h0, h⟩ := xb_some h
    refine px_cV1 rfl rfl e1 rfl rfl rfl rfl rfl rfl rfl (r_M_symbolMany h0 :) (fun _ _ q => nomatch q.2) (fun r ph' q => ?_)
    obtain ⟨rfl, q⟩ := q
    cases q
    refine px_icge rfl (by decide) rfl (fun hc => ?_) (fun hc => ?_)
    · replace h := (if_pos hc).symm.trans h
      refine px_forget (n := 2) (lv' := [_, _, _]) rfl ?_
      exact (r_M_countSymbols_77 @hk7 h :)
    · replace h := (if_neg hc).symm.trans h
      refine px_ld rfl rfl rfl rfl rfl ?_
      refine px_ld rfl rfl rfl rfl rfl ?_
      refine px_ld rfl rfl rfl rfl rfl ?_
      obtain ⟨fs, h0, h⟩ := xs_some h
      have e1 := xo_some h0
      obtain ⟨t5, ph6, h0, h⟩ := xb_some h
      refine px_cV1 rfl rfl e1 rfl rfl rfl rfl rfl rfl rfl (r_M_object h0 :) (fun _ _ q => nomatch q.2) (fun r ph' q => ?_)
      obtain ⟨rfl, q⟩ := q
      cases q
      refine px_ld rfl rfl rfl rfl rfl ?_
      obtain ⟨fs, h0, h⟩ := xs_some h
      have e1 := xo_some h0
      obtain ⟨t7, ph8, h0, h⟩ := xb_some h
      refine px_cV2 rfl rfl e1 rfl rfl rfl rfl rfl rfl rfl (r_M_bind h0 :) (fun _ _ q => nomatch q.2) (fun r ph' q => ?_)
      obtain ⟨rfl, q⟩ := q
      cases q
      refine px_ifeq rfl (by decide) rfl (fun hc => ?_) (fun hc => ?_)
      · replace h := (if_pos hc).symm.trans h
        refine px_ld rfl rfl rfl rfl rfl ?_
        obtain ⟨t9, h0, h⟩ := xs_some h
        obtain ⟨fs, e1, e2⟩ := xgR_some h0
        refine px_get rfl e1 e2 rfl ?_
        refine px_ic (k := 64) rfl rfl rfl ?_
        refine px_ld rfl rfl rfl rfl rfl ?_
        refine px_alu rfl rfl rfl ?_
        refine px_ld rfl rfl rfl rfl rfl ?_
        refine px_alu rfl rfl rfl ?_
        refine px_ld rfl rfl rfl rfl rfl ?_
        obtain ⟨t10, h0, h⟩ := xs_some h
        obtain ⟨fs, e1, e2⟩ := xgI_some h0
        refine px_get rfl e1 e2 rfl ?_
        obtain ⟨ph11, h0, h⟩ := xs_some h
        obtain ⟨N, f, e1, e2, e3⟩ := xsI_some h0
        subst e3
        refine px_iast rfl e1 rfl e2 rfl ?_
        refine px_ld rfl rfl rfl rfl rfl ?_
        refine px_alu rfl rfl rfl ?_
        obtain ⟨t12, h0, h⟩ := xs_some h
        obtain ⟨fs, e1, e2⟩ := xgI_some h0
        refine px_get rfl e1 e2 rfl ?_
        refine px_ic (k := 1) rfl rfl rfl ?_
        refine px_alu rfl rfl rfl ?_
        obtain ⟨ph13, h0, h⟩ := xs_some h
        obtain ⟨fs, e1, e2, e3⟩ := xpI_some h0
        subst e3
        refine px_put rfl e1 e2 trivial rfl ?_
        exact (r_M_countSymbols_71 @hk7 @ih h :)
      · replace h := (if_neg hc).symm.trans h
        refine px_goto rfl (by decide) rfl ?_
        exact (r_M_countSymbols_71 @hk7 @ih h :)
def f_M_countSymbols_7 (F : Nat) : Nat → Nat → Int32 → px_H → Option (Unit × px_H)
  | 0, _, _, _ => none
  | n + 1, a0, a1, ph =>
    (xgI ph 12 14 a0).bind fun t1 =>
    if t1 ≤ a1 then
      f_M_countSymbols_83 F a0 ph
    else
      f_M_countSymbols_17 F (f_M_countSymbols_7 F n) F a0 a1 (nI 1) ph
theorem r_M_countSymbols_7 {l : Launch} {g : px_G} {d F : Nat} : ∀ (n : Nat) {a0 : Nat} {a1 : Int32} {ph : px_H} {r : Unit} {ph' : px_H}, f_M_countSymbols_7 F n a0 a1 ph = some (r, ph') → PW l g (d + 6) m_M_countSymbols 7 [.ref a0, .int a1, px_u] [] ph (px_qV r ph') := by
  intro n
  induction n with
  | zero => intro _ _ _ _ _ h; cases h
  | succ n ih =>
    intro a0 a1 ph r ph' h
    unfold f_M_countSymbols_7 at h
    refine px_ld rfl rfl rfl rfl rfl ?_
    refine px_ld rfl rfl rfl rfl rfl ?_
    obtain ⟨t1, h0, h⟩ := xs_some h
    obtain ⟨fs, e1, e2⟩ := xgI_some h0
    refine px_get rfl e1 e2 rfl ?_
    refine px_icge rfl (by decide) rfl (fun hc => ?_) (fun hc => ?_)
    · replace h := (if_pos hc).symm.trans h
      refine px_forget (n := 1) (lv' := [_, _, _]) rfl ?_
      exact (r_M_countSymbols_83 h :)
    · replace h := (if_neg hc).symm.trans h
      refine px_ic (k := 1) rfl rfl rfl ?_
      refine px_st (lv' := [_, _, _]) rfl rfl rfl rfl rfl rfl rfl ?_
      exact (r_M_countSymbols_17 @ih _ h :)
def f_M_countSymbols (F : Nat) (a0 : Nat) (ph : px_H) : Option (Unit × px_H) :=
  (xpI ph 12 125 a0 (nI 1)).bind fun ph1 =>
  f_M_countSymbols_7 F F a0 (nI 0) ph1
theorem r_M_countSymbols {l : Launch} {g : px_G} {d F : Nat} {a0 : Nat} {ph : px_H} {r : Unit} {ph' : px_H} (h : f_M_countSymbols F a0 ph = some (r, ph')) : PW l g (d + 6) m_M_countSymbols 0 [.ref a0, px_u, px_u] [] ph (px_qV r ph') := by
  unfold f_M_countSymbols at h
  refine px_ld rfl rfl rfl rfl rfl ?_
  refine px_ic (k := 1) rfl rfl rfl ?_
  obtain ⟨ph1, h0, h⟩ := xs_some h
  obtain ⟨fs, e1, e2, e3⟩ := xpI_some h0
  subst e3
  refine px_put rfl e1 e2 trivial rfl ?_
  refine px_ic (k := 0) rfl rfl rfl ?_
  refine px_st (lv' := [_, _, _]) rfl rfl rfl rfl rfl rfl rfl ?_
  exact (r_M_countSymbols_7 _ h :)
def f_M_isPart_30 (F : Nat) (s0 : Int32) (ph : px_H) : Option (Int32 × px_H) :=
  xz s0 ph
theorem r_M_isPart_30 {l : Launch} {g : px_G} {d F : Nat} {s0 : Int32} {ph : px_H} {r : Int32} {ph' : px_H} (h : f_M_isPart_30 F s0 ph = some (r, ph')) : PW l g (d + 3) m_M_isPart 30 [px_u, px_u, px_u, px_u] [.int s0] ph (px_qI r ph') := by
  unfold f_M_isPart_30 at h
  obtain ⟨e0, e1, e2⟩ := xz_some h
  subst e1 e2
  exact px_iret rfl (Or.inr ⟨rfl, e0⟩) rfl ⟨rfl, rfl⟩
def f_M_isPart (F : Nat) (a0 : Nat) (a1 : Int32) (a2 : Int64) (ph : px_H) : Option (Int32 × px_H) :=
  (xgR ph 12 120 a0).bind fun t1 =>
  (xaI ph 1 t1 a1).bind fun t2 =>
  (xo ph 12 a0).bind fun _ =>
  xb (f_M_object F a0 t2 ph) fun t3 ph4 =>
  (xgR ph4 12 121 a0).bind fun t5 =>
  (xaI ph4 1 t5 a1).bind fun t6 =>
  (xo ph4 12 a0).bind fun _ =>
  xb (f_M_type F a0 t3 t6 ph4) fun t7 ph8 =>
  if t7 = a2 then
    f_M_isPart_30 F (nI 1) ph8
  else
    f_M_isPart_30 F (nI 0) ph8
theorem r_M_isPart {l : Launch} {g : px_G} {d F : Nat} {a0 : Nat} {a1 : Int32} {a2 : Int64} {ph : px_H} {r : Int32} {ph' : px_H} (h : f_M_isPart F a0 a1 a2 ph = some (r, ph')) : PW l g (d + 3) m_M_isPart 0 [.ref a0, .int a1, .long a2, px_u] [] ph (px_qI r ph') := by
  unfold f_M_isPart at h
  refine px_ld rfl rfl rfl rfl rfl ?_
  refine px_ld rfl rfl rfl rfl rfl ?_
  refine px_ld rfl rfl rfl rfl rfl ?_
  obtain ⟨t1, h0, h⟩ := xs_some h
  obtain ⟨fs, e1, e2⟩ := xgR_some h0
  refine px_get rfl e1 e2 rfl ?_
  refine px_ld rfl rfl rfl rfl rfl ?_
  obtain ⟨t2, h0, h⟩ := xs_some h
  obtain ⟨N, f, e1, e2, e3⟩ := xaI_some h0
  subst e3
  refine px_iald rfl e1 rfl e2 rfl ?_
  obtain ⟨fs, h0, h⟩ := xs_some h
  have e1 := xo_some h0
  obtain ⟨t3, ph4, h0, h⟩ := xb_some h
  refine px_cV1 rfl rfl e1 rfl rfl rfl rfl rfl rfl rfl (r_M_object h0 :) (fun _ _ q => nomatch q.2) (fun r ph' q => ?_)
  obtain ⟨rfl, q⟩ := q
  cases q
  refine px_ld rfl rfl rfl rfl rfl ?_
  obtain ⟨t5, h0, h⟩ := xs_some h
  obtain ⟨fs, e1, e2⟩ := xgR_some h0
  refine px_get rfl e1 e2 rfl ?_
  refine px_ld rfl rfl rfl rfl rfl ?_
  obtain ⟨t6, h0, h⟩ := xs_some h
  obtain ⟨N, f, e1, e2, e3⟩ := xaI_some h0
  subst e3
  refine px_iald rfl e1 rfl e2 rfl ?_
  obtain ⟨fs, h0, h⟩ := xs_some h
  have e1 := xo_some h0
  obtain ⟨t7, ph8, h0, h⟩ := xb_some h
  refine px_cV2 rfl rfl e1 rfl rfl rfl rfl rfl rfl rfl (r_M_type h0 :) (fun _ _ q => nomatch q.2) (fun r ph' q => ?_)
  obtain ⟨rfl, q⟩ := q
  cases q
  refine px_ld rfl rfl rfl rfl rfl ?_
  refine px_alu rfl rfl rfl ?_
  refine px_ifne rfl rfl rfl (fun hc => ?_) (fun hc => ?_)
  · replace h := (if_neg (fun q => hc ((lg_cmp_eq _ _).mpr q))).symm.trans h
    refine px_ic (k := 0) rfl rfl rfl ?_
    refine px_forget (n := 0) (lv' := [_, _, _, _]) rfl ?_
    refine px_forget (n := 1) (lv' := [_, _, _, _]) rfl ?_
    refine px_forget (n := 2) (lv' := [_, _, _, _]) rfl ?_
    exact (r_M_isPart_30 h :)
  · replace h := (if_pos ((lg_cmp_eq _ _).mp hc)).symm.trans h
    refine px_ic (k := 1) rfl rfl rfl ?_
    refine px_goto rfl rfl rfl ?_
    refine px_forget (n := 0) (lv' := [_, _, _, _]) rfl ?_
    refine px_forget (n := 1) (lv' := [_, _, _, _]) rfl ?_
    refine px_forget (n := 2) (lv' := [_, _, _, _]) rfl ?_
    exact (r_M_isPart_30 h :)
def f_M_partSize_36 (F : Nat) (s0 : Int32) (ph : px_H) : Option (Int32 × px_H) :=
  some (s0, ph)
theorem r_M_partSize_36 {l : Launch} {g : px_G} {d F : Nat} {s0 : Int32} {ph : px_H} {r : Int32} {ph' : px_H} (h : f_M_partSize_36 F s0 ph = some (r, ph')) : PW l g (d + 4) m_M_partSize 36 [px_u, px_u] [.int s0] ph (px_qI r ph') := by
  unfold f_M_partSize_36 at h
  cases h
  exact px_iret rfl (Or.inl rfl) rfl ⟨rfl, rfl⟩
def f_M_partSize (F : Nat) (a0 : Nat) (a1 : Int32) (ph : px_H) : Option (Int32 × px_H) :=
  (xo ph 12 a0).bind fun _ =>
  xb (f_M_isPart F a0 a1 ((8 : Int64)) ph) fun t1 ph2 =>
  if t1 = 0 then
    (xgR ph2 12 120 a0).bind fun t3 =>
    (xaI ph2 1 t3 a1).bind fun t4 =>
    (xo ph2 12 a0).bind fun _ =>
    xb (f_M_object F a0 t4 ph2) fun t5 ph6 =>
    (xgR ph6 12 121 a0).bind fun t7 =>
    (xaI ph6 1 t7 a1).bind fun t8 =>
    (xo ph6 12 a0).bind fun _ =>
    xb (f_M_size F a0 t5 t8 ph6) fun t9 ph10 =>
    f_M_partSize_36 F t9.toInt32 ph10
  else
    f_M_partSize_36 F (nI 0) ph2
theorem r_M_partSize {l : Launch} {g : px_G} {d F : Nat} {a0 : Nat} {a1 : Int32} {ph : px_H} {r : Int32} {ph' : px_H} (h : f_M_partSize F a0 a1 ph = some (r, ph')) : PW l g (d + 4) m_M_partSize 0 [.ref a0, .int a1] [] ph (px_qI r ph') := by
  unfold f_M_partSize at h
  refine px_ld rfl rfl rfl rfl rfl ?_
  refine px_ld rfl rfl rfl rfl rfl ?_
  refine px_ldc2 rfl rfl rfl ?_
  obtain ⟨fs, h0, h⟩ := xs_some h
  have e1 := xo_some h0
  obtain ⟨t1, ph2, h0, h⟩ := xb_some h
  refine px_cV2 rfl rfl e1 rfl rfl rfl rfl rfl rfl rfl (r_M_isPart h0 :) (fun _ _ q => nomatch q.2) (fun r ph' q => ?_)
  obtain ⟨rfl, q⟩ := q
  cases q
  refine px_ifeq rfl rfl rfl (fun hc => ?_) (fun hc => ?_)
  · replace h := (if_pos hc).symm.trans h
    refine px_ld rfl rfl rfl rfl rfl ?_
    refine px_ld rfl rfl rfl rfl rfl ?_
    refine px_ld rfl rfl rfl rfl rfl ?_
    obtain ⟨t3, h0, h⟩ := xs_some h
    obtain ⟨fs, e1, e2⟩ := xgR_some h0
    refine px_get rfl e1 e2 rfl ?_
    refine px_ld rfl rfl rfl rfl rfl ?_
    obtain ⟨t4, h0, h⟩ := xs_some h
    obtain ⟨N, f, e1, e2, e3⟩ := xaI_some h0
    subst e3
    refine px_iald rfl e1 rfl e2 rfl ?_
    obtain ⟨fs, h0, h⟩ := xs_some h
    have e1 := xo_some h0
    obtain ⟨t5, ph6, h0, h⟩ := xb_some h
    refine px_cV1 rfl rfl e1 rfl rfl rfl rfl rfl rfl rfl (r_M_object h0 :) (fun _ _ q => nomatch q.2) (fun r ph' q => ?_)
    obtain ⟨rfl, q⟩ := q
    cases q
    refine px_ld rfl rfl rfl rfl rfl ?_
    obtain ⟨t7, h0, h⟩ := xs_some h
    obtain ⟨fs, e1, e2⟩ := xgR_some h0
    refine px_get rfl e1 e2 rfl ?_
    refine px_ld rfl rfl rfl rfl rfl ?_
    obtain ⟨t8, h0, h⟩ := xs_some h
    obtain ⟨N, f, e1, e2, e3⟩ := xaI_some h0
    subst e3
    refine px_iald rfl e1 rfl e2 rfl ?_
    obtain ⟨fs, h0, h⟩ := xs_some h
    have e1 := xo_some h0
    obtain ⟨t9, ph10, h0, h⟩ := xb_some h
    refine px_cV2 rfl rfl e1 rfl rfl rfl rfl rfl rfl rfl (r_M_size h0 :) (fun _ _ q => nomatch q.2) (fun r ph' q => ?_)
    obtain ⟨rfl, q⟩ := q
    cases q
    refine px_alu rfl rfl rfl ?_
    refine px_forget (n := 0) (lv' := [_, _]) rfl ?_
    refine px_forget (n := 1) (lv' := [_, _]) rfl ?_
    exact (r_M_partSize_36 h :)
  · replace h := (if_neg hc).symm.trans h
    refine px_ic (k := 0) rfl rfl rfl ?_
    refine px_goto rfl rfl rfl ?_
    refine px_forget (n := 0) (lv' := [_, _]) rfl ?_
    refine px_forget (n := 1) (lv' := [_, _]) rfl ?_
    exact (r_M_partSize_36 h :)
