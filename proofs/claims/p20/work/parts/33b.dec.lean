/-! methods as functions: LinkHouseModel -/
def f_M_come_290 (F : Nat) (s0 : Nat) (s1 : Int32) (s2 : Int32) (ph : px_H) : Option (Int32 × px_H) :=
  (xsI ph 1 s0 s1 s2).bind fun ph1 =>
  some (nI 1, ph1)
theorem r_M_come_290 {l : Launch} {g : px_G} {d F : Nat} {s0 : Nat} {s1 : Int32} {s2 : Int32} {ph : px_H} {r : Int32} {ph' : px_H} (h : f_M_come_290 F s0 s1 s2 ph = some (r, ph')) : PW l g (d + 8) m_M_come 290 [px_u, px_u, px_u, px_u, px_u, px_u] [.int s2, .int s1, .ref s0] ph (px_qI r ph') := by
  unfold f_M_come_290 at h
  obtain ⟨ph1, h0, h⟩ := xs_some h
  obtain ⟨N, f, e1, e2, e3⟩ := xsI_some h0
  subst e3
  refine px_iast rfl e1 rfl e2 rfl ?_
  refine px_ic (k := 1) rfl rfl rfl ?_
  cases h
  exact px_iret rfl (Or.inr ⟨rfl, Or.inr rfl⟩) rfl ⟨rfl, rfl⟩
def f_M_come_266 (F : Nat) (a0 : Nat) (a2 : Int32) (a3 : Int32) (a4 : Int32) (a5 : Int32) (s0 : Nat) (s1 : Int32) (s2 : Int32) (ph : px_H) : Option (Int32 × px_H) :=
  (xsI ph 1 s0 s1 s2).bind fun ph1 =>
  (xgR ph1 12 27 a0).bind fun t2 =>
  if a5 = (nI 2) then
    (xo ph1 12 a0).bind fun _ =>
    xb (f_M_value F a0 a2 a3 ph1) fun t3 ph4 =>
    f_M_come_290 F t2 a4 t3.toInt32 ph4
  else
    f_M_come_290 F t2 a4 (nI 0) ph1
theorem r_M_come_266 {l : Launch} {g : px_G} {d F : Nat} {a0 : Nat} {a2 : Int32} {a3 : Int32} {a4 : Int32} {a5 : Int32} {s0 : Nat} {s1 : Int32} {s2 : Int32} {ph : px_H} {r : Int32} {ph' : px_H} (h : f_M_come_266 F a0 a2 a3 a4 a5 s0 s1 s2 ph = some (r, ph')) : PW l g (d + 8) m_M_come 266 [.ref a0, px_u, .int a2, .int a3, .int a4, .int a5] [.int s2, .int s1, .ref s0] ph (px_qI r ph') := by
  unfold f_M_come_266 at h
  obtain ⟨ph1, h0, h⟩ := xs_some h
  obtain ⟨N, f, e1, e2, e3⟩ := xsI_some h0
  subst e3
  refine px_iast rfl e1 rfl e2 rfl ?_
  refine px_ld rfl rfl rfl rfl rfl ?_
  obtain ⟨t2, h0, h⟩ := xs_some h
  obtain ⟨fs, e1, e2⟩ := xgR_some h0
  refine px_get rfl e1 e2 rfl ?_
  refine px_ld rfl rfl rfl rfl rfl ?_
  refine px_ld rfl rfl rfl rfl rfl ?_
  refine px_ic (k := 2) rfl rfl rfl ?_
  refine px_icne rfl (by decide) rfl (fun hc => ?_) (fun hc => ?_)
  · replace h := (if_neg hc).symm.trans h
    refine px_ic (k := 0) rfl rfl rfl ?_
    refine px_forget (n := 0) (lv' := [_, _, _, _, _, _]) rfl ?_
    refine px_forget (n := 2) (lv' := [_, _, _, _, _, _]) rfl ?_
    refine px_forget (n := 3) (lv' := [_, _, _, _, _, _]) rfl ?_
    refine px_forget (n := 4) (lv' := [_, _, _, _, _, _]) rfl ?_
    refine px_forget (n := 5) (lv' := [_, _, _, _, _, _]) rfl ?_
    exact (r_M_come_290 h :)
  · replace h := (if_pos hc).symm.trans h
    refine px_ld rfl rfl rfl rfl rfl ?_
    refine px_ld rfl rfl rfl rfl rfl ?_
    refine px_ld rfl rfl rfl rfl rfl ?_
    obtain ⟨fs, h0, h⟩ := xs_some h
    have e1 := xo_some h0
    obtain ⟨t3, ph4, h0, h⟩ := xb_some h
    refine px_cV2 rfl rfl e1 rfl rfl rfl rfl rfl rfl rfl (r_M_value h0 :) (fun _ _ q => nomatch q.2) (fun r ph' q => ?_)
    obtain ⟨rfl, q⟩ := q
    cases q
    refine px_alu rfl rfl rfl ?_
    refine px_goto rfl (by decide) rfl ?_
    refine px_forget (n := 0) (lv' := [_, _, _, _, _, _]) rfl ?_
    refine px_forget (n := 2) (lv' := [_, _, _, _, _, _]) rfl ?_
    refine px_forget (n := 3) (lv' := [_, _, _, _, _, _]) rfl ?_
    refine px_forget (n := 4) (lv' := [_, _, _, _, _, _]) rfl ?_
    refine px_forget (n := 5) (lv' := [_, _, _, _, _, _]) rfl ?_
    exact (r_M_come_290 h :)
def f_M_come_204 (F : Nat) (a0 : Nat) (a1 : Int32) (a2 : Int32) (a3 : Int32) (a4 : Int32) (a5 : Int32) (ph : px_H) : Option (Int32 × px_H) :=
  (xgR ph 12 23 a0).bind fun t1 =>
  (xaI ph 1 t1 a4).bind fun t2 =>
  if t2 < a5 then
    (xgR ph 12 23 a0).bind fun t3 =>
    (xsI ph 1 t3 a4 a5).bind fun ph4 =>
    (xgR ph4 12 24 a0).bind fun t5 =>
    (xsI ph4 1 t5 a4 a1).bind fun ph6 =>
    (xgR ph6 12 25 a0).bind fun t7 =>
    (xsI ph6 1 t7 a4 a3).bind fun ph8 =>
    (xgR ph8 12 26 a0).bind fun t9 =>
    if a5 = (nI 2) then
      (xo ph8 12 a0).bind fun _ =>
      xb (f_M_symbolSize F a0 a2 a3 ph8) fun t10 ph11 =>
      f_M_come_266 F a0 a2 a3 a4 a5 t9 a4 t10.toInt32 ph11
    else
      f_M_come_266 F a0 a2 a3 a4 a5 t9 a4 (nI 0) ph8
  else
    some (nI 1, ph)
theorem r_M_come_204 {l : Launch} {g : px_G} {d F : Nat} {a0 : Nat} {a1 : Int32} {a2 : Int32} {a3 : Int32} {a4 : Int32} {a5 : Int32} {ph : px_H} {r : Int32} {ph' : px_H} (h : f_M_come_204 F a0 a1 a2 a3 a4 a5 ph = some (r, ph')) : PW l g (d + 8) m_M_come 204 [.ref a0, .int a1, .int a2, .int a3, .int a4, .int a5] [] ph (px_qI r ph') := by
  unfold f_M_come_204 at h
  refine px_ld rfl rfl rfl rfl rfl ?_
  refine px_ld rfl rfl rfl rfl rfl ?_
  obtain ⟨t1, h0, h⟩ := xs_some h
  obtain ⟨fs, e1, e2⟩ := xgR_some h0
  refine px_get rfl e1 e2 rfl ?_
  refine px_ld rfl rfl rfl rfl rfl ?_
  obtain ⟨t2, h0, h⟩ := xs_some h
  obtain ⟨N, f, e1, e2, e3⟩ := xaI_some h0
  subst e3
  refine px_iald rfl e1 rfl e2 rfl ?_
  refine px_icgt rfl (by decide) rfl (fun hc => ?_) (fun hc => ?_)
  · replace h := (if_pos hc).symm.trans h
    refine px_ld rfl rfl rfl rfl rfl ?_
    obtain ⟨t3, h0, h⟩ := xs_some h
    obtain ⟨fs, e1, e2⟩ := xgR_some h0
    refine px_get rfl e1 e2 rfl ?_
    refine px_ld rfl rfl rfl rfl rfl ?_
    refine px_ld rfl rfl rfl rfl rfl ?_
    obtain ⟨ph4, h0, h⟩ := xs_some h
    obtain ⟨N, f, e1, e2, e3⟩ := xsI_some h0
    subst e3
    refine px_iast rfl e1 rfl e2 rfl ?_
    refine px_ld rfl rfl rfl rfl rfl ?_
    obtain ⟨t5, h0, h⟩ := xs_some h
    obtain ⟨fs, e1, e2⟩ := xgR_some h0
    refine px_get rfl e1 e2 rfl ?_
    refine px_ld rfl rfl rfl rfl rfl ?_
    refine px_ld rfl rfl rfl rfl rfl ?_
    obtain ⟨ph6, h0, h⟩ := xs_some h
    obtain ⟨N, f, e1, e2, e3⟩ := xsI_some h0
    subst e3
    refine px_iast rfl e1 rfl e2 rfl ?_
    refine px_ld rfl rfl rfl rfl rfl ?_
    obtain ⟨t7, h0, h⟩ := xs_some h
    obtain ⟨fs, e1, e2⟩ := xgR_some h0
    refine px_get rfl e1 e2 rfl ?_
    refine px_ld rfl rfl rfl rfl rfl ?_
    refine px_ld rfl rfl rfl rfl rfl ?_
    obtain ⟨ph8, h0, h⟩ := xs_some h
    obtain ⟨N, f, e1, e2, e3⟩ := xsI_some h0
    subst e3
    refine px_iast rfl e1 rfl e2 rfl ?_
    refine px_ld rfl rfl rfl rfl rfl ?_
    obtain ⟨t9, h0, h⟩ := xs_some h
    obtain ⟨fs, e1, e2⟩ := xgR_some h0
    refine px_get rfl e1 e2 rfl ?_
    refine px_ld rfl rfl rfl rfl rfl ?_
    refine px_ld rfl rfl rfl rfl rfl ?_
    refine px_ic (k := 2) rfl rfl rfl ?_
    refine px_icne rfl (by decide) rfl (fun hc => ?_) (fun hc => ?_)
    · replace h := (if_neg hc).symm.trans h
      refine px_ic (k := 0) rfl rfl rfl ?_
      refine px_forget (n := 1) (lv' := [_, _, _, _, _, _]) rfl ?_
      exact (r_M_come_266 h :)
    · replace h := (if_pos hc).symm.trans h
      refine px_ld rfl rfl rfl rfl rfl ?_
      refine px_ld rfl rfl rfl rfl rfl ?_
      refine px_ld rfl rfl rfl rfl rfl ?_
      obtain ⟨fs, h0, h⟩ := xs_some h
      have e1 := xo_some h0
      obtain ⟨t10, ph11, h0, h⟩ := xb_some h
      refine px_cV2 rfl rfl e1 rfl rfl rfl rfl rfl rfl rfl (r_M_symbolSize h0 :) (fun _ _ q => nomatch q.2) (fun r ph' q => ?_)
      obtain ⟨rfl, q⟩ := q
      cases q
      refine px_alu rfl rfl rfl ?_
      refine px_goto rfl (by decide) rfl ?_
      refine px_forget (n := 1) (lv' := [_, _, _, _, _, _]) rfl ?_
      exact (r_M_come_266 h :)
  · replace h := (if_neg hc).symm.trans h
    refine px_ic (k := 1) rfl rfl rfl ?_
    cases h
    exact px_iret rfl (Or.inr ⟨rfl, Or.inr rfl⟩) rfl ⟨rfl, rfl⟩
def f_M_come_203 (F : Nat) (a0 : Nat) (a1 : Int32) (a2 : Int32) (a3 : Int32) (a4 : Int32) (a5 : Int32) (s0 : Nat) (s1 : Int32) (s2 : Int32) (ph : px_H) : Option (Int32 × px_H) :=
  (xsI ph 1 s0 s1 s2).bind fun ph1 =>
  f_M_come_204 F a0 a1 a2 a3 a4 a5 ph1
theorem r_M_come_203 {l : Launch} {g : px_G} {d F : Nat} {a0 : Nat} {a1 : Int32} {a2 : Int32} {a3 : Int32} {a4 : Int32} {a5 : Int32} {s0 : Nat} {s1 : Int32} {s2 : Int32} {ph : px_H} {r : Int32} {ph' : px_H} (h : f_M_come_203 F a0 a1 a2 a3 a4 a5 s0 s1 s2 ph = some (r, ph')) : PW l g (d + 8) m_M_come 203 [.ref a0, .int a1, .int a2, .int a3, .int a4, .int a5] [.int s2, .int s1, .ref s0] ph (px_qI r ph') := by
  unfold f_M_come_203 at h
  obtain ⟨ph1, h0, h⟩ := xs_some h
  obtain ⟨N, f, e1, e2, e3⟩ := xsI_some h0
  subst e3
  refine px_iast rfl e1 rfl e2 rfl ?_
  exact (r_M_come_204 h :)
def f_M_come_162 (F : Nat) (a0 : Nat) (a1 : Int32) (a2 : Int32) (a3 : Int32) (a4 : Int32) (a5 : Int32) (s0 : Nat) (s1 : Int32) (s2 : Int32) (ph : px_H) : Option (Int32 × px_H) :=
  (xsI ph 1 s0 s1 s2).bind fun ph1 =>
  (xgR ph1 12 27 a0).bind fun t2 =>
  (xo ph1 12 a0).bind fun _ =>
  xb (f_M_value F a0 a2 a3 ph1) fun t3 ph4 =>
  (xgR ph4 12 27 a0).bind fun t5 =>
  (xaI ph4 1 t5 a4).bind fun t6 =>
  if t3.toInt32 ≤ t6 then
    (xgR ph4 12 27 a0).bind fun t7 =>
    (xaI ph4 1 t7 a4).bind fun t8 =>
    f_M_come_203 F a0 a1 a2 a3 a4 a5 t2 a4 t8 ph4
  else
    (xo ph4 12 a0).bind fun _ =>
    xb (f_M_value F a0 a2 a3 ph4) fun t9 ph10 =>
    f_M_come_203 F a0 a1 a2 a3 a4 a5 t2 a4 t9.toInt32 ph10
theorem r_M_come_162 {l : Launch} {g : px_G} {d F : Nat} {a0 : Nat} {a1 : Int32} {a2 : Int32} {a3 : Int32} {a4 : Int32} {a5 : Int32} {s0 : Nat} {s1 : Int32} {s2 : Int32} {ph : px_H} {r : Int32} {ph' : px_H} (h : f_M_come_162 F a0 a1 a2 a3 a4 a5 s0 s1 s2 ph = some (r, ph')) : PW l g (d + 8) m_M_come 162 [.ref a0, .int a1, .int a2, .int a3, .int a4, .int a5] [.int s2, .int s1, .ref s0] ph (px_qI r ph') := by
  unfold f_M_come_162 at h
  obtain ⟨ph1, h0, h⟩ := xs_some h
  obtain ⟨N, f, e1, e2, e3⟩ := xsI_some h0
  subst e3
  refine px_iast rfl e1 rfl e2 rfl ?_
  refine px_ld rfl rfl rfl rfl rfl ?_
  obtain ⟨t2, h0, h⟩ := xs_some h
  obtain ⟨fs, e1, e2⟩ := xgR_some h0
  refine px_get rfl e1 e2 rfl ?_
  refine px_ld rfl rfl rfl rfl rfl ?_
  refine px_ld rfl rfl rfl rfl rfl ?_
  refine px_ld rfl rfl rfl rfl rfl ?_
  refine px_ld rfl rfl rfl rfl rfl ?_
  obtain ⟨fs, h0, h⟩ := xs_some h
  have e1 := xo_some h0
  obtain ⟨t3, ph4, h0, h⟩ := xb_some h
  refine px_cV2 rfl rfl e1 rfl rfl rfl rfl rfl rfl rfl (r_M_value h0 :) (fun _ _ q => nomatch q.2) (fun r ph' q => ?_)
  obtain ⟨rfl, q⟩ := q
  cases q
  refine px_alu rfl rfl rfl ?_
  refine px_ld rfl rfl rfl rfl rfl ?_
  obtain ⟨t5, h0, h⟩ := xs_some h
  obtain ⟨fs, e1, e2⟩ := xgR_some h0
  refine px_get rfl e1 e2 rfl ?_
  refine px_ld rfl rfl rfl rfl rfl ?_
  obtain ⟨t6, h0, h⟩ := xs_some h
  obtain ⟨N, f, e1, e2, e3⟩ := xaI_some h0
  subst e3
  refine px_iald rfl e1 rfl e2 rfl ?_
  refine px_icle rfl (by decide) rfl (fun hc => ?_) (fun hc => ?_)
  · replace h := (if_pos hc).symm.trans h
    refine px_ld rfl rfl rfl rfl rfl ?_
    obtain ⟨t7, h0, h⟩ := xs_some h
    obtain ⟨fs, e1, e2⟩ := xgR_some h0
    refine px_get rfl e1 e2 rfl ?_
    refine px_ld rfl rfl rfl rfl rfl ?_
    obtain ⟨t8, h0, h⟩ := xs_some h
    obtain ⟨N, f, e1, e2, e3⟩ := xaI_some h0
    subst e3
    refine px_iald rfl e1 rfl e2 rfl ?_
    exact (r_M_come_203 h :)
  · replace h := (if_neg hc).symm.trans h
    refine px_ld rfl rfl rfl rfl rfl ?_
    refine px_ld rfl rfl rfl rfl rfl ?_
    refine px_ld rfl rfl rfl rfl rfl ?_
    obtain ⟨fs, h0, h⟩ := xs_some h
    have e1 := xo_some h0
    obtain ⟨t9, ph10, h0, h⟩ := xb_some h
    refine px_cV2 rfl rfl e1 rfl rfl rfl rfl rfl rfl rfl (r_M_value h0 :) (fun _ _ q => nomatch q.2) (fun r ph' q => ?_)
    obtain ⟨rfl, q⟩ := q
    cases q
    refine px_alu rfl rfl rfl ?_
    refine px_goto rfl (by decide) rfl ?_
    exact (r_M_come_203 h :)
def f_M_come_105 (F : Nat) (a0 : Nat) (a1 : Int32) (a2 : Int32) (a3 : Int32) (a4 : Int32) (a5 : Int32) (ph : px_H) : Option (Int32 × px_H) :=
  if a5 = (nI 2) then
    (xgR ph 12 23 a0).bind fun t1 =>
    (xaI ph 1 t1 a4).bind fun t2 =>
    if t2 = (nI 2) then
      (xgR ph 12 26 a0).bind fun t3 =>
      (xo ph 12 a0).bind fun _ =>
      xb (f_M_symbolSize F a0 a2 a3 ph) fun t4 ph5 =>
      (xgR ph5 12 26 a0).bind fun t6 =>
      (xaI ph5 1 t6 a4).bind fun t7 =>
      if t4.toInt32 ≤ t7 then
        (xgR ph5 12 26 a0).bind fun t8 =>
        (xaI ph5 1 t8 a4).bind fun t9 =>
        f_M_come_162 F a0 a1 a2 a3 a4 a5 t3 a4 t9 ph5
      else
        (xo ph5 12 a0).bind fun _ =>
        xb (f_M_symbolSize F a0 a2 a3 ph5) fun t10 ph11 =>
        f_M_come_162 F a0 a1 a2 a3 a4 a5 t3 a4 t10.toInt32 ph11
    else
      f_M_come_204 F a0 a1 a2 a3 a4 a5 ph
  else
    f_M_come_204 F a0 a1 a2 a3 a4 a5 ph
theorem r_M_come_105 {l : Launch} {g : px_G} {d F : Nat} {a0 : Nat} {a1 : Int32} {a2 : Int32} {a3 : Int32} {a4 : Int32} {a5 : Int32} {ph : px_H} {r : Int32} {ph' : px_H} (h : f_M_come_105 F a0 a1 a2 a3 a4 a5 ph = some (r, ph')) : PW l g (d + 8) m_M_come 105 [.ref a0, .int a1, .int a2, .int a3, .int a4, .int a5] [] ph (px_qI r ph') := by
  unfold f_M_come_105 at h
  refine px_ld rfl rfl rfl rfl rfl ?_
  refine px_ic (k := 2) rfl rfl rfl ?_
  refine px_icne rfl (by decide) rfl (fun hc => ?_) (fun hc => ?_)
  · replace h := (if_neg hc).symm.trans h
    exact (r_M_come_204 h :)
  · replace h := (if_pos hc).symm.trans h
    refine px_ld rfl rfl rfl rfl rfl ?_
    obtain ⟨t1, h0, h⟩ := xs_some h
    obtain ⟨fs, e1, e2⟩ := xgR_some h0
    refine px_get rfl e1 e2 rfl ?_
    refine px_ld rfl rfl rfl rfl rfl ?_
    obtain ⟨t2, h0, h⟩ := xs_some h
    obtain ⟨N, f, e1, e2, e3⟩ := xaI_some h0
    subst e3
    refine px_iald rfl e1 rfl e2 rfl ?_
    refine px_ic (k := 2) rfl rfl rfl ?_
    refine px_icne rfl (by decide) rfl (fun hc => ?_) (fun hc => ?_)
    · replace h := (if_neg hc).symm.trans h
      exact (r_M_come_204 h :)
    · replace h := (if_pos hc).symm.trans h
      refine px_ld rfl rfl rfl rfl rfl ?_
      obtain ⟨t3, h0, h⟩ := xs_some h
      obtain ⟨fs, e1, e2⟩ := xgR_some h0
      refine px_get rfl e1 e2 rfl ?_
      refine px_ld rfl rfl rfl rfl rfl ?_
      refine px_ld rfl rfl rfl rfl rfl ?_
      refine px_ld rfl rfl rfl rfl rfl ?_
      refine px_ld rfl rfl rfl rfl rfl ?_
      obtain ⟨fs, h0, h⟩ := xs_some h
      have e1 := xo_some h0
      obtain ⟨t4, ph5, h0, h⟩ := xb_some h
      refine px_cV2 rfl rfl e1 rfl rfl rfl rfl rfl rfl rfl (r_M_symbolSize h0 :) (fun _ _ q => nomatch q.2) (fun r ph' q => ?_)
      obtain ⟨rfl, q⟩ := q
      cases q
      refine px_alu rfl rfl rfl ?_
      refine px_ld rfl rfl rfl rfl rfl ?_
      obtain ⟨t6, h0, h⟩ := xs_some h
      obtain ⟨fs, e1, e2⟩ := xgR_some h0
      refine px_get rfl e1 e2 rfl ?_
      refine px_ld rfl rfl rfl rfl rfl ?_
      obtain ⟨t7, h0, h⟩ := xs_some h
      obtain ⟨N, f, e1, e2, e3⟩ := xaI_some h0
      subst e3
      refine px_iald rfl e1 rfl e2 rfl ?_
      refine px_icle rfl (by decide) rfl (fun hc => ?_) (fun hc => ?_)
      · replace h := (if_pos hc).symm.trans h
        refine px_ld rfl rfl rfl rfl rfl ?_
        obtain ⟨t8, h0, h⟩ := xs_some h
        obtain ⟨fs, e1, e2⟩ := xgR_some h0
        refine px_get rfl e1 e2 rfl ?_
        refine px_ld rfl rfl rfl rfl rfl ?_
        obtain ⟨t9, h0, h⟩ := xs_some h
        obtain ⟨N, f, e1, e2, e3⟩ := xaI_some h0
        subst e3
        refine px_iald rfl e1 rfl e2 rfl ?_
        exact (r_M_come_162 h :)
      · replace h := (if_neg hc).symm.trans h
        refine px_ld rfl rfl rfl rfl rfl ?_
        refine px_ld rfl rfl rfl rfl rfl ?_
        refine px_ld rfl rfl rfl rfl rfl ?_
        obtain ⟨fs, h0, h⟩ := xs_some h
        have e1 := xo_some h0
        obtain ⟨t10, ph11, h0, h⟩ := xb_some h
        refine px_cV2 rfl rfl e1 rfl rfl rfl rfl rfl rfl rfl (r_M_symbolSize h0 :) (fun _ _ q => nomatch q.2) (fun r ph' q => ?_)
        obtain ⟨rfl, q⟩ := q
        cases q
        refine px_alu rfl rfl rfl ?_
        refine px_goto rfl (by decide) rfl ?_
        exact (r_M_come_162 h :)
def f_M_come_74 (F : Nat) (a0 : Nat) (a1 : Int32) (a2 : Int32) (a3 : Int32) (a4 : Int32) (a5 : Int32) (ph : px_H) : Option (Int32 × px_H) :=
  (xgR ph 12 23 a0).bind fun t1 =>
  (xaI ph 1 t1 a4).bind fun t2 =>
  if t2 = 0 then
    (xgR ph 12 49 a0).bind fun t3 =>
    (xgI ph 12 48 a0).bind fun t4 =>
    (xsI ph 1 t3 t4 a4).bind fun ph5 =>
    (xgI ph5 12 48 a0).bind fun t6 =>
    (xpI ph5 12 48 a0 (t6 + (nI 1))).bind fun ph7 =>
    f_M_come_105 F a0 a1 a2 a3 a4 a5 ph7
  else
    f_M_come_105 F a0 a1 a2 a3 a4 a5 ph
theorem r_M_come_74 {l : Launch} {g : px_G} {d F : Nat} {a0 : Nat} {a1 : Int32} {a2 : Int32} {a3 : Int32} {a4 : Int32} {a5 : Int32} {ph : px_H} {r : Int32} {ph' : px_H} (h : f_M_come_74 F a0 a1 a2 a3 a4 a5 ph = some (r, ph')) : PW l g (d + 8) m_M_come 74 [.ref a0, .int a1, .int a2, .int a3, .int a4, .int a5] [] ph (px_qI r ph') := by
  unfold f_M_come_74 at h
  refine px_ld rfl rfl rfl rfl rfl ?_
  obtain ⟨t1, h0, h⟩ := xs_some h
  obtain ⟨fs, e1, e2⟩ := xgR_some h0
  refine px_get rfl e1 e2 rfl ?_
  refine px_ld rfl rfl rfl rfl rfl ?_
  obtain ⟨t2, h0, h⟩ := xs_some h
  obtain ⟨N, f, e1, e2, e3⟩ := xaI_some h0
  subst e3
  refine px_iald rfl e1 rfl e2 rfl ?_
  refine px_ifne rfl (by decide) rfl (fun hc => ?_) (fun hc => ?_)
  · replace h := (if_neg hc).symm.trans h
    exact (r_M_come_105 h :)
  · replace h := (if_pos hc).symm.trans h
    refine px_ld rfl rfl rfl rfl rfl ?_
    obtain ⟨t3, h0, h⟩ := xs_some h
    obtain ⟨fs, e1, e2⟩ := xgR_some h0
    refine px_get rfl e1 e2 rfl ?_
    refine px_ld rfl rfl rfl rfl rfl ?_
    obtain ⟨t4, h0, h⟩ := xs_some h
    obtain ⟨fs, e1, e2⟩ := xgI_some h0
    refine px_get rfl e1 e2 rfl ?_
    refine px_ld rfl rfl rfl rfl rfl ?_
    obtain ⟨ph5, h0, h⟩ := xs_some h
    obtain ⟨N, f, e1, e2, e3⟩ := xsI_some h0
    subst e3
    refine px_iast rfl e1 rfl e2 rfl ?_
    refine px_ld rfl rfl rfl rfl rfl ?_
    refine px_alu rfl rfl rfl ?_
    obtain ⟨t6, h0, h⟩ := xs_some h
    obtain ⟨fs, e1, e2⟩ := xgI_some h0
    refine px_get rfl e1 e2 rfl ?_
    refine px_ic (k := 1) rfl rfl rfl ?_
    refine px_alu rfl rfl rfl ?_
    obtain ⟨ph7, h0, h⟩ := xs_some h
    obtain ⟨fs, e1, e2, e3⟩ := xpI_some h0
    subst e3
    refine px_put rfl e1 e2 trivial rfl ?_
    exact (r_M_come_105 h :)
def f_M_come_52 (F : Nat) (s0 : Nat) (s1 : Int32) (s2 : Int32) (ph : px_H) : Option (Int32 × px_H) :=
  (xsI ph 3 s0 s1 (s2 &&& 1)).bind fun ph1 =>
  some (nI 1, ph1)
theorem r_M_come_52 {l : Launch} {g : px_G} {d F : Nat} {s0 : Nat} {s1 : Int32} {s2 : Int32} {ph : px_H} {r : Int32} {ph' : px_H} (h : f_M_come_52 F s0 s1 s2 ph = some (r, ph')) : PW l g (d + 8) m_M_come 52 [px_u, px_u, px_u, px_u, px_u, px_u] [.int s2, .int s1, .ref s0] ph (px_qI r ph') := by
  unfold f_M_come_52 at h
  obtain ⟨ph1, h0, h⟩ := xs_some h
  obtain ⟨N, f, e1, e2, e3⟩ := xsI_some h0
  subst e3
  refine px_zast rfl e1 rfl e2 rfl ?_
  refine px_ic (k := 1) rfl rfl rfl ?_
  cases h
  exact px_iret rfl (Or.inr ⟨rfl, Or.inr rfl⟩) rfl ⟨rfl, rfl⟩
def f_M_come_47 (F : Nat) (s0 : Nat) (s1 : Int32) (ph : px_H) : Option (Int32 × px_H) :=
  f_M_come_52 F s0 s1 (nI 1) ph
theorem r_M_come_47 {l : Launch} {g : px_G} {d F : Nat} {s0 : Nat} {s1 : Int32} {ph : px_H} {r : Int32} {ph' : px_H} (h : f_M_come_47 F s0 s1 ph = some (r, ph')) : PW l g (d + 8) m_M_come 47 [px_u, px_u, px_u, px_u, px_u, px_u] [.int s1, .ref s0] ph (px_qI r ph') := by
  unfold f_M_come_47 at h
  refine px_ic (k := 1) rfl rfl rfl ?_
  refine px_goto rfl (by decide) rfl ?_
  exact (r_M_come_52 h :)
def f_M_come (F : Nat) (a0 : Nat) (a1 : Int32) (a2 : Int32) (a3 : Int32) (ph : px_H) : Option (Int32 × px_H) :=
  (xo ph 12 a0).bind fun _ =>
  xb (f_M_enter F a0 a2 a3 ph) fun t1 ph2 =>
  (xo ph2 12 a0).bind fun _ =>
  xb (f_M_strengthOf F a0 a1 a3 ph2) fun t3 ph4 =>
  if t3 = 0 then
    (xgR ph4 12 28 a0).bind fun t7 =>
    (xgR ph4 12 28 a0).bind fun t8 =>
    (xaI ph4 3 t8 t1).bind fun t9 =>
    if t9 = 0 then
      (xo ph4 12 a0).bind fun _ =>
      xb (f_M_bind F a0 a2 a3 ph4) fun t10 ph11 =>
      if t10 = (nI 1) then
        f_M_come_47 F t7 t1 ph11
      else
        f_M_come_52 F t7 t1 (nI 0) ph11
    else
      f_M_come_47 F t7 t1 ph4
  else
    if t3 = (nI 3) then
      (xgR ph4 12 23 a0).bind fun t5 =>
      (xaI ph4 1 t5 t1).bind fun t6 =>
      if t6 = (nI 3) then
        some (nI 0, ph4)
      else
        f_M_come_74 F a0 a1 a2 a3 t1 t3 ph4
    else
      f_M_come_74 F a0 a1 a2 a3 t1 t3 ph4
theorem r_M_come {l : Launch} {g : px_G} {d F : Nat} {a0 : Nat} {a1 : Int32} {a2 : Int32} {a3 : Int32} {ph : px_H} {r : Int32} {ph' : px_H} (h : f_M_come F a0 a1 a2 a3 ph = some (r, ph')) : PW l g (d + 8) m_M_come 0 [.ref a0, .int a1, .int a2, .int a3, px_u, px_u] [] ph (px_qI r ph') := by
  unfold f_M_come at h
  refine px_ld rfl rfl rfl rfl rfl ?_
  refine px_ld rfl rfl rfl rfl rfl ?_
  refine px_ld rfl rfl rfl rfl rfl ?_
  obtain ⟨fs, h0, h⟩ := xs_some h
  have e1 := xo_some h0
  obtain ⟨t1, ph2, h0, h⟩ := xb_some h
  refine px_cV2 rfl rfl e1 rfl rfl rfl rfl rfl rfl rfl (r_M_enter h0 :) (fun _ _ q => nomatch q.2) (fun r ph' q => ?_)
  obtain ⟨rfl, q⟩ := q
  cases q
  refine px_st (lv' := [_, _, _, _, _, _]) rfl rfl rfl rfl rfl rfl rfl ?_
  refine px_ld rfl rfl rfl rfl rfl ?_
  refine px_ld rfl rfl rfl rfl rfl ?_
  refine px_ld rfl rfl rfl rfl rfl ?_
  obtain ⟨fs, h0, h⟩ := xs_some h
  have e1 := xo_some h0
  obtain ⟨t3, ph4, h0, h⟩ := xb_some h
  refine px_cV2 rfl rfl e1 rfl rfl rfl rfl rfl rfl rfl (r_M_strengthOf h0 :) (fun _ _ q => nomatch q.2) (fun r ph' q => ?_)
  obtain ⟨rfl, q⟩ := q
  cases q
  refine px_st (lv' := [_, _, _, _, _, _]) rfl rfl rfl rfl rfl rfl rfl ?_
  refine px_ld rfl rfl rfl rfl rfl ?_
  refine px_ifne rfl (by decide) rfl (fun hc => ?_) (fun hc => ?_)
  · replace h := (if_neg hc).symm.trans h
    refine px_ld rfl rfl rfl rfl rfl ?_
    refine px_ic (k := 3) rfl rfl rfl ?_
    refine px_icne rfl (by decide) rfl (fun hc => ?_) (fun hc => ?_)
    · replace h := (if_neg hc).symm.trans h
      exact (r_M_come_74 h :)
    · replace h := (if_pos hc).symm.trans h
      refine px_ld rfl rfl rfl rfl rfl ?_
      obtain ⟨t5, h0, h⟩ := xs_some h
      obtain ⟨fs, e1, e2⟩ := xgR_some h0
      refine px_get rfl e1 e2 rfl ?_
      refine px_ld rfl rfl rfl rfl rfl ?_
      obtain ⟨t6, h0, h⟩ := xs_some h
      obtain ⟨N, f, e1, e2, e3⟩ := xaI_some h0
      subst e3
      refine px_iald rfl e1 rfl e2 rfl ?_
      refine px_ic (k := 3) rfl rfl rfl ?_
      refine px_icne rfl (by decide) rfl (fun hc => ?_) (fun hc => ?_)
      · replace h := (if_neg hc).symm.trans h
        exact (r_M_come_74 h :)
      · replace h := (if_pos hc).symm.trans h
        refine px_ic (k := 0) rfl rfl rfl ?_
        cases h
        exact px_iret rfl (Or.inr ⟨rfl, Or.inl rfl⟩) rfl ⟨rfl, rfl⟩
  · replace h := (if_pos hc).symm.trans h
    refine px_ld rfl rfl rfl rfl rfl ?_
    obtain ⟨t7, h0, h⟩ := xs_some h
    obtain ⟨fs, e1, e2⟩ := xgR_some h0
    refine px_get rfl e1 e2 rfl ?_
    refine px_ld rfl rfl rfl rfl rfl ?_
    refine px_ld rfl rfl rfl rfl rfl ?_
    obtain ⟨t8, h0, h⟩ := xs_some h
    obtain ⟨fs, e1, e2⟩ := xgR_some h0
    refine px_get rfl e1 e2 rfl ?_
    refine px_ld rfl rfl rfl rfl rfl ?_
    obtain ⟨t9, h0, h⟩ := xs_some h
    obtain ⟨N, f, e1, e2, e3⟩ := xaI_some h0
    subst e3
    refine px_zald rfl e1 rfl e2 rfl ?_
    refine px_ifne rfl (by decide) rfl (fun hc => ?_) (fun hc => ?_)
    · replace h := (if_neg hc).symm.trans h
      refine px_forget (n := 0) (lv' := [_, _, _, _, _, _]) rfl ?_
      refine px_forget (n := 1) (lv' := [_, _, _, _, _, _]) rfl ?_
      refine px_forget (n := 2) (lv' := [_, _, _, _, _, _]) rfl ?_
      refine px_forget (n := 3) (lv' := [_, _, _, _, _, _]) rfl ?_
      refine px_forget (n := 4) (lv' := [_, _, _, _, _, _]) rfl ?_
      refine px_forget (n := 5) (lv' := [_, _, _, _, _, _]) rfl ?_
      exact (r_M_come_47 h :)
    · replace h := (if_pos hc).symm.trans h
      refine px_ld rfl rfl rfl rfl rfl ?_
      refine px_ld rfl rfl rfl rfl rfl ?_
      refine px_ld rfl rfl rfl rfl rfl ?_
      obtain ⟨fs, h0, h⟩ := xs_some h
      have e1 := xo_some h0
      obtain ⟨t10, ph11, h0, h⟩ := xb_some h
      refine px_cV2 rfl rfl e1 rfl rfl rfl rfl rfl rfl rfl (r_M_bind h0 :) (fun _ _ q => nomatch q.2) (fun r ph' q => ?_)
      obtain ⟨rfl, q⟩ := q
      cases q
      refine px_ic (k := 1) rfl rfl rfl ?_
      refine px_icne rfl (by decide) rfl (fun hc => ?_) (fun hc => ?_)
      · replace h := (if_neg hc).symm.trans h
        refine px_ic (k := 0) rfl rfl rfl ?_
        refine px_forget (n := 0) (lv' := [_, _, _, _, _, _]) rfl ?_
        refine px_forget (n := 1) (lv' := [_, _, _, _, _, _]) rfl ?_
        refine px_forget (n := 2) (lv' := [_, _, _, _, _, _]) rfl ?_
        refine px_forget (n := 3) (lv' := [_, _, _, _, _, _]) rfl ?_
        refine px_forget (n := 4) (lv' := [_, _, _, _, _, _]) rfl ?_
        refine px_forget (n := 5) (lv' := [_, _, _, _, _, _]) rfl ?_
        exact (r_M_come_52 h :)
      · replace h := (if_pos hc).symm.trans h
        refine px_forget (n := 0) (lv' := [_, _, _, _, _, _]) rfl ?_
        refine px_forget (n := 1) (lv' := [_, _, _, _, _, _]) rfl ?_
        refine px_forget (n := 2) (lv' := [_, _, _, _, _, _]) rfl ?_
        refine px_forget (n := 3) (lv' := [_, _, _, _, _, _]) rfl ?_
        refine px_forget (n := 4) (lv' := [_, _, _, _, _, _]) rfl ?_
        refine px_forget (n := 5) (lv' := [_, _, _, _, _, _]) rfl ?_
        exact (r_M_come_47 h :)
def f_M_say_28 (F : Nat) (a0 : Nat) (a3 : Int32) (ph : px_H) : Option (Unit × px_H) :=
  (xpI ph 12 4 a0 a3).bind fun ph1 =>
  some ((), ph1)
theorem r_M_say_28 {l : Launch} {g : px_G} {d F : Nat} {a0 : Nat} {a3 : Int32} {ph : px_H} {r : Unit} {ph' : px_H} (h : f_M_say_28 F a0 a3 ph = some (r, ph')) : PW l g (d + 0) m_M_say 28 [.ref a0, px_u, px_u, .int a3, px_u] [] ph (px_qV r ph') := by
  unfold f_M_say_28 at h
  refine px_ld rfl rfl rfl rfl rfl ?_
  refine px_ld rfl rfl rfl rfl rfl ?_
  obtain ⟨ph1, h0, h⟩ := xs_some h
  obtain ⟨fs, e1, e2, e3⟩ := xpI_some h0
  subst e3
  refine px_put rfl e1 e2 trivial rfl ?_
  cases h
  exact px_vret rfl rfl rfl ⟨rfl, rfl⟩
def f_M_say_3 (F : Nat) : Nat → Nat → Nat → Int32 → Int32 → Int32 → px_H → Option (Unit × px_H)
  | 0, _, _, _, _, _, _ => none
  | n + 1, a0, a1, a2, a3, a4, ph =>
    if a3 ≤ a4 then
      f_M_say_28 F a0 a3 ph
    else
      (xgR ph 12 3 a0).bind fun t1 =>
      (xaI ph 0 a1 (a2 + a4)).bind fun t2 =>
      (xsI ph 0 t1 a4 (t2.toInt8.toInt32)).bind fun ph3 =>
      f_M_say_3 F n a0 a1 a2 a3 (a4 + nI 1) ph3
theorem r_M_say_3 {l : Launch} {g : px_G} {d F : Nat} : ∀ (n : Nat) {a0 : Nat} {a1 : Nat} {a2 : Int32} {a3 : Int32} {a4 : Int32} {ph : px_H} {r : Unit} {ph' : px_H}, f_M_say_3 F n a0 a1 a2 a3 a4 ph = some (r, ph') → PW l g (d + 0) m_M_say 3 [.ref a0, .ref a1, .int a2, .int a3, .int a4] [] ph (px_qV r ph') := by
  intro n
  induction n with
  | zero => intro _ _ _ _ _ _ _ _ h; cases h
  | succ n ih =>
    intro a0 a1 a2 a3 a4 ph r ph' h
    unfold f_M_say_3 at h
    refine px_ld rfl rfl rfl rfl rfl ?_
    refine px_ld rfl rfl rfl rfl rfl ?_
    refine px_icge rfl rfl rfl (fun hc => ?_) (fun hc => ?_)
    · replace h := (if_pos hc).symm.trans h
      refine px_forget (n := 1) (lv' := [_, _, _, _, _]) rfl ?_
      refine px_forget (n := 2) (lv' := [_, _, _, _, _]) rfl ?_
      refine px_forget (n := 4) (lv' := [_, _, _, _, _]) rfl ?_
      exact (r_M_say_28 h :)
    · replace h := (if_neg hc).symm.trans h
      refine px_ld rfl rfl rfl rfl rfl ?_
      obtain ⟨t1, h0, h⟩ := xs_some h
      obtain ⟨fs, e1, e2⟩ := xgR_some h0
      refine px_get rfl e1 e2 rfl ?_
      refine px_ld rfl rfl rfl rfl rfl ?_
      refine px_ld rfl rfl rfl rfl rfl ?_
      refine px_ld rfl rfl rfl rfl rfl ?_
      refine px_ld rfl rfl rfl rfl rfl ?_
      refine px_alu rfl rfl rfl ?_
      obtain ⟨t2, h0, h⟩ := xs_some h
      obtain ⟨N, f, e1, e2, e3⟩ := xaI_some h0
      subst e3
      refine px_bald rfl e1 rfl e2 rfl ?_
      obtain ⟨ph3, h0, h⟩ := xs_some h
      obtain ⟨N, f, e1, e2, e3⟩ := xsI_some h0
      subst e3
      refine px_bast rfl e1 rfl e2 rfl ?_
      refine px_iinc (lv' := [_, _, _, _, _]) rfl rfl rfl rfl rfl rfl ?_
      refine px_goto rfl rfl rfl ?_
      exact (ih h :)
def f_M_say (F : Nat) (a0 : Nat) (a1 : Nat) (a2 : Int32) (a3 : Int32) (ph : px_H) : Option (Unit × px_H) :=
  f_M_say_3 F F a0 a1 a2 a3 (nI 0) ph
theorem r_M_say {l : Launch} {g : px_G} {d F : Nat} {a0 : Nat} {a1 : Nat} {a2 : Int32} {a3 : Int32} {ph : px_H} {r : Unit} {ph' : px_H} (h : f_M_say F a0 a1 a2 a3 ph = some (r, ph')) : PW l g (d + 0) m_M_say 0 [.ref a0, .ref a1, .int a2, .int a3, px_u] [] ph (px_qV r ph') := by
  unfold f_M_say at h
  refine px_ic (k := 0) rfl rfl rfl ?_
  refine px_st (lv' := [_, _, _, _, _]) rfl rfl rfl rfl rfl rfl rfl ?_
  exact (r_M_say_3 _ h :)
def f_M_take_138 (F : Nat) (ph : px_H) : Option (Unit × px_H) :=
  some ((), ph)
theorem r_M_take_138 {l : Launch} {g : px_G} {d F : Nat} {ph : px_H} {r : Unit} {ph' : px_H} (h : f_M_take_138 F ph = some (r, ph')) : PW l g (d + 9) m_M_take 138 [px_u, px_u, px_u, px_u, px_u, px_u] [] ph (px_qV r ph') := by
  unfold f_M_take_138 at h
  cases h
  exact px_vret rfl rfl rfl ⟨rfl, rfl⟩
def f_M_take_132 (F : Nat) (k44 : Nat → Int32 → Int32 → Int32 → px_H → Option (Unit × px_H)) (a0 : Nat) (a2 : Int32) (a3 : Int32) (a4 : Int32) (ph : px_H) : Option (Unit × px_H) :=
  k44 a0 a2 a3 (a4 + nI 1) ph
theorem r_M_take_132 {l : Launch} {g : px_G} {d F : Nat} {k44 : Nat → Int32 → Int32 → Int32 → px_H → Option (Unit × px_H)} (hk44 : ∀ {a0 : Nat} {a2 : Int32} {a3 : Int32} {a4 : Int32} {ph : px_H} {r : Unit} {ph' : px_H}, k44 a0 a2 a3 a4 ph = some (r, ph') → PW l g (d + 9) m_M_take 44 [.ref a0, px_u, .int a2, .int a3, .int a4, px_u] [] ph (px_qV r ph')) {a0 : Nat} {a2 : Int32} {a3 : Int32} {a4 : Int32} {ph : px_H} {r : Unit} {ph' : px_H} (h : f_M_take_132 F k44 a0 a2 a3 a4 ph = some (r, ph')) : PW l g (d + 9) m_M_take 132 [.ref a0, px_u, .int a2, .int a3, .int a4, px_u] [] ph (px_qV r ph') := by
  unfold f_M_take_132 at h
  refine px_iinc (lv' := [_, _, _, _, _, _]) rfl rfl rfl rfl rfl rfl ?_
  refine px_goto rfl (by decide) rfl ?_
  exact (hk44 h :)
def f_M_take_44 (F : Nat) : Nat → Nat → Int32 → Int32 → Int32 → px_H → Option (Unit × px_H)
  | 0, _, _, _, _, _ => none
  | n + 1, a0, a2, a3, a4, ph =>
    (xo ph 12 a0).bind fun _ =>
    xb (f_M_symbolMany F a0 a3 ph) fun t1 ph2 =>
    if t1 ≤ a4 then
      f_M_take_138 F ph2
    else
      (xo ph2 12 a0).bind fun _ =>
      xb (f_M_bind F a0 a3 a4 ph2) fun t3 ph4 =>
      if t3 = 0 then
        f_M_take_132 F (f_M_take_44 F n) a0 a2 a3 a4 ph4
      else
        (xgI ph4 12 13 a0).bind fun t5 =>
        if t5 = (nI 1) then
          (xo ph4 12 a0).bind fun _ =>
          xb (f_M_enter F a0 a3 a4 ph4) fun t15 ph16 =>
          f_M_take_132 F (f_M_take_44 F n) a0 a2 a3 a4 ph16
        else
          (xo ph4 12 a0).bind fun _ =>
          xb (f_M_come F a0 a2 a3 a4 ph4) fun t6 ph7 =>
          if t6 = 0 then
            (xpI ph7 12 13 a0 (nI 1)).bind fun ph8 =>
            (xo ph8 12 a0).bind fun _ =>
            xb (f_M_nameOf F a0 a3 a4 ph8) fun t9 ph10 =>
            (xgR ph10 12 21 a0).bind fun t11 =>
            (xgR ph10 12 22 a0).bind fun t12 =>
            (xaI ph10 1 t12 t9).bind fun t13 =>
            (xo ph10 12 a0).bind fun _ =>
            xb (f_M_say F a0 t11 ((nI 20) * t9) t13 ph10) fun _ ph14 =>
            f_M_take_132 F (f_M_take_44 F n) a0 a2 a3 a4 ph14
          else
            f_M_take_132 F (f_M_take_44 F n) a0 a2 a3 a4 ph7
theorem r_M_take_44 {l : Launch} {g : px_G} {d F : Nat} : ∀ (n : Nat) {a0 : Nat} {a2 : Int32} {a3 : Int32} {a4 : Int32} {ph : px_H} {r : Unit} {ph' : px_H}, f_M_take_44 F n a0 a2 a3 a4 ph = some (r, ph') → PW l g (d + 9) m_M_take 44 [.ref a0, px_u, .int a2, .int a3, .int a4, px_u] [] ph (px_qV r ph') := by
  intro n
  induction n with
  | zero => intro _ _ _ _ _ _ _ h; cases h
  | succ n ih =>
    intro a0 a2 a3 a4 ph r ph' h
    unfold f_M_take_44 at h
    refine px_ld rfl rfl rfl rfl rfl ?_
    refine px_ld rfl rfl rfl rfl rfl ?_
    refine px_ld rfl rfl rfl rfl rfl ?_
    obtain ⟨fs, h0, h⟩ := xs_some h
    have e1 := xo_some h0
    obtain ⟨t1, ph2, h0, h⟩ := xb_some h
    refine px_cV1 rfl rfl e1 rfl rfl rfl rfl rfl rfl rfl (r_M_symbolMany h0 :) (fun _ _ q => nomatch q.2) (fun r ph' q => ?_)
    obtain ⟨rfl, q⟩ := q
    cases q
    refine px_icge rfl (by decide) rfl (fun hc => ?_) (fun hc => ?_)
    · replace h := (if_pos hc).symm.trans h
      refine px_forget (n := 0) (lv' := [_, _, _, _, _, _]) rfl ?_
      refine px_forget (n := 2) (lv' := [_, _, _, _, _, _]) rfl ?_
      refine px_forget (n := 3) (lv' := [_, _, _, _, _, _]) rfl ?_
      refine px_forget (n := 4) (lv' := [_, _, _, _, _, _]) rfl ?_
      exact (r_M_take_138 h :)
    · replace h := (if_neg hc).symm.trans h
      refine px_ld rfl rfl rfl rfl rfl ?_
      refine px_ld rfl rfl rfl rfl rfl ?_
      refine px_ld rfl rfl rfl rfl rfl ?_
      obtain ⟨fs, h0, h⟩ := xs_some h
      have e1 := xo_some h0
      obtain ⟨t3, ph4, h0, h⟩ := xb_some h
      refine px_cV2 rfl rfl e1 rfl rfl rfl rfl rfl rfl rfl (r_M_bind h0 :) (fun _ _ q => nomatch q.2) (fun r ph' q => ?_)
      obtain ⟨rfl, q⟩ := q
      cases q
      refine px_ifne rfl (by decide) rfl (fun hc => ?_) (fun hc => ?_)
      · replace h := (if_neg hc).symm.trans h
        refine px_ld rfl rfl rfl rfl rfl ?_
        obtain ⟨t5, h0, h⟩ := xs_some h
        obtain ⟨fs, e1, e2⟩ := xgI_some h0
        refine px_get rfl e1 e2 rfl ?_
        refine px_ic (k := 1) rfl rfl rfl ?_
        refine px_icne rfl (by decide) rfl (fun hc => ?_) (fun hc => ?_)
        · replace h := (if_neg hc).symm.trans h
          refine px_ld rfl rfl rfl rfl rfl ?_
          refine px_ld rfl rfl rfl rfl rfl ?_
          refine px_ld rfl rfl rfl rfl rfl ?_
          refine px_ld rfl rfl rfl rfl rfl ?_
          obtain ⟨fs, h0, h⟩ := xs_some h
          have e1 := xo_some h0
          obtain ⟨t6, ph7, h0, h⟩ := xb_some h
          refine px_cV3 rfl rfl e1 rfl rfl rfl rfl rfl rfl rfl (r_M_come h0 :) (fun _ _ q => nomatch q.2) (fun r ph' q => ?_)
          obtain ⟨rfl, q⟩ := q
          cases q
          refine px_ifne rfl (by decide) rfl (fun hc => ?_) (fun hc => ?_)
          · replace h := (if_neg hc).symm.trans h
            exact (r_M_take_132 @ih h :)
          · replace h := (if_pos hc).symm.trans h
            refine px_ld rfl rfl rfl rfl rfl ?_
            refine px_ic (k := 1) rfl rfl rfl ?_
            obtain ⟨ph8, h0, h⟩ := xs_some h
            obtain ⟨fs, e1, e2, e3⟩ := xpI_some h0
            subst e3
            refine px_put rfl e1 e2 trivial rfl ?_
            refine px_ld rfl rfl rfl rfl rfl ?_
            refine px_ld rfl rfl rfl rfl rfl ?_
            refine px_ld rfl rfl rfl rfl rfl ?_
            obtain ⟨fs, h0, h⟩ := xs_some h
            have e1 := xo_some h0
            obtain ⟨t9, ph10, h0, h⟩ := xb_some h
            refine px_cV2 rfl rfl e1 rfl rfl rfl rfl rfl rfl rfl (r_M_nameOf h0 :) (fun _ _ q => nomatch q.2) (fun r ph' q => ?_)
            obtain ⟨rfl, q⟩ := q
            cases q
            refine px_st (lv' := [_, _, _, _, _, _]) rfl rfl rfl rfl rfl rfl rfl ?_
            refine px_ld rfl rfl rfl rfl rfl ?_
            refine px_ld rfl rfl rfl rfl rfl ?_
            obtain ⟨t11, h0, h⟩ := xs_some h
            obtain ⟨fs, e1, e2⟩ := xgR_some h0
            refine px_get rfl e1 e2 rfl ?_
            refine px_ic (k := 20) rfl rfl rfl ?_
            refine px_ld rfl rfl rfl rfl rfl ?_
            refine px_alu rfl rfl rfl ?_
            refine px_ld rfl rfl rfl rfl rfl ?_
            obtain ⟨t12, h0, h⟩ := xs_some h
            obtain ⟨fs, e1, e2⟩ := xgR_some h0
            refine px_get rfl e1 e2 rfl ?_
            refine px_ld rfl rfl rfl rfl rfl ?_
            obtain ⟨t13, h0, h⟩ := xs_some h
            obtain ⟨N, f, e1, e2, e3⟩ := xaI_some h0
            subst e3
            refine px_iald rfl e1 rfl e2 rfl ?_
            obtain ⟨fs, h0, h⟩ := xs_some h
            have e1 := xo_some h0
            obtain ⟨u0, ph14, h0, h⟩ := xb_some h
            refine px_cV3 rfl rfl e1 rfl rfl rfl rfl rfl rfl rfl (r_M_say h0 :) (fun _ _ q => nomatch q.2) (fun r ph' q => ?_)
            obtain ⟨rfl, q⟩ := q
            cases q
            refine px_forget (n := 5) (lv' := [_, _, _, _, _, _]) rfl ?_
            exact (r_M_take_132 @ih h :)
        · replace h := (if_pos hc).symm.trans h
          refine px_ld rfl rfl rfl rfl rfl ?_
          refine px_ld rfl rfl rfl rfl rfl ?_
          refine px_ld rfl rfl rfl rfl rfl ?_
          obtain ⟨fs, h0, h⟩ := xs_some h
          have e1 := xo_some h0
          obtain ⟨t15, ph16, h0, h⟩ := xb_some h
          refine px_cV2 rfl rfl e1 rfl rfl rfl rfl rfl rfl rfl (r_M_enter h0 :) (fun _ _ q => nomatch q.2) (fun r ph' q => ?_)
          obtain ⟨rfl, q⟩ := q
          cases q
          refine px_st (lv' := [_, _, _, _, _, _]) rfl rfl rfl rfl rfl rfl rfl ?_
          refine px_goto rfl (by decide) rfl ?_
          refine px_forget (n := 5) (lv' := [_, _, _, _, _, _]) rfl ?_
          exact (r_M_take_132 @ih h :)
      · replace h := (if_pos hc).symm.trans h
        refine px_goto rfl (by decide) rfl ?_
        exact (r_M_take_132 @ih h :)
def f_M_take (F : Nat) (a0 : Nat) (a1 : Int32) (ph : px_H) : Option (Unit × px_H) :=
  (xgI ph 12 14 a0).bind fun t1 =>
  (xgR ph 12 17 a0).bind fun t2 =>
  (xsI ph 1 t2 t1 a1).bind fun ph3 =>
  (xgR ph3 12 18 a0).bind fun t4 =>
  (xsI ph3 3 t4 a1 ((nI 1) &&& 1)).bind fun ph5 =>
  (xgI ph5 12 14 a0).bind fun t6 =>
  (xpI ph5 12 14 a0 (t6 + (nI 1))).bind fun ph7 =>
  (xo ph7 12 a0).bind fun _ =>
  xb (f_M_dropGroups F a0 t1 ph7) fun _ ph8 =>
  (xgR ph8 12 9 a0).bind fun t9 =>
  (xaI ph8 1 t9 a1).bind fun t10 =>
  f_M_take_44 F F a0 t1 t10 (nI 1) ph8
theorem r_M_take {l : Launch} {g : px_G} {d F : Nat} {a0 : Nat} {a1 : Int32} {ph : px_H} {r : Unit} {ph' : px_H} (h : f_M_take F a0 a1 ph = some (r, ph')) : PW l g (d + 9) m_M_take 0 [.ref a0, .int a1, px_u, px_u, px_u, px_u] [] ph (px_qV r ph') := by
  unfold f_M_take at h
  refine px_ld rfl rfl rfl rfl rfl ?_
  obtain ⟨t1, h0, h⟩ := xs_some h
  obtain ⟨fs, e1, e2⟩ := xgI_some h0
  refine px_get rfl e1 e2 rfl ?_
  refine px_st (lv' := [_, _, _, _, _, _]) rfl rfl rfl rfl rfl rfl rfl ?_
  refine px_ld rfl rfl rfl rfl rfl ?_
  obtain ⟨t2, h0, h⟩ := xs_some h
  obtain ⟨fs, e1, e2⟩ := xgR_some h0
  refine px_get rfl e1 e2 rfl ?_
  refine px_ld rfl rfl rfl rfl rfl ?_
  refine px_ld rfl rfl rfl rfl rfl ?_
  obtain ⟨ph3, h0, h⟩ := xs_some h
  obtain ⟨N, f, e1, e2, e3⟩ := xsI_some h0
  subst e3
  refine px_iast rfl e1 rfl e2 rfl ?_
  refine px_ld rfl rfl rfl rfl rfl ?_
  obtain ⟨t4, h0, h⟩ := xs_some h
  obtain ⟨fs, e1, e2⟩ := xgR_some h0
  refine px_get rfl e1 e2 rfl ?_
  refine px_ld rfl rfl rfl rfl rfl ?_
  refine px_ic (k := 1) rfl rfl rfl ?_
  obtain ⟨ph5, h0, h⟩ := xs_some h
  obtain ⟨N, f, e1, e2, e3⟩ := xsI_some h0
  subst e3
  refine px_zast rfl e1 rfl e2 rfl ?_
  refine px_ld rfl rfl rfl rfl rfl ?_
  refine px_alu rfl rfl rfl ?_
  obtain ⟨t6, h0, h⟩ := xs_some h
  obtain ⟨fs, e1, e2⟩ := xgI_some h0
  refine px_get rfl e1 e2 rfl ?_
  refine px_ic (k := 1) rfl rfl rfl ?_
  refine px_alu rfl rfl rfl ?_
  obtain ⟨ph7, h0, h⟩ := xs_some h
  obtain ⟨fs, e1, e2, e3⟩ := xpI_some h0
  subst e3
  refine px_put rfl e1 e2 trivial rfl ?_
  refine px_ld rfl rfl rfl rfl rfl ?_
  refine px_ld rfl rfl rfl rfl rfl ?_
  obtain ⟨fs, h0, h⟩ := xs_some h
  have e1 := xo_some h0
  obtain ⟨u0, ph8, h0, h⟩ := xb_some h
  refine px_cV1 rfl rfl e1 rfl rfl rfl rfl rfl rfl rfl (r_M_dropGroups h0 :) (fun _ _ q => nomatch q.2) (fun r ph' q => ?_)
  obtain ⟨rfl, q⟩ := q
  cases q
  refine px_ld rfl rfl rfl rfl rfl ?_
  obtain ⟨t9, h0, h⟩ := xs_some h
  obtain ⟨fs, e1, e2⟩ := xgR_some h0
  refine px_get rfl e1 e2 rfl ?_
  refine px_ld rfl rfl rfl rfl rfl ?_
  obtain ⟨t10, h0, h⟩ := xs_some h
  obtain ⟨N, f, e1, e2, e3⟩ := xaI_some h0
  subst e3
  refine px_iald rfl e1 rfl e2 rfl ?_
  refine px_st (lv' := [_, _, _, _, _, _]) rfl rfl rfl rfl rfl rfl rfl ?_
  refine px_ic (k := 1) rfl rfl rfl ?_
  refine px_st (lv' := [_, _, _, _, _, _]) rfl rfl rfl rfl rfl rfl rfl ?_
  refine px_forget (n := 1) (lv' := [_, _, _, _, _, _]) rfl ?_
  exact (r_M_take_44 _ h :)
def f_M_takeFrom_109 (F : Nat) (ph : px_H) : Option (Unit × px_H) :=
  some ((), ph)
theorem r_M_takeFrom_109 {l : Launch} {g : px_G} {d F : Nat} {ph : px_H} {r : Unit} {ph' : px_H} (h : f_M_takeFrom_109 F ph = some (r, ph')) : PW l g (d + 10) m_M_takeFrom 109 [px_u, px_u, px_u, px_u, px_u, px_u] [] ph (px_qV r ph') := by
  unfold f_M_takeFrom_109 at h
  cases h
  exact px_vret rfl rfl rfl ⟨rfl, rfl⟩
def f_M_takeFrom_106 (F : Nat) (k2 : Nat → Int32 → Int32 → px_H → Option (Unit × px_H)) (a0 : Nat) (a1 : Int32) (a2 : Int32) (ph : px_H) : Option (Unit × px_H) :=
  k2 a0 a1 a2 ph
theorem r_M_takeFrom_106 {l : Launch} {g : px_G} {d F : Nat} {k2 : Nat → Int32 → Int32 → px_H → Option (Unit × px_H)} (hk2 : ∀ {a0 : Nat} {a1 : Int32} {a2 : Int32} {ph : px_H} {r : Unit} {ph' : px_H}, k2 a0 a1 a2 ph = some (r, ph') → PW l g (d + 10) m_M_takeFrom 2 [.ref a0, .int a1, .int a2, px_u, px_u, px_u] [] ph (px_qV r ph')) {a0 : Nat} {a1 : Int32} {a2 : Int32} {ph : px_H} {r : Unit} {ph' : px_H} (h : f_M_takeFrom_106 F k2 a0 a1 a2 ph = some (r, ph')) : PW l g (d + 10) m_M_takeFrom 106 [.ref a0, .int a1, .int a2, px_u, px_u, px_u] [] ph (px_qV r ph') := by
  unfold f_M_takeFrom_106 at h
  refine px_goto rfl (by decide) rfl ?_
  exact (hk2 h :)
def f_M_takeFrom_100 (F : Nat) (k2 : Nat → Int32 → Int32 → px_H → Option (Unit × px_H)) (k18 : Nat → Int32 → Int32 → Int32 → px_H → Option (Unit × px_H)) (a0 : Nat) (a1 : Int32) (a2 : Int32) (a3 : Int32) (ph : px_H) : Option (Unit × px_H) :=
  k18 a0 a1 a2 (a3 + nI 1) ph
theorem r_M_takeFrom_100 {l : Launch} {g : px_G} {d F : Nat} {k2 : Nat → Int32 → Int32 → px_H → Option (Unit × px_H)} (hk2 : ∀ {a0 : Nat} {a1 : Int32} {a2 : Int32} {ph : px_H} {r : Unit} {ph' : px_H}, k2 a0 a1 a2 ph = some (r, ph') → PW l g (d + 10) m_M_takeFrom 2 [.ref a0, .int a1, .int a2, px_u, px_u, px_u] [] ph (px_qV r ph')) {k18 : Nat → Int32 → Int32 → Int32 → px_H → Option (Unit × px_H)} (hk18 : ∀ {a0 : Nat} {a1 : Int32} {a2 : Int32} {a3 : Int32} {ph : px_H} {r : Unit} {ph' : px_H}, k18 a0 a1 a2 a3 ph = some (r, ph') → PW l g (d + 10) m_M_takeFrom 18 [.ref a0, .int a1, .int a2, .int a3, px_u, px_u] [] ph (px_qV r ph')) {a0 : Nat} {a1 : Int32} {a2 : Int32} {a3 : Int32} {ph : px_H} {r : Unit} {ph' : px_H} (h : f_M_takeFrom_100 F k2 k18 a0 a1 a2 a3 ph = some (r, ph')) : PW l g (d + 10) m_M_takeFrom 100 [.ref a0, .int a1, .int a2, .int a3, px_u, px_u] [] ph (px_qV r ph') := by
  unfold f_M_takeFrom_100 at h
  refine px_iinc (lv' := [_, _, _, _, _, _]) rfl rfl rfl rfl rfl rfl ?_
  refine px_goto rfl (by decide) rfl ?_
  exact (hk18 h :)
def f_M_takeFrom_18 (F : Nat) (k2 : Nat → Int32 → Int32 → px_H → Option (Unit × px_H)) : Nat → Nat → Int32 → Int32 → Int32 → px_H → Option (Unit × px_H)
  | 0, _, _, _, _, _ => none
  | n + 1, a0, a1, a2, a3, ph =>
    (xgR ph 12 8 a0).bind fun t1 =>
    (xaI ph 1 t1 a1).bind fun t2 =>
    if t2 ≤ a3 then
      f_M_takeFrom_106 F k2 a0 a1 a2 ph
    else
      (xgI ph 12 13 a0).bind fun t3 =>
      if t3 = (nI 1) then
        f_M_takeFrom_106 F k2 a0 a1 a2 ph
      else
        (xgR ph 12 12 a0).bind fun t4 =>
        (xaI ph 3 t4 (((nI 8) * a1) + a3)).bind fun t5 =>
        if t5 = 0 then
          (xgR ph 12 18 a0).bind fun t6 =>
          (xaI ph 3 t6 (((nI 8) * a1) + a3)).bind fun t7 =>
          if t7 = 0 then
            (xo ph 12 a0).bind fun _ =>
            xb (f_M_helps F a0 (((nI 8) * a1) + a3) ph) fun t8 ph9 =>
            if 0 ≤ t8 then
              (xgR ph9 12 40 a0).bind fun t10 =>
              (xsI ph9 1 t10 (((nI 8) * a1) + a3) t8).bind fun ph11 =>
              (xo ph11 12 a0).bind fun _ =>
              xb (f_M_take F a0 (((nI 8) * a1) + a3) ph11) fun _ ph12 =>
              f_M_takeFrom_100 F k2 (f_M_takeFrom_18 F k2 n) a0 a1 (nI 1) a3 ph12
            else
              f_M_takeFrom_100 F k2 (f_M_takeFrom_18 F k2 n) a0 a1 a2 a3 ph9
          else
            f_M_takeFrom_100 F k2 (f_M_takeFrom_18 F k2 n) a0 a1 a2 a3 ph
        else
          f_M_takeFrom_100 F k2 (f_M_takeFrom_18 F k2 n) a0 a1 a2 a3 ph
theorem r_M_takeFrom_18 {l : Launch} {g : px_G} {d F : Nat} {k2 : Nat → Int32 → Int32 → px_H → Option (Unit × px_H)} (hk2 : ∀ {a0 : Nat} {a1 : Int32} {a2 : Int32} {ph : px_H} {r : Unit} {ph' : px_H}, k2 a0 a1 a2 ph = some (r, ph') → PW l g (d + 10) m_M_takeFrom 2 [.ref a0, .int a1, .int a2, px_u, px_u, px_u] [] ph (px_qV r ph')) : ∀ (n : Nat) {a0 : Nat} {a1 : Int32} {a2 : Int32} {a3 : Int32} {ph : px_H} {r : Unit} {ph' : px_H}, f_M_takeFrom_18 F k2 n a0 a1 a2 a3 ph = some (r, ph') → PW l g (d + 10) m_M_takeFrom 18 [.ref a0, .int a1, .int a2, .int a3, px_u, px_u] [] ph (px_qV r ph') := by
  intro n
  induction n with
  | zero => intro _ _ _ _ _ _ _ h; cases h
  | succ n ih =>
    intro a0 a1 a2 a3 ph r ph' h
    unfold f_M_takeFrom_18 at h
    refine px_ld rfl rfl rfl rfl rfl ?_
    refine px_ld rfl rfl rfl rfl rfl ?_
    obtain ⟨t1, h0, h⟩ := xs_some h
    obtain ⟨fs, e1, e2⟩ := xgR_some h0
    refine px_get rfl e1 e2 rfl ?_
    refine px_ld rfl rfl rfl rfl rfl ?_
    obtain ⟨t2, h0, h⟩ := xs_some h
    obtain ⟨N, f, e1, e2, e3⟩ := xaI_some h0
    subst e3
    refine px_iald rfl e1 rfl e2 rfl ?_
    refine px_icge rfl (by decide) rfl (fun hc => ?_) (fun hc => ?_)
    · replace h := (if_pos hc).symm.trans h
      refine px_forget (n := 3) (lv' := [_, _, _, _, _, _]) rfl ?_
      exact (r_M_takeFrom_106 @hk2 h :)
    · replace h := (if_neg hc).symm.trans h
      refine px_ld rfl rfl rfl rfl rfl ?_
      obtain ⟨t3, h0, h⟩ := xs_some h
      obtain ⟨fs, e1, e2⟩ := xgI_some h0
      refine px_get rfl e1 e2 rfl ?_
      refine px_ic (k := 1) rfl rfl rfl ?_
      refine px_iceq rfl (by decide) rfl (fun hc => ?_) (fun hc => ?_)
      · replace h := (if_pos hc).symm.trans h
        refine px_forget (n := 3) (lv' := [_, _, _, _, _, _]) rfl ?_
        exact (r_M_takeFrom_106 @hk2 h :)
      · replace h := (if_neg hc).symm.trans h
        refine px_ic (k := 8) rfl rfl rfl ?_
        refine px_ld rfl rfl rfl rfl rfl ?_
        refine px_alu rfl rfl rfl ?_
        refine px_ld rfl rfl rfl rfl rfl ?_
        refine px_alu rfl rfl rfl ?_
        refine px_st (lv' := [_, _, _, _, _, _]) rfl rfl rfl rfl rfl rfl rfl ?_
        refine px_ld rfl rfl rfl rfl rfl ?_
        obtain ⟨t4, h0, h⟩ := xs_some h
        obtain ⟨fs, e1, e2⟩ := xgR_some h0
        refine px_get rfl e1 e2 rfl ?_
        refine px_ld rfl rfl rfl rfl rfl ?_
        obtain ⟨t5, h0, h⟩ := xs_some h
        obtain ⟨N, f, e1, e2, e3⟩ := xaI_some h0
        subst e3
        refine px_zald rfl e1 rfl e2 rfl ?_
        refine px_ifne rfl (by decide) rfl (fun hc => ?_) (fun hc => ?_)
        · replace h := (if_neg hc).symm.trans h
          refine px_forget (n := 4) (lv' := [_, _, _, _, _, _]) rfl ?_
          exact (r_M_takeFrom_100 @hk2 @ih h :)
        · replace h := (if_pos hc).symm.trans h
          refine px_ld rfl rfl rfl rfl rfl ?_
          obtain ⟨t6, h0, h⟩ := xs_some h
          obtain ⟨fs, e1, e2⟩ := xgR_some h0
          refine px_get rfl e1 e2 rfl ?_
          refine px_ld rfl rfl rfl rfl rfl ?_
          obtain ⟨t7, h0, h⟩ := xs_some h
          obtain ⟨N, f, e1, e2, e3⟩ := xaI_some h0
          subst e3
          refine px_zald rfl e1 rfl e2 rfl ?_
          refine px_ifeq rfl (by decide) rfl (fun hc => ?_) (fun hc => ?_)
          · replace h := (if_pos hc).symm.trans h
            refine px_ld rfl rfl rfl rfl rfl ?_
            refine px_ld rfl rfl rfl rfl rfl ?_
            obtain ⟨fs, h0, h⟩ := xs_some h
            have e1 := xo_some h0
            obtain ⟨t8, ph9, h0, h⟩ := xb_some h
            refine px_cV1 rfl rfl e1 rfl rfl rfl rfl rfl rfl rfl (r_M_helps h0 :) (fun _ _ q => nomatch q.2) (fun r ph' q => ?_)
            obtain ⟨rfl, q⟩ := q
            cases q
            refine px_st (lv' := [_, _, _, _, _, _]) rfl rfl rfl rfl rfl rfl rfl ?_
            refine px_ld rfl rfl rfl rfl rfl ?_
            refine px_ifge rfl (by decide) rfl (fun hc => ?_) (fun hc => ?_)
            · replace h := (if_pos hc).symm.trans h
              refine px_ld rfl rfl rfl rfl rfl ?_
              obtain ⟨t10, h0, h⟩ := xs_some h
              obtain ⟨fs, e1, e2⟩ := xgR_some h0
              refine px_get rfl e1 e2 rfl ?_
              refine px_ld rfl rfl rfl rfl rfl ?_
              refine px_ld rfl rfl rfl rfl rfl ?_
              obtain ⟨ph11, h0, h⟩ := xs_some h
              obtain ⟨N, f, e1, e2, e3⟩ := xsI_some h0
              subst e3
              refine px_iast rfl e1 rfl e2 rfl ?_
              refine px_ld rfl rfl rfl rfl rfl ?_
              refine px_ld rfl rfl rfl rfl rfl ?_
              obtain ⟨fs, h0, h⟩ := xs_some h
              have e1 := xo_some h0
              obtain ⟨u0, ph12, h0, h⟩ := xb_some h
              refine px_cV1 rfl rfl e1 rfl rfl rfl rfl rfl rfl rfl (r_M_take h0 :) (fun _ _ q => nomatch q.2) (fun r ph' q => ?_)
              obtain ⟨rfl, q⟩ := q
              cases q
              refine px_ic (k := 1) rfl rfl rfl ?_
              refine px_st (lv' := [_, _, _, _, _, _]) rfl rfl rfl rfl rfl rfl rfl ?_
              refine px_forget (n := 4) (lv' := [_, _, _, _, _, _]) rfl ?_
              refine px_forget (n := 5) (lv' := [_, _, _, _, _, _]) rfl ?_
              exact (r_M_takeFrom_100 @hk2 @ih h :)
            · replace h := (if_neg hc).symm.trans h
              refine px_goto rfl (by decide) rfl ?_
              refine px_forget (n := 4) (lv' := [_, _, _, _, _, _]) rfl ?_
              refine px_forget (n := 5) (lv' := [_, _, _, _, _, _]) rfl ?_
              exact (r_M_takeFrom_100 @hk2 @ih h :)
          · replace h := (if_neg hc).symm.trans h
            refine px_goto rfl (by decide) rfl ?_
            refine px_forget (n := 4) (lv' := [_, _, _, _, _, _]) rfl ?_
            exact (r_M_takeFrom_100 @hk2 @ih h :)
def f_M_takeFrom_2 (F : Nat) : Nat → Nat → Int32 → Int32 → px_H → Option (Unit × px_H)
  | 0, _, _, _, _ => none
  | n + 1, a0, a1, a2, ph =>
    if a2 = 0 then
      f_M_takeFrom_109 F ph
    else
      (xgI ph 12 13 a0).bind fun t1 =>
      if t1 = (nI 1) then
        f_M_takeFrom_109 F ph
      else
        f_M_takeFrom_18 F (f_M_takeFrom_2 F n) F a0 a1 (nI 0) (nI 0) ph
theorem r_M_takeFrom_2 {l : Launch} {g : px_G} {d F : Nat} : ∀ (n : Nat) {a0 : Nat} {a1 : Int32} {a2 : Int32} {ph : px_H} {r : Unit} {ph' : px_H}, f_M_takeFrom_2 F n a0 a1 a2 ph = some (r, ph') → PW l g (d + 10) m_M_takeFrom 2 [.ref a0, .int a1, .int a2, px_u, px_u, px_u] [] ph (px_qV r ph') := by
  intro n
  induction n with
  | zero => intro _ _ _ _ _ _ h; cases h
  | succ n ih =>
    intro a0 a1 a2 ph r ph' h
    unfold f_M_takeFrom_2 at h
    refine px_ld rfl rfl rfl rfl rfl ?_
    refine px_ifeq rfl (by decide) rfl (fun hc => ?_) (fun hc => ?_)
    · replace h := (if_pos hc).symm.trans h
      refine px_forget (n := 0) (lv' := [_, _, _, _, _, _]) rfl ?_
      refine px_forget (n := 1) (lv' := [_, _, _, _, _, _]) rfl ?_
      refine px_forget (n := 2) (lv' := [_, _, _, _, _, _]) rfl ?_
      exact (r_M_takeFrom_109 h :)
    · replace h := (if_neg hc).symm.trans h
      refine px_ld rfl rfl rfl rfl rfl ?_
      obtain ⟨t1, h0, h⟩ := xs_some h
      obtain ⟨fs, e1, e2⟩ := xgI_some h0
      refine px_get rfl e1 e2 rfl ?_
      refine px_ic (k := 1) rfl rfl rfl ?_
      refine px_iceq rfl (by decide) rfl (fun hc => ?_) (fun hc => ?_)
      · replace h := (if_pos hc).symm.trans h
        refine px_forget (n := 0) (lv' := [_, _, _, _, _, _]) rfl ?_
        refine px_forget (n := 1) (lv' := [_, _, _, _, _, _]) rfl ?_
        refine px_forget (n := 2) (lv' := [_, _, _, _, _, _]) rfl ?_
        exact (r_M_takeFrom_109 h :)
      · replace h := (if_neg hc).symm.trans h
        refine px_ic (k := 0) rfl rfl rfl ?_
        refine px_st (lv' := [_, _, _, _, _, _]) rfl rfl rfl rfl rfl rfl rfl ?_
        refine px_ic (k := 0) rfl rfl rfl ?_
        refine px_st (lv' := [_, _, _, _, _, _]) rfl rfl rfl rfl rfl rfl rfl ?_
        exact (r_M_takeFrom_18 @ih _ h :)
def f_M_takeFrom (F : Nat) (a0 : Nat) (a1 : Int32) (ph : px_H) : Option (Unit × px_H) :=
  f_M_takeFrom_2 F F a0 a1 (nI 1) ph
theorem r_M_takeFrom {l : Launch} {g : px_G} {d F : Nat} {a0 : Nat} {a1 : Int32} {ph : px_H} {r : Unit} {ph' : px_H} (h : f_M_takeFrom F a0 a1 ph = some (r, ph')) : PW l g (d + 10) m_M_takeFrom 0 [.ref a0, .int a1, px_u, px_u, px_u, px_u] [] ph (px_qV r ph') := by
  unfold f_M_takeFrom at h
  refine px_ic (k := 1) rfl rfl rfl ?_
  refine px_st (lv' := [_, _, _, _, _, _]) rfl rfl rfl rfl rfl rfl rfl ?_
  exact (r_M_takeFrom_2 _ h :)
def f_M_takeAll_100 (F : Nat) (ph : px_H) : Option (Unit × px_H) :=
  some ((), ph)
theorem r_M_takeAll_100 {l : Launch} {g : px_G} {d F : Nat} {ph : px_H} {r : Unit} {ph' : px_H} (h : f_M_takeAll_100 F ph = some (r, ph')) : PW l g (d + 11) m_M_takeAll 100 [px_u, px_u] [] ph (px_qV r ph') := by
  unfold f_M_takeAll_100 at h
  cases h
  exact px_vret rfl rfl rfl ⟨rfl, rfl⟩
def f_M_takeAll_94 (F : Nat) (k53 : Nat → Int32 → px_H → Option (Unit × px_H)) (a0 : Nat) (a1 : Int32) (ph : px_H) : Option (Unit × px_H) :=
  k53 a0 (a1 + nI 1) ph
theorem r_M_takeAll_94 {l : Launch} {g : px_G} {d F : Nat} {k53 : Nat → Int32 → px_H → Option (Unit × px_H)} (hk53 : ∀ {a0 : Nat} {a1 : Int32} {ph : px_H} {r : Unit} {ph' : px_H}, k53 a0 a1 ph = some (r, ph') → PW l g (d + 11) m_M_takeAll 53 [.ref a0, .int a1] [] ph (px_qV r ph')) {a0 : Nat} {a1 : Int32} {ph : px_H} {r : Unit} {ph' : px_H} (h : f_M_takeAll_94 F k53 a0 a1 ph = some (r, ph')) : PW l g (d + 11) m_M_takeAll 94 [.ref a0, .int a1] [] ph (px_qV r ph') := by
  unfold f_M_takeAll_94 at h
  refine px_iinc (lv' := [_, _]) rfl rfl rfl rfl rfl rfl ?_
  refine px_goto rfl rfl rfl ?_
  exact (hk53 h :)
def f_M_takeAll_53 (F : Nat) : Nat → Nat → Int32 → px_H → Option (Unit × px_H)
  | 0, _, _, _ => none
  | n + 1, a0, a1, ph =>
    (xgI ph 12 5 a0).bind fun t1 =>
    if t1 ≤ a1 then
      f_M_takeAll_100 F ph
    else
      (xgI ph 12 13 a0).bind fun t2 =>
      if t2 = (nI 1) then
        f_M_takeAll_100 F ph
      else
        (xgR ph 12 11 a0).bind fun t3 =>
        (xaI ph 3 t3 a1).bind fun t4 =>
        if t4 = 0 then
          (xo ph 12 a0).bind fun _ =>
          xb (f_M_take F a0 ((nI 8) * a1) ph) fun _ ph5 =>
          f_M_takeAll_94 F (f_M_takeAll_53 F n) a0 a1 ph5
        else
          (xo ph 12 a0).bind fun _ =>
          xb (f_M_takeFrom F a0 a1 ph) fun _ ph6 =>
          f_M_takeAll_94 F (f_M_takeAll_53 F n) a0 a1 ph6
theorem r_M_takeAll_53 {l : Launch} {g : px_G} {d F : Nat} : ∀ (n : Nat) {a0 : Nat} {a1 : Int32} {ph : px_H} {r : Unit} {ph' : px_H}, f_M_takeAll_53 F n a0 a1 ph = some (r, ph') → PW l g (d + 11) m_M_takeAll 53 [.ref a0, .int a1] [] ph (px_qV r ph') := by
  intro n
  induction n with
  | zero => intro _ _ _ _ _ h; cases h
  | succ n ih =>
    intro a0 a1 ph r ph' h
    unfold f_M_takeAll_53 at h
    refine px_ld rfl rfl rfl rfl rfl ?_
    refine px_ld rfl rfl rfl rfl rfl ?_
    obtain ⟨t1, h0, h⟩ := xs_some h
    obtain ⟨fs, e1, e2⟩ := xgI_some h0
    refine px_get rfl e1 e2 rfl ?_
    refine px_icge rfl rfl rfl (fun hc => ?_) (fun hc => ?_)
    · replace h := (if_pos hc).symm.trans h
      refine px_forget (n := 0) (lv' := [_, _]) rfl ?_
      refine px_forget (n := 1) (lv' := [_, _]) rfl ?_
      exact (r_M_takeAll_100 h :)
    · replace h := (if_neg hc).symm.trans h
      refine px_ld rfl rfl rfl rfl rfl ?_
      obtain ⟨t2, h0, h⟩ := xs_some h
      obtain ⟨fs, e1, e2⟩ := xgI_some h0
      refine px_get rfl e1 e2 rfl ?_
      refine px_ic (k := 1) rfl rfl rfl ?_
      refine px_iceq rfl rfl rfl (fun hc => ?_) (fun hc => ?_)
      · replace h := (if_pos hc).symm.trans h
        refine px_forget (n := 0) (lv' := [_, _]) rfl ?_
        refine px_forget (n := 1) (lv' := [_, _]) rfl ?_
        exact (r_M_takeAll_100 h :)
      · replace h := (if_neg hc).symm.trans h
        refine px_ld rfl rfl rfl rfl rfl ?_
        obtain ⟨t3, h0, h⟩ := xs_some h
        obtain ⟨fs, e1, e2⟩ := xgR_some h0
        refine px_get rfl e1 e2 rfl ?_
        refine px_ld rfl rfl rfl rfl rfl ?_
        obtain ⟨t4, h0, h⟩ := xs_some h
        obtain ⟨N, f, e1, e2, e3⟩ := xaI_some h0
        subst e3
        refine px_zald rfl e1 rfl e2 rfl ?_
        refine px_ifeq rfl rfl rfl (fun hc => ?_) (fun hc => ?_)
        · replace h := (if_pos hc).symm.trans h
          refine px_ld rfl rfl rfl rfl rfl ?_
          refine px_ic (k := 8) rfl rfl rfl ?_
          refine px_ld rfl rfl rfl rfl rfl ?_
          refine px_alu rfl rfl rfl ?_
          obtain ⟨fs, h0, h⟩ := xs_some h
          have e1 := xo_some h0
          obtain ⟨u0, ph5, h0, h⟩ := xb_some h
          refine px_cV1 rfl rfl e1 rfl rfl rfl rfl rfl rfl rfl (r_M_take h0 :) (fun _ _ q => nomatch q.2) (fun r ph' q => ?_)
          obtain ⟨rfl, q⟩ := q
          cases q
          exact (r_M_takeAll_94 @ih h :)
        · replace h := (if_neg hc).symm.trans h
          refine px_ld rfl rfl rfl rfl rfl ?_
          refine px_ld rfl rfl rfl rfl rfl ?_
          obtain ⟨fs, h0, h⟩ := xs_some h
          have e1 := xo_some h0
          obtain ⟨u0, ph6, h0, h⟩ := xb_some h
          refine px_cV1 rfl rfl e1 rfl rfl rfl rfl rfl rfl rfl (r_M_takeFrom h0 :) (fun _ _ q => nomatch q.2) (fun r ph' q => ?_)
          obtain ⟨rfl, q⟩ := q
          cases q
          refine px_goto rfl rfl rfl ?_
          exact (r_M_takeAll_94 @ih h :)
def f_M_takeAll_51 (F : Nat) (a0 : Nat) (ph : px_H) : Option (Unit × px_H) :=
  f_M_takeAll_53 F F a0 (nI 0) ph
theorem r_M_takeAll_51 {l : Launch} {g : px_G} {d F : Nat} {a0 : Nat} {ph : px_H} {r : Unit} {ph' : px_H} (h : f_M_takeAll_51 F a0 ph = some (r, ph')) : PW l g (d + 11) m_M_takeAll 51 [.ref a0, px_u] [] ph (px_qV r ph') := by
  unfold f_M_takeAll_51 at h
  refine px_ic (k := 0) rfl rfl rfl ?_
  refine px_st (lv' := [_, _]) rfl rfl rfl rfl rfl rfl rfl ?_
  exact (r_M_takeAll_53 _ h :)
def f_M_takeAll_30 (F : Nat) : Nat → Nat → Int32 → px_H → Option (Unit × px_H)
  | 0, _, _, _ => none
  | n + 1, a0, a1, ph =>
    (xgI ph 12 5 a0).bind fun t1 =>
    if t1 ≤ a1 then
      f_M_takeAll_51 F a0 ph
    else
      (xgR ph 12 19 a0).bind fun t2 =>
      (xsI ph 3 t2 a1 ((nI 1) &&& 1)).bind fun ph3 =>
      f_M_takeAll_30 F n a0 (a1 + nI 1) ph3
theorem r_M_takeAll_30 {l : Launch} {g : px_G} {d F : Nat} : ∀ (n : Nat) {a0 : Nat} {a1 : Int32} {ph : px_H} {r : Unit} {ph' : px_H}, f_M_takeAll_30 F n a0 a1 ph = some (r, ph') → PW l g (d + 11) m_M_takeAll 30 [.ref a0, .int a1] [] ph (px_qV r ph') := by
  intro n
  induction n with
  | zero => intro _ _ _ _ _ h; cases h
  | succ n ih =>
    intro a0 a1 ph r ph' h
    unfold f_M_takeAll_30 at h
    refine px_ld rfl rfl rfl rfl rfl ?_
    refine px_ld rfl rfl rfl rfl rfl ?_
    obtain ⟨t1, h0, h⟩ := xs_some h
    obtain ⟨fs, e1, e2⟩ := xgI_some h0
    refine px_get rfl e1 e2 rfl ?_
    refine px_icge rfl rfl rfl (fun hc => ?_) (fun hc => ?_)
    · replace h := (if_pos hc).symm.trans h
      refine px_forget (n := 1) (lv' := [_, _]) rfl ?_
      exact (r_M_takeAll_51 h :)
    · replace h := (if_neg hc).symm.trans h
      refine px_ld rfl rfl rfl rfl rfl ?_
      obtain ⟨t2, h0, h⟩ := xs_some h
      obtain ⟨fs, e1, e2⟩ := xgR_some h0
      refine px_get rfl e1 e2 rfl ?_
      refine px_ld rfl rfl rfl rfl rfl ?_
      refine px_ic (k := 1) rfl rfl rfl ?_
      obtain ⟨ph3, h0, h⟩ := xs_some h
      obtain ⟨N, f, e1, e2, e3⟩ := xsI_some h0
      subst e3
      refine px_zast rfl e1 rfl e2 rfl ?_
      refine px_iinc (lv' := [_, _]) rfl rfl rfl rfl rfl rfl ?_
      refine px_goto rfl rfl rfl ?_
      exact (ih h :)
def f_M_takeAll_28 (F : Nat) (a0 : Nat) (ph : px_H) : Option (Unit × px_H) :=
  f_M_takeAll_30 F F a0 (nI 0) ph
theorem r_M_takeAll_28 {l : Launch} {g : px_G} {d F : Nat} {a0 : Nat} {ph : px_H} {r : Unit} {ph' : px_H} (h : f_M_takeAll_28 F a0 ph = some (r, ph')) : PW l g (d + 11) m_M_takeAll 28 [.ref a0, px_u] [] ph (px_qV r ph') := by
  unfold f_M_takeAll_28 at h
  refine px_ic (k := 0) rfl rfl rfl ?_
  refine px_st (lv' := [_, _]) rfl rfl rfl rfl rfl rfl rfl ?_
  exact (r_M_takeAll_30 _ h :)
def f_M_takeAll_2 (F : Nat) : Nat → Nat → Int32 → px_H → Option (Unit × px_H)
  | 0, _, _, _ => none
  | n + 1, a0, a1, ph =>
    if (nI 64) ≤ a1 then
      f_M_takeAll_28 F a0 ph
    else
      (xgR ph 12 18 a0).bind fun t1 =>
      (xsI ph 3 t1 a1 ((nI 0) &&& 1)).bind fun ph2 =>
      (xgR ph2 12 40 a0).bind fun t3 =>
      (xsI ph2 1 t3 a1 (Int32.ofInt (-1))).bind fun ph4 =>
      f_M_takeAll_2 F n a0 (a1 + nI 1) ph4
theorem r_M_takeAll_2 {l : Launch} {g : px_G} {d F : Nat} : ∀ (n : Nat) {a0 : Nat} {a1 : Int32} {ph : px_H} {r : Unit} {ph' : px_H}, f_M_takeAll_2 F n a0 a1 ph = some (r, ph') → PW l g (d + 11) m_M_takeAll 2 [.ref a0, .int a1] [] ph (px_qV r ph') := by
  intro n
  induction n with
  | zero => intro _ _ _ _ _ h; cases h
  | succ n ih =>
    intro a0 a1 ph r ph' h
    unfold f_M_takeAll_2 at h
    refine px_ld rfl rfl rfl rfl rfl ?_
    refine px_ic (k := 64) rfl rfl rfl ?_
    refine px_icge rfl rfl rfl (fun hc => ?_) (fun hc => ?_)
    · replace h := (if_pos hc).symm.trans h
      refine px_forget (n := 1) (lv' := [_, _]) rfl ?_
      exact (r_M_takeAll_28 h :)
    · replace h := (if_neg hc).symm.trans h
      refine px_ld rfl rfl rfl rfl rfl ?_
      obtain ⟨t1, h0, h⟩ := xs_some h
      obtain ⟨fs, e1, e2⟩ := xgR_some h0
      refine px_get rfl e1 e2 rfl ?_
      refine px_ld rfl rfl rfl rfl rfl ?_
      refine px_ic (k := 0) rfl rfl rfl ?_
      obtain ⟨ph2, h0, h⟩ := xs_some h
      obtain ⟨N, f, e1, e2, e3⟩ := xsI_some h0
      subst e3
      refine px_zast rfl e1 rfl e2 rfl ?_
      refine px_ld rfl rfl rfl rfl rfl ?_
      obtain ⟨t3, h0, h⟩ := xs_some h
      obtain ⟨fs, e1, e2⟩ := xgR_some h0
      refine px_get rfl e1 e2 rfl ?_
      refine px_ld rfl rfl rfl rfl rfl ?_
      refine px_alu rfl rfl rfl ?_
      obtain ⟨ph4, h0, h⟩ := xs_some h
      obtain ⟨N, f, e1, e2, e3⟩ := xsI_some h0
      subst e3
      refine px_iast rfl e1 rfl e2 rfl ?_
      refine px_iinc (lv' := [_, _]) rfl rfl rfl rfl rfl rfl ?_
      refine px_goto rfl rfl rfl ?_
      exact (ih h :)
def f_M_takeAll (F : Nat) (a0 : Nat) (ph : px_H) : Option (Unit × px_H) :=
  f_M_takeAll_2 F F a0 (nI 0) ph
theorem r_M_takeAll {l : Launch} {g : px_G} {d F : Nat} {a0 : Nat} {ph : px_H} {r : Unit} {ph' : px_H} (h : f_M_takeAll F a0 ph = some (r, ph')) : PW l g (d + 11) m_M_takeAll 0 [.ref a0, px_u] [] ph (px_qV r ph') := by
  unfold f_M_takeAll at h
  refine px_ic (k := 0) rfl rfl rfl ?_
  refine px_st (lv' := [_, _]) rfl rfl rfl rfl rfl rfl rfl ?_
  exact (r_M_takeAll_2 _ h :)
def f_M_ownNames_117 (F : Nat) (ph : px_H) : Option (Unit × px_H) :=
  some ((), ph)
theorem r_M_ownNames_117 {l : Launch} {g : px_G} {d F : Nat} {ph : px_H} {r : Unit} {ph' : px_H} (h : f_M_ownNames_117 F ph = some (r, ph')) : PW l g (d + 1) m_M_ownNames 117 [px_u, px_u, px_u, px_u] [] ph (px_qV r ph') := by
  unfold f_M_ownNames_117 at h
  cases h
  exact px_vret rfl rfl rfl ⟨rfl, rfl⟩
def f_M_ownNames_111 (F : Nat) (k2 : Nat → Int32 → px_H → Option (Unit × px_H)) (a0 : Nat) (a1 : Int32) (ph : px_H) : Option (Unit × px_H) :=
  k2 a0 (a1 + nI 1) ph
theorem r_M_ownNames_111 {l : Launch} {g : px_G} {d F : Nat} {k2 : Nat → Int32 → px_H → Option (Unit × px_H)} (hk2 : ∀ {a0 : Nat} {a1 : Int32} {ph : px_H} {r : Unit} {ph' : px_H}, k2 a0 a1 ph = some (r, ph') → PW l g (d + 1) m_M_ownNames 2 [.ref a0, .int a1, px_u, px_u] [] ph (px_qV r ph')) {a0 : Nat} {a1 : Int32} {ph : px_H} {r : Unit} {ph' : px_H} (h : f_M_ownNames_111 F k2 a0 a1 ph = some (r, ph')) : PW l g (d + 1) m_M_ownNames 111 [.ref a0, .int a1, px_u, px_u] [] ph (px_qV r ph') := by
  unfold f_M_ownNames_111 at h
  refine px_iinc (lv' := [_, _, _, _]) rfl rfl rfl rfl rfl rfl ?_
  refine px_goto rfl (by decide) rfl ?_
  exact (hk2 h :)
def f_M_ownNames_77 (F : Nat) (k2 : Nat → Int32 → px_H → Option (Unit × px_H)) (a0 : Nat) (a1 : Int32) (s0 : Nat) (s1 : Nat) (s2 : Int32) (s3 : Int32) (ph : px_H) : Option (Unit × px_H) :=
  (xo ph 12 s0).bind fun _ =>
  xb (f_M_find F s0 s1 s2 s3 ph) fun t1 ph2 =>
  if t1 < 0 then
    f_M_ownNames_111 F k2 a0 a1 ph2
  else
    (xgR ph2 12 23 a0).bind fun t3 =>
    (xaI ph2 1 t3 t1).bind fun t4 =>
    if t4 ≤ 0 then
      (xgR ph2 12 23 a0).bind fun t5 =>
      (xsI ph2 1 t5 t1 (nI 4)).bind fun ph6 =>
      (xgR ph6 12 73 a0).bind fun t7 =>
      (xsI ph6 1 t7 t1 a1).bind fun ph8 =>
      f_M_ownNames_111 F k2 a0 a1 ph8
    else
      f_M_ownNames_111 F k2 a0 a1 ph2
theorem r_M_ownNames_77 {l : Launch} {g : px_G} {d F : Nat} {k2 : Nat → Int32 → px_H → Option (Unit × px_H)} (hk2 : ∀ {a0 : Nat} {a1 : Int32} {ph : px_H} {r : Unit} {ph' : px_H}, k2 a0 a1 ph = some (r, ph') → PW l g (d + 1) m_M_ownNames 2 [.ref a0, .int a1, px_u, px_u] [] ph (px_qV r ph')) {a0 : Nat} {a1 : Int32} {s0 : Nat} {s1 : Nat} {s2 : Int32} {s3 : Int32} {ph : px_H} {r : Unit} {ph' : px_H} (h : f_M_ownNames_77 F k2 a0 a1 s0 s1 s2 s3 ph = some (r, ph')) : PW l g (d + 1) m_M_ownNames 77 [.ref a0, .int a1, px_u, px_u] [.int s3, .int s2, .ref s1, .ref s0] ph (px_qV r ph') := by
  unfold f_M_ownNames_77 at h
  obtain ⟨fs, h0, h⟩ := xs_some h
  have e1 := xo_some h0
  obtain ⟨t1, ph2, h0, h⟩ := xb_some h
  refine px_cV3 rfl rfl e1 rfl rfl rfl rfl rfl rfl rfl (r_M_find h0 :) (fun _ _ q => nomatch q.2) (fun r ph' q => ?_)
  obtain ⟨rfl, q⟩ := q
  cases q
  refine px_st (lv' := [_, _, _, _]) rfl rfl rfl rfl rfl rfl rfl ?_
  refine px_ld rfl rfl rfl rfl rfl ?_
  refine px_iflt rfl (by decide) rfl (fun hc => ?_) (fun hc => ?_)
  · replace h := (if_pos hc).symm.trans h
    refine px_forget (n := 3) (lv' := [_, _, _, _]) rfl ?_
    exact (r_M_ownNames_111 @hk2 h :)
  · replace h := (if_neg hc).symm.trans h
    refine px_ld rfl rfl rfl rfl rfl ?_
    obtain ⟨t3, h0, h⟩ := xs_some h
    obtain ⟨fs, e1, e2⟩ := xgR_some h0
    refine px_get rfl e1 e2 rfl ?_
    refine px_ld rfl rfl rfl rfl rfl ?_
    obtain ⟨t4, h0, h⟩ := xs_some h
    obtain ⟨N, f, e1, e2, e3⟩ := xaI_some h0
    subst e3
    refine px_iald rfl e1 rfl e2 rfl ?_
    refine px_ifle rfl (by decide) rfl (fun hc => ?_) (fun hc => ?_)
    · replace h := (if_pos hc).symm.trans h
      refine px_ld rfl rfl rfl rfl rfl ?_
      obtain ⟨t5, h0, h⟩ := xs_some h
      obtain ⟨fs, e1, e2⟩ := xgR_some h0
      refine px_get rfl e1 e2 rfl ?_
      refine px_ld rfl rfl rfl rfl rfl ?_
      refine px_ic (k := 4) rfl rfl rfl ?_
      obtain ⟨ph6, h0, h⟩ := xs_some h
      obtain ⟨N, f, e1, e2, e3⟩ := xsI_some h0
      subst e3
      refine px_iast rfl e1 rfl e2 rfl ?_
      refine px_ld rfl rfl rfl rfl rfl ?_
      obtain ⟨t7, h0, h⟩ := xs_some h
      obtain ⟨fs, e1, e2⟩ := xgR_some h0
      refine px_get rfl e1 e2 rfl ?_
      refine px_ld rfl rfl rfl rfl rfl ?_
      refine px_ld rfl rfl rfl rfl rfl ?_
      obtain ⟨ph8, h0, h⟩ := xs_some h
      obtain ⟨N, f, e1, e2, e3⟩ := xsI_some h0
      subst e3
      refine px_iast rfl e1 rfl e2 rfl ?_
      refine px_forget (n := 3) (lv' := [_, _, _, _]) rfl ?_
      exact (r_M_ownNames_111 @hk2 h :)
    · replace h := (if_neg hc).symm.trans h
      refine px_goto rfl (by decide) rfl ?_
      refine px_forget (n := 3) (lv' := [_, _, _, _]) rfl ?_
      exact (r_M_ownNames_111 @hk2 h :)
def f_M_ownNames_38 (F : Nat) (k2 : Nat → Int32 → px_H → Option (Unit × px_H)) (a0 : Nat) (a1 : Int32) (s0 : Int32) (ph : px_H) : Option (Unit × px_H) :=
  (xgR ph 12 97 a0).bind fun t1 =>
  if a1 = (nI 1) then
    f_M_ownNames_77 F k2 a0 a1 a0 t1 s0 (nI 6) ph
  else
    if a1 = (nI 2) then
      f_M_ownNames_77 F k2 a0 a1 a0 t1 s0 (nI 12) ph
    else
      if a1 = (nI 3) then
        f_M_ownNames_77 F k2 a0 a1 a0 t1 s0 (nI 23) ph
      else
        f_M_ownNames_77 F k2 a0 a1 a0 t1 s0 (nI 27) ph
theorem r_M_ownNames_38 {l : Launch} {g : px_G} {d F : Nat} {k2 : Nat → Int32 → px_H → Option (Unit × px_H)} (hk2 : ∀ {a0 : Nat} {a1 : Int32} {ph : px_H} {r : Unit} {ph' : px_H}, k2 a0 a1 ph = some (r, ph') → PW l g (d + 1) m_M_ownNames 2 [.ref a0, .int a1, px_u, px_u] [] ph (px_qV r ph')) {a0 : Nat} {a1 : Int32} {s0 : Int32} {ph : px_H} {r : Unit} {ph' : px_H} (h : f_M_ownNames_38 F k2 a0 a1 s0 ph = some (r, ph')) : PW l g (d + 1) m_M_ownNames 38 [.ref a0, .int a1, px_u, px_u] [.int s0] ph (px_qV r ph') := by
  unfold f_M_ownNames_38 at h
  refine px_st (lv' := [_, _, _, _]) rfl rfl rfl rfl rfl rfl rfl ?_
  refine px_ld rfl rfl rfl rfl rfl ?_
  refine px_ld rfl rfl rfl rfl rfl ?_
  obtain ⟨t1, h0, h⟩ := xs_some h
  obtain ⟨fs, e1, e2⟩ := xgR_some h0
  refine px_get rfl e1 e2 rfl ?_
  refine px_ld rfl rfl rfl rfl rfl ?_
  refine px_ld rfl rfl rfl rfl rfl ?_
  refine px_ic (k := 1) rfl rfl rfl ?_
  refine px_icne rfl (by decide) rfl (fun hc => ?_) (fun hc => ?_)
  · replace h := (if_neg hc).symm.trans h
    refine px_ld rfl rfl rfl rfl rfl ?_
    refine px_ic (k := 2) rfl rfl rfl ?_
    refine px_icne rfl (by decide) rfl (fun hc => ?_) (fun hc => ?_)
    · replace h := (if_neg hc).symm.trans h
      refine px_ld rfl rfl rfl rfl rfl ?_
      refine px_ic (k := 3) rfl rfl rfl ?_
      refine px_icne rfl (by decide) rfl (fun hc => ?_) (fun hc => ?_)
      · replace h := (if_neg hc).symm.trans h
        refine px_ic (k := 27) rfl rfl rfl ?_
        refine px_forget (n := 2) (lv' := [_, _, _, _]) rfl ?_
        exact (r_M_ownNames_77 @hk2 h :)
      · replace h := (if_pos hc).symm.trans h
        refine px_ic (k := 23) rfl rfl rfl ?_
        refine px_goto rfl (by decide) rfl ?_
        refine px_forget (n := 2) (lv' := [_, _, _, _]) rfl ?_
        exact (r_M_ownNames_77 @hk2 h :)
    · replace h := (if_pos hc).symm.trans h
      refine px_ic (k := 12) rfl rfl rfl ?_
      refine px_goto rfl (by decide) rfl ?_
      refine px_forget (n := 2) (lv' := [_, _, _, _]) rfl ?_
      exact (r_M_ownNames_77 @hk2 h :)
  · replace h := (if_pos hc).symm.trans h
    refine px_ic (k := 6) rfl rfl rfl ?_
    refine px_goto rfl (by decide) rfl ?_
    refine px_forget (n := 2) (lv' := [_, _, _, _]) rfl ?_
    exact (r_M_ownNames_77 @hk2 h :)
def f_M_ownNames_2 (F : Nat) : Nat → Nat → Int32 → px_H → Option (Unit × px_H)
  | 0, _, _, _ => none
  | n + 1, a0, a1, ph =>
    if (nI 5) ≤ a1 then
      f_M_ownNames_117 F ph
    else
      if a1 = (nI 1) then
        f_M_ownNames_38 F (f_M_ownNames_2 F n) a0 a1 (nI 0) ph
      else
        if a1 = (nI 2) then
          f_M_ownNames_38 F (f_M_ownNames_2 F n) a0 a1 (nI 6) ph
        else
          if a1 = (nI 3) then
            f_M_ownNames_38 F (f_M_ownNames_2 F n) a0 a1 (nI 12) ph
          else
            f_M_ownNames_38 F (f_M_ownNames_2 F n) a0 a1 (nI 23) ph
theorem r_M_ownNames_2 {l : Launch} {g : px_G} {d F : Nat} : ∀ (n : Nat) {a0 : Nat} {a1 : Int32} {ph : px_H} {r : Unit} {ph' : px_H}, f_M_ownNames_2 F n a0 a1 ph = some (r, ph') → PW l g (d + 1) m_M_ownNames 2 [.ref a0, .int a1, px_u, px_u] [] ph (px_qV r ph') := by
  intro n
  induction n with
  | zero => intro _ _ _ _ _ h; cases h
  | succ n ih =>
    intro a0 a1 ph r ph' h
    unfold f_M_ownNames_2 at h
    refine px_ld rfl rfl rfl rfl rfl ?_
    refine px_ic (k := 5) rfl rfl rfl ?_
    refine px_icge rfl (by decide) rfl (fun hc => ?_) (fun hc => ?_)
    · replace h := (if_pos hc).symm.trans h
      refine px_forget (n := 0) (lv' := [_, _, _, _]) rfl ?_
      refine px_forget (n := 1) (lv' := [_, _, _, _]) rfl ?_
      exact (r_M_ownNames_117 h :)
    · replace h := (if_neg hc).symm.trans h
      refine px_ld rfl rfl rfl rfl rfl ?_
      refine px_ic (k := 1) rfl rfl rfl ?_
      refine px_icne rfl (by decide) rfl (fun hc => ?_) (fun hc => ?_)
      · replace h := (if_neg hc).symm.trans h
        refine px_ld rfl rfl rfl rfl rfl ?_
        refine px_ic (k := 2) rfl rfl rfl ?_
        refine px_icne rfl (by decide) rfl (fun hc => ?_) (fun hc => ?_)
        · replace h := (if_neg hc).symm.trans h
          refine px_ld rfl rfl rfl rfl rfl ?_
          refine px_ic (k := 3) rfl rfl rfl ?_
          refine px_icne rfl (by decide) rfl (fun hc => ?_) (fun hc => ?_)
          · replace h := (if_neg hc).symm.trans h
            refine px_ic (k := 23) rfl rfl rfl ?_
            exact (r_M_ownNames_38 @ih h :)
          · replace h := (if_pos hc).symm.trans h
            refine px_ic (k := 12) rfl rfl rfl ?_
            refine px_goto rfl (by decide) rfl ?_
            exact (r_M_ownNames_38 @ih h :)
        · replace h := (if_pos hc).symm.trans h
          refine px_ic (k := 6) rfl rfl rfl ?_
          refine px_goto rfl (by decide) rfl ?_
          exact (r_M_ownNames_38 @ih h :)
      · replace h := (if_pos hc).symm.trans h
        refine px_ic (k := 0) rfl rfl rfl ?_
        refine px_goto rfl (by decide) rfl ?_
        exact (r_M_ownNames_38 @ih h :)
def f_M_ownNames (F : Nat) (a0 : Nat) (ph : px_H) : Option (Unit × px_H) :=
  f_M_ownNames_2 F F a0 (nI 1) ph
theorem r_M_ownNames {l : Launch} {g : px_G} {d F : Nat} {a0 : Nat} {ph : px_H} {r : Unit} {ph' : px_H} (h : f_M_ownNames F a0 ph = some (r, ph')) : PW l g (d + 1) m_M_ownNames 0 [.ref a0, px_u, px_u, px_u] [] ph (px_qV r ph') := by
  unfold f_M_ownNames at h
  refine px_ic (k := 1) rfl rfl rfl ?_
  refine px_st (lv' := [_, _, _, _]) rfl rfl rfl rfl rfl rfl rfl ?_
  exact (r_M_ownNames_2 _ h :)
def f_M_start_30 (F : Nat) (s0 : Int32) (ph : px_H) : Option (Int32 × px_H) :=
  some (s0, ph)
theorem r_M_start_30 {l : Launch} {g : px_G} {d F : Nat} {s0 : Int32} {ph : px_H} {r : Int32} {ph' : px_H} (h : f_M_start_30 F s0 ph = some (r, ph')) : PW l g (d + 1) m_M_start 30 [px_u, px_u] [.int s0] ph (px_qI r ph') := by
  unfold f_M_start_30 at h
  cases h
  exact px_iret rfl (Or.inl rfl) rfl ⟨rfl, rfl⟩
def f_M_start_29 (F : Nat) (ph : px_H) : Option (Int32 × px_H) :=
  f_M_start_30 F (Int32.ofInt (-1)) ph
theorem r_M_start_29 {l : Launch} {g : px_G} {d F : Nat} {ph : px_H} {r : Int32} {ph' : px_H} (h : f_M_start_29 F ph = some (r, ph')) : PW l g (d + 1) m_M_start 29 [px_u, px_u] [] ph (px_qI r ph') := by
  unfold f_M_start_29 at h
  refine px_alu rfl rfl rfl ?_
  exact (r_M_start_30 h :)
def f_M_start (F : Nat) (a0 : Nat) (ph : px_H) : Option (Int32 × px_H) :=
  (xgR ph 12 116 a0).bind fun t1 =>
  (xo ph 12 a0).bind fun _ =>
  xb (f_M_find F a0 t1 (nI 0) (nI 6) ph) fun t2 ph3 =>
  if t2 < 0 then
    f_M_start_29 F ph3
  else
    (xgR ph3 12 23 a0).bind fun t4 =>
    (xaI ph3 1 t4 t2).bind fun t5 =>
    if t5 ≤ 0 then
      f_M_start_29 F ph3
    else
      f_M_start_30 F t2 ph3
theorem r_M_start {l : Launch} {g : px_G} {d F : Nat} {a0 : Nat} {ph : px_H} {r : Int32} {ph' : px_H} (h : f_M_start F a0 ph = some (r, ph')) : PW l g (d + 1) m_M_start 0 [.ref a0, px_u] [] ph (px_qI r ph') := by
  unfold f_M_start at h
  refine px_ld rfl rfl rfl rfl rfl ?_
  refine px_ld rfl rfl rfl rfl rfl ?_
  obtain ⟨t1, h0, h⟩ := xs_some h
  obtain ⟨fs, e1, e2⟩ := xgR_some h0
  refine px_get rfl e1 e2 rfl ?_
  refine px_ic (k := 0) rfl rfl rfl ?_
  refine px_ic (k := 6) rfl rfl rfl ?_
  obtain ⟨fs, h0, h⟩ := xs_some h
  have e1 := xo_some h0
  obtain ⟨t2, ph3, h0, h⟩ := xb_some h
  refine px_cV3 rfl rfl e1 rfl rfl rfl rfl rfl rfl rfl (r_M_find h0 :) (fun _ _ q => nomatch q.2) (fun r ph' q => ?_)
  obtain ⟨rfl, q⟩ := q
  cases q
  refine px_st (lv' := [_, _]) rfl rfl rfl rfl rfl rfl rfl ?_
  refine px_ld rfl rfl rfl rfl rfl ?_
  refine px_iflt rfl rfl rfl (fun hc => ?_) (fun hc => ?_)
  · replace h := (if_pos hc).symm.trans h
    refine px_forget (n := 0) (lv' := [_, _]) rfl ?_
    refine px_forget (n := 1) (lv' := [_, _]) rfl ?_
    exact (r_M_start_29 h :)
  · replace h := (if_neg hc).symm.trans h
    refine px_ld rfl rfl rfl rfl rfl ?_
    obtain ⟨t4, h0, h⟩ := xs_some h
    obtain ⟨fs, e1, e2⟩ := xgR_some h0
    refine px_get rfl e1 e2 rfl ?_
    refine px_ld rfl rfl rfl rfl rfl ?_
    obtain ⟨t5, h0, h⟩ := xs_some h
    obtain ⟨N, f, e1, e2, e3⟩ := xaI_some h0
    subst e3
    refine px_iald rfl e1 rfl e2 rfl ?_
    refine px_ifle rfl rfl rfl (fun hc => ?_) (fun hc => ?_)
    · replace h := (if_pos hc).symm.trans h
      refine px_forget (n := 0) (lv' := [_, _]) rfl ?_
      refine px_forget (n := 1) (lv' := [_, _]) rfl ?_
      exact (r_M_start_29 h :)
    · replace h := (if_neg hc).symm.trans h
      refine px_ld rfl rfl rfl rfl rfl ?_
      refine px_goto rfl rfl rfl ?_
      refine px_forget (n := 0) (lv' := [_, _]) rfl ?_
      refine px_forget (n := 1) (lv' := [_, _]) rfl ?_
      exact (r_M_start_30 h :)
def f_M_look2_249 (F : Nat) (a0 : Nat) (ph : px_H) : Option (Unit × px_H) :=
  (xpI ph 12 4 a0 (nI 6)).bind fun ph1 =>
  some ((), ph1)
theorem r_M_look2_249 {l : Launch} {g : px_G} {d F : Nat} {a0 : Nat} {ph : px_H} {r : Unit} {ph' : px_H} (h : f_M_look2_249 F a0 ph = some (r, ph')) : PW l g (d + 8) m_M_look2 249 [.ref a0, px_u, px_u, px_u, px_u] [] ph (px_qV r ph') := by
  unfold f_M_look2_249 at h
  refine px_ld rfl rfl rfl rfl rfl ?_
  refine px_ic (k := 6) rfl rfl rfl ?_
  obtain ⟨ph1, h0, h⟩ := xs_some h
  obtain ⟨fs, e1, e2, e3⟩ := xpI_some h0
  subst e3
  refine px_put rfl e1 e2 trivial rfl ?_
  cases h
  exact px_vret rfl rfl rfl ⟨rfl, rfl⟩
def f_M_look2_225 (F : Nat) : Nat → Nat → Int32 → px_H → Option (Unit × px_H)
  | 0, _, _, _ => none
  | n + 1, a0, a1, ph =>
    if (nI 6) ≤ a1 then
      f_M_look2_249 F a0 ph
    else
      (xgR ph 12 3 a0).bind fun t1 =>
      (xgR ph 12 116 a0).bind fun t2 =>
      (xaI ph 0 t2 a1).bind fun t3 =>
      (xsI ph 0 t1 a1 (t3.toInt8.toInt32)).bind fun ph4 =>
      f_M_look2_225 F n a0 (a1 + nI 1) ph4
theorem r_M_look2_225 {l : Launch} {g : px_G} {d F : Nat} : ∀ (n : Nat) {a0 : Nat} {a1 : Int32} {ph : px_H} {r : Unit} {ph' : px_H}, f_M_look2_225 F n a0 a1 ph = some (r, ph') → PW l g (d + 8) m_M_look2 225 [.ref a0, .int a1, px_u, px_u, px_u] [] ph (px_qV r ph') := by
  intro n
  induction n with
  | zero => intro _ _ _ _ _ h; cases h
  | succ n ih =>
    intro a0 a1 ph r ph' h
    unfold f_M_look2_225 at h
    refine px_ld rfl rfl rfl rfl rfl ?_
    refine px_ic (k := 6) rfl rfl rfl ?_
    refine px_icge rfl (by decide) rfl (fun hc => ?_) (fun hc => ?_)
    · replace h := (if_pos hc).symm.trans h
      refine px_forget (n := 1) (lv' := [_, _, _, _, _]) rfl ?_
      exact (r_M_look2_249 h :)
    · replace h := (if_neg hc).symm.trans h
      refine px_ld rfl rfl rfl rfl rfl ?_
      obtain ⟨t1, h0, h⟩ := xs_some h
      obtain ⟨fs, e1, e2⟩ := xgR_some h0
      refine px_get rfl e1 e2 rfl ?_
      refine px_ld rfl rfl rfl rfl rfl ?_
      refine px_ld rfl rfl rfl rfl rfl ?_
      obtain ⟨t2, h0, h⟩ := xs_some h
      obtain ⟨fs, e1, e2⟩ := xgR_some h0
      refine px_get rfl e1 e2 rfl ?_
      refine px_ld rfl rfl rfl rfl rfl ?_
      obtain ⟨t3, h0, h⟩ := xs_some h
      obtain ⟨N, f, e1, e2, e3⟩ := xaI_some h0
      subst e3
      refine px_bald rfl e1 rfl e2 rfl ?_
      obtain ⟨ph4, h0, h⟩ := xs_some h
      obtain ⟨N, f, e1, e2, e3⟩ := xsI_some h0
      subst e3
      refine px_bast rfl e1 rfl e2 rfl ?_
      refine px_iinc (lv' := [_, _, _, _, _]) rfl rfl rfl rfl rfl rfl ?_
      refine px_goto rfl (by decide) rfl ?_
      exact (ih h :)
def f_M_look2_217 (F : Nat) (ph : px_H) : Option (Unit × px_H) :=
  some ((), ph)
theorem r_M_look2_217 {l : Launch} {g : px_G} {d F : Nat} {ph : px_H} {r : Unit} {ph' : px_H} (h : f_M_look2_217 F ph = some (r, ph')) : PW l g (d + 8) m_M_look2 217 [px_u, px_u, px_u, px_u, px_u] [] ph (px_qV r ph') := by
  unfold f_M_look2_217 at h
  cases h
  exact px_vret rfl rfl rfl ⟨rfl, rfl⟩
def f_M_look2_203 (F : Nat) (a0 : Nat) (ph : px_H) : Option (Unit × px_H) :=
  (xgI ph 12 13 a0).bind fun t1 =>
  if t1 = 0 then
    (xo ph 12 a0).bind fun _ =>
    xb (f_M_start F a0 ph) fun t2 ph3 =>
    if t2 < 0 then
      (xpI ph3 12 13 a0 (nI 2)).bind fun ph4 =>
      f_M_look2_225 F F a0 (nI 0) ph4
    else
      f_M_look2_217 F ph3
  else
    f_M_look2_217 F ph
theorem r_M_look2_203 {l : Launch} {g : px_G} {d F : Nat} {a0 : Nat} {ph : px_H} {r : Unit} {ph' : px_H} (h : f_M_look2_203 F a0 ph = some (r, ph')) : PW l g (d + 8) m_M_look2 203 [.ref a0, px_u, px_u, px_u, px_u] [] ph (px_qV r ph') := by
  unfold f_M_look2_203 at h
  refine px_ld rfl rfl rfl rfl rfl ?_
  obtain ⟨t1, h0, h⟩ := xs_some h
  obtain ⟨fs, e1, e2⟩ := xgI_some h0
  refine px_get rfl e1 e2 rfl ?_
  refine px_ifne rfl (by decide) rfl (fun hc => ?_) (fun hc => ?_)
  · replace h := (if_neg hc).symm.trans h
    refine px_forget (n := 0) (lv' := [_, _, _, _, _]) rfl ?_
    exact (r_M_look2_217 h :)
  · replace h := (if_pos hc).symm.trans h
    refine px_ld rfl rfl rfl rfl rfl ?_
    obtain ⟨fs, h0, h⟩ := xs_some h
    have e1 := xo_some h0
    obtain ⟨t2, ph3, h0, h⟩ := xb_some h
    refine px_cV0 rfl rfl e1 rfl rfl rfl rfl rfl rfl rfl (r_M_start h0 :) (fun _ _ q => nomatch q.2) (fun r ph' q => ?_)
    obtain ⟨rfl, q⟩ := q
    cases q
    refine px_iflt rfl (by decide) rfl (fun hc => ?_) (fun hc => ?_)
    · replace h := (if_pos hc).symm.trans h
      refine px_ld rfl rfl rfl rfl rfl ?_
      refine px_ic (k := 2) rfl rfl rfl ?_
      obtain ⟨ph4, h0, h⟩ := xs_some h
      obtain ⟨fs, e1, e2, e3⟩ := xpI_some h0
      subst e3
      refine px_put rfl e1 e2 trivial rfl ?_
      refine px_ic (k := 0) rfl rfl rfl ?_
      refine px_st (lv' := [_, _, _, _, _]) rfl rfl rfl rfl rfl rfl rfl ?_
      exact (r_M_look2_225 _ h :)
    · replace h := (if_neg hc).symm.trans h
      refine px_forget (n := 0) (lv' := [_, _, _, _, _]) rfl ?_
      exact (r_M_look2_217 h :)
def f_M_look2_197 (F : Nat) (k84 : Nat → Int32 → px_H → Option (Unit × px_H)) (a0 : Nat) (a1 : Int32) (ph : px_H) : Option (Unit × px_H) :=
  k84 a0 (a1 + nI 1) ph
theorem r_M_look2_197 {l : Launch} {g : px_G} {d F : Nat} {k84 : Nat → Int32 → px_H → Option (Unit × px_H)} (hk84 : ∀ {a0 : Nat} {a1 : Int32} {ph : px_H} {r : Unit} {ph' : px_H}, k84 a0 a1 ph = some (r, ph') → PW l g (d + 8) m_M_look2 84 [.ref a0, .int a1, px_u, px_u, px_u] [] ph (px_qV r ph')) {a0 : Nat} {a1 : Int32} {ph : px_H} {r : Unit} {ph' : px_H} (h : f_M_look2_197 F k84 a0 a1 ph = some (r, ph')) : PW l g (d + 8) m_M_look2 197 [.ref a0, .int a1, px_u, px_u, px_u] [] ph (px_qV r ph') := by
  unfold f_M_look2_197 at h
  refine px_iinc (lv' := [_, _, _, _, _]) rfl rfl rfl rfl rfl rfl ?_
  refine px_goto rfl (by decide) rfl ?_
  exact (hk84 h :)
def f_M_look2_191 (F : Nat) (k84 : Nat → Int32 → px_H → Option (Unit × px_H)) (k107 : Nat → Int32 → Int32 → Int32 → px_H → Option (Unit × px_H)) (a0 : Nat) (a1 : Int32) (a2 : Int32) (a3 : Int32) (ph : px_H) : Option (Unit × px_H) :=
  k107 a0 a1 a2 (a3 + nI 1) ph
theorem r_M_look2_191 {l : Launch} {g : px_G} {d F : Nat} {k84 : Nat → Int32 → px_H → Option (Unit × px_H)} (hk84 : ∀ {a0 : Nat} {a1 : Int32} {ph : px_H} {r : Unit} {ph' : px_H}, k84 a0 a1 ph = some (r, ph') → PW l g (d + 8) m_M_look2 84 [.ref a0, .int a1, px_u, px_u, px_u] [] ph (px_qV r ph')) {k107 : Nat → Int32 → Int32 → Int32 → px_H → Option (Unit × px_H)} (hk107 : ∀ {a0 : Nat} {a1 : Int32} {a2 : Int32} {a3 : Int32} {ph : px_H} {r : Unit} {ph' : px_H}, k107 a0 a1 a2 a3 ph = some (r, ph') → PW l g (d + 8) m_M_look2 107 [.ref a0, .int a1, .int a2, .int a3, px_u] [] ph (px_qV r ph')) {a0 : Nat} {a1 : Int32} {a2 : Int32} {a3 : Int32} {ph : px_H} {r : Unit} {ph' : px_H} (h : f_M_look2_191 F k84 k107 a0 a1 a2 a3 ph = some (r, ph')) : PW l g (d + 8) m_M_look2 191 [.ref a0, .int a1, .int a2, .int a3, px_u] [] ph (px_qV r ph') := by
  unfold f_M_look2_191 at h
  refine px_iinc (lv' := [_, _, _, _, _]) rfl rfl rfl rfl rfl rfl ?_
  refine px_goto rfl (by decide) rfl ?_
  exact (hk107 h :)
def f_M_look2_107 (F : Nat) (k84 : Nat → Int32 → px_H → Option (Unit × px_H)) : Nat → Nat → Int32 → Int32 → Int32 → px_H → Option (Unit × px_H)
  | 0, _, _, _, _, _ => none
  | n + 1, a0, a1, a2, a3, ph =>
    (xo ph 12 a0).bind fun _ =>
    xb (f_M_symbolMany F a0 a2 ph) fun t1 ph2 =>
    if t1 ≤ a3 then
      f_M_look2_197 F k84 a0 a1 ph2
    else
      (xgI ph2 12 13 a0).bind fun t3 =>
      if t3 = 0 then
        (xo ph2 12 a0).bind fun _ =>
        xb (f_M_bind F a0 a2 a3 ph2) fun t4 ph5 =>
        if t4 = (nI 1) then
          (xo ph5 12 a0).bind fun _ =>
          xb (f_M_whereNow F a0 a1 a3 ph5) fun t6 ph7 =>
          if t6 = 0 then
            (xo ph7 12 a0).bind fun _ =>
            xb (f_M_nameOf F a0 a2 a3 ph7) fun t8 ph9 =>
            (xgR ph9 12 23 a0).bind fun t10 =>
            (xaI ph9 1 t10 t8).bind fun t11 =>
            if t11 ≤ 0 then
              (xpI ph9 12 13 a0 (nI 2)).bind fun ph12 =>
              (xgR ph12 12 21 a0).bind fun t13 =>
              (xgR ph12 12 22 a0).bind fun t14 =>
              (xaI ph12 1 t14 t8).bind fun t15 =>
              (xo ph12 12 a0).bind fun _ =>
              xb (f_M_say F a0 t13 ((nI 20) * t8) t15 ph12) fun _ ph16 =>
              f_M_look2_191 F k84 (f_M_look2_107 F k84 n) a0 a1 a2 a3 ph16
            else
              f_M_look2_191 F k84 (f_M_look2_107 F k84 n) a0 a1 a2 a3 ph9
          else
            f_M_look2_191 F k84 (f_M_look2_107 F k84 n) a0 a1 a2 a3 ph7
        else
          f_M_look2_191 F k84 (f_M_look2_107 F k84 n) a0 a1 a2 a3 ph5
      else
        f_M_look2_197 F k84 a0 a1 ph2
theorem r_M_look2_107 {l : Launch} {g : px_G} {d F : Nat} {k84 : Nat → Int32 → px_H → Option (Unit × px_H)} (hk84 : ∀ {a0 : Nat} {a1 : Int32} {ph : px_H} {r : Unit} {ph' : px_H}, k84 a0 a1 ph = some (r, ph') → PW l g (d + 8) m_M_look2 84 [.ref a0, .int a1, px_u, px_u, px_u] [] ph (px_qV r ph')) : ∀ (n : Nat) {a0 : Nat} {a1 : Int32} {a2 : Int32} {a3 : Int32} {ph : px_H} {r : Unit} {ph' : px_H}, f_M_look2_107 F k84 n a0 a1 a2 a3 ph = some (r, ph') → PW l g (d + 8) m_M_look2 107 [.ref a0, .int a1, .int a2, .int a3, px_u] [] ph (px_qV r ph') := by
  intro n
  induction n with
  | zero => intro _ _ _ _ _ _ _ h; cases h
  | succ n ih =>
    intro a0 a1 a2 a3 ph r ph' h
    unfold f_M_look2_107 at h
    refine px_ld rfl rfl rfl rfl rfl ?_
    refine px_ld rfl rfl rfl rfl rfl ?_
    refine px_ld rfl rfl rfl rfl rfl ?_
    obtain ⟨fs, h0, h⟩ := xs_some h
    have e1 := xo_some h0
    obtain ⟨t1, ph2, h0, h⟩ := xb_some h
    refine px_cV1 rfl rfl e1 rfl rfl rfl rfl rfl rfl rfl (r_M_symbolMany h0 :) (fun _ _ q => nomatch q.2) (fun r ph' q => ?_)
    obtain ⟨rfl, q⟩ := q
    cases q
    refine px_icge rfl (by decide) rfl (fun hc => ?_) (fun hc => ?_)
    · replace h := (if_pos hc).symm.trans h
      refine px_forget (n := 2) (lv' := [_, _, _, _, _]) rfl ?_
      refine px_forget (n := 3) (lv' := [_, _, _, _, _]) rfl ?_
      exact (r_M_look2_197 @hk84 h :)
    · replace h := (if_neg hc).symm.trans h
      refine px_ld rfl rfl rfl rfl rfl ?_
      obtain ⟨t3, h0, h⟩ := xs_some h
      obtain ⟨fs, e1, e2⟩ := xgI_some h0
      refine px_get rfl e1 e2 rfl ?_
      refine px_ifne rfl (by decide) rfl (fun hc => ?_) (fun hc => ?_)
      · replace h := (if_neg hc).symm.trans h
        refine px_forget (n := 2) (lv' := [_, _, _, _, _]) rfl ?_
        refine px_forget (n := 3) (lv' := [_, _, _, _, _]) rfl ?_
        exact (r_M_look2_197 @hk84 h :)
      · replace h := (if_pos hc).symm.trans h
        refine px_ld rfl rfl rfl rfl rfl ?_
        refine px_ld rfl rfl rfl rfl rfl ?_
        refine px_ld rfl rfl rfl rfl rfl ?_
        obtain ⟨fs, h0, h⟩ := xs_some h
        have e1 := xo_some h0
        obtain ⟨t4, ph5, h0, h⟩ := xb_some h
        refine px_cV2 rfl rfl e1 rfl rfl rfl rfl rfl rfl rfl (r_M_bind h0 :) (fun _ _ q => nomatch q.2) (fun r ph' q => ?_)
        obtain ⟨rfl, q⟩ := q
        cases q
        refine px_ic (k := 1) rfl rfl rfl ?_
        refine px_icne rfl (by decide) rfl (fun hc => ?_) (fun hc => ?_)
        · replace h := (if_neg hc).symm.trans h
          exact (r_M_look2_191 @hk84 @ih h :)
        · replace h := (if_pos hc).symm.trans h
          refine px_ld rfl rfl rfl rfl rfl ?_
          refine px_ld rfl rfl rfl rfl rfl ?_
          refine px_ld rfl rfl rfl rfl rfl ?_
          obtain ⟨fs, h0, h⟩ := xs_some h
          have e1 := xo_some h0
          obtain ⟨t6, ph7, h0, h⟩ := xb_some h
          refine px_cV2 rfl rfl e1 rfl rfl rfl rfl rfl rfl rfl (r_M_whereNow h0 :) (fun _ _ q => nomatch q.2) (fun r ph' q => ?_)
          obtain ⟨rfl, q⟩ := q
          cases q
          refine px_ifeq rfl (by decide) rfl (fun hc => ?_) (fun hc => ?_)
          · replace h := (if_pos hc).symm.trans h
            refine px_ld rfl rfl rfl rfl rfl ?_
            refine px_ld rfl rfl rfl rfl rfl ?_
            refine px_ld rfl rfl rfl rfl rfl ?_
            obtain ⟨fs, h0, h⟩ := xs_some h
            have e1 := xo_some h0
            obtain ⟨t8, ph9, h0, h⟩ := xb_some h
            refine px_cV2 rfl rfl e1 rfl rfl rfl rfl rfl rfl rfl (r_M_nameOf h0 :) (fun _ _ q => nomatch q.2) (fun r ph' q => ?_)
            obtain ⟨rfl, q⟩ := q
            cases q
            refine px_st (lv' := [_, _, _, _, _]) rfl rfl rfl rfl rfl rfl rfl ?_
            refine px_ld rfl rfl rfl rfl rfl ?_
            obtain ⟨t10, h0, h⟩ := xs_some h
            obtain ⟨fs, e1, e2⟩ := xgR_some h0
            refine px_get rfl e1 e2 rfl ?_
            refine px_ld rfl rfl rfl rfl rfl ?_
            obtain ⟨t11, h0, h⟩ := xs_some h
            obtain ⟨N, f, e1, e2, e3⟩ := xaI_some h0
            subst e3
            refine px_iald rfl e1 rfl e2 rfl ?_
            refine px_ifle rfl (by decide) rfl (fun hc => ?_) (fun hc => ?_)
            · replace h := (if_pos hc).symm.trans h
              refine px_ld rfl rfl rfl rfl rfl ?_
              refine px_ic (k := 2) rfl rfl rfl ?_
              obtain ⟨ph12, h0, h⟩ := xs_some h
              obtain ⟨fs, e1, e2, e3⟩ := xpI_some h0
              subst e3
              refine px_put rfl e1 e2 trivial rfl ?_
              refine px_ld rfl rfl rfl rfl rfl ?_
              refine px_ld rfl rfl rfl rfl rfl ?_
              obtain ⟨t13, h0, h⟩ := xs_some h
              obtain ⟨fs, e1, e2⟩ := xgR_some h0
              refine px_get rfl e1 e2 rfl ?_
              refine px_ic (k := 20) rfl rfl rfl ?_
              refine px_ld rfl rfl rfl rfl rfl ?_
              refine px_alu rfl rfl rfl ?_
              refine px_ld rfl rfl rfl rfl rfl ?_
              obtain ⟨t14, h0, h⟩ := xs_some h
              obtain ⟨fs, e1, e2⟩ := xgR_some h0
              refine px_get rfl e1 e2 rfl ?_
              refine px_ld rfl rfl rfl rfl rfl ?_
              obtain ⟨t15, h0, h⟩ := xs_some h
              obtain ⟨N, f, e1, e2, e3⟩ := xaI_some h0
              subst e3
              refine px_iald rfl e1 rfl e2 rfl ?_
              obtain ⟨fs, h0, h⟩ := xs_some h
              have e1 := xo_some h0
              obtain ⟨u0, ph16, h0, h⟩ := xb_some h
              refine px_cV3 rfl rfl e1 rfl rfl rfl rfl rfl rfl rfl (r_M_say h0 :) (fun _ _ q => nomatch q.2) (fun r ph' q => ?_)
              obtain ⟨rfl, q⟩ := q
              cases q
              refine px_forget (n := 4) (lv' := [_, _, _, _, _]) rfl ?_
              exact (r_M_look2_191 @hk84 @ih h :)
            · replace h := (if_neg hc).symm.trans h
              refine px_goto rfl (by decide) rfl ?_
              refine px_forget (n := 4) (lv' := [_, _, _, _, _]) rfl ?_
              exact (r_M_look2_191 @hk84 @ih h :)
          · replace h := (if_neg hc).symm.trans h
            refine px_goto rfl (by decide) rfl ?_
            exact (r_M_look2_191 @hk84 @ih h :)
def f_M_look2_84 (F : Nat) : Nat → Nat → Int32 → px_H → Option (Unit × px_H)
  | 0, _, _, _ => none
  | n + 1, a0, a1, ph =>
    (xgI ph 12 14 a0).bind fun t1 =>
    if t1 ≤ a1 then
      f_M_look2_203 F a0 ph
    else
      (xgI ph 12 13 a0).bind fun t2 =>
      if t2 = 0 then
        (xo ph 12 a0).bind fun _ =>
        xb (f_M_object F a0 a1 ph) fun t3 ph4 =>
        f_M_look2_107 F (f_M_look2_84 F n) F a0 a1 t3 (nI 1) ph4
      else
        f_M_look2_203 F a0 ph
theorem r_M_look2_84 {l : Launch} {g : px_G} {d F : Nat} : ∀ (n : Nat) {a0 : Nat} {a1 : Int32} {ph : px_H} {r : Unit} {ph' : px_H}, f_M_look2_84 F n a0 a1 ph = some (r, ph') → PW l g (d + 8) m_M_look2 84 [.ref a0, .int a1, px_u, px_u, px_u] [] ph (px_qV r ph') := by
  intro n
  induction n with
  | zero => intro _ _ _ _ _ h; cases h
  | succ n ih =>
    intro a0 a1 ph r ph' h
    unfold f_M_look2_84 at h
    refine px_ld rfl rfl rfl rfl rfl ?_
    refine px_ld rfl rfl rfl rfl rfl ?_
    obtain ⟨t1, h0, h⟩ := xs_some h
    obtain ⟨fs, e1, e2⟩ := xgI_some h0
    refine px_get rfl e1 e2 rfl ?_
    refine px_icge rfl (by decide) rfl (fun hc => ?_) (fun hc => ?_)
    · replace h := (if_pos hc).symm.trans h
      refine px_forget (n := 1) (lv' := [_, _, _, _, _]) rfl ?_
      exact (r_M_look2_203 h :)
    · replace h := (if_neg hc).symm.trans h
      refine px_ld rfl rfl rfl rfl rfl ?_
      obtain ⟨t2, h0, h⟩ := xs_some h
      obtain ⟨fs, e1, e2⟩ := xgI_some h0
      refine px_get rfl e1 e2 rfl ?_
      refine px_ifne rfl (by decide) rfl (fun hc => ?_) (fun hc => ?_)
      · replace h := (if_neg hc).symm.trans h
        refine px_forget (n := 1) (lv' := [_, _, _, _, _]) rfl ?_
        exact (r_M_look2_203 h :)
      · replace h := (if_pos hc).symm.trans h
        refine px_ld rfl rfl rfl rfl rfl ?_
        refine px_ld rfl rfl rfl rfl rfl ?_
        obtain ⟨fs, h0, h⟩ := xs_some h
        have e1 := xo_some h0
        obtain ⟨t3, ph4, h0, h⟩ := xb_some h
        refine px_cV1 rfl rfl e1 rfl rfl rfl rfl rfl rfl rfl (r_M_object h0 :) (fun _ _ q => nomatch q.2) (fun r ph' q => ?_)
        obtain ⟨rfl, q⟩ := q
        cases q
        refine px_st (lv' := [_, _, _, _, _]) rfl rfl rfl rfl rfl rfl rfl ?_
        refine px_ic (k := 1) rfl rfl rfl ?_
        refine px_st (lv' := [_, _, _, _, _]) rfl rfl rfl rfl rfl rfl rfl ?_
        exact (r_M_look2_107 @ih _ h :)
def f_M_look2_82 (F : Nat) (a0 : Nat) (ph : px_H) : Option (Unit × px_H) :=
  f_M_look2_84 F F a0 (nI 0) ph
theorem r_M_look2_82 {l : Launch} {g : px_G} {d F : Nat} {a0 : Nat} {ph : px_H} {r : Unit} {ph' : px_H} (h : f_M_look2_82 F a0 ph = some (r, ph')) : PW l g (d + 8) m_M_look2 82 [.ref a0, px_u, px_u, px_u, px_u] [] ph (px_qV r ph') := by
  unfold f_M_look2_82 at h
  refine px_ic (k := 0) rfl rfl rfl ?_
  refine px_st (lv' := [_, _, _, _, _]) rfl rfl rfl rfl rfl rfl rfl ?_
  exact (r_M_look2_84 _ h :)
def f_M_look2_76 (F : Nat) (k2 : Nat → Int32 → px_H → Option (Unit × px_H)) (a0 : Nat) (a1 : Int32) (ph : px_H) : Option (Unit × px_H) :=
  k2 a0 (a1 + nI 1) ph
theorem r_M_look2_76 {l : Launch} {g : px_G} {d F : Nat} {k2 : Nat → Int32 → px_H → Option (Unit × px_H)} (hk2 : ∀ {a0 : Nat} {a1 : Int32} {ph : px_H} {r : Unit} {ph' : px_H}, k2 a0 a1 ph = some (r, ph') → PW l g (d + 8) m_M_look2 2 [.ref a0, .int a1, px_u, px_u, px_u] [] ph (px_qV r ph')) {a0 : Nat} {a1 : Int32} {ph : px_H} {r : Unit} {ph' : px_H} (h : f_M_look2_76 F k2 a0 a1 ph = some (r, ph')) : PW l g (d + 8) m_M_look2 76 [.ref a0, .int a1, px_u, px_u, px_u] [] ph (px_qV r ph') := by
  unfold f_M_look2_76 at h
  refine px_iinc (lv' := [_, _, _, _, _]) rfl rfl rfl rfl rfl rfl ?_
  refine px_goto rfl (by decide) rfl ?_
  exact (hk2 h :)
def f_M_look2_2 (F : Nat) : Nat → Nat → Int32 → px_H → Option (Unit × px_H)
  | 0, _, _, _ => none
  | n + 1, a0, a1, ph =>
    (xgI ph 12 32 a0).bind fun t1 =>
    if t1 ≤ a1 then
      f_M_look2_82 F a0 ph
    else
      (xgI ph 12 13 a0).bind fun t2 =>
      if t2 = 0 then
        (xgR ph 12 34 a0).bind fun t3 =>
        (xgR ph 12 36 a0).bind fun t4 =>
        (xaI ph 1 t4 a1).bind fun t5 =>
        (xo ph 12 a0).bind fun _ =>
        xb (f_M_find F a0 t3 ((nI 20) * a1) (((nI 20) * a1) + t5) ph) fun t6 ph7 =>
        (xgR ph7 12 23 a0).bind fun t8 =>
        (xaI ph7 1 t8 t6).bind fun t9 =>
        if t9 ≤ 0 then
          (xpI ph7 12 13 a0 (nI 2)).bind fun ph10 =>
          (xgR ph10 12 21 a0).bind fun t11 =>
          (xgR ph10 12 22 a0).bind fun t12 =>
          (xaI ph10 1 t12 t6).bind fun t13 =>
          (xo ph10 12 a0).bind fun _ =>
          xb (f_M_say F a0 t11 ((nI 20) * t6) t13 ph10) fun _ ph14 =>
          f_M_look2_76 F (f_M_look2_2 F n) a0 a1 ph14
        else
          f_M_look2_76 F (f_M_look2_2 F n) a0 a1 ph7
      else
        f_M_look2_82 F a0 ph
theorem r_M_look2_2 {l : Launch} {g : px_G} {d F : Nat} : ∀ (n : Nat) {a0 : Nat} {a1 : Int32} {ph : px_H} {r : Unit} {ph' : px_H}, f_M_look2_2 F n a0 a1 ph = some (r, ph') → PW l g (d + 8) m_M_look2 2 [.ref a0, .int a1, px_u, px_u, px_u] [] ph (px_qV r ph') := by
  intro n
  induction n with
  | zero => intro _ _ _ _ _ h; cases h
  | succ n ih =>
    intro a0 a1 ph r ph' h
    unfold f_M_look2_2 at h
    refine px_ld rfl rfl rfl rfl rfl ?_
    refine px_ld rfl rfl rfl rfl rfl ?_
    obtain ⟨t1, h0, h⟩ := xs_some h
    obtain ⟨fs, e1, e2⟩ := xgI_some h0
    refine px_get rfl e1 e2 rfl ?_
    refine px_icge rfl (by decide) rfl (fun hc => ?_) (fun hc => ?_)
    · replace h := (if_pos hc).symm.trans h
      refine px_forget (n := 1) (lv' := [_, _, _, _, _]) rfl ?_
      exact (r_M_look2_82 h :)
    · replace h := (if_neg hc).symm.trans h
      refine px_ld rfl rfl rfl rfl rfl ?_
      obtain ⟨t2, h0, h⟩ := xs_some h
      obtain ⟨fs, e1, e2⟩ := xgI_some h0
      refine px_get rfl e1 e2 rfl ?_
      refine px_ifne rfl (by decide) rfl (fun hc => ?_) (fun hc => ?_)
      · replace h := (if_neg hc).symm.trans h
        refine px_forget (n := 1) (lv' := [_, _, _, _, _]) rfl ?_
        exact (r_M_look2_82 h :)
      · replace h := (if_pos hc).symm.trans h
        refine px_ld rfl rfl rfl rfl rfl ?_
        refine px_ld rfl rfl rfl rfl rfl ?_
        obtain ⟨t3, h0, h⟩ := xs_some h
        obtain ⟨fs, e1, e2⟩ := xgR_some h0
        refine px_get rfl e1 e2 rfl ?_
        refine px_ic (k := 20) rfl rfl rfl ?_
        refine px_ld rfl rfl rfl rfl rfl ?_
        refine px_alu rfl rfl rfl ?_
        refine px_ic (k := 20) rfl rfl rfl ?_
        refine px_ld rfl rfl rfl rfl rfl ?_
        refine px_alu rfl rfl rfl ?_
        refine px_ld rfl rfl rfl rfl rfl ?_
        obtain ⟨t4, h0, h⟩ := xs_some h
        obtain ⟨fs, e1, e2⟩ := xgR_some h0
        refine px_get rfl e1 e2 rfl ?_
        refine px_ld rfl rfl rfl rfl rfl ?_
        obtain ⟨t5, h0, h⟩ := xs_some h
        obtain ⟨N, f, e1, e2, e3⟩ := xaI_some h0
        subst e3
        refine px_iald rfl e1 rfl e2 rfl ?_
        refine px_alu rfl rfl rfl ?_
        obtain ⟨fs, h0, h⟩ := xs_some h
        have e1 := xo_some h0
        obtain ⟨t6, ph7, h0, h⟩ := xb_some h
        refine px_cV3 rfl rfl e1 rfl rfl rfl rfl rfl rfl rfl (r_M_find h0 :) (fun _ _ q => nomatch q.2) (fun r ph' q => ?_)
        obtain ⟨rfl, q⟩ := q
        cases q
        refine px_st (lv' := [_, _, _, _, _]) rfl rfl rfl rfl rfl rfl rfl ?_
        refine px_ld rfl rfl rfl rfl rfl ?_
        obtain ⟨t8, h0, h⟩ := xs_some h
        obtain ⟨fs, e1, e2⟩ := xgR_some h0
        refine px_get rfl e1 e2 rfl ?_
        refine px_ld rfl rfl rfl rfl rfl ?_
        obtain ⟨t9, h0, h⟩ := xs_some h
        obtain ⟨N, f, e1, e2, e3⟩ := xaI_some h0
        subst e3
        refine px_iald rfl e1 rfl e2 rfl ?_
        refine px_ifle rfl (by decide) rfl (fun hc => ?_) (fun hc => ?_)
        · replace h := (if_pos hc).symm.trans h
          refine px_ld rfl rfl rfl rfl rfl ?_
          refine px_ic (k := 2) rfl rfl rfl ?_
          obtain ⟨ph10, h0, h⟩ := xs_some h
          obtain ⟨fs, e1, e2, e3⟩ := xpI_some h0
          subst e3
          refine px_put rfl e1 e2 trivial rfl ?_
          refine px_ld rfl rfl rfl rfl rfl ?_
          refine px_ld rfl rfl rfl rfl rfl ?_
          obtain ⟨t11, h0, h⟩ := xs_some h
          obtain ⟨fs, e1, e2⟩ := xgR_some h0
          refine px_get rfl e1 e2 rfl ?_
          refine px_ic (k := 20) rfl rfl rfl ?_
          refine px_ld rfl rfl rfl rfl rfl ?_
          refine px_alu rfl rfl rfl ?_
          refine px_ld rfl rfl rfl rfl rfl ?_
          obtain ⟨t12, h0, h⟩ := xs_some h
          obtain ⟨fs, e1, e2⟩ := xgR_some h0
          refine px_get rfl e1 e2 rfl ?_
          refine px_ld rfl rfl rfl rfl rfl ?_
          obtain ⟨t13, h0, h⟩ := xs_some h
          obtain ⟨N, f, e1, e2, e3⟩ := xaI_some h0
          subst e3
          refine px_iald rfl e1 rfl e2 rfl ?_
          obtain ⟨fs, h0, h⟩ := xs_some h
          have e1 := xo_some h0
          obtain ⟨u0, ph14, h0, h⟩ := xb_some h
          refine px_cV3 rfl rfl e1 rfl rfl rfl rfl rfl rfl rfl (r_M_say h0 :) (fun _ _ q => nomatch q.2) (fun r ph' q => ?_)
          obtain ⟨rfl, q⟩ := q
          cases q
          refine px_forget (n := 2) (lv' := [_, _, _, _, _]) rfl ?_
          exact (r_M_look2_76 @ih h :)
        · replace h := (if_neg hc).symm.trans h
          refine px_goto rfl (by decide) rfl ?_
          refine px_forget (n := 2) (lv' := [_, _, _, _, _]) rfl ?_
          exact (r_M_look2_76 @ih h :)
def f_M_look2 (F : Nat) (a0 : Nat) (ph : px_H) : Option (Unit × px_H) :=
  f_M_look2_2 F F a0 (nI 0) ph
theorem r_M_look2 {l : Launch} {g : px_G} {d F : Nat} {a0 : Nat} {ph : px_H} {r : Unit} {ph' : px_H} (h : f_M_look2 F a0 ph = some (r, ph')) : PW l g (d + 8) m_M_look2 0 [.ref a0, px_u, px_u, px_u, px_u] [] ph (px_qV r ph') := by
  unfold f_M_look2 at h
  refine px_ic (k := 0) rfl rfl rfl ?_
  refine px_st (lv' := [_, _, _, _, _]) rfl rfl rfl rfl rfl rfl rfl ?_
  exact (r_M_look2_2 _ h :)
def f_M_isGiven_24 (F : Nat) (s0 : Int32) (ph : px_H) : Option (Int32 × px_H) :=
  xz s0 ph
theorem r_M_isGiven_24 {l : Launch} {g : px_G} {d F : Nat} {s0 : Int32} {ph : px_H} {r : Int32} {ph' : px_H} (h : f_M_isGiven_24 F s0 ph = some (r, ph')) : PW l g (d + 0) m_M_isGiven 24 [px_u, px_u] [.int s0] ph (px_qI r ph') := by
  unfold f_M_isGiven_24 at h
  obtain ⟨e0, e1, e2⟩ := xz_some h
  subst e1 e2
  exact px_iret rfl (Or.inr ⟨rfl, e0⟩) rfl ⟨rfl, rfl⟩
def f_M_isGiven_23 (F : Nat) (ph : px_H) : Option (Int32 × px_H) :=
  f_M_isGiven_24 F (nI 0) ph
theorem r_M_isGiven_23 {l : Launch} {g : px_G} {d F : Nat} {ph : px_H} {r : Int32} {ph' : px_H} (h : f_M_isGiven_23 F ph = some (r, ph')) : PW l g (d + 0) m_M_isGiven 23 [px_u, px_u] [] ph (px_qI r ph') := by
  unfold f_M_isGiven_23 at h
  refine px_ic (k := 0) rfl rfl rfl ?_
  exact (r_M_isGiven_24 h :)
def f_M_isGiven (F : Nat) (a0 : Nat) (a1 : Int32) (ph : px_H) : Option (Int32 × px_H) :=
  (xgR ph 12 23 a0).bind fun t1 =>
  (xaI ph 1 t1 a1).bind fun t2 =>
  if t2 = (nI 3) then
    (xgR ph 12 24 a0).bind fun t3 =>
    (xaI ph 1 t3 a1).bind fun t4 =>
    if 0 ≤ t4 then
      f_M_isGiven_23 F ph
    else
      f_M_isGiven_24 F (nI 1) ph
  else
    f_M_isGiven_23 F ph
theorem r_M_isGiven {l : Launch} {g : px_G} {d F : Nat} {a0 : Nat} {a1 : Int32} {ph : px_H} {r : Int32} {ph' : px_H} (h : f_M_isGiven F a0 a1 ph = some (r, ph')) : PW l g (d + 0) m_M_isGiven 0 [.ref a0, .int a1] [] ph (px_qI r ph') := by
  unfold f_M_isGiven at h
  refine px_ld rfl rfl rfl rfl rfl ?_
  obtain ⟨t1, h0, h⟩ := xs_some h
  obtain ⟨fs, e1, e2⟩ := xgR_some h0
  refine px_get rfl e1 e2 rfl ?_
  refine px_ld rfl rfl rfl rfl rfl ?_
  obtain ⟨t2, h0, h⟩ := xs_some h
  obtain ⟨N, f, e1, e2, e3⟩ := xaI_some h0
  subst e3
  refine px_iald rfl e1 rfl e2 rfl ?_
  refine px_ic (k := 3) rfl rfl rfl ?_
  refine px_icne rfl rfl rfl (fun hc => ?_) (fun hc => ?_)
  · replace h := (if_neg hc).symm.trans h
    refine px_forget (n := 0) (lv' := [_, _]) rfl ?_
    refine px_forget (n := 1) (lv' := [_, _]) rfl ?_
    exact (r_M_isGiven_23 h :)
  · replace h := (if_pos hc).symm.trans h
    refine px_ld rfl rfl rfl rfl rfl ?_
    obtain ⟨t3, h0, h⟩ := xs_some h
    obtain ⟨fs, e1, e2⟩ := xgR_some h0
    refine px_get rfl e1 e2 rfl ?_
    refine px_ld rfl rfl rfl rfl rfl ?_
    obtain ⟨t4, h0, h⟩ := xs_some h
    obtain ⟨N, f, e1, e2, e3⟩ := xaI_some h0
    subst e3
    refine px_iald rfl e1 rfl e2 rfl ?_
    refine px_ifge rfl rfl rfl (fun hc => ?_) (fun hc => ?_)
    · replace h := (if_pos hc).symm.trans h
      refine px_forget (n := 0) (lv' := [_, _]) rfl ?_
      refine px_forget (n := 1) (lv' := [_, _]) rfl ?_
      exact (r_M_isGiven_23 h :)
    · replace h := (if_neg hc).symm.trans h
      refine px_ic (k := 1) rfl rfl rfl ?_
      refine px_goto rfl rfl rfl ?_
      refine px_forget (n := 0) (lv' := [_, _]) rfl ?_
      refine px_forget (n := 1) (lv' := [_, _]) rfl ?_
      exact (r_M_isGiven_24 h :)
def f_M_reachSection_58 (F : Nat) (ph : px_H) : Option (Unit × px_H) :=
  some ((), ph)
theorem r_M_reachSection_58 {l : Launch} {g : px_G} {d F : Nat} {ph : px_H} {r : Unit} {ph' : px_H} (h : f_M_reachSection_58 F ph = some (r, ph')) : PW l g (d + 4) m_M_reachSection 58 [px_u, px_u, px_u] [] ph (px_qV r ph') := by
  unfold f_M_reachSection_58 at h
  cases h
  exact px_vret rfl rfl rfl ⟨rfl, rfl⟩
def f_M_reachSection (F : Nat) (a0 : Nat) (a1 : Int32) (a2 : Int32) (ph : px_H) : Option (Unit × px_H) :=
  if a2 ≤ 0 then
    f_M_reachSection_58 F ph
  else
    (xo ph 12 a0).bind fun _ =>
    xb (f_M_object F a0 a1 ph) fun t1 ph2 =>
    (xo ph2 12 a0).bind fun _ =>
    xb (f_M_sections F a0 t1 ph2) fun t3 ph4 =>
    if t3 ≤ a2 then
      f_M_reachSection_58 F ph4
    else
      (xo ph4 12 a0).bind fun _ =>
      xb (f_M_object F a0 a1 ph4) fun t5 ph6 =>
      (xo ph6 12 a0).bind fun _ =>
      xb (f_M_isKept F a0 t5 a2 ph6) fun t7 ph8 =>
      if t7 = 0 then
        f_M_reachSection_58 F ph8
      else
        (xgR ph8 12 65 a0).bind fun t9 =>
        (xaI ph8 3 t9 (((nI 24) * a1) + a2)).bind fun t10 =>
        if t10 = 0 then
          (xgR ph8 12 66 a0).bind fun t11 =>
          (xaI ph8 3 t11 (((nI 24) * a1) + a2)).bind fun t12 =>
          if t12 = 0 then
            (xgR ph8 12 66 a0).bind fun t13 =>
            (xsI ph8 3 t13 (((nI 24) * a1) + a2) ((nI 1) &&& 1)).bind fun ph14 =>
            (xpZ ph14 12 98 a0 (nI 1)).bind fun ph15 =>
            some ((), ph15)
          else
            f_M_reachSection_58 F ph8
        else
          f_M_reachSection_58 F ph8
theorem r_M_reachSection {l : Launch} {g : px_G} {d F : Nat} {a0 : Nat} {a1 : Int32} {a2 : Int32} {ph : px_H} {r : Unit} {ph' : px_H} (h : f_M_reachSection F a0 a1 a2 ph = some (r, ph')) : PW l g (d + 4) m_M_reachSection 0 [.ref a0, .int a1, .int a2] [] ph (px_qV r ph') := by
  unfold f_M_reachSection at h
  refine px_ld rfl rfl rfl rfl rfl ?_
  refine px_ifle rfl rfl rfl (fun hc => ?_) (fun hc => ?_)
  · replace h := (if_pos hc).symm.trans h
    refine px_forget (n := 0) (lv' := [_, _, _]) rfl ?_
    refine px_forget (n := 1) (lv' := [_, _, _]) rfl ?_
    refine px_forget (n := 2) (lv' := [_, _, _]) rfl ?_
    exact (r_M_reachSection_58 h :)
  · replace h := (if_neg hc).symm.trans h
    refine px_ld rfl rfl rfl rfl rfl ?_
    refine px_ld rfl rfl rfl rfl rfl ?_
    refine px_ld rfl rfl rfl rfl rfl ?_
    refine px_ld rfl rfl rfl rfl rfl ?_
    obtain ⟨fs, h0, h⟩ := xs_some h
    have e1 := xo_some h0
    obtain ⟨t1, ph2, h0, h⟩ := xb_some h
    refine px_cV1 rfl rfl e1 rfl rfl rfl rfl rfl rfl rfl (r_M_object h0 :) (fun _ _ q => nomatch q.2) (fun r ph' q => ?_)
    obtain ⟨rfl, q⟩ := q
    cases q
    obtain ⟨fs, h0, h⟩ := xs_some h
    have e1 := xo_some h0
    obtain ⟨t3, ph4, h0, h⟩ := xb_some h
    refine px_cV1 rfl rfl e1 rfl rfl rfl rfl rfl rfl rfl (r_M_sections h0 :) (fun _ _ q => nomatch q.2) (fun r ph' q => ?_)
    obtain ⟨rfl, q⟩ := q
    cases q
    refine px_icge rfl rfl rfl (fun hc => ?_) (fun hc => ?_)
    · replace h := (if_pos hc).symm.trans h
      refine px_forget (n := 0) (lv' := [_, _, _]) rfl ?_
      refine px_forget (n := 1) (lv' := [_, _, _]) rfl ?_
      refine px_forget (n := 2) (lv' := [_, _, _]) rfl ?_
      exact (r_M_reachSection_58 h :)
    · replace h := (if_neg hc).symm.trans h
      refine px_ld rfl rfl rfl rfl rfl ?_
      refine px_ld rfl rfl rfl rfl rfl ?_
      refine px_ld rfl rfl rfl rfl rfl ?_
      obtain ⟨fs, h0, h⟩ := xs_some h
      have e1 := xo_some h0
      obtain ⟨t5, ph6, h0, h⟩ := xb_some h
      refine px_cV1 rfl rfl e1 rfl rfl rfl rfl rfl rfl rfl (r_M_object h0 :) (fun _ _ q => nomatch q.2) (fun r ph' q => ?_)
      obtain ⟨rfl, q⟩ := q
      cases q
      refine px_ld rfl rfl rfl rfl rfl ?_
      obtain ⟨fs, h0, h⟩ := xs_some h
      have e1 := xo_some h0
      obtain ⟨t7, ph8, h0, h⟩ := xb_some h
      refine px_cV2 rfl rfl e1 rfl rfl rfl rfl rfl rfl rfl (r_M_isKept h0 :) (fun _ _ q => nomatch q.2) (fun r ph' q => ?_)
      obtain ⟨rfl, q⟩ := q
      cases q
      refine px_ifeq rfl rfl rfl (fun hc => ?_) (fun hc => ?_)
      · replace h := (if_pos hc).symm.trans h
        refine px_forget (n := 0) (lv' := [_, _, _]) rfl ?_
        refine px_forget (n := 1) (lv' := [_, _, _]) rfl ?_
        refine px_forget (n := 2) (lv' := [_, _, _]) rfl ?_
        exact (r_M_reachSection_58 h :)
      · replace h := (if_neg hc).symm.trans h
        refine px_ld rfl rfl rfl rfl rfl ?_
        obtain ⟨t9, h0, h⟩ := xs_some h
        obtain ⟨fs, e1, e2⟩ := xgR_some h0
        refine px_get rfl e1 e2 rfl ?_
        refine px_ic (k := 24) rfl rfl rfl ?_
        refine px_ld rfl rfl rfl rfl rfl ?_
        refine px_alu rfl rfl rfl ?_
        refine px_ld rfl rfl rfl rfl rfl ?_
        refine px_alu rfl rfl rfl ?_
        obtain ⟨t10, h0, h⟩ := xs_some h
        obtain ⟨N, f, e1, e2, e3⟩ := xaI_some h0
        subst e3
        refine px_zald rfl e1 rfl e2 rfl ?_
        refine px_ifne rfl rfl rfl (fun hc => ?_) (fun hc => ?_)
        · replace h := (if_neg hc).symm.trans h
          refine px_forget (n := 0) (lv' := [_, _, _]) rfl ?_
          refine px_forget (n := 1) (lv' := [_, _, _]) rfl ?_
          refine px_forget (n := 2) (lv' := [_, _, _]) rfl ?_
          exact (r_M_reachSection_58 h :)
        · replace h := (if_pos hc).symm.trans h
          refine px_ld rfl rfl rfl rfl rfl ?_
          obtain ⟨t11, h0, h⟩ := xs_some h
          obtain ⟨fs, e1, e2⟩ := xgR_some h0
          refine px_get rfl e1 e2 rfl ?_
          refine px_ic (k := 24) rfl rfl rfl ?_
          refine px_ld rfl rfl rfl rfl rfl ?_
          refine px_alu rfl rfl rfl ?_
          refine px_ld rfl rfl rfl rfl rfl ?_
          refine px_alu rfl rfl rfl ?_
          obtain ⟨t12, h0, h⟩ := xs_some h
          obtain ⟨N, f, e1, e2, e3⟩ := xaI_some h0
          subst e3
          refine px_zald rfl e1 rfl e2 rfl ?_
          refine px_ifeq rfl rfl rfl (fun hc => ?_) (fun hc => ?_)
          · replace h := (if_pos hc).symm.trans h
            refine px_ld rfl rfl rfl rfl rfl ?_
            obtain ⟨t13, h0, h⟩ := xs_some h
            obtain ⟨fs, e1, e2⟩ := xgR_some h0
            refine px_get rfl e1 e2 rfl ?_
            refine px_ic (k := 24) rfl rfl rfl ?_
            refine px_ld rfl rfl rfl rfl rfl ?_
            refine px_alu rfl rfl rfl ?_
            refine px_ld rfl rfl rfl rfl rfl ?_
            refine px_alu rfl rfl rfl ?_
            refine px_ic (k := 1) rfl rfl rfl ?_
            obtain ⟨ph14, h0, h⟩ := xs_some h
            obtain ⟨N, f, e1, e2, e3⟩ := xsI_some h0
            subst e3
            refine px_zast rfl e1 rfl e2 rfl ?_
            refine px_ld rfl rfl rfl rfl rfl ?_
            refine px_ic (k := 1) rfl rfl rfl ?_
            obtain ⟨ph15, h0, h⟩ := xs_some h
            obtain ⟨fs, e1, e2, e3, e4⟩ := xpZ_some h0
            subst e3
            refine px_put rfl e1 e2 e4 rfl ?_
            cases h
            exact px_vret rfl rfl rfl ⟨rfl, rfl⟩
          · replace h := (if_neg hc).symm.trans h
            refine px_forget (n := 0) (lv' := [_, _, _]) rfl ?_
            refine px_forget (n := 1) (lv' := [_, _, _]) rfl ?_
            refine px_forget (n := 2) (lv' := [_, _, _]) rfl ?_
            exact (r_M_reachSection_58 h :)
def f_M_reachName_71 (F : Nat) (ph : px_H) : Option (Unit × px_H) :=
  some ((), ph)
theorem r_M_reachName_71 {l : Launch} {g : px_G} {d F : Nat} {ph : px_H} {r : Unit} {ph' : px_H} (h : f_M_reachName_71 F ph = some (r, ph')) : PW l g (d + 7) m_M_reachName 71 [px_u, px_u] [] ph (px_qV r ph') := by
  unfold f_M_reachName_71 at h
  cases h
  exact px_vret rfl rfl rfl ⟨rfl, rfl⟩
def f_M_reachName_45 (F : Nat) (a0 : Nat) (a1 : Int32) (ph : px_H) : Option (Unit × px_H) :=
  (xgR ph 12 24 a0).bind fun t1 =>
  (xaI ph 1 t1 a1).bind fun t2 =>
  (xgR ph 12 24 a0).bind fun t3 =>
  (xaI ph 1 t3 a1).bind fun t4 =>
  (xgR ph 12 25 a0).bind fun t5 =>
  (xaI ph 1 t5 a1).bind fun t6 =>
  (xo ph 12 a0).bind fun _ =>
  xb (f_M_whereNow F a0 t4 t6 ph) fun t7 ph8 =>
  (xo ph8 12 a0).bind fun _ =>
  xb (f_M_reachSection F a0 t2 t7 ph8) fun _ ph9 =>
  f_M_reachName_71 F ph9
theorem r_M_reachName_45 {l : Launch} {g : px_G} {d F : Nat} {a0 : Nat} {a1 : Int32} {ph : px_H} {r : Unit} {ph' : px_H} (h : f_M_reachName_45 F a0 a1 ph = some (r, ph')) : PW l g (d + 7) m_M_reachName 45 [.ref a0, .int a1] [] ph (px_qV r ph') := by
  unfold f_M_reachName_45 at h
  refine px_ld rfl rfl rfl rfl rfl ?_
  refine px_ld rfl rfl rfl rfl rfl ?_
  obtain ⟨t1, h0, h⟩ := xs_some h
  obtain ⟨fs, e1, e2⟩ := xgR_some h0
  refine px_get rfl e1 e2 rfl ?_
  refine px_ld rfl rfl rfl rfl rfl ?_
  obtain ⟨t2, h0, h⟩ := xs_some h
  obtain ⟨N, f, e1, e2, e3⟩ := xaI_some h0
  subst e3
  refine px_iald rfl e1 rfl e2 rfl ?_
  refine px_ld rfl rfl rfl rfl rfl ?_
  refine px_ld rfl rfl rfl rfl rfl ?_
  obtain ⟨t3, h0, h⟩ := xs_some h
  obtain ⟨fs, e1, e2⟩ := xgR_some h0
  refine px_get rfl e1 e2 rfl ?_
  refine px_ld rfl rfl rfl rfl rfl ?_
  obtain ⟨t4, h0, h⟩ := xs_some h
  obtain ⟨N, f, e1, e2, e3⟩ := xaI_some h0
  subst e3
  refine px_iald rfl e1 rfl e2 rfl ?_
  refine px_ld rfl rfl rfl rfl rfl ?_
  obtain ⟨t5, h0, h⟩ := xs_some h
  obtain ⟨fs, e1, e2⟩ := xgR_some h0
  refine px_get rfl e1 e2 rfl ?_
  refine px_ld rfl rfl rfl rfl rfl ?_
  obtain ⟨t6, h0, h⟩ := xs_some h
  obtain ⟨N, f, e1, e2, e3⟩ := xaI_some h0
  subst e3
  refine px_iald rfl e1 rfl e2 rfl ?_
  obtain ⟨fs, h0, h⟩ := xs_some h
  have e1 := xo_some h0
  obtain ⟨t7, ph8, h0, h⟩ := xb_some h
  refine px_cV2 rfl rfl e1 rfl rfl rfl rfl rfl rfl rfl (r_M_whereNow h0 :) (fun _ _ q => nomatch q.2) (fun r ph' q => ?_)
  obtain ⟨rfl, q⟩ := q
  cases q
  obtain ⟨fs, h0, h⟩ := xs_some h
  have e1 := xo_some h0
  obtain ⟨u0, ph9, h0, h⟩ := xb_some h
  refine px_cV2 rfl rfl e1 rfl rfl rfl rfl rfl rfl rfl (r_M_reachSection h0 :) (fun _ _ q => nomatch q.2) (fun r ph' q => ?_)
  obtain ⟨rfl, q⟩ := q
  cases q
  refine px_forget (n := 0) (lv' := [_, _]) rfl ?_
  refine px_forget (n := 1) (lv' := [_, _]) rfl ?_
  exact (r_M_reachName_71 h :)
def f_M_reachName_17 (F : Nat) (a0 : Nat) (a1 : Int32) (ph : px_H) : Option (Unit × px_H) :=
  (xgR ph 12 23 a0).bind fun t1 =>
  (xaI ph 1 t1 a1).bind fun t2 =>
  if t2 = (nI 1) then
    f_M_reachName_45 F a0 a1 ph
  else
    (xgR ph 12 23 a0).bind fun t3 =>
    (xaI ph 1 t3 a1).bind fun t4 =>
    if t4 = (nI 3) then
      (xo ph 12 a0).bind fun _ =>
      xb (f_M_isGiven F a0 a1 ph) fun t5 ph6 =>
      if t5 = 0 then
        f_M_reachName_45 F a0 a1 ph6
      else
        f_M_reachName_71 F ph6
    else
      f_M_reachName_71 F ph
theorem r_M_reachName_17 {l : Launch} {g : px_G} {d F : Nat} {a0 : Nat} {a1 : Int32} {ph : px_H} {r : Unit} {ph' : px_H} (h : f_M_reachName_17 F a0 a1 ph = some (r, ph')) : PW l g (d + 7) m_M_reachName 17 [.ref a0, .int a1] [] ph (px_qV r ph') := by
  unfold f_M_reachName_17 at h
  refine px_ld rfl rfl rfl rfl rfl ?_
  obtain ⟨t1, h0, h⟩ := xs_some h
  obtain ⟨fs, e1, e2⟩ := xgR_some h0
  refine px_get rfl e1 e2 rfl ?_
  refine px_ld rfl rfl rfl rfl rfl ?_
  obtain ⟨t2, h0, h⟩ := xs_some h
  obtain ⟨N, f, e1, e2, e3⟩ := xaI_some h0
  subst e3
  refine px_iald rfl e1 rfl e2 rfl ?_
  refine px_ic (k := 1) rfl rfl rfl ?_
  refine px_iceq rfl rfl rfl (fun hc => ?_) (fun hc => ?_)
  · replace h := (if_pos hc).symm.trans h
    exact (r_M_reachName_45 h :)
  · replace h := (if_neg hc).symm.trans h
    refine px_ld rfl rfl rfl rfl rfl ?_
    obtain ⟨t3, h0, h⟩ := xs_some h
    obtain ⟨fs, e1, e2⟩ := xgR_some h0
    refine px_get rfl e1 e2 rfl ?_
    refine px_ld rfl rfl rfl rfl rfl ?_
    obtain ⟨t4, h0, h⟩ := xs_some h
    obtain ⟨N, f, e1, e2, e3⟩ := xaI_some h0
    subst e3
    refine px_iald rfl e1 rfl e2 rfl ?_
    refine px_ic (k := 3) rfl rfl rfl ?_
    refine px_icne rfl rfl rfl (fun hc => ?_) (fun hc => ?_)
    · replace h := (if_neg hc).symm.trans h
      refine px_forget (n := 0) (lv' := [_, _]) rfl ?_
      refine px_forget (n := 1) (lv' := [_, _]) rfl ?_
      exact (r_M_reachName_71 h :)
    · replace h := (if_pos hc).symm.trans h
      refine px_ld rfl rfl rfl rfl rfl ?_
      refine px_ld rfl rfl rfl rfl rfl ?_
      obtain ⟨fs, h0, h⟩ := xs_some h
      have e1 := xo_some h0
      obtain ⟨t5, ph6, h0, h⟩ := xb_some h
      refine px_cV1 rfl rfl e1 rfl rfl rfl rfl rfl rfl rfl (r_M_isGiven h0 :) (fun _ _ q => nomatch q.2) (fun r ph' q => ?_)
      obtain ⟨rfl, q⟩ := q
      cases q
      refine px_ifne rfl rfl rfl (fun hc => ?_) (fun hc => ?_)
      · replace h := (if_neg hc).symm.trans h
        refine px_forget (n := 0) (lv' := [_, _]) rfl ?_
        refine px_forget (n := 1) (lv' := [_, _]) rfl ?_
        exact (r_M_reachName_71 h :)
      · replace h := (if_pos hc).symm.trans h
        exact (r_M_reachName_45 h :)
def f_M_reachName (F : Nat) (a0 : Nat) (a1 : Int32) (ph : px_H) : Option (Unit × px_H) :=
  (xgR ph 12 23 a0).bind fun t1 =>
  (xaI ph 1 t1 a1).bind fun t2 =>
  if t2 = (nI 2) then
    (xgR ph 12 67 a0).bind fun t3 =>
    (xsI ph 3 t3 a1 ((nI 1) &&& 1)).bind fun ph4 =>
    f_M_reachName_17 F a0 a1 ph4
  else
    f_M_reachName_17 F a0 a1 ph
theorem r_M_reachName {l : Launch} {g : px_G} {d F : Nat} {a0 : Nat} {a1 : Int32} {ph : px_H} {r : Unit} {ph' : px_H} (h : f_M_reachName F a0 a1 ph = some (r, ph')) : PW l g (d + 7) m_M_reachName 0 [.ref a0, .int a1] [] ph (px_qV r ph') := by
  unfold f_M_reachName at h
  refine px_ld rfl rfl rfl rfl rfl ?_
  obtain ⟨t1, h0, h⟩ := xs_some h
  obtain ⟨fs, e1, e2⟩ := xgR_some h0
  refine px_get rfl e1 e2 rfl ?_
  refine px_ld rfl rfl rfl rfl rfl ?_
  obtain ⟨t2, h0, h⟩ := xs_some h
  obtain ⟨N, f, e1, e2, e3⟩ := xaI_some h0
  subst e3
  refine px_iald rfl e1 rfl e2 rfl ?_
  refine px_ic (k := 2) rfl rfl rfl ?_
  refine px_icne rfl rfl rfl (fun hc => ?_) (fun hc => ?_)
  · replace h := (if_neg hc).symm.trans h
    exact (r_M_reachName_17 h :)
  · replace h := (if_pos hc).symm.trans h
    refine px_ld rfl rfl rfl rfl rfl ?_
    obtain ⟨t3, h0, h⟩ := xs_some h
    obtain ⟨fs, e1, e2⟩ := xgR_some h0
    refine px_get rfl e1 e2 rfl ?_
    refine px_ld rfl rfl rfl rfl rfl ?_
    refine px_ic (k := 1) rfl rfl rfl ?_
    obtain ⟨ph4, h0, h⟩ := xs_some h
    obtain ⟨N, f, e1, e2, e3⟩ := xsI_some h0
    subst e3
    refine px_zast rfl e1 rfl e2 rfl ?_
    exact (r_M_reachName_17 h :)
def f_M_reachSites_159 (F : Nat) (ph : px_H) : Option (Unit × px_H) :=
  some ((), ph)
theorem r_M_reachSites_159 {l : Launch} {g : px_G} {d F : Nat} {ph : px_H} {r : Unit} {ph' : px_H} (h : f_M_reachSites_159 F ph = some (r, ph')) : PW l g (d + 8) m_M_reachSites 159 [px_u, px_u, px_u, px_u, px_u, px_u] [] ph (px_qV r ph') := by
  unfold f_M_reachSites_159 at h
  cases h
  exact px_vret rfl rfl rfl ⟨rfl, rfl⟩
def f_M_reachSites_153 (F : Nat) (k8 : Nat → Int32 → Int32 → Int32 → px_H → Option (Unit × px_H)) (a0 : Nat) (a1 : Int32) (a2 : Int32) (a3 : Int32) (ph : px_H) : Option (Unit × px_H) :=
  k8 a0 a1 a2 (a3 + nI 1) ph
theorem r_M_reachSites_153 {l : Launch} {g : px_G} {d F : Nat} {k8 : Nat → Int32 → Int32 → Int32 → px_H → Option (Unit × px_H)} (hk8 : ∀ {a0 : Nat} {a1 : Int32} {a2 : Int32} {a3 : Int32} {ph : px_H} {r : Unit} {ph' : px_H}, k8 a0 a1 a2 a3 ph = some (r, ph') → PW l g (d + 8) m_M_reachSites 8 [.ref a0, .int a1, .int a2, .int a3, px_u, px_u] [] ph (px_qV r ph')) {a0 : Nat} {a1 : Int32} {a2 : Int32} {a3 : Int32} {ph : px_H} {r : Unit} {ph' : px_H} (h : f_M_reachSites_153 F k8 a0 a1 a2 a3 ph = some (r, ph')) : PW l g (d + 8) m_M_reachSites 153 [.ref a0, .int a1, .int a2, .int a3, px_u, px_u] [] ph (px_qV r ph') := by
  unfold f_M_reachSites_153 at h
  refine px_iinc (lv' := [_, _, _, _, _, _]) rfl rfl rfl rfl rfl rfl ?_
  refine px_goto rfl (by decide) rfl ?_
  exact (hk8 h :)
def f_M_reachSites_147 (F : Nat) (k8 : Nat → Int32 → Int32 → Int32 → px_H → Option (Unit × px_H)) (k52 : Nat → Int32 → Int32 → Int32 → Int32 → px_H → Option (Unit × px_H)) (a0 : Nat) (a1 : Int32) (a2 : Int32) (a3 : Int32) (a4 : Int32) (ph : px_H) : Option (Unit × px_H) :=
  k52 a0 a1 a2 a3 (a4 + nI 1) ph
theorem r_M_reachSites_147 {l : Launch} {g : px_G} {d F : Nat} {k8 : Nat → Int32 → Int32 → Int32 → px_H → Option (Unit × px_H)} (hk8 : ∀ {a0 : Nat} {a1 : Int32} {a2 : Int32} {a3 : Int32} {ph : px_H} {r : Unit} {ph' : px_H}, k8 a0 a1 a2 a3 ph = some (r, ph') → PW l g (d + 8) m_M_reachSites 8 [.ref a0, .int a1, .int a2, .int a3, px_u, px_u] [] ph (px_qV r ph')) {k52 : Nat → Int32 → Int32 → Int32 → Int32 → px_H → Option (Unit × px_H)} (hk52 : ∀ {a0 : Nat} {a1 : Int32} {a2 : Int32} {a3 : Int32} {a4 : Int32} {ph : px_H} {r : Unit} {ph' : px_H}, k52 a0 a1 a2 a3 a4 ph = some (r, ph') → PW l g (d + 8) m_M_reachSites 52 [.ref a0, .int a1, .int a2, .int a3, .int a4, px_u] [] ph (px_qV r ph')) {a0 : Nat} {a1 : Int32} {a2 : Int32} {a3 : Int32} {a4 : Int32} {ph : px_H} {r : Unit} {ph' : px_H} (h : f_M_reachSites_147 F k8 k52 a0 a1 a2 a3 a4 ph = some (r, ph')) : PW l g (d + 8) m_M_reachSites 147 [.ref a0, .int a1, .int a2, .int a3, .int a4, px_u] [] ph (px_qV r ph') := by
  unfold f_M_reachSites_147 at h
  refine px_iinc (lv' := [_, _, _, _, _, _]) rfl rfl rfl rfl rfl rfl ?_
  refine px_goto rfl (by decide) rfl ?_
  exact (hk52 h :)
def f_M_reachSites_52 (F : Nat) (k8 : Nat → Int32 → Int32 → Int32 → px_H → Option (Unit × px_H)) : Nat → Nat → Int32 → Int32 → Int32 → Int32 → px_H → Option (Unit × px_H)
  | 0, _, _, _, _, _, _ => none
  | n + 1, a0, a1, a2, a3, a4, ph =>
    (xo ph 12 a0).bind fun _ =>
    xb (f_M_siteMany F a0 a2 a3 ph) fun t1 ph2 =>
    if t1 ≤ a4 then
      f_M_reachSites_153 F k8 a0 a1 a2 a3 ph2
    else
      (xo ph2 12 a0).bind fun _ =>
      xb (f_M_site F a0 a2 a3 a4 ph2) fun t3 ph4 =>
      (xo ph4 12 a0).bind fun _ =>
      xb (f_M_num F a0 (t3 + (nI 12)) (nI 4) ph4) fun t5 ph6 =>
      (xo ph6 12 a0).bind fun _ =>
      xb (f_M_site F a0 a2 a3 a4 ph6) fun t7 ph8 =>
      (xo ph8 12 a0).bind fun _ =>
      xb (f_M_num F a0 (t7 + (nI 8)) (nI 4) ph8) fun t9 ph10 =>
      if t9 = (lN 0) then
        f_M_reachSites_147 F k8 (f_M_reachSites_52 F k8 n) a0 a1 a2 a3 a4 ph10
      else
        if t5.toInt32 = 0 then
          f_M_reachSites_147 F k8 (f_M_reachSites_52 F k8 n) a0 a1 a2 a3 a4 ph10
        else
          (xo ph10 12 a0).bind fun _ =>
          xb (f_M_bind F a0 a2 t5.toInt32 ph10) fun t11 ph12 =>
          if t11 = 0 then
            (xo ph12 12 a0).bind fun _ =>
            xb (f_M_whereNow F a0 a1 t5.toInt32 ph12) fun t16 ph17 =>
            (xo ph17 12 a0).bind fun _ =>
            xb (f_M_reachSection F a0 a1 t16 ph17) fun _ ph18 =>
            f_M_reachSites_147 F k8 (f_M_reachSites_52 F k8 n) a0 a1 a2 a3 a4 ph18
          else
            (xo ph12 12 a0).bind fun _ =>
            xb (f_M_nameOf F a0 a2 t5.toInt32 ph12) fun t13 ph14 =>
            (xo ph14 12 a0).bind fun _ =>
            xb (f_M_reachName F a0 t13 ph14) fun _ ph15 =>
            f_M_reachSites_147 F k8 (f_M_reachSites_52 F k8 n) a0 a1 a2 a3 a4 ph15
theorem r_M_reachSites_52 {l : Launch} {g : px_G} {d F : Nat} {k8 : Nat → Int32 → Int32 → Int32 → px_H → Option (Unit × px_H)} (hk8 : ∀ {a0 : Nat} {a1 : Int32} {a2 : Int32} {a3 : Int32} {ph : px_H} {r : Unit} {ph' : px_H}, k8 a0 a1 a2 a3 ph = some (r, ph') → PW l g (d + 8) m_M_reachSites 8 [.ref a0, .int a1, .int a2, .int a3, px_u, px_u] [] ph (px_qV r ph')) : ∀ (n : Nat) {a0 : Nat} {a1 : Int32} {a2 : Int32} {a3 : Int32} {a4 : Int32} {ph : px_H} {r : Unit} {ph' : px_H}, f_M_reachSites_52 F k8 n a0 a1 a2 a3 a4 ph = some (r, ph') → PW l g (d + 8) m_M_reachSites 52 [.ref a0, .int a1, .int a2, .int a3, .int a4, px_u] [] ph (px_qV r ph') := by
  intro n
  induction n with
  | zero => intro _ _ _ _ _ _ _ _ h; cases h
  | succ n ih =>
    intro a0 a1 a2 a3 a4 ph r ph' h
    unfold f_M_reachSites_52 at h
    refine px_ld rfl rfl rfl rfl rfl ?_
    refine px_ld rfl rfl rfl rfl rfl ?_
    refine px_ld rfl rfl rfl rfl rfl ?_
    refine px_ld rfl rfl rfl rfl rfl ?_
    obtain ⟨fs, h0, h⟩ := xs_some h
    have e1 := xo_some h0
    obtain ⟨t1, ph2, h0, h⟩ := xb_some h
    refine px_cV2 rfl rfl e1 rfl rfl rfl rfl rfl rfl rfl (r_M_siteMany h0 :) (fun _ _ q => nomatch q.2) (fun r ph' q => ?_)
    obtain ⟨rfl, q⟩ := q
    cases q
    refine px_icge rfl (by decide) rfl (fun hc => ?_) (fun hc => ?_)
    · replace h := (if_pos hc).symm.trans h
      refine px_forget (n := 4) (lv' := [_, _, _, _, _, _]) rfl ?_
      exact (r_M_reachSites_153 @hk8 h :)
    · replace h := (if_neg hc).symm.trans h
      refine px_ld rfl rfl rfl rfl rfl ?_
      refine px_ld rfl rfl rfl rfl rfl ?_
      refine px_ld rfl rfl rfl rfl rfl ?_
      refine px_ld rfl rfl rfl rfl rfl ?_
      refine px_ld rfl rfl rfl rfl rfl ?_
      obtain ⟨fs, h0, h⟩ := xs_some h
      have e1 := xo_some h0
      obtain ⟨t3, ph4, h0, h⟩ := xb_some h
      refine px_cV3 rfl rfl e1 rfl rfl rfl rfl rfl rfl rfl (r_M_site h0 :) (fun _ _ q => nomatch q.2) (fun r ph' q => ?_)
      obtain ⟨rfl, q⟩ := q
      cases q
      refine px_ic (k := 12) rfl rfl rfl ?_
      refine px_alu rfl rfl rfl ?_
      refine px_ic (k := 4) rfl rfl rfl ?_
      obtain ⟨fs, h0, h⟩ := xs_some h
      have e1 := xo_some h0
      obtain ⟨t5, ph6, h0, h⟩ := xb_some h
      refine px_cV2 rfl rfl e1 rfl rfl rfl rfl rfl rfl rfl (r_M_num h0 :) (fun _ _ q => nomatch q.2) (fun r ph' q => ?_)
      obtain ⟨rfl, q⟩ := q
      cases q
      refine px_alu rfl rfl rfl ?_
      refine px_st (lv' := [_, _, _, _, _, _]) rfl rfl rfl rfl rfl rfl rfl ?_
      refine px_ld rfl rfl rfl rfl rfl ?_
      refine px_ld rfl rfl rfl rfl rfl ?_
      refine px_ld rfl rfl rfl rfl rfl ?_
      refine px_ld rfl rfl rfl rfl rfl ?_
      refine px_ld rfl rfl rfl rfl rfl ?_
      obtain ⟨fs, h0, h⟩ := xs_some h
      have e1 := xo_some h0
      obtain ⟨t7, ph8, h0, h⟩ := xb_some h
      refine px_cV3 rfl rfl e1 rfl rfl rfl rfl rfl rfl rfl (r_M_site h0 :) (fun _ _ q => nomatch q.2) (fun r ph' q => ?_)
      obtain ⟨rfl, q⟩ := q
      cases q
      refine px_ic (k := 8) rfl rfl rfl ?_
      refine px_alu rfl rfl rfl ?_
      refine px_ic (k := 4) rfl rfl rfl ?_
      obtain ⟨fs, h0, h⟩ := xs_some h
      have e1 := xo_some h0
      obtain ⟨t9, ph10, h0, h⟩ := xb_some h
      refine px_cV2 rfl rfl e1 rfl rfl rfl rfl rfl rfl rfl (r_M_num h0 :) (fun _ _ q => nomatch q.2) (fun r ph' q => ?_)
      obtain ⟨rfl, q⟩ := q
      cases q
      refine px_alu rfl rfl rfl ?_
      refine px_alu rfl rfl rfl ?_
      refine px_ifeq rfl (by decide) rfl (fun hc => ?_) (fun hc => ?_)
      · replace h := (if_pos ((lg_cmp_eq _ _).mp hc)).symm.trans h
        refine px_forget (n := 5) (lv' := [_, _, _, _, _, _]) rfl ?_
        exact (r_M_reachSites_147 @hk8 @ih h :)
      · replace h := (if_neg (fun q => hc ((lg_cmp_eq _ _).mpr q))).symm.trans h
        refine px_ld rfl rfl rfl rfl rfl ?_
        refine px_ifne rfl (by decide) rfl (fun hc => ?_) (fun hc => ?_)
        · replace h := (if_neg hc).symm.trans h
          refine px_ld rfl rfl rfl rfl rfl ?_
          refine px_ld rfl rfl rfl rfl rfl ?_
          refine px_ld rfl rfl rfl rfl rfl ?_
          obtain ⟨fs, h0, h⟩ := xs_some h
          have e1 := xo_some h0
          obtain ⟨t11, ph12, h0, h⟩ := xb_some h
          refine px_cV2 rfl rfl e1 rfl rfl rfl rfl rfl rfl rfl (r_M_bind h0 :) (fun _ _ q => nomatch q.2) (fun r ph' q => ?_)
          obtain ⟨rfl, q⟩ := q
          cases q
          refine px_ifne rfl (by decide) rfl (fun hc => ?_) (fun hc => ?_)
          · replace h := (if_neg hc).symm.trans h
            refine px_ld rfl rfl rfl rfl rfl ?_
            refine px_ld rfl rfl rfl rfl rfl ?_
            refine px_ld rfl rfl rfl rfl rfl ?_
            refine px_ld rfl rfl rfl rfl rfl ?_
            obtain ⟨fs, h0, h⟩ := xs_some h
            have e1 := xo_some h0
            obtain ⟨t13, ph14, h0, h⟩ := xb_some h
            refine px_cV2 rfl rfl e1 rfl rfl rfl rfl rfl rfl rfl (r_M_nameOf h0 :) (fun _ _ q => nomatch q.2) (fun r ph' q => ?_)
            obtain ⟨rfl, q⟩ := q
            cases q
            obtain ⟨fs, h0, h⟩ := xs_some h
            have e1 := xo_some h0
            obtain ⟨u0, ph15, h0, h⟩ := xb_some h
            refine px_cV1 rfl rfl e1 rfl rfl rfl rfl rfl rfl rfl (r_M_reachName h0 :) (fun _ _ q => nomatch q.2) (fun r ph' q => ?_)
            obtain ⟨rfl, q⟩ := q
            cases q
            refine px_forget (n := 5) (lv' := [_, _, _, _, _, _]) rfl ?_
            exact (r_M_reachSites_147 @hk8 @ih h :)
          · replace h := (if_pos hc).symm.trans h
            refine px_ld rfl rfl rfl rfl rfl ?_
            refine px_ld rfl rfl rfl rfl rfl ?_
            refine px_ld rfl rfl rfl rfl rfl ?_
            refine px_ld rfl rfl rfl rfl rfl ?_
            refine px_ld rfl rfl rfl rfl rfl ?_
            obtain ⟨fs, h0, h⟩ := xs_some h
            have e1 := xo_some h0
            obtain ⟨t16, ph17, h0, h⟩ := xb_some h
            refine px_cV2 rfl rfl e1 rfl rfl rfl rfl rfl rfl rfl (r_M_whereNow h0 :) (fun _ _ q => nomatch q.2) (fun r ph' q => ?_)
            obtain ⟨rfl, q⟩ := q
            cases q
            obtain ⟨fs, h0, h⟩ := xs_some h
            have e1 := xo_some h0
            obtain ⟨u0, ph18, h0, h⟩ := xb_some h
            refine px_cV2 rfl rfl e1 rfl rfl rfl rfl rfl rfl rfl (r_M_reachSection h0 :) (fun _ _ q => nomatch q.2) (fun r ph' q => ?_)
            obtain ⟨rfl, q⟩ := q
            cases q
            refine px_goto rfl (by decide) rfl ?_
            refine px_forget (n := 5) (lv' := [_, _, _, _, _, _]) rfl ?_
            exact (r_M_reachSites_147 @hk8 @ih h :)
        · replace h := (if_pos hc).symm.trans h
          refine px_goto rfl (by decide) rfl ?_
          refine px_forget (n := 5) (lv' := [_, _, _, _, _, _]) rfl ?_
          exact (r_M_reachSites_147 @hk8 @ih h :)
def f_M_reachSites_8 (F : Nat) : Nat → Nat → Int32 → Int32 → Int32 → px_H → Option (Unit × px_H)
  | 0, _, _, _, _, _ => none
  | n + 1, a0, a1, a2, a3, ph =>
    (xo ph 12 a0).bind fun _ =>
    xb (f_M_sections F a0 a2 ph) fun t1 ph2 =>
    if t1 ≤ a3 then
      f_M_reachSites_159 F ph2
    else
      (xo ph2 12 a0).bind fun _ =>
      xb (f_M_isSites F a0 a2 a3 ph2) fun t3 ph4 =>
      if t3 = 0 then
        f_M_reachSites_153 F (f_M_reachSites_8 F n) a0 a1 a2 a3 ph4
      else
        (xgR ph4 12 66 a0).bind fun t5 =>
        (xo ph4 12 a0).bind fun _ =>
        xb (f_M_info F a0 a2 a3 ph4) fun t6 ph7 =>
        (xaI ph7 3 t5 (((nI 24) * a1) + t6.toInt32)).bind fun t8 =>
        if t8 = 0 then
          f_M_reachSites_153 F (f_M_reachSites_8 F n) a0 a1 a2 a3 ph7
        else
          f_M_reachSites_52 F (f_M_reachSites_8 F n) F a0 a1 a2 a3 (nI 0) ph7
theorem r_M_reachSites_8 {l : Launch} {g : px_G} {d F : Nat} : ∀ (n : Nat) {a0 : Nat} {a1 : Int32} {a2 : Int32} {a3 : Int32} {ph : px_H} {r : Unit} {ph' : px_H}, f_M_reachSites_8 F n a0 a1 a2 a3 ph = some (r, ph') → PW l g (d + 8) m_M_reachSites 8 [.ref a0, .int a1, .int a2, .int a3, px_u, px_u] [] ph (px_qV r ph') := by
  intro n
  induction n with
  | zero => intro _ _ _ _ _ _ _ h; cases h
  | succ n ih =>
    intro a0 a1 a2 a3 ph r ph' h
    unfold f_M_reachSites_8 at h
    refine px_ld rfl rfl rfl rfl rfl ?_
    refine px_ld rfl rfl rfl rfl rfl ?_
    refine px_ld rfl rfl rfl rfl rfl ?_
    obtain ⟨fs, h0, h⟩ := xs_some h
    have e1 := xo_some h0
    obtain ⟨t1, ph2, h0, h⟩ := xb_some h
    refine px_cV1 rfl rfl e1 rfl rfl rfl rfl rfl rfl rfl (r_M_sections h0 :) (fun _ _ q => nomatch q.2) (fun r ph' q => ?_)
    obtain ⟨rfl, q⟩ := q
    cases q
    refine px_icge rfl (by decide) rfl (fun hc => ?_) (fun hc => ?_)
    · replace h := (if_pos hc).symm.trans h
      refine px_forget (n := 0) (lv' := [_, _, _, _, _, _]) rfl ?_
      refine px_forget (n := 1) (lv' := [_, _, _, _, _, _]) rfl ?_
      refine px_forget (n := 2) (lv' := [_, _, _, _, _, _]) rfl ?_
      refine px_forget (n := 3) (lv' := [_, _, _, _, _, _]) rfl ?_
      exact (r_M_reachSites_159 h :)
    · replace h := (if_neg hc).symm.trans h
      refine px_ld rfl rfl rfl rfl rfl ?_
      refine px_ld rfl rfl rfl rfl rfl ?_
      refine px_ld rfl rfl rfl rfl rfl ?_
      obtain ⟨fs, h0, h⟩ := xs_some h
      have e1 := xo_some h0
      obtain ⟨t3, ph4, h0, h⟩ := xb_some h
      refine px_cV2 rfl rfl e1 rfl rfl rfl rfl rfl rfl rfl (r_M_isSites h0 :) (fun _ _ q => nomatch q.2) (fun r ph' q => ?_)
      obtain ⟨rfl, q⟩ := q
      cases q
      refine px_ifeq rfl (by decide) rfl (fun hc => ?_) (fun hc => ?_)
      · replace h := (if_pos hc).symm.trans h
        exact (r_M_reachSites_153 @ih h :)
      · replace h := (if_neg hc).symm.trans h
        refine px_ld rfl rfl rfl rfl rfl ?_
        obtain ⟨t5, h0, h⟩ := xs_some h
        obtain ⟨fs, e1, e2⟩ := xgR_some h0
        refine px_get rfl e1 e2 rfl ?_
        refine px_ic (k := 24) rfl rfl rfl ?_
        refine px_ld rfl rfl rfl rfl rfl ?_
        refine px_alu rfl rfl rfl ?_
        refine px_ld rfl rfl rfl rfl rfl ?_
        refine px_ld rfl rfl rfl rfl rfl ?_
        refine px_ld rfl rfl rfl rfl rfl ?_
        obtain ⟨fs, h0, h⟩ := xs_some h
        have e1 := xo_some h0
        obtain ⟨t6, ph7, h0, h⟩ := xb_some h
        refine px_cV2 rfl rfl e1 rfl rfl rfl rfl rfl rfl rfl (r_M_info h0 :) (fun _ _ q => nomatch q.2) (fun r ph' q => ?_)
        obtain ⟨rfl, q⟩ := q
        cases q
        refine px_alu rfl rfl rfl ?_
        refine px_alu rfl rfl rfl ?_
        obtain ⟨t8, h0, h⟩ := xs_some h
        obtain ⟨N, f, e1, e2, e3⟩ := xaI_some h0
        subst e3
        refine px_zald rfl e1 rfl e2 rfl ?_
        refine px_ifne rfl (by decide) rfl (fun hc => ?_) (fun hc => ?_)
        · replace h := (if_neg hc).symm.trans h
          refine px_ic (k := 0) rfl rfl rfl ?_
          refine px_st (lv' := [_, _, _, _, _, _]) rfl rfl rfl rfl rfl rfl rfl ?_
          exact (r_M_reachSites_52 @ih _ h :)
        · replace h := (if_pos hc).symm.trans h
          refine px_goto rfl (by decide) rfl ?_
          exact (r_M_reachSites_153 @ih h :)
def f_M_reachSites (F : Nat) (a0 : Nat) (a1 : Int32) (ph : px_H) : Option (Unit × px_H) :=
  (xo ph 12 a0).bind fun _ =>
  xb (f_M_object F a0 a1 ph) fun t1 ph2 =>
  f_M_reachSites_8 F F a0 a1 t1 (nI 1) ph2
theorem r_M_reachSites {l : Launch} {g : px_G} {d F : Nat} {a0 : Nat} {a1 : Int32} {ph : px_H} {r : Unit} {ph' : px_H} (h : f_M_reachSites F a0 a1 ph = some (r, ph')) : PW l g (d + 8) m_M_reachSites 0 [.ref a0, .int a1, px_u, px_u, px_u, px_u] [] ph (px_qV r ph') := by
  unfold f_M_reachSites at h
  refine px_ld rfl rfl rfl rfl rfl ?_
  refine px_ld rfl rfl rfl rfl rfl ?_
  obtain ⟨fs, h0, h⟩ := xs_some h
  have e1 := xo_some h0
  obtain ⟨t1, ph2, h0, h⟩ := xb_some h
  refine px_cV1 rfl rfl e1 rfl rfl rfl rfl rfl rfl rfl (r_M_object h0 :) (fun _ _ q => nomatch q.2) (fun r ph' q => ?_)
  obtain ⟨rfl, q⟩ := q
  cases q
  refine px_st (lv' := [_, _, _, _, _, _]) rfl rfl rfl rfl rfl rfl rfl ?_
  refine px_ic (k := 1) rfl rfl rfl ?_
  refine px_st (lv' := [_, _, _, _, _, _]) rfl rfl rfl rfl rfl rfl rfl ?_
  exact (r_M_reachSites_8 _ h :)
def f_M_reach_96 (F : Nat) (a0 : Nat) (ph : px_H) : Option (Unit × px_H) :=
  (xpZ ph 12 68 a0 (nI 1)).bind fun ph1 =>
  some ((), ph1)
theorem r_M_reach_96 {l : Launch} {g : px_G} {d F : Nat} {a0 : Nat} {ph : px_H} {r : Unit} {ph' : px_H} (h : f_M_reach_96 F a0 ph = some (r, ph')) : PW l g (d + 9) m_M_reach 96 [.ref a0, px_u, px_u] [] ph (px_qV r ph') := by
  unfold f_M_reach_96 at h
  refine px_ld rfl rfl rfl rfl rfl ?_
  refine px_ic (k := 1) rfl rfl rfl ?_
  obtain ⟨ph1, h0, h⟩ := xs_some h
  obtain ⟨fs, e1, e2, e3, e4⟩ := xpZ_some h0
  subst e3
  refine px_put rfl e1 e2 e4 rfl ?_
  cases h
  exact px_vret rfl rfl rfl ⟨rfl, rfl⟩
def f_M_reach_93 (F : Nat) (k60 : Nat → px_H → Option (Unit × px_H)) (a0 : Nat) (ph : px_H) : Option (Unit × px_H) :=
  k60 a0 ph
theorem r_M_reach_93 {l : Launch} {g : px_G} {d F : Nat} {k60 : Nat → px_H → Option (Unit × px_H)} (hk60 : ∀ {a0 : Nat} {ph : px_H} {r : Unit} {ph' : px_H}, k60 a0 ph = some (r, ph') → PW l g (d + 9) m_M_reach 60 [.ref a0, px_u, px_u] [] ph (px_qV r ph')) {a0 : Nat} {ph : px_H} {r : Unit} {ph' : px_H} (h : f_M_reach_93 F k60 a0 ph = some (r, ph')) : PW l g (d + 9) m_M_reach 93 [.ref a0, px_u, px_u] [] ph (px_qV r ph') := by
  unfold f_M_reach_93 at h
  refine px_goto rfl rfl rfl ?_
  exact (hk60 h :)
def f_M_reach_74 (F : Nat) (k60 : Nat → px_H → Option (Unit × px_H)) : Nat → Nat → Int32 → px_H → Option (Unit × px_H)
  | 0, _, _, _ => none
  | n + 1, a0, a2, ph =>
    (xgI ph 12 14 a0).bind fun t1 =>
    if t1 ≤ a2 then
      f_M_reach_93 F k60 a0 ph
    else
      (xo ph 12 a0).bind fun _ =>
      xb (f_M_reachSites F a0 a2 ph) fun _ ph2 =>
      f_M_reach_74 F k60 n a0 (a2 + nI 1) ph2
theorem r_M_reach_74 {l : Launch} {g : px_G} {d F : Nat} {k60 : Nat → px_H → Option (Unit × px_H)} (hk60 : ∀ {a0 : Nat} {ph : px_H} {r : Unit} {ph' : px_H}, k60 a0 ph = some (r, ph') → PW l g (d + 9) m_M_reach 60 [.ref a0, px_u, px_u] [] ph (px_qV r ph')) : ∀ (n : Nat) {a0 : Nat} {a2 : Int32} {ph : px_H} {r : Unit} {ph' : px_H}, f_M_reach_74 F k60 n a0 a2 ph = some (r, ph') → PW l g (d + 9) m_M_reach 74 [.ref a0, px_u, .int a2] [] ph (px_qV r ph') := by
  intro n
  induction n with
  | zero => intro _ _ _ _ _ h; cases h
  | succ n ih =>
    intro a0 a2 ph r ph' h
    unfold f_M_reach_74 at h
    refine px_ld rfl rfl rfl rfl rfl ?_
    refine px_ld rfl rfl rfl rfl rfl ?_
    obtain ⟨t1, h0, h⟩ := xs_some h
    obtain ⟨fs, e1, e2⟩ := xgI_some h0
    refine px_get rfl e1 e2 rfl ?_
    refine px_icge rfl rfl rfl (fun hc => ?_) (fun hc => ?_)
    · replace h := (if_pos hc).symm.trans h
      refine px_forget (n := 2) (lv' := [_, _, _]) rfl ?_
      exact (r_M_reach_93 @hk60 h :)
    · replace h := (if_neg hc).symm.trans h
      refine px_ld rfl rfl rfl rfl rfl ?_
      refine px_ld rfl rfl rfl rfl rfl ?_
      obtain ⟨fs, h0, h⟩ := xs_some h
      have e1 := xo_some h0
      obtain ⟨u0, ph2, h0, h⟩ := xb_some h
      refine px_cV1 rfl rfl e1 rfl rfl rfl rfl rfl rfl rfl (r_M_reachSites h0 :) (fun _ _ q => nomatch q.2) (fun r ph' q => ?_)
      obtain ⟨rfl, q⟩ := q
      cases q
      refine px_iinc (lv' := [_, _, _]) rfl rfl rfl rfl rfl rfl ?_
      refine px_goto rfl rfl rfl ?_
      exact (ih h :)
def f_M_reach_60 (F : Nat) : Nat → Nat → px_H → Option (Unit × px_H)
  | 0, _, _ => none
  | n + 1, a0, ph =>
    (xgI ph 12 98 a0).bind fun t1 =>
    if t1 = 0 then
      f_M_reach_96 F a0 ph
    else
      (xpZ ph 12 98 a0 (nI 0)).bind fun ph2 =>
      f_M_reach_74 F (f_M_reach_60 F n) F a0 (nI 0) ph2
theorem r_M_reach_60 {l : Launch} {g : px_G} {d F : Nat} : ∀ (n : Nat) {a0 : Nat} {ph : px_H} {r : Unit} {ph' : px_H}, f_M_reach_60 F n a0 ph = some (r, ph') → PW l g (d + 9) m_M_reach 60 [.ref a0, px_u, px_u] [] ph (px_qV r ph') := by
  intro n
  induction n with
  | zero => intro _ _ _ _ h; cases h
  | succ n ih =>
    intro a0 ph r ph' h
    unfold f_M_reach_60 at h
    refine px_ld rfl rfl rfl rfl rfl ?_
    obtain ⟨t1, h0, h⟩ := xs_some h
    obtain ⟨fs, e1, e2⟩ := xgI_some h0
    refine px_get rfl e1 e2 rfl ?_
    refine px_ifeq rfl rfl rfl (fun hc => ?_) (fun hc => ?_)
    · replace h := (if_pos hc).symm.trans h
      exact (r_M_reach_96 h :)
    · replace h := (if_neg hc).symm.trans h
      refine px_ld rfl rfl rfl rfl rfl ?_
      refine px_ic (k := 0) rfl rfl rfl ?_
      obtain ⟨ph2, h0, h⟩ := xs_some h
      obtain ⟨fs, e1, e2, e3, e4⟩ := xpZ_some h0
      subst e3
      refine px_put rfl e1 e2 e4 rfl ?_
      refine px_ic (k := 0) rfl rfl rfl ?_
      refine px_st (lv' := [_, _, _]) rfl rfl rfl rfl rfl rfl rfl ?_
      exact (r_M_reach_74 @ih _ h :)
def f_M_reach_45 (F : Nat) (a0 : Nat) (ph : px_H) : Option (Unit × px_H) :=
  (xo ph 12 a0).bind fun _ =>
  xb (f_M_start F a0 ph) fun t1 ph2 =>
  (xo ph2 12 a0).bind fun _ =>
  xb (f_M_reachName F a0 t1 ph2) fun _ ph3 =>
  (xpZ ph3 12 98 a0 (nI 1)).bind fun ph4 =>
  f_M_reach_60 F F a0 ph4
theorem r_M_reach_45 {l : Launch} {g : px_G} {d F : Nat} {a0 : Nat} {ph : px_H} {r : Unit} {ph' : px_H} (h : f_M_reach_45 F a0 ph = some (r, ph')) : PW l g (d + 9) m_M_reach 45 [.ref a0, px_u, px_u] [] ph (px_qV r ph') := by
  unfold f_M_reach_45 at h
  refine px_ld rfl rfl rfl rfl rfl ?_
  obtain ⟨fs, h0, h⟩ := xs_some h
  have e1 := xo_some h0
  obtain ⟨t1, ph2, h0, h⟩ := xb_some h
  refine px_cV0 rfl rfl e1 rfl rfl rfl rfl rfl rfl rfl (r_M_start h0 :) (fun _ _ q => nomatch q.2) (fun r ph' q => ?_)
  obtain ⟨rfl, q⟩ := q
  cases q
  refine px_st (lv' := [_, _, _]) rfl rfl rfl rfl rfl rfl rfl ?_
  refine px_ld rfl rfl rfl rfl rfl ?_
  refine px_ld rfl rfl rfl rfl rfl ?_
  obtain ⟨fs, h0, h⟩ := xs_some h
  have e1 := xo_some h0
  obtain ⟨u0, ph3, h0, h⟩ := xb_some h
  refine px_cV1 rfl rfl e1 rfl rfl rfl rfl rfl rfl rfl (r_M_reachName h0 :) (fun _ _ q => nomatch q.2) (fun r ph' q => ?_)
  obtain ⟨rfl, q⟩ := q
  cases q
  refine px_ld rfl rfl rfl rfl rfl ?_
  refine px_ic (k := 1) rfl rfl rfl ?_
  obtain ⟨ph4, h0, h⟩ := xs_some h
  obtain ⟨fs, e1, e2, e3, e4⟩ := xpZ_some h0
  subst e3
  refine px_put rfl e1 e2 e4 rfl ?_
  refine px_forget (n := 1) (lv' := [_, _, _]) rfl ?_
  exact (r_M_reach_60 _ h :)
def f_M_reach_24 (F : Nat) : Nat → Nat → Int32 → px_H → Option (Unit × px_H)
  | 0, _, _, _ => none
  | n + 1, a0, a1, ph =>
    (xgI ph 12 20 a0).bind fun t1 =>
    if t1 ≤ a1 then
      f_M_reach_45 F a0 ph
    else
      (xgR ph 12 67 a0).bind fun t2 =>
      (xsI ph 3 t2 a1 ((nI 0) &&& 1)).bind fun ph3 =>
      f_M_reach_24 F n a0 (a1 + nI 1) ph3
theorem r_M_reach_24 {l : Launch} {g : px_G} {d F : Nat} : ∀ (n : Nat) {a0 : Nat} {a1 : Int32} {ph : px_H} {r : Unit} {ph' : px_H}, f_M_reach_24 F n a0 a1 ph = some (r, ph') → PW l g (d + 9) m_M_reach 24 [.ref a0, .int a1, px_u] [] ph (px_qV r ph') := by
  intro n
  induction n with
  | zero => intro _ _ _ _ _ h; cases h
  | succ n ih =>
    intro a0 a1 ph r ph' h
    unfold f_M_reach_24 at h
    refine px_ld rfl rfl rfl rfl rfl ?_
    refine px_ld rfl rfl rfl rfl rfl ?_
    obtain ⟨t1, h0, h⟩ := xs_some h
    obtain ⟨fs, e1, e2⟩ := xgI_some h0
    refine px_get rfl e1 e2 rfl ?_
    refine px_icge rfl rfl rfl (fun hc => ?_) (fun hc => ?_)
    · replace h := (if_pos hc).symm.trans h
      refine px_forget (n := 1) (lv' := [_, _, _]) rfl ?_
      exact (r_M_reach_45 h :)
    · replace h := (if_neg hc).symm.trans h
      refine px_ld rfl rfl rfl rfl rfl ?_
      obtain ⟨t2, h0, h⟩ := xs_some h
      obtain ⟨fs, e1, e2⟩ := xgR_some h0
      refine px_get rfl e1 e2 rfl ?_
      refine px_ld rfl rfl rfl rfl rfl ?_
      refine px_ic (k := 0) rfl rfl rfl ?_
      obtain ⟨ph3, h0, h⟩ := xs_some h
      obtain ⟨N, f, e1, e2, e3⟩ := xsI_some h0
      subst e3
      refine px_zast rfl e1 rfl e2 rfl ?_
      refine px_iinc (lv' := [_, _, _]) rfl rfl rfl rfl rfl rfl ?_
      refine px_goto rfl rfl rfl ?_
      exact (ih h :)
def f_M_reach_22 (F : Nat) (a0 : Nat) (ph : px_H) : Option (Unit × px_H) :=
  f_M_reach_24 F F a0 (nI 0) ph
theorem r_M_reach_22 {l : Launch} {g : px_G} {d F : Nat} {a0 : Nat} {ph : px_H} {r : Unit} {ph' : px_H} (h : f_M_reach_22 F a0 ph = some (r, ph')) : PW l g (d + 9) m_M_reach 22 [.ref a0, px_u, px_u] [] ph (px_qV r ph') := by
  unfold f_M_reach_22 at h
  refine px_ic (k := 0) rfl rfl rfl ?_
  refine px_st (lv' := [_, _, _]) rfl rfl rfl rfl rfl rfl rfl ?_
  exact (r_M_reach_24 _ h :)
def f_M_reach_2 (F : Nat) : Nat → Nat → Int32 → px_H → Option (Unit × px_H)
  | 0, _, _, _ => none
  | n + 1, a0, a1, ph =>
    if (nI 1536) ≤ a1 then
      f_M_reach_22 F a0 ph
    else
      (xgR ph 12 66 a0).bind fun t1 =>
      (xsI ph 3 t1 a1 ((nI 0) &&& 1)).bind fun ph2 =>
      f_M_reach_2 F n a0 (a1 + nI 1) ph2
theorem r_M_reach_2 {l : Launch} {g : px_G} {d F : Nat} : ∀ (n : Nat) {a0 : Nat} {a1 : Int32} {ph : px_H} {r : Unit} {ph' : px_H}, f_M_reach_2 F n a0 a1 ph = some (r, ph') → PW l g (d + 9) m_M_reach 2 [.ref a0, .int a1, px_u] [] ph (px_qV r ph') := by
  intro n
  induction n with
  | zero => intro _ _ _ _ _ h; cases h
  | succ n ih =>
    intro a0 a1 ph r ph' h
    unfold f_M_reach_2 at h
    refine px_ld rfl rfl rfl rfl rfl ?_
    refine px_ic (k := 1536) rfl rfl rfl ?_
    refine px_icge rfl rfl rfl (fun hc => ?_) (fun hc => ?_)
    · replace h := (if_pos hc).symm.trans h
      refine px_forget (n := 1) (lv' := [_, _, _]) rfl ?_
      exact (r_M_reach_22 h :)
    · replace h := (if_neg hc).symm.trans h
      refine px_ld rfl rfl rfl rfl rfl ?_
      obtain ⟨t1, h0, h⟩ := xs_some h
      obtain ⟨fs, e1, e2⟩ := xgR_some h0
      refine px_get rfl e1 e2 rfl ?_
      refine px_ld rfl rfl rfl rfl rfl ?_
      refine px_ic (k := 0) rfl rfl rfl ?_
      obtain ⟨ph2, h0, h⟩ := xs_some h
      obtain ⟨N, f, e1, e2, e3⟩ := xsI_some h0
      subst e3
      refine px_zast rfl e1 rfl e2 rfl ?_
      refine px_iinc (lv' := [_, _, _]) rfl rfl rfl rfl rfl rfl ?_
      refine px_goto rfl rfl rfl ?_
      exact (ih h :)
def f_M_reach (F : Nat) (a0 : Nat) (ph : px_H) : Option (Unit × px_H) :=
  f_M_reach_2 F F a0 (nI 0) ph
theorem r_M_reach {l : Launch} {g : px_G} {d F : Nat} {a0 : Nat} {ph : px_H} {r : Unit} {ph' : px_H} (h : f_M_reach F a0 ph = some (r, ph')) : PW l g (d + 9) m_M_reach 0 [.ref a0, px_u, px_u] [] ph (px_qV r ph') := by
  unfold f_M_reach at h
  refine px_ic (k := 0) rfl rfl rfl ?_
  refine px_st (lv' := [_, _, _]) rfl rfl rfl rfl rfl rfl rfl ?_
  exact (r_M_reach_2 _ h :)
def f_M_stays_53 (F : Nat) (s0 : Int32) (ph : px_H) : Option (Int32 × px_H) :=
  xz s0 ph
theorem r_M_stays_53 {l : Launch} {g : px_G} {d F : Nat} {s0 : Int32} {ph : px_H} {r : Int32} {ph' : px_H} (h : f_M_stays_53 F s0 ph = some (r, ph')) : PW l g (d + 4) m_M_stays 53 [px_u, px_u, px_u] [.int s0] ph (px_qI r ph') := by
  unfold f_M_stays_53 at h
  obtain ⟨e0, e1, e2⟩ := xz_some h
  subst e1 e2
  exact px_iret rfl (Or.inr ⟨rfl, e0⟩) rfl ⟨rfl, rfl⟩
def f_M_stays_52 (F : Nat) (ph : px_H) : Option (Int32 × px_H) :=
  f_M_stays_53 F (nI 0) ph
theorem r_M_stays_52 {l : Launch} {g : px_G} {d F : Nat} {ph : px_H} {r : Int32} {ph' : px_H} (h : f_M_stays_52 F ph = some (r, ph')) : PW l g (d + 4) m_M_stays 52 [px_u, px_u, px_u] [] ph (px_qI r ph') := by
  unfold f_M_stays_52 at h
  refine px_ic (k := 0) rfl rfl rfl ?_
  exact (r_M_stays_53 h :)
def f_M_stays_48 (F : Nat) (ph : px_H) : Option (Int32 × px_H) :=
  f_M_stays_53 F (nI 1) ph
theorem r_M_stays_48 {l : Launch} {g : px_G} {d F : Nat} {ph : px_H} {r : Int32} {ph' : px_H} (h : f_M_stays_48 F ph = some (r, ph')) : PW l g (d + 4) m_M_stays 48 [px_u, px_u, px_u] [] ph (px_qI r ph') := by
  unfold f_M_stays_48 at h
  refine px_ic (k := 1) rfl rfl rfl ?_
  refine px_goto rfl rfl rfl ?_
  exact (r_M_stays_53 h :)
def f_M_stays (F : Nat) (a0 : Nat) (a1 : Int32) (a2 : Int32) (ph : px_H) : Option (Int32 × px_H) :=
  (xo ph 12 a0).bind fun _ =>
  xb (f_M_object F a0 a1 ph) fun t1 ph2 =>
  (xo ph2 12 a0).bind fun _ =>
  xb (f_M_isKept F a0 t1 a2 ph2) fun t3 ph4 =>
  if t3 = 0 then
    f_M_stays_52 F ph4
  else
    (xgR ph4 12 65 a0).bind fun t5 =>
    (xaI ph4 3 t5 (((nI 24) * a1) + a2)).bind fun t6 =>
    if t6 = 0 then
      (xgI ph4 12 68 a0).bind fun t7 =>
      if t7 = 0 then
        f_M_stays_48 F ph4
      else
        (xgR ph4 12 66 a0).bind fun t8 =>
        (xaI ph4 3 t8 (((nI 24) * a1) + a2)).bind fun t9 =>
        if t9 = 0 then
          f_M_stays_52 F ph4
        else
          f_M_stays_48 F ph4
    else
      f_M_stays_52 F ph4
theorem r_M_stays {l : Launch} {g : px_G} {d F : Nat} {a0 : Nat} {a1 : Int32} {a2 : Int32} {ph : px_H} {r : Int32} {ph' : px_H} (h : f_M_stays F a0 a1 a2 ph = some (r, ph')) : PW l g (d + 4) m_M_stays 0 [.ref a0, .int a1, .int a2] [] ph (px_qI r ph') := by
  unfold f_M_stays at h
  refine px_ld rfl rfl rfl rfl rfl ?_
  refine px_ld rfl rfl rfl rfl rfl ?_
  refine px_ld rfl rfl rfl rfl rfl ?_
  obtain ⟨fs, h0, h⟩ := xs_some h
  have e1 := xo_some h0
  obtain ⟨t1, ph2, h0, h⟩ := xb_some h
  refine px_cV1 rfl rfl e1 rfl rfl rfl rfl rfl rfl rfl (r_M_object h0 :) (fun _ _ q => nomatch q.2) (fun r ph' q => ?_)
  obtain ⟨rfl, q⟩ := q
  cases q
  refine px_ld rfl rfl rfl rfl rfl ?_
  obtain ⟨fs, h0, h⟩ := xs_some h
  have e1 := xo_some h0
  obtain ⟨t3, ph4, h0, h⟩ := xb_some h
  refine px_cV2 rfl rfl e1 rfl rfl rfl rfl rfl rfl rfl (r_M_isKept h0 :) (fun _ _ q => nomatch q.2) (fun r ph' q => ?_)
  obtain ⟨rfl, q⟩ := q
  cases q
  refine px_ifeq rfl rfl rfl (fun hc => ?_) (fun hc => ?_)
  · replace h := (if_pos hc).symm.trans h
    refine px_forget (n := 0) (lv' := [_, _, _]) rfl ?_
    refine px_forget (n := 1) (lv' := [_, _, _]) rfl ?_
    refine px_forget (n := 2) (lv' := [_, _, _]) rfl ?_
    exact (r_M_stays_52 h :)
  · replace h := (if_neg hc).symm.trans h
    refine px_ld rfl rfl rfl rfl rfl ?_
    obtain ⟨t5, h0, h⟩ := xs_some h
    obtain ⟨fs, e1, e2⟩ := xgR_some h0
    refine px_get rfl e1 e2 rfl ?_
    refine px_ic (k := 24) rfl rfl rfl ?_
    refine px_ld rfl rfl rfl rfl rfl ?_
    refine px_alu rfl rfl rfl ?_
    refine px_ld rfl rfl rfl rfl rfl ?_
    refine px_alu rfl rfl rfl ?_
    obtain ⟨t6, h0, h⟩ := xs_some h
    obtain ⟨N, f, e1, e2, e3⟩ := xaI_some h0
    subst e3
    refine px_zald rfl e1 rfl e2 rfl ?_
    refine px_ifne rfl rfl rfl (fun hc => ?_) (fun hc => ?_)
    · replace h := (if_neg hc).symm.trans h
      refine px_forget (n := 0) (lv' := [_, _, _]) rfl ?_
      refine px_forget (n := 1) (lv' := [_, _, _]) rfl ?_
      refine px_forget (n := 2) (lv' := [_, _, _]) rfl ?_
      exact (r_M_stays_52 h :)
    · replace h := (if_pos hc).symm.trans h
      refine px_ld rfl rfl rfl rfl rfl ?_
      obtain ⟨t7, h0, h⟩ := xs_some h
      obtain ⟨fs, e1, e2⟩ := xgI_some h0
      refine px_get rfl e1 e2 rfl ?_
      refine px_ifeq rfl rfl rfl (fun hc => ?_) (fun hc => ?_)
      · replace h := (if_pos hc).symm.trans h
        refine px_forget (n := 0) (lv' := [_, _, _]) rfl ?_
        refine px_forget (n := 1) (lv' := [_, _, _]) rfl ?_
        refine px_forget (n := 2) (lv' := [_, _, _]) rfl ?_
        exact (r_M_stays_48 h :)
      · replace h := (if_neg hc).symm.trans h
        refine px_ld rfl rfl rfl rfl rfl ?_
        obtain ⟨t8, h0, h⟩ := xs_some h
        obtain ⟨fs, e1, e2⟩ := xgR_some h0
        refine px_get rfl e1 e2 rfl ?_
        refine px_ic (k := 24) rfl rfl rfl ?_
        refine px_ld rfl rfl rfl rfl rfl ?_
        refine px_alu rfl rfl rfl ?_
        refine px_ld rfl rfl rfl rfl rfl ?_
        refine px_alu rfl rfl rfl ?_
        obtain ⟨t9, h0, h⟩ := xs_some h
        obtain ⟨N, f, e1, e2, e3⟩ := xaI_some h0
        subst e3
        refine px_zald rfl e1 rfl e2 rfl ?_
        refine px_ifeq rfl rfl rfl (fun hc => ?_) (fun hc => ?_)
        · replace h := (if_pos hc).symm.trans h
          refine px_forget (n := 0) (lv' := [_, _, _]) rfl ?_
          refine px_forget (n := 1) (lv' := [_, _, _]) rfl ?_
          refine px_forget (n := 2) (lv' := [_, _, _]) rfl ?_
          exact (r_M_stays_52 h :)
        · replace h := (if_neg hc).symm.trans h
          refine px_forget (n := 0) (lv' := [_, _, _]) rfl ?_
          refine px_forget (n := 1) (lv' := [_, _, _]) rfl ?_
          refine px_forget (n := 2) (lv' := [_, _, _]) rfl ?_
          exact (r_M_stays_48 h :)
def f_M_group_89 (F : Nat) (s0 : Int32) (ph : px_H) : Option (Int32 × px_H) :=
  some (s0, ph)
theorem r_M_group_89 {l : Launch} {g : px_G} {d F : Nat} {s0 : Int32} {ph : px_H} {r : Int32} {ph' : px_H} (h : f_M_group_89 F s0 ph = some (r, ph')) : PW l g (d + 3) m_M_group 89 [px_u, px_u, px_u, px_u] [.int s0] ph (px_qI r ph') := by
  unfold f_M_group_89 at h
  cases h
  exact px_iret rfl (Or.inl rfl) rfl ⟨rfl, rfl⟩
def f_M_group_43 (F : Nat) (s0 : Int32) (ph : px_H) : Option (Int32 × px_H) :=
  some (s0, ph)
theorem r_M_group_43 {l : Launch} {g : px_G} {d F : Nat} {s0 : Int32} {ph : px_H} {r : Int32} {ph' : px_H} (h : f_M_group_43 F s0 ph = some (r, ph')) : PW l g (d + 3) m_M_group 43 [px_u, px_u, px_u, px_u] [.int s0] ph (px_qI r ph') := by
  unfold f_M_group_43 at h
  cases h
  exact px_iret rfl (Or.inl rfl) rfl ⟨rfl, rfl⟩
def f_M_group_18 (F : Nat) (a0 : Nat) (a1 : Int32) (a2 : Int32) (s0 : Int32) (ph : px_H) : Option (Int32 × px_H) :=
  (xo ph 12 a0).bind fun _ =>
  xb (f_M_flagsOf F a0 a1 a2 ph) fun t1 ph2 =>
  if (t1 &&& ((1024 : Int64))) = (lN 0) then
    if s0 = 0 then
      (xo ph2 12 a0).bind fun _ =>
      xb (f_M_flagsOf F a0 a1 a2 ph2) fun t3 ph4 =>
      if (t3 &&& ((4 : Int64))) = (lN 0) then
        (xo ph4 12 a0).bind fun _ =>
        xb (f_M_flagsOf F a0 a1 a2 ph4) fun t5 ph6 =>
        if (t5 &&& (lN 1)) = (lN 0) then
          f_M_group_89 F (nI 1) ph6
        else
          f_M_group_89 F (nI 2) ph6
      else
        f_M_group_89 F (nI 0) ph4
    else
      f_M_group_89 F (nI 3) ph2
  else
    if s0 = 0 then
      f_M_group_43 F (nI 4) ph2
    else
      f_M_group_43 F (nI 5) ph2
theorem r_M_group_18 {l : Launch} {g : px_G} {d F : Nat} {a0 : Nat} {a1 : Int32} {a2 : Int32} {s0 : Int32} {ph : px_H} {r : Int32} {ph' : px_H} (h : f_M_group_18 F a0 a1 a2 s0 ph = some (r, ph')) : PW l g (d + 3) m_M_group 18 [.ref a0, .int a1, .int a2, px_u] [.int s0] ph (px_qI r ph') := by
  unfold f_M_group_18 at h
  refine px_st (lv' := [_, _, _, _]) rfl rfl rfl rfl rfl rfl rfl ?_
  refine px_ld rfl rfl rfl rfl rfl ?_
  refine px_ld rfl rfl rfl rfl rfl ?_
  refine px_ld rfl rfl rfl rfl rfl ?_
  obtain ⟨fs, h0, h⟩ := xs_some h
  have e1 := xo_some h0
  obtain ⟨t1, ph2, h0, h⟩ := xb_some h
  refine px_cV2 rfl rfl e1 rfl rfl rfl rfl rfl rfl rfl (r_M_flagsOf h0 :) (fun _ _ q => nomatch q.2) (fun r ph' q => ?_)
  obtain ⟨rfl, q⟩ := q
  cases q
  refine px_ldc2 rfl rfl rfl ?_
  refine px_alu rfl rfl rfl ?_
  refine px_alu rfl rfl rfl ?_
  refine px_alu rfl rfl rfl ?_
  refine px_ifeq rfl rfl rfl (fun hc => ?_) (fun hc => ?_)
  · replace h := (if_pos ((lg_cmp_eq _ _).mp hc)).symm.trans h
    refine px_ld rfl rfl rfl rfl rfl ?_
    refine px_ifeq rfl rfl rfl (fun hc => ?_) (fun hc => ?_)
    · replace h := (if_pos hc).symm.trans h
      refine px_ld rfl rfl rfl rfl rfl ?_
      refine px_ld rfl rfl rfl rfl rfl ?_
      refine px_ld rfl rfl rfl rfl rfl ?_
      obtain ⟨fs, h0, h⟩ := xs_some h
      have e1 := xo_some h0
      obtain ⟨t3, ph4, h0, h⟩ := xb_some h
      refine px_cV2 rfl rfl e1 rfl rfl rfl rfl rfl rfl rfl (r_M_flagsOf h0 :) (fun _ _ q => nomatch q.2) (fun r ph' q => ?_)
      obtain ⟨rfl, q⟩ := q
      cases q
      refine px_ldc2 rfl rfl rfl ?_
      refine px_alu rfl rfl rfl ?_
      refine px_alu rfl rfl rfl ?_
      refine px_alu rfl rfl rfl ?_
      refine px_ifeq rfl rfl rfl (fun hc => ?_) (fun hc => ?_)
      · replace h := (if_pos ((lg_cmp_eq _ _).mp hc)).symm.trans h
        refine px_ld rfl rfl rfl rfl rfl ?_
        refine px_ld rfl rfl rfl rfl rfl ?_
        refine px_ld rfl rfl rfl rfl rfl ?_
        obtain ⟨fs, h0, h⟩ := xs_some h
        have e1 := xo_some h0
        obtain ⟨t5, ph6, h0, h⟩ := xb_some h
        refine px_cV2 rfl rfl e1 rfl rfl rfl rfl rfl rfl rfl (r_M_flagsOf h0 :) (fun _ _ q => nomatch q.2) (fun r ph' q => ?_)
        obtain ⟨rfl, q⟩ := q
        cases q
        refine px_alu rfl rfl rfl ?_
        refine px_alu rfl rfl rfl ?_
        refine px_alu rfl rfl rfl ?_
        refine px_alu rfl rfl rfl ?_
        refine px_ifeq rfl rfl rfl (fun hc => ?_) (fun hc => ?_)
        · replace h := (if_pos ((lg_cmp_eq _ _).mp hc)).symm.trans h
          refine px_ic (k := 1) rfl rfl rfl ?_
          refine px_forget (n := 0) (lv' := [_, _, _, _]) rfl ?_
          refine px_forget (n := 1) (lv' := [_, _, _, _]) rfl ?_
          refine px_forget (n := 2) (lv' := [_, _, _, _]) rfl ?_
          refine px_forget (n := 3) (lv' := [_, _, _, _]) rfl ?_
          exact (r_M_group_89 h :)
        · replace h := (if_neg (fun q => hc ((lg_cmp_eq _ _).mpr q))).symm.trans h
          refine px_ic (k := 2) rfl rfl rfl ?_
          refine px_goto rfl rfl rfl ?_
          refine px_forget (n := 0) (lv' := [_, _, _, _]) rfl ?_
          refine px_forget (n := 1) (lv' := [_, _, _, _]) rfl ?_
          refine px_forget (n := 2) (lv' := [_, _, _, _]) rfl ?_
          refine px_forget (n := 3) (lv' := [_, _, _, _]) rfl ?_
          exact (r_M_group_89 h :)
      · replace h := (if_neg (fun q => hc ((lg_cmp_eq _ _).mpr q))).symm.trans h
        refine px_ic (k := 0) rfl rfl rfl ?_
        refine px_goto rfl rfl rfl ?_
        refine px_forget (n := 0) (lv' := [_, _, _, _]) rfl ?_
        refine px_forget (n := 1) (lv' := [_, _, _, _]) rfl ?_
        refine px_forget (n := 2) (lv' := [_, _, _, _]) rfl ?_
        refine px_forget (n := 3) (lv' := [_, _, _, _]) rfl ?_
        exact (r_M_group_89 h :)
    · replace h := (if_neg hc).symm.trans h
      refine px_ic (k := 3) rfl rfl rfl ?_
      refine px_goto rfl rfl rfl ?_
      refine px_forget (n := 0) (lv' := [_, _, _, _]) rfl ?_
      refine px_forget (n := 1) (lv' := [_, _, _, _]) rfl ?_
      refine px_forget (n := 2) (lv' := [_, _, _, _]) rfl ?_
      refine px_forget (n := 3) (lv' := [_, _, _, _]) rfl ?_
      exact (r_M_group_89 h :)
  · replace h := (if_neg (fun q => hc ((lg_cmp_eq _ _).mpr q))).symm.trans h
    refine px_ld rfl rfl rfl rfl rfl ?_
    refine px_ifeq rfl rfl rfl (fun hc => ?_) (fun hc => ?_)
    · replace h := (if_pos hc).symm.trans h
      refine px_ic (k := 4) rfl rfl rfl ?_
      refine px_forget (n := 0) (lv' := [_, _, _, _]) rfl ?_
      refine px_forget (n := 1) (lv' := [_, _, _, _]) rfl ?_
      refine px_forget (n := 2) (lv' := [_, _, _, _]) rfl ?_
      refine px_forget (n := 3) (lv' := [_, _, _, _]) rfl ?_
      exact (r_M_group_43 h :)
    · replace h := (if_neg hc).symm.trans h
      refine px_ic (k := 5) rfl rfl rfl ?_
      refine px_goto rfl rfl rfl ?_
      refine px_forget (n := 0) (lv' := [_, _, _, _]) rfl ?_
      refine px_forget (n := 1) (lv' := [_, _, _, _]) rfl ?_
      refine px_forget (n := 2) (lv' := [_, _, _, _]) rfl ?_
      refine px_forget (n := 3) (lv' := [_, _, _, _]) rfl ?_
      exact (r_M_group_43 h :)
def f_M_group (F : Nat) (a0 : Nat) (a1 : Int32) (a2 : Int32) (ph : px_H) : Option (Int32 × px_H) :=
  (xo ph 12 a0).bind fun _ =>
  xb (f_M_type F a0 a1 a2 ph) fun t1 ph2 =>
  if t1 = ((8 : Int64)) then
    f_M_group_18 F a0 a1 a2 (nI 1) ph2
  else
    f_M_group_18 F a0 a1 a2 (nI 0) ph2
theorem r_M_group {l : Launch} {g : px_G} {d F : Nat} {a0 : Nat} {a1 : Int32} {a2 : Int32} {ph : px_H} {r : Int32} {ph' : px_H} (h : f_M_group F a0 a1 a2 ph = some (r, ph')) : PW l g (d + 3) m_M_group 0 [.ref a0, .int a1, .int a2, px_u] [] ph (px_qI r ph') := by
  unfold f_M_group at h
  refine px_ld rfl rfl rfl rfl rfl ?_
  refine px_ld rfl rfl rfl rfl rfl ?_
  refine px_ld rfl rfl rfl rfl rfl ?_
  obtain ⟨fs, h0, h⟩ := xs_some h
  have e1 := xo_some h0
  obtain ⟨t1, ph2, h0, h⟩ := xb_some h
  refine px_cV2 rfl rfl e1 rfl rfl rfl rfl rfl rfl rfl (r_M_type h0 :) (fun _ _ q => nomatch q.2) (fun r ph' q => ?_)
  obtain ⟨rfl, q⟩ := q
  cases q
  refine px_ldc2 rfl rfl rfl ?_
  refine px_alu rfl rfl rfl ?_
  refine px_ifne rfl rfl rfl (fun hc => ?_) (fun hc => ?_)
  · replace h := (if_neg (fun q => hc ((lg_cmp_eq _ _).mpr q))).symm.trans h
    refine px_ic (k := 0) rfl rfl rfl ?_
    exact (r_M_group_18 h :)
  · replace h := (if_pos ((lg_cmp_eq _ _).mp hc)).symm.trans h
    refine px_ic (k := 1) rfl rfl rfl ?_
    refine px_goto rfl rfl rfl ?_
    exact (r_M_group_18 h :)
def f_M_lay_227 (F : Nat) (ph : px_H) : Option (Unit × px_H) :=
  some ((), ph)
theorem r_M_lay_227 {l : Launch} {g : px_G} {d F : Nat} {ph : px_H} {r : Unit} {ph' : px_H} (h : f_M_lay_227 F ph = some (r, ph')) : PW l g (d + 5) m_M_lay 227 [px_u, px_u, px_u, px_u, px_u, px_u] [] ph (px_qV r ph') := by
  unfold f_M_lay_227 at h
  cases h
  exact px_vret rfl rfl rfl ⟨rfl, rfl⟩
def f_M_lay_221 (F : Nat) (k7 : Nat → Int32 → px_H → Option (Unit × px_H)) (a0 : Nat) (a1 : Int32) (ph : px_H) : Option (Unit × px_H) :=
  k7 a0 (a1 + nI 1) ph
theorem r_M_lay_221 {l : Launch} {g : px_G} {d F : Nat} {k7 : Nat → Int32 → px_H → Option (Unit × px_H)} (hk7 : ∀ {a0 : Nat} {a1 : Int32} {ph : px_H} {r : Unit} {ph' : px_H}, k7 a0 a1 ph = some (r, ph') → PW l g (d + 5) m_M_lay 7 [.ref a0, .int a1, px_u, px_u, px_u, px_u] [] ph (px_qV r ph')) {a0 : Nat} {a1 : Int32} {ph : px_H} {r : Unit} {ph' : px_H} (h : f_M_lay_221 F k7 a0 a1 ph = some (r, ph')) : PW l g (d + 5) m_M_lay 221 [.ref a0, .int a1, px_u, px_u, px_u, px_u] [] ph (px_qV r ph') := by
  unfold f_M_lay_221 at h
  refine px_iinc (lv' := [_, _, _, _, _, _]) rfl rfl rfl rfl rfl rfl ?_
  refine px_goto rfl (by decide) rfl ?_
  exact (hk7 h :)
def f_M_lay_215 (F : Nat) (k7 : Nat → Int32 → px_H → Option (Unit × px_H)) (k39 : Nat → Int32 → Int32 → Int32 → px_H → Option (Unit × px_H)) (a0 : Nat) (a1 : Int32) (a2 : Int32) (a3 : Int32) (ph : px_H) : Option (Unit × px_H) :=
  k39 a0 a1 a2 (a3 + nI 1) ph
theorem r_M_lay_215 {l : Launch} {g : px_G} {d F : Nat} {k7 : Nat → Int32 → px_H → Option (Unit × px_H)} (hk7 : ∀ {a0 : Nat} {a1 : Int32} {ph : px_H} {r : Unit} {ph' : px_H}, k7 a0 a1 ph = some (r, ph') → PW l g (d + 5) m_M_lay 7 [.ref a0, .int a1, px_u, px_u, px_u, px_u] [] ph (px_qV r ph')) {k39 : Nat → Int32 → Int32 → Int32 → px_H → Option (Unit × px_H)} (hk39 : ∀ {a0 : Nat} {a1 : Int32} {a2 : Int32} {a3 : Int32} {ph : px_H} {r : Unit} {ph' : px_H}, k39 a0 a1 a2 a3 ph = some (r, ph') → PW l g (d + 5) m_M_lay 39 [.ref a0, .int a1, .int a2, .int a3, px_u, px_u] [] ph (px_qV r ph')) {a0 : Nat} {a1 : Int32} {a2 : Int32} {a3 : Int32} {ph : px_H} {r : Unit} {ph' : px_H} (h : f_M_lay_215 F k7 k39 a0 a1 a2 a3 ph = some (r, ph')) : PW l g (d + 5) m_M_lay 215 [.ref a0, .int a1, .int a2, .int a3, px_u, px_u] [] ph (px_qV r ph') := by
  unfold f_M_lay_215 at h
  refine px_iinc (lv' := [_, _, _, _, _, _]) rfl rfl rfl rfl rfl rfl ?_
  refine px_goto rfl (by decide) rfl ?_
  exact (hk39 h :)
def f_M_lay_209 (F : Nat) (k7 : Nat → Int32 → px_H → Option (Unit × px_H)) (k39 : Nat → Int32 → Int32 → Int32 → px_H → Option (Unit × px_H)) (k57 : Nat → Int32 → Int32 → Int32 → Int32 → Int32 → px_H → Option (Unit × px_H)) (a0 : Nat) (a1 : Int32) (a2 : Int32) (a3 : Int32) (a4 : Int32) (a5 : Int32) (ph : px_H) : Option (Unit × px_H) :=
  k57 a0 a1 a2 a3 a4 (a5 + nI 1) ph
theorem r_M_lay_209 {l : Launch} {g : px_G} {d F : Nat} {k7 : Nat → Int32 → px_H → Option (Unit × px_H)} (hk7 : ∀ {a0 : Nat} {a1 : Int32} {ph : px_H} {r : Unit} {ph' : px_H}, k7 a0 a1 ph = some (r, ph') → PW l g (d + 5) m_M_lay 7 [.ref a0, .int a1, px_u, px_u, px_u, px_u] [] ph (px_qV r ph')) {k39 : Nat → Int32 → Int32 → Int32 → px_H → Option (Unit × px_H)} (hk39 : ∀ {a0 : Nat} {a1 : Int32} {a2 : Int32} {a3 : Int32} {ph : px_H} {r : Unit} {ph' : px_H}, k39 a0 a1 a2 a3 ph = some (r, ph') → PW l g (d + 5) m_M_lay 39 [.ref a0, .int a1, .int a2, .int a3, px_u, px_u] [] ph (px_qV r ph')) {k57 : Nat → Int32 → Int32 → Int32 → Int32 → Int32 → px_H → Option (Unit × px_H)} (hk57 : ∀ {a0 : Nat} {a1 : Int32} {a2 : Int32} {a3 : Int32} {a4 : Int32} {a5 : Int32} {ph : px_H} {r : Unit} {ph' : px_H}, k57 a0 a1 a2 a3 a4 a5 ph = some (r, ph') → PW l g (d + 5) m_M_lay 57 [.ref a0, .int a1, .int a2, .int a3, .int a4, .int a5] [] ph (px_qV r ph')) {a0 : Nat} {a1 : Int32} {a2 : Int32} {a3 : Int32} {a4 : Int32} {a5 : Int32} {ph : px_H} {r : Unit} {ph' : px_H} (h : f_M_lay_209 F k7 k39 k57 a0 a1 a2 a3 a4 a5 ph = some (r, ph')) : PW l g (d + 5) m_M_lay 209 [.ref a0, .int a1, .int a2, .int a3, .int a4, .int a5] [] ph (px_qV r ph') := by
  unfold f_M_lay_209 at h
  refine px_iinc (lv' := [_, _, _, _, _, _]) rfl rfl rfl rfl rfl rfl ?_
  refine px_goto rfl (by decide) rfl ?_
  exact (hk57 h :)
def f_M_lay_159 (F : Nat) (k7 : Nat → Int32 → px_H → Option (Unit × px_H)) (k39 : Nat → Int32 → Int32 → Int32 → px_H → Option (Unit × px_H)) (k57 : Nat → Int32 → Int32 → Int32 → Int32 → Int32 → px_H → Option (Unit × px_H)) (a0 : Nat) (a1 : Int32) (a2 : Int32) (a3 : Int32) (a4 : Int32) (a5 : Int32) (s0 : Nat) (s1 : Int32) (s2 : Int32) (ph : px_H) : Option (Unit × px_H) :=
  (xsI ph 1 s0 s1 s2).bind fun ph1 =>
  (xgR ph1 12 54 a0).bind fun t2 =>
  (xgI ph1 12 50 a0).bind fun t3 =>
  (xsI ph1 1 t2 t3 a5).bind fun ph4 =>
  (xgR ph4 12 55 a0).bind fun t5 =>
  (xgI ph4 12 50 a0).bind fun t6 =>
  (xsI ph4 1 t5 t6 a2).bind fun ph7 =>
  (xgR ph7 12 56 a0).bind fun t8 =>
  (xgI ph7 12 50 a0).bind fun t9 =>
  (xo ph7 12 a0).bind fun _ =>
  xb (f_M_size F a0 a4 a5 ph7) fun t10 ph11 =>
  (xsI ph11 1 t8 t9 t10.toInt32).bind fun ph12 =>
  (xgI ph12 12 50 a0).bind fun t13 =>
  (xpI ph12 12 50 a0 (t13 + (nI 1))).bind fun ph14 =>
  f_M_lay_209 F k7 k39 k57 a0 a1 a2 a3 a4 a5 ph14
theorem r_M_lay_159 {l : Launch} {g : px_G} {d F : Nat} {k7 : Nat → Int32 → px_H → Option (Unit × px_H)} (hk7 : ∀ {a0 : Nat} {a1 : Int32} {ph : px_H} {r : Unit} {ph' : px_H}, k7 a0 a1 ph = some (r, ph') → PW l g (d + 5) m_M_lay 7 [.ref a0, .int a1, px_u, px_u, px_u, px_u] [] ph (px_qV r ph')) {k39 : Nat → Int32 → Int32 → Int32 → px_H → Option (Unit × px_H)} (hk39 : ∀ {a0 : Nat} {a1 : Int32} {a2 : Int32} {a3 : Int32} {ph : px_H} {r : Unit} {ph' : px_H}, k39 a0 a1 a2 a3 ph = some (r, ph') → PW l g (d + 5) m_M_lay 39 [.ref a0, .int a1, .int a2, .int a3, px_u, px_u] [] ph (px_qV r ph')) {k57 : Nat → Int32 → Int32 → Int32 → Int32 → Int32 → px_H → Option (Unit × px_H)} (hk57 : ∀ {a0 : Nat} {a1 : Int32} {a2 : Int32} {a3 : Int32} {a4 : Int32} {a5 : Int32} {ph : px_H} {r : Unit} {ph' : px_H}, k57 a0 a1 a2 a3 a4 a5 ph = some (r, ph') → PW l g (d + 5) m_M_lay 57 [.ref a0, .int a1, .int a2, .int a3, .int a4, .int a5] [] ph (px_qV r ph')) {a0 : Nat} {a1 : Int32} {a2 : Int32} {a3 : Int32} {a4 : Int32} {a5 : Int32} {s0 : Nat} {s1 : Int32} {s2 : Int32} {ph : px_H} {r : Unit} {ph' : px_H} (h : f_M_lay_159 F k7 k39 k57 a0 a1 a2 a3 a4 a5 s0 s1 s2 ph = some (r, ph')) : PW l g (d + 5) m_M_lay 159 [.ref a0, .int a1, .int a2, .int a3, .int a4, .int a5] [.int s2, .int s1, .ref s0] ph (px_qV r ph') := by
  unfold f_M_lay_159 at h
  obtain ⟨ph1, h0, h⟩ := xs_some h
  obtain ⟨N, f, e1, e2, e3⟩ := xsI_some h0
  subst e3
  refine px_iast rfl e1 rfl e2 rfl ?_
  refine px_ld rfl rfl rfl rfl rfl ?_
  obtain ⟨t2, h0, h⟩ := xs_some h
  obtain ⟨fs, e1, e2⟩ := xgR_some h0
  refine px_get rfl e1 e2 rfl ?_
  refine px_ld rfl rfl rfl rfl rfl ?_
  obtain ⟨t3, h0, h⟩ := xs_some h
  obtain ⟨fs, e1, e2⟩ := xgI_some h0
  refine px_get rfl e1 e2 rfl ?_
  refine px_ld rfl rfl rfl rfl rfl ?_
  obtain ⟨ph4, h0, h⟩ := xs_some h
  obtain ⟨N, f, e1, e2, e3⟩ := xsI_some h0
  subst e3
  refine px_iast rfl e1 rfl e2 rfl ?_
  refine px_ld rfl rfl rfl rfl rfl ?_
  obtain ⟨t5, h0, h⟩ := xs_some h
  obtain ⟨fs, e1, e2⟩ := xgR_some h0
  refine px_get rfl e1 e2 rfl ?_
  refine px_ld rfl rfl rfl rfl rfl ?_
  obtain ⟨t6, h0, h⟩ := xs_some h
  obtain ⟨fs, e1, e2⟩ := xgI_some h0
  refine px_get rfl e1 e2 rfl ?_
  refine px_ld rfl rfl rfl rfl rfl ?_
  obtain ⟨ph7, h0, h⟩ := xs_some h
  obtain ⟨N, f, e1, e2, e3⟩ := xsI_some h0
  subst e3
  refine px_iast rfl e1 rfl e2 rfl ?_
  refine px_ld rfl rfl rfl rfl rfl ?_
  obtain ⟨t8, h0, h⟩ := xs_some h
  obtain ⟨fs, e1, e2⟩ := xgR_some h0
  refine px_get rfl e1 e2 rfl ?_
  refine px_ld rfl rfl rfl rfl rfl ?_
  obtain ⟨t9, h0, h⟩ := xs_some h
  obtain ⟨fs, e1, e2⟩ := xgI_some h0
  refine px_get rfl e1 e2 rfl ?_
  refine px_ld rfl rfl rfl rfl rfl ?_
  refine px_ld rfl rfl rfl rfl rfl ?_
  refine px_ld rfl rfl rfl rfl rfl ?_
  obtain ⟨fs, h0, h⟩ := xs_some h
  have e1 := xo_some h0
  obtain ⟨t10, ph11, h0, h⟩ := xb_some h
  refine px_cV2 rfl rfl e1 rfl rfl rfl rfl rfl rfl rfl (r_M_size h0 :) (fun _ _ q => nomatch q.2) (fun r ph' q => ?_)
  obtain ⟨rfl, q⟩ := q
  cases q
  refine px_alu rfl rfl rfl ?_
  obtain ⟨ph12, h0, h⟩ := xs_some h
  obtain ⟨N, f, e1, e2, e3⟩ := xsI_some h0
  subst e3
  refine px_iast rfl e1 rfl e2 rfl ?_
  refine px_ld rfl rfl rfl rfl rfl ?_
  refine px_alu rfl rfl rfl ?_
  obtain ⟨t13, h0, h⟩ := xs_some h
  obtain ⟨fs, e1, e2⟩ := xgI_some h0
  refine px_get rfl e1 e2 rfl ?_
  refine px_ic (k := 1) rfl rfl rfl ?_
  refine px_alu rfl rfl rfl ?_
  obtain ⟨ph14, h0, h⟩ := xs_some h
  obtain ⟨fs, e1, e2, e3⟩ := xpI_some h0
  subst e3
  refine px_put rfl e1 e2 trivial rfl ?_
  exact (r_M_lay_209 @hk7 @hk39 @hk57 h :)
def f_M_lay_57 (F : Nat) (k7 : Nat → Int32 → px_H → Option (Unit × px_H)) (k39 : Nat → Int32 → Int32 → Int32 → px_H → Option (Unit × px_H)) : Nat → Nat → Int32 → Int32 → Int32 → Int32 → Int32 → px_H → Option (Unit × px_H)
  | 0, _, _, _, _, _, _, _ => none
  | n + 1, a0, a1, a2, a3, a4, a5, ph =>
    (xo ph 12 a0).bind fun _ =>
    xb (f_M_sections F a0 a4 ph) fun t1 ph2 =>
    if t1 ≤ a5 then
      f_M_lay_215 F k7 k39 a0 a1 a2 a3 ph2
    else
      (xo ph2 12 a0).bind fun _ =>
      xb (f_M_stays F a0 a3 a5 ph2) fun t3 ph4 =>
      if t3 = 0 then
        f_M_lay_209 F k7 k39 (f_M_lay_57 F k7 k39 n) a0 a1 a2 a3 a4 a5 ph4
      else
        (xo ph4 12 a0).bind fun _ =>
        xb (f_M_group F a0 a4 a5 ph4) fun t5 ph6 =>
        if t5 = a2 then
          (xgR ph6 12 51 a0).bind fun t7 =>
          (xgI ph6 12 50 a0).bind fun t8 =>
          (xsI ph6 1 t7 t8 a3).bind fun ph9 =>
          (xgR ph9 12 52 a0).bind fun t10 =>
          (xgI ph9 12 50 a0).bind fun t11 =>
          (xgR ph9 12 17 a0).bind fun t12 =>
          (xaI ph9 1 t12 a3).bind fun t13 =>
          (xsI ph9 1 t10 t11 (t13 / (nI 8))).bind fun ph14 =>
          (xgR ph14 12 53 a0).bind fun t15 =>
          (xgI ph14 12 50 a0).bind fun t16 =>
          (xgR ph14 12 11 a0).bind fun t17 =>
          (xgR ph14 12 52 a0).bind fun t18 =>
          (xgI ph14 12 50 a0).bind fun t19 =>
          (xaI ph14 1 t18 t19).bind fun t20 =>
          (xaI ph14 3 t17 t20).bind fun t21 =>
          if t21 = 0 then
            f_M_lay_159 F k7 k39 (f_M_lay_57 F k7 k39 n) a0 a1 a2 a3 a4 a5 t15 t16 (nI 0) ph14
          else
            (xgR ph14 12 17 a0).bind fun t22 =>
            (xaI ph14 1 t22 a3).bind fun t23 =>
            f_M_lay_159 F k7 k39 (f_M_lay_57 F k7 k39 n) a0 a1 a2 a3 a4 a5 t15 t16 (t23 - t23 / (nI 8) * (nI 8)) ph14
        else
          f_M_lay_209 F k7 k39 (f_M_lay_57 F k7 k39 n) a0 a1 a2 a3 a4 a5 ph6
theorem r_M_lay_57 {l : Launch} {g : px_G} {d F : Nat} {k7 : Nat → Int32 → px_H → Option (Unit × px_H)} (hk7 : ∀ {a0 : Nat} {a1 : Int32} {ph : px_H} {r : Unit} {ph' : px_H}, k7 a0 a1 ph = some (r, ph') → PW l g (d + 5) m_M_lay 7 [.ref a0, .int a1, px_u, px_u, px_u, px_u] [] ph (px_qV r ph')) {k39 : Nat → Int32 → Int32 → Int32 → px_H → Option (Unit × px_H)} (hk39 : ∀ {a0 : Nat} {a1 : Int32} {a2 : Int32} {a3 : Int32} {ph : px_H} {r : Unit} {ph' : px_H}, k39 a0 a1 a2 a3 ph = some (r, ph') → PW l g (d + 5) m_M_lay 39 [.ref a0, .int a1, .int a2, .int a3, px_u, px_u] [] ph (px_qV r ph')) : ∀ (n : Nat) {a0 : Nat} {a1 : Int32} {a2 : Int32} {a3 : Int32} {a4 : Int32} {a5 : Int32} {ph : px_H} {r : Unit} {ph' : px_H}, f_M_lay_57 F k7 k39 n a0 a1 a2 a3 a4 a5 ph = some (r, ph') → PW l g (d + 5) m_M_lay 57 [.ref a0, .int a1, .int a2, .int a3, .int a4, .int a5] [] ph (px_qV r ph') := by
  intro n
  induction n with
  | zero => intro _ _ _ _ _ _ _ _ _ h; cases h
  | succ n ih =>
    intro a0 a1 a2 a3 a4 a5 ph r ph' h
    unfold f_M_lay_57 at h
    refine px_ld rfl rfl rfl rfl rfl ?_
    refine px_ld rfl rfl rfl rfl rfl ?_
    refine px_ld rfl rfl rfl rfl rfl ?_
    obtain ⟨fs, h0, h⟩ := xs_some h
    have e1 := xo_some h0
    obtain ⟨t1, ph2, h0, h⟩ := xb_some h
    refine px_cV1 rfl rfl e1 rfl rfl rfl rfl rfl rfl rfl (r_M_sections h0 :) (fun _ _ q => nomatch q.2) (fun r ph' q => ?_)
    obtain ⟨rfl, q⟩ := q
    cases q
    refine px_icge rfl (by decide) rfl (fun hc => ?_) (fun hc => ?_)
    · replace h := (if_pos hc).symm.trans h
      refine px_forget (n := 4) (lv' := [_, _, _, _, _, _]) rfl ?_
      refine px_forget (n := 5) (lv' := [_, _, _, _, _, _]) rfl ?_
      exact (r_M_lay_215 @hk7 @hk39 h :)
    · replace h := (if_neg hc).symm.trans h
      refine px_ld rfl rfl rfl rfl rfl ?_
      refine px_ld rfl rfl rfl rfl rfl ?_
      refine px_ld rfl rfl rfl rfl rfl ?_
      obtain ⟨fs, h0, h⟩ := xs_some h
      have e1 := xo_some h0
      obtain ⟨t3, ph4, h0, h⟩ := xb_some h
      refine px_cV2 rfl rfl e1 rfl rfl rfl rfl rfl rfl rfl (r_M_stays h0 :) (fun _ _ q => nomatch q.2) (fun r ph' q => ?_)
      obtain ⟨rfl, q⟩ := q
      cases q
      refine px_ifeq rfl (by decide) rfl (fun hc => ?_) (fun hc => ?_)
      · replace h := (if_pos hc).symm.trans h
        exact (r_M_lay_209 @hk7 @hk39 @ih h :)
      · replace h := (if_neg hc).symm.trans h
        refine px_ld rfl rfl rfl rfl rfl ?_
        refine px_ld rfl rfl rfl rfl rfl ?_
        refine px_ld rfl rfl rfl rfl rfl ?_
        obtain ⟨fs, h0, h⟩ := xs_some h
        have e1 := xo_some h0
        obtain ⟨t5, ph6, h0, h⟩ := xb_some h
        refine px_cV2 rfl rfl e1 rfl rfl rfl rfl rfl rfl rfl (r_M_group h0 :) (fun _ _ q => nomatch q.2) (fun r ph' q => ?_)
        obtain ⟨rfl, q⟩ := q
        cases q
        refine px_ld rfl rfl rfl rfl rfl ?_
        refine px_iceq rfl (by decide) rfl (fun hc => ?_) (fun hc => ?_)
        · replace h := (if_pos hc).symm.trans h
          refine px_ld rfl rfl rfl rfl rfl ?_
          obtain ⟨t7, h0, h⟩ := xs_some h
          obtain ⟨fs, e1, e2⟩ := xgR_some h0
          refine px_get rfl e1 e2 rfl ?_
          refine px_ld rfl rfl rfl rfl rfl ?_
          obtain ⟨t8, h0, h⟩ := xs_some h
          obtain ⟨fs, e1, e2⟩ := xgI_some h0
          refine px_get rfl e1 e2 rfl ?_
          refine px_ld rfl rfl rfl rfl rfl ?_
          obtain ⟨ph9, h0, h⟩ := xs_some h
          obtain ⟨N, f, e1, e2, e3⟩ := xsI_some h0
          subst e3
          refine px_iast rfl e1 rfl e2 rfl ?_
          refine px_ld rfl rfl rfl rfl rfl ?_
          obtain ⟨t10, h0, h⟩ := xs_some h
          obtain ⟨fs, e1, e2⟩ := xgR_some h0
          refine px_get rfl e1 e2 rfl ?_
          refine px_ld rfl rfl rfl rfl rfl ?_
          obtain ⟨t11, h0, h⟩ := xs_some h
          obtain ⟨fs, e1, e2⟩ := xgI_some h0
          refine px_get rfl e1 e2 rfl ?_
          refine px_ld rfl rfl rfl rfl rfl ?_
          obtain ⟨t12, h0, h⟩ := xs_some h
          obtain ⟨fs, e1, e2⟩ := xgR_some h0
          refine px_get rfl e1 e2 rfl ?_
          refine px_ld rfl rfl rfl rfl rfl ?_
          obtain ⟨t13, h0, h⟩ := xs_some h
          obtain ⟨N, f, e1, e2, e3⟩ := xaI_some h0
          subst e3
          refine px_iald rfl e1 rfl e2 rfl ?_
          refine px_ic (k := 8) rfl rfl rfl ?_
          refine px_idiv rfl (by decide) rfl ?_
          obtain ⟨ph14, h0, h⟩ := xs_some h
          obtain ⟨N, f, e1, e2, e3⟩ := xsI_some h0
          subst e3
          refine px_iast rfl e1 rfl e2 rfl ?_
          refine px_ld rfl rfl rfl rfl rfl ?_
          obtain ⟨t15, h0, h⟩ := xs_some h
          obtain ⟨fs, e1, e2⟩ := xgR_some h0
          refine px_get rfl e1 e2 rfl ?_
          refine px_ld rfl rfl rfl rfl rfl ?_
          obtain ⟨t16, h0, h⟩ := xs_some h
          obtain ⟨fs, e1, e2⟩ := xgI_some h0
          refine px_get rfl e1 e2 rfl ?_
          refine px_ld rfl rfl rfl rfl rfl ?_
          obtain ⟨t17, h0, h⟩ := xs_some h
          obtain ⟨fs, e1, e2⟩ := xgR_some h0
          refine px_get rfl e1 e2 rfl ?_
          refine px_ld rfl rfl rfl rfl rfl ?_
          obtain ⟨t18, h0, h⟩ := xs_some h
          obtain ⟨fs, e1, e2⟩ := xgR_some h0
          refine px_get rfl e1 e2 rfl ?_
          refine px_ld rfl rfl rfl rfl rfl ?_
          obtain ⟨t19, h0, h⟩ := xs_some h
          obtain ⟨fs, e1, e2⟩ := xgI_some h0
          refine px_get rfl e1 e2 rfl ?_
          obtain ⟨t20, h0, h⟩ := xs_some h
          obtain ⟨N, f, e1, e2, e3⟩ := xaI_some h0
          subst e3
          refine px_iald rfl e1 rfl e2 rfl ?_
          obtain ⟨t21, h0, h⟩ := xs_some h
          obtain ⟨N, f, e1, e2, e3⟩ := xaI_some h0
          subst e3
          refine px_zald rfl e1 rfl e2 rfl ?_
          refine px_ifeq rfl (by decide) rfl (fun hc => ?_) (fun hc => ?_)
          · replace h := (if_pos hc).symm.trans h
            refine px_ic (k := 0) rfl rfl rfl ?_
            exact (r_M_lay_159 @hk7 @hk39 @ih h :)
          · replace h := (if_neg hc).symm.trans h
            refine px_ld rfl rfl rfl rfl rfl ?_
            obtain ⟨t22, h0, h⟩ := xs_some h
            obtain ⟨fs, e1, e2⟩ := xgR_some h0
            refine px_get rfl e1 e2 rfl ?_
            refine px_ld rfl rfl rfl rfl rfl ?_
            obtain ⟨t23, h0, h⟩ := xs_some h
            obtain ⟨N, f, e1, e2, e3⟩ := xaI_some h0
            subst e3
            refine px_iald rfl e1 rfl e2 rfl ?_
            refine px_ic (k := 8) rfl rfl rfl ?_
            refine px_irem rfl (by decide) rfl ?_
            refine px_goto rfl (by decide) rfl ?_
            exact (r_M_lay_159 @hk7 @hk39 @ih h :)
        · replace h := (if_neg hc).symm.trans h
          refine px_goto rfl (by decide) rfl ?_
          exact (r_M_lay_209 @hk7 @hk39 @ih h :)
def f_M_lay_39 (F : Nat) (k7 : Nat → Int32 → px_H → Option (Unit × px_H)) : Nat → Nat → Int32 → Int32 → Int32 → px_H → Option (Unit × px_H)
  | 0, _, _, _, _, _ => none
  | n + 1, a0, a1, a2, a3, ph =>
    (xgI ph 12 14 a0).bind fun t1 =>
    if t1 ≤ a3 then
      f_M_lay_221 F k7 a0 a1 ph
    else
      (xo ph 12 a0).bind fun _ =>
      xb (f_M_object F a0 a3 ph) fun t2 ph3 =>
      f_M_lay_57 F k7 (f_M_lay_39 F k7 n) F a0 a1 a2 a3 t2 (nI 1) ph3
theorem r_M_lay_39 {l : Launch} {g : px_G} {d F : Nat} {k7 : Nat → Int32 → px_H → Option (Unit × px_H)} (hk7 : ∀ {a0 : Nat} {a1 : Int32} {ph : px_H} {r : Unit} {ph' : px_H}, k7 a0 a1 ph = some (r, ph') → PW l g (d + 5) m_M_lay 7 [.ref a0, .int a1, px_u, px_u, px_u, px_u] [] ph (px_qV r ph')) : ∀ (n : Nat) {a0 : Nat} {a1 : Int32} {a2 : Int32} {a3 : Int32} {ph : px_H} {r : Unit} {ph' : px_H}, f_M_lay_39 F k7 n a0 a1 a2 a3 ph = some (r, ph') → PW l g (d + 5) m_M_lay 39 [.ref a0, .int a1, .int a2, .int a3, px_u, px_u] [] ph (px_qV r ph') := by
  intro n
  induction n with
  | zero => intro _ _ _ _ _ _ _ h; cases h
  | succ n ih =>
    intro a0 a1 a2 a3 ph r ph' h
    unfold f_M_lay_39 at h
    refine px_ld rfl rfl rfl rfl rfl ?_
    refine px_ld rfl rfl rfl rfl rfl ?_
    obtain ⟨t1, h0, h⟩ := xs_some h
    obtain ⟨fs, e1, e2⟩ := xgI_some h0
    refine px_get rfl e1 e2 rfl ?_
    refine px_icge rfl (by decide) rfl (fun hc => ?_) (fun hc => ?_)
    · replace h := (if_pos hc).symm.trans h
      refine px_forget (n := 2) (lv' := [_, _, _, _, _, _]) rfl ?_
      refine px_forget (n := 3) (lv' := [_, _, _, _, _, _]) rfl ?_
      exact (r_M_lay_221 @hk7 h :)
    · replace h := (if_neg hc).symm.trans h
      refine px_ld rfl rfl rfl rfl rfl ?_
      refine px_ld rfl rfl rfl rfl rfl ?_
      obtain ⟨fs, h0, h⟩ := xs_some h
      have e1 := xo_some h0
      obtain ⟨t2, ph3, h0, h⟩ := xb_some h
      refine px_cV1 rfl rfl e1 rfl rfl rfl rfl rfl rfl rfl (r_M_object h0 :) (fun _ _ q => nomatch q.2) (fun r ph' q => ?_)
      obtain ⟨rfl, q⟩ := q
      cases q
      refine px_st (lv' := [_, _, _, _, _, _]) rfl rfl rfl rfl rfl rfl rfl ?_
      refine px_ic (k := 1) rfl rfl rfl ?_
      refine px_st (lv' := [_, _, _, _, _, _]) rfl rfl rfl rfl rfl rfl rfl ?_
      exact (r_M_lay_57 @hk7 @ih _ h :)
def f_M_lay_36 (F : Nat) (k7 : Nat → Int32 → px_H → Option (Unit × px_H)) (a0 : Nat) (a1 : Int32) (s0 : Int32) (ph : px_H) : Option (Unit × px_H) :=
  f_M_lay_39 F k7 F a0 a1 s0 (nI 0) ph
theorem r_M_lay_36 {l : Launch} {g : px_G} {d F : Nat} {k7 : Nat → Int32 → px_H → Option (Unit × px_H)} (hk7 : ∀ {a0 : Nat} {a1 : Int32} {ph : px_H} {r : Unit} {ph' : px_H}, k7 a0 a1 ph = some (r, ph') → PW l g (d + 5) m_M_lay 7 [.ref a0, .int a1, px_u, px_u, px_u, px_u] [] ph (px_qV r ph')) {a0 : Nat} {a1 : Int32} {s0 : Int32} {ph : px_H} {r : Unit} {ph' : px_H} (h : f_M_lay_36 F k7 a0 a1 s0 ph = some (r, ph')) : PW l g (d + 5) m_M_lay 36 [.ref a0, .int a1, px_u, px_u, px_u, px_u] [.int s0] ph (px_qV r ph') := by
  unfold f_M_lay_36 at h
  refine px_st (lv' := [_, _, _, _, _, _]) rfl rfl rfl rfl rfl rfl rfl ?_
  refine px_ic (k := 0) rfl rfl rfl ?_
  refine px_st (lv' := [_, _, _, _, _, _]) rfl rfl rfl rfl rfl rfl rfl ?_
  exact (r_M_lay_39 @hk7 _ h :)
def f_M_lay_7 (F : Nat) : Nat → Nat → Int32 → px_H → Option (Unit × px_H)
  | 0, _, _, _ => none
  | n + 1, a0, a1, ph =>
    if (nI 6) ≤ a1 then
      f_M_lay_227 F ph
    else
      if (nI 2) ≤ a1 then
        if (nI 4) ≤ a1 then
          f_M_lay_36 F (f_M_lay_7 F n) a0 a1 (a1 - (nI 2)) ph
        else
          f_M_lay_36 F (f_M_lay_7 F n) a0 a1 (a1 + (nI 2)) ph
      else
        f_M_lay_36 F (f_M_lay_7 F n) a0 a1 a1 ph
theorem r_M_lay_7 {l : Launch} {g : px_G} {d F : Nat} : ∀ (n : Nat) {a0 : Nat} {a1 : Int32} {ph : px_H} {r : Unit} {ph' : px_H}, f_M_lay_7 F n a0 a1 ph = some (r, ph') → PW l g (d + 5) m_M_lay 7 [.ref a0, .int a1, px_u, px_u, px_u, px_u] [] ph (px_qV r ph') := by
  intro n
  induction n with
  | zero => intro _ _ _ _ _ h; cases h
  | succ n ih =>
    intro a0 a1 ph r ph' h
    unfold f_M_lay_7 at h
    refine px_ld rfl rfl rfl rfl rfl ?_
    refine px_ic (k := 6) rfl rfl rfl ?_
    refine px_icge rfl (by decide) rfl (fun hc => ?_) (fun hc => ?_)
    · replace h := (if_pos hc).symm.trans h
      refine px_forget (n := 0) (lv' := [_, _, _, _, _, _]) rfl ?_
      refine px_forget (n := 1) (lv' := [_, _, _, _, _, _]) rfl ?_
      exact (r_M_lay_227 h :)
    · replace h := (if_neg hc).symm.trans h
      refine px_ld rfl rfl rfl rfl rfl ?_
      refine px_ic (k := 2) rfl rfl rfl ?_
      refine px_icge rfl (by decide) rfl (fun hc => ?_) (fun hc => ?_)
      · replace h := (if_pos hc).symm.trans h
        refine px_ld rfl rfl rfl rfl rfl ?_
        refine px_ic (k := 4) rfl rfl rfl ?_
        refine px_icge rfl (by decide) rfl (fun hc => ?_) (fun hc => ?_)
        · replace h := (if_pos hc).symm.trans h
          refine px_ld rfl rfl rfl rfl rfl ?_
          refine px_ic (k := 2) rfl rfl rfl ?_
          refine px_alu rfl rfl rfl ?_
          exact (r_M_lay_36 @ih h :)
        · replace h := (if_neg hc).symm.trans h
          refine px_ld rfl rfl rfl rfl rfl ?_
          refine px_ic (k := 2) rfl rfl rfl ?_
          refine px_alu rfl rfl rfl ?_
          refine px_goto rfl (by decide) rfl ?_
          exact (r_M_lay_36 @ih h :)
      · replace h := (if_neg hc).symm.trans h
        refine px_ld rfl rfl rfl rfl rfl ?_
        refine px_goto rfl (by decide) rfl ?_
        exact (r_M_lay_36 @ih h :)
def f_M_lay (F : Nat) (a0 : Nat) (ph : px_H) : Option (Unit × px_H) :=
  (xpI ph 12 50 a0 (nI 0)).bind fun ph1 =>
  f_M_lay_7 F F a0 (nI 0) ph1
theorem r_M_lay {l : Launch} {g : px_G} {d F : Nat} {a0 : Nat} {ph : px_H} {r : Unit} {ph' : px_H} (h : f_M_lay F a0 ph = some (r, ph')) : PW l g (d + 5) m_M_lay 0 [.ref a0, px_u, px_u, px_u, px_u, px_u] [] ph (px_qV r ph') := by
  unfold f_M_lay at h
  refine px_ld rfl rfl rfl rfl rfl ?_
  refine px_ic (k := 0) rfl rfl rfl ?_
  obtain ⟨ph1, h0, h⟩ := xs_some h
  obtain ⟨fs, e1, e2, e3⟩ := xpI_some h0
  subst e3
  refine px_put rfl e1 e2 trivial rfl ?_
  refine px_ic (k := 0) rfl rfl rfl ?_
  refine px_st (lv' := [_, _, _, _, _, _]) rfl rfl rfl rfl rfl rfl rfl ?_
  exact (r_M_lay_7 _ h :)
def f_M_isStrings_158 (F : Nat) (ph : px_H) : Option (Int32 × px_H) :=
  some (nI 1, ph)
theorem r_M_isStrings_158 {l : Launch} {g : px_G} {d F : Nat} {ph : px_H} {r : Int32} {ph' : px_H} (h : f_M_isStrings_158 F ph = some (r, ph')) : PW l g (d + 4) m_M_isStrings 158 [px_u, px_u, px_u, px_u, px_u] [] ph (px_qI r ph') := by
  unfold f_M_isStrings_158 at h
  refine px_ic (k := 1) rfl rfl rfl ?_
  cases h
  exact px_iret rfl (Or.inr ⟨rfl, Or.inr rfl⟩) rfl ⟨rfl, rfl⟩
def f_M_isStrings_152 (F : Nat) (k113 : Nat → Int32 → Int32 → Int32 → px_H → Option (Int32 × px_H)) (a0 : Nat) (a1 : Int32) (a2 : Int32) (a4 : Int32) (ph : px_H) : Option (Int32 × px_H) :=
  k113 a0 a1 a2 (a4 + nI 1) ph
theorem r_M_isStrings_152 {l : Launch} {g : px_G} {d F : Nat} {k113 : Nat → Int32 → Int32 → Int32 → px_H → Option (Int32 × px_H)} (hk113 : ∀ {a0 : Nat} {a1 : Int32} {a2 : Int32} {a4 : Int32} {ph : px_H} {r : Int32} {ph' : px_H}, k113 a0 a1 a2 a4 ph = some (r, ph') → PW l g (d + 4) m_M_isStrings 113 [.ref a0, .int a1, .int a2, px_u, .int a4] [] ph (px_qI r ph')) {a0 : Nat} {a1 : Int32} {a2 : Int32} {a4 : Int32} {ph : px_H} {r : Int32} {ph' : px_H} (h : f_M_isStrings_152 F k113 a0 a1 a2 a4 ph = some (r, ph')) : PW l g (d + 4) m_M_isStrings 152 [.ref a0, .int a1, .int a2, px_u, .int a4] [] ph (px_qI r ph') := by
  unfold f_M_isStrings_152 at h
  refine px_iinc (lv' := [_, _, _, _, _]) rfl rfl rfl rfl rfl rfl ?_
  refine px_goto rfl (by decide) rfl ?_
  exact (hk113 h :)
def f_M_isStrings_150 (F : Nat) (ph : px_H) : Option (Int32 × px_H) :=
  some (nI 0, ph)
theorem r_M_isStrings_150 {l : Launch} {g : px_G} {d F : Nat} {ph : px_H} {r : Int32} {ph' : px_H} (h : f_M_isStrings_150 F ph = some (r, ph')) : PW l g (d + 4) m_M_isStrings 150 [px_u, px_u, px_u, px_u, px_u] [] ph (px_qI r ph') := by
  unfold f_M_isStrings_150 at h
  refine px_ic (k := 0) rfl rfl rfl ?_
  cases h
  exact px_iret rfl (Or.inr ⟨rfl, Or.inl rfl⟩) rfl ⟨rfl, rfl⟩
def f_M_isStrings_113 (F : Nat) : Nat → Nat → Int32 → Int32 → Int32 → px_H → Option (Int32 × px_H)
  | 0, _, _, _, _, _ => none
  | n + 1, a0, a1, a2, a4, ph =>
    (xo ph 12 a0).bind fun _ =>
    xb (f_M_sections F a0 a1 ph) fun t1 ph2 =>
    if t1 ≤ a4 then
      f_M_isStrings_158 F ph2
    else
      (xo ph2 12 a0).bind fun _ =>
      xb (f_M_type F a0 a1 a4 ph2) fun t3 ph4 =>
      if t3 = ((4 : Int64)) then
        (xo ph4 12 a0).bind fun _ =>
        xb (f_M_info F a0 a1 a4 ph4) fun t5 ph6 =>
        if t5 = a2.toInt64 then
          f_M_isStrings_150 F ph6
        else
          f_M_isStrings_152 F (f_M_isStrings_113 F n) a0 a1 a2 a4 ph6
      else
        f_M_isStrings_152 F (f_M_isStrings_113 F n) a0 a1 a2 a4 ph4
theorem r_M_isStrings_113 {l : Launch} {g : px_G} {d F : Nat} : ∀ (n : Nat) {a0 : Nat} {a1 : Int32} {a2 : Int32} {a4 : Int32} {ph : px_H} {r : Int32} {ph' : px_H}, f_M_isStrings_113 F n a0 a1 a2 a4 ph = some (r, ph') → PW l g (d + 4) m_M_isStrings 113 [.ref a0, .int a1, .int a2, px_u, .int a4] [] ph (px_qI r ph') := by
  intro n
  induction n with
  | zero => intro _ _ _ _ _ _ _ h; cases h
  | succ n ih =>
    intro a0 a1 a2 a4 ph r ph' h
    unfold f_M_isStrings_113 at h
    refine px_ld rfl rfl rfl rfl rfl ?_
    refine px_ld rfl rfl rfl rfl rfl ?_
    refine px_ld rfl rfl rfl rfl rfl ?_
    obtain ⟨fs, h0, h⟩ := xs_some h
    have e1 := xo_some h0
    obtain ⟨t1, ph2, h0, h⟩ := xb_some h
    refine px_cV1 rfl rfl e1 rfl rfl rfl rfl rfl rfl rfl (r_M_sections h0 :) (fun _ _ q => nomatch q.2) (fun r ph' q => ?_)
    obtain ⟨rfl, q⟩ := q
    cases q
    refine px_icge rfl (by decide) rfl (fun hc => ?_) (fun hc => ?_)
    · replace h := (if_pos hc).symm.trans h
      refine px_forget (n := 0) (lv' := [_, _, _, _, _]) rfl ?_
      refine px_forget (n := 1) (lv' := [_, _, _, _, _]) rfl ?_
      refine px_forget (n := 2) (lv' := [_, _, _, _, _]) rfl ?_
      refine px_forget (n := 4) (lv' := [_, _, _, _, _]) rfl ?_
      exact (r_M_isStrings_158 h :)
    · replace h := (if_neg hc).symm.trans h
      refine px_ld rfl rfl rfl rfl rfl ?_
      refine px_ld rfl rfl rfl rfl rfl ?_
      refine px_ld rfl rfl rfl rfl rfl ?_
      obtain ⟨fs, h0, h⟩ := xs_some h
      have e1 := xo_some h0
      obtain ⟨t3, ph4, h0, h⟩ := xb_some h
      refine px_cV2 rfl rfl e1 rfl rfl rfl rfl rfl rfl rfl (r_M_type h0 :) (fun _ _ q => nomatch q.2) (fun r ph' q => ?_)
      obtain ⟨rfl, q⟩ := q
      cases q
      refine px_ldc2 rfl rfl rfl ?_
      refine px_alu rfl rfl rfl ?_
      refine px_ifne rfl (by decide) rfl (fun hc => ?_) (fun hc => ?_)
      · replace h := (if_neg (fun q => hc ((lg_cmp_eq _ _).mpr q))).symm.trans h
        exact (r_M_isStrings_152 @ih h :)
      · replace h := (if_pos ((lg_cmp_eq _ _).mp hc)).symm.trans h
        refine px_ld rfl rfl rfl rfl rfl ?_
        refine px_ld rfl rfl rfl rfl rfl ?_
        refine px_ld rfl rfl rfl rfl rfl ?_
        obtain ⟨fs, h0, h⟩ := xs_some h
        have e1 := xo_some h0
        obtain ⟨t5, ph6, h0, h⟩ := xb_some h
        refine px_cV2 rfl rfl e1 rfl rfl rfl rfl rfl rfl rfl (r_M_info h0 :) (fun _ _ q => nomatch q.2) (fun r ph' q => ?_)
        obtain ⟨rfl, q⟩ := q
        cases q
        refine px_ld rfl rfl rfl rfl rfl ?_
        refine px_alu rfl rfl rfl ?_
        refine px_alu rfl rfl rfl ?_
        refine px_ifne rfl (by decide) rfl (fun hc => ?_) (fun hc => ?_)
        · replace h := (if_neg (fun q => hc ((lg_cmp_eq _ _).mpr q))).symm.trans h
          exact (r_M_isStrings_152 @ih h :)
        · replace h := (if_pos ((lg_cmp_eq _ _).mp hc)).symm.trans h
          refine px_forget (n := 0) (lv' := [_, _, _, _, _]) rfl ?_
          refine px_forget (n := 1) (lv' := [_, _, _, _, _]) rfl ?_
          refine px_forget (n := 2) (lv' := [_, _, _, _, _]) rfl ?_
          refine px_forget (n := 4) (lv' := [_, _, _, _, _]) rfl ?_
          exact (r_M_isStrings_150 h :)
def f_M_isStrings_108 (F : Nat) (ph : px_H) : Option (Int32 × px_H) :=
  some (nI 0, ph)
theorem r_M_isStrings_108 {l : Launch} {g : px_G} {d F : Nat} {ph : px_H} {r : Int32} {ph' : px_H} (h : f_M_isStrings_108 F ph = some (r, ph')) : PW l g (d + 4) m_M_isStrings 108 [px_u, px_u, px_u, px_u, px_u] [] ph (px_qI r ph') := by
  unfold f_M_isStrings_108 at h
  refine px_ic (k := 0) rfl rfl rfl ?_
  cases h
  exact px_iret rfl (Or.inr ⟨rfl, Or.inl rfl⟩) rfl ⟨rfl, rfl⟩
def f_M_isStrings_76 (F : Nat) (a0 : Nat) (a1 : Int32) (a2 : Int32) (s0 : Int32) (ph : px_H) : Option (Int32 × px_H) :=
  if s0 = 0 then
    f_M_isStrings_108 F ph
  else
    (xgR ph 12 6 a0).bind fun t1 =>
    (xo ph 12 a0).bind fun _ =>
    xb (f_M_beginning F a0 a1 a2 ph) fun t2 ph3 =>
    (xo ph3 12 a0).bind fun _ =>
    xb (f_M_size F a0 a1 a2 ph3) fun t4 ph5 =>
    (xaI ph5 0 t1 (((a1 + t2.toInt32) + t4.toInt32) - (nI 1))).bind fun t6 =>
    if t6 = 0 then
      f_M_isStrings_113 F F a0 a1 a2 (nI 1) ph5
    else
      f_M_isStrings_108 F ph5
theorem r_M_isStrings_76 {l : Launch} {g : px_G} {d F : Nat} {a0 : Nat} {a1 : Int32} {a2 : Int32} {s0 : Int32} {ph : px_H} {r : Int32} {ph' : px_H} (h : f_M_isStrings_76 F a0 a1 a2 s0 ph = some (r, ph')) : PW l g (d + 4) m_M_isStrings 76 [.ref a0, .int a1, .int a2, px_u, px_u] [.int s0] ph (px_qI r ph') := by
  unfold f_M_isStrings_76 at h
  refine px_st (lv' := [_, _, _, _, _]) rfl rfl rfl rfl rfl rfl rfl ?_
  refine px_ld rfl rfl rfl rfl rfl ?_
  refine px_ifeq rfl (by decide) rfl (fun hc => ?_) (fun hc => ?_)
  · replace h := (if_pos hc).symm.trans h
    refine px_forget (n := 0) (lv' := [_, _, _, _, _]) rfl ?_
    refine px_forget (n := 1) (lv' := [_, _, _, _, _]) rfl ?_
    refine px_forget (n := 2) (lv' := [_, _, _, _, _]) rfl ?_
    refine px_forget (n := 3) (lv' := [_, _, _, _, _]) rfl ?_
    exact (r_M_isStrings_108 h :)
  · replace h := (if_neg hc).symm.trans h
    refine px_ld rfl rfl rfl rfl rfl ?_
    obtain ⟨t1, h0, h⟩ := xs_some h
    obtain ⟨fs, e1, e2⟩ := xgR_some h0
    refine px_get rfl e1 e2 rfl ?_
    refine px_ld rfl rfl rfl rfl rfl ?_
    refine px_ld rfl rfl rfl rfl rfl ?_
    refine px_ld rfl rfl rfl rfl rfl ?_
    refine px_ld rfl rfl rfl rfl rfl ?_
    obtain ⟨fs, h0, h⟩ := xs_some h
    have e1 := xo_some h0
    obtain ⟨t2, ph3, h0, h⟩ := xb_some h
    refine px_cV2 rfl rfl e1 rfl rfl rfl rfl rfl rfl rfl (r_M_beginning h0 :) (fun _ _ q => nomatch q.2) (fun r ph' q => ?_)
    obtain ⟨rfl, q⟩ := q
    cases q
    refine px_alu rfl rfl rfl ?_
    refine px_alu rfl rfl rfl ?_
    refine px_ld rfl rfl rfl rfl rfl ?_
    refine px_ld rfl rfl rfl rfl rfl ?_
    refine px_ld rfl rfl rfl rfl rfl ?_
    obtain ⟨fs, h0, h⟩ := xs_some h
    have e1 := xo_some h0
    obtain ⟨t4, ph5, h0, h⟩ := xb_some h
    refine px_cV2 rfl rfl e1 rfl rfl rfl rfl rfl rfl rfl (r_M_size h0 :) (fun _ _ q => nomatch q.2) (fun r ph' q => ?_)
    obtain ⟨rfl, q⟩ := q
    cases q
    refine px_alu rfl rfl rfl ?_
    refine px_alu rfl rfl rfl ?_
    refine px_ic (k := 1) rfl rfl rfl ?_
    refine px_alu rfl rfl rfl ?_
    obtain ⟨t6, h0, h⟩ := xs_some h
    obtain ⟨N, f, e1, e2, e3⟩ := xaI_some h0
    subst e3
    refine px_bald rfl e1 rfl e2 rfl ?_
    refine px_ifeq rfl (by decide) rfl (fun hc => ?_) (fun hc => ?_)
    · replace h := (if_pos hc).symm.trans h
      refine px_ic (k := 1) rfl rfl rfl ?_
      refine px_st (lv' := [_, _, _, _, _]) rfl rfl rfl rfl rfl rfl rfl ?_
      refine px_forget (n := 3) (lv' := [_, _, _, _, _]) rfl ?_
      exact (r_M_isStrings_113 _ h :)
    · replace h := (if_neg hc).symm.trans h
      refine px_forget (n := 0) (lv' := [_, _, _, _, _]) rfl ?_
      refine px_forget (n := 1) (lv' := [_, _, _, _, _]) rfl ?_
      refine px_forget (n := 2) (lv' := [_, _, _, _, _]) rfl ?_
      refine px_forget (n := 3) (lv' := [_, _, _, _, _]) rfl ?_
      exact (r_M_isStrings_108 h :)
def f_M_isStrings_75 (F : Nat) (a0 : Nat) (a1 : Int32) (a2 : Int32) (ph : px_H) : Option (Int32 × px_H) :=
  f_M_isStrings_76 F a0 a1 a2 (nI 0) ph
theorem r_M_isStrings_75 {l : Launch} {g : px_G} {d F : Nat} {a0 : Nat} {a1 : Int32} {a2 : Int32} {ph : px_H} {r : Int32} {ph' : px_H} (h : f_M_isStrings_75 F a0 a1 a2 ph = some (r, ph')) : PW l g (d + 4) m_M_isStrings 75 [.ref a0, .int a1, .int a2, px_u, px_u] [] ph (px_qI r ph') := by
  unfold f_M_isStrings_75 at h
  refine px_ic (k := 0) rfl rfl rfl ?_
  exact (r_M_isStrings_76 h :)
def f_M_isStrings (F : Nat) (a0 : Nat) (a1 : Int32) (a2 : Int32) (ph : px_H) : Option (Int32 × px_H) :=
  (xo ph 12 a0).bind fun _ =>
  xb (f_M_isKept F a0 a1 a2 ph) fun t1 ph2 =>
  if t1 = 0 then
    f_M_isStrings_75 F a0 a1 a2 ph2
  else
    (xo ph2 12 a0).bind fun _ =>
    xb (f_M_group F a0 a1 a2 ph2) fun t3 ph4 =>
    if t3 = (nI 1) then
      (xo ph4 12 a0).bind fun _ =>
      xb (f_M_flagsOf F a0 a1 a2 ph4) fun t5 ph6 =>
      if (t5 &&& ((48 : Int64))) = ((48 : Int64)) then
        (xo ph6 12 a0).bind fun _ =>
        xb (f_M_align F a0 a1 a2 ph6) fun t7 ph8 =>
        if ((2 : Int64)) ≤ t7 then
          f_M_isStrings_75 F a0 a1 a2 ph8
        else
          (xo ph8 12 a0).bind fun _ =>
          xb (f_M_align F a0 a1 a2 ph8) fun t9 ph10 =>
          if t9 < (lN 0) then
            f_M_isStrings_75 F a0 a1 a2 ph10
          else
            (xo ph10 12 a0).bind fun _ =>
            xb (f_M_size F a0 a1 a2 ph10) fun t11 ph12 =>
            if t11 ≤ (lN 0) then
              f_M_isStrings_75 F a0 a1 a2 ph12
            else
              f_M_isStrings_76 F a0 a1 a2 (nI 1) ph12
      else
        f_M_isStrings_75 F a0 a1 a2 ph6
    else
      f_M_isStrings_75 F a0 a1 a2 ph4
theorem r_M_isStrings {l : Launch} {g : px_G} {d F : Nat} {a0 : Nat} {a1 : Int32} {a2 : Int32} {ph : px_H} {r : Int32} {ph' : px_H} (h : f_M_isStrings F a0 a1 a2 ph = some (r, ph')) : PW l g (d + 4) m_M_isStrings 0 [.ref a0, .int a1, .int a2, px_u, px_u] [] ph (px_qI r ph') := by
  unfold f_M_isStrings at h
  refine px_ld rfl rfl rfl rfl rfl ?_
  refine px_ld rfl rfl rfl rfl rfl ?_
  refine px_ld rfl rfl rfl rfl rfl ?_
  obtain ⟨fs, h0, h⟩ := xs_some h
  have e1 := xo_some h0
  obtain ⟨t1, ph2, h0, h⟩ := xb_some h
  refine px_cV2 rfl rfl e1 rfl rfl rfl rfl rfl rfl rfl (r_M_isKept h0 :) (fun _ _ q => nomatch q.2) (fun r ph' q => ?_)
  obtain ⟨rfl, q⟩ := q
  cases q
  refine px_ifeq rfl (by decide) rfl (fun hc => ?_) (fun hc => ?_)
  · replace h := (if_pos hc).symm.trans h
    exact (r_M_isStrings_75 h :)
  · replace h := (if_neg hc).symm.trans h
    refine px_ld rfl rfl rfl rfl rfl ?_
    refine px_ld rfl rfl rfl rfl rfl ?_
    refine px_ld rfl rfl rfl rfl rfl ?_
    obtain ⟨fs, h0, h⟩ := xs_some h
    have e1 := xo_some h0
    obtain ⟨t3, ph4, h0, h⟩ := xb_some h
    refine px_cV2 rfl rfl e1 rfl rfl rfl rfl rfl rfl rfl (r_M_group h0 :) (fun _ _ q => nomatch q.2) (fun r ph' q => ?_)
    obtain ⟨rfl, q⟩ := q
    cases q
    refine px_ic (k := 1) rfl rfl rfl ?_
    refine px_icne rfl (by decide) rfl (fun hc => ?_) (fun hc => ?_)
    · replace h := (if_neg hc).symm.trans h
      exact (r_M_isStrings_75 h :)
    · replace h := (if_pos hc).symm.trans h
      refine px_ld rfl rfl rfl rfl rfl ?_
      refine px_ld rfl rfl rfl rfl rfl ?_
      refine px_ld rfl rfl rfl rfl rfl ?_
      obtain ⟨fs, h0, h⟩ := xs_some h
      have e1 := xo_some h0
      obtain ⟨t5, ph6, h0, h⟩ := xb_some h
      refine px_cV2 rfl rfl e1 rfl rfl rfl rfl rfl rfl rfl (r_M_flagsOf h0 :) (fun _ _ q => nomatch q.2) (fun r ph' q => ?_)
      obtain ⟨rfl, q⟩ := q
      cases q
      refine px_ldc2 rfl rfl rfl ?_
      refine px_alu rfl rfl rfl ?_
      refine px_ldc2 rfl rfl rfl ?_
      refine px_alu rfl rfl rfl ?_
      refine px_ifne rfl (by decide) rfl (fun hc => ?_) (fun hc => ?_)
      · replace h := (if_neg (fun q => hc ((lg_cmp_eq _ _).mpr q))).symm.trans h
        exact (r_M_isStrings_75 h :)
      · replace h := (if_pos ((lg_cmp_eq _ _).mp hc)).symm.trans h
        refine px_ld rfl rfl rfl rfl rfl ?_
        refine px_ld rfl rfl rfl rfl rfl ?_
        refine px_ld rfl rfl rfl rfl rfl ?_
        obtain ⟨fs, h0, h⟩ := xs_some h
        have e1 := xo_some h0
        obtain ⟨t7, ph8, h0, h⟩ := xb_some h
        refine px_cV2 rfl rfl e1 rfl rfl rfl rfl rfl rfl rfl (r_M_align h0 :) (fun _ _ q => nomatch q.2) (fun r ph' q => ?_)
        obtain ⟨rfl, q⟩ := q
        cases q
        refine px_ldc2 rfl rfl rfl ?_
        refine px_alu rfl rfl rfl ?_
        refine px_ifge rfl (by decide) rfl (fun hc => ?_) (fun hc => ?_)
        · replace h := (if_pos ((lg_cmp_ge _ _).mp hc)).symm.trans h
          exact (r_M_isStrings_75 h :)
        · replace h := (if_neg (fun q => hc ((lg_cmp_ge _ _).mpr q))).symm.trans h
          refine px_ld rfl rfl rfl rfl rfl ?_
          refine px_ld rfl rfl rfl rfl rfl ?_
          refine px_ld rfl rfl rfl rfl rfl ?_
          obtain ⟨fs, h0, h⟩ := xs_some h
          have e1 := xo_some h0
          obtain ⟨t9, ph10, h0, h⟩ := xb_some h
          refine px_cV2 rfl rfl e1 rfl rfl rfl rfl rfl rfl rfl (r_M_align h0 :) (fun _ _ q => nomatch q.2) (fun r ph' q => ?_)
          obtain ⟨rfl, q⟩ := q
          cases q
          refine px_alu rfl rfl rfl ?_
          refine px_alu rfl rfl rfl ?_
          refine px_iflt rfl (by decide) rfl (fun hc => ?_) (fun hc => ?_)
          · replace h := (if_pos ((lg_cmp_lt _ _).mp hc)).symm.trans h
            exact (r_M_isStrings_75 h :)
          · replace h := (if_neg (fun q => hc ((lg_cmp_lt _ _).mpr q))).symm.trans h
            refine px_ld rfl rfl rfl rfl rfl ?_
            refine px_ld rfl rfl rfl rfl rfl ?_
            refine px_ld rfl rfl rfl rfl rfl ?_
            obtain ⟨fs, h0, h⟩ := xs_some h
            have e1 := xo_some h0
            obtain ⟨t11, ph12, h0, h⟩ := xb_some h
            refine px_cV2 rfl rfl e1 rfl rfl rfl rfl rfl rfl rfl (r_M_size h0 :) (fun _ _ q => nomatch q.2) (fun r ph' q => ?_)
            obtain ⟨rfl, q⟩ := q
            cases q
            refine px_alu rfl rfl rfl ?_
            refine px_alu rfl rfl rfl ?_
            refine px_ifle rfl (by decide) rfl (fun hc => ?_) (fun hc => ?_)
            · replace h := (if_pos ((lg_cmp_le _ _).mp hc)).symm.trans h
              exact (r_M_isStrings_75 h :)
            · replace h := (if_neg (fun q => hc ((lg_cmp_le _ _).mpr q))).symm.trans h
              refine px_ic (k := 1) rfl rfl rfl ?_
              refine px_goto rfl (by decide) rfl ?_
              exact (r_M_isStrings_76 h :)
def f_M_childOf_45 (F : Nat) (a4 : Int32) (ph : px_H) : Option (Int32 × px_H) :=
  some (a4, ph)
theorem r_M_childOf_45 {l : Launch} {g : px_G} {d F : Nat} {a4 : Int32} {ph : px_H} {r : Int32} {ph' : px_H} (h : f_M_childOf_45 F a4 ph = some (r, ph')) : PW l g (d + 0) m_M_childOf 45 [px_u, px_u, px_u, px_u, .int a4] [] ph (px_qI r ph') := by
  unfold f_M_childOf_45 at h
  refine px_ld rfl rfl rfl rfl rfl ?_
  cases h
  exact px_iret rfl (Or.inl rfl) rfl ⟨rfl, rfl⟩
def f_M_childOf_36 (F : Nat) (a0 : Nat) (a1 : Int32) (a2 : Int32) (a3 : Int32) (a4 : Int32) (ph : px_H) : Option (Int32 × px_H) :=
  if 0 < a4 then
    f_M_childOf_45 F a4 ph
  else
    if a3 = 0 then
      f_M_childOf_45 F a4 ph
    else
      (xgI ph 12 89 a0).bind fun t1 =>
      (xgR ph 12 95 a0).bind fun t2 =>
      (xsI ph 0 t2 t1 (a2.toInt8.toInt32)).bind fun ph3 =>
      (xgR ph3 12 92 a0).bind fun t4 =>
      (xsI ph3 1 t4 t1 (nI 0)).bind fun ph5 =>
      (xgR ph5 12 94 a0).bind fun t6 =>
      (xsI ph5 1 t6 t1 (Int32.ofInt (-1))).bind fun ph7 =>
      (xgR ph7 12 93 a0).bind fun t8 =>
      (xgR ph7 12 92 a0).bind fun t9 =>
      (xaI ph7 1 t9 a1).bind fun t10 =>
      (xsI ph7 1 t8 t1 t10).bind fun ph11 =>
      (xgR ph11 12 92 a0).bind fun t12 =>
      (xsI ph11 1 t12 a1 t1).bind fun ph13 =>
      (xgI ph13 12 89 a0).bind fun t14 =>
      (xpI ph13 12 89 a0 (t14 + (nI 1))).bind fun ph15 =>
      some (t1, ph15)
theorem r_M_childOf_36 {l : Launch} {g : px_G} {d F : Nat} {a0 : Nat} {a1 : Int32} {a2 : Int32} {a3 : Int32} {a4 : Int32} {ph : px_H} {r : Int32} {ph' : px_H} (h : f_M_childOf_36 F a0 a1 a2 a3 a4 ph = some (r, ph')) : PW l g (d + 0) m_M_childOf 36 [.ref a0, .int a1, .int a2, .int a3, .int a4] [] ph (px_qI r ph') := by
  unfold f_M_childOf_36 at h
  refine px_ld rfl rfl rfl rfl rfl ?_
  refine px_ifgt rfl (by decide) rfl (fun hc => ?_) (fun hc => ?_)
  · replace h := (if_pos hc).symm.trans h
    refine px_forget (n := 0) (lv' := [_, _, _, _, _]) rfl ?_
    refine px_forget (n := 1) (lv' := [_, _, _, _, _]) rfl ?_
    refine px_forget (n := 2) (lv' := [_, _, _, _, _]) rfl ?_
    refine px_forget (n := 3) (lv' := [_, _, _, _, _]) rfl ?_
    exact (r_M_childOf_45 h :)
  · replace h := (if_neg hc).symm.trans h
    refine px_ld rfl rfl rfl rfl rfl ?_
    refine px_ifne rfl (by decide) rfl (fun hc => ?_) (fun hc => ?_)
    · replace h := (if_neg hc).symm.trans h
      refine px_ld rfl rfl rfl rfl rfl ?_
      obtain ⟨t1, h0, h⟩ := xs_some h
      obtain ⟨fs, e1, e2⟩ := xgI_some h0
      refine px_get rfl e1 e2 rfl ?_
      refine px_st (lv' := [_, _, _, _, _]) rfl rfl rfl rfl rfl rfl rfl ?_
      refine px_ld rfl rfl rfl rfl rfl ?_
      obtain ⟨t2, h0, h⟩ := xs_some h
      obtain ⟨fs, e1, e2⟩ := xgR_some h0
      refine px_get rfl e1 e2 rfl ?_
      refine px_ld rfl rfl rfl rfl rfl ?_
      refine px_ld rfl rfl rfl rfl rfl ?_
      obtain ⟨ph3, h0, h⟩ := xs_some h
      obtain ⟨N, f, e1, e2, e3⟩ := xsI_some h0
      subst e3
      refine px_bast rfl e1 rfl e2 rfl ?_
      refine px_ld rfl rfl rfl rfl rfl ?_
      obtain ⟨t4, h0, h⟩ := xs_some h
      obtain ⟨fs, e1, e2⟩ := xgR_some h0
      refine px_get rfl e1 e2 rfl ?_
      refine px_ld rfl rfl rfl rfl rfl ?_
      refine px_ic (k := 0) rfl rfl rfl ?_
      obtain ⟨ph5, h0, h⟩ := xs_some h
      obtain ⟨N, f, e1, e2, e3⟩ := xsI_some h0
      subst e3
      refine px_iast rfl e1 rfl e2 rfl ?_
      refine px_ld rfl rfl rfl rfl rfl ?_
      obtain ⟨t6, h0, h⟩ := xs_some h
      obtain ⟨fs, e1, e2⟩ := xgR_some h0
      refine px_get rfl e1 e2 rfl ?_
      refine px_ld rfl rfl rfl rfl rfl ?_
      refine px_alu rfl rfl rfl ?_
      obtain ⟨ph7, h0, h⟩ := xs_some h
      obtain ⟨N, f, e1, e2, e3⟩ := xsI_some h0
      subst e3
      refine px_iast rfl e1 rfl e2 rfl ?_
      refine px_ld rfl rfl rfl rfl rfl ?_
      obtain ⟨t8, h0, h⟩ := xs_some h
      obtain ⟨fs, e1, e2⟩ := xgR_some h0
      refine px_get rfl e1 e2 rfl ?_
      refine px_ld rfl rfl rfl rfl rfl ?_
      refine px_ld rfl rfl rfl rfl rfl ?_
      obtain ⟨t9, h0, h⟩ := xs_some h
      obtain ⟨fs, e1, e2⟩ := xgR_some h0
      refine px_get rfl e1 e2 rfl ?_
      refine px_ld rfl rfl rfl rfl rfl ?_
      obtain ⟨t10, h0, h⟩ := xs_some h
      obtain ⟨N, f, e1, e2, e3⟩ := xaI_some h0
      subst e3
      refine px_iald rfl e1 rfl e2 rfl ?_
      obtain ⟨ph11, h0, h⟩ := xs_some h
      obtain ⟨N, f, e1, e2, e3⟩ := xsI_some h0
      subst e3
      refine px_iast rfl e1 rfl e2 rfl ?_
      refine px_ld rfl rfl rfl rfl rfl ?_
      obtain ⟨t12, h0, h⟩ := xs_some h
      obtain ⟨fs, e1, e2⟩ := xgR_some h0
      refine px_get rfl e1 e2 rfl ?_
      refine px_ld rfl rfl rfl rfl rfl ?_
      refine px_ld rfl rfl rfl rfl rfl ?_
      obtain ⟨ph13, h0, h⟩ := xs_some h
      obtain ⟨N, f, e1, e2, e3⟩ := xsI_some h0
      subst e3
      refine px_iast rfl e1 rfl e2 rfl ?_
      refine px_ld rfl rfl rfl rfl rfl ?_
      refine px_alu rfl rfl rfl ?_
      obtain ⟨t14, h0, h⟩ := xs_some h
      obtain ⟨fs, e1, e2⟩ := xgI_some h0
      refine px_get rfl e1 e2 rfl ?_
      refine px_ic (k := 1) rfl rfl rfl ?_
      refine px_alu rfl rfl rfl ?_
      obtain ⟨ph15, h0, h⟩ := xs_some h
      obtain ⟨fs, e1, e2, e3⟩ := xpI_some h0
      subst e3
      refine px_put rfl e1 e2 trivial rfl ?_
      refine px_ld rfl rfl rfl rfl rfl ?_
      cases h
      exact px_iret rfl (Or.inl rfl) rfl ⟨rfl, rfl⟩
    · replace h := (if_pos hc).symm.trans h
      refine px_forget (n := 0) (lv' := [_, _, _, _, _]) rfl ?_
      refine px_forget (n := 1) (lv' := [_, _, _, _, _]) rfl ?_
      refine px_forget (n := 2) (lv' := [_, _, _, _, _]) rfl ?_
      refine px_forget (n := 3) (lv' := [_, _, _, _, _]) rfl ?_
      exact (r_M_childOf_45 h :)
def f_M_childOf_8 (F : Nat) : Nat → Nat → Int32 → Int32 → Int32 → Int32 → px_H → Option (Int32 × px_H)
  | 0, _, _, _, _, _, _ => none
  | n + 1, a0, a1, a2, a3, a4, ph =>
    if a4 ≤ 0 then
      f_M_childOf_36 F a0 a1 a2 a3 a4 ph
    else
      (xgR ph 12 95 a0).bind fun t1 =>
      (xaI ph 0 t1 a4).bind fun t2 =>
      if t2 = a2 then
        f_M_childOf_36 F a0 a1 a2 a3 a4 ph
      else
        (xgR ph 12 93 a0).bind fun t3 =>
        (xaI ph 1 t3 a4).bind fun t4 =>
        f_M_childOf_8 F n a0 a1 a2 a3 t4 ph
theorem r_M_childOf_8 {l : Launch} {g : px_G} {d F : Nat} : ∀ (n : Nat) {a0 : Nat} {a1 : Int32} {a2 : Int32} {a3 : Int32} {a4 : Int32} {ph : px_H} {r : Int32} {ph' : px_H}, f_M_childOf_8 F n a0 a1 a2 a3 a4 ph = some (r, ph') → PW l g (d + 0) m_M_childOf 8 [.ref a0, .int a1, .int a2, .int a3, .int a4] [] ph (px_qI r ph') := by
  intro n
  induction n with
  | zero => intro _ _ _ _ _ _ _ _ h; cases h
  | succ n ih =>
    intro a0 a1 a2 a3 a4 ph r ph' h
    unfold f_M_childOf_8 at h
    refine px_ld rfl rfl rfl rfl rfl ?_
    refine px_ifle rfl (by decide) rfl (fun hc => ?_) (fun hc => ?_)
    · replace h := (if_pos hc).symm.trans h
      exact (r_M_childOf_36 h :)
    · replace h := (if_neg hc).symm.trans h
      refine px_ld rfl rfl rfl rfl rfl ?_
      obtain ⟨t1, h0, h⟩ := xs_some h
      obtain ⟨fs, e1, e2⟩ := xgR_some h0
      refine px_get rfl e1 e2 rfl ?_
      refine px_ld rfl rfl rfl rfl rfl ?_
      obtain ⟨t2, h0, h⟩ := xs_some h
      obtain ⟨N, f, e1, e2, e3⟩ := xaI_some h0
      subst e3
      refine px_bald rfl e1 rfl e2 rfl ?_
      refine px_ld rfl rfl rfl rfl rfl ?_
      refine px_iceq rfl (by decide) rfl (fun hc => ?_) (fun hc => ?_)
      · replace h := (if_pos hc).symm.trans h
        exact (r_M_childOf_36 h :)
      · replace h := (if_neg hc).symm.trans h
        refine px_ld rfl rfl rfl rfl rfl ?_
        obtain ⟨t3, h0, h⟩ := xs_some h
        obtain ⟨fs, e1, e2⟩ := xgR_some h0
        refine px_get rfl e1 e2 rfl ?_
        refine px_ld rfl rfl rfl rfl rfl ?_
        obtain ⟨t4, h0, h⟩ := xs_some h
        obtain ⟨N, f, e1, e2, e3⟩ := xaI_some h0
        subst e3
        refine px_iald rfl e1 rfl e2 rfl ?_
        refine px_st (lv' := [_, _, _, _, _]) rfl rfl rfl rfl rfl rfl rfl ?_
        refine px_goto rfl (by decide) rfl ?_
        exact (ih h :)
def f_M_childOf (F : Nat) (a0 : Nat) (a1 : Int32) (a2 : Int32) (a3 : Int32) (ph : px_H) : Option (Int32 × px_H) :=
  (xgR ph 12 92 a0).bind fun t1 =>
  (xaI ph 1 t1 a1).bind fun t2 =>
  f_M_childOf_8 F F a0 a1 a2 a3 t2 ph
theorem r_M_childOf {l : Launch} {g : px_G} {d F : Nat} {a0 : Nat} {a1 : Int32} {a2 : Int32} {a3 : Int32} {ph : px_H} {r : Int32} {ph' : px_H} (h : f_M_childOf F a0 a1 a2 a3 ph = some (r, ph')) : PW l g (d + 0) m_M_childOf 0 [.ref a0, .int a1, .int a2, .int a3, px_u] [] ph (px_qI r ph') := by
  unfold f_M_childOf at h
  refine px_ld rfl rfl rfl rfl rfl ?_
  obtain ⟨t1, h0, h⟩ := xs_some h
  obtain ⟨fs, e1, e2⟩ := xgR_some h0
  refine px_get rfl e1 e2 rfl ?_
  refine px_ld rfl rfl rfl rfl rfl ?_
  obtain ⟨t2, h0, h⟩ := xs_some h
  obtain ⟨N, f, e1, e2, e3⟩ := xaI_some h0
  subst e3
  refine px_iald rfl e1 rfl e2 rfl ?_
  refine px_st (lv' := [_, _, _, _, _]) rfl rfl rfl rfl rfl rfl rfl ?_
  exact (r_M_childOf_8 _ h :)
def f_M_nodeOf_46 (F : Nat) (a4 : Int32) (ph : px_H) : Option (Int32 × px_H) :=
  some (a4, ph)
theorem r_M_nodeOf_46 {l : Launch} {g : px_G} {d F : Nat} {a4 : Int32} {ph : px_H} {r : Int32} {ph' : px_H} (h : f_M_nodeOf_46 F a4 ph = some (r, ph')) : PW l g (d + 1) m_M_nodeOf 46 [px_u, px_u, px_u, px_u, .int a4, px_u] [] ph (px_qI r ph') := by
  unfold f_M_nodeOf_46 at h
  refine px_ld rfl rfl rfl rfl rfl ?_
  cases h
  exact px_iret rfl (Or.inl rfl) rfl ⟨rfl, rfl⟩
def f_M_nodeOf_8 (F : Nat) : Nat → Nat → Int32 → Int32 → Int32 → Int32 → px_H → Option (Int32 × px_H)
  | 0, _, _, _, _, _, _ => none
  | n + 1, a0, a1, a3, a4, a5, ph =>
    if a5 < a1 then
      f_M_nodeOf_46 F a4 ph
    else
      (xgR ph 12 6 a0).bind fun t1 =>
      (xaI ph 0 t1 a5).bind fun t2 =>
      if t2 = 0 then
        f_M_nodeOf_46 F a4 ph
      else
        (xgR ph 12 6 a0).bind fun t3 =>
        (xaI ph 0 t3 a5).bind fun t4 =>
        (xo ph 12 a0).bind fun _ =>
        xb (f_M_childOf F a0 a4 t4 a3 ph) fun t5 ph6 =>
        f_M_nodeOf_8 F n a0 a1 a3 t5 (a5 + Int32.ofInt (-1)) ph6
theorem r_M_nodeOf_8 {l : Launch} {g : px_G} {d F : Nat} : ∀ (n : Nat) {a0 : Nat} {a1 : Int32} {a3 : Int32} {a4 : Int32} {a5 : Int32} {ph : px_H} {r : Int32} {ph' : px_H}, f_M_nodeOf_8 F n a0 a1 a3 a4 a5 ph = some (r, ph') → PW l g (d + 1) m_M_nodeOf 8 [.ref a0, .int a1, px_u, .int a3, .int a4, .int a5] [] ph (px_qI r ph') := by
  intro n
  induction n with
  | zero => intro _ _ _ _ _ _ _ _ h; cases h
  | succ n ih =>
    intro a0 a1 a3 a4 a5 ph r ph' h
    unfold f_M_nodeOf_8 at h
    refine px_ld rfl rfl rfl rfl rfl ?_
    refine px_ld rfl rfl rfl rfl rfl ?_
    refine px_iclt rfl rfl rfl (fun hc => ?_) (fun hc => ?_)
    · replace h := (if_pos hc).symm.trans h
      refine px_forget (n := 0) (lv' := [_, _, _, _, _, _]) rfl ?_
      refine px_forget (n := 1) (lv' := [_, _, _, _, _, _]) rfl ?_
      refine px_forget (n := 3) (lv' := [_, _, _, _, _, _]) rfl ?_
      refine px_forget (n := 5) (lv' := [_, _, _, _, _, _]) rfl ?_
      exact (r_M_nodeOf_46 h :)
    · replace h := (if_neg hc).symm.trans h
      refine px_ld rfl rfl rfl rfl rfl ?_
      obtain ⟨t1, h0, h⟩ := xs_some h
      obtain ⟨fs, e1, e2⟩ := xgR_some h0
      refine px_get rfl e1 e2 rfl ?_
      refine px_ld rfl rfl rfl rfl rfl ?_
      obtain ⟨t2, h0, h⟩ := xs_some h
      obtain ⟨N, f, e1, e2, e3⟩ := xaI_some h0
      subst e3
      refine px_bald rfl e1 rfl e2 rfl ?_
      refine px_ifeq rfl rfl rfl (fun hc => ?_) (fun hc => ?_)
      · replace h := (if_pos hc).symm.trans h
        refine px_forget (n := 0) (lv' := [_, _, _, _, _, _]) rfl ?_
        refine px_forget (n := 1) (lv' := [_, _, _, _, _, _]) rfl ?_
        refine px_forget (n := 3) (lv' := [_, _, _, _, _, _]) rfl ?_
        refine px_forget (n := 5) (lv' := [_, _, _, _, _, _]) rfl ?_
        exact (r_M_nodeOf_46 h :)
      · replace h := (if_neg hc).symm.trans h
        refine px_ld rfl rfl rfl rfl rfl ?_
        refine px_ld rfl rfl rfl rfl rfl ?_
        refine px_ld rfl rfl rfl rfl rfl ?_
        obtain ⟨t3, h0, h⟩ := xs_some h
        obtain ⟨fs, e1, e2⟩ := xgR_some h0
        refine px_get rfl e1 e2 rfl ?_
        refine px_ld rfl rfl rfl rfl rfl ?_
        obtain ⟨t4, h0, h⟩ := xs_some h
        obtain ⟨N, f, e1, e2, e3⟩ := xaI_some h0
        subst e3
        refine px_bald rfl e1 rfl e2 rfl ?_
        refine px_ld rfl rfl rfl rfl rfl ?_
        obtain ⟨fs, h0, h⟩ := xs_some h
        have e1 := xo_some h0
        obtain ⟨t5, ph6, h0, h⟩ := xb_some h
        refine px_cV3 rfl rfl e1 rfl rfl rfl rfl rfl rfl rfl (r_M_childOf h0 :) (fun _ _ q => nomatch q.2) (fun r ph' q => ?_)
        obtain ⟨rfl, q⟩ := q
        cases q
        refine px_st (lv' := [_, _, _, _, _, _]) rfl rfl rfl rfl rfl rfl rfl ?_
        refine px_iinc (lv' := [_, _, _, _, _, _]) rfl rfl rfl rfl rfl rfl ?_
        refine px_goto rfl rfl rfl ?_
        exact (ih h :)
def f_M_nodeOf (F : Nat) (a0 : Nat) (a1 : Int32) (a2 : Int32) (a3 : Int32) (ph : px_H) : Option (Int32 × px_H) :=
  f_M_nodeOf_8 F F a0 a1 a3 (nI 1) (a2 - (nI 1)) ph
theorem r_M_nodeOf {l : Launch} {g : px_G} {d F : Nat} {a0 : Nat} {a1 : Int32} {a2 : Int32} {a3 : Int32} {ph : px_H} {r : Int32} {ph' : px_H} (h : f_M_nodeOf F a0 a1 a2 a3 ph = some (r, ph')) : PW l g (d + 1) m_M_nodeOf 0 [.ref a0, .int a1, .int a2, .int a3, px_u, px_u] [] ph (px_qI r ph') := by
  unfold f_M_nodeOf at h
  refine px_ic (k := 1) rfl rfl rfl ?_
  refine px_st (lv' := [_, _, _, _, _, _]) rfl rfl rfl rfl rfl rfl rfl ?_
  refine px_ld rfl rfl rfl rfl rfl ?_
  refine px_ic (k := 1) rfl rfl rfl ?_
  refine px_alu rfl rfl rfl ?_
  refine px_st (lv' := [_, _, _, _, _, _]) rfl rfl rfl rfl rfl rfl rfl ?_
  refine px_forget (n := 2) (lv' := [_, _, _, _, _, _]) rfl ?_
  exact (r_M_nodeOf_8 _ h :)
def f_M_toPool_160 (F : Nat) (ph : px_H) : Option (Unit × px_H) :=
  some ((), ph)
theorem r_M_toPool_160 {l : Launch} {g : px_G} {d F : Nat} {ph : px_H} {r : Unit} {ph' : px_H} (h : f_M_toPool_160 F ph = some (r, ph')) : PW l g (d + 1) m_M_toPool 160 [px_u, px_u, px_u, px_u, px_u, px_u] [] ph (px_qV r ph') := by
  unfold f_M_toPool_160 at h
  cases h
  exact px_vret rfl rfl rfl ⟨rfl, rfl⟩
def f_M_toPool_153 (F : Nat) (k101 : Nat → Int32 → Int32 → Int32 → px_H → Option (Unit × px_H)) (a0 : Nat) (a3 : Int32) (a4 : Int32) (a5 : Int32) (s0 : Nat) (s1 : Int32) (s2 : Int32) (ph : px_H) : Option (Unit × px_H) :=
  (xsI ph 1 s0 s1 s2).bind fun ph1 =>
  k101 a0 a3 a4 (a5 + Int32.ofInt (-1)) ph1
theorem r_M_toPool_153 {l : Launch} {g : px_G} {d F : Nat} {k101 : Nat → Int32 → Int32 → Int32 → px_H → Option (Unit × px_H)} (hk101 : ∀ {a0 : Nat} {a3 : Int32} {a4 : Int32} {a5 : Int32} {ph : px_H} {r : Unit} {ph' : px_H}, k101 a0 a3 a4 a5 ph = some (r, ph') → PW l g (d + 1) m_M_toPool 101 [.ref a0, px_u, px_u, .int a3, .int a4, .int a5] [] ph (px_qV r ph')) {a0 : Nat} {a3 : Int32} {a4 : Int32} {a5 : Int32} {s0 : Nat} {s1 : Int32} {s2 : Int32} {ph : px_H} {r : Unit} {ph' : px_H} (h : f_M_toPool_153 F k101 a0 a3 a4 a5 s0 s1 s2 ph = some (r, ph')) : PW l g (d + 1) m_M_toPool 153 [.ref a0, px_u, px_u, .int a3, .int a4, .int a5] [.int s2, .int s1, .ref s0] ph (px_qV r ph') := by
  unfold f_M_toPool_153 at h
  obtain ⟨ph1, h0, h⟩ := xs_some h
  obtain ⟨N, f, e1, e2, e3⟩ := xsI_some h0
  subst e3
  refine px_iast rfl e1 rfl e2 rfl ?_
  refine px_iinc (lv' := [_, _, _, _, _, _]) rfl rfl rfl rfl rfl rfl ?_
  refine px_goto rfl (by decide) rfl ?_
  exact (hk101 h :)
def f_M_toPool_101 (F : Nat) : Nat → Nat → Int32 → Int32 → Int32 → px_H → Option (Unit × px_H)
  | 0, _, _, _, _, _ => none
  | n + 1, a0, a3, a4, a5, ph =>
    if a5 < a3 then
      f_M_toPool_160 F ph
    else
      (xgR ph 12 6 a0).bind fun t1 =>
      (xaI ph 0 t1 a5).bind fun t2 =>
      (xo ph 12 a0).bind fun _ =>
      xb (f_M_childOf F a0 a4 t2 (nI 0) ph) fun t3 ph4 =>
      (xgR ph4 12 94 a0).bind fun t5 =>
      (xgR ph4 12 94 a0).bind fun t6 =>
      (xaI ph4 1 t6 t3).bind fun t7 =>
      if 0 ≤ t7 then
        (xgR ph4 12 94 a0).bind fun t8 =>
        (xaI ph4 1 t8 t3).bind fun t9 =>
        f_M_toPool_153 F (f_M_toPool_101 F n) a0 a3 t3 a5 t5 t3 t9 ph4
      else
        (xgI ph4 12 88 a0).bind fun t10 =>
        f_M_toPool_153 F (f_M_toPool_101 F n) a0 a3 t3 a5 t5 t3 t10 ph4
theorem r_M_toPool_101 {l : Launch} {g : px_G} {d F : Nat} : ∀ (n : Nat) {a0 : Nat} {a3 : Int32} {a4 : Int32} {a5 : Int32} {ph : px_H} {r : Unit} {ph' : px_H}, f_M_toPool_101 F n a0 a3 a4 a5 ph = some (r, ph') → PW l g (d + 1) m_M_toPool 101 [.ref a0, px_u, px_u, .int a3, .int a4, .int a5] [] ph (px_qV r ph') := by
  intro n
  induction n with
  | zero => intro _ _ _ _ _ _ _ h; cases h
  | succ n ih =>
    intro a0 a3 a4 a5 ph r ph' h
    unfold f_M_toPool_101 at h
    refine px_ld rfl rfl rfl rfl rfl ?_
    refine px_ld rfl rfl rfl rfl rfl ?_
    refine px_iclt rfl (by decide) rfl (fun hc => ?_) (fun hc => ?_)
    · replace h := (if_pos hc).symm.trans h
      refine px_forget (n := 0) (lv' := [_, _, _, _, _, _]) rfl ?_
      refine px_forget (n := 3) (lv' := [_, _, _, _, _, _]) rfl ?_
      refine px_forget (n := 4) (lv' := [_, _, _, _, _, _]) rfl ?_
      refine px_forget (n := 5) (lv' := [_, _, _, _, _, _]) rfl ?_
      exact (r_M_toPool_160 h :)
    · replace h := (if_neg hc).symm.trans h
      refine px_ld rfl rfl rfl rfl rfl ?_
      refine px_ld rfl rfl rfl rfl rfl ?_
      refine px_ld rfl rfl rfl rfl rfl ?_
      obtain ⟨t1, h0, h⟩ := xs_some h
      obtain ⟨fs, e1, e2⟩ := xgR_some h0
      refine px_get rfl e1 e2 rfl ?_
      refine px_ld rfl rfl rfl rfl rfl ?_
      obtain ⟨t2, h0, h⟩ := xs_some h
      obtain ⟨N, f, e1, e2, e3⟩ := xaI_some h0
      subst e3
      refine px_bald rfl e1 rfl e2 rfl ?_
      refine px_ic (k := 0) rfl rfl rfl ?_
      obtain ⟨fs, h0, h⟩ := xs_some h
      have e1 := xo_some h0
      obtain ⟨t3, ph4, h0, h⟩ := xb_some h
      refine px_cV3 rfl rfl e1 rfl rfl rfl rfl rfl rfl rfl (r_M_childOf h0 :) (fun _ _ q => nomatch q.2) (fun r ph' q => ?_)
      obtain ⟨rfl, q⟩ := q
      cases q
      refine px_st (lv' := [_, _, _, _, _, _]) rfl rfl rfl rfl rfl rfl rfl ?_
      refine px_ld rfl rfl rfl rfl rfl ?_
      obtain ⟨t5, h0, h⟩ := xs_some h
      obtain ⟨fs, e1, e2⟩ := xgR_some h0
      refine px_get rfl e1 e2 rfl ?_
      refine px_ld rfl rfl rfl rfl rfl ?_
      refine px_ld rfl rfl rfl rfl rfl ?_
      obtain ⟨t6, h0, h⟩ := xs_some h
      obtain ⟨fs, e1, e2⟩ := xgR_some h0
      refine px_get rfl e1 e2 rfl ?_
      refine px_ld rfl rfl rfl rfl rfl ?_
      obtain ⟨t7, h0, h⟩ := xs_some h
      obtain ⟨N, f, e1, e2, e3⟩ := xaI_some h0
      subst e3
      refine px_iald rfl e1 rfl e2 rfl ?_
      refine px_ifge rfl (by decide) rfl (fun hc => ?_) (fun hc => ?_)
      · replace h := (if_pos hc).symm.trans h
        refine px_ld rfl rfl rfl rfl rfl ?_
        obtain ⟨t8, h0, h⟩ := xs_some h
        obtain ⟨fs, e1, e2⟩ := xgR_some h0
        refine px_get rfl e1 e2 rfl ?_
        refine px_ld rfl rfl rfl rfl rfl ?_
        obtain ⟨t9, h0, h⟩ := xs_some h
        obtain ⟨N, f, e1, e2, e3⟩ := xaI_some h0
        subst e3
        refine px_iald rfl e1 rfl e2 rfl ?_
        exact (r_M_toPool_153 @ih h :)
      · replace h := (if_neg hc).symm.trans h
        refine px_ld rfl rfl rfl rfl rfl ?_
        obtain ⟨t10, h0, h⟩ := xs_some h
        obtain ⟨fs, e1, e2⟩ := xgI_some h0
        refine px_get rfl e1 e2 rfl ?_
        refine px_goto rfl (by decide) rfl ?_
        exact (r_M_toPool_153 @ih h :)
def f_M_toPool_95 (F : Nat) (a0 : Nat) (a2 : Int32) (a3 : Int32) (a4 : Int32) (s0 : Nat) (s1 : Int32) (s2 : Int32) (ph : px_H) : Option (Unit × px_H) :=
  (xsI ph 1 s0 s1 s2).bind fun ph1 =>
  f_M_toPool_101 F F a0 a3 a4 (a2 - (nI 1)) ph1
theorem r_M_toPool_95 {l : Launch} {g : px_G} {d F : Nat} {a0 : Nat} {a2 : Int32} {a3 : Int32} {a4 : Int32} {s0 : Nat} {s1 : Int32} {s2 : Int32} {ph : px_H} {r : Unit} {ph' : px_H} (h : f_M_toPool_95 F a0 a2 a3 a4 s0 s1 s2 ph = some (r, ph')) : PW l g (d + 1) m_M_toPool 95 [.ref a0, px_u, .int a2, .int a3, .int a4, px_u] [.int s2, .int s1, .ref s0] ph (px_qV r ph') := by
  unfold f_M_toPool_95 at h
  obtain ⟨ph1, h0, h⟩ := xs_some h
  obtain ⟨N, f, e1, e2, e3⟩ := xsI_some h0
  subst e3
  refine px_iast rfl e1 rfl e2 rfl ?_
  refine px_ld rfl rfl rfl rfl rfl ?_
  refine px_ic (k := 1) rfl rfl rfl ?_
  refine px_alu rfl rfl rfl ?_
  refine px_st (lv' := [_, _, _, _, _, _]) rfl rfl rfl rfl rfl rfl rfl ?_
  refine px_forget (n := 2) (lv' := [_, _, _, _, _, _]) rfl ?_
  exact (r_M_toPool_101 _ h :)
def f_M_toPool_65 (F : Nat) (a0 : Nat) (a2 : Int32) (a3 : Int32) (ph : px_H) : Option (Unit × px_H) :=
  (xgR ph 12 94 a0).bind fun t1 =>
  (xgR ph 12 94 a0).bind fun t2 =>
  (xaI ph 1 t2 (nI 1)).bind fun t3 =>
  if 0 ≤ t3 then
    (xgR ph 12 94 a0).bind fun t4 =>
    (xaI ph 1 t4 (nI 1)).bind fun t5 =>
    f_M_toPool_95 F a0 a2 a3 (nI 1) t1 (nI 1) t5 ph
  else
    (xgI ph 12 88 a0).bind fun t6 =>
    f_M_toPool_95 F a0 a2 a3 (nI 1) t1 (nI 1) t6 ph
theorem r_M_toPool_65 {l : Launch} {g : px_G} {d F : Nat} {a0 : Nat} {a2 : Int32} {a3 : Int32} {ph : px_H} {r : Unit} {ph' : px_H} (h : f_M_toPool_65 F a0 a2 a3 ph = some (r, ph')) : PW l g (d + 1) m_M_toPool 65 [.ref a0, px_u, .int a2, .int a3, px_u, px_u] [] ph (px_qV r ph') := by
  unfold f_M_toPool_65 at h
  refine px_ic (k := 1) rfl rfl rfl ?_
  refine px_st (lv' := [_, _, _, _, _, _]) rfl rfl rfl rfl rfl rfl rfl ?_
  refine px_ld rfl rfl rfl rfl rfl ?_
  obtain ⟨t1, h0, h⟩ := xs_some h
  obtain ⟨fs, e1, e2⟩ := xgR_some h0
  refine px_get rfl e1 e2 rfl ?_
  refine px_ic (k := 1) rfl rfl rfl ?_
  refine px_ld rfl rfl rfl rfl rfl ?_
  obtain ⟨t2, h0, h⟩ := xs_some h
  obtain ⟨fs, e1, e2⟩ := xgR_some h0
  refine px_get rfl e1 e2 rfl ?_
  refine px_ic (k := 1) rfl rfl rfl ?_
  obtain ⟨t3, h0, h⟩ := xs_some h
  obtain ⟨N, f, e1, e2, e3⟩ := xaI_some h0
  subst e3
  refine px_iald rfl e1 rfl e2 rfl ?_
  refine px_ifge rfl (by decide) rfl (fun hc => ?_) (fun hc => ?_)
  · replace h := (if_pos hc).symm.trans h
    refine px_ld rfl rfl rfl rfl rfl ?_
    obtain ⟨t4, h0, h⟩ := xs_some h
    obtain ⟨fs, e1, e2⟩ := xgR_some h0
    refine px_get rfl e1 e2 rfl ?_
    refine px_ic (k := 1) rfl rfl rfl ?_
    obtain ⟨t5, h0, h⟩ := xs_some h
    obtain ⟨N, f, e1, e2, e3⟩ := xaI_some h0
    subst e3
    refine px_iald rfl e1 rfl e2 rfl ?_
    exact (r_M_toPool_95 h :)
  · replace h := (if_neg hc).symm.trans h
    refine px_ld rfl rfl rfl rfl rfl ?_
    obtain ⟨t6, h0, h⟩ := xs_some h
    obtain ⟨fs, e1, e2⟩ := xgI_some h0
    refine px_get rfl e1 e2 rfl ?_
    refine px_goto rfl (by decide) rfl ?_
    exact (r_M_toPool_95 h :)
def f_M_toPool_27 (F : Nat) : Nat → Nat → Int32 → Int32 → Int32 → px_H → Option (Unit × px_H)
  | 0, _, _, _, _, _ => none
  | n + 1, a0, a2, a3, a4, ph =>
    if a2 < a4 then
      f_M_toPool_65 F a0 a2 a3 ph
    else
      (xgR ph 12 91 a0).bind fun t1 =>
      (xgI ph 12 88 a0).bind fun t2 =>
      (xgR ph 12 6 a0).bind fun t3 =>
      (xaI ph 0 t3 a4).bind fun t4 =>
      (xsI ph 0 t1 t2 (t4.toInt8.toInt32)).bind fun ph5 =>
      (xgI ph5 12 88 a0).bind fun t6 =>
      (xpI ph5 12 88 a0 (t6 + (nI 1))).bind fun ph7 =>
      f_M_toPool_27 F n a0 a2 a3 (a4 + nI 1) ph7
theorem r_M_toPool_27 {l : Launch} {g : px_G} {d F : Nat} : ∀ (n : Nat) {a0 : Nat} {a2 : Int32} {a3 : Int32} {a4 : Int32} {ph : px_H} {r : Unit} {ph' : px_H}, f_M_toPool_27 F n a0 a2 a3 a4 ph = some (r, ph') → PW l g (d + 1) m_M_toPool 27 [.ref a0, px_u, .int a2, .int a3, .int a4, px_u] [] ph (px_qV r ph') := by
  intro n
  induction n with
  | zero => intro _ _ _ _ _ _ _ h; cases h
  | succ n ih =>
    intro a0 a2 a3 a4 ph r ph' h
    unfold f_M_toPool_27 at h
    refine px_ld rfl rfl rfl rfl rfl ?_
    refine px_ld rfl rfl rfl rfl rfl ?_
    refine px_icgt rfl (by decide) rfl (fun hc => ?_) (fun hc => ?_)
    · replace h := (if_pos hc).symm.trans h
      refine px_forget (n := 4) (lv' := [_, _, _, _, _, _]) rfl ?_
      exact (r_M_toPool_65 h :)
    · replace h := (if_neg hc).symm.trans h
      refine px_ld rfl rfl rfl rfl rfl ?_
      obtain ⟨t1, h0, h⟩ := xs_some h
      obtain ⟨fs, e1, e2⟩ := xgR_some h0
      refine px_get rfl e1 e2 rfl ?_
      refine px_ld rfl rfl rfl rfl rfl ?_
      obtain ⟨t2, h0, h⟩ := xs_some h
      obtain ⟨fs, e1, e2⟩ := xgI_some h0
      refine px_get rfl e1 e2 rfl ?_
      refine px_ld rfl rfl rfl rfl rfl ?_
      obtain ⟨t3, h0, h⟩ := xs_some h
      obtain ⟨fs, e1, e2⟩ := xgR_some h0
      refine px_get rfl e1 e2 rfl ?_
      refine px_ld rfl rfl rfl rfl rfl ?_
      obtain ⟨t4, h0, h⟩ := xs_some h
      obtain ⟨N, f, e1, e2, e3⟩ := xaI_some h0
      subst e3
      refine px_bald rfl e1 rfl e2 rfl ?_
      obtain ⟨ph5, h0, h⟩ := xs_some h
      obtain ⟨N, f, e1, e2, e3⟩ := xsI_some h0
      subst e3
      refine px_bast rfl e1 rfl e2 rfl ?_
      refine px_ld rfl rfl rfl rfl rfl ?_
      refine px_alu rfl rfl rfl ?_
      obtain ⟨t6, h0, h⟩ := xs_some h
      obtain ⟨fs, e1, e2⟩ := xgI_some h0
      refine px_get rfl e1 e2 rfl ?_
      refine px_ic (k := 1) rfl rfl rfl ?_
      refine px_alu rfl rfl rfl ?_
      obtain ⟨ph7, h0, h⟩ := xs_some h
      obtain ⟨fs, e1, e2, e3⟩ := xpI_some h0
      subst e3
      refine px_put rfl e1 e2 trivial rfl ?_
      refine px_iinc (lv' := [_, _, _, _, _, _]) rfl rfl rfl rfl rfl rfl ?_
      refine px_goto rfl (by decide) rfl ?_
      exact (ih h :)
def f_M_toPool_24 (F : Nat) (a0 : Nat) (a2 : Int32) (a3 : Int32) (ph : px_H) : Option (Unit × px_H) :=
  f_M_toPool_27 F F a0 a2 a3 a3 ph
theorem r_M_toPool_24 {l : Launch} {g : px_G} {d F : Nat} {a0 : Nat} {a2 : Int32} {a3 : Int32} {ph : px_H} {r : Unit} {ph' : px_H} (h : f_M_toPool_24 F a0 a2 a3 ph = some (r, ph')) : PW l g (d + 1) m_M_toPool 24 [.ref a0, px_u, .int a2, .int a3, px_u, px_u] [] ph (px_qV r ph') := by
  unfold f_M_toPool_24 at h
  refine px_ld rfl rfl rfl rfl rfl ?_
  refine px_st (lv' := [_, _, _, _, _, _]) rfl rfl rfl rfl rfl rfl rfl ?_
  exact (r_M_toPool_27 _ h :)
def f_M_toPool_2 (F : Nat) : Nat → Nat → Int32 → Int32 → Int32 → px_H → Option (Unit × px_H)
  | 0, _, _, _, _, _ => none
  | n + 1, a0, a1, a2, a3, ph =>
    if a3 ≤ a1 then
      f_M_toPool_24 F a0 a2 a3 ph
    else
      (xgR ph 12 6 a0).bind fun t1 =>
      (xaI ph 0 t1 (a3 - (nI 1))).bind fun t2 =>
      if t2 = 0 then
        f_M_toPool_24 F a0 a2 a3 ph
      else
        f_M_toPool_2 F n a0 a1 a2 (a3 + Int32.ofInt (-1)) ph
theorem r_M_toPool_2 {l : Launch} {g : px_G} {d F : Nat} : ∀ (n : Nat) {a0 : Nat} {a1 : Int32} {a2 : Int32} {a3 : Int32} {ph : px_H} {r : Unit} {ph' : px_H}, f_M_toPool_2 F n a0 a1 a2 a3 ph = some (r, ph') → PW l g (d + 1) m_M_toPool 2 [.ref a0, .int a1, .int a2, .int a3, px_u, px_u] [] ph (px_qV r ph') := by
  intro n
  induction n with
  | zero => intro _ _ _ _ _ _ _ h; cases h
  | succ n ih =>
    intro a0 a1 a2 a3 ph r ph' h
    unfold f_M_toPool_2 at h
    refine px_ld rfl rfl rfl rfl rfl ?_
    refine px_ld rfl rfl rfl rfl rfl ?_
    refine px_icle rfl (by decide) rfl (fun hc => ?_) (fun hc => ?_)
    · replace h := (if_pos hc).symm.trans h
      refine px_forget (n := 1) (lv' := [_, _, _, _, _, _]) rfl ?_
      exact (r_M_toPool_24 h :)
    · replace h := (if_neg hc).symm.trans h
      refine px_ld rfl rfl rfl rfl rfl ?_
      obtain ⟨t1, h0, h⟩ := xs_some h
      obtain ⟨fs, e1, e2⟩ := xgR_some h0
      refine px_get rfl e1 e2 rfl ?_
      refine px_ld rfl rfl rfl rfl rfl ?_
      refine px_ic (k := 1) rfl rfl rfl ?_
      refine px_alu rfl rfl rfl ?_
      obtain ⟨t2, h0, h⟩ := xs_some h
      obtain ⟨N, f, e1, e2, e3⟩ := xaI_some h0
      subst e3
      refine px_bald rfl e1 rfl e2 rfl ?_
      refine px_ifeq rfl (by decide) rfl (fun hc => ?_) (fun hc => ?_)
      · replace h := (if_pos hc).symm.trans h
        refine px_forget (n := 1) (lv' := [_, _, _, _, _, _]) rfl ?_
        exact (r_M_toPool_24 h :)
      · replace h := (if_neg hc).symm.trans h
        refine px_iinc (lv' := [_, _, _, _, _, _]) rfl rfl rfl rfl rfl rfl ?_
        refine px_goto rfl (by decide) rfl ?_
        exact (ih h :)
def f_M_toPool (F : Nat) (a0 : Nat) (a1 : Int32) (a2 : Int32) (ph : px_H) : Option (Unit × px_H) :=
  f_M_toPool_2 F F a0 a1 a2 a2 ph
theorem r_M_toPool {l : Launch} {g : px_G} {d F : Nat} {a0 : Nat} {a1 : Int32} {a2 : Int32} {ph : px_H} {r : Unit} {ph' : px_H} (h : f_M_toPool F a0 a1 a2 ph = some (r, ph')) : PW l g (d + 1) m_M_toPool 0 [.ref a0, .int a1, .int a2, px_u, px_u, px_u] [] ph (px_qV r ph') := by
  unfold f_M_toPool at h
  refine px_ld rfl rfl rfl rfl rfl ?_
  refine px_st (lv' := [_, _, _, _, _, _]) rfl rfl rfl rfl rfl rfl rfl ?_
  exact (r_M_toPool_2 _ h :)
def f_M_findPool_178 (F : Nat) (ph : px_H) : Option (Unit × px_H) :=
  some ((), ph)
theorem r_M_findPool_178 {l : Launch} {g : px_G} {d F : Nat} {ph : px_H} {r : Unit} {ph' : px_H} (h : f_M_findPool_178 F ph = some (r, ph')) : PW l g (d + 5) m_M_findPool 178 [px_u, px_u, px_u, px_u, px_u, px_u, px_u] [] ph (px_qV r ph') := by
  unfold f_M_findPool_178 at h
  cases h
  exact px_vret rfl rfl rfl ⟨rfl, rfl⟩
def f_M_findPool_172 (F : Nat) (k26 : Nat → Int32 → px_H → Option (Unit × px_H)) (a0 : Nat) (a1 : Int32) (ph : px_H) : Option (Unit × px_H) :=
  k26 a0 (a1 + nI 1) ph
theorem r_M_findPool_172 {l : Launch} {g : px_G} {d F : Nat} {k26 : Nat → Int32 → px_H → Option (Unit × px_H)} (hk26 : ∀ {a0 : Nat} {a1 : Int32} {ph : px_H} {r : Unit} {ph' : px_H}, k26 a0 a1 ph = some (r, ph') → PW l g (d + 5) m_M_findPool 26 [.ref a0, .int a1, px_u, px_u, px_u, px_u, px_u] [] ph (px_qV r ph')) {a0 : Nat} {a1 : Int32} {ph : px_H} {r : Unit} {ph' : px_H} (h : f_M_findPool_172 F k26 a0 a1 ph = some (r, ph')) : PW l g (d + 5) m_M_findPool 172 [.ref a0, .int a1, px_u, px_u, px_u, px_u, px_u] [] ph (px_qV r ph') := by
  unfold f_M_findPool_172 at h
  refine px_iinc (lv' := [_, _, _, _, _, _, _]) rfl rfl rfl rfl rfl rfl ?_
  refine px_goto rfl (by decide) rfl ?_
  exact (hk26 h :)
def f_M_findPool_166 (F : Nat) (k26 : Nat → Int32 → px_H → Option (Unit × px_H)) (k33 : Nat → Int32 → Int32 → px_H → Option (Unit × px_H)) (a0 : Nat) (a1 : Int32) (a2 : Int32) (ph : px_H) : Option (Unit × px_H) :=
  k33 a0 a1 (a2 + nI 1) ph
theorem r_M_findPool_166 {l : Launch} {g : px_G} {d F : Nat} {k26 : Nat → Int32 → px_H → Option (Unit × px_H)} (hk26 : ∀ {a0 : Nat} {a1 : Int32} {ph : px_H} {r : Unit} {ph' : px_H}, k26 a0 a1 ph = some (r, ph') → PW l g (d + 5) m_M_findPool 26 [.ref a0, .int a1, px_u, px_u, px_u, px_u, px_u] [] ph (px_qV r ph')) {k33 : Nat → Int32 → Int32 → px_H → Option (Unit × px_H)} (hk33 : ∀ {a0 : Nat} {a1 : Int32} {a2 : Int32} {ph : px_H} {r : Unit} {ph' : px_H}, k33 a0 a1 a2 ph = some (r, ph') → PW l g (d + 5) m_M_findPool 33 [.ref a0, .int a1, .int a2, px_u, px_u, px_u, px_u] [] ph (px_qV r ph')) {a0 : Nat} {a1 : Int32} {a2 : Int32} {ph : px_H} {r : Unit} {ph' : px_H} (h : f_M_findPool_166 F k26 k33 a0 a1 a2 ph = some (r, ph')) : PW l g (d + 5) m_M_findPool 166 [.ref a0, .int a1, .int a2, px_u, px_u, px_u, px_u] [] ph (px_qV r ph') := by
  unfold f_M_findPool_166 at h
  refine px_iinc (lv' := [_, _, _, _, _, _, _]) rfl rfl rfl rfl rfl rfl ?_
  refine px_goto rfl (by decide) rfl ?_
  exact (hk33 h :)
def f_M_findPool_160 (F : Nat) (k26 : Nat → Int32 → px_H → Option (Unit × px_H)) (k33 : Nat → Int32 → Int32 → px_H → Option (Unit × px_H)) (k89 : Nat → Int32 → Int32 → Int32 → Int32 → px_H → Option (Unit × px_H)) (a0 : Nat) (a1 : Int32) (a2 : Int32) (a4 : Int32) (a5 : Int32) (ph : px_H) : Option (Unit × px_H) :=
  k89 a0 a1 a2 a4 (a5 + nI 1) ph
theorem r_M_findPool_160 {l : Launch} {g : px_G} {d F : Nat} {k26 : Nat → Int32 → px_H → Option (Unit × px_H)} (hk26 : ∀ {a0 : Nat} {a1 : Int32} {ph : px_H} {r : Unit} {ph' : px_H}, k26 a0 a1 ph = some (r, ph') → PW l g (d + 5) m_M_findPool 26 [.ref a0, .int a1, px_u, px_u, px_u, px_u, px_u] [] ph (px_qV r ph')) {k33 : Nat → Int32 → Int32 → px_H → Option (Unit × px_H)} (hk33 : ∀ {a0 : Nat} {a1 : Int32} {a2 : Int32} {ph : px_H} {r : Unit} {ph' : px_H}, k33 a0 a1 a2 ph = some (r, ph') → PW l g (d + 5) m_M_findPool 33 [.ref a0, .int a1, .int a2, px_u, px_u, px_u, px_u] [] ph (px_qV r ph')) {k89 : Nat → Int32 → Int32 → Int32 → Int32 → px_H → Option (Unit × px_H)} (hk89 : ∀ {a0 : Nat} {a1 : Int32} {a2 : Int32} {a4 : Int32} {a5 : Int32} {ph : px_H} {r : Unit} {ph' : px_H}, k89 a0 a1 a2 a4 a5 ph = some (r, ph') → PW l g (d + 5) m_M_findPool 89 [.ref a0, .int a1, .int a2, px_u, .int a4, .int a5, px_u] [] ph (px_qV r ph')) {a0 : Nat} {a1 : Int32} {a2 : Int32} {a4 : Int32} {a5 : Int32} {ph : px_H} {r : Unit} {ph' : px_H} (h : f_M_findPool_160 F k26 k33 k89 a0 a1 a2 a4 a5 ph = some (r, ph')) : PW l g (d + 5) m_M_findPool 160 [.ref a0, .int a1, .int a2, px_u, .int a4, .int a5, px_u] [] ph (px_qV r ph') := by
  unfold f_M_findPool_160 at h
  refine px_iinc (lv' := [_, _, _, _, _, _, _]) rfl rfl rfl rfl rfl rfl ?_
  refine px_goto rfl (by decide) rfl ?_
  exact (hk89 h :)
def f_M_findPool_89 (F : Nat) (k26 : Nat → Int32 → px_H → Option (Unit × px_H)) (k33 : Nat → Int32 → Int32 → px_H → Option (Unit × px_H)) : Nat → Nat → Int32 → Int32 → Int32 → Int32 → px_H → Option (Unit × px_H)
  | 0, _, _, _, _, _, _ => none
  | n + 1, a0, a1, a2, a4, a5, ph =>
    (xgR ph 12 56 a0).bind fun t1 =>
    (xaI ph 1 t1 a2).bind fun t2 =>
    if (a4 + t2) ≤ a5 then
      f_M_findPool_166 F k26 k33 a0 a1 a2 ph
    else
      (xgR ph 12 6 a0).bind fun t3 =>
      (xaI ph 0 t3 a5).bind fun t4 =>
      if t4 = 0 then
        (xo ph 12 a0).bind fun _ =>
        xb (f_M_nodeOf F a0 a4 a5 (nI 1) ph) fun t5 ph6 =>
        if a1 = (nI 1) then
          (xgR ph6 12 92 a0).bind fun t7 =>
          (xaI ph6 1 t7 t5).bind fun t8 =>
          if t8 = 0 then
            (xgR ph6 12 94 a0).bind fun t9 =>
            (xaI ph6 1 t9 t5).bind fun t10 =>
            if 0 ≤ t10 then
              f_M_findPool_160 F k26 k33 (f_M_findPool_89 F k26 k33 n) a0 a1 a2 a4 a5 ph6
            else
              (xo ph6 12 a0).bind fun _ =>
              xb (f_M_toPool F a0 a4 a5 ph6) fun _ ph11 =>
              f_M_findPool_160 F k26 k33 (f_M_findPool_89 F k26 k33 n) a0 a1 a2 a4 a5 ph11
          else
            f_M_findPool_160 F k26 k33 (f_M_findPool_89 F k26 k33 n) a0 a1 a2 a4 a5 ph6
        else
          f_M_findPool_160 F k26 k33 (f_M_findPool_89 F k26 k33 n) a0 a1 a2 a4 a5 ph6
      else
        f_M_findPool_160 F k26 k33 (f_M_findPool_89 F k26 k33 n) a0 a1 a2 a4 a5 ph
theorem r_M_findPool_89 {l : Launch} {g : px_G} {d F : Nat} {k26 : Nat → Int32 → px_H → Option (Unit × px_H)} (hk26 : ∀ {a0 : Nat} {a1 : Int32} {ph : px_H} {r : Unit} {ph' : px_H}, k26 a0 a1 ph = some (r, ph') → PW l g (d + 5) m_M_findPool 26 [.ref a0, .int a1, px_u, px_u, px_u, px_u, px_u] [] ph (px_qV r ph')) {k33 : Nat → Int32 → Int32 → px_H → Option (Unit × px_H)} (hk33 : ∀ {a0 : Nat} {a1 : Int32} {a2 : Int32} {ph : px_H} {r : Unit} {ph' : px_H}, k33 a0 a1 a2 ph = some (r, ph') → PW l g (d + 5) m_M_findPool 33 [.ref a0, .int a1, .int a2, px_u, px_u, px_u, px_u] [] ph (px_qV r ph')) : ∀ (n : Nat) {a0 : Nat} {a1 : Int32} {a2 : Int32} {a4 : Int32} {a5 : Int32} {ph : px_H} {r : Unit} {ph' : px_H}, f_M_findPool_89 F k26 k33 n a0 a1 a2 a4 a5 ph = some (r, ph') → PW l g (d + 5) m_M_findPool 89 [.ref a0, .int a1, .int a2, px_u, .int a4, .int a5, px_u] [] ph (px_qV r ph') := by
  intro n
  induction n with
  | zero => intro _ _ _ _ _ _ _ _ h; cases h
  | succ n ih =>
    intro a0 a1 a2 a4 a5 ph r ph' h
    unfold f_M_findPool_89 at h
    refine px_ld rfl rfl rfl rfl rfl ?_
    refine px_ld rfl rfl rfl rfl rfl ?_
    refine px_ld rfl rfl rfl rfl rfl ?_
    obtain ⟨t1, h0, h⟩ := xs_some h
    obtain ⟨fs, e1, e2⟩ := xgR_some h0
    refine px_get rfl e1 e2 rfl ?_
    refine px_ld rfl rfl rfl rfl rfl ?_
    obtain ⟨t2, h0, h⟩ := xs_some h
    obtain ⟨N, f, e1, e2, e3⟩ := xaI_some h0
    subst e3
    refine px_iald rfl e1 rfl e2 rfl ?_
    refine px_alu rfl rfl rfl ?_
    refine px_icge rfl (by decide) rfl (fun hc => ?_) (fun hc => ?_)
    · replace h := (if_pos hc).symm.trans h
      refine px_forget (n := 4) (lv' := [_, _, _, _, _, _, _]) rfl ?_
      refine px_forget (n := 5) (lv' := [_, _, _, _, _, _, _]) rfl ?_
      exact (r_M_findPool_166 @hk26 @hk33 h :)
    · replace h := (if_neg hc).symm.trans h
      refine px_ld rfl rfl rfl rfl rfl ?_
      obtain ⟨t3, h0, h⟩ := xs_some h
      obtain ⟨fs, e1, e2⟩ := xgR_some h0
      refine px_get rfl e1 e2 rfl ?_
      refine px_ld rfl rfl rfl rfl rfl ?_
      obtain ⟨t4, h0, h⟩ := xs_some h
      obtain ⟨N, f, e1, e2, e3⟩ := xaI_some h0
      subst e3
      refine px_bald rfl e1 rfl e2 rfl ?_
      refine px_ifeq rfl (by decide) rfl (fun hc => ?_) (fun hc => ?_)
      · replace h := (if_pos hc).symm.trans h
        refine px_ld rfl rfl rfl rfl rfl ?_
        refine px_ld rfl rfl rfl rfl rfl ?_
        refine px_ld rfl rfl rfl rfl rfl ?_
        refine px_ic (k := 1) rfl rfl rfl ?_
        obtain ⟨fs, h0, h⟩ := xs_some h
        have e1 := xo_some h0
        obtain ⟨t5, ph6, h0, h⟩ := xb_some h
        refine px_cV3 rfl rfl e1 rfl rfl rfl rfl rfl rfl rfl (r_M_nodeOf h0 :) (fun _ _ q => nomatch q.2) (fun r ph' q => ?_)
        obtain ⟨rfl, q⟩ := q
        cases q
        refine px_st (lv' := [_, _, _, _, _, _, _]) rfl rfl rfl rfl rfl rfl rfl ?_
        refine px_ld rfl rfl rfl rfl rfl ?_
        refine px_ic (k := 1) rfl rfl rfl ?_
        refine px_icne rfl (by decide) rfl (fun hc => ?_) (fun hc => ?_)
        · replace h := (if_neg hc).symm.trans h
          refine px_forget (n := 6) (lv' := [_, _, _, _, _, _, _]) rfl ?_
          exact (r_M_findPool_160 @hk26 @hk33 @ih h :)
        · replace h := (if_pos hc).symm.trans h
          refine px_ld rfl rfl rfl rfl rfl ?_
          obtain ⟨t7, h0, h⟩ := xs_some h
          obtain ⟨fs, e1, e2⟩ := xgR_some h0
          refine px_get rfl e1 e2 rfl ?_
          refine px_ld rfl rfl rfl rfl rfl ?_
          obtain ⟨t8, h0, h⟩ := xs_some h
          obtain ⟨N, f, e1, e2, e3⟩ := xaI_some h0
          subst e3
          refine px_iald rfl e1 rfl e2 rfl ?_
          refine px_ifne rfl (by decide) rfl (fun hc => ?_) (fun hc => ?_)
          · replace h := (if_neg hc).symm.trans h
            refine px_forget (n := 6) (lv' := [_, _, _, _, _, _, _]) rfl ?_
            exact (r_M_findPool_160 @hk26 @hk33 @ih h :)
          · replace h := (if_pos hc).symm.trans h
            refine px_ld rfl rfl rfl rfl rfl ?_
            obtain ⟨t9, h0, h⟩ := xs_some h
            obtain ⟨fs, e1, e2⟩ := xgR_some h0
            refine px_get rfl e1 e2 rfl ?_
            refine px_ld rfl rfl rfl rfl rfl ?_
            obtain ⟨t10, h0, h⟩ := xs_some h
            obtain ⟨N, f, e1, e2, e3⟩ := xaI_some h0
            subst e3
            refine px_iald rfl e1 rfl e2 rfl ?_
            refine px_ifge rfl (by decide) rfl (fun hc => ?_) (fun hc => ?_)
            · replace h := (if_pos hc).symm.trans h
              refine px_forget (n := 6) (lv' := [_, _, _, _, _, _, _]) rfl ?_
              exact (r_M_findPool_160 @hk26 @hk33 @ih h :)
            · replace h := (if_neg hc).symm.trans h
              refine px_ld rfl rfl rfl rfl rfl ?_
              refine px_ld rfl rfl rfl rfl rfl ?_
              refine px_ld rfl rfl rfl rfl rfl ?_
              obtain ⟨fs, h0, h⟩ := xs_some h
              have e1 := xo_some h0
              obtain ⟨u0, ph11, h0, h⟩ := xb_some h
              refine px_cV2 rfl rfl e1 rfl rfl rfl rfl rfl rfl rfl (r_M_toPool h0 :) (fun _ _ q => nomatch q.2) (fun r ph' q => ?_)
              obtain ⟨rfl, q⟩ := q
              cases q
              refine px_forget (n := 6) (lv' := [_, _, _, _, _, _, _]) rfl ?_
              exact (r_M_findPool_160 @hk26 @hk33 @ih h :)
      · replace h := (if_neg hc).symm.trans h
        refine px_goto rfl (by decide) rfl ?_
        exact (r_M_findPool_160 @hk26 @hk33 @ih h :)
def f_M_findPool_33 (F : Nat) (k26 : Nat → Int32 → px_H → Option (Unit × px_H)) : Nat → Nat → Int32 → Int32 → px_H → Option (Unit × px_H)
  | 0, _, _, _, _ => none
  | n + 1, a0, a1, a2, ph =>
    (xgI ph 12 50 a0).bind fun t1 =>
    if t1 ≤ a2 then
      f_M_findPool_172 F k26 a0 a1 ph
    else
      (xgR ph 12 51 a0).bind fun t2 =>
      (xaI ph 1 t2 a2).bind fun t3 =>
      (xo ph 12 a0).bind fun _ =>
      xb (f_M_object F a0 t3 ph) fun t4 ph5 =>
      (xgR ph5 12 54 a0).bind fun t6 =>
      (xaI ph5 1 t6 a2).bind fun t7 =>
      (xo ph5 12 a0).bind fun _ =>
      xb (f_M_isStrings F a0 t4 t7 ph5) fun t8 ph9 =>
      if t8 = 0 then
        f_M_findPool_166 F k26 (f_M_findPool_33 F k26 n) a0 a1 a2 ph9
      else
        (xgR ph9 12 54 a0).bind fun t10 =>
        (xaI ph9 1 t10 a2).bind fun t11 =>
        (xo ph9 12 a0).bind fun _ =>
        xb (f_M_beginning F a0 t4 t11 ph9) fun t12 ph13 =>
        f_M_findPool_89 F k26 (f_M_findPool_33 F k26 n) F a0 a1 a2 (t4 + t12.toInt32) (t4 + t12.toInt32) ph13
theorem r_M_findPool_33 {l : Launch} {g : px_G} {d F : Nat} {k26 : Nat → Int32 → px_H → Option (Unit × px_H)} (hk26 : ∀ {a0 : Nat} {a1 : Int32} {ph : px_H} {r : Unit} {ph' : px_H}, k26 a0 a1 ph = some (r, ph') → PW l g (d + 5) m_M_findPool 26 [.ref a0, .int a1, px_u, px_u, px_u, px_u, px_u] [] ph (px_qV r ph')) : ∀ (n : Nat) {a0 : Nat} {a1 : Int32} {a2 : Int32} {ph : px_H} {r : Unit} {ph' : px_H}, f_M_findPool_33 F k26 n a0 a1 a2 ph = some (r, ph') → PW l g (d + 5) m_M_findPool 33 [.ref a0, .int a1, .int a2, px_u, px_u, px_u, px_u] [] ph (px_qV r ph') := by
  intro n
  induction n with
  | zero => intro _ _ _ _ _ _ h; cases h
  | succ n ih =>
    intro a0 a1 a2 ph r ph' h
    unfold f_M_findPool_33 at h
    refine px_ld rfl rfl rfl rfl rfl ?_
    refine px_ld rfl rfl rfl rfl rfl ?_
    obtain ⟨t1, h0, h⟩ := xs_some h
    obtain ⟨fs, e1, e2⟩ := xgI_some h0
    refine px_get rfl e1 e2 rfl ?_
    refine px_icge rfl (by decide) rfl (fun hc => ?_) (fun hc => ?_)
    · replace h := (if_pos hc).symm.trans h
      refine px_forget (n := 2) (lv' := [_, _, _, _, _, _, _]) rfl ?_
      exact (r_M_findPool_172 @hk26 h :)
    · replace h := (if_neg hc).symm.trans h
      refine px_ld rfl rfl rfl rfl rfl ?_
      refine px_ld rfl rfl rfl rfl rfl ?_
      obtain ⟨t2, h0, h⟩ := xs_some h
      obtain ⟨fs, e1, e2⟩ := xgR_some h0
      refine px_get rfl e1 e2 rfl ?_
      refine px_ld rfl rfl rfl rfl rfl ?_
      obtain ⟨t3, h0, h⟩ := xs_some h
      obtain ⟨N, f, e1, e2, e3⟩ := xaI_some h0
      subst e3
      refine px_iald rfl e1 rfl e2 rfl ?_
      obtain ⟨fs, h0, h⟩ := xs_some h
      have e1 := xo_some h0
      obtain ⟨t4, ph5, h0, h⟩ := xb_some h
      refine px_cV1 rfl rfl e1 rfl rfl rfl rfl rfl rfl rfl (r_M_object h0 :) (fun _ _ q => nomatch q.2) (fun r ph' q => ?_)
      obtain ⟨rfl, q⟩ := q
      cases q
      refine px_st (lv' := [_, _, _, _, _, _, _]) rfl rfl rfl rfl rfl rfl rfl ?_
      refine px_ld rfl rfl rfl rfl rfl ?_
      refine px_ld rfl rfl rfl rfl rfl ?_
      refine px_ld rfl rfl rfl rfl rfl ?_
      obtain ⟨t6, h0, h⟩ := xs_some h
      obtain ⟨fs, e1, e2⟩ := xgR_some h0
      refine px_get rfl e1 e2 rfl ?_
      refine px_ld rfl rfl rfl rfl rfl ?_
      obtain ⟨t7, h0, h⟩ := xs_some h
      obtain ⟨N, f, e1, e2, e3⟩ := xaI_some h0
      subst e3
      refine px_iald rfl e1 rfl e2 rfl ?_
      obtain ⟨fs, h0, h⟩ := xs_some h
      have e1 := xo_some h0
      obtain ⟨t8, ph9, h0, h⟩ := xb_some h
      refine px_cV2 rfl rfl e1 rfl rfl rfl rfl rfl rfl rfl (r_M_isStrings h0 :) (fun _ _ q => nomatch q.2) (fun r ph' q => ?_)
      obtain ⟨rfl, q⟩ := q
      cases q
      refine px_ifne rfl (by decide) rfl (fun hc => ?_) (fun hc => ?_)
      · replace h := (if_neg hc).symm.trans h
        refine px_ld rfl rfl rfl rfl rfl ?_
        refine px_ld rfl rfl rfl rfl rfl ?_
        refine px_ld rfl rfl rfl rfl rfl ?_
        refine px_ld rfl rfl rfl rfl rfl ?_
        obtain ⟨t10, h0, h⟩ := xs_some h
        obtain ⟨fs, e1, e2⟩ := xgR_some h0
        refine px_get rfl e1 e2 rfl ?_
        refine px_ld rfl rfl rfl rfl rfl ?_
        obtain ⟨t11, h0, h⟩ := xs_some h
        obtain ⟨N, f, e1, e2, e3⟩ := xaI_some h0
        subst e3
        refine px_iald rfl e1 rfl e2 rfl ?_
        obtain ⟨fs, h0, h⟩ := xs_some h
        have e1 := xo_some h0
        obtain ⟨t12, ph13, h0, h⟩ := xb_some h
        refine px_cV2 rfl rfl e1 rfl rfl rfl rfl rfl rfl rfl (r_M_beginning h0 :) (fun _ _ q => nomatch q.2) (fun r ph' q => ?_)
        obtain ⟨rfl, q⟩ := q
        cases q
        refine px_alu rfl rfl rfl ?_
        refine px_alu rfl rfl rfl ?_
        refine px_st (lv' := [_, _, _, _, _, _, _]) rfl rfl rfl rfl rfl rfl rfl ?_
        refine px_ld rfl rfl rfl rfl rfl ?_
        refine px_st (lv' := [_, _, _, _, _, _, _]) rfl rfl rfl rfl rfl rfl rfl ?_
        refine px_forget (n := 3) (lv' := [_, _, _, _, _, _, _]) rfl ?_
        exact (r_M_findPool_89 @hk26 @ih _ h :)
      · replace h := (if_pos hc).symm.trans h
        refine px_goto rfl (by decide) rfl ?_
        refine px_forget (n := 3) (lv' := [_, _, _, _, _, _, _]) rfl ?_
        exact (r_M_findPool_166 @hk26 @ih h :)
def f_M_findPool_26 (F : Nat) : Nat → Nat → Int32 → px_H → Option (Unit × px_H)
  | 0, _, _, _ => none
  | n + 1, a0, a1, ph =>
    if (nI 2) ≤ a1 then
      f_M_findPool_178 F ph
    else
      f_M_findPool_33 F (f_M_findPool_26 F n) F a0 a1 (nI 0) ph
theorem r_M_findPool_26 {l : Launch} {g : px_G} {d F : Nat} : ∀ (n : Nat) {a0 : Nat} {a1 : Int32} {ph : px_H} {r : Unit} {ph' : px_H}, f_M_findPool_26 F n a0 a1 ph = some (r, ph') → PW l g (d + 5) m_M_findPool 26 [.ref a0, .int a1, px_u, px_u, px_u, px_u, px_u] [] ph (px_qV r ph') := by
  intro n
  induction n with
  | zero => intro _ _ _ _ _ h; cases h
  | succ n ih =>
    intro a0 a1 ph r ph' h
    unfold f_M_findPool_26 at h
    refine px_ld rfl rfl rfl rfl rfl ?_
    refine px_ic (k := 2) rfl rfl rfl ?_
    refine px_icge rfl (by decide) rfl (fun hc => ?_) (fun hc => ?_)
    · replace h := (if_pos hc).symm.trans h
      refine px_forget (n := 0) (lv' := [_, _, _, _, _, _, _]) rfl ?_
      refine px_forget (n := 1) (lv' := [_, _, _, _, _, _, _]) rfl ?_
      exact (r_M_findPool_178 h :)
    · replace h := (if_neg hc).symm.trans h
      refine px_ic (k := 0) rfl rfl rfl ?_
      refine px_st (lv' := [_, _, _, _, _, _, _]) rfl rfl rfl rfl rfl rfl rfl ?_
      exact (r_M_findPool_33 @ih _ h :)
def f_M_findPool (F : Nat) (a0 : Nat) (ph : px_H) : Option (Unit × px_H) :=
  (xpI ph 12 89 a0 (nI 2)).bind fun ph1 =>
  (xgR ph1 12 92 a0).bind fun t2 =>
  (xsI ph1 1 t2 (nI 1) (nI 0)).bind fun ph3 =>
  (xgR ph3 12 94 a0).bind fun t4 =>
  (xsI ph3 1 t4 (nI 1) (Int32.ofInt (-1))).bind fun ph5 =>
  (xpI ph5 12 88 a0 (nI 0)).bind fun ph6 =>
  f_M_findPool_26 F F a0 (nI 0) ph6
theorem r_M_findPool {l : Launch} {g : px_G} {d F : Nat} {a0 : Nat} {ph : px_H} {r : Unit} {ph' : px_H} (h : f_M_findPool F a0 ph = some (r, ph')) : PW l g (d + 5) m_M_findPool 0 [.ref a0, px_u, px_u, px_u, px_u, px_u, px_u] [] ph (px_qV r ph') := by
  unfold f_M_findPool at h
  refine px_ld rfl rfl rfl rfl rfl ?_
  refine px_ic (k := 2) rfl rfl rfl ?_
  obtain ⟨ph1, h0, h⟩ := xs_some h
  obtain ⟨fs, e1, e2, e3⟩ := xpI_some h0
  subst e3
  refine px_put rfl e1 e2 trivial rfl ?_
  refine px_ld rfl rfl rfl rfl rfl ?_
  obtain ⟨t2, h0, h⟩ := xs_some h
  obtain ⟨fs, e1, e2⟩ := xgR_some h0
  refine px_get rfl e1 e2 rfl ?_
  refine px_ic (k := 1) rfl rfl rfl ?_
  refine px_ic (k := 0) rfl rfl rfl ?_
  obtain ⟨ph3, h0, h⟩ := xs_some h
  obtain ⟨N, f, e1, e2, e3⟩ := xsI_some h0
  subst e3
  refine px_iast rfl e1 rfl e2 rfl ?_
  refine px_ld rfl rfl rfl rfl rfl ?_
  obtain ⟨t4, h0, h⟩ := xs_some h
  obtain ⟨fs, e1, e2⟩ := xgR_some h0
  refine px_get rfl e1 e2 rfl ?_
  refine px_ic (k := 1) rfl rfl rfl ?_
  refine px_alu rfl rfl rfl ?_
  obtain ⟨ph5, h0, h⟩ := xs_some h
  obtain ⟨N, f, e1, e2, e3⟩ := xsI_some h0
  subst e3
  refine px_iast rfl e1 rfl e2 rfl ?_
  refine px_ld rfl rfl rfl rfl rfl ?_
  refine px_ic (k := 0) rfl rfl rfl ?_
  obtain ⟨ph6, h0, h⟩ := xs_some h
  obtain ⟨fs, e1, e2, e3⟩ := xpI_some h0
  subst e3
  refine px_put rfl e1 e2 trivial rfl ?_
  refine px_ic (k := 0) rfl rfl rfl ?_
  refine px_st (lv' := [_, _, _, _, _, _, _]) rfl rfl rfl rfl rfl rfl rfl ?_
  exact (r_M_findPool_26 _ h :)
def f_M_isSectionNow_35 (F : Nat) (s0 : Int32) (ph : px_H) : Option (Int32 × px_H) :=
  xz s0 ph
theorem r_M_isSectionNow_35 {l : Launch} {g : px_G} {d F : Nat} {s0 : Int32} {ph : px_H} {r : Int32} {ph' : px_H} (h : f_M_isSectionNow_35 F s0 ph = some (r, ph')) : PW l g (d + 4) m_M_isSectionNow 35 [px_u, px_u, px_u] [.int s0] ph (px_qI r ph') := by
  unfold f_M_isSectionNow_35 at h
  obtain ⟨e0, e1, e2⟩ := xz_some h
  subst e1 e2
  exact px_iret rfl (Or.inr ⟨rfl, e0⟩) rfl ⟨rfl, rfl⟩
def f_M_isSectionNow_34 (F : Nat) (ph : px_H) : Option (Int32 × px_H) :=
  f_M_isSectionNow_35 F (nI 0) ph
theorem r_M_isSectionNow_34 {l : Launch} {g : px_G} {d F : Nat} {ph : px_H} {r : Int32} {ph' : px_H} (h : f_M_isSectionNow_34 F ph = some (r, ph')) : PW l g (d + 4) m_M_isSectionNow 34 [px_u, px_u, px_u] [] ph (px_qI r ph') := by
  unfold f_M_isSectionNow_34 at h
  refine px_ic (k := 0) rfl rfl rfl ?_
  exact (r_M_isSectionNow_35 h :)
def f_M_isSectionNow (F : Nat) (a0 : Nat) (a1 : Int32) (a2 : Int32) (ph : px_H) : Option (Int32 × px_H) :=
  if a2 ≤ 0 then
    f_M_isSectionNow_34 F ph
  else
    (xo ph 12 a0).bind fun _ =>
    xb (f_M_object F a0 a1 ph) fun t1 ph2 =>
    (xo ph2 12 a0).bind fun _ =>
    xb (f_M_sections F a0 t1 ph2) fun t3 ph4 =>
    if t3 ≤ a2 then
      f_M_isSectionNow_34 F ph4
    else
      (xo ph4 12 a0).bind fun _ =>
      xb (f_M_object F a0 a1 ph4) fun t5 ph6 =>
      (xo ph6 12 a0).bind fun _ =>
      xb (f_M_isKept F a0 t5 a2 ph6) fun t7 ph8 =>
      if t7 = 0 then
        f_M_isSectionNow_34 F ph8
      else
        f_M_isSectionNow_35 F (nI 1) ph8
theorem r_M_isSectionNow {l : Launch} {g : px_G} {d F : Nat} {a0 : Nat} {a1 : Int32} {a2 : Int32} {ph : px_H} {r : Int32} {ph' : px_H} (h : f_M_isSectionNow F a0 a1 a2 ph = some (r, ph')) : PW l g (d + 4) m_M_isSectionNow 0 [.ref a0, .int a1, .int a2] [] ph (px_qI r ph') := by
  unfold f_M_isSectionNow at h
  refine px_ld rfl rfl rfl rfl rfl ?_
  refine px_ifle rfl rfl rfl (fun hc => ?_) (fun hc => ?_)
  · replace h := (if_pos hc).symm.trans h
    refine px_forget (n := 0) (lv' := [_, _, _]) rfl ?_
    refine px_forget (n := 1) (lv' := [_, _, _]) rfl ?_
    refine px_forget (n := 2) (lv' := [_, _, _]) rfl ?_
    exact (r_M_isSectionNow_34 h :)
  · replace h := (if_neg hc).symm.trans h
    refine px_ld rfl rfl rfl rfl rfl ?_
    refine px_ld rfl rfl rfl rfl rfl ?_
    refine px_ld rfl rfl rfl rfl rfl ?_
    refine px_ld rfl rfl rfl rfl rfl ?_
    obtain ⟨fs, h0, h⟩ := xs_some h
    have e1 := xo_some h0
    obtain ⟨t1, ph2, h0, h⟩ := xb_some h
    refine px_cV1 rfl rfl e1 rfl rfl rfl rfl rfl rfl rfl (r_M_object h0 :) (fun _ _ q => nomatch q.2) (fun r ph' q => ?_)
    obtain ⟨rfl, q⟩ := q
    cases q
    obtain ⟨fs, h0, h⟩ := xs_some h
    have e1 := xo_some h0
    obtain ⟨t3, ph4, h0, h⟩ := xb_some h
    refine px_cV1 rfl rfl e1 rfl rfl rfl rfl rfl rfl rfl (r_M_sections h0 :) (fun _ _ q => nomatch q.2) (fun r ph' q => ?_)
    obtain ⟨rfl, q⟩ := q
    cases q
    refine px_icge rfl rfl rfl (fun hc => ?_) (fun hc => ?_)
    · replace h := (if_pos hc).symm.trans h
      refine px_forget (n := 0) (lv' := [_, _, _]) rfl ?_
      refine px_forget (n := 1) (lv' := [_, _, _]) rfl ?_
      refine px_forget (n := 2) (lv' := [_, _, _]) rfl ?_
      exact (r_M_isSectionNow_34 h :)
    · replace h := (if_neg hc).symm.trans h
      refine px_ld rfl rfl rfl rfl rfl ?_
      refine px_ld rfl rfl rfl rfl rfl ?_
      refine px_ld rfl rfl rfl rfl rfl ?_
      obtain ⟨fs, h0, h⟩ := xs_some h
      have e1 := xo_some h0
      obtain ⟨t5, ph6, h0, h⟩ := xb_some h
      refine px_cV1 rfl rfl e1 rfl rfl rfl rfl rfl rfl rfl (r_M_object h0 :) (fun _ _ q => nomatch q.2) (fun r ph' q => ?_)
      obtain ⟨rfl, q⟩ := q
      cases q
      refine px_ld rfl rfl rfl rfl rfl ?_
      obtain ⟨fs, h0, h⟩ := xs_some h
      have e1 := xo_some h0
      obtain ⟨t7, ph8, h0, h⟩ := xb_some h
      refine px_cV2 rfl rfl e1 rfl rfl rfl rfl rfl rfl rfl (r_M_isKept h0 :) (fun _ _ q => nomatch q.2) (fun r ph' q => ?_)
      obtain ⟨rfl, q⟩ := q
      cases q
      refine px_ifeq rfl rfl rfl (fun hc => ?_) (fun hc => ?_)
      · replace h := (if_pos hc).symm.trans h
        refine px_forget (n := 0) (lv' := [_, _, _]) rfl ?_
        refine px_forget (n := 1) (lv' := [_, _, _]) rfl ?_
        refine px_forget (n := 2) (lv' := [_, _, _]) rfl ?_
        exact (r_M_isSectionNow_34 h :)
      · replace h := (if_neg hc).symm.trans h
        refine px_ic (k := 1) rfl rfl rfl ?_
        refine px_goto rfl rfl rfl ?_
        refine px_forget (n := 0) (lv' := [_, _, _]) rfl ?_
        refine px_forget (n := 1) (lv' := [_, _, _]) rfl ?_
        refine px_forget (n := 2) (lv' := [_, _, _]) rfl ?_
        exact (r_M_isSectionNow_35 h :)
def f_M_isInside_122 (F : Nat) (s0 : Int32) (ph : px_H) : Option (Int32 × px_H) :=
  xz s0 ph
theorem r_M_isInside_122 {l : Launch} {g : px_G} {d F : Nat} {s0 : Int32} {ph : px_H} {r : Int32} {ph' : px_H} (h : f_M_isInside_122 F s0 ph = some (r, ph')) : PW l g (d + 8) m_M_isInside 122 [px_u, px_u, px_u, px_u, px_u] [.int s0] ph (px_qI r ph') := by
  unfold f_M_isInside_122 at h
  obtain ⟨e0, e1, e2⟩ := xz_some h
  subst e1 e2
  exact px_iret rfl (Or.inr ⟨rfl, e0⟩) rfl ⟨rfl, rfl⟩
def f_M_isInside_121 (F : Nat) (ph : px_H) : Option (Int32 × px_H) :=
  f_M_isInside_122 F (nI 0) ph
theorem r_M_isInside_121 {l : Launch} {g : px_G} {d F : Nat} {ph : px_H} {r : Int32} {ph' : px_H} (h : f_M_isInside_121 F ph = some (r, ph')) : PW l g (d + 8) m_M_isInside 121 [px_u, px_u, px_u, px_u, px_u] [] ph (px_qI r ph') := by
  unfold f_M_isInside_121 at h
  refine px_ic (k := 0) rfl rfl rfl ?_
  exact (r_M_isInside_122 h :)
def f_M_isInside_85 (F : Nat) (a0 : Nat) (a4 : Int32) (ph : px_H) : Option (Int32 × px_H) :=
  (xgR ph 12 24 a0).bind fun t1 =>
  (xaI ph 1 t1 a4).bind fun t2 =>
  (xgR ph 12 24 a0).bind fun t3 =>
  (xaI ph 1 t3 a4).bind fun t4 =>
  (xgR ph 12 25 a0).bind fun t5 =>
  (xaI ph 1 t5 a4).bind fun t6 =>
  (xo ph 12 a0).bind fun _ =>
  xb (f_M_whereNow F a0 t4 t6 ph) fun t7 ph8 =>
  (xo ph8 12 a0).bind fun _ =>
  xb (f_M_isSectionNow F a0 t2 t7 ph8) fun t9 ph10 =>
  if t9 = 0 then
    f_M_isInside_121 F ph10
  else
    f_M_isInside_122 F (nI 1) ph10
theorem r_M_isInside_85 {l : Launch} {g : px_G} {d F : Nat} {a0 : Nat} {a4 : Int32} {ph : px_H} {r : Int32} {ph' : px_H} (h : f_M_isInside_85 F a0 a4 ph = some (r, ph')) : PW l g (d + 8) m_M_isInside 85 [.ref a0, px_u, px_u, px_u, .int a4] [] ph (px_qI r ph') := by
  unfold f_M_isInside_85 at h
  refine px_ld rfl rfl rfl rfl rfl ?_
  refine px_ld rfl rfl rfl rfl rfl ?_
  obtain ⟨t1, h0, h⟩ := xs_some h
  obtain ⟨fs, e1, e2⟩ := xgR_some h0
  refine px_get rfl e1 e2 rfl ?_
  refine px_ld rfl rfl rfl rfl rfl ?_
  obtain ⟨t2, h0, h⟩ := xs_some h
  obtain ⟨N, f, e1, e2, e3⟩ := xaI_some h0
  subst e3
  refine px_iald rfl e1 rfl e2 rfl ?_
  refine px_ld rfl rfl rfl rfl rfl ?_
  refine px_ld rfl rfl rfl rfl rfl ?_
  obtain ⟨t3, h0, h⟩ := xs_some h
  obtain ⟨fs, e1, e2⟩ := xgR_some h0
  refine px_get rfl e1 e2 rfl ?_
  refine px_ld rfl rfl rfl rfl rfl ?_
  obtain ⟨t4, h0, h⟩ := xs_some h
  obtain ⟨N, f, e1, e2, e3⟩ := xaI_some h0
  subst e3
  refine px_iald rfl e1 rfl e2 rfl ?_
  refine px_ld rfl rfl rfl rfl rfl ?_
  obtain ⟨t5, h0, h⟩ := xs_some h
  obtain ⟨fs, e1, e2⟩ := xgR_some h0
  refine px_get rfl e1 e2 rfl ?_
  refine px_ld rfl rfl rfl rfl rfl ?_
  obtain ⟨t6, h0, h⟩ := xs_some h
  obtain ⟨N, f, e1, e2, e3⟩ := xaI_some h0
  subst e3
  refine px_iald rfl e1 rfl e2 rfl ?_
  obtain ⟨fs, h0, h⟩ := xs_some h
  have e1 := xo_some h0
  obtain ⟨t7, ph8, h0, h⟩ := xb_some h
  refine px_cV2 rfl rfl e1 rfl rfl rfl rfl rfl rfl rfl (r_M_whereNow h0 :) (fun _ _ q => nomatch q.2) (fun r ph' q => ?_)
  obtain ⟨rfl, q⟩ := q
  cases q
  obtain ⟨fs, h0, h⟩ := xs_some h
  have e1 := xo_some h0
  obtain ⟨t9, ph10, h0, h⟩ := xb_some h
  refine px_cV2 rfl rfl e1 rfl rfl rfl rfl rfl rfl rfl (r_M_isSectionNow h0 :) (fun _ _ q => nomatch q.2) (fun r ph' q => ?_)
  obtain ⟨rfl, q⟩ := q
  cases q
  refine px_ifeq rfl (by decide) rfl (fun hc => ?_) (fun hc => ?_)
  · replace h := (if_pos hc).symm.trans h
    refine px_forget (n := 0) (lv' := [_, _, _, _, _]) rfl ?_
    refine px_forget (n := 4) (lv' := [_, _, _, _, _]) rfl ?_
    exact (r_M_isInside_121 h :)
  · replace h := (if_neg hc).symm.trans h
    refine px_ic (k := 1) rfl rfl rfl ?_
    refine px_goto rfl (by decide) rfl ?_
    refine px_forget (n := 0) (lv' := [_, _, _, _, _]) rfl ?_
    refine px_forget (n := 4) (lv' := [_, _, _, _, _]) rfl ?_
    exact (r_M_isInside_122 h :)
def f_M_isInside (F : Nat) (a0 : Nat) (a1 : Int32) (a2 : Int32) (ph : px_H) : Option (Int32 × px_H) :=
  if a2 = 0 then
    some (nI 0, ph)
  else
    (xo ph 12 a0).bind fun _ =>
    xb (f_M_object F a0 a1 ph) fun t1 ph2 =>
    (xo ph2 12 a0).bind fun _ =>
    xb (f_M_bind F a0 t1 a2 ph2) fun t3 ph4 =>
    if t3 = 0 then
      (xo ph4 12 a0).bind fun _ =>
      xb (f_M_whereNow F a0 a1 a2 ph4) fun t15 ph16 =>
      (xo ph16 12 a0).bind fun _ =>
      xb (f_M_isSectionNow F a0 a1 t15 ph16) fun t17 ph18 =>
      xz t17 ph18
    else
      (xo ph4 12 a0).bind fun _ =>
      xb (f_M_nameOf F a0 t1 a2 ph4) fun t5 ph6 =>
      (xgR ph6 12 23 a0).bind fun t7 =>
      (xaI ph6 1 t7 t5).bind fun t8 =>
      if t8 = (nI 2) then
        some (nI 1, ph6)
      else
        (xgR ph6 12 23 a0).bind fun t9 =>
        (xaI ph6 1 t9 t5).bind fun t10 =>
        if t10 = (nI 1) then
          f_M_isInside_85 F a0 t5 ph6
        else
          (xgR ph6 12 23 a0).bind fun t11 =>
          (xaI ph6 1 t11 t5).bind fun t12 =>
          if t12 = (nI 3) then
            (xo ph6 12 a0).bind fun _ =>
            xb (f_M_isGiven F a0 t5 ph6) fun t13 ph14 =>
            if t13 = 0 then
              f_M_isInside_85 F a0 t5 ph14
            else
              f_M_isInside_121 F ph14
          else
            f_M_isInside_121 F ph6
theorem r_M_isInside {l : Launch} {g : px_G} {d F : Nat} {a0 : Nat} {a1 : Int32} {a2 : Int32} {ph : px_H} {r : Int32} {ph' : px_H} (h : f_M_isInside F a0 a1 a2 ph = some (r, ph')) : PW l g (d + 8) m_M_isInside 0 [.ref a0, .int a1, .int a2, px_u, px_u] [] ph (px_qI r ph') := by
  unfold f_M_isInside at h
  refine px_ld rfl rfl rfl rfl rfl ?_
  refine px_ifne rfl (by decide) rfl (fun hc => ?_) (fun hc => ?_)
  · replace h := (if_neg hc).symm.trans h
    refine px_ld rfl rfl rfl rfl rfl ?_
    refine px_ld rfl rfl rfl rfl rfl ?_
    obtain ⟨fs, h0, h⟩ := xs_some h
    have e1 := xo_some h0
    obtain ⟨t1, ph2, h0, h⟩ := xb_some h
    refine px_cV1 rfl rfl e1 rfl rfl rfl rfl rfl rfl rfl (r_M_object h0 :) (fun _ _ q => nomatch q.2) (fun r ph' q => ?_)
    obtain ⟨rfl, q⟩ := q
    cases q
    refine px_st (lv' := [_, _, _, _, _]) rfl rfl rfl rfl rfl rfl rfl ?_
    refine px_ld rfl rfl rfl rfl rfl ?_
    refine px_ld rfl rfl rfl rfl rfl ?_
    refine px_ld rfl rfl rfl rfl rfl ?_
    obtain ⟨fs, h0, h⟩ := xs_some h
    have e1 := xo_some h0
    obtain ⟨t3, ph4, h0, h⟩ := xb_some h
    refine px_cV2 rfl rfl e1 rfl rfl rfl rfl rfl rfl rfl (r_M_bind h0 :) (fun _ _ q => nomatch q.2) (fun r ph' q => ?_)
    obtain ⟨rfl, q⟩ := q
    cases q
    refine px_ifne rfl (by decide) rfl (fun hc => ?_) (fun hc => ?_)
    · replace h := (if_neg hc).symm.trans h
      refine px_ld rfl rfl rfl rfl rfl ?_
      refine px_ld rfl rfl rfl rfl rfl ?_
      refine px_ld rfl rfl rfl rfl rfl ?_
      obtain ⟨fs, h0, h⟩ := xs_some h
      have e1 := xo_some h0
      obtain ⟨t5, ph6, h0, h⟩ := xb_some h
      refine px_cV2 rfl rfl e1 rfl rfl rfl rfl rfl rfl rfl (r_M_nameOf h0 :) (fun _ _ q => nomatch q.2) (fun r ph' q => ?_)
      obtain ⟨rfl, q⟩ := q
      cases q
      refine px_st (lv' := [_, _, _, _, _]) rfl rfl rfl rfl rfl rfl rfl ?_
      refine px_ld rfl rfl rfl rfl rfl ?_
      obtain ⟨t7, h0, h⟩ := xs_some h
      obtain ⟨fs, e1, e2⟩ := xgR_some h0
      refine px_get rfl e1 e2 rfl ?_
      refine px_ld rfl rfl rfl rfl rfl ?_
      obtain ⟨t8, h0, h⟩ := xs_some h
      obtain ⟨N, f, e1, e2, e3⟩ := xaI_some h0
      subst e3
      refine px_iald rfl e1 rfl e2 rfl ?_
      refine px_ic (k := 2) rfl rfl rfl ?_
      refine px_icne rfl (by decide) rfl (fun hc => ?_) (fun hc => ?_)
      · replace h := (if_neg hc).symm.trans h
        refine px_ld rfl rfl rfl rfl rfl ?_
        obtain ⟨t9, h0, h⟩ := xs_some h
        obtain ⟨fs, e1, e2⟩ := xgR_some h0
        refine px_get rfl e1 e2 rfl ?_
        refine px_ld rfl rfl rfl rfl rfl ?_
        obtain ⟨t10, h0, h⟩ := xs_some h
        obtain ⟨N, f, e1, e2, e3⟩ := xaI_some h0
        subst e3
        refine px_iald rfl e1 rfl e2 rfl ?_
        refine px_ic (k := 1) rfl rfl rfl ?_
        refine px_iceq rfl (by decide) rfl (fun hc => ?_) (fun hc => ?_)
        · replace h := (if_pos hc).symm.trans h
          refine px_forget (n := 1) (lv' := [_, _, _, _, _]) rfl ?_
          refine px_forget (n := 2) (lv' := [_, _, _, _, _]) rfl ?_
          refine px_forget (n := 3) (lv' := [_, _, _, _, _]) rfl ?_
          exact (r_M_isInside_85 h :)
        · replace h := (if_neg hc).symm.trans h
          refine px_ld rfl rfl rfl rfl rfl ?_
          obtain ⟨t11, h0, h⟩ := xs_some h
          obtain ⟨fs, e1, e2⟩ := xgR_some h0
          refine px_get rfl e1 e2 rfl ?_
          refine px_ld rfl rfl rfl rfl rfl ?_
          obtain ⟨t12, h0, h⟩ := xs_some h
          obtain ⟨N, f, e1, e2, e3⟩ := xaI_some h0
          subst e3
          refine px_iald rfl e1 rfl e2 rfl ?_
          refine px_ic (k := 3) rfl rfl rfl ?_
          refine px_icne rfl (by decide) rfl (fun hc => ?_) (fun hc => ?_)
          · replace h := (if_neg hc).symm.trans h
            refine px_forget (n := 0) (lv' := [_, _, _, _, _]) rfl ?_
            refine px_forget (n := 1) (lv' := [_, _, _, _, _]) rfl ?_
            refine px_forget (n := 2) (lv' := [_, _, _, _, _]) rfl ?_
            refine px_forget (n := 3) (lv' := [_, _, _, _, _]) rfl ?_
            refine px_forget (n := 4) (lv' := [_, _, _, _, _]) rfl ?_
            exact (r_M_isInside_121 h :)
          · replace h := (if_pos hc).symm.trans h
            refine px_ld rfl rfl rfl rfl rfl ?_
            refine px_ld rfl rfl rfl rfl rfl ?_
            obtain ⟨fs, h0, h⟩ := xs_some h
            have e1 := xo_some h0
            obtain ⟨t13, ph14, h0, h⟩ := xb_some h
            refine px_cV1 rfl rfl e1 rfl rfl rfl rfl rfl rfl rfl (r_M_isGiven h0 :) (fun _ _ q => nomatch q.2) (fun r ph' q => ?_)
            obtain ⟨rfl, q⟩ := q
            cases q
            refine px_ifne rfl (by decide) rfl (fun hc => ?_) (fun hc => ?_)
            · replace h := (if_neg hc).symm.trans h
              refine px_forget (n := 0) (lv' := [_, _, _, _, _]) rfl ?_
              refine px_forget (n := 1) (lv' := [_, _, _, _, _]) rfl ?_
              refine px_forget (n := 2) (lv' := [_, _, _, _, _]) rfl ?_
              refine px_forget (n := 3) (lv' := [_, _, _, _, _]) rfl ?_
              refine px_forget (n := 4) (lv' := [_, _, _, _, _]) rfl ?_
              exact (r_M_isInside_121 h :)
            · replace h := (if_pos hc).symm.trans h
              refine px_forget (n := 1) (lv' := [_, _, _, _, _]) rfl ?_
              refine px_forget (n := 2) (lv' := [_, _, _, _, _]) rfl ?_
              refine px_forget (n := 3) (lv' := [_, _, _, _, _]) rfl ?_
              exact (r_M_isInside_85 h :)
      · replace h := (if_pos hc).symm.trans h
        refine px_ic (k := 1) rfl rfl rfl ?_
        cases h
        exact px_iret rfl (Or.inr ⟨rfl, Or.inr rfl⟩) rfl ⟨rfl, rfl⟩
    · replace h := (if_pos hc).symm.trans h
      refine px_ld rfl rfl rfl rfl rfl ?_
      refine px_ld rfl rfl rfl rfl rfl ?_
      refine px_ld rfl rfl rfl rfl rfl ?_
      refine px_ld rfl rfl rfl rfl rfl ?_
      refine px_ld rfl rfl rfl rfl rfl ?_
      obtain ⟨fs, h0, h⟩ := xs_some h
      have e1 := xo_some h0
      obtain ⟨t15, ph16, h0, h⟩ := xb_some h
      refine px_cV2 rfl rfl e1 rfl rfl rfl rfl rfl rfl rfl (r_M_whereNow h0 :) (fun _ _ q => nomatch q.2) (fun r ph' q => ?_)
      obtain ⟨rfl, q⟩ := q
      cases q
      obtain ⟨fs, h0, h⟩ := xs_some h
      have e1 := xo_some h0
      obtain ⟨t17, ph18, h0, h⟩ := xb_some h
      refine px_cV2 rfl rfl e1 rfl rfl rfl rfl rfl rfl rfl (r_M_isSectionNow h0 :) (fun _ _ q => nomatch q.2) (fun r ph' q => ?_)
      obtain ⟨rfl, q⟩ := q
      cases q
      obtain ⟨e0, e1, e2⟩ := xz_some h
      subst e1 e2
      exact px_iret rfl (Or.inr ⟨rfl, e0⟩) rfl ⟨rfl, rfl⟩
  · replace h := (if_pos hc).symm.trans h
    refine px_ic (k := 0) rfl rfl rfl ?_
    cases h
    exact px_iret rfl (Or.inr ⟨rfl, Or.inl rfl⟩) rfl ⟨rfl, rfl⟩
def f_M_shortKind_224 (F : Nat) (s0 : Int32) (ph : px_H) : Option (Int32 × px_H) :=
  some (s0, ph)
theorem r_M_shortKind_224 {l : Launch} {g : px_G} {d F : Nat} {s0 : Int32} {ph : px_H} {r : Int32} {ph' : px_H} (h : f_M_shortKind_224 F s0 ph = some (r, ph')) : PW l g (d + 9) m_M_shortKind 224 [px_u, px_u, px_u, px_u, px_u, px_u, px_u, px_u, px_u, px_u, px_u, px_u, px_u] [.int s0] ph (px_qI r ph') := by
  unfold f_M_shortKind_224 at h
  cases h
  exact px_iret rfl (Or.inl rfl) rfl ⟨rfl, rfl⟩
def f_M_shortKind_197 (F : Nat) (ph : px_H) : Option (Int32 × px_H) :=
  f_M_shortKind_224 F (nI 0) ph
theorem r_M_shortKind_197 {l : Launch} {g : px_G} {d F : Nat} {ph : px_H} {r : Int32} {ph' : px_H} (h : f_M_shortKind_197 F ph = some (r, ph')) : PW l g (d + 9) m_M_shortKind 197 [px_u, px_u, px_u, px_u, px_u, px_u, px_u, px_u, px_u, px_u, px_u, px_u, px_u] [] ph (px_qI r ph') := by
  unfold f_M_shortKind_197 at h
  refine px_ic (k := 0) rfl rfl rfl ?_
  refine px_goto rfl (by decide) rfl ?_
  exact (r_M_shortKind_224 h :)
def f_M_shortKind_180 (F : Nat) (a6 : Int64) (a11 : Int32) (a12 : Int32) (ph : px_H) : Option (Int32 × px_H) :=
  if a6 = ((41 : Int64)) then
    if a11 = (nI 255) then
      if a12 = (nI 21) then
        f_M_shortKind_224 F (nI 2) ph
      else
        if a12 = (nI 37) then
          f_M_shortKind_224 F (nI 3) ph
        else
          f_M_shortKind_224 F (nI 0) ph
    else
      f_M_shortKind_197 F ph
  else
    f_M_shortKind_197 F ph
theorem r_M_shortKind_180 {l : Launch} {g : px_G} {d F : Nat} {a6 : Int64} {a11 : Int32} {a12 : Int32} {ph : px_H} {r : Int32} {ph' : px_H} (h : f_M_shortKind_180 F a6 a11 a12 ph = some (r, ph')) : PW l g (d + 9) m_M_shortKind 180 [px_u, px_u, px_u, px_u, px_u, px_u, .long a6, px_u, px_u, px_u, px_u, .int a11, .int a12] [] ph (px_qI r ph') := by
  unfold f_M_shortKind_180 at h
  refine px_ld rfl rfl rfl rfl rfl ?_
  refine px_ldc2 rfl rfl rfl ?_
  refine px_alu rfl rfl rfl ?_
  refine px_ifne rfl (by decide) rfl (fun hc => ?_) (fun hc => ?_)
  · replace h := (if_neg (fun q => hc ((lg_cmp_eq _ _).mpr q))).symm.trans h
    refine px_forget (n := 6) (lv' := [_, _, _, _, _, _, _, _, _, _, _, _, _]) rfl ?_
    refine px_forget (n := 11) (lv' := [_, _, _, _, _, _, _, _, _, _, _, _, _]) rfl ?_
    refine px_forget (n := 12) (lv' := [_, _, _, _, _, _, _, _, _, _, _, _, _]) rfl ?_
    exact (r_M_shortKind_197 h :)
  · replace h := (if_pos ((lg_cmp_eq _ _).mp hc)).symm.trans h
    refine px_ld rfl rfl rfl rfl rfl ?_
    refine px_ic (k := 255) rfl rfl rfl ?_
    refine px_iceq rfl (by decide) rfl (fun hc => ?_) (fun hc => ?_)
    · replace h := (if_pos hc).symm.trans h
      refine px_ld rfl rfl rfl rfl rfl ?_
      refine px_ic (k := 21) rfl rfl rfl ?_
      refine px_icne rfl (by decide) rfl (fun hc => ?_) (fun hc => ?_)
      · replace h := (if_neg hc).symm.trans h
        refine px_ld rfl rfl rfl rfl rfl ?_
        refine px_ic (k := 37) rfl rfl rfl ?_
        refine px_icne rfl (by decide) rfl (fun hc => ?_) (fun hc => ?_)
        · replace h := (if_neg hc).symm.trans h
          refine px_ic (k := 0) rfl rfl rfl ?_
          refine px_forget (n := 6) (lv' := [_, _, _, _, _, _, _, _, _, _, _, _, _]) rfl ?_
          refine px_forget (n := 11) (lv' := [_, _, _, _, _, _, _, _, _, _, _, _, _]) rfl ?_
          refine px_forget (n := 12) (lv' := [_, _, _, _, _, _, _, _, _, _, _, _, _]) rfl ?_
          exact (r_M_shortKind_224 h :)
        · replace h := (if_pos hc).symm.trans h
          refine px_ic (k := 3) rfl rfl rfl ?_
          refine px_goto rfl (by decide) rfl ?_
          refine px_forget (n := 6) (lv' := [_, _, _, _, _, _, _, _, _, _, _, _, _]) rfl ?_
          refine px_forget (n := 11) (lv' := [_, _, _, _, _, _, _, _, _, _, _, _, _]) rfl ?_
          refine px_forget (n := 12) (lv' := [_, _, _, _, _, _, _, _, _, _, _, _, _]) rfl ?_
          exact (r_M_shortKind_224 h :)
      · replace h := (if_pos hc).symm.trans h
        refine px_ic (k := 2) rfl rfl rfl ?_
        refine px_goto rfl (by decide) rfl ?_
        refine px_forget (n := 6) (lv' := [_, _, _, _, _, _, _, _, _, _, _, _, _]) rfl ?_
        refine px_forget (n := 11) (lv' := [_, _, _, _, _, _, _, _, _, _, _, _, _]) rfl ?_
        refine px_forget (n := 12) (lv' := [_, _, _, _, _, _, _, _, _, _, _, _, _]) rfl ?_
        exact (r_M_shortKind_224 h :)
    · replace h := (if_neg hc).symm.trans h
      refine px_forget (n := 6) (lv' := [_, _, _, _, _, _, _, _, _, _, _, _, _]) rfl ?_
      refine px_forget (n := 11) (lv' := [_, _, _, _, _, _, _, _, _, _, _, _, _]) rfl ?_
      refine px_forget (n := 12) (lv' := [_, _, _, _, _, _, _, _, _, _, _, _, _]) rfl ?_
      exact (r_M_shortKind_197 h :)
def f_M_shortKind_103 (F : Nat) (ph : px_H) : Option (Int32 × px_H) :=
  some (nI 0, ph)
theorem r_M_shortKind_103 {l : Launch} {g : px_G} {d F : Nat} {ph : px_H} {r : Int32} {ph' : px_H} (h : f_M_shortKind_103 F ph = some (r, ph')) : PW l g (d + 9) m_M_shortKind 103 [px_u, px_u, px_u, px_u, px_u, px_u, px_u, px_u, px_u, px_u, px_u, px_u, px_u] [] ph (px_qI r ph') := by
  unfold f_M_shortKind_103 at h
  refine px_ic (k := 0) rfl rfl rfl ?_
  cases h
  exact px_iret rfl (Or.inl rfl) rfl ⟨rfl, rfl⟩
def f_M_shortKind_57 (F : Nat) (a0 : Nat) (a1 : Int32) (a2 : Int32) (a4 : Int32) (a5 : Int32) (a6 : Int64) (a8 : Int64) (ph : px_H) : Option (Int32 × px_H) :=
  (xo ph 12 a0).bind fun _ =>
  xb (f_M_num F a0 (a5 + (nI 16)) (nI 8) ph) fun t1 ph2 =>
  if t1 = ((-4 : Int64)) then
    if a8 < ((2 : Int64)) then
      f_M_shortKind_103 F ph2
    else
      (xo ph2 12 a0).bind fun _ =>
      xb (f_M_num F a0 (a5 + (nI 12)) (nI 4) ph2) fun t3 ph4 =>
      (xo ph4 12 a0).bind fun _ =>
      xb (f_M_isInside F a0 a1 t3.toInt32 ph4) fun t5 ph6 =>
      if t5 = 0 then
        f_M_shortKind_103 F ph6
      else
        (xo ph6 12 a0).bind fun _ =>
        xb (f_M_info F a0 a4 a2 ph6) fun t7 ph8 =>
        (xo ph8 12 a0).bind fun _ =>
        xb (f_M_beginning F a0 a4 t7.toInt32 ph8) fun t9 ph10 =>
        (xgR ph10 12 6 a0).bind fun t11 =>
        (xaI ph10 0 t11 (((a4 + t9.toInt32) + a8.toInt32) - (nI 2))).bind fun t12 =>
        (xgR ph10 12 6 a0).bind fun t13 =>
        (xaI ph10 0 t13 (((a4 + t9.toInt32) + a8.toInt32) - (nI 1))).bind fun t14 =>
        if (t12 &&& (nI 255)) = (nI 139) then
          if (((t14 &&& (nI 255)) ^^^ (nI 5)) &&& (nI 199)) = 0 then
            some (nI 1, ph10)
          else
            f_M_shortKind_180 F a6 (t12 &&& (nI 255)) (t14 &&& (nI 255)) ph10
        else
          f_M_shortKind_180 F a6 (t12 &&& (nI 255)) (t14 &&& (nI 255)) ph10
  else
    f_M_shortKind_103 F ph2
theorem r_M_shortKind_57 {l : Launch} {g : px_G} {d F : Nat} {a0 : Nat} {a1 : Int32} {a2 : Int32} {a4 : Int32} {a5 : Int32} {a6 : Int64} {a8 : Int64} {ph : px_H} {r : Int32} {ph' : px_H} (h : f_M_shortKind_57 F a0 a1 a2 a4 a5 a6 a8 ph = some (r, ph')) : PW l g (d + 9) m_M_shortKind 57 [.ref a0, .int a1, .int a2, px_u, .int a4, .int a5, .long a6, px_u, .long a8, px_u, px_u, px_u, px_u] [] ph (px_qI r ph') := by
  unfold f_M_shortKind_57 at h
  refine px_ld rfl rfl rfl rfl rfl ?_
  refine px_ld rfl rfl rfl rfl rfl ?_
  refine px_ic (k := 16) rfl rfl rfl ?_
  refine px_alu rfl rfl rfl ?_
  refine px_ic (k := 8) rfl rfl rfl ?_
  obtain ⟨fs, h0, h⟩ := xs_some h
  have e1 := xo_some h0
  obtain ⟨t1, ph2, h0, h⟩ := xb_some h
  refine px_cV2 rfl rfl e1 rfl rfl rfl rfl rfl rfl rfl (r_M_num h0 :) (fun _ _ q => nomatch q.2) (fun r ph' q => ?_)
  obtain ⟨rfl, q⟩ := q
  cases q
  refine px_ldc2 rfl rfl rfl ?_
  refine px_alu rfl rfl rfl ?_
  refine px_ifne rfl (by decide) rfl (fun hc => ?_) (fun hc => ?_)
  · replace h := (if_neg (fun q => hc ((lg_cmp_eq _ _).mpr q))).symm.trans h
    refine px_forget (n := 0) (lv' := [_, _, _, _, _, _, _, _, _, _, _, _, _]) rfl ?_
    refine px_forget (n := 1) (lv' := [_, _, _, _, _, _, _, _, _, _, _, _, _]) rfl ?_
    refine px_forget (n := 2) (lv' := [_, _, _, _, _, _, _, _, _, _, _, _, _]) rfl ?_
    refine px_forget (n := 4) (lv' := [_, _, _, _, _, _, _, _, _, _, _, _, _]) rfl ?_
    refine px_forget (n := 5) (lv' := [_, _, _, _, _, _, _, _, _, _, _, _, _]) rfl ?_
    refine px_forget (n := 6) (lv' := [_, _, _, _, _, _, _, _, _, _, _, _, _]) rfl ?_
    refine px_forget (n := 8) (lv' := [_, _, _, _, _, _, _, _, _, _, _, _, _]) rfl ?_
    exact (r_M_shortKind_103 h :)
  · replace h := (if_pos ((lg_cmp_eq _ _).mp hc)).symm.trans h
    refine px_ld rfl rfl rfl rfl rfl ?_
    refine px_ldc2 rfl rfl rfl ?_
    refine px_alu rfl rfl rfl ?_
    refine px_iflt rfl (by decide) rfl (fun hc => ?_) (fun hc => ?_)
    · replace h := (if_pos ((lg_cmp_lt _ _).mp hc)).symm.trans h
      refine px_forget (n := 0) (lv' := [_, _, _, _, _, _, _, _, _, _, _, _, _]) rfl ?_
      refine px_forget (n := 1) (lv' := [_, _, _, _, _, _, _, _, _, _, _, _, _]) rfl ?_
      refine px_forget (n := 2) (lv' := [_, _, _, _, _, _, _, _, _, _, _, _, _]) rfl ?_
      refine px_forget (n := 4) (lv' := [_, _, _, _, _, _, _, _, _, _, _, _, _]) rfl ?_
      refine px_forget (n := 5) (lv' := [_, _, _, _, _, _, _, _, _, _, _, _, _]) rfl ?_
      refine px_forget (n := 6) (lv' := [_, _, _, _, _, _, _, _, _, _, _, _, _]) rfl ?_
      refine px_forget (n := 8) (lv' := [_, _, _, _, _, _, _, _, _, _, _, _, _]) rfl ?_
      exact (r_M_shortKind_103 h :)
    · replace h := (if_neg (fun q => hc ((lg_cmp_lt _ _).mpr q))).symm.trans h
      refine px_ld rfl rfl rfl rfl rfl ?_
      refine px_ld rfl rfl rfl rfl rfl ?_
      refine px_ld rfl rfl rfl rfl rfl ?_
      refine px_ld rfl rfl rfl rfl rfl ?_
      refine px_ic (k := 12) rfl rfl rfl ?_
      refine px_alu rfl rfl rfl ?_
      refine px_ic (k := 4) rfl rfl rfl ?_
      obtain ⟨fs, h0, h⟩ := xs_some h
      have e1 := xo_some h0
      obtain ⟨t3, ph4, h0, h⟩ := xb_some h
      refine px_cV2 rfl rfl e1 rfl rfl rfl rfl rfl rfl rfl (r_M_num h0 :) (fun _ _ q => nomatch q.2) (fun r ph' q => ?_)
      obtain ⟨rfl, q⟩ := q
      cases q
      refine px_alu rfl rfl rfl ?_
      obtain ⟨fs, h0, h⟩ := xs_some h
      have e1 := xo_some h0
      obtain ⟨t5, ph6, h0, h⟩ := xb_some h
      refine px_cV2 rfl rfl e1 rfl rfl rfl rfl rfl rfl rfl (r_M_isInside h0 :) (fun _ _ q => nomatch q.2) (fun r ph' q => ?_)
      obtain ⟨rfl, q⟩ := q
      cases q
      refine px_ifne rfl (by decide) rfl (fun hc => ?_) (fun hc => ?_)
      · replace h := (if_neg hc).symm.trans h
        refine px_ld rfl rfl rfl rfl rfl ?_
        refine px_ld rfl rfl rfl rfl rfl ?_
        refine px_ld rfl rfl rfl rfl rfl ?_
        refine px_ld rfl rfl rfl rfl rfl ?_
        refine px_ld rfl rfl rfl rfl rfl ?_
        refine px_ld rfl rfl rfl rfl rfl ?_
        obtain ⟨fs, h0, h⟩ := xs_some h
        have e1 := xo_some h0
        obtain ⟨t7, ph8, h0, h⟩ := xb_some h
        refine px_cV2 rfl rfl e1 rfl rfl rfl rfl rfl rfl rfl (r_M_info h0 :) (fun _ _ q => nomatch q.2) (fun r ph' q => ?_)
        obtain ⟨rfl, q⟩ := q
        cases q
        refine px_alu rfl rfl rfl ?_
        obtain ⟨fs, h0, h⟩ := xs_some h
        have e1 := xo_some h0
        obtain ⟨t9, ph10, h0, h⟩ := xb_some h
        refine px_cV2 rfl rfl e1 rfl rfl rfl rfl rfl rfl rfl (r_M_beginning h0 :) (fun _ _ q => nomatch q.2) (fun r ph' q => ?_)
        obtain ⟨rfl, q⟩ := q
        cases q
        refine px_alu rfl rfl rfl ?_
        refine px_alu rfl rfl rfl ?_
        refine px_ld rfl rfl rfl rfl rfl ?_
        refine px_alu rfl rfl rfl ?_
        refine px_alu rfl rfl rfl ?_
        refine px_st (lv' := [_, _, _, _, _, _, _, _, _, _, _, _, _]) rfl rfl rfl rfl rfl rfl rfl ?_
        refine px_ld rfl rfl rfl rfl rfl ?_
        obtain ⟨t11, h0, h⟩ := xs_some h
        obtain ⟨fs, e1, e2⟩ := xgR_some h0
        refine px_get rfl e1 e2 rfl ?_
        refine px_ld rfl rfl rfl rfl rfl ?_
        refine px_ic (k := 2) rfl rfl rfl ?_
        refine px_alu rfl rfl rfl ?_
        obtain ⟨t12, h0, h⟩ := xs_some h
        obtain ⟨N, f, e1, e2, e3⟩ := xaI_some h0
        subst e3
        refine px_bald rfl e1 rfl e2 rfl ?_
        refine px_ic (k := 255) rfl rfl rfl ?_
        refine px_alu rfl rfl rfl ?_
        refine px_st (lv' := [_, _, _, _, _, _, _, _, _, _, _, _, _]) rfl rfl rfl rfl rfl rfl rfl ?_
        refine px_ld rfl rfl rfl rfl rfl ?_
        obtain ⟨t13, h0, h⟩ := xs_some h
        obtain ⟨fs, e1, e2⟩ := xgR_some h0
        refine px_get rfl e1 e2 rfl ?_
        refine px_ld rfl rfl rfl rfl rfl ?_
        refine px_ic (k := 1) rfl rfl rfl ?_
        refine px_alu rfl rfl rfl ?_
        obtain ⟨t14, h0, h⟩ := xs_some h
        obtain ⟨N, f, e1, e2, e3⟩ := xaI_some h0
        subst e3
        refine px_bald rfl e1 rfl e2 rfl ?_
        refine px_ic (k := 255) rfl rfl rfl ?_
        refine px_alu rfl rfl rfl ?_
        refine px_st (lv' := [_, _, _, _, _, _, _, _, _, _, _, _, _]) rfl rfl rfl rfl rfl rfl rfl ?_
        refine px_ld rfl rfl rfl rfl rfl ?_
        refine px_ic (k := 139) rfl rfl rfl ?_
        refine px_icne rfl (by decide) rfl (fun hc => ?_) (fun hc => ?_)
        · replace h := (if_neg hc).symm.trans h
          refine px_forget (n := 0) (lv' := [_, _, _, _, _, _, _, _, _, _, _, _, _]) rfl ?_
          refine px_forget (n := 1) (lv' := [_, _, _, _, _, _, _, _, _, _, _, _, _]) rfl ?_
          refine px_forget (n := 2) (lv' := [_, _, _, _, _, _, _, _, _, _, _, _, _]) rfl ?_
          refine px_forget (n := 4) (lv' := [_, _, _, _, _, _, _, _, _, _, _, _, _]) rfl ?_
          refine px_forget (n := 5) (lv' := [_, _, _, _, _, _, _, _, _, _, _, _, _]) rfl ?_
          refine px_forget (n := 8) (lv' := [_, _, _, _, _, _, _, _, _, _, _, _, _]) rfl ?_
          refine px_forget (n := 10) (lv' := [_, _, _, _, _, _, _, _, _, _, _, _, _]) rfl ?_
          exact (r_M_shortKind_180 h :)
        · replace h := (if_pos hc).symm.trans h
          refine px_ld rfl rfl rfl rfl rfl ?_
          refine px_ic (k := 5) rfl rfl rfl ?_
          refine px_alu rfl rfl rfl ?_
          refine px_ic (k := 199) rfl rfl rfl ?_
          refine px_alu rfl rfl rfl ?_
          refine px_ifne rfl (by decide) rfl (fun hc => ?_) (fun hc => ?_)
          · replace h := (if_neg hc).symm.trans h
            refine px_forget (n := 0) (lv' := [_, _, _, _, _, _, _, _, _, _, _, _, _]) rfl ?_
            refine px_forget (n := 1) (lv' := [_, _, _, _, _, _, _, _, _, _, _, _, _]) rfl ?_
            refine px_forget (n := 2) (lv' := [_, _, _, _, _, _, _, _, _, _, _, _, _]) rfl ?_
            refine px_forget (n := 4) (lv' := [_, _, _, _, _, _, _, _, _, _, _, _, _]) rfl ?_
            refine px_forget (n := 5) (lv' := [_, _, _, _, _, _, _, _, _, _, _, _, _]) rfl ?_
            refine px_forget (n := 8) (lv' := [_, _, _, _, _, _, _, _, _, _, _, _, _]) rfl ?_
            refine px_forget (n := 10) (lv' := [_, _, _, _, _, _, _, _, _, _, _, _, _]) rfl ?_
            exact (r_M_shortKind_180 h :)
          · replace h := (if_pos hc).symm.trans h
            refine px_ic (k := 1) rfl rfl rfl ?_
            cases h
            exact px_iret rfl (Or.inl rfl) rfl ⟨rfl, rfl⟩
      · replace h := (if_pos hc).symm.trans h
        refine px_forget (n := 0) (lv' := [_, _, _, _, _, _, _, _, _, _, _, _, _]) rfl ?_
        refine px_forget (n := 1) (lv' := [_, _, _, _, _, _, _, _, _, _, _, _, _]) rfl ?_
        refine px_forget (n := 2) (lv' := [_, _, _, _, _, _, _, _, _, _, _, _, _]) rfl ?_
        refine px_forget (n := 4) (lv' := [_, _, _, _, _, _, _, _, _, _, _, _, _]) rfl ?_
        refine px_forget (n := 5) (lv' := [_, _, _, _, _, _, _, _, _, _, _, _, _]) rfl ?_
        refine px_forget (n := 6) (lv' := [_, _, _, _, _, _, _, _, _, _, _, _, _]) rfl ?_
        refine px_forget (n := 8) (lv' := [_, _, _, _, _, _, _, _, _, _, _, _, _]) rfl ?_
        exact (r_M_shortKind_103 h :)
def f_M_shortKind (F : Nat) (a0 : Nat) (a1 : Int32) (a2 : Int32) (a3 : Int32) (ph : px_H) : Option (Int32 × px_H) :=
  (xo ph 12 a0).bind fun _ =>
  xb (f_M_object F a0 a1 ph) fun t1 ph2 =>
  (xo ph2 12 a0).bind fun _ =>
  xb (f_M_site F a0 t1 a2 a3 ph2) fun t3 ph4 =>
  (xo ph4 12 a0).bind fun _ =>
  xb (f_M_num F a0 (t3 + (nI 8)) (nI 4) ph4) fun t5 ph6 =>
  (xo ph6 12 a0).bind fun _ =>
  xb (f_M_num F a0 t3 (nI 8) ph6) fun t7 ph8 =>
  if t5 = ((41 : Int64)) then
    f_M_shortKind_57 F a0 a1 a2 t1 t3 t5 t7 ph8
  else
    if t5 = ((42 : Int64)) then
      f_M_shortKind_57 F a0 a1 a2 t1 t3 t5 t7 ph8
    else
      f_M_shortKind_103 F ph8
theorem r_M_shortKind {l : Launch} {g : px_G} {d F : Nat} {a0 : Nat} {a1 : Int32} {a2 : Int32} {a3 : Int32} {ph : px_H} {r : Int32} {ph' : px_H} (h : f_M_shortKind F a0 a1 a2 a3 ph = some (r, ph')) : PW l g (d + 9) m_M_shortKind 0 [.ref a0, .int a1, .int a2, .int a3, px_u, px_u, px_u, px_u, px_u, px_u, px_u, px_u, px_u] [] ph (px_qI r ph') := by
  unfold f_M_shortKind at h
  refine px_ld rfl rfl rfl rfl rfl ?_
  refine px_ld rfl rfl rfl rfl rfl ?_
  obtain ⟨fs, h0, h⟩ := xs_some h
  have e1 := xo_some h0
  obtain ⟨t1, ph2, h0, h⟩ := xb_some h
  refine px_cV1 rfl rfl e1 rfl rfl rfl rfl rfl rfl rfl (r_M_object h0 :) (fun _ _ q => nomatch q.2) (fun r ph' q => ?_)
  obtain ⟨rfl, q⟩ := q
  cases q
  refine px_st (lv' := [_, _, _, _, _, _, _, _, _, _, _, _, _]) rfl rfl rfl rfl rfl rfl rfl ?_
  refine px_ld rfl rfl rfl rfl rfl ?_
  refine px_ld rfl rfl rfl rfl rfl ?_
  refine px_ld rfl rfl rfl rfl rfl ?_
  refine px_ld rfl rfl rfl rfl rfl ?_
  obtain ⟨fs, h0, h⟩ := xs_some h
  have e1 := xo_some h0
  obtain ⟨t3, ph4, h0, h⟩ := xb_some h
  refine px_cV3 rfl rfl e1 rfl rfl rfl rfl rfl rfl rfl (r_M_site h0 :) (fun _ _ q => nomatch q.2) (fun r ph' q => ?_)
  obtain ⟨rfl, q⟩ := q
  cases q
  refine px_st (lv' := [_, _, _, _, _, _, _, _, _, _, _, _, _]) rfl rfl rfl rfl rfl rfl rfl ?_
  refine px_ld rfl rfl rfl rfl rfl ?_
  refine px_ld rfl rfl rfl rfl rfl ?_
  refine px_ic (k := 8) rfl rfl rfl ?_
  refine px_alu rfl rfl rfl ?_
  refine px_ic (k := 4) rfl rfl rfl ?_
  obtain ⟨fs, h0, h⟩ := xs_some h
  have e1 := xo_some h0
  obtain ⟨t5, ph6, h0, h⟩ := xb_some h
  refine px_cV2 rfl rfl e1 rfl rfl rfl rfl rfl rfl rfl (r_M_num h0 :) (fun _ _ q => nomatch q.2) (fun r ph' q => ?_)
  obtain ⟨rfl, q⟩ := q
  cases q
  refine px_st (lv' := [_, _, _, _, _, _, _, _, _, _, _, _, _]) rfl rfl rfl rfl rfl rfl rfl ?_
  refine px_ld rfl rfl rfl rfl rfl ?_
  refine px_ld rfl rfl rfl rfl rfl ?_
  refine px_ic (k := 8) rfl rfl rfl ?_
  obtain ⟨fs, h0, h⟩ := xs_some h
  have e1 := xo_some h0
  obtain ⟨t7, ph8, h0, h⟩ := xb_some h
  refine px_cV2 rfl rfl e1 rfl rfl rfl rfl rfl rfl rfl (r_M_num h0 :) (fun _ _ q => nomatch q.2) (fun r ph' q => ?_)
  obtain ⟨rfl, q⟩ := q
  cases q
  refine px_st (lv' := [_, _, _, _, _, _, _, _, _, _, _, _, _]) rfl rfl rfl rfl rfl rfl rfl ?_
  refine px_ld rfl rfl rfl rfl rfl ?_
  refine px_ldc2 rfl rfl rfl ?_
  refine px_alu rfl rfl rfl ?_
  refine px_ifeq rfl (by decide) rfl (fun hc => ?_) (fun hc => ?_)
  · replace h := (if_pos ((lg_cmp_eq _ _).mp hc)).symm.trans h
    refine px_forget (n := 3) (lv' := [_, _, _, _, _, _, _, _, _, _, _, _, _]) rfl ?_
    exact (r_M_shortKind_57 h :)
  · replace h := (if_neg (fun q => hc ((lg_cmp_eq _ _).mpr q))).symm.trans h
    refine px_ld rfl rfl rfl rfl rfl ?_
    refine px_ldc2 rfl rfl rfl ?_
    refine px_alu rfl rfl rfl ?_
    refine px_ifne rfl (by decide) rfl (fun hc => ?_) (fun hc => ?_)
    · replace h := (if_neg (fun q => hc ((lg_cmp_eq _ _).mpr q))).symm.trans h
      refine px_forget (n := 0) (lv' := [_, _, _, _, _, _, _, _, _, _, _, _, _]) rfl ?_
      refine px_forget (n := 1) (lv' := [_, _, _, _, _, _, _, _, _, _, _, _, _]) rfl ?_
      refine px_forget (n := 2) (lv' := [_, _, _, _, _, _, _, _, _, _, _, _, _]) rfl ?_
      refine px_forget (n := 3) (lv' := [_, _, _, _, _, _, _, _, _, _, _, _, _]) rfl ?_
      refine px_forget (n := 4) (lv' := [_, _, _, _, _, _, _, _, _, _, _, _, _]) rfl ?_
      refine px_forget (n := 5) (lv' := [_, _, _, _, _, _, _, _, _, _, _, _, _]) rfl ?_
      refine px_forget (n := 6) (lv' := [_, _, _, _, _, _, _, _, _, _, _, _, _]) rfl ?_
      refine px_forget (n := 8) (lv' := [_, _, _, _, _, _, _, _, _, _, _, _, _]) rfl ?_
      exact (r_M_shortKind_103 h :)
    · replace h := (if_pos ((lg_cmp_eq _ _).mp hc)).symm.trans h
      refine px_forget (n := 3) (lv' := [_, _, _, _, _, _, _, _, _, _, _, _, _]) rfl ?_
      exact (r_M_shortKind_57 h :)
def f_M_isShort_15 (F : Nat) (s0 : Int32) (ph : px_H) : Option (Int32 × px_H) :=
  xz s0 ph
theorem r_M_isShort_15 {l : Launch} {g : px_G} {d F : Nat} {s0 : Int32} {ph : px_H} {r : Int32} {ph' : px_H} (h : f_M_isShort_15 F s0 ph = some (r, ph')) : PW l g (d + 10) m_M_isShort 15 [px_u, px_u, px_u, px_u] [.int s0] ph (px_qI r ph') := by
  unfold f_M_isShort_15 at h
  obtain ⟨e0, e1, e2⟩ := xz_some h
  subst e1 e2
  exact px_iret rfl (Or.inr ⟨rfl, e0⟩) rfl ⟨rfl, rfl⟩
def f_M_isShort (F : Nat) (a0 : Nat) (a1 : Int32) (a2 : Int32) (a3 : Int32) (ph : px_H) : Option (Int32 × px_H) :=
  (xo ph 12 a0).bind fun _ =>
  xb (f_M_shortKind F a0 a1 a2 a3 ph) fun t1 ph2 =>
  if t1 ≤ 0 then
    f_M_isShort_15 F (nI 0) ph2
  else
    f_M_isShort_15 F (nI 1) ph2
theorem r_M_isShort {l : Launch} {g : px_G} {d F : Nat} {a0 : Nat} {a1 : Int32} {a2 : Int32} {a3 : Int32} {ph : px_H} {r : Int32} {ph' : px_H} (h : f_M_isShort F a0 a1 a2 a3 ph = some (r, ph')) : PW l g (d + 10) m_M_isShort 0 [.ref a0, .int a1, .int a2, .int a3] [] ph (px_qI r ph') := by
  unfold f_M_isShort at h
  refine px_ld rfl rfl rfl rfl rfl ?_
  refine px_ld rfl rfl rfl rfl rfl ?_
  refine px_ld rfl rfl rfl rfl rfl ?_
  refine px_ld rfl rfl rfl rfl rfl ?_
  obtain ⟨fs, h0, h⟩ := xs_some h
  have e1 := xo_some h0
  obtain ⟨t1, ph2, h0, h⟩ := xb_some h
  refine px_cV3 rfl rfl e1 rfl rfl rfl rfl rfl rfl rfl (r_M_shortKind h0 :) (fun _ _ q => nomatch q.2) (fun r ph' q => ?_)
  obtain ⟨rfl, q⟩ := q
  cases q
  refine px_ifle rfl rfl rfl (fun hc => ?_) (fun hc => ?_)
  · replace h := (if_pos hc).symm.trans h
    refine px_ic (k := 0) rfl rfl rfl ?_
    refine px_forget (n := 0) (lv' := [_, _, _, _]) rfl ?_
    refine px_forget (n := 1) (lv' := [_, _, _, _]) rfl ?_
    refine px_forget (n := 2) (lv' := [_, _, _, _]) rfl ?_
    refine px_forget (n := 3) (lv' := [_, _, _, _]) rfl ?_
    exact (r_M_isShort_15 h :)
  · replace h := (if_neg hc).symm.trans h
    refine px_ic (k := 1) rfl rfl rfl ?_
    refine px_goto rfl rfl rfl ?_
    refine px_forget (n := 0) (lv' := [_, _, _, _]) rfl ?_
    refine px_forget (n := 1) (lv' := [_, _, _, _]) rfl ?_
    refine px_forget (n := 2) (lv' := [_, _, _, _]) rfl ?_
    refine px_forget (n := 3) (lv' := [_, _, _, _]) rfl ?_
    exact (r_M_isShort_15 h :)
def f_M_slotOf_116 (F : Nat) (a0 : Nat) (a1 : Int32) (a2 : Int32) (a3 : Int32) (a5 : Int32) (ph : px_H) : Option (Int32 × px_H) :=
  (xgR ph 12 78 a0).bind fun t1 =>
  (xgI ph 12 74 a0).bind fun t2 =>
  (xsI ph 3 t1 t2 (a3 &&& 1)).bind fun ph3 =>
  (xgR ph3 12 75 a0).bind fun t4 =>
  (xgI ph3 12 74 a0).bind fun t5 =>
  (xsI ph3 1 t4 t5 a5).bind fun ph6 =>
  (xgR ph6 12 76 a0).bind fun t7 =>
  (xgI ph6 12 74 a0).bind fun t8 =>
  (xsI ph6 1 t7 t8 a1).bind fun ph9 =>
  (xgR ph9 12 77 a0).bind fun t10 =>
  (xgI ph9 12 74 a0).bind fun t11 =>
  (xsI ph9 1 t10 t11 a2).bind fun ph12 =>
  (xgI ph12 12 74 a0).bind fun t13 =>
  some (t13, ph12)
theorem r_M_slotOf_116 {l : Launch} {g : px_G} {d F : Nat} {a0 : Nat} {a1 : Int32} {a2 : Int32} {a3 : Int32} {a5 : Int32} {ph : px_H} {r : Int32} {ph' : px_H} (h : f_M_slotOf_116 F a0 a1 a2 a3 a5 ph = some (r, ph')) : PW l g (d + 8) m_M_slotOf 116 [.ref a0, .int a1, .int a2, .int a3, px_u, .int a5, px_u] [] ph (px_qI r ph') := by
  unfold f_M_slotOf_116 at h
  refine px_ld rfl rfl rfl rfl rfl ?_
  obtain ⟨t1, h0, h⟩ := xs_some h
  obtain ⟨fs, e1, e2⟩ := xgR_some h0
  refine px_get rfl e1 e2 rfl ?_
  refine px_ld rfl rfl rfl rfl rfl ?_
  obtain ⟨t2, h0, h⟩ := xs_some h
  obtain ⟨fs, e1, e2⟩ := xgI_some h0
  refine px_get rfl e1 e2 rfl ?_
  refine px_ld rfl rfl rfl rfl rfl ?_
  obtain ⟨ph3, h0, h⟩ := xs_some h
  obtain ⟨N, f, e1, e2, e3⟩ := xsI_some h0
  subst e3
  refine px_zast rfl e1 rfl e2 rfl ?_
  refine px_ld rfl rfl rfl rfl rfl ?_
  obtain ⟨t4, h0, h⟩ := xs_some h
  obtain ⟨fs, e1, e2⟩ := xgR_some h0
  refine px_get rfl e1 e2 rfl ?_
  refine px_ld rfl rfl rfl rfl rfl ?_
  obtain ⟨t5, h0, h⟩ := xs_some h
  obtain ⟨fs, e1, e2⟩ := xgI_some h0
  refine px_get rfl e1 e2 rfl ?_
  refine px_ld rfl rfl rfl rfl rfl ?_
  obtain ⟨ph6, h0, h⟩ := xs_some h
  obtain ⟨N, f, e1, e2, e3⟩ := xsI_some h0
  subst e3
  refine px_iast rfl e1 rfl e2 rfl ?_
  refine px_ld rfl rfl rfl rfl rfl ?_
  obtain ⟨t7, h0, h⟩ := xs_some h
  obtain ⟨fs, e1, e2⟩ := xgR_some h0
  refine px_get rfl e1 e2 rfl ?_
  refine px_ld rfl rfl rfl rfl rfl ?_
  obtain ⟨t8, h0, h⟩ := xs_some h
  obtain ⟨fs, e1, e2⟩ := xgI_some h0
  refine px_get rfl e1 e2 rfl ?_
  refine px_ld rfl rfl rfl rfl rfl ?_
  obtain ⟨ph9, h0, h⟩ := xs_some h
  obtain ⟨N, f, e1, e2, e3⟩ := xsI_some h0
  subst e3
  refine px_iast rfl e1 rfl e2 rfl ?_
  refine px_ld rfl rfl rfl rfl rfl ?_
  obtain ⟨t10, h0, h⟩ := xs_some h
  obtain ⟨fs, e1, e2⟩ := xgR_some h0
  refine px_get rfl e1 e2 rfl ?_
  refine px_ld rfl rfl rfl rfl rfl ?_
  obtain ⟨t11, h0, h⟩ := xs_some h
  obtain ⟨fs, e1, e2⟩ := xgI_some h0
  refine px_get rfl e1 e2 rfl ?_
  refine px_ld rfl rfl rfl rfl rfl ?_
  obtain ⟨ph12, h0, h⟩ := xs_some h
  obtain ⟨N, f, e1, e2, e3⟩ := xsI_some h0
  subst e3
  refine px_iast rfl e1 rfl e2 rfl ?_
  refine px_ld rfl rfl rfl rfl rfl ?_
  obtain ⟨t13, h0, h⟩ := xs_some h
  obtain ⟨fs, e1, e2⟩ := xgI_some h0
  refine px_get rfl e1 e2 rfl ?_
  cases h
  exact px_iret rfl (Or.inl rfl) rfl ⟨rfl, rfl⟩
def f_M_slotOf_110 (F : Nat) (k48 : Nat → Int32 → Int32 → Int32 → Int32 → Int32 → px_H → Option (Int32 × px_H)) (a0 : Nat) (a1 : Int32) (a2 : Int32) (a3 : Int32) (a5 : Int32) (a6 : Int32) (ph : px_H) : Option (Int32 × px_H) :=
  k48 a0 a1 a2 a3 a5 (a6 + nI 1) ph
theorem r_M_slotOf_110 {l : Launch} {g : px_G} {d F : Nat} {k48 : Nat → Int32 → Int32 → Int32 → Int32 → Int32 → px_H → Option (Int32 × px_H)} (hk48 : ∀ {a0 : Nat} {a1 : Int32} {a2 : Int32} {a3 : Int32} {a5 : Int32} {a6 : Int32} {ph : px_H} {r : Int32} {ph' : px_H}, k48 a0 a1 a2 a3 a5 a6 ph = some (r, ph') → PW l g (d + 8) m_M_slotOf 48 [.ref a0, .int a1, .int a2, .int a3, px_u, .int a5, .int a6] [] ph (px_qI r ph')) {a0 : Nat} {a1 : Int32} {a2 : Int32} {a3 : Int32} {a5 : Int32} {a6 : Int32} {ph : px_H} {r : Int32} {ph' : px_H} (h : f_M_slotOf_110 F k48 a0 a1 a2 a3 a5 a6 ph = some (r, ph')) : PW l g (d + 8) m_M_slotOf 110 [.ref a0, .int a1, .int a2, .int a3, px_u, .int a5, .int a6] [] ph (px_qI r ph') := by
  unfold f_M_slotOf_110 at h
  refine px_iinc (lv' := [_, _, _, _, _, _, _]) rfl rfl rfl rfl rfl rfl ?_
  refine px_goto rfl (by decide) rfl ?_
  exact (hk48 h :)
def f_M_slotOf_107 (F : Nat) (a6 : Int32) (ph : px_H) : Option (Int32 × px_H) :=
  some (a6, ph)
theorem r_M_slotOf_107 {l : Launch} {g : px_G} {d F : Nat} {a6 : Int32} {ph : px_H} {r : Int32} {ph' : px_H} (h : f_M_slotOf_107 F a6 ph = some (r, ph')) : PW l g (d + 8) m_M_slotOf 107 [px_u, px_u, px_u, px_u, px_u, px_u, .int a6] [] ph (px_qI r ph') := by
  unfold f_M_slotOf_107 at h
  refine px_ld rfl rfl rfl rfl rfl ?_
  cases h
  exact px_iret rfl (Or.inl rfl) rfl ⟨rfl, rfl⟩
def f_M_slotOf_48 (F : Nat) : Nat → Nat → Int32 → Int32 → Int32 → Int32 → Int32 → px_H → Option (Int32 × px_H)
  | 0, _, _, _, _, _, _, _ => none
  | n + 1, a0, a1, a2, a3, a5, a6, ph =>
    (xgI ph 12 74 a0).bind fun t1 =>
    if t1 ≤ a6 then
      f_M_slotOf_116 F a0 a1 a2 a3 a5 ph
    else
      (xgR ph 12 78 a0).bind fun t2 =>
      (xaI ph 3 t2 a6).bind fun t3 =>
      if t3 = a3 then
        (xgR ph 12 75 a0).bind fun t4 =>
        (xaI ph 1 t4 a6).bind fun t5 =>
        if t5 = a5 then
          if 0 ≤ a5 then
            f_M_slotOf_107 F a6 ph
          else
            (xgR ph 12 76 a0).bind fun t6 =>
            (xaI ph 1 t6 a6).bind fun t7 =>
            if t7 = a1 then
              (xgR ph 12 77 a0).bind fun t8 =>
              (xaI ph 1 t8 a6).bind fun t9 =>
              if t9 = a2 then
                f_M_slotOf_107 F a6 ph
              else
                f_M_slotOf_110 F (f_M_slotOf_48 F n) a0 a1 a2 a3 a5 a6 ph
            else
              f_M_slotOf_110 F (f_M_slotOf_48 F n) a0 a1 a2 a3 a5 a6 ph
        else
          f_M_slotOf_110 F (f_M_slotOf_48 F n) a0 a1 a2 a3 a5 a6 ph
      else
        f_M_slotOf_110 F (f_M_slotOf_48 F n) a0 a1 a2 a3 a5 a6 ph
theorem r_M_slotOf_48 {l : Launch} {g : px_G} {d F : Nat} : ∀ (n : Nat) {a0 : Nat} {a1 : Int32} {a2 : Int32} {a3 : Int32} {a5 : Int32} {a6 : Int32} {ph : px_H} {r : Int32} {ph' : px_H}, f_M_slotOf_48 F n a0 a1 a2 a3 a5 a6 ph = some (r, ph') → PW l g (d + 8) m_M_slotOf 48 [.ref a0, .int a1, .int a2, .int a3, px_u, .int a5, .int a6] [] ph (px_qI r ph') := by
  intro n
  induction n with
  | zero => intro _ _ _ _ _ _ _ _ _ h; cases h
  | succ n ih =>
    intro a0 a1 a2 a3 a5 a6 ph r ph' h
    unfold f_M_slotOf_48 at h
    refine px_ld rfl rfl rfl rfl rfl ?_
    refine px_ld rfl rfl rfl rfl rfl ?_
    obtain ⟨t1, h0, h⟩ := xs_some h
    obtain ⟨fs, e1, e2⟩ := xgI_some h0
    refine px_get rfl e1 e2 rfl ?_
    refine px_icge rfl (by decide) rfl (fun hc => ?_) (fun hc => ?_)
    · replace h := (if_pos hc).symm.trans h
      refine px_forget (n := 6) (lv' := [_, _, _, _, _, _, _]) rfl ?_
      exact (r_M_slotOf_116 h :)
    · replace h := (if_neg hc).symm.trans h
      refine px_ld rfl rfl rfl rfl rfl ?_
      obtain ⟨t2, h0, h⟩ := xs_some h
      obtain ⟨fs, e1, e2⟩ := xgR_some h0
      refine px_get rfl e1 e2 rfl ?_
      refine px_ld rfl rfl rfl rfl rfl ?_
      obtain ⟨t3, h0, h⟩ := xs_some h
      obtain ⟨N, f, e1, e2, e3⟩ := xaI_some h0
      subst e3
      refine px_zald rfl e1 rfl e2 rfl ?_
      refine px_ld rfl rfl rfl rfl rfl ?_
      refine px_icne rfl (by decide) rfl (fun hc => ?_) (fun hc => ?_)
      · replace h := (if_neg hc).symm.trans h
        exact (r_M_slotOf_110 @ih h :)
      · replace h := (if_pos hc).symm.trans h
        refine px_ld rfl rfl rfl rfl rfl ?_
        obtain ⟨t4, h0, h⟩ := xs_some h
        obtain ⟨fs, e1, e2⟩ := xgR_some h0
        refine px_get rfl e1 e2 rfl ?_
        refine px_ld rfl rfl rfl rfl rfl ?_
        obtain ⟨t5, h0, h⟩ := xs_some h
        obtain ⟨N, f, e1, e2, e3⟩ := xaI_some h0
        subst e3
        refine px_iald rfl e1 rfl e2 rfl ?_
        refine px_ld rfl rfl rfl rfl rfl ?_
        refine px_icne rfl (by decide) rfl (fun hc => ?_) (fun hc => ?_)
        · replace h := (if_neg hc).symm.trans h
          exact (r_M_slotOf_110 @ih h :)
        · replace h := (if_pos hc).symm.trans h
          refine px_ld rfl rfl rfl rfl rfl ?_
          refine px_ifge rfl (by decide) rfl (fun hc => ?_) (fun hc => ?_)
          · replace h := (if_pos hc).symm.trans h
            refine px_forget (n := 0) (lv' := [_, _, _, _, _, _, _]) rfl ?_
            refine px_forget (n := 1) (lv' := [_, _, _, _, _, _, _]) rfl ?_
            refine px_forget (n := 2) (lv' := [_, _, _, _, _, _, _]) rfl ?_
            refine px_forget (n := 3) (lv' := [_, _, _, _, _, _, _]) rfl ?_
            refine px_forget (n := 5) (lv' := [_, _, _, _, _, _, _]) rfl ?_
            exact (r_M_slotOf_107 h :)
          · replace h := (if_neg hc).symm.trans h
            refine px_ld rfl rfl rfl rfl rfl ?_
            obtain ⟨t6, h0, h⟩ := xs_some h
            obtain ⟨fs, e1, e2⟩ := xgR_some h0
            refine px_get rfl e1 e2 rfl ?_
            refine px_ld rfl rfl rfl rfl rfl ?_
            obtain ⟨t7, h0, h⟩ := xs_some h
            obtain ⟨N, f, e1, e2, e3⟩ := xaI_some h0
            subst e3
            refine px_iald rfl e1 rfl e2 rfl ?_
            refine px_ld rfl rfl rfl rfl rfl ?_
            refine px_icne rfl (by decide) rfl (fun hc => ?_) (fun hc => ?_)
            · replace h := (if_neg hc).symm.trans h
              exact (r_M_slotOf_110 @ih h :)
            · replace h := (if_pos hc).symm.trans h
              refine px_ld rfl rfl rfl rfl rfl ?_
              obtain ⟨t8, h0, h⟩ := xs_some h
              obtain ⟨fs, e1, e2⟩ := xgR_some h0
              refine px_get rfl e1 e2 rfl ?_
              refine px_ld rfl rfl rfl rfl rfl ?_
              obtain ⟨t9, h0, h⟩ := xs_some h
              obtain ⟨N, f, e1, e2, e3⟩ := xaI_some h0
              subst e3
              refine px_iald rfl e1 rfl e2 rfl ?_
              refine px_ld rfl rfl rfl rfl rfl ?_
              refine px_icne rfl (by decide) rfl (fun hc => ?_) (fun hc => ?_)
              · replace h := (if_neg hc).symm.trans h
                exact (r_M_slotOf_110 @ih h :)
              · replace h := (if_pos hc).symm.trans h
                refine px_forget (n := 0) (lv' := [_, _, _, _, _, _, _]) rfl ?_
                refine px_forget (n := 1) (lv' := [_, _, _, _, _, _, _]) rfl ?_
                refine px_forget (n := 2) (lv' := [_, _, _, _, _, _, _]) rfl ?_
                refine px_forget (n := 3) (lv' := [_, _, _, _, _, _, _]) rfl ?_
                refine px_forget (n := 5) (lv' := [_, _, _, _, _, _, _]) rfl ?_
                exact (r_M_slotOf_107 h :)
def f_M_slotOf_43 (F : Nat) (a0 : Nat) (a1 : Int32) (a2 : Int32) (a3 : Int32) (s0 : Int32) (ph : px_H) : Option (Int32 × px_H) :=
  f_M_slotOf_48 F F a0 a1 a2 a3 s0 (nI 0) ph
theorem r_M_slotOf_43 {l : Launch} {g : px_G} {d F : Nat} {a0 : Nat} {a1 : Int32} {a2 : Int32} {a3 : Int32} {s0 : Int32} {ph : px_H} {r : Int32} {ph' : px_H} (h : f_M_slotOf_43 F a0 a1 a2 a3 s0 ph = some (r, ph')) : PW l g (d + 8) m_M_slotOf 43 [.ref a0, .int a1, .int a2, .int a3, px_u, px_u, px_u] [.int s0] ph (px_qI r ph') := by
  unfold f_M_slotOf_43 at h
  refine px_st (lv' := [_, _, _, _, _, _, _]) rfl rfl rfl rfl rfl rfl rfl ?_
  refine px_ic (k := 0) rfl rfl rfl ?_
  refine px_st (lv' := [_, _, _, _, _, _, _]) rfl rfl rfl rfl rfl rfl rfl ?_
  exact (r_M_slotOf_48 _ h :)
def f_M_slotOf_22 (F : Nat) (a0 : Nat) (a1 : Int32) (a2 : Int32) (a3 : Int32) (s0 : Int32) (ph : px_H) : Option (Int32 × px_H) :=
  if s0 = 0 then
    (xo ph 12 a0).bind fun _ =>
    xb (f_M_object F a0 a1 ph) fun t1 ph2 =>
    (xo ph2 12 a0).bind fun _ =>
    xb (f_M_nameOf F a0 t1 a2 ph2) fun t3 ph4 =>
    f_M_slotOf_43 F a0 a1 a2 a3 t3 ph4
  else
    f_M_slotOf_43 F a0 a1 a2 a3 (Int32.ofInt (-1)) ph
theorem r_M_slotOf_22 {l : Launch} {g : px_G} {d F : Nat} {a0 : Nat} {a1 : Int32} {a2 : Int32} {a3 : Int32} {s0 : Int32} {ph : px_H} {r : Int32} {ph' : px_H} (h : f_M_slotOf_22 F a0 a1 a2 a3 s0 ph = some (r, ph')) : PW l g (d + 8) m_M_slotOf 22 [.ref a0, .int a1, .int a2, .int a3, px_u, px_u, px_u] [.int s0] ph (px_qI r ph') := by
  unfold f_M_slotOf_22 at h
  refine px_st (lv' := [_, _, _, _, _, _, _]) rfl rfl rfl rfl rfl rfl rfl ?_
  refine px_ld rfl rfl rfl rfl rfl ?_
  refine px_ifeq rfl (by decide) rfl (fun hc => ?_) (fun hc => ?_)
  · replace h := (if_pos hc).symm.trans h
    refine px_ld rfl rfl rfl rfl rfl ?_
    refine px_ld rfl rfl rfl rfl rfl ?_
    refine px_ld rfl rfl rfl rfl rfl ?_
    obtain ⟨fs, h0, h⟩ := xs_some h
    have e1 := xo_some h0
    obtain ⟨t1, ph2, h0, h⟩ := xb_some h
    refine px_cV1 rfl rfl e1 rfl rfl rfl rfl rfl rfl rfl (r_M_object h0 :) (fun _ _ q => nomatch q.2) (fun r ph' q => ?_)
    obtain ⟨rfl, q⟩ := q
    cases q
    refine px_ld rfl rfl rfl rfl rfl ?_
    obtain ⟨fs, h0, h⟩ := xs_some h
    have e1 := xo_some h0
    obtain ⟨t3, ph4, h0, h⟩ := xb_some h
    refine px_cV2 rfl rfl e1 rfl rfl rfl rfl rfl rfl rfl (r_M_nameOf h0 :) (fun _ _ q => nomatch q.2) (fun r ph' q => ?_)
    obtain ⟨rfl, q⟩ := q
    cases q
    refine px_forget (n := 4) (lv' := [_, _, _, _, _, _, _]) rfl ?_
    exact (r_M_slotOf_43 h :)
  · replace h := (if_neg hc).symm.trans h
    refine px_alu rfl rfl rfl ?_
    refine px_goto rfl (by decide) rfl ?_
    refine px_forget (n := 4) (lv' := [_, _, _, _, _, _, _]) rfl ?_
    exact (r_M_slotOf_43 h :)
def f_M_slotOf_17 (F : Nat) (a0 : Nat) (a1 : Int32) (a2 : Int32) (a3 : Int32) (ph : px_H) : Option (Int32 × px_H) :=
  f_M_slotOf_22 F a0 a1 a2 a3 (nI 1) ph
theorem r_M_slotOf_17 {l : Launch} {g : px_G} {d F : Nat} {a0 : Nat} {a1 : Int32} {a2 : Int32} {a3 : Int32} {ph : px_H} {r : Int32} {ph' : px_H} (h : f_M_slotOf_17 F a0 a1 a2 a3 ph = some (r, ph')) : PW l g (d + 8) m_M_slotOf 17 [.ref a0, .int a1, .int a2, .int a3, px_u, px_u, px_u] [] ph (px_qI r ph') := by
  unfold f_M_slotOf_17 at h
  refine px_ic (k := 1) rfl rfl rfl ?_
  refine px_goto rfl (by decide) rfl ?_
  exact (r_M_slotOf_22 h :)
def f_M_slotOf (F : Nat) (a0 : Nat) (a1 : Int32) (a2 : Int32) (a3 : Int32) (ph : px_H) : Option (Int32 × px_H) :=
  if a2 = 0 then
    f_M_slotOf_17 F a0 a1 a2 a3 ph
  else
    (xo ph 12 a0).bind fun _ =>
    xb (f_M_object F a0 a1 ph) fun t1 ph2 =>
    (xo ph2 12 a0).bind fun _ =>
    xb (f_M_bind F a0 t1 a2 ph2) fun t3 ph4 =>
    if t3 = 0 then
      f_M_slotOf_17 F a0 a1 a2 a3 ph4
    else
      f_M_slotOf_22 F a0 a1 a2 a3 (nI 0) ph4
theorem r_M_slotOf {l : Launch} {g : px_G} {d F : Nat} {a0 : Nat} {a1 : Int32} {a2 : Int32} {a3 : Int32} {ph : px_H} {r : Int32} {ph' : px_H} (h : f_M_slotOf F a0 a1 a2 a3 ph = some (r, ph')) : PW l g (d + 8) m_M_slotOf 0 [.ref a0, .int a1, .int a2, .int a3, px_u, px_u, px_u] [] ph (px_qI r ph') := by
  unfold f_M_slotOf at h
  refine px_ld rfl rfl rfl rfl rfl ?_
  refine px_ifeq rfl (by decide) rfl (fun hc => ?_) (fun hc => ?_)
  · replace h := (if_pos hc).symm.trans h
    exact (r_M_slotOf_17 h :)
  · replace h := (if_neg hc).symm.trans h
    refine px_ld rfl rfl rfl rfl rfl ?_
    refine px_ld rfl rfl rfl rfl rfl ?_
    refine px_ld rfl rfl rfl rfl rfl ?_
    obtain ⟨fs, h0, h⟩ := xs_some h
    have e1 := xo_some h0
    obtain ⟨t1, ph2, h0, h⟩ := xb_some h
    refine px_cV1 rfl rfl e1 rfl rfl rfl rfl rfl rfl rfl (r_M_object h0 :) (fun _ _ q => nomatch q.2) (fun r ph' q => ?_)
    obtain ⟨rfl, q⟩ := q
    cases q
    refine px_ld rfl rfl rfl rfl rfl ?_
    obtain ⟨fs, h0, h⟩ := xs_some h
    have e1 := xo_some h0
    obtain ⟨t3, ph4, h0, h⟩ := xb_some h
    refine px_cV2 rfl rfl e1 rfl rfl rfl rfl rfl rfl rfl (r_M_bind h0 :) (fun _ _ q => nomatch q.2) (fun r ph' q => ?_)
    obtain ⟨rfl, q⟩ := q
    cases q
    refine px_ifne rfl (by decide) rfl (fun hc => ?_) (fun hc => ?_)
    · replace h := (if_neg hc).symm.trans h
      refine px_ic (k := 0) rfl rfl rfl ?_
      exact (r_M_slotOf_22 h :)
    · replace h := (if_pos hc).symm.trans h
      exact (r_M_slotOf_17 h :)
def f_M_findSlots_187 (F : Nat) (ph : px_H) : Option (Unit × px_H) :=
  some ((), ph)
theorem r_M_findSlots_187 {l : Launch} {g : px_G} {d F : Nat} {ph : px_H} {r : Unit} {ph' : px_H} (h : f_M_findSlots_187 F ph = some (r, ph')) : PW l g (d + 11) m_M_findSlots 187 [px_u, px_u, px_u, px_u, px_u, px_u, px_u, px_u] [] ph (px_qV r ph') := by
  unfold f_M_findSlots_187 at h
  cases h
  exact px_vret rfl rfl rfl ⟨rfl, rfl⟩
def f_M_findSlots_181 (F : Nat) (k2 : Nat → Int32 → px_H → Option (Unit × px_H)) (a0 : Nat) (a1 : Int32) (ph : px_H) : Option (Unit × px_H) :=
  k2 a0 (a1 + nI 1) ph
theorem r_M_findSlots_181 {l : Launch} {g : px_G} {d F : Nat} {k2 : Nat → Int32 → px_H → Option (Unit × px_H)} (hk2 : ∀ {a0 : Nat} {a1 : Int32} {ph : px_H} {r : Unit} {ph' : px_H}, k2 a0 a1 ph = some (r, ph') → PW l g (d + 11) m_M_findSlots 2 [.ref a0, .int a1, px_u, px_u, px_u, px_u, px_u, px_u] [] ph (px_qV r ph')) {a0 : Nat} {a1 : Int32} {ph : px_H} {r : Unit} {ph' : px_H} (h : f_M_findSlots_181 F k2 a0 a1 ph = some (r, ph')) : PW l g (d + 11) m_M_findSlots 181 [.ref a0, .int a1, px_u, px_u, px_u, px_u, px_u, px_u] [] ph (px_qV r ph') := by
  unfold f_M_findSlots_181 at h
  refine px_iinc (lv' := [_, _, _, _, _, _, _, _]) rfl rfl rfl rfl rfl rfl ?_
  refine px_goto rfl (by decide) rfl ?_
  exact (hk2 h :)
def f_M_findSlots_175 (F : Nat) (k2 : Nat → Int32 → px_H → Option (Unit × px_H)) (k18 : Nat → Int32 → Int32 → Int32 → px_H → Option (Unit × px_H)) (a0 : Nat) (a1 : Int32) (a2 : Int32) (a3 : Int32) (ph : px_H) : Option (Unit × px_H) :=
  k18 a0 a1 a2 (a3 + nI 1) ph
theorem r_M_findSlots_175 {l : Launch} {g : px_G} {d F : Nat} {k2 : Nat → Int32 → px_H → Option (Unit × px_H)} (hk2 : ∀ {a0 : Nat} {a1 : Int32} {ph : px_H} {r : Unit} {ph' : px_H}, k2 a0 a1 ph = some (r, ph') → PW l g (d + 11) m_M_findSlots 2 [.ref a0, .int a1, px_u, px_u, px_u, px_u, px_u, px_u] [] ph (px_qV r ph')) {k18 : Nat → Int32 → Int32 → Int32 → px_H → Option (Unit × px_H)} (hk18 : ∀ {a0 : Nat} {a1 : Int32} {a2 : Int32} {a3 : Int32} {ph : px_H} {r : Unit} {ph' : px_H}, k18 a0 a1 a2 a3 ph = some (r, ph') → PW l g (d + 11) m_M_findSlots 18 [.ref a0, .int a1, .int a2, .int a3, px_u, px_u, px_u, px_u] [] ph (px_qV r ph')) {a0 : Nat} {a1 : Int32} {a2 : Int32} {a3 : Int32} {ph : px_H} {r : Unit} {ph' : px_H} (h : f_M_findSlots_175 F k2 k18 a0 a1 a2 a3 ph = some (r, ph')) : PW l g (d + 11) m_M_findSlots 175 [.ref a0, .int a1, .int a2, .int a3, px_u, px_u, px_u, px_u] [] ph (px_qV r ph') := by
  unfold f_M_findSlots_175 at h
  refine px_iinc (lv' := [_, _, _, _, _, _, _, _]) rfl rfl rfl rfl rfl rfl ?_
  refine px_goto rfl (by decide) rfl ?_
  exact (hk18 h :)
def f_M_findSlots_169 (F : Nat) (k2 : Nat → Int32 → px_H → Option (Unit × px_H)) (k18 : Nat → Int32 → Int32 → Int32 → px_H → Option (Unit × px_H)) (k57 : Nat → Int32 → Int32 → Int32 → Int32 → px_H → Option (Unit × px_H)) (a0 : Nat) (a1 : Int32) (a2 : Int32) (a3 : Int32) (a4 : Int32) (ph : px_H) : Option (Unit × px_H) :=
  k57 a0 a1 a2 a3 (a4 + nI 1) ph
theorem r_M_findSlots_169 {l : Launch} {g : px_G} {d F : Nat} {k2 : Nat → Int32 → px_H → Option (Unit × px_H)} (hk2 : ∀ {a0 : Nat} {a1 : Int32} {ph : px_H} {r : Unit} {ph' : px_H}, k2 a0 a1 ph = some (r, ph') → PW l g (d + 11) m_M_findSlots 2 [.ref a0, .int a1, px_u, px_u, px_u, px_u, px_u, px_u] [] ph (px_qV r ph')) {k18 : Nat → Int32 → Int32 → Int32 → px_H → Option (Unit × px_H)} (hk18 : ∀ {a0 : Nat} {a1 : Int32} {a2 : Int32} {a3 : Int32} {ph : px_H} {r : Unit} {ph' : px_H}, k18 a0 a1 a2 a3 ph = some (r, ph') → PW l g (d + 11) m_M_findSlots 18 [.ref a0, .int a1, .int a2, .int a3, px_u, px_u, px_u, px_u] [] ph (px_qV r ph')) {k57 : Nat → Int32 → Int32 → Int32 → Int32 → px_H → Option (Unit × px_H)} (hk57 : ∀ {a0 : Nat} {a1 : Int32} {a2 : Int32} {a3 : Int32} {a4 : Int32} {ph : px_H} {r : Unit} {ph' : px_H}, k57 a0 a1 a2 a3 a4 ph = some (r, ph') → PW l g (d + 11) m_M_findSlots 57 [.ref a0, .int a1, .int a2, .int a3, .int a4, px_u, px_u, px_u] [] ph (px_qV r ph')) {a0 : Nat} {a1 : Int32} {a2 : Int32} {a3 : Int32} {a4 : Int32} {ph : px_H} {r : Unit} {ph' : px_H} (h : f_M_findSlots_169 F k2 k18 k57 a0 a1 a2 a3 a4 ph = some (r, ph')) : PW l g (d + 11) m_M_findSlots 169 [.ref a0, .int a1, .int a2, .int a3, .int a4, px_u, px_u, px_u] [] ph (px_qV r ph') := by
  unfold f_M_findSlots_169 at h
  refine px_iinc (lv' := [_, _, _, _, _, _, _, _]) rfl rfl rfl rfl rfl rfl ?_
  refine px_goto rfl (by decide) rfl ?_
  exact (hk57 h :)
def f_M_findSlots_165 (F : Nat) (k2 : Nat → Int32 → px_H → Option (Unit × px_H)) (k18 : Nat → Int32 → Int32 → Int32 → px_H → Option (Unit × px_H)) (k57 : Nat → Int32 → Int32 → Int32 → Int32 → px_H → Option (Unit × px_H)) (a0 : Nat) (a1 : Int32) (a2 : Int32) (a3 : Int32) (a4 : Int32) (s0 : Nat) (s1 : Int32) (s2 : Int32) (ph : px_H) : Option (Unit × px_H) :=
  (xpI ph 12 74 s0 (s1 + s2)).bind fun ph1 =>
  f_M_findSlots_169 F k2 k18 k57 a0 a1 a2 a3 a4 ph1
theorem r_M_findSlots_165 {l : Launch} {g : px_G} {d F : Nat} {k2 : Nat → Int32 → px_H → Option (Unit × px_H)} (hk2 : ∀ {a0 : Nat} {a1 : Int32} {ph : px_H} {r : Unit} {ph' : px_H}, k2 a0 a1 ph = some (r, ph') → PW l g (d + 11) m_M_findSlots 2 [.ref a0, .int a1, px_u, px_u, px_u, px_u, px_u, px_u] [] ph (px_qV r ph')) {k18 : Nat → Int32 → Int32 → Int32 → px_H → Option (Unit × px_H)} (hk18 : ∀ {a0 : Nat} {a1 : Int32} {a2 : Int32} {a3 : Int32} {ph : px_H} {r : Unit} {ph' : px_H}, k18 a0 a1 a2 a3 ph = some (r, ph') → PW l g (d + 11) m_M_findSlots 18 [.ref a0, .int a1, .int a2, .int a3, px_u, px_u, px_u, px_u] [] ph (px_qV r ph')) {k57 : Nat → Int32 → Int32 → Int32 → Int32 → px_H → Option (Unit × px_H)} (hk57 : ∀ {a0 : Nat} {a1 : Int32} {a2 : Int32} {a3 : Int32} {a4 : Int32} {ph : px_H} {r : Unit} {ph' : px_H}, k57 a0 a1 a2 a3 a4 ph = some (r, ph') → PW l g (d + 11) m_M_findSlots 57 [.ref a0, .int a1, .int a2, .int a3, .int a4, px_u, px_u, px_u] [] ph (px_qV r ph')) {a0 : Nat} {a1 : Int32} {a2 : Int32} {a3 : Int32} {a4 : Int32} {s0 : Nat} {s1 : Int32} {s2 : Int32} {ph : px_H} {r : Unit} {ph' : px_H} (h : f_M_findSlots_165 F k2 k18 k57 a0 a1 a2 a3 a4 s0 s1 s2 ph = some (r, ph')) : PW l g (d + 11) m_M_findSlots 165 [.ref a0, .int a1, .int a2, .int a3, .int a4, px_u, px_u, px_u] [.int s2, .int s1, .ref s0] ph (px_qV r ph') := by
  unfold f_M_findSlots_165 at h
  refine px_alu rfl rfl rfl ?_
  obtain ⟨ph1, h0, h⟩ := xs_some h
  obtain ⟨fs, e1, e2, e3⟩ := xpI_some h0
  subst e3
  refine px_put rfl e1 e2 trivial rfl ?_
  exact (r_M_findSlots_169 @hk2 @hk18 @hk57 h :)
def f_M_findSlots_141 (F : Nat) (k2 : Nat → Int32 → px_H → Option (Unit × px_H)) (k18 : Nat → Int32 → Int32 → Int32 → px_H → Option (Unit × px_H)) (k57 : Nat → Int32 → Int32 → Int32 → Int32 → px_H → Option (Unit × px_H)) (a0 : Nat) (a1 : Int32) (a2 : Int32) (a3 : Int32) (a4 : Int32) (s0 : Nat) (s1 : Int32) (s2 : Int32) (s3 : Int32) (ph : px_H) : Option (Unit × px_H) :=
  (xo ph 12 s0).bind fun _ =>
  xb (f_M_slotOf F s0 s1 s2 s3 ph) fun t1 ph2 =>
  (xgI ph2 12 74 a0).bind fun t3 =>
  (xgI ph2 12 74 a0).bind fun t4 =>
  if t1 = t4 then
    f_M_findSlots_165 F k2 k18 k57 a0 a1 a2 a3 a4 a0 t3 (nI 1) ph2
  else
    f_M_findSlots_165 F k2 k18 k57 a0 a1 a2 a3 a4 a0 t3 (nI 0) ph2
theorem r_M_findSlots_141 {l : Launch} {g : px_G} {d F : Nat} {k2 : Nat → Int32 → px_H → Option (Unit × px_H)} (hk2 : ∀ {a0 : Nat} {a1 : Int32} {ph : px_H} {r : Unit} {ph' : px_H}, k2 a0 a1 ph = some (r, ph') → PW l g (d + 11) m_M_findSlots 2 [.ref a0, .int a1, px_u, px_u, px_u, px_u, px_u, px_u] [] ph (px_qV r ph')) {k18 : Nat → Int32 → Int32 → Int32 → px_H → Option (Unit × px_H)} (hk18 : ∀ {a0 : Nat} {a1 : Int32} {a2 : Int32} {a3 : Int32} {ph : px_H} {r : Unit} {ph' : px_H}, k18 a0 a1 a2 a3 ph = some (r, ph') → PW l g (d + 11) m_M_findSlots 18 [.ref a0, .int a1, .int a2, .int a3, px_u, px_u, px_u, px_u] [] ph (px_qV r ph')) {k57 : Nat → Int32 → Int32 → Int32 → Int32 → px_H → Option (Unit × px_H)} (hk57 : ∀ {a0 : Nat} {a1 : Int32} {a2 : Int32} {a3 : Int32} {a4 : Int32} {ph : px_H} {r : Unit} {ph' : px_H}, k57 a0 a1 a2 a3 a4 ph = some (r, ph') → PW l g (d + 11) m_M_findSlots 57 [.ref a0, .int a1, .int a2, .int a3, .int a4, px_u, px_u, px_u] [] ph (px_qV r ph')) {a0 : Nat} {a1 : Int32} {a2 : Int32} {a3 : Int32} {a4 : Int32} {s0 : Nat} {s1 : Int32} {s2 : Int32} {s3 : Int32} {ph : px_H} {r : Unit} {ph' : px_H} (h : f_M_findSlots_141 F k2 k18 k57 a0 a1 a2 a3 a4 s0 s1 s2 s3 ph = some (r, ph')) : PW l g (d + 11) m_M_findSlots 141 [.ref a0, .int a1, .int a2, .int a3, .int a4, px_u, px_u, px_u] [.int s3, .int s2, .int s1, .ref s0] ph (px_qV r ph') := by
  unfold f_M_findSlots_141 at h
  obtain ⟨fs, h0, h⟩ := xs_some h
  have e1 := xo_some h0
  obtain ⟨t1, ph2, h0, h⟩ := xb_some h
  refine px_cV3 rfl rfl e1 rfl rfl rfl rfl rfl rfl rfl (r_M_slotOf h0 :) (fun _ _ q => nomatch q.2) (fun r ph' q => ?_)
  obtain ⟨rfl, q⟩ := q
  cases q
  refine px_st (lv' := [_, _, _, _, _, _, _, _]) rfl rfl rfl rfl rfl rfl rfl ?_
  refine px_ld rfl rfl rfl rfl rfl ?_
  refine px_alu rfl rfl rfl ?_
  obtain ⟨t3, h0, h⟩ := xs_some h
  obtain ⟨fs, e1, e2⟩ := xgI_some h0
  refine px_get rfl e1 e2 rfl ?_
  refine px_ld rfl rfl rfl rfl rfl ?_
  refine px_ld rfl rfl rfl rfl rfl ?_
  obtain ⟨t4, h0, h⟩ := xs_some h
  obtain ⟨fs, e1, e2⟩ := xgI_some h0
  refine px_get rfl e1 e2 rfl ?_
  refine px_icne rfl (by decide) rfl (fun hc => ?_) (fun hc => ?_)
  · replace h := (if_neg hc).symm.trans h
    refine px_ic (k := 0) rfl rfl rfl ?_
    refine px_forget (n := 7) (lv' := [_, _, _, _, _, _, _, _]) rfl ?_
    exact (r_M_findSlots_165 @hk2 @hk18 @hk57 h :)
  · replace h := (if_pos hc).symm.trans h
    refine px_ic (k := 1) rfl rfl rfl ?_
    refine px_goto rfl (by decide) rfl ?_
    refine px_forget (n := 7) (lv' := [_, _, _, _, _, _, _, _]) rfl ?_
    exact (r_M_findSlots_165 @hk2 @hk18 @hk57 h :)
def f_M_findSlots_57 (F : Nat) (k2 : Nat → Int32 → px_H → Option (Unit × px_H)) (k18 : Nat → Int32 → Int32 → Int32 → px_H → Option (Unit × px_H)) : Nat → Nat → Int32 → Int32 → Int32 → Int32 → px_H → Option (Unit × px_H)
  | 0, _, _, _, _, _, _ => none
  | n + 1, a0, a1, a2, a3, a4, ph =>
    (xo ph 12 a0).bind fun _ =>
    xb (f_M_siteMany F a0 a2 a3 ph) fun t1 ph2 =>
    if t1 ≤ a4 then
      f_M_findSlots_175 F k2 k18 a0 a1 a2 a3 ph2
    else
      (xo ph2 12 a0).bind fun _ =>
      xb (f_M_site F a0 a2 a3 a4 ph2) fun t3 ph4 =>
      (xo ph4 12 a0).bind fun _ =>
      xb (f_M_num F a0 (t3 + (nI 8)) (nI 4) ph4) fun t5 ph6 =>
      xb (f_M_isSlotted F t5 ph6) fun t7 ph8 =>
      if t7 = 0 then
        f_M_findSlots_169 F k2 k18 (f_M_findSlots_57 F k2 k18 n) a0 a1 a2 a3 a4 ph8
      else
        (xo ph8 12 a0).bind fun _ =>
        xb (f_M_isShort F a0 a1 a3 a4 ph8) fun t9 ph10 =>
        if t9 = 0 then
          (xo ph10 12 a0).bind fun _ =>
          xb (f_M_site F a0 a2 a3 a4 ph10) fun t11 ph12 =>
          (xo ph12 12 a0).bind fun _ =>
          xb (f_M_num F a0 (t11 + (nI 12)) (nI 4) ph12) fun t13 ph14 =>
          if t5 = ((22 : Int64)) then
            f_M_findSlots_141 F k2 k18 (f_M_findSlots_57 F k2 k18 n) a0 a1 a2 a3 a4 a0 a1 t13.toInt32 (nI 1) ph14
          else
            f_M_findSlots_141 F k2 k18 (f_M_findSlots_57 F k2 k18 n) a0 a1 a2 a3 a4 a0 a1 t13.toInt32 (nI 0) ph14
        else
          f_M_findSlots_169 F k2 k18 (f_M_findSlots_57 F k2 k18 n) a0 a1 a2 a3 a4 ph10
theorem r_M_findSlots_57 {l : Launch} {g : px_G} {d F : Nat} {k2 : Nat → Int32 → px_H → Option (Unit × px_H)} (hk2 : ∀ {a0 : Nat} {a1 : Int32} {ph : px_H} {r : Unit} {ph' : px_H}, k2 a0 a1 ph = some (r, ph') → PW l g (d + 11) m_M_findSlots 2 [.ref a0, .int a1, px_u, px_u, px_u, px_u, px_u, px_u] [] ph (px_qV r ph')) {k18 : Nat → Int32 → Int32 → Int32 → px_H → Option (Unit × px_H)} (hk18 : ∀ {a0 : Nat} {a1 : Int32} {a2 : Int32} {a3 : Int32} {ph : px_H} {r : Unit} {ph' : px_H}, k18 a0 a1 a2 a3 ph = some (r, ph') → PW l g (d + 11) m_M_findSlots 18 [.ref a0, .int a1, .int a2, .int a3, px_u, px_u, px_u, px_u] [] ph (px_qV r ph')) : ∀ (n : Nat) {a0 : Nat} {a1 : Int32} {a2 : Int32} {a3 : Int32} {a4 : Int32} {ph : px_H} {r : Unit} {ph' : px_H}, f_M_findSlots_57 F k2 k18 n a0 a1 a2 a3 a4 ph = some (r, ph') → PW l g (d + 11) m_M_findSlots 57 [.ref a0, .int a1, .int a2, .int a3, .int a4, px_u, px_u, px_u] [] ph (px_qV r ph') := by
  intro n
  induction n with
  | zero => intro _ _ _ _ _ _ _ _ h; cases h
  | succ n ih =>
    intro a0 a1 a2 a3 a4 ph r ph' h
    unfold f_M_findSlots_57 at h
    refine px_ld rfl rfl rfl rfl rfl ?_
    refine px_ld rfl rfl rfl rfl rfl ?_
    refine px_ld rfl rfl rfl rfl rfl ?_
    refine px_ld rfl rfl rfl rfl rfl ?_
    obtain ⟨fs, h0, h⟩ := xs_some h
    have e1 := xo_some h0
    obtain ⟨t1, ph2, h0, h⟩ := xb_some h
    refine px_cV2 rfl rfl e1 rfl rfl rfl rfl rfl rfl rfl (r_M_siteMany h0 :) (fun _ _ q => nomatch q.2) (fun r ph' q => ?_)
    obtain ⟨rfl, q⟩ := q
    cases q
    refine px_icge rfl (by decide) rfl (fun hc => ?_) (fun hc => ?_)
    · replace h := (if_pos hc).symm.trans h
      refine px_forget (n := 4) (lv' := [_, _, _, _, _, _, _, _]) rfl ?_
      exact (r_M_findSlots_175 @hk2 @hk18 h :)
    · replace h := (if_neg hc).symm.trans h
      refine px_ld rfl rfl rfl rfl rfl ?_
      refine px_ld rfl rfl rfl rfl rfl ?_
      refine px_ld rfl rfl rfl rfl rfl ?_
      refine px_ld rfl rfl rfl rfl rfl ?_
      refine px_ld rfl rfl rfl rfl rfl ?_
      obtain ⟨fs, h0, h⟩ := xs_some h
      have e1 := xo_some h0
      obtain ⟨t3, ph4, h0, h⟩ := xb_some h
      refine px_cV3 rfl rfl e1 rfl rfl rfl rfl rfl rfl rfl (r_M_site h0 :) (fun _ _ q => nomatch q.2) (fun r ph' q => ?_)
      obtain ⟨rfl, q⟩ := q
      cases q
      refine px_ic (k := 8) rfl rfl rfl ?_
      refine px_alu rfl rfl rfl ?_
      refine px_ic (k := 4) rfl rfl rfl ?_
      obtain ⟨fs, h0, h⟩ := xs_some h
      have e1 := xo_some h0
      obtain ⟨t5, ph6, h0, h⟩ := xb_some h
      refine px_cV2 rfl rfl e1 rfl rfl rfl rfl rfl rfl rfl (r_M_num h0 :) (fun _ _ q => nomatch q.2) (fun r ph' q => ?_)
      obtain ⟨rfl, q⟩ := q
      cases q
      refine px_st (lv' := [_, _, _, _, _, _, _, _]) rfl rfl rfl rfl rfl rfl rfl ?_
      refine px_ld rfl rfl rfl rfl rfl ?_
      obtain ⟨t7, ph8, h0, h⟩ := xb_some h
      refine px_cS1 rfl rfl rfl rfl rfl rfl rfl (r_M_isSlotted h0 :) (fun _ _ q => nomatch q.2) (fun r ph' q => ?_)
      obtain ⟨rfl, q⟩ := q
      cases q
      refine px_ifeq rfl (by decide) rfl (fun hc => ?_) (fun hc => ?_)
      · replace h := (if_pos hc).symm.trans h
        refine px_forget (n := 5) (lv' := [_, _, _, _, _, _, _, _]) rfl ?_
        exact (r_M_findSlots_169 @hk2 @hk18 @ih h :)
      · replace h := (if_neg hc).symm.trans h
        refine px_ld rfl rfl rfl rfl rfl ?_
        refine px_ld rfl rfl rfl rfl rfl ?_
        refine px_ld rfl rfl rfl rfl rfl ?_
        refine px_ld rfl rfl rfl rfl rfl ?_
        obtain ⟨fs, h0, h⟩ := xs_some h
        have e1 := xo_some h0
        obtain ⟨t9, ph10, h0, h⟩ := xb_some h
        refine px_cV3 rfl rfl e1 rfl rfl rfl rfl rfl rfl rfl (r_M_isShort h0 :) (fun _ _ q => nomatch q.2) (fun r ph' q => ?_)
        obtain ⟨rfl, q⟩ := q
        cases q
        refine px_ifeq rfl (by decide) rfl (fun hc => ?_) (fun hc => ?_)
        · replace h := (if_pos hc).symm.trans h
          refine px_ld rfl rfl rfl rfl rfl ?_
          refine px_ld rfl rfl rfl rfl rfl ?_
          refine px_ld rfl rfl rfl rfl rfl ?_
          refine px_ld rfl rfl rfl rfl rfl ?_
          refine px_ld rfl rfl rfl rfl rfl ?_
          refine px_ld rfl rfl rfl rfl rfl ?_
          refine px_ld rfl rfl rfl rfl rfl ?_
          obtain ⟨fs, h0, h⟩ := xs_some h
          have e1 := xo_some h0
          obtain ⟨t11, ph12, h0, h⟩ := xb_some h
          refine px_cV3 rfl rfl e1 rfl rfl rfl rfl rfl rfl rfl (r_M_site h0 :) (fun _ _ q => nomatch q.2) (fun r ph' q => ?_)
          obtain ⟨rfl, q⟩ := q
          cases q
          refine px_ic (k := 12) rfl rfl rfl ?_
          refine px_alu rfl rfl rfl ?_
          refine px_ic (k := 4) rfl rfl rfl ?_
          obtain ⟨fs, h0, h⟩ := xs_some h
          have e1 := xo_some h0
          obtain ⟨t13, ph14, h0, h⟩ := xb_some h
          refine px_cV2 rfl rfl e1 rfl rfl rfl rfl rfl rfl rfl (r_M_num h0 :) (fun _ _ q => nomatch q.2) (fun r ph' q => ?_)
          obtain ⟨rfl, q⟩ := q
          cases q
          refine px_alu rfl rfl rfl ?_
          refine px_ld rfl rfl rfl rfl rfl ?_
          refine px_ldc2 rfl rfl rfl ?_
          refine px_alu rfl rfl rfl ?_
          refine px_ifne rfl (by decide) rfl (fun hc => ?_) (fun hc => ?_)
          · replace h := (if_neg (fun q => hc ((lg_cmp_eq _ _).mpr q))).symm.trans h
            refine px_ic (k := 0) rfl rfl rfl ?_
            refine px_forget (n := 5) (lv' := [_, _, _, _, _, _, _, _]) rfl ?_
            exact (r_M_findSlots_141 @hk2 @hk18 @ih h :)
          · replace h := (if_pos ((lg_cmp_eq _ _).mp hc)).symm.trans h
            refine px_ic (k := 1) rfl rfl rfl ?_
            refine px_goto rfl (by decide) rfl ?_
            refine px_forget (n := 5) (lv' := [_, _, _, _, _, _, _, _]) rfl ?_
            exact (r_M_findSlots_141 @hk2 @hk18 @ih h :)
        · replace h := (if_neg hc).symm.trans h
          refine px_goto rfl (by decide) rfl ?_
          refine px_forget (n := 5) (lv' := [_, _, _, _, _, _, _, _]) rfl ?_
          exact (r_M_findSlots_169 @hk2 @hk18 @ih h :)
def f_M_findSlots_18 (F : Nat) (k2 : Nat → Int32 → px_H → Option (Unit × px_H)) : Nat → Nat → Int32 → Int32 → Int32 → px_H → Option (Unit × px_H)
  | 0, _, _, _, _, _ => none
  | n + 1, a0, a1, a2, a3, ph =>
    (xo ph 12 a0).bind fun _ =>
    xb (f_M_sections F a0 a2 ph) fun t1 ph2 =>
    if t1 ≤ a3 then
      f_M_findSlots_181 F k2 a0 a1 ph2
    else
      (xo ph2 12 a0).bind fun _ =>
      xb (f_M_isSites F a0 a2 a3 ph2) fun t3 ph4 =>
      if t3 = 0 then
        f_M_findSlots_175 F k2 (f_M_findSlots_18 F k2 n) a0 a1 a2 a3 ph4
      else
        (xo ph4 12 a0).bind fun _ =>
        xb (f_M_info F a0 a2 a3 ph4) fun t5 ph6 =>
        (xo ph6 12 a0).bind fun _ =>
        xb (f_M_stays F a0 a1 t5.toInt32 ph6) fun t7 ph8 =>
        if t7 = 0 then
          f_M_findSlots_175 F k2 (f_M_findSlots_18 F k2 n) a0 a1 a2 a3 ph8
        else
          f_M_findSlots_57 F k2 (f_M_findSlots_18 F k2 n) F a0 a1 a2 a3 (nI 0) ph8
theorem r_M_findSlots_18 {l : Launch} {g : px_G} {d F : Nat} {k2 : Nat → Int32 → px_H → Option (Unit × px_H)} (hk2 : ∀ {a0 : Nat} {a1 : Int32} {ph : px_H} {r : Unit} {ph' : px_H}, k2 a0 a1 ph = some (r, ph') → PW l g (d + 11) m_M_findSlots 2 [.ref a0, .int a1, px_u, px_u, px_u, px_u, px_u, px_u] [] ph (px_qV r ph')) : ∀ (n : Nat) {a0 : Nat} {a1 : Int32} {a2 : Int32} {a3 : Int32} {ph : px_H} {r : Unit} {ph' : px_H}, f_M_findSlots_18 F k2 n a0 a1 a2 a3 ph = some (r, ph') → PW l g (d + 11) m_M_findSlots 18 [.ref a0, .int a1, .int a2, .int a3, px_u, px_u, px_u, px_u] [] ph (px_qV r ph') := by
  intro n
  induction n with
  | zero => intro _ _ _ _ _ _ _ h; cases h
  | succ n ih =>
    intro a0 a1 a2 a3 ph r ph' h
    unfold f_M_findSlots_18 at h
    refine px_ld rfl rfl rfl rfl rfl ?_
    refine px_ld rfl rfl rfl rfl rfl ?_
    refine px_ld rfl rfl rfl rfl rfl ?_
    obtain ⟨fs, h0, h⟩ := xs_some h
    have e1 := xo_some h0
    obtain ⟨t1, ph2, h0, h⟩ := xb_some h
    refine px_cV1 rfl rfl e1 rfl rfl rfl rfl rfl rfl rfl (r_M_sections h0 :) (fun _ _ q => nomatch q.2) (fun r ph' q => ?_)
    obtain ⟨rfl, q⟩ := q
    cases q
    refine px_icge rfl (by decide) rfl (fun hc => ?_) (fun hc => ?_)
    · replace h := (if_pos hc).symm.trans h
      refine px_forget (n := 2) (lv' := [_, _, _, _, _, _, _, _]) rfl ?_
      refine px_forget (n := 3) (lv' := [_, _, _, _, _, _, _, _]) rfl ?_
      exact (r_M_findSlots_181 @hk2 h :)
    · replace h := (if_neg hc).symm.trans h
      refine px_ld rfl rfl rfl rfl rfl ?_
      refine px_ld rfl rfl rfl rfl rfl ?_
      refine px_ld rfl rfl rfl rfl rfl ?_
      obtain ⟨fs, h0, h⟩ := xs_some h
      have e1 := xo_some h0
      obtain ⟨t3, ph4, h0, h⟩ := xb_some h
      refine px_cV2 rfl rfl e1 rfl rfl rfl rfl rfl rfl rfl (r_M_isSites h0 :) (fun _ _ q => nomatch q.2) (fun r ph' q => ?_)
      obtain ⟨rfl, q⟩ := q
      cases q
      refine px_ifeq rfl (by decide) rfl (fun hc => ?_) (fun hc => ?_)
      · replace h := (if_pos hc).symm.trans h
        exact (r_M_findSlots_175 @hk2 @ih h :)
      · replace h := (if_neg hc).symm.trans h
        refine px_ld rfl rfl rfl rfl rfl ?_
        refine px_ld rfl rfl rfl rfl rfl ?_
        refine px_ld rfl rfl rfl rfl rfl ?_
        refine px_ld rfl rfl rfl rfl rfl ?_
        refine px_ld rfl rfl rfl rfl rfl ?_
        obtain ⟨fs, h0, h⟩ := xs_some h
        have e1 := xo_some h0
        obtain ⟨t5, ph6, h0, h⟩ := xb_some h
        refine px_cV2 rfl rfl e1 rfl rfl rfl rfl rfl rfl rfl (r_M_info h0 :) (fun _ _ q => nomatch q.2) (fun r ph' q => ?_)
        obtain ⟨rfl, q⟩ := q
        cases q
        refine px_alu rfl rfl rfl ?_
        obtain ⟨fs, h0, h⟩ := xs_some h
        have e1 := xo_some h0
        obtain ⟨t7, ph8, h0, h⟩ := xb_some h
        refine px_cV2 rfl rfl e1 rfl rfl rfl rfl rfl rfl rfl (r_M_stays h0 :) (fun _ _ q => nomatch q.2) (fun r ph' q => ?_)
        obtain ⟨rfl, q⟩ := q
        cases q
        refine px_ifne rfl (by decide) rfl (fun hc => ?_) (fun hc => ?_)
        · replace h := (if_neg hc).symm.trans h
          refine px_ic (k := 0) rfl rfl rfl ?_
          refine px_st (lv' := [_, _, _, _, _, _, _, _]) rfl rfl rfl rfl rfl rfl rfl ?_
          exact (r_M_findSlots_57 @hk2 @ih _ h :)
        · replace h := (if_pos hc).symm.trans h
          refine px_goto rfl (by decide) rfl ?_
          exact (r_M_findSlots_175 @hk2 @ih h :)
def f_M_findSlots_2 (F : Nat) : Nat → Nat → Int32 → px_H → Option (Unit × px_H)
  | 0, _, _, _ => none
  | n + 1, a0, a1, ph =>
    (xgI ph 12 14 a0).bind fun t1 =>
    if t1 ≤ a1 then
      f_M_findSlots_187 F ph
    else
      (xo ph 12 a0).bind fun _ =>
      xb (f_M_object F a0 a1 ph) fun t2 ph3 =>
      f_M_findSlots_18 F (f_M_findSlots_2 F n) F a0 a1 t2 (nI 1) ph3
theorem r_M_findSlots_2 {l : Launch} {g : px_G} {d F : Nat} : ∀ (n : Nat) {a0 : Nat} {a1 : Int32} {ph : px_H} {r : Unit} {ph' : px_H}, f_M_findSlots_2 F n a0 a1 ph = some (r, ph') → PW l g (d + 11) m_M_findSlots 2 [.ref a0, .int a1, px_u, px_u, px_u, px_u, px_u, px_u] [] ph (px_qV r ph') := by
  intro n
  induction n with
  | zero => intro _ _ _ _ _ h; cases h
  | succ n ih =>
    intro a0 a1 ph r ph' h
    unfold f_M_findSlots_2 at h
    refine px_ld rfl rfl rfl rfl rfl ?_
    refine px_ld rfl rfl rfl rfl rfl ?_
    obtain ⟨t1, h0, h⟩ := xs_some h
    obtain ⟨fs, e1, e2⟩ := xgI_some h0
    refine px_get rfl e1 e2 rfl ?_
    refine px_icge rfl (by decide) rfl (fun hc => ?_) (fun hc => ?_)
    · replace h := (if_pos hc).symm.trans h
      refine px_forget (n := 0) (lv' := [_, _, _, _, _, _, _, _]) rfl ?_
      refine px_forget (n := 1) (lv' := [_, _, _, _, _, _, _, _]) rfl ?_
      exact (r_M_findSlots_187 h :)
    · replace h := (if_neg hc).symm.trans h
      refine px_ld rfl rfl rfl rfl rfl ?_
      refine px_ld rfl rfl rfl rfl rfl ?_
      obtain ⟨fs, h0, h⟩ := xs_some h
      have e1 := xo_some h0
      obtain ⟨t2, ph3, h0, h⟩ := xb_some h
      refine px_cV1 rfl rfl e1 rfl rfl rfl rfl rfl rfl rfl (r_M_object h0 :) (fun _ _ q => nomatch q.2) (fun r ph' q => ?_)
      obtain ⟨rfl, q⟩ := q
      cases q
      refine px_st (lv' := [_, _, _, _, _, _, _, _]) rfl rfl rfl rfl rfl rfl rfl ?_
      refine px_ic (k := 1) rfl rfl rfl ?_
      refine px_st (lv' := [_, _, _, _, _, _, _, _]) rfl rfl rfl rfl rfl rfl rfl ?_
      exact (r_M_findSlots_18 @ih _ h :)
def f_M_findSlots (F : Nat) (a0 : Nat) (ph : px_H) : Option (Unit × px_H) :=
  f_M_findSlots_2 F F a0 (nI 0) ph
theorem r_M_findSlots {l : Launch} {g : px_G} {d F : Nat} {a0 : Nat} {ph : px_H} {r : Unit} {ph' : px_H} (h : f_M_findSlots F a0 ph = some (r, ph')) : PW l g (d + 11) m_M_findSlots 0 [.ref a0, px_u, px_u, px_u, px_u, px_u, px_u, px_u] [] ph (px_qV r ph') := by
  unfold f_M_findSlots at h
  refine px_ic (k := 0) rfl rfl rfl ?_
  refine px_st (lv' := [_, _, _, _, _, _, _, _]) rfl rfl rfl rfl rfl rfl rfl ?_
  exact (r_M_findSlots_2 _ h :)
def f_M_segmentOf_10 (F : Nat) (s0 : Int32) (ph : px_H) : Option (Int32 × px_H) :=
  some (s0, ph)
theorem r_M_segmentOf_10 {l : Launch} {g : px_G} {d F : Nat} {s0 : Int32} {ph : px_H} {r : Int32} {ph' : px_H} (h : f_M_segmentOf_10 F s0 ph = some (r, ph')) : PW l g (d + 0) m_M_segmentOf 10 [px_u] [.int s0] ph (px_qI r ph') := by
  unfold f_M_segmentOf_10 at h
  cases h
  exact px_iret rfl (Or.inl rfl) rfl ⟨rfl, rfl⟩
def f_M_segmentOf (F : Nat) (a0 : Int32) (ph : px_H) : Option (Int32 × px_H) :=
  if (nI 2) ≤ a0 then
    f_M_segmentOf_10 F (nI 2) ph
  else
    f_M_segmentOf_10 F a0 ph
theorem r_M_segmentOf {l : Launch} {g : px_G} {d F : Nat} {a0 : Int32} {ph : px_H} {r : Int32} {ph' : px_H} (h : f_M_segmentOf F a0 ph = some (r, ph')) : PW l g (d + 0) m_M_segmentOf 0 [.int a0] [] ph (px_qI r ph') := by
  unfold f_M_segmentOf at h
  refine px_ld rfl rfl rfl rfl rfl ?_
  refine px_ic (k := 2) rfl rfl rfl ?_
  refine px_icge rfl rfl rfl (fun hc => ?_) (fun hc => ?_)
  · replace h := (if_pos hc).symm.trans h
    refine px_ic (k := 2) rfl rfl rfl ?_
    refine px_forget (n := 0) (lv' := [_]) rfl ?_
    exact (r_M_segmentOf_10 h :)
  · replace h := (if_neg hc).symm.trans h
    refine px_ld rfl rfl rfl rfl rfl ?_
    refine px_goto rfl rfl rfl ?_
    refine px_forget (n := 0) (lv' := [_]) rfl ?_
    exact (r_M_segmentOf_10 h :)
def f_M_isCommon_41 (F : Nat) (s0 : Int32) (ph : px_H) : Option (Int32 × px_H) :=
  xz s0 ph
theorem r_M_isCommon_41 {l : Launch} {g : px_G} {d F : Nat} {s0 : Int32} {ph : px_H} {r : Int32} {ph' : px_H} (h : f_M_isCommon_41 F s0 ph = some (r, ph')) : PW l g (d + 0) m_M_isCommon 41 [px_u, px_u] [.int s0] ph (px_qI r ph') := by
  unfold f_M_isCommon_41 at h
  obtain ⟨e0, e1, e2⟩ := xz_some h
  subst e1 e2
  exact px_iret rfl (Or.inr ⟨rfl, e0⟩) rfl ⟨rfl, rfl⟩
def f_M_isCommon_40 (F : Nat) (ph : px_H) : Option (Int32 × px_H) :=
  f_M_isCommon_41 F (nI 0) ph
theorem r_M_isCommon_40 {l : Launch} {g : px_G} {d F : Nat} {ph : px_H} {r : Int32} {ph' : px_H} (h : f_M_isCommon_40 F ph = some (r, ph')) : PW l g (d + 0) m_M_isCommon 40 [px_u, px_u] [] ph (px_qI r ph') := by
  unfold f_M_isCommon_40 at h
  refine px_ic (k := 0) rfl rfl rfl ?_
  exact (r_M_isCommon_41 h :)
def f_M_isCommon_36 (F : Nat) (ph : px_H) : Option (Int32 × px_H) :=
  f_M_isCommon_41 F (nI 1) ph
theorem r_M_isCommon_36 {l : Launch} {g : px_G} {d F : Nat} {ph : px_H} {r : Int32} {ph' : px_H} (h : f_M_isCommon_36 F ph = some (r, ph')) : PW l g (d + 0) m_M_isCommon 36 [px_u, px_u] [] ph (px_qI r ph') := by
  unfold f_M_isCommon_36 at h
  refine px_ic (k := 1) rfl rfl rfl ?_
  refine px_goto rfl rfl rfl ?_
  exact (r_M_isCommon_41 h :)
def f_M_isCommon (F : Nat) (a0 : Nat) (a1 : Int32) (ph : px_H) : Option (Int32 × px_H) :=
  (xgR ph 12 23 a0).bind fun t1 =>
  (xgR ph 12 49 a0).bind fun t2 =>
  (xaI ph 1 t2 a1).bind fun t3 =>
  (xaI ph 1 t1 t3).bind fun t4 =>
  if t4 = (nI 2) then
    (xgI ph 12 68 a0).bind fun t5 =>
    if t5 = 0 then
      f_M_isCommon_36 F ph
    else
      (xgR ph 12 67 a0).bind fun t6 =>
      (xgR ph 12 49 a0).bind fun t7 =>
      (xaI ph 1 t7 a1).bind fun t8 =>
      (xaI ph 3 t6 t8).bind fun t9 =>
      if t9 = 0 then
        f_M_isCommon_40 F ph
      else
        f_M_isCommon_36 F ph
  else
    f_M_isCommon_40 F ph
theorem r_M_isCommon {l : Launch} {g : px_G} {d F : Nat} {a0 : Nat} {a1 : Int32} {ph : px_H} {r : Int32} {ph' : px_H} (h : f_M_isCommon F a0 a1 ph = some (r, ph')) : PW l g (d + 0) m_M_isCommon 0 [.ref a0, .int a1] [] ph (px_qI r ph') := by
  unfold f_M_isCommon at h
  refine px_ld rfl rfl rfl rfl rfl ?_
  obtain ⟨t1, h0, h⟩ := xs_some h
  obtain ⟨fs, e1, e2⟩ := xgR_some h0
  refine px_get rfl e1 e2 rfl ?_
  refine px_ld rfl rfl rfl rfl rfl ?_
  obtain ⟨t2, h0, h⟩ := xs_some h
  obtain ⟨fs, e1, e2⟩ := xgR_some h0
  refine px_get rfl e1 e2 rfl ?_
  refine px_ld rfl rfl rfl rfl rfl ?_
  obtain ⟨t3, h0, h⟩ := xs_some h
  obtain ⟨N, f, e1, e2, e3⟩ := xaI_some h0
  subst e3
  refine px_iald rfl e1 rfl e2 rfl ?_
  obtain ⟨t4, h0, h⟩ := xs_some h
  obtain ⟨N, f, e1, e2, e3⟩ := xaI_some h0
  subst e3
  refine px_iald rfl e1 rfl e2 rfl ?_
  refine px_ic (k := 2) rfl rfl rfl ?_
  refine px_icne rfl rfl rfl (fun hc => ?_) (fun hc => ?_)
  · replace h := (if_neg hc).symm.trans h
    refine px_forget (n := 0) (lv' := [_, _]) rfl ?_
    refine px_forget (n := 1) (lv' := [_, _]) rfl ?_
    exact (r_M_isCommon_40 h :)
  · replace h := (if_pos hc).symm.trans h
    refine px_ld rfl rfl rfl rfl rfl ?_
    obtain ⟨t5, h0, h⟩ := xs_some h
    obtain ⟨fs, e1, e2⟩ := xgI_some h0
    refine px_get rfl e1 e2 rfl ?_
    refine px_ifeq rfl rfl rfl (fun hc => ?_) (fun hc => ?_)
    · replace h := (if_pos hc).symm.trans h
      refine px_forget (n := 0) (lv' := [_, _]) rfl ?_
      refine px_forget (n := 1) (lv' := [_, _]) rfl ?_
      exact (r_M_isCommon_36 h :)
    · replace h := (if_neg hc).symm.trans h
      refine px_ld rfl rfl rfl rfl rfl ?_
      obtain ⟨t6, h0, h⟩ := xs_some h
      obtain ⟨fs, e1, e2⟩ := xgR_some h0
      refine px_get rfl e1 e2 rfl ?_
      refine px_ld rfl rfl rfl rfl rfl ?_
      obtain ⟨t7, h0, h⟩ := xs_some h
      obtain ⟨fs, e1, e2⟩ := xgR_some h0
      refine px_get rfl e1 e2 rfl ?_
      refine px_ld rfl rfl rfl rfl rfl ?_
      obtain ⟨t8, h0, h⟩ := xs_some h
      obtain ⟨N, f, e1, e2, e3⟩ := xaI_some h0
      subst e3
      refine px_iald rfl e1 rfl e2 rfl ?_
      obtain ⟨t9, h0, h⟩ := xs_some h
      obtain ⟨N, f, e1, e2, e3⟩ := xaI_some h0
      subst e3
      refine px_zald rfl e1 rfl e2 rfl ?_
      refine px_ifeq rfl rfl rfl (fun hc => ?_) (fun hc => ?_)
      · replace h := (if_pos hc).symm.trans h
        refine px_forget (n := 0) (lv' := [_, _]) rfl ?_
        refine px_forget (n := 1) (lv' := [_, _]) rfl ?_
        exact (r_M_isCommon_40 h :)
      · replace h := (if_neg hc).symm.trans h
        refine px_forget (n := 0) (lv' := [_, _]) rfl ?_
        refine px_forget (n := 1) (lv' := [_, _]) rfl ?_
        exact (r_M_isCommon_36 h :)
def f_M_findSegments_201 (F : Nat) (ph : px_H) : Option (Unit × px_H) :=
  some ((), ph)
theorem r_M_findSegments_201 {l : Launch} {g : px_G} {d F : Nat} {ph : px_H} {r : Unit} {ph' : px_H} (h : f_M_findSegments_201 F ph = some (r, ph')) : PW l g (d + 1) m_M_findSegments 201 [px_u, px_u, px_u] [] ph (px_qV r ph') := by
  unfold f_M_findSegments_201 at h
  cases h
  exact px_vret rfl rfl rfl ⟨rfl, rfl⟩
def f_M_findSegments_191 (F : Nat) (k7 : Nat → Int32 → px_H → Option (Unit × px_H)) (a0 : Nat) (a1 : Int32) (s0 : Nat) (s1 : Int32) (s2 : Int32) (ph : px_H) : Option (Unit × px_H) :=
  (xpI ph 12 15 s0 (s1 + s2)).bind fun ph1 =>
  k7 a0 (a1 + nI 1) ph1
theorem r_M_findSegments_191 {l : Launch} {g : px_G} {d F : Nat} {k7 : Nat → Int32 → px_H → Option (Unit × px_H)} (hk7 : ∀ {a0 : Nat} {a1 : Int32} {ph : px_H} {r : Unit} {ph' : px_H}, k7 a0 a1 ph = some (r, ph') → PW l g (d + 1) m_M_findSegments 7 [.ref a0, .int a1, px_u] [] ph (px_qV r ph')) {a0 : Nat} {a1 : Int32} {s0 : Nat} {s1 : Int32} {s2 : Int32} {ph : px_H} {r : Unit} {ph' : px_H} (h : f_M_findSegments_191 F k7 a0 a1 s0 s1 s2 ph = some (r, ph')) : PW l g (d + 1) m_M_findSegments 191 [.ref a0, .int a1, px_u] [.int s2, .int s1, .ref s0] ph (px_qV r ph') := by
  unfold f_M_findSegments_191 at h
  refine px_alu rfl rfl rfl ?_
  obtain ⟨ph1, h0, h⟩ := xs_some h
  obtain ⟨fs, e1, e2, e3⟩ := xpI_some h0
  subst e3
  refine px_put rfl e1 e2 trivial rfl ?_
  refine px_iinc (lv' := [_, _, _]) rfl rfl rfl rfl rfl rfl ?_
  refine px_goto rfl (by decide) rfl ?_
  exact (hk7 h :)
def f_M_findSegments_171 (F : Nat) (k7 : Nat → Int32 → px_H → Option (Unit × px_H)) (a0 : Nat) (a1 : Int32) (s0 : Nat) (s1 : Int32) (s2 : Int32) (ph : px_H) : Option (Unit × px_H) :=
  (xsI ph 3 s0 s1 (s2 &&& 1)).bind fun ph1 =>
  (xgI ph1 12 15 a0).bind fun t2 =>
  (xgR ph1 12 59 a0).bind fun t3 =>
  (xaI ph1 3 t3 a1).bind fun t4 =>
  if t4 = 0 then
    f_M_findSegments_191 F k7 a0 a1 a0 t2 (nI 0) ph1
  else
    f_M_findSegments_191 F k7 a0 a1 a0 t2 (nI 1) ph1
theorem r_M_findSegments_171 {l : Launch} {g : px_G} {d F : Nat} {k7 : Nat → Int32 → px_H → Option (Unit × px_H)} (hk7 : ∀ {a0 : Nat} {a1 : Int32} {ph : px_H} {r : Unit} {ph' : px_H}, k7 a0 a1 ph = some (r, ph') → PW l g (d + 1) m_M_findSegments 7 [.ref a0, .int a1, px_u] [] ph (px_qV r ph')) {a0 : Nat} {a1 : Int32} {s0 : Nat} {s1 : Int32} {s2 : Int32} {ph : px_H} {r : Unit} {ph' : px_H} (h : f_M_findSegments_171 F k7 a0 a1 s0 s1 s2 ph = some (r, ph')) : PW l g (d + 1) m_M_findSegments 171 [.ref a0, .int a1, px_u] [.int s2, .int s1, .ref s0] ph (px_qV r ph') := by
  unfold f_M_findSegments_171 at h
  obtain ⟨ph1, h0, h⟩ := xs_some h
  obtain ⟨N, f, e1, e2, e3⟩ := xsI_some h0
  subst e3
  refine px_zast rfl e1 rfl e2 rfl ?_
  refine px_ld rfl rfl rfl rfl rfl ?_
  refine px_alu rfl rfl rfl ?_
  obtain ⟨t2, h0, h⟩ := xs_some h
  obtain ⟨fs, e1, e2⟩ := xgI_some h0
  refine px_get rfl e1 e2 rfl ?_
  refine px_ld rfl rfl rfl rfl rfl ?_
  obtain ⟨t3, h0, h⟩ := xs_some h
  obtain ⟨fs, e1, e2⟩ := xgR_some h0
  refine px_get rfl e1 e2 rfl ?_
  refine px_ld rfl rfl rfl rfl rfl ?_
  obtain ⟨t4, h0, h⟩ := xs_some h
  obtain ⟨N, f, e1, e2, e3⟩ := xaI_some h0
  subst e3
  refine px_zald rfl e1 rfl e2 rfl ?_
  refine px_ifeq rfl (by decide) rfl (fun hc => ?_) (fun hc => ?_)
  · replace h := (if_pos hc).symm.trans h
    refine px_ic (k := 0) rfl rfl rfl ?_
    exact (r_M_findSegments_191 @hk7 h :)
  · replace h := (if_neg hc).symm.trans h
    refine px_ic (k := 1) rfl rfl rfl ?_
    refine px_goto rfl (by decide) rfl ?_
    exact (r_M_findSegments_191 @hk7 h :)
def f_M_findSegments_170 (F : Nat) (k7 : Nat → Int32 → px_H → Option (Unit × px_H)) (a0 : Nat) (a1 : Int32) (s0 : Nat) (s1 : Int32) (ph : px_H) : Option (Unit × px_H) :=
  f_M_findSegments_171 F k7 a0 a1 s0 s1 (nI 0) ph
theorem r_M_findSegments_170 {l : Launch} {g : px_G} {d F : Nat} {k7 : Nat → Int32 → px_H → Option (Unit × px_H)} (hk7 : ∀ {a0 : Nat} {a1 : Int32} {ph : px_H} {r : Unit} {ph' : px_H}, k7 a0 a1 ph = some (r, ph') → PW l g (d + 1) m_M_findSegments 7 [.ref a0, .int a1, px_u] [] ph (px_qV r ph')) {a0 : Nat} {a1 : Int32} {s0 : Nat} {s1 : Int32} {ph : px_H} {r : Unit} {ph' : px_H} (h : f_M_findSegments_170 F k7 a0 a1 s0 s1 ph = some (r, ph')) : PW l g (d + 1) m_M_findSegments 170 [.ref a0, .int a1, px_u] [.int s1, .ref s0] ph (px_qV r ph') := by
  unfold f_M_findSegments_170 at h
  refine px_ic (k := 0) rfl rfl rfl ?_
  exact (r_M_findSegments_171 @hk7 h :)
def f_M_findSegments_166 (F : Nat) (k7 : Nat → Int32 → px_H → Option (Unit × px_H)) (a0 : Nat) (a1 : Int32) (s0 : Nat) (s1 : Int32) (ph : px_H) : Option (Unit × px_H) :=
  f_M_findSegments_171 F k7 a0 a1 s0 s1 (nI 1) ph
theorem r_M_findSegments_166 {l : Launch} {g : px_G} {d F : Nat} {k7 : Nat → Int32 → px_H → Option (Unit × px_H)} (hk7 : ∀ {a0 : Nat} {a1 : Int32} {ph : px_H} {r : Unit} {ph' : px_H}, k7 a0 a1 ph = some (r, ph') → PW l g (d + 1) m_M_findSegments 7 [.ref a0, .int a1, px_u] [] ph (px_qV r ph')) {a0 : Nat} {a1 : Int32} {s0 : Nat} {s1 : Int32} {ph : px_H} {r : Unit} {ph' : px_H} (h : f_M_findSegments_166 F k7 a0 a1 s0 s1 ph = some (r, ph')) : PW l g (d + 1) m_M_findSegments 166 [.ref a0, .int a1, px_u] [.int s1, .ref s0] ph (px_qV r ph') := by
  unfold f_M_findSegments_166 at h
  refine px_ic (k := 1) rfl rfl rfl ?_
  refine px_goto rfl (by decide) rfl ?_
  exact (r_M_findSegments_171 @hk7 h :)
def f_M_findSegments_140 (F : Nat) (k7 : Nat → Int32 → px_H → Option (Unit × px_H)) (a0 : Nat) (a1 : Int32) (ph : px_H) : Option (Unit × px_H) :=
  (xgR ph 12 59 a0).bind fun t1 =>
  (xgR ph 12 59 a0).bind fun t2 =>
  (xaI ph 3 t2 a1).bind fun t3 =>
  if t3 = 0 then
    if a1 = (nI 2) then
      (xgI ph 12 74 a0).bind fun t4 =>
      if t4 ≤ 0 then
        f_M_findSegments_170 F k7 a0 a1 t1 a1 ph
      else
        f_M_findSegments_166 F k7 a0 a1 t1 a1 ph
    else
      f_M_findSegments_170 F k7 a0 a1 t1 a1 ph
  else
    f_M_findSegments_166 F k7 a0 a1 t1 a1 ph
theorem r_M_findSegments_140 {l : Launch} {g : px_G} {d F : Nat} {k7 : Nat → Int32 → px_H → Option (Unit × px_H)} (hk7 : ∀ {a0 : Nat} {a1 : Int32} {ph : px_H} {r : Unit} {ph' : px_H}, k7 a0 a1 ph = some (r, ph') → PW l g (d + 1) m_M_findSegments 7 [.ref a0, .int a1, px_u] [] ph (px_qV r ph')) {a0 : Nat} {a1 : Int32} {ph : px_H} {r : Unit} {ph' : px_H} (h : f_M_findSegments_140 F k7 a0 a1 ph = some (r, ph')) : PW l g (d + 1) m_M_findSegments 140 [.ref a0, .int a1, px_u] [] ph (px_qV r ph') := by
  unfold f_M_findSegments_140 at h
  refine px_ld rfl rfl rfl rfl rfl ?_
  obtain ⟨t1, h0, h⟩ := xs_some h
  obtain ⟨fs, e1, e2⟩ := xgR_some h0
  refine px_get rfl e1 e2 rfl ?_
  refine px_ld rfl rfl rfl rfl rfl ?_
  refine px_ld rfl rfl rfl rfl rfl ?_
  obtain ⟨t2, h0, h⟩ := xs_some h
  obtain ⟨fs, e1, e2⟩ := xgR_some h0
  refine px_get rfl e1 e2 rfl ?_
  refine px_ld rfl rfl rfl rfl rfl ?_
  obtain ⟨t3, h0, h⟩ := xs_some h
  obtain ⟨N, f, e1, e2, e3⟩ := xaI_some h0
  subst e3
  refine px_zald rfl e1 rfl e2 rfl ?_
  refine px_ifne rfl (by decide) rfl (fun hc => ?_) (fun hc => ?_)
  · replace h := (if_neg hc).symm.trans h
    exact (r_M_findSegments_166 @hk7 h :)
  · replace h := (if_pos hc).symm.trans h
    refine px_ld rfl rfl rfl rfl rfl ?_
    refine px_ic (k := 2) rfl rfl rfl ?_
    refine px_icne rfl (by decide) rfl (fun hc => ?_) (fun hc => ?_)
    · replace h := (if_neg hc).symm.trans h
      exact (r_M_findSegments_170 @hk7 h :)
    · replace h := (if_pos hc).symm.trans h
      refine px_ld rfl rfl rfl rfl rfl ?_
      obtain ⟨t4, h0, h⟩ := xs_some h
      obtain ⟨fs, e1, e2⟩ := xgI_some h0
      refine px_get rfl e1 e2 rfl ?_
      refine px_ifle rfl (by decide) rfl (fun hc => ?_) (fun hc => ?_)
      · replace h := (if_pos hc).symm.trans h
        exact (r_M_findSegments_170 @hk7 h :)
      · replace h := (if_neg hc).symm.trans h
        exact (r_M_findSegments_166 @hk7 h :)
def f_M_findSegments_133 (F : Nat) (k7 : Nat → Int32 → px_H → Option (Unit × px_H)) (k79 : Nat → Int32 → Int32 → px_H → Option (Unit × px_H)) (a0 : Nat) (a1 : Int32) (a2 : Int32) (s0 : Nat) (s1 : Int32) (s2 : Int32) (ph : px_H) : Option (Unit × px_H) :=
  (xsI ph 3 s0 s1 (s2 &&& 1)).bind fun ph1 =>
  k79 a0 a1 (a2 + nI 1) ph1
theorem r_M_findSegments_133 {l : Launch} {g : px_G} {d F : Nat} {k7 : Nat → Int32 → px_H → Option (Unit × px_H)} (hk7 : ∀ {a0 : Nat} {a1 : Int32} {ph : px_H} {r : Unit} {ph' : px_H}, k7 a0 a1 ph = some (r, ph') → PW l g (d + 1) m_M_findSegments 7 [.ref a0, .int a1, px_u] [] ph (px_qV r ph')) {k79 : Nat → Int32 → Int32 → px_H → Option (Unit × px_H)} (hk79 : ∀ {a0 : Nat} {a1 : Int32} {a2 : Int32} {ph : px_H} {r : Unit} {ph' : px_H}, k79 a0 a1 a2 ph = some (r, ph') → PW l g (d + 1) m_M_findSegments 79 [.ref a0, .int a1, .int a2] [] ph (px_qV r ph')) {a0 : Nat} {a1 : Int32} {a2 : Int32} {s0 : Nat} {s1 : Int32} {s2 : Int32} {ph : px_H} {r : Unit} {ph' : px_H} (h : f_M_findSegments_133 F k7 k79 a0 a1 a2 s0 s1 s2 ph = some (r, ph')) : PW l g (d + 1) m_M_findSegments 133 [.ref a0, .int a1, .int a2] [.int s2, .int s1, .ref s0] ph (px_qV r ph') := by
  unfold f_M_findSegments_133 at h
  obtain ⟨ph1, h0, h⟩ := xs_some h
  obtain ⟨N, f, e1, e2, e3⟩ := xsI_some h0
  subst e3
  refine px_zast rfl e1 rfl e2 rfl ?_
  refine px_iinc (lv' := [_, _, _]) rfl rfl rfl rfl rfl rfl ?_
  refine px_goto rfl (by decide) rfl ?_
  exact (hk79 h :)
def f_M_findSegments_132 (F : Nat) (k7 : Nat → Int32 → px_H → Option (Unit × px_H)) (k79 : Nat → Int32 → Int32 → px_H → Option (Unit × px_H)) (a0 : Nat) (a1 : Int32) (a2 : Int32) (s0 : Nat) (s1 : Int32) (ph : px_H) : Option (Unit × px_H) :=
  f_M_findSegments_133 F k7 k79 a0 a1 a2 s0 s1 (nI 0) ph
theorem r_M_findSegments_132 {l : Launch} {g : px_G} {d F : Nat} {k7 : Nat → Int32 → px_H → Option (Unit × px_H)} (hk7 : ∀ {a0 : Nat} {a1 : Int32} {ph : px_H} {r : Unit} {ph' : px_H}, k7 a0 a1 ph = some (r, ph') → PW l g (d + 1) m_M_findSegments 7 [.ref a0, .int a1, px_u] [] ph (px_qV r ph')) {k79 : Nat → Int32 → Int32 → px_H → Option (Unit × px_H)} (hk79 : ∀ {a0 : Nat} {a1 : Int32} {a2 : Int32} {ph : px_H} {r : Unit} {ph' : px_H}, k79 a0 a1 a2 ph = some (r, ph') → PW l g (d + 1) m_M_findSegments 79 [.ref a0, .int a1, .int a2] [] ph (px_qV r ph')) {a0 : Nat} {a1 : Int32} {a2 : Int32} {s0 : Nat} {s1 : Int32} {ph : px_H} {r : Unit} {ph' : px_H} (h : f_M_findSegments_132 F k7 k79 a0 a1 a2 s0 s1 ph = some (r, ph')) : PW l g (d + 1) m_M_findSegments 132 [.ref a0, .int a1, .int a2] [.int s1, .ref s0] ph (px_qV r ph') := by
  unfold f_M_findSegments_132 at h
  refine px_ic (k := 0) rfl rfl rfl ?_
  exact (r_M_findSegments_133 @hk7 @hk79 h :)
def f_M_findSegments_128 (F : Nat) (k7 : Nat → Int32 → px_H → Option (Unit × px_H)) (k79 : Nat → Int32 → Int32 → px_H → Option (Unit × px_H)) (a0 : Nat) (a1 : Int32) (a2 : Int32) (s0 : Nat) (s1 : Int32) (ph : px_H) : Option (Unit × px_H) :=
  f_M_findSegments_133 F k7 k79 a0 a1 a2 s0 s1 (nI 1) ph
theorem r_M_findSegments_128 {l : Launch} {g : px_G} {d F : Nat} {k7 : Nat → Int32 → px_H → Option (Unit × px_H)} (hk7 : ∀ {a0 : Nat} {a1 : Int32} {ph : px_H} {r : Unit} {ph' : px_H}, k7 a0 a1 ph = some (r, ph') → PW l g (d + 1) m_M_findSegments 7 [.ref a0, .int a1, px_u] [] ph (px_qV r ph')) {k79 : Nat → Int32 → Int32 → px_H → Option (Unit × px_H)} (hk79 : ∀ {a0 : Nat} {a1 : Int32} {a2 : Int32} {ph : px_H} {r : Unit} {ph' : px_H}, k79 a0 a1 a2 ph = some (r, ph') → PW l g (d + 1) m_M_findSegments 79 [.ref a0, .int a1, .int a2] [] ph (px_qV r ph')) {a0 : Nat} {a1 : Int32} {a2 : Int32} {s0 : Nat} {s1 : Int32} {ph : px_H} {r : Unit} {ph' : px_H} (h : f_M_findSegments_128 F k7 k79 a0 a1 a2 s0 s1 ph = some (r, ph')) : PW l g (d + 1) m_M_findSegments 128 [.ref a0, .int a1, .int a2] [.int s1, .ref s0] ph (px_qV r ph') := by
  unfold f_M_findSegments_128 at h
  refine px_ic (k := 1) rfl rfl rfl ?_
  refine px_goto rfl (by decide) rfl ?_
  exact (r_M_findSegments_133 @hk7 @hk79 h :)
def f_M_findSegments_79 (F : Nat) (k7 : Nat → Int32 → px_H → Option (Unit × px_H)) : Nat → Nat → Int32 → Int32 → px_H → Option (Unit × px_H)
  | 0, _, _, _, _ => none
  | n + 1, a0, a1, a2, ph =>
    (xgI ph 12 48 a0).bind fun t1 =>
    if t1 ≤ a2 then
      f_M_findSegments_140 F k7 a0 a1 ph
    else
      if a1 = (nI 2) then
        (xgR ph 12 59 a0).bind fun t2 =>
        (xgR ph 12 59 a0).bind fun t3 =>
        (xaI ph 3 t3 a1).bind fun t4 =>
        if t4 = 0 then
          (xo ph 12 a0).bind fun _ =>
          xb (f_M_isCommon F a0 a2 ph) fun t5 ph6 =>
          if t5 = 0 then
            f_M_findSegments_132 F k7 (f_M_findSegments_79 F k7 n) a0 a1 a2 t2 a1 ph6
          else
            (xgR ph6 12 26 a0).bind fun t7 =>
            (xgR ph6 12 49 a0).bind fun t8 =>
            (xaI ph6 1 t8 a2).bind fun t9 =>
            (xaI ph6 1 t7 t9).bind fun t10 =>
            if t10 ≤ 0 then
              f_M_findSegments_132 F k7 (f_M_findSegments_79 F k7 n) a0 a1 a2 t2 a1 ph6
            else
              f_M_findSegments_128 F k7 (f_M_findSegments_79 F k7 n) a0 a1 a2 t2 a1 ph6
        else
          f_M_findSegments_128 F k7 (f_M_findSegments_79 F k7 n) a0 a1 a2 t2 a1 ph
      else
        f_M_findSegments_140 F k7 a0 a1 ph
theorem r_M_findSegments_79 {l : Launch} {g : px_G} {d F : Nat} {k7 : Nat → Int32 → px_H → Option (Unit × px_H)} (hk7 : ∀ {a0 : Nat} {a1 : Int32} {ph : px_H} {r : Unit} {ph' : px_H}, k7 a0 a1 ph = some (r, ph') → PW l g (d + 1) m_M_findSegments 7 [.ref a0, .int a1, px_u] [] ph (px_qV r ph')) : ∀ (n : Nat) {a0 : Nat} {a1 : Int32} {a2 : Int32} {ph : px_H} {r : Unit} {ph' : px_H}, f_M_findSegments_79 F k7 n a0 a1 a2 ph = some (r, ph') → PW l g (d + 1) m_M_findSegments 79 [.ref a0, .int a1, .int a2] [] ph (px_qV r ph') := by
  intro n
  induction n with
  | zero => intro _ _ _ _ _ _ h; cases h
  | succ n ih =>
    intro a0 a1 a2 ph r ph' h
    unfold f_M_findSegments_79 at h
    refine px_ld rfl rfl rfl rfl rfl ?_
    refine px_ld rfl rfl rfl rfl rfl ?_
    obtain ⟨t1, h0, h⟩ := xs_some h
    obtain ⟨fs, e1, e2⟩ := xgI_some h0
    refine px_get rfl e1 e2 rfl ?_
    refine px_icge rfl (by decide) rfl (fun hc => ?_) (fun hc => ?_)
    · replace h := (if_pos hc).symm.trans h
      refine px_forget (n := 2) (lv' := [_, _, _]) rfl ?_
      exact (r_M_findSegments_140 @hk7 h :)
    · replace h := (if_neg hc).symm.trans h
      refine px_ld rfl rfl rfl rfl rfl ?_
      refine px_ic (k := 2) rfl rfl rfl ?_
      refine px_icne rfl (by decide) rfl (fun hc => ?_) (fun hc => ?_)
      · replace h := (if_neg hc).symm.trans h
        refine px_forget (n := 2) (lv' := [_, _, _]) rfl ?_
        exact (r_M_findSegments_140 @hk7 h :)
      · replace h := (if_pos hc).symm.trans h
        refine px_ld rfl rfl rfl rfl rfl ?_
        obtain ⟨t2, h0, h⟩ := xs_some h
        obtain ⟨fs, e1, e2⟩ := xgR_some h0
        refine px_get rfl e1 e2 rfl ?_
        refine px_ld rfl rfl rfl rfl rfl ?_
        refine px_ld rfl rfl rfl rfl rfl ?_
        obtain ⟨t3, h0, h⟩ := xs_some h
        obtain ⟨fs, e1, e2⟩ := xgR_some h0
        refine px_get rfl e1 e2 rfl ?_
        refine px_ld rfl rfl rfl rfl rfl ?_
        obtain ⟨t4, h0, h⟩ := xs_some h
        obtain ⟨N, f, e1, e2, e3⟩ := xaI_some h0
        subst e3
        refine px_zald rfl e1 rfl e2 rfl ?_
        refine px_ifne rfl (by decide) rfl (fun hc => ?_) (fun hc => ?_)
        · replace h := (if_neg hc).symm.trans h
          exact (r_M_findSegments_128 @hk7 @ih h :)
        · replace h := (if_pos hc).symm.trans h
          refine px_ld rfl rfl rfl rfl rfl ?_
          refine px_ld rfl rfl rfl rfl rfl ?_
          obtain ⟨fs, h0, h⟩ := xs_some h
          have e1 := xo_some h0
          obtain ⟨t5, ph6, h0, h⟩ := xb_some h
          refine px_cV1 rfl rfl e1 rfl rfl rfl rfl rfl rfl rfl (r_M_isCommon h0 :) (fun _ _ q => nomatch q.2) (fun r ph' q => ?_)
          obtain ⟨rfl, q⟩ := q
          cases q
          refine px_ifeq rfl (by decide) rfl (fun hc => ?_) (fun hc => ?_)
          · replace h := (if_pos hc).symm.trans h
            exact (r_M_findSegments_132 @hk7 @ih h :)
          · replace h := (if_neg hc).symm.trans h
            refine px_ld rfl rfl rfl rfl rfl ?_
            obtain ⟨t7, h0, h⟩ := xs_some h
            obtain ⟨fs, e1, e2⟩ := xgR_some h0
            refine px_get rfl e1 e2 rfl ?_
            refine px_ld rfl rfl rfl rfl rfl ?_
            obtain ⟨t8, h0, h⟩ := xs_some h
            obtain ⟨fs, e1, e2⟩ := xgR_some h0
            refine px_get rfl e1 e2 rfl ?_
            refine px_ld rfl rfl rfl rfl rfl ?_
            obtain ⟨t9, h0, h⟩ := xs_some h
            obtain ⟨N, f, e1, e2, e3⟩ := xaI_some h0
            subst e3
            refine px_iald rfl e1 rfl e2 rfl ?_
            obtain ⟨t10, h0, h⟩ := xs_some h
            obtain ⟨N, f, e1, e2, e3⟩ := xaI_some h0
            subst e3
            refine px_iald rfl e1 rfl e2 rfl ?_
            refine px_ifle rfl (by decide) rfl (fun hc => ?_) (fun hc => ?_)
            · replace h := (if_pos hc).symm.trans h
              exact (r_M_findSegments_132 @hk7 @ih h :)
            · replace h := (if_neg hc).symm.trans h
              exact (r_M_findSegments_128 @hk7 @ih h :)
def f_M_findSegments_77 (F : Nat) (k7 : Nat → Int32 → px_H → Option (Unit × px_H)) (a0 : Nat) (a1 : Int32) (ph : px_H) : Option (Unit × px_H) :=
  f_M_findSegments_79 F k7 F a0 a1 (nI 0) ph
theorem r_M_findSegments_77 {l : Launch} {g : px_G} {d F : Nat} {k7 : Nat → Int32 → px_H → Option (Unit × px_H)} (hk7 : ∀ {a0 : Nat} {a1 : Int32} {ph : px_H} {r : Unit} {ph' : px_H}, k7 a0 a1 ph = some (r, ph') → PW l g (d + 1) m_M_findSegments 7 [.ref a0, .int a1, px_u] [] ph (px_qV r ph')) {a0 : Nat} {a1 : Int32} {ph : px_H} {r : Unit} {ph' : px_H} (h : f_M_findSegments_77 F k7 a0 a1 ph = some (r, ph')) : PW l g (d + 1) m_M_findSegments 77 [.ref a0, .int a1, px_u] [] ph (px_qV r ph') := by
  unfold f_M_findSegments_77 at h
  refine px_ic (k := 0) rfl rfl rfl ?_
  refine px_st (lv' := [_, _, _]) rfl rfl rfl rfl rfl rfl rfl ?_
  exact (r_M_findSegments_79 @hk7 _ h :)
def f_M_findSegments_70 (F : Nat) (k7 : Nat → Int32 → px_H → Option (Unit × px_H)) (k21 : Nat → Int32 → Int32 → px_H → Option (Unit × px_H)) (a0 : Nat) (a1 : Int32) (a2 : Int32) (s0 : Nat) (s1 : Int32) (s2 : Int32) (ph : px_H) : Option (Unit × px_H) :=
  (xsI ph 3 s0 s1 (s2 &&& 1)).bind fun ph1 =>
  k21 a0 a1 (a2 + nI 1) ph1
theorem r_M_findSegments_70 {l : Launch} {g : px_G} {d F : Nat} {k7 : Nat → Int32 → px_H → Option (Unit × px_H)} (hk7 : ∀ {a0 : Nat} {a1 : Int32} {ph : px_H} {r : Unit} {ph' : px_H}, k7 a0 a1 ph = some (r, ph') → PW l g (d + 1) m_M_findSegments 7 [.ref a0, .int a1, px_u] [] ph (px_qV r ph')) {k21 : Nat → Int32 → Int32 → px_H → Option (Unit × px_H)} (hk21 : ∀ {a0 : Nat} {a1 : Int32} {a2 : Int32} {ph : px_H} {r : Unit} {ph' : px_H}, k21 a0 a1 a2 ph = some (r, ph') → PW l g (d + 1) m_M_findSegments 21 [.ref a0, .int a1, .int a2] [] ph (px_qV r ph')) {a0 : Nat} {a1 : Int32} {a2 : Int32} {s0 : Nat} {s1 : Int32} {s2 : Int32} {ph : px_H} {r : Unit} {ph' : px_H} (h : f_M_findSegments_70 F k7 k21 a0 a1 a2 s0 s1 s2 ph = some (r, ph')) : PW l g (d + 1) m_M_findSegments 70 [.ref a0, .int a1, .int a2] [.int s2, .int s1, .ref s0] ph (px_qV r ph') := by
  unfold f_M_findSegments_70 at h
  obtain ⟨ph1, h0, h⟩ := xs_some h
  obtain ⟨N, f, e1, e2, e3⟩ := xsI_some h0
  subst e3
  refine px_zast rfl e1 rfl e2 rfl ?_
  refine px_iinc (lv' := [_, _, _]) rfl rfl rfl rfl rfl rfl ?_
  refine px_goto rfl (by decide) rfl ?_
  exact (hk21 h :)
def f_M_findSegments_69 (F : Nat) (k7 : Nat → Int32 → px_H → Option (Unit × px_H)) (k21 : Nat → Int32 → Int32 → px_H → Option (Unit × px_H)) (a0 : Nat) (a1 : Int32) (a2 : Int32) (s0 : Nat) (s1 : Int32) (ph : px_H) : Option (Unit × px_H) :=
  f_M_findSegments_70 F k7 k21 a0 a1 a2 s0 s1 (nI 0) ph
theorem r_M_findSegments_69 {l : Launch} {g : px_G} {d F : Nat} {k7 : Nat → Int32 → px_H → Option (Unit × px_H)} (hk7 : ∀ {a0 : Nat} {a1 : Int32} {ph : px_H} {r : Unit} {ph' : px_H}, k7 a0 a1 ph = some (r, ph') → PW l g (d + 1) m_M_findSegments 7 [.ref a0, .int a1, px_u] [] ph (px_qV r ph')) {k21 : Nat → Int32 → Int32 → px_H → Option (Unit × px_H)} (hk21 : ∀ {a0 : Nat} {a1 : Int32} {a2 : Int32} {ph : px_H} {r : Unit} {ph' : px_H}, k21 a0 a1 a2 ph = some (r, ph') → PW l g (d + 1) m_M_findSegments 21 [.ref a0, .int a1, .int a2] [] ph (px_qV r ph')) {a0 : Nat} {a1 : Int32} {a2 : Int32} {s0 : Nat} {s1 : Int32} {ph : px_H} {r : Unit} {ph' : px_H} (h : f_M_findSegments_69 F k7 k21 a0 a1 a2 s0 s1 ph = some (r, ph')) : PW l g (d + 1) m_M_findSegments 69 [.ref a0, .int a1, .int a2] [.int s1, .ref s0] ph (px_qV r ph') := by
  unfold f_M_findSegments_69 at h
  refine px_ic (k := 0) rfl rfl rfl ?_
  exact (r_M_findSegments_70 @hk7 @hk21 h :)
def f_M_findSegments_65 (F : Nat) (k7 : Nat → Int32 → px_H → Option (Unit × px_H)) (k21 : Nat → Int32 → Int32 → px_H → Option (Unit × px_H)) (a0 : Nat) (a1 : Int32) (a2 : Int32) (s0 : Nat) (s1 : Int32) (ph : px_H) : Option (Unit × px_H) :=
  f_M_findSegments_70 F k7 k21 a0 a1 a2 s0 s1 (nI 1) ph
theorem r_M_findSegments_65 {l : Launch} {g : px_G} {d F : Nat} {k7 : Nat → Int32 → px_H → Option (Unit × px_H)} (hk7 : ∀ {a0 : Nat} {a1 : Int32} {ph : px_H} {r : Unit} {ph' : px_H}, k7 a0 a1 ph = some (r, ph') → PW l g (d + 1) m_M_findSegments 7 [.ref a0, .int a1, px_u] [] ph (px_qV r ph')) {k21 : Nat → Int32 → Int32 → px_H → Option (Unit × px_H)} (hk21 : ∀ {a0 : Nat} {a1 : Int32} {a2 : Int32} {ph : px_H} {r : Unit} {ph' : px_H}, k21 a0 a1 a2 ph = some (r, ph') → PW l g (d + 1) m_M_findSegments 21 [.ref a0, .int a1, .int a2] [] ph (px_qV r ph')) {a0 : Nat} {a1 : Int32} {a2 : Int32} {s0 : Nat} {s1 : Int32} {ph : px_H} {r : Unit} {ph' : px_H} (h : f_M_findSegments_65 F k7 k21 a0 a1 a2 s0 s1 ph = some (r, ph')) : PW l g (d + 1) m_M_findSegments 65 [.ref a0, .int a1, .int a2] [.int s1, .ref s0] ph (px_qV r ph') := by
  unfold f_M_findSegments_65 at h
  refine px_ic (k := 1) rfl rfl rfl ?_
  refine px_goto rfl (by decide) rfl ?_
  exact (r_M_findSegments_70 @hk7 @hk21 h :)
def f_M_findSegments_21 (F : Nat) (k7 : Nat → Int32 → px_H → Option (Unit × px_H)) : Nat → Nat → Int32 → Int32 → px_H → Option (Unit × px_H)
  | 0, _, _, _, _ => none
  | n + 1, a0, a1, a2, ph =>
    (xgI ph 12 50 a0).bind fun t1 =>
    if t1 ≤ a2 then
      f_M_findSegments_77 F k7 a0 a1 ph
    else
      (xgR ph 12 59 a0).bind fun t2 =>
      (xgR ph 12 59 a0).bind fun t3 =>
      (xaI ph 3 t3 a1).bind fun t4 =>
      if t4 = 0 then
        (xgR ph 12 55 a0).bind fun t5 =>
        (xaI ph 1 t5 a2).bind fun t6 =>
        xb (f_M_segmentOf F t6 ph) fun t7 ph8 =>
        if t7 = a1 then
          (xgR ph8 12 56 a0).bind fun t9 =>
          (xaI ph8 1 t9 a2).bind fun t10 =>
          if t10 ≤ 0 then
            f_M_findSegments_69 F k7 (f_M_findSegments_21 F k7 n) a0 a1 a2 t2 a1 ph8
          else
            f_M_findSegments_65 F k7 (f_M_findSegments_21 F k7 n) a0 a1 a2 t2 a1 ph8
        else
          f_M_findSegments_69 F k7 (f_M_findSegments_21 F k7 n) a0 a1 a2 t2 a1 ph8
      else
        f_M_findSegments_65 F k7 (f_M_findSegments_21 F k7 n) a0 a1 a2 t2 a1 ph
theorem r_M_findSegments_21 {l : Launch} {g : px_G} {d F : Nat} {k7 : Nat → Int32 → px_H → Option (Unit × px_H)} (hk7 : ∀ {a0 : Nat} {a1 : Int32} {ph : px_H} {r : Unit} {ph' : px_H}, k7 a0 a1 ph = some (r, ph') → PW l g (d + 1) m_M_findSegments 7 [.ref a0, .int a1, px_u] [] ph (px_qV r ph')) : ∀ (n : Nat) {a0 : Nat} {a1 : Int32} {a2 : Int32} {ph : px_H} {r : Unit} {ph' : px_H}, f_M_findSegments_21 F k7 n a0 a1 a2 ph = some (r, ph') → PW l g (d + 1) m_M_findSegments 21 [.ref a0, .int a1, .int a2] [] ph (px_qV r ph') := by
  intro n
  induction n with
  | zero => intro _ _ _ _ _ _ h; cases h
  | succ n ih =>
    intro a0 a1 a2 ph r ph' h
    unfold f_M_findSegments_21 at h
    refine px_ld rfl rfl rfl rfl rfl ?_
    refine px_ld rfl rfl rfl rfl rfl ?_
    obtain ⟨t1, h0, h⟩ := xs_some h
    obtain ⟨fs, e1, e2⟩ := xgI_some h0
    refine px_get rfl e1 e2 rfl ?_
    refine px_icge rfl (by decide) rfl (fun hc => ?_) (fun hc => ?_)
    · replace h := (if_pos hc).symm.trans h
      refine px_forget (n := 2) (lv' := [_, _, _]) rfl ?_
      exact (r_M_findSegments_77 @hk7 h :)
    · replace h := (if_neg hc).symm.trans h
      refine px_ld rfl rfl rfl rfl rfl ?_
      obtain ⟨t2, h0, h⟩ := xs_some h
      obtain ⟨fs, e1, e2⟩ := xgR_some h0
      refine px_get rfl e1 e2 rfl ?_
      refine px_ld rfl rfl rfl rfl rfl ?_
      refine px_ld rfl rfl rfl rfl rfl ?_
      obtain ⟨t3, h0, h⟩ := xs_some h
      obtain ⟨fs, e1, e2⟩ := xgR_some h0
      refine px_get rfl e1 e2 rfl ?_
      refine px_ld rfl rfl rfl rfl rfl ?_
      obtain ⟨t4, h0, h⟩ := xs_some h
      obtain ⟨N, f, e1, e2, e3⟩ := xaI_some h0
      subst e3
      refine px_zald rfl e1 rfl e2 rfl ?_
      refine px_ifne rfl (by decide) rfl (fun hc => ?_) (fun hc => ?_)
      · replace h := (if_neg hc).symm.trans h
        exact (r_M_findSegments_65 @hk7 @ih h :)
      · replace h := (if_pos hc).symm.trans h
        refine px_ld rfl rfl rfl rfl rfl ?_
        obtain ⟨t5, h0, h⟩ := xs_some h
        obtain ⟨fs, e1, e2⟩ := xgR_some h0
        refine px_get rfl e1 e2 rfl ?_
        refine px_ld rfl rfl rfl rfl rfl ?_
        obtain ⟨t6, h0, h⟩ := xs_some h
        obtain ⟨N, f, e1, e2, e3⟩ := xaI_some h0
        subst e3
        refine px_iald rfl e1 rfl e2 rfl ?_
        obtain ⟨t7, ph8, h0, h⟩ := xb_some h
        refine px_cS1 rfl rfl rfl rfl rfl rfl rfl (r_M_segmentOf h0 :) (fun _ _ q => nomatch q.2) (fun r ph' q => ?_)
        obtain ⟨rfl, q⟩ := q
        cases q
        refine px_ld rfl rfl rfl rfl rfl ?_
        refine px_icne rfl (by decide) rfl (fun hc => ?_) (fun hc => ?_)
        · replace h := (if_neg hc).symm.trans h
          exact (r_M_findSegments_69 @hk7 @ih h :)
        · replace h := (if_pos hc).symm.trans h
          refine px_ld rfl rfl rfl rfl rfl ?_
          obtain ⟨t9, h0, h⟩ := xs_some h
          obtain ⟨fs, e1, e2⟩ := xgR_some h0
          refine px_get rfl e1 e2 rfl ?_
          refine px_ld rfl rfl rfl rfl rfl ?_
          obtain ⟨t10, h0, h⟩ := xs_some h
          obtain ⟨N, f, e1, e2, e3⟩ := xaI_some h0
          subst e3
          refine px_iald rfl e1 rfl e2 rfl ?_
          refine px_ifle rfl (by decide) rfl (fun hc => ?_) (fun hc => ?_)
          · replace h := (if_pos hc).symm.trans h
            exact (r_M_findSegments_69 @hk7 @ih h :)
          · replace h := (if_neg hc).symm.trans h
            exact (r_M_findSegments_65 @hk7 @ih h :)
def f_M_findSegments_7 (F : Nat) : Nat → Nat → Int32 → px_H → Option (Unit × px_H)
  | 0, _, _, _ => none
  | n + 1, a0, a1, ph =>
    if (nI 3) ≤ a1 then
      f_M_findSegments_201 F ph
    else
      (xgR ph 12 59 a0).bind fun t1 =>
      (xsI ph 3 t1 a1 ((nI 0) &&& 1)).bind fun ph2 =>
      f_M_findSegments_21 F (f_M_findSegments_7 F n) F a0 a1 (nI 0) ph2
theorem r_M_findSegments_7 {l : Launch} {g : px_G} {d F : Nat} : ∀ (n : Nat) {a0 : Nat} {a1 : Int32} {ph : px_H} {r : Unit} {ph' : px_H}, f_M_findSegments_7 F n a0 a1 ph = some (r, ph') → PW l g (d + 1) m_M_findSegments 7 [.ref a0, .int a1, px_u] [] ph (px_qV r ph') := by
  intro n
  induction n with
  | zero => intro _ _ _ _ _ h; cases h
  | succ n ih =>
    intro a0 a1 ph r ph' h
    unfold f_M_findSegments_7 at h
    refine px_ld rfl rfl rfl rfl rfl ?_
    refine px_ic (k := 3) rfl rfl rfl ?_
    refine px_icge rfl (by decide) rfl (fun hc => ?_) (fun hc => ?_)
    · replace h := (if_pos hc).symm.trans h
      refine px_forget (n := 0) (lv' := [_, _, _]) rfl ?_
      refine px_forget (n := 1) (lv' := [_, _, _]) rfl ?_
      exact (r_M_findSegments_201 h :)
    · replace h := (if_neg hc).symm.trans h
      refine px_ld rfl rfl rfl rfl rfl ?_
      obtain ⟨t1, h0, h⟩ := xs_some h
      obtain ⟨fs, e1, e2⟩ := xgR_some h0
      refine px_get rfl e1 e2 rfl ?_
      refine px_ld rfl rfl rfl rfl rfl ?_
      refine px_ic (k := 0) rfl rfl rfl ?_
      obtain ⟨ph2, h0, h⟩ := xs_some h
      obtain ⟨N, f, e1, e2, e3⟩ := xsI_some h0
      subst e3
      refine px_zast rfl e1 rfl e2 rfl ?_
      refine px_ic (k := 0) rfl rfl rfl ?_
      refine px_st (lv' := [_, _, _]) rfl rfl rfl rfl rfl rfl rfl ?_
      exact (r_M_findSegments_21 @ih _ h :)
def f_M_findSegments (F : Nat) (a0 : Nat) (ph : px_H) : Option (Unit × px_H) :=
  (xpI ph 12 15 a0 (nI 0)).bind fun ph1 =>
  f_M_findSegments_7 F F a0 (nI 0) ph1
theorem r_M_findSegments {l : Launch} {g : px_G} {d F : Nat} {a0 : Nat} {ph : px_H} {r : Unit} {ph' : px_H} (h : f_M_findSegments F a0 ph = some (r, ph')) : PW l g (d + 1) m_M_findSegments 0 [.ref a0, px_u, px_u] [] ph (px_qV r ph') := by
  unfold f_M_findSegments at h
  refine px_ld rfl rfl rfl rfl rfl ?_
  refine px_ic (k := 0) rfl rfl rfl ?_
  obtain ⟨ph1, h0, h⟩ := xs_some h
  obtain ⟨fs, e1, e2, e3⟩ := xpI_some h0
  subst e3
  refine px_put rfl e1 e2 trivial rfl ?_
  refine px_ic (k := 0) rfl rfl rfl ?_
  refine px_st (lv' := [_, _, _]) rfl rfl rfl rfl rfl rfl rfl ?_
  exact (r_M_findSegments_7 _ h :)
def f_M_isThreaded_47 (F : Nat) (a1 : Int32) (ph : px_H) : Option (Int32 × px_H) :=
  xz a1 ph
theorem r_M_isThreaded_47 {l : Launch} {g : px_G} {d F : Nat} {a1 : Int32} {ph : px_H} {r : Int32} {ph' : px_H} (h : f_M_isThreaded_47 F a1 ph = some (r, ph')) : PW l g (d + 0) m_M_isThreaded 47 [px_u, .int a1, px_u] [] ph (px_qI r ph') := by
  unfold f_M_isThreaded_47 at h
  refine px_ld rfl rfl rfl rfl rfl ?_
  obtain ⟨e0, e1, e2⟩ := xz_some h
  subst e1 e2
  exact px_iret rfl (Or.inr ⟨rfl, e0⟩) rfl ⟨rfl, rfl⟩
def f_M_isThreaded_40 (F : Nat) (k4 : Nat → Int32 → Int32 → px_H → Option (Int32 × px_H)) (a0 : Nat) (a2 : Int32) (s0 : Int32) (ph : px_H) : Option (Int32 × px_H) :=
  k4 a0 s0 (a2 + nI 1) ph
theorem r_M_isThreaded_40 {l : Launch} {g : px_G} {d F : Nat} {k4 : Nat → Int32 → Int32 → px_H → Option (Int32 × px_H)} (hk4 : ∀ {a0 : Nat} {a1 : Int32} {a2 : Int32} {ph : px_H} {r : Int32} {ph' : px_H}, k4 a0 a1 a2 ph = some (r, ph') → PW l g (d + 0) m_M_isThreaded 4 [.ref a0, .int a1, .int a2] [] ph (px_qI r ph')) {a0 : Nat} {a2 : Int32} {s0 : Int32} {ph : px_H} {r : Int32} {ph' : px_H} (h : f_M_isThreaded_40 F k4 a0 a2 s0 ph = some (r, ph')) : PW l g (d + 0) m_M_isThreaded 40 [.ref a0, px_u, .int a2] [.int s0] ph (px_qI r ph') := by
  unfold f_M_isThreaded_40 at h
  refine px_st (lv' := [_, _, _]) rfl rfl rfl rfl rfl rfl rfl ?_
  refine px_iinc (lv' := [_, _, _]) rfl rfl rfl rfl rfl rfl ?_
  refine px_goto rfl rfl rfl ?_
  exact (hk4 h :)
def f_M_isThreaded_39 (F : Nat) (k4 : Nat → Int32 → Int32 → px_H → Option (Int32 × px_H)) (a0 : Nat) (a2 : Int32) (ph : px_H) : Option (Int32 × px_H) :=
  f_M_isThreaded_40 F k4 a0 a2 (nI 0) ph
theorem r_M_isThreaded_39 {l : Launch} {g : px_G} {d F : Nat} {k4 : Nat → Int32 → Int32 → px_H → Option (Int32 × px_H)} (hk4 : ∀ {a0 : Nat} {a1 : Int32} {a2 : Int32} {ph : px_H} {r : Int32} {ph' : px_H}, k4 a0 a1 a2 ph = some (r, ph') → PW l g (d + 0) m_M_isThreaded 4 [.ref a0, .int a1, .int a2] [] ph (px_qI r ph')) {a0 : Nat} {a2 : Int32} {ph : px_H} {r : Int32} {ph' : px_H} (h : f_M_isThreaded_39 F k4 a0 a2 ph = some (r, ph')) : PW l g (d + 0) m_M_isThreaded 39 [.ref a0, px_u, .int a2] [] ph (px_qI r ph') := by
  unfold f_M_isThreaded_39 at h
  refine px_ic (k := 0) rfl rfl rfl ?_
  exact (r_M_isThreaded_40 @hk4 h :)
def f_M_isThreaded_35 (F : Nat) (k4 : Nat → Int32 → Int32 → px_H → Option (Int32 × px_H)) (a0 : Nat) (a2 : Int32) (ph : px_H) : Option (Int32 × px_H) :=
  f_M_isThreaded_40 F k4 a0 a2 (nI 1) ph
theorem r_M_isThreaded_35 {l : Launch} {g : px_G} {d F : Nat} {k4 : Nat → Int32 → Int32 → px_H → Option (Int32 × px_H)} (hk4 : ∀ {a0 : Nat} {a1 : Int32} {a2 : Int32} {ph : px_H} {r : Int32} {ph' : px_H}, k4 a0 a1 a2 ph = some (r, ph') → PW l g (d + 0) m_M_isThreaded 4 [.ref a0, .int a1, .int a2] [] ph (px_qI r ph')) {a0 : Nat} {a2 : Int32} {ph : px_H} {r : Int32} {ph' : px_H} (h : f_M_isThreaded_35 F k4 a0 a2 ph = some (r, ph')) : PW l g (d + 0) m_M_isThreaded 35 [.ref a0, px_u, .int a2] [] ph (px_qI r ph') := by
  unfold f_M_isThreaded_35 at h
  refine px_ic (k := 1) rfl rfl rfl ?_
  refine px_goto rfl rfl rfl ?_
  exact (r_M_isThreaded_40 @hk4 h :)
def f_M_isThreaded_4 (F : Nat) : Nat → Nat → Int32 → Int32 → px_H → Option (Int32 × px_H)
  | 0, _, _, _, _ => none
  | n + 1, a0, a1, a2, ph =>
    (xgI ph 12 50 a0).bind fun t1 =>
    if t1 ≤ a2 then
      f_M_isThreaded_47 F a1 ph
    else
      if a1 = 0 then
        (xgR ph 12 55 a0).bind fun t2 =>
        (xaI ph 1 t2 a2).bind fun t3 =>
        if t3 ≤ (nI 3) then
          f_M_isThreaded_39 F (f_M_isThreaded_4 F n) a0 a2 ph
        else
          (xgR ph 12 56 a0).bind fun t4 =>
          (xaI ph 1 t4 a2).bind fun t5 =>
          if t5 ≤ 0 then
            f_M_isThreaded_39 F (f_M_isThreaded_4 F n) a0 a2 ph
          else
            f_M_isThreaded_35 F (f_M_isThreaded_4 F n) a0 a2 ph
      else
        f_M_isThreaded_35 F (f_M_isThreaded_4 F n) a0 a2 ph
theorem r_M_isThreaded_4 {l : Launch} {g : px_G} {d F : Nat} : ∀ (n : Nat) {a0 : Nat} {a1 : Int32} {a2 : Int32} {ph : px_H} {r : Int32} {ph' : px_H}, f_M_isThreaded_4 F n a0 a1 a2 ph = some (r, ph') → PW l g (d + 0) m_M_isThreaded 4 [.ref a0, .int a1, .int a2] [] ph (px_qI r ph') := by
  intro n
  induction n with
  | zero => intro _ _ _ _ _ _ h; cases h
  | succ n ih =>
    intro a0 a1 a2 ph r ph' h
    unfold f_M_isThreaded_4 at h
    refine px_ld rfl rfl rfl rfl rfl ?_
    refine px_ld rfl rfl rfl rfl rfl ?_
    obtain ⟨t1, h0, h⟩ := xs_some h
    obtain ⟨fs, e1, e2⟩ := xgI_some h0
    refine px_get rfl e1 e2 rfl ?_
    refine px_icge rfl rfl rfl (fun hc => ?_) (fun hc => ?_)
    · replace h := (if_pos hc).symm.trans h
      refine px_forget (n := 0) (lv' := [_, _, _]) rfl ?_
      refine px_forget (n := 2) (lv' := [_, _, _]) rfl ?_
      exact (r_M_isThreaded_47 h :)
    · replace h := (if_neg hc).symm.trans h
      refine px_ld rfl rfl rfl rfl rfl ?_
      refine px_ifne rfl rfl rfl (fun hc => ?_) (fun hc => ?_)
      · replace h := (if_neg hc).symm.trans h
        refine px_forget (n := 1) (lv' := [_, _, _]) rfl ?_
        exact (r_M_isThreaded_35 @ih h :)
      · replace h := (if_pos hc).symm.trans h
        refine px_ld rfl rfl rfl rfl rfl ?_
        obtain ⟨t2, h0, h⟩ := xs_some h
        obtain ⟨fs, e1, e2⟩ := xgR_some h0
        refine px_get rfl e1 e2 rfl ?_
        refine px_ld rfl rfl rfl rfl rfl ?_
        obtain ⟨t3, h0, h⟩ := xs_some h
        obtain ⟨N, f, e1, e2, e3⟩ := xaI_some h0
        subst e3
        refine px_iald rfl e1 rfl e2 rfl ?_
        refine px_ic (k := 3) rfl rfl rfl ?_
        refine px_icle rfl rfl rfl (fun hc => ?_) (fun hc => ?_)
        · replace h := (if_pos hc).symm.trans h
          refine px_forget (n := 1) (lv' := [_, _, _]) rfl ?_
          exact (r_M_isThreaded_39 @ih h :)
        · replace h := (if_neg hc).symm.trans h
          refine px_ld rfl rfl rfl rfl rfl ?_
          obtain ⟨t4, h0, h⟩ := xs_some h
          obtain ⟨fs, e1, e2⟩ := xgR_some h0
          refine px_get rfl e1 e2 rfl ?_
          refine px_ld rfl rfl rfl rfl rfl ?_
          obtain ⟨t5, h0, h⟩ := xs_some h
          obtain ⟨N, f, e1, e2, e3⟩ := xaI_some h0
          subst e3
          refine px_iald rfl e1 rfl e2 rfl ?_
          refine px_ifle rfl rfl rfl (fun hc => ?_) (fun hc => ?_)
          · replace h := (if_pos hc).symm.trans h
            refine px_forget (n := 1) (lv' := [_, _, _]) rfl ?_
            exact (r_M_isThreaded_39 @ih h :)
          · replace h := (if_neg hc).symm.trans h
            refine px_forget (n := 1) (lv' := [_, _, _]) rfl ?_
            exact (r_M_isThreaded_35 @ih h :)
def f_M_isThreaded (F : Nat) (a0 : Nat) (ph : px_H) : Option (Int32 × px_H) :=
  f_M_isThreaded_4 F F a0 (nI 0) (nI 0) ph
theorem r_M_isThreaded {l : Launch} {g : px_G} {d F : Nat} {a0 : Nat} {ph : px_H} {r : Int32} {ph' : px_H} (h : f_M_isThreaded F a0 ph = some (r, ph')) : PW l g (d + 0) m_M_isThreaded 0 [.ref a0, px_u, px_u] [] ph (px_qI r ph') := by
  unfold f_M_isThreaded at h
  refine px_ic (k := 0) rfl rfl rfl ?_
  refine px_st (lv' := [_, _, _]) rfl rfl rfl rfl rfl rfl rfl ?_
  refine px_ic (k := 0) rfl rfl rfl ?_
  refine px_st (lv' := [_, _, _]) rfl rfl rfl rfl rfl rfl rfl ?_
  exact (r_M_isThreaded_4 _ h :)
def f_M_up (F : Nat) (a0 : Int64) (a2 : Int64) (ph : px_H) : Option (Int64 × px_H) :=
  (xnzJ a2).bind fun _ =>
  some ((((a0 + a2) - (lN 1)) / a2) * a2, ph)
theorem r_M_up {l : Launch} {g : px_G} {d F : Nat} {a0 : Int64} {a2 : Int64} {ph : px_H} {r : Int64} {ph' : px_H} (h : f_M_up F a0 a2 ph = some (r, ph')) : PW l g (d + 0) m_M_up 0 [.long a0, px_u, .long a2, px_u] [] ph (px_qJ r ph') := by
  unfold f_M_up at h
  refine px_ld rfl rfl rfl rfl rfl ?_
  refine px_ld rfl rfl rfl rfl rfl ?_
  refine px_alu rfl rfl rfl ?_
  refine px_alu rfl rfl rfl ?_
  refine px_alu rfl rfl rfl ?_
  refine px_ld rfl rfl rfl rfl rfl ?_
  obtain ⟨_, h0, h⟩ := xs_some h
  have hz := xnzJ_some h0
  refine px_ldiv rfl hz rfl ?_
  refine px_ld rfl rfl rfl rfl rfl ?_
  refine px_alu rfl rfl rfl ?_
  cases h
  exact px_lret rfl rfl rfl ⟨rfl, rfl⟩
def f_M_placeGroup_182 (F : Nat) (a5 : Int64) (ph : px_H) : Option (Int64 × px_H) :=
  some (a5, ph)
theorem r_M_placeGroup_182 {l : Launch} {g : px_G} {d F : Nat} {a5 : Int64} {ph : px_H} {r : Int64} {ph' : px_H} (h : f_M_placeGroup_182 F a5 ph = some (r, ph')) : PW l g (d + 5) m_M_placeGroup 182 [px_u, px_u, px_u, px_u, px_u, .long a5, px_u, px_u, px_u, px_u] [] ph (px_qJ r ph') := by
  unfold f_M_placeGroup_182 at h
  refine px_ld rfl rfl rfl rfl rfl ?_
  cases h
  exact px_lret rfl rfl rfl ⟨rfl, rfl⟩
def f_M_placeGroup_176 (F : Nat) (k6 : Nat → Int32 → Int32 → Int64 → Int32 → px_H → Option (Int64 × px_H)) (a0 : Nat) (a1 : Int32) (a4 : Int32) (a5 : Int64) (a7 : Int32) (ph : px_H) : Option (Int64 × px_H) :=
  k6 a0 a1 a4 a5 (a7 + nI 1) ph
theorem r_M_placeGroup_176 {l : Launch} {g : px_G} {d F : Nat} {k6 : Nat → Int32 → Int32 → Int64 → Int32 → px_H → Option (Int64 × px_H)} (hk6 : ∀ {a0 : Nat} {a1 : Int32} {a4 : Int32} {a5 : Int64} {a7 : Int32} {ph : px_H} {r : Int64} {ph' : px_H}, k6 a0 a1 a4 a5 a7 ph = some (r, ph') → PW l g (d + 5) m_M_placeGroup 6 [.ref a0, .int a1, px_u, px_u, .int a4, .long a5, px_u, .int a7, px_u, px_u] [] ph (px_qJ r ph')) {a0 : Nat} {a1 : Int32} {a4 : Int32} {a5 : Int64} {a7 : Int32} {ph : px_H} {r : Int64} {ph' : px_H} (h : f_M_placeGroup_176 F k6 a0 a1 a4 a5 a7 ph = some (r, ph')) : PW l g (d + 5) m_M_placeGroup 176 [.ref a0, .int a1, px_u, px_u, .int a4, .long a5, px_u, .int a7, px_u, px_u] [] ph (px_qJ r ph') := by
  unfold f_M_placeGroup_176 at h
  refine px_iinc (lv' := [_, _, _, _, _, _, _, _, _, _]) rfl rfl rfl rfl rfl rfl ?_
  refine px_goto rfl (by decide) rfl ?_
  exact (hk6 h :)
def f_M_placeGroup_129 (F : Nat) (k6 : Nat → Int32 → Int32 → Int64 → Int32 → px_H → Option (Int64 × px_H)) (a0 : Nat) (a1 : Int32) (a4 : Int32) (a5 : Int64) (a7 : Int32) (ph : px_H) : Option (Int64 × px_H) :=
  (xgR ph 12 57 a0).bind fun t1 =>
  (xsJ ph 2 t1 a7 a5).bind fun ph2 =>
  (xgR ph2 12 58 a0).bind fun t3 =>
  (xgR ph2 12 51 a0).bind fun t4 =>
  (xaI ph2 1 t4 a7).bind fun t5 =>
  (xgR ph2 12 54 a0).bind fun t6 =>
  (xaI ph2 1 t6 a7).bind fun t7 =>
  (xsJ ph2 2 t3 (((nI 24) * t5) + t7) a5).bind fun ph8 =>
  (xgR ph8 12 56 a0).bind fun t9 =>
  (xaI ph8 1 t9 a7).bind fun t10 =>
  f_M_placeGroup_176 F k6 a0 a1 a4 (a5 + t10.toInt64) a7 ph8
theorem r_M_placeGroup_129 {l : Launch} {g : px_G} {d F : Nat} {k6 : Nat → Int32 → Int32 → Int64 → Int32 → px_H → Option (Int64 × px_H)} (hk6 : ∀ {a0 : Nat} {a1 : Int32} {a4 : Int32} {a5 : Int64} {a7 : Int32} {ph : px_H} {r : Int64} {ph' : px_H}, k6 a0 a1 a4 a5 a7 ph = some (r, ph') → PW l g (d + 5) m_M_placeGroup 6 [.ref a0, .int a1, px_u, px_u, .int a4, .long a5, px_u, .int a7, px_u, px_u] [] ph (px_qJ r ph')) {a0 : Nat} {a1 : Int32} {a4 : Int32} {a5 : Int64} {a7 : Int32} {ph : px_H} {r : Int64} {ph' : px_H} (h : f_M_placeGroup_129 F k6 a0 a1 a4 a5 a7 ph = some (r, ph')) : PW l g (d + 5) m_M_placeGroup 129 [.ref a0, .int a1, px_u, px_u, .int a4, .long a5, px_u, .int a7, px_u, px_u] [] ph (px_qJ r ph') := by
  unfold f_M_placeGroup_129 at h
  refine px_ld rfl rfl rfl rfl rfl ?_
  obtain ⟨t1, h0, h⟩ := xs_some h
  obtain ⟨fs, e1, e2⟩ := xgR_some h0
  refine px_get rfl e1 e2 rfl ?_
  refine px_ld rfl rfl rfl rfl rfl ?_
  refine px_ld rfl rfl rfl rfl rfl ?_
  obtain ⟨ph2, h0, h⟩ := xs_some h
  obtain ⟨N, f, e1, e2, e3⟩ := xsJ_some h0
  subst e3
  refine px_last rfl e1 rfl e2 rfl ?_
  refine px_ld rfl rfl rfl rfl rfl ?_
  obtain ⟨t3, h0, h⟩ := xs_some h
  obtain ⟨fs, e1, e2⟩ := xgR_some h0
  refine px_get rfl e1 e2 rfl ?_
  refine px_ic (k := 24) rfl rfl rfl ?_
  refine px_ld rfl rfl rfl rfl rfl ?_
  obtain ⟨t4, h0, h⟩ := xs_some h
  obtain ⟨fs, e1, e2⟩ := xgR_some h0
  refine px_get rfl e1 e2 rfl ?_
  refine px_ld rfl rfl rfl rfl rfl ?_
  obtain ⟨t5, h0, h⟩ := xs_some h
  obtain ⟨N, f, e1, e2, e3⟩ := xaI_some h0
  subst e3
  refine px_iald rfl e1 rfl e2 rfl ?_
  refine px_alu rfl rfl rfl ?_
  refine px_ld rfl rfl rfl rfl rfl ?_
  obtain ⟨t6, h0, h⟩ := xs_some h
  obtain ⟨fs, e1, e2⟩ := xgR_some h0
  refine px_get rfl e1 e2 rfl ?_
  refine px_ld rfl rfl rfl rfl rfl ?_
  obtain ⟨t7, h0, h⟩ := xs_some h
  obtain ⟨N, f, e1, e2, e3⟩ := xaI_some h0
  subst e3
  refine px_iald rfl e1 rfl e2 rfl ?_
  refine px_alu rfl rfl rfl ?_
  refine px_ld rfl rfl rfl rfl rfl ?_
  obtain ⟨ph8, h0, h⟩ := xs_some h
  obtain ⟨N, f, e1, e2, e3⟩ := xsJ_some h0
  subst e3
  refine px_last rfl e1 rfl e2 rfl ?_
  refine px_ld rfl rfl rfl rfl rfl ?_
  refine px_ld rfl rfl rfl rfl rfl ?_
  obtain ⟨t9, h0, h⟩ := xs_some h
  obtain ⟨fs, e1, e2⟩ := xgR_some h0
  refine px_get rfl e1 e2 rfl ?_
  refine px_ld rfl rfl rfl rfl rfl ?_
  obtain ⟨t10, h0, h⟩ := xs_some h
  obtain ⟨N, f, e1, e2, e3⟩ := xaI_some h0
  subst e3
  refine px_iald rfl e1 rfl e2 rfl ?_
  refine px_alu rfl rfl rfl ?_
  refine px_alu rfl rfl rfl ?_
  refine px_st (lv' := [_, _, _, _, _, _, _, _, _, _]) rfl rfl rfl rfl rfl rfl rfl ?_
  exact (r_M_placeGroup_176 @hk6 h :)
def f_M_placeGroup_107 (F : Nat) (k6 : Nat → Int32 → Int32 → Int64 → Int32 → px_H → Option (Int64 × px_H)) (a0 : Nat) (a1 : Int32) (a4 : Int32) (a7 : Int32) (s0 : Int64) (ph : px_H) : Option (Int64 × px_H) :=
  if a1 = (nI 3) then
    (xgJ ph 12 81 a0).bind fun t1 =>
    if (lN 0) ≤ t1 then
      f_M_placeGroup_129 F k6 a0 a1 a4 s0 a7 ph
    else
      (xpJ ph 12 81 a0 s0).bind fun ph2 =>
      f_M_placeGroup_129 F k6 a0 a1 a4 s0 a7 ph2
  else
    f_M_placeGroup_129 F k6 a0 a1 a4 s0 a7 ph
theorem r_M_placeGroup_107 {l : Launch} {g : px_G} {d F : Nat} {k6 : Nat → Int32 → Int32 → Int64 → Int32 → px_H → Option (Int64 × px_H)} (hk6 : ∀ {a0 : Nat} {a1 : Int32} {a4 : Int32} {a5 : Int64} {a7 : Int32} {ph : px_H} {r : Int64} {ph' : px_H}, k6 a0 a1 a4 a5 a7 ph = some (r, ph') → PW l g (d + 5) m_M_placeGroup 6 [.ref a0, .int a1, px_u, px_u, .int a4, .long a5, px_u, .int a7, px_u, px_u] [] ph (px_qJ r ph')) {a0 : Nat} {a1 : Int32} {a4 : Int32} {a7 : Int32} {s0 : Int64} {ph : px_H} {r : Int64} {ph' : px_H} (h : f_M_placeGroup_107 F k6 a0 a1 a4 a7 s0 ph = some (r, ph')) : PW l g (d + 5) m_M_placeGroup 107 [.ref a0, .int a1, px_u, px_u, .int a4, px_u, px_u, .int a7, px_u, px_u] [.long s0] ph (px_qJ r ph') := by
  unfold f_M_placeGroup_107 at h
  refine px_st (lv' := [_, _, _, _, _, _, _, _, _, _]) rfl rfl rfl rfl rfl rfl rfl ?_
  refine px_ld rfl rfl rfl rfl rfl ?_
  refine px_ic (k := 3) rfl rfl rfl ?_
  refine px_icne rfl (by decide) rfl (fun hc => ?_) (fun hc => ?_)
  · replace h := (if_neg hc).symm.trans h
    exact (r_M_placeGroup_129 @hk6 h :)
  · replace h := (if_pos hc).symm.trans h
    refine px_ld rfl rfl rfl rfl rfl ?_
    obtain ⟨t1, h0, h⟩ := xs_some h
    obtain ⟨fs, e1, e2⟩ := xgJ_some h0
    refine px_get rfl e1 e2 rfl ?_
    refine px_alu rfl rfl rfl ?_
    refine px_alu rfl rfl rfl ?_
    refine px_ifge rfl (by decide) rfl (fun hc => ?_) (fun hc => ?_)
    · replace h := (if_pos ((lg_cmp_ge _ _).mp hc)).symm.trans h
      exact (r_M_placeGroup_129 @hk6 h :)
    · replace h := (if_neg (fun q => hc ((lg_cmp_ge _ _).mpr q))).symm.trans h
      refine px_ld rfl rfl rfl rfl rfl ?_
      refine px_ld rfl rfl rfl rfl rfl ?_
      obtain ⟨ph2, h0, h⟩ := xs_some h
      obtain ⟨fs, e1, e2, e3⟩ := xpJ_some h0
      subst e3
      refine px_put rfl e1 e2 trivial rfl ?_
      exact (r_M_placeGroup_129 @hk6 h :)
def f_M_placeGroup_105 (F : Nat) (k6 : Nat → Int32 → Int32 → Int64 → Int32 → px_H → Option (Int64 × px_H)) (a0 : Nat) (a1 : Int32) (a4 : Int32) (a5 : Int64) (a7 : Int32) (ph : px_H) : Option (Int64 × px_H) :=
  f_M_placeGroup_107 F k6 a0 a1 a4 a7 a5 ph
theorem r_M_placeGroup_105 {l : Launch} {g : px_G} {d F : Nat} {k6 : Nat → Int32 → Int32 → Int64 → Int32 → px_H → Option (Int64 × px_H)} (hk6 : ∀ {a0 : Nat} {a1 : Int32} {a4 : Int32} {a5 : Int64} {a7 : Int32} {ph : px_H} {r : Int64} {ph' : px_H}, k6 a0 a1 a4 a5 a7 ph = some (r, ph') → PW l g (d + 5) m_M_placeGroup 6 [.ref a0, .int a1, px_u, px_u, .int a4, .long a5, px_u, .int a7, px_u, px_u] [] ph (px_qJ r ph')) {a0 : Nat} {a1 : Int32} {a4 : Int32} {a5 : Int64} {a7 : Int32} {ph : px_H} {r : Int64} {ph' : px_H} (h : f_M_placeGroup_105 F k6 a0 a1 a4 a5 a7 ph = some (r, ph')) : PW l g (d + 5) m_M_placeGroup 105 [.ref a0, .int a1, px_u, px_u, .int a4, .long a5, px_u, .int a7, px_u, px_u] [] ph (px_qJ r ph') := by
  unfold f_M_placeGroup_105 at h
  refine px_ld rfl rfl rfl rfl rfl ?_
  refine px_forget (n := 5) (lv' := [_, _, _, _, _, _, _, _, _, _]) rfl ?_
  exact (r_M_placeGroup_107 @hk6 h :)
def f_M_placeGroup_59 (F : Nat) (k6 : Nat → Int32 → Int32 → Int64 → Int32 → px_H → Option (Int64 × px_H)) (a0 : Nat) (a1 : Int32) (a4 : Int32) (a5 : Int64) (a7 : Int32) (ph : px_H) : Option (Int64 × px_H) :=
  (xgR ph 12 51 a0).bind fun t1 =>
  (xaI ph 1 t1 a7).bind fun t2 =>
  (xo ph 12 a0).bind fun _ =>
  xb (f_M_object F a0 t2 ph) fun t3 ph4 =>
  (xgR ph4 12 54 a0).bind fun t5 =>
  (xaI ph4 1 t5 a7).bind fun t6 =>
  (xo ph4 12 a0).bind fun _ =>
  xb (f_M_align F a0 t3 t6 ph4) fun t7 ph8 =>
  if a4 = 0 then
    f_M_placeGroup_105 F k6 a0 a1 a4 a5 a7 ph8
  else
    if t7 ≤ (lN 1) then
      f_M_placeGroup_105 F k6 a0 a1 a4 a5 a7 ph8
    else
      xb (f_M_up F a5 t7 ph8) fun t9 ph10 =>
      f_M_placeGroup_107 F k6 a0 a1 a4 a7 t9 ph10
theorem r_M_placeGroup_59 {l : Launch} {g : px_G} {d F : Nat} {k6 : Nat → Int32 → Int32 → Int64 → Int32 → px_H → Option (Int64 × px_H)} (hk6 : ∀ {a0 : Nat} {a1 : Int32} {a4 : Int32} {a5 : Int64} {a7 : Int32} {ph : px_H} {r : Int64} {ph' : px_H}, k6 a0 a1 a4 a5 a7 ph = some (r, ph') → PW l g (d + 5) m_M_placeGroup 6 [.ref a0, .int a1, px_u, px_u, .int a4, .long a5, px_u, .int a7, px_u, px_u] [] ph (px_qJ r ph')) {a0 : Nat} {a1 : Int32} {a4 : Int32} {a5 : Int64} {a7 : Int32} {ph : px_H} {r : Int64} {ph' : px_H} (h : f_M_placeGroup_59 F k6 a0 a1 a4 a5 a7 ph = some (r, ph')) : PW l g (d + 5) m_M_placeGroup 59 [.ref a0, .int a1, px_u, px_u, .int a4, .long a5, px_u, .int a7, px_u, px_u] [] ph (px_qJ r ph') := by
  unfold f_M_placeGroup_59 at h
  refine px_ld rfl rfl rfl rfl rfl ?_
  refine px_ld rfl rfl rfl rfl rfl ?_
  refine px_ld rfl rfl rfl rfl rfl ?_
  obtain ⟨t1, h0, h⟩ := xs_some h
  obtain ⟨fs, e1, e2⟩ := xgR_some h0
  refine px_get rfl e1 e2 rfl ?_
  refine px_ld rfl rfl rfl rfl rfl ?_
  obtain ⟨t2, h0, h⟩ := xs_some h
  obtain ⟨N, f, e1, e2, e3⟩ := xaI_some h0
  subst e3
  refine px_iald rfl e1 rfl e2 rfl ?_
  obtain ⟨fs, h0, h⟩ := xs_some h
  have e1 := xo_some h0
  obtain ⟨t3, ph4, h0, h⟩ := xb_some h
  refine px_cV1 rfl rfl e1 rfl rfl rfl rfl rfl rfl rfl (r_M_object h0 :) (fun _ _ q => nomatch q.2) (fun r ph' q => ?_)
  obtain ⟨rfl, q⟩ := q
  cases q
  refine px_ld rfl rfl rfl rfl rfl ?_
  obtain ⟨t5, h0, h⟩ := xs_some h
  obtain ⟨fs, e1, e2⟩ := xgR_some h0
  refine px_get rfl e1 e2 rfl ?_
  refine px_ld rfl rfl rfl rfl rfl ?_
  obtain ⟨t6, h0, h⟩ := xs_some h
  obtain ⟨N, f, e1, e2, e3⟩ := xaI_some h0
  subst e3
  refine px_iald rfl e1 rfl e2 rfl ?_
  obtain ⟨fs, h0, h⟩ := xs_some h
  have e1 := xo_some h0
  obtain ⟨t7, ph8, h0, h⟩ := xb_some h
  refine px_cV2 rfl rfl e1 rfl rfl rfl rfl rfl rfl rfl (r_M_align h0 :) (fun _ _ q => nomatch q.2) (fun r ph' q => ?_)
  obtain ⟨rfl, q⟩ := q
  cases q
  refine px_st (lv' := [_, _, _, _, _, _, _, _, _, _]) rfl rfl rfl rfl rfl rfl rfl ?_
  refine px_ld rfl rfl rfl rfl rfl ?_
  refine px_ifeq rfl (by decide) rfl (fun hc => ?_) (fun hc => ?_)
  · replace h := (if_pos hc).symm.trans h
    refine px_forget (n := 8) (lv' := [_, _, _, _, _, _, _, _, _, _]) rfl ?_
    exact (r_M_placeGroup_105 @hk6 h :)
  · replace h := (if_neg hc).symm.trans h
    refine px_ld rfl rfl rfl rfl rfl ?_
    refine px_alu rfl rfl rfl ?_
    refine px_alu rfl rfl rfl ?_
    refine px_ifle rfl (by decide) rfl (fun hc => ?_) (fun hc => ?_)
    · replace h := (if_pos ((lg_cmp_le _ _).mp hc)).symm.trans h
      refine px_forget (n := 8) (lv' := [_, _, _, _, _, _, _, _, _, _]) rfl ?_
      exact (r_M_placeGroup_105 @hk6 h :)
    · replace h := (if_neg (fun q => hc ((lg_cmp_le _ _).mpr q))).symm.trans h
      refine px_ld rfl rfl rfl rfl rfl ?_
      refine px_ld rfl rfl rfl rfl rfl ?_
      obtain ⟨t9, ph10, h0, h⟩ := xb_some h
      refine px_cS2 rfl rfl rfl rfl rfl rfl rfl (r_M_up h0 :) (fun _ _ q => nomatch q.2) (fun r ph' q => ?_)
      obtain ⟨rfl, q⟩ := q
      cases q
      refine px_goto rfl (by decide) rfl ?_
      refine px_forget (n := 5) (lv' := [_, _, _, _, _, _, _, _, _, _]) rfl ?_
      refine px_forget (n := 8) (lv' := [_, _, _, _, _, _, _, _, _, _]) rfl ?_
      exact (r_M_placeGroup_107 @hk6 h :)
def f_M_placeGroup_6 (F : Nat) : Nat → Nat → Int32 → Int32 → Int64 → Int32 → px_H → Option (Int64 × px_H)
  | 0, _, _, _, _, _, _ => none
  | n + 1, a0, a1, a4, a5, a7, ph =>
    (xgI ph 12 50 a0).bind fun t1 =>
    if t1 ≤ a7 then
      f_M_placeGroup_182 F a5 ph
    else
      (xgR ph 12 55 a0).bind fun t2 =>
      (xaI ph 1 t2 a7).bind fun t3 =>
      if t3 = a1 then
        if a1 = (nI 1) then
          (xgR ph 12 51 a0).bind fun t4 =>
          (xaI ph 1 t4 a7).bind fun t5 =>
          (xo ph 12 a0).bind fun _ =>
          xb (f_M_object F a0 t5 ph) fun t6 ph7 =>
          (xgR ph7 12 54 a0).bind fun t8 =>
          (xaI ph7 1 t8 a7).bind fun t9 =>
          (xo ph7 12 a0).bind fun _ =>
          xb (f_M_isStrings F a0 t6 t9 ph7) fun t10 ph11 =>
          if t10 = 0 then
            f_M_placeGroup_59 F (f_M_placeGroup_6 F n) a0 a1 a4 a5 a7 ph11
          else
            f_M_placeGroup_176 F (f_M_placeGroup_6 F n) a0 a1 a4 a5 a7 ph11
        else
          f_M_placeGroup_59 F (f_M_placeGroup_6 F n) a0 a1 a4 a5 a7 ph
      else
        f_M_placeGroup_176 F (f_M_placeGroup_6 F n) a0 a1 a4 a5 a7 ph
theorem r_M_placeGroup_6 {l : Launch} {g : px_G} {d F : Nat} : ∀ (n : Nat) {a0 : Nat} {a1 : Int32} {a4 : Int32} {a5 : Int64} {a7 : Int32} {ph : px_H} {r : Int64} {ph' : px_H}, f_M_placeGroup_6 F n a0 a1 a4 a5 a7 ph = some (r, ph') → PW l g (d + 5) m_M_placeGroup 6 [.ref a0, .int a1, px_u, px_u, .int a4, .long a5, px_u, .int a7, px_u, px_u] [] ph (px_qJ r ph') := by
  intro n
  induction n with
  | zero => intro _ _ _ _ _ _ _ _ h; cases h
  | succ n ih =>
    intro a0 a1 a4 a5 a7 ph r ph' h
    unfold f_M_placeGroup_6 at h
    refine px_ld rfl rfl rfl rfl rfl ?_
    refine px_ld rfl rfl rfl rfl rfl ?_
    obtain ⟨t1, h0, h⟩ := xs_some h
    obtain ⟨fs, e1, e2⟩ := xgI_some h0
    refine px_get rfl e1 e2 rfl ?_
    refine px_icge rfl (by decide) rfl (fun hc => ?_) (fun hc => ?_)
    · replace h := (if_pos hc).symm.trans h
      refine px_forget (n := 0) (lv' := [_, _, _, _, _, _, _, _, _, _]) rfl ?_
      refine px_forget (n := 1) (lv' := [_, _, _, _, _, _, _, _, _, _]) rfl ?_
      refine px_forget (n := 4) (lv' := [_, _, _, _, _, _, _, _, _, _]) rfl ?_
      refine px_forget (n := 7) (lv' := [_, _, _, _, _, _, _, _, _, _]) rfl ?_
      exact (r_M_placeGroup_182 h :)
    · replace h := (if_neg hc).symm.trans h
      refine px_ld rfl rfl rfl rfl rfl ?_
      obtain ⟨t2, h0, h⟩ := xs_some h
      obtain ⟨fs, e1, e2⟩ := xgR_some h0
      refine px_get rfl e1 e2 rfl ?_
      refine px_ld rfl rfl rfl rfl rfl ?_
      obtain ⟨t3, h0, h⟩ := xs_some h
      obtain ⟨N, f, e1, e2, e3⟩ := xaI_some h0
      subst e3
      refine px_iald rfl e1 rfl e2 rfl ?_
      refine px_ld rfl rfl rfl rfl rfl ?_
      refine px_icne rfl (by decide) rfl (fun hc => ?_) (fun hc => ?_)
      · replace h := (if_neg hc).symm.trans h
        exact (r_M_placeGroup_176 @ih h :)
      · replace h := (if_pos hc).symm.trans h
        refine px_ld rfl rfl rfl rfl rfl ?_
        refine px_ic (k := 1) rfl rfl rfl ?_
        refine px_icne rfl (by decide) rfl (fun hc => ?_) (fun hc => ?_)
        · replace h := (if_neg hc).symm.trans h
          exact (r_M_placeGroup_59 @ih h :)
        · replace h := (if_pos hc).symm.trans h
          refine px_ld rfl rfl rfl rfl rfl ?_
          refine px_ld rfl rfl rfl rfl rfl ?_
          refine px_ld rfl rfl rfl rfl rfl ?_
          obtain ⟨t4, h0, h⟩ := xs_some h
          obtain ⟨fs, e1, e2⟩ := xgR_some h0
          refine px_get rfl e1 e2 rfl ?_
          refine px_ld rfl rfl rfl rfl rfl ?_
          obtain ⟨t5, h0, h⟩ := xs_some h
          obtain ⟨N, f, e1, e2, e3⟩ := xaI_some h0
          subst e3
          refine px_iald rfl e1 rfl e2 rfl ?_
          obtain ⟨fs, h0, h⟩ := xs_some h
          have e1 := xo_some h0
          obtain ⟨t6, ph7, h0, h⟩ := xb_some h
          refine px_cV1 rfl rfl e1 rfl rfl rfl rfl rfl rfl rfl (r_M_object h0 :) (fun _ _ q => nomatch q.2) (fun r ph' q => ?_)
          obtain ⟨rfl, q⟩ := q
          cases q
          refine px_ld rfl rfl rfl rfl rfl ?_
          obtain ⟨t8, h0, h⟩ := xs_some h
          obtain ⟨fs, e1, e2⟩ := xgR_some h0
          refine px_get rfl e1 e2 rfl ?_
          refine px_ld rfl rfl rfl rfl rfl ?_
          obtain ⟨t9, h0, h⟩ := xs_some h
          obtain ⟨N, f, e1, e2, e3⟩ := xaI_some h0
          subst e3
          refine px_iald rfl e1 rfl e2 rfl ?_
          obtain ⟨fs, h0, h⟩ := xs_some h
          have e1 := xo_some h0
          obtain ⟨t10, ph11, h0, h⟩ := xb_some h
          refine px_cV2 rfl rfl e1 rfl rfl rfl rfl rfl rfl rfl (r_M_isStrings h0 :) (fun _ _ q => nomatch q.2) (fun r ph' q => ?_)
          obtain ⟨rfl, q⟩ := q
          cases q
          refine px_ifeq rfl (by decide) rfl (fun hc => ?_) (fun hc => ?_)
          · replace h := (if_pos hc).symm.trans h
            exact (r_M_placeGroup_59 @ih h :)
          · replace h := (if_neg hc).symm.trans h
            refine px_goto rfl (by decide) rfl ?_
            exact (r_M_placeGroup_176 @ih h :)
def f_M_placeGroup (F : Nat) (a0 : Nat) (a1 : Int32) (a2 : Int64) (a4 : Int32) (ph : px_H) : Option (Int64 × px_H) :=
  f_M_placeGroup_6 F F a0 a1 a4 a2 (nI 0) ph
theorem r_M_placeGroup {l : Launch} {g : px_G} {d F : Nat} {a0 : Nat} {a1 : Int32} {a2 : Int64} {a4 : Int32} {ph : px_H} {r : Int64} {ph' : px_H} (h : f_M_placeGroup F a0 a1 a2 a4 ph = some (r, ph')) : PW l g (d + 5) m_M_placeGroup 0 [.ref a0, .int a1, .long a2, px_u, .int a4, px_u, px_u, px_u, px_u, px_u] [] ph (px_qJ r ph') := by
  unfold f_M_placeGroup at h
  refine px_ld rfl rfl rfl rfl rfl ?_
  refine px_st (lv' := [_, _, _, _, _, _, _, _, _, _]) rfl rfl rfl rfl rfl rfl rfl ?_
  refine px_ic (k := 0) rfl rfl rfl ?_
  refine px_st (lv' := [_, _, _, _, _, _, _, _, _, _]) rfl rfl rfl rfl rfl rfl rfl ?_
  refine px_forget (n := 2) (lv' := [_, _, _, _, _, _, _, _, _, _]) rfl ?_
  exact (r_M_placeGroup_6 _ h :)
def f_M_byteAddress_62 (F : Nat) (a0 : Nat) (a3 : Int64) (a5 : Int32) (a6 : Int32) (ph : px_H) : Option (Int64 × px_H) :=
  (xgJ ph 12 90 a0).bind fun t1 =>
  (xgR ph 12 94 a0).bind fun t2 =>
  (xo ph 12 a0).bind fun _ =>
  xb (f_M_nodeOf F a0 a5 a6 (nI 0) ph) fun t3 ph4 =>
  (xaI ph4 1 t2 t3).bind fun t5 =>
  some ((t1 + t5.toInt64) - ((((a6 + (nI 1)) - a5) - a3.toInt32).toInt64), ph4)
theorem r_M_byteAddress_62 {l : Launch} {g : px_G} {d F : Nat} {a0 : Nat} {a3 : Int64} {a5 : Int32} {a6 : Int32} {ph : px_H} {r : Int64} {ph' : px_H} (h : f_M_byteAddress_62 F a0 a3 a5 a6 ph = some (r, ph')) : PW l g (d + 3) m_M_byteAddress 62 [.ref a0, px_u, px_u, .long a3, px_u, .int a5, .int a6] [] ph (px_qJ r ph') := by
  unfold f_M_byteAddress_62 at h
  refine px_ld rfl rfl rfl rfl rfl ?_
  obtain ⟨t1, h0, h⟩ := xs_some h
  obtain ⟨fs, e1, e2⟩ := xgJ_some h0
  refine px_get rfl e1 e2 rfl ?_
  refine px_ld rfl rfl rfl rfl rfl ?_
  obtain ⟨t2, h0, h⟩ := xs_some h
  obtain ⟨fs, e1, e2⟩ := xgR_some h0
  refine px_get rfl e1 e2 rfl ?_
  refine px_ld rfl rfl rfl rfl rfl ?_
  refine px_ld rfl rfl rfl rfl rfl ?_
  refine px_ld rfl rfl rfl rfl rfl ?_
  refine px_ic (k := 0) rfl rfl rfl ?_
  obtain ⟨fs, h0, h⟩ := xs_some h
  have e1 := xo_some h0
  obtain ⟨t3, ph4, h0, h⟩ := xb_some h
  refine px_cV3 rfl rfl e1 rfl rfl rfl rfl rfl rfl rfl (r_M_nodeOf h0 :) (fun _ _ q => nomatch q.2) (fun r ph' q => ?_)
  obtain ⟨rfl, q⟩ := q
  cases q
  obtain ⟨t5, h0, h⟩ := xs_some h
  obtain ⟨N, f, e1, e2, e3⟩ := xaI_some h0
  subst e3
  refine px_iald rfl e1 rfl e2 rfl ?_
  refine px_alu rfl rfl rfl ?_
  refine px_alu rfl rfl rfl ?_
  refine px_ld rfl rfl rfl rfl rfl ?_
  refine px_ic (k := 1) rfl rfl rfl ?_
  refine px_alu rfl rfl rfl ?_
  refine px_ld rfl rfl rfl rfl rfl ?_
  refine px_alu rfl rfl rfl ?_
  refine px_ld rfl rfl rfl rfl rfl ?_
  refine px_alu rfl rfl rfl ?_
  refine px_alu rfl rfl rfl ?_
  refine px_alu rfl rfl rfl ?_
  refine px_alu rfl rfl rfl ?_
  cases h
  exact px_lret rfl rfl rfl ⟨rfl, rfl⟩
def f_M_byteAddress_46 (F : Nat) : Nat → Nat → Int64 → Int32 → Int32 → px_H → Option (Int64 × px_H)
  | 0, _, _, _, _, _ => none
  | n + 1, a0, a3, a5, a6, ph =>
    (xgR ph 12 6 a0).bind fun t1 =>
    (xaI ph 0 t1 a6).bind fun t2 =>
    if t2 = 0 then
      f_M_byteAddress_62 F a0 a3 a5 a6 ph
    else
      f_M_byteAddress_46 F n a0 a3 a5 (a6 + nI 1) ph
theorem r_M_byteAddress_46 {l : Launch} {g : px_G} {d F : Nat} : ∀ (n : Nat) {a0 : Nat} {a3 : Int64} {a5 : Int32} {a6 : Int32} {ph : px_H} {r : Int64} {ph' : px_H}, f_M_byteAddress_46 F n a0 a3 a5 a6 ph = some (r, ph') → PW l g (d + 3) m_M_byteAddress 46 [.ref a0, px_u, px_u, .long a3, px_u, .int a5, .int a6] [] ph (px_qJ r ph') := by
  intro n
  induction n with
  | zero => intro _ _ _ _ _ _ _ h; cases h
  | succ n ih =>
    intro a0 a3 a5 a6 ph r ph' h
    unfold f_M_byteAddress_46 at h
    refine px_ld rfl rfl rfl rfl rfl ?_
    obtain ⟨t1, h0, h⟩ := xs_some h
    obtain ⟨fs, e1, e2⟩ := xgR_some h0
    refine px_get rfl e1 e2 rfl ?_
    refine px_ld rfl rfl rfl rfl rfl ?_
    obtain ⟨t2, h0, h⟩ := xs_some h
    obtain ⟨N, f, e1, e2, e3⟩ := xaI_some h0
    subst e3
    refine px_bald rfl e1 rfl e2 rfl ?_
    refine px_ifeq rfl (by decide) rfl (fun hc => ?_) (fun hc => ?_)
    · replace h := (if_pos hc).symm.trans h
      exact (r_M_byteAddress_62 h :)
    · replace h := (if_neg hc).symm.trans h
      refine px_iinc (lv' := [_, _, _, _, _, _, _]) rfl rfl rfl rfl rfl rfl ?_
      refine px_goto rfl (by decide) rfl ?_
      exact (ih h :)
def f_M_byteAddress_17 (F : Nat) (a0 : Nat) (ph : px_H) : Option (Int64 × px_H) :=
  (xgJ ph 12 90 a0).bind fun t1 =>
  (xgI ph 12 88 a0).bind fun t2 =>
  some (t1 + t2.toInt64, ph)
theorem r_M_byteAddress_17 {l : Launch} {g : px_G} {d F : Nat} {a0 : Nat} {ph : px_H} {r : Int64} {ph' : px_H} (h : f_M_byteAddress_17 F a0 ph = some (r, ph')) : PW l g (d + 3) m_M_byteAddress 17 [.ref a0, px_u, px_u, px_u, px_u, px_u, px_u] [] ph (px_qJ r ph') := by
  unfold f_M_byteAddress_17 at h
  refine px_ld rfl rfl rfl rfl rfl ?_
  obtain ⟨t1, h0, h⟩ := xs_some h
  obtain ⟨fs, e1, e2⟩ := xgJ_some h0
  refine px_get rfl e1 e2 rfl ?_
  refine px_ld rfl rfl rfl rfl rfl ?_
  obtain ⟨t2, h0, h⟩ := xs_some h
  obtain ⟨fs, e1, e2⟩ := xgI_some h0
  refine px_get rfl e1 e2 rfl ?_
  refine px_alu rfl rfl rfl ?_
  refine px_alu rfl rfl rfl ?_
  cases h
  exact px_lret rfl rfl rfl ⟨rfl, rfl⟩
def f_M_byteAddress (F : Nat) (a0 : Nat) (a1 : Int32) (a2 : Int32) (a3 : Int64) (ph : px_H) : Option (Int64 × px_H) :=
  if a3 < (lN 0) then
    f_M_byteAddress_17 F a0 ph
  else
    (xo ph 12 a0).bind fun _ =>
    xb (f_M_size F a0 a1 a2 ph) fun t1 ph2 =>
    if a3 < t1 then
      (xo ph2 12 a0).bind fun _ =>
      xb (f_M_beginning F a0 a1 a2 ph2) fun t3 ph4 =>
      f_M_byteAddress_46 F F a0 a3 (a1 + t3.toInt32) ((a1 + t3.toInt32) + a3.toInt32) ph4
    else
      f_M_byteAddress_17 F a0 ph2
theorem r_M_byteAddress {l : Launch} {g : px_G} {d F : Nat} {a0 : Nat} {a1 : Int32} {a2 : Int32} {a3 : Int64} {ph : px_H} {r : Int64} {ph' : px_H} (h : f_M_byteAddress F a0 a1 a2 a3 ph = some (r, ph')) : PW l g (d + 3) m_M_byteAddress 0 [.ref a0, .int a1, .int a2, .long a3, px_u, px_u, px_u] [] ph (px_qJ r ph') := by
  unfold f_M_byteAddress at h
  refine px_ld rfl rfl rfl rfl rfl ?_
  refine px_alu rfl rfl rfl ?_
  refine px_alu rfl rfl rfl ?_
  refine px_iflt rfl (by decide) rfl (fun hc => ?_) (fun hc => ?_)
  · replace h := (if_pos ((lg_cmp_lt _ _).mp hc)).symm.trans h
    refine px_forget (n := 1) (lv' := [_, _, _, _, _, _, _]) rfl ?_
    refine px_forget (n := 2) (lv' := [_, _, _, _, _, _, _]) rfl ?_
    refine px_forget (n := 3) (lv' := [_, _, _, _, _, _, _]) rfl ?_
    exact (r_M_byteAddress_17 h :)
  · replace h := (if_neg (fun q => hc ((lg_cmp_lt _ _).mpr q))).symm.trans h
    refine px_ld rfl rfl rfl rfl rfl ?_
    refine px_ld rfl rfl rfl rfl rfl ?_
    refine px_ld rfl rfl rfl rfl rfl ?_
    refine px_ld rfl rfl rfl rfl rfl ?_
    obtain ⟨fs, h0, h⟩ := xs_some h
    have e1 := xo_some h0
    obtain ⟨t1, ph2, h0, h⟩ := xb_some h
    refine px_cV2 rfl rfl e1 rfl rfl rfl rfl rfl rfl rfl (r_M_size h0 :) (fun _ _ q => nomatch q.2) (fun r ph' q => ?_)
    obtain ⟨rfl, q⟩ := q
    cases q
    refine px_alu rfl rfl rfl ?_
    refine px_iflt rfl (by decide) rfl (fun hc => ?_) (fun hc => ?_)
    · replace h := (if_pos ((lg_cmp_lt _ _).mp hc)).symm.trans h
      refine px_ld rfl rfl rfl rfl rfl ?_
      refine px_ld rfl rfl rfl rfl rfl ?_
      refine px_ld rfl rfl rfl rfl rfl ?_
      refine px_ld rfl rfl rfl rfl rfl ?_
      obtain ⟨fs, h0, h⟩ := xs_some h
      have e1 := xo_some h0
      obtain ⟨t3, ph4, h0, h⟩ := xb_some h
      refine px_cV2 rfl rfl e1 rfl rfl rfl rfl rfl rfl rfl (r_M_beginning h0 :) (fun _ _ q => nomatch q.2) (fun r ph' q => ?_)
      obtain ⟨rfl, q⟩ := q
      cases q
      refine px_alu rfl rfl rfl ?_
      refine px_alu rfl rfl rfl ?_
      refine px_st (lv' := [_, _, _, _, _, _, _]) rfl rfl rfl rfl rfl rfl rfl ?_
      refine px_ld rfl rfl rfl rfl rfl ?_
      refine px_ld rfl rfl rfl rfl rfl ?_
      refine px_alu rfl rfl rfl ?_
      refine px_alu rfl rfl rfl ?_
      refine px_st (lv' := [_, _, _, _, _, _, _]) rfl rfl rfl rfl rfl rfl rfl ?_
      refine px_forget (n := 1) (lv' := [_, _, _, _, _, _, _]) rfl ?_
      refine px_forget (n := 2) (lv' := [_, _, _, _, _, _, _]) rfl ?_
      exact (r_M_byteAddress_46 _ h :)
    · replace h := (if_neg (fun q => hc ((lg_cmp_lt _ _).mpr q))).symm.trans h
      refine px_forget (n := 1) (lv' := [_, _, _, _, _, _, _]) rfl ?_
      refine px_forget (n := 2) (lv' := [_, _, _, _, _, _, _]) rfl ?_
      refine px_forget (n := 3) (lv' := [_, _, _, _, _, _, _]) rfl ?_
      exact (r_M_byteAddress_17 h :)
def f_M_placeStrings_97 (F : Nat) (a0 : Nat) (a1 : Int64) (ph : px_H) : Option (Int64 × px_H) :=
  (xgI ph 12 88 a0).bind fun t1 =>
  some (a1 + t1.toInt64, ph)
theorem r_M_placeStrings_97 {l : Launch} {g : px_G} {d F : Nat} {a0 : Nat} {a1 : Int64} {ph : px_H} {r : Int64} {ph' : px_H} (h : f_M_placeStrings_97 F a0 a1 ph = some (r, ph')) : PW l g (d + 5) m_M_placeStrings 97 [.ref a0, .long a1, px_u, px_u, px_u] [] ph (px_qJ r ph') := by
  unfold f_M_placeStrings_97 at h
  refine px_ld rfl rfl rfl rfl rfl ?_
  refine px_ld rfl rfl rfl rfl rfl ?_
  obtain ⟨t1, h0, h⟩ := xs_some h
  obtain ⟨fs, e1, e2⟩ := xgI_some h0
  refine px_get rfl e1 e2 rfl ?_
  refine px_alu rfl rfl rfl ?_
  refine px_alu rfl rfl rfl ?_
  cases h
  exact px_lret rfl rfl rfl ⟨rfl, rfl⟩
def f_M_placeStrings_91 (F : Nat) (k7 : Nat → Int64 → Int32 → px_H → Option (Int64 × px_H)) (a0 : Nat) (a1 : Int64) (a3 : Int32) (ph : px_H) : Option (Int64 × px_H) :=
  k7 a0 a1 (a3 + nI 1) ph
theorem r_M_placeStrings_91 {l : Launch} {g : px_G} {d F : Nat} {k7 : Nat → Int64 → Int32 → px_H → Option (Int64 × px_H)} (hk7 : ∀ {a0 : Nat} {a1 : Int64} {a3 : Int32} {ph : px_H} {r : Int64} {ph' : px_H}, k7 a0 a1 a3 ph = some (r, ph') → PW l g (d + 5) m_M_placeStrings 7 [.ref a0, .long a1, px_u, .int a3, px_u] [] ph (px_qJ r ph')) {a0 : Nat} {a1 : Int64} {a3 : Int32} {ph : px_H} {r : Int64} {ph' : px_H} (h : f_M_placeStrings_91 F k7 a0 a1 a3 ph = some (r, ph')) : PW l g (d + 5) m_M_placeStrings 91 [.ref a0, .long a1, px_u, .int a3, px_u] [] ph (px_qJ r ph') := by
  unfold f_M_placeStrings_91 at h
  refine px_iinc (lv' := [_, _, _, _, _]) rfl rfl rfl rfl rfl rfl ?_
  refine px_goto rfl (by decide) rfl ?_
  exact (hk7 h :)
def f_M_placeStrings_7 (F : Nat) : Nat → Nat → Int64 → Int32 → px_H → Option (Int64 × px_H)
  | 0, _, _, _, _ => none
  | n + 1, a0, a1, a3, ph =>
    (xgI ph 12 50 a0).bind fun t1 =>
    if t1 ≤ a3 then
      f_M_placeStrings_97 F a0 a1 ph
    else
      (xgR ph 12 51 a0).bind fun t2 =>
      (xaI ph 1 t2 a3).bind fun t3 =>
      (xo ph 12 a0).bind fun _ =>
      xb (f_M_object F a0 t3 ph) fun t4 ph5 =>
      (xgR ph5 12 54 a0).bind fun t6 =>
      (xaI ph5 1 t6 a3).bind fun t7 =>
      (xo ph5 12 a0).bind fun _ =>
      xb (f_M_isStrings F a0 t4 t7 ph5) fun t8 ph9 =>
      if t8 = 0 then
        f_M_placeStrings_91 F (f_M_placeStrings_7 F n) a0 a1 a3 ph9
      else
        (xgR ph9 12 57 a0).bind fun t10 =>
        (xgR ph9 12 54 a0).bind fun t11 =>
        (xaI ph9 1 t11 a3).bind fun t12 =>
        (xo ph9 12 a0).bind fun _ =>
        xb (f_M_byteAddress F a0 t4 t12 (lN 0) ph9) fun t13 ph14 =>
        (xsJ ph14 2 t10 a3 t13).bind fun ph15 =>
        (xgR ph15 12 58 a0).bind fun t16 =>
        (xgR ph15 12 51 a0).bind fun t17 =>
        (xaI ph15 1 t17 a3).bind fun t18 =>
        (xgR ph15 12 54 a0).bind fun t19 =>
        (xaI ph15 1 t19 a3).bind fun t20 =>
        (xgR ph15 12 57 a0).bind fun t21 =>
        (xaJ ph15 2 t21 a3).bind fun t22 =>
        (xsJ ph15 2 t16 (((nI 24) * t18) + t20) t22).bind fun ph23 =>
        f_M_placeStrings_91 F (f_M_placeStrings_7 F n) a0 a1 a3 ph23
theorem r_M_placeStrings_7 {l : Launch} {g : px_G} {d F : Nat} : ∀ (n : Nat) {a0 : Nat} {a1 : Int64} {a3 : Int32} {ph : px_H} {r : Int64} {ph' : px_H}, f_M_placeStrings_7 F n a0 a1 a3 ph = some (r, ph') → PW l g (d + 5) m_M_placeStrings 7 [.ref a0, .long a1, px_u, .int a3, px_u] [] ph (px_qJ r ph') := by
  intro n
  induction n with
  | zero => intro _ _ _ _ _ _ h; cases h
  | succ n ih =>
    intro a0 a1 a3 ph r ph' h
    unfold f_M_placeStrings_7 at h
    refine px_ld rfl rfl rfl rfl rfl ?_
    refine px_ld rfl rfl rfl rfl rfl ?_
    obtain ⟨t1, h0, h⟩ := xs_some h
    obtain ⟨fs, e1, e2⟩ := xgI_some h0
    refine px_get rfl e1 e2 rfl ?_
    refine px_icge rfl (by decide) rfl (fun hc => ?_) (fun hc => ?_)
    · replace h := (if_pos hc).symm.trans h
      refine px_forget (n := 3) (lv' := [_, _, _, _, _]) rfl ?_
      exact (r_M_placeStrings_97 h :)
    · replace h := (if_neg hc).symm.trans h
      refine px_ld rfl rfl rfl rfl rfl ?_
      refine px_ld rfl rfl rfl rfl rfl ?_
      obtain ⟨t2, h0, h⟩ := xs_some h
      obtain ⟨fs, e1, e2⟩ := xgR_some h0
      refine px_get rfl e1 e2 rfl ?_
      refine px_ld rfl rfl rfl rfl rfl ?_
      obtain ⟨t3, h0, h⟩ := xs_some h
      obtain ⟨N, f, e1, e2, e3⟩ := xaI_some h0
      subst e3
      refine px_iald rfl e1 rfl e2 rfl ?_
      obtain ⟨fs, h0, h⟩ := xs_some h
      have e1 := xo_some h0
      obtain ⟨t4, ph5, h0, h⟩ := xb_some h
      refine px_cV1 rfl rfl e1 rfl rfl rfl rfl rfl rfl rfl (r_M_object h0 :) (fun _ _ q => nomatch q.2) (fun r ph' q => ?_)
      obtain ⟨rfl, q⟩ := q
      cases q
      refine px_st (lv' := [_, _, _, _, _]) rfl rfl rfl rfl rfl rfl rfl ?_
      refine px_ld rfl rfl rfl rfl rfl ?_
      refine px_ld rfl rfl rfl rfl rfl ?_
      refine px_ld rfl rfl rfl rfl rfl ?_
      obtain ⟨t6, h0, h⟩ := xs_some h
      obtain ⟨fs, e1, e2⟩ := xgR_some h0
      refine px_get rfl e1 e2 rfl ?_
      refine px_ld rfl rfl rfl rfl rfl ?_
      obtain ⟨t7, h0, h⟩ := xs_some h
      obtain ⟨N, f, e1, e2, e3⟩ := xaI_some h0
      subst e3
      refine px_iald rfl e1 rfl e2 rfl ?_
      obtain ⟨fs, h0, h⟩ := xs_some h
      have e1 := xo_some h0
      obtain ⟨t8, ph9, h0, h⟩ := xb_some h
      refine px_cV2 rfl rfl e1 rfl rfl rfl rfl rfl rfl rfl (r_M_isStrings h0 :) (fun _ _ q => nomatch q.2) (fun r ph' q => ?_)
      obtain ⟨rfl, q⟩ := q
      cases q
      refine px_ifne rfl (by decide) rfl (fun hc => ?_) (fun hc => ?_)
      · replace h := (if_neg hc).symm.trans h
        refine px_ld rfl rfl rfl rfl rfl ?_
        obtain ⟨t10, h0, h⟩ := xs_some h
        obtain ⟨fs, e1, e2⟩ := xgR_some h0
        refine px_get rfl e1 e2 rfl ?_
        refine px_ld rfl rfl rfl rfl rfl ?_
        refine px_ld rfl rfl rfl rfl rfl ?_
        refine px_ld rfl rfl rfl rfl rfl ?_
        refine px_ld rfl rfl rfl rfl rfl ?_
        obtain ⟨t11, h0, h⟩ := xs_some h
        obtain ⟨fs, e1, e2⟩ := xgR_some h0
        refine px_get rfl e1 e2 rfl ?_
        refine px_ld rfl rfl rfl rfl rfl ?_
        obtain ⟨t12, h0, h⟩ := xs_some h
        obtain ⟨N, f, e1, e2, e3⟩ := xaI_some h0
        subst e3
        refine px_iald rfl e1 rfl e2 rfl ?_
        refine px_alu rfl rfl rfl ?_
        obtain ⟨fs, h0, h⟩ := xs_some h
        have e1 := xo_some h0
        obtain ⟨t13, ph14, h0, h⟩ := xb_some h
        refine px_cV3 rfl rfl e1 rfl rfl rfl rfl rfl rfl rfl (r_M_byteAddress h0 :) (fun _ _ q => nomatch q.2) (fun r ph' q => ?_)
        obtain ⟨rfl, q⟩ := q
        cases q
        obtain ⟨ph15, h0, h⟩ := xs_some h
        obtain ⟨N, f, e1, e2, e3⟩ := xsJ_some h0
        subst e3
        refine px_last rfl e1 rfl e2 rfl ?_
        refine px_ld rfl rfl rfl rfl rfl ?_
        obtain ⟨t16, h0, h⟩ := xs_some h
        obtain ⟨fs, e1, e2⟩ := xgR_some h0
        refine px_get rfl e1 e2 rfl ?_
        refine px_ic (k := 24) rfl rfl rfl ?_
        refine px_ld rfl rfl rfl rfl rfl ?_
        obtain ⟨t17, h0, h⟩ := xs_some h
        obtain ⟨fs, e1, e2⟩ := xgR_some h0
        refine px_get rfl e1 e2 rfl ?_
        refine px_ld rfl rfl rfl rfl rfl ?_
        obtain ⟨t18, h0, h⟩ := xs_some h
        obtain ⟨N, f, e1, e2, e3⟩ := xaI_some h0
        subst e3
        refine px_iald rfl e1 rfl e2 rfl ?_
        refine px_alu rfl rfl rfl ?_
        refine px_ld rfl rfl rfl rfl rfl ?_
        obtain ⟨t19, h0, h⟩ := xs_some h
        obtain ⟨fs, e1, e2⟩ := xgR_some h0
        refine px_get rfl e1 e2 rfl ?_
        refine px_ld rfl rfl rfl rfl rfl ?_
        obtain ⟨t20, h0, h⟩ := xs_some h
        obtain ⟨N, f, e1, e2, e3⟩ := xaI_some h0
        subst e3
        refine px_iald rfl e1 rfl e2 rfl ?_
        refine px_alu rfl rfl rfl ?_
        refine px_ld rfl rfl rfl rfl rfl ?_
        obtain ⟨t21, h0, h⟩ := xs_some h
        obtain ⟨fs, e1, e2⟩ := xgR_some h0
        refine px_get rfl e1 e2 rfl ?_
        refine px_ld rfl rfl rfl rfl rfl ?_
        obtain ⟨t22, h0, h⟩ := xs_some h
        obtain ⟨N, f, e1, e2, e3⟩ := xaJ_some h0
        subst e3
        refine px_lald rfl e1 rfl e2 rfl ?_
        obtain ⟨ph23, h0, h⟩ := xs_some h
        obtain ⟨N, f, e1, e2, e3⟩ := xsJ_some h0
        subst e3
        refine px_last rfl e1 rfl e2 rfl ?_
        refine px_forget (n := 4) (lv' := [_, _, _, _, _]) rfl ?_
        exact (r_M_placeStrings_91 @ih h :)
      · replace h := (if_pos hc).symm.trans h
        refine px_goto rfl (by decide) rfl ?_
        refine px_forget (n := 4) (lv' := [_, _, _, _, _]) rfl ?_
        exact (r_M_placeStrings_91 @ih h :)
def f_M_placeStrings (F : Nat) (a0 : Nat) (a1 : Int64) (ph : px_H) : Option (Int64 × px_H) :=
  (xpJ ph 12 90 a0 a1).bind fun ph1 =>
  f_M_placeStrings_7 F F a0 a1 (nI 0) ph1
theorem r_M_placeStrings {l : Launch} {g : px_G} {d F : Nat} {a0 : Nat} {a1 : Int64} {ph : px_H} {r : Int64} {ph' : px_H} (h : f_M_placeStrings F a0 a1 ph = some (r, ph')) : PW l g (d + 5) m_M_placeStrings 0 [.ref a0, .long a1, px_u, px_u, px_u] [] ph (px_qJ r ph') := by
  unfold f_M_placeStrings at h
  refine px_ld rfl rfl rfl rfl rfl ?_
  refine px_ld rfl rfl rfl rfl rfl ?_
  obtain ⟨ph1, h0, h⟩ := xs_some h
  obtain ⟨fs, e1, e2, e3⟩ := xpJ_some h0
  subst e3
  refine px_put rfl e1 e2 trivial rfl ?_
  refine px_ic (k := 0) rfl rfl rfl ?_
  refine px_st (lv' := [_, _, _, _, _]) rfl rfl rfl rfl rfl rfl rfl ?_
  exact (r_M_placeStrings_7 _ h :)
def f_M_placeCommons_110 (F : Nat) (a4 : Int64) (ph : px_H) : Option (Int64 × px_H) :=
  some (a4, ph)
theorem r_M_placeCommons_110 {l : Launch} {g : px_G} {d F : Nat} {a4 : Int64} {ph : px_H} {r : Int64} {ph' : px_H} (h : f_M_placeCommons_110 F a4 ph = some (r, ph')) : PW l g (d + 1) m_M_placeCommons 110 [px_u, px_u, px_u, px_u, .long a4, px_u, px_u, px_u] [] ph (px_qJ r ph') := by
  unfold f_M_placeCommons_110 at h
  refine px_ld rfl rfl rfl rfl rfl ?_
  cases h
  exact px_lret rfl rfl rfl ⟨rfl, rfl⟩
def f_M_placeCommons_104 (F : Nat) (k6 : Nat → Int32 → Int64 → Int32 → px_H → Option (Int64 × px_H)) (a0 : Nat) (a3 : Int32) (a4 : Int64) (a6 : Int32) (ph : px_H) : Option (Int64 × px_H) :=
  k6 a0 a3 a4 (a6 + nI 1) ph
theorem r_M_placeCommons_104 {l : Launch} {g : px_G} {d F : Nat} {k6 : Nat → Int32 → Int64 → Int32 → px_H → Option (Int64 × px_H)} (hk6 : ∀ {a0 : Nat} {a3 : Int32} {a4 : Int64} {a6 : Int32} {ph : px_H} {r : Int64} {ph' : px_H}, k6 a0 a3 a4 a6 ph = some (r, ph') → PW l g (d + 1) m_M_placeCommons 6 [.ref a0, px_u, px_u, .int a3, .long a4, px_u, .int a6, px_u] [] ph (px_qJ r ph')) {a0 : Nat} {a3 : Int32} {a4 : Int64} {a6 : Int32} {ph : px_H} {r : Int64} {ph' : px_H} (h : f_M_placeCommons_104 F k6 a0 a3 a4 a6 ph = some (r, ph')) : PW l g (d + 1) m_M_placeCommons 104 [.ref a0, px_u, px_u, .int a3, .long a4, px_u, .int a6, px_u] [] ph (px_qJ r ph') := by
  unfold f_M_placeCommons_104 at h
  refine px_iinc (lv' := [_, _, _, _, _, _, _, _]) rfl rfl rfl rfl rfl rfl ?_
  refine px_goto rfl rfl rfl ?_
  exact (hk6 h :)
def f_M_placeCommons_79 (F : Nat) (k6 : Nat → Int32 → Int64 → Int32 → px_H → Option (Int64 × px_H)) (a0 : Nat) (a3 : Int32) (a4 : Int64) (a6 : Int32) (a7 : Int32) (s0 : Nat) (s1 : Int64) (ph : px_H) : Option (Int64 × px_H) :=
  (xpJ ph 12 81 s0 s1).bind fun ph1 =>
  (xgR ph1 12 29 a0).bind fun t2 =>
  (xsJ ph1 2 t2 a7 a4).bind fun ph3 =>
  (xgR ph3 12 26 a0).bind fun t4 =>
  (xaI ph3 1 t4 a7).bind fun t5 =>
  f_M_placeCommons_104 F k6 a0 a3 (a4 + t5.toInt64) a6 ph3
theorem r_M_placeCommons_79 {l : Launch} {g : px_G} {d F : Nat} {k6 : Nat → Int32 → Int64 → Int32 → px_H → Option (Int64 × px_H)} (hk6 : ∀ {a0 : Nat} {a3 : Int32} {a4 : Int64} {a6 : Int32} {ph : px_H} {r : Int64} {ph' : px_H}, k6 a0 a3 a4 a6 ph = some (r, ph') → PW l g (d + 1) m_M_placeCommons 6 [.ref a0, px_u, px_u, .int a3, .long a4, px_u, .int a6, px_u] [] ph (px_qJ r ph')) {a0 : Nat} {a3 : Int32} {a4 : Int64} {a6 : Int32} {a7 : Int32} {s0 : Nat} {s1 : Int64} {ph : px_H} {r : Int64} {ph' : px_H} (h : f_M_placeCommons_79 F k6 a0 a3 a4 a6 a7 s0 s1 ph = some (r, ph')) : PW l g (d + 1) m_M_placeCommons 79 [.ref a0, px_u, px_u, .int a3, .long a4, px_u, .int a6, .int a7] [.long s1, .ref s0] ph (px_qJ r ph') := by
  unfold f_M_placeCommons_79 at h
  obtain ⟨ph1, h0, h⟩ := xs_some h
  obtain ⟨fs, e1, e2, e3⟩ := xpJ_some h0
  subst e3
  refine px_put rfl e1 e2 trivial rfl ?_
  refine px_ld rfl rfl rfl rfl rfl ?_
  obtain ⟨t2, h0, h⟩ := xs_some h
  obtain ⟨fs, e1, e2⟩ := xgR_some h0
  refine px_get rfl e1 e2 rfl ?_
  refine px_ld rfl rfl rfl rfl rfl ?_
  refine px_ld rfl rfl rfl rfl rfl ?_
  obtain ⟨ph3, h0, h⟩ := xs_some h
  obtain ⟨N, f, e1, e2, e3⟩ := xsJ_some h0
  subst e3
  refine px_last rfl e1 rfl e2 rfl ?_
  refine px_ld rfl rfl rfl rfl rfl ?_
  refine px_ld rfl rfl rfl rfl rfl ?_
  obtain ⟨t4, h0, h⟩ := xs_some h
  obtain ⟨fs, e1, e2⟩ := xgR_some h0
  refine px_get rfl e1 e2 rfl ?_
  refine px_ld rfl rfl rfl rfl rfl ?_
  obtain ⟨t5, h0, h⟩ := xs_some h
  obtain ⟨N, f, e1, e2, e3⟩ := xaI_some h0
  subst e3
  refine px_iald rfl e1 rfl e2 rfl ?_
  refine px_alu rfl rfl rfl ?_
  refine px_alu rfl rfl rfl ?_
  refine px_st (lv' := [_, _, _, _, _, _, _, _]) rfl rfl rfl rfl rfl rfl rfl ?_
  refine px_forget (n := 7) (lv' := [_, _, _, _, _, _, _, _]) rfl ?_
  exact (r_M_placeCommons_104 @hk6 h :)
def f_M_placeCommons_58 (F : Nat) (k6 : Nat → Int32 → Int64 → Int32 → px_H → Option (Int64 × px_H)) (a0 : Nat) (a3 : Int32) (a6 : Int32) (a7 : Int32) (s0 : Int64) (ph : px_H) : Option (Int64 × px_H) :=
  (xgJ ph 12 81 a0).bind fun t1 =>
  if (lN 0) ≤ t1 then
    (xgJ ph 12 81 a0).bind fun t2 =>
    f_M_placeCommons_79 F k6 a0 a3 s0 a6 a7 a0 t2 ph
  else
    f_M_placeCommons_79 F k6 a0 a3 s0 a6 a7 a0 s0 ph
theorem r_M_placeCommons_58 {l : Launch} {g : px_G} {d F : Nat} {k6 : Nat → Int32 → Int64 → Int32 → px_H → Option (Int64 × px_H)} (hk6 : ∀ {a0 : Nat} {a3 : Int32} {a4 : Int64} {a6 : Int32} {ph : px_H} {r : Int64} {ph' : px_H}, k6 a0 a3 a4 a6 ph = some (r, ph') → PW l g (d + 1) m_M_placeCommons 6 [.ref a0, px_u, px_u, .int a3, .long a4, px_u, .int a6, px_u] [] ph (px_qJ r ph')) {a0 : Nat} {a3 : Int32} {a6 : Int32} {a7 : Int32} {s0 : Int64} {ph : px_H} {r : Int64} {ph' : px_H} (h : f_M_placeCommons_58 F k6 a0 a3 a6 a7 s0 ph = some (r, ph')) : PW l g (d + 1) m_M_placeCommons 58 [.ref a0, px_u, px_u, .int a3, px_u, px_u, .int a6, .int a7] [.long s0] ph (px_qJ r ph') := by
  unfold f_M_placeCommons_58 at h
  refine px_st (lv' := [_, _, _, _, _, _, _, _]) rfl rfl rfl rfl rfl rfl rfl ?_
  refine px_ld rfl rfl rfl rfl rfl ?_
  refine px_ld rfl rfl rfl rfl rfl ?_
  obtain ⟨t1, h0, h⟩ := xs_some h
  obtain ⟨fs, e1, e2⟩ := xgJ_some h0
  refine px_get rfl e1 e2 rfl ?_
  refine px_alu rfl rfl rfl ?_
  refine px_alu rfl rfl rfl ?_
  refine px_ifge rfl rfl rfl (fun hc => ?_) (fun hc => ?_)
  · replace h := (if_pos ((lg_cmp_ge _ _).mp hc)).symm.trans h
    refine px_ld rfl rfl rfl rfl rfl ?_
    obtain ⟨t2, h0, h⟩ := xs_some h
    obtain ⟨fs, e1, e2⟩ := xgJ_some h0
    refine px_get rfl e1 e2 rfl ?_
    exact (r_M_placeCommons_79 @hk6 h :)
  · replace h := (if_neg (fun q => hc ((lg_cmp_ge _ _).mpr q))).symm.trans h
    refine px_ld rfl rfl rfl rfl rfl ?_
    refine px_goto rfl rfl rfl ?_
    exact (r_M_placeCommons_79 @hk6 h :)
def f_M_placeCommons_6 (F : Nat) : Nat → Nat → Int32 → Int64 → Int32 → px_H → Option (Int64 × px_H)
  | 0, _, _, _, _, _ => none
  | n + 1, a0, a3, a4, a6, ph =>
    (xgI ph 12 48 a0).bind fun t1 =>
    if t1 ≤ a6 then
      f_M_placeCommons_110 F a4 ph
    else
      (xgR ph 12 49 a0).bind fun t2 =>
      (xaI ph 1 t2 a6).bind fun t3 =>
      (xo ph 12 a0).bind fun _ =>
      xb (f_M_isCommon F a0 a6 ph) fun t4 ph5 =>
      if t4 = 0 then
        f_M_placeCommons_104 F (f_M_placeCommons_6 F n) a0 a3 a4 a6 ph5
      else
        if a3 = 0 then
          f_M_placeCommons_58 F (f_M_placeCommons_6 F n) a0 a3 a6 t3 a4 ph5
        else
          (xgR ph5 12 27 a0).bind fun t6 =>
          (xaI ph5 1 t6 t3).bind fun t7 =>
          xb (f_M_up F a4 t7.toInt64 ph5) fun t8 ph9 =>
          f_M_placeCommons_58 F (f_M_placeCommons_6 F n) a0 a3 a6 t3 t8 ph9
theorem r_M_placeCommons_6 {l : Launch} {g : px_G} {d F : Nat} : ∀ (n : Nat) {a0 : Nat} {a3 : Int32} {a4 : Int64} {a6 : Int32} {ph : px_H} {r : Int64} {ph' : px_H}, f_M_placeCommons_6 F n a0 a3 a4 a6 ph = some (r, ph') → PW l g (d + 1) m_M_placeCommons 6 [.ref a0, px_u, px_u, .int a3, .long a4, px_u, .int a6, px_u] [] ph (px_qJ r ph') := by
  intro n
  induction n with
  | zero => intro _ _ _ _ _ _ _ h; cases h
  | succ n ih =>
    intro a0 a3 a4 a6 ph r ph' h
    unfold f_M_placeCommons_6 at h
    refine px_ld rfl rfl rfl rfl rfl ?_
    refine px_ld rfl rfl rfl rfl rfl ?_
    obtain ⟨t1, h0, h⟩ := xs_some h
    obtain ⟨fs, e1, e2⟩ := xgI_some h0
    refine px_get rfl e1 e2 rfl ?_
    refine px_icge rfl rfl rfl (fun hc => ?_) (fun hc => ?_)
    · replace h := (if_pos hc).symm.trans h
      refine px_forget (n := 0) (lv' := [_, _, _, _, _, _, _, _]) rfl ?_
      refine px_forget (n := 3) (lv' := [_, _, _, _, _, _, _, _]) rfl ?_
      refine px_forget (n := 6) (lv' := [_, _, _, _, _, _, _, _]) rfl ?_
      exact (r_M_placeCommons_110 h :)
    · replace h := (if_neg hc).symm.trans h
      refine px_ld rfl rfl rfl rfl rfl ?_
      obtain ⟨t2, h0, h⟩ := xs_some h
      obtain ⟨fs, e1, e2⟩ := xgR_some h0
      refine px_get rfl e1 e2 rfl ?_
      refine px_ld rfl rfl rfl rfl rfl ?_
      obtain ⟨t3, h0, h⟩ := xs_some h
      obtain ⟨N, f, e1, e2, e3⟩ := xaI_some h0
      subst e3
      refine px_iald rfl e1 rfl e2 rfl ?_
      refine px_st (lv' := [_, _, _, _, _, _, _, _]) rfl rfl rfl rfl rfl rfl rfl ?_
      refine px_ld rfl rfl rfl rfl rfl ?_
      refine px_ld rfl rfl rfl rfl rfl ?_
      obtain ⟨fs, h0, h⟩ := xs_some h
      have e1 := xo_some h0
      obtain ⟨t4, ph5, h0, h⟩ := xb_some h
      refine px_cV1 rfl rfl e1 rfl rfl rfl rfl rfl rfl rfl (r_M_isCommon h0 :) (fun _ _ q => nomatch q.2) (fun r ph' q => ?_)
      obtain ⟨rfl, q⟩ := q
      cases q
      refine px_ifne rfl rfl rfl (fun hc => ?_) (fun hc => ?_)
      · replace h := (if_neg hc).symm.trans h
        refine px_ld rfl rfl rfl rfl rfl ?_
        refine px_ifeq rfl rfl rfl (fun hc => ?_) (fun hc => ?_)
        · replace h := (if_pos hc).symm.trans h
          refine px_ld rfl rfl rfl rfl rfl ?_
          refine px_forget (n := 4) (lv' := [_, _, _, _, _, _, _, _]) rfl ?_
          exact (r_M_placeCommons_58 @ih h :)
        · replace h := (if_neg hc).symm.trans h
          refine px_ld rfl rfl rfl rfl rfl ?_
          refine px_ld rfl rfl rfl rfl rfl ?_
          obtain ⟨t6, h0, h⟩ := xs_some h
          obtain ⟨fs, e1, e2⟩ := xgR_some h0
          refine px_get rfl e1 e2 rfl ?_
          refine px_ld rfl rfl rfl rfl rfl ?_
          obtain ⟨t7, h0, h⟩ := xs_some h
          obtain ⟨N, f, e1, e2, e3⟩ := xaI_some h0
          subst e3
          refine px_iald rfl e1 rfl e2 rfl ?_
          refine px_alu rfl rfl rfl ?_
          obtain ⟨t8, ph9, h0, h⟩ := xb_some h
          refine px_cS2 rfl rfl rfl rfl rfl rfl rfl (r_M_up h0 :) (fun _ _ q => nomatch q.2) (fun r ph' q => ?_)
          obtain ⟨rfl, q⟩ := q
          cases q
          refine px_goto rfl rfl rfl ?_
          refine px_forget (n := 4) (lv' := [_, _, _, _, _, _, _, _]) rfl ?_
          exact (r_M_placeCommons_58 @ih h :)
      · replace h := (if_pos hc).symm.trans h
        refine px_goto rfl rfl rfl ?_
        refine px_forget (n := 7) (lv' := [_, _, _, _, _, _, _, _]) rfl ?_
        exact (r_M_placeCommons_104 @ih h :)
def f_M_placeCommons (F : Nat) (a0 : Nat) (a1 : Int64) (a3 : Int32) (ph : px_H) : Option (Int64 × px_H) :=
  f_M_placeCommons_6 F F a0 a3 a1 (nI 0) ph
theorem r_M_placeCommons {l : Launch} {g : px_G} {d F : Nat} {a0 : Nat} {a1 : Int64} {a3 : Int32} {ph : px_H} {r : Int64} {ph' : px_H} (h : f_M_placeCommons F a0 a1 a3 ph = some (r, ph')) : PW l g (d + 1) m_M_placeCommons 0 [.ref a0, .long a1, px_u, .int a3, px_u, px_u, px_u, px_u] [] ph (px_qJ r ph') := by
  unfold f_M_placeCommons at h
  refine px_ld rfl rfl rfl rfl rfl ?_
  refine px_st (lv' := [_, _, _, _, _, _, _, _]) rfl rfl rfl rfl rfl rfl rfl ?_
  refine px_ic (k := 0) rfl rfl rfl ?_
  refine px_st (lv' := [_, _, _, _, _, _, _, _]) rfl rfl rfl rfl rfl rfl rfl ?_
  refine px_forget (n := 1) (lv' := [_, _, _, _, _, _, _, _]) rfl ?_
  exact (r_M_placeCommons_6 _ h :)
