/-! methods as functions: LinkHouse -/
def f_H_lookAtLink_222 (F : Nat) (c : px_CT) (s0 : Int64) (ph : px_H) : Option (Int64 × px_H) :=
  some (s0, ph)
theorem r_H_lookAtLink_222 {l : Launch} {g : px_G} {d F : Nat} {s0 : Int64} {ph : px_H} {r : Int64} {ph' : px_H} (h : f_H_lookAtLink_222 F (px_ct g) s0 ph = some (r, ph')) : PW l g (d + 1) m_H_lookAtLink 222 [px_u, px_u, px_u, px_u] [.long s0] ph (px_qJ r ph') := by
  unfold f_H_lookAtLink_222 at h
  cases h
  exact px_lret rfl rfl rfl ⟨rfl, rfl⟩
def f_H_lookAtLink_206 (F : Nat) (c : px_CT) (s0 : Int64) (ph : px_H) : Option (Int64 × px_H) :=
  some (s0, ph)
theorem r_H_lookAtLink_206 {l : Launch} {g : px_G} {d F : Nat} {s0 : Int64} {ph : px_H} {r : Int64} {ph' : px_H} (h : f_H_lookAtLink_206 F (px_ct g) s0 ph = some (r, ph')) : PW l g (d + 1) m_H_lookAtLink 206 [px_u, px_u, px_u, px_u] [.long s0] ph (px_qJ r ph') := by
  unfold f_H_lookAtLink_206 at h
  cases h
  exact px_lret rfl rfl rfl ⟨rfl, rfl⟩
def f_H_lookAtLink_180 (F : Nat) (c : px_CT) (s0 : Int64) (ph : px_H) : Option (Int64 × px_H) :=
  some (s0, ph)
theorem r_H_lookAtLink_180 {l : Launch} {g : px_G} {d F : Nat} {s0 : Int64} {ph : px_H} {r : Int64} {ph' : px_H} (h : f_H_lookAtLink_180 F (px_ct g) s0 ph = some (r, ph')) : PW l g (d + 1) m_H_lookAtLink 180 [px_u, px_u, px_u, px_u] [.long s0] ph (px_qJ r ph') := by
  unfold f_H_lookAtLink_180 at h
  cases h
  exact px_lret rfl rfl rfl ⟨rfl, rfl⟩
def f_H_lookAtLink_151 (F : Nat) (c : px_CT) (s0 : Int64) (ph : px_H) : Option (Int64 × px_H) :=
  some (s0, ph)
theorem r_H_lookAtLink_151 {l : Launch} {g : px_G} {d F : Nat} {s0 : Int64} {ph : px_H} {r : Int64} {ph' : px_H} (h : f_H_lookAtLink_151 F (px_ct g) s0 ph = some (r, ph')) : PW l g (d + 1) m_H_lookAtLink 151 [px_u, px_u, px_u, px_u] [.long s0] ph (px_qJ r ph') := by
  unfold f_H_lookAtLink_151 at h
  cases h
  exact px_lret rfl rfl rfl ⟨rfl, rfl⟩
def f_H_lookAtLink_36 (F : Nat) (c : px_CT) (a0 : Nat) (a1 : Int32) (a2 : Int32) (s0 : Int32) (ph : px_H) : Option (Int64 × px_H) :=
  if a1 = nI 3 then
    (xgR ph 0 11 a0).bind fun t1 =>
    (xgI ph 3 18 t1).bind fun t2 =>
    some (t2.toInt64, ph)
  else if a1 = nI 4 then
    (xgR ph 0 11 a0).bind fun t3 =>
    (xgJ ph 3 19 t3).bind fun t4 =>
    some (t4, ph)
  else if a1 = nI 5 then
    (xgR ph 0 11 a0).bind fun t5 =>
    (xgI ph 3 14 t5).bind fun t6 =>
    some (t6.toInt64, ph)
  else if a1 = nI 6 then
    (xgR ph 0 11 a0).bind fun t7 =>
    (xo ph 3 t7).bind fun _ =>
    xb (f_Link_countStaying F c t7 ph) fun t8 ph9 =>
    some (t8.toInt64, ph9)
  else if a1 = nI 7 then
    if a2 = 0 then
      f_H_lookAtLink_151 F c (lN 0) ph
    else
      (xgR ph 0 13 a0).bind fun t10 =>
      (xo ph 2 t10).bind fun _ =>
      xb (f_Layout_countSegments F c t10 ph) fun t11 ph12 =>
      f_H_lookAtLink_151 F c t11.toInt64 ph12
  else if a1 = nI 8 then
    (xgR ph 0 11 a0).bind fun t13 =>
    (xgR ph 3 3 t13).bind fun t14 =>
    (xgI ph 6 2 t14).bind fun t15 =>
    some (t15.toInt64, ph)
  else if a1 = nI 9 then
    if a2 = 0 then
      f_H_lookAtLink_222 F c (lN 0) ph
    else
      (xgR ph 0 13 a0).bind fun t16 =>
      (xgJ ph 2 17 t16).bind fun t17 =>
      f_H_lookAtLink_222 F c t17 ph
  else if a1 = nI 10 then
    if a2 = 0 then
      f_H_lookAtLink_222 F c (lN 0) ph
    else
      (xgR ph 0 13 a0).bind fun t18 =>
      (xgJ ph 2 17 t18).bind fun t19 =>
      f_H_lookAtLink_222 F c t19 ph
  else if a1 = nI 11 then
    if a2 = 0 then
      f_H_lookAtLink_222 F c (lN 0) ph
    else
      (xgR ph 0 13 a0).bind fun t20 =>
      (xgJ ph 2 17 t20).bind fun t21 =>
      f_H_lookAtLink_222 F c t21 ph
  else if a1 = nI 12 then
    if s0 = 0 then
      f_H_lookAtLink_180 F c (lN 0) ph
    else
      (xgR ph 0 13 a0).bind fun t22 =>
      (xgI ph 2 12 t22).bind fun t23 =>
      f_H_lookAtLink_180 F c t23.toInt64 ph
  else if a1 = nI 13 then
    (xgR ph 0 11 a0).bind fun t24 =>
    (xgI ph 3 17 t24).bind fun t25 =>
    some (t25.toInt64, ph)
  else if a1 = nI 14 then
    if s0 = 0 then
      f_H_lookAtLink_206 F c (lN 0) ph
    else
      (xgR ph 0 12 a0).bind fun t26 =>
      (xgI ph 9 4 t26).bind fun t27 =>
      f_H_lookAtLink_206 F c t27.toInt64 ph
  else 
    if a2 = 0 then
      f_H_lookAtLink_222 F c (lN 0) ph
    else
      (xgR ph 0 13 a0).bind fun t28 =>
      (xgJ ph 2 17 t28).bind fun t29 =>
      f_H_lookAtLink_222 F c t29 ph
theorem r_H_lookAtLink_36 {l : Launch} {g : px_G} {d F : Nat} {a0 : Nat} {a1 : Int32} {a2 : Int32} {s0 : Int32} {ph : px_H} {r : Int64} {ph' : px_H} (h : f_H_lookAtLink_36 F (px_ct g) a0 a1 a2 s0 ph = some (r, ph')) : PW l g (d + 1) m_H_lookAtLink 36 [.ref a0, .int a1, .int a2, px_u] [.int s0] ph (px_qJ r ph') := by
  unfold f_H_lookAtLink_36 at h
  refine px_st (lv' := [_, _, _, _]) rfl rfl rfl rfl rfl rfl rfl ?_
  refine px_ld rfl rfl rfl rfl rfl ?_
  by_cases hs0 : a1 = nI 3
  · replace h := (if_pos hs0).symm.trans h
    refine px_tsK (len := 62) (off := 62) (tgt := 100) 3 rfl hs0 (by decide) (by decide) (by decide) rfl (by decide) ?_
    refine px_ld rfl rfl rfl rfl rfl ?_
    obtain ⟨t1, h0, h⟩ := xs_some h
    obtain ⟨fs, e1, e2⟩ := xgR_some h0
    refine px_get rfl e1 e2 rfl ?_
    obtain ⟨t2, h0, h⟩ := xs_some h
    obtain ⟨fs, e1, e2⟩ := xgI_some h0
    refine px_get rfl e1 e2 rfl ?_
    refine px_alu rfl rfl rfl ?_
    cases h
    exact px_lret rfl rfl rfl ⟨rfl, rfl⟩
  replace h := (if_neg hs0).symm.trans h
  by_cases hs1 : a1 = nI 4
  · replace h := (if_pos hs1).symm.trans h
    refine px_tsK (len := 62) (off := 71) (tgt := 109) 4 rfl hs1 (by decide) (by decide) (by decide) rfl (by decide) ?_
    refine px_ld rfl rfl rfl rfl rfl ?_
    obtain ⟨t3, h0, h⟩ := xs_some h
    obtain ⟨fs, e1, e2⟩ := xgR_some h0
    refine px_get rfl e1 e2 rfl ?_
    obtain ⟨t4, h0, h⟩ := xs_some h
    obtain ⟨fs, e1, e2⟩ := xgJ_some h0
    refine px_get rfl e1 e2 rfl ?_
    cases h
    exact px_lret rfl rfl rfl ⟨rfl, rfl⟩
  replace h := (if_neg hs1).symm.trans h
  by_cases hs2 : a1 = nI 5
  · replace h := (if_pos hs2).symm.trans h
    refine px_tsK (len := 62) (off := 79) (tgt := 117) 5 rfl hs2 (by decide) (by decide) (by decide) rfl (by decide) ?_
    refine px_ld rfl rfl rfl rfl rfl ?_
    obtain ⟨t5, h0, h⟩ := xs_some h
    obtain ⟨fs, e1, e2⟩ := xgR_some h0
    refine px_get rfl e1 e2 rfl ?_
    obtain ⟨t6, h0, h⟩ := xs_some h
    obtain ⟨fs, e1, e2⟩ := xgI_some h0
    refine px_get rfl e1 e2 rfl ?_
    refine px_alu rfl rfl rfl ?_
    cases h
    exact px_lret rfl rfl rfl ⟨rfl, rfl⟩
  replace h := (if_neg hs2).symm.trans h
  by_cases hs3 : a1 = nI 6
  · replace h := (if_pos hs3).symm.trans h
    refine px_tsK (len := 62) (off := 88) (tgt := 126) 6 rfl hs3 (by decide) (by decide) (by decide) rfl (by decide) ?_
    refine px_ld rfl rfl rfl rfl rfl ?_
    obtain ⟨t7, h0, h⟩ := xs_some h
    obtain ⟨fs, e1, e2⟩ := xgR_some h0
    refine px_get rfl e1 e2 rfl ?_
    obtain ⟨fs, h0, h⟩ := xs_some h
    have e1 := xo_some h0
    obtain ⟨t8, ph9, h0, h⟩ := xb_some h
    refine px_cV0 rfl rfl e1 rfl rfl rfl rfl rfl rfl rfl (r_Link_countStaying h0 :) (fun _ _ q => nomatch q.2) (fun r ph' q => ?_)
    obtain ⟨rfl, q⟩ := q
    cases q
    refine px_alu rfl rfl rfl ?_
    cases h
    exact px_lret rfl rfl rfl ⟨rfl, rfl⟩
  replace h := (if_neg hs3).symm.trans h
  by_cases hs4 : a1 = nI 7
  · replace h := (if_pos hs4).symm.trans h
    refine px_tsK (len := 62) (off := 97) (tgt := 135) 7 rfl hs4 (by decide) (by decide) (by decide) rfl (by decide) ?_
    refine px_ld rfl rfl rfl rfl rfl ?_
    refine px_ifeq rfl (by decide) rfl (fun hc => ?_) (fun hc => ?_)
    · replace h := (if_pos hc).symm.trans h
      refine px_alu rfl rfl rfl ?_
      refine px_forget (n := 0) (lv' := [_, _, _, _]) rfl ?_
      refine px_forget (n := 1) (lv' := [_, _, _, _]) rfl ?_
      refine px_forget (n := 2) (lv' := [_, _, _, _]) rfl ?_
      refine px_forget (n := 3) (lv' := [_, _, _, _]) rfl ?_
      exact (r_H_lookAtLink_151 h :)
    · replace h := (if_neg hc).symm.trans h
      refine px_ld rfl rfl rfl rfl rfl ?_
      obtain ⟨t10, h0, h⟩ := xs_some h
      obtain ⟨fs, e1, e2⟩ := xgR_some h0
      refine px_get rfl e1 e2 rfl ?_
      obtain ⟨fs, h0, h⟩ := xs_some h
      have e1 := xo_some h0
      obtain ⟨t11, ph12, h0, h⟩ := xb_some h
      refine px_cV0 rfl rfl e1 rfl rfl rfl rfl rfl rfl rfl (r_Layout_countSegments h0 :) (fun _ _ q => nomatch q.2) (fun r ph' q => ?_)
      obtain ⟨rfl, q⟩ := q
      cases q
      refine px_alu rfl rfl rfl ?_
      refine px_goto rfl (by decide) rfl ?_
      refine px_forget (n := 0) (lv' := [_, _, _, _]) rfl ?_
      refine px_forget (n := 1) (lv' := [_, _, _, _]) rfl ?_
      refine px_forget (n := 2) (lv' := [_, _, _, _]) rfl ?_
      refine px_forget (n := 3) (lv' := [_, _, _, _]) rfl ?_
      exact (r_H_lookAtLink_151 h :)
  replace h := (if_neg hs4).symm.trans h
  by_cases hs5 : a1 = nI 8
  · replace h := (if_pos hs5).symm.trans h
    refine px_tsK (len := 62) (off := 114) (tgt := 152) 8 rfl hs5 (by decide) (by decide) (by decide) rfl (by decide) ?_
    refine px_ld rfl rfl rfl rfl rfl ?_
    obtain ⟨t13, h0, h⟩ := xs_some h
    obtain ⟨fs, e1, e2⟩ := xgR_some h0
    refine px_get rfl e1 e2 rfl ?_
    obtain ⟨t14, h0, h⟩ := xs_some h
    obtain ⟨fs, e1, e2⟩ := xgR_some h0
    refine px_get rfl e1 e2 rfl ?_
    obtain ⟨t15, h0, h⟩ := xs_some h
    obtain ⟨fs, e1, e2⟩ := xgI_some h0
    refine px_get rfl e1 e2 rfl ?_
    refine px_alu rfl rfl rfl ?_
    cases h
    exact px_lret rfl rfl rfl ⟨rfl, rfl⟩
  replace h := (if_neg hs5).symm.trans h
  by_cases hs6 : a1 = nI 9
  · replace h := (if_pos hs6).symm.trans h
    refine px_tsK (len := 62) (off := 169) (tgt := 207) 9 rfl hs6 (by decide) (by decide) (by decide) rfl (by decide) ?_
    refine px_ld rfl rfl rfl rfl rfl ?_
    refine px_ifeq rfl (by decide) rfl (fun hc => ?_) (fun hc => ?_)
    · replace h := (if_pos hc).symm.trans h
      refine px_alu rfl rfl rfl ?_
      refine px_forget (n := 0) (lv' := [_, _, _, _]) rfl ?_
      refine px_forget (n := 1) (lv' := [_, _, _, _]) rfl ?_
      refine px_forget (n := 2) (lv' := [_, _, _, _]) rfl ?_
      refine px_forget (n := 3) (lv' := [_, _, _, _]) rfl ?_
      exact (r_H_lookAtLink_222 h :)
    · replace h := (if_neg hc).symm.trans h
      refine px_ld rfl rfl rfl rfl rfl ?_
      obtain ⟨t16, h0, h⟩ := xs_some h
      obtain ⟨fs, e1, e2⟩ := xgR_some h0
      refine px_get rfl e1 e2 rfl ?_
      obtain ⟨t17, h0, h⟩ := xs_some h
      obtain ⟨fs, e1, e2⟩ := xgJ_some h0
      refine px_get rfl e1 e2 rfl ?_
      refine px_goto rfl (by decide) rfl ?_
      refine px_forget (n := 0) (lv' := [_, _, _, _]) rfl ?_
      refine px_forget (n := 1) (lv' := [_, _, _, _]) rfl ?_
      refine px_forget (n := 2) (lv' := [_, _, _, _]) rfl ?_
      refine px_forget (n := 3) (lv' := [_, _, _, _]) rfl ?_
      exact (r_H_lookAtLink_222 h :)
  replace h := (if_neg hs6).symm.trans h
  by_cases hs7 : a1 = nI 10
  · replace h := (if_pos hs7).symm.trans h
    refine px_tsK (len := 62) (off := 169) (tgt := 207) 10 rfl hs7 (by decide) (by decide) (by decide) rfl (by decide) ?_
    refine px_ld rfl rfl rfl rfl rfl ?_
    refine px_ifeq rfl (by decide) rfl (fun hc => ?_) (fun hc => ?_)
    · replace h := (if_pos hc).symm.trans h
      refine px_alu rfl rfl rfl ?_
      refine px_forget (n := 0) (lv' := [_, _, _, _]) rfl ?_
      refine px_forget (n := 1) (lv' := [_, _, _, _]) rfl ?_
      refine px_forget (n := 2) (lv' := [_, _, _, _]) rfl ?_
      refine px_forget (n := 3) (lv' := [_, _, _, _]) rfl ?_
      exact (r_H_lookAtLink_222 h :)
    · replace h := (if_neg hc).symm.trans h
      refine px_ld rfl rfl rfl rfl rfl ?_
      obtain ⟨t18, h0, h⟩ := xs_some h
      obtain ⟨fs, e1, e2⟩ := xgR_some h0
      refine px_get rfl e1 e2 rfl ?_
      obtain ⟨t19, h0, h⟩ := xs_some h
      obtain ⟨fs, e1, e2⟩ := xgJ_some h0
      refine px_get rfl e1 e2 rfl ?_
      refine px_goto rfl (by decide) rfl ?_
      refine px_forget (n := 0) (lv' := [_, _, _, _]) rfl ?_
      refine px_forget (n := 1) (lv' := [_, _, _, _]) rfl ?_
      refine px_forget (n := 2) (lv' := [_, _, _, _]) rfl ?_
      refine px_forget (n := 3) (lv' := [_, _, _, _]) rfl ?_
      exact (r_H_lookAtLink_222 h :)
  replace h := (if_neg hs7).symm.trans h
  by_cases hs8 : a1 = nI 11
  · replace h := (if_pos hs8).symm.trans h
    refine px_tsK (len := 62) (off := 169) (tgt := 207) 11 rfl hs8 (by decide) (by decide) (by decide) rfl (by decide) ?_
    refine px_ld rfl rfl rfl rfl rfl ?_
    refine px_ifeq rfl (by decide) rfl (fun hc => ?_) (fun hc => ?_)
    · replace h := (if_pos hc).symm.trans h
      refine px_alu rfl rfl rfl ?_
      refine px_forget (n := 0) (lv' := [_, _, _, _]) rfl ?_
      refine px_forget (n := 1) (lv' := [_, _, _, _]) rfl ?_
      refine px_forget (n := 2) (lv' := [_, _, _, _]) rfl ?_
      refine px_forget (n := 3) (lv' := [_, _, _, _]) rfl ?_
      exact (r_H_lookAtLink_222 h :)
    · replace h := (if_neg hc).symm.trans h
      refine px_ld rfl rfl rfl rfl rfl ?_
      obtain ⟨t20, h0, h⟩ := xs_some h
      obtain ⟨fs, e1, e2⟩ := xgR_some h0
      refine px_get rfl e1 e2 rfl ?_
      obtain ⟨t21, h0, h⟩ := xs_some h
      obtain ⟨fs, e1, e2⟩ := xgJ_some h0
      refine px_get rfl e1 e2 rfl ?_
      refine px_goto rfl (by decide) rfl ?_
      refine px_forget (n := 0) (lv' := [_, _, _, _]) rfl ?_
      refine px_forget (n := 1) (lv' := [_, _, _, _]) rfl ?_
      refine px_forget (n := 2) (lv' := [_, _, _, _]) rfl ?_
      refine px_forget (n := 3) (lv' := [_, _, _, _]) rfl ?_
      exact (r_H_lookAtLink_222 h :)
  replace h := (if_neg hs8).symm.trans h
  by_cases hs9 : a1 = nI 12
  · replace h := (if_pos hs9).symm.trans h
    refine px_tsK (len := 62) (off := 126) (tgt := 164) 12 rfl hs9 (by decide) (by decide) (by decide) rfl (by decide) ?_
    refine px_ld rfl rfl rfl rfl rfl ?_
    refine px_ifeq rfl (by decide) rfl (fun hc => ?_) (fun hc => ?_)
    · replace h := (if_pos hc).symm.trans h
      refine px_alu rfl rfl rfl ?_
      refine px_forget (n := 0) (lv' := [_, _, _, _]) rfl ?_
      refine px_forget (n := 1) (lv' := [_, _, _, _]) rfl ?_
      refine px_forget (n := 2) (lv' := [_, _, _, _]) rfl ?_
      refine px_forget (n := 3) (lv' := [_, _, _, _]) rfl ?_
      exact (r_H_lookAtLink_180 h :)
    · replace h := (if_neg hc).symm.trans h
      refine px_ld rfl rfl rfl rfl rfl ?_
      obtain ⟨t22, h0, h⟩ := xs_some h
      obtain ⟨fs, e1, e2⟩ := xgR_some h0
      refine px_get rfl e1 e2 rfl ?_
      obtain ⟨t23, h0, h⟩ := xs_some h
      obtain ⟨fs, e1, e2⟩ := xgI_some h0
      refine px_get rfl e1 e2 rfl ?_
      refine px_alu rfl rfl rfl ?_
      refine px_goto rfl (by decide) rfl ?_
      refine px_forget (n := 0) (lv' := [_, _, _, _]) rfl ?_
      refine px_forget (n := 1) (lv' := [_, _, _, _]) rfl ?_
      refine px_forget (n := 2) (lv' := [_, _, _, _]) rfl ?_
      refine px_forget (n := 3) (lv' := [_, _, _, _]) rfl ?_
      exact (r_H_lookAtLink_180 h :)
  replace h := (if_neg hs9).symm.trans h
  by_cases hs10 : a1 = nI 13
  · replace h := (if_pos hs10).symm.trans h
    refine px_tsK (len := 62) (off := 143) (tgt := 181) 13 rfl hs10 (by decide) (by decide) (by decide) rfl (by decide) ?_
    refine px_ld rfl rfl rfl rfl rfl ?_
    obtain ⟨t24, h0, h⟩ := xs_some h
    obtain ⟨fs, e1, e2⟩ := xgR_some h0
    refine px_get rfl e1 e2 rfl ?_
    obtain ⟨t25, h0, h⟩ := xs_some h
    obtain ⟨fs, e1, e2⟩ := xgI_some h0
    refine px_get rfl e1 e2 rfl ?_
    refine px_alu rfl rfl rfl ?_
    cases h
    exact px_lret rfl rfl rfl ⟨rfl, rfl⟩
  replace h := (if_neg hs10).symm.trans h
  by_cases hs11 : a1 = nI 14
  · replace h := (if_pos hs11).symm.trans h
    refine px_tsK (len := 62) (off := 152) (tgt := 190) 14 rfl hs11 (by decide) (by decide) (by decide) rfl (by decide) ?_
    refine px_ld rfl rfl rfl rfl rfl ?_
    refine px_ifeq rfl (by decide) rfl (fun hc => ?_) (fun hc => ?_)
    · replace h := (if_pos hc).symm.trans h
      refine px_alu rfl rfl rfl ?_
      refine px_forget (n := 0) (lv' := [_, _, _, _]) rfl ?_
      refine px_forget (n := 1) (lv' := [_, _, _, _]) rfl ?_
      refine px_forget (n := 2) (lv' := [_, _, _, _]) rfl ?_
      refine px_forget (n := 3) (lv' := [_, _, _, _]) rfl ?_
      exact (r_H_lookAtLink_206 h :)
    · replace h := (if_neg hc).symm.trans h
      refine px_ld rfl rfl rfl rfl rfl ?_
      obtain ⟨t26, h0, h⟩ := xs_some h
      obtain ⟨fs, e1, e2⟩ := xgR_some h0
      refine px_get rfl e1 e2 rfl ?_
      obtain ⟨t27, h0, h⟩ := xs_some h
      obtain ⟨fs, e1, e2⟩ := xgI_some h0
      refine px_get rfl e1 e2 rfl ?_
      refine px_alu rfl rfl rfl ?_
      refine px_goto rfl (by decide) rfl ?_
      refine px_forget (n := 0) (lv' := [_, _, _, _]) rfl ?_
      refine px_forget (n := 1) (lv' := [_, _, _, _]) rfl ?_
      refine px_forget (n := 2) (lv' := [_, _, _, _]) rfl ?_
      refine px_forget (n := 3) (lv' := [_, _, _, _]) rfl ?_
      exact (r_H_lookAtLink_206 h :)
  replace h := (if_neg hs11).symm.trans h
  refine px_tsD (len := 62) (lo := 3) (n := 12) (tgt := 207) rfl (lt_s (lt_s (lt_s (lt_s (lt_s (lt_s (lt_s (lt_s (lt_s (lt_s (lt_s (lt_s lt_0 hs0) hs1) hs2) hs3) hs4) hs5) hs6) hs7) hs8) hs9) hs10) hs11) (by decide) (by decide) ?_
  refine px_ld rfl rfl rfl rfl rfl ?_
  refine px_ifeq rfl (by decide) rfl (fun hc => ?_) (fun hc => ?_)
  · replace h := (if_pos hc).symm.trans h
    refine px_alu rfl rfl rfl ?_
    refine px_forget (n := 0) (lv' := [_, _, _, _]) rfl ?_
    refine px_forget (n := 1) (lv' := [_, _, _, _]) rfl ?_
    refine px_forget (n := 2) (lv' := [_, _, _, _]) rfl ?_
    refine px_forget (n := 3) (lv' := [_, _, _, _]) rfl ?_
    exact (r_H_lookAtLink_222 h :)
  · replace h := (if_neg hc).symm.trans h
    refine px_ld rfl rfl rfl rfl rfl ?_
    obtain ⟨t28, h0, h⟩ := xs_some h
    obtain ⟨fs, e1, e2⟩ := xgR_some h0
    refine px_get rfl e1 e2 rfl ?_
    obtain ⟨t29, h0, h⟩ := xs_some h
    obtain ⟨fs, e1, e2⟩ := xgJ_some h0
    refine px_get rfl e1 e2 rfl ?_
    refine px_goto rfl (by decide) rfl ?_
    refine px_forget (n := 0) (lv' := [_, _, _, _]) rfl ?_
    refine px_forget (n := 1) (lv' := [_, _, _, _]) rfl ?_
    refine px_forget (n := 2) (lv' := [_, _, _, _]) rfl ?_
    refine px_forget (n := 3) (lv' := [_, _, _, _]) rfl ?_
    exact (r_H_lookAtLink_222 h :)
def f_H_lookAtLink_31 (F : Nat) (c : px_CT) (a0 : Nat) (a1 : Int32) (a2 : Int32) (ph : px_H) : Option (Int64 × px_H) :=
  f_H_lookAtLink_36 F c a0 a1 a2 (nI 1) ph
theorem r_H_lookAtLink_31 {l : Launch} {g : px_G} {d F : Nat} {a0 : Nat} {a1 : Int32} {a2 : Int32} {ph : px_H} {r : Int64} {ph' : px_H} (h : f_H_lookAtLink_31 F (px_ct g) a0 a1 a2 ph = some (r, ph')) : PW l g (d + 1) m_H_lookAtLink 31 [.ref a0, .int a1, .int a2, px_u] [] ph (px_qJ r ph') := by
  unfold f_H_lookAtLink_31 at h
  refine px_ic (k := 1) rfl rfl rfl ?_
  refine px_goto rfl (by decide) rfl ?_
  exact (r_H_lookAtLink_36 h :)
def f_H_lookAtLink_15 (F : Nat) (c : px_CT) (a0 : Nat) (a1 : Int32) (s0 : Int32) (ph : px_H) : Option (Int64 × px_H) :=
  if s0 = 0 then
    (xgR ph 0 11 a0).bind fun t1 =>
    (xgI ph 3 18 t1).bind fun t2 =>
    if t2 ≤ (nI 2) then
      f_H_lookAtLink_36 F c a0 a1 s0 (nI 0) ph
    else
      f_H_lookAtLink_31 F c a0 a1 s0 ph
  else
    f_H_lookAtLink_31 F c a0 a1 s0 ph
theorem r_H_lookAtLink_15 {l : Launch} {g : px_G} {d F : Nat} {a0 : Nat} {a1 : Int32} {s0 : Int32} {ph : px_H} {r : Int64} {ph' : px_H} (h : f_H_lookAtLink_15 F (px_ct g) a0 a1 s0 ph = some (r, ph')) : PW l g (d + 1) m_H_lookAtLink 15 [.ref a0, .int a1, px_u, px_u] [.int s0] ph (px_qJ r ph') := by
  unfold f_H_lookAtLink_15 at h
  refine px_st (lv' := [_, _, _, _]) rfl rfl rfl rfl rfl rfl rfl ?_
  refine px_ld rfl rfl rfl rfl rfl ?_
  refine px_ifne rfl (by decide) rfl (fun hc => ?_) (fun hc => ?_)
  · replace h := (if_neg hc).symm.trans h
    exact (r_H_lookAtLink_31 h :)
  · replace h := (if_pos hc).symm.trans h
    refine px_ld rfl rfl rfl rfl rfl ?_
    obtain ⟨t1, h0, h⟩ := xs_some h
    obtain ⟨fs, e1, e2⟩ := xgR_some h0
    refine px_get rfl e1 e2 rfl ?_
    obtain ⟨t2, h0, h⟩ := xs_some h
    obtain ⟨fs, e1, e2⟩ := xgI_some h0
    refine px_get rfl e1 e2 rfl ?_
    refine px_ic (k := 2) rfl rfl rfl ?_
    refine px_icle rfl (by decide) rfl (fun hc => ?_) (fun hc => ?_)
    · replace h := (if_pos hc).symm.trans h
      refine px_ic (k := 0) rfl rfl rfl ?_
      exact (r_H_lookAtLink_36 h :)
    · replace h := (if_neg hc).symm.trans h
      exact (r_H_lookAtLink_31 h :)
def f_H_lookAtLink (F : Nat) (c : px_CT) (a0 : Nat) (a1 : Int32) (ph : px_H) : Option (Int64 × px_H) :=
  (xgR ph 0 11 a0).bind fun t1 =>
  (xgI ph 3 18 t1).bind fun t2 =>
  if t2 = 0 then
    f_H_lookAtLink_15 F c a0 a1 (nI 1) ph
  else
    f_H_lookAtLink_15 F c a0 a1 (nI 0) ph
theorem r_H_lookAtLink {l : Launch} {g : px_G} {d F : Nat} {a0 : Nat} {a1 : Int32} {ph : px_H} {r : Int64} {ph' : px_H} (h : f_H_lookAtLink F (px_ct g) a0 a1 ph = some (r, ph')) : PW l g (d + 1) m_H_lookAtLink 0 [.ref a0, .int a1, px_u, px_u] [] ph (px_qJ r ph') := by
  unfold f_H_lookAtLink at h
  refine px_ld rfl rfl rfl rfl rfl ?_
  obtain ⟨t1, h0, h⟩ := xs_some h
  obtain ⟨fs, e1, e2⟩ := xgR_some h0
  refine px_get rfl e1 e2 rfl ?_
  obtain ⟨t2, h0, h⟩ := xs_some h
  obtain ⟨fs, e1, e2⟩ := xgI_some h0
  refine px_get rfl e1 e2 rfl ?_
  refine px_ifne rfl (by decide) rfl (fun hc => ?_) (fun hc => ?_)
  · replace h := (if_neg hc).symm.trans h
    refine px_ic (k := 0) rfl rfl rfl ?_
    exact (r_H_lookAtLink_15 h :)
  · replace h := (if_pos hc).symm.trans h
    refine px_ic (k := 1) rfl rfl rfl ?_
    refine px_goto rfl (by decide) rfl ?_
    exact (r_H_lookAtLink_15 h :)
def f_H_look_10 (F : Nat) (c : px_CT) (ph : px_H) : Option (Int64 × px_H) :=
  none
theorem r_H_look_10 {l : Launch} {g : px_G} {d F : Nat} {ph : px_H} {r : Int64} {ph' : px_H} (h : f_H_look_10 F (px_ct g) ph = some (r, ph')) : PW l g (d + 2) m_H_look 10 [px_u, px_u] [] ph (px_qJ r ph') := by
  unfold f_H_look_10 at h
  cases h
def f_H_look (F : Nat) (c : px_CT) (a0 : Nat) (a1 : Int32) (ph : px_H) : Option (Int64 × px_H) :=
  if a1 < 0 then
    f_H_look_10 F c ph
  else
    if a1 ≤ (nI 18) then
      if a1 = nI 0 then
        (xgI ph 0 6 a0).bind fun t1 =>
        some (t1.toInt64, ph)
      else if a1 = nI 1 then
        (xgR ph 0 0 a0).bind fun t2 =>
        (xgI ph 10 1 t2).bind fun t3 =>
        some (t3.toInt64, ph)
      else if a1 = nI 2 then
        (xgR ph 0 1 a0).bind fun t4 =>
        (xgI ph 10 1 t4).bind fun t5 =>
        some (t5.toInt64, ph)
      else if a1 = nI 3 then
        (xo ph 0 a0).bind fun _ =>
        xb (f_H_lookAtLink F c a0 a1 ph) fun t6 ph7 =>
        some (t6, ph7)
      else if a1 = nI 4 then
        (xo ph 0 a0).bind fun _ =>
        xb (f_H_lookAtLink F c a0 a1 ph) fun t8 ph9 =>
        some (t8, ph9)
      else if a1 = nI 5 then
        (xo ph 0 a0).bind fun _ =>
        xb (f_H_lookAtLink F c a0 a1 ph) fun t10 ph11 =>
        some (t10, ph11)
      else if a1 = nI 6 then
        (xo ph 0 a0).bind fun _ =>
        xb (f_H_lookAtLink F c a0 a1 ph) fun t12 ph13 =>
        some (t12, ph13)
      else if a1 = nI 7 then
        (xo ph 0 a0).bind fun _ =>
        xb (f_H_lookAtLink F c a0 a1 ph) fun t14 ph15 =>
        some (t14, ph15)
      else if a1 = nI 8 then
        (xo ph 0 a0).bind fun _ =>
        xb (f_H_lookAtLink F c a0 a1 ph) fun t16 ph17 =>
        some (t16, ph17)
      else if a1 = nI 9 then
        (xgR ph 0 16 a0).bind fun t18 =>
        (xgI ph 4 6 t18).bind fun t19 =>
        some (t19.toInt64, ph)
      else if a1 = nI 10 then
        (xgR ph 0 16 a0).bind fun t20 =>
        (xgJ ph 4 7 t20).bind fun t21 =>
        some (t21, ph)
      else if a1 = nI 11 then
        (xgI ph 0 17 a0).bind fun t22 =>
        some (t22.toInt64, ph)
      else if a1 = nI 12 then
        (xo ph 0 a0).bind fun _ =>
        xb (f_H_lookAtLink F c a0 a1 ph) fun t23 ph24 =>
        some (t23, ph24)
      else if a1 = nI 13 then
        (xo ph 0 a0).bind fun _ =>
        xb (f_H_lookAtLink F c a0 a1 ph) fun t25 ph26 =>
        some (t25, ph26)
      else if a1 = nI 14 then
        (xo ph 0 a0).bind fun _ =>
        xb (f_H_lookAtLink F c a0 a1 ph) fun t27 ph28 =>
        some (t27, ph28)
      else if a1 = nI 15 then
        (xo ph 0 a0).bind fun _ =>
        xb (f_H_lookAtLink F c a0 a1 ph) fun t29 ph30 =>
        some (t29, ph30)
      else if a1 = nI 16 then
        (xgR ph 0 8 a0).bind fun t31 =>
        (xgI ph 6 2 t31).bind fun t32 =>
        some (t32.toInt64, ph)
      else if a1 = nI 17 then
        (xgR ph 0 9 a0).bind fun t33 =>
        (xgI ph 6 2 t33).bind fun t34 =>
        some (t34.toInt64, ph)
      else if a1 = nI 18 then
        (xgR ph 0 16 a0).bind fun t35 =>
        (xgI ph 4 12 t35).bind fun t36 =>
        some (t36.toInt64, ph)
      else 
        (xo ph 0 a0).bind fun _ =>
        xb (f_H_lookAtLink F c a0 a1 ph) fun t37 ph38 =>
        some (t37, ph38)
    else
      f_H_look_10 F c ph
theorem r_H_look {l : Launch} {g : px_G} {d F : Nat} {a0 : Nat} {a1 : Int32} {ph : px_H} {r : Int64} {ph' : px_H} (h : f_H_look F (px_ct g) a0 a1 ph = some (r, ph')) : PW l g (d + 2) m_H_look 0 [.ref a0, .int a1] [] ph (px_qJ r ph') := by
  unfold f_H_look at h
  refine px_ld rfl rfl rfl rfl rfl ?_
  refine px_iflt rfl rfl rfl (fun hc => ?_) (fun hc => ?_)
  · replace h := (if_pos hc).symm.trans h
    refine px_forget (n := 0) (lv' := [_, _]) rfl ?_
    refine px_forget (n := 1) (lv' := [_, _]) rfl ?_
    exact (r_H_look_10 h :)
  · replace h := (if_neg hc).symm.trans h
    refine px_ld rfl rfl rfl rfl rfl ?_
    refine px_ic (k := 18) rfl rfl rfl ?_
    refine px_icle rfl rfl rfl (fun hc => ?_) (fun hc => ?_)
    · replace h := (if_pos hc).symm.trans h
      refine px_ld rfl rfl rfl rfl rfl ?_
      by_cases hs0 : a1 = nI 0
      · replace h := (if_pos hs0).symm.trans h
        refine px_tsK (len := 90) (off := 90) (tgt := 112) 0 rfl hs0 (by decide) (by decide) (by decide) rfl (by decide) ?_
        refine px_ld rfl rfl rfl rfl rfl ?_
        obtain ⟨t1, h0, h⟩ := xs_some h
        obtain ⟨fs, e1, e2⟩ := xgI_some h0
        refine px_get rfl e1 e2 rfl ?_
        refine px_alu rfl rfl rfl ?_
        cases h
        exact px_lret rfl rfl rfl ⟨rfl, rfl⟩
      replace h := (if_neg hs0).symm.trans h
      by_cases hs1 : a1 = nI 1
      · replace h := (if_pos hs1).symm.trans h
        refine px_tsK (len := 90) (off := 96) (tgt := 118) 1 rfl hs1 (by decide) (by decide) (by decide) rfl (by decide) ?_
        refine px_ld rfl rfl rfl rfl rfl ?_
        obtain ⟨t2, h0, h⟩ := xs_some h
        obtain ⟨fs, e1, e2⟩ := xgR_some h0
        refine px_get rfl e1 e2 rfl ?_
        obtain ⟨t3, h0, h⟩ := xs_some h
        obtain ⟨fs, e1, e2⟩ := xgI_some h0
        refine px_get rfl e1 e2 rfl ?_
        refine px_alu rfl rfl rfl ?_
        cases h
        exact px_lret rfl rfl rfl ⟨rfl, rfl⟩
      replace h := (if_neg hs1).symm.trans h
      by_cases hs2 : a1 = nI 2
      · replace h := (if_pos hs2).symm.trans h
        refine px_tsK (len := 90) (off := 105) (tgt := 127) 2 rfl hs2 (by decide) (by decide) (by decide) rfl (by decide) ?_
        refine px_ld rfl rfl rfl rfl rfl ?_
        obtain ⟨t4, h0, h⟩ := xs_some h
        obtain ⟨fs, e1, e2⟩ := xgR_some h0
        refine px_get rfl e1 e2 rfl ?_
        obtain ⟨t5, h0, h⟩ := xs_some h
        obtain ⟨fs, e1, e2⟩ := xgI_some h0
        refine px_get rfl e1 e2 rfl ?_
        refine px_alu rfl rfl rfl ?_
        cases h
        exact px_lret rfl rfl rfl ⟨rfl, rfl⟩
      replace h := (if_neg hs2).symm.trans h
      by_cases hs3 : a1 = nI 3
      · replace h := (if_pos hs3).symm.trans h
        refine px_tsK (len := 90) (off := 164) (tgt := 186) 3 rfl hs3 (by decide) (by decide) (by decide) rfl (by decide) ?_
        refine px_ld rfl rfl rfl rfl rfl ?_
        refine px_ld rfl rfl rfl rfl rfl ?_
        obtain ⟨fs, h0, h⟩ := xs_some h
        have e1 := xo_some h0
        obtain ⟨t6, ph7, h0, h⟩ := xb_some h
        refine px_cV1 rfl rfl e1 rfl rfl rfl rfl rfl rfl rfl (r_H_lookAtLink h0 :) (fun _ _ q => nomatch q.2) (fun r ph' q => ?_)
        obtain ⟨rfl, q⟩ := q
        cases q
        cases h
        exact px_lret rfl rfl rfl ⟨rfl, rfl⟩
      replace h := (if_neg hs3).symm.trans h
      by_cases hs4 : a1 = nI 4
      · replace h := (if_pos hs4).symm.trans h
        refine px_tsK (len := 90) (off := 164) (tgt := 186) 4 rfl hs4 (by decide) (by decide) (by decide) rfl (by decide) ?_
        refine px_ld rfl rfl rfl rfl rfl ?_
        refine px_ld rfl rfl rfl rfl rfl ?_
        obtain ⟨fs, h0, h⟩ := xs_some h
        have e1 := xo_some h0
        obtain ⟨t8, ph9, h0, h⟩ := xb_some h
        refine px_cV1 rfl rfl e1 rfl rfl rfl rfl rfl rfl rfl (r_H_lookAtLink h0 :) (fun _ _ q => nomatch q.2) (fun r ph' q => ?_)
        obtain ⟨rfl, q⟩ := q
        cases q
        cases h
        exact px_lret rfl rfl rfl ⟨rfl, rfl⟩
      replace h := (if_neg hs4).symm.trans h
      by_cases hs5 : a1 = nI 5
      · replace h := (if_pos hs5).symm.trans h
        refine px_tsK (len := 90) (off := 164) (tgt := 186) 5 rfl hs5 (by decide) (by decide) (by decide) rfl (by decide) ?_
        refine px_ld rfl rfl rfl rfl rfl ?_
        refine px_ld rfl rfl rfl rfl rfl ?_
        obtain ⟨fs, h0, h⟩ := xs_some h
        have e1 := xo_some h0
        obtain ⟨t10, ph11, h0, h⟩ := xb_some h
        refine px_cV1 rfl rfl e1 rfl rfl rfl rfl rfl rfl rfl (r_H_lookAtLink h0 :) (fun _ _ q => nomatch q.2) (fun r ph' q => ?_)
        obtain ⟨rfl, q⟩ := q
        cases q
        cases h
        exact px_lret rfl rfl rfl ⟨rfl, rfl⟩
      replace h := (if_neg hs5).symm.trans h
      by_cases hs6 : a1 = nI 6
      · replace h := (if_pos hs6).symm.trans h
        refine px_tsK (len := 90) (off := 164) (tgt := 186) 6 rfl hs6 (by decide) (by decide) (by decide) rfl (by decide) ?_
        refine px_ld rfl rfl rfl rfl rfl ?_
        refine px_ld rfl rfl rfl rfl rfl ?_
        obtain ⟨fs, h0, h⟩ := xs_some h
        have e1 := xo_some h0
        obtain ⟨t12, ph13, h0, h⟩ := xb_some h
        refine px_cV1 rfl rfl e1 rfl rfl rfl rfl rfl rfl rfl (r_H_lookAtLink h0 :) (fun _ _ q => nomatch q.2) (fun r ph' q => ?_)
        obtain ⟨rfl, q⟩ := q
        cases q
        cases h
        exact px_lret rfl rfl rfl ⟨rfl, rfl⟩
      replace h := (if_neg hs6).symm.trans h
      by_cases hs7 : a1 = nI 7
      · replace h := (if_pos hs7).symm.trans h
        refine px_tsK (len := 90) (off := 164) (tgt := 186) 7 rfl hs7 (by decide) (by decide) (by decide) rfl (by decide) ?_
        refine px_ld rfl rfl rfl rfl rfl ?_
        refine px_ld rfl rfl rfl rfl rfl ?_
        obtain ⟨fs, h0, h⟩ := xs_some h
        have e1 := xo_some h0
        obtain ⟨t14, ph15, h0, h⟩ := xb_some h
        refine px_cV1 rfl rfl e1 rfl rfl rfl rfl rfl rfl rfl (r_H_lookAtLink h0 :) (fun _ _ q => nomatch q.2) (fun r ph' q => ?_)
        obtain ⟨rfl, q⟩ := q
        cases q
        cases h
        exact px_lret rfl rfl rfl ⟨rfl, rfl⟩
      replace h := (if_neg hs7).symm.trans h
      by_cases hs8 : a1 = nI 8
      · replace h := (if_pos hs8).symm.trans h
        refine px_tsK (len := 90) (off := 164) (tgt := 186) 8 rfl hs8 (by decide) (by decide) (by decide) rfl (by decide) ?_
        refine px_ld rfl rfl rfl rfl rfl ?_
        refine px_ld rfl rfl rfl rfl rfl ?_
        obtain ⟨fs, h0, h⟩ := xs_some h
        have e1 := xo_some h0
        obtain ⟨t16, ph17, h0, h⟩ := xb_some h
        refine px_cV1 rfl rfl e1 rfl rfl rfl rfl rfl rfl rfl (r_H_lookAtLink h0 :) (fun _ _ q => nomatch q.2) (fun r ph' q => ?_)
        obtain ⟨rfl, q⟩ := q
        cases q
        cases h
        exact px_lret rfl rfl rfl ⟨rfl, rfl⟩
      replace h := (if_neg hs8).symm.trans h
      by_cases hs9 : a1 = nI 9
      · replace h := (if_pos hs9).symm.trans h
        refine px_tsK (len := 90) (off := 114) (tgt := 136) 9 rfl hs9 (by decide) (by decide) (by decide) rfl (by decide) ?_
        refine px_ld rfl rfl rfl rfl rfl ?_
        obtain ⟨t18, h0, h⟩ := xs_some h
        obtain ⟨fs, e1, e2⟩ := xgR_some h0
        refine px_get rfl e1 e2 rfl ?_
        obtain ⟨t19, h0, h⟩ := xs_some h
        obtain ⟨fs, e1, e2⟩ := xgI_some h0
        refine px_get rfl e1 e2 rfl ?_
        refine px_alu rfl rfl rfl ?_
        cases h
        exact px_lret rfl rfl rfl ⟨rfl, rfl⟩
      replace h := (if_neg hs9).symm.trans h
      by_cases hs10 : a1 = nI 10
      · replace h := (if_pos hs10).symm.trans h
        refine px_tsK (len := 90) (off := 123) (tgt := 145) 10 rfl hs10 (by decide) (by decide) (by decide) rfl (by decide) ?_
        refine px_ld rfl rfl rfl rfl rfl ?_
        obtain ⟨t20, h0, h⟩ := xs_some h
        obtain ⟨fs, e1, e2⟩ := xgR_some h0
        refine px_get rfl e1 e2 rfl ?_
        obtain ⟨t21, h0, h⟩ := xs_some h
        obtain ⟨fs, e1, e2⟩ := xgJ_some h0
        refine px_get rfl e1 e2 rfl ?_
        cases h
        exact px_lret rfl rfl rfl ⟨rfl, rfl⟩
      replace h := (if_neg hs10).symm.trans h
      by_cases hs11 : a1 = nI 11
      · replace h := (if_pos hs11).symm.trans h
        refine px_tsK (len := 90) (off := 131) (tgt := 153) 11 rfl hs11 (by decide) (by decide) (by decide) rfl (by decide) ?_
        refine px_ld rfl rfl rfl rfl rfl ?_
        obtain ⟨t22, h0, h⟩ := xs_some h
        obtain ⟨fs, e1, e2⟩ := xgI_some h0
        refine px_get rfl e1 e2 rfl ?_
        refine px_alu rfl rfl rfl ?_
        cases h
        exact px_lret rfl rfl rfl ⟨rfl, rfl⟩
      replace h := (if_neg hs11).symm.trans h
      by_cases hs12 : a1 = nI 12
      · replace h := (if_pos hs12).symm.trans h
        refine px_tsK (len := 90) (off := 164) (tgt := 186) 12 rfl hs12 (by decide) (by decide) (by decide) rfl (by decide) ?_
        refine px_ld rfl rfl rfl rfl rfl ?_
        refine px_ld rfl rfl rfl rfl rfl ?_
        obtain ⟨fs, h0, h⟩ := xs_some h
        have e1 := xo_some h0
        obtain ⟨t23, ph24, h0, h⟩ := xb_some h
        refine px_cV1 rfl rfl e1 rfl rfl rfl rfl rfl rfl rfl (r_H_lookAtLink h0 :) (fun _ _ q => nomatch q.2) (fun r ph' q => ?_)
        obtain ⟨rfl, q⟩ := q
        cases q
        cases h
        exact px_lret rfl rfl rfl ⟨rfl, rfl⟩
      replace h := (if_neg hs12).symm.trans h
      by_cases hs13 : a1 = nI 13
      · replace h := (if_pos hs13).symm.trans h
        refine px_tsK (len := 90) (off := 164) (tgt := 186) 13 rfl hs13 (by decide) (by decide) (by decide) rfl (by decide) ?_
        refine px_ld rfl rfl rfl rfl rfl ?_
        refine px_ld rfl rfl rfl rfl rfl ?_
        obtain ⟨fs, h0, h⟩ := xs_some h
        have e1 := xo_some h0
        obtain ⟨t25, ph26, h0, h⟩ := xb_some h
        refine px_cV1 rfl rfl e1 rfl rfl rfl rfl rfl rfl rfl (r_H_lookAtLink h0 :) (fun _ _ q => nomatch q.2) (fun r ph' q => ?_)
        obtain ⟨rfl, q⟩ := q
        cases q
        cases h
        exact px_lret rfl rfl rfl ⟨rfl, rfl⟩
      replace h := (if_neg hs13).symm.trans h
      by_cases hs14 : a1 = nI 14
      · replace h := (if_pos hs14).symm.trans h
        refine px_tsK (len := 90) (off := 164) (tgt := 186) 14 rfl hs14 (by decide) (by decide) (by decide) rfl (by decide) ?_
        refine px_ld rfl rfl rfl rfl rfl ?_
        refine px_ld rfl rfl rfl rfl rfl ?_
        obtain ⟨fs, h0, h⟩ := xs_some h
        have e1 := xo_some h0
        obtain ⟨t27, ph28, h0, h⟩ := xb_some h
        refine px_cV1 rfl rfl e1 rfl rfl rfl rfl rfl rfl rfl (r_H_lookAtLink h0 :) (fun _ _ q => nomatch q.2) (fun r ph' q => ?_)
        obtain ⟨rfl, q⟩ := q
        cases q
        cases h
        exact px_lret rfl rfl rfl ⟨rfl, rfl⟩
      replace h := (if_neg hs14).symm.trans h
      by_cases hs15 : a1 = nI 15
      · replace h := (if_pos hs15).symm.trans h
        refine px_tsK (len := 90) (off := 164) (tgt := 186) 15 rfl hs15 (by decide) (by decide) (by decide) rfl (by decide) ?_
        refine px_ld rfl rfl rfl rfl rfl ?_
        refine px_ld rfl rfl rfl rfl rfl ?_
        obtain ⟨fs, h0, h⟩ := xs_some h
        have e1 := xo_some h0
        obtain ⟨t29, ph30, h0, h⟩ := xb_some h
        refine px_cV1 rfl rfl e1 rfl rfl rfl rfl rfl rfl rfl (r_H_lookAtLink h0 :) (fun _ _ q => nomatch q.2) (fun r ph' q => ?_)
        obtain ⟨rfl, q⟩ := q
        cases q
        cases h
        exact px_lret rfl rfl rfl ⟨rfl, rfl⟩
      replace h := (if_neg hs15).symm.trans h
      by_cases hs16 : a1 = nI 16
      · replace h := (if_pos hs16).symm.trans h
        refine px_tsK (len := 90) (off := 137) (tgt := 159) 16 rfl hs16 (by decide) (by decide) (by decide) rfl (by decide) ?_
        refine px_ld rfl rfl rfl rfl rfl ?_
        obtain ⟨t31, h0, h⟩ := xs_some h
        obtain ⟨fs, e1, e2⟩ := xgR_some h0
        refine px_get rfl e1 e2 rfl ?_
        obtain ⟨t32, h0, h⟩ := xs_some h
        obtain ⟨fs, e1, e2⟩ := xgI_some h0
        refine px_get rfl e1 e2 rfl ?_
        refine px_alu rfl rfl rfl ?_
        cases h
        exact px_lret rfl rfl rfl ⟨rfl, rfl⟩
      replace h := (if_neg hs16).symm.trans h
      by_cases hs17 : a1 = nI 17
      · replace h := (if_pos hs17).symm.trans h
        refine px_tsK (len := 90) (off := 146) (tgt := 168) 17 rfl hs17 (by decide) (by decide) (by decide) rfl (by decide) ?_
        refine px_ld rfl rfl rfl rfl rfl ?_
        obtain ⟨t33, h0, h⟩ := xs_some h
        obtain ⟨fs, e1, e2⟩ := xgR_some h0
        refine px_get rfl e1 e2 rfl ?_
        obtain ⟨t34, h0, h⟩ := xs_some h
        obtain ⟨fs, e1, e2⟩ := xgI_some h0
        refine px_get rfl e1 e2 rfl ?_
        refine px_alu rfl rfl rfl ?_
        cases h
        exact px_lret rfl rfl rfl ⟨rfl, rfl⟩
      replace h := (if_neg hs17).symm.trans h
      by_cases hs18 : a1 = nI 18
      · replace h := (if_pos hs18).symm.trans h
        refine px_tsK (len := 90) (off := 155) (tgt := 177) 18 rfl hs18 (by decide) (by decide) (by decide) rfl (by decide) ?_
        refine px_ld rfl rfl rfl rfl rfl ?_
        obtain ⟨t35, h0, h⟩ := xs_some h
        obtain ⟨fs, e1, e2⟩ := xgR_some h0
        refine px_get rfl e1 e2 rfl ?_
        obtain ⟨t36, h0, h⟩ := xs_some h
        obtain ⟨fs, e1, e2⟩ := xgI_some h0
        refine px_get rfl e1 e2 rfl ?_
        refine px_alu rfl rfl rfl ?_
        cases h
        exact px_lret rfl rfl rfl ⟨rfl, rfl⟩
      replace h := (if_neg hs18).symm.trans h
      refine px_tsD (len := 90) (lo := 0) (n := 19) (tgt := 186) rfl (lt_s (lt_s (lt_s (lt_s (lt_s (lt_s (lt_s (lt_s (lt_s (lt_s (lt_s (lt_s (lt_s (lt_s (lt_s (lt_s (lt_s (lt_s (lt_s lt_0 hs0) hs1) hs2) hs3) hs4) hs5) hs6) hs7) hs8) hs9) hs10) hs11) hs12) hs13) hs14) hs15) hs16) hs17) hs18) (by decide) (by decide) ?_
      refine px_ld rfl rfl rfl rfl rfl ?_
      refine px_ld rfl rfl rfl rfl rfl ?_
      obtain ⟨fs, h0, h⟩ := xs_some h
      have e1 := xo_some h0
      obtain ⟨t37, ph38, h0, h⟩ := xb_some h
      refine px_cV1 rfl rfl e1 rfl rfl rfl rfl rfl rfl rfl (r_H_lookAtLink h0 :) (fun _ _ q => nomatch q.2) (fun r ph' q => ?_)
      obtain ⟨rfl, q⟩ := q
      cases q
      cases h
      exact px_lret rfl rfl rfl ⟨rfl, rfl⟩
    · replace h := (if_neg hc).symm.trans h
      refine px_forget (n := 0) (lv' := [_, _]) rfl ?_
      refine px_forget (n := 1) (lv' := [_, _]) rfl ?_
      exact (r_H_look_10 h :)
