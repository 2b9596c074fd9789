/-! methods as functions: LinkHouseModel -/
def f_M_flags_27 (F : Nat) (s0 : Int64) (ph : px_H) : Option (Int64 × px_H) :=
  some (s0, ph)
theorem r_M_flags_27 {l : Launch} {g : px_G} {d F : Nat} {s0 : Int64} {ph : px_H} {r : Int64} {ph' : px_H} (h : f_M_flags_27 F s0 ph = some (r, ph')) : PW l g (d + 1) m_M_flags 27 [px_u, px_u, px_u, px_u] [.long s0] ph (px_qJ r ph') := by
  unfold f_M_flags_27 at h
  cases h
  exact px_lret rfl rfl rfl ⟨rfl, rfl⟩
def f_M_flags (F : Nat) (a0 : Nat) (a1 : Int64) (ph : px_H) : Option (Int64 × px_H) :=
  (xpI ph 12 0 a0 (nI 0)).bind fun ph1 =>
  (xo ph1 12 a0).bind fun _ =>
  xb (f_M_rowOf F a0 a1 ph1) fun t2 ph3 =>
  if 0 ≤ t2 then
    (xgR ph3 12 105 a0).bind fun t4 =>
    (xaJ ph3 2 t4 t2).bind fun t5 =>
    f_M_flags_27 F t5 ph3
  else
    f_M_flags_27 F ((-1 : Int64)) ph3
theorem r_M_flags {l : Launch} {g : px_G} {d F : Nat} {a0 : Nat} {a1 : Int64} {ph : px_H} {r : Int64} {ph' : px_H} (h : f_M_flags F a0 a1 ph = some (r, ph')) : PW l g (d + 1) m_M_flags 0 [.ref a0, .long a1, px_u, px_u] [] ph (px_qJ r ph') := by
  unfold f_M_flags at h
  refine px_ld rfl rfl rfl rfl rfl ?_
  refine px_ic (k := 0) rfl rfl rfl ?_
  obtain ⟨ph1, h0, h⟩ := xs_some h
  obtain ⟨fs, e1, e2, e3⟩ := xpI_some h0
  subst e3
  refine px_put rfl e1 e2 trivial rfl ?_
  refine px_ld rfl rfl rfl rfl rfl ?_
  refine px_ld rfl rfl rfl rfl rfl ?_
  obtain ⟨fs, h0, h⟩ := xs_some h
  have e1 := xo_some h0
  obtain ⟨t2, ph3, h0, h⟩ := xb_some h
  refine px_cV1 rfl rfl e1 rfl rfl rfl rfl rfl rfl rfl (r_M_rowOf h0 :) (fun _ _ q => nomatch q.2) (fun r ph' q => ?_)
  obtain ⟨rfl, q⟩ := q
  cases q
  refine px_st (lv' := [_, _, _, _]) rfl rfl rfl rfl rfl rfl rfl ?_
  refine px_ld rfl rfl rfl rfl rfl ?_
  refine px_ifge rfl rfl rfl (fun hc => ?_) (fun hc => ?_)
  · replace h := (if_pos hc).symm.trans h
    refine px_ld rfl rfl rfl rfl rfl ?_
    obtain ⟨t4, h0, h⟩ := xs_some h
    obtain ⟨fs, e1, e2⟩ := xgR_some h0
    refine px_get rfl e1 e2 rfl ?_
    refine px_ld rfl rfl rfl rfl rfl ?_
    obtain ⟨t5, h0, h⟩ := xs_some h
    obtain ⟨N, f, e1, e2, e3⟩ := xaJ_some h0
    subst e3
    refine px_lald rfl e1 rfl e2 rfl ?_
    refine px_forget (n := 0) (lv' := [_, _, _, _]) rfl ?_
    refine px_forget (n := 1) (lv' := [_, _, _, _]) rfl ?_
    refine px_forget (n := 3) (lv' := [_, _, _, _]) rfl ?_
    exact (r_M_flags_27 h :)
  · replace h := (if_neg hc).symm.trans h
    refine px_ldc2 rfl rfl rfl ?_
    refine px_goto rfl rfl rfl ?_
    refine px_forget (n := 0) (lv' := [_, _, _, _]) rfl ?_
    refine px_forget (n := 1) (lv' := [_, _, _, _]) rfl ?_
    refine px_forget (n := 3) (lv' := [_, _, _, _]) rfl ?_
    exact (r_M_flags_27 h :)
def f_M_address_57 (F : Nat) (s0 : Int64) (ph : px_H) : Option (Int64 × px_H) :=
  some (s0, ph)
theorem r_M_address_57 {l : Launch} {g : px_G} {d F : Nat} {s0 : Int64} {ph : px_H} {r : Int64} {ph' : px_H} (h : f_M_address_57 F s0 ph = some (r, ph')) : PW l g (d + 1) m_M_address 57 [px_u, px_u] [.long s0] ph (px_qJ r ph') := by
  unfold f_M_address_57 at h
  cases h
  exact px_lret rfl rfl rfl ⟨rfl, rfl⟩
def f_M_address_13 (F : Nat) (a0 : Nat) (s0 : Nat) (s1 : Int32) (ph : px_H) : Option (Int64 × px_H) :=
  (xo ph 12 s0).bind fun _ =>
  xb (f_M_throwing F s0 s1 (nI 0) ph) fun t1 ph2 =>
  if t1 = 0 then
    (xgR ph2 12 1 a0).bind fun t3 =>
    (xgI ph2 12 2 a0).bind fun t4 =>
    (xo ph2 12 a0).bind fun _ =>
    xb (f_M_find F a0 t3 (nI 0) t4 ph2) fun t5 ph6 =>
    (xpI ph6 12 2 a0 (nI 0)).bind fun ph7 =>
    if 0 ≤ t5 then
      (xgR ph7 12 29 a0).bind fun t8 =>
      (xaJ ph7 2 t8 t5).bind fun t9 =>
      f_M_address_57 F t9 ph7
    else
      f_M_address_57 F ((-1 : Int64)) ph7
  else
    some (lN 0, ph2)
theorem r_M_address_13 {l : Launch} {g : px_G} {d F : Nat} {a0 : Nat} {s0 : Nat} {s1 : Int32} {ph : px_H} {r : Int64} {ph' : px_H} (h : f_M_address_13 F a0 s0 s1 ph = some (r, ph')) : PW l g (d + 1) m_M_address 13 [.ref a0, px_u] [.int s1, .ref s0] ph (px_qJ r ph') := by
  unfold f_M_address_13 at h
  refine px_ic (k := 0) rfl rfl rfl ?_
  obtain ⟨fs, h0, h⟩ := xs_some h
  have e1 := xo_some h0
  obtain ⟨t1, ph2, h0, h⟩ := xb_some h
  refine px_cV2 rfl rfl e1 rfl rfl rfl rfl rfl rfl rfl (r_M_throwing h0 :) (fun _ _ q => nomatch q.2) (fun r ph' q => ?_)
  obtain ⟨rfl, q⟩ := q
  cases q
  refine px_ifeq rfl rfl rfl (fun hc => ?_) (fun hc => ?_)
  · replace h := (if_pos hc).symm.trans h
    refine px_ld rfl rfl rfl rfl rfl ?_
    refine px_ld rfl rfl rfl rfl rfl ?_
    obtain ⟨t3, h0, h⟩ := xs_some h
    obtain ⟨fs, e1, e2⟩ := xgR_some h0
    refine px_get rfl e1 e2 rfl ?_
    refine px_ic (k := 0) rfl rfl rfl ?_
    refine px_ld rfl rfl rfl rfl rfl ?_
    obtain ⟨t4, h0, h⟩ := xs_some h
    obtain ⟨fs, e1, e2⟩ := xgI_some h0
    refine px_get rfl e1 e2 rfl ?_
    obtain ⟨fs, h0, h⟩ := xs_some h
    have e1 := xo_some h0
    obtain ⟨t5, ph6, h0, h⟩ := xb_some h
    refine px_cV3 rfl rfl e1 rfl rfl rfl rfl rfl rfl rfl (r_M_find h0 :) (fun _ _ q => nomatch q.2) (fun r ph' q => ?_)
    obtain ⟨rfl, q⟩ := q
    cases q
    refine px_st (lv' := [_, _]) rfl rfl rfl rfl rfl rfl rfl ?_
    refine px_ld rfl rfl rfl rfl rfl ?_
    refine px_ic (k := 0) rfl rfl rfl ?_
    obtain ⟨ph7, h0, h⟩ := xs_some h
    obtain ⟨fs, e1, e2, e3⟩ := xpI_some h0
    subst e3
    refine px_put rfl e1 e2 trivial rfl ?_
    refine px_ld rfl rfl rfl rfl rfl ?_
    refine px_ifge rfl rfl rfl (fun hc => ?_) (fun hc => ?_)
    · replace h := (if_pos hc).symm.trans h
      refine px_ld rfl rfl rfl rfl rfl ?_
      obtain ⟨t8, h0, h⟩ := xs_some h
      obtain ⟨fs, e1, e2⟩ := xgR_some h0
      refine px_get rfl e1 e2 rfl ?_
      refine px_ld rfl rfl rfl rfl rfl ?_
      obtain ⟨t9, h0, h⟩ := xs_some h
      obtain ⟨N, f, e1, e2, e3⟩ := xaJ_some h0
      subst e3
      refine px_lald rfl e1 rfl e2 rfl ?_
      refine px_forget (n := 0) (lv' := [_, _]) rfl ?_
      refine px_forget (n := 1) (lv' := [_, _]) rfl ?_
      exact (r_M_address_57 h :)
    · replace h := (if_neg hc).symm.trans h
      refine px_ldc2 rfl rfl rfl ?_
      refine px_goto rfl rfl rfl ?_
      refine px_forget (n := 0) (lv' := [_, _]) rfl ?_
      refine px_forget (n := 1) (lv' := [_, _]) rfl ?_
      exact (r_M_address_57 h :)
  · replace h := (if_neg hc).symm.trans h
    refine px_alu rfl rfl rfl ?_
    cases h
    exact px_lret rfl rfl rfl ⟨rfl, rfl⟩
def f_M_address (F : Nat) (a0 : Nat) (ph : px_H) : Option (Int64 × px_H) :=
  (xgI ph 12 13 a0).bind fun t1 =>
  if t1 = 0 then
    f_M_address_13 F a0 a0 (nI 0) ph
  else
    f_M_address_13 F a0 a0 (nI 1) ph
theorem r_M_address {l : Launch} {g : px_G} {d F : Nat} {a0 : Nat} {ph : px_H} {r : Int64} {ph' : px_H} (h : f_M_address F a0 ph = some (r, ph')) : PW l g (d + 1) m_M_address 0 [.ref a0, px_u] [] ph (px_qJ r ph') := by
  unfold f_M_address at h
  refine px_ld rfl rfl rfl rfl rfl ?_
  refine px_ld rfl rfl rfl rfl rfl ?_
  obtain ⟨t1, h0, h⟩ := xs_some h
  obtain ⟨fs, e1, e2⟩ := xgI_some h0
  refine px_get rfl e1 e2 rfl ?_
  refine px_ifeq rfl rfl rfl (fun hc => ?_) (fun hc => ?_)
  · replace h := (if_pos hc).symm.trans h
    refine px_ic (k := 0) rfl rfl rfl ?_
    exact (r_M_address_13 h :)
  · replace h := (if_neg hc).symm.trans h
    refine px_ic (k := 1) rfl rfl rfl ?_
    refine px_goto rfl rfl rfl ?_
    exact (r_M_address_13 h :)
def f_M_taken_69 (F : Nat) (s0 : Int32) (ph : px_H) : Option (Int32 × px_H) :=
  xz s0 ph
theorem r_M_taken_69 {l : Launch} {g : px_G} {d F : Nat} {s0 : Int32} {ph : px_H} {r : Int32} {ph' : px_H} (h : f_M_taken_69 F s0 ph = some (r, ph')) : PW l g (d + 1) m_M_taken 69 [px_u, px_u, px_u] [.int s0] ph (px_qI r ph') := by
  unfold f_M_taken_69 at h
  obtain ⟨e0, e1, e2⟩ := xz_some h
  subst e1 e2
  exact px_iret rfl (Or.inr ⟨rfl, e0⟩) rfl ⟨rfl, rfl⟩
def f_M_taken_68 (F : Nat) (ph : px_H) : Option (Int32 × px_H) :=
  f_M_taken_69 F (nI 0) ph
theorem r_M_taken_68 {l : Launch} {g : px_G} {d F : Nat} {ph : px_H} {r : Int32} {ph' : px_H} (h : f_M_taken_68 F ph = some (r, ph')) : PW l g (d + 1) m_M_taken 68 [px_u, px_u, px_u] [] ph (px_qI r ph') := by
  unfold f_M_taken_68 at h
  refine px_ic (k := 0) rfl rfl rfl ?_
  exact (r_M_taken_69 h :)
def f_M_taken_32 (F : Nat) (a0 : Nat) (a1 : Int32) (a2 : Int32) (s0 : Nat) (s1 : Int32) (ph : px_H) : Option (Int32 × px_H) :=
  (xo ph 12 s0).bind fun _ =>
  xb (f_M_throwing F s0 s1 (nI 0) ph) fun t1 ph2 =>
  if t1 = 0 then
    (xgR ph2 12 19 a0).bind fun t3 =>
    (xaI ph2 3 t3 a1).bind fun t4 =>
    if t4 = 0 then
      f_M_taken_68 F ph2
    else
      (xgR ph2 12 18 a0).bind fun t5 =>
      (xaI ph2 3 t5 (((nI 8) * a1) + a2)).bind fun t6 =>
      if t6 = 0 then
        f_M_taken_68 F ph2
      else
        f_M_taken_69 F (nI 1) ph2
  else
    some (nI 0, ph2)
theorem r_M_taken_32 {l : Launch} {g : px_G} {d F : Nat} {a0 : Nat} {a1 : Int32} {a2 : Int32} {s0 : Nat} {s1 : Int32} {ph : px_H} {r : Int32} {ph' : px_H} (h : f_M_taken_32 F a0 a1 a2 s0 s1 ph = some (r, ph')) : PW l g (d + 1) m_M_taken 32 [.ref a0, .int a1, .int a2] [.int s1, .ref s0] ph (px_qI r ph') := by
  unfold f_M_taken_32 at h
  refine px_ic (k := 0) rfl rfl rfl ?_
  obtain ⟨fs, h0, h⟩ := xs_some h
  have e1 := xo_some h0
  obtain ⟨t1, ph2, h0, h⟩ := xb_some h
  refine px_cV2 rfl rfl e1 rfl rfl rfl rfl rfl rfl rfl (r_M_throwing h0 :) (fun _ _ q => nomatch q.2) (fun r ph' q => ?_)
  obtain ⟨rfl, q⟩ := q
  cases q
  refine px_ifeq rfl rfl rfl (fun hc => ?_) (fun hc => ?_)
  · replace h := (if_pos hc).symm.trans h
    refine px_ld rfl rfl rfl rfl rfl ?_
    obtain ⟨t3, h0, h⟩ := xs_some h
    obtain ⟨fs, e1, e2⟩ := xgR_some h0
    refine px_get rfl e1 e2 rfl ?_
    refine px_ld rfl rfl rfl rfl rfl ?_
    obtain ⟨t4, h0, h⟩ := xs_some h
    obtain ⟨N, f, e1, e2, e3⟩ := xaI_some h0
    subst e3
    refine px_zald rfl e1 rfl e2 rfl ?_
    refine px_ifeq rfl rfl rfl (fun hc => ?_) (fun hc => ?_)
    · replace h := (if_pos hc).symm.trans h
      refine px_forget (n := 0) (lv' := [_, _, _]) rfl ?_
      refine px_forget (n := 1) (lv' := [_, _, _]) rfl ?_
      refine px_forget (n := 2) (lv' := [_, _, _]) rfl ?_
      exact (r_M_taken_68 h :)
    · replace h := (if_neg hc).symm.trans h
      refine px_ld rfl rfl rfl rfl rfl ?_
      obtain ⟨t5, h0, h⟩ := xs_some h
      obtain ⟨fs, e1, e2⟩ := xgR_some h0
      refine px_get rfl e1 e2 rfl ?_
      refine px_ic (k := 8) rfl rfl rfl ?_
      refine px_ld rfl rfl rfl rfl rfl ?_
      refine px_alu rfl rfl rfl ?_
      refine px_ld rfl rfl rfl rfl rfl ?_
      refine px_alu rfl rfl rfl ?_
      obtain ⟨t6, h0, h⟩ := xs_some h
      obtain ⟨N, f, e1, e2, e3⟩ := xaI_some h0
      subst e3
      refine px_zald rfl e1 rfl e2 rfl ?_
      refine px_ifeq rfl rfl rfl (fun hc => ?_) (fun hc => ?_)
      · replace h := (if_pos hc).symm.trans h
        refine px_forget (n := 0) (lv' := [_, _, _]) rfl ?_
        refine px_forget (n := 1) (lv' := [_, _, _]) rfl ?_
        refine px_forget (n := 2) (lv' := [_, _, _]) rfl ?_
        exact (r_M_taken_68 h :)
      · replace h := (if_neg hc).symm.trans h
        refine px_ic (k := 1) rfl rfl rfl ?_
        refine px_goto rfl rfl rfl ?_
        refine px_forget (n := 0) (lv' := [_, _, _]) rfl ?_
        refine px_forget (n := 1) (lv' := [_, _, _]) rfl ?_
        refine px_forget (n := 2) (lv' := [_, _, _]) rfl ?_
        exact (r_M_taken_69 h :)
  · replace h := (if_neg hc).symm.trans h
    refine px_ic (k := 0) rfl rfl rfl ?_
    cases h
    exact px_iret rfl (Or.inr ⟨rfl, Or.inl rfl⟩) rfl ⟨rfl, rfl⟩
def f_M_taken_27 (F : Nat) (a0 : Nat) (a1 : Int32) (a2 : Int32) (s0 : Nat) (ph : px_H) : Option (Int32 × px_H) :=
  f_M_taken_32 F a0 a1 a2 s0 (nI 1) ph
theorem r_M_taken_27 {l : Launch} {g : px_G} {d F : Nat} {a0 : Nat} {a1 : Int32} {a2 : Int32} {s0 : Nat} {ph : px_H} {r : Int32} {ph' : px_H} (h : f_M_taken_27 F a0 a1 a2 s0 ph = some (r, ph')) : PW l g (d + 1) m_M_taken 27 [.ref a0, .int a1, .int a2] [.ref s0] ph (px_qI r ph') := by
  unfold f_M_taken_27 at h
  refine px_ic (k := 1) rfl rfl rfl ?_
  refine px_goto rfl rfl rfl ?_
  exact (r_M_taken_32 h :)
def f_M_taken (F : Nat) (a0 : Nat) (a1 : Int32) (a2 : Int32) (ph : px_H) : Option (Int32 × px_H) :=
  if a1 < 0 then
    f_M_taken_27 F a0 a1 a2 a0 ph
  else
    (xgI ph 12 5 a0).bind fun t1 =>
    if t1 ≤ a1 then
      f_M_taken_27 F a0 a1 a2 a0 ph
    else
      if a2 < 0 then
        f_M_taken_27 F a0 a1 a2 a0 ph
      else
        (xgR ph 12 8 a0).bind fun t2 =>
        (xaI ph 1 t2 a1).bind fun t3 =>
        if a2 < t3 then
          f_M_taken_32 F a0 a1 a2 a0 (nI 0) ph
        else
          f_M_taken_27 F a0 a1 a2 a0 ph
theorem r_M_taken {l : Launch} {g : px_G} {d F : Nat} {a0 : Nat} {a1 : Int32} {a2 : Int32} {ph : px_H} {r : Int32} {ph' : px_H} (h : f_M_taken F a0 a1 a2 ph = some (r, ph')) : PW l g (d + 1) m_M_taken 0 [.ref a0, .int a1, .int a2] [] ph (px_qI r ph') := by
  unfold f_M_taken at h
  refine px_ld rfl rfl rfl rfl rfl ?_
  refine px_ld rfl rfl rfl rfl rfl ?_
  refine px_iflt rfl rfl rfl (fun hc => ?_) (fun hc => ?_)
  · replace h := (if_pos hc).symm.trans h
    exact (r_M_taken_27 h :)
  · replace h := (if_neg hc).symm.trans h
    refine px_ld rfl rfl rfl rfl rfl ?_
    refine px_ld rfl rfl rfl rfl rfl ?_
    obtain ⟨t1, h0, h⟩ := xs_some h
    obtain ⟨fs, e1, e2⟩ := xgI_some h0
    refine px_get rfl e1 e2 rfl ?_
    refine px_icge rfl rfl rfl (fun hc => ?_) (fun hc => ?_)
    · replace h := (if_pos hc).symm.trans h
      exact (r_M_taken_27 h :)
    · replace h := (if_neg hc).symm.trans h
      refine px_ld rfl rfl rfl rfl rfl ?_
      refine px_iflt rfl rfl rfl (fun hc => ?_) (fun hc => ?_)
      · replace h := (if_pos hc).symm.trans h
        exact (r_M_taken_27 h :)
      · replace h := (if_neg hc).symm.trans h
        refine px_ld rfl rfl rfl rfl rfl ?_
        refine px_ld rfl rfl rfl rfl rfl ?_
        obtain ⟨t2, h0, h⟩ := xs_some h
        obtain ⟨fs, e1, e2⟩ := xgR_some h0
        refine px_get rfl e1 e2 rfl ?_
        refine px_ld rfl rfl rfl rfl rfl ?_
        obtain ⟨t3, h0, h⟩ := xs_some h
        obtain ⟨N, f, e1, e2, e3⟩ := xaI_some h0
        subst e3
        refine px_iald rfl e1 rfl e2 rfl ?_
        refine px_iclt rfl rfl rfl (fun hc => ?_) (fun hc => ?_)
        · replace h := (if_pos hc).symm.trans h
          refine px_ic (k := 0) rfl rfl rfl ?_
          exact (r_M_taken_32 h :)
        · replace h := (if_neg hc).symm.trans h
          exact (r_M_taken_27 h :)
def f_M_section_108 (F : Nat) (s0 : Int32) (ph : px_H) : Option (Int32 × px_H) :=
  some (s0, ph)
theorem r_M_section_108 {l : Launch} {g : px_G} {d F : Nat} {s0 : Int32} {ph : px_H} {r : Int32} {ph' : px_H} (h : f_M_section_108 F s0 ph = some (r, ph')) : PW l g (d + 1) m_M_section 108 [px_u, px_u, px_u] [.int s0] ph (px_qI r ph') := by
  unfold f_M_section_108 at h
  cases h
  exact px_iret rfl (Or.inl rfl) rfl ⟨rfl, rfl⟩
def f_M_section_39 (F : Nat) (a0 : Nat) (a1 : Int32) (a2 : Int32) (s0 : Nat) (s1 : Int32) (s2 : Int32) (ph : px_H) : Option (Int32 × px_H) :=
  (xo ph 12 s0).bind fun _ =>
  xb (f_M_throwing F s0 s1 s2 ph) fun t1 ph2 =>
  if t1 = 0 then
    if a2 = 0 then
      (xgR ph2 12 52 a0).bind fun t11 =>
      (xaI ph2 1 t11 a1).bind fun t12 =>
      f_M_section_108 F t12 ph2
    else
      if a2 = (nI 1) then
        (xgR ph2 12 53 a0).bind fun t9 =>
        (xaI ph2 1 t9 a1).bind fun t10 =>
        f_M_section_108 F t10 ph2
      else
        if a2 = (nI 2) then
          (xgR ph2 12 54 a0).bind fun t7 =>
          (xaI ph2 1 t7 a1).bind fun t8 =>
          f_M_section_108 F t8 ph2
        else
          if a2 = (nI 3) then
            (xgR ph2 12 55 a0).bind fun t5 =>
            (xaI ph2 1 t5 a1).bind fun t6 =>
            f_M_section_108 F t6 ph2
          else
            (xgR ph2 12 56 a0).bind fun t3 =>
            (xaI ph2 1 t3 a1).bind fun t4 =>
            f_M_section_108 F t4 ph2
  else
    some (nI 0, ph2)
theorem r_M_section_39 {l : Launch} {g : px_G} {d F : Nat} {a0 : Nat} {a1 : Int32} {a2 : Int32} {s0 : Nat} {s1 : Int32} {s2 : Int32} {ph : px_H} {r : Int32} {ph' : px_H} (h : f_M_section_39 F a0 a1 a2 s0 s1 s2 ph = some (r, ph')) : PW l g (d + 1) m_M_section 39 [.ref a0, .int a1, .int a2] [.int s2, .int s1, .ref s0] ph (px_qI r ph') := by
  unfold f_M_section_39 at h
  obtain ⟨fs, h0, h⟩ := xs_some h
  have e1 := xo_some h0
  obtain ⟨t1, ph2, h0, h⟩ := xb_some h
  refine px_cV2 rfl rfl e1 rfl rfl rfl rfl rfl rfl rfl (r_M_throwing h0 :) (fun _ _ q => nomatch q.2) (fun r ph' q => ?_)
  obtain ⟨rfl, q⟩ := q
  cases q
  refine px_ifeq rfl (by decide) rfl (fun hc => ?_) (fun hc => ?_)
  · replace h := (if_pos hc).symm.trans h
    refine px_ld rfl rfl rfl rfl rfl ?_
    refine px_ifne rfl (by decide) rfl (fun hc => ?_) (fun hc => ?_)
    · replace h := (if_neg hc).symm.trans h
      refine px_ld rfl rfl rfl rfl rfl ?_
      refine px_ic (k := 1) rfl rfl rfl ?_
      refine px_icne rfl (by decide) rfl (fun hc => ?_) (fun hc => ?_)
      · replace h := (if_neg hc).symm.trans h
        refine px_ld rfl rfl rfl rfl rfl ?_
        refine px_ic (k := 2) rfl rfl rfl ?_
        refine px_icne rfl (by decide) rfl (fun hc => ?_) (fun hc => ?_)
        · replace h := (if_neg hc).symm.trans h
          refine px_ld rfl rfl rfl rfl rfl ?_
          refine px_ic (k := 3) rfl rfl rfl ?_
          refine px_icne rfl (by decide) rfl (fun hc => ?_) (fun hc => ?_)
          · replace h := (if_neg hc).symm.trans h
            refine px_ld rfl rfl rfl rfl rfl ?_
            obtain ⟨t3, h0, h⟩ := xs_some h
            obtain ⟨fs, e1, e2⟩ := xgR_some h0
            refine px_get rfl e1 e2 rfl ?_
            refine px_ld rfl rfl rfl rfl rfl ?_
            obtain ⟨t4, h0, h⟩ := xs_some h
            obtain ⟨N, f, e1, e2, e3⟩ := xaI_some h0
            subst e3
            refine px_iald rfl e1 rfl e2 rfl ?_
            refine px_forget (n := 0) (lv' := [_, _, _]) rfl ?_
            refine px_forget (n := 1) (lv' := [_, _, _]) rfl ?_
            refine px_forget (n := 2) (lv' := [_, _, _]) rfl ?_
            exact (r_M_section_108 h :)
          · replace h := (if_pos hc).symm.trans h
            refine px_ld rfl rfl rfl rfl rfl ?_
            obtain ⟨t5, h0, h⟩ := xs_some h
            obtain ⟨fs, e1, e2⟩ := xgR_some h0
            refine px_get rfl e1 e2 rfl ?_
            refine px_ld rfl rfl rfl rfl rfl ?_
            obtain ⟨t6, h0, h⟩ := xs_some h
            obtain ⟨N, f, e1, e2, e3⟩ := xaI_some h0
            subst e3
            refine px_iald rfl e1 rfl e2 rfl ?_
            refine px_goto rfl (by decide) rfl ?_
            refine px_forget (n := 0) (lv' := [_, _, _]) rfl ?_
            refine px_forget (n := 1) (lv' := [_, _, _]) rfl ?_
            refine px_forget (n := 2) (lv' := [_, _, _]) rfl ?_
            exact (r_M_section_108 h :)
        · replace h := (if_pos hc).symm.trans h
          refine px_ld rfl rfl rfl rfl rfl ?_
          obtain ⟨t7, h0, h⟩ := xs_some h
          obtain ⟨fs, e1, e2⟩ := xgR_some h0
          refine px_get rfl e1 e2 rfl ?_
          refine px_ld rfl rfl rfl rfl rfl ?_
          obtain ⟨t8, h0, h⟩ := xs_some h
          obtain ⟨N, f, e1, e2, e3⟩ := xaI_some h0
          subst e3
          refine px_iald rfl e1 rfl e2 rfl ?_
          refine px_goto rfl (by decide) rfl ?_
          refine px_forget (n := 0) (lv' := [_, _, _]) rfl ?_
          refine px_forget (n := 1) (lv' := [_, _, _]) rfl ?_
          refine px_forget (n := 2) (lv' := [_, _, _]) rfl ?_
          exact (r_M_section_108 h :)
      · replace h := (if_pos hc).symm.trans h
        refine px_ld rfl rfl rfl rfl rfl ?_
        obtain ⟨t9, h0, h⟩ := xs_some h
        obtain ⟨fs, e1, e2⟩ := xgR_some h0
        refine px_get rfl e1 e2 rfl ?_
        refine px_ld rfl rfl rfl rfl rfl ?_
        obtain ⟨t10, h0, h⟩ := xs_some h
        obtain ⟨N, f, e1, e2, e3⟩ := xaI_some h0
        subst e3
        refine px_iald rfl e1 rfl e2 rfl ?_
        refine px_goto rfl (by decide) rfl ?_
        refine px_forget (n := 0) (lv' := [_, _, _]) rfl ?_
        refine px_forget (n := 1) (lv' := [_, _, _]) rfl ?_
        refine px_forget (n := 2) (lv' := [_, _, _]) rfl ?_
        exact (r_M_section_108 h :)
    · replace h := (if_pos hc).symm.trans h
      refine px_ld rfl rfl rfl rfl rfl ?_
      obtain ⟨t11, h0, h⟩ := xs_some h
      obtain ⟨fs, e1, e2⟩ := xgR_some h0
      refine px_get rfl e1 e2 rfl ?_
      refine px_ld rfl rfl rfl rfl rfl ?_
      obtain ⟨t12, h0, h⟩ := xs_some h
      obtain ⟨N, f, e1, e2, e3⟩ := xaI_some h0
      subst e3
      refine px_iald rfl e1 rfl e2 rfl ?_
      refine px_goto rfl (by decide) rfl ?_
      refine px_forget (n := 0) (lv' := [_, _, _]) rfl ?_
      refine px_forget (n := 1) (lv' := [_, _, _]) rfl ?_
      refine px_forget (n := 2) (lv' := [_, _, _]) rfl ?_
      exact (r_M_section_108 h :)
  · replace h := (if_neg hc).symm.trans h
    refine px_ic (k := 0) rfl rfl rfl ?_
    cases h
    exact px_iret rfl (Or.inl rfl) rfl ⟨rfl, rfl⟩
def f_M_section_34 (F : Nat) (a0 : Nat) (a1 : Int32) (a2 : Int32) (s0 : Nat) (s1 : Int32) (ph : px_H) : Option (Int32 × px_H) :=
  f_M_section_39 F a0 a1 a2 s0 s1 (nI 1) ph
theorem r_M_section_34 {l : Launch} {g : px_G} {d F : Nat} {a0 : Nat} {a1 : Int32} {a2 : Int32} {s0 : Nat} {s1 : Int32} {ph : px_H} {r : Int32} {ph' : px_H} (h : f_M_section_34 F a0 a1 a2 s0 s1 ph = some (r, ph')) : PW l g (d + 1) m_M_section 34 [.ref a0, .int a1, .int a2] [.int s1, .ref s0] ph (px_qI r ph') := by
  unfold f_M_section_34 at h
  refine px_ic (k := 1) rfl rfl rfl ?_
  refine px_goto rfl (by decide) rfl ?_
  exact (r_M_section_39 h :)
def f_M_section_13 (F : Nat) (a0 : Nat) (a1 : Int32) (a2 : Int32) (s0 : Nat) (s1 : Int32) (ph : px_H) : Option (Int32 × px_H) :=
  if a1 < 0 then
    f_M_section_34 F a0 a1 a2 s0 s1 ph
  else
    (xgI ph 12 50 a0).bind fun t1 =>
    if t1 ≤ a1 then
      f_M_section_34 F a0 a1 a2 s0 s1 ph
    else
      if a2 < 0 then
        f_M_section_34 F a0 a1 a2 s0 s1 ph
      else
        if a2 ≤ (nI 4) then
          f_M_section_39 F a0 a1 a2 s0 s1 (nI 0) ph
        else
          f_M_section_34 F a0 a1 a2 s0 s1 ph
theorem r_M_section_13 {l : Launch} {g : px_G} {d F : Nat} {a0 : Nat} {a1 : Int32} {a2 : Int32} {s0 : Nat} {s1 : Int32} {ph : px_H} {r : Int32} {ph' : px_H} (h : f_M_section_13 F a0 a1 a2 s0 s1 ph = some (r, ph')) : PW l g (d + 1) m_M_section 13 [.ref a0, .int a1, .int a2] [.int s1, .ref s0] ph (px_qI r ph') := by
  unfold f_M_section_13 at h
  refine px_ld rfl rfl rfl rfl rfl ?_
  refine px_iflt rfl (by decide) rfl (fun hc => ?_) (fun hc => ?_)
  · replace h := (if_pos hc).symm.trans h
    exact (r_M_section_34 h :)
  · replace h := (if_neg hc).symm.trans h
    refine px_ld rfl rfl rfl rfl rfl ?_
    refine px_ld rfl rfl rfl rfl rfl ?_
    obtain ⟨t1, h0, h⟩ := xs_some h
    obtain ⟨fs, e1, e2⟩ := xgI_some h0
    refine px_get rfl e1 e2 rfl ?_
    refine px_icge rfl (by decide) rfl (fun hc => ?_) (fun hc => ?_)
    · replace h := (if_pos hc).symm.trans h
      exact (r_M_section_34 h :)
    · replace h := (if_neg hc).symm.trans h
      refine px_ld rfl rfl rfl rfl rfl ?_
      refine px_iflt rfl (by decide) rfl (fun hc => ?_) (fun hc => ?_)
      · replace h := (if_pos hc).symm.trans h
        exact (r_M_section_34 h :)
      · replace h := (if_neg hc).symm.trans h
        refine px_ld rfl rfl rfl rfl rfl ?_
        refine px_ic (k := 4) rfl rfl rfl ?_
        refine px_icle rfl (by decide) rfl (fun hc => ?_) (fun hc => ?_)
        · replace h := (if_pos hc).symm.trans h
          refine px_ic (k := 0) rfl rfl rfl ?_
          exact (r_M_section_39 h :)
        · replace h := (if_neg hc).symm.trans h
          exact (r_M_section_34 h :)
def f_M_section (F : Nat) (a0 : Nat) (a1 : Int32) (a2 : Int32) (ph : px_H) : Option (Int32 × px_H) :=
  (xgI ph 12 13 a0).bind fun t1 =>
  if t1 = 0 then
    f_M_section_13 F a0 a1 a2 a0 (nI 0) ph
  else
    f_M_section_13 F a0 a1 a2 a0 (nI 1) ph
theorem r_M_section {l : Launch} {g : px_G} {d F : Nat} {a0 : Nat} {a1 : Int32} {a2 : Int32} {ph : px_H} {r : Int32} {ph' : px_H} (h : f_M_section F a0 a1 a2 ph = some (r, ph')) : PW l g (d + 1) m_M_section 0 [.ref a0, .int a1, .int a2] [] ph (px_qI r ph') := by
  unfold f_M_section at h
  refine px_ld rfl rfl rfl rfl rfl ?_
  refine px_ld rfl rfl rfl rfl rfl ?_
  obtain ⟨t1, h0, h⟩ := xs_some h
  obtain ⟨fs, e1, e2⟩ := xgI_some h0
  refine px_get rfl e1 e2 rfl ?_
  refine px_ifeq rfl (by decide) rfl (fun hc => ?_) (fun hc => ?_)
  · replace h := (if_pos hc).symm.trans h
    refine px_ic (k := 0) rfl rfl rfl ?_
    exact (r_M_section_13 h :)
  · replace h := (if_neg hc).symm.trans h
    refine px_ic (k := 1) rfl rfl rfl ?_
    refine px_goto rfl (by decide) rfl ?_
    exact (r_M_section_13 h :)
def f_M_place_30 (F : Nat) (a0 : Nat) (a1 : Int32) (s0 : Nat) (s1 : Int32) (s2 : Int32) (ph : px_H) : Option (Int64 × px_H) :=
  (xo ph 12 s0).bind fun _ =>
  xb (f_M_throwing F s0 s1 s2 ph) fun t1 ph2 =>
  if t1 = 0 then
    (xgR ph2 12 57 a0).bind fun t3 =>
    (xaJ ph2 2 t3 a1).bind fun t4 =>
    some (t4, ph2)
  else
    some (lN 0, ph2)
theorem r_M_place_30 {l : Launch} {g : px_G} {d F : Nat} {a0 : Nat} {a1 : Int32} {s0 : Nat} {s1 : Int32} {s2 : Int32} {ph : px_H} {r : Int64} {ph' : px_H} (h : f_M_place_30 F a0 a1 s0 s1 s2 ph = some (r, ph')) : PW l g (d + 1) m_M_place 30 [.ref a0, .int a1] [.int s2, .int s1, .ref s0] ph (px_qJ r ph') := by
  unfold f_M_place_30 at h
  obtain ⟨fs, h0, h⟩ := xs_some h
  have e1 := xo_some h0
  obtain ⟨t1, ph2, h0, h⟩ := xb_some h
  refine px_cV2 rfl rfl e1 rfl rfl rfl rfl rfl rfl rfl (r_M_throwing h0 :) (fun _ _ q => nomatch q.2) (fun r ph' q => ?_)
  obtain ⟨rfl, q⟩ := q
  cases q
  refine px_ifeq rfl rfl rfl (fun hc => ?_) (fun hc => ?_)
  · replace h := (if_pos hc).symm.trans h
    refine px_ld rfl rfl rfl rfl rfl ?_
    obtain ⟨t3, h0, h⟩ := xs_some h
    obtain ⟨fs, e1, e2⟩ := xgR_some h0
    refine px_get rfl e1 e2 rfl ?_
    refine px_ld rfl rfl rfl rfl rfl ?_
    obtain ⟨t4, h0, h⟩ := xs_some h
    obtain ⟨N, f, e1, e2, e3⟩ := xaJ_some h0
    subst e3
    refine px_lald rfl e1 rfl e2 rfl ?_
    cases h
    exact px_lret rfl rfl rfl ⟨rfl, rfl⟩
  · replace h := (if_neg hc).symm.trans h
    refine px_alu rfl rfl rfl ?_
    cases h
    exact px_lret rfl rfl rfl ⟨rfl, rfl⟩
def f_M_place_25 (F : Nat) (a0 : Nat) (a1 : Int32) (s0 : Nat) (s1 : Int32) (ph : px_H) : Option (Int64 × px_H) :=
  f_M_place_30 F a0 a1 s0 s1 (nI 1) ph
theorem r_M_place_25 {l : Launch} {g : px_G} {d F : Nat} {a0 : Nat} {a1 : Int32} {s0 : Nat} {s1 : Int32} {ph : px_H} {r : Int64} {ph' : px_H} (h : f_M_place_25 F a0 a1 s0 s1 ph = some (r, ph')) : PW l g (d + 1) m_M_place 25 [.ref a0, .int a1] [.int s1, .ref s0] ph (px_qJ r ph') := by
  unfold f_M_place_25 at h
  refine px_ic (k := 1) rfl rfl rfl ?_
  refine px_goto rfl rfl rfl ?_
  exact (r_M_place_30 h :)
def f_M_place_13 (F : Nat) (a0 : Nat) (a1 : Int32) (s0 : Nat) (s1 : Int32) (ph : px_H) : Option (Int64 × px_H) :=
  if a1 < 0 then
    f_M_place_25 F a0 a1 s0 s1 ph
  else
    (xgI ph 12 50 a0).bind fun t1 =>
    if a1 < t1 then
      f_M_place_30 F a0 a1 s0 s1 (nI 0) ph
    else
      f_M_place_25 F a0 a1 s0 s1 ph
theorem r_M_place_13 {l : Launch} {g : px_G} {d F : Nat} {a0 : Nat} {a1 : Int32} {s0 : Nat} {s1 : Int32} {ph : px_H} {r : Int64} {ph' : px_H} (h : f_M_place_13 F a0 a1 s0 s1 ph = some (r, ph')) : PW l g (d + 1) m_M_place 13 [.ref a0, .int a1] [.int s1, .ref s0] ph (px_qJ r ph') := by
  unfold f_M_place_13 at h
  refine px_ld rfl rfl rfl rfl rfl ?_
  refine px_iflt rfl rfl rfl (fun hc => ?_) (fun hc => ?_)
  · replace h := (if_pos hc).symm.trans h
    exact (r_M_place_25 h :)
  · replace h := (if_neg hc).symm.trans h
    refine px_ld rfl rfl rfl rfl rfl ?_
    refine px_ld rfl rfl rfl rfl rfl ?_
    obtain ⟨t1, h0, h⟩ := xs_some h
    obtain ⟨fs, e1, e2⟩ := xgI_some h0
    refine px_get rfl e1 e2 rfl ?_
    refine px_iclt rfl rfl rfl (fun hc => ?_) (fun hc => ?_)
    · replace h := (if_pos hc).symm.trans h
      refine px_ic (k := 0) rfl rfl rfl ?_
      exact (r_M_place_30 h :)
    · replace h := (if_neg hc).symm.trans h
      exact (r_M_place_25 h :)
def f_M_place (F : Nat) (a0 : Nat) (a1 : Int32) (ph : px_H) : Option (Int64 × px_H) :=
  (xgI ph 12 13 a0).bind fun t1 =>
  if t1 = 0 then
    f_M_place_13 F a0 a1 a0 (nI 0) ph
  else
    f_M_place_13 F a0 a1 a0 (nI 1) ph
theorem r_M_place {l : Launch} {g : px_G} {d F : Nat} {a0 : Nat} {a1 : Int32} {ph : px_H} {r : Int64} {ph' : px_H} (h : f_M_place F a0 a1 ph = some (r, ph')) : PW l g (d + 1) m_M_place 0 [.ref a0, .int a1] [] ph (px_qJ r ph') := by
  unfold f_M_place at h
  refine px_ld rfl rfl rfl rfl rfl ?_
  refine px_ld rfl rfl rfl rfl rfl ?_
  obtain ⟨t1, h0, h⟩ := xs_some h
  obtain ⟨fs, e1, e2⟩ := xgI_some h0
  refine px_get rfl e1 e2 rfl ?_
  refine px_ifeq rfl rfl rfl (fun hc => ?_) (fun hc => ?_)
  · replace h := (if_pos hc).symm.trans h
    refine px_ic (k := 0) rfl rfl rfl ?_
    exact (r_M_place_13 h :)
  · replace h := (if_neg hc).symm.trans h
    refine px_ic (k := 1) rfl rfl rfl ?_
    refine px_goto rfl rfl rfl ?_
    exact (r_M_place_13 h :)
def f_M_out_79 (F : Nat) (a2 : Int64) (ph : px_H) : Option (Int64 × px_H) :=
  some (a2, ph)
theorem r_M_out_79 {l : Launch} {g : px_G} {d F : Nat} {a2 : Int64} {ph : px_H} {r : Int64} {ph' : px_H} (h : f_M_out_79 F a2 ph = some (r, ph')) : PW l g (d + 1) m_M_out 79 [px_u, px_u, .long a2, px_u, px_u] [] ph (px_qJ r ph') := by
  unfold f_M_out_79 at h
  refine px_ld rfl rfl rfl rfl rfl ?_
  cases h
  exact px_lret rfl rfl rfl ⟨rfl, rfl⟩
def f_M_out_70 (F : Nat) (k33 : Nat → Int32 → Int64 → Int32 → px_H → Option (Int64 × px_H)) (a0 : Nat) (a1 : Int32) (a4 : Int32) (s0 : Int64) (s1 : Int32) (ph : px_H) : Option (Int64 × px_H) :=
  k33 a0 a1 (s0 ||| s1.toInt64) (a4 + Int32.ofInt (-1)) ph
theorem r_M_out_70 {l : Launch} {g : px_G} {d F : Nat} {k33 : Nat → Int32 → Int64 → Int32 → px_H → Option (Int64 × px_H)} (hk33 : ∀ {a0 : Nat} {a1 : Int32} {a2 : Int64} {a4 : Int32} {ph : px_H} {r : Int64} {ph' : px_H}, k33 a0 a1 a2 a4 ph = some (r, ph') → PW l g (d + 1) m_M_out 33 [.ref a0, .int a1, .long a2, px_u, .int a4] [] ph (px_qJ r ph')) {a0 : Nat} {a1 : Int32} {a4 : Int32} {s0 : Int64} {s1 : Int32} {ph : px_H} {r : Int64} {ph' : px_H} (h : f_M_out_70 F k33 a0 a1 a4 s0 s1 ph = some (r, ph')) : PW l g (d + 1) m_M_out 70 [.ref a0, .int a1, px_u, px_u, .int a4] [.int s1, .long s0] ph (px_qJ r ph') := by
  unfold f_M_out_70 at h
  refine px_alu rfl rfl rfl ?_
  refine px_alu rfl rfl rfl ?_
  refine px_st (lv' := [_, _, _, _, _]) rfl rfl rfl rfl rfl rfl rfl ?_
  refine px_iinc (lv' := [_, _, _, _, _]) rfl rfl rfl rfl rfl rfl ?_
  refine px_goto rfl rfl rfl ?_
  exact (hk33 h :)
def f_M_out_33 (F : Nat) : Nat → Nat → Int32 → Int64 → Int32 → px_H → Option (Int64 × px_H)
  | 0, _, _, _, _, _ => none
  | n + 1, a0, a1, a2, a4, ph =>
    if a4 < 0 then
      f_M_out_79 F a2 ph
    else
      (xgI ph 12 4 a0).bind fun t1 =>
      if t1 ≤ (a1 + a4) then
        f_M_out_70 F (f_M_out_33 F n) a0 a1 a4 (a2 <<< ((nI 8).toInt64 &&& 63)) (nI 0) ph
      else
        (xgR ph 12 3 a0).bind fun t2 =>
        (xaI ph 0 t2 (a1 + a4)).bind fun t3 =>
        f_M_out_70 F (f_M_out_33 F n) a0 a1 a4 (a2 <<< ((nI 8).toInt64 &&& 63)) (t3 &&& (nI 255)) ph
theorem r_M_out_33 {l : Launch} {g : px_G} {d F : Nat} : ∀ (n : Nat) {a0 : Nat} {a1 : Int32} {a2 : Int64} {a4 : Int32} {ph : px_H} {r : Int64} {ph' : px_H}, f_M_out_33 F n a0 a1 a2 a4 ph = some (r, ph') → PW l g (d + 1) m_M_out 33 [.ref a0, .int a1, .long a2, px_u, .int a4] [] ph (px_qJ r ph') := by
  intro n
  induction n with
  | zero => intro _ _ _ _ _ _ _ h; cases h
  | succ n ih =>
    intro a0 a1 a2 a4 ph r ph' h
    unfold f_M_out_33 at h
    refine px_ld rfl rfl rfl rfl rfl ?_
    refine px_iflt rfl rfl rfl (fun hc => ?_) (fun hc => ?_)
    · replace h := (if_pos hc).symm.trans h
      refine px_forget (n := 0) (lv' := [_, _, _, _, _]) rfl ?_
      refine px_forget (n := 1) (lv' := [_, _, _, _, _]) rfl ?_
      refine px_forget (n := 4) (lv' := [_, _, _, _, _]) rfl ?_
      exact (r_M_out_79 h :)
    · replace h := (if_neg hc).symm.trans h
      refine px_ld rfl rfl rfl rfl rfl ?_
      refine px_ic (k := 8) rfl rfl rfl ?_
      refine px_alu rfl rfl rfl ?_
      refine px_ld rfl rfl rfl rfl rfl ?_
      refine px_ld rfl rfl rfl rfl rfl ?_
      refine px_alu rfl rfl rfl ?_
      refine px_ld rfl rfl rfl rfl rfl ?_
      obtain ⟨t1, h0, h⟩ := xs_some h
      obtain ⟨fs, e1, e2⟩ := xgI_some h0
      refine px_get rfl e1 e2 rfl ?_
      refine px_icge rfl rfl rfl (fun hc => ?_) (fun hc => ?_)
      · replace h := (if_pos hc).symm.trans h
        refine px_ic (k := 0) rfl rfl rfl ?_
        refine px_forget (n := 2) (lv' := [_, _, _, _, _]) rfl ?_
        exact (r_M_out_70 @ih h :)
      · replace h := (if_neg hc).symm.trans h
        refine px_ld rfl rfl rfl rfl rfl ?_
        obtain ⟨t2, h0, h⟩ := xs_some h
        obtain ⟨fs, e1, e2⟩ := xgR_some h0
        refine px_get rfl e1 e2 rfl ?_
        refine px_ld rfl rfl rfl rfl rfl ?_
        refine px_ld rfl rfl rfl rfl rfl ?_
        refine px_alu rfl rfl rfl ?_
        obtain ⟨t3, h0, h⟩ := xs_some h
        obtain ⟨N, f, e1, e2, e3⟩ := xaI_some h0
        subst e3
        refine px_bald rfl e1 rfl e2 rfl ?_
        refine px_ic (k := 255) rfl rfl rfl ?_
        refine px_alu rfl rfl rfl ?_
        refine px_goto rfl rfl rfl ?_
        refine px_forget (n := 2) (lv' := [_, _, _, _, _]) rfl ?_
        exact (r_M_out_70 @ih h :)
def f_M_out_18 (F : Nat) (a0 : Nat) (a1 : Int32) (s0 : Nat) (s1 : Int32) (ph : px_H) : Option (Int64 × px_H) :=
  (xo ph 12 s0).bind fun _ =>
  xb (f_M_throwing F s0 s1 (nI 0) ph) fun t1 ph2 =>
  if t1 = 0 then
    f_M_out_33 F F a0 a1 (lN 0) (nI 7) ph2
  else
    some (lN 0, ph2)
theorem r_M_out_18 {l : Launch} {g : px_G} {d F : Nat} {a0 : Nat} {a1 : Int32} {s0 : Nat} {s1 : Int32} {ph : px_H} {r : Int64} {ph' : px_H} (h : f_M_out_18 F a0 a1 s0 s1 ph = some (r, ph')) : PW l g (d + 1) m_M_out 18 [.ref a0, .int a1, px_u, px_u, px_u] [.int s1, .ref s0] ph (px_qJ r ph') := by
  unfold f_M_out_18 at h
  refine px_ic (k := 0) rfl rfl rfl ?_
  obtain ⟨fs, h0, h⟩ := xs_some h
  have e1 := xo_some h0
  obtain ⟨t1, ph2, h0, h⟩ := xb_some h
  refine px_cV2 rfl rfl e1 rfl rfl rfl rfl rfl rfl rfl (r_M_throwing h0 :) (fun _ _ q => nomatch q.2) (fun r ph' q => ?_)
  obtain ⟨rfl, q⟩ := q
  cases q
  refine px_ifeq rfl rfl rfl (fun hc => ?_) (fun hc => ?_)
  · replace h := (if_pos hc).symm.trans h
    refine px_alu rfl rfl rfl ?_
    refine px_st (lv' := [_, _, _, _, _]) rfl rfl rfl rfl rfl rfl rfl ?_
    refine px_ic (k := 7) rfl rfl rfl ?_
    refine px_st (lv' := [_, _, _, _, _]) rfl rfl rfl rfl rfl rfl rfl ?_
    exact (r_M_out_33 _ h :)
  · replace h := (if_neg hc).symm.trans h
    refine px_alu rfl rfl rfl ?_
    cases h
    exact px_lret rfl rfl rfl ⟨rfl, rfl⟩
def f_M_out_13 (F : Nat) (a0 : Nat) (a1 : Int32) (s0 : Nat) (ph : px_H) : Option (Int64 × px_H) :=
  f_M_out_18 F a0 a1 s0 (nI 1) ph
theorem r_M_out_13 {l : Launch} {g : px_G} {d F : Nat} {a0 : Nat} {a1 : Int32} {s0 : Nat} {ph : px_H} {r : Int64} {ph' : px_H} (h : f_M_out_13 F a0 a1 s0 ph = some (r, ph')) : PW l g (d + 1) m_M_out 13 [.ref a0, .int a1, px_u, px_u, px_u] [.ref s0] ph (px_qJ r ph') := by
  unfold f_M_out_13 at h
  refine px_ic (k := 1) rfl rfl rfl ?_
  refine px_goto rfl rfl rfl ?_
  exact (r_M_out_18 h :)
def f_M_out (F : Nat) (a0 : Nat) (a1 : Int32) (ph : px_H) : Option (Int64 × px_H) :=
  if a1 < 0 then
    f_M_out_13 F a0 a1 a0 ph
  else
    (xgI ph 12 4 a0).bind fun t1 =>
    if a1 < t1 then
      f_M_out_18 F a0 a1 a0 (nI 0) ph
    else
      f_M_out_13 F a0 a1 a0 ph
theorem r_M_out {l : Launch} {g : px_G} {d F : Nat} {a0 : Nat} {a1 : Int32} {ph : px_H} {r : Int64} {ph' : px_H} (h : f_M_out F a0 a1 ph = some (r, ph')) : PW l g (d + 1) m_M_out 0 [.ref a0, .int a1, px_u, px_u, px_u] [] ph (px_qJ r ph') := by
  unfold f_M_out at h
  refine px_ld rfl rfl rfl rfl rfl ?_
  refine px_ld rfl rfl rfl rfl rfl ?_
  refine px_iflt rfl rfl rfl (fun hc => ?_) (fun hc => ?_)
  · replace h := (if_pos hc).symm.trans h
    exact (r_M_out_13 h :)
  · replace h := (if_neg hc).symm.trans h
    refine px_ld rfl rfl rfl rfl rfl ?_
    refine px_ld rfl rfl rfl rfl rfl ?_
    obtain ⟨t1, h0, h⟩ := xs_some h
    obtain ⟨fs, e1, e2⟩ := xgI_some h0
    refine px_get rfl e1 e2 rfl ?_
    refine px_iclt rfl rfl rfl (fun hc => ?_) (fun hc => ?_)
    · replace h := (if_pos hc).symm.trans h
      refine px_ic (k := 0) rfl rfl rfl ?_
      exact (r_M_out_18 h :)
    · replace h := (if_neg hc).symm.trans h
      exact (r_M_out_13 h :)
def f_M_look_224 (F : Nat) (s0 : Int64) (ph : px_H) : Option (Int64 × px_H) :=
  some (s0, ph)
theorem r_M_look_224 {l : Launch} {g : px_G} {d F : Nat} {s0 : Int64} {ph : px_H} {r : Int64} {ph' : px_H} (h : f_M_look_224 F s0 ph = some (r, ph')) : PW l g (d + 1) m_M_look 224 [px_u, px_u] [.long s0] ph (px_qJ r ph') := by
  unfold f_M_look_224 at h
  cases h
  exact px_lret rfl rfl rfl ⟨rfl, rfl⟩
def f_M_look_173 (F : Nat) (s0 : Int64) (ph : px_H) : Option (Int64 × px_H) :=
  some (s0, ph)
theorem r_M_look_173 {l : Launch} {g : px_G} {d F : Nat} {s0 : Int64} {ph : px_H} {r : Int64} {ph' : px_H} (h : f_M_look_173 F s0 ph = some (r, ph')) : PW l g (d + 1) m_M_look 173 [px_u, px_u] [.long s0] ph (px_qJ r ph') := by
  unfold f_M_look_173 at h
  cases h
  exact px_lret rfl rfl rfl ⟨rfl, rfl⟩
def f_M_look_16 (F : Nat) (a0 : Nat) (a1 : Int32) (s0 : Nat) (s1 : Int32) (ph : px_H) : Option (Int64 × px_H) :=
  (xo ph 12 s0).bind fun _ =>
  xb (f_M_throwing F s0 s1 (nI 0) ph) fun t1 ph2 =>
  if t1 = 0 then
    if a1 = nI 0 then
      (xgI ph2 12 5 a0).bind fun t3 =>
      some (t3.toInt64, ph2)
    else if a1 = nI 1 then
      (xgI ph2 12 2 a0).bind fun t4 =>
      some (t4.toInt64, ph2)
    else if a1 = nI 2 then
      (xgI ph2 12 4 a0).bind fun t5 =>
      some (t5.toInt64, ph2)
    else if a1 = nI 3 then
      (xgI ph2 12 13 a0).bind fun t6 =>
      some (t6.toInt64, ph2)
    else if a1 = nI 4 then
      (xgJ ph2 12 16 a0).bind fun t7 =>
      some (t7, ph2)
    else if a1 = nI 5 then
      (xgI ph2 12 14 a0).bind fun t8 =>
      some (t8.toInt64, ph2)
    else if a1 = nI 6 then
      (xgI ph2 12 50 a0).bind fun t9 =>
      some (t9.toInt64, ph2)
    else if a1 = nI 7 then
      (xgI ph2 12 13 a0).bind fun t10 =>
      if t10 = 0 then
        (xgI ph2 12 15 a0).bind fun t11 =>
        f_M_look_173 F t11.toInt64 ph2
      else
        f_M_look_173 F (lN 0) ph2
    else if a1 = nI 8 then
      (xgI ph2 12 20 a0).bind fun t12 =>
      some (t12.toInt64, ph2)
    else if a1 = nI 9 then
      (xgI ph2 12 102 a0).bind fun t13 =>
      some (t13.toInt64, ph2)
    else if a1 = nI 10 then
      (xgJ ph2 12 104 a0).bind fun t14 =>
      some (t14, ph2)
    else if a1 = nI 11 then
      (xgI ph2 12 103 a0).bind fun t15 =>
      some (t15.toInt64, ph2)
    else if a1 = nI 12 then
      (xgI ph2 12 74 a0).bind fun t16 =>
      some (t16.toInt64, ph2)
    else if a1 = nI 13 then
      (xgI ph2 12 69 a0).bind fun t17 =>
      some (t17.toInt64, ph2)
    else if a1 = nI 14 then
      (xgI ph2 12 88 a0).bind fun t18 =>
      some (t18.toInt64, ph2)
    else if a1 = nI 15 then
      (xgI ph2 12 13 a0).bind fun t19 =>
      if t19 = 0 then
        (xgJ ph2 12 87 a0).bind fun t20 =>
        f_M_look_224 F t20 ph2
      else
        f_M_look_224 F (lN 0) ph2
    else if a1 = nI 16 then
      (xgI ph2 12 31 a0).bind fun t21 =>
      some (t21.toInt64, ph2)
    else if a1 = nI 17 then
      (xgI ph2 12 32 a0).bind fun t22 =>
      some (t22.toInt64, ph2)
    else if a1 = nI 18 then
      (xgI ph2 12 44 a0).bind fun t23 =>
      some (t23.toInt64, ph2)
    else 
      (xgI ph2 12 20 a0).bind fun t24 =>
      some (t24.toInt64, ph2)
  else
    some (lN 0, ph2)
theorem r_M_look_16 {l : Launch} {g : px_G} {d F : Nat} {a0 : Nat} {a1 : Int32} {s0 : Nat} {s1 : Int32} {ph : px_H} {r : Int64} {ph' : px_H} (h : f_M_look_16 F a0 a1 s0 s1 ph = some (r, ph')) : PW l g (d + 1) m_M_look 16 [.ref a0, .int a1] [.int s1, .ref s0] ph (px_qJ r ph') := by
  unfold f_M_look_16 at h
  refine px_ic (k := 0) rfl rfl rfl ?_
  obtain ⟨fs, h0, h⟩ := xs_some h
  have e1 := xo_some h0
  obtain ⟨t1, ph2, h0, h⟩ := xb_some h
  refine px_cV2 rfl rfl e1 rfl rfl rfl rfl rfl rfl rfl (r_M_throwing h0 :) (fun _ _ q => nomatch q.2) (fun r ph' q => ?_)
  obtain ⟨rfl, q⟩ := q
  cases q
  refine px_ifeq rfl (by decide) rfl (fun hc => ?_) (fun hc => ?_)
  · replace h := (if_pos hc).symm.trans h
    refine px_ld rfl rfl rfl rfl rfl ?_
    by_cases hs0 : a1 = nI 0
    · replace h := (if_pos hs0).symm.trans h
      refine px_tsK (len := 90) (off := 90) (tgt := 116) 0 rfl hs0 (by decide) (by decide) (by decide) rfl (by decide) ?_
      refine px_ld rfl rfl rfl rfl rfl ?_
      obtain ⟨t3, h0, h⟩ := xs_some h
      obtain ⟨fs, e1, e2⟩ := xgI_some h0
      refine px_get rfl e1 e2 rfl ?_
      refine px_alu rfl rfl rfl ?_
      cases h
      exact px_lret rfl rfl rfl ⟨rfl, rfl⟩
    replace h := (if_neg hs0).symm.trans h
    by_cases hs1 : a1 = nI 1
    · replace h := (if_pos hs1).symm.trans h
      refine px_tsK (len := 90) (off := 96) (tgt := 122) 1 rfl hs1 (by decide) (by decide) (by decide) rfl (by decide) ?_
      refine px_ld rfl rfl rfl rfl rfl ?_
      obtain ⟨t4, h0, h⟩ := xs_some h
      obtain ⟨fs, e1, e2⟩ := xgI_some h0
      refine px_get rfl e1 e2 rfl ?_
      refine px_alu rfl rfl rfl ?_
      cases h
      exact px_lret rfl rfl rfl ⟨rfl, rfl⟩
    replace h := (if_neg hs1).symm.trans h
    by_cases hs2 : a1 = nI 2
    · replace h := (if_pos hs2).symm.trans h
      refine px_tsK (len := 90) (off := 102) (tgt := 128) 2 rfl hs2 (by decide) (by decide) (by decide) rfl (by decide) ?_
      refine px_ld rfl rfl rfl rfl rfl ?_
      obtain ⟨t5, h0, h⟩ := xs_some h
      obtain ⟨fs, e1, e2⟩ := xgI_some h0
      refine px_get rfl e1 e2 rfl ?_
      refine px_alu rfl rfl rfl ?_
      cases h
      exact px_lret rfl rfl rfl ⟨rfl, rfl⟩
    replace h := (if_neg hs2).symm.trans h
    by_cases hs3 : a1 = nI 3
    · replace h := (if_pos hs3).symm.trans h
      refine px_tsK (len := 90) (off := 108) (tgt := 134) 3 rfl hs3 (by decide) (by decide) (by decide) rfl (by decide) ?_
      refine px_ld rfl rfl rfl rfl rfl ?_
      obtain ⟨t6, h0, h⟩ := xs_some h
      obtain ⟨fs, e1, e2⟩ := xgI_some h0
      refine px_get rfl e1 e2 rfl ?_
      refine px_alu rfl rfl rfl ?_
      cases h
      exact px_lret rfl rfl rfl ⟨rfl, rfl⟩
    replace h := (if_neg hs3).symm.trans h
    by_cases hs4 : a1 = nI 4
    · replace h := (if_pos hs4).symm.trans h
      refine px_tsK (len := 90) (off := 114) (tgt := 140) 4 rfl hs4 (by decide) (by decide) (by decide) rfl (by decide) ?_
      refine px_ld rfl rfl rfl rfl rfl ?_
      obtain ⟨t7, h0, h⟩ := xs_some h
      obtain ⟨fs, e1, e2⟩ := xgJ_some h0
      refine px_get rfl e1 e2 rfl ?_
      cases h
      exact px_lret rfl rfl rfl ⟨rfl, rfl⟩
    replace h := (if_neg hs4).symm.trans h
    by_cases hs5 : a1 = nI 5
    · replace h := (if_pos hs5).symm.trans h
      refine px_tsK (len := 90) (off := 119) (tgt := 145) 5 rfl hs5 (by decide) (by decide) (by decide) rfl (by decide) ?_
      refine px_ld rfl rfl rfl rfl rfl ?_
      obtain ⟨t8, h0, h⟩ := xs_some h
      obtain ⟨fs, e1, e2⟩ := xgI_some h0
      refine px_get rfl e1 e2 rfl ?_
      refine px_alu rfl rfl rfl ?_
      cases h
      exact px_lret rfl rfl rfl ⟨rfl, rfl⟩
    replace h := (if_neg hs5).symm.trans h
    by_cases hs6 : a1 = nI 6
    · replace h := (if_pos hs6).symm.trans h
      refine px_tsK (len := 90) (off := 125) (tgt := 151) 6 rfl hs6 (by decide) (by decide) (by decide) rfl (by decide) ?_
      refine px_ld rfl rfl rfl rfl rfl ?_
      obtain ⟨t9, h0, h⟩ := xs_some h
      obtain ⟨fs, e1, e2⟩ := xgI_some h0
      refine px_get rfl e1 e2 rfl ?_
      refine px_alu rfl rfl rfl ?_
      cases h
      exact px_lret rfl rfl rfl ⟨rfl, rfl⟩
    replace h := (if_neg hs6).symm.trans h
    by_cases hs7 : a1 = nI 7
    · replace h := (if_pos hs7).symm.trans h
      refine px_tsK (len := 90) (off := 131) (tgt := 157) 7 rfl hs7 (by decide) (by decide) (by decide) rfl (by decide) ?_
      refine px_ld rfl rfl rfl rfl rfl ?_
      obtain ⟨t10, h0, h⟩ := xs_some h
      obtain ⟨fs, e1, e2⟩ := xgI_some h0
      refine px_get rfl e1 e2 rfl ?_
      refine px_ifne rfl (by decide) rfl (fun hc => ?_) (fun hc => ?_)
      · replace h := (if_neg hc).symm.trans h
        refine px_alu rfl rfl rfl ?_
        refine px_forget (n := 0) (lv' := [_, _]) rfl ?_
        refine px_forget (n := 1) (lv' := [_, _]) rfl ?_
        exact (r_M_look_173 h :)
      · replace h := (if_pos hc).symm.trans h
        refine px_ld rfl rfl rfl rfl rfl ?_
        obtain ⟨t11, h0, h⟩ := xs_some h
        obtain ⟨fs, e1, e2⟩ := xgI_some h0
        refine px_get rfl e1 e2 rfl ?_
        refine px_alu rfl rfl rfl ?_
        refine px_goto rfl (by decide) rfl ?_
        refine px_forget (n := 0) (lv' := [_, _]) rfl ?_
        refine px_forget (n := 1) (lv' := [_, _]) rfl ?_
        exact (r_M_look_173 h :)
    replace h := (if_neg hs7).symm.trans h
    by_cases hs8 : a1 = nI 8
    · replace h := (if_pos hs8).symm.trans h
      refine px_tsK (len := 90) (off := 217) (tgt := 243) 8 rfl hs8 (by decide) (by decide) (by decide) rfl (by decide) ?_
      refine px_ld rfl rfl rfl rfl rfl ?_
      obtain ⟨t12, h0, h⟩ := xs_some h
      obtain ⟨fs, e1, e2⟩ := xgI_some h0
      refine px_get rfl e1 e2 rfl ?_
      refine px_alu rfl rfl rfl ?_
      cases h
      exact px_lret rfl rfl rfl ⟨rfl, rfl⟩
    replace h := (if_neg hs8).symm.trans h
    by_cases hs9 : a1 = nI 9
    · replace h := (if_pos hs9).symm.trans h
      refine px_tsK (len := 90) (off := 148) (tgt := 174) 9 rfl hs9 (by decide) (by decide) (by decide) rfl (by decide) ?_
      refine px_ld rfl rfl rfl rfl rfl ?_
      obtain ⟨t13, h0, h⟩ := xs_some h
      obtain ⟨fs, e1, e2⟩ := xgI_some h0
      refine px_get rfl e1 e2 rfl ?_
      refine px_alu rfl rfl rfl ?_
      cases h
      exact px_lret rfl rfl rfl ⟨rfl, rfl⟩
    replace h := (if_neg hs9).symm.trans h
    by_cases hs10 : a1 = nI 10
    · replace h := (if_pos hs10).symm.trans h
      refine px_tsK (len := 90) (off := 154) (tgt := 180) 10 rfl hs10 (by decide) (by decide) (by decide) rfl (by decide) ?_
      refine px_ld rfl rfl rfl rfl rfl ?_
      obtain ⟨t14, h0, h⟩ := xs_some h
      obtain ⟨fs, e1, e2⟩ := xgJ_some h0
      refine px_get rfl e1 e2 rfl ?_
      cases h
      exact px_lret rfl rfl rfl ⟨rfl, rfl⟩
    replace h := (if_neg hs10).symm.trans h
    by_cases hs11 : a1 = nI 11
    · replace h := (if_pos hs11).symm.trans h
      refine px_tsK (len := 90) (off := 159) (tgt := 185) 11 rfl hs11 (by decide) (by decide) (by decide) rfl (by decide) ?_
      refine px_ld rfl rfl rfl rfl rfl ?_
      obtain ⟨t15, h0, h⟩ := xs_some h
      obtain ⟨fs, e1, e2⟩ := xgI_some h0
      refine px_get rfl e1 e2 rfl ?_
      refine px_alu rfl rfl rfl ?_
      cases h
      exact px_lret rfl rfl rfl ⟨rfl, rfl⟩
    replace h := (if_neg hs11).symm.trans h
    by_cases hs12 : a1 = nI 12
    · replace h := (if_pos hs12).symm.trans h
      refine px_tsK (len := 90) (off := 165) (tgt := 191) 12 rfl hs12 (by decide) (by decide) (by decide) rfl (by decide) ?_
      refine px_ld rfl rfl rfl rfl rfl ?_
      obtain ⟨t16, h0, h⟩ := xs_some h
      obtain ⟨fs, e1, e2⟩ := xgI_some h0
      refine px_get rfl e1 e2 rfl ?_
      refine px_alu rfl rfl rfl ?_
      cases h
      exact px_lret rfl rfl rfl ⟨rfl, rfl⟩
    replace h := (if_neg hs12).symm.trans h
    by_cases hs13 : a1 = nI 13
    · replace h := (if_pos hs13).symm.trans h
      refine px_tsK (len := 90) (off := 171) (tgt := 197) 13 rfl hs13 (by decide) (by decide) (by decide) rfl (by decide) ?_
      refine px_ld rfl rfl rfl rfl rfl ?_
      obtain ⟨t17, h0, h⟩ := xs_some h
      obtain ⟨fs, e1, e2⟩ := xgI_some h0
      refine px_get rfl e1 e2 rfl ?_
      refine px_alu rfl rfl rfl ?_
      cases h
      exact px_lret rfl rfl rfl ⟨rfl, rfl⟩
    replace h := (if_neg hs13).symm.trans h
    by_cases hs14 : a1 = nI 14
    · replace h := (if_pos hs14).symm.trans h
      refine px_tsK (len := 90) (off := 177) (tgt := 203) 14 rfl hs14 (by decide) (by decide) (by decide) rfl (by decide) ?_
      refine px_ld rfl rfl rfl rfl rfl ?_
      obtain ⟨t18, h0, h⟩ := xs_some h
      obtain ⟨fs, e1, e2⟩ := xgI_some h0
      refine px_get rfl e1 e2 rfl ?_
      refine px_alu rfl rfl rfl ?_
      cases h
      exact px_lret rfl rfl rfl ⟨rfl, rfl⟩
    replace h := (if_neg hs14).symm.trans h
    by_cases hs15 : a1 = nI 15
    · replace h := (if_pos hs15).symm.trans h
      refine px_tsK (len := 90) (off := 183) (tgt := 209) 15 rfl hs15 (by decide) (by decide) (by decide) rfl (by decide) ?_
      refine px_ld rfl rfl rfl rfl rfl ?_
      obtain ⟨t19, h0, h⟩ := xs_some h
      obtain ⟨fs, e1, e2⟩ := xgI_some h0
      refine px_get rfl e1 e2 rfl ?_
      refine px_ifne rfl (by decide) rfl (fun hc => ?_) (fun hc => ?_)
      · replace h := (if_neg hc).symm.trans h
        refine px_alu rfl rfl rfl ?_
        refine px_forget (n := 0) (lv' := [_, _]) rfl ?_
        refine px_forget (n := 1) (lv' := [_, _]) rfl ?_
        exact (r_M_look_224 h :)
      · replace h := (if_pos hc).symm.trans h
        refine px_ld rfl rfl rfl rfl rfl ?_
        obtain ⟨t20, h0, h⟩ := xs_some h
        obtain ⟨fs, e1, e2⟩ := xgJ_some h0
        refine px_get rfl e1 e2 rfl ?_
        refine px_goto rfl (by decide) rfl ?_
        refine px_forget (n := 0) (lv' := [_, _]) rfl ?_
        refine px_forget (n := 1) (lv' := [_, _]) rfl ?_
        exact (r_M_look_224 h :)
    replace h := (if_neg hs15).symm.trans h
    by_cases hs16 : a1 = nI 16
    · replace h := (if_pos hs16).symm.trans h
      refine px_tsK (len := 90) (off := 199) (tgt := 225) 16 rfl hs16 (by decide) (by decide) (by decide) rfl (by decide) ?_
      refine px_ld rfl rfl rfl rfl rfl ?_
      obtain ⟨t21, h0, h⟩ := xs_some h
      obtain ⟨fs, e1, e2⟩ := xgI_some h0
      refine px_get rfl e1 e2 rfl ?_
      refine px_alu rfl rfl rfl ?_
      cases h
      exact px_lret rfl rfl rfl ⟨rfl, rfl⟩
    replace h := (if_neg hs16).symm.trans h
    by_cases hs17 : a1 = nI 17
    · replace h := (if_pos hs17).symm.trans h
      refine px_tsK (len := 90) (off := 205) (tgt := 231) 17 rfl hs17 (by decide) (by decide) (by decide) rfl (by decide) ?_
      refine px_ld rfl rfl rfl rfl rfl ?_
      obtain ⟨t22, h0, h⟩ := xs_some h
      obtain ⟨fs, e1, e2⟩ := xgI_some h0
      refine px_get rfl e1 e2 rfl ?_
      refine px_alu rfl rfl rfl ?_
      cases h
      exact px_lret rfl rfl rfl ⟨rfl, rfl⟩
    replace h := (if_neg hs17).symm.trans h
    by_cases hs18 : a1 = nI 18
    · replace h := (if_pos hs18).symm.trans h
      refine px_tsK (len := 90) (off := 211) (tgt := 237) 18 rfl hs18 (by decide) (by decide) (by decide) rfl (by decide) ?_
      refine px_ld rfl rfl rfl rfl rfl ?_
      obtain ⟨t23, h0, h⟩ := xs_some h
      obtain ⟨fs, e1, e2⟩ := xgI_some h0
      refine px_get rfl e1 e2 rfl ?_
      refine px_alu rfl rfl rfl ?_
      cases h
      exact px_lret rfl rfl rfl ⟨rfl, rfl⟩
    replace h := (if_neg hs18).symm.trans h
    refine px_tsD (len := 90) (lo := 0) (n := 19) (tgt := 243) rfl (lt_s (lt_s (lt_s (lt_s (lt_s (lt_s (lt_s (lt_s (lt_s (lt_s (lt_s (lt_s (lt_s (lt_s (lt_s (lt_s (lt_s (lt_s (lt_s lt_0 hs0) hs1) hs2) hs3) hs4) hs5) hs6) hs7) hs8) hs9) hs10) hs11) hs12) hs13) hs14) hs15) hs16) hs17) hs18) (by decide) (by decide) ?_
    refine px_ld rfl rfl rfl rfl rfl ?_
    obtain ⟨t24, h0, h⟩ := xs_some h
    obtain ⟨fs, e1, e2⟩ := xgI_some h0
    refine px_get rfl e1 e2 rfl ?_
    refine px_alu rfl rfl rfl ?_
    cases h
    exact px_lret rfl rfl rfl ⟨rfl, rfl⟩
  · replace h := (if_neg hc).symm.trans h
    refine px_alu rfl rfl rfl ?_
    cases h
    exact px_lret rfl rfl rfl ⟨rfl, rfl⟩
def f_M_look_11 (F : Nat) (a0 : Nat) (a1 : Int32) (s0 : Nat) (ph : px_H) : Option (Int64 × px_H) :=
  f_M_look_16 F a0 a1 s0 (nI 1) ph
theorem r_M_look_11 {l : Launch} {g : px_G} {d F : Nat} {a0 : Nat} {a1 : Int32} {s0 : Nat} {ph : px_H} {r : Int64} {ph' : px_H} (h : f_M_look_11 F a0 a1 s0 ph = some (r, ph')) : PW l g (d + 1) m_M_look 11 [.ref a0, .int a1] [.ref s0] ph (px_qJ r ph') := by
  unfold f_M_look_11 at h
  refine px_ic (k := 1) rfl rfl rfl ?_
  refine px_goto rfl (by decide) rfl ?_
  exact (r_M_look_16 h :)
def f_M_look (F : Nat) (a0 : Nat) (a1 : Int32) (ph : px_H) : Option (Int64 × px_H) :=
  if a1 < 0 then
    f_M_look_11 F a0 a1 a0 ph
  else
    if a1 ≤ (nI 18) then
      f_M_look_16 F a0 a1 a0 (nI 0) ph
    else
      f_M_look_11 F a0 a1 a0 ph
theorem r_M_look {l : Launch} {g : px_G} {d F : Nat} {a0 : Nat} {a1 : Int32} {ph : px_H} {r : Int64} {ph' : px_H} (h : f_M_look F a0 a1 ph = some (r, ph')) : PW l g (d + 1) m_M_look 0 [.ref a0, .int a1] [] ph (px_qJ r ph') := by
  unfold f_M_look at h
  refine px_ld rfl rfl rfl rfl rfl ?_
  refine px_ld rfl rfl rfl rfl rfl ?_
  refine px_iflt rfl (by decide) rfl (fun hc => ?_) (fun hc => ?_)
  · replace h := (if_pos hc).symm.trans h
    exact (r_M_look_11 h :)
  · replace h := (if_neg hc).symm.trans h
    refine px_ld rfl rfl rfl rfl rfl ?_
    refine px_ic (k := 18) rfl rfl rfl ?_
    refine px_icle rfl (by decide) rfl (fun hc => ?_) (fun hc => ?_)
    · replace h := (if_pos hc).symm.trans h
      refine px_ic (k := 0) rfl rfl rfl ?_
      exact (r_M_look_16 h :)
    · replace h := (if_neg hc).symm.trans h
      exact (r_M_look_11 h :)
